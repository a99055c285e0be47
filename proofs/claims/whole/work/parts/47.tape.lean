/-! THE TAPE read by both -/
def fc (k pos : Nat) : Int32 := ((-1000) * nI k) - nI pos
theorem fc_ne {k pos : Nat} (hk1 : 1 ≤ k) (hk : k < 10) (hp : pos < 2 ^ 30) : fc k pos ≠ nI 0 := by
  intro z
  have h1 : ((-1000) * nI k).toInt < 0 := (by decide : ∀ k : Fin 10, 1 ≤ k.1 → ((-1000) * nI k.1).toInt < 0) ⟨k, hk⟩ hk1
  have h2 : (-1000) * nI k = nI pos := by
    have e : ((-1000) * nI k) - nI pos + nI pos = nI pos := by
      have z2 : ((-1000) * nI k) - nI pos = nI 0 := z
      rw [z2, nI_add, Nat.zero_add]
    rwa [Int32.sub_add_cancel] at e
  rw [h2, nI_toInt (by omega)] at h1
  omega
def pkV (B : Nat → Int32) (len pos : Nat) : Int32 := if len ≤ pos then (-1) else B pos
/-- the class reading: no fault yet -/
def XT (B : Nat → Int32) (w : gT) (len pos : Nat) : Prop := w.1 20 = B ∧ w.1 19 2 = nI len ∧ w.1 19 3 = nI pos ∧ w.1 19 4 = nI 0 ∧ pos ≤ len ∧ len ≤ 220
def MT (B : Nat → Int32) (v : gT) (len pos : Nat) : Prop := (∀ i, v.1 9 i &&& nI 255 = B i) ∧ v.1 0 16 = nI len ∧ v.1 0 15 = nI pos
theorem x_peek {B : Nat → Int32} {w : gT} {len pos : Nat} (h : XT B w len pos) : xX6_peek w = some (pkV B len pos, w) := by
  obtain ⟨h1, h2, h3, h4, h5, h6⟩ := h
  unfold xX6_peek pkV
  rw [h4, h3, h2, h1, if_pos rfl, if_neg (nlt (by omega) (by omega) (by omega))]
  by_cases q : len ≤ pos
  · rw [if_pos (yle (by omega) (by omega) q), if_pos q]
  · rw [if_neg (nle (by omega) (by omega) q), if_neg q, if_neg (nle (by omega) (by omega) (by omega)), gG_in (by omega) (by omega), nI_clamp (by omega)]
theorem m_here {B : Nat → Int32} {v : gT} {len pos : Nat} (h : MT B v len pos) (h5 : pos ≤ len) (h6 : len ≤ 220) : xX10_here v = some (pkV B len pos, v) := by
  obtain ⟨h1, h2, h3⟩ := h
  unfold xX10_here pkV
  rw [h3, h2]
  by_cases q : len ≤ pos
  · rw [if_pos (yle (by omega) (by omega) q), if_pos q]
  · rw [if_neg (nle (by omega) (by omega) q), if_neg q, gG_in (by omega) (by omega), nI_clamp (by omega), h1]
/-- the class after a fault -/
def XD (w : gT) : Prop := w.1 19 4 ≠ nI 0
theorem d_peek {w : gT} (h : XD w) : xX6_peek w = some (-1, w) := by
  unfold xX6_peek
  rw [if_neg h]
theorem d_failAt {w : gT} (h : XD w) (a b : Int32) : xX6_failAt a b w = some w := by
  unfold xX6_failAt
  rw [if_neg h]
theorem d_fail {w : gT} (h : XD w) (a : Int32) : xX6_fail a w = some w := by
  unfold xX6_fail
  rw [d_failAt h, gBv_s]
theorem d_takeSign {w : gT} (h : XD w) {c : Nat} (hc : c < 2 ^ 30) : xX6_takeSign (nI c) w = some w := by
  unfold xX6_takeSign
  rw [d_peek h, gBi_s, if_neg (fun z => nI_m1 (by omega) z.symm), d_fail h, gBv_s]
theorem d_takeDigit {w : gT} (h : XD w) (a : Int32) : xX6_takeDigit a w = some (nI 0, w) := by
  unfold xX6_takeDigit
  rw [gLet_s, d_peek h, gBi_s, gLet_s, if_pos (by decide)]
  dsimp only
  rw [d_fail h, gBv_s]
theorem d_isAtDigit {w : gT} (h : XD w) : xX6_isAtDigit w = some (nI 0, w) := by
  unfold xX6_isAtDigit
  rw [d_peek h, gBi_s, if_pos (by decide)]
theorem d_readRoom {w : gT} (h : XD w) : xX7_readRoom w = some (nI 0, w) := by
  unfold xX7_readRoom
  rw [gLet_s, gLet_s, d_takeDigit h, gBi_s, d_isAtDigit h, gBi_s, if_pos rfl]
  try dsimp only
  rw [if_pos (by decide)]
theorem d_readWalk {N : Nat} {w : gT} (h : XD w) : xX7_readWalk N w = some w := by
  unfold xX7_readWalk
  have main : ∀ k1 : gT → Option gT, k1 w = some w → (if (w.1 27 5) = (nI 16) then gBi (xX6_isAtDigit w) fun v24 w25 => (if v24 = (nI 0) then k1 w25 else gBv (xX6_fail (nI 4) w25) fun w26 => k1 w26) else k1 w) = some w := by
    intro k1 hk
    rw [d_isAtDigit h, gBi_s, if_pos rfl, hk]
    split <;> rfl
  rw [gLet_s]
  refine main _ ?_
  rw [gLet_s, d_takeDigit h, gBi_s, d_takeSign h (by omega), gBv_s, d_takeDigit h, gBi_s, d_takeSign h (by omega), gBv_s, d_readRoom h, gBi_s, d_peek h, gBi_s, if_neg (by decide)]
  try dsimp only
  rw [gLet_s, if_pos rfl]
  try dsimp only
  rw [if_neg h]
theorem d_takeEnd {w : gT} (h : XD w) : xX6_takeEnd w = some w := by
  unfold xX6_takeEnd
  rw [d_peek h, gBi_s, if_pos rfl]
/-- frames of reading -/
def FX (w w' : gT) : Prop := (∀ c, c ∉ [19] → w'.1 c = w.1 c) ∧ w'.1 19 1 = w.1 19 1 ∧ w'.1 19 2 = w.1 19 2
def FM (v v' : gT) : Prop := (∀ c, c ∉ [0] → v'.1 c = v.1 c) ∧ ∀ i, i ∉ [15, 17, 18] → v'.1 0 i = v.1 0 i
theorem FX.rf {w : gT} : FX w w := ⟨fun _ _ => rfl, rfl, rfl⟩
theorem FM.rf {w : gT} : FM w w := ⟨fun _ _ => rfl, fun _ _ => rfl⟩
theorem FX.tr {w w1 w2 : gT} (h : FX w w1) (h2 : FX w1 w2) : FX w w2 := ⟨fun c hc => (h2.1 c hc).trans (h.1 c hc), h2.2.1.trans h.2.1, h2.2.2.trans h.2.2⟩
theorem FM.tr {w w1 w2 : gT} (h : FM w w1) (h2 : FM w1 w2) : FM w w2 := ⟨fun c hc => (h2.1 c hc).trans (h.1 c hc), fun i hi => (h2.2 i hi).trans (h.2 i hi)⟩
theorem FX.u {w : gT} {i : Nat} {x : Int32} (hi : 2 < i) : FX w (gU w 19 i x) := ⟨fun c hc => gU1 (by simpa using hc), gU2 (by omega), gU2 (by omega)⟩
theorem FM.u {w : gT} {i : Nat} {x : Int32} (hi : i ∈ [15, 17, 18]) : FM w (gU w 0 i x) := ⟨fun c hc => gU1 (by simpa using hc), fun j hj => gU2 (fun z => hj (z ▸ hi))⟩
theorem XT.adv {B : Nat → Int32} {w : gT} {len pos : Nat} (h : XT B w len pos) (hp : pos < len) : XT B (gU w 19 3 (nI (pos + 1))) len (pos + 1) := by
  obtain ⟨h1, h2, h3, h4, h5, h6⟩ := h
  refine ⟨?_, ?_, gU0, ?_, by omega, h6⟩
  · rw [gU1 (by omega)]; exact h1
  · rw [gU2 (by omega)]; exact h2
  · rw [gU2 (by omega)]; exact h4
theorem MT.adv {B : Nat → Int32} {v : gT} {len pos : Nat} (h : MT B v len pos) : MT B (gU v 0 15 (nI (pos + 1))) len (pos + 1) := by
  obtain ⟨h1, h2, h3⟩ := h
  refine ⟨?_, ?_, gU0⟩
  · rw [gU1 (by omega)]; exact h1
  · rw [gU2 (by omega)]; exact h2
theorem MT.u18 {B : Nat → Int32} {v : gT} {len pos : Nat} (h : MT B v len pos) (x : Int32) : MT B (gU v 0 18 x) len pos := by
  obtain ⟨h1, h2, h3⟩ := h
  refine ⟨?_, ?_, ?_⟩
  · rw [gU1 (by omega)]; exact h1
  · rw [gU2 (by omega)]; exact h2
  · rw [gU2 (by omega)]; exact h3
theorem x_fail {B : Nat → Int32} {w : gT} {len pos : Nat} (h : XT B w len pos) (k : Nat) : xX6_fail (nI k) w = some (gU w 19 4 (fc k pos)) := by
  unfold xX6_fail xX6_failAt fc
  rw [h.2.2.2.1, if_pos rfl, gLet_s, gBv_s, h.2.2.1]
theorem m_wrongAt (v : gT) (k p : Nat) : xX10_wrongAt (nI k) (nI p) v = some (nI 0, gU v 0 17 (fc k p)) := rfl
theorem pkV_lt {B : Nat → Int32} {len pos c : Nat} (hc : c < 2 ^ 30) (h : pkV B len pos = nI c) : pos < len := by
  apply Classical.byContradiction
  intro hn
  unfold pkV at h
  rw [if_pos (by omega)] at h
  exact nI_m1 (by omega) h.symm
/-- a sign taken by both -/
theorem x_sign1 {B : Nat → Int32} {w : gT} {len pos c : Nat} (h : XT B w len pos) (hc : pkV B len pos = nI c) : xX6_takeSign (nI c) w = some (gU w 19 3 (nI (pos + 1))) := by
  unfold xX6_takeSign
  rw [x_peek h, gBi_s, if_pos hc, gLet_s, h.2.2.1, nI_add]
theorem x_sign0 {B : Nat → Int32} {w : gT} {len pos c : Nat} (h : XT B w len pos) (hc : pkV B len pos ≠ nI c) : xX6_takeSign (nI c) w = some (gU w 19 4 (fc 1 pos)) := by
  unfold xX6_takeSign
  rw [x_peek h, gBi_s, if_neg hc, x_fail h, gBv_s]
theorem m_sign1 {B : Nat → Int32} {v : gT} {len pos c : Nat} (h : MT B v len pos) (h5 : pos ≤ len) (h6 : len ≤ 220) (hc : pkV B len pos = nI c) : xX10_takes (nI c) v = some (nI 1, gU v 0 15 (nI (pos + 1))) := by
  unfold xX10_takes
  rw [m_here h h5 h6, gBi_s, if_pos hc, gLet_s, h.2.2, nI_add]
theorem m_sign0 {B : Nat → Int32} {v : gT} {len pos c : Nat} (h : MT B v len pos) (h5 : pos ≤ len) (h6 : len ≤ 220) (hc : pkV B len pos ≠ nI c) : xX10_takes (nI c) v = some (nI 0, gU v 0 17 (fc 1 pos)) := by
  unfold xX10_takes
  rw [m_here h h5 h6, gBi_s, if_neg hc, h.2.2, m_wrongAt, gBi_s, if_pos (Or.inl rfl)]
/-- the sign here is a number below 256, or none -/
theorem pk_cases {B : Nat → Int32} (hB : ∀ i, Bl (B i) 256) (len pos : Nat) : pkV B len pos = (-1) ∨ ∃ q, q < 256 ∧ pkV B len pos = nI q := by
  unfold pkV
  by_cases h : len ≤ pos
  · rw [if_pos h]; exact Or.inl rfl
  · rw [if_neg h]; exact Or.inr (hB pos)
theorem x_digit1 {B : Nat → Int32} {w : gT} {len pos d a : Nat} (h : XT B w len pos) (hd : d ≤ a) (ha : a ≤ 9) (hc : pkV B len pos = nI (48 + d)) : xX6_takeDigit (nI a) w = some (nI d, gU w 19 3 (nI (pos + 1))) := by
  unfold xX6_takeDigit
  rw [gLet_s, x_peek h, gBi_s, gLet_s, hc, pk_sub (by omega), Nat.add_sub_cancel_left, if_neg (nlt (by omega) (by omega) (by omega)), if_pos (yle (by omega) (by omega) hd), gLet_s, h.2.2.1, nI_add]
theorem no_digit {p : Int32} {a : Nat} (ha : a ≤ 9) (hp : p = (-1) ∨ ∃ q, q < 256 ∧ p = nI q) (hn : ∀ d, d ≤ a → p ≠ nI (48 + d)) : (p - nI 48) < nI 0 ∨ ¬ (p - nI 48) ≤ nI a := by
  rcases hp with rfl | ⟨q, hq, rfl⟩
  · exact Or.inl (by decide)
  · have e := pk_sub_toInt (show q < 2 ^ 30 by omega) (show 48 < 2 ^ 30 by omega)
    by_cases c : q < 48
    · refine Or.inl ?_
      rw [Int32.lt_iff_toInt_lt, e, nI_toInt (by omega)]
      omega
    · refine Or.inr ?_
      rw [Int32.le_iff_toInt_le, e, nI_toInt (by omega)]
      intro z
      exact hn (q - 48) (by omega) (by rw [show 48 + (q - 48) = q by omega])
theorem x_digit0 {B : Nat → Int32} (hB : ∀ i, Bl (B i) 256) {w : gT} {len pos a : Nat} (h : XT B w len pos) (ha : a ≤ 9) (hn : ∀ d, d ≤ a → pkV B len pos ≠ nI (48 + d)) : xX6_takeDigit (nI a) w = some (nI 0, gU w 19 4 (fc 1 pos)) := by
  unfold xX6_takeDigit
  rw [gLet_s, x_peek h, gBi_s, gLet_s]
  rcases no_digit ha (pk_cases hB len pos) hn with c | c
  · rw [if_pos c]
    dsimp only
    rw [x_fail h, gBv_s]
  · by_cases c2 : (pkV B len pos - nI 48) < nI 0
    · rw [if_pos c2]
      dsimp only
      rw [x_fail h, gBv_s]
    · rw [if_neg c2, if_neg c]
      try dsimp only
      rw [x_fail h, gBv_s]
theorem x_at1 {B : Nat → Int32} {w : gT} {len pos d : Nat} (h : XT B w len pos) (hd : d ≤ 9) (hc : pkV B len pos = nI (48 + d)) : xX6_isAtDigit w = some (nI 1, w) := by
  unfold xX6_isAtDigit
  rw [x_peek h, gBi_s, hc, if_neg (nlt (by omega) (by omega) (by omega)), x_peek h, gBi_s, hc, if_neg (nlt (by omega) (by omega) (by omega))]
theorem at_no {p : Int32} (hp : p = (-1) ∨ ∃ q, q < 256 ∧ p = nI q) (hn : ∀ d, d ≤ 9 → p ≠ nI (48 + d)) : p < nI 48 ∨ nI 57 < p := by
  rcases hp with rfl | ⟨q, hq, rfl⟩
  · exact Or.inl (by decide)
  · by_cases c : q < 48
    · exact Or.inl (ylt (by omega) (by omega) c)
    · refine Or.inr (ylt (by omega) (by omega) ?_)
      apply Classical.byContradiction
      intro hc
      exact hn (q - 48) (by omega) (by rw [show 48 + (q - 48) = q by omega])
theorem x_at0 {B : Nat → Int32} (hB : ∀ i, Bl (B i) 256) {w : gT} {len pos : Nat} (h : XT B w len pos) (hn : ∀ d, d ≤ 9 → pkV B len pos ≠ nI (48 + d)) : xX6_isAtDigit w = some (nI 0, w) := by
  unfold xX6_isAtDigit
  rw [x_peek h, gBi_s, x_peek h, gBi_s]
  rcases at_no (pk_cases hB len pos) hn with c | c
  · rw [if_pos c]
  · rw [if_pos c]
    split <;> rfl
theorem m_at1 {B : Nat → Int32} {v : gT} {len pos d : Nat} (h : MT B v len pos) (h5 : pos ≤ len) (h6 : len ≤ 220) (hd : d ≤ 9) (hc : pkV B len pos = nI (48 + d)) : xX10_isDigit v = some (nI 1, v) := by
  unfold xX10_isDigit
  rw [m_here h h5 h6, gBi_s, hc, if_neg (nlt (by omega) (by omega) (by omega)), m_here h h5 h6, gBi_s, hc, if_neg (nlt (by omega) (by omega) (by omega))]
theorem m_at0 {B : Nat → Int32} (hB : ∀ i, Bl (B i) 256) {v : gT} {len pos : Nat} (h : MT B v len pos) (h5 : pos ≤ len) (h6 : len ≤ 220) (hn : ∀ d, d ≤ 9 → pkV B len pos ≠ nI (48 + d)) : xX10_isDigit v = some (nI 0, v) := by
  unfold xX10_isDigit
  rw [m_here h h5 h6, gBi_s, m_here h h5 h6, gBi_s]
  rcases at_no (pk_cases hB len pos) hn with c | c
  · rw [if_pos c]
  · rw [if_pos c]
    split <;> rfl
theorem m_digit1 {B : Nat → Int32} {v : gT} {len pos d a : Nat} (h : MT B v len pos) (h5 : pos ≤ len) (h6 : len ≤ 220) (hd : d ≤ a) (ha : a ≤ 9) (hc : pkV B len pos = nI (48 + d)) : xX10_readsOne (nI a) v = some (nI 1, gU (gU v 0 18 (nI d)) 0 15 (nI (pos + 1))) := by
  unfold xX10_readsOne
  rw [gLet_s, m_at1 h h5 h6 (by omega) hc, gBi_s, if_neg nI_10, m_here h h5 h6, gBi_s, hc, pk_sub (by omega), Nat.add_sub_cancel_left, if_pos (yle (by omega) (by omega) hd), m_here h h5 h6, gBi_s, hc, pk_sub (by omega), Nat.add_sub_cancel_left, gLet_s, gLet_s, gU2 (by omega), h.2.2, nI_add]
theorem m_digit0 {B : Nat → Int32} (hB : ∀ i, Bl (B i) 256) {v : gT} {len pos a : Nat} (h : MT B v len pos) (h5 : pos ≤ len) (h6 : len ≤ 220) (ha : a ≤ 9) (hn : ∀ d, d ≤ a → pkV B len pos ≠ nI (48 + d)) : xX10_readsOne (nI a) v = some (nI 0, gU v 0 17 (fc 1 pos)) := by
  unfold xX10_readsOne
  rw [gLet_s]
  have k1 : (gBi (xX10_wrongAt (nI 1) (v.1 0 15) v) fun v3 w4 => if v3 = nI 0 ∨ v3 = nI 1 then some (v3, w4) else none) = some (nI 0, gU v 0 17 (fc 1 pos)) := by
    rw [h.2.2, m_wrongAt, gBi_s, if_pos (Or.inl rfl)]
  by_cases c : ∃ d, d ≤ 9 ∧ pkV B len pos = nI (48 + d)
  · obtain ⟨d, hd, hc⟩ := c
    have hda : ¬ d ≤ a := fun z => hn d z hc
    rw [m_at1 h h5 h6 hd hc, gBi_s, if_neg nI_10, m_here h h5 h6, gBi_s, hc, pk_sub (by omega), Nat.add_sub_cancel_left, if_neg (nle (by omega) (by omega) hda)]
    exact k1
  · rw [m_at0 hB h h5 h6 (fun d hd hc => c ⟨d, hd, hc⟩), gBi_s, if_pos rfl]
    exact k1
