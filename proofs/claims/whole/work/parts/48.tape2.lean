theorem FX.at {w w' : gT} (h : FX w w') {c : Nat} (hc : c ≠ 19) : w'.1 c = w.1 c := h.1 c (by simpa using hc)
theorem FM.at {v v' : gT} (h : FM v v') {c : Nat} (hc : c ≠ 0) : v'.1 c = v.1 c := h.1 c (by simpa using hc)
/-- the first fault, told by both -/
def FF (w v : gT) : Prop := ∃ k p, 1 ≤ k ∧ k < 10 ∧ p < 2 ^ 30 ∧ w.1 19 4 = fc k p ∧ v.1 0 17 = fc k p
theorem FF.xd {w v : gT} (h : FF w v) : XD w := by
  obtain ⟨k, p, h1, h2, h3, h4, h5⟩ := h
  unfold XD
  rw [h4]
  exact fc_ne h1 h2 h3
theorem FF.mk {w v : gT} {k p : Nat} (h1 : 1 ≤ k) (h2 : k < 10) (h3 : p < 2 ^ 30) : FF (gU w 19 4 (fc k p)) (gU v 0 17 (fc k p)) := ⟨k, p, h1, h2, h3, gU0, gU0⟩
theorem gW0_s {α : Type} {f : (gT → Option α) → gT → Option α} {n : Nat} {w : gT} : gW0 f (n + 1) w = f (gW0 f n) w := rfl
theorem rr_fault {v : gT} {k p : Nat} : (gBi (xX10_wrongAt (nI k) (nI p) v) fun v7 w8 => (if v7 = (nI 0) then some ((nI 0), w8) else some ((nI 1), w8))) = some (nI 0, gU v 0 17 (fc k p)) := by
  rw [m_wrongAt, gBi_s, if_pos rfl]
/-- a room's number -/
theorem room_both {N : Nat} (hN : 5000 ≤ N) {B : Nat → Int32} (hB : ∀ i, Bl (B i) 256) {w v : gT} {len pos : Nat} (hx : XT B w len pos) (hm : MT B v len pos) :
    (∃ r w' v' pos', r < 12 ∧ xX7_readRoom w = some (nI r, w') ∧ xX10_readsRoom N v = some (nI 1, v') ∧ v'.1 0 18 = nI r ∧ XT B w' len pos' ∧ MT B v' len pos' ∧ FX w w' ∧ FM v v' ∧ pos < pos') ∨
    (∃ r w' v', xX7_readRoom w = some (r, w') ∧ xX10_readsRoom N v = some (nI 0, v') ∧ FF w' v' ∧ FX w w' ∧ FM v v') := by
  obtain ⟨M, rfl⟩ : ∃ M, N = M + 1 + 1 + 1 := ⟨N - 3, by omega⟩
  have h5 := hx.2.2.2.2.1
  have h6 := hx.2.2.2.2.2
  have hm0 : MT B (gU v 0 18 (nI 0)) len pos := hm.u18 (nI 0)
  have f18 : ∀ (v : gT) (x : Int32), FM v (gU v 0 18 x) := fun v x => FM.u (by decide)
  have f15 : ∀ (v : gT) (x : Int32), FM v (gU v 0 15 x) := fun v x => FM.u (by decide)
  have f17 : ∀ (v : gT) (x : Int32), FM v (gU v 0 17 x) := fun v x => FM.u (by decide)
  unfold xX7_readRoom xX10_readsRoom
  rw [gLet_s, gLet_s, gLet_s, gLet_s, gLet_s, hx.2.2.1, hm.2.2, gW0_s]
  by_cases c : ∃ d, d ≤ 9 ∧ pkV B len pos = nI (48 + d)
  · obtain ⟨d, hd, hc⟩ := c
    have hpl := pkV_lt (by omega) hc
    have hx1 := hx.adv hpl
    have st : ∀ (go : gT → Option (Int32 × gT)) (k3 : gT → Option (Int32 × gT)), xX10_readsRoom_b10 (M + 1 + 1 + 1) k3 (nI pos) go (gU v 0 18 (nI 0)) = go (gU (gU (gU v 0 18 (nI 0)) 0 18 (nI d)) 0 15 (nI (pos + 1))) := by
      intro go k3
      unfold xX10_readsRoom_b10
      rw [m_at1 hm0 h5 h6 hd hc, gBi_s, if_neg nI_10, hm0.2.2, nI_add, if_neg (nle (by omega) (by omega) (by omega)), m_here hm0 h5 h6, gBi_s, gLet_s, gLet_s, hc, gU0, nI_mul, nI_add, pk_sub (by omega), show 10 * 0 + (48 + d) - 48 = d by omega, gU2 (by omega), hm0.2.2, nI_add]
    rw [x_digit1 hx hd (by omega) hc, gBi_s, st, gW0_s]
    have hm1 : MT B (gU (gU (gU v 0 18 (nI 0)) 0 18 (nI d)) 0 15 (nI (pos + 1))) len (pos + 1) := (hm0.u18 (nI d)).adv
    have fm1 : FM v (gU (gU (gU v 0 18 (nI 0)) 0 18 (nI d)) 0 15 (nI (pos + 1))) := (f18 _ _).tr ((f18 _ _).tr (f15 _ _))
    have v18 : (gU (gU (gU v 0 18 (nI 0)) 0 18 (nI d)) 0 15 (nI (pos + 1))).1 0 18 = nI d := by rw [gU2 (by omega), gU0]
    have fx1 : FX w (gU w 19 3 (nI (pos + 1))) := FX.u (by omega)
    revert hm1 fm1 v18 hx1 fx1
    generalize gU (gU (gU v 0 18 (nI 0)) 0 18 (nI d)) 0 15 (nI (pos + 1)) = v1
    generalize gU w 19 3 (nI (pos + 1)) = w1
    intro hx1 hm1 fm1 v18 fx1
    -- the end of the model's reading
    have fin : ∀ (w2 v2 : gT) (r pos' : Nat), r < 100 → pos < pos' → XT B w2 len pos' → MT B v2 len pos' → FX w w2 → FM v v2 → v2.1 0 18 = nI r →
        (∃ r0 w' v' pos', r0 < 12 ∧ (if nI r < nI 12 then some (nI r, w2) else gBv (xX6_failAt (nI 3) (nI pos) w2) fun w5 => some (nI r, w5)) = some (nI r0, w') ∧ (if v2.1 0 15 = nI pos then gBi (xX10_wrongAt (nI 1) (v2.1 0 15) v2) fun v9 w10 => if v9 = nI 0 ∨ v9 = nI 1 then some (v9, w10) else none else gBi (xX10_isRoom (v2.1 0 18) v2) fun v5 w6 => if v5 = nI 0 then gBi (xX10_wrongAt (nI 3) (nI pos) w6) fun v7 w8 => if v7 = nI 0 then some (nI 0, w8) else some (nI 1, w8) else some (nI 1, w6)) = some (nI 1, v') ∧ v'.1 0 18 = nI r0 ∧ XT B w' len pos' ∧ MT B v' len pos' ∧ FX w w' ∧ FM v v' ∧ pos < pos') ∨
        (∃ r0 w' v', (if nI r < nI 12 then some (nI r, w2) else gBv (xX6_failAt (nI 3) (nI pos) w2) fun w5 => some (nI r, w5)) = some (r0, w') ∧ (if v2.1 0 15 = nI pos then gBi (xX10_wrongAt (nI 1) (v2.1 0 15) v2) fun v9 w10 => if v9 = nI 0 ∨ v9 = nI 1 then some (v9, w10) else none else gBi (xX10_isRoom (v2.1 0 18) v2) fun v5 w6 => if v5 = nI 0 then gBi (xX10_wrongAt (nI 3) (nI pos) w6) fun v7 w8 => if v7 = nI 0 then some (nI 0, w8) else some (nI 1, w8) else some (nI 1, w6)) = some (nI 0, v') ∧ FF w' v' ∧ FX w w' ∧ FM v v') := by
      intro w2 v2 r pos' hr hpp hx2 hm2 fx2 fm2 e18
      have hle := hx2.2.2.2.2.1
      have hne : ¬ nI pos' = nI pos := fun z => by
        have := (nI_eq (show pos' < 2 ^ 31 by omega) (show pos < 2 ^ 31 by omega)).mp z
        omega
      rw [hm2.2.2, if_neg hne, e18]
      by_cases q : r < 12
      · refine Or.inl ⟨r, w2, v2, pos', q, ?_, ?_, e18, hx2, hm2, fx2, fm2, hpp⟩
        · rw [if_pos (ylt (by omega) (by omega) q)]
        · rw [m_room1 q, gBi_s, if_neg nI_10]
      · refine Or.inr ⟨nI r, gU w2 19 4 (fc 3 pos), gU v2 0 17 (fc 3 pos), ?_, ?_, FF.mk (by omega) (by omega) (by omega), fx2.tr (FX.u (by omega)), fm2.tr (f17 _ _)⟩
        · rw [if_neg (nlt (by omega) (by omega) q)]
          unfold xX6_failAt
          rw [hx2.2.2.2.1, if_pos rfl, gLet_s, gBv_s]
          rfl
        · rw [m_room0 (Or.inr (yle (by omega) (by omega) (by omega))), gBi_s, if_pos rfl, rr_fault]
    by_cases c2 : ∃ e, e ≤ 9 ∧ pkV B len (pos + 1) = nI (48 + e)
    · obtain ⟨e, he, hc2⟩ := c2
      have hpl2 := pkV_lt (by omega) hc2
      have h51 := hx1.2.2.2.2.1
      have st2 : ∀ (go : gT → Option (Int32 × gT)) (k3 : gT → Option (Int32 × gT)), xX10_readsRoom_b10 (M + 1 + 1 + 1) k3 (nI pos) go v1 = go (gU (gU v1 0 18 (nI (10 * d + e))) 0 15 (nI (pos + 1 + 1))) := by
        intro go k3
        unfold xX10_readsRoom_b10
        rw [m_at1 hm1 h51 h6 he hc2, gBi_s, if_neg nI_10, hm1.2.2, nI_add, if_neg (nle (by omega) (by omega) (by omega)), m_here hm1 h51 h6, gBi_s, gLet_s, gLet_s, hc2, v18, nI_mul, nI_add, pk_sub (by omega), show 10 * d + (48 + e) - 48 = 10 * d + e by omega, gU2 (by omega), hm1.2.2, nI_add]
      have hx2 := hx1.adv hpl2
      have hm2 : MT B (gU (gU v1 0 18 (nI (10 * d + e))) 0 15 (nI (pos + 1 + 1))) len (pos + 1 + 1) := (hm1.u18 _).adv
      have st3 : ∀ (go : gT → Option (Int32 × gT)) (k3 : gT → Option (Int32 × gT)) (v2 : gT), MT B v2 len (pos + 1 + 1) → xX10_readsRoom_b10 (M + 1 + 1 + 1) k3 (nI pos) go v2 = k3 v2 := by
        intro go k3 v2 hm2
        have h52 := hx2.2.2.2.2.1
        unfold xX10_readsRoom_b10
        by_cases c3 : ∃ e, e ≤ 9 ∧ pkV B len (pos + 1 + 1) = nI (48 + e)
        · obtain ⟨e3, he3, hc3⟩ := c3
          rw [m_at1 hm2 h52 h6 he3 hc3, gBi_s, if_neg nI_10, hm2.2.2, nI_add, if_pos (yle (by omega) (by omega) (by omega))]
        · rw [m_at0 hB hm2 h52 h6 (fun d hd hc => c3 ⟨d, hd, hc⟩), gBi_s, if_pos rfl]
      rw [x_at1 hx1 he hc2, gBi_s, if_neg nI_10, x_digit1 hx1 he (by omega) hc2, gBi_s, gLet_s, nI_mul, nI_add, st2, gW0_s, st3 _ _ _ hm2]
      exact fin _ _ (10 * d + e) (pos + 1 + 1) (by omega) (by omega) hx2 hm2 (fx1.tr (FX.u (by omega))) (fm1.tr ((f18 _ _).tr (f15 _ _))) (by rw [gU2 (by omega), gU0])
    · have st2 : ∀ (go : gT → Option (Int32 × gT)) (k3 : gT → Option (Int32 × gT)), xX10_readsRoom_b10 (M + 1 + 1 + 1) k3 (nI pos) go v1 = k3 v1 := by
        intro go k3
        unfold xX10_readsRoom_b10
        rw [m_at0 hB hm1 hx1.2.2.2.2.1 h6 (fun d hd hc => c2 ⟨d, hd, hc⟩), gBi_s, if_pos rfl]
      rw [x_at0 hB hx1 (fun d hd hc => c2 ⟨d, hd, hc⟩), gBi_s, if_pos rfl, st2]
      exact fin w1 v1 d (pos + 1) (by omega) (by omega) hx1 hm1 fx1 fm1 v18
  · have hn : ∀ d, d ≤ 9 → pkV B len pos ≠ nI (48 + d) := fun d hd hc => c ⟨d, hd, hc⟩
    have hff : FF (gU w 19 4 (fc 1 pos)) (gU (gU v 0 18 (nI 0)) 0 17 (fc 1 pos)) := FF.mk (by omega) (by omega) (by omega)
    refine Or.inr ⟨nI 0, gU w 19 4 (fc 1 pos), gU (gU v 0 18 (nI 0)) 0 17 (fc 1 pos), ?_, ?_, hff, FX.u (by omega), (f18 _ _).tr (f17 _ _)⟩
    · rw [x_digit0 hB hx (by omega) hn, gBi_s, d_isAtDigit hff.xd, gBi_s, if_pos rfl]
      try dsimp only
      rw [if_pos (by decide)]
    · unfold xX10_readsRoom_b10
      rw [m_at0 hB hm0 h5 h6 hn, gBi_s, if_pos rfl]
      try dsimp only
      rw [hm0.2.2, if_pos rfl, m_wrongAt, gBi_s, if_pos (Or.inl rfl)]
