/-! THE RELATION between the two, and the operations one by one -/
def msk (σ : sT) : sT := (fun c => if pcX c = true then σ.1 c else if c = 19 then (fun i => if i = 1 then σ.1 19 1 else nI 0) else fun _ => nI 0, σ.2)
theorem msk_eq {σ τ : sT} (h : ∀ c, pcX c = true → τ.1 c = σ.1 c) (h1 : τ.1 19 1 = σ.1 19 1) (h2 : τ.2 = σ.2) : msk τ = msk σ := by
  unfold msk
  rw [h1, h2]
  refine congrArg (fun z => (z, σ.2)) (funext fun c => ?_)
  by_cases hc : pcX c = true
  · rw [if_pos hc, if_pos hc, h c hc]
  · rw [if_neg hc, if_neg hc]
theorem msk_R {σ : sT} : Rng (msk σ) = Rng σ := rfl
theorem msk_M {N : Nat} {σ : sT} {w : gT} : EncM N (msk σ) w = EncM N σ w := rfl
abbrev Law (N : Nat) (σ : sT) : Prop := ∀ i, i < spC σ.1 → (σ.1 34 i ≠ nI 107 → evX N σ.1 (σ.1 35 i) (σ.2.1 i)) ∧ evX N σ.1 (σ.1 36 i) (σ.2.2 i)
theorem msk_L {N : Nat} {σ : sT} : Law N (msk σ) = Law N σ := rfl
def Rel (N : Nat) (wx wm : gT) : Prop := ∃ σ, Rng σ ∧ EncX N σ wx ∧ EncM N σ wm ∧ wm.1 0 0 = σ.1 1 13
abbrev EncX.of {N : Nat} {w : gT} {D : (Nat → (Nat → Int32) → Int32) × (Nat → (Nat → Int32) → Int32)} (h : Law N (w.1, D)) : EncX N (w.1, D) w := ⟨fun _ _ => rfl, rfl, h⟩
theorem Rel.nf {N : Nat} {wx wm : gT} (h : Rel N wx wm) : ∃ D, Rng (wx.1, D) ∧ Law N (wx.1, D) ∧ EncM N (wx.1, D) wm ∧ wm.1 0 0 = wx.1 1 13 := by
  obtain ⟨σ, h1, h2, h3, h4⟩ := h
  have e : msk (wx.1, σ.2) = msk σ := msk_eq h2.1 h2.2.1 rfl
  refine ⟨σ.2, ?_, ?_, ?_, ?_⟩
  · rw [← msk_R, e, msk_R]; exact h1
  · have : Law N (msk (wx.1, σ.2)) := by rw [e, msk_L]; exact h2.2.2
    rwa [msk_L] at this
  · rw [← msk_M, e, msk_M]; exact h3
  · rw [h4, h2.1 1 rfl]
theorem Rel.mk {N : Nat} {wx wm : gT} {D : (Nat → (Nat → Int32) → Int32) × (Nat → (Nat → Int32) → Int32)} (h1 : Rng (wx.1, D)) (h2 : Law N (wx.1, D)) (h3 : EncM N (wx.1, D) wm) (h4 : wm.1 0 0 = wx.1 1 13) : Rel N wx wm := ⟨(wx.1, D), h1, EncX.of h2, h3, h4⟩
theorem Rel.sm {N : Nat} {wx wm wx' wm' : gT} (h : Rel N wx wm) (h1 : SmX wx wx') (h2 : SmM wm wm') (h3 : wm'.1 0 0 = wm.1 0 0) : Rel N wx' wm' := by
  obtain ⟨σ, a1, a2, a3, a4⟩ := h
  exact ⟨σ, a1, a2.sm h1, a3.sm h2, h3.trans a4⟩
def OpOk (N : Nat) (tx tm : Option (Int32 × gT)) : Prop := ∃ r wx wm, tx = some (r, wx) ∧ tm = some (r, wm) ∧ Rel N wx wm
theorem OpOk.o {N : Nat} {r : Int32} {wx wm : gT} (h : Rel N wx wm) : OpOk N (some (r, wx)) (some (r, wm)) := ⟨r, wx, wm, rfl, rfl, h⟩
theorem nI_m1 {j : Nat} (hj : j < 2 ^ 31) : ¬ nI j = (-1) := fun z => by
  have e1 : (nI j).toInt = j := nI_toInt hj
  have e2 : ((-1) : Int32).toInt = -1 := by decide
  rw [z] at e1
  omega
theorem x_dig1 {j : Nat} (h : j < 10) (w : gT) : xX9_isDigit (nI j) w = some (nI 1, w) := by
  unfold xX9_isDigit
  simp (disch := omega) only [nI_add, nI_mul, nI_clamp, nI_leI, nI_ltI, nI_eq, pk_sub, pk_div, nI_rem, gG_in]
  rw [if_neg (by omega), if_neg (by omega)]
theorem lt_of_le1 {a : Int32} {k : Nat} (hk : k < 2 ^ 30) (h : nI (k + 1) ≤ a) : nI k < a := by
  have h1 := Int32.le_iff_toInt_le.mp h
  rw [Int32.lt_iff_toInt_lt]
  rw [nI_toInt (by omega)] at h1
  rw [nI_toInt (by omega)]
  omega
theorem x_dig0 {a : Int32} (h : a < nI 0 ∨ nI 10 ≤ a) (w : gT) : xX9_isDigit a w = some (nI 0, w) := by
  unfold xX9_isDigit
  by_cases h1 : a < nI 0
  · rw [if_pos h1]
  · rw [if_neg h1, if_pos (lt_of_le1 (by omega) (h.resolve_left h1))]
theorem x_room1 {j : Nat} (h : j < 12) (w : gT) : xX9_isRoom (nI j) w = some (nI 1, w) := by
  unfold xX9_isRoom
  simp (disch := omega) only [nI_add, nI_mul, nI_clamp, nI_leI, nI_ltI, nI_eq, pk_sub, pk_div, nI_rem, gG_in]
  rw [if_neg (by omega), if_neg (by omega)]
theorem x_room0 {a : Int32} (h : a < nI 0 ∨ nI 12 ≤ a) (w : gT) : xX9_isRoom a w = some (nI 0, w) := by
  unfold xX9_isRoom
  by_cases h1 : a < nI 0
  · rw [if_pos h1]
  · rw [if_neg h1, if_pos (h.resolve_left h1)]
theorem x_night1 {j : Nat} (h : j < 7) (w : gT) : xX9_isNight (nI j) w = some (nI 1, w) := by
  unfold xX9_isNight
  simp (disch := omega) only [nI_add, nI_mul, nI_clamp, nI_leI, nI_ltI, nI_eq, pk_sub, pk_div, nI_rem, gG_in]
  rw [if_neg (by omega), if_neg (by omega)]
theorem x_night0 {a : Int32} (h : a < nI 0 ∨ nI 7 ≤ a) (w : gT) : xX9_isNight a w = some (nI 0, w) := by
  unfold xX9_isNight
  by_cases h1 : a < nI 0
  · rw [if_pos h1]
  · rw [if_neg h1, if_pos (h.resolve_left h1)]
theorem m_room1 {j : Nat} (h : j < 12) (w : gT) : xX10_isRoom (nI j) w = some (nI 1, w) := x_room1 h w
theorem m_room0 {a : Int32} (h : a < nI 0 ∨ nI 12 ≤ a) (w : gT) : xX10_isRoom a w = some (nI 0, w) := x_room0 h w
theorem m_night1 {j : Nat} (h : j < 7) (w : gT) : xX10_isNight (nI j) w = some (nI 1, w) := x_night1 h w
theorem m_night0 {a : Int32} (h : a < nI 0 ∨ nI 7 ≤ a) (w : gT) : xX10_isNight a w = some (nI 0, w) := x_night0 h w
theorem m_in1 {j l h : Nat} (h1 : l ≤ j) (h2 : j ≤ h) (h3 : h < 2 ^ 30) (w : gT) : xX10_in (nI j) (nI l) (nI h) w = some (nI 1, w) := by
  unfold xX10_in
  simp (disch := omega) only [nI_add, nI_mul, nI_clamp, nI_leI, nI_ltI, nI_eq, pk_sub, pk_div, nI_rem, gG_in]
  rw [if_neg (by omega), if_neg (by omega)]
theorem m_inx {j l h : Nat} (h1 : j < l ∨ h < j) (h2 : j < 2 ^ 30) (h3 : h < 2 ^ 30) (h4 : l < 2 ^ 30) (w : gT) : xX10_in (nI j) (nI l) (nI h) w = some (nI 0, w) := by
  unfold xX10_in
  simp (disch := omega) only [nI_add, nI_mul, nI_clamp, nI_leI, nI_ltI, nI_eq, pk_sub, pk_div, nI_rem, gG_in]
  by_cases q : j < l
  · rw [if_pos q]
  · rw [if_neg q, if_pos (by omega)]
theorem m_in0 {a : Int32} {h l : Nat} (hl : l < 2 ^ 30) (h1 : a < nI 0 ∨ nI (h + 1) ≤ a) (h3 : h < 2 ^ 30) (w : gT) : xX10_in a (nI l) (nI h) w = some (nI 0, w) := by
  unfold xX10_in
  by_cases q : a < nI l
  · rw [if_pos q]
  · rw [if_neg q]
    rcases h1 with h1 | h1
    · exfalso
      refine q ?_
      have e1 := Int32.lt_iff_toInt_lt.mp h1
      rw [Int32.lt_iff_toInt_lt]
      rw [nI_toInt (by omega)] at e1 ⊢
      omega
    · rw [if_pos (lt_of_le1 h3 h1)]
theorem o_seed {N : Nat} {wx wm : gT} (h : Rel N wx wm) (a : Int32) : OpOk N (xX9_seed a wx) (xX10_seed a wm) := by
  unfold xX9_seed xX10_seed
  rcases in_or a 65536 (by omega) with ⟨j, hj, rfl⟩ | q
  · rw [m_in1 (by omega) (by omega) (by omega)]
    simp (disch := omega) only [nI_add, nI_mul, nI_clamp, nI_leI, nI_ltI, nI_eq, pk_sub, pk_div, nI_rem, gG_in]
    rw [if_neg (by omega), if_pos (by omega)]
    simp only [gBi_s, gLet]
    rw [if_neg (by decide)]
    refine OpOk.o ?_
    obtain ⟨D, h1, h2, h3, h4⟩ := h.nf
    exact Rel.mk (D := D) h1 h2 h3 rfl
  · rw [m_in0 (by omega) q (by omega)]
    simp only [gBi_s, gLet]
    rw [if_pos trivial]
    by_cases q1 : a < nI 0
    · rw [if_pos q1]; exact OpOk.o h
    · rw [if_neg q1, if_neg]; · exact OpOk.o h
      have := lt_of_le1 (by omega) (q.resolve_left q1)
      exact Int32.not_le.mpr this
