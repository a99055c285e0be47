theorem bl_if {f : Nat → Int32} {n m j : Nat} {v : Int32} (h : ∀ i, i < n → Bl (f i) m) (hv : Bl v m) : ∀ i, i < n → Bl (if i = j then v else f i) m := fun i hi => by
  by_cases e : i = j
  · rw [if_pos e]; exact hv
  · rw [if_neg e]; exact h i hi
theorem gU_sm {wx wm : gT} {a b j : Nat} {v : Int32} (h : wm.1 a = wx.1 b) : (gU wm a j v).1 a = (gU wx b j v).1 b := by
  rw [gU_self, gU_self, h]
theorem gU_sp {wx wm : gT} {a b j : Nat} {v : Int32} {p : Nat → Prop} (h : ∀ i, p i → wm.1 a i = wx.1 b i) : ∀ i, p i → (gU wm a j v).1 a i = (gU wx b j v).1 b i := fun i hi => by
  rw [gUs, gUs, h i hi]
theorem o_chains {N : Nat} {wx wm : gT} (h : Rel N wx wm) (a : Int32) : OpOk N (xX9_chains a wx) (xX10_chains a wm) := by
  unfold xX9_chains xX10_chains
  rcases in_or a 10 (by omega) with ⟨j, hj, rfl⟩ | q
  · rw [m_in1 (by omega) (by omega) (by omega), x_dig1 hj]
    simp only [gBi_s, gLet]
    rw [if_neg (by decide), if_neg (by decide)]
    refine OpOk.o ?_
    obtain ⟨D, ⟨⟨r1, r2, r3, r4, r5, r6, r7, r8, r9, r10⟩, R⟩, h2, ⟨E1, E2, ⟨c1, c2, c3⟩, E4⟩, h4⟩ := h.nf
    exact Rel.mk (D := D) ⟨⟨r1, r2, r3, r4, r5, r6, r7, r8, r9, ⟨j, hj, rfl⟩⟩, R⟩ h2 ⟨E1, E2, ⟨c1, rfl, c3⟩, E4⟩ h4
  · rw [m_in0 (by omega) q (by omega), x_dig0 q]
    simp only [gBi_s]
    rw [if_pos trivial]
    exact OpOk.o h
theorem o_allSouls {N : Nat} {wx wm : gT} (h : Rel N wx wm) (a : Int32) : OpOk N (xX9_allSouls a wx) (xX10_allSouls a wm) := by
  unfold xX9_allSouls xX10_allSouls
  simp only [gLet]
  have key : OpOk N (some (nI 1, gU wx 1 11 a)) (some (nI 1, gU wm 0 1 a)) := by
    refine OpOk.o ?_
    obtain ⟨D, h1, h2, ⟨E1, E2, ⟨c1, c2⟩, E4⟩, h4⟩ := h.nf
    exact Rel.mk (D := D) h1 h2 ⟨E1, E2, ⟨rfl, c2⟩, E4⟩ h4
  by_cases e : a = (-1)
  · rw [if_pos e, if_pos e]; exact key
  · rw [if_neg e, if_neg e]
    rcases in_or a 7 (by omega) with ⟨j, hj, rfl⟩ | q
    · rw [x_night1 hj, m_night1 hj]
      simp only [gBi_s]
      rw [if_neg (by decide), if_neg (by decide)]
      exact key
    · rw [x_night0 q, m_night0 q]
      simp only [gBi_s]
      rw [if_pos trivial]
      exact OpOk.o h
theorem o_cats {N : Nat} {wx wm : gT} (h : Rel N wx wm) (a b : Int32) : OpOk N (xX9_cats a b wx) (xX10_cats a b wm) := by
  unfold xX9_cats xX10_cats
  rcases in_or a 12 (by omega) with ⟨j, hj, rfl⟩ | q
  · rw [x_room1 hj, m_room1 hj]
    simp only [gBi_s]
    rw [if_neg (by decide), if_neg (by decide)]
    rcases in_or b 10 (by omega) with ⟨k, hk, rfl⟩ | q
    · rw [m_in1 (by omega) (by omega) (by omega), x_dig1 hk]
      simp only [gBi_s, gLet]
      rw [if_neg (by decide), if_neg (by decide), gG_in hj (by omega), gG_in hj (by omega), nI_clamp (by omega)]
      refine OpOk.o ?_
      obtain ⟨D, ⟨⟨r1, r2⟩, R⟩, h2, ⟨⟨e1, e2⟩, E2⟩, h4⟩ := h.nf
      exact Rel.mk (D := D) ⟨⟨bl_if r1 ⟨k, hk, rfl⟩, r2⟩, R⟩ h2 ⟨⟨gU_sm e1, e2⟩, E2⟩ h4
    · rw [m_in0 (by omega) q (by omega), x_dig0 q]
      simp only [gBi_s]
      rw [if_pos trivial]
      exact OpOk.o h
  · rw [x_room0 q, m_room0 q]
    simp only [gBi_s]
    rw [if_pos trivial]
    exact OpOk.o h
theorem o_mend {N : Nat} {wx wm : gT} (h : Rel N wx wm) (a : Int32) : OpOk N (xX9_mend a wx) (xX10_mend a wm) := by
  unfold xX9_mend xX10_mend
  rcases in_or a 10 (by omega) with ⟨j, hj, rfl⟩ | q
  · rw [x_hasGhost _ hj, m_isGhost _ hj]
    simp only [gBi_s, b2i_0]
    obtain ⟨D, ⟨⟨r1, r2, r3, r4, r5, r6⟩, R⟩, h2, ⟨⟨e1, e2, e3, e4, e5, e6⟩, E2, ⟨c1, c2, c3, c4, c5⟩, E4⟩, h4⟩ := h.nf
    rw [show wm.1 0 4 = wx.1 1 8 from c4]
    by_cases t : tol (wx.1 1 8) j
    · rw [if_neg (not_not_intro t), if_neg (not_not_intro t)]
      simp only [gG_in hj (show 10 < 2 ^ 31 by omega), gLet]
      rw [nI_clamp (by omega), show wm.1 5 = wx.1 6 from e5]
      obtain ⟨v, hv, ev⟩ := r5 j hj
      rw [show wx.1 6 j = nI v from ev]
      simp (disch := omega) only [nI_add, nI_mul, nI_clamp, nI_leI, nI_ltI, nI_eq, pk_sub, pk_div, nI_rem, gG_in]
      by_cases q : v = 9
      · rw [if_neg (by omega), if_pos q]
        exact OpOk.o h
      · rw [if_pos (by omega), if_neg q]
        rw [gU0, gU0]
        refine OpOk.o (Rel.mk (D := D) ⟨⟨r1, r2, r3, r4, bl_if r5 ⟨v + 1, by omega, rfl⟩, r6⟩, R⟩ h2 ⟨⟨e1, e2, e3, e4, gU_sm e5, e6⟩, E2, ⟨c1, c2, c3, c4, c5⟩, E4⟩ h4)
    · rw [if_pos t, if_pos t]
      exact OpOk.o h
  · rw [x_hasGhost_o _ q, m_isGhost_o _ q]
    simp only [gBi_s]
    rw [if_pos trivial]
    exact OpOk.o h
theorem x_tellBeds {N : Nat} (hN : 5000 ≤ N) {j : Nat} (hj : j < 10) (w : gT) : gW1 (xX2_tellSleeper_b31 (nI j)) N (nI 0) w = some ((fun c i => if c = 3 then (if i < 70 ∧ i % 10 = j then nI 255 else w.1 3 i) else w.1 c i), w.2) := by
  refine gW1_ind (fun t => t = some ((fun c i => if c = 3 then (if i < 70 ∧ i % 10 = j then nI 255 else w.1 3 i) else w.1 c i), w.2)) (fun m a w1 => ∃ n, n ≤ 7 ∧ a = nI n ∧ m = 7 - n ∧ w1 = ((fun c i => if c = 3 then (if i < 10 * n ∧ i % 10 = j then nI 255 else w.1 3 i) else w.1 c i), w.2)) ?_ N 7 _ w (by omega) ⟨0, by omega, rfl, by omega, ?_⟩
  · rintro m go a w1 ⟨n, hn, rfl, rfl, rfl⟩ ih
    unfold xX2_tellSleeper_b31
    simp (disch := omega) only [nI_add, nI_mul, nI_clamp, nI_leI, nI_ltI, nI_eq, pk_sub, pk_div, nI_rem, gG_in]
    by_cases h : 7 ≤ n
    · have : n = 7 := by omega
      subst this
      rw [if_pos h]
    · rw [if_neg h]
      simp only [gLet]
      refine ih (7 - (n + 1)) _ _ (by omega) ⟨n + 1, by omega, rfl, rfl, ?_⟩
      unfold gU
      refine congrArg (fun z => (z, w.2)) (funext fun c => funext fun i => ?_)
      by_cases hc : c = 3
      · rw [if_pos hc, if_pos hc]
        dsimp only
        rw [if_pos hc]
        by_cases hi : i = n * 10 + j
        · rw [if_pos hi, if_pos (by omega)]
        · rw [if_neg hi]
          by_cases h2 : i < 10 * n ∧ i % 10 = j
          · rw [if_pos h2, if_pos (by omega)]
          · rw [if_neg h2, if_neg (by omega)]
      · rw [if_neg hc, if_neg hc]
        dsimp only
        rw [if_neg hc]
  · refine Prod.ext (funext fun c => funext fun i => ?_) rfl
    show w.1 c i = if c = 3 then (if i < 10 * 0 ∧ i % 10 = j then nI 255 else w.1 3 i) else w.1 c i
    by_cases hc : c = 3
    · rw [if_pos hc, if_neg (by omega), hc]
    · rw [if_neg hc]
theorem m_tellBeds {N : Nat} (hN : 5000 ≤ N) {j : Nat} (hj : j < 10) (w : gT) : gW1 (xX10_sleeper_b43 (nI j)) N (nI 0) w = some (nI 1, gU ((fun c i => if c = 3 then (if i < 70 ∧ i % 10 = j then nI 255 else w.1 3 i) else w.1 c i), w.2) 8 (10 + j) (nI 0)) := by
  refine gW1_ind (fun t => t = some (nI 1, gU ((fun c i => if c = 3 then (if i < 70 ∧ i % 10 = j then nI 255 else w.1 3 i) else w.1 c i), w.2) 8 (10 + j) (nI 0))) (fun m a w1 => ∃ n, n ≤ 7 ∧ a = nI n ∧ m = 7 - n ∧ w1 = ((fun c i => if c = 3 then (if i < 10 * n ∧ i % 10 = j then nI 255 else w.1 3 i) else w.1 c i), w.2)) ?_ N 7 _ w (by omega) ⟨0, by omega, rfl, by omega, ?_⟩
  · rintro m go a w1 ⟨n, hn, rfl, rfl, rfl⟩ ih
    unfold xX10_sleeper_b43
    simp (disch := omega) only [nI_add, nI_mul, nI_clamp, nI_leI, nI_ltI, nI_eq, pk_sub, pk_div, nI_rem, gG_in]
    by_cases h : 7 ≤ n
    · have : n = 7 := by omega
      subst this
      rw [if_pos h]
      simp only [gLet]
    · rw [if_neg h]
      simp only [gLet]
      refine ih (7 - (n + 1)) _ _ (by omega) ⟨n + 1, by omega, rfl, rfl, ?_⟩
      unfold gU
      refine congrArg (fun z => (z, w.2)) (funext fun c => funext fun i => ?_)
      by_cases hc : c = 3
      · rw [if_pos hc, if_pos hc]
        dsimp only
        rw [if_pos hc]
        by_cases hi : i = 10 * n + j
        · rw [if_pos hi, if_pos (by omega)]
        · rw [if_neg hi]
          by_cases h2 : i < 10 * n ∧ i % 10 = j
          · rw [if_pos h2, if_pos (by omega)]
          · rw [if_neg h2, if_neg (by omega)]
      · rw [if_neg hc, if_neg hc]
        dsimp only
        rw [if_neg hc]
  · refine Prod.ext (funext fun c => funext fun i => ?_) rfl
    show w.1 c i = if c = 3 then (if i < 10 * 0 ∧ i % 10 = j then nI 255 else w.1 3 i) else w.1 c i
    by_cases hc : c = 3
    · rw [if_pos hc, if_neg (by omega), hc]
    · rw [if_neg hc]
