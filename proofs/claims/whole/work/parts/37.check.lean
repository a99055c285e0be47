theorem shl_bv (x : Int32) {k : Nat} (hk : ((nI k &&& 31).toBitVec.smod 32).toNat = k) : (gShl x (nI k)).toBitVec = x.toBitVec <<< k := by
  refine BitVec.eq_of_toNat_eq ?_
  unfold gShl
  rw [pk_shl x _ k hk, BitVec.toNat_shiftLeft, Nat.shiftLeft_eq]
theorem four_bytes (a b c d : Int32) : gShl (gShl (gShl (gShl (nI 0) (nI 8) ||| a) (nI 8) ||| b) (nI 8) ||| c) (nI 8) ||| d = ((gShl a (nI 24) ||| gShl b (nI 16)) ||| gShl c (nI 8)) ||| d := by
  have e8 : ∀ x : Int32, (gShl x (nI 8)).toBitVec = x.toBitVec <<< 8 := fun x => shl_bv x (by decide)
  have e16 : ∀ x : Int32, (gShl x (nI 16)).toBitVec = x.toBitVec <<< 16 := fun x => shl_bv x (by decide)
  have e24 : ∀ x : Int32, (gShl x (nI 24)).toBitVec = x.toBitVec <<< 24 := fun x => shl_bv x (by decide)
  have z : gShl (nI 0) (nI 8) = nI 0 := by decide
  have z2 : (nI 0).toBitVec = 0#32 := rfl
  rw [z]
  refine Int32.toBitVec_inj.mp ?_
  simp only [Int32.toBitVec_or, e8, e16, e24, z2, BitVec.shiftLeft_or_distrib, BitVec.zero_or, ← BitVec.shiftLeft_add]
theorem x_numberAt (w : gT) {v : Nat} (hv : v < 50) : xX6_numberAt (nI 4 * nI v) w = some (((gShl (w.1 20 (4 * v)) (nI 24) ||| gShl (w.1 20 (4 * v + 1)) (nI 16)) ||| gShl (w.1 20 (4 * v + 2)) (nI 8)) ||| w.1 20 (4 * v + 3), w) := by
  unfold xX6_numberAt
  simp (disch := omega) only [nI_add, nI_mul, nI_clamp, nI_leI, nI_ltI, nI_eq, pk_sub, pk_div, nI_rem, gG_in]
  rw [if_neg (by omega), if_pos (by omega)]
theorem gW2_s {α : Type} {f : (Int32 → Int32 → gT → Option α) → Int32 → Int32 → gT → Option α} {n : Nat} {x y : Int32} {w : gT} : gW2 f (n + 1) x y w = f (gW2 f n) x y w := rfl
theorem m_tn1 {v i : Nat} (hv : v < 50) (hi : i < 4 * v + 4) (go : Int32 → Int32 → gT → Option (Int32 × gT)) (x : Int32) (w : gT) : xX10_tapeNumber_b6 (nI v) go x (nI i) w = go (gShl x (nI 8) ||| (w.1 9 i &&& nI 255)) (nI (i + 1)) w := by
  unfold xX10_tapeNumber_b6
  simp (disch := omega) only [nI_add, nI_mul, nI_clamp, nI_leI, nI_ltI, nI_eq, pk_sub, pk_div, nI_rem, gG_in]
  rw [if_neg (by omega), gLet_s]
theorem m_tapeNumber {N : Nat} (hN : 5000 ≤ N) {σ : sT} {w : gT} (hM : EncM N σ w) {v : Nat} (hv : v < 50) : xX10_tapeNumber N (nI v) w = some (((gShl (σ.1 20 (4 * v)) (nI 24) ||| gShl (σ.1 20 (4 * v + 1)) (nI 16)) ||| gShl (σ.1 20 (4 * v + 2)) (nI 8)) ||| σ.1 20 (4 * v + 3), w) := by
  obtain ⟨m, e⟩ : ∃ m, N = m + 1 + 1 + 1 + 1 + 1 := ⟨N - 5, by omega⟩
  unfold xX10_tapeNumber
  rw [nI_mul, gLet_s, e, gW2_s, m_tn1 hv (by omega), gW2_s, m_tn1 hv (by omega), gW2_s, m_tn1 hv (by omega), gW2_s, m_tn1 hv (by omega), gW2_s]
  have T := hM.2.2.2.1
  rw [T, T, T, T, four_bytes]
  unfold xX10_tapeNumber_b6
  simp (disch := omega) only [nI_add, nI_mul, nI_clamp, nI_leI, nI_ltI, nI_eq, pk_sub, pk_div, nI_rem, gG_in]
  rw [if_pos (by omega)]
theorem o_check {N : Nat} (hN : 5000 ≤ N) {wx wm : gT} (h : Rel N wx wm) (a : Int32) : OpOk N (xX9_check N a wx) (xX10_check N a wm) := by
  obtain ⟨D, hR, h2, hM, h4⟩ := h.nf
  obtain ⟨t, ht, et⟩ := tape_at hR
  have et : wx.1 19 1 = nI t := et
  have em : wm.1 0 14 = nI t := hM.tp.trans et
  unfold xX9_check xX10_check
  rw [et]
  rcases in_or a 11 (by omega) with ⟨j, hj, rfl⟩ | q
  · rw [m_in1 (by omega) (by omega) (by omega), gBi_s, if_neg nI_10, em, if_neg (show ¬ nI j < nI 0 by rw [nI_ltI (by omega) (by omega)]; omega), if_neg (show ¬ nI 10 < nI j by rw [nI_ltI (by omega) (by omega)]; omega), nI_mul, pk_div (by omega) (by omega) (by omega)]
    by_cases q : 4 * j ≤ t
    · rw [if_pos (show nI (4 * j) ≤ nI t by rw [nI_leI (by omega) (by omega)]; omega), if_pos (show nI j ≤ nI (t / 4) by rw [nI_leI (by omega) (by omega)]; omega), gLet_s]
      unfold xX6_open
      rw [gLet_s, gLet_s, gLet_s, gLet_s, gBv_s]
      have hr : Rel N (gU (gU (gU (gU wx 19 2 (nI (4 * j))) 19 1 (nI 0)) 19 3 (nI 0)) 19 4 (nI 0)) (gU wm 0 14 (nI 0)) := by
        obtain ⟨R1, R2, R3, ⟨t1, t2⟩, R5⟩ := hR
        obtain ⟨E1, E2, ⟨c1, c2, c3, c4, c5, c6⟩, T⟩ := hM
        exact Rel.mk (D := D) ⟨R1, R2, R3, ⟨⟨0, by omega, rfl⟩, t2⟩, R5⟩ h2 ⟨E1, E2, ⟨c1, c2, c3, c4, rfl, c6⟩, T⟩ h4
      clear h2 hM hR h4 et em
      revert hr
      generalize gU (gU (gU (gU wx 19 2 (nI (4 * j))) 19 1 (nI 0)) 19 3 (nI 0)) 19 4 (nI 0) = wx1
      generalize gU wm 0 14 (nI 0) = wm1
      intro hr
      obtain ⟨D, hR, h2, hM, h4⟩ := hr.nf
      refine gW11 (OpOk N) (fun m x w y v => ∃ i, i ≤ j ∧ x = nI i ∧ y = nI i ∧ m = j - i ∧ w = wx1 ∧ v = wm1) ?_ N j _ _ _ _ (by omega) ⟨0, by omega, rfl, rfl, rfl, rfl, rfl⟩
      rintro m go go' x w y v ⟨i, hi, rfl, rfl, rfl, rfl, rfl⟩ ih
      unfold xX9_check_b38 xX10_check_b30
      by_cases q : j ≤ i
      · rw [if_pos (show nI j ≤ nI i by rw [nI_leI (by omega) (by omega)]; omega), if_pos (show nI j ≤ nI i by rw [nI_leI (by omega) (by omega)]; omega)]
        exact OpOk.o hr
      · rw [if_neg (show ¬ nI j ≤ nI i by rw [nI_leI (by omega) (by omega)]; omega), if_neg (show ¬ nI j ≤ nI i by rw [nI_leI (by omega) (by omega)]; omega), gLet_s, gLet_s, m_tapeNumber hN hM (by omega), gBi_s, m_isSleeper _ (by omega), gBi_s, x_hasSleeper _ (by omega), gBi_s, ifb, ifb, hM.sl, nI_add, gG_in (by omega) (by omega), gG_in (by omega) (by omega), nI_clamp (by omega)]
        have key : ∀ e : Int32, OpOk N (gBi (xX6_numberAt (nI 4 * nI i) w) fun v8 w9 => if v8 = e then go (nI i + nI 1) w9 else some (nI i, w9)) (if (((gShl (w.1 20 (4 * i)) (nI 24) ||| gShl (w.1 20 (4 * i + 1)) (nI 16)) ||| gShl (w.1 20 (4 * i + 2)) (nI 8)) ||| w.1 20 (4 * i + 3)) = e then go' (nI i + nI 1) v else some (nI i, v)) := by
          intro e
          rw [x_numberAt w (by omega), gBi_s, nI_add]
          by_cases q2 : (((gShl (w.1 20 (4 * i)) (nI 24) ||| gShl (w.1 20 (4 * i + 1)) (nI 16)) ||| gShl (w.1 20 (4 * i + 2)) (nI 8)) ||| w.1 20 (4 * i + 3)) = e
          · rw [if_pos q2, if_pos q2]
            exact ih (j - (i + 1)) _ _ _ _ (by omega) ⟨i + 1, by omega, rfl, rfl, rfl, rfl, rfl⟩
          · rw [if_neg q2, if_neg q2]
            exact OpOk.o hr
        by_cases q2 : tol (w.1 1 9) i
        · rw [if_pos q2, if_pos q2, show v.1 8 (10 + i) = w.1 9 (10 + i) from hM.1.2.2.2.2.2.2.2.1 (10 + i) (by omega) (by omega)]
          exact key _
        · rw [if_neg q2, if_neg q2]
          exact key _
    · rw [if_neg (show ¬ nI (4 * j) ≤ nI t by rw [nI_leI (by omega) (by omega)]; omega), if_neg (show ¬ nI j ≤ nI (t / 4) by rw [nI_leI (by omega) (by omega)]; omega)]
      exact OpOk.o h
  · rw [m_in0 (by omega) q (by omega), gBi_s, if_pos rfl]
    by_cases q1 : a < nI 0
    · rw [if_pos q1]
      exact OpOk.o h
    · rw [if_neg q1, if_pos (lt_of_le1 (by omega) (q.resolve_left q1))]
      exact OpOk.o h
