theorem cpy_loop {N : Nat} (hN : 5000 ≤ N) {F : (Int32 → gT → Option gT) → Int32 → gT → Option gT} {a b l : Nat} (hab : a ≠ b) (hl : l < 100) (w : gT) (hF : ∀ go n w, n ≤ l → F go (nI n) w = if l ≤ n then some w else go (nI (n + 1)) (gU w b n (w.1 a n))) : gW1 F N (nI 0) w = some (gCpy w a b l) := by
  refine gW1_ind (fun t => t = some (gCpy w a b l)) (fun m x w1 => ∃ n, n ≤ l ∧ x = nI n ∧ m = l - n ∧ w1 = gCpy w a b n) ?_ N l _ w (by omega) ⟨0, by omega, rfl, rfl, ?_⟩
  · rintro m go x w1 ⟨n, hn, rfl, rfl, rfl⟩ ih
    rw [hF _ _ _ hn]
    by_cases h : l ≤ n
    · have : n = l := by omega
      subst this
      rw [if_pos h]
    · rw [if_neg h]
      refine ih (l - (n + 1)) _ _ (by omega) ⟨n + 1, by omega, rfl, rfl, ?_⟩
      unfold gU gCpy gUA
      dsimp only
      rw [if_neg hab]
      refine congrArg (fun z => (z, w.2)) (funext fun c => funext fun i => ?_)
      by_cases hc : c = b
      · rw [if_pos hc, if_pos hc]
        by_cases hi : i = n
        · rw [if_pos hi, hi, if_pos hc]; exact (if_pos (show n < n + 1 by omega)).symm
        · rw [if_neg hi, if_pos hc]
          by_cases h2 : i < n
          · rw [if_pos h2, if_pos (by omega)]
          · rw [if_neg h2, if_neg (by omega)]
      · rw [if_neg hc, if_neg hc, if_neg hc]
  · refine Prod.ext (funext fun c => funext fun i => ?_) rfl
    show w.1 c i = (if c = b then (fun k => if k < 0 then w.1 a k else w.1 b k) else w.1 c) i
    by_cases hc : c = b
    · rw [if_pos hc]
      show w.1 c i = if i < 0 then w.1 a i else w.1 b i
      rw [if_neg (by omega), hc]
    · rw [if_neg hc]
theorem m_copies_ {N : Nat} (hN : 5000 ≤ N) (w : gT) : xX10_copies N (nI 12) w = some (gCpy w 1 40 12) := by
  unfold xX10_copies
  refine cpy_loop hN (by omega) (by omega) w (fun go n w1 hn => ?_)
  unfold xX10_copies_b2
  simp (disch := omega) only [nI_add, nI_mul, nI_clamp, nI_leI, nI_ltI, nI_eq, pk_sub, pk_div, nI_rem, gG_in]
  by_cases h : 12 ≤ n
  · rw [if_pos h, if_pos h]
  · rw [if_neg h, if_neg h, gLet_s]
theorem m_copies_2_41 {N : Nat} (hN : 5000 ≤ N) (w : gT) : xX10_copies_2_41 N (nI 10) w = some (gCpy w 2 41 10) := by
  unfold xX10_copies_2_41
  refine cpy_loop hN (by omega) (by omega) w (fun go n w1 hn => ?_)
  unfold xX10_copies_2_41_b2
  simp (disch := omega) only [nI_add, nI_mul, nI_clamp, nI_leI, nI_ltI, nI_eq, pk_sub, pk_div, nI_rem, gG_in]
  by_cases h : 10 ≤ n
  · rw [if_pos h, if_pos h]
  · rw [if_neg h, if_neg h, gLet_s]
theorem m_copies_3_42 {N : Nat} (hN : 5000 ≤ N) (w : gT) : xX10_copies_3_42 N (nI 70) w = some (gCpy w 3 42 70) := by
  unfold xX10_copies_3_42
  refine cpy_loop hN (by omega) (by omega) w (fun go n w1 hn => ?_)
  unfold xX10_copies_3_42_b2
  simp (disch := omega) only [nI_add, nI_mul, nI_clamp, nI_leI, nI_ltI, nI_eq, pk_sub, pk_div, nI_rem, gG_in]
  by_cases h : 70 ≤ n
  · rw [if_pos h, if_pos h]
  · rw [if_neg h, if_neg h, gLet_s]
theorem m_copies_4_43 {N : Nat} (hN : 5000 ≤ N) (w : gT) : xX10_copies_4_43 N (nI 10) w = some (gCpy w 4 43 10) := by
  unfold xX10_copies_4_43
  refine cpy_loop hN (by omega) (by omega) w (fun go n w1 hn => ?_)
  unfold xX10_copies_4_43_b2
  simp (disch := omega) only [nI_add, nI_mul, nI_clamp, nI_leI, nI_ltI, nI_eq, pk_sub, pk_div, nI_rem, gG_in]
  by_cases h : 10 ≤ n
  · rw [if_pos h, if_pos h]
  · rw [if_neg h, if_neg h, gLet_s]
theorem m_copies_5_44 {N : Nat} (hN : 5000 ≤ N) (w : gT) : xX10_copies_5_44 N (nI 10) w = some (gCpy w 5 44 10) := by
  unfold xX10_copies_5_44
  refine cpy_loop hN (by omega) (by omega) w (fun go n w1 hn => ?_)
  unfold xX10_copies_5_44_b2
  simp (disch := omega) only [nI_add, nI_mul, nI_clamp, nI_leI, nI_ltI, nI_eq, pk_sub, pk_div, nI_rem, gG_in]
  by_cases h : 10 ≤ n
  · rw [if_pos h, if_pos h]
  · rw [if_neg h, if_neg h, gLet_s]
theorem m_copies_6_45 {N : Nat} (hN : 5000 ≤ N) (w : gT) : xX10_copies_6_45 N (nI 10) w = some (gCpy w 6 45 10) := by
  unfold xX10_copies_6_45
  refine cpy_loop hN (by omega) (by omega) w (fun go n w1 hn => ?_)
  unfold xX10_copies_6_45_b2
  simp (disch := omega) only [nI_add, nI_mul, nI_clamp, nI_leI, nI_ltI, nI_eq, pk_sub, pk_div, nI_rem, gG_in]
  by_cases h : 10 ≤ n
  · rw [if_pos h, if_pos h]
  · rw [if_neg h, if_neg h, gLet_s]
theorem m_copies_7_46 {N : Nat} (hN : 5000 ≤ N) (w : gT) : xX10_copies_7_46 N (nI 10) w = some (gCpy w 7 46 10) := by
  unfold xX10_copies_7_46
  refine cpy_loop hN (by omega) (by omega) w (fun go n w1 hn => ?_)
  unfold xX10_copies_7_46_b2
  simp (disch := omega) only [nI_add, nI_mul, nI_clamp, nI_leI, nI_ltI, nI_eq, pk_sub, pk_div, nI_rem, gG_in]
  by_cases h : 10 ≤ n
  · rw [if_pos h, if_pos h]
  · rw [if_neg h, if_neg h, gLet_s]
theorem m_copies_8_47 {N : Nat} (hN : 5000 ≤ N) (w : gT) : xX10_copies_8_47 N (nI 47) w = some (gCpy w 8 47 47) := by
  unfold xX10_copies_8_47
  refine cpy_loop hN (by omega) (by omega) w (fun go n w1 hn => ?_)
  unfold xX10_copies_8_47_b2
  simp (disch := omega) only [nI_add, nI_mul, nI_clamp, nI_leI, nI_ltI, nI_eq, pk_sub, pk_div, nI_rem, gG_in]
  by_cases h : 47 ≤ n
  · rw [if_pos h, if_pos h]
  · rw [if_neg h, if_neg h, gLet_s]
theorem m_copies_40_1 {N : Nat} (hN : 5000 ≤ N) (w : gT) : xX10_copies_40_1 N (nI 12) w = some (gCpy w 40 1 12) := by
  unfold xX10_copies_40_1
  refine cpy_loop hN (by omega) (by omega) w (fun go n w1 hn => ?_)
  unfold xX10_copies_40_1_b2
  simp (disch := omega) only [nI_add, nI_mul, nI_clamp, nI_leI, nI_ltI, nI_eq, pk_sub, pk_div, nI_rem, gG_in]
  by_cases h : 12 ≤ n
  · rw [if_pos h, if_pos h]
  · rw [if_neg h, if_neg h, gLet_s]
theorem m_copies_41_2 {N : Nat} (hN : 5000 ≤ N) (w : gT) : xX10_copies_41_2 N (nI 10) w = some (gCpy w 41 2 10) := by
  unfold xX10_copies_41_2
  refine cpy_loop hN (by omega) (by omega) w (fun go n w1 hn => ?_)
  unfold xX10_copies_41_2_b2
  simp (disch := omega) only [nI_add, nI_mul, nI_clamp, nI_leI, nI_ltI, nI_eq, pk_sub, pk_div, nI_rem, gG_in]
  by_cases h : 10 ≤ n
  · rw [if_pos h, if_pos h]
  · rw [if_neg h, if_neg h, gLet_s]
theorem m_copies_42_3 {N : Nat} (hN : 5000 ≤ N) (w : gT) : xX10_copies_42_3 N (nI 70) w = some (gCpy w 42 3 70) := by
  unfold xX10_copies_42_3
  refine cpy_loop hN (by omega) (by omega) w (fun go n w1 hn => ?_)
  unfold xX10_copies_42_3_b2
  simp (disch := omega) only [nI_add, nI_mul, nI_clamp, nI_leI, nI_ltI, nI_eq, pk_sub, pk_div, nI_rem, gG_in]
  by_cases h : 70 ≤ n
  · rw [if_pos h, if_pos h]
  · rw [if_neg h, if_neg h, gLet_s]
theorem m_copies_43_4 {N : Nat} (hN : 5000 ≤ N) (w : gT) : xX10_copies_43_4 N (nI 10) w = some (gCpy w 43 4 10) := by
  unfold xX10_copies_43_4
  refine cpy_loop hN (by omega) (by omega) w (fun go n w1 hn => ?_)
  unfold xX10_copies_43_4_b2
  simp (disch := omega) only [nI_add, nI_mul, nI_clamp, nI_leI, nI_ltI, nI_eq, pk_sub, pk_div, nI_rem, gG_in]
  by_cases h : 10 ≤ n
  · rw [if_pos h, if_pos h]
  · rw [if_neg h, if_neg h, gLet_s]
theorem m_copies_44_5 {N : Nat} (hN : 5000 ≤ N) (w : gT) : xX10_copies_44_5 N (nI 10) w = some (gCpy w 44 5 10) := by
  unfold xX10_copies_44_5
  refine cpy_loop hN (by omega) (by omega) w (fun go n w1 hn => ?_)
  unfold xX10_copies_44_5_b2
  simp (disch := omega) only [nI_add, nI_mul, nI_clamp, nI_leI, nI_ltI, nI_eq, pk_sub, pk_div, nI_rem, gG_in]
  by_cases h : 10 ≤ n
  · rw [if_pos h, if_pos h]
  · rw [if_neg h, if_neg h, gLet_s]
theorem m_copies_45_6 {N : Nat} (hN : 5000 ≤ N) (w : gT) : xX10_copies_45_6 N (nI 10) w = some (gCpy w 45 6 10) := by
  unfold xX10_copies_45_6
  refine cpy_loop hN (by omega) (by omega) w (fun go n w1 hn => ?_)
  unfold xX10_copies_45_6_b2
  simp (disch := omega) only [nI_add, nI_mul, nI_clamp, nI_leI, nI_ltI, nI_eq, pk_sub, pk_div, nI_rem, gG_in]
  by_cases h : 10 ≤ n
  · rw [if_pos h, if_pos h]
  · rw [if_neg h, if_neg h, gLet_s]
theorem m_copies_46_7 {N : Nat} (hN : 5000 ≤ N) (w : gT) : xX10_copies_46_7 N (nI 10) w = some (gCpy w 46 7 10) := by
  unfold xX10_copies_46_7
  refine cpy_loop hN (by omega) (by omega) w (fun go n w1 hn => ?_)
  unfold xX10_copies_46_7_b2
  simp (disch := omega) only [nI_add, nI_mul, nI_clamp, nI_leI, nI_ltI, nI_eq, pk_sub, pk_div, nI_rem, gG_in]
  by_cases h : 10 ≤ n
  · rw [if_pos h, if_pos h]
  · rw [if_neg h, if_neg h, gLet_s]
theorem m_copies_47_8 {N : Nat} (hN : 5000 ≤ N) (w : gT) : xX10_copies_47_8 N (nI 47) w = some (gCpy w 47 8 47) := by
  unfold xX10_copies_47_8
  refine cpy_loop hN (by omega) (by omega) w (fun go n w1 hn => ?_)
  unfold xX10_copies_47_8_b2
  simp (disch := omega) only [nI_add, nI_mul, nI_clamp, nI_leI, nI_ltI, nI_eq, pk_sub, pk_div, nI_rem, gG_in]
  by_cases h : 47 ≤ n
  · rw [if_pos h, if_pos h]
  · rw [if_neg h, if_neg h, gLet_s]
def cpF (f g : Nat → Int32) (n : Nat) : Nat → Int32 := fun k => if k < n then f k else g k
theorem cpF_lt {f g : Nat → Int32} {n : Nat} {P : Int32 → Prop} (h : ∀ i, i < n → P (f i)) : ∀ i, i < n → P (cpF f g n i) := fun i hi => by
  unfold cpF
  rw [if_pos hi]
  exact h i hi
theorem x_copy1 (w : gT) : ∃ w', xX2_copy w = some w' ∧ (w'.1 11 = cpF (w.1 2) (w.1 11) 12 ∧ w'.1 12 = cpF (w.1 3) (w.1 12) 70 ∧ w'.1 13 = cpF (w.1 4) (w.1 13) 10 ∧ w'.1 14 = cpF (w.1 5) (w.1 14) 10 ∧ w'.1 15 = cpF (w.1 6) (w.1 15) 10 ∧ w'.1 16 = cpF (w.1 7) (w.1 16) 10 ∧ w'.1 17 = cpF (w.1 8) (w.1 17) 10 ∧ w'.1 18 = cpF (w.1 9) (w.1 18) 40) ∧ (w'.1 10 8 = w.1 1 8 ∧ w'.1 10 9 = w.1 1 9 ∧ w'.1 10 10 = w.1 1 10 ∧ w'.1 10 11 = w.1 1 11 ∧ w'.1 10 12 = w.1 1 12 ∧ w'.1 10 13 = w.1 1 13) ∧ SmC [10, 11, 12, 13, 14, 15, 16, 17, 18] w w' := by
  unfold xX2_copy
  refine ⟨_, rfl, ⟨rfl, rfl, rfl, rfl, rfl, rfl, rfl, rfl⟩, ⟨rfl, rfl, rfl, rfl, rfl, rfl⟩, ?_⟩
  have hc : ∀ (w : gT) (a b n : Nat), b ∈ [10, 11, 12, 13, 14, 15, 16, 17, 18] → SmC [10, 11, 12, 13, 14, 15, 16, 17, 18] w (gCpy w a b n) := fun w a b n h => SmC.UA h
  exact (hc _ _ _ _ (by decide)).tr ((hc _ _ _ _ (by decide)).tr ((hc _ _ _ _ (by decide)).tr ((hc _ _ _ _ (by decide)).tr ((hc _ _ _ _ (by decide)).tr ((hc _ _ _ _ (by decide)).tr ((hc _ _ _ _ (by decide)).tr ((hc _ _ _ _ (by decide)).tr ((SmC.U (by decide)).tr ((SmC.U (by decide)).tr ((SmC.U (by decide)).tr ((SmC.U (by decide)).tr ((SmC.U (by decide)).tr (SmC.U (by decide))))))))))))))
theorem x_copy2 (w : gT) : ∃ w', xX2_copy_1_10 w = some w' ∧ (w'.1 2 = cpF (w.1 11) (w.1 2) 12 ∧ w'.1 3 = cpF (w.1 12) (w.1 3) 70 ∧ w'.1 4 = cpF (w.1 13) (w.1 4) 10 ∧ w'.1 5 = cpF (w.1 14) (w.1 5) 10 ∧ w'.1 6 = cpF (w.1 15) (w.1 6) 10 ∧ w'.1 7 = cpF (w.1 16) (w.1 7) 10 ∧ w'.1 8 = cpF (w.1 17) (w.1 8) 10 ∧ w'.1 9 = cpF (w.1 18) (w.1 9) 40) ∧ (w'.1 1 8 = w.1 10 8 ∧ w'.1 1 9 = w.1 10 9 ∧ w'.1 1 10 = w.1 10 10 ∧ w'.1 1 11 = w.1 10 11 ∧ w'.1 1 12 = w.1 10 12 ∧ w'.1 1 13 = w.1 10 13) ∧ SmC [1, 2, 3, 4, 5, 6, 7, 8, 9] w w' := by
  unfold xX2_copy_1_10
  refine ⟨_, rfl, ⟨rfl, rfl, rfl, rfl, rfl, rfl, rfl, rfl⟩, ⟨rfl, rfl, rfl, rfl, rfl, rfl⟩, ?_⟩
  have hc : ∀ (w : gT) (a b n : Nat), b ∈ [1, 2, 3, 4, 5, 6, 7, 8, 9] → SmC [1, 2, 3, 4, 5, 6, 7, 8, 9] w (gCpy w a b n) := fun w a b n h => SmC.UA h
  exact (hc _ _ _ _ (by decide)).tr ((hc _ _ _ _ (by decide)).tr ((hc _ _ _ _ (by decide)).tr ((hc _ _ _ _ (by decide)).tr ((hc _ _ _ _ (by decide)).tr ((hc _ _ _ _ (by decide)).tr ((hc _ _ _ _ (by decide)).tr ((hc _ _ _ _ (by decide)).tr ((SmC.U (by decide)).tr ((SmC.U (by decide)).tr ((SmC.U (by decide)).tr ((SmC.U (by decide)).tr ((SmC.U (by decide)).tr (SmC.U (by decide))))))))))))))
theorem m_keep1 {N : Nat} (hN : 5000 ≤ N) (w : gT) : ∃ w', xX10_keep N w = some (w'.1 8 5, w') ∧ (w'.1 40 = cpF (w.1 1) (w.1 40) 12 ∧ w'.1 41 = cpF (w.1 2) (w.1 41) 10 ∧ w'.1 42 = cpF (w.1 3) (w.1 42) 70 ∧ w'.1 43 = cpF (w.1 4) (w.1 43) 10 ∧ w'.1 44 = cpF (w.1 5) (w.1 44) 10 ∧ w'.1 45 = cpF (w.1 6) (w.1 45) 10 ∧ w'.1 46 = cpF (w.1 7) (w.1 46) 10 ∧ w'.1 47 = cpF (w.1 8) (w.1 47) 47) ∧ (w'.1 0 56 = nI 1 ∧ w'.1 0 57 = w.1 0 0 ∧ w'.1 0 58 = w.1 0 1 ∧ w'.1 0 59 = w.1 0 2 ∧ w'.1 0 60 = w.1 0 3 ∧ w'.1 0 61 = w.1 0 4) ∧ (∀ i, i < 56 → w'.1 0 i = w.1 0 i) ∧ ∀ c, 1 ≤ c → c < 40 → w'.1 c = w.1 c := by
  unfold xX10_keep
  rw [gLet_s, gLet_s, gLet_s, gLet_s, gLet_s, gLet_s, m_copies_ hN, gBv_s, m_copies_2_41 hN, gBv_s, m_copies_3_42 hN, gBv_s, m_copies_4_43 hN, gBv_s, m_copies_5_44 hN, gBv_s, m_copies_6_45 hN, gBv_s, m_copies_7_46 hN, gBv_s, m_copies_8_47 hN, gBv_s]
  refine ⟨_, rfl, ⟨rfl, rfl, rfl, rfl, rfl, rfl, rfl, rfl⟩, ⟨rfl, rfl, rfl, rfl, rfl, rfl⟩, fun i hi => ?_, fun c h1 h2 => ?_⟩
  · unfold gCpy gUA gU
    simp [show ¬ i = 56 by omega, show ¬ i = 57 by omega, show ¬ i = 58 by omega, show ¬ i = 59 by omega, show ¬ i = 60 by omega, show ¬ i = 61 by omega]
  · unfold gCpy gUA gU
    simp [show ¬ c = 0 by omega, show ¬ c = 40 by omega, show ¬ c = 41 by omega, show ¬ c = 42 by omega, show ¬ c = 43 by omega, show ¬ c = 44 by omega, show ¬ c = 45 by omega, show ¬ c = 46 by omega, show ¬ c = 47 by omega]
theorem m_undo1 {N : Nat} (hN : 5000 ≤ N) (w : gT) : ∃ w', xX10_undo N w = (if w.1 0 56 = nI 0 then some (nI 0, w) else some (nI 1, w')) ∧ (w'.1 1 = cpF (w.1 40) (w.1 1) 12 ∧ w'.1 2 = cpF (w.1 41) (w.1 2) 10 ∧ w'.1 3 = cpF (w.1 42) (w.1 3) 70 ∧ w'.1 4 = cpF (w.1 43) (w.1 4) 10 ∧ w'.1 5 = cpF (w.1 44) (w.1 5) 10 ∧ w'.1 6 = cpF (w.1 45) (w.1 6) 10 ∧ w'.1 7 = cpF (w.1 46) (w.1 7) 10 ∧ w'.1 8 = cpF (w.1 47) (w.1 8) 47) ∧ (w'.1 0 0 = w.1 0 57 ∧ w'.1 0 1 = w.1 0 58 ∧ w'.1 0 2 = w.1 0 59 ∧ w'.1 0 3 = w.1 0 60 ∧ w'.1 0 4 = w.1 0 61) ∧ (∀ i, 4 < i → w'.1 0 i = w.1 0 i) ∧ ∀ c, 8 < c → w'.1 c = w.1 c := by
  unfold xX10_undo
  rw [gLet_s, gLet_s, gLet_s, gLet_s, gLet_s, m_copies_40_1 hN, gBv_s, m_copies_41_2 hN, gBv_s, m_copies_42_3 hN, gBv_s, m_copies_43_4 hN, gBv_s, m_copies_44_5 hN, gBv_s, m_copies_45_6 hN, gBv_s, m_copies_46_7 hN, gBv_s, m_copies_47_8 hN, gBv_s]
  refine ⟨_, rfl, ⟨rfl, rfl, rfl, rfl, rfl, rfl, rfl, rfl⟩, ⟨rfl, rfl, rfl, rfl, rfl⟩, fun i hi => ?_, fun c h1 => ?_⟩
  · unfold gCpy gUA gU
    simp [show ¬ i = 0 by omega, show ¬ i = 1 by omega, show ¬ i = 2 by omega, show ¬ i = 3 by omega, show ¬ i = 4 by omega]
  · unfold gCpy gUA gU
    simp [show ¬ c = 0 by omega, show ¬ c = 1 by omega, show ¬ c = 2 by omega, show ¬ c = 3 by omega, show ¬ c = 4 by omega, show ¬ c = 5 by omega, show ¬ c = 6 by omega, show ¬ c = 7 by omega, show ¬ c = 8 by omega]
