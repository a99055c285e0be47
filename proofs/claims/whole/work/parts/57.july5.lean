theorem m1_add {c : Nat} (hc : 0 < c) (h : c < 2 ^ 30) : nI c + (-1) = nI (c - 1) := by
  have e1 : ((-1) : Int32) = - nI 1 := by decide
  rw [e1, ← Int32.sub_eq_add_neg, pk_sub (by omega)]
theorem m_laysJuly {N : Nat} (hN : 5000 ≤ N) {σ : sT} {w : gT} {A : Nat} (hA : A ≤ 8) (hA0 : 0 < A) (hW : Wts σ A w) : ∃ w', xX10_laysJuly N (nI A) w = some w' ∧ SmC [37] w w' ∧ Tab σ A 0 w' := by
  unfold xX10_laysJuly
  rw [gLet_s]
  refine gW1_ind (fun (t : Option gT) => ∃ w' : gT, t = some w' ∧ SmC [37] w w' ∧ Tab σ A 0 w') (fun z x w1 => ∃ m, m ≤ 4096 ∧ x = nI m ∧ z = 4096 - m ∧ SmC [37] w w1 ∧ ∀ q, q < m → w1.1 37 (4096 * A + q) = nI 0) ?_ N 4096 _ w (by omega) ⟨0, by omega, rfl, rfl, SmC.rf, fun q h => by omega⟩
  rintro z go x w1 ⟨m, hm, rfl, rfl, hs, hv⟩ ih
  unfold xX10_laysJuly_b2
  by_cases q : 4096 ≤ m
  · have hT0 : Tab σ A A w1 := fun i p h1 h2 h3 => by
      have e : i = A := by omega
      rw [e, hv p (by omega), Nat.sub_self]
      rfl
    rw [if_pos (yle (by omega) (by omega) q)]
    try dsimp only
    rw [gLet_s, pk_sub (by omega)]
    refine gW1_ind (fun (t : Option gT) => ∃ w' : gT, t = some w' ∧ SmC [37] w w' ∧ Tab σ A 0 w') (fun z x w2 => ∃ c, c ≤ A ∧ z = c ∧ ((c = 0 ∧ x = (-1)) ∨ (0 < c ∧ x = nI (c - 1))) ∧ SmC [37] w w2 ∧ Tab σ A c w2) ?_ N A _ w1 (by omega) ⟨A, by omega, rfl, Or.inr ⟨hA0, rfl⟩, hs, hT0⟩
    rintro z go2 x w2 ⟨c, hc, rfl, hx, hs2, hT⟩ ih2
    unfold xX10_laysJuly_b32
    rcases hx with ⟨rfl, rfl⟩ | ⟨c0, rfl⟩
    · rw [if_pos (by decide)]
      exact ⟨w2, rfl, hs2, hT⟩
    · rw [if_neg (nlt (by omega) (by omega) (by omega)), gLet_s]
      have ec : z - 1 + 1 = z := by omega
      refine gW1_ind (fun (t : Option gT) => ∃ w' : gT, t = some w' ∧ SmC [37] w w' ∧ Tab σ A 0 w') (fun y x w3 => ∃ m, m ≤ 4096 ∧ x = nI m ∧ y = 4096 - m ∧ SmC [37] w w3 ∧ Tab σ A z w3 ∧ ∀ q, q < m → w3.1 37 (4096 * (z - 1) + q) = nI (vM (spW8 σ) A (A - (z - 1)) q)) ?_ N 4096 _ w2 (by omega) ⟨0, by omega, rfl, rfl, hs2, hT, fun q h => by omega⟩
      rintro y go3 x w3 ⟨m, hm, rfl, rfl, hs3, hT3, hv3⟩ ih3
      unfold xX10_laysJuly_b38
      by_cases q3 : 4096 ≤ m
      · rw [if_pos (yle (by omega) (by omega) q3)]
        try dsimp only
        have hT4 : Tab σ A (z - 1) w3 := fun i p h1 h2 h3 => by
          by_cases e : i = z - 1
          · rw [e]; exact hv3 p (by omega)
          · exact hT3 i p (by omega) h2 h3
        by_cases z1 : z - 1 = 0
        · refine ih2 (z - 1) _ _ (by omega) ⟨z - 1, by omega, rfl, Or.inl ⟨z1, ?_⟩, hs3, hT4⟩
          rw [z1]
          decide
        · exact ih2 (z - 1) _ _ (by omega) ⟨z - 1, by omega, rfl, Or.inr ⟨by omega, m1_add (by omega) (by omega)⟩, hs3, hT4⟩
      · have hW3 : Wts σ A w3 := fun l r hl hr => by rw [hs3 36 (by decide)]; exact hW l r hl hr
        rw [if_neg (nle (by omega) (by omega) q3), gLet_s, m_rowBest hN hA (by omega) (by omega) (by rw [ec]; exact hT3) hW3]
        try dsimp only
        rw [nI_mul, nI_add, gG_in (by omega) (by omega), gLet_s, nI_clamp (by omega), nI_add]
        refine ih3 (4096 - (m + 1)) _ _ (by omega) ⟨m + 1, by omega, rfl, rfl, hs3.tr (SmC.U (by decide)), fun i p h1 h2 h3 => ?_, fun p hp => ?_⟩
        · rw [gU2 (by omega)]
          exact hT3 i p h1 h2 h3
        · rw [gUs]
          by_cases e : p = m
          · rw [if_pos (by omega), e]
          · rw [if_neg (by omega)]
            exact hv3 p (by omega)
  · rw [if_neg (nle (by omega) (by omega) q), nI_mul, nI_add, gG_in (by omega) (by omega), gLet_s, nI_clamp (by omega), nI_add]
    refine ih (4096 - (m + 1)) _ _ (by omega) ⟨m + 1, by omega, rfl, rfl, hs.tr (SmC.U (by decide)), fun p hp => ?_⟩
    rw [gUs]
    by_cases e : p = m
    · rw [if_pos (by omega)]
    · rw [if_neg (by omega)]
      exact hv p (by omega)
