/-- what lodger l brings in room r -/
def spQ (σ : sT) (l r : Nat) : Int32 := spAmt σ (nI 113) (nI 999) (spEnvQ σ l r (spCold σ r))
theorem x_worths {N : Nat} (hN : 5000 ≤ N) {σ : sT} {w : gT} (hE : EncX N σ w) (hR : Rng σ) {A : Nat} (hA : A ≤ 8) (k3 : gT → Option (Int32 × gT)) (Post : Option (Int32 × gT) → Prop) (hP : ∀ w', SmC [39, 49, 57] w w' → (∀ l r, l < A → r < 12 → w'.1 57 (l * 12 + r) = spQ σ l r) → Post (k3 w')) : Post (gW1 (xX9_july_b32 N (nI A) k3) N (nI 0) w) := by
  refine gW1_ind Post (fun m x w1 => ∃ r, r ≤ 12 ∧ x = nI r ∧ m = 12 - r ∧ SmC [39, 49, 57] w w1 ∧ ∀ l q, l < A → q < r → w1.1 57 (l * 12 + q) = spQ σ l q) ?_ N 12 _ w (by omega) ⟨0, by omega, rfl, rfl, SmC.rf, fun l q _ h => by omega⟩
  rintro m go x w1 ⟨r, hr, rfl, rfl, hs, hv⟩ ih
  have hE1 : EncX N σ w1 := hE.sm (hs.toX rfl)
  unfold xX9_july_b32
  by_cases q : 12 ≤ r
  · rw [if_pos (yle (by omega) (by omega) q)]
    exact hP w1 hs (fun l p hl hp => hv l p hl (by omega))
  · rw [if_neg (nle (by omega) (by omega) q), x_coldOf hN hE1 hR (by omega), gBi_s, gLet_s]
    refine gW1_ind Post (fun m x w2 => ∃ l, l ≤ A ∧ x = nI l ∧ m = A - l ∧ SmC [39, 49, 57] w w2 ∧ ∀ i p, i < A → p < r ∨ (p = r ∧ i < l) → w2.1 57 (i * 12 + p) = spQ σ i p) ?_ N A _ w1 (by omega) ⟨0, by omega, rfl, rfl, hs, fun i p hi hp => hv i p hi (by omega)⟩
    rintro m go2 x w2 ⟨l, hl, rfl, rfl, hs2, hv2⟩ ih2
    have hE2 : EncX N σ w2 := hE.sm (hs2.toX rfl)
    unfold xX9_july_b55
    by_cases q2 : A ≤ l
    · rw [if_pos (yle (by omega) (by omega) q2)]
      try dsimp only
      rw [nI_add]
      exact ih (12 - (r + 1)) _ _ (by omega) ⟨r + 1, by omega, rfl, rfl, hs2, fun i p hi hp => hv2 i p hi (by omega)⟩
    · obtain ⟨w3, e3, s3⟩ := x_worthOf hN hE2 hR (l := l) (show r < 12 by omega) (spCold σ r)
      rw [if_neg (nle (by omega) (by omega) q2), e3, gBi_s, nI_mul, nI_add, nI_add, gG_in (by omega) (by omega), gLet_s, nI_clamp (by omega)]
      refine ih2 (A - (l + 1)) _ _ (by omega) ⟨l + 1, by omega, rfl, rfl, hs2.tr ((s3.mono (by decide)).tr (SmC.U (by decide))), fun i p hi hp => ?_⟩
      rw [gUs]
      by_cases e : i * 12 + p = l * 12 + r
      · have hp12 : p < 12 := by omega
        have e1 : i = l := by omega
        have e2 : p = r := by omega
        rw [if_pos e, e1, e2]
        rfl
      · rw [if_neg e, s3 57 (by decide)]
        refine hv2 i p hi ?_
        rcases hp with hp | ⟨hp, hp2⟩
        · exact Or.inl hp
        · refine Or.inr ⟨hp, ?_⟩
          have : i ≠ l := fun z => e (by rw [z, hp])
          omega
theorem m_worths {N : Nat} (hN : 5000 ≤ N) {σ : sT} {w : gT} (hE : EncM N σ w) (hR : Rng σ) {A : Nat} (hA : A ≤ 8) : ∃ w', xX10_laysWorths N (nI A) w = some w' ∧ SmC [29, 30, 36] w w' ∧ ∀ l r, l < A → r < 12 → w'.1 36 (12 * l + r) = spQ σ l r := by
  unfold xX10_laysWorths
  refine gW1_ind (fun (t : Option gT) => ∃ w' : gT, t = some w' ∧ SmC [29, 30, 36] w w' ∧ ∀ l r, l < A → r < 12 → w'.1 36 (12 * l + r) = spQ σ l r) (fun m x w1 => ∃ r, r ≤ 12 ∧ x = nI r ∧ m = 12 - r ∧ SmC [29, 30, 36] w w1 ∧ ∀ l q, l < A → q < r → w1.1 36 (12 * l + q) = spQ σ l q) ?_ N 12 _ w (by omega) ⟨0, by omega, rfl, rfl, SmC.rf, fun l q _ h => by omega⟩
  rintro m go x w1 ⟨r, hr, rfl, rfl, hs, hv⟩ ih
  have hE1 : EncM N σ w1 := hE.sm (hs.toM rfl)
  unfold xX10_laysWorths_b2
  by_cases q : 12 ≤ r
  · rw [if_pos (yle (by omega) (by omega) q)]
    exact ⟨w1, rfl, hs, fun l p hl hp => hv l p hl (by omega)⟩
  · rw [if_neg (nle (by omega) (by omega) q), m_coldIn hN hE1 hR (by omega), gBi_s, gLet_s]
    refine gW1_ind (fun (t : Option gT) => ∃ w' : gT, t = some w' ∧ SmC [29, 30, 36] w w' ∧ ∀ l r, l < A → r < 12 → w'.1 36 (12 * l + r) = spQ σ l r) (fun m x w2 => ∃ l, l ≤ A ∧ x = nI l ∧ m = A - l ∧ SmC [29, 30, 36] w w2 ∧ ∀ i p, i < A → p < r ∨ (p = r ∧ i < l) → w2.1 36 (12 * i + p) = spQ σ i p) ?_ N A _ w1 (by omega) ⟨0, by omega, rfl, rfl, hs, fun i p hi hp => hv i p hi (by omega)⟩
    rintro m go2 x w2 ⟨l, hl, rfl, rfl, hs2, hv2⟩ ih2
    unfold xX10_laysWorths_b17
    by_cases q2 : A ≤ l
    · rw [if_pos (yle (by omega) (by omega) q2)]
      try dsimp only
      rw [nI_add]
      exact ih (12 - (r + 1)) _ _ (by omega) ⟨r + 1, by omega, rfl, rfl, hs2, fun i p hi hp => hv2 i p hi (by omega)⟩
    · rw [if_neg (nle (by omega) (by omega) q2), gLet_s]
      refine gW1_ind (fun (t : Option gT) => ∃ w' : gT, t = some w' ∧ SmC [29, 30, 36] w w' ∧ ∀ l r, l < A → r < 12 → w'.1 36 (12 * l + r) = spQ σ l r) (fun m x w3 => ∃ k, k ≤ 12 ∧ x = nI k ∧ m = 12 - k ∧ SmC [30] w2 w3 ∧ ∀ i, i < k → w3.1 30 i = nI 0) ?_ N 12 _ w2 (by omega) ⟨0, by omega, rfl, rfl, SmC.rf, fun i h => by omega⟩
      rintro m go3 x w3 ⟨k, hk, rfl, rfl, hs3, hv3⟩ ih3
      unfold xX10_laysWorths_b26
      by_cases q3 : 12 ≤ k
      · have s23 : SmC [29, 30, 36] w w3 := hs2.tr (hs3.mono (by decide))
        have hE3 : EncM N σ w3 := hE.sm (s23.toM rfl)
        rw [if_pos (yle (by omega) (by omega) q3)]
        try dsimp only
        rw [gLet_s, gG_in (by omega) (by omega), gLet_s, nI_clamp (by omega), gU1 (by omega), hE3.a.1, gLet_s, gLet_s]
        have s4 : SmC [30] w3 (gU (gU (gU (gU w3 30 0 (nI r)) 30 2 (σ.1 2 r)) 30 5 (spCold σ r)) 30 11 (nI l)) := (SmC.U (by decide)).tr ((SmC.U (by decide)).tr ((SmC.U (by decide)).tr (SmC.U (by decide))))
        have hv4 : envM ((gU (gU (gU (gU w3 30 0 (nI r)) 30 2 (σ.1 2 r)) 30 5 (spCold σ r)) 30 11 (nI l)).1 30) = spEnvQ σ l r (spCold σ r) := by
          refine envM_eq (l12 ?_) (fun k hk => ?_)
          · have z : ∀ i, i < 12 → w3.1 30 i = nI 0 := fun i hi => hv3 i (by omega)
            simp [gUs, spEnvQ, z]
          · match k, hk with
            | k + 12, _ => rfl
        revert s4 hv4
        generalize gU (gU (gU (gU w3 30 0 (nI r)) 30 2 (σ.1 2 r)) 30 5 (spCold σ r)) 30 11 (nI l) = w4
        intro s4 hv4
        have s24 : SmC [29, 30, 36] w w4 := s23.tr (s4.mono (by decide))
        obtain ⟨w5, e5, s5⟩ := m_byLaw hN (hE.sm (s24.toM rfl)) hR (l := nI 113) (high := nI 999) (by decide) ⟨999, by omega, rfl⟩
        rw [e5, gBi_s, nI_mul, nI_add, nI_add, gG_in (by omega) (by omega), gLet_s, nI_clamp (by omega), hv4]
        have e36 : w5.1 36 = w2.1 36 := (s5 36 (by decide)).trans ((s4 36 (by decide)).trans (hs3 36 (by decide)))
        refine ih2 (A - (l + 1)) _ _ (by omega) ⟨l + 1, by omega, rfl, rfl, s24.tr ((s5.mono (by decide)).tr (SmC.U (by decide))), fun i p hi hp => ?_⟩
        rw [gUs]
        by_cases e : 12 * i + p = 12 * l + r
        · have e1 : i = l := by omega
          have e2 : p = r := by omega
          rw [if_pos e, e1, e2]
          rfl
        · rw [if_neg e, e36]
          refine hv2 i p hi ?_
          rcases hp with hp | ⟨hp, hp2⟩
          · exact Or.inl hp
          · refine Or.inr ⟨hp, ?_⟩
            have : i ≠ l := fun z => e (by rw [z, hp])
            omega
      · rw [if_neg (nle (by omega) (by omega) q3), gG_in (by omega) (by omega), gLet_s, nI_clamp (by omega), nI_add]
        refine ih3 (12 - (k + 1)) _ _ (by omega) ⟨k + 1, by omega, rfl, rfl, hs3.tr (SmC.U (by decide)), fun i hi => ?_⟩
        rw [gUs]
        by_cases e : i = k
        · rw [if_pos e]
        · rw [if_neg e]; exact hv3 i (by omega)
