theorem x_isListed {N : Nat} (hN : 5000 ≤ N) {σ : sT} {w : gT} (hE : EncX N σ w) (hR : Rng σ) (a : Int32) [Decidable (∃ k, k < spW σ.1 ∧ σ.1 22 k = a)] : xX7_isListed N a w = some (b2i (∃ k, k < spW σ.1 ∧ σ.1 22 k = a), w) := by
  obtain ⟨hW0, hW⟩ := spW_le hR
  unfold xX7_isListed
  refine gW1_ind (fun t => t = some (b2i (∃ k, k < spW σ.1 ∧ σ.1 22 k = a), w)) (fun m x w1 => ∃ i, i ≤ spW σ.1 ∧ x = nI i ∧ m = spW σ.1 - i ∧ w1 = w ∧ ∀ k, k < i → σ.1 22 k ≠ a) ?_ N (spW σ.1) _ w (by omega) ⟨0, by omega, rfl, rfl, rfl, by omega⟩
  rintro m go x w1 ⟨i, hi, rfl, rfl, rfl, hv⟩ ih
  unfold xX7_isListed_b2
  rw [hE.1 21 rfl, hW0, hE.1 22 rfl]
  by_cases q : spW σ.1 ≤ i
  · rw [if_pos (yle (by omega) (by omega) q), b2i_f]
    rintro ⟨k, hk, ek⟩
    exact hv k (by omega) ek
  · rw [if_neg (nle (by omega) (by omega) q), gG_in (by omega) (by omega), nI_clamp (by omega)]
    by_cases e : σ.1 22 i = a
    · rw [if_pos e, b2i_t ⟨i, by omega, e⟩]
    · rw [if_neg e, nI_add]
      refine ih (spW σ.1 - (i + 1)) _ _ (by omega) ⟨i + 1, by omega, rfl, rfl, rfl, fun k hk => ?_⟩
      by_cases ek : k = i
      · subst ek; exact e
      · exact hv k (by omega)
theorem m_listed {N : Nat} (hN : 5000 ≤ N) {σ : sT} {w : gT} (hE : EncM N σ w) (hR : Rng σ) (a : Int32) (k : gT → Option (Int32 × gT)) [Decidable (∃ k, k < spW σ.1 ∧ σ.1 22 k = a)] : gW1 (xX10_bestWalk_b21 a k) N (nI 0) w = if (∃ k, k < spW σ.1 ∧ σ.1 22 k = a) then some (-1, w) else k w := by
  obtain ⟨hW0, hW⟩ := spW_le hR
  refine gW1_ind (fun t => t = if (∃ k, k < spW σ.1 ∧ σ.1 22 k = a) then some (-1, w) else k w) (fun m x w1 => ∃ i, i ≤ spW σ.1 ∧ x = nI i ∧ m = spW σ.1 - i ∧ w1 = w ∧ ∀ k, k < i → σ.1 22 k ≠ a) ?_ N (spW σ.1) _ w (by omega) ⟨0, by omega, rfl, rfl, rfl, by omega⟩
  rintro m go x w1 ⟨i, hi, rfl, rfl, rfl, hv⟩ ih
  unfold xX10_bestWalk_b21
  rw [hE.wk, hW0]
  by_cases q : spW σ.1 ≤ i
  · rw [if_pos (yle (by omega) (by omega) q), if_neg]
    rintro ⟨k, hk, ek⟩
    exact hv k (by omega) ek
  · rw [if_neg (nle (by omega) (by omega) q), gG_in (by omega) (by omega), nI_clamp (by omega), (hE.wl i (by omega)).1]
    by_cases e : σ.1 22 i = a
    · rw [if_pos e, if_pos ⟨i, by omega, e⟩]
    · rw [if_neg e, nI_add]
      refine ih (spW σ.1 - (i + 1)) _ _ (by omega) ⟨i + 1, by omega, rfl, rfl, rfl, fun k hk => ?_⟩
      by_cases ek : k = i
      · subst ek; exact e
      · exact hv k (by omega)
theorem m1_le {v : Nat} (hv : v < 2 ^ 30) : ¬ nI v ≤ (-1) ∧ (-1) < nI v := by
  have e1 : (nI v).toInt = v := nI_toInt (by omega)
  have e2 : ((-1) : Int32).toInt = -1 := by decide
  constructor
  · rw [Int32.le_iff_toInt_le]; omega
  · rw [Int32.lt_iff_toInt_lt]; omega
theorem o_bestWalk {N : Nat} (hN : 5000 ≤ N) {wx wm : gT} (h : Rel N wx wm) (a b : Int32) : OpOk N (xX9_bestWalk N a b wx) (xX10_bestWalk N a b wm) := by
  obtain ⟨σ, hR, hX, hM, h4⟩ := id h
  have hq : Sq N σ wx wm := ⟨hR, hX, hM, h4⟩
  have dc : Decidable (∃ k, k < spW σ.1 ∧ σ.1 22 k = a) := Classical.propDecidable _
  unfold xX9_bestWalk xX10_bestWalk
  rcases in_or a 10 (by omega) with ⟨g, hg, rfl⟩ | q
  · rw [x_hasGhost _ hg, m_isGhost _ hg, gBi_s, gBi_s, ifb, ifb, hM.gh, hX.1 1 rfl]
    by_cases t : tol (σ.1 1 8) g
    · rw [if_pos t, if_pos t, x_isListed hN hX hR, gBi_s, ifb]
      by_cases L : ∃ k, k < spW σ.1 ∧ σ.1 22 k = nI g
      · rw [if_pos L]
        rcases in_or b 3 (by omega) with ⟨c, hc, rfl⟩ | q
        · rw [m_in1 (by omega) (by omega) (by omega), gBi_s, if_neg nI_10, gLet_s, m_listed hN hM hR, if_pos L]
          exact OpOk.o h
        · rw [m_in0 (by omega) q (by omega), gBi_s, if_pos rfl]
          exact OpOk.o h
      · rw [if_neg L]
        rcases in_or b 3 (by omega) with ⟨c, hc, rfl⟩ | q
        · rw [m_in1 (by omega) (by omega) (by omega), gBi_s, if_neg nI_10, if_neg (nlt (by omega) (by omega) (by omega)), if_pos (yle (by omega) (by omega) (by omega)), gLet_s, gLet_s, m_listed hN hM hR, if_neg L]
          try dsimp only
          rw [gLet_s]
          refine gW33 (OpOk N) (fun m x0 x1 x2 w y0 y1 y2 v => ∃ i, i ≤ 84 ∧ x2 = nI i ∧ y2 = nI i ∧ m = 84 - i ∧ Sq N σ w v ∧ ((i = 0 ∧ x0 = (-1) ∧ x1 = (-1) ∧ y0 = nI 0 ∧ y1 = (-1)) ∨ (0 < i ∧ x0 = y0 ∧ x1 = y1 ∧ Bl x0 84 ∧ Bl x1 991))) ?_ N 84 _ _ _ _ _ _ _ _ (by omega) ⟨0, by omega, rfl, rfl, rfl, hq, Or.inl ⟨rfl, rfl, rfl, rfl, rfl⟩⟩
          rintro m go go' x0 x1 x2 w y0 y1 y2 v ⟨i, hi, rfl, rfl, rfl, hq, hc2⟩ ih
          unfold xX9_bestWalk_b41 xX10_bestWalk_b55
          by_cases q : 84 ≤ i
          · rw [if_pos (yle (by omega) (by omega) q), if_pos (yle (by omega) (by omega) q)]
            rcases hc2 with hc2 | ⟨-, rfl, rfl, ⟨b0, hb0, rfl⟩, ⟨b1, hb1, rfl⟩⟩
            · omega
            · rcases (show c = 0 ∨ c = 1 ∨ c = 2 by omega) with rfl | rfl | rfl
              · try dsimp only
                rw [if_neg (by decide), if_pos rfl, if_pos rfl]
                exact OpOk.o hq.rel
              · try dsimp only
                rw [if_neg (by decide), if_neg (by decide), if_neg (by decide), if_pos rfl]
                exact OpOk.o hq.rel
              · try dsimp only
                rw [if_pos rfl, if_neg (by decide), if_neg (by decide)]
                exact OpOk.o hq.rel
          · rw [if_neg (nle (by omega) (by omega) q), if_neg (nle (by omega) (by omega) q), gLet_s, gLet_s, pk_div (by omega) (by omega) (by omega), nI_rem (by omega) (by omega) (by omega), nI_add]
            obtain ⟨w2, e2, s2⟩ := x_frightOfAll hN hq.2.1 hR hg (show i / 12 < 7 by omega) (show i % 12 < 12 by omega) (nI 0)
            obtain ⟨v2, f2, t2⟩ := m_frightBy hN hq.2.2.1 hR hg (show i / 12 < 7 by omega) (show i % 12 < 12 by omega) (ch := nI 0) ⟨0, by omega, rfl⟩
            have hq2 := hq.c s2 t2 rfl rfl
            rw [e2, f2, gBi_s, gBi_s]
            have hb := spAll_le σ g (i / 12) (i % 12) (nI 0) 10
            rcases hc2 with ⟨rfl, rfl, rfl, rfl, rfl⟩ | ⟨hi0, rfl, rfl, b0, ⟨b1, hb1, rfl⟩⟩
            · have m1 := m1_le (v := spAll σ g (0 / 12) (0 % 12) (nI 0) 10) (by omega)
              rw [if_neg m1.1, if_pos m1.2]
              exact ih (84 - 1) _ _ _ _ _ _ _ _ (by omega) ⟨0 + 1, by omega, rfl, rfl, rfl, hq2, Or.inr ⟨by omega, rfl, rfl, ⟨0, by omega, rfl⟩, ⟨_, by omega, rfl⟩⟩⟩
            · by_cases q2 : spAll σ g (i / 12) (i % 12) (nI 0) 10 ≤ b1
              · rw [if_pos (yle (by omega) (by omega) q2), if_neg (nlt (by omega) (by omega) (by omega))]
                exact ih (84 - (i + 1)) _ _ _ _ _ _ _ _ (by omega) ⟨i + 1, by omega, rfl, rfl, rfl, hq2, Or.inr ⟨by omega, rfl, rfl, b0, ⟨b1, hb1, rfl⟩⟩⟩
              · rw [if_neg (nle (by omega) (by omega) q2), if_pos (ylt (by omega) (by omega) (by omega))]
                exact ih (84 - (i + 1)) _ _ _ _ _ _ _ _ (by omega) ⟨i + 1, by omega, rfl, rfl, rfl, hq2, Or.inr ⟨by omega, rfl, rfl, ⟨i, by omega, rfl⟩, ⟨_, by omega, rfl⟩⟩⟩
        · rw [m_in0 (by omega) q (by omega), out1 (by omega) q, gBi_s, if_pos rfl]
          exact OpOk.o h
    · rw [if_neg t, if_neg t]
      exact OpOk.o h
  · rw [x_hasGhost_o _ q, m_isGhost_o _ q, gBi_s, gBi_s, if_pos rfl, if_pos rfl]
    exact OpOk.o h
