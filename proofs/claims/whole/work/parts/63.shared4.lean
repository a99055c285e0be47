def sN (f : Nat → Nat) : Nat → Nat
  | 0 => 0
  | k + 1 => sN f k + f k
theorem sN_congr {f h : Nat → Nat} : ∀ k, (∀ i, i < k → f i = h i) → sN f k = sN h k
  | 0, _ => rfl
  | k + 1, e => by
    show sN f k + f k = sN h k + h k
    rw [sN_congr k (fun i hi => e i (by omega)), e k (by omega)]
theorem sN_at {f h : Nat → Nat} {g : Nat} (he : ∀ i, i ≠ g → f i = h i) (h0 : f g = 0) : ∀ k, g < k → sN h k = sN f k + h g
  | 0, z => by omega
  | k + 1, z => by
    show sN h k + h k = sN f k + f k + h g
    by_cases e : k = g
    · subst e
      rw [sN_congr (f := f) (h := h) k (fun i hi => he i (by omega)), h0]
      omega
    · rw [sN_at he h0 k (by omega), he k e]
      omega
theorem sN_le {f : Nat → Nat} {b : Nat} (h : ∀ i, f i ≤ b) : ∀ k, sN f k ≤ b * k
  | 0 => Nat.zero_le _
  | k + 1 => by
    have h1 := sN_le h k
    have h2 := h k
    show sN f k + f k ≤ b * (k + 1)
    rw [Nat.mul_add, Nat.mul_one]
    omega
theorem spAl_y {σ : sT} {n : Nat} {ch : Int32} {k : Nat} (h : wn σ k = n ∧ spGone σ k) : spAl σ n ch (k + 1) (wg σ k) = spAll σ (wg σ k) n (wr σ k) ch 10 := if_pos ⟨h.1, h.2, rfl⟩
theorem spAl_n {σ : sT} {n : Nat} {ch : Int32} {k g : Nat} (h : ¬ (wn σ k = n ∧ spGone σ k ∧ wg σ k = g)) : spAl σ n ch (k + 1) g = spAl σ n ch k g := if_neg h
theorem x_weigh {N : Nat} (hN : 5000 ≤ N) {σ : sT} {w : gT} (hE : EncX N σ w) (hR : Rng σ) {n : Nat} (hn : n < 7) : ∃ w', xX9_weighChains N (nI n) w = some (nI (sN (spAl σ n (nI 0) (spW σ.1)) 10), w') ∧ SmC [39, 49, 59] w w' ∧ ∀ g, g < 10 → w'.1 59 g = nI (spAl σ n (nI 1) (spW σ.1) g) - nI (spAl σ n (nI 0) (spW σ.1) g) := by
  obtain ⟨hW0, hW⟩ := spW_le hR
  obtain ⟨w0, e0, s0, z0⟩ := x_fill59 hN (nI 0) w
  unfold xX9_weighChains
  rw [e0, gBv_s]
  refine gW2_ind (fun (t : Option (Int32 × gT)) => ∃ w' : gT, t = some (nI (sN (spAl σ n (nI 0) (spW σ.1)) 10), w') ∧ SmC [39, 49, 59] w w' ∧ ∀ g, g < 10 → w'.1 59 g = nI (spAl σ n (nI 1) (spW σ.1) g) - nI (spAl σ n (nI 0) (spW σ.1) g)) (fun m a b w1 => ∃ k, k ≤ spW σ.1 ∧ a = nI (sN (spAl σ n (nI 0) k) 10) ∧ b = nI k ∧ m = spW σ.1 - k ∧ SmC [39, 49, 59] w w1 ∧ ∀ g, g < 10 → w1.1 59 g = nI (spAl σ n (nI 1) k g) - nI (spAl σ n (nI 0) k g)) ?_ N (spW σ.1) _ _ w0 (by omega) ⟨0, by omega, rfl, rfl, rfl, s0.mono (by decide), fun g hg => by rw [z0 g hg]; show nI 0 = nI 0 - nI 0; decide⟩
  rintro m go a b w1 ⟨k, hk, rfl, rfl, rfl, hs, hv⟩ ih
  have hE1 : EncX N σ w1 := hE.sm (hs.toX rfl)
  unfold xX9_weighChains_b12
  rw [hE1.1 21 rfl, hW0]
  by_cases q : spW σ.1 ≤ k
  · have e : k = spW σ.1 := by omega
    rw [if_pos (yle (by omega) (by omega) q), ← e]
    exact ⟨w1, rfl, hs, hv⟩
  · have hk2 : k < spW σ.1 := by omega
    have hk16 : k < 16 := by omega
    obtain ⟨g1, g2, g3, g4, g5, g6, -⟩ := wk_at hR hk2
    rw [if_neg (nle (by omega) (by omega) q), gLet_s, gG_in hk16 (by omega), nI_clamp (by omega), hE1.1 23 rfl, g3]
    try dsimp only
    have no : ¬ (wn σ k = n ∧ spGone σ k) → ∃ w', go (nI (sN (spAl σ n (nI 0) k) 10)) (nI k + nI 1) w1 = some (nI (sN (spAl σ n (nI 0) (spW σ.1)) 10), w') ∧ SmC [39, 49, 59] w w' ∧ ∀ g, g < 10 → w'.1 59 g = nI (spAl σ n (nI 1) (spW σ.1) g) - nI (spAl σ n (nI 0) (spW σ.1) g) := fun hne => by
      rw [nI_add]
      have e : ∀ ch g, spAl σ n ch (k + 1) g = spAl σ n ch k g := fun ch g => spAl_n (fun z => hne ⟨z.1, z.2.1⟩)
      exact ih (spW σ.1 - (k + 1)) _ _ _ (by omega) ⟨k + 1, by omega, by rw [sN_congr 10 (fun i _ => e (nI 0) i)], rfl, rfl, hs, fun g hg => by rw [e, e]; exact hv g hg⟩
    by_cases c1 : nI (wn σ k) = nI n
    · have c1n : wn σ k = n := (nI_eq (by omega) (by omega)).mp c1
      rw [if_pos c1, x_isGone hE1 hR hk2, gBi_s, ifb]
      by_cases c2 : spGone σ k
      · have hng : ¬ spGn σ n k (wg σ k) := fun ⟨i, i1, i2, i3, i4⟩ => gone_once hR hk2 i1 (by rw [i2, c1n]) i4 c2
        obtain ⟨w2, e2, s2⟩ := x_frightOfAll hN hE1 hR g2 hn g6 (nI 0)
        have hE2 := hE1.sm (s2.toX rfl)
        obtain ⟨w3, e3, s3⟩ := x_frightOfAll hN hE2 hR g2 hn g6 (nI 1)
        rw [if_pos c2, gG_in hk16 (by omega), gLet_s, gG_in hk16 (by omega), hE1.1 22 rfl, hE1.1 24 rfl, g1, g5, e2, gBi_s, gG_in hk16 (by omega), hE2.1 24 rfl, g5, e3, gBi_s, gG_in g2 (by omega), gLet_s, nI_clamp (by omega), gLet_s, nI_add, nI_add]
        have y0 := spAl_y (σ := σ) (n := n) (ch := nI 0) ⟨c1n, c2⟩
        have y1 := spAl_y (σ := σ) (n := n) (ch := nI 1) ⟨c1n, c2⟩
        have en : ∀ ch g, g ≠ wg σ k → spAl σ n ch (k + 1) g = spAl σ n ch k g := fun ch g hg => spAl_n (fun z => hg z.2.2.symm)
        have es : sN (spAl σ n (nI 0) (k + 1)) 10 = sN (spAl σ n (nI 0) k) 10 + spAl σ n (nI 0) (k + 1) (wg σ k) := sN_at (fun i hi => (en (nI 0) i hi).symm) (spAl_no k hng) 10 g2
        refine ih (spW σ.1 - (k + 1)) _ _ _ (by omega) ⟨k + 1, by omega, by rw [es, y0], rfl, rfl, hs.tr ((s2.mono (by decide)).tr ((s3.mono (by decide)).tr (SmC.U (by decide)))), fun g hg => ?_⟩
        rw [gUs]
        by_cases e : g = wg σ k
        · rw [if_pos e, e, y0, y1]
        · rw [if_neg e, s3 59 (by decide), s2 59 (by decide), en _ _ e, en _ _ e]
          exact hv g hg
      · rw [if_neg c2]
        exact no (fun z => c2 z.2)
    · rw [if_neg c1]
      exact no (fun z => c1 (by rw [z.1]))
