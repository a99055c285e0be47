/-! THE CLASS: the law asked, fright -/
theorem nI_sub_eq {r b : Nat} (hr : r < 2 ^ 30) (hb : b < 2 ^ 30) : nI r = nI b - nI 1 ↔ r + 1 = b := by
  constructor
  · intro h
    have h1 : nI r + nI 1 = nI b := by rw [h]; exact Int32.sub_add_cancel _ _
    rw [nI_add, nI_eq (by omega) (by omega)] at h1
    exact h1
  · intro h
    subst h
    rw [← nI_add]
    exact (Int32.add_sub_cancel _ _).symm
theorem envX_eq {f g : Nat → Int32} (h : f 17 = g 0 ∧ f 13 = g 1 ∧ f 19 = g 2 ∧ f 6 = g 3 ∧ f 12 = g 4 ∧ f 2 = g 5 ∧ f 24 = g 6 ∧ f 7 = g 7 ∧ f 15 = g 8 ∧ f 21 = g 9 ∧ f 14 = g 10 ∧ f 11 = g 11) (hz : ∀ k, 12 ≤ k → g k = nI 0) : envX f = g := by
  obtain ⟨h0, h1, h2, h3, h4, h5, h6, h7, h8, h9, h10, h11⟩ := h
  funext k
  unfold envX
  by_cases hk : k < 12
  · rw [if_pos hk]
    match k, hk with
    | 0, _ => exact h0
    | 1, _ => exact h1
    | 2, _ => exact h2
    | 3, _ => exact h3
    | 4, _ => exact h4
    | 5, _ => exact h5
    | 6, _ => exact h6
    | 7, _ => exact h7
    | 8, _ => exact h8
    | 9, _ => exact h9
    | 10, _ => exact h10
    | 11, _ => exact h11
    | k + 12, hk => omega
  · rw [if_neg hk, hz k (by omega)]
theorem x_fill49 {N : Nat} (hN : 5000 ≤ N) (v : Int32) (w : gT) : ∃ w', xJ7_fill_53178_49 N v w = some w' ∧ SmC [49] w w' ∧ ∀ i, i < 26 → w'.1 49 i = v := by
  unfold xJ7_fill_53178_49
  refine gW1_ind (fun t => ∃ w', t = some w' ∧ SmC [49] w w' ∧ ∀ i, i < 26 → w'.1 49 i = v) (fun m a w1 => ∃ i, i ≤ 26 ∧ a = nI i ∧ m = 26 - i ∧ SmC [49] w w1 ∧ ∀ j, j < i → w1.1 49 j = v) ?_ N 26 _ w (by omega) ⟨0, by omega, rfl, by omega, SmC.rf, by omega⟩
  rintro m go a w1 ⟨i, hi, rfl, rfl, hs, hv⟩ ih
  unfold xJ7_fill_53178_49_b5
  simp (disch := omega) only [nI_add, nI_mul, nI_clamp, nI_leI, nI_ltI, nI_eq, pk_sub, pk_div, nI_rem, gG_in]
  by_cases h : 26 ≤ i
  · rw [if_pos h]
    exact ⟨w1, rfl, hs, fun j hj => hv j (by omega)⟩
  · rw [if_neg h]
    refine ih (26 - (i + 1)) _ _ (by omega) ⟨i + 1, by omega, rfl, rfl, hs.tr (SmC.U (by decide)), fun j hj => ?_⟩
    rw [gUs]
    by_cases e : j = i
    · rw [if_pos e]
    · rw [if_neg e]; exact hv j (by omega)
theorem x_tellLetter {c : Nat} (h1 : 97 ≤ c) (h2 : c < 123) (v : Int32) (w : gT) : xX1_tellLetter (nI c) v w = some (gU w 49 (c - 97) v) := by
  unfold xX1_tellLetter
  simp (disch := omega) only [nI_add, nI_mul, nI_clamp, nI_leI, nI_ltI, nI_eq, pk_sub, pk_div, nI_rem, gG_in]
  rfl
theorem x_tellWalk {N : Nat} (hN : 5000 ≤ N) {σ : sT} {w : gT} (hE : EncX N σ w) {g n r : Nat} (hg : g < 10) (hr : r < 12) (ch : Int32) : ∃ w', xX1_tellWalk N (nI g) (nI n) (nI r) ch w = some w' ∧ SmC [49] w w' ∧ envX (w'.1 49) = spEnvW σ g n r ch := by
  obtain ⟨w1, e1, s1, z1⟩ := x_fill49 hN (nI 0) w
  unfold xX1_tellWalk
  rw [e1]
  have hc : w1.1 2 = σ.1 2 := (s1 2 (by decide)).trans (hE.1 2 rfl)
  have h6 : w1.1 6 = σ.1 6 := (s1 6 (by decide)).trans (hE.1 6 rfl)
  have h7 : w1.1 7 = σ.1 7 := (s1 7 (by decide)).trans (hE.1 7 rfl)
  have h8 : w1.1 8 = σ.1 8 := (s1 8 (by decide)).trans (hE.1 8 rfl)
  simp (disch := omega) only [gBv_s, x_tellLetter, nI_clamp, gG_in]
  simp only [gU1 (show (2 : Nat) ≠ 49 by decide), gU1 (show (6 : Nat) ≠ 49 by decide), gU1 (show (7 : Nat) ≠ 49 by decide), gU1 (show (8 : Nat) ≠ 49 by decide), hc, h6, h7, h8]
  refine ⟨_, rfl, ?_, ?_⟩
  · exact s1.tr ((SmC.U (by decide)).tr ((SmC.U (by decide)).tr ((SmC.U (by decide)).tr ((SmC.U (by decide)).tr ((SmC.U (by decide)).tr ((SmC.U (by decide)).tr ((SmC.U (by decide)).tr (SmC.U (by decide)))))))))
  · refine envX_eq ?_ (fun k hk => ?_)
    · simp [gUs, spEnvW, z1]
    · match k, hk with
      | k + 12, _ => rfl
theorem x_isNear {N : Nat} {σ : sT} {w : gT} (hE : EncX N σ w) (hR : Rng σ) {g p n r : Nat} (hg : g < 10) (hp : p < 10) (hn : n < 7) (hr : r < 12) : xX1_isNear (nI g) (nI p) (nI n) (nI r) w = some (b2i (spNear σ g p n r), w) := by
  unfold xX1_isNear
  simp (disch := omega) only [nI_add, nI_mul, nI_clamp, nI_leI, nI_ltI, nI_eq, pk_sub, pk_div, nI_rem, gG_in]
  have hb : ∃ b, b < 256 ∧ σ.1 3 (n * 10 + p) = nI b := by
    rcases hR.1.2.1 (n * 10 + p) (by omega) with ⟨b, h, e⟩ | e
    · exact ⟨b, by omega, e⟩
    · exact ⟨255, by omega, e⟩
  obtain ⟨b, hb, e⟩ := hb
  rw [hE.1 3 rfl, hE.1 5 rfl]
  simp only [gLet, e]
  have eb : spBed σ p n = b := by unfold spBed; rw [e, nI_clamp (by omega)]
  unfold b2i
  simp only [spNear, eb, nI_sub_eq (show r < 2 ^ 30 by omega) (show b < 2 ^ 30 by omega)]
  simp (disch := omega) only [nI_add, nI_mul, nI_clamp, nI_leI, nI_ltI, nI_eq, pk_sub, pk_div, nI_rem, gG_in]
  by_cases h1 : r = b
  · simp [h1]
  · by_cases h2 : σ.1 5 g = nI 2
    · by_cases h3 : r + 1 = b
      · simp [h1, h2, h3]
      · by_cases h4 : r = b + 1 <;> simp [h1, h2, h3, h4]
    · simp [h1, h2]
theorem x_isLet (k : Int32) {c : Nat} (hc : c < 100) {ch : Int32} (w : gT) : xX1_isLet k (nI c) ch w = some (b2i (spLet k c ch), w) := by
  unfold xX1_isLet b2i
  simp (disch := omega) only [nI_add, nI_mul, nI_clamp, nI_leI, nI_ltI, nI_eq, pk_sub, pk_div, nI_rem, gG_in]
  simp only [gLet, spLet]
  by_cases h3 : k = nI 3
  · subst h3; simp
  · by_cases h1 : k = nI 1
    · subst h1
      by_cases h2 : c = 1 <;> simp [h2, show ¬ nI 1 = nI 3 by decide, show ¬ nI 1 = nI 4 by decide]
    · by_cases h4 : k = nI 4
      · subst h4
        by_cases h5 : ch = nI 1 <;> simp [h5, show ¬ nI 4 = nI 3 by decide, show ¬ nI 4 = nI 1 by decide]
      · simp [h1, h3, h4]
theorem tol_dec (m : Int32) (k : Nat) : (b2i (tol m k) = nI 0) ↔ ¬ tol m k := b2i_0
theorem x_hasGhost (w : gT) {g : Nat} (hg : g < 10) : xX2_hasGhost (nI g) w = some (b2i (tol (w.1 1 8) g), w) := by
  unfold xX2_hasGhost b2i
  simp (disch := omega) only [nI_add, nI_mul, nI_clamp, nI_leI, nI_ltI, nI_eq, pk_sub, pk_div, nI_rem, gG_in]
  rw [if_neg (by omega), if_neg (by omega)]
  split <;> rfl
theorem x_hasSleeper (w : gT) {g : Nat} (hg : g < 10) : xX2_hasSleeper (nI g) w = some (b2i (tol (w.1 1 9) g), w) := by
  unfold xX2_hasSleeper b2i
  simp (disch := omega) only [nI_add, nI_mul, nI_clamp, nI_leI, nI_ltI, nI_eq, pk_sub, pk_div, nI_rem, gG_in]
  rw [if_neg (by omega), if_neg (by omega)]
  split <;> rfl
theorem x_hasGhost_o (w : gT) {x : Int32} (h : x < nI 0 ∨ nI 10 ≤ x) : xX2_hasGhost x w = some (nI 0, w) := by
  unfold xX2_hasGhost
  by_cases h1 : x < nI 0
  · rw [if_pos h1]
  · rw [if_neg h1, if_pos (h.resolve_left h1)]
theorem x_hasSleeper_o (w : gT) {x : Int32} (h : x < nI 0 ∨ nI 10 ≤ x) : xX2_hasSleeper x w = some (nI 0, w) := by
  unfold xX2_hasSleeper
  by_cases h1 : x < nI 0
  · rw [if_pos h1]
  · rw [if_neg h1, if_pos (h.resolve_left h1)]
theorem countP_s {n : Nat} {p : Nat → Bool} : (List.range (n + 1)).countP p = (List.range n).countP p + (if p n then 1 else 0) := by
  rw [List.range_succ, List.countP_append]
  by_cases h : p n <;> simp [h]
theorem countP_le {n : Nat} {p : Nat → Bool} : (List.range n).countP p ≤ n := by
  have := List.countP_le_length (p := p) (l := List.range n)
  simpa using this
theorem x_companyOf {N : Nat} (hN : 5000 ≤ N) {σ : sT} {w : gT} (hE : EncX N σ w) {p n : Nat} (hp : p < 10) (hn : n < 7) : xX2_companyOf N (nI p) (nI n) w = some (nI (spCo σ p n), w) := by
  unfold xX2_companyOf
  simp (disch := omega) only [nI_add, nI_mul, nI_clamp, nI_leI, nI_ltI, nI_eq, pk_sub, pk_div, nI_rem, gG_in]
  rw [hE.1 3 rfl]
  simp only [gLet]
  refine gW2_ind (fun t => t = some (nI (spCo σ p n), w)) (fun m a b w1 => ∃ i, i ≤ 10 ∧ b = nI i ∧ m = 10 - i ∧ a = nI ((List.range i).countP (fun q => decide (tol (σ.1 1 9) q ∧ σ.1 3 (n * 10 + q) = σ.1 3 (n * 10 + p)))) ∧ w1 = w) ?_ N 10 _ _ w (by omega) ⟨0, by omega, rfl, by omega, rfl, rfl⟩
  rintro m go a b w1 ⟨i, hi, rfl, rfl, rfl, rfl⟩ ih
  unfold xX2_companyOf_b18
  simp (disch := omega) only [nI_add, nI_mul, nI_clamp, nI_leI, nI_ltI, nI_eq, pk_sub, pk_div, nI_rem, gG_in]
  by_cases h : 10 ≤ i
  · rw [if_pos h]
    have : i = 10 := by omega
    subst this
    rfl
  · rw [if_neg h, x_hasSleeper _ (by omega)]
    simp only [gBi, gLet, b2i_0, hE.1 3 rfl, hE.1 1 rfl]
    have key : ∀ a', a' = nI ((List.range (i + 1)).countP (fun q => decide (tol (σ.1 1 9) q ∧ σ.1 3 (n * 10 + q) = σ.1 3 (n * 10 + p)))) → go a' (nI (i + 1)) w1 = some (nI (spCo σ p n), w1) := fun a' ha => ih (10 - (i + 1)) _ _ _ (by omega) ⟨i + 1, by omega, rfl, rfl, ha, rfl⟩
    by_cases h1 : tol (σ.1 1 9) i
    · rw [if_neg (not_not_intro h1)]
      by_cases h2 : σ.1 3 (n * 10 + i) = σ.1 3 (n * 10 + p)
      · rw [if_pos h2]
        exact key _ (by rw [countP_s, if_pos (by simpa using ⟨h1, h2⟩)])
      · rw [if_neg h2]
        exact key _ (by rw [countP_s, if_neg (by simp [h2])]; rfl)
    · rw [if_pos h1]
      exact key _ (by rw [countP_s, if_neg (by simp [h1])]; rfl)
theorem spFind_some {σ : sT} {l : Int32} {e : Nat → Int32} {i : Nat} (hi : i < spC σ.1) (h : σ.1 34 i = l ∧ σ.2.2 i e = nI 1) (hn : ∀ j, j < i → ¬ (σ.1 34 j = l ∧ σ.2.2 j e = nI 1)) : spFind σ l e = some i := by
  unfold spFind
  rw [List.find?_range_eq_some]
  exact ⟨by simpa using h, by simpa using hi, fun j hj => by rw [Bool.not_eq_true', decide_eq_false_iff_not]; exact hn j hj⟩
theorem spFind_none {σ : sT} {l : Int32} {e : Nat → Int32} (hn : ∀ j, j < spC σ.1 → ¬ (σ.1 34 j = l ∧ σ.2.2 j e = nI 1)) : spFind σ l e = none := by
  unfold spFind
  rw [List.find?_range_eq_none]
  exact fun j hj => by rw [Bool.not_eq_true', decide_eq_false_iff_not]; exact hn j hj
theorem bl2 {x : Int32} (h : Bl x 2) : x = nI 0 ∨ x = nI 1 := by
  obtain ⟨v, hv, rfl⟩ := h
  rcases (show v = 0 ∨ v = 1 by omega) with rfl | rfl
  · exact Or.inl rfl
  · exact Or.inr rfl
theorem EncX.law33 {N : Nat} {σ : sT} {w : gT} (hE : EncX N σ w) : w.1 33 = σ.1 33 ∧ w.1 37 = σ.1 37 ∧ w.1 38 = σ.1 38 := ⟨hE.1 33 rfl, hE.1 37 rfl, hE.1 38 rfl⟩
theorem x_holds {N : Nat} (hN : 5000 ≤ N) {σ : sT} {w : gT} (hE : EncX N σ w) (hR : Rng σ) : ∃ w', xX3_holds N (nI 107) w = some (b2i (spHold σ (envX (w.1 49))), w') ∧ SmC [39] w w' := by
  obtain ⟨c1, c2⟩ := spC_eq hR
  unfold xX3_holds
  refine gW1_ind (fun t => ∃ w', t = some (b2i (spHold σ (envX (w.1 49))), w') ∧ SmC [39] w w') (fun m a w1 => ∃ i, i ≤ spC σ.1 ∧ a = nI i ∧ m = spC σ.1 - i ∧ SmC [39] w w1 ∧ ∀ j, j < i → ¬ (σ.1 34 j = nI 107 ∧ σ.2.2 j (envX (w.1 49)) = nI 1)) ?_ N (spC σ.1) _ w (by omega) ⟨0, by omega, rfl, by omega, SmC.rf, by omega⟩
  rintro m go a w1 ⟨i, hi, rfl, rfl, hs, hv⟩ ih
  have hE1 : EncX N σ w1 := hE.sm (hs.toX rfl)
  unfold xX3_holds_b2
  rw [hE1.1 33 rfl, c1, hE1.1 34 rfl, hE1.1 36 rfl]
  simp (disch := omega) only [nI_add, nI_mul, nI_clamp, nI_leI, nI_ltI, nI_eq, pk_sub, pk_div, nI_rem, gG_in]
  by_cases h : spC σ.1 ≤ i
  · rw [if_pos h]
    refine ⟨w1, ?_, hs⟩
    have : i = spC σ.1 := by omega
    subst this
    rw [b2i_f]
    unfold spHold
    rw [spFind_none hv]
    simp
  · rw [if_neg h]
    simp only [gLet]
    by_cases hl : σ.1 34 i = nI 107
    · rw [if_pos hl]
      obtain ⟨w2, e2, s2⟩ := (hE1.2.2 i (by omega)).2 w1 hE1.law33.1 hE1.law33.2.1 hE1.law33.2.2
      have e49 : w1.1 49 = w.1 49 := hs 49 (by decide)
      rw [e2, e49]
      simp only [gBi]
      rcases bl2 (hR.2.2.2.2.2.2 i (by omega) (envX (w.1 49))) with h0 | h1
      · rw [if_pos h0]
        refine ih _ _ _ (show spC σ.1 - (i + 1) < _ by omega) ⟨i + 1, by omega, rfl, rfl, hs.tr s2, fun j hj => ?_⟩
        by_cases hji : j = i
        · subst hji; rw [h0]; exact fun z => nI_10 z.2.symm
        · exact hv j (by omega)
      · rw [if_neg (by rw [h1]; exact nI_10)]
        refine ⟨w2, ?_, hs.tr s2⟩
        rw [b2i_t]
        unfold spHold
        rw [spFind_some (show i < spC σ.1 by omega) ⟨hl, h1⟩ hv]
        rfl
    · rw [if_neg hl]
      refine ih _ _ _ (show spC σ.1 - (i + 1) < _ by omega) ⟨i + 1, by omega, rfl, rfl, hs, fun j hj => ?_⟩
      by_cases hji : j = i
      · subst hji; exact fun z => hl z.1
      · exact hv j (by omega)
theorem x_amountOf {N : Nat} (hN : 5000 ≤ N) {σ : sT} {w : gT} (hE : EncX N σ w) (hR : Rng σ) {l high : Int32} (hl0 : l ≠ nI 107) : ∃ w', xX3_amountOf N l high w = some (spAmt σ l high (envX (w.1 49)), w') ∧ SmC [39] w w' := by
  obtain ⟨c1, c2⟩ := spC_eq hR
  unfold xX3_amountOf
  simp only [gLet]
  refine gW1_ind (fun t => ∃ w', t = some (spAmt σ l high (envX (w.1 49)), w') ∧ SmC [39] w w') (fun m a w1 => ∃ i, i ≤ spC σ.1 ∧ a = nI i ∧ m = spC σ.1 - i ∧ SmC [39] w w1 ∧ ∀ j, j < i → ¬ (σ.1 34 j = l ∧ σ.2.2 j (envX (w.1 49)) = nI 1)) ?_ N (spC σ.1) _ w (by omega) ⟨0, by omega, rfl, by omega, SmC.rf, by omega⟩
  rintro m go a w1 ⟨i, hi, rfl, rfl, hs, hv⟩ ih
  have hE1 : EncX N σ w1 := hE.sm (hs.toX rfl)
  unfold xX3_amountOf_b3
  rw [hE1.1 33 rfl, c1, hE1.1 34 rfl, hE1.1 36 rfl]
  simp (disch := omega) only [nI_add, nI_mul, nI_clamp, nI_leI, nI_ltI, nI_eq, pk_sub, pk_div, nI_rem, gG_in]
  by_cases h : spC σ.1 ≤ i
  · rw [if_pos h]
    refine ⟨w1, ?_, hs⟩
    have : i = spC σ.1 := by omega
    subst this
    unfold spAmt
    rw [spFind_none hv]
  · rw [if_neg h]
    simp only [gLet]
    by_cases hl : σ.1 34 i = l
    · rw [if_pos hl]
      obtain ⟨w2, e2, s2⟩ := (hE1.2.2 i (by omega)).2 w1 hE1.law33.1 hE1.law33.2.1 hE1.law33.2.2
      have hE2 : EncX N σ w2 := hE1.sm (s2.toX rfl)
      have e49 : w1.1 49 = w.1 49 := hs 49 (by decide)
      rw [e2, e49]
      simp only [gBi]
      rcases bl2 (hR.2.2.2.2.2.2 i (by omega) (envX (w.1 49))) with h0 | h1
      · rw [if_pos h0]
        refine ih _ _ _ (show spC σ.1 - (i + 1) < _ by omega) ⟨i + 1, by omega, rfl, rfl, hs.tr s2, fun j hj => ?_⟩
        by_cases hji : j = i
        · subst hji; rw [h0]; exact fun z => nI_10 z.2.symm
        · exact hv j (by omega)
      · rw [if_neg (by rw [h1]; exact nI_10), hE2.1 35 rfl]
        try simp (disch := omega) only [nI_add, nI_mul, nI_clamp, nI_leI, nI_ltI, nI_eq, pk_sub, pk_div, nI_rem, gG_in]
        obtain ⟨w3, e3, s3⟩ := (hE2.2.2 i (by omega)).1 (by rw [hl]; exact hl0) w2 hE2.law33.1 hE2.law33.2.1 hE2.law33.2.2
        have e492 : w2.1 49 = w.1 49 := (s2 49 (by decide)).trans e49
        rw [e3, e492]
        refine ⟨w3, ?_, hs.tr (s2.tr s3)⟩
        unfold spAmt
        rw [spFind_some (show i < spC σ.1 by omega) ⟨hl, h1⟩ hv]
    · rw [if_neg hl]
      refine ih _ _ _ (show spC σ.1 - (i + 1) < _ by omega) ⟨i + 1, by omega, rfl, rfl, hs, fun j hj => ?_⟩
      by_cases hji : j = i
      · subst hji; exact fun z => hl z.1
      · exact hv j (by omega)
