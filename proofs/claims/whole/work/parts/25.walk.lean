/-! WALKS: which count, who stands -/
def wg (σ : sT) (i : Nat) : Nat := (σ.1 22 i).toNatClampNeg
def wn (σ : sT) (i : Nat) : Nat := (σ.1 23 i).toNatClampNeg
def wr (σ : sT) (i : Nat) : Nat := (σ.1 24 i).toNatClampNeg
def ya (σ : sT) (g : Nat) : Nat := (σ.1 8 g).toNatClampNeg
abbrev spGone (σ : sT) (i : Nat) : Prop := (¬ ∃ k, k < i ∧ σ.1 22 k = σ.1 22 i ∧ σ.1 23 k = σ.1 23 i) ∧ tol (σ.1 1 8) (wg σ i)
abbrev spElder (σ : sT) (g h : Nat) : Prop := ya σ h < ya σ g ∨ (ya σ g = ya σ h ∧ g < h)
abbrev spRiv (σ : sT) (i j : Nat) : Prop := wn σ j = wn σ i ∧ wr σ j = wr σ i ∧ wg σ j ≠ wg σ i ∧ spGone σ j ∧ spElder σ (wg σ j) (wg σ i)
abbrev spStands (σ : sT) (i : Nat) : Prop := ∃ j, j < spW σ.1 ∧ spRiv σ i j
theorem wk_at {σ : sT} (hR : Rng σ) {i : Nat} (hi : i < spW σ.1) : σ.1 22 i = nI (wg σ i) ∧ wg σ i < 10 ∧ σ.1 23 i = nI (wn σ i) ∧ wn σ i < 7 ∧ σ.1 24 i = nI (wr σ i) ∧ wr σ i < 12 ∧ Bl (σ.1 25 i) 2 ∧ σ.1 26 i = b2i (¬ ∃ k, k < i ∧ σ.1 22 k = σ.1 22 i ∧ σ.1 23 k = σ.1 23 i) := by
  obtain ⟨h1, h2, h3, h4, h5⟩ := hR.2.2.1.2 i hi
  obtain ⟨a1, a2⟩ := h1.cl (by omega)
  obtain ⟨b1, b2⟩ := h2.cl (by omega)
  obtain ⟨c1, c2⟩ := h3.cl (by omega)
  exact ⟨a2, a1, b2, b1, c2, c1, h4, h5⟩
theorem ya_at {σ : sT} (hR : Rng σ) {g : Nat} (hg : g < 10) : σ.1 8 g = nI (ya σ g) ∧ ya σ g < 1000 := by
  obtain ⟨a1, a2⟩ := (hR.1.2.2.2.2.2.2.1 g hg).cl (by omega)
  exact ⟨a2, a1⟩
theorem spW_le {σ : sT} (hR : Rng σ) : σ.1 21 5 = nI (spW σ.1) ∧ spW σ.1 ≤ 16 := spW_eq hR.2.2.1
theorem x_isGone {N : Nat} {σ : sT} {w : gT} (hE : EncX N σ w) (hR : Rng σ) {i : Nat} (hi : i < spW σ.1) : xX7_isGone (nI i) w = some (b2i (spGone σ i), w) := by
  obtain ⟨-, hW⟩ := spW_le hR
  obtain ⟨h1, h2, -, -, -, -, -, h8⟩ := wk_at hR hi
  unfold xX7_isGone
  simp (disch := omega) only [nI_add, nI_mul, nI_clamp, nI_leI, nI_ltI, nI_eq, pk_sub, pk_div, nI_rem, gG_in]
  have e : xX2_hasGhost (σ.1 22 i) w = some (b2i (tol (σ.1 1 8) (wg σ i)), w) := (congrArg (fun z => xX2_hasGhost z w) h1).trans ((x_hasGhost w h2).trans (by rw [hE.1 1 rfl]))
  rw [hE.1 26 rfl, hE.1 22 rfl, h8, e]
  simp only [gBi, b2i_0, b2i_1]
  unfold b2i
  by_cases a : ¬ ∃ k, k < i ∧ σ.1 22 k = σ.1 22 i ∧ σ.1 23 k = σ.1 23 i
  · rw [if_pos a]
    by_cases b : tol (σ.1 1 8) (wg σ i)
    · rw [if_neg (not_not_intro b), if_pos ⟨a, b⟩]
    · rw [if_pos b, if_neg (fun z => b z.2)]
  · rw [if_neg a, if_neg (fun z => a z.1)]
theorem m_counts {N : Nat} (hN : 5000 ≤ N) {σ : sT} {w : gT} (hE : EncM N σ w) (hR : Rng σ) {i : Nat} (hi : i < spW σ.1) : xX10_counts N (nI i) w = some (b2i (spGone σ i), w) := by
  obtain ⟨-, hW⟩ := spW_le hR
  obtain ⟨h1, h2, -⟩ := wk_at hR hi
  unfold xX10_counts
  simp (disch := omega) only [nI_add, nI_mul, nI_clamp, nI_leI, nI_ltI, nI_eq, pk_sub, pk_div, nI_rem, gG_in]
  have e : xX10_isGhost (σ.1 22 i) w = some (b2i (tol (σ.1 1 8) (wg σ i)), w) := (congrArg (fun z => xX10_isGhost z w) h1).trans ((m_isGhost w h2).trans (by rw [hE.gh]))
  rw [(hE.wl i hi).1, e]
  simp only [gBi_s, b2i_0]
  by_cases b : tol (σ.1 1 8) (wg σ i)
  · rw [if_neg (not_not_intro b)]
    refine gW1_ind (fun t => t = some (b2i (spGone σ i), w)) (fun m a w1 => ∃ k, k ≤ i ∧ a = nI k ∧ m = i - k ∧ w1 = w ∧ ∀ j, j < k → ¬ (σ.1 22 j = σ.1 22 i ∧ σ.1 23 j = σ.1 23 i)) ?_ N i _ w (by omega) ⟨0, by omega, rfl, by omega, rfl, by omega⟩
    rintro m go a w1 ⟨k, hk, rfl, rfl, rfl, hv⟩ ih
    unfold xX10_counts_b17
    simp (disch := omega) only [nI_add, nI_mul, nI_clamp, nI_leI, nI_ltI, nI_eq, pk_sub, pk_div, nI_rem, gG_in]
    by_cases h : i ≤ k
    · rw [if_pos h, b2i_t]
      exact ⟨fun ⟨j, hj, hz⟩ => hv j (by omega) hz, b⟩
    · rw [if_neg h]
      have hk2 : k < spW σ.1 := by omega
      simp only [gLet, (hE.wl k hk2).1, (hE.wl k hk2).2.1, (hE.wl i hi).1, (hE.wl i hi).2.1]
      have nxt : ¬ (σ.1 22 k = σ.1 22 i ∧ σ.1 23 k = σ.1 23 i) → go (nI (k + 1)) w1 = some (b2i (spGone σ i), w1) := fun hne => ih (i - (k + 1)) _ _ (by omega) ⟨k + 1, by omega, rfl, rfl, rfl, fun j hj => by
        by_cases e : j = k
        · subst e; exact hne
        · exact hv j (by omega)⟩
      by_cases q1 : σ.1 22 k = σ.1 22 i
      · rw [if_pos q1]
        by_cases q2 : σ.1 23 k = σ.1 23 i
        · rw [if_pos q2, b2i_f]
          exact fun z => z.1 ⟨k, by omega, q1, q2⟩
        · rw [if_neg q2]
          exact nxt (fun z => q2 z.2)
      · rw [if_neg q1]
        exact nxt (fun z => q1 z.1)
  · rw [if_pos b, b2i_f]
    exact fun z => b z.2
theorem x_isElder {N : Nat} {σ : sT} {w : gT} (hE : EncX N σ w) (hR : Rng σ) {g h : Nat} (hg : g < 10) (hh : h < 10) : xX7_isElder (nI g) (nI h) w = some (b2i (spElder σ g h), w) := by
  obtain ⟨e1, l1⟩ := ya_at hR hg
  obtain ⟨e2, l2⟩ := ya_at hR hh
  unfold xX7_isElder
  simp (disch := omega) only [nI_add, nI_mul, nI_clamp, nI_leI, nI_ltI, nI_eq, pk_sub, pk_div, nI_rem, gG_in]
  rw [hE.1 8 rfl, e1, e2]
  simp (disch := omega) only [nI_add, nI_mul, nI_clamp, nI_leI, nI_ltI, nI_eq, pk_sub, pk_div, nI_rem, gG_in]
  unfold b2i spElder
  by_cases a : ya σ h < ya σ g
  · rw [if_pos a, if_pos (Or.inl a)]
  · rw [if_neg a]
    by_cases b : ya σ g = ya σ h
    · rw [if_pos b]
      by_cases c : h ≤ g
      · rw [if_pos c, if_neg (by omega)]
      · rw [if_neg c, if_pos (by omega)]
    · rw [if_neg b, if_neg (by omega)]
theorem x_isClaimed {N : Nat} (hN : 5000 ≤ N) {σ : sT} {w : gT} (hE : EncX N σ w) (hR : Rng σ) {i : Nat} (hi : i < spW σ.1) : xX7_isClaimed N (nI i) w = some (b2i (spStands σ i), w) := by
  obtain ⟨hW0, hW⟩ := spW_le hR
  obtain ⟨g1, g2, g3, g4, g5, g6, -⟩ := wk_at hR hi
  unfold xX7_isClaimed
  simp (disch := omega) only [nI_add, nI_mul, nI_clamp, nI_leI, nI_ltI, nI_eq, pk_sub, pk_div, nI_rem, gG_in]
  rw [hE.1 22 rfl, g1]
  simp only [gLet]
  refine gW1_ind (fun t => t = some (b2i (spStands σ i), w)) (fun m a w1 => ∃ k, k ≤ spW σ.1 ∧ a = nI k ∧ m = spW σ.1 - k ∧ w1 = w ∧ ∀ j, j < k → ¬ spRiv σ i j) ?_ N (spW σ.1) _ w (by omega) ⟨0, by omega, rfl, by omega, rfl, by omega⟩
  rintro m go a w1 ⟨k, hk, rfl, rfl, rfl, hv⟩ ih
  unfold xX7_isClaimed_b10
  rw [hE.1 21 rfl, hW0, hE.1 22 rfl, hE.1 23 rfl, hE.1 24 rfl]
  simp (disch := omega) only [nI_add, nI_mul, nI_clamp, nI_leI, nI_ltI, nI_eq, pk_sub, pk_div, nI_rem, gG_in]
  by_cases h : spW σ.1 ≤ k
  · rw [if_pos h, b2i_f]
    exact fun ⟨j, hj, hz⟩ => hv j (by omega) hz
  · rw [if_neg h]
    have hk2 : k < spW σ.1 := by omega
    obtain ⟨k1, k2, k3, k4, k5, k6, -⟩ := wk_at hR hk2
    have nxt : ¬ spRiv σ i k → go (nI (k + 1)) w1 = some (b2i (spStands σ i), w1) := fun hne => ih (spW σ.1 - (k + 1)) _ _ (by omega) ⟨k + 1, by omega, rfl, rfl, rfl, fun j hj => by
      by_cases e : j = k
      · subst e; exact hne
      · exact hv j (by omega)⟩
    simp only [gLet]
    rw [k3, g3, k5, g5, k1, x_isGone hE hR hk2]
    simp (disch := omega) only [nI_add, nI_mul, nI_clamp, nI_leI, nI_ltI, nI_eq, pk_sub, pk_div, nI_rem, gG_in]
    simp only [gBi_s, b2i_0]
    by_cases q1 : wn σ k = wn σ i
    · rw [if_pos q1]
      by_cases q2 : wr σ k = wr σ i
      · rw [if_pos q2]
        by_cases q3 : wg σ k = wg σ i
        · rw [if_pos q3, if_pos trivial]
          exact nxt (fun z => z.2.2.1 q3)
        · rw [if_neg q3]
          by_cases q4 : spGone σ k
          · rw [if_neg (not_not_intro q4), if_neg (by decide), hE.1 22 rfl, k1, x_isElder hE hR k2 g2]
            simp only [gBi_s, b2i_0]
            by_cases q5 : spElder σ (wg σ k) (wg σ i)
            · rw [if_neg (not_not_intro q5), b2i_t ⟨k, hk2, q1, q2, q3, q4, q5⟩]
            · rw [if_pos q5]
              exact nxt (fun z => q5 z.2.2.2.2)
          · rw [if_pos q4, if_pos trivial]
            exact nxt (fun z => q4 z.2.2.2.1)
      · rw [if_neg q2, if_pos trivial]
        exact nxt (fun z => q2 z.2.1)
    · rw [if_neg q1, if_pos trivial]
      exact nxt (fun z => q1 z.1)
theorem m_stands {N : Nat} (hN : 5000 ≤ N) {σ : sT} {w : gT} (hE : EncM N σ w) (hR : Rng σ) {i : Nat} (hi : i < spW σ.1) : xX10_stands N (nI i) w = some (b2i (spStands σ i), w) := by
  obtain ⟨hW0, hW⟩ := spW_le hR
  obtain ⟨g1, g2, g3, g4, g5, g6, -⟩ := wk_at hR hi
  obtain ⟨y1, y2⟩ := ya_at hR g2
  unfold xX10_stands
  refine gW1_ind (fun t => t = some (b2i (spStands σ i), w)) (fun m a w1 => ∃ k, k ≤ spW σ.1 ∧ a = nI k ∧ m = spW σ.1 - k ∧ w1 = w ∧ ∀ j, j < k → ¬ spRiv σ i j) ?_ N (spW σ.1) _ w (by omega) ⟨0, by omega, rfl, by omega, rfl, by omega⟩
  rintro m go a w1 ⟨k, hk, rfl, rfl, rfl, hv⟩ ih
  unfold xX10_stands_b2
  rw [hE.wk, hW0]
  simp (disch := omega) only [nI_add, nI_mul, nI_clamp, nI_leI, nI_ltI, nI_eq, pk_sub, pk_div, nI_rem, gG_in]
  by_cases h : spW σ.1 ≤ k
  · rw [if_pos h, b2i_f]
    exact fun ⟨j, hj, hz⟩ => hv j (by omega) hz
  · rw [if_neg h]
    have hk2 : k < spW σ.1 := by omega
    obtain ⟨k1, k2, k3, k4, k5, k6, -⟩ := wk_at hR hk2
    obtain ⟨z1, z2⟩ := ya_at hR k2
    have nxt : ¬ spRiv σ i k → go (nI (k + 1)) w1 = some (b2i (spStands σ i), w1) := fun hne => ih (spW σ.1 - (k + 1)) _ _ (by omega) ⟨k + 1, by omega, rfl, rfl, rfl, fun j hj => by
      by_cases e : j = k
      · subst e; exact hne
      · exact hv j (by omega)⟩
    obtain ⟨a1, a2, a3, -⟩ := hE.wl k hk2
    obtain ⟨b1, b2, b3, -⟩ := hE.wl i hi
    simp only [gLet]
    rw [a1, a2, a3, b1, b2, b3, k3, g3, k5, g5, k1, g1, m_counts hN hE hR hk2]
    simp (disch := omega) only [nI_add, nI_mul, nI_clamp, nI_leI, nI_ltI, nI_eq, pk_sub, pk_div, nI_rem, gG_in]
    simp only [gBi_s, b2i_0]
    by_cases q1 : wn σ k = wn σ i
    · rw [if_pos q1]
      by_cases q2 : wr σ k = wr σ i
      · rw [if_pos q2]
        by_cases q3 : wg σ k = wg σ i
        · rw [if_pos q3]
          exact nxt (fun z => z.2.2.1 q3)
        · rw [if_neg q3]
          by_cases q4 : spGone σ k
          · rw [if_neg (not_not_intro q4), a1, b1, k1, g1]
            try simp (disch := omega) only [nI_add, nI_mul, nI_clamp, nI_leI, nI_ltI, nI_eq, pk_sub, pk_div, nI_rem, gG_in]
            rw [hE.a.2.2.2.2.2.2, z1, y1]
            by_cases p1 : ya σ (wg σ i) < ya σ (wg σ k)
            · rw [pk_sub (by omega), if_pos (by rw [nI_ltI (by omega) (by omega)]; omega), b2i_t ⟨k, hk2, q1, q2, q3, q4, Or.inl p1⟩]
            · have e0 : (nI (ya σ (wg σ k)) - nI (ya σ (wg σ i))).toInt = (ya σ (wg σ k) : Int) - ya σ (wg σ i) := pk_sub_toInt (by omega) (by omega)
              have e1 : (nI 0).toInt = 0 := by decide
              rw [if_neg (i32_nlt (by omega))]
              by_cases p2 : ya σ (wg σ k) = ya σ (wg σ i)
              · rw [if_pos (Int32.toInt_inj.mp (by omega))]
                by_cases p3 : wg σ i ≤ wg σ k
                · rw [if_pos p3]
                  exact nxt (fun z => by rcases z.2.2.2.2 with z | z <;> omega)
                · rw [if_neg p3, b2i_t ⟨k, hk2, q1, q2, q3, q4, Or.inr ⟨p2, by omega⟩⟩]
              · rw [if_neg (fun z => p2 (by rw [z] at e0; omega))]
                exact nxt (fun z => by rcases z.2.2.2.2 with z | z <;> omega)
          · rw [if_pos q4]
            exact nxt (fun z => q4 z.2.2.2.1)
      · rw [if_neg q2]
        exact nxt (fun z => q2 z.2.1)
    · rw [if_neg q1]
      exact nxt (fun z => q1 z.1)
