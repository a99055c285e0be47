/-! THE MODEL: the law asked, fright -/
theorem m_isSleeper (w : gT) {g : Nat} (hg : g < 10) : xX10_isSleeper (nI g) w = some (b2i (tol (w.1 0 3) g), w) := by
  unfold xX10_isSleeper xX10_has b2i
  simp (disch := omega) only [nI_add, nI_mul, nI_clamp, nI_leI, nI_ltI, nI_eq, pk_sub, pk_div, nI_rem, gG_in]
  rw [if_neg (by omega), if_neg (by omega)]
  by_cases h : tol (w.1 0 3) g
  · rw [if_pos h, gBi_s, if_neg nI_10, if_pos h]
  · rw [if_neg h, gBi_s, if_pos rfl, if_neg h]
theorem m_isGhost (w : gT) {g : Nat} (hg : g < 10) : xX10_isGhost (nI g) w = some (b2i (tol (w.1 0 4) g), w) := by
  unfold xX10_isGhost xX10_has b2i
  simp (disch := omega) only [nI_add, nI_mul, nI_clamp, nI_leI, nI_ltI, nI_eq, pk_sub, pk_div, nI_rem, gG_in]
  rw [if_neg (by omega), if_neg (by omega)]
  by_cases h : tol (w.1 0 4) g
  · rw [if_pos h, gBi_s, if_neg nI_10, if_pos h]
  · rw [if_neg h, gBi_s, if_pos rfl, if_neg h]
theorem m_isSleeper_o (w : gT) {x : Int32} (h : x < nI 0 ∨ nI 10 ≤ x) : xX10_isSleeper x w = some (nI 0, w) := by
  unfold xX10_isSleeper
  by_cases h1 : x < nI 0
  · rw [if_pos h1]
  · rw [if_neg h1, if_pos (h.resolve_left h1)]
theorem m_isGhost_o (w : gT) {x : Int32} (h : x < nI 0 ∨ nI 10 ≤ x) : xX10_isGhost x w = some (nI 0, w) := by
  unfold xX10_isGhost
  by_cases h1 : x < nI 0
  · rw [if_pos h1]
  · rw [if_neg h1, if_pos (h.resolve_left h1)]
theorem EncM.a {N : Nat} {σ : sT} {w : gT} (h : EncM N σ w) : w.1 1 = σ.1 2 ∧ w.1 2 = σ.1 4 ∧ w.1 3 = σ.1 3 ∧ w.1 4 = σ.1 5 ∧ w.1 5 = σ.1 6 ∧ w.1 6 = σ.1 7 ∧ w.1 7 = σ.1 8 := ⟨h.1.1, h.1.2.1, h.1.2.2.1, h.1.2.2.2.1, h.1.2.2.2.2.1, h.1.2.2.2.2.2.1, h.1.2.2.2.2.2.2.1⟩
theorem EncM.so {N : Nat} {σ : sT} {w : gT} (h : EncM N σ w) : w.1 0 1 = σ.1 1 11 := h.2.2.1.1
theorem EncM.ch {N : Nat} {σ : sT} {w : gT} (h : EncM N σ w) : w.1 0 2 = σ.1 1 10 := h.2.2.1.2.1
theorem EncM.sl {N : Nat} {σ : sT} {w : gT} (h : EncM N σ w) : w.1 0 3 = σ.1 1 9 := h.2.2.1.2.2.1
theorem EncM.gh {N : Nat} {σ : sT} {w : gT} (h : EncM N σ w) : w.1 0 4 = σ.1 1 8 := h.2.2.1.2.2.2.1
theorem EncM.tp {N : Nat} {σ : sT} {w : gT} (h : EncM N σ w) : w.1 0 14 = σ.1 19 1 := h.2.2.1.2.2.2.2.1
theorem EncM.wk {N : Nat} {σ : sT} {w : gT} (h : EncM N σ w) : w.1 0 19 = σ.1 21 5 := h.2.2.1.2.2.2.2.2.1
theorem EncM.cl {N : Nat} {σ : sT} {w : gT} (h : EncM N σ w) : w.1 0 33 = σ.1 33 3 := h.2.2.1.2.2.2.2.2.2.1
theorem EncM.kp {N : Nat} {σ : sT} {w : gT} (h : EncM N σ w) : w.1 0 56 = σ.1 0 2 := h.2.2.1.2.2.2.2.2.2.2.1
theorem EncM.wl {N : Nat} {σ : sT} {w : gT} (h : EncM N σ w) : ∀ i, i < spW σ.1 → w.1 10 i = σ.1 22 i ∧ w.1 11 i = σ.1 23 i ∧ w.1 12 i = σ.1 24 i ∧ w.1 16 i = σ.1 25 i := h.2.2.2.2.1
theorem EncM.law {N : Nat} {σ : sT} {w : gT} (h : EncM N σ w) : ∀ i, i < spC σ.1 → w.1 25 i = σ.1 34 i ∧ (σ.1 34 i ≠ nI 107 → evM N (w.1 24) (w.1 26 i) (w.1 27 i) (σ.2.1 i)) ∧ evM N (w.1 24) (w.1 27 i) (w.1 28 i) (σ.2.2 i) := h.2.2.2.2.2
theorem m_sleepIn {N : Nat} (hN : 5000 ≤ N) {σ : sT} {w : gT} (hE : EncM N σ w) {p n : Nat} (hn : n < 7) : xX10_sleepIn N (nI n) (σ.1 3 (n * 10 + p)) w = some (nI (spCo σ p n), w) := by
  unfold xX10_sleepIn
  refine gW2_ind (fun t => t = some (nI (spCo σ p n), w)) (fun m a b w1 => ∃ i, i ≤ 10 ∧ b = nI i ∧ m = 10 - i ∧ a = nI ((List.range i).countP (fun q => decide (tol (σ.1 1 9) q ∧ σ.1 3 (n * 10 + q) = σ.1 3 (n * 10 + p)))) ∧ w1 = w) ?_ N 10 _ _ w (by omega) ⟨0, by omega, rfl, by omega, rfl, rfl⟩
  rintro m go a b w1 ⟨i, hi, rfl, rfl, rfl, rfl⟩ ih
  unfold xX10_sleepIn_b5
  simp (disch := omega) only [nI_add, nI_mul, nI_clamp, nI_leI, nI_ltI, nI_eq, pk_sub, pk_div, nI_rem, gG_in]
  by_cases h : 10 ≤ i
  · rw [if_pos h]
    have : i = 10 := by omega
    subst this
    rfl
  · rw [if_neg h, m_isSleeper _ (by omega)]
    simp only [gBi, gLet, b2i_0, hE.a.2.2.1, hE.sl]
    have key : ∀ a', a' = nI ((List.range (i + 1)).countP (fun q => decide (tol (σ.1 1 9) q ∧ σ.1 3 (n * 10 + q) = σ.1 3 (n * 10 + p)))) → go a' (nI (i + 1)) w1 = some (nI (spCo σ p n), w1) := fun a' ha => ih (10 - (i + 1)) _ _ _ (by omega) ⟨i + 1, by omega, rfl, rfl, ha, rfl⟩
    rw [Nat.mul_comm 10 n]
    by_cases h1 : tol (σ.1 1 9) i
    · rw [if_neg (not_not_intro h1)]
      by_cases h2 : σ.1 3 (n * 10 + i) = σ.1 3 (n * 10 + p)
      · rw [if_pos h2]
        exact key _ (by rw [countP_s, if_pos (by simpa using ⟨h1, h2⟩), nI_add])
      · rw [if_neg h2]
        exact key _ (by rw [countP_s, if_neg (by simp [h2]), nI_add])
    · rw [if_pos h1]
      exact key _ (by rw [countP_s, if_neg (by simp [h1]), nI_add])
theorem envM_eq {f g : Nat → Int32} (h : ∀ k, k < 12 → f k = g k) (hz : ∀ k, 12 ≤ k → g k = nI 0) : envM f = g := by
  funext k
  unfold envM
  by_cases hk : k < 12
  · rw [if_pos hk, h k hk]
  · rw [if_neg hk, hz k (by omega)]
theorem envM_get {f g : Nat → Int32} (h : envM f = g) : ∀ k, k < 12 → f k = g k := by
  intro k hk
  subst h
  unfold envM
  rw [if_pos hk]
theorem l12 {P : Nat → Prop} (h : P 0 ∧ P 1 ∧ P 2 ∧ P 3 ∧ P 4 ∧ P 5 ∧ P 6 ∧ P 7 ∧ P 8 ∧ P 9 ∧ P 10 ∧ P 11) : ∀ k, k < 12 → P k := by
  obtain ⟨h0, h1, h2, h3, h4, h5, h6, h7, h8, h9, h10, h11⟩ := h
  intro k hk
  match k, hk with
  | 0, _ => exact h0
  | 1, _ => exact h1
  | 2, _ => exact h2
  | 3, _ => exact h3
  | 4, _ => exact h4
  | 5, _ => exact h5
  | 6, _ => exact h6
  | 7, _ => exact h7
  | 8, _ => exact h8
  | 9, _ => exact h9
  | 10, _ => exact h10
  | 11, _ => exact h11
  | k + 12, hk => omega
theorem m_feels {N : Nat} (hN : 5000 ≤ N) {σ : sT} {w : gT} (hE : EncM N σ w) {g n r : Nat} (hg : g < 10) (hr : r < 12) {ch : Int32} (hch : Bl ch 2) : ∃ w', xX10_feels N (nI g) (nI n) (nI r) ch w = some w' ∧ SmC [30] w w' ∧ envM (w'.1 30) = spEnvW σ g n r ch := by
  unfold xX10_feels
  refine gW1_ind (fun t => ∃ w', t = some w' ∧ SmC [30] w w' ∧ envM (w'.1 30) = spEnvW σ g n r ch) (fun m a w1 => ∃ i, i ≤ 12 ∧ a = nI i ∧ m = 12 - i ∧ SmC [30] w w1 ∧ ∀ j, j < i → w1.1 30 j = nI 0) ?_ N 12 _ w (by omega) ⟨0, by omega, rfl, by omega, SmC.rf, by omega⟩
  rintro m go a w1 ⟨i, hi, rfl, rfl, hs, hv⟩ ih
  unfold xX10_feels_b3
  simp (disch := omega) only [nI_add, nI_mul, nI_clamp, nI_leI, nI_ltI, nI_eq, pk_sub, pk_div, nI_rem, gG_in]
  by_cases h : 12 ≤ i
  · rw [if_pos h]
    have hi : i = 12 := by omega
    subst hi
    have h1 : w1.1 1 = σ.1 2 := (hs 1 (by decide)).trans hE.a.1
    have h5 : w1.1 5 = σ.1 6 := (hs 5 (by decide)).trans hE.a.2.2.2.2.1
    have h6 : w1.1 6 = σ.1 7 := (hs 6 (by decide)).trans hE.a.2.2.2.2.2.1
    have h7 : w1.1 7 = σ.1 8 := (hs 7 (by decide)).trans hE.a.2.2.2.2.2.2
    simp only [gLet, gU1 (show (1 : Nat) ≠ 30 by decide), gU1 (show (5 : Nat) ≠ 30 by decide), gU1 (show (6 : Nat) ≠ 30 by decide), gU1 (show (7 : Nat) ≠ 30 by decide), h1, h5, h6, h7]
    simp (disch := omega) only [nI_add, nI_mul, nI_clamp, nI_leI, nI_ltI, nI_eq, pk_sub, pk_div, nI_rem, gG_in]
    have key : ∀ c : Int32, c = ch → ∃ w', some (gU (gU (gU (gU (gU (gU (gU (gU w1 30 0 (nI r)) 30 1 (nI n)) 30 2 (σ.1 2 r)) 30 3 (nI g)) 30 4 (σ.1 6 g)) 30 5 (σ.1 7 g)) 30 6 (σ.1 8 g)) 30 7 c) = some w' ∧ SmC [30] w w' ∧ envM (w'.1 30) = spEnvW σ g n r ch := by
      rintro c rfl
      refine ⟨_, rfl, ?_, ?_⟩
      · exact hs.tr ((SmC.U (by decide)).tr ((SmC.U (by decide)).tr ((SmC.U (by decide)).tr ((SmC.U (by decide)).tr ((SmC.U (by decide)).tr ((SmC.U (by decide)).tr ((SmC.U (by decide)).tr (SmC.U (by decide)))))))))
      · refine envM_eq (l12 ?_) (fun k hk => ?_)
        · simp [gUs, spEnvW, hv]
        · match k, hk with
          | k + 12, _ => rfl
    rcases bl2 hch with rfl | rfl
    · rw [if_pos rfl]
      exact key _ rfl
    · rw [if_neg nI_10]
      exact key _ rfl
  · rw [if_neg h]
    refine ih (12 - (i + 1)) _ _ (by omega) ⟨i + 1, by omega, rfl, rfl, hs.tr (SmC.U (by decide)), fun j hj => ?_⟩
    rw [gUs]
    by_cases e : j = i
    · rw [if_pos e]
    · rw [if_neg e]; exact hv j (by omega)
theorem m_anyFright {N : Nat} (hN : 5000 ≤ N) {σ : sT} {w : gT} (hE : EncM N σ w) (hR : Rng σ) : ∃ w', xX10_anyFright N w = some (b2i (spHold σ (envM (w.1 30))), w') ∧ SmC [29] w w' := by
  obtain ⟨c1, c2⟩ := spC_eq hR
  unfold xX10_anyFright
  refine gW1_ind (fun t => ∃ w', t = some (b2i (spHold σ (envM (w.1 30))), w') ∧ SmC [29] w w') (fun m a w1 => ∃ i, i ≤ spC σ.1 ∧ a = nI i ∧ m = spC σ.1 - i ∧ SmC [29] w w1 ∧ ∀ j, j < i → ¬ (σ.1 34 j = nI 107 ∧ σ.2.2 j (envM (w.1 30)) = nI 1)) ?_ N (spC σ.1) _ w (by omega) ⟨0, by omega, rfl, by omega, SmC.rf, by omega⟩
  rintro m go a w1 ⟨i, hi, rfl, rfl, hs, hv⟩ ih
  have hE1 : EncM N σ w1 := hE.sm (hs.toM rfl)
  unfold xX10_anyFright_b2
  rw [hE1.cl, c1]
  simp (disch := omega) only [nI_add, nI_mul, nI_clamp, nI_leI, nI_ltI, nI_eq, pk_sub, pk_div, nI_rem, gG_in]
  by_cases h : spC σ.1 ≤ i
  · rw [if_pos h]
    refine ⟨w1, ?_, hs⟩
    have : i = spC σ.1 := by omega
    subst this
    rw [b2i_f]
    unfold spHold
    rw [spFind_none hv]
    simp
  · rw [if_neg h]
    obtain ⟨l1, -, l3⟩ := hE1.law i (by omega)
    simp only [gLet, l1]
    by_cases hl : σ.1 34 i = nI 107
    · rw [if_pos hl]
      obtain ⟨w2, e2, s2⟩ := l3 w1 rfl
      have e30 : w1.1 30 = w.1 30 := hs 30 (by decide)
      rw [e2, e30]
      simp only [gBi]
      rcases bl2 (hR.2.2.2.2.2.2 i (by omega) (envM (w.1 30))) with h0 | h1
      · rw [if_neg (by rw [h0]; exact fun z => nI_10 z.symm)]
        refine ih _ _ _ (show spC σ.1 - (i + 1) < _ by omega) ⟨i + 1, by omega, rfl, rfl, hs.tr s2, fun j hj => ?_⟩
        by_cases hji : j = i
        · subst hji; rw [h0]; exact fun z => nI_10 z.2.symm
        · exact hv j (by omega)
      · rw [if_pos h1]
        refine ⟨w2, ?_, hs.tr s2⟩
        rw [b2i_t]
        unfold spHold
        rw [spFind_some (show i < spC σ.1 by omega) ⟨hl, h1⟩ hv]
        rfl
    · rw [if_neg hl]
      refine ih _ _ _ (show spC σ.1 - (i + 1) < _ by omega) ⟨i + 1, by omega, rfl, rfl, hs, fun j hj => ?_⟩
      by_cases hji : j = i
      · subst hji; exact fun z => hl z.1
      · exact hv j (by omega)
theorem i32_le {a b : Int32} (h : a.toInt ≤ b.toInt) : a ≤ b := Int32.le_iff_toInt_le.mpr h
theorem i32_nlt {a b : Int32} (h : b.toInt ≤ a.toInt) : ¬ a < b := by rw [Int32.lt_iff_toInt_lt]; omega
theorem clamp_eq (h v : Int32) (h0 : ∃ k, k < 1000 ∧ h = nI k) : gMax (nI 0) (gMin h v) = if nI 0 ≤ v then (if v ≤ h then v else h) else nI 0 := by
  obtain ⟨k, hk, rfl⟩ := h0
  unfold gMax gMin
  have e0 : (nI 0).toInt = 0 := by decide
  have ek : (nI k).toInt = k := nI_toInt (by omega)
  by_cases a1 : v < nI k
  · have q1 := Int32.lt_iff_toInt_lt.mp a1
    have b1 : v ≤ nI k := i32_le (by omega)
    rw [if_pos a1, if_pos b1]
    by_cases a2 : nI 0 ≤ v
    · have q2 := Int32.le_iff_toInt_le.mp a2
      rw [if_pos a2]
      by_cases a3 : nI 0 < v
      · rw [if_pos a3]
      · rw [if_neg a3]
        rw [Int32.lt_iff_toInt_lt] at a3
        exact Int32.toInt_inj.mp (by omega)
    · rw [if_neg a2]
      rw [Int32.le_iff_toInt_le] at a2
      have b2 : ¬ nI 0 < v := i32_nlt (by omega)
      rw [if_neg b2]
  · have q1 : ¬ v.toInt < (nI k).toInt := by rw [← Int32.lt_iff_toInt_lt]; exact a1
    have b1 : nI 0 ≤ v := i32_le (by omega)
    rw [if_neg a1, if_pos b1]
    have fin : (if nI 0 < nI k then nI k else nI 0) = nI k := by
      by_cases a3 : nI 0 < nI k
      · rw [if_pos a3]
      · rw [if_neg a3]
        rw [Int32.lt_iff_toInt_lt] at a3
        exact Int32.toInt_inj.mp (by omega)
    rw [fin]
    by_cases a4 : v ≤ nI k
    · rw [if_pos a4]
      rw [Int32.le_iff_toInt_le] at a4
      exact Int32.toInt_inj.mp (by omega)
    · rw [if_neg a4]
theorem m_byLaw {N : Nat} (hN : 5000 ≤ N) {σ : sT} {w : gT} (hE : EncM N σ w) (hR : Rng σ) {l high : Int32} (hl0 : l ≠ nI 107) (hh : ∃ k, k < 1000 ∧ high = nI k) : ∃ w', xX10_byLaw N l high w = some (spAmt σ l high (envM (w.1 30)), w') ∧ SmC [29] w w' := by
  obtain ⟨c1, c2⟩ := spC_eq hR
  unfold xX10_byLaw
  simp only [gLet]
  refine gW1_ind (fun t => ∃ w', t = some (spAmt σ l high (envM (w.1 30)), w') ∧ SmC [29] w w') (fun m a w1 => ∃ i, i ≤ spC σ.1 ∧ a = nI i ∧ m = spC σ.1 - i ∧ SmC [29] w w1 ∧ ∀ j, j < i → ¬ (σ.1 34 j = l ∧ σ.2.2 j (envM (w.1 30)) = nI 1)) ?_ N (spC σ.1) _ w (by omega) ⟨0, by omega, rfl, by omega, SmC.rf, by omega⟩
  rintro m go a w1 ⟨i, hi, rfl, rfl, hs, hv⟩ ih
  have hE1 : EncM N σ w1 := hE.sm (hs.toM rfl)
  unfold xX10_byLaw_b2
  rw [hE1.cl, c1]
  simp (disch := omega) only [nI_add, nI_mul, nI_clamp, nI_leI, nI_ltI, nI_eq, pk_sub, pk_div, nI_rem, gG_in]
  by_cases h : spC σ.1 ≤ i
  · rw [if_pos h]
    refine ⟨w1, ?_, hs⟩
    have : i = spC σ.1 := by omega
    subst this
    unfold spAmt
    rw [spFind_none hv]
  · rw [if_neg h]
    obtain ⟨l1, -, l3⟩ := hE1.law i (by omega)
    simp only [gLet, l1]
    by_cases hl : σ.1 34 i = l
    · rw [if_pos hl]
      obtain ⟨w2, e2, s2⟩ := l3 w1 rfl
      have hE2 : EncM N σ w2 := hE1.sm (s2.toM rfl)
      have e30 : w1.1 30 = w.1 30 := hs 30 (by decide)
      rw [e2, e30]
      simp only [gBi]
      rcases bl2 (hR.2.2.2.2.2.2 i (by omega) (envM (w.1 30))) with h0 | h1
      · rw [if_neg (by rw [h0]; exact fun z => nI_10 z.symm)]
        refine ih _ _ _ (show spC σ.1 - (i + 1) < _ by omega) ⟨i + 1, by omega, rfl, rfl, hs.tr s2, fun j hj => ?_⟩
        by_cases hji : j = i
        · subst hji; rw [h0]; exact fun z => nI_10 z.2.symm
        · exact hv j (by omega)
      · rw [if_pos h1]
        try simp (disch := omega) only [nI_add, nI_mul, nI_clamp, nI_leI, nI_ltI, nI_eq, pk_sub, pk_div, nI_rem, gG_in]
        obtain ⟨w3, e3, s3⟩ := ((hE2.law i (by omega)).2.1 (by rw [hl]; exact hl0)) w2 rfl
        have e302 : w2.1 30 = w.1 30 := (s2 30 (by decide)).trans e30
        rw [e3, e302]
        simp only [gBi]
        have hr : spAmt σ l high (envM (w.1 30)) = gMax (nI 0) (gMin high (σ.2.1 i (envM (w.1 30)))) := by
          unfold spAmt
          rw [spFind_some (show i < spC σ.1 by omega) ⟨hl, h1⟩ hv]
        rw [hr, clamp_eq _ _ hh]
        by_cases g1 : nI 0 ≤ σ.2.1 i (envM (w.1 30))
        · rw [if_pos g1, if_pos g1]
          by_cases g2 : σ.2.1 i (envM (w.1 30)) ≤ high
          · rw [if_pos g2, if_pos g2]
            exact ⟨w3, rfl, hs.tr (s2.tr s3)⟩
          · rw [if_neg g2, if_neg g2]
            exact ⟨w3, rfl, hs.tr (s2.tr s3)⟩
        · rw [if_neg g1, if_neg g1]
          exact ⟨w3, rfl, hs.tr (s2.tr s3)⟩
    · rw [if_neg hl]
      refine ih _ _ _ (show spC σ.1 - (i + 1) < _ by omega) ⟨i + 1, by omega, rfl, rfl, hs, fun j hj => ?_⟩
      by_cases hji : j = i
      · subst hji; exact fun z => hl z.1
      · exact hv j (by omega)
theorem m_isNext {a b : Nat} (ha : a < 2 ^ 30) (hb : b < 2 ^ 30) (w : gT) : xX10_isNext (nI a) (nI b) w = some (b2i (b + 1 = a ∨ b = a + 1), w) := by
  unfold xX10_isNext b2i
  have key : ∀ a b : Nat, a < 2 ^ 30 → b < 2 ^ 30 → (nI a - nI b = nI 1 ↔ b + 1 = a) := by
    intro a b ha hb
    constructor
    · intro h
      have h1 : nI 1 + nI b = nI a := by rw [← h]; exact Int32.sub_add_cancel _ _
      rw [nI_add, nI_eq (by omega) (by omega)] at h1
      omega
    · intro h
      subst h
      rw [pk_sub (by omega), show b + 1 - b = 1 by omega]
  have k1 := key a b ha hb
  have k2 : nI b - nI a = nI 1 ↔ b = a + 1 := (key b a hb ha).trans ⟨Eq.symm, Eq.symm⟩
  simp only [k1, k2]
  by_cases h1 : b + 1 = a
  · simp [h1]
  · by_cases h2 : b = a + 1 <;> simp [h1, h2]
theorem m_frightOf {N : Nat} (hN : 5000 ≤ N) {σ : sT} {w : gT} (hE : EncM N σ w) (hR : Rng σ) {g p n r : Nat} (hg : g < 10) (hp : p < 10) (hn : n < 7) (hr : r < 12) {ch : Int32} (hch : Bl ch 2) : ∃ w', xX10_frightOf N (nI g) (nI p) (nI n) (nI r) ch w = some (spFO σ g p n r ch, w') ∧ SmC [29, 30] w w' := by
  unfold xX10_frightOf
  simp (disch := omega) only [nI_add, nI_mul, nI_clamp, nI_leI, nI_ltI, nI_eq, pk_sub, pk_div, nI_rem, gG_in]
  rw [Nat.mul_comm 10 n, hE.a.2.2.1, hE.a.2.2.2.1]
  simp only [gLet]
  have far : ¬ spNear σ g p n r → spFO σ g p n r ch = (-2) := fun h => by unfold spFO; rw [if_neg h]
  rcases (hR.1.2.1 (n * 10 + p) (by omega)).symm with eb | ⟨b, hb, eb⟩
  · rw [show (1 : Nat) + 2 = 3 from rfl] at eb
    rw [if_pos eb, far]
    · exact ⟨w, rfl, SmC.rf⟩
    · intro h
      have := spBed_lt hR hp hn hr h
      have h2 : spBed σ p n = 255 := by unfold spBed; rw [eb, nI_clamp (by omega)]
      omega
  rw [show (1 : Nat) + 2 = 3 from rfl] at eb
  have eB : spBed σ p n = b := by unfold spBed; rw [eb, nI_clamp (by omega)]
  rw [if_neg (by rw [eb, nI_eq (by omega) (by omega)]; omega)]
  have go : spNear σ g p n r → ∃ w', (gBi (xX10_sleepIn N (nI n) (σ.1 3 (n * 10 + p)) w) fun v17 w18 =>
        if w18.1 4 g = nI 1 then
          if v17 = nI 1 then
            if w18.1 4 g = nI 3 then some ((-2), w18)
            else
              if w18.1 4 g = nI 4 then
                if ch = nI 0 then some ((-2), w18)
                else
                  gBv (xX10_feels N (nI g) (nI n) (σ.1 3 (n * 10 + p)) ch w18) fun w9 =>
                    gBi (xX10_anyFright N (gU (gU (gU w9 30 8 (nI p)) 30 9 ((gU w9 30 8 (nI p)).1 2 p)) 30 10 v17)) fun v13 w14 =>
                      if v13 = nI 0 then some ((-2), w14) else gBi (xX10_byLaw N (nI 102) (nI 99) w14) fun v15 w16 => some (v15, w16)
              else
                gBv (xX10_feels N (nI g) (nI n) (σ.1 3 (n * 10 + p)) ch w18) fun w9 =>
                  gBi (xX10_anyFright N (gU (gU (gU w9 30 8 (nI p)) 30 9 ((gU w9 30 8 (nI p)).1 2 p)) 30 10 v17)) fun v13 w14 =>
                    if v13 = nI 0 then some ((-2), w14) else gBi (xX10_byLaw N (nI 102) (nI 99) w14) fun v15 w16 => some (v15, w16)
          else some ((-2), w18)
        else
          if w18.1 4 g = nI 3 then some ((-2), w18)
          else
            if w18.1 4 g = nI 4 then
              if ch = nI 0 then some ((-2), w18)
              else
                gBv (xX10_feels N (nI g) (nI n) (σ.1 3 (n * 10 + p)) ch w18) fun w9 =>
                  gBi (xX10_anyFright N (gU (gU (gU w9 30 8 (nI p)) 30 9 ((gU w9 30 8 (nI p)).1 2 p)) 30 10 v17)) fun v13 w14 =>
                    if v13 = nI 0 then some ((-2), w14) else gBi (xX10_byLaw N (nI 102) (nI 99) w14) fun v15 w16 => some (v15, w16)
            else
              gBv (xX10_feels N (nI g) (nI n) (σ.1 3 (n * 10 + p)) ch w18) fun w9 =>
                gBi (xX10_anyFright N (gU (gU (gU w9 30 8 (nI p)) 30 9 ((gU w9 30 8 (nI p)).1 2 p)) 30 10 v17)) fun v13 w14 =>
                  if v13 = nI 0 then some ((-2), w14) else gBi (xX10_byLaw N (nI 102) (nI 99) w14) fun v15 w16 => some (v15, w16)) =
      some (spFO σ g p n r ch, w') ∧ SmC [29, 30] w w' := by
    intro hnr
    have hco : spCo σ p n ≤ 10 := spCo_le
    rw [m_sleepIn hN hE hn]
    simp only [gBi_s, hE.a.2.2.2.1]
    have e0 : spFO σ g p n r ch = spFV σ g p n ch := by unfold spFO; rw [if_pos hnr]
    rw [e0]
    unfold spFV
    rw [eB, eb]
    have run : spLet (σ.1 5 g) (spCo σ p n) ch → ∃ w', (gBv (xX10_feels N (nI g) (nI n) (nI b) ch w) fun w9 =>
                gBi (xX10_anyFright N (gU (gU (gU w9 30 8 (nI p)) 30 9 ((gU w9 30 8 (nI p)).1 2 p)) 30 10 (nI (spCo σ p n)))) fun v13 w14 =>
                  if v13 = nI 0 then some ((-2), w14) else gBi (xX10_byLaw N (nI 102) (nI 99) w14) fun v15 w16 => some (v15, w16)) =
      some (if spLet (σ.1 5 g) (spCo σ p n) ch ∧ spHold σ (spEnvF σ g p n b ch (nI (spCo σ p n))) then spAmt σ (nI 102) (nI 99) (spEnvF σ g p n b ch (nI (spCo σ p n))) else (-2), w') ∧ SmC [29, 30] w w' := by
      intro hl
      obtain ⟨w9, e9, s9, v9⟩ := m_feels hN hE (n := n) hg hb hch
      have h2 : w9.1 2 = σ.1 4 := (s9 2 (by decide)).trans hE.a.2.1
      rw [e9]
      simp only [gBv_s, gU1 (show (2 : Nat) ≠ 30 by decide), h2]
      have s10 : ∀ a b c : Int32, SmC [30] w (gU (gU (gU w9 30 8 a) 30 9 b) 30 10 c) := fun a b c => s9.tr ((SmC.U (by decide)).tr ((SmC.U (by decide)).tr (SmC.U (by decide))))
      have hv : envM ((gU (gU (gU w9 30 8 (nI p)) 30 9 (σ.1 4 p)) 30 10 (nI (spCo σ p n))).1 30) = spEnvF σ g p n b ch (nI (spCo σ p n)) := by
        have q := envM_get v9
        refine envM_eq (l12 ?_) (fun k hk => ?_)
        · simp [gUs, spEnvF, q]
        · match k, hk with
          | k + 12, _ => rfl
      have hE2 : EncM N σ (gU (gU (gU w9 30 8 (nI p)) 30 9 (σ.1 4 p)) 30 10 (nI (spCo σ p n))) := hE.sm ((s10 _ _ _).toM rfl)
      obtain ⟨w11, e11, s11⟩ := m_anyFright hN hE2 hR
      rw [e11, hv]
      simp only [gBi_s, b2i_0]
      have hE3 : EncM N σ w11 := hE2.sm (s11.toM rfl)
      by_cases hh : spHold σ (spEnvF σ g p n b ch (nI (spCo σ p n)))
      · rw [if_neg (not_not_intro hh), if_pos ⟨hl, hh⟩]
        obtain ⟨w12, e12, s12⟩ := m_byLaw hN hE3 hR (l := nI 102) (high := nI 99) (by decide) ⟨99, by omega, rfl⟩
        rw [e12, show w11.1 30 = _ from s11 30 (by decide), hv]
        exact ⟨w12, rfl, ((s10 _ _ _).mono (by decide)).tr ((s11.mono (by decide)).tr (s12.mono (by decide)))⟩
      · rw [if_pos hh, if_neg (fun z => hh z.2)]
        exact ⟨w11, rfl, ((s10 _ _ _).mono (by decide)).tr (s11.mono (by decide))⟩
    have stop : ¬ spLet (σ.1 5 g) (spCo σ p n) ch → ∃ w', (some ((-2 : Int32), w) : Option (Int32 × gT)) = some (if spLet (σ.1 5 g) (spCo σ p n) ch ∧ spHold σ (spEnvF σ g p n b ch (nI (spCo σ p n))) then spAmt σ (nI 102) (nI 99) (spEnvF σ g p n b ch (nI (spCo σ p n))) else (-2), w') ∧ SmC [29, 30] w w' := fun hl => ⟨w, by rw [if_neg (fun z => hl z.1)], SmC.rf⟩
    have n13 : ¬ nI 1 = nI 3 := by decide
    have n14 : ¬ nI 1 = nI 4 := by decide
    have n43 : ¬ nI 4 = nI 3 := by decide
    have n41 : ¬ nI 4 = nI 1 := by decide
    by_cases k1 : σ.1 5 g = nI 1
    · rw [if_pos k1]
      by_cases c1 : spCo σ p n = 1
      · rw [if_pos (show nI (spCo σ p n) = nI 1 by rw [c1]), if_neg (by rw [k1]; exact n13), if_neg (by rw [k1]; exact n14)]
        exact run ⟨by rw [k1]; exact n13, fun _ => c1, fun z => absurd (k1.symm.trans z) n14⟩
      · rw [if_neg (show ¬ nI (spCo σ p n) = nI 1 by rw [nI_eq (by omega) (by omega)]; exact c1)]
        exact stop (fun z => c1 (z.2.1 k1))
    · rw [if_neg k1]
      by_cases k3 : σ.1 5 g = nI 3
      · rw [if_pos k3]
        exact stop (fun z => z.1 k3)
      · rw [if_neg k3]
        by_cases k4 : σ.1 5 g = nI 4
        · rw [if_pos k4]
          rcases bl2 hch with h0 | h1
          · rw [if_pos h0]
            exact stop (fun z => nI_10 ((z.2.2 k4).symm.trans h0))
          · rw [if_neg (by rw [h1]; exact nI_10)]
            exact run ⟨k3, fun z => absurd z k1, fun _ => h1⟩
        · rw [if_neg k4]
          exact run ⟨k3, fun z => absurd z k1, fun z => absurd z k4⟩
  by_cases h1 : b = r
  · rw [if_pos (by rw [eb, h1])]
    exact go (Or.inl (by rw [eB, h1]))
  · rw [if_neg (by rw [eb, nI_eq (by omega) (by omega)]; exact h1)]
    by_cases h2 : σ.1 5 g = nI 2
    · rw [if_pos h2, eb, m_isNext (by omega) (by omega)]
      simp only [gBi_s, b2i_0]
      by_cases h3 : r + 1 = b ∨ r = b + 1
      · rw [if_neg (not_not_intro h3)]
        rw [eb] at go
        exact go (Or.inr ⟨h2, by rw [eB]; exact h3⟩)
      · rw [if_pos h3, far]
        · exact ⟨w, rfl, SmC.rf⟩
        · rintro (z | z)
          · exact h1 (by rw [z, eB])
          · exact h3 (by rw [← eB]; exact z.2)
    · rw [if_neg h2, far]
      · exact ⟨w, rfl, SmC.rf⟩
      · rintro (z | z)
        · exact h1 (by rw [z, eB])
        · exact h2 z.1
