def big (x : Nat) : Nat := if x = 15 then 1000000000 else x
theorem big_15 : big 15 = 1000000000 := rfl
theorem big_n {x : Nat} (h : x ≠ 15) : big x = x := if_neg h
theorem Fm_val {G R : Nat → Nat} {W s d : Nat} (hs : s < 1024) (h : ∀ s, s < 1024 → G s ≤ d ∨ G s = 15) (hd : d < 14) : ∀ t, Fm G R W s t ≤ d + 1 ∨ Fm G R W s t = 15
  | 0 => by
    show G s ≤ d + 1 ∨ G s = 15
    have := h s hs
    omega
  | t + 1 => by
    have ih := Fm_val (R := R) (W := W) hs h hd t
    have hm := sb_le (mn_sb s (R t))
    have := h (mn s (R t)) (by omega)
    rw [Fm_s]
    split
    · rename_i c
      omega
    · exact ih
theorem fdO_val (σ : sT) (M : Nat) : ∀ d, d ≤ 10 → ∀ s, s < 1024 → fdO σ M d s ≤ d ∨ fdO σ M d s = 15
  | 0, _, s, _ => by
    show (if s = 0 then 0 else 15) ≤ 0 ∨ (if s = 0 then 0 else 15) = 15
    split <;> omega
  | d + 1, hd, s, hs => by
    have ih := fdO_val σ M d (by omega)
    show (if tol (σ.1 1 8) (9 - d) then Fm (fdO σ M d) (Rw σ M (9 - d)) M s 84 else fdO σ M d s) ≤ d + 1 ∨ (if tol (σ.1 1 8) (9 - d) then Fm (fdO σ M d) (Rw σ M (9 - d)) M s 84 else fdO σ M d s) = 15
    split
    · exact Fm_val hs ih (by omega) 84
    · have := ih s hs
      omega
theorem Rw_and {σ : sT} {M g t : Nat} (hM : M < 1024) : bn (spP2 σ g (t / 12) (t % 12)) 10 &&& M = Rw σ M g t := by
  apply Nat.eq_of_testBit_eq
  intro i
  unfold Rw
  rw [Nat.testBit_and, bn_tb, bn_tb]
  by_cases hi : i < 10
  · have e := tol_iff (v := M) (p := i) (by omega) (by omega)
    have e2 := bitA_tb M i
    by_cases b : M.testBit i = true
    · have tm : tol (nI M) i := e.mpr (e2.mpr b)
      rw [b, Bool.and_true]
      by_cases p : spP2 σ g (t / 12) (t % 12) i
      · rw [decide_eq_true (show i < 10 ∧ _ from ⟨hi, p⟩), decide_eq_true (show i < 10 ∧ _ from ⟨hi, tm, p⟩)]
      · rw [decide_eq_false (fun z => p z.2), decide_eq_false (fun z => p z.2.2)]
    · have tm : ¬ tol (nI M) i := fun z => b (e2.mp (e.mp z))
      rw [Bool.eq_false_iff.mpr b, Bool.and_false, decide_eq_false (fun z => tm z.2.1)]
  · rw [decide_eq_false (fun z => hi z.1), decide_eq_false (fun z => hi z.1), Bool.false_and]
theorem mn_mn {M m R : Nat} : mn M (m ||| R) = mn (mn M m) R := by
  apply Nat.eq_of_testBit_eq
  intro i
  rw [mn_tb, mn_tb, mn_tb, Nat.testBit_or]
  generalize M.testBit i = x
  generalize m.testBit i = y
  generalize R.testBit i = z
  cases x <;> cases y <;> cases z <;> rfl
theorem dis_sb {M m R : Nat} (hR : sb R M) : R &&& m = 0 ↔ sb R (mn M m) := by
  constructor
  · intro h
    refine sb_i.mpr fun i hi => ?_
    have h1 := sb_i.mp hR i hi
    have h2 : (R &&& m).testBit i = false := by rw [h, Nat.zero_testBit]
    rw [Nat.testBit_and, hi, Bool.true_and] at h2
    rw [mn_tb, h1, h2]
    rfl
  · intro h
    apply Nat.eq_of_testBit_eq
    intro i
    rw [Nat.testBit_and, Nat.zero_testBit]
    by_cases b : R.testBit i = true
    · have := sb_i.mp h i b
      rw [mn_tb] at this
      revert this
      rw [b]
      generalize M.testBit i = x
      generalize m.testBit i = y
      cases x <;> cases y <;> simp
    · rw [Bool.eq_false_iff.mpr b, Bool.false_and]
theorem mn_0 {m M : Nat} : mn m M = 0 ↔ sb m M := by
  constructor
  · intro h
    refine sb_i.mpr fun i hi => ?_
    have h2 : (mn m M).testBit i = false := by rw [h, Nat.zero_testBit]
    rw [mn_tb, hi, Bool.true_and] at h2
    revert h2
    generalize M.testBit i = x
    cases x <;> simp
  · intro h
    apply Nat.eq_of_testBit_eq
    intro i
    rw [mn_tb, Nat.zero_testBit]
    by_cases b : m.testBit i = true
    · rw [b, sb_i.mp h i b]
      rfl
    · rw [Bool.eq_false_iff.mpr b, Bool.false_and]
/-- the model's rows: reach and table -/
def RI (σ : sT) (M : Nat) (w : gT) : Prop := ∀ g, g < 10 → tol (σ.1 1 8) g → ∀ t, t < 84 → w.1 32 (84 * g + t) = nI (Rw σ M g t)
def TI (σ : sT) (M d : Nat) (w : gT) : Prop := ∀ e, e ≤ d → ∀ m, m < 1024 → sb m M → w.1 33 (1024 * (10 - e) + m) = nI (big (fdO σ M e (mn M m)))
theorem m_reach {N : Nat} (hN : 5000 ≤ N) {σ : sT} {w : gT} (hE : EncM N σ w) (hR : Rng σ) {M : Nat} (hM : M < 1024) (k1 : gT → Option gT) : ∃ w', gW1 (xX10_laysOnce_b2 N (nI M) k1) N (nI 0) w = k1 w' ∧ SmC [29, 30, 32] w w' ∧ RI σ M w' := by
  refine gW1_ind (fun (t : Option gT) => ∃ w', t = k1 w' ∧ SmC [29, 30, 32] w w' ∧ RI σ M w') (fun m a w1 => ∃ g, g ≤ 10 ∧ a = nI g ∧ m = 10 - g ∧ SmC [29, 30, 32] w w1 ∧ ∀ g', g' < g → tol (σ.1 1 8) g' → ∀ t, t < 84 → w1.1 32 (84 * g' + t) = nI (Rw σ M g' t)) ?_ N 10 _ w (by omega) ⟨0, by omega, rfl, rfl, SmC.rf, fun g' h => by omega⟩
  rintro m go a w1 ⟨g, hg, rfl, rfl, hs, hv⟩ ih
  unfold xX10_laysOnce_b2
  by_cases q : 10 ≤ g
  · rw [if_pos (yle (by omega) (by omega) q)]
    exact ⟨w1, rfl, hs, fun g' h => hv g' (by omega)⟩
  · have hg2 : g < 10 := by omega
    rw [if_neg (nle (by omega) (by omega) q), gLet_s]
    refine gW1_ind (fun (t : Option gT) => ∃ w', t = k1 w' ∧ SmC [29, 30, 32] w w' ∧ RI σ M w') (fun m a w1 => ∃ t, t ≤ 84 ∧ a = nI t ∧ m = 84 - t ∧ SmC [29, 30, 32] w w1 ∧ (∀ g', g' < g → tol (σ.1 1 8) g' → ∀ t, t < 84 → w1.1 32 (84 * g' + t) = nI (Rw σ M g' t)) ∧ ∀ t', t' < t → w1.1 32 (84 * g + t') = nI (Rw σ M g t')) ?_ N 84 _ w1 (by omega) ⟨0, by omega, rfl, rfl, hs, hv, fun t' h => by omega⟩
    rintro m go2 a w2 ⟨t, ht, rfl, rfl, hs2, hv2, hr2⟩ ih2
    have hE2 : EncM N σ w2 := hE.sm (hs2.toM rfl)
    unfold xX10_laysOnce_b10
    by_cases q2 : 84 ≤ t
    · rw [if_pos (yle (by omega) (by omega) q2), nI_add]
      refine ih (10 - (g + 1)) _ _ (by omega) ⟨g + 1, by omega, rfl, rfl, hs2, fun g' h1 h2 t' h3 => ?_⟩
      by_cases e : g' = g
      · subst e
        exact hr2 t' (by omega)
      · exact hv2 g' (by omega) h2 t' h3
    · rw [if_neg (nle (by omega) (by omega) q2), m_isGhost _ hg2, gBi_s, ifb, hE2.gh]
      by_cases tg : tol (σ.1 1 8) g
      · obtain ⟨w3, e3, s3⟩ := m_frightened hN hE2 hR hg2 (show t / 12 < 7 by omega) (show t % 12 < 12 by omega)
        rw [if_pos tg, pk_div (by omega) (by omega) (by omega), nI_rem (by omega) (by omega) (by omega), e3, gBi_s, nI_mul, nI_add, gG_in (n := 840) (by omega) (by omega), gLet_s, nI_clamp (by omega), nI_and, Rw_and hM, nI_add]
        refine ih2 (84 - (t + 1)) _ _ (by omega) ⟨t + 1, by omega, rfl, rfl, hs2.tr ((s3.mono (by decide)).tr (SmC.U (by decide))), fun g' h1 h2 t' h3 => ?_, fun t' h => ?_⟩
        · rw [gU2 (by omega), s3 32 (by decide)]
          exact hv2 g' h1 h2 t' h3
        · rw [gUs]
          by_cases e : t' = t
          · rw [if_pos (by rw [e]), e]
          · rw [if_neg (by omega), s3 32 (by decide)]
            exact hr2 t' (by omega)
      · rw [if_neg tg, nI_add]
        refine ih (10 - (g + 1)) _ _ (by omega) ⟨g + 1, by omega, rfl, rfl, hs2, fun g' h1 h2 t' h3 => ?_⟩
        by_cases e : g' = g
        · subst e
          exact absurd h2 tg
        · exact hv2 g' (by omega) h2 t' h3
theorem m_row0 {N : Nat} (hN : 5000 ≤ N) {σ : sT} {w : gT} {M : Nat} (hM : M < 1024) (k3 : gT → Option gT) : ∃ w', gW1 (xX10_laysOnce_b64 (nI M) k3) N (nI 0) w = k3 w' ∧ SmC [33] w w' ∧ TI σ M 0 w' := by
  refine gW1_ind (fun (t : Option gT) => ∃ w', t = k3 w' ∧ SmC [33] w w' ∧ TI σ M 0 w') (fun q a w1 => ∃ m, m ≤ 1024 ∧ a = nI m ∧ q = 1024 - m ∧ SmC [33] w w1 ∧ ∀ m', m' < m → w1.1 33 (10240 + m') = nI (if m' = M then 0 else 1000000000)) ?_ N 1024 _ w (by omega) ⟨0, by omega, rfl, rfl, SmC.rf, fun m' h => by omega⟩
  rintro q go a w1 ⟨m, hm, rfl, rfl, hs, hv⟩ ih
  unfold xX10_laysOnce_b64
  by_cases q : 1024 ≤ m
  · rw [if_pos (yle (by omega) (by omega) q)]
    refine ⟨w1, rfl, hs, fun e he m' hm' hsb => ?_⟩
    have e0 : e = 0 := by omega
    subst e0
    rw [show 1024 * (10 - 0) + m' = 10240 + m' by omega, hv m' (by omega)]
    have : fdO σ M 0 (mn M m') = if mn M m' = 0 then 0 else 15 := rfl
    rw [this]
    by_cases c : m' = M
    · rw [if_pos c, if_pos (mn_0.mpr (by rw [c]; exact sb_rf M))]
      rfl
    · rw [if_neg c, if_neg (fun z => c (sb_anti hsb (mn_0.mp z)))]
      rfl
  · rw [if_neg (nle (by omega) (by omega) q), gLet_s]
    have st : ∀ v, v = (if m = M then 0 else 1000000000) → ∃ w', (gG (nI 10240 + nI m) 11264 <| gLet (gU w1 33 (nI 10240 + nI m).toNatClampNeg (nI v)) fun (w36 : gT) => go (nI m + (nI 1)) w36) = k3 w' ∧ SmC [33] w w' ∧ TI σ M 0 w' := fun v hve => by
      rw [nI_add, gG_in (n := 11264) (by omega) (by omega), gLet_s, nI_clamp (by omega), nI_add]
      refine ih (1024 - (m + 1)) _ _ (by omega) ⟨m + 1, by omega, rfl, rfl, hs.tr (SmC.U (by decide)), fun m' h => ?_⟩
      rw [gUs]
      by_cases e : m' = m
      · rw [if_pos (by rw [e]), e, hve]
      · rw [if_neg (by omega)]
        exact hv m' (by omega)
    by_cases c : m = M
    · rw [if_pos (by rw [c])]
      exact st 0 (by rw [if_pos c])
    · rw [if_neg (fun z => c ((nI_eq (by omega) (by omega)).mp z))]
      exact st 1000000000 (by rw [if_neg c])
