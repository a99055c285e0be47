theorem m_gone {N : Nat} (hN : 5000 ≤ N) {σ : sT} {w : gT} (hE : EncM N σ w) (hR : Rng σ) {n : Nat} (hn : n < 7) (k5 : Int32 → gT → Option (Int32 × gT)) (Post : Option (Int32 × gT) → Prop) (hP : ∀ w', SmC [29, 30, 34, 35] w w' → (∀ g, spGn σ n (spW σ.1) g → w'.1 34 g = nI (spAl σ n (nI 0) (spW σ.1) g) ∧ w'.1 35 g = nI (spAl σ n (nI 1) (spW σ.1) g)) → Post (k5 (nI (bn (spGn σ n (spW σ.1)) 10)) w')) : Post (gW2 (xX10_shared_b23 N (nI n) k5) N (nI 0) (nI 0) w) := by
  obtain ⟨hW0, hW⟩ := spW_le hR
  refine gW2_ind Post (fun m a b w1 => ∃ k, k ≤ spW σ.1 ∧ a = nI (bn (spGn σ n k) 10) ∧ b = nI k ∧ m = spW σ.1 - k ∧ SmC [29, 30, 34, 35] w w1 ∧ ∀ g, spGn σ n k g → w1.1 34 g = nI (spAl σ n (nI 0) k g) ∧ w1.1 35 g = nI (spAl σ n (nI 1) k g)) ?_ N (spW σ.1) _ _ w (by omega) ⟨0, by omega, ?_, rfl, rfl, SmC.rf, fun g hg => ?_⟩
  · rintro m go a b w1 ⟨k, hk, rfl, rfl, rfl, hs, hv⟩ ih
    have hE1 : EncM N σ w1 := hE.sm (hs.toM rfl)
    unfold xX10_shared_b23
    rw [hE1.wk, hW0]
    by_cases q : spW σ.1 ≤ k
    · have e : k = spW σ.1 := by omega
      rw [if_pos (yle (by omega) (by omega) q)]
      subst e
      exact hP w1 hs hv
    · have hk2 : k < spW σ.1 := by omega
      have hk16 : k < 16 := by omega
      obtain ⟨g1, g2, g3, g4, g5, g6, -⟩ := wk_at hR hk2
      obtain ⟨l1, l2, l3, -⟩ := hE1.wl k hk2
      rw [if_neg (nle (by omega) (by omega) q), gLet_s, gG_in hk16 (by omega), nI_clamp (by omega), l2, g3]
      try dsimp only
      have no : ¬ (wn σ k = n ∧ spGone σ k) → Post (go (nI (bn (spGn σ n k) 10)) (nI k + nI 1) w1) := fun hne => by
        rw [nI_add]
        have e : ∀ ch g, spAl σ n ch (k + 1) g = spAl σ n ch k g := fun ch g => spAl_n (fun z => hne ⟨z.1, z.2.1⟩)
        have eg : ∀ g, spGn σ n (k + 1) g ↔ spGn σ n k g := fun g => by
          rw [spGn_s]
          exact ⟨fun z => z.elim id (fun y => absurd ⟨y.1, y.2.1⟩ hne), Or.inl⟩
        exact ih (spW σ.1 - (k + 1)) _ _ _ (by omega) ⟨k + 1, by omega, by rw [bn_congr 10 (fun p _ => eg p)], rfl, rfl, hs, fun g hg => by rw [e, e]; exact hv g ((eg g).mp hg)⟩
      by_cases c1 : nI (wn σ k) = nI n
      · have c1n : wn σ k = n := (nI_eq (by omega) (by omega)).mp c1
        rw [if_pos c1, m_counts hN hE1 hR hk2, gBi_s, ifb]
        by_cases c2 : spGone σ k
        · have hng : ¬ spGn σ n k (wg σ k) := fun ⟨i, i1, i2, i3, i4⟩ => gone_once hR hk2 i1 (by rw [i2, c1n]) i4 c2
          obtain ⟨w2, e2, s2⟩ := m_frightBy hN hE1 hR g2 hn g6 (ch := nI 0) ⟨0, by omega, rfl⟩
          have s2' : SmC [29, 30, 34, 35] w1 (gU w2 34 (wg σ k) (nI (spAll σ (wg σ k) n (wr σ k) (nI 0) 10))) := (s2.mono (by decide)).tr (SmC.U (by decide))
          have hE2 := hE1.sm (s2'.toM rfl)
          obtain ⟨w3, e3, s3⟩ := m_frightBy hN hE2 hR g2 hn g6 (ch := nI 1) ⟨1, by omega, rfl⟩
          obtain ⟨l1', l2', l3', -⟩ := hE2.wl k hk2
          rw [if_pos c2, gG_in hk16 (by omega), gLet_s, l1, g1, gLet_s, gG_in hk16 (by omega), l3, g5, e2, gBi_s, gG_in (n := 10) g2 (by omega), gLet_s, nI_clamp (by omega), gG_in hk16 (by omega), l3', g5, e3, gBi_s, gG_in (n := 10) g2 (by omega), gLet_s, nI_add, shl1 g2, nI_or, bn_or g2]
          have y0 := spAl_y (σ := σ) (n := n) (ch := nI 0) ⟨c1n, c2⟩
          have y1 := spAl_y (σ := σ) (n := n) (ch := nI 1) ⟨c1n, c2⟩
          have en : ∀ ch g, g ≠ wg σ k → spAl σ n ch (k + 1) g = spAl σ n ch k g := fun ch g hg => spAl_n (fun z => hg z.2.2.symm)
          have eg : ∀ g, spGn σ n k g ∨ g = wg σ k ↔ spGn σ n (k + 1) g := fun g => by
            rw [spGn_s]
            exact ⟨fun z => z.imp id (fun y => ⟨c1n, c2, y.symm⟩), fun z => z.imp id (fun y => y.2.2.symm)⟩
          refine ih (spW σ.1 - (k + 1)) _ _ _ (by omega) ⟨k + 1, by omega, by rw [bn_congr 10 (fun p _ => eg p)], rfl, rfl, hs.tr (s2'.tr ((s3.mono (by decide)).tr (SmC.U (by decide)))), fun g hg => ?_⟩
          rw [gUs, gU1 (by decide), s3 34 (by decide), gUs]
          by_cases e : g = wg σ k
          · rw [if_pos e, if_pos e, e, y0, y1]
            exact ⟨rfl, rfl⟩
          · rw [if_neg e, if_neg e, s3 35 (by decide), gU1 (by decide), s2 35 (by decide), s2 34 (by decide), en _ _ e, en _ _ e]
            exact hv g (((eg g).mpr hg).resolve_right e)
        · rw [if_neg c2]
          exact no (fun z => c2 z.2)
      · rw [if_neg c1]
        exact no (fun z => c1 (by rw [z.1]))
  · rw [bn_congr (Q := fun _ => False) 10 (fun p _ => ⟨fun ⟨i, hi, _⟩ => by omega, fun z => z.elim⟩)]
    decide
  · obtain ⟨i, hi, -⟩ := hg
    omega
/-- the sum that a mask of chains comes to -/
def fM (σ : sT) (n m : Nat) : Nat → Nat := fun i => if bitA m i then spAl σ n (nI 1) (spW σ.1) i else spAl σ n (nI 0) (spW σ.1) i
def dM (σ : sT) (n : Nat) : Nat → Int := fun i => (spAl σ n (nI 1) (spW σ.1) i : Int) - (spAl σ n (nI 0) (spW σ.1) i : Int)
theorem fM_le (σ : sT) (n m i : Nat) : fM σ n m i ≤ 990 := by
  unfold fM
  split
  · exact spAl_le _
  · exact spAl_le _
theorem fM_sum (σ : sT) (n m : Nat) : ∀ k, (sN (fM σ n m) k : Int) = (sN (spAl σ n (nI 0) (spW σ.1)) k : Int) + smI (dM σ n) m k
  | 0 => rfl
  | k + 1 => by
    have ih := fM_sum σ n m k
    show ((sN (fM σ n m) k + fM σ n m k : Nat) : Int) = ((sN (spAl σ n (nI 0) (spW σ.1)) k + spAl σ n (nI 0) (spW σ.1) k : Nat) : Int) + (smI (dM σ n) m k + (if bitA m k then dM σ n k else 0))
    have e : (fM σ n m k : Int) = (spAl σ n (nI 0) (spW σ.1) k : Int) + (if bitA m k then dM σ n k else 0) := by
      unfold fM dM
      by_cases b : bitA m k
      · rw [if_pos b, if_pos b]; omega
      · rw [if_neg b, if_neg b]; omega
    omega
theorem m_sum {N : Nat} (hN : 5000 ≤ N) {σ : sT} {w : gT} {n m G : Nat} (hG : G < 1024) (hm : m < 1024) (hGn : ∀ i, i < 10 → (bitA G i ↔ spGn σ n (spW σ.1) i)) (hsub : ∀ i, i < 10 → bitA m i → bitA G i) (hv : ∀ g, spGn σ n (spW σ.1) g → w.1 34 g = nI (spAl σ n (nI 0) (spW σ.1) g) ∧ w.1 35 g = nI (spAl σ n (nI 1) (spW σ.1) g)) (k19 : Int32 → gT → Option (Int32 × gT)) : gW2 (xX10_shared_b168 N k19 (nI G) (nI m)) N (nI 0) (nI 0) w = k19 (nI (sN (fM σ n m) 10)) w := by
  refine gW2_ind (fun t => t = k19 (nI (sN (fM σ n m) 10)) w) (fun M a b w1 => ∃ k, k ≤ 10 ∧ a = nI (sN (fM σ n m) k) ∧ b = nI k ∧ M = 10 - k ∧ w1 = w) ?_ N 10 _ _ w (by omega) ⟨0, by omega, rfl, rfl, rfl, rfl⟩
  rintro M go a b w1 ⟨k, hk, rfl, rfl, rfl, rfl⟩ ih
  unfold xX10_shared_b168
  by_cases q : 10 ≤ k
  · rw [if_pos (yle (by omega) (by omega) q)]
    have : k = 10 := by omega
    rw [this]
  · have hk2 : k < 10 := by omega
    rw [if_neg (nle (by omega) (by omega) q), gLet_s]
    simp only [gLet_s]
    rw [m_has G (by omega) (by omega), gBi_s, ifb, m_has m (by omega) (by omega), gBi_s, ifb, gG_in (n := 10) hk2 (by omega), gG_in (n := 10) hk2 (by omega), nI_clamp (by omega)]
    have fin : ∀ x, x = fM σ n m k → go (nI (sN (fM σ n m) k) + nI x) (nI k + nI 1) w1 = k19 (nI (sN (fM σ n m) 10)) w1 := by
      rintro x rfl
      rw [nI_add, nI_add]
      exact ih (10 - (k + 1)) _ _ _ (by omega) ⟨k + 1, by omega, rfl, rfl, rfl, rfl⟩
    by_cases g : G / 2 ^ k % 2 = 1
    · obtain ⟨v1, v2⟩ := hv k ((hGn k hk2).mp g)
      rw [if_pos g, v1, v2]
      by_cases b : m / 2 ^ k % 2 = 1
      · rw [if_pos b]
        exact fin _ (by unfold fM; rw [if_pos b])
      · rw [if_neg b]
        exact fin _ (by unfold fM; rw [if_neg b])
    · rw [if_neg g]
      refine fin 0 ?_
      have hnb : ¬ bitA m k := fun z => g (hsub k hk2 z)
      have hng : ¬ spGn σ n (spW σ.1) k := fun z => g ((hGn k hk2).mpr z)
      unfold fM
      rw [if_neg hnb, spAl_no _ hng]
theorem sub_iff {m G : Nat} (hm : m < 1024) : (nI m &&& (nI G ^^^ (-1))) = nI 0 ↔ ∀ i, i < 10 → bitA m i → bitA G i := by
  have hx : ∀ i, i < 32 → (nI m &&& (nI G ^^^ (-1))).toBitVec.getLsbD i = (m.testBit i && !G.testBit i) := fun i hi => by
    have e1 : ∀ v, (nI v).toBitVec.getLsbD i = v.testBit i := fun v => by
      show (BitVec.ofNat 32 v).getLsbD i = _
      rw [BitVec.getLsbD_ofNat, decide_eq_true hi, Bool.true_and]
    have e3 : ((-1) : Int32).toBitVec.getLsbD i = true := (by decide : ∀ i : Fin 32, ((-1) : Int32).toBitVec.getLsbD i.1 = true) ⟨i, hi⟩
    rw [Int32.toBitVec_and, Int32.toBitVec_xor, BitVec.getLsbD_and, BitVec.getLsbD_xor, e1, e1, e3, Bool.xor_true]
  constructor
  · intro h i hi hb
    have := hx i (by omega)
    rw [h] at this
    have z : (nI 0).toBitVec.getLsbD i = false := by
      show (BitVec.ofNat 32 0).getLsbD i = _
      rw [BitVec.getLsbD_ofNat, Nat.zero_testBit, Bool.and_false]
    rw [z, (bitA_tb m i).mp hb, Bool.true_and] at this
    rw [bitA_tb]
    revert this
    generalize G.testBit i = y
    cases y <;> decide
  · intro h
    apply Int32.toBitVec_inj.mp
    apply BitVec.eq_of_getLsbD_eq
    intro i hi
    rw [hx i hi]
    have z : (nI 0).toBitVec.getLsbD i = false := by
      show (BitVec.ofNat 32 0).getLsbD i = _
      rw [BitVec.getLsbD_ofNat, Nat.zero_testBit, Bool.and_false]
    rw [z]
    by_cases i10 : i < 10
    · by_cases b : bitA m i
      · rw [(bitA_tb G i).mp (h i i10 b), Bool.not_true, Bool.and_false]
      · rw [bitA_tb] at b
        rw [Bool.eq_false_iff.mpr b, Bool.false_and]
    · rw [Nat.testBit_lt_two_pow (Nat.lt_of_lt_of_le hm (Nat.pow_le_pow_right (n := 2) (show 2 > 0 by omega) (show 10 ≤ i by omega))), Bool.false_and]
