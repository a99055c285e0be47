def G0 (a : Int32) (i j : Nat) : Int32 := if i < j then nI 0 else a - nI i
def G1 (b : Int32) (i j : Nat) : Int32 := if j ≤ i then nI 0 else b - nI j
def spRest (a b : Int32) (i j : Nat) : Prop := ∀ k, k < 10 → 1 ≤ k → ¬ (G0 a i j < G0 a k j) ∧ G1 b i k ≤ G1 b i j
theorem x_g0 (a : Int32) {i j : Nat} (hi : i < 2 ^ 30) (hj : j < 2 ^ 30) (w : gT) : xX9_gainOfFirst a (nI i) (nI j) w = some (G0 a i j, w) := by
  unfold xX9_gainOfFirst G0
  by_cases h : i < j
  · rw [if_pos (ylt hi hj h), if_pos h]
  · rw [if_neg (nlt hi hj h), if_neg h]
theorem x_g1 (a : Int32) {i j : Nat} (hi : i < 2 ^ 30) (hj : j < 2 ^ 30) (w : gT) : xX9_gainOfSecond a (nI i) (nI j) w = some (G1 a i j, w) := by
  unfold xX9_gainOfSecond G1
  by_cases h : j ≤ i
  · rw [if_pos (yle hj hi h), if_pos h]
  · rw [if_neg (nle hj hi h), if_neg h]
theorem m_g0 (a : Int32) {i j : Nat} (hi : i < 2 ^ 30) (hj : j < 2 ^ 30) (w : gT) : xX10_gain0 a (nI i) (nI j) w = some (G0 a i j, w) := x_g0 a hi hj w
theorem m_g1 (a : Int32) {i j : Nat} (hi : i < 2 ^ 30) (hj : j < 2 ^ 30) (w : gT) : xX10_gain1 a (nI i) (nI j) w = some (G1 a i j, w) := by
  unfold xX10_gain1 G1
  by_cases h : i < j
  · rw [if_pos (ylt hi hj h), if_neg (by omega)]
  · rw [if_neg (nlt hi hj h), if_pos (by omega)]
theorem x_settled {N : Nat} (hN : 5000 ≤ N) (a b : Int32) {i j : Nat} (hi : i < 10) (hj : j < 10) (w : gT) [Decidable (spRest a b i j)] : xX9_isSettled N a b (nI i) (nI j) w = some (b2i (spRest a b i j), w) := by
  unfold xX9_isSettled
  rw [x_g0 a (by omega) (by omega), gBi_s, x_g1 b (by omega) (by omega), gBi_s]
  refine gW1_ind (fun t => t = some (b2i (spRest a b i j), w)) (fun m x w1 => ∃ k, k ≤ 10 ∧ 1 ≤ k ∧ x = nI k ∧ m = 10 - k ∧ w1 = w ∧ ∀ q, q < k → 1 ≤ q → ¬ (G0 a i j < G0 a q j) ∧ G1 b i q ≤ G1 b i j) ?_ N 9 _ w (by omega) ⟨1, by omega, by omega, rfl, rfl, rfl, by omega⟩
  rintro m go x w1 ⟨k, hk, hk1, rfl, rfl, rfl, hv⟩ ih
  unfold xX9_isSettled_b19
  by_cases q : 9 < k
  · rw [if_pos (ylt (by omega) (by omega) q), b2i_t (p := spRest a b i j) (fun z hz hz1 => hv z (by omega) hz1)]
  · rw [if_neg (nlt (by omega) (by omega) q), x_g0 a (by omega) (by omega), gBi_s]
    by_cases c1 : G0 a i j < G0 a k j
    · rw [if_pos c1, b2i_f (fun z => (z k (by omega) hk1).1 c1)]
    · rw [if_neg c1, x_g1 b (by omega) (by omega), gBi_s]
      by_cases c2 : G1 b i k ≤ G1 b i j
      · rw [if_pos c2, nI_add]
        refine ih (10 - (k + 1)) _ _ (by omega) ⟨k + 1, by omega, by omega, rfl, rfl, rfl, fun z hz hz1 => ?_⟩
        by_cases e : z = k
        · subst e; exact ⟨c1, c2⟩
        · exact hv z (by omega) hz1
      · rw [if_neg c2, b2i_f (fun z => c2 (z k (by omega) hk1).2)]
theorem m_rests {N : Nat} (hN : 5000 ≤ N) (a b : Int32) {i j : Nat} (hi : i < 10) (hj : j < 10) (w : gT) [Decidable (spRest a b i j)] : xX10_rests N a b (nI i) (nI j) w = some (b2i (spRest a b i j), w) := by
  unfold xX10_rests
  refine gW1_ind (fun t => t = some (b2i (spRest a b i j), w)) (fun m x w1 => ∃ k, k ≤ 10 ∧ 1 ≤ k ∧ x = nI k ∧ m = 10 - k ∧ w1 = w ∧ ∀ q, q < k → 1 ≤ q → ¬ (G0 a i j < G0 a q j) ∧ G1 b i q ≤ G1 b i j) ?_ N 9 _ w (by omega) ⟨1, by omega, by omega, rfl, rfl, rfl, by omega⟩
  rintro m go x w1 ⟨k, hk, hk1, rfl, rfl, rfl, hv⟩ ih
  unfold xX10_rests_b3
  by_cases q : 10 ≤ k
  · rw [if_pos (yle (by omega) (by omega) q), b2i_t (p := spRest a b i j) (fun z hz hz1 => hv z (by omega) hz1)]
  · rw [if_neg (nle (by omega) (by omega) q), m_g0 a (by omega) (by omega), gBi_s, m_g0 a (by omega) (by omega), gBi_s]
    by_cases c1 : G0 a i j < G0 a k j
    · rw [if_pos c1, b2i_f (fun z => (z k (by omega) hk1).1 c1)]
    · rw [if_neg c1, m_g1 b (by omega) (by omega), gBi_s, m_g1 b (by omega) (by omega), gBi_s]
      by_cases c2 : G1 b i k ≤ G1 b i j
      · rw [if_pos c2, nI_add]
        refine ih (10 - (k + 1)) _ _ (by omega) ⟨k + 1, by omega, by omega, rfl, rfl, rfl, fun z hz hz1 => ?_⟩
        by_cases e : z = k
        · subst e; exact ⟨c1, c2⟩
        · exact hv z (by omega) hz1
      · rw [if_neg c2, b2i_f (fun z => c2 (z k (by omega) hk1).2)]
/-- how many of the first t, and the first of them -/
def ctOf (R : Nat → Prop) [DecidablePred R] : Nat → Nat
  | 0 => 0
  | t + 1 => ctOf R t + (if R t then 1 else 0)
def fsOf (R : Nat → Prop) [DecidablePred R] : Nat → Nat
  | 0 => 0
  | t + 1 => if ctOf R t = 0 ∧ R t then t else fsOf R t
theorem ct_le (R : Nat → Prop) [DecidablePred R] : ∀ t, ctOf R t ≤ t
  | 0 => Nat.le_refl _
  | t + 1 => by
    have h := ct_le R t
    show ctOf R t + _ ≤ t + 1
    split <;> omega
theorem fs_lt (R : Nat → Prop) [DecidablePred R] {n : Nat} (hn : 0 < n) : ∀ t, t ≤ n → fsOf R t < n
  | 0, _ => hn
  | t + 1, h => by
    have h1 := fs_lt R hn t (by omega)
    show (if _ then t else fsOf R t) < n
    split <;> omega
theorem ct_s {R : Nat → Prop} [DecidablePred R] {t : Nat} (h : R t) : ctOf R (t + 1) = ctOf R t + 1 := by
  show ctOf R t + _ = _
  rw [if_pos h]
theorem ct_n {R : Nat → Prop} [DecidablePred R] {t : Nat} (h : ¬ R t) : ctOf R (t + 1) = ctOf R t := by
  show ctOf R t + _ = _
  rw [if_neg h]
  rfl
theorem fs_n {R : Nat → Prop} [DecidablePred R] {t : Nat} (h : ¬ R t) : fsOf R (t + 1) = fsOf R t := if_neg (fun z => h z.2)
theorem fs_0 {R : Nat → Prop} [DecidablePred R] {t : Nat} (h : R t) (h0 : ctOf R t = 0) : fsOf R (t + 1) = t := if_pos ⟨h0, h⟩
theorem fs_1 {R : Nat → Prop} [DecidablePred R] {t : Nat} (h0 : ctOf R t ≠ 0) : fsOf R (t + 1) = fsOf R t := if_neg (fun z => h0 z.1)
def ansB (R : Nat → Prop) [DecidablePred R] (c : Int32) : Int32 := if c = nI 0 then nI (ctOf R 81) else if ctOf R 81 = 0 then (-2) else if c = nI 1 then nI (fsOf R 81 / 9 + 1) else nI (fsOf R 81 % 9 + 1)
theorem x_bids {N : Nat} (hN : 5000 ≤ N) (a b c : Int32) (w : gT) (R : Nat → Prop) [DecidablePred R] (hRR : ∀ t, R t ↔ spRest a b (t / 9 + 1) (t % 9 + 1)) : gW4 (xX9_bids_b43 N a b (fun v2 v3 v4 w5 => if c = nI 0 then some (v2, w5) else if v2 = nI 0 then some (-2, w5) else if c = nI 1 then some (v3, w5) else some (v4, w5))) N (nI 0) (nI 0) (nI 0) (nI 1) w = some (ansB R c, w) := by
  refine gW4_ind (fun t => t = some (ansB R c, w)) (fun m x0 x1 x2 x3 w1 => ∃ i, 1 ≤ i ∧ i ≤ 10 ∧ m = 10 - i ∧ x3 = nI i ∧ w1 = w ∧ x0 = nI (ctOf R (9 * (i - 1))) ∧ (ctOf R (9 * (i - 1)) ≠ 0 → x1 = nI (fsOf R (9 * (i - 1)) / 9 + 1) ∧ x2 = nI (fsOf R (9 * (i - 1)) % 9 + 1))) ?_ N 9 _ _ _ _ w (by omega) ⟨1, by omega, by omega, rfl, rfl, rfl, rfl, fun z => absurd rfl z⟩
  rintro m go x0 x1 x2 x3 w1 ⟨i, hi1, hi, rfl, rfl, rfl, rfl, hf⟩ ih
  unfold xX9_bids_b43
  by_cases q : 9 < i
  · rw [if_pos (ylt (by omega) (by omega) q)]
    have e10 : i = 10 := by omega
    subst e10
    dsimp only
    unfold ansB
    have hc := ct_le R 81
    by_cases c0 : c = nI 0
    · rw [if_pos c0, if_pos c0]
    · rw [if_neg c0, if_neg c0]
      by_cases z : ctOf R 81 = 0
      · rw [if_pos z, if_pos (by rw [show 9 * (10 - 1) = 81 from rfl, z])]
      · obtain ⟨f1, f2⟩ := hf z
        rw [if_neg z, if_neg (fun zz => z ((nI_eq (by omega) (by omega)).mp zz)), f1, f2]
        by_cases c1 : c = nI 1
        · rw [if_pos c1, if_pos c1]
        · rw [if_neg c1, if_neg c1]
  · rw [if_neg (nlt (by omega) (by omega) q), gLet_s]
    refine gW4_ind (fun t => t = some (ansB R c, w1)) (fun m x0 x1 x2 x3 w2 => ∃ j, 1 ≤ j ∧ j ≤ 10 ∧ m = 10 - j ∧ x3 = nI j ∧ w2 = w1 ∧ x0 = nI (ctOf R (9 * (i - 1) + (j - 1))) ∧ (ctOf R (9 * (i - 1) + (j - 1)) ≠ 0 → x1 = nI (fsOf R (9 * (i - 1) + (j - 1)) / 9 + 1) ∧ x2 = nI (fsOf R (9 * (i - 1) + (j - 1)) % 9 + 1))) ?_ N 9 _ _ _ _ w1 (by omega) ⟨1, by omega, by omega, rfl, rfl, rfl, rfl, hf⟩
    rintro m go2 x0 x1 x2 x3 w2 ⟨j, hj1, hj, rfl, rfl, rfl, rfl, hf2⟩ ih2
    unfold xX9_bids_b53
    by_cases q2 : 9 < j
    · rw [if_pos (ylt (by omega) (by omega) q2)]
      try dsimp only
      rw [nI_add]
      have e10 : j = 10 := by omega
      subst e10
      refine ih (10 - (i + 1)) _ _ _ _ _ (by omega) ⟨i + 1, by omega, by omega, rfl, rfl, rfl, ?_, ?_⟩
      · rw [show 9 * (i + 1 - 1) = 9 * (i - 1) + (10 - 1) by omega]
      · rw [show 9 * (i + 1 - 1) = 9 * (i - 1) + (10 - 1) by omega]
        exact hf2
    · have ei : (9 * (i - 1) + (j - 1)) / 9 + 1 = i := by omega
      have ej : (9 * (i - 1) + (j - 1)) % 9 + 1 = j := by omega
      have es : 9 * (i - 1) + (j + 1 - 1) = 9 * (i - 1) + (j - 1) + 1 := by omega
      have dc : Decidable (spRest a b i j) := Classical.propDecidable _
      have hRt : R (9 * (i - 1) + (j - 1)) ↔ spRest a b i j := by rw [hRR, ei, ej]
      have hcl := ct_le R (9 * (i - 1) + (j - 1))
      rw [if_neg (nlt (by omega) (by omega) q2), gLet_s, x_settled hN a b (by omega) (by omega), gBi_s, ifb]
      by_cases r : spRest a b i j
      · rw [if_pos r, gLet_s]
        try dsimp only
        simp only [gLet_s]
        rw [nI_add, nI_add]
        by_cases z : ctOf R (9 * (i - 1) + (j - 1)) = 0
        · have zz : nI (ctOf R (9 * (i - 1) + (j - 1))) = nI 0 := by rw [z]
          rw [if_pos zz, if_pos zz]
          refine ih2 (10 - (j + 1)) _ _ _ _ _ (by omega) ⟨j + 1, by omega, by omega, rfl, rfl, rfl, ?_, fun _ => ?_⟩
          · rw [es, ct_s (hRt.mpr r)]
          · rw [es, fs_0 (hRt.mpr r) z, ei, ej]
            exact ⟨rfl, rfl⟩
        · have zz : ¬ nI (ctOf R (9 * (i - 1) + (j - 1))) = nI 0 := fun zz => z ((nI_eq (by omega) (by omega)).mp zz)
          obtain ⟨f1, f2⟩ := hf2 z
          rw [if_neg zz, if_neg zz]
          refine ih2 (10 - (j + 1)) _ _ _ _ _ (by omega) ⟨j + 1, by omega, by omega, rfl, rfl, rfl, ?_, fun _ => ?_⟩
          · rw [es, ct_s (hRt.mpr r)]
          · rw [es, fs_1 z]
            exact ⟨f1, f2⟩
      · rw [if_neg r, nI_add]
        refine ih2 (10 - (j + 1)) _ _ _ _ _ (by omega) ⟨j + 1, by omega, by omega, rfl, rfl, rfl, ?_, ?_⟩
        · rw [es, ct_n (fun zz => r (hRt.mp zz))]
        · rw [es, ct_n (fun zz => r (hRt.mp zz)), fs_n (fun zz => r (hRt.mp zz))]
          exact hf2
theorem m_bids {N : Nat} (hN : 5000 ≤ N) (a b c : Int32) (w : gT) (R : Nat → Prop) [DecidablePred R] (hRR : ∀ t, R t ↔ spRest a b (t / 9 + 1) (t % 9 + 1)) : gW3 (xX10_bids_b40 N a b (fun v8 v9 w10 => if c = nI 0 then some (v8, w10) else if v9 = (-1) then some (-2, w10) else if c = nI 1 then some (v9 / nI 9 + nI 1, w10) else some (gRem v9 (nI 9) + nI 1, w10))) N (nI 0) (-1) (nI 0) w = some (ansB R c, w) := by
  refine gW3_ind (fun t => t = some (ansB R c, w)) (fun m x0 x1 x2 w1 => ∃ t, t ≤ 81 ∧ m = 81 - t ∧ x2 = nI t ∧ w1 = w ∧ x0 = nI (ctOf R t) ∧ x1 = (if ctOf R t = 0 then (-1) else nI (fsOf R t))) ?_ N 81 _ _ _ w (by omega) ⟨0, by omega, rfl, rfl, rfl, rfl, rfl⟩
  rintro m go x0 x1 x2 w1 ⟨t, ht, rfl, rfl, rfl, rfl, rfl⟩ ih
  have hc := ct_le R t
  have hf := fs_lt R (n := 81) (by omega) t ht
  unfold xX10_bids_b40
  by_cases q : 81 ≤ t
  · rw [if_pos (yle (by omega) (by omega) q)]
    have e : t = 81 := by omega
    subst e
    try dsimp only
    unfold ansB
    by_cases c0 : c = nI 0
    · rw [if_pos c0, if_pos c0]
    · rw [if_neg c0, if_neg c0]
      by_cases z : ctOf R 81 = 0
      · rw [if_pos z, if_pos z, if_pos rfl]
      · rw [if_neg z, if_neg z, if_neg (nI_m1 (by omega)), pk_div (by omega) (by omega) (by omega), nI_rem (by omega) (by omega) (by omega), nI_add, nI_add]
        by_cases c1 : c = nI 1
        · rw [if_pos c1, if_pos c1]
        · rw [if_neg c1, if_neg c1]
  · have dc : Decidable (spRest a b (t / 9 + 1) (t % 9 + 1)) := Classical.propDecidable _
    rw [if_neg (nle (by omega) (by omega) q), gLet_s, pk_div (by omega) (by omega) (by omega), nI_rem (by omega) (by omega) (by omega), nI_add, nI_add, nI_add, m_rests hN a b (by omega) (by omega), gBi_s, ifb]
    by_cases r : spRest a b (t / 9 + 1) (t % 9 + 1)
    · rw [if_pos r, gLet_s]
      simp only [gLet_s]
      rw [nI_add]
      have e1 := ct_s (R := R) ((hRR t).mpr r)
      by_cases z : ctOf R t = 0
      · rw [if_pos z, if_pos rfl]
        refine ih (81 - (t + 1)) _ _ _ _ (by omega) ⟨t + 1, by omega, rfl, rfl, rfl, by rw [e1], ?_⟩
        rw [e1, if_neg (by omega), fs_0 (R := R) ((hRR t).mpr r) z]
      · rw [if_neg z, if_neg (nI_m1 (by omega))]
        refine ih (81 - (t + 1)) _ _ _ _ (by omega) ⟨t + 1, by omega, rfl, rfl, rfl, by rw [e1], ?_⟩
        rw [e1, if_neg (by omega), fs_1 z]
    · rw [if_neg r]
      refine ih (81 - (t + 1)) _ _ _ _ (by omega) ⟨t + 1, by omega, rfl, rfl, rfl, ?_, ?_⟩
      · rw [ct_n (R := R) (fun zz => r ((hRR t).mp zz))]
      · rw [ct_n (R := R) (fun zz => r ((hRR t).mp zz)), fs_n (R := R) (fun zz => r ((hRR t).mp zz))]
theorem o_bids {N : Nat} (hN : 5000 ≤ N) {wx wm : gT} (h : Rel N wx wm) (a b c : Int32) : OpOk N (xX9_bids N a b c wx) (xX10_bids N a b c wm) := by
  have dc : ∀ a b : Int32, DecidablePred (fun t => spRest a b (t / 9 + 1) (t % 9 + 1)) := fun _ _ _ => Classical.propDecidable _
  unfold xX9_bids xX10_bids
  have out : ∀ {α : Type} {x : Int32} {k : Nat} (s t : α), k < 2 ^ 30 → (x < nI 0 ∨ nI (k + 1) ≤ x) → (if x < nI 0 then s else if nI k < x then s else t) = s := by
    intro α x k s t hk hx
    by_cases h1 : x < nI 0
    · rw [if_pos h1]
    · rw [if_neg h1, if_pos (lt_of_le1 hk (hx.resolve_left h1))]
  have inn : ∀ {α : Type} {j k : Nat} (s t : α), k < 2 ^ 30 → j ≤ k → (if nI j < nI 0 then s else if nI k < nI j then s else t) = t := by
    intro α j k s t hk hj
    rw [if_neg (nlt (by omega) (by omega) (by omega)), if_neg (nlt (by omega) (by omega) (by omega))]
  rcases in_or a 21 (by omega) with ⟨i, hi, rfl⟩ | q
  · rw [m_in1 (by omega) (by omega) (by omega), gBi_s, if_neg nI_10, inn _ _ (by omega) (by omega)]
    rcases in_or b 21 (by omega) with ⟨j, hj, rfl⟩ | q
    · rw [m_in1 (by omega) (by omega) (by omega), gBi_s, if_neg nI_10, inn _ _ (by omega) (by omega)]
      rcases in_or c 3 (by omega) with ⟨k, hk, rfl⟩ | q
      · rw [m_in1 (by omega) (by omega) (by omega), gBi_s, if_neg nI_10, in1 (by omega) (by omega), gLet_s, gLet_s, x_bids hN _ _ _ _ (fun t => spRest (nI i) (nI j) (t / 9 + 1) (t % 9 + 1)) (fun _ => Iff.rfl), m_bids hN _ _ _ _ (fun t => spRest (nI i) (nI j) (t / 9 + 1) (t % 9 + 1)) (fun _ => Iff.rfl)]
        exact OpOk.o h
      · rw [m_in0 (by omega) q (by omega), out1 (by omega) q, gBi_s, if_pos rfl]
        exact OpOk.o h
    · rw [m_in0 (by omega) q (by omega), out _ _ (by omega) q, gBi_s, if_pos rfl]
      exact OpOk.o h
  · rw [m_in0 (by omega) q (by omega), out _ _ (by omega) q, gBi_s, if_pos rfl]
    exact OpOk.o h
