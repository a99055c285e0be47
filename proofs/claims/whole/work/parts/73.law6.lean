def foV (a : Int32) : Int32 := if a = nI 99 then (nI 5) else if a = nI 100 then (-1) else if a = nI 101 then (-1) else if a = nI 102 then (-1) else if a = nI 103 then (nI 3) else if a = nI 104 then (nI 7) else if a = nI 105 then (-1) else if a = nI 106 then (-1) else if a = nI 107 then (-1) else if a = nI 108 then (nI 11) else if a = nI 109 then (nI 4) else if a = nI 110 then (nI 1) else if a = nI 111 then (nI 10) else if a = nI 112 then (nI 8) else if a = nI 113 then (-1) else if a = nI 114 then (nI 0) else if a = nI 115 then (-1) else if a = nI 116 then (nI 2) else if a = nI 117 then (-1) else if a = nI 118 then (nI 9) else if a = nI 119 then (-1) else if a = nI 120 then (-1) else if a = nI 121 then (nI 6) else (-1)
theorem foV_e (a : Int32) (w : gT) : xX10_factOf a w = some (foV a, w) := by
  unfold xX10_factOf foV
  by_cases c0 : a = nI 99
  · rw [if_pos c0, if_pos c0]
  rw [if_neg c0, if_neg c0]
  by_cases c1 : a = nI 100
  · rw [if_pos c1, if_pos c1]
  rw [if_neg c1, if_neg c1]
  by_cases c2 : a = nI 101
  · rw [if_pos c2, if_pos c2]
  rw [if_neg c2, if_neg c2]
  by_cases c3 : a = nI 102
  · rw [if_pos c3, if_pos c3]
  rw [if_neg c3, if_neg c3]
  by_cases c4 : a = nI 103
  · rw [if_pos c4, if_pos c4]
  rw [if_neg c4, if_neg c4]
  by_cases c5 : a = nI 104
  · rw [if_pos c5, if_pos c5]
  rw [if_neg c5, if_neg c5]
  by_cases c6 : a = nI 105
  · rw [if_pos c6, if_pos c6]
  rw [if_neg c6, if_neg c6]
  by_cases c7 : a = nI 106
  · rw [if_pos c7, if_pos c7]
  rw [if_neg c7, if_neg c7]
  by_cases c8 : a = nI 107
  · rw [if_pos c8, if_pos c8]
  rw [if_neg c8, if_neg c8]
  by_cases c9 : a = nI 108
  · rw [if_pos c9, if_pos c9]
  rw [if_neg c9, if_neg c9]
  by_cases c10 : a = nI 109
  · rw [if_pos c10, if_pos c10]
  rw [if_neg c10, if_neg c10]
  by_cases c11 : a = nI 110
  · rw [if_pos c11, if_pos c11]
  rw [if_neg c11, if_neg c11]
  by_cases c12 : a = nI 111
  · rw [if_pos c12, if_pos c12]
  rw [if_neg c12, if_neg c12]
  by_cases c13 : a = nI 112
  · rw [if_pos c13, if_pos c13]
  rw [if_neg c13, if_neg c13]
  by_cases c14 : a = nI 113
  · rw [if_pos c14, if_pos c14]
  rw [if_neg c14, if_neg c14]
  by_cases c15 : a = nI 114
  · rw [if_pos c15, if_pos c15]
  rw [if_neg c15, if_neg c15]
  by_cases c16 : a = nI 115
  · rw [if_pos c16, if_pos c16]
  rw [if_neg c16, if_neg c16]
  by_cases c17 : a = nI 116
  · rw [if_pos c17, if_pos c17]
  rw [if_neg c17, if_neg c17]
  by_cases c18 : a = nI 117
  · rw [if_pos c18, if_pos c18]
  rw [if_neg c18, if_neg c18]
  by_cases c19 : a = nI 118
  · rw [if_pos c19, if_pos c19]
  rw [if_neg c19, if_neg c19]
  by_cases c20 : a = nI 119
  · rw [if_pos c20, if_pos c20]
  rw [if_neg c20, if_neg c20]
  by_cases c21 : a = nI 120
  · rw [if_pos c21, if_pos c21]
  rw [if_neg c21, if_neg c21]
  by_cases c22 : a = nI 121
  · rw [if_pos c22, if_pos c22]
  rw [if_neg c22, if_neg c22]
def isl (a0 : Int32) : Int32 := if a0 = nI 114 ∨ a0 = nI 110 ∨ a0 = nI 116 ∨ a0 = nI 103 ∨ a0 = nI 109 ∨ a0 = nI 99 ∨ a0 = nI 121 ∨ a0 = nI 104 ∨ a0 = nI 112 ∨ a0 = nI 118 ∨ a0 = nI 111 ∨ a0 = nI 108 then nI 1 else nI 0
theorem isl_e (a : Int32) (w : gT) : xX4_isLetter a w = some (isl a, w) := rfl
theorem let_all : ∀ q : Fin 256, (isl (nI q.1) = nI 0 ∧ foV (nI q.1) = (-1)) ∨ (isl (nI q.1) = nI 1 ∧ ∃ j : Fin 12, foV (nI q.1) = nI j.1 ∧ q.1 = 97 + posX j.1) := by decide +kernel
theorem let_m1 : isl (-1) = nI 0 ∧ foV (-1) = (-1) := by decide
/-- after the first fault -/
def DD (w : gT) : Prop := ∃ n, n ≤ 256 ∧ w.1 40 6 = nI n
def FL (w v w' v' : gT) : Prop := FF w' v' ∧ DD w' ∧ LX w w' ∧ LM v v'
theorem FL.tr {w v w1 v1 w2 v2 : gT} (hx : LX w w1) (hm : LM v v1) (h : FL w1 v1 w2 v2) : FL w v w2 v2 := ⟨h.1, h.2.1, hx.tr h.2.2.1, hm.tr h.2.2.2⟩
/-- the class goes on after the fault -/
theorem FL.x {w v w1 v1 w2 : gT} (h : FL w v w1 v1) (h4 : w2.1 19 4 = w1.1 19 4) (hd : DD w2) (hx : LX w1 w2) : FL w v w2 v1 := by
  obtain ⟨⟨k, p, a1, a2, a3, a4, a5⟩, b, c, d⟩ := h
  exact ⟨⟨k, p, a1, a2, a3, h4.trans a4, a5⟩, hd, c.tr hx, d⟩
theorem FL.mk {w v : gT} {k p n : Nat} (h1 : 1 ≤ k) (h2 : k < 10) (h3 : p < 2 ^ 30) (hn : n ≤ 256) (h6 : w.1 40 6 = nI n) : FL w v (gU w 19 4 (fc k p)) (gU v 0 17 (fc k p)) := ⟨FF.mk h1 h2 h3, ⟨n, hn, by rw [gU1 (by decide)]; exact h6⟩, LX.t (by omega), LM.n (by decide)⟩
theorem d_addStep {w : gT} (hd : DD w) (a b : Int32) : ∃ w', xX3_addStep a b w = some w' ∧ w'.1 19 4 = w.1 19 4 ∧ DD w' ∧ LX w w' := by
  obtain ⟨n, hn, h⟩ := hd
  by_cases c : 256 ≤ n
  · refine ⟨w, ?_, rfl, ⟨n, hn, h⟩, LX.rf⟩
    unfold xX3_addStep
    rw [h, if_pos (yle (by omega) (by omega) c)]
  · refine ⟨addS w n a b, addS_x h (by omega) a b, ?_, ⟨n + 1, by omega, gU0⟩, addS_lx _ _ _ _⟩
    unfold addS
    rw [gU1 (by decide), gU1 (by decide), gU1 (by decide)]
theorem d_aim {w : gT} (hd : DD w) {a b : Int32} (ha : a < nI 0 ∨ ∃ l, l < 256 ∧ a = nI l) : ∃ w', xX3_aim a b w = some w' ∧ w'.1 19 4 = w.1 19 4 ∧ DD w' ∧ LX w w' := by
  obtain ⟨n, hn, h⟩ := hd
  unfold xX3_aim
  rcases ha with ha | ⟨l, hl, rfl⟩
  · rw [if_pos ha]
    exact ⟨w, rfl, rfl, ⟨n, hn, h⟩, LX.rf⟩
  · rw [if_neg (nlt (by omega) (by omega) (by omega)), h]
    by_cases c : n ≤ l
    · rw [if_pos (yle (by omega) (by omega) c)]
      exact ⟨w, rfl, rfl, ⟨n, hn, h⟩, LX.rf⟩
    · rw [if_neg (nle (by omega) (by omega) c), gG_in (by omega) (by omega), gLet_s]
      exact ⟨_, rfl, by rw [gU1 (by decide)], ⟨n, hn, by rw [gU1 (by decide)]; exact h⟩, LX.c (Or.inr rfl)⟩
theorem d_factor {N : Nat} {w : gT} (h : XD w) (rc : Int32 → gT → Option gT) (a : Int32) : xX4_readFactor N rc a w = some w := by
  unfold xX4_readFactor
  rw [d_peek h, gBi_s, if_neg (by decide), d_isAtDigit h, gBi_s, if_pos rfl, isl_e, gBi_s, if_pos let_m1.1, d_fail h, gBv_s]
theorem d_product {N : Nat} (hN : 5000 ≤ N) {w : gT} (h : XD w) (rc : Int32 → gT → Option gT) (a : Int32) : xX4_readProduct N rc a w = some w := by
  obtain ⟨M, rfl⟩ : ∃ M, N = M + 1 := ⟨N - 1, by omega⟩
  unfold xX4_readProduct
  rw [d_factor h, gBv_s, gW1_s]
  unfold xX4_readProduct_b7
  rw [if_neg (by decide), d_peek h, gBi_s]
  unfold xX4_timesAt
  rw [if_neg (by decide), if_neg (by decide), if_neg (by decide), gBi_s, if_pos rfl]
theorem d_sum {N d : Nat} (hN : 5000 ≤ N) {w : gT} (h : XD w) (a : Int32) : xX4_readSum N (d + 1) a w = some w := by
  obtain ⟨M, rfl⟩ : ∃ M, N = M + 1 := ⟨N - 1, by omega⟩
  unfold xX4_readSum xX4_readSumB
  rw [d_product hN h, gBv_s, gW1_s]
  unfold xX4_readSum_b7
  rw [if_neg (by decide), gLet_s, d_peek h, gBi_s, if_neg (by decide), d_peek h, gBi_s, if_neg (by decide)]
theorem pow5 {d : Nat} (h : d ≤ 5) : 10 ^ d ≤ 100000 := Nat.pow_le_pow_right (n := 10) (by omega) h
theorem num_loop {N : Nat} {B : Nat → Int32} (hB : ∀ i, Bl (B i) 256) {len pos0 : Nat} (k1 : Int32 → gT → Option gT) (k3 : gT → Option (Int32 × gT)) : ∀ c d F G r pos w v, c + d = 5 → c < F → c < G → XT B w len pos → MT B v len pos → v.1 0 18 = nI r → r < 10 ^ d → pos = pos0 + d →
    ∃ r' w1 v1 pos', r' < 100000 ∧ gW2 (xX4_readNumber_b4 N k1) F (nI r) (nI d) w = k1 (nI r') w1 ∧ XT B w1 len pos' ∧ MT B v1 len pos' ∧ FX w w1 ∧ FM v v1 ∧ pos ≤ pos' ∧ v1.1 0 18 = nI r' ∧ (0 < c → (∃ e, e ≤ 9 ∧ pkV B len pos = nI (48 + e)) → pos < pos') ∧
    (((∀ e, e ≤ 9 → pkV B len pos' ≠ nI (48 + e)) ∧ gW0 (xX10_readsNumber_b10 N k3 (nI pos0)) G v = some (nI 1, v1)) ∨ (∃ e, e ≤ 9 ∧ pkV B len pos' = nI (48 + e) ∧ gW0 (xX10_readsNumber_b10 N k3 (nI pos0)) G v = k3 v1)) := by
  intro c
  induction c with
  | zero =>
    intro d F G r pos w v hc hF hG hx hm h18 hr hp
    have hd : d = 5 := by omega
    obtain ⟨F, rfl⟩ : ∃ F', F = F' + 1 := ⟨F - 1, by omega⟩
    obtain ⟨G, rfl⟩ : ∃ G', G = G' + 1 := ⟨G - 1, by omega⟩
    have h5 := hx.2.2.2.2.1
    have h6 := hx.2.2.2.2.2
    have := pow5 (d := d) (by omega)
    refine ⟨r, w, v, pos, by omega, ?_, hx, hm, FX.rf, FM.rf, Nat.le_refl _, h18, fun z => by omega, ?_⟩
    · rw [gW2_s]
      unfold xX4_readNumber_b4
      rw [if_pos (yle (by omega) (by omega) (by omega))]
    · rw [gW0_s]
      unfold xX10_readsNumber_b10
      by_cases c : ∃ e, e ≤ 9 ∧ pkV B len pos = nI (48 + e)
      · obtain ⟨e, he, hc⟩ := c
        refine Or.inr ⟨e, he, hc, ?_⟩
        rw [m_at1 hm h5 h6 he hc, gBi_s, if_neg nI_10, hm.2.2, nI_add, if_pos (by rw [hp, hd])]
      · have hn : ∀ e, e ≤ 9 → pkV B len pos ≠ nI (48 + e) := fun e he z => c ⟨e, he, z⟩
        refine Or.inl ⟨hn, ?_⟩
        rw [m_at0 hB hm h5 h6 hn, gBi_s, if_pos rfl]
  | succ c ih =>
    intro d F G r pos w v hc hF hG hx hm h18 hr hp
    obtain ⟨F, rfl⟩ : ∃ F', F = F' + 1 := ⟨F - 1, by omega⟩
    obtain ⟨G, rfl⟩ : ∃ G', G = G' + 1 := ⟨G - 1, by omega⟩
    have h5 := hx.2.2.2.2.1
    have h6 := hx.2.2.2.2.2
    have hpow := pow5 (d := d) (by omega)
    rw [gW2_s, gW0_s]
    revert ih
    generalize hgx : gW2 (xX4_readNumber_b4 N k1) F = gx
    generalize hgm : gW0 (xX10_readsNumber_b10 N k3 (nI pos0)) G = gm
    intro ih
    unfold xX4_readNumber_b4 xX10_readsNumber_b10
    rw [if_neg (nle (by omega) (by omega) (by omega))]
    by_cases cd : ∃ e, e ≤ 9 ∧ pkV B len pos = nI (48 + e)
    · obtain ⟨e, he, hce⟩ := cd
      have hpl := pkV_lt (by omega) hce
      have hne : ¬ nI pos = nI pos0 + nI 5 := by
        rw [nI_add]
        intro z
        have := (nI_eq (show pos < 2 ^ 31 by omega) (show pos0 + 5 < 2 ^ 31 by omega)).mp z
        omega
      rw [x_at1 hx he hce, gBi_s, if_neg nI_10, x_peek hx, gBi_s, gLet_s, gLet_s, hce, nI_mul, nI_add, pk_sub (by omega), show 10 * r + (48 + e) - 48 = 10 * r + e by omega, hx.2.2.1, nI_add, nI_add, m_at1 hm h5 h6 he hce, gBi_s, if_neg nI_10, hm.2.2, if_neg hne, m_here hm h5 h6, gBi_s, gLet_s, gLet_s, hce, h18, nI_mul, nI_add, pk_sub (by omega), show 10 * r + (48 + e) - 48 = 10 * r + e by omega, gU2 (by decide), hm.2.2, nI_add]
      have hp10 : 10 ^ (d + 1) = 10 ^ d * 10 := Nat.pow_succ _ _
      obtain ⟨r', w1, v1, pos', a1, a2, a3, a4, a5, a6, a7, a8, a9, a10⟩ := ih (d + 1) F G (10 * r + e) (pos + 1) (gU w 19 3 (nI (pos + 1))) (gU (gU v 0 18 (nI (10 * r + e))) 0 15 (nI (pos + 1))) (by omega) (by omega) (by omega) (hx.adv hpl) ((hm.u18 _).adv) (by rw [gU2 (by decide), gU0]) (by omega) (by omega)
      rw [hgx] at a2
      rw [hgm] at a10
      exact ⟨r', w1, v1, pos', a1, a2, a3, a4, (FX.u (by omega)).tr a5, ((FM.u (by decide)).tr (FM.u (by decide))).tr a6, by omega, a8, fun _ _ => by omega, a10⟩
    · have hn : ∀ e, e ≤ 9 → pkV B len pos ≠ nI (48 + e) := fun e he z => cd ⟨e, he, z⟩
      rw [x_at0 hB hx hn, gBi_s, if_pos rfl, m_at0 hB hm h5 h6 hn, gBi_s, if_pos rfl]
      exact ⟨r, w, v, pos, by omega, rfl, hx, hm, FX.rf, FM.rf, Nat.le_refl _, h18, fun _ z => absurd z cd, Or.inl ⟨hn, rfl⟩⟩
