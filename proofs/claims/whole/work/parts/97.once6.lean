theorem once84 {w : gT} {g m x : Nat} (hg : g < 10) (hm : m < 1024) (h : w.1 33 (1024 * (g + 1) + m) = nI x) : xX10_onceBy (nI g) (nI 84) (nI m) w = some (nI x, w) := by
  unfold xX10_onceBy
  rw [if_pos rfl, nI_add, nI_mul, nI_add, gG_in (n := 11264) (by omega) (by omega), nI_clamp (by omega), h]
theorem onceT {w : gT} {g t m R : Nat} (hg : g < 10) (ht : t < 84) (hm : m < 1024) (hR : R < 1024) (h : w.1 32 (84 * g + t) = nI R) : xX10_onceBy (nI g) (nI t) (nI m) w = some ((if R &&& m = 0 then (w.1 33 (1024 * (g + 1) + (m ||| R))) + nI 1 else nI 1000000000), w) := by
  have hor : m ||| R < 1024 := Nat.or_lt_two_pow (n := 10) hm hR
  have hnd : R &&& m < 1024 := Nat.lt_of_le_of_lt Nat.and_le_left hR
  unfold xX10_onceBy
  rw [if_neg (nI_no (by omega) (by omega) (by omega)), nI_mul, nI_add, gG_in (n := 840) (by omega) (by omega), gLet_s, nI_clamp (by omega), h, nI_and, nI_or, nI_add, nI_mul, nI_add]
  by_cases c : R &&& m = 0
  · rw [if_pos (by rw [c]), if_pos c, gG_in (n := 11264) (by omega) (by omega), nI_clamp (by omega)]
  · rw [if_neg (fun z => c ((nI_eq (by omega) (by omega)).mp z)), if_neg c]
theorem m_min {a b : Nat} (ha : a < 2 ^ 30) (hb : b < 2 ^ 30) (w : gT) : xX10_min (nI a) (nI b) w = some (nI (min a b), w) := by
  unfold xX10_min
  by_cases c : b ≤ a
  · rw [if_pos (yle hb ha c), Nat.min_eq_right c]
  · rw [if_neg (nle hb ha c), Nat.min_eq_left (by omega)]
/-- the least of the codes so far -/
theorem big_step {G R : Nat → Nat} {W s t d : Nat} (hs : s < 1024) (hsW : sb s W) (h : ∀ s, s < 1024 → G s ≤ d ∨ G s = 15) (hd : d < 11) (hsb : sb (R t) s) : min (big (Fm G R W s t)) (big (G (mn s (R t))) + 1) = big (Fm G R W s (t + 1)) := by
  have hv := Fm_val (R := R) (W := W) hs h (by omega) t
  have hm := sb_le (mn_sb s (R t))
  have hx := h (mn s (R t)) (by omega)
  rw [Fm_s]
  by_cases r0 : R t = 0
  · have e : mn s (R t) = s := by
      rw [r0]
      apply Nat.eq_of_testBit_eq
      intro i
      rw [mn_tb, Nat.zero_testBit, Bool.not_false, Bool.and_true]
    have hle := Fm_mono G R W s 0 t
    have h0 : Fm G R W s 0 = G s := rfl
    rw [Nat.zero_add, h0] at hle
    rw [if_neg (fun z => z.1 r0), e]
    rw [e] at hx
    unfold big
    by_cases a : Fm G R W s t = 15
    · rw [if_pos a, if_pos (show G s = 15 by omega)]
      rfl
    · rw [if_neg a]
      split <;> omega
  · by_cases c : G (mn s (R t)) + 1 < Fm G R W s t
    · rw [if_pos ⟨r0, hsb, hsW, c⟩]
      unfold big
      rw [if_neg (show ¬ G (mn s (R t)) = 15 by omega), if_neg (show ¬ G (mn s (R t)) + 1 = 15 by omega)]
      split <;> omega
    · rw [if_neg (fun z => c z.2.2.2)]
      unfold big
      by_cases a : G (mn s (R t)) = 15
      · rw [if_pos a]
        split <;> omega
      · rw [if_neg a, if_neg (show ¬ Fm G R W s t = 15 by omega)]
        omega
theorem big_le {x d : Nat} (h : x ≤ d ∨ x = 15) (hd : d < 1000) : big x ≤ 1000000000 := by
  unfold big
  split <;> omega
theorem m_table {N : Nat} (hN : 5000 ≤ N) {σ : sT} {w : gT} (hgh : w.1 0 4 = σ.1 1 8) {M : Nat} (hM : M < 1024) (hr : RI σ M w) (h0 : TI σ M 0 w) : ∃ w', gW1 (xX10_laysOnce_b102 N (nI M)) N (nI 9) w = some w' ∧ SmC [33] w w' ∧ TI σ M 10 w' := by
  refine gW1_ind (fun (t : Option gT) => ∃ w', t = some w' ∧ SmC [33] w w' ∧ TI σ M 10 w') (fun q a w1 => ∃ d, d ≤ 10 ∧ a = nI (10 - d) - nI 1 ∧ q = 10 - d ∧ SmC [33] w w1 ∧ TI σ M d w1) ?_ N 10 _ w (by omega) ⟨0, by omega, by decide, rfl, SmC.rf, h0⟩
  rintro q go a w1 ⟨d, hd, rfl, rfl, hs, hT⟩ ih
  unfold xX10_laysOnce_b102
  by_cases q : d = 10
  · subst q
    rw [if_pos (by decide)]
    exact ⟨w1, rfl, hs, hT⟩
  · obtain ⟨g, hgd⟩ : ∃ g, g = 9 - d := ⟨_, rfl⟩
    have hg : g < 10 := by omega
    rw [topM (show 1 ≤ 10 - d by omega), show 10 - d - 1 = g by omega, if_neg (nlt (by omega) (by omega) (by omega)), gLet_s]
    have nx : nI g + (-1) = nI (10 - (d + 1)) - nI 1 := by
      rw [m1_sub, show 10 - (d + 1) = g by omega]
    have hdv := fdO_val σ M d (by omega)
    refine gW1_ind (fun (t : Option gT) => ∃ w', t = some w' ∧ SmC [33] w w' ∧ TI σ M 10 w') (fun q a w2 => ∃ m, m ≤ 1024 ∧ a = nI m ∧ q = 1024 - m ∧ SmC [33] w w2 ∧ TI σ M d w2 ∧ ∀ m', m' < m → sb m' M → w2.1 33 (1024 * g + m') = nI (big (fdO σ M (d + 1) (mn M m')))) ?_ N 1024 _ w1 (by omega) ⟨0, by omega, rfl, rfl, hs, hT, fun m' h => by omega⟩
    rintro q go2 a w2 ⟨m, hm, rfl, rfl, hs2, hT2, hrow⟩ ih2
    unfold xX10_laysOnce_b108
    by_cases q2 : 1024 ≤ m
    · rw [if_pos (yle (by omega) (by omega) q2), nx]
      refine ih (10 - (d + 1)) _ _ (by omega) ⟨d + 1, by omega, rfl, rfl, hs2, fun e he m' hm' hsb => ?_⟩
      by_cases c : e = d + 1
      · subst c
        rw [show 10 - (d + 1) = g by omega]
        exact hrow m' (by omega) hsb
      · exact hT2 e (by omega) m' hm' hsb
    · have hm2 : m < 1024 := by omega
      have h84 : xX10_onceBy (nI g) (nI 84) (nI m) w2 = some (w2.1 33 (1024 * (g + 1) + m), w2) := by
        unfold xX10_onceBy
        rw [if_pos rfl, nI_add, nI_mul, nI_add, gG_in (n := 11264) (by omega) (by omega), nI_clamp (by omega)]
      rw [if_neg (nle (by omega) (by omega) q2), h84, gBi_s, gLet_s]
      -- the value put down
      have put : ∀ x, (sb m M → x = nI (big (fdO σ M (d + 1) (mn M m)))) → ∃ w', (gG ((nI 1024 * nI g) + nI m) 11264 <| gLet (gU w2 33 ((nI 1024 * nI g) + nI m).toNatClampNeg x) fun (w18 : gT) => go2 (nI m + (nI 1)) w18) = some w' ∧ SmC [33] w w' ∧ TI σ M 10 w' := fun x hx => by
        rw [nI_mul, nI_add, gG_in (n := 11264) (by omega) (by omega), gLet_s, nI_clamp (by omega), nI_add]
        refine ih2 (1024 - (m + 1)) _ _ (by omega) ⟨m + 1, by omega, rfl, rfl, hs2.tr (SmC.U (by decide)), fun e he m' hm' hsb => ?_, fun m' h hsb => ?_⟩
        · rw [gU2 (by omega)]
          exact hT2 e he m' hm' hsb
        · rw [gUs]
          by_cases c : m' = m
          · rw [if_pos (by rw [c]), c]
            exact hx (by rw [← c]; exact hsb)
          · rw [if_neg (by omega)]
            exact hrow m' (by omega) hsb
      have e4 : w2.1 0 4 = σ.1 1 8 := by rw [hs2 0 (by decide)]; exact hgh
      have e32 : ∀ i, w2.1 32 i = w.1 32 i := fun i => by rw [hs2 32 (by decide)]
      obtain ⟨M', hN'⟩ : ∃ M', N = M' + 1 := ⟨N - 1, by omega⟩
      by_cases tg : tol (σ.1 1 8) g
      · by_cases sM : sb m M
        · have hsl : mn M m < 1024 := Nat.lt_of_le_of_lt (sb_le (mn_sb M m)) hM
          have e84 : w2.1 33 (1024 * (g + 1) + m) = nI (big (Fm (fdO σ M d) (Rw σ M g) M (mn M m) 0)) := by
            have := hT2 d (Nat.le_refl _) m hm2 sM
            rw [show 10 - d = g + 1 by omega] at this
            exact this
          rw [e84]
          refine gW2_ind (fun (t : Option gT) => ∃ w', t = some w' ∧ SmC [33] w w' ∧ TI σ M 10 w') (fun q a b w3 => ∃ t, t ≤ 84 ∧ a = nI (big (Fm (fdO σ M d) (Rw σ M g) M (mn M m) t)) ∧ b = nI t ∧ q = 84 - t ∧ w3 = w2) ?_ N 84 _ _ w2 (by omega) ⟨0, by omega, rfl, rfl, rfl, rfl⟩
          rintro q go3 a b w3 ⟨t, ht, rfl, rfl, rfl, rfl⟩ ih3
          unfold xX10_laysOnce_b128
          by_cases q3 : 84 ≤ t
          · have : t = 84 := by omega
            subst this
            rw [if_pos (yle (by omega) (by omega) q3)]
            refine put _ (fun _ => ?_)
            have : fdO σ M (d + 1) (mn M m) = if tol (σ.1 1 8) (9 - d) then Fm (fdO σ M d) (Rw σ M (9 - d)) M (mn M m) 84 else fdO σ M d (mn M m) := rfl
            rw [this, ← hgd, if_pos tg]
          · have ht2 : t < 84 := by omega
            have hRt : w3.1 32 (84 * g + t) = nI (Rw σ M g t) := (e32 _).trans (hr g hg tg t ht2)
            have hRs : sb (Rw σ M g t) M := Rw_sb hM
            have hRl := Rw_lt σ M g t
            have hv := Fm_val (R := Rw σ M g) (W := M) hsl hdv (by omega) t
            have hvb := big_le hv (by omega)
            rw [if_neg (nle (by omega) (by omega) q3), m_isGhost _ hg, gBi_s, ifb, e4, if_pos tg, nI_mn, mn_0.mpr sM, if_pos rfl, onceT hg ht2 hm2 hRl hRt, gBi_s]
            have fin : ∀ y, y ≤ 1000000001 → min (big (Fm (fdO σ M d) (Rw σ M g) M (mn M m) t)) y = big (Fm (fdO σ M d) (Rw σ M g) M (mn M m) (t + 1)) → ∃ w', (gBi (xX10_min (nI (big (Fm (fdO σ M d) (Rw σ M g) M (mn M m) t))) (nI y) w3) fun (v27 : Int32) (w28 : gT) => go3 v27 (nI t + (nI 1)) w28) = some w' ∧ SmC [33] w w' ∧ TI σ M 10 w' := fun y hy hmin => by
              rw [m_min (by omega) (by omega), gBi_s, nI_add, hmin]
              exact ih3 (84 - (t + 1)) _ _ _ (by omega) ⟨t + 1, by omega, rfl, rfl, rfl, rfl⟩
            by_cases c : Rw σ M g t &&& m = 0
            · have hds := (dis_sb hRs).mp c
              have hcl : m ||| Rw σ M g t < 1024 := Nat.or_lt_two_pow (n := 10) hm2 hRl
              have hval := hT2 d (Nat.le_refl _) (m ||| Rw σ M g t) hcl (or_sb sM hRs)
              rw [show 10 - d = g + 1 by omega, mn_mn] at hval
              have hxb := big_le (hdv (mn (mn M m) (Rw σ M g t)) (Nat.lt_of_le_of_lt (sb_le (mn_sb _ _)) hsl)) (by omega)
              rw [if_pos c, hval, nI_add]
              exact fin _ (by omega) (big_step hsl (mn_sb M m) hdv (by omega) hds)
            · rw [if_neg c]
              refine fin _ (by omega) ?_
              rw [Nat.min_eq_left hvb, Fm_s, if_neg (fun z => c ((dis_sb hRs).mpr z.2.1))]
        · rw [hN', gW2_s]
          unfold xX10_laysOnce_b128
          rw [if_neg (by decide), m_isGhost _ hg, gBi_s, ifb, e4, if_pos tg, nI_mn, if_neg (fun z => sM (mn_0.mp ((nI_eq (by have := sb_le (mn_sb m M); omega) (by omega)).mp z)))]
          exact put _ (fun z => absurd z sM)
      · rw [hN', gW2_s]
        unfold xX10_laysOnce_b128
        rw [if_neg (by decide), m_isGhost _ hg, gBi_s, ifb, e4, if_neg tg]
        refine put _ (fun sM => ?_)
        have := hT2 d (Nat.le_refl _) m hm2 sM
        rw [show 10 - d = g + 1 by omega] at this
        rw [this]
        have e : fdO σ M (d + 1) (mn M m) = if tol (σ.1 1 8) (9 - d) then Fm (fdO σ M d) (Rw σ M (9 - d)) M (mn M m) 84 else fdO σ M d (mn M m) := rfl
        rw [e, ← hgd, if_neg tg]
theorem m_lays {N : Nat} (hN : 5000 ≤ N) {σ : sT} {w : gT} (hE : EncM N σ w) (hR : Rng σ) {M : Nat} (hM : M < 1024) : ∃ w', xX10_laysOnce N (nI M) w = some w' ∧ SmC [29, 30, 32, 33] w w' ∧ RI σ M w' ∧ TI σ M 10 w' := by
  unfold xX10_laysOnce
  rw [gLet_s]
  obtain ⟨w1, e1, s1, r1⟩ := m_reach hN hE hR hM (fun (w2 : gT) => gLet (fun (w4 : gT) => gW1 (xX10_laysOnce_b102 N (nI M)) N (nI 9) w4) fun k3 => gW1 (xX10_laysOnce_b64 (nI M) k3) N (nI 0) w2)
  rw [e1, gLet_s]
  obtain ⟨w2, e2, s2, t2⟩ := m_row0 hN (σ := σ) (w := w1) hM (fun (w4 : gT) => gW1 (xX10_laysOnce_b102 N (nI M)) N (nI 9) w4)
  rw [e2]
  obtain ⟨w3, e3, s3, t3⟩ := m_table hN (σ := σ) (w := w2) (by rw [s2 0 (by decide), s1 0 (by decide)]; exact hE.gh) hM (fun g h1 h2 t h3 => by rw [s2 32 (by decide)]; exact r1 g h1 h2 t h3) t2
  exact ⟨w3, e3, (s1.mono (by decide)).tr ((s2.mono (by decide)).tr (s3.mono (by decide))), fun g h1 h2 t h3 => by rw [s3 32 (by decide), s2 32 (by decide)]; exact r1 g h1 h2 t h3, t3⟩
