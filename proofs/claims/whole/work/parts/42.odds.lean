theorem x_reduced {N : Nat} (hN : 5000 ≤ N) {a d : Nat} (ha : a ≤ d) (h0 : 0 < d) (hd : d ≤ 10000) (z : Int32) (w : gT) : xX8_reduced N (nI a) (nI d) z w = some ((if z = nI 0 then nI (a / Nat.gcd d a) else nI (d / Nat.gcd d a)), w) := by
  have hg : 0 < Nat.gcd d a := Nat.gcd_pos_of_pos_left a h0
  have hgd : Nat.gcd d a ≤ d := Nat.gcd_le_left a h0
  unfold xX8_reduced
  rw [gLet_s]
  refine gW3_ind (fun t => t = some ((if z = nI 0 then nI (a / Nat.gcd d a) else nI (d / Nat.gcd d a)), w)) (fun m x0 x1 x2 w1 => ∃ p q i, x0 = nI p ∧ x1 = nI q ∧ x2 = nI i ∧ i ≤ 64 ∧ m = 64 - i ∧ w1 = w ∧ Nat.gcd p q = Nat.gcd d a ∧ q ≤ p ∧ 0 < p ∧ p ≤ 10000 ∧ p * q * 2 ^ i ≤ 100000000) ?_ N 64 _ _ _ _ (by omega) ⟨d, a, 0, rfl, rfl, rfl, by omega, rfl, rfl, rfl, ha, h0, hd, ?_⟩
  · rintro m go x0 x1 x2 w1 ⟨p, q, i, rfl, rfl, rfl, hi, rfl, rfl, hG, hqp, hp, hp2, hB⟩ ih
    unfold xX8_reduced_b8
    have fin : q = 0 → (if nI 0 < nI p then (if z = nI 0 then gZ (nI p) <| some (nI a / nI p, w1) else gZ (nI p) <| some (nI d / nI p, w1)) else some (-1, w1)) = some ((if z = nI 0 then nI (a / Nat.gcd d a) else nI (d / Nat.gcd d a)), w1) := by
      intro hq
      have hpG : p = Nat.gcd d a := by rw [← hG, hq, Nat.gcd_zero_right]
      have pne : nI p ≠ 0 := fun zz => by
        have := (nI_eq (show p < 2 ^ 31 by omega) (show 0 < 2 ^ 31 by omega)).mp zz
        omega
      rw [if_pos (ylt (by omega) (by omega) hp), gZ_ne pne, gZ_ne pne, pk_div (by omega) (by omega) (by omega), pk_div (by omega) (by omega) (by omega), ← hpG]
      by_cases hz : z = nI 0
      · rw [if_pos hz, if_pos hz]
      · rw [if_neg hz, if_neg hz]
    by_cases h64 : 64 ≤ i
    · rw [if_pos (yle (by omega) (by omega) h64)]
      have e64 : i = 64 := by omega
      subst e64
      refine fin ?_
      apply Classical.byContradiction
      intro hq
      have h1 : 1 ≤ p * q := Nat.mul_pos hp (by omega)
      have h2 : 1 * 2 ^ 64 ≤ p * q * 2 ^ 64 := Nat.mul_le_mul_right _ h1
      omega
    · rw [if_neg (nle (by omega) (by omega) h64)]
      by_cases hq : q ≤ 0
      · rw [if_pos (yle (by omega) (by omega) hq)]
        exact fin (by omega)
      · have qne : nI q ≠ 0 := fun zz => by
          have := (nI_eq (show q < 2 ^ 31 by omega) (show 0 < 2 ^ 31 by omega)).mp zz
          omega
        rw [if_neg (nle (by omega) (by omega) hq), gZ_ne qne, gLet_s, nI_rem (by omega) (by omega) (by omega), nI_add]
        have hlt : p % q < q := Nat.mod_lt _ (by omega)
        refine ih (64 - (i + 1)) _ _ _ _ (by omega) ⟨q, p % q, i + 1, rfl, rfl, rfl, by omega, rfl, rfl, ?_, by omega, by omega, by omega, ?_⟩
        · rw [← hG, Nat.gcd_comm q, ← Nat.gcd_rec q p, Nat.gcd_comm]
        · have h2 : 2 * (p % q) ≤ p := by
            have := Nat.div_add_mod p q
            have h3 : 1 ≤ p / q := (Nat.one_le_div_iff (by omega)).mpr hqp
            have h4 : q * 1 ≤ q * (p / q) := Nat.mul_le_mul_left q h3
            omega
          calc q * (p % q) * 2 ^ (i + 1) = q * (2 * (p % q)) * 2 ^ i := by rw [Nat.pow_succ, Nat.mul_comm (2 ^ i) 2, ← Nat.mul_assoc, Nat.mul_assoc q, Nat.mul_comm (p % q) 2]
            _ ≤ q * p * 2 ^ i := Nat.mul_le_mul_right _ (Nat.mul_le_mul_left _ h2)
            _ = p * q * 2 ^ i := by rw [Nat.mul_comm q p]
            _ ≤ 100000000 := hB
  · rw [Nat.pow_zero, Nat.mul_one]
    exact Nat.le_trans (Nat.mul_le_mul hd (Nat.le_trans ha hd)) (by omega)
theorem m_gcd1 {N : Nat} (hN : 100 ≤ N) {a d : Nat} (ha : a ≤ d) (h0 : 0 < d) (hd : d ≤ 10000) (w : gT) : xX10_gcd N (nI d) (nI a) w = some (nI (Nat.gcd d a), w) := by
  unfold xX10_gcd
  refine gW2_ind (fun t => t = some (nI (Nat.gcd d a), w)) (fun m x0 x1 w1 => ∃ p q i, x0 = nI p ∧ x1 = nI q ∧ i ≤ 64 ∧ m = 64 - i ∧ w1 = w ∧ Nat.gcd p q = Nat.gcd d a ∧ q ≤ p ∧ 0 < p ∧ p ≤ 10000 ∧ p * q * 2 ^ i ≤ 100000000) ?_ N 64 _ _ _ (by omega) ⟨d, a, 0, rfl, rfl, by omega, rfl, rfl, rfl, ha, h0, hd, ?_⟩
  · rintro m go x0 x1 w1 ⟨p, q, i, rfl, rfl, hi, rfl, rfl, hG, hqp, hp, hp2, hB⟩ ih
    unfold xX10_gcd_b4
    by_cases hq : nI q = nI 0
    · rw [if_pos hq]
      have hq0 : q = 0 := (nI_eq (by omega) (by omega)).mp hq
      rw [← hG, hq0, Nat.gcd_zero_right]
    · have hq0 : q ≠ 0 := fun zz => hq (by rw [zz])
      have i64 : i < 64 := by
        apply Classical.byContradiction
        intro hi2
        have e64 : i = 64 := by omega
        subst e64
        have h1 : 1 ≤ p * q := Nat.mul_pos hp (by omega)
        have h2 : 1 * 2 ^ 64 ≤ p * q * 2 ^ 64 := Nat.mul_le_mul_right _ h1
        omega
      rw [if_neg hq, gZ_ne hq, gLet_s, nI_rem (by omega) (by omega) (by omega)]
      have hlt : p % q < q := Nat.mod_lt _ (by omega)
      refine ih (64 - (i + 1)) _ _ _ (by omega) ⟨q, p % q, i + 1, rfl, rfl, by omega, rfl, rfl, ?_, by omega, by omega, by omega, ?_⟩
      · rw [← hG, Nat.gcd_comm q, ← Nat.gcd_rec q p, Nat.gcd_comm]
      · have h2 : 2 * (p % q) ≤ p := by
          have := Nat.div_add_mod p q
          have h3 : 1 ≤ p / q := (Nat.one_le_div_iff (by omega)).mpr hqp
          have h4 : q * 1 ≤ q * (p / q) := Nat.mul_le_mul_left q h3
          omega
        calc q * (p % q) * 2 ^ (i + 1) = q * (2 * (p % q)) * 2 ^ i := by rw [Nat.pow_succ, Nat.mul_comm (2 ^ i) 2, ← Nat.mul_assoc, Nat.mul_assoc q, Nat.mul_comm (p % q) 2]
          _ ≤ q * p * 2 ^ i := Nat.mul_le_mul_right _ (Nat.mul_le_mul_left _ h2)
          _ = p * q * 2 ^ i := by rw [Nat.mul_comm q p]
          _ ≤ 100000000 := hB
  · rw [Nat.pow_zero, Nat.mul_one]
    exact Nat.le_trans (Nat.mul_le_mul hd (Nat.le_trans ha hd)) (by omega)
theorem m_gcd {N : Nat} (hN : 5000 ≤ N) {a d : Nat} (ha : a ≤ d) (h0 : 0 < d) (hd : d ≤ 10000) (w : gT) : xX10_gcd N (nI a) (nI d) w = some (nI (Nat.gcd d a), w) := by
  obtain ⟨M, rfl⟩ : ∃ M, N = M + 1 := ⟨N - 1, by omega⟩
  have hlt : a % d < d := Nat.mod_lt _ h0
  have h1 := m_gcd1 (N := M) (by omega) (show a % d ≤ d by omega) h0 hd w
  have dne : ¬ nI d = nI 0 := fun zz => by
    have := (nI_eq (show d < 2 ^ 31 by omega) (show 0 < 2 ^ 31 by omega)).mp zz
    omega
  unfold xX10_gcd
  rw [gW2_s]
  unfold xX10_gcd at h1
  have e : xX10_gcd_b4 (gW2 xX10_gcd_b4 M) (nI a) (nI d) w = gW2 xX10_gcd_b4 M (nI d) (nI (a % d)) w := by
    show (if nI d = nI 0 then some (nI a, w) else gZ (nI d) <| gLet (gRem (nI a) (nI d)) fun v5 => gW2 xX10_gcd_b4 M (nI d) v5 w) = _
    rw [if_neg dne, gZ_ne dne, gLet_s, nI_rem (by omega) h0 (by omega)]
  rw [e, h1, Nat.gcd_comm d, ← Nat.gcd_rec d a]
theorem oddsEnd {N : Nat} (hN : 5000 ≤ N) {a d : Nat} (ha : a ≤ d) (h0 : 0 < d) (hd : d ≤ 10000) (z : Int32) {w v : gT} (h : Rel N w v) : OpOk N (gBi (xX8_reduced N (nI d - nI a) (nI d) z w) fun v6 w7 => some (v6, w7)) (gBi (xX10_gcd N (nI d - nI a) (nI d) v) fun v12 w13 => if z = nI 0 then gZ v12 <| some ((nI d - nI a) / v12, w13) else gZ v12 <| some (nI d / v12, w13)) := by
  have hg : 0 < Nat.gcd d (d - a) := Nat.gcd_pos_of_pos_left _ h0
  have hgd : Nat.gcd d (d - a) ≤ d := Nat.gcd_le_left _ h0
  have gne : nI (Nat.gcd d (d - a)) ≠ 0 := fun zz => by
    have := (nI_eq (show Nat.gcd d (d - a) < 2 ^ 31 by omega) (show 0 < 2 ^ 31 by omega)).mp zz
    omega
  rw [pk_sub ha, x_reduced hN (by omega) h0 hd, m_gcd hN (by omega) h0 hd, gBi_s, gBi_s, gZ_ne gne, gZ_ne gne, pk_div (by omega) (by omega) (by omega), pk_div (by omega) (by omega) (by omega)]
  by_cases hz : z = nI 0
  · rw [if_pos hz, if_pos hz]; exact OpOk.o h
  · rw [if_neg hz, if_neg hz]; exact OpOk.o h
theorem gBi_id (t : Option (Int32 × gT)) : gBi t (fun v w => some (v, w)) = t := by
  cases t with
  | none => rfl
  | some q => rfl
theorem o_odds {N : Nat} (hN : 5000 ≤ N) {wx wm : gT} (h : Rel N wx wm) (a b c : Int32) : OpOk N (xX9_odds N a b c wx) (xX10_odds N a b c wm) := by
  obtain ⟨σ, hR, hX, hM, h4⟩ := id h
  have hq : Sq N σ wx wm := ⟨hR, hX, hM, h4⟩
  obtain ⟨hW0, hW⟩ := spW_le hR
  obtain ⟨hC0, hC⟩ := chains_at hR
  unfold xX9_odds xX10_odds
  rcases in_or a 7 (by omega) with ⟨n, hn, rfl⟩ | q
  · rw [x_night1 hn, m_night1 hn, gBi_s, gBi_s, if_neg nI_10, if_neg nI_10]
    rcases in_or b 10 (by omega) with ⟨p, hp, rfl⟩ | q
    · rw [x_hasSleeper _ hp, m_isSleeper _ hp, gBi_s, gBi_s, ifb, ifb, hM.sl, hX.1 1 rfl]
      by_cases t : tol (σ.1 1 9) p
      · rw [if_pos t, if_pos t, gLet_s]
        try dsimp only
        have key : ∀ k8 : Int32 → Int32 → gT → Option (Int32 × gT), k8 = (fun v9 v10 w11 => gBi (xX10_gcd N (v9 - v10) v9 w11) fun v12 w13 => if c = nI 0 then gZ v12 <| some ((v9 - v10) / v12, w13) else gZ v12 <| some (v9 / v12, w13)) → OpOk N (gBi (xX8_oddsOf N (nI n) (nI p) c wx) fun v7 w8 => some (v7, w8)) (gW5 (xX10_odds_b44 N (nI n) (nI p) k8) N (σ.1 1 10) (nI 0) (nI 1) (nI 1) (nI 0) wm) := by
          rintro k8 rfl
          unfold xX8_oddsOf
          rw [gLet_s, gLet_s]
          refine gW45 (fun t t' => OpOk N (gBi t fun v7 w8 => some (v7, w8)) t') (fun m x0 x1 x2 x3 w y0 y1 y2 y3 y4 v => ∃ cn nu de l i, i ≤ spW σ.1 ∧ m = spW σ.1 - i ∧ x0 = nI cn ∧ x1 = nI nu ∧ x2 = nI de ∧ x3 = nI i ∧ y0 = nI l ∧ y1 = nI cn ∧ y2 = nI de ∧ y3 = nI nu ∧ y4 = nI i ∧ nu ≤ de ∧ 0 < de ∧ cn ≤ 4 ∧ de ≤ 10 ^ cn ∧ l < 10 ∧ w.1 50 5 = nI l ∧ Sq N σ w v) ?_ N (spW σ.1) _ _ _ _ _ _ _ _ _ _ _ (by omega) ⟨0, 1, 1, spCn σ, 0, by omega, rfl, rfl, rfl, rfl, rfl, hC0, rfl, rfl, rfl, rfl, by omega, by omega, by omega, by omega, hC, ?_, hq.cx (SmC.U (cs := [50]) (a := 50) (by decide)) rfl⟩
          · rintro m go go' x0 x1 x2 x3 w y0 y1 y2 y3 y4 v ⟨cn, nu, de, l, i, hi, rfl, rfl, rfl, rfl, rfl, rfl, rfl, rfl, rfl, rfl, hnd, hd0, hcn, hde, hl, h5, hq⟩ ih
            have hde4 : de ≤ 10000 := Nat.le_trans hde (Nat.pow_le_pow_right (by omega) hcn)
            obtain ⟨-, hX, hM, h4⟩ := id hq
            unfold xX8_oddsOf_b23 xX10_odds_b44
            rw [hX.1 21 rfl, hM.wk, hW0]
            by_cases q : spW σ.1 ≤ i
            · rw [if_pos (yle (by omega) (by omega) q), if_pos (yle (by omega) (by omega) q)]
              show OpOk N (gBi (gBi (xX8_reduced N (nI de - nI nu) (nI de) c w) fun v6 w7 => some (v6, w7)) fun v7 w8 => some (v7, w8)) _
              rw [gBi_id]
              exact oddsEnd hN hnd hd0 hde4 c hq.rel
            · rw [if_neg (nle (by omega) (by omega) q), if_neg (nle (by omega) (by omega) q), gLet_s, gLet_s, gG_in (by omega) (by omega), gG_in (by omega) (by omega), nI_clamp (by omega), hX.1 23 rfl, (hM.wl i (by omega)).2.1]
              have hiW : i < spW σ.1 := by omega
              obtain ⟨g1, g2, g3, g4, g5, g6, -⟩ := wk_at hR hiW
              have nxt : ∀ (cn' nu' de' l' : Nat) (w' v' : gT), nu' ≤ de' → 0 < de' → cn' ≤ 4 → de' ≤ 10 ^ cn' → l' < 10 → w'.1 50 5 = nI l' → Sq N σ w' v' → OpOk N (gBi (go (nI cn') (nI nu') (nI de') (nI i + nI 1) w') fun v7 w8 => some (v7, w8)) (go' (nI l') (nI cn') (nI de') (nI nu') (nI i + nI 1) v') := by
                intro cn' nu' de' l' w' v' z1 z2 z3 z4 z5 z6 z7
                rw [nI_add]
                exact ih (spW σ.1 - (i + 1)) _ _ _ _ _ _ _ _ _ _ _ (by omega) ⟨cn', nu', de', l', i + 1, by omega, rfl, rfl, rfl, rfl, rfl, rfl, rfl, rfl, rfl, rfl, z1, z2, z3, z4, z5, z6, z7⟩
              by_cases q1 : σ.1 23 i = nI n
              · have q1n : wn σ i = n := by
                  rw [g3] at q1
                  exact (nI_eq (by omega) (by omega)).mp q1
                rw [if_pos q1, if_pos q1, x_isGone hX hR hiW, m_counts hN hM hR hiW, gBi_s, gBi_s, ifb, ifb]
                by_cases q2 : spGone σ i
                · rw [if_pos q2, if_pos q2]
                  obtain ⟨w1, e1, s1, c5, -⟩ := x_chainFor hX hR hiW hl h5
                  have hq1 : Sq N σ w1 v := hq.cx s1 rfl
                  rw [e1, gBi_s, x_isClaimed hN hq1.2.1 hR hiW, gBi_s, ifb]
                  simp only [gLet_s]
                  rw [gG_in (by omega) (by omega), (hM.wl i hiW).2.2.2]
                  have tail : ∀ (ch : Int32) (e : Nat), ch = spCh σ i l → e = spLf σ i l → OpOk N
                      (gBi (if spStands σ i then go (nI cn) (nI nu) (nI de) (nI i + nI 1) w1 else if nI cn + nI 1 ≤ nI 4 then (gBi (xX1_frightOf N (w1.1 22 i) (nI p) (nI n) (w1.1 24 i) (spCh σ i l) w1) fun v37 w38 => if v37 = (-2) then (if True then go (nI cn + nI 1) (nI nu * nI 10) (nI de * nI 10) (nI i + nI 1) w38 else gG (nI i) 16 (gG (nI i) 16 (gBi (xX1_tenthsOf N (w38.1 22 i) (nI n) (w38.1 24 i) (spCh σ i l) w38) fun v35 w36 => go (nI cn + nI 1) (nI nu * v35) (nI de * nI 10) (nI i + nI 1) w36))) else (if nI 1 = nI 0 then go (nI cn + nI 1) (nI nu * nI 10) (nI de * nI 10) (nI i + nI 1) w38 else gG (nI i) 16 (gG (nI i) 16 (gBi (xX1_tenthsOf N (w38.1 22 i) (nI n) (w38.1 24 i) (spCh σ i l) w38) fun v35 w36 => go (nI cn + nI 1) (nI nu * v35) (nI de * nI 10) (nI i + nI 1) w36))))
                        else some (-2, w1)) fun v7 w8 => some (v7, w8))
                      (gBi (xX10_stands N (nI i) v) fun v38 w39 => if v38 = nI 0 then (if nI cn + nI 1 ≤ nI 4 then gG (nI i) 16 (gG (nI i) 16 (gBv (xX10_feels N (w39.1 10 i) (nI n) (w39.1 12 i) ch w39) fun w47 => gBi (xX10_byLaw N (nI 122) (nI 10) w47) fun v48 w49 => gG (nI i) 16 (gG (nI i) 16 (gBi (xX10_frightOf N (w49.1 10 i) (nI p) (nI n) (w49.1 12 i) ch w49) fun v51 w52 => if v51 = (-2) then go' (nI e) (nI cn + nI 1) (nI de * nI 10) (nI nu * nI 10) (nI i + nI 1) w52 else go' (nI e) (nI cn + nI 1) (nI de * nI 10) (nI nu * v48) (nI i + nI 1) w52)))) else some (-2, w39)) else go' (nI e) (nI cn) (nI de) (nI nu) (nI i + nI 1) w39) := by
                    rintro ch e rfl rfl
                    have hch := spCh_bl σ i l
                    have he := spLf_lt σ i hl
                    rw [m_stands hN hM hR hiW, gBi_s, ifb]
                    by_cases q3 : spStands σ i
                    · rw [if_pos q3, if_pos q3]
                      exact nxt _ _ _ _ _ _ hnd hd0 hcn hde he c5 hq1
                    · rw [if_neg q3, if_neg q3, nI_add]
                      by_cases q4 : cn + 1 ≤ 4
                      · have yc := yle (show cn + 1 < 2 ^ 30 by omega) (show 4 < 2 ^ 30 by omega) q4
                        have hi16 : i < 16 := by omega
                        simp only [gG_in hi16 (show 16 < 2 ^ 31 by omega)]
                        rw [if_pos yc, if_pos yc, hq1.2.1.1 22 rfl, hq1.2.1.1 24 rfl, (hM.wl i hiW).1, (hM.wl i hiW).2.2.1, g1, g5]
                        obtain ⟨w2, e2, s2⟩ := x_frightOf hN hq1.2.1 hR g2 hp hn g6 (spCh σ i l)
                        obtain ⟨v2, f2, t2, u2⟩ := m_feels hN (n := n) hM g2 g6 hch
                        have hq2 := hq1.c s2 t2 rfl rfl
                        obtain ⟨v3, f3, t3⟩ := m_byLaw hN hq2.2.2.1 hR (l := nI 122) (high := nI 10) (by decide) ⟨10, by omega, rfl⟩
                        have hq3 := hq2.cm t3 rfl
                        obtain ⟨v4, f4, t4⟩ := m_frightOf hN hq3.2.2.1 hR g2 hp hn g6 hch
                        have hq4 := hq3.cm t4 rfl
                        have c6 : w2.1 50 5 = nI (spLf σ i l) := (congrFun (s2 50 (by decide)) 5).trans c5
                        rw [e2, gBi_s, f2, gBv_s, f3, gBi_s, (hq3.2.2.1.wl i hiW).1, (hq3.2.2.1.wl i hiW).2.2.1, g1, g5, f4, gBi_s, u2]
                        have big : ∀ x, x ≤ 10 → nu * x ≤ de * 10 := fun x hx => Nat.mul_le_mul hnd hx
                        have pw : de * 10 ≤ 10 ^ (cn + 1) := by rw [Nat.pow_succ]; exact Nat.mul_le_mul_right 10 hde
                        by_cases q5 : spFO σ (wg σ i) p n (wr σ i) (spCh σ i l) = (-2)
                        · rw [if_pos q5, if_pos q5, if_pos trivial, nI_mul, nI_mul]
                          exact nxt _ _ _ _ _ _ (big 10 (by omega)) (by omega) q4 pw he c6 hq4
                        · rw [if_neg q5, if_neg q5, if_neg nI_10, hq4.2.1.1 22 rfl, hq4.2.1.1 24 rfl, g1, g5]
                          obtain ⟨w5, e5, s5⟩ := x_tenthsOf hN hq4.2.1 hR (n := n) g2 g6 (spCh σ i l)
                          have hq5 := hq4.cx s5 rfl
                          have c7 : w5.1 50 5 = nI (spLf σ i l) := (congrFun (s5 50 (by decide)) 5).trans c6
                          obtain ⟨x, hx, ex⟩ := spAmt_bl σ (nI 122) (show 10 < 1000 by omega) (spEnvW σ (wg σ i) n (wr σ i) (spCh σ i l))
                          rw [e5, gBi_s, ex, nI_mul, nI_mul]
                          exact nxt _ _ _ _ _ _ (big x (by omega)) (by omega) q4 pw he c7 hq5
                      · have nc := nle (show cn + 1 < 2 ^ 30 by omega) (show 4 < 2 ^ 30 by omega) q4
                        rw [if_neg nc, if_neg nc, gBi_s]
                        exact OpOk.o hq1.rel
                  rw [gG_in (by omega) (by omega), gG_in (by omega) (by omega)]
                  rcases spCh_01 (σ := σ) (i := i) hl with ⟨p1, p2, p3⟩ | ⟨p1, p2, p3, p4⟩
                  · have z := tail (nI 0) l p1.symm p3.symm
                    have sub0 : nI l - nI 0 = nI l := by rw [pk_sub (by omega)]; rfl
                    rw [sub0]
                    by_cases q3 : σ.1 25 i = nI 0
                    · rw [if_pos q3, if_pos trivial]; exact z
                    · rw [if_neg q3, if_pos (yle (by omega) (by omega) (by have := p2.resolve_left q3; omega)), if_pos trivial]; exact z
                  · have z := tail (nI 1) (l - 1) p1.symm p4.symm
                    have sub1 : nI l - nI 1 = nI (l - 1) := pk_sub (by omega)
                    rw [sub1, if_neg p2, if_neg (nle (by omega) (by omega) (by omega)), if_neg nI_10]
                    exact z
                · rw [if_neg q2, if_neg q2]
                  exact nxt _ _ _ _ _ _ hnd hd0 hcn hde hl h5 hq
              · rw [if_neg q1, if_neg q1]
                exact nxt _ _ _ _ _ _ hnd hd0 hcn hde hl h5 hq
          · rw [gU0, hX.1 1 rfl]; exact hC0
        rcases in_or c 2 (by omega) with ⟨k, hk, rfl⟩ | q
        · rw [m_in1 (by omega) (by omega) (by omega), gBi_s, if_neg nI_10, gLet_s, gLet_s, hM.ch]
          rcases (show k = 0 ∨ k = 1 by omega) with rfl | rfl
          · rw [if_pos rfl]
            exact key _ rfl
          · rw [if_neg nI_10, if_pos rfl]
            exact key _ rfl
        · rw [m_in0 (by omega) q (by omega), gBi_s, if_pos rfl, if_neg, if_neg]
          · exact OpOk.o h
          · rintro rfl
            exact absurd q (by decide)
          · rintro rfl
            exact absurd q (by decide)
      · rw [if_neg t, if_neg t]
        exact OpOk.o h
    · rw [x_hasSleeper_o _ q, m_isSleeper_o _ q, gBi_s, gBi_s, if_pos rfl, if_pos rfl]
      exact OpOk.o h
  · rw [x_night0 q, m_night0 q, gBi_s, gBi_s, if_pos rfl, if_pos rfl]
    exact OpOk.o h
