/-- one place of the state told anew -/
def sU (σ : sT) (c j : Nat) (v : Int32) : sT := ((gU (σ.1, fun _ => 0) c j v).1, σ.2)
theorem sU_back (σ : sT) (c j : Nat) (v : Int32) : sU (sU σ c j v) c j (σ.1 c j) = σ := by
  refine Prod.ext (funext fun b => funext fun i => ?_) rfl
  show (if b = c then (if i = j then σ.1 c j else (if b = c then (if i = j then v else σ.1 b i) else σ.1 b i)) else (if b = c then (if i = j then v else σ.1 b i) else σ.1 b i)) = σ.1 b i
  by_cases h : b = c
  · subst h
    by_cases h2 : i = j
    · subst h2; simp
    · simp [h2]
  · simp [h]
theorem sU_X {N : Nat} {σ : sT} {w : gT} (h : EncX N σ w) (j : Nat) (v : Int32) : EncX N (sU σ 6 j v) (gU w 6 j v) := by
  refine ⟨fun c hc => ?_, h.2.1, h.2.2⟩
  funext i
  show (if c = 6 then (if i = j then v else w.1 c i) else w.1 c i) = (if c = 6 then (if i = j then v else σ.1 c i) else σ.1 c i)
  rw [h.1 c hc]
theorem sU_M {N : Nat} {σ : sT} {w : gT} (h : EncM N σ w) (j : Nat) (v : Int32) : EncM N (sU σ 6 j v) (gU w 5 j v) := by
  obtain ⟨⟨e1, e2, e3, e4, e5, e6⟩, E2⟩ := h
  refine ⟨⟨e1, e2, e3, e4, ?_, e6⟩, E2⟩
  funext i
  show (if i = j then v else w.1 5 i) = (if i = j then v else σ.1 6 i)
  rw [e5]
theorem sU_R {σ : sT} (h : Rng σ) {j : Nat} {v : Int32} (hv : Bl v 10) : Rng (sU σ 6 j v) := by
  obtain ⟨⟨r1, r2, r3, r4, r5, r6⟩, R⟩ := h
  exact ⟨⟨r1, r2, r3, r4, bl_if r5 hv, r6⟩, R⟩
def spGain (σ : sT) (j : Nat) : Int32 := if σ.1 6 j = nI 9 then nI 0 else (spWk (sU σ 6 j (σ.1 6 j + nI 1)) 7).1 0 - (spWk σ 7).1 0
theorem spGain_in {σ : sT} (hR : Rng σ) {j : Nat} (hj : j < 10) : -15840 ≤ (spGain σ j).toInt ∧ (spGain σ j).toInt ≤ 15840 := by
  unfold spGain
  obtain ⟨v, hv, ev⟩ := hR.1.2.2.2.2.1 j hj
  have ev : σ.1 6 j = nI v := ev
  split
  · have : (nI 0).toInt = 0 := by decide
    omega
  · rename_i hne
    have hv9 : v ≠ 9 := fun z => hne (by rw [ev, z])
    obtain ⟨a, ha, ea⟩ := spWk_fr hR
    obtain ⟨b, hb, eb⟩ := spWk_fr (sU_R hR (j := j) (v := σ.1 6 j + nI 1) ⟨v + 1, by omega, by rw [ev, nI_add]⟩)
    rw [ea, eb, pk_sub_toInt (by omega) (by omega)]
    omega
theorem x_gain {N : Nat} (hN : 5000 ≤ N) {σ : sT} {w : gT} (hE : EncX N σ w) (hR : Rng σ) {j : Nat} (hj : j < 10) : ∃ w', xX9_gainByMending N (nI j) w = some (spGain σ j, w') ∧ EncX N σ w' := by
  obtain ⟨v, hv, ev⟩ := hR.1.2.2.2.2.1 j hj
  have ev : σ.1 6 j = nI v := ev
  unfold xX9_gainByMending spGain
  rw [gG_in hj (by omega), gLet_s, nI_clamp (by omega), hE.1 6 rfl, ev]
  by_cases q : v = 9
  · rw [if_neg (nlt (by omega) (by omega) (by omega)), if_pos (by rw [q])]
    exact ⟨w, rfl, hE⟩
  · have q9 : ¬ nI v = nI 9 := fun z => q ((nI_eq (by omega) (by omega)).mp z)
    rw [if_pos (ylt (by omega) (by omega) (by omega)), if_neg q9]
    obtain ⟨w1, e1, s1, v1, x1⟩ := x_pass hN hE hR
    have hE1 := hE.sm (s1.toX rfl)
    have hE2 := sU_X hE1 j (nI v + nI 1)
    have hR2 := sU_R hR (j := j) (v := nI v + nI 1) ⟨v + 1, by omega, by rw [nI_add]⟩
    obtain ⟨w3, e3, s3, v3, x3⟩ := x_pass hN hE2 hR2
    have hE3 := hE2.sm (s3.toX rfl)
    have hE4 := sU_X hE3 j (nI v)
    rw [← ev, sU_back] at hE4
    rw [ev] at hE4
    rw [e1, gBv_s, gLet_s, gG_in hj (by omega), gLet_s, e3, gBv_s, gG_in hj (by omega), gLet_s, gU1 (by omega), v1 0 (by omega), v3 0 (by omega)]
    exact ⟨_, rfl, hE4⟩
theorem m_gain {N : Nat} (hN : 5000 ≤ N) {σ : sT} {w : gT} (hE : EncM N σ w) (hR : Rng σ) (hx0 : w.1 0 0 = σ.1 1 13) {j : Nat} (hj : j < 10) : ∃ w', xX10_mendedBy N (nI j) w = some (spGain σ j, w') ∧ EncM N σ w' ∧ w'.1 0 0 = σ.1 1 13 := by
  obtain ⟨v, hv, ev⟩ := hR.1.2.2.2.2.1 j hj
  have ev : σ.1 6 j = nI v := ev
  have e5 : w.1 5 = σ.1 6 := hE.a.2.2.2.2.1
  unfold xX10_mendedBy spGain
  rw [gG_in hj (by omega), nI_clamp (by omega), e5, ev]
  by_cases q : nI v = nI 9
  · rw [if_pos q, if_pos q]
    exact ⟨w, rfl, hE, hx0⟩
  · have q9 : v ≠ 9 := fun z => q (by rw [z])
    rw [if_neg q, if_neg q]
    obtain ⟨w1, e1, s1, v1⟩ := m_laysWeek hN hE hR hx0
    have hE1 := hE.sm (s1.toM rfl)
    have z1 : w1.1 0 0 = σ.1 1 13 := (congrFun (s1 0 (by decide)) 0).trans hx0
    have f1 : w1.1 5 j = nI v := by rw [hE1.a.2.2.2.2.1]; exact ev
    have hE2 := sU_M hE1 j (nI v + nI 1)
    have hR2 := sU_R hR (j := j) (v := nI v + nI 1) ⟨v + 1, by omega, by rw [nI_add]⟩
    obtain ⟨w3, e3, s3, v3⟩ := m_laysWeek hN hE2 hR2 z1
    have hE3 := hE2.sm (s3.toM rfl)
    have z3 : w3.1 0 0 = σ.1 1 13 := (congrFun (s3 0 (by decide)) 0).trans z1
    have f3 : w3.1 5 j = nI v + nI 1 := by rw [hE3.a.2.2.2.2.1]; exact (gU0 : (gU (σ.1, fun _ => 0) 6 j (nI v + nI 1)).1 6 j = nI v + nI 1)
    have f4 : nI v + nI 1 - nI 1 = nI v := by rw [nI_add, pk_sub (by omega), Nat.add_sub_cancel]
    have hE4 := sU_M hE3 j (nI v)
    rw [← ev, sU_back] at hE4
    rw [ev] at hE4
    rw [e1, gBv_s, gLet_s, gG_in hj (by omega), gG_in hj (by omega), gLet_s, f1, e3, gBv_s, gG_in hj (by omega), gG_in hj (by omega), gLet_s, f3, f4, gU1 (by omega), v1 0 (by omega), v3 0 (by omega)]
    exact ⟨_, rfl, hE4, z3⟩
theorem i100000 : ((-100000) : Int32).toInt = -100000 := by decide
theorem o_mended {N : Nat} (hN : 5000 ≤ N) {wx wm : gT} (h : Rel N wx wm) (a b : Int32) : OpOk N (xX9_mended N a b wx) (xX10_mended N a b wm) := by
  obtain ⟨σ, hR, hX, hM, h4⟩ := id h
  have hq : Sq N σ wx wm := ⟨hR, hX, hM, h4⟩
  unfold xX9_mended xX10_mended
  rw [gLet_s]
  try dsimp only
  rw [gLet_s]
  try dsimp only
  by_cases b0 : b = nI 0
  · rw [if_pos b0, if_pos b0]
    have b1 : ¬ b = nI 1 := by rw [b0]; decide
    have b2 : ¬ b = nI 2 := by rw [b0]; decide
    rcases in_or a 10 (by omega) with ⟨g, hg, rfl⟩ | q
    · rw [x_hasGhost _ hg, m_isGhost _ hg, gBi_s, gBi_s, ifb, ifb, hM.gh, hX.1 1 rfl]
      by_cases t : tol (σ.1 1 8) g
      · rw [if_pos t, if_pos t]
        obtain ⟨w1, e1, E1⟩ := x_gain hN hX hR hg
        obtain ⟨v1, f1, F1, z1⟩ := m_gain hN hM hR h4 hg
        rw [e1, f1, gBi_s, gBi_s]
        exact OpOk.o ⟨σ, hR, E1, F1, z1⟩
      · rw [if_neg t, if_neg t]
        try dsimp only
        rw [gLet_s, if_neg b1, if_neg b2]
        exact OpOk.o h
    · rw [x_hasGhost_o _ q, m_isGhost_o _ q, gBi_s, gBi_s, if_pos rfl, if_pos rfl]
      try dsimp only
      rw [gLet_s, if_neg b1, if_neg b2]
      exact OpOk.o h
  · rw [if_neg b0, if_neg b0]
    have key : b = nI 1 ∨ b = nI 2 → OpOk N (gW3 (xX9_mended_b44 N b) N ((-100000) : Int32) ((-100000) : Int32) (nI 0) wx) (if wm.1 0 4 = nI 0 then some ((-100000), wm) else gW3 (xX10_mended_b52 N b) N ((-1) : Int32) (nI 0) (nI 0) wm) := by
      intro hb
      by_cases g0 : wm.1 0 4 = nI 0
      · rw [if_pos g0]
        have s0 : σ.1 1 8 = nI 0 := by rw [← hM.gh]; exact g0
        refine gW3_ind (fun t => OpOk N t (some ((-100000), wm))) (fun m x0 x1 x2 w => ∃ i, i ≤ 10 ∧ x2 = nI i ∧ m = 10 - i ∧ w = wx ∧ x0 = (-100000) ∧ x1 = (-100000)) ?_ N 10 _ _ _ _ (by omega) ⟨0, by omega, rfl, rfl, rfl, rfl, rfl⟩
        rintro m go x0 x1 x2 w ⟨i, hi, rfl, rfl, rfl, rfl, rfl⟩ ih
        unfold xX9_mended_b44
        by_cases q : 10 ≤ i
        · rw [if_pos (yle (by omega) (by omega) q)]
          by_cases b1 : b = nI 1
          · rw [if_pos b1]; exact OpOk.o h
          · rw [if_neg b1]; exact OpOk.o h
        · rw [if_neg (nle (by omega) (by omega) q), gLet_s]
          try dsimp only
          have nt : ¬ tol (σ.1 1 8) i := by
            rw [s0, tol_iff (by omega) (by omega), Nat.zero_div]
            omega
          rw [x_hasGhost _ (by omega), gBi_s, ifb, hX.1 1 rfl, if_neg nt]
          try dsimp only
          rw [gLet_s, if_pos (by decide), nI_add]
          exact ih (10 - (i + 1)) _ _ _ _ (by omega) ⟨i + 1, by omega, rfl, rfl, rfl, rfl, rfl⟩
      · rw [if_neg g0]
        have s0 : σ.1 1 8 ≠ nI 0 := by rw [← hM.gh]; exact g0
        refine gW33 (OpOk N) (fun m x0 x1 x2 w y0 y1 y2 v => ∃ i, i ≤ 10 ∧ x2 = nI i ∧ y2 = nI i ∧ m = 10 - i ∧ Sq N σ w v ∧ ((x0 = (-100000) ∧ x1 = (-100000) ∧ y0 = (-1) ∧ y1 = nI 0 ∧ ∀ p, p < i → ¬ tol (σ.1 1 8) p) ∨ (x0 = y0 ∧ x1 = y1 ∧ Bl x0 10 ∧ -15840 ≤ x1.toInt))) ?_ N 10 _ _ _ _ _ _ _ _ (by omega) ⟨0, by omega, rfl, rfl, rfl, hq, Or.inl ⟨rfl, rfl, rfl, rfl, by omega⟩⟩
        rintro m go go' x0 x1 x2 w y0 y1 y2 v ⟨i, hi, rfl, rfl, rfl, hq, hc2⟩ ih
        unfold xX9_mended_b44 xX10_mended_b52
        by_cases q : 10 ≤ i
        · rw [if_pos (yle (by omega) (by omega) q), if_pos (yle (by omega) (by omega) q)]
          rcases hc2 with ⟨-, -, -, -, hc2⟩ | ⟨rfl, rfl, -⟩
          · exfalso
            obtain ⟨p, hp, tp⟩ := mask_ne hR.1.2.2.2.2.2.2.2.1 s0
            exact hc2 p (by omega) tp
          · by_cases b1 : b = nI 1
            · rw [if_pos b1, if_pos b1]; exact OpOk.o hq.rel
            · rw [if_neg b1, if_neg b1]; exact OpOk.o hq.rel
        · rw [if_neg (nle (by omega) (by omega) q), if_neg (nle (by omega) (by omega) q), gLet_s, gLet_s]
          try dsimp only
          rw [x_hasGhost _ (by omega), m_isGhost _ (by omega), gBi_s, gBi_s, ifb, ifb, hq.2.2.1.gh, hq.2.1.1 1 rfl]
          by_cases t : tol (σ.1 1 8) i
          · rw [if_pos t, if_pos t, gLet_s]
            obtain ⟨w1, e1, E1⟩ := x_gain hN hq.2.1 hR (show i < 10 by omega)
            obtain ⟨v1, f1, F1, z1⟩ := m_gain hN hq.2.2.1 hR hq.2.2.2 (show i < 10 by omega)
            have hq1 : Sq N σ w1 v1 := ⟨hR, E1, F1, z1⟩
            obtain ⟨g1, g2⟩ := spGain_in hR (show i < 10 by omega)
            rw [e1, f1, gBi_s, gBi_s]
            try dsimp only
            rw [gLet_s, nI_add]
            rcases hc2 with ⟨rfl, rfl, rfl, rfl, hc2⟩ | ⟨rfl, rfl, ⟨k, hk, rfl⟩, hb2⟩
            · rw [if_neg (by rw [Int32.le_iff_toInt_le, i100000]; omega), if_pos rfl]
              exact ih (10 - (i + 1)) _ _ _ _ _ _ _ _ (by omega) ⟨i + 1, by omega, rfl, rfl, rfl, hq1, Or.inr ⟨rfl, rfl, ⟨i, by omega, rfl⟩, g1⟩⟩
            · rw [if_neg (nI_m1 (by omega))]
              by_cases q2 : spGain σ i ≤ x1
              · rw [if_pos q2, if_neg (Int32.not_lt.mpr q2)]
                exact ih (10 - (i + 1)) _ _ _ _ _ _ _ _ (by omega) ⟨i + 1, by omega, rfl, rfl, rfl, hq1, Or.inr ⟨rfl, rfl, ⟨k, hk, rfl⟩, hb2⟩⟩
              · rw [if_neg q2, if_pos (Int32.not_le.mp q2)]
                exact ih (10 - (i + 1)) _ _ _ _ _ _ _ _ (by omega) ⟨i + 1, by omega, rfl, rfl, rfl, hq1, Or.inr ⟨rfl, rfl, ⟨i, by omega, rfl⟩, g1⟩⟩
          · rw [if_neg t, if_neg t]
            try dsimp only
            rw [gLet_s, nI_add]
            have c1 : ((-100000) : Int32) ≤ x1 := by
              rw [Int32.le_iff_toInt_le, i100000]
              rcases hc2 with ⟨-, hc2, -⟩ | ⟨-, -, -, hc2⟩
              · rw [hc2, i100000]; omega
              · omega
            rw [if_pos c1]
            refine ih (10 - (i + 1)) _ _ _ _ _ _ _ _ (by omega) ⟨i + 1, by omega, rfl, rfl, rfl, hq, ?_⟩
            rcases hc2 with ⟨h1, h2, h3, h5, hc2⟩ | hc2
            · refine Or.inl ⟨h1, h2, h3, h5, fun p hp => ?_⟩
              by_cases ep : p = i
              · subst ep; exact t
              · exact hc2 p (by omega)
            · exact Or.inr hc2
    by_cases b1 : b = nI 1
    · have k := key (Or.inl b1)
      rw [if_pos b1]
      subst b1
      rw [m_in1 (by omega) (by omega) (by omega), gBi_s, if_neg nI_10]
      exact k
    · rw [if_neg b1]
      by_cases b2 : b = nI 2
      · have k := key (Or.inr b2)
        rw [if_pos b2]
        subst b2
        rw [m_in1 (by omega) (by omega) (by omega), gBi_s, if_neg nI_10]
        exact k
      · rw [if_neg b2]
        have : xX10_in b (nI 1) (nI 2) wm = some (nI 0, wm) := by
          rcases in_or b 3 (by omega) with ⟨c, hc, rfl⟩ | q
          · rcases (show c = 0 ∨ c = 1 ∨ c = 2 by omega) with rfl | rfl | rfl
            · exact absurd rfl b0
            · exact absurd rfl b1
            · exact absurd rfl b2
          · exact m_in0 (by omega) q (by omega) wm
        rw [this, gBi_s, if_pos rfl]
        exact OpOk.o h
