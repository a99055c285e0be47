/-- the ghosts' days off: of both -/
def OffR (σ : sT) (v A : Nat) (w m : gT) : Prop := ∀ j, j < 10 → v / 2 ^ j % 2 = 1 → pcn v j < A → m.1 39 (pcn v j) = nI j ∧ m.1 38 (pcn v j) = w.1 59 j
theorem m_pick {N : Nat} (hN : 5000 ≤ N) {σ : sT} {w m : gT} (hE : EncM N σ m) {v : Nat} {A : Nat} (hA0 : 0 < A) (hA : A ≤ pcn v 10) (hO : OffR σ v A w m) (k25 : Int32 → gT → Option (Int32 × gT)) (Post : Option (Int32 × gT) → Prop) (hP : ∀ b, bst v A (σ.1 8) (w.1 59) 10 = some b → Post (k25 (nI (pcn v b)) m)) : Post (gW2 (xX10_off_b144 (nI A) k25) N (nI 0) (nI 1) m) := by
  have hl10 := pcn_le v 10
  obtain ⟨j0, hj0, tj0, rj0⟩ := rank_ex (v := v) 10 0 (by omega)
  have none_below : ∀ j, pcn v j = 0 → bst v A (σ.1 8) (w.1 59) j = none := fun j hj => by
    rw [bst_skip (a := 0) j (by omega) (fun q _ h2 h3 => ?_)]
    · rfl
    · have := pcn_mono (v := v) (show q + 1 ≤ j by omega)
      rw [pcn_t h3.1] at this
      omega
  refine gW2_ind Post (fun z x0 x1 w1 => ∃ k j b, k ≤ A ∧ 1 ≤ k ∧ z = A - k ∧ x1 = nI k ∧ w1 = m ∧ j ≤ 10 ∧ pcn v j = k ∧ bst v A (σ.1 8) (w.1 59) j = some b ∧ x0 = nI (pcn v b)) ?_ N (A - 1) _ _ m (by omega) ⟨1, j0 + 1, j0, by omega, by omega, rfl, rfl, rfl, by omega, by rw [pcn_t tj0, rj0], bst_none ⟨tj0, by omega⟩ (none_below j0 rj0), by rw [rj0]⟩
  · rintro z go x0 x1 w1 ⟨k, j, b, hkA, hk1, rfl, rfl, rfl, hj, rj, hb, rfl⟩ ih
    obtain ⟨b1, b2, b3⟩ := bst_in j b hb
    obtain ⟨o1, o2⟩ := hO b (by omega) b2 b3
    unfold xX10_off_b144
    by_cases q : A ≤ k
    · rw [if_pos (yle (by omega) (by omega) q)]
      refine hP b ?_
      rw [bst_skip 10 hj (fun p h1 h2 h3 => ?_)]
      · exact hb
      · have := pcn_mono (v := v) h1
        omega
    · obtain ⟨i, hi, ti, ri⟩ := rank_ex (v := v) 10 k (by omega)
      obtain ⟨p1, p2⟩ := hO i hi ti (by omega)
      rw [ri] at p1 p2
      have hji : j ≤ i := by
        apply Classical.byContradiction
        intro hn
        have := pcn_mono (v := v) (show i + 1 ≤ j by omega)
        rw [pcn_t ti] at this
        omega
      have hbi : bst v A (σ.1 8) (w.1 59) i = some b := by
        rw [bst_skip i hji (fun p h1 h2 h3 => ?_)]
        · exact hb
        · have z1 := pcn_mono (v := v) h1
          have z2 := pcn_mono (v := v) (show p + 1 ≤ i by omega)
          rw [pcn_t h3.1] at z2
          omega
      have hs := bst_some (y := σ.1 8) (f := w.1 59) ⟨ti, by omega⟩ hbi
      rw [if_neg (nle (by omega) (by omega) q), gLet_s, gG_in (by omega) (by omega), nI_clamp (by omega), p1, gG_in hi (by omega), gG_in (n := 10) (by omega) (by omega), gG_in (n := 10) (by omega) (by omega), nI_clamp (n := pcn v b) (by omega), o1, gG_in (n := 10) (by omega) (by omega), gG_in (n := 10) (by omega) (by omega), nI_clamp (n := i) (by omega), nI_clamp (n := b) (by omega), o2, p2, hE.a.2.2.2.2.2.2, nI_add]
      by_cases c : σ.1 8 i * (w.1 59 b + nI 1) ≤ σ.1 8 b * (w.1 59 i + nI 1)
      · rw [if_pos c]
        rw [if_pos c] at hs
        exact ih (A - (k + 1)) _ _ _ (by omega) ⟨k + 1, i + 1, b, by omega, by omega, rfl, rfl, rfl, by omega, by rw [pcn_t ti, ri], hs, rfl⟩
      · rw [if_neg c]
        rw [if_neg c] at hs
        exact ih (A - (k + 1)) _ _ _ (by omega) ⟨k + 1, i + 1, i, by omega, by omega, rfl, rfl, rfl, by omega, by rw [pcn_t ti, ri], hs, by rw [ri]⟩
theorem m_find {N : Nat} (hN : 5000 ≤ N) {σ : sT} {w m : gT} {v A : Nat} (hA : A ≤ pcn v 10) (hO : OffR σ v A w m) {g : Nat} (hg : g < 10) (tg : v / 2 ^ g % 2 = 1) (rg : pcn v g < A) : gW2 (xX10_off_b235 (nI A) (nI g)) N (nI 0) (nI 0) m = some (w.1 59 g, m) := by
  have hl10 := pcn_le v 10
  refine gW2_ind (fun t => t = some (w.1 59 g, m)) (fun z x0 x1 w1 => ∃ k, k ≤ A ∧ z = A - k ∧ x1 = nI k ∧ w1 = m ∧ (pcn v g < k → x0 = w.1 59 g)) ?_ N A _ _ m (by omega) ⟨0, by omega, rfl, rfl, rfl, by omega⟩
  rintro z go x0 x1 w1 ⟨k, hk, rfl, rfl, rfl, hx⟩ ih
  unfold xX10_off_b235
  by_cases q : A ≤ k
  · rw [if_pos (yle (by omega) (by omega) q), hx (by omega)]
  · obtain ⟨i, hi, ti, ri⟩ := rank_ex (v := v) 10 k (by omega)
    obtain ⟨p1, p2⟩ := hO i hi ti (by omega)
    rw [ri] at p1 p2
    rw [if_neg (nle (by omega) (by omega) q), gLet_s, gG_in (by omega) (by omega), nI_clamp (by omega), p1]
    try dsimp only
    by_cases e : nI i = nI g
    · have e2 : i = g := (nI_eq (by omega) (by omega)).mp e
      subst e2
      rw [if_pos e, gG_in (by omega) (by omega), gLet_s, p2, nI_add]
      exact ih (A - (k + 1)) _ _ _ (by omega) ⟨k + 1, by omega, rfl, rfl, rfl, fun _ => rfl⟩
    · rw [if_neg e, nI_add]
      refine ih (A - (k + 1)) _ _ _ (by omega) ⟨k + 1, by omega, rfl, rfl, rfl, fun hlt => hx ?_⟩
      have : pcn v g ≠ k := fun z => e (by rw [rank_inj tg ti (z.trans ri.symm)])
      omega
theorem x_fill59 {N : Nat} (hN : 5000 ≤ N) (u : Int32) (w : gT) : ∃ w', xJ7_fill_53178 N u w = some w' ∧ SmC [59] w w' ∧ ∀ i, i < 10 → w'.1 59 i = u := by
  unfold xJ7_fill_53178
  refine gW1_ind (fun t => ∃ w', t = some w' ∧ SmC [59] w w' ∧ ∀ i, i < 10 → w'.1 59 i = u) (fun m a w1 => ∃ i, i ≤ 10 ∧ a = nI i ∧ m = 10 - i ∧ SmC [59] w w1 ∧ ∀ j, j < i → w1.1 59 j = u) ?_ N 10 _ w (by omega) ⟨0, by omega, rfl, by omega, SmC.rf, by omega⟩
  rintro m go a w1 ⟨i, hi, rfl, rfl, hs, hv⟩ ih
  unfold xJ7_fill_53178_b5
  simp (disch := omega) only [nI_add, nI_mul, nI_clamp, nI_leI, nI_ltI, nI_eq, pk_sub, pk_div, nI_rem, gG_in]
  by_cases h : 10 ≤ i
  · rw [if_pos h]
    exact ⟨w1, rfl, hs, fun j hj => hv j (by omega)⟩
  · rw [if_neg h]
    refine ih (10 - (i + 1)) _ _ (by omega) ⟨i + 1, by omega, rfl, rfl, hs.tr (SmC.U (by decide)), fun j hj => ?_⟩
    rw [gUs]
    by_cases e : j = i
    · rw [if_pos e]
    · rw [if_neg e]; exact hv j (by omega)
theorem m_lists {N : Nat} (hN : 5000 ≤ N) {σ : sT} {m : gT} (hE : EncM N σ m) {v : Nat} (hv : v < 1024) (h8 : σ.1 1 8 = nI v) {A : Nat} (hA : A ≤ pcn v 10) {g : Nat} (hg : g < 10) (tg : v / 2 ^ g % 2 = 1) (k9 : Int32 → gT → Option (Int32 × gT)) (Post : Option (Int32 × gT) → Prop) (hP : ∀ m', SmC [38, 39] m m' → (∀ j, j < 10 → v / 2 ^ j % 2 = 1 → pcn v j < A → m'.1 39 (pcn v j) = nI j ∧ m'.1 38 (pcn v j) = nI 0) → Post (k9 (b2i (pcn v g < A)) m')) : Post (gW3 (xX10_off_b49 N (nI A) (nI g) k9) N (nI 0) (nI 0) (nI 0) m) := by
  have hl10 := pcn_le v 10
  refine gW3_ind Post (fun z x0 x1 x2 m1 => ∃ j, j ≤ 10 ∧ z = 10 - j ∧ pcn v j ≤ A ∧ x0 = nI (pcn v j) ∧ x1 = b2i (g < j) ∧ x2 = nI j ∧ SmC [38, 39] m m1 ∧ ∀ i, i < j → v / 2 ^ i % 2 = 1 → m1.1 39 (pcn v i) = nI i ∧ m1.1 38 (pcn v i) = nI 0) ?_ N 10 _ _ _ m (by omega) ⟨0, by omega, rfl, Nat.zero_le _, rfl, (b2i_f (by omega)).symm, rfl, SmC.rf, by omega⟩
  rintro z go x0 x1 x2 m1 ⟨j, hj, rfl, hjA, rfl, rfl, rfl, hs, hl⟩ ih
  have hE1 : EncM N σ m1 := hE.sm (hs.toM rfl)
  have fin : (A ≤ pcn v j ∨ 10 ≤ j) → Post (k9 (b2i (g < j)) m1) := by
    intro hc
    have e : b2i (g < j) = b2i (pcn v g < A) := by
      by_cases gj : g < j
      · have := pcn_mono (v := v) (show g + 1 ≤ j by omega)
        rw [pcn_t tg] at this
        rw [b2i_t gj, b2i_t (by omega)]
      · have hA2 : A ≤ pcn v j := hc.resolve_right (by omega)
        have := pcn_mono (v := v) (show j ≤ g by omega)
        rw [b2i_f gj, b2i_f (by omega)]
    rw [e]
    refine hP m1 hs (fun i hi ti ri => hl i ?_ ti)
    rcases hc with hc | hc
    · apply Classical.byContradiction
      intro hn
      have := pcn_mono (v := v) (show j ≤ i by omega)
      omega
    · omega
  unfold xX10_off_b49
  by_cases q : 10 ≤ j
  · rw [if_pos (yle (by omega) (by omega) q)]
    exact fin (Or.inr q)
  · rw [if_neg (nle (by omega) (by omega) q)]
    have hlj := pcn_le v j
    by_cases q2 : A ≤ pcn v j
    · rw [if_pos (yle (by omega) (by omega) q2)]
      exact fin (Or.inl q2)
    · rw [if_neg (nle (by omega) (by omega) q2), gLet_s]
      try dsimp only
      rw [m_isGhost _ (by omega), gBi_s, ifb, hE1.gh, h8]
      have ht := tol_iff (v := v) (p := j) (by omega) (by omega)
      by_cases t : tol (nI v) j
      · have tj := ht.mp t
        rw [if_pos t, gLet_s]
        try dsimp only
        simp only [gLet_s]
        rw [gG_in (by omega) (by omega), gG_in (by omega) (by omega), nI_clamp (by omega)]
        simp only [nI_add]
        have s2 : SmC [38, 39] m1 (gU (gU m1 39 (pcn v j) (nI j)) 38 (pcn v j) (nI 0)) := (SmC.U (by decide)).tr (SmC.U (by decide))
        have key : ∀ x, x = b2i (g < j + 1) → Post (go (nI (pcn v j + 1)) x (nI (j + 1)) (gU (gU m1 39 (pcn v j) (nI j)) 38 (pcn v j) (nI 0))) := by
          rintro x rfl
          refine ih (10 - (j + 1)) _ _ _ _ (by omega) ⟨j + 1, by omega, rfl, by rw [pcn_t tj]; omega, by rw [pcn_t tj], rfl, rfl, hs.tr s2, fun i hi ti => ?_⟩
          by_cases e : i = j
          · subst e
            rw [gU1 (by omega), gU0, gU0]
            exact ⟨rfl, rfl⟩
          · have hne : pcn v i ≠ pcn v j := fun zz => e (rank_inj ti tj zz)
            rw [gU1 (by omega), gU2 hne, gU2 hne, gU1 (by omega)]
            exact hl i (by omega) ti
        by_cases gj : g < j
        · rw [b2i_t gj, if_neg nI_10]
          exact key _ (b2i_t (by omega)).symm
        · rw [b2i_f gj, if_pos rfl]
          by_cases e : nI j = nI g
          · have e2 : j = g := (nI_eq (by omega) (by omega)).mp e
            rw [if_pos e]
            exact key _ (b2i_t (by omega)).symm
          · have e2 : j ≠ g := fun zz => e (by rw [zz])
            rw [if_neg e]
            exact key _ (b2i_f (by omega)).symm
      · have tj : ¬ v / 2 ^ j % 2 = 1 := fun zz => t (ht.mpr zz)
        rw [if_neg t]
        try dsimp only
        rw [nI_add]
        have e2 : j ≠ g := fun zz => tj (zz ▸ tg)
        refine ih (10 - (j + 1)) _ _ _ _ (by omega) ⟨j + 1, by omega, rfl, by rw [pcn_f tj]; omega, by rw [pcn_f tj], ?_, rfl, hs, fun i hi ti => ?_⟩
        · by_cases gj : g < j
          · rw [b2i_t gj, b2i_t (by omega)]
          · rw [b2i_f gj, b2i_f (by omega)]
        · by_cases e : i = j
          · subst e; exact absurd ti tj
          · exact hl i (by omega) ti
theorem in_01 (a l h : Int32) (w : gT) : xX10_in a l h w = some (nI 0, w) ∨ xX10_in a l h w = some (nI 1, w) := by
  unfold xX10_in
  split
  · exact Or.inl rfl
  · split
    · exact Or.inl rfl
    · exact Or.inr rfl
theorem o_off {N : Nat} (hN : 5000 ≤ N) {wx wm : gT} (h : Rel N wx wm) (a b c : Int32) : OpOk N (xX9_off N a b c wx) (xX10_off N a b c wm) := by
  obtain ⟨σ, hR, hX, hM, h4⟩ := id h
  have hq : Sq N σ wx wm := ⟨hR, hX, hM, h4⟩
  obtain ⟨v, hv, ev⟩ := hR.1.2.2.2.2.2.2.2.1
  have ev : σ.1 1 8 = nI v := ev
  have hl10 := pcn_le v 10
  unfold xX9_off xX10_off
  rw [hM.gh, ev, m_bits hN hv, gBi_s]
  have bad : ∀ {t : gT → Option (Int32 × gT)}, xX10_isGhost c wm = some (nI 0, wm) → OpOk N (some (-1, wx)) (gBi (xX10_in a (nI 1) (nI (pcn v 10)) wm) fun v3 w4 => if v3 = nI 0 then some (-1, w4) else gBi (xX10_in b (nI 1) (nI 366) w4) fun v5 w6 => if v5 = nI 0 then some (-1, w6) else gBi (xX10_isGhost c w6) fun v7 w8 => if v7 = nI 0 then some (-1, w8) else t w8) := by
    intro t hg
    rcases in_01 a (nI 1) (nI (pcn v 10)) wm with e | e
    · rw [e, gBi_s, if_pos rfl]; exact OpOk.o h
    · rw [e, gBi_s, if_neg nI_10]
      rcases in_01 b (nI 1) (nI 366) wm with e | e
      · rw [e, gBi_s, if_pos rfl]; exact OpOk.o h
      · rw [e, gBi_s, if_neg nI_10, hg, gBi_s, if_pos rfl]; exact OpOk.o h
  rcases in_or c 10 (by omega) with ⟨g, hg, rfl⟩ | q
  · have ht := tol_iff (v := v) (p := g) (by omega) (by omega)
    have e1 := x_hasGhost wx hg
    rw [hX.1 1 rfl, ev] at e1
    have e2 := m_isGhost wm hg
    rw [hM.gh, ev] at e2
    by_cases t : tol (nI v) g
    · have tg := ht.mp t
      rw [b2i_t t] at e1 e2
      rw [e1, gBi_s, if_neg nI_10, hX.1 1 rfl, ev, x_bitCount hv]
      rcases in_or a 11 (by omega) with ⟨A, hA, rfl⟩ | q
      · by_cases c1 : A < 1
        · rw [if_pos (ylt (by omega) (by omega) c1), m_inx (by omega) (by omega) (by omega) (by omega), gBi_s, if_pos rfl]
          exact OpOk.o h
        · rw [if_neg (nlt (by omega) (by omega) c1), gBi_s]
          by_cases c2 : pcn v 10 < A
          · rw [if_pos (ylt (by omega) (by omega) c2), m_inx (by omega) (by omega) (by omega) (by omega), gBi_s, if_pos rfl]
            exact OpOk.o h
          · rw [if_neg (nlt (by omega) (by omega) c2), m_in1 (by omega) (by omega) (by omega), gBi_s, if_neg nI_10]
            rcases in_or b 367 (by omega) with ⟨B, hB, rfl⟩ | q
            · by_cases c3 : B < 1
              · rw [if_pos (ylt (by omega) (by omega) c3), m_inx (by omega) (by omega) (by omega) (by omega), gBi_s, if_pos rfl]
                exact OpOk.o h
              · rw [if_neg (nlt (by omega) (by omega) c3), if_pos (yle (by omega) (by omega) (by omega)), m_in1 (by omega) (by omega) (by omega), gBi_s, if_neg nI_10, e2, gBi_s, if_neg nI_10, x_rankOf hv (by rw [hX.1 1 rfl]; exact ev) hg, gBi_s, gLet_s]
                have hlg := pcn_le v g
                refine m_lists hN hM hv ev (by omega) hg tg _ (fun t => OpOk N _ t) (fun m1 s1 hl => ?_)
                by_cases c4 : pcn v g < A
                · rw [if_pos (ylt (by omega) (by omega) c4), b2i_t c4, if_neg nI_10, gLet_s]
                  obtain ⟨w1, f1, t1, z1⟩ := x_fill59 hN (nI 0) wx
                  rw [f1, gBv_s]
                  have hq1 := hq.c t1 s1 rfl rfl
                  have hO : OffR σ v A w1 m1 := fun j hj tj rj => by
                    rw [z1 j hj]
                    exact hl j hj tj rj
                  refine gW11 (OpOk N) (fun z x w y m => ∃ i, i ≤ B ∧ x = nI i ∧ y = nI i ∧ z = B - i ∧ Sq N σ w m ∧ OffR σ v A w m) ?_ N B _ _ _ _ (by omega) ⟨0, by omega, rfl, rfl, rfl, hq1, hO⟩
                  rintro z go go' x w y m ⟨i, hi, rfl, rfl, rfl, hq2, hO2⟩ ih
                  unfold xX9_off_b70 xX10_off_b132
                  by_cases c5 : B ≤ i
                  · rw [if_pos (yle (by omega) (by omega) c5), if_pos (yle (by omega) (by omega) c5), gG_in hg (by omega), nI_clamp (by omega)]
                    try dsimp only
                    rw [m_find hN (by omega) hO2 hg tg c4]
                    exact OpOk.o hq2.rel
                  · rw [if_neg (nle (by omega) (by omega) c5), if_neg (nle (by omega) (by omega) c5), gLet_s, x_nextOff hN hq2.2.1 hv ev (by omega), gBi_s]
                    refine m_pick hN hq2.2.2.1 (by omega) (by omega) hO2 _ (fun t => OpOk N _ t) (fun o ho => ?_)
                    obtain ⟨o1, o2, o3⟩ := bst_in 10 o ho
                    have hlo := pcn_le v o
                    rw [ho]
                    have eg : (some o).getD 0 = o := rfl
                    rw [eg, gG_in o1 (by omega), gG_in o1 (by omega), gG_in (n := 10) (by omega) (by omega), gG_in (n := 10) (by omega) (by omega), gLet_s, gLet_s, nI_clamp (by omega), nI_clamp (by omega), (hO2 o o1 o2 o3).2, nI_add]
                    have hq3 : Sq N σ (gU w 59 o (w.1 59 o + nI 1)) (gU m 38 (pcn v o) (w.1 59 o + nI 1)) := hq2.c (cs := [59]) (ds := [38]) (SmC.U (by decide)) (SmC.U (by decide)) rfl rfl
                    refine ih (B - (i + 1)) _ _ _ _ (by omega) ⟨i + 1, by omega, rfl, rfl, rfl, hq3, fun j hj tj rj => ?_⟩
                    obtain ⟨y1, y2⟩ := hO2 j hj tj rj
                    rw [gU1 (by omega)]
                    refine ⟨y1, ?_⟩
                    by_cases e : j = o
                    · subst e; rw [gU0, gU0]
                    · rw [gU2 e, gU2 (fun zz => e (rank_inj tj o2 zz))]
                      exact y2
                · rw [if_neg (nlt (by omega) (by omega) c4), b2i_f c4, if_pos rfl]
                  exact OpOk.o (hq.cm s1 rfl).rel
            · rw [m_in0 (by omega) q (by omega), gBi_s, if_pos rfl]
              rcases q with q | q
              · rw [if_pos (lt_nI (by omega) q)]; exact OpOk.o h
              · rw [if_neg (ge_nlt (l := 1) (by omega) (by omega) q), if_neg (Int32.not_le.mpr (lt_of_le1 (by omega) q))]
                exact OpOk.o h
      · rw [m_in0 (by omega) (out_le (l := pcn v 10 + 1) q (by omega) (by omega)) (by omega), gBi_s, gBi_s, if_pos rfl]
        rcases q with q | q
        · rw [if_pos (lt_nI (by omega) q)]; exact OpOk.o h
        · rw [if_neg (ge_nlt (l := 1) (by omega) (by omega) q), if_pos (lt_of_le1 (by omega) (ge_nI (l := pcn v 10 + 1) (by omega) (by omega) q))]
          exact OpOk.o h
    · rw [b2i_f t] at e1 e2
      rw [e1, gBi_s, if_pos rfl]
      exact bad e2
  · rw [x_hasGhost_o _ q, gBi_s, if_pos rfl]
    exact bad (m_isGhost_o _ q)
