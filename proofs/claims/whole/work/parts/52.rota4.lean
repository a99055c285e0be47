theorem x_copyW (w : gT) : ∃ w', xX7_copy w = some w' ∧ (∀ c, c ∉ [21, 22, 23, 24, 25, 26] → w'.1 c = w.1 c) ∧ w'.1 21 5 = w.1 27 5 ∧ ∀ i, i < 16 → w'.1 22 i = w.1 28 i ∧ w'.1 23 i = w.1 29 i ∧ w'.1 24 i = w.1 30 i ∧ w'.1 25 i = w.1 31 i ∧ w'.1 26 i = w.1 32 i := by
  unfold xX7_copy
  refine ⟨_, rfl, fun c hc => ?_, rfl, fun i hi => ⟨if_pos hi, if_pos hi, if_pos hi, if_pos hi, if_pos hi⟩⟩
  simp at hc
  unfold gCpy gUA gU
  simp [hc]
theorem o_rota {N : Nat} (hN : 5000 ≤ N) {wx wm : gT} (h : Rel N wx wm) (a : Int32) : OpOk N (xX9_rota N a wx) (xX10_rota N a wm) := by
  obtain ⟨D, hR, h2, hM, h4⟩ := h.nf
  obtain ⟨t, ht, et⟩ := tape_at hR
  have et : wx.1 19 1 = nI t := et
  have em : wm.1 0 14 = nI t := hM.tp.trans et
  have hB : ∀ i, Bl (wx.1 20 i) 256 := hR.2.2.2.1.2
  unfold xX9_rota xX10_rota
  rcases in_or a 161 (by omega) with ⟨len, hl, rfl⟩ | q
  · by_cases l0 : len < 1
    · rw [if_pos (ylt (by omega) (by omega) l0), m_inx (by omega) (by omega) (by omega) (by omega), gBi_s, if_pos rfl]
      exact OpOk.o h
    rw [if_neg (nlt (by omega) (by omega) l0), if_neg (nlt (by omega) (by omega) (by omega)), m_in1 (by omega) (by omega) (by omega), gBi_s, if_neg nI_10, et, em]
    by_cases q : len ≤ t
    · rw [if_pos (yle (by omega) (by omega) q), if_pos (yle (by omega) (by omega) q), gLet_s, gLet_s, gLet_s]
      unfold xX6_open
      rw [gLet_s, gLet_s, gLet_s, gLet_s, gBv_s]
      unfold xX7_readFrom
      rw [gLet_s]
      have fx : (∀ c, c ∉ [19, 27] → (gU (gU (gU (gU (gU wx 19 2 (nI len)) 19 1 (nI 0)) 19 3 (nI 0)) 19 4 (nI 0)) 27 5 (nI 0)).1 c = wx.1 c) ∧ (gU (gU (gU (gU (gU wx 19 2 (nI len)) 19 1 (nI 0)) 19 3 (nI 0)) 19 4 (nI 0)) 27 5 (nI 0)).1 19 1 = nI 0 := by
        refine ⟨fun c hc => ?_, rfl⟩
        simp at hc
        rw [gU1 (by omega), gU1 (by omega), gU1 (by omega), gU1 (by omega), gU1 (by omega)]
      have fm : (∀ c, c ≠ 0 → (gU (gU (gU wm 0 15 (nI 0)) 0 16 (nI len)) 0 20 (nI 0)).1 c = wm.1 c) ∧ ∀ i, i ∉ [15, 16, 20] → (gU (gU (gU wm 0 15 (nI 0)) 0 16 (nI len)) 0 20 (nI 0)).1 0 i = wm.1 0 i := by
        refine ⟨fun c hc => ?_, fun i hi => ?_⟩
        · rw [gU1 hc, gU1 hc, gU1 hc]
        · simp at hi
          rw [gU2 (by omega), gU2 (by omega), gU2 (by omega)]
      have hx : XT (wx.1 20) (gU (gU (gU (gU (gU wx 19 2 (nI len)) 19 1 (nI 0)) 19 3 (nI 0)) 19 4 (nI 0)) 27 5 (nI 0)) len 0 := ⟨fx.1 20 (by decide), rfl, rfl, rfl, by omega, by omega⟩
      have hm : MT (wx.1 20) (gU (gU (gU wm 0 15 (nI 0)) 0 16 (nI len)) 0 20 (nI 0)) len 0 := ⟨fun i => hM.2.2.2.1 i, rfl, rfl⟩
      have hw : WR 0 (gU (gU (gU (gU (gU wx 19 2 (nI len)) 19 1 (nI 0)) 19 3 (nI 0)) 19 4 (nI 0)) 27 5 (nI 0)) (gU (gU (gU wm 0 15 (nI 0)) 0 16 (nI len)) 0 20 (nI 0)) := ⟨by omega, rfl, rfl, fun i hi => by omega⟩
      revert fx fm hx hm hw
      generalize gU (gU (gU (gU (gU wx 19 2 (nI len)) 19 1 (nI 0)) 19 3 (nI 0)) 19 4 (nI 0)) 27 5 (nI 0) = w0
      generalize gU (gU (gU wm 0 15 (nI 0)) 0 16 (nI len)) 0 20 (nI 0) = v0
      intro fx fm hx hm hw
      -- what stands at the end when a fault was told
      have bad : ∀ w v, FF w v → GX w0 w → GM v0 v → OpOk N (gBv (some w) fun w2 => if w2.1 19 4 = nI 0 then gBv (xX7_copy w2) fun w3 => some (w3.1 21 5, w3) else some (w2.1 19 4, w2)) ((fun v9 w10 => gLet (gU w10 0 14 (nI 0)) fun w11 => if v9 = nI 0 then some (w11.1 0 17, w11) else gLet (gU w11 0 19 (w11.1 0 20)) fun w12 => gW1 xX10_rota_b105 N (nI 0) w12) (nI 0) v) := by
        intro w v hff gx gm
        obtain ⟨k, p, k1, k2, k3, e1, e2⟩ := id hff
        dsimp only
        rw [gBv_s, if_neg hff.xd, gLet_s, if_pos rfl, gU2 (by omega), e1, e2]
        refine OpOk.o ?_
        have ew : ∀ c, c ∉ [19, 27, 28, 29, 30, 31, 32] → w.1 c = wx.1 c := fun c hc => (gx.1 c hc).trans (fx.1 c (fun z => hc (by simp at z ⊢; omega)))
        have ev : ∀ c, c ∉ [0, 13, 14, 15, 17] → v.1 c = wm.1 c := fun c hc => (gm.1 c hc).trans (fm.1 c (fun z => hc (by simp [z])))
        have ev0 : ∀ i, i ∉ [15, 16, 17, 18, 20] → v.1 0 i = wm.1 0 i := fun i hi => (gm.2 i (fun z => hi (by simp at z ⊢; omega))).trans (fm.2 i (fun z => hi (by simp at z ⊢; omega)))
        have hr : Rel N (gU wx 19 1 (nI 0)) (gU wm 0 14 (nI 0)) := by
          obtain ⟨R1, R2, R3, ⟨t1, t2⟩, R5⟩ := hR
          obtain ⟨E1, E2, ⟨c1, c2, c3, c4, c5, c6⟩, T⟩ := hM
          exact Rel.mk (D := D) ⟨R1, R2, R3, ⟨⟨0, by omega, rfl⟩, t2⟩, R5⟩ h2 ⟨E1, E2, ⟨c1, c2, c3, c4, rfl, c6⟩, T⟩ h4
        refine hr.sm ⟨fun c hc => ?_, ?_⟩ ⟨fun c hc => ?_, fun i hi => ?_⟩ ?_
        · have hn : c ∉ [19, 27, 28, 29, 30, 31, 32] := fun z => by
            simp at z
            rcases z with rfl | rfl | rfl | rfl | rfl | rfl | rfl <;> cases hc
          rw [ew c hn, gU1 (fun z => by subst z; cases hc)]
        · rw [gU0]; exact gx.2.1.trans fx.2
        · have hn : c ∉ [0, 13, 14, 15, 17] := fun z => by
            simp at z
            rcases z with rfl | rfl | rfl | rfl | rfl <;> cases hc
          have hc0 : c ≠ 0 := fun z => hn (by simp [z])
          rw [gU1 hc0, gU1 hc0, ev c hn]
        · by_cases e : i = 14
          · rw [e, gU0, gU0]
          · rw [gU2 e, gU2 e]
            refine ev0 i (fun z => ?_)
            simp at z
            rcases z with rfl | rfl | rfl | rfl | rfl <;> cases hi
        · rw [gU2 (by omega), gU2 (by omega)]
          exact ev0 0 (by decide)
      have good : ∀ w v n, WR n w v → w.1 19 4 = nI 0 → GX w0 w → GM v0 v → OpOk N (gBv (some w) fun w2 => if w2.1 19 4 = nI 0 then gBv (xX7_copy w2) fun w3 => some (w3.1 21 5, w3) else some (w2.1 19 4, w2)) ((fun v9 w10 => gLet (gU w10 0 14 (nI 0)) fun w11 => if v9 = nI 0 then some (w11.1 0 17, w11) else gLet (gU w11 0 19 (w11.1 0 20)) fun w12 => gW1 xX10_rota_b105 N (nI 0) w12) (nI 1) v) := by
        intro w v n hw h194 gx gm
        obtain ⟨hn, a27, a20, ha⟩ := hw
        dsimp only
        rw [gBv_s, if_pos h194, gLet_s, if_neg nI_10, gLet_s, gU2 (by omega), a20]
        have ew : ∀ c, c ∉ [19, 27, 28, 29, 30, 31, 32] → w.1 c = wx.1 c := fun c hc => (gx.1 c hc).trans (fx.1 c (fun z => hc (by simp at z ⊢; omega)))
        have ev : ∀ c, c ∉ [0, 13, 14, 15, 17] → v.1 c = wm.1 c := fun c hc => (gm.1 c hc).trans (fm.1 c (fun z => hc (by simp [z])))
        have ev0 : ∀ i, i ∉ [15, 16, 17, 18, 20] → v.1 0 i = wm.1 0 i := fun i hi => (gm.2 i (fun z => hi (by simp at z ⊢; omega))).trans (fm.2 i (fun z => hi (by simp at z ⊢; omega)))
        obtain ⟨w3, f3, s3, b21, b22⟩ := x_copyW w
        rw [f3, gBv_s, b21, a27]
        obtain ⟨v3, e3, t3, c3⟩ := m_copyWalks hN (v := gU (gU v 0 14 (nI 0)) 0 19 (nI n)) hn gU0 (fun i hi => by
          rw [gU1 (by omega), gU1 (by omega), ← (ha i hi).1.2.2.2]
          exact (ha i hi).2.2.2.2.1)
        rw [e3]
        refine OpOk.o ?_
        have h191 : w3.1 19 1 = nI 0 := by rw [s3 19 (by decide)]; exact gx.2.1.trans fx.2
        have c3' : ∀ i, i < n → v3.1 10 i = w3.1 22 i ∧ v3.1 11 i = w3.1 23 i ∧ v3.1 12 i = w3.1 24 i ∧ v3.1 16 i = w3.1 25 i := fun i hi => by
          obtain ⟨z1, z2, z3, z4⟩ := c3 i hi
          obtain ⟨y1, y2, y3, y4, -⟩ := b22 i (by omega)
          obtain ⟨⟨m1, m2, m3, m4⟩, -⟩ := ha i hi
          rw [z1, z2, z3, z4, y1, y2, y3, y4, m1, m2, m3, m4, gU1 (by omega), gU1 (by omega), gU1 (by omega), gU1 (by omega), gU1 (by omega), gU1 (by omega), gU1 (by omega), gU1 (by omega)]
          exact ⟨rfl, rfl, rfl, rfl⟩
        have hsp : (w3.1 21 5).toNatClampNeg = n := by rw [b21, a27, nI_clamp (by omega)]
        obtain ⟨R1, R2, R3, ⟨t1, t2⟩, R5⟩ := hR
        obtain ⟨E1, E2, ⟨c1, c2, c4, c5, c6, c7, c8⟩, T, W, L⟩ := hM
        refine ⟨((fun c => if 19 ≤ c ∧ c ≤ 26 ∧ c ≠ 20 then w3.1 c else wx.1 c), D), ⟨R1, R2, ⟨⟨n, by omega, by rw [← a27, ← b21]; rfl⟩, fun i hi => ?_⟩, ⟨⟨0, by omega, h191⟩, t2⟩, R5⟩, ⟨fun c hc => ?_, rfl, h2⟩, EncM.sm (w := ((fun c i => if c = 0 then (if i = 14 then nI 0 else if i = 19 then nI n else wm.1 0 i) else if (10 ≤ c ∧ c ≤ 12) ∨ c = 16 then v3.1 c i else wm.1 c i), wm.2)) ⟨E1, E2, ⟨c1, c2, c4, c5, h191.symm, ?_, c8⟩, T, fun i hi => ?_, L⟩ ⟨fun c hc => ?_, fun i hi => ?_⟩, ?_⟩
        · have hi : i < n := by
            have hi2 : i < (w3.1 21 5).toNatClampNeg := hi
            rw [hsp] at hi2
            exact hi2
          obtain ⟨y1, y2, y3, y4, y5⟩ := b22 i (by omega)
          obtain ⟨-, m5, m6, m7, m8, m9⟩ := ha i hi
          show Bl (w3.1 22 i) 10 ∧ Bl (w3.1 23 i) 7 ∧ Bl (w3.1 24 i) 12 ∧ Bl (w3.1 25 i) 2 ∧ w3.1 26 i = b2i (¬ ∃ k, k < i ∧ w3.1 22 k = w3.1 22 i ∧ w3.1 23 k = w3.1 23 i)
          rw [y1, y2, y3, y4, y5, m9]
          refine ⟨m5, m6, m7, m8, ?_⟩
          by_cases cc : ∃ k, k < i ∧ w.1 28 k = w.1 28 i ∧ w.1 29 k = w.1 29 i
          · rw [b2i_f (not_not_intro cc), b2i_f]
            obtain ⟨k, k1, k2, k3⟩ := cc
            obtain ⟨u1, u2, -⟩ := b22 k (by omega)
            exact not_not_intro ⟨k, k1, by rw [u1]; exact k2, by rw [u2]; exact k3⟩
          · rw [b2i_t cc, b2i_t]
            rintro ⟨k, k1, k2, k3⟩
            obtain ⟨u1, u2, -⟩ := b22 k (by omega)
            rw [u1] at k2
            rw [u2] at k3
            exact cc ⟨k, k1, k2, k3⟩
        · show w3.1 c = if 19 ≤ c ∧ c ≤ 26 ∧ c ≠ 20 then w3.1 c else wx.1 c
          by_cases q2 : 19 ≤ c ∧ c ≤ 26 ∧ c ≠ 20
          · rw [if_pos q2]
          · rw [if_neg q2, s3 c (fun z => q2 (by simp at z; omega))]
            refine ew c (fun z => ?_)
            simp at z
            rcases z with rfl | rfl | rfl | rfl | rfl | rfl | rfl <;> cases hc
        · show nI n = w3.1 21 5
          rw [b21, a27]
        · have hi : i < n := by
            have hi2 : i < (w3.1 21 5).toNatClampNeg := hi
            rw [hsp] at hi2
            exact hi2
          exact c3' i hi
        · by_cases c0 : c = 0
          · subst c0; cases hc
          · by_cases c10 : (10 ≤ c ∧ c ≤ 12) ∨ c = 16
            · funext i
              show _ = if c = 0 then _ else if (10 ≤ c ∧ c ≤ 12) ∨ c = 16 then v3.1 c i else _
              rw [if_neg c0, if_pos c10]
            · funext i
              show _ = if c = 0 then _ else if (10 ≤ c ∧ c ≤ 12) ∨ c = 16 then v3.1 c i else wm.1 c i
              rw [if_neg c0, if_neg c10, t3 c (fun z => c10 (by simp at z; omega)), gU1 c0, gU1 c0, ev c (fun z => by
                simp at z
                rcases z with rfl | rfl | rfl | rfl | rfl <;> cases hc)]
        · show v3.1 0 i = if i = 14 then nI 0 else if i = 19 then nI n else wm.1 0 i
          rw [t3 0 (by decide)]
          by_cases e19 : i = 19
          · rw [e19, gU0, if_neg (by omega), if_pos rfl]
          · by_cases e14 : i = 14
            · rw [e14, gU2 (by omega), gU0, if_pos rfl]
            · rw [gU2 e19, gU2 e14, if_neg e14, if_neg e19]
              refine ev0 i (fun z => ?_)
              simp at z
              rcases z with rfl | rfl | rfl | rfl | rfl <;> cases hi
        · show v3.1 0 0 = wx.1 1 13
          rw [t3 0 (by decide), gU2 (by omega), gU2 (by omega), ev0 0 (by decide)]
          exact h4
      rcases walk_both hN hB hx hm hw with ⟨w1, v1, pos1, e1, e2, hx1, hm1, hw1, hlt, gx1, gm1⟩ | ⟨w1, v1, e1, e2, hff, gx1, gm1⟩
      · rw [e1, gBv_s, gLet_s, e2, gBi_s, gLet_s]
        exact walks_both hN hB hx1 hm1 hw1 (by omega) (it := 0) (by omega) _ (fun t t' => OpOk N (gBv t fun w2 => if w2.1 19 4 = nI 0 then gBv (xX7_copy w2) fun w3 => some (w3.1 21 5, w3) else some (w2.1 19 4, w2)) t') (fun w' v' n' a1 a2 a3 a4 => good w' v' n' a1 a2 (gx1.tr a3) (gm1.tr a4)) (fun w' v' a1 a3 a4 => bad w' v' a1 (gx1.tr a3) (gm1.tr a4))
      · rw [e1, gBv_s, gLet_s, e2, gBi_s, gLet_s]
        obtain ⟨M, rfl⟩ : ∃ M, N = M + 1 := ⟨N - 1, by omega⟩
        have b := bad w1 v1 hff gx1 gm1
        have k1 : gW1 (xX7_readFrom_b12 (M + 1) (fun w4 => gBv (xX6_takeEnd w4) fun w5 => some w5)) (M + 1) (nI 0) w1 = some w1 := by
          rw [gW1_s]
          unfold xX7_readFrom_b12
          rw [if_neg (by decide), d_peek hff.xd, gBi_s, if_neg (by decide)]
          try dsimp only
          rw [d_takeEnd hff.xd, gBv_s]
        have k2 : ∀ k8, gW1 (xX10_rota_b41 (M + 1) k8) (M + 1) (nI 0) v1 = k8 (nI 0) v1 := fun k8 => by
          rw [gW1_s]
          exact if_pos rfl
        rw [k1, k2]
        exact b
    · rw [if_neg (nle (by omega) (by omega) q), if_neg (nle (by omega) (by omega) q)]
      exact OpOk.o h
  · rw [m_in0 (by omega) q (by omega), gBi_s, if_pos rfl]
    by_cases q1 : a < nI 1
    · rw [if_pos q1]; exact OpOk.o h
    · rcases q with q | q
      · exact absurd (lt_nI (by omega) q) q1
      · rw [if_neg q1, if_pos (lt_of_le1 (by omega) q)]; exact OpOk.o h
