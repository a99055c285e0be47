theorem x_copyL (w : gT) : ∃ w', xX3_copy w = some w' ∧ (∀ c, c ∉ [33, 34, 35, 36, 37, 38] → w'.1 c = w.1 c) ∧ w'.1 33 3 = w.1 40 3 ∧ w'.1 33 6 = w.1 40 6 ∧ (∀ i, i < 14 → w'.1 34 i = w.1 41 i ∧ w'.1 35 i = w.1 42 i ∧ w'.1 36 i = w.1 43 i) ∧ ∀ i, i < 256 → w'.1 37 i = w.1 44 i ∧ w'.1 38 i = w.1 45 i := by
  unfold xX3_copy
  refine ⟨_, rfl, fun c hc => ?_, rfl, rfl, fun i hi => ⟨if_pos hi, if_pos hi, if_pos hi⟩, fun i hi => ⟨if_pos hi, if_pos hi⟩⟩
  simp at hc
  unfold gCpy gUA gU
  simp [hc]
theorem m_copyC {N : Nat} (hN : 5000 ≤ N) {v : gT} {m : Nat} (hm : m < 220) (h30 : v.1 0 30 = nI m) (k14 : gT → Option (Int32 × gT)) : ∃ v', gW1 (xX10_law_b110 k14) N (nI 0) v = k14 v' ∧ (∀ c, c ∉ [24] → v'.1 c = v.1 c) ∧ ∀ i, i < m → v'.1 24 i = v.1 18 i := by
  refine gW1_ind (fun (o : Option (Int32 × gT)) => ∃ v' : gT, o = k14 v' ∧ (∀ c, c ∉ [24] → v'.1 c = v.1 c) ∧ ∀ i, i < m → v'.1 24 i = v.1 18 i) (fun q x v1 => ∃ k, k ≤ m ∧ x = nI k ∧ q = m - k ∧ (∀ c, c ∉ [24] → v1.1 c = v.1 c) ∧ ∀ i, i < k → v1.1 24 i = v.1 18 i) ?_ N m _ v (by omega) ⟨0, by omega, rfl, rfl, fun _ _ => rfl, fun i hi => by omega⟩
  rintro q go x v1 ⟨k, hk, rfl, rfl, hs, hv⟩ ih
  unfold xX10_law_b110
  rw [hs 0 (by decide), h30]
  by_cases q : m ≤ k
  · rw [if_pos (yle (by omega) (by omega) q)]
    exact ⟨v1, rfl, hs, fun i hi => hv i (by omega)⟩
  · rw [if_neg (nle (by omega) (by omega) q), gG_in (n := 220) (by omega) (by omega), gG_in (n := 220) (by omega) (by omega), gLet_s, nI_clamp (by omega), hs 18 (by decide), nI_add]
    refine ih (m - (k + 1)) _ _ (by omega) ⟨k + 1, by omega, rfl, rfl, fun c hc => ?_, fun i hi => ?_⟩
    · rw [gU1 (by simpa using hc)]
      exact hs c hc
    · rw [gUs]
      by_cases e : i = k
      · rw [if_pos e, e]
      · rw [if_neg e]
        exact hv i (by omega)
theorem m_copyK {N : Nat} (hN : 5000 ≤ N) {v : gT} {n : Nat} (hn : n ≤ 14) (h32 : v.1 0 32 = nI n) : ∃ v', gW1 (xX10_law_b138) N (nI 0) v = some (nI n, v') ∧ (∀ c, c ∉ [25, 26, 27, 28] → v'.1 c = v.1 c) ∧ ∀ i, i < n → v'.1 25 i = v.1 20 i ∧ v'.1 26 i = v.1 21 i ∧ v'.1 27 i = v.1 22 i ∧ v'.1 28 i = v.1 23 i := by
  refine gW1_ind (fun (o : Option (Int32 × gT)) => ∃ v' : gT, o = some (nI n, v') ∧ (∀ c, c ∉ [25, 26, 27, 28] → v'.1 c = v.1 c) ∧ ∀ i, i < n → v'.1 25 i = v.1 20 i ∧ v'.1 26 i = v.1 21 i ∧ v'.1 27 i = v.1 22 i ∧ v'.1 28 i = v.1 23 i) (fun q x v1 => ∃ k, k ≤ n ∧ x = nI k ∧ q = n - k ∧ (∀ c, c ∉ [25, 26, 27, 28] → v1.1 c = v.1 c) ∧ ∀ i, i < k → v1.1 25 i = v.1 20 i ∧ v1.1 26 i = v.1 21 i ∧ v1.1 27 i = v.1 22 i ∧ v1.1 28 i = v.1 23 i) ?_ N n _ v (by omega) ⟨0, by omega, rfl, rfl, fun _ _ => rfl, fun i hi => by omega⟩
  rintro m go x v1 ⟨k, hk, rfl, rfl, hs, hv⟩ ih
  unfold xX10_law_b138
  rw [hs 0 (by decide), h32]
  by_cases q : n ≤ k
  · rw [if_pos (yle (by omega) (by omega) q)]
    exact ⟨v1, rfl, hs, fun i hi => hv i (by omega)⟩
  · have hk16 : k < 14 := by omega
    rw [if_neg (nle (by omega) (by omega) q), gG_in hk16 (by omega), gG_in hk16 (by omega), gLet_s, gG_in hk16 (by omega), gG_in hk16 (by omega), gLet_s, gG_in hk16 (by omega), gG_in hk16 (by omega), gLet_s, gG_in hk16 (by omega), gG_in hk16 (by omega), gLet_s, nI_clamp (by omega), gU1 (by omega), gU1 (by omega), gU1 (by omega), gU1 (by omega), gU1 (by omega), gU1 (by omega), hs 20 (by decide), hs 21 (by decide), hs 22 (by decide), hs 23 (by decide)]
    rw [nI_add]
    refine ih (n - (k + 1)) _ _ (by omega) ⟨k + 1, by omega, rfl, rfl, fun c hc => ?_, fun i hi => ?_⟩
    · have hc2 := hc
      simp at hc2
      rw [gU1 (by omega), gU1 (by omega), gU1 (by omega), gU1 (by omega)]
      exact hs c hc
    · have hh : i ≠ k → v1.1 25 i = v.1 20 i ∧ v1.1 26 i = v.1 21 i ∧ v1.1 27 i = v.1 22 i ∧ v1.1 28 i = v.1 23 i := fun hne => hv i (by omega)
      refine ⟨?_, ?_, ?_, ?_⟩
      · rw [gU1 (by omega), gU1 (by omega), gU1 (by omega), gUs]
        by_cases e : i = k
        · rw [if_pos e, e]
        · rw [if_neg e]; exact (hh e).1
      · rw [gU1 (by omega), gU1 (by omega), gUs, gU1 (by omega)]
        by_cases e : i = k
        · rw [if_pos e, e]
        · rw [if_neg e]; exact (hh e).2.1
      · rw [gU1 (by omega), gUs, gU1 (by omega), gU1 (by omega)]
        by_cases e : i = k
        · rw [if_pos e, e]
        · rw [if_neg e]; exact (hh e).2.2.1
      · rw [gUs, gU1 (by omega), gU1 (by omega), gU1 (by omega)]
        by_cases e : i = k
        · rw [if_pos e, e]
        · rw [if_neg e]; exact (hh e).2.2.2
/-- a stretch means the same to both -/
theorem Seg.both {N : Nat} (hN : 5000 ≤ N) {w v w3 : gT} {s : Nat → Nat → Int32} {code : Nat → Int32} {k a b x n m : Nat} (h : Seg w v k a b x n) (hx : x = 1 ∨ x = 100) (hn : n ≤ 256) (hb : b ≤ m) (hm : m < 220) (h33 : s 33 6 = nI n) (h37 : ∀ i, i < 256 → s 37 i = w.1 44 i ∧ s 38 i = w.1 45 i) (hcode : ∀ i, i < m → code i = v.1 18 i) :
    evX N s (nI (a + k)) (pvD (fun j => (v.1 18 j).toNatClampNeg) a b) ∧ evM N code (nI a) (nI b) (pvD (fun j => (v.1 18 j).toNatClampNeg) a b) ∧ (x = 100 → ∀ e, Bl (pvD (fun j => (v.1 18 j).toNatClampNeg) a b e) 2) := by
  obtain ⟨h1, h2, κ, h3, h4, h5, h6⟩ := h
  have hc : ∀ i, a ≤ i → i < b → TyS (fun j => (v.1 18 j).toNatClampNeg) κ b i ∧ CdX (s, fun _ => 0) (fun j => (v.1 18 j).toNatClampNeg) k i ∧ code i = nI ((v.1 18 i).toNatClampNeg) := fun i i1 i2 => by
    obtain ⟨y, y1, y2, y3⟩ := h5 i i1 i2
    have hyl := P_lt y2
    have ey : (v.1 18 i).toNatClampNeg = y := by rw [y1, nI_clamp (by omega)]
    obtain ⟨g1, g2⟩ := h37 (i + k) (by omega)
    refine ⟨?_, ?_, by rw [hcode i (by omega), ey, y1]⟩
    · unfold TyS at y2 ⊢
      dsimp only
      rw [ey]
      exact y2
    · unfold CdX
      unfold CdC at y3
      dsimp only
      rw [ey, g1, g2]
      exact y3
  have hk : κ b = 1 ∨ κ b = 100 := by rw [h4]; exact hx
  refine ⟨law_evX hN h1 (by omega) h2 hn h33 h3 (fun i i1 i2 => ⟨(hc i i1 i2).1, (hc i i1 i2).2.1⟩) ?_ hk, law_evM hN h1 (by omega) h3 (fun i i1 i2 => ⟨(hc i i1 i2).1, (hc i i1 i2).2.2⟩) hk, fun hx e => pvD_bl h1 h3 (by rw [h4, hx]) (fun i i1 i2 => (hc i i1 i2).1) e⟩
  rw [(h37 (b + k) (by omega)).1]
  exact h6
theorem o_law {N : Nat} (hN : 5000 ≤ N) {wx wm : gT} (h : Rel N wx wm) (a : Int32) : OpOk N (xX9_law N a wx) (xX10_law N a wm) := by
  obtain ⟨D, hR, h2, hM, h4⟩ := h.nf
  obtain ⟨t, ht, et⟩ := tape_at hR
  have et : wx.1 19 1 = nI t := et
  have em : wm.1 0 14 = nI t := hM.tp.trans et
  have hB : ∀ i, Bl (wx.1 20 i) 256 := hR.2.2.2.1.2
  unfold xX9_law xX10_law
  rcases in_or a 201 (by omega) with ⟨len, hl, rfl⟩ | q
  · by_cases l0 : len < 1
    · rw [if_pos (ylt (by omega) (by omega) l0), m_inx (by omega) (by omega) (by omega) (by omega), gBi_s, if_pos rfl]
      exact OpOk.o h
    rw [if_neg (nlt (by omega) (by omega) l0), if_neg (nlt (by omega) (by omega) (by omega)), m_in1 (by omega) (by omega) (by omega), gBi_s, if_neg nI_10, et, em]
    by_cases q : len ≤ t
    · rw [if_pos (yle (by omega) (by omega) q), if_pos (yle (by omega) (by omega) q), gLet_s, gLet_s, gLet_s, gLet_s]
      unfold xX6_open xX4_readLaw xX3_clear
      rw [gLet_s, gLet_s, gLet_s, gLet_s, gBv_s, gLet_s, gLet_s, gBv_s]
      have fx : (∀ c, c ∉ [19, 40] → (gU (gU (gU (gU (gU (gU wx 19 2 (nI len)) 19 1 (nI 0)) 19 3 (nI 0)) 19 4 (nI 0)) 40 3 (nI 0)) 40 6 (nI 0)).1 c = wx.1 c) ∧ (gU (gU (gU (gU (gU (gU wx 19 2 (nI len)) 19 1 (nI 0)) 19 3 (nI 0)) 19 4 (nI 0)) 40 3 (nI 0)) 40 6 (nI 0)).1 19 1 = nI 0 := by
        refine ⟨fun c hc => ?_, rfl⟩
        simp at hc
        rw [gU1 (by omega), gU1 (by omega), gU1 (by omega), gU1 (by omega), gU1 (by omega), gU1 (by omega)]
      have fm : (∀ c, c ≠ 0 → (gU (gU (gU (gU wm 0 15 (nI 0)) 0 16 (nI len)) 0 30 (nI 0)) 0 32 (nI 0)).1 c = wm.1 c) ∧ ∀ i, i ∉ [15, 16, 30, 32] → (gU (gU (gU (gU wm 0 15 (nI 0)) 0 16 (nI len)) 0 30 (nI 0)) 0 32 (nI 0)).1 0 i = wm.1 0 i := by
        refine ⟨fun c hc => ?_, fun i hi => ?_⟩
        · rw [gU1 hc, gU1 hc, gU1 hc, gU1 hc]
        · simp at hi
          rw [gU2 (by omega), gU2 (by omega), gU2 (by omega), gU2 (by omega)]
      have hS : CS (wx.1 20) len (gU (gU (gU (gU (gU (gU wx 19 2 (nI len)) 19 1 (nI 0)) 19 3 (nI 0)) 19 4 (nI 0)) 40 3 (nI 0)) 40 6 (nI 0)) (gU (gU (gU (gU wm 0 15 (nI 0)) 0 16 (nI len)) 0 30 (nI 0)) 0 32 (nI 0)) 0 0 0 0 := ⟨⟨fx.1 20 (by decide), rfl, rfl, rfl, by omega, by omega⟩, ⟨fun i => hM.2.2.2.1 i, rfl, rfl⟩, rfl, rfl, rfl, rfl, by omega, by omega, by omega, by omega, fun i hi => by omega⟩
      revert fx fm hS
      generalize gU (gU (gU (gU (gU (gU wx 19 2 (nI len)) 19 1 (nI 0)) 19 3 (nI 0)) 19 4 (nI 0)) 40 3 (nI 0)) 40 6 (nI 0) = w0
      generalize gU (gU (gU (gU wm 0 15 (nI 0)) 0 16 (nI len)) 0 30 (nI 0)) 0 32 (nI 0) = v0
      intro fx fm hS
      obtain ⟨k9, hk9⟩ : ∃ k9 : Int32 → gT → Option (Int32 × gT), k9 = fun (v10 : Int32) (w11 : gT) => gLet (gU w11 0 14 (nI 0)) fun (w12 : gT) => (if v10 = (nI 0) then some ((w12.1 0 17), w12) else gLet (gU w12 0 33 (w12.1 0 32)) fun (w13 : gT) => gLet (fun (w15 : gT) => gW1 (xX10_law_b138) N (nI 0) w15) fun k14 => gW1 (xX10_law_b110 k14) N (nI 0) w13) := ⟨_, rfl⟩
      -- what stands at the end when a fault was told
      have bad : ∀ w v, FF w v → GX2 w0 w → GM2 v0 v → OpOk N (gBv (some w) fun w2 => if w2.1 19 4 = nI 0 then gBv (xX3_copy w2) fun w3 => some (w3.1 33 3, w3) else some (w2.1 19 4, w2)) (k9 (nI 0) v) := by
        intro w v hff gx gm
        obtain ⟨k, p, k1, k2, k3, e1, e2⟩ := id hff
        rw [hk9]
        dsimp only
        rw [gBv_s, if_neg hff.xd, gLet_s, if_pos rfl, gU2 (by omega), e1, e2]
        refine OpOk.o ?_
        have ew : ∀ c, c ∉ [19, 40, 41, 42, 43, 44, 45] → w.1 c = wx.1 c := fun c hc => (gx.1 c hc).trans (fx.1 c (fun z => hc (by simp at z ⊢; omega)))
        have ev : ∀ c, c ∉ [0, 18, 19, 20, 21, 22, 23] → v.1 c = wm.1 c := fun c hc => (gm.1 c hc).trans (fm.1 c (fun z => hc (by simp [z])))
        have ev0 : ∀ i, i ∉ [15, 16, 17, 18, 29, 30, 31, 32] → v.1 0 i = wm.1 0 i := fun i hi => (gm.2 i (fun z => hi (by simp at z ⊢; omega))).trans (fm.2 i (fun z => hi (by simp at z ⊢; omega)))
        have hr : Rel N (gU wx 19 1 (nI 0)) (gU wm 0 14 (nI 0)) := by
          obtain ⟨R1, R2, R3, ⟨t1, t2⟩, R5⟩ := hR
          obtain ⟨E1, E2, ⟨c1, c2, c3, c4, c5, c6⟩, T⟩ := hM
          exact Rel.mk (D := D) ⟨R1, R2, R3, ⟨⟨0, by omega, rfl⟩, t2⟩, R5⟩ h2 ⟨E1, E2, ⟨c1, c2, c3, c4, rfl, c6⟩, T⟩ h4
        refine hr.sm ⟨fun c hc => ?_, ?_⟩ ⟨fun c hc => ?_, fun i hi => ?_⟩ ?_
        · have hn : c ∉ [19, 40, 41, 42, 43, 44, 45] := fun z => by
            simp at z
            rcases z with rfl | rfl | rfl | rfl | rfl | rfl | rfl <;> cases hc
          rw [ew c hn, gU1 (fun z => by subst z; cases hc)]
        · rw [gU0]; exact gx.2.1.trans fx.2
        · have hn : c ∉ [0, 18, 19, 20, 21, 22, 23] := fun z => by
            simp at z
            rcases z with rfl | rfl | rfl | rfl | rfl | rfl | rfl <;> cases hc
          have hc0 : c ≠ 0 := fun z => hn (by simp [z])
          rw [gU1 hc0, gU1 hc0, ev c hn]
        · by_cases e : i = 14
          · rw [e, gU0, gU0]
          · rw [gU2 e, gU2 e]
            refine ev0 i (fun z => ?_)
            simp at z
            rcases z with rfl | rfl | rfl | rfl | rfl | rfl | rfl | rfl <;> cases hi
        · rw [gU2 (by omega), gU2 (by omega)]
          exact ev0 0 (by decide)
      have good : ∀ w v pos m k c, CS (wx.1 20) len w v pos m k c → GX2 w0 w → GM2 v0 v → OpOk N (gBv (some w) fun w2 => if w2.1 19 4 = nI 0 then gBv (xX3_copy w2) fun w3 => some (w3.1 33 3, w3) else some (w2.1 19 4, w2)) (k9 (nI 1) v) := by
        intro w v pos m k c hS gx gm
        obtain ⟨hx, hm, e6, e30, e3, e32, hc14, hk, hmp, hl2, hcl⟩ := hS
        have h5 := hx.2.2.2.2.1
        rw [hk9]
        dsimp only
        rw [gBv_s, if_pos hx.2.2.2.1, gLet_s, if_neg nI_10, gLet_s, gLet_s, gU2 (by omega), e32]
        have ew : ∀ c, c ∉ [19, 40, 41, 42, 43, 44, 45] → w.1 c = wx.1 c := fun c hc => (gx.1 c hc).trans (fx.1 c (fun z => hc (by simp at z ⊢; omega)))
        have ev : ∀ c, c ∉ [0, 18, 19, 20, 21, 22, 23] → v.1 c = wm.1 c := fun c hc => (gm.1 c hc).trans (fm.1 c (fun z => hc (by simp [z])))
        have ev0 : ∀ i, i ∉ [15, 16, 17, 18, 29, 30, 31, 32] → v.1 0 i = wm.1 0 i := fun i hi => (gm.2 i (fun z => hi (by simp at z ⊢; omega))).trans (fm.2 i (fun z => hi (by simp at z ⊢; omega)))
        obtain ⟨w3, f3, s3, b33, b336, b34, b37⟩ := x_copyL w
        rw [f3, gBv_s, b33, e3]
        obtain ⟨v2, y2, t2, c2⟩ := m_copyC hN (v := gU (gU v 0 14 (nI 0)) 0 33 (nI c)) (m := m) (by omega) (by rw [gU2 (by decide), gU2 (by decide)]; exact e30) (fun (w15 : gT) => gW1 (xX10_law_b138) N (nI 0) w15)
        obtain ⟨v3, y3, t3, c3⟩ := m_copyK hN (v := v2) hc14 (by rw [t2 0 (by decide), gU2 (by decide), gU2 (by decide)]; exact e32)
        rw [y2]
        try dsimp only
        rw [y3]
        refine OpOk.o ?_
        have h191 : w3.1 19 1 = nI 0 := by rw [s3 19 (by decide)]; exact gx.2.1.trans fx.2
        have hsp : (w3.1 33 3).toNatClampNeg = c := by rw [b33, e3, nI_clamp (by omega)]
        have hcode : ∀ i, i < m → v3.1 24 i = v.1 18 i := fun i hi => by
          rw [t3 24 (by decide), c2 i hi, gU1 (by decide), gU1 (by decide)]
        have c3' : ∀ i, i < c → v3.1 25 i = v.1 20 i ∧ v3.1 26 i = v.1 21 i ∧ v3.1 27 i = v.1 22 i ∧ v3.1 28 i = v.1 23 i := fun i hi => by
          obtain ⟨z1, z2, z3, z4⟩ := c3 i hi
          rw [z1, z2, z3, z4, t2 20 (by decide), t2 21 (by decide), t2 22 (by decide), t2 23 (by decide), gU1 (by decide), gU1 (by decide), gU1 (by decide), gU1 (by decide), gU1 (by decide), gU1 (by decide), gU1 (by decide), gU1 (by decide)]
          exact ⟨rfl, rfl, rfl, rfl⟩
        obtain ⟨σ1, hσ1⟩ : ∃ s : Nat → Nat → Int32, s = fun cc => if 33 ≤ cc ∧ cc ≤ 38 then w3.1 cc else if cc = 19 then w3.1 19 else wx.1 cc := ⟨_, rfl⟩
        have sA : ∀ cc, 33 ≤ cc → cc ≤ 38 → σ1 cc = w3.1 cc := fun cc x1 x2 => by rw [hσ1]; exact if_pos ⟨x1, x2⟩
        have s19 : σ1 19 = w3.1 19 := by rw [hσ1]; rfl
        have sB : ∀ cc, ¬ (33 ≤ cc ∧ cc ≤ 38) → cc ≠ 19 → σ1 cc = wx.1 cc := fun cc x1 x2 => by
          rw [hσ1]
          show (if 33 ≤ cc ∧ cc ≤ 38 then w3.1 cc else if cc = 19 then w3.1 19 else wx.1 cc) = _
          rw [if_neg x1, if_neg x2]
        obtain ⟨D1, hD1⟩ : ∃ d : Nat → (Nat → Int32) → Int32, d = fun i => pvD (fun j => (v.1 18 j).toNatClampNeg) (v.1 21 i).toNatClampNeg (v.1 22 i).toNatClampNeg := ⟨_, rfl⟩
        obtain ⟨D2, hD2⟩ : ∃ d : Nat → (Nat → Int32) → Int32, d = fun i => pvD (fun j => (v.1 18 j).toNatClampNeg) (v.1 22 i).toNatClampNeg (v.1 23 i).toNatClampNeg := ⟨_, rfl⟩
        have h336 : σ1 33 6 = nI (m + k) := by rw [sA 33 (by omega) (by omega), b336, e6]
        have h37 : ∀ i, i < 256 → σ1 37 i = w.1 44 i ∧ σ1 38 i = w.1 45 i := fun i hi => by
          rw [sA 37 (by omega) (by omega), sA 38 (by omega) (by omega)]
          exact b37 i hi
        have law : ∀ i, i < c → (σ1 34 i ≠ nI 107 → evX N σ1 (σ1 35 i) (D1 i)) ∧ evX N σ1 (σ1 36 i) (D2 i) ∧ v3.1 25 i = σ1 34 i ∧ (σ1 34 i ≠ nI 107 → evM N (v3.1 24) (v3.1 26 i) (v3.1 27 i) (D1 i)) ∧ evM N (v3.1 24) (v3.1 27 i) (v3.1 28 i) (D2 i) ∧ ∀ e, Bl (D2 i e) 2 := fun i hi => by
          obtain ⟨g1, g2, g3⟩ := b34 i (by omega)
          obtain ⟨z1, z2, z3, z4⟩ := c3' i hi
          obtain ⟨p1, a, b, e, k0, k1, p2, p3, p4, p5, p6, p7, p8, p9, p10⟩ := hcl i hi
          rw [sA 34 (by omega) (by omega), sA 35 (by omega) (by omega), sA 36 (by omega) (by omega), g1, g2, g3, z1, z2, z3, z4, p2, p3, p4, p5, p6, hD1, hD2]
          dsimp only
          rw [p2, p3, p4]
          have ub : (nI b).toNatClampNeg = b := nI_clamp (by omega)
          have ue : (nI e).toNatClampNeg = e := nI_clamp (by omega)
          rw [ub, ue]
          have q8 := p8.both hN (w3 := w3) (Or.inr rfl) (by omega) p10 (by omega) h336 h37 hcode
          have q7 := fun z => (p7 z).both hN (w3 := w3) (Or.inl rfl) (by omega) p9 (by omega) h336 h37 hcode
          have ua : w.1 41 i ≠ nI 107 → (nI a).toNatClampNeg = a := fun z => nI_clamp (by have := (p7 z).1; omega)
          exact ⟨fun z => by rw [ua z]; exact (q7 z).1, q8.1, p1.symm, fun z => by rw [ua z]; exact (q7 z).2.1, q8.2.1, q8.2.2 rfl⟩
        obtain ⟨R1, R2, R3, ⟨t1, t2'⟩, R5, R6, R7⟩ := hR
        obtain ⟨E1, E2, ⟨m1, m2, m3, m4, m5, m6, m7, m8⟩, T, W, L⟩ := hM
        have hspC : ∀ i, i < spC σ1 → i < c := fun i hi => by
          have : spC σ1 = c := by
            unfold spC
            rw [sA 33 (by omega) (by omega), hsp]
          omega
        have hX3 : EncX N (σ1, D1, D2) w3 := by
          refine ⟨fun cc hc => ?_, by rw [show (σ1, D1, D2).1 = σ1 from rfl, s19], fun i hi => ⟨(law i (hspC i hi)).1, (law i (hspC i hi)).2.1⟩⟩
          show w3.1 cc = σ1 cc
          by_cases q33 : 33 ≤ cc ∧ cc ≤ 38
          · rw [sA cc q33.1 q33.2]
          · rw [sB cc q33 (fun z => by subst z; cases hc), s3 cc (fun z => q33 (by simp at z; omega))]
            refine ew cc (fun z => ?_)
            simp at z
            rcases z with rfl | rfl | rfl | rfl | rfl | rfl | rfl <;> cases hc
        have hlawM := fun i hi => law i (hspC i hi)
        have h33c : σ1 33 3 = nI c := by rw [sA 33 (by omega) (by omega), b33, e3]
        have h19c : σ1 19 1 = nI 0 := by rw [s19]; exact h191
        clear law hspC h37 h336 sA sB s19
        subst hσ1
        refine ⟨((fun cc => if 33 ≤ cc ∧ cc ≤ 38 then w3.1 cc else if cc = 19 then w3.1 19 else wx.1 cc), D1, D2), ⟨R1, R2, R3, ⟨⟨0, by omega, h19c⟩, t2'⟩, R5, ⟨c, by omega, h33c⟩, fun i hi e => (hlawM i hi).2.2.2.2.2 e⟩, hX3, EncM.sm (w := ((fun cc i => if cc = 0 then (if i = 14 then nI 0 else if i = 33 then nI c else wm.1 0 i) else if 24 ≤ cc ∧ cc ≤ 28 then v3.1 cc i else wm.1 cc i), wm.2)) ⟨E1, E2, ⟨m1, m2, m3, m4, h19c.symm, m6, h33c.symm, m8⟩, T, W, fun i hi => ⟨(hlawM i hi).2.2.1, (hlawM i hi).2.2.2.1, (hlawM i hi).2.2.2.2.1⟩⟩ ⟨fun cc hc => ?_, fun i hi => ?_⟩, ?_⟩
        · by_cases c0 : cc = 0
          · subst c0; cases hc
          · by_cases c10 : 24 ≤ cc ∧ cc ≤ 28
            · funext i
              show _ = if cc = 0 then _ else if 24 ≤ cc ∧ cc ≤ 28 then v3.1 cc i else _
              rw [if_neg c0, if_pos c10]
            · funext i
              show _ = if cc = 0 then _ else if 24 ≤ cc ∧ cc ≤ 28 then v3.1 cc i else wm.1 cc i
              rw [if_neg c0, if_neg c10, t3 cc (fun z => c10 (by simp at z; omega)), t2 cc (fun z => c10 (by simp at z; omega)), gU1 c0, gU1 c0, ev cc (fun z => by
                simp at z
                rcases z with rfl | rfl | rfl | rfl | rfl | rfl | rfl <;> cases hc)]
        · show v3.1 0 i = if i = 14 then nI 0 else if i = 33 then nI c else wm.1 0 i
          rw [t3 0 (by decide), t2 0 (by decide)]
          by_cases e19 : i = 33
          · rw [e19, gU0, if_neg (by omega), if_pos rfl]
          · by_cases e14 : i = 14
            · rw [e14, gU2 (by omega), gU0, if_pos rfl]
            · rw [gU2 e19, gU2 e14, if_neg e14, if_neg e19]
              refine ev0 i (fun z => ?_)
              simp at z
              rcases z with rfl | rfl | rfl | rfl | rfl | rfl | rfl | rfl <;> cases hi
        · show v3.1 0 0 = wx.1 1 13
          rw [t3 0 (by decide), t2 0 (by decide), gU2 (by omega), gU2 (by omega), ev0 0 (by decide)]
          exact h4
      rcases clause_all hN hB hS with ⟨w1, v1, pos1, m1, k1, e1, e2, hS1, gx1, gm1, hlt⟩ | ⟨w1, v1, e1, e2, hff, gx1, gm1⟩
      · have h51 := hS1.1.2.2.2.2.1
        rw [e1, gBv_s, gLet_s, e2, gBi_s, gLet_s, ← hk9]
        rcases laws_loop hN hB k9 (len - pos1) w1 v1 pos1 m1 k1 (0 + 1) N N 0 rfl hS1 (by omega) (by omega) (by omega) with ⟨w', v', pos', m', k', c', b1, b2, b3, b4, b5⟩ | ⟨w', v', b1, b2, b3, b4, b5⟩
        · have b1' : gW1 (xX4_readLaw_b13 N (fun (w4 : gT) => gBv (xX6_takeEnd w4) fun (w5 : gT) => some w5)) N (nI 0) w1 = some w' := b1
          rw [b1', b2]
          exact good w' v' pos' m' k' c' b3 (gx1.tr b4) (gm1.tr b5)
        · have b1' : gW1 (xX4_readLaw_b13 N (fun (w4 : gT) => gBv (xX6_takeEnd w4) fun (w5 : gT) => some w5)) N (nI 0) w1 = some w' := b1
          rw [b1', b2]
          exact bad w' v' b3 (gx1.tr b4) (gm1.tr b5)
      · rw [e1, gBv_s, gLet_s, e2, gBi_s, gLet_s, ← hk9]
        obtain ⟨M, rfl⟩ : ∃ M, N = M + 1 := ⟨N - 1, by omega⟩
        have k1 : gW1 (xX4_readLaw_b13 (M + 1) (fun (w4 : gT) => gBv (xX6_takeEnd w4) fun (w5 : gT) => some w5)) (M + 1) (nI 0) w1 = some w1 := d_lawLoop hff.xd (nI 0) M
        have k2 : gW1 (xX10_law_b46 (M + 1) k9) (M + 1) (nI 0) v1 = k9 (nI 0) v1 := by
          rw [gW1_s]
          exact if_pos rfl
        rw [k1, k2]
        exact bad w1 v1 hff gx1 gm1
    · rw [if_neg (nle (by omega) (by omega) q), if_neg (nle (by omega) (by omega) q)]
      exact OpOk.o h
  · rw [m_in0 (by omega) q (by omega), gBi_s, if_pos rfl]
    by_cases q1 : a < nI 1
    · rw [if_pos q1]; exact OpOk.o h
    · rcases q with q | q
      · exact absurd (lt_nI (by omega) q) q1
      · rw [if_neg q1, if_pos (lt_of_le1 (by omega) q)]; exact OpOk.o h
