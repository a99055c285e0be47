theorem byte_eq (x : Int32) : Int8.toInt32 (Int32.toInt8 (Int8.toInt32 (Int32.toInt8 x))) &&& nI 255 = x &&& nI 255 := by
  refine Int32.toBitVec_inj.mp (BitVec.eq_of_getLsbD_eq fun i hi => ?_)
  have e : ∀ i, i < 32 → (nI 255).toBitVec.getLsbD i = decide (i < 8) := by decide
  rw [Int32.toBitVec_and, Int32.toBitVec_and, BitVec.getLsbD_and, BitVec.getLsbD_and, e i hi]
  by_cases h : i < 8
  · simp [h, BitVec.getLsbD_signExtend, BitVec.getElem_signExtend, hi]
  · simp [h]
theorem tape_at {σ : sT} (hR : Rng σ) : ∃ t, t < 221 ∧ σ.1 19 1 = nI t := hR.2.2.2.1.1
theorem x_push1 (a : Int32) (go : Int32 → gT → Option gT) {v : Nat} (hv : v < 32) {t : Nat} (ht : t < 220) {w : gT} (h : w.1 19 1 = nI t) : xX6_push_b3 a go (nI v) w = go (nI v + (-8)) (gU (gU w 20 t (gShr a (nI v) &&& nI 255)) 19 1 (nI (t + 1))) := by
  unfold xX6_push_b3
  rw [h, if_neg (show ¬ nI v < nI 0 by rw [nI_ltI (by omega) (by omega)]; omega), if_neg (show ¬ nI 220 ≤ nI t by rw [nI_leI (by omega) (by omega)]; omega), gG_in ht (by omega), gLet_s, gLet_s, nI_clamp (by omega), gU1 (by omega), h, nI_add]
theorem m_types1 (a : Int32) (go : Int32 → gT → Option gT) {v : Nat} (hv : v < 4) {t : Nat} (ht : t < 220) {w : gT} (h : w.1 0 14 = nI t) : xX10_types_b2 a go (nI v) w = go (nI v + (-1)) (gU (gU w 9 t (Int8.toInt32 (Int32.toInt8 (Int8.toInt32 (Int32.toInt8 (gShr a (nI (8 * v)))))))) 0 14 (nI (t + 1))) := by
  unfold xX10_types_b2
  rw [h, if_neg (show ¬ nI v < nI 0 by rw [nI_ltI (by omega) (by omega)]; omega), gG_in ht (by omega), gLet_s, gLet_s, nI_clamp (by omega), gU1 (by omega), h, nI_add, nI_mul]
theorem Rel.byte {N : Nat} {wx wm : gT} (h : Rel N wx wm) {t : Nat} (ht : t < 220) {x : Int32} : Rel N (gU (gU wx 20 t (x &&& nI 255)) 19 1 (nI (t + 1))) (gU (gU wm 9 t (Int8.toInt32 (Int32.toInt8 (Int8.toInt32 (Int32.toInt8 x))))) 0 14 (nI (t + 1))) := by
  obtain ⟨D, ⟨R1, R2, R3, ⟨t1, t2⟩, R5⟩, h2, ⟨E1, E2, ⟨c1, c2, c3, c4, c5, c6⟩, T, W⟩, h4⟩ := h.nf
  refine Rel.mk (D := D) ⟨R1, R2, R3, ⟨⟨t + 1, by omega, rfl⟩, fun i => ?_⟩, R5⟩ h2 ⟨E1, E2, ⟨c1, c2, c3, c4, rfl, c6⟩, fun i => ?_, W⟩ h4
  · show Bl (if i = t then x &&& nI 255 else wx.1 20 i) 256
    by_cases e : i = t
    · rw [if_pos e]
      obtain ⟨j, hj, ej⟩ := pk_andE x (m := nI 255) 8 rfl
      exact ⟨j, hj, ej⟩
    · rw [if_neg e]
      exact t2 i
  · show (if i = t then _ else wm.1 9 i) &&& nI 255 = (if i = t then x &&& nI 255 else wx.1 20 i)
    by_cases e : i = t
    · rw [if_pos e, if_pos e]
      exact byte_eq x
    · rw [if_neg e, if_neg e]
      exact T i
theorem gW1_s {α : Type} {f : (Int32 → gT → Option α) → Int32 → gT → Option α} {n : Nat} {x : Int32} {w : gT} : gW1 f (n + 1) x w = f (gW1 f n) x w := rfl
theorem o_push {N : Nat} (hN : 5000 ≤ N) {wx wm : gT} (h : Rel N wx wm) {t : Nat} (ht : t + 4 ≤ 220) (hx : wx.1 19 1 = nI t) (hm : wm.1 0 14 = nI t) (a : Int32) : ∃ wx' wm', xX6_push N a wx = some wx' ∧ xX10_types N a wm = some wm' ∧ Rel N wx' wm' ∧ wx'.1 19 1 = nI (t + 4) ∧ wm'.1 0 14 = nI (t + 4) := by
  obtain ⟨m, rfl⟩ : ∃ m, N = m + 1 + 1 + 1 + 1 + 1 := ⟨N - 5, by omega⟩
  unfold xX6_push xX10_types
  rw [gW1_s, gW1_s, x_push1 a _ (by omega) (show t < 220 by omega) hx, m_types1 a _ (by omega) (show t < 220 by omega) hm]
  have r1 := h.byte (t := t) (by omega) (x := gShr a (nI 24))
  revert r1
  generalize hwx1 : gU (gU wx 20 t (gShr a (nI 24) &&& nI 255)) 19 1 (nI (t + 1)) = wx1
  generalize hwm1 : gU (gU wm 9 t (Int8.toInt32 (Int32.toInt8 (Int8.toInt32 (Int32.toInt8 (gShr a (nI 24))))))) 0 14 (nI (t + 1)) = wm1
  intro r1
  have hx1 : wx1.1 19 1 = nI (t + 1) := by rw [← hwx1, gU0]
  have hm1 : wm1.1 0 14 = nI (t + 1) := by rw [← hwm1, gU0]
  rw [show nI 24 + (-8) = nI 16 by decide, show nI 3 + (-1) = nI 2 by decide]
  rw [gW1_s, gW1_s, x_push1 a _ (by omega) (show t + 1 < 220 by omega) hx1, m_types1 a _ (by omega) (show t + 1 < 220 by omega) hm1]
  have r2 := r1.byte (t := t + 1) (by omega) (x := gShr a (nI 16))
  revert r2
  generalize hwx2 : gU (gU wx1 20 (t + 1) (gShr a (nI 16) &&& nI 255)) 19 1 (nI (t + 1 + 1)) = wx2
  generalize hwm2 : gU (gU wm1 9 (t + 1) (Int8.toInt32 (Int32.toInt8 (Int8.toInt32 (Int32.toInt8 (gShr a (nI 16))))))) 0 14 (nI (t + 1 + 1)) = wm2
  intro r2
  have hx2 : wx2.1 19 1 = nI (t + 1 + 1) := by rw [← hwx2, gU0]
  have hm2 : wm2.1 0 14 = nI (t + 1 + 1) := by rw [← hwm2, gU0]
  rw [show nI 16 + (-8) = nI 8 by decide, show nI 2 + (-1) = nI 1 by decide]
  rw [gW1_s, gW1_s, x_push1 a _ (by omega) (show t + 1 + 1 < 220 by omega) hx2, m_types1 a _ (by omega) (show t + 1 + 1 < 220 by omega) hm2]
  have r3 := r2.byte (t := t + 1 + 1) (by omega) (x := gShr a (nI 8))
  revert r3
  generalize hwx3 : gU (gU wx2 20 (t + 1 + 1) (gShr a (nI 8) &&& nI 255)) 19 1 (nI (t + 1 + 1 + 1)) = wx3
  generalize hwm3 : gU (gU wm2 9 (t + 1 + 1) (Int8.toInt32 (Int32.toInt8 (Int8.toInt32 (Int32.toInt8 (gShr a (nI 8))))))) 0 14 (nI (t + 1 + 1 + 1)) = wm3
  intro r3
  have hx3 : wx3.1 19 1 = nI (t + 1 + 1 + 1) := by rw [← hwx3, gU0]
  have hm3 : wm3.1 0 14 = nI (t + 1 + 1 + 1) := by rw [← hwm3, gU0]
  rw [show nI 8 + (-8) = nI 0 by decide, show nI 1 + (-1) = nI 0 by decide]
  rw [gW1_s, gW1_s, x_push1 a _ (by omega) (show t + 1 + 1 + 1 < 220 by omega) hx3, m_types1 a _ (by omega) (show t + 1 + 1 + 1 < 220 by omega) hm3]
  have r4 := r3.byte (t := t + 1 + 1 + 1) (by omega) (x := gShr a (nI 0))
  revert r4
  generalize hwx4 : gU (gU wx3 20 (t + 1 + 1 + 1) (gShr a (nI 0) &&& nI 255)) 19 1 (nI (t + 1 + 1 + 1 + 1)) = wx4
  generalize hwm4 : gU (gU wm3 9 (t + 1 + 1 + 1) (Int8.toInt32 (Int32.toInt8 (Int8.toInt32 (Int32.toInt8 (gShr a (nI 0))))))) 0 14 (nI (t + 1 + 1 + 1 + 1)) = wm4
  intro r4
  have hx4 : wx4.1 19 1 = nI (t + 1 + 1 + 1 + 1) := by rw [← hwx4, gU0]
  have hm4 : wm4.1 0 14 = nI (t + 1 + 1 + 1 + 1) := by rw [← hwm4, gU0]
  refine ⟨wx4, wm4, ?_, ?_, r4, hx4, hm4⟩
  · rw [gW1_s]
    unfold xX6_push_b3
    rw [if_pos (by decide)]
  · rw [gW1_s]
    unfold xX10_types_b2
    rw [if_pos (by decide)]
theorem o_feed {N : Nat} (hN : 5000 ≤ N) {wx wm : gT} (h : Rel N wx wm) (a b c d e : Int32) : OpOk N (xX9_feed N a b c d e wx) (xX10_feed N a b c d e wm) := by
  obtain ⟨D, hR, h2, hM, h4⟩ := h.nf
  obtain ⟨t, ht, et⟩ := tape_at hR
  have et : wx.1 19 1 = nI t := et
  have em : wm.1 0 14 = nI t := hM.tp.trans et
  unfold xX9_feed xX10_feed xX6_hasSpace
  rw [et, em, nI_add]
  by_cases q : t + 20 ≤ 220
  · rw [if_neg (show ¬ nI 220 < nI (t + 20) by rw [nI_ltI (by omega) (by omega)]; omega), if_pos (show nI (t + 20) ≤ nI 220 by rw [nI_leI (by omega) (by omega)]; omega), gBi_s, if_neg nI_10]
    obtain ⟨x1, m1, e1, f1, r1, ex1, em1⟩ := o_push hN h (t := t) (by omega) et em a
    obtain ⟨x2, m2, e2, f2, r2, ex2, em2⟩ := o_push hN r1 (by omega) ex1 em1 b
    obtain ⟨x3, m3, e3, f3, r3, ex3, em3⟩ := o_push hN r2 (by omega) ex2 em2 c
    obtain ⟨x4, m4, e4, f4, r4, ex4, em4⟩ := o_push hN r3 (by omega) ex3 em3 d
    obtain ⟨x5, m5, e5, f5, r5, ex5, em5⟩ := o_push hN r4 (by omega) ex4 em4 e
    rw [e1, gBv_s, e2, gBv_s, e3, gBv_s, e4, gBv_s, e5, gBv_s, f1, gBv_s, f2, gBv_s, f3, gBv_s, f4, gBv_s, f5, gBv_s, ex5, em5]
    exact OpOk.o r5
  · rw [if_pos (show nI 220 < nI (t + 20) by rw [nI_ltI (by omega) (by omega)]; omega), if_neg (show ¬ nI (t + 20) ≤ nI 220 by rw [nI_leI (by omega) (by omega)]; omega), gBi_s, if_pos rfl]
    exact OpOk.o h
