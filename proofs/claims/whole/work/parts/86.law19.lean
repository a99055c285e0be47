/-! CLAUSES -/
def Seg (w v : gT) (k a b x n : Nat) : Prop := a ≤ b ∧ b + k < n ∧ ∃ κ : Nat → Nat, κ a = 0 ∧ κ b = x ∧ (∀ i, a ≤ i → i < b → Sg w v k κ i b) ∧ w.1 44 (b + k) = nI 2
theorem Seg.mono {w v w' v' : gT} {k a b x n n' : Nat} (h : Seg w v k a b x n) (e44 : ∀ i, i < n → w'.1 44 i = w.1 44 i ∧ w'.1 45 i = w.1 45 i) (e18 : ∀ i, i < b → v'.1 18 i = v.1 18 i) (hn : n ≤ n') : Seg w' v' k a b x n' := by
  obtain ⟨h1, h2, κ, h3, h4, h5, h6⟩ := h
  exact ⟨h1, by omega, κ, h3, h4, fun i i1 i2 => Sg_mono (h5 i i1 i2) i2 (Nat.le_refl _) (fun _ _ => rfl) (e44 _ (by omega)).1 (e44 _ (by omega)).2 (e18 i i2), (e44 _ h2).1.trans h6⟩
/-- from what was read to a stretch that is done -/
theorem Seg.mk {w v w3 y3 : gT} {k h pos m pos3 m3 x : Nat} {κ κ3 : Nat → Nat} (ht : Tr k h w v pos m κ w3 y3 pos3 m3 κ3) (h0 : κ m = 0) (hx : κ3 m3 = x) : Seg (addS w3 (m3 + k) (nI 2) (nI 0)) y3 k m m3 x (m3 + k + 1) := by
  obtain ⟨t1, t2, t3, t4, t5, t6⟩ := ht
  refine ⟨t2, by omega, κ3, (t4 m (Nat.le_refl _)).trans h0, hx, fun i i1 i2 => Sg_mono (t5 i i1 i2) i2 (Nat.le_refl _) (fun _ _ => rfl) ?_ ?_ rfl, ?_⟩
  · rw [addS_44, if_neg (by omega)]
  · rw [addS_45, if_neg (by omega)]
  · rw [addS_44, if_pos rfl]
def qC (N : Nat) (v2 v5 : Int32) (w6 : gT) : Option gT := gBv (xX6_takeSign (nI 40) w6) fun (w7 : gT) => gLet (w7.1 40 6) fun (v8 : Int32) => gBv (xX4_readParts N (xX4_readPiece N 9) (nI 1) w7) fun (w9 : gT) => gBv (xX3_addStep (nI 2) (nI 0) w9) fun (w10 : gT) => gBv (xX6_takeSign (nI 41) w10) fun (w11 : gT) => gBv (xX3_addClause v2 v5 v8 w11) fun (w12 : gT) => some w12
theorem d_qC {N : Nat} (hN : 5000 ≤ N) {w : gT} (h : XD w) (hd : DD w) (v2 v5 : Int32) : ∃ w', qC N v2 v5 w = (gBv (xX3_addClause v2 v5 (w.1 40 6) w') fun (w12 : gT) => some w12) ∧ w'.1 19 4 = w.1 19 4 ∧ LX w w' := by
  obtain ⟨w3, e3, f3, g3, l3⟩ := d_parts hN (d_piece hN 8 (nI 1)) w h hd
  obtain ⟨w4, e4, f4, g4, l4⟩ := d_addStep g3 (nI 2) (nI 0)
  have h4 : XD w4 := by
    unfold XD
    rw [f4, f3]
    exact h
  refine ⟨w4, ?_, f4.trans f3, l3.tr l4⟩
  unfold qC
  rw [d_takeSign h (by omega), gBv_s, gLet_s, e3, gBv_s, e4, gBv_s, d_takeSign h4 (by omega), gBv_s]
theorem prem_all {N : Nat} (hN : 5000 ≤ N) {B : Nat → Int32} (hB : ∀ i, Bl (B i) 256) {len k : Nat} {w v : gT} {pos m : Nat} (hI : In B len k 0 0 w (gU (gU v 0 29 (nI 0)) 0 31 (nI 0)) pos m) (v2 v5 : Int32) :
    (∃ w' v' pos' m', qC N v2 v5 w = (gBv (xX3_addClause v2 v5 (nI (m + k)) w') fun (w12 : gT) => some w12) ∧ xX10_readsCondition N v = some (nI 1, v') ∧ XT B w' len pos' ∧ MT B v' len pos' ∧ w'.1 40 6 = nI (m' + k + 1) ∧ v'.1 0 30 = nI m' ∧ pos < pos' ∧ m ≤ m' ∧ m' ≤ pos' ∧ Seg w' v' k m m' 100 (m' + k + 1) ∧ Fr k m 0 w v w' v') ∨
    (∃ w' v', qC N v2 v5 w = (gBv (xX3_addClause v2 v5 (w.1 40 6) w') fun (w12 : gT) => some w12) ∧ xX10_readsCondition N v = some (nI 0, v') ∧ FF w' v' ∧ LX w w' ∧ LM v v') := by
  have hd := hI.dd
  have h5 := hI.1.2.2.2.2.1
  have h6 := hI.1.2.2.2.2.2
  have lm0 : LM v (gU (gU v 0 29 (nI 0)) 0 31 (nI 0)) := (LM.n (by decide)).tr (LM.n (by decide))
  have hmt : MT B v len pos := by
    obtain ⟨q1, q2, q3⟩ := hI.2.1
    refine ⟨?_, ?_, ?_⟩
    · rw [gU1 (by decide), gU1 (by decide)] at q1
      exact q1
    · rw [gU2 (by decide), gU2 (by decide)] at q2
      exact q2
    · rw [gU2 (by decide), gU2 (by decide)] at q3
      exact q3
  by_cases h40 : pkV B len pos = nI 40
  · have hpl := pkV_lt (by omega) h40
    have hI2 := hI.opn (x := 13) hpl (by omega)
    have t0 : Tr k 0 w (gU (gU v 0 29 (nI 0)) 0 31 (nI 0)) pos m (fun _ => 0) (gU w 19 3 (nI (pos + 1))) (opn (gU (gU v 0 29 (nI 0)) 0 31 (nI 0)) 0 0 13 pos) (pos + 1) m (fun _ => 0) := Tr.opn (pos + 1) (by omega)
    have ht2 : Tp 13 (opn (gU (gU v 0 29 (nI 0)) 0 31 (nI 0)) 0 0 13 pos) (0 + 1) := ⟨by omega, 13, 0, by omega, by omega, by omega, opn_19⟩
    have ec : xX10_readsCondition N v = LB N N (opn (gU (gU v 0 29 (nI 0)) 0 31 (nI 0)) 0 0 13 pos) := by
      unfold xX10_readsCondition
      rw [m_here hmt h5 h6, gBi_s, if_pos h40, gLet_s, gLet_s, m_opens hI (by omega), gBi_s, if_neg nI_10]
      rfl
    rw [ec]
    unfold qC
    rw [x_sign1 hI.1 h40, gBv_s, gLet_s, gU1 (by decide), hI.2.2.1]
    rcases parts_all hN (piece_all hN hB len k 9 1 (by omega)) _ _ (pos + 1) m (0 + 1) (fun _ => 0) N hI2 rfl ht2 (by omega) with ⟨w3, v3, u1, y3, h1, pos3, m3, κ3, F3, G3, a1, a2, aj, aj2, a3, a4, a5, a6, a7, a8, a38, a124⟩ | ⟨w3, v3, a1, a2, a3⟩
    · have hd3 := a3.dd
      have h53 := a3.1.2.2.2.2.1
      have hmt3 : MT B v3 len pos3 := aj.mt (aj2.mt a3.2.1)
      obtain ⟨G, rfl⟩ : ∃ G, G3 = G + 1 := ⟨G3 - 1, by omega⟩
      have t03 : Tr k 0 w (gU (gU v 0 29 (nI 0)) 0 31 (nI 0)) pos m (fun _ => 0) w3 y3 pos3 m3 κ3 := t0.tr a4 (by omega)
      have hsg := Seg.mk t03 rfl a5
      rw [a1, gBv_s, a2, addS_x a3.2.2.1 (by omega), gBv_s]
      by_cases c : pkV B len pos3 = nI 41
      · have hpl3 := pkV_lt (by omega) c
        have hm3 := a3.2.2.2.2.2.2.1
        have ecl : AP N F3 (G + 1) v3 = some (nI 1, cls y3 0 0 pos3) := by
          rw [AP_close hmt3 h53 h6 c, lands1 hN aj aj2 (ht2.fr a4.i19), gBv_s, gLet_s, gLet_s, gLet_s, gU2 (by decide), gU2 (by decide), gU0, a3.2.2.2.2.2.1, gU2 (by decide), a3.2.2.2.2.1, gU2 (by decide), gU2 (by decide), a3.2.1.2.2, nI_add, pk_sub (by omega), Nat.add_sub_cancel, if_pos rfl]
          rfl
        have hcl := a3.cls hpl3
        rw [x_sign1 a3.1.addS c, gBv_s, ecl]
        refine Or.inl ⟨_, _, pos3 + 1, m3, rfl, rfl, a3.1.addS.adv hpl3, hcl.2.1, by rw [gU1 (by decide), addS_6], hcl.2.2.2.1, by omega, t03.2.1, by omega, hsg.mono (fun i hi => ⟨by rw [gU1 (by decide)], by rw [gU1 (by decide)]⟩) (fun i hi => by unfold cls; rw [gU1 (by decide), gU1 (by decide), gU1 (by decide)]) (Nat.le_refl _), ?_⟩
        obtain ⟨f1, f2, f3, f4, f5⟩ := t03.2.2.2.2.2
        refine ⟨fun i hi => ?_, fun i hi => ?_, fun j hj => by omega, f4.tr ((addS_lx _ _ _ _).tr (LX.t (by omega))), lm0.tr (f5.tr ?_)⟩
        · rw [gU1 (by decide), gU1 (by decide), addS_44, addS_45, if_neg (by have := t03.2.1; omega), if_neg (by have := t03.2.1; omega)]
          exact f1 i hi
        · have e1 := f2 i hi
          rw [gU1 (by decide), gU1 (by decide)] at e1
          unfold cls
          rw [gU1 (by decide), gU1 (by decide), gU1 (by decide)]
          exact e1
        · exact (LM.n (by decide)).tr ((LM.n (by decide)).tr (LM.n (by decide)))
      · rw [x_sign0 a3.1.addS c, gBv_s, AP_bad hmt3 h53 h6 c a38 a124]
        obtain ⟨f1, f2, f3, f4, f5⟩ := t03.2.2.2.2.2
        exact Or.inr ⟨_, _, rfl, rfl, FF.mk (by omega) (by omega) (by omega), f4.tr ((addS_lx _ _ _ _).tr (LX.t (by omega))), lm0.tr (f5.tr ((aj2.lm.tr aj.lm).tr (LM.n (by decide))))⟩
    · have a3' := t0.ff a3
      obtain ⟨w4, e4, f4, g4, l4⟩ := d_addStep a3'.2.1 (nI 2) (nI 0)
      have hf4 := a3'.x f4 g4 l4
      rw [a1, gBv_s, e4, gBv_s, d_takeSign hf4.1.xd (by omega), gBv_s, a2]
      exact Or.inr ⟨w4, v3, rfl, rfl, hf4.1, hf4.2.2.1, lm0.tr hf4.2.2.2⟩
  · have ec : xX10_readsCondition N v = some (nI 0, gU v 0 17 (fc 1 pos)) := by
      unfold xX10_readsCondition
      rw [m_here hmt h5 h6, gBi_s, if_neg h40, hmt.2.2, wrong_e]
    rw [ec]
    have hff : FF (gU w 19 4 (fc 1 pos)) (gU v 0 17 (fc 1 pos)) := FF.mk (by omega) (by omega) (by omega)
    obtain ⟨w3, e3, f3, g3, l3⟩ := d_parts hN (d_piece hN 8 (nI 1)) _ hff.xd ⟨m + k, by omega, by rw [gU1 (by decide)]; exact hI.2.2.1⟩
    obtain ⟨w4, e4, f4, g4, l4⟩ := d_addStep g3 (nI 2) (nI 0)
    have h4 : XD w4 := by
      unfold XD
      rw [f4, f3]
      exact hff.xd
    unfold qC
    rw [x_sign0 hI.1 h40, gBv_s, gLet_s, e3, gBv_s, e4, gBv_s, d_takeSign h4 (by omega), gBv_s, gU1 (by decide)]
    obtain ⟨q1, q2, q3, q4, q5, q6, q7⟩ := hff
    exact Or.inr ⟨w4, _, rfl, rfl, ⟨q1, q2, q3, q4, q5, (f4.trans f3).trans q6, q7⟩, (LX.t (by omega)).tr (l3.tr l4), LM.n (by decide)⟩
