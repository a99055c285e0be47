theorem gBiBv {X : Option gT} {f : Int32 → gT → Option (Int32 × gT)} : gBi (gBv X fun (w10 : gT) => some (nI 1, w10)) f = gBv X fun (w : gT) => f (nI 1) w := by
  cases X <;> rfl
theorem piece_step {N : Nat} (hN : 5000 ≤ N) {B : Nat → Int32} (hB : ∀ i, Bl (B i) 256) {len k : Nat} {rc : Int32 → gT → Option gT} {o : Nat} (hf : o < 6 → PieceS N B len k rc (o + 1)) : PieceS N B len k (xX4_readPieceB N rc) o := by
  intro w v pos m h κ F hI hk ht hF
  have hd := hI.dd
  have hhp := hI.2.2.2.2.2.2.2.1
  have ho6 := hI.2.2.2.2.2.2.2.2.2.2
  have h5 := hI.1.2.2.2.2.1
  have h6 := hI.1.2.2.2.2.2
  obtain ⟨F, rfl⟩ : ∃ F', F = F' + 1 := ⟨F - 1, by omega⟩
  unfold xX4_readPieceB
  rw [x_peek hI.1, gBi_s]
  by_cases h33 : pkV B len pos = nI 33
  · have hpl := pkV_lt (by omega) h33
    rw [if_pos h33, LB_open hI.2.1 h5 h6 h33 (Or.inl ⟨rfl, rfl⟩)]
    by_cases o6 : o = 6
    · subst o6
      rw [x_deeper6 hI.1, gBi_s, if_pos rfl, m_opens6 hI, gBi_s, if_pos rfl]
      exact Or.inr ⟨_, _, rfl, rfl, hI.fl (by omega) (by omega)⟩
    · have ho : o < 6 := by omega
      have hI2 := hI.opn (x := 10) hpl ho
      have t0 : Tr k h w v pos m κ (gU w 19 3 (nI (pos + 1))) (opn v h o 10 pos) pos m κ := Tr.opn pos (Nat.le_refl _)
      rw [x_deeper hI.1 ho, gBi_s, if_neg nI_10, m_opens hI ho, gBi_s, if_neg nI_10, nI_add]
      rcases hf ho _ _ (pos + 1) m (h + 1) κ F hI2 hk ⟨by omega, 10, 0, by omega, by omega, by omega, opn_19⟩ (by omega) with ⟨w3, v3, pos3, m3, κ3, F3, G3, E3, a1, a2, a3, a4, a5, a6, a7, a8, a9⟩ | ⟨w3, v3, a1, a2, a3⟩
      · have hd3 := a3.dd
        have hmp3 : m3 + (pos + 1) ≤ m + pos3 := a4.2.2.1
        have hmp := hI.2.2.2.2.2.2.1
        obtain ⟨E, rfl⟩ : ∃ E, E3 = E + 1 := ⟨E3 - 1, by omega⟩
        have e19 : v3.1 19 h = nI (1048576 * 10) := (a4.i19 h (by omega)).trans opn_19
        rw [a1, gBv_s, a2, EP_pop a3.2.2.2.2.2.1 (by omega) e19 a3.2.2.2.1 (by omega) a3.2.2.2.2.1, show nI 3 = nI (opX 10) from rfl, addS_x a3.2.2.1 (by omega), gBv_s]
        have hIe := a3.emit (x := 1048576 * 10 + 0) (a := nI (opX 10)) (b := nI 0) (by omega)
        refine Or.inl ⟨_, e10 v3 m3 h o, pos3, m3 + 1, updK κ3 (m3 + 1) 100, F3, G3, E, rfl, rfl, ?_, ?_, if_pos rfl, by omega, a7, a8, by omega⟩
        · obtain ⟨i1, i2, i3, i4, i5, i6, i7, i8, i9, i10, i11⟩ := hIe
          unfold e10
          exact ⟨i1, (i2.u0 (by decide) (by decide)).u0 (by decide) (by decide), i3, by rw [gU2 (by decide), gU2 (by decide)]; exact i4, gU0, by rw [gU2 (by decide), gU0], i7, by omega, i9, i10, by omega⟩
        · have t4 : Tr k h w3 v3 (pos3 - 1) m3 κ3 (addS w3 (m3 + k) (nI (opX 10)) (nI 0)) (notS v3 m3 (1048576 * 10 + 0)) (pos3 - 1 + 1) (m3 + 1) (updK κ3 (m3 + 1) 100) := Tr.emit (ty_deny a5) (cd_op (by omega) (by omega))
          rw [show pos3 - 1 + 1 = pos3 by omega] at t4
          have t5 : Tr k h (addS w3 (m3 + k) (nI (opX 10)) (nI 0)) (notS v3 m3 (1048576 * 10 + 0)) pos3 (m3 + 1) (updK κ3 (m3 + 1) 100) (addS w3 (m3 + k) (nI (opX 10)) (nI 0)) (e10 v3 m3 h o) pos3 (m3 + 1) (updK κ3 (m3 + 1) 100) := Tr.u (Nat.le_refl _) rfl rfl (by unfold e10; rw [gU1 (by decide), gU1 (by decide)]) (fun j _ => by unfold e10; rw [gU1 (by decide), gU1 (by decide)]) LX.rf ((LM.n (by decide)).tr (LM.n (by decide)))
          exact ((t0.tr a4.sh (by omega)).tr t4 (Nat.le_refl _)).tr t5 (Nat.le_refl _)
      · obtain ⟨w4, e4, f4, g4, l4⟩ := d_addStep a3.2.1 (nI 3) (nI 0)
        rw [a1, gBv_s, e4, gBv_s, a2]
        exact Or.inr ⟨w4, v3, rfl, rfl, t0.ff (a3.x f4 g4 l4)⟩
  · rw [if_neg h33, x_peek hI.1, gBi_s]
    by_cases h40 : pkV B len pos = nI 40
    · have hpl := pkV_lt (by omega) h40
      rw [if_pos h40, LB_open hI.2.1 h5 h6 h40 (Or.inr ⟨rfl, rfl⟩)]
      by_cases o6 : o = 6
      · subst o6
        rw [x_deeper6 hI.1, gBi_s, if_pos rfl, m_opens6 hI, gBi_s, if_pos rfl]
        exact Or.inr ⟨_, _, rfl, rfl, hI.fl (by omega) (by omega)⟩
      · have ho : o < 6 := by omega
        have hI2 := hI.opn (x := 13) hpl ho
        have t0 : Tr k h w v pos m κ (gU w 19 3 (nI (pos + 1))) (opn v h o 13 pos) (pos + 1) m κ := Tr.opn (pos + 1) (by omega)
        have ht2 : Tp 13 (opn v h o 13 pos) (h + 1) := ⟨by omega, 13, 0, by omega, by omega, by omega, opn_19⟩
        rw [x_deeper hI.1 ho, gBi_s, if_neg nI_10, m_opens hI ho, gBi_s, if_neg nI_10, nI_add]
        rcases parts_all hN (hf ho) _ _ (pos + 1) m (h + 1) κ F hI2 hk ht2 (by omega) with ⟨w3, v3, u1, y3, h1, pos3, m3, κ3, F3, G3, a1, a2, aj, aj2, a3, a4, a5, a6, a7, a8, a38, a124⟩ | ⟨w3, v3, a1, a2, a3⟩
        · have hd3 := a3.dd
          have h53 := a3.1.2.2.2.2.1
          have hmt3 : MT B v3 len pos3 := aj.mt (aj2.mt a3.2.1)
          obtain ⟨G, rfl⟩ : ∃ G, G3 = G + 1 := ⟨G3 - 1, by omega⟩
          rw [a1, gBv_s, a2]
          by_cases c : pkV B len pos3 = nI 41
          · have hpl3 := pkV_lt (by omega) c
            have hh1 := ht.1
            rw [x_sign1 a3.1 c, gBv_s, AP_close hmt3 h53 h6 c, lands1 hN aj aj2 (ht2.fr a4.i19), gBv_s, gLet_s, gLet_s, gLet_s, gU2 (by decide), gU2 (by decide), gU0, a3.2.2.2.2.2.1, gU2 (by decide), a3.2.2.2.2.1, gU2 (by decide), gU2 (by decide), a3.2.1.2.2, nI_add, pk_sub (by omega), pk_sub (by omega), Nat.add_sub_cancel, Nat.add_sub_cancel, if_neg (nI_no (by omega) (by omega) (by omega))]
            exact Or.inl ⟨_, cls y3 h o pos3, pos3 + 1, m3, κ3, F3, G, N, rfl, rfl, a3.cls hpl3, (t0.tr a4 (by omega)).tr Tr.cls (Nat.le_refl _), a5, by omega, by omega, by omega, by omega⟩
          · rw [x_sign0 a3.1 c, gBv_s, AP_bad hmt3 h53 h6 c a38 a124]
            have hfl : FL w3 v3 (gU w3 19 4 (fc 1 pos3)) (gU v3 0 17 (fc 1 pos3)) := FL.mk (by omega) (by omega) (by omega) (n := m3 + k) (by omega) a3.2.2.1
            exact Or.inr ⟨_, _, rfl, rfl, t0.ff (a4.ff (FL.tr LX.rf (aj2.lm.tr aj.lm) hfl))⟩
        · rw [a1, gBv_s, d_takeSign a3.1.xd (by omega), gBv_s, a2]
          exact Or.inr ⟨_, _, rfl, rfl, t0.ff a3⟩
    · rw [if_neg h40, LB_cmp hI.2.1 h5 h6 h33 h40]
      have ec : (gBv (xX4_readSum N 9 (nI o) w) fun (w5 : gT) => gBi (xX6_peek w5) fun (v6 : Int32) (w7 : gT) => gBi (xX4_comparisonAt v6 w7) fun (v8 : Int32) (w9 : gT) => gLet (gU w9 19 3 ((w9.1 19 3) + (nI 1))) fun (w10 : gT) => gBv (xX4_readSum N 9 (nI o) w10) fun (w11 : gT) => gBv (xX3_addStep v8 (nI 0) w11) fun (w12 : gT) => some w12) = cC N (nI o) w := rfl
      rw [ec]
      rcases cmp_all hN hB hI hk ht with ⟨w', v', pos', m', κ', q1, q2, q3, q4, q5, q6⟩ | ⟨w', v', q1, q2, q3⟩
      · have hd' := q3.dd
        have hhp' := q3.2.2.2.2.2.2.2.1
        rw [q1, q2, gBiBv]
        exact Or.inl ⟨w', v', pos', m', κ', F, N, N, rfl, rfl, q3, q4, q5, q6, by omega, by omega, by omega⟩
      · rw [q1, q2, gBi_s, if_pos rfl]
        exact Or.inr ⟨w', v', rfl, rfl, q3⟩
theorem piece_all {N : Nat} (hN : 5000 ≤ N) {B : Nat → Int32} (hB : ∀ i, Bl (B i) 256) (len k : Nat) : ∀ d o, 10 ≤ d + o → PieceS N B len k (xX4_readPiece N d) o
  | 0, o, h => fun w v pos m h κ F hI => by
    have := hI.2.2.2.2.2.2.2.2.2.2
    omega
  | d + 1, o, h => piece_step hN hB (fun ho => piece_all hN hB len k d (o + 1) (by omega))
/-- dead -/
def DF (f : gT → Option gT) : Prop := ∀ w, XD w → DD w → ∃ w', f w = some w' ∧ w'.1 19 4 = w.1 19 4 ∧ DD w' ∧ LX w w'
theorem d_piece {N : Nat} (hN : 5000 ≤ N) (d : Nat) (a : Int32) : DF (xX4_readPiece N (d + 1) a) := by
  intro w h hd
  show ∃ w', xX4_readPieceB N (xX4_readPiece N d) a w = some w' ∧ _
  unfold xX4_readPieceB
  rw [d_peek h, gBi_s, if_neg (by decide), d_peek h, gBi_s, if_neg (by decide)]
  exact d_cCall hN h hd a
theorem d_pieces {N : Nat} (hN : 5000 ≤ N) {rc : Int32 → gT → Option gT} {a : Int32} (hf : DF (rc a)) : DF (xX4_readPieces N rc a) := by
  intro w h hd
  obtain ⟨w1, e1, f1, g1, l1⟩ := hf w h hd
  have h1 : XD w1 := by
    unfold XD
    rw [f1]
    exact h
  obtain ⟨M, hM⟩ : ∃ M, N = M + 1 := ⟨N - 1, by omega⟩
  obtain ⟨w4, e4, f4, g4, l4⟩ := d_pieceLoop (N := N) h1 g1 rc a (nI 0) (last := (-1)) (Or.inl (by decide)) M
  rw [← hM] at e4
  refine ⟨w4, ?_, f4.trans f1, g4, l1.tr l4⟩
  unfold xX4_readPieces
  rw [e1, gBv_s, gLet_s]
  exact e4
theorem d_parts {N : Nat} (hN : 5000 ≤ N) {rc : Int32 → gT → Option gT} {a : Int32} (hf : DF (rc a)) : DF (xX4_readParts N rc a) := by
  intro w h hd
  obtain ⟨w1, e1, f1, g1, l1⟩ := d_pieces hN hf w h hd
  have h1 : XD w1 := by
    unfold XD
    rw [f1]
    exact h
  obtain ⟨M, hM⟩ : ∃ M, N = M + 1 := ⟨N - 1, by omega⟩
  obtain ⟨w4, e4, f4, g4, l4⟩ := d_partLoop (N := N) h1 g1 rc a (nI 0) (last := (-1)) (Or.inl (by decide)) M
  rw [← hM] at e4
  refine ⟨w4, ?_, f4.trans f1, g4, l1.tr l4⟩
  unfold xX4_readParts
  rw [e1, gBv_s, gLet_s]
  exact e4
