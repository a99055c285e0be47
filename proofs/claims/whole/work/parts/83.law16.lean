def aimK : Int32 → gT → Option gT := fun (v3 : Int32) (w4 : gT) => gBv (xX3_aim v3 (w4.1 40 6) w4) fun (w5 : gT) => some w5
theorem aimK_e {B : Nat → Int32} {len k o h : Nat} {last : Int32} {w y u : gT} {pos m : Nat} (hI : In B len k o h y u pos m) (hj : Jx k last w y m) : aimK last w = some y := by
  have hd := hI.dd
  have e6 : w.1 40 6 = nI (m + k) := by rw [hj.c (by decide)]; exact hI.2.2.1
  unfold aimK
  rw [e6, x_aim hj e6 (by omega), gBv_s]
theorem pieces_loop {N : Nat} (hN : 5000 ≤ N) {B : Nat → Int32} {len k o : Nat} {rc : Int32 → gT → Option gT} (hf : PieceS N B len k rc o) : ∀ c (w y v u : gT) (pos m h : Nat) (κ : Nat → Nat) (F G X more : Nat) (last : Int32), len - pos = c → In B len k o h y u pos m → Jx k last w y m → Jm 11 v u h m → κ m = 100 → Tp 12 u h → 1000 ≤ F + pos → 1000 ≤ G + pos → 1000 ≤ X + pos → more ≤ pos →
    (∃ w' v' u' pos' m' κ' F' G', gW2 (xX4_readPieces_b9 N (nI o) aimK rc) X last (nI more) w = some w' ∧ AP N F G v = AP N F' G' v' ∧ Jm 11 v' u' h m' ∧ In B len k o h w' u' pos' m' ∧ Tr k h y u pos m κ w' u' pos' m' κ' ∧ κ' m' = 100 ∧ 1000 ≤ F' + pos' ∧ 1000 ≤ G' + pos' ∧ pkV B len pos' ≠ nI 38) ∨
    (∃ w' v', gW2 (xX4_readPieces_b9 N (nI o) aimK rc) X last (nI more) w = some w' ∧ AP N F G v = some (nI 0, v') ∧ FL y u w' v') := by
  intro c
  induction c using Nat.strongRecOn with
  | ind c ih =>
    intro w y v u pos m h κ F G X more last hc hI hx hj hk ht hF hG hX hmore
    have hd := hI.dd
    have hhp0 := hI.2.2.2.2.2.2.2.1
    have h6 := hI.1.2.2.2.2.2
    have h5 := hI.1.2.2.2.2.1
    obtain ⟨X, rfl⟩ : ∃ X', X = X' + 1 := ⟨X - 1, by omega⟩
    rw [gW2_s]
    generalize hgo : gW2 (xX4_readPieces_b9 N (nI o) aimK rc) X = go
    unfold xX4_readPieces_b9
    rw [x_peek (hx.xt hI.1), gBi_s]
    by_cases ha : pkV B len pos = nI 38
    · have hpl := pkV_lt (by omega) ha
      have hl := hI.2.2.2.2.2.2.2.2.1
      rw [if_neg (nle (by omega) (by omega) (by omega)), if_pos ha, x_addJump hI hx ha, gBi_s, nI_add]
      obtain ⟨G, rfl⟩ : ∃ G', G = G' + 1 := ⟨G - 1, by omega⟩
      rw [AP_op (x := 11) (a := 0) (hj.mt hI.2.1) hI.2.1 h5 h6 ha (Or.inl ⟨rfl, rfl, rfl⟩) (lands0 hN hj ht), m_jumps hI (by omega), gBv_s]
      have hI2 : In B len k o (h + 1) (addS (gU y 19 3 (nI (pos + 1))) (m + k) (nI 4) (nI (m + k + 1))) (jmp u h m 11 pos) (pos + 1) (m + 1) := hI.jump hpl
      have ht2 : Tp 10 (jmp u h m 11 pos) (h + 1) := ⟨by omega, 11, m, by omega, by omega, by omega, jmp_19⟩
      rcases hf _ _ (pos + 1) (m + 1) (h + 1) (updK κ (m + 1) 0) F hI2 (if_pos rfl) ht2 (by omega) with ⟨w3, v3, pos3, m3, κ3, F3, G3, E3, a1, a2, a3, a4, a5, a6, a7, a8, a9⟩ | ⟨w3, v3, a1, a2, a3⟩
      · obtain ⟨E, rfl⟩ : ∃ E, E3 = E + 1 := ⟨E3 - 1, by omega⟩
        have hd3 := a3.dd
        have hle3 := a3.1.2.2.2.2.1
        have ht3 : Tp 11 v3 (h + 1) := by
          refine ⟨by omega, 11, m, by omega, by omega, by omega, ?_⟩
          rw [Nat.add_sub_cancel, a4.i19 h (by omega)]
          exact jmp_19
        rw [a1, gBv_s, a2, EP_stop a3.2.2.2.2.2.1 (by omega) ht3]
        obtain ⟨j1, j2, j3, j4⟩ := jump_lift (t := 11) (Or.inl rfl) hI hk a3 a4 a5
        rcases ih (len - pos3) (by omega) w3 _ v3 _ pos3 m3 h κ3 F3 G3 X (more + 1) (nI (m + k)) rfl j3 j1 j2 a5 (ht.fr j4.i19) a7 a8 (by omega) (by omega) with ⟨w', v', u', pos', m', κ', F', G', q1, q2, q3, q4, q5, q6, q7, q8, q9⟩ | ⟨w', v', q1, q2, q3⟩
        · rw [hgo] at q1
          exact Or.inl ⟨w', v', u', pos', m', κ', F', G', q1, q2, q3, q4, j4.tr q5 (Nat.le_refl _), q6, q7, q8, q9⟩
        · rw [hgo] at q1
          exact Or.inr ⟨w', v', q1, q2, j4.ff q3⟩
      · obtain ⟨X, rfl⟩ : ∃ X', X = X' + 1 := ⟨X - 1, by omega⟩
        obtain ⟨w4, e4, f4, g4, l4⟩ := d_pieceLoop (N := N) a3.1.xd a3.2.1 rc (nI o) (nI (more + 1)) (last := nI (m + k)) (Or.inr ⟨m + k, by omega, rfl⟩) X
        rw [a1, gBv_s, a2, ← hgo]
        exact Or.inr ⟨w4, v3, e4, rfl, FL.jt hI (a3.x f4 g4 l4)⟩
    · refine Or.inl ⟨y, v, u, pos, m, κ, F, G, ?_, rfl, hj, hI, Tr.rf, hk, hF, hG, ha⟩
      have hk2 := aimK_e hI hx
      rw [if_neg ha, hk2]
      split <;> rfl
def PiecesS (N : Nat) (B : Nat → Int32) (len k : Nat) (rc : Int32 → gT → Option gT) (o : Nat) : Prop := ∀ (w v : gT) (pos m h : Nat) (κ : Nat → Nat) (F : Nat), In B len k o h w v pos m → κ m = 0 → Tp 12 v h → 1000 ≤ F + pos →
  (∃ w' v' u' pos' m' κ' F' G', xX4_readPieces N rc (nI o) w = some w' ∧ LB N F v = AP N F' G' v' ∧ Jm 11 v' u' h m' ∧ In B len k o h w' u' pos' m' ∧ Tr k h w v pos m κ w' u' pos' m' κ' ∧ κ' m' = 100 ∧ pos < pos' ∧ 1000 ≤ F' + pos' ∧ 1000 ≤ G' + pos' ∧ pkV B len pos' ≠ nI 38) ∨
  (∃ w' v', xX4_readPieces N rc (nI o) w = some w' ∧ LB N F v = some (nI 0, v') ∧ FL w v w' v')
theorem pieces_all {N : Nat} (hN : 5000 ≤ N) {B : Nat → Int32} {len k o : Nat} {rc : Int32 → gT → Option gT} (hf : PieceS N B len k rc o) : PiecesS N B len k rc o := by
  intro w v pos m h κ F hI hk ht hF
  have e : (gBv (rc (nI o) w) fun (w1 : gT) => gLet aimK fun k2 => gW2 (xX4_readPieces_b9 N (nI o) k2 rc) N ((-1) : Int32) (nI 0) w1) = xX4_readPieces N rc (nI o) w := rfl
  rw [← e]
  rcases hf w v pos m h κ F hI hk (ht.wk (by omega)) hF with ⟨w3, v3, pos3, m3, κ3, F3, G3, E3, a1, a2, a3, a4, a5, a6, a7, a8, a9⟩ | ⟨w3, v3, a1, a2, a3⟩
  · obtain ⟨E, rfl⟩ : ∃ E, E3 = E + 1 := ⟨E3 - 1, by omega⟩
    have hd3 := a3.dd
    have hhp := a3.2.2.2.2.2.2.2.1
    rw [a1, gBv_s, gLet_s, a2, EP_stop a3.2.2.2.2.2.1 (by omega) ((ht.fr a4.i19).wk (by omega))]
    rcases pieces_loop hN hf (len - pos3) w3 w3 v3 v3 pos3 m3 h κ3 F3 G3 N 0 (-1) rfl a3 (Or.inl ⟨rfl, rfl⟩) (Jm.rf a3.2.2.2.2.2.1 (by omega)) a5 (ht.fr a4.i19) a7 a8 (by omega) (by omega) with ⟨w', v', u', pos', m', κ', F', G', q1, q2, q3, q4, q5, q6, q7, q8, q9⟩ | ⟨w', v', q1, q2, q3⟩
    · exact Or.inl ⟨w', v', u', pos', m', κ', F', G', q1, q2, q3, q4, a4.tr q5 (Nat.le_refl _), q6, by have := q5.1; omega, q7, q8, q9⟩
    · exact Or.inr ⟨w', v', q1, q2, a4.ff q3⟩
  · obtain ⟨M, hM⟩ : ∃ M, N = M + 1 := ⟨N - 1, by omega⟩
    obtain ⟨w4, e4, f4, g4, l4⟩ := d_pieceLoop (N := N) a3.1.xd a3.2.1 rc (nI o) (nI 0) (last := (-1)) (Or.inl (by decide)) M
    rw [← hM] at e4
    rw [a1, gBv_s, gLet_s, a2]
    exact Or.inr ⟨w4, v3, e4, rfl, a3.x f4 g4 l4⟩
theorem parts_loop {N : Nat} (hN : 5000 ≤ N) {B : Nat → Int32} {len k o : Nat} {rc : Int32 → gT → Option gT} (hf : PiecesS N B len k rc o) : ∀ c (w y v u1 u : gT) (pos m h h1 : Nat) (κ : Nat → Nat) (F G X more : Nat) (last : Int32), len - pos = c → In B len k o h y u pos m → Jx k last w y m → Jm 11 v u1 h1 m → Jm 12 u1 u h m → κ m = 100 → Tp 13 u h → 1000 ≤ F + pos → 1000 ≤ G + pos → 1000 ≤ X + pos → more ≤ pos → pkV B len pos ≠ nI 38 →
    (∃ w' v' u1' u' h1' pos' m' κ' F' G', gW2 (xX4_readParts_b9 N (nI o) aimK rc) X last (nI more) w = some w' ∧ AP N F G v = AP N F' G' v' ∧ Jm 11 v' u1' h1' m' ∧ Jm 12 u1' u' h m' ∧ In B len k o h w' u' pos' m' ∧ Tr k h y u pos m κ w' u' pos' m' κ' ∧ κ' m' = 100 ∧ 1000 ≤ F' + pos' ∧ 1000 ≤ G' + pos' ∧ pkV B len pos' ≠ nI 38 ∧ pkV B len pos' ≠ nI 124) ∨
    (∃ w' v', gW2 (xX4_readParts_b9 N (nI o) aimK rc) X last (nI more) w = some w' ∧ AP N F G v = some (nI 0, v') ∧ FL y u w' v') := by
  intro c
  induction c using Nat.strongRecOn with
  | ind c ih =>
    intro w y v u1 u pos m h h1 κ F G X more last hc hI hx hj hj2 hk ht hF hG hX hmore h38
    have hd := hI.dd
    have hhp0 := hI.2.2.2.2.2.2.2.1
    have h6 := hI.1.2.2.2.2.2
    have h5 := hI.1.2.2.2.2.1
    obtain ⟨X, rfl⟩ : ∃ X', X = X' + 1 := ⟨X - 1, by omega⟩
    rw [gW2_s]
    generalize hgo : gW2 (xX4_readParts_b9 N (nI o) aimK rc) X = go
    unfold xX4_readParts_b9
    rw [x_peek (hx.xt hI.1), gBi_s]
    by_cases ha : pkV B len pos = nI 124
    · have hpl := pkV_lt (by omega) ha
      have hl := hI.2.2.2.2.2.2.2.2.1
      rw [if_neg (nle (by omega) (by omega) (by omega)), if_pos ha, x_addJump hI hx ha, gBi_s, nI_add]
      obtain ⟨G, rfl⟩ : ∃ G', G = G' + 1 := ⟨G - 1, by omega⟩
      rw [AP_op (x := 12) (a := 1) (hj.mt (hj2.mt hI.2.1)) hI.2.1 h5 h6 ha (Or.inr ⟨rfl, rfl, rfl⟩) (lands1 hN hj hj2 ht), m_jumps hI (by omega), gBv_s]
      have hI2 : In B len k o (h + 1) (addS (gU y 19 3 (nI (pos + 1))) (m + k) (nI 5) (nI (m + k + 1))) (jmp u h m 12 pos) (pos + 1) (m + 1) := hI.jump hpl
      have ht2 : Tp 12 (jmp u h m 12 pos) (h + 1) := ⟨by omega, 12, m, by omega, by omega, by omega, jmp_19⟩
      rcases hf _ _ (pos + 1) (m + 1) (h + 1) (updK κ (m + 1) 0) F hI2 (if_pos rfl) ht2 (by omega) with ⟨w3, v3, u3, pos3, m3, κ3, F3, G3, a1, a2, a2', a3, a4, a5, a6, a7, a8, a9⟩ | ⟨w3, v3, a1, a2, a3⟩
      · have hd3 := a3.dd
        have hle3 := a3.1.2.2.2.2.1
        rw [a1, gBv_s, a2]
        obtain ⟨j1, j2, j3, j4⟩ := jump_lift (t := 12) (Or.inr rfl) hI hk a3 a4 a5
        rcases ih (len - pos3) (by omega) w3 _ v3 u3 _ pos3 m3 h (h + 1) κ3 F3 G3 X (more + 1) (nI (m + k)) rfl j3 j1 a2' j2 a5 (ht.fr j4.i19) a7 a8 (by omega) (by omega) a9 with ⟨w', v', u1', u', h1', pos', m', κ', F', G', q1, q2, q3, q3', q4, q5, q6, q7, q8, q9⟩ | ⟨w', v', q1, q2, q3⟩
        · rw [hgo] at q1
          exact Or.inl ⟨w', v', u1', u', h1', pos', m', κ', F', G', q1, q2, q3, q3', q4, j4.tr q5 (Nat.le_refl _), q6, q7, q8, q9⟩
        · rw [hgo] at q1
          exact Or.inr ⟨w', v', q1, q2, j4.ff q3⟩
      · obtain ⟨X, rfl⟩ : ∃ X', X = X' + 1 := ⟨X - 1, by omega⟩
        obtain ⟨w4, e4, f4, g4, l4⟩ := d_partLoop (N := N) a3.1.xd a3.2.1 rc (nI o) (nI (more + 1)) (last := nI (m + k)) (Or.inr ⟨m + k, by omega, rfl⟩) X
        rw [a1, gBv_s, a2, ← hgo]
        exact Or.inr ⟨w4, v3, e4, rfl, FL.jt hI (a3.x f4 g4 l4)⟩
    · refine Or.inl ⟨y, v, u1, u, h1, pos, m, κ, F, G, ?_, rfl, hj, hj2, hI, Tr.rf, hk, hF, hG, h38, ha⟩
      have hk2 := aimK_e hI hx
      rw [if_neg ha, hk2]
      split <;> rfl
def PartsS (N : Nat) (B : Nat → Int32) (len k : Nat) (rc : Int32 → gT → Option gT) (o : Nat) : Prop := ∀ (w v : gT) (pos m h : Nat) (κ : Nat → Nat) (F : Nat), In B len k o h w v pos m → κ m = 0 → Tp 13 v h → 1000 ≤ F + pos →
  (∃ w' v' u1' u' h1' pos' m' κ' F' G', xX4_readParts N rc (nI o) w = some w' ∧ LB N F v = AP N F' G' v' ∧ Jm 11 v' u1' h1' m' ∧ Jm 12 u1' u' h m' ∧ In B len k o h w' u' pos' m' ∧ Tr k h w v pos m κ w' u' pos' m' κ' ∧ κ' m' = 100 ∧ pos < pos' ∧ 1000 ≤ F' + pos' ∧ 1000 ≤ G' + pos' ∧ pkV B len pos' ≠ nI 38 ∧ pkV B len pos' ≠ nI 124) ∨
  (∃ w' v', xX4_readParts N rc (nI o) w = some w' ∧ LB N F v = some (nI 0, v') ∧ FL w v w' v')
theorem parts_all {N : Nat} (hN : 5000 ≤ N) {B : Nat → Int32} {len k o : Nat} {rc : Int32 → gT → Option gT} (hf : PieceS N B len k rc o) : PartsS N B len k rc o := by
  intro w v pos m h κ F hI hk ht hF
  have e : (gBv (xX4_readPieces N rc (nI o) w) fun (w1 : gT) => gLet aimK fun k2 => gW2 (xX4_readParts_b9 N (nI o) k2 rc) N ((-1) : Int32) (nI 0) w1) = xX4_readParts N rc (nI o) w := rfl
  rw [← e]
  rcases pieces_all hN hf w v pos m h κ F hI hk (ht.wk (by omega)) hF with ⟨w3, v3, u3, pos3, m3, κ3, F3, G3, a1, a2, a2', a3, a4, a5, a6, a7, a8, a9⟩ | ⟨w3, v3, a1, a2, a3⟩
  · have hd3 := a3.dd
    have hhp := a3.2.2.2.2.2.2.2.1
    rw [a1, gBv_s, gLet_s, a2]
    rcases parts_loop hN (pieces_all hN hf) (len - pos3) w3 w3 v3 u3 u3 pos3 m3 h h κ3 F3 G3 N 0 (-1) rfl a3 (Or.inl ⟨rfl, rfl⟩) a2' (Jm.rf a3.2.2.2.2.2.1 (by omega)) a5 (ht.fr a4.i19) a7 a8 (by omega) (by omega) a9 with ⟨w', v', u1', u', h1', pos', m', κ', F', G', q1, q2, q3, q3', q4, q5, q6, q7, q8, q9⟩ | ⟨w', v', q1, q2, q3⟩
    · exact Or.inl ⟨w', v', u1', u', h1', pos', m', κ', F', G', q1, q2, q3, q3', q4, a4.tr q5 (Nat.le_refl _), q6, by have := q5.1; omega, q7, q8, q9⟩
    · exact Or.inr ⟨w', v', q1, q2, a4.ff q3⟩
  · obtain ⟨M, hM⟩ : ∃ M, N = M + 1 := ⟨N - 1, by omega⟩
    obtain ⟨w4, e4, f4, g4, l4⟩ := d_partLoop (N := N) a3.1.xd a3.2.1 rc (nI o) (nI 0) (last := (-1)) (Or.inl (by decide)) M
    rw [← hM] at e4
    rw [a1, gBv_s, gLet_s, a2]
    exact Or.inr ⟨w4, v3, e4, rfl, a3.x f4 g4 l4⟩
