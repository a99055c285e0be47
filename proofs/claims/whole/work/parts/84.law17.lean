theorem ty_cmp {x : Nat} {κ : Nat → Nat} {m : Nat} (hk : κ m = 2) (h7 : 7 ≤ x) (h9 : x ≤ 9) : TyS (fun _ => 1048576 * x + 0) (updK κ (m + 1) 100) (m + 1) m := by
  have e1 : updK κ (m + 1) 100 m = 2 := (if_neg (by omega)).trans hk
  have e2 : updK κ (m + 1) 100 (m + 1) = 100 := if_pos rfl
  have e3 : cO (1048576 * x + 0) = x := cO_mk (by omega)
  unfold TyS
  rw [e1, e2, e3]
  exact Or.inr (Or.inr (Or.inr (Or.inr (Or.inr ⟨h7, h9, rfl, rfl⟩))))
theorem ty_deny {κ : Nat → Nat} {m : Nat} (hk : κ m = 100) : TyS (fun _ => 1048576 * 10 + 0) (updK κ (m + 1) 100) (m + 1) m := by
  have e1 : updK κ (m + 1) 100 m = 100 := (if_neg (by omega)).trans hk
  have e2 : updK κ (m + 1) 100 (m + 1) = 100 := if_pos rfl
  have e3 : cO (1048576 * 10 + 0) = 10 := cO_mk (by omega)
  unfold TyS
  rw [e1, e2, e3]
  exact Or.inr (Or.inr (Or.inl ⟨rfl, rfl, rfl⟩))
theorem cmpAt0 {B : Nat → Int32} {w : gT} {len pos : Nat} (hx : XT B w len pos) (h1 : pkV B len pos ≠ nI 60) (h2 : pkV B len pos ≠ nI 62) (h3 : pkV B len pos ≠ nI 61) : xX4_comparisonAt (pkV B len pos) w = some (nI 13, gU w 19 4 (fc 1 pos)) := by
  unfold xX4_comparisonAt
  rw [gLet_s, if_neg h1, if_neg h2, if_neg h3, x_fail hx, gBv_s]
  dsimp only
  rw [if_neg h1, if_neg h2]
theorem cmpAtd {w : gT} (h : XD w) : xX4_comparisonAt (-1) w = some (nI 13, w) := by
  unfold xX4_comparisonAt
  rw [gLet_s, if_neg (by decide), if_neg (by decide), if_neg (by decide), d_fail h, gBv_s]
  rfl
def cC (N : Nat) (a : Int32) (w : gT) : Option gT := gBv (xX4_readSum N 9 a w) fun (w5 : gT) => gBi (xX6_peek w5) fun (v6 : Int32) (w7 : gT) => gBi (xX4_comparisonAt v6 w7) fun (v8 : Int32) (w9 : gT) => gLet (gU w9 19 3 ((w9.1 19 3) + (nI 1))) fun (w10 : gT) => gBv (xX4_readSum N 9 a w10) fun (w11 : gT) => gBv (xX3_addStep v8 (nI 0) w11) fun (w12 : gT) => some w12
/-- dead from the first sum on -/
theorem d_cC {N : Nat} (hN : 5000 ≤ N) {w : gT} (h : XD w) (hd : DD w) (a c : Int32) : ∃ w', (gLet (gU w 19 3 ((w.1 19 3) + (nI 1))) fun (w10 : gT) => gBv (xX4_readSum N 9 a w10) fun (w11 : gT) => gBv (xX3_addStep c (nI 0) w11) fun (w12 : gT) => some w12) = some w' ∧ w'.1 19 4 = w.1 19 4 ∧ DD w' ∧ LX w w' := by
  have h2 : XD (gU w 19 3 ((w.1 19 3) + (nI 1))) := by
    unfold XD
    rw [gU2 (by decide)]
    exact h
  obtain ⟨n, hn, e6⟩ := hd
  have hd2 : DD (gU w 19 3 ((w.1 19 3) + (nI 1))) := ⟨n, hn, by rw [gU1 (by decide)]; exact e6⟩
  obtain ⟨w', e, f, g, l⟩ := d_addStep hd2 c (nI 0)
  refine ⟨w', ?_, f.trans (gU2 (by decide)), g, (LX.t (by omega)).tr l⟩
  rw [gLet_s, d_sum hN h2, gBv_s, e, gBv_s]
theorem d_cCall {N : Nat} (hN : 5000 ≤ N) {w : gT} (h : XD w) (hd : DD w) (a : Int32) : ∃ w', cC N a w = some w' ∧ w'.1 19 4 = w.1 19 4 ∧ DD w' ∧ LX w w' := by
  unfold cC
  rw [d_sum hN h, gBv_s, d_peek h, gBi_s, cmpAtd h, gBi_s]
  exact d_cC hN h hd a (nI 13)
def kC (N : Nat) : Int32 → gT → Option (Int32 × gT) := fun (v4 : Int32) (w5 : gT) =>
  (if v4 = (-1) then
    gBi (xX10_wrongAt (nI 1) (w5.1 0 15) w5) fun (v11 : Int32) (w12 : gT) =>
    if v11 = nI 0 ∨ v11 = nI 1 then some (v11, w12) else none
  else
    gLet (gU w5 0 15 ((w5.1 0 15) + (nI 1))) fun (w6 : gT) =>
    gBi (xX10_readsSum N w6) fun (v7 : Int32) (w8 : gT) =>
    (if v7 = (nI 0) then
      some ((nI 0), w8)
    else
      gBv (xX10_notes v4 (nI 0) w8) fun (w9 : gT) =>
      gBv (xX10_endsPiece N w9) fun (w10 : gT) =>
      some ((nI 1), w10)))
theorem rC_e (N : Nat) (v : gT) : xX10_readsCompared N v = gBi (xX10_readsSum N v) fun (v1 : Int32) (w2 : gT) => (if v1 = (nI 0) then some ((nI 0), w2) else gLet (kC N) fun k3 => gBi (xX10_here w2) fun (v13 : Int32) (w14 : gT) => (if v13 = (nI 60) then k3 (nI 7) w14 else gBi (xX10_here w14) fun (v15 : Int32) (w16 : gT) => (if v15 = (nI 62) then k3 (nI 8) w16 else gBi (xX10_here w16) fun (v17 : Int32) (w18 : gT) => (if v17 = (nI 61) then k3 (nI 9) w18 else k3 ((-1) : Int32) w18)))) := rfl
theorem cmp_all {N : Nat} (hN : 5000 ≤ N) {B : Nat → Int32} (hB : ∀ i, Bl (B i) 256) {len k o h : Nat} {w v : gT} {pos m : Nat} {κ : Nat → Nat} (hI : In B len k o h w v pos m) (hk : κ m = 0) (ht : Tp 10 v h) :
    (∃ w' v' pos' m' κ', cC N (nI o) w = some w' ∧ xX10_readsCompared N v = (gBv (xX10_endsPiece N v') fun (w10 : gT) => some (nI 1, w10)) ∧ In B len k o h w' v' pos' m' ∧ Tr k h w v pos m κ w' v' pos' m' κ' ∧ κ' m' = 100 ∧ pos < pos') ∨
    (∃ w' v', cC N (nI o) w = some w' ∧ xX10_readsCompared N v = some (nI 0, v') ∧ FL w v w' v') := by
  have h6 := hI.1.2.2.2.2.2
  unfold cC
  rw [rC_e]
  rcases sum_top hN hB hI hk (by omega) (ht.bs (Nat.le_refl _)) with ⟨w1, v1, pos1, m1, κ1, a1, a2, a3, a4, a5, a6, a7⟩ | ⟨w1, v1, a1, a2, a3⟩
  · have hd1 := a3.dd
    have h51 := a3.1.2.2.2.2.1
    rw [a1, gBv_s, a2, gBi_s, if_neg nI_10, gLet_s, x_peek a3.1, gBi_s, m_here a3.2.1 h51 h6, gBi_s]
    by_cases bad : pkV B len pos1 ≠ nI 60 ∧ pkV B len pos1 ≠ nI 62 ∧ pkV B len pos1 ≠ nI 61
    · have hfl := a3.fl (c := 1) (by omega) (by omega)
      obtain ⟨w4, e4, f4, g4, l4⟩ := d_cC hN hfl.1.xd hfl.2.1 (nI o) (nI 13)
      rw [cmpAt0 a3.1 bad.1 bad.2.1 bad.2.2, gBi_s, e4, if_neg bad.1, m_here a3.2.1 h51 h6, gBi_s, if_neg bad.2.1, m_here a3.2.1 h51 h6, gBi_s, if_neg bad.2.2]
      unfold kC
      rw [if_pos rfl, a3.2.1.2.2, wrong_e]
      exact Or.inr ⟨w4, _, rfl, rfl, a4.ff (hfl.x f4 g4 l4)⟩
    · have key : ∃ x ch, 7 ≤ x ∧ x ≤ 9 ∧ ch < 256 ∧ pkV B len pos1 = nI ch ∧ xX4_comparisonAt (pkV B len pos1) w1 = some (nI (opX x), w1) ∧ ∀ k3 : Int32 → gT → Option (Int32 × gT), (if pkV B len pos1 = (nI 60) then k3 (nI 7) v1 else gBi (xX10_here v1) fun (v15 : Int32) (w16 : gT) => (if v15 = (nI 62) then k3 (nI 8) w16 else gBi (xX10_here w16) fun (v17 : Int32) (w18 : gT) => (if v17 = (nI 61) then k3 (nI 9) w18 else k3 ((-1) : Int32) w18))) = k3 (nI x) v1 := by
        by_cases e60 : pkV B len pos1 = nI 60
        · exact ⟨7, 60, by omega, by omega, by omega, e60, by rw [e60]; rfl, fun k3 => if_pos e60⟩
        · by_cases e62 : pkV B len pos1 = nI 62
          · exact ⟨8, 62, by omega, by omega, by omega, e62, by rw [e62]; rfl, fun k3 => by rw [if_neg e60, m_here a3.2.1 h51 h6, gBi_s, if_pos e62]⟩
          · have e61 : pkV B len pos1 = nI 61 := by
              apply Classical.byContradiction
              intro z
              exact bad ⟨e60, e62, z⟩
            exact ⟨9, 61, by omega, by omega, by omega, e61, by rw [e61]; rfl, fun k3 => by rw [if_neg e60, m_here a3.2.1 h51 h6, gBi_s, if_neg e62, m_here a3.2.1 h51 h6, gBi_s, if_pos e61]⟩
      obtain ⟨x, ch, x7, x9, hch, eq, ec, em⟩ := key
      have hpl := pkV_lt (show ch < 2 ^ 30 by omega) eq
      rw [ec, gBi_s, em]
      unfold kC
      rw [if_neg (nI_m1 (by omega)), gLet_s, gLet_s, a3.1.2.2.1, a3.2.1.2.2, nI_add]
      have fx : FX w1 (gU w1 19 3 (nI (pos1 + 1))) := FX.u (by omega)
      have fm : FM v1 (gU v1 0 15 (nI (pos1 + 1))) := FM.u (by decide)
      have hI2 := a3.mv (a3.1.adv hpl) a3.2.1.adv fx fm (by omega)
      have t2 : Tr k h w1 v1 pos1 m1 κ1 (gU w1 19 3 (nI (pos1 + 1))) (gU v1 0 15 (nI (pos1 + 1))) pos1 m1 κ1 := Tr.mv fx fm (Nat.le_refl _)
      have hb2 : Bs 1 (gU v1 0 15 (nI (pos1 + 1))) h := (ht.bs (Nat.le_refl _)).fr (a4.tr t2 (Nat.le_refl _)).i19
      rcases sum_top hN hB hI2 a5 (by omega) hb2 with ⟨w3, v3, pos3, m3, κ3, b1, b2, b3, b4, b5, b6, b7⟩ | ⟨w3, v3, b1, b2, b3⟩
      · have hd3 := b3.dd
        have hmp3 : m3 + (pos1 + 1) ≤ m1 + pos3 := b4.2.2.1
        have hmp1 := a3.2.2.2.2.2.2.1
        rw [b1, gBv_s, b2, gBi_s, if_neg nI_10, addS_x b3.2.2.1 (by omega), gBv_s, notS_m b3.2.2.2.1 (by omega), gBv_s]
        have t4 : Tr k h w3 v3 (pos3 - 1) m3 κ3 (addS w3 (m3 + k) (nI (opX x)) (nI 0)) (notS v3 m3 (1048576 * x + 0)) (pos3 - 1 + 1) (m3 + 1) (updK κ3 (m3 + 1) 100) := Tr.emit (ty_cmp b5 x7 x9) (cd_op (by omega) (by omega))
        rw [show pos3 - 1 + 1 = pos3 by omega] at t4
        exact Or.inl ⟨_, _, pos3, m3 + 1, updK κ3 (m3 + 1) 100, rfl, rfl, b3.emit (by omega), ((a4.tr t2 (Nat.le_refl _)).tr b4.sh (Nat.le_refl _)).tr t4 (Nat.le_refl _), if_pos rfl, by omega⟩
      · obtain ⟨w4, e4, f4, g4, l4⟩ := d_addStep b3.2.1 (nI (opX x)) (nI 0)
        rw [b1, gBv_s, e4, gBv_s, b2, gBi_s, if_pos rfl]
        exact Or.inr ⟨w4, v3, rfl, rfl, a4.ff (t2.ff (b3.x f4 g4 l4))⟩
  · obtain ⟨w4, e4, f4, g4, l4⟩ := d_cC hN a3.1.xd a3.2.1 (nI o) (nI 13)
    rw [a1, gBv_s, a2, gBi_s, if_pos rfl, d_peek a3.1.xd, gBi_s, cmpAtd a3.1.xd, gBi_s, e4]
    exact Or.inr ⟨w4, v1, rfl, rfl, a3.x f4 g4 l4⟩
