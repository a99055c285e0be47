theorem sum_loop {N : Nat} (hN : 5000 ≤ N) {B : Nat → Int32} {len k v1 o : Nat} {rc : Int32 → gT → Option gT} (hf : FacS N B len k v1 rc o) : ∀ c (w v u y : gT) (pos m h h1 T : Nat) (κ : Nat → Nat) (F G more : Nat), len - pos = c → In B len k o h w y pos m → Pn 4 6 v u h1 → Pn 2 3 u y h → κ m = T + 1 → T + 2 + 2 * (6 - o) < 31 → v1 ≤ h → Bs 1 y h → 1000 ≤ F + pos → 1000 ≤ G + pos → more ≤ pos → NoP (pkV B len pos) →
    (∃ w' v' u' y' h1' pos' m' κ' F', gW1 (xX4_readSum_b7 N (nI o) rc) G (nI more) w = some w' ∧ LH N v1 F v = LH N v1 F' v' ∧ In B len k o h w' y' pos' m' ∧ Pn 4 6 v' u' h1' ∧ Pn 2 3 u' y' h ∧ Tr k h w y pos m κ w' y' pos' m' κ' ∧ κ' m' = T + 1 ∧ F + pos ≤ F' + pos' ∧ NoS (pkV B len pos')) ∨
    (∃ w' v', gW1 (xX4_readSum_b7 N (nI o) rc) G (nI more) w = some w' ∧ LH N v1 F v = some (nI 0, v') ∧ FL w y w' v') := by
  intro c
  induction c using Nat.strongRecOn with
  | ind c ih =>
    intro w v u y pos m h h1 T κ F G more hc hI hp hq hk hT hv1 hb hF hG hmore np
    have hd := hI.dd
    obtain ⟨G, rfl⟩ : ∃ G', G = G' + 1 := ⟨G - 1, by omega⟩
    rw [gW1_s]
    generalize hgo : gW1 (xX4_readSum_b7 N (nI o) rc) G = go
    unfold xX4_readSum_b7
    by_cases ns : pkV B len pos ≠ nI 43 ∧ pkV B len pos ≠ nI 45
    · rw [gLet_s, x_peek hI.1, gBi_s, if_neg ns.1, x_peek hI.1, gBi_s, if_neg ns.2]
      refine Or.inl ⟨w, v, u, y, h1, pos, m, κ, F, ?_, rfl, hI, hp, hq, Tr.rf, hk, Nat.le_refl _, np, ns⟩
      split <;> rfl
    · have hmt : MT B v len pos := hp.mt (hq.mt hI.2.1)
      have key : ∃ x ch, 2 ≤ x ∧ x ≤ 3 ∧ ch < 256 ∧ pkV B len pos = nI ch ∧ (∀ w, xX10_sumSign (pkV B len pos) w = some (nI x, w)) ∧ (gLet (fun (w6 : gT) => gLet (fun (v8 : Int32) (w9 : gT) => gLet (gU w9 19 3 ((w9.1 19 3) + (nI 1))) fun (w10 : gT) => gBv (xX4_readProduct N rc (nI o) w10) fun (w11 : gT) => gBv (xX3_addStep v8 (nI 0) w11) fun (w12 : gT) => go (nI more + (nI 1)) w12) fun k7 => gBi (xX6_peek w6) fun (v13 : Int32) (w14 : gT) => (if v13 = (nI 43) then k7 (nI 6) w14 else k7 (nI 7) w14)) fun k5 => gBi (xX6_peek w) fun (v15 : Int32) (w16 : gT) => (if v15 = (nI 43) then k5 w16 else gBi (xX6_peek w16) fun (v17 : Int32) (w18 : gT) => (if v17 = (nI 45) then k5 w18 else some w18))) = (gBv (xX4_readProduct N rc (nI o) (gU w 19 3 (nI (pos + 1)))) fun (w11 : gT) => gBv (xX3_addStep (nI (opX x)) (nI 0) w11) fun (w12 : gT) => go (nI (more + 1)) w12) := by
        by_cases e : pkV B len pos = nI 43
        · refine ⟨2, 43, by omega, by omega, by omega, e, fun w => by rw [e]; rfl, ?_⟩
          rw [gLet_s, x_peek hI.1, gBi_s, if_pos e]
          dsimp only
          rw [gLet_s, x_peek hI.1, gBi_s, if_pos e]
          dsimp only
          rw [gLet_s, hI.1.2.2.1, nI_add, nI_add]
          rfl
        · have e2 : pkV B len pos = nI 45 := by
            apply Classical.byContradiction
            intro z
            exact ns ⟨e, z⟩
          refine ⟨3, 45, by omega, by omega, by omega, e2, fun w => by rw [e2]; rfl, ?_⟩
          rw [gLet_s, x_peek hI.1, gBi_s, if_neg e, x_peek hI.1, gBi_s, if_pos e2]
          dsimp only
          rw [gLet_s, x_peek hI.1, gBi_s, if_neg e]
          dsimp only
          rw [gLet_s, hI.1.2.2.1, nI_add, nI_add]
          rfl
      obtain ⟨F, rfl⟩ : ∃ F', F = F' + 1 := ⟨F - 1, by omega⟩
      obtain ⟨x, ch, x2, x3, hch, eq, es, ecl⟩ := key
      have hpl := pkV_lt (show ch < 2 ^ 30 by omega) eq
      have hl := hI.2.2.2.2.2.2.2.2.1
      rw [if_neg (nle (by omega) (by omega) (by omega)), ecl]
      have hmo := m_op (v1 := v1) (F := F) hI hmt x2 (by omega) es (by rw [if_neg (by omega)]; exact closes1 hN hp hq hb)
      rw [hmo]
      have hI2 := hI.push (x := x) hpl
      rcases prod_all hN hf hI2 hk (by omega) (by omega) (Bs.push (by omega)) (F := F) (G := N) (by omega) (by omega) with ⟨w5, v5, u5, pos5, m5, κ5, F5, a1, a2, a3, a4, a5, a6, a7, a8, a9⟩ | ⟨w5, v5, a1, a2, a3⟩
      · obtain ⟨p1, p2, p3, p4, p5⟩ := pop_all (lo := 2) (hi := 3) hI a3 a5 a6 (by omega) (by omega) (by omega) x2 x3
        have hle5 := a3.1.2.2.2.2.1
        rw [a1, gBv_s, p1, gBv_s, a2]
        have hb5 : Bs 1 (e1 u5 m5 h x) h := hb.fr p4.i19
        rcases ih (len - pos5) (by omega) _ v5 u5 _ pos5 (m5 + 1) h (h + 1) T _ F5 G (more + 1) rfl p2 a4 p3 p5 hT hv1 hb5 (by omega) (by omega) (by omega) a9 with ⟨w', v', u', y', h1', pos', m', κ', F', q1, q2, q3, q4, q5, q6, q7, q8, q9⟩ | ⟨w', v', q1, q2, q3⟩
        · rw [hgo] at q1
          exact Or.inl ⟨w', v', u', y', h1', pos', m', κ', F', q1, q2, q3, q4, q5, p4.tr q6 (Nat.le_refl _), q7, by omega, q9⟩
        · rw [hgo] at q1
          exact Or.inr ⟨w', v', q1, q2, p4.ff q3⟩
      · obtain ⟨w4, e4, f4, g4, l4⟩ := d_addStep a3.2.1 (nI (opX x)) (nI 0)
        have a4 := a3.x f4 g4 l4
        rw [a1, gBv_s, e4, gBv_s, a2, ← hgo]
        obtain ⟨G, rfl⟩ : ∃ G', G = G' + 1 := ⟨G - 1, by omega⟩
        rw [d_sumLoop a4.1.xd]
        exact Or.inr ⟨w4, v5, rfl, rfl, (Tr.push (k := k) (h := h) (m := m) (κ := κ) pos (Nat.le_refl _)).ff a4⟩
/-- a whole sum -/
def SumS (N : Nat) (B : Nat → Int32) (len k v1 d : Nat) : Prop := ∀ (o : Nat) (w v : gT) (pos m h T : Nat) (κ : Nat → Nat) (F G : Nat), 9 ≤ d + o → In B len k o h w v pos m → κ m = T → T + 2 + 2 * (6 - o) < 31 → v1 ≤ h → Bs 1 v h → 1000 ≤ F + pos → 1000 ≤ G + pos →
  (∃ w' v' u' y' h1' pos' m' κ' F', xX4_readSum N d (nI o) w = some w' ∧ FX1 N v1 F G v = LH N v1 F' v' ∧ In B len k o h w' y' pos' m' ∧ Pn 4 6 v' u' h1' ∧ Pn 2 3 u' y' h ∧ Tr k h w v pos m κ w' y' pos' m' κ' ∧ κ' m' = T + 1 ∧ pos < pos' ∧ F + pos ≤ F' + pos' ∧ NoS (pkV B len pos')) ∨
  (∃ w' v', xX4_readSum N d (nI o) w = some w' ∧ FX1 N v1 F G v = some (nI 0, v') ∧ FL w v w' v')
theorem Bs.lo {v : gT} {h : Nat} (hb : Bs 1 v h) : Bs 0 v h := by
  by_cases h0 : h = 0
  · exact Or.inl h0
  · obtain ⟨t, x, b1, b2, b3, b4, b5⟩ := hb.resolve_left h0
    exact Or.inr ⟨t, x, b1, b2, b3, b4, Or.inl rfl⟩
theorem sum_step {N : Nat} (hN : 5000 ≤ N) {B : Nat → Int32} {len k v1 d : Nat} (hf : ∀ o, 9 ≤ d + 1 + o → FacS N B len k v1 (xX4_readSum N d) o) : SumS N B len k v1 (d + 1) := by
  intro o w v pos m h T κ F G hdo hI hk hT hv1 hb hF hG
  have hd := hI.dd
  have hhp := hI.2.2.2.2.2.2.2.1
  show (∃ w' v' u' y' h1' pos' m' κ' F', xX4_readSumB N (xX4_readSum N d) (nI o) w = some w' ∧ _) ∨ (∃ w' v', xX4_readSumB N (xX4_readSum N d) (nI o) w = some w' ∧ _)
  unfold xX4_readSumB
  rcases prod_all hN (hf o hdo) hI hk (by omega) hv1 hb.lo hF hG with ⟨w5, v5, u5, pos5, m5, κ5, F5, a1, a2, a3, a4, a5, a6, a7, a8, a9⟩ | ⟨w5, v5, a1, a2, a3⟩
  · rw [a1, gBv_s, a2]
    have hd5 := a3.dd
    rcases sum_loop hN (hf o hdo) (len - pos5) w5 v5 u5 u5 pos5 m5 h h T κ5 F5 N 0 rfl a3 a4 (Pn.rf a3.2.2.2.2.2.1 (by omega)) a6 hT hv1 (hb.fr a5.i19) (by omega) (by omega) (by omega) a9 with ⟨w', v', u', y', h1', pos', m', κ', F', q1, q2, q3, q4, q5, q6, q7, q8, q9⟩ | ⟨w', v', q1, q2, q3⟩
    · exact Or.inl ⟨w', v', u', y', h1', pos', m', κ', F', q1, q2, q3, q4, q5, a5.tr q6 (Nat.le_refl _), q7, by have := q6.1; omega, by omega, q9⟩
    · exact Or.inr ⟨w', v', q1, q2, a5.ff q3⟩
  · rw [a1, gBv_s, a2]
    obtain ⟨M, rfl⟩ : ∃ M, N = M + 1 := ⟨N - 1, by omega⟩
    rw [d_sumLoop a3.1.xd]
    exact Or.inr ⟨w5, v5, rfl, rfl, a3⟩
