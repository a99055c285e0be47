theorem Bs.push {v : gT} {h x p : Nat} (hx : x < 4) : Bs 0 (psh v h x p) (h + 1) := Or.inr ⟨x, 0, by omega, by omega, by rw [Nat.add_sub_cancel]; exact psh_19, by omega, Or.inl rfl⟩
theorem Bs.fr {a : Nat} {v v' : gT} {h : Nat} (hb : Bs a v h) (e : ∀ j, j < h → v'.1 19 j = v.1 19 j) : Bs a v' h := by
  by_cases h0 : h = 0
  · exact Or.inl h0
  · obtain ⟨t, x, b1, b2, b3, b4, b5⟩ := hb.resolve_left h0
    exact Or.inr ⟨t, x, b1, b2, (e _ (by omega)).trans b3, b4, b5⟩
theorem Tr.i19 {k h : Nat} {w v w' v' : gT} {pos m pos' m' : Nat} {κ κ' : Nat → Nat} (a : Tr k h w v pos m κ w' v' pos' m' κ') : ∀ j, j < h → v'.1 19 j = v.1 19 j := a.2.2.2.2.2.2.2.1
theorem prod_loop {N : Nat} (hN : 5000 ≤ N) {B : Nat → Int32} {len k v1 o : Nat} {rc : Int32 → gT → Option gT} (hf : FacS N B len k v1 rc o) : ∀ c (w v u : gT) (pos m h T : Nat) (κ : Nat → Nat) (F G more : Nat), len - pos = c → In B len k o h w u pos m → Pn 4 6 v u h → κ m = T + 1 → T + 1 + 2 * (6 - o) < 31 → v1 ≤ h → Bs 0 u h → 1000 ≤ F + pos → 1000 ≤ G + pos → more ≤ pos →
    (∃ w' v' u' pos' m' κ' F', gW1 (xX4_readProduct_b7 N (nI o) rc) G (nI more) w = some w' ∧ LH N v1 F v = LH N v1 F' v' ∧ In B len k o h w' u' pos' m' ∧ Pn 4 6 v' u' h ∧ Tr k h w u pos m κ w' u' pos' m' κ' ∧ κ' m' = T + 1 ∧ F + pos ≤ F' + pos' ∧ NoP (pkV B len pos')) ∨
    (∃ w' v', gW1 (xX4_readProduct_b7 N (nI o) rc) G (nI more) w = some w' ∧ LH N v1 F v = some (nI 0, v') ∧ FL w u w' v') := by
  intro c
  induction c using Nat.strongRecOn with
  | ind c ih =>
    intro w v u pos m h T κ F G more hc hI hp hk hT hv1 hb hF hG hmore
    have hd := hI.dd
    obtain ⟨G, rfl⟩ : ∃ G', G = G' + 1 := ⟨G - 1, by omega⟩
    rw [gW1_s]
    generalize hgo : gW1 (xX4_readProduct_b7 N (nI o) rc) G = go
    unfold xX4_readProduct_b7
    rw [x_peek hI.1, gBi_s]
    by_cases np : NoP (pkV B len pos)
    · rw [times0 np, gBi_s, if_pos rfl]
      refine Or.inl ⟨w, v, u, pos, m, κ, F, ?_, rfl, hI, hp, Tr.rf, hk, Nat.le_refl _, np⟩
      split <;> rfl
    · obtain ⟨F, rfl⟩ : ∃ F', F = F' + 1 := ⟨F - 1, by omega⟩
      obtain ⟨ch, x, x4, x6, hch, eq, et, es⟩ := times1 np
      have hpl := pkV_lt (show ch < 2 ^ 30 by omega) eq
      have hl := hI.2.2.2.2.2.2.2.2.1
      have hopx : ¬ nI (opX x) = (-1) := nI_m1 (by
        have := (by decide : ∀ x : Fin 13, opX x.1 < 20) ⟨x, by omega⟩
        have : opX x < 20 := this
        omega)
      rw [if_neg (nle (by omega) (by omega) (by omega)), et, gBi_s, if_neg hopx, x_peek hI.1, gBi_s, et, gBi_s, gLet_s, hI.1.2.2.1, nI_add, nI_add]
      have hmo := m_op (v1 := v1) (F := F) hI (hp.mt hI.2.1) (by omega) x6 es (by rw [if_pos x4]; exact closes0 hN hp hb)
      rw [hmo]
      have hI2 := hI.push (x := x) hpl
      rcases hf _ _ (pos + 1) m (h + 1) (T + 1) κ F N hI2 hk hT (by omega) (by omega) (by omega) with ⟨w3, v3, pos3, m3, κ3, F3, a1, a2, a3, a4, a5, a6, a7⟩ | ⟨w3, v3, a1, a2, a3⟩
      · obtain ⟨p1, p2, p3, p4, p5⟩ := pop_all (lo := 4) (hi := 6) hI a3 a4 a5 (by omega) (by omega) x6 x4 x6
        have hd3 := a3.dd
        have hle3 := a3.1.2.2.2.2.1
        rw [a1, gBv_s, p1, gBv_s, a2]
        have hb3 : Bs 0 (e1 v3 m3 h x) h := hb.fr p4.i19
        rcases ih (len - pos3) (by omega) _ v3 _ pos3 (m3 + 1) h T _ F3 G (more + 1) rfl p2 p3 p5 hT hv1 hb3 (by omega) (by omega) (by omega) with ⟨w', v', u', pos', m', κ', F', q1, q2, q3, q4, q5, q6, q7, q8⟩ | ⟨w', v', q1, q2, q3⟩
        · rw [hgo] at q1
          exact Or.inl ⟨w', v', u', pos', m', κ', F', q1, q2, q3, q4, p4.tr q5 (Nat.le_refl _), q6, by omega, q8⟩
        · rw [hgo] at q1
          exact Or.inr ⟨w', v', q1, q2, p4.ff q3⟩
      · obtain ⟨w4, e4, f4, g4, l4⟩ := d_addStep a3.2.1 (nI (opX x)) (nI 0)
        have a4 := a3.x f4 g4 l4
        rw [a1, gBv_s, e4, gBv_s, a2, ← hgo]
        obtain ⟨G, rfl⟩ : ∃ G', G = G' + 1 := ⟨G - 1, by omega⟩
        rw [d_prodLoop a4.1.xd]
        exact Or.inr ⟨w4, v3, rfl, rfl, (Tr.push (k := k) (h := h) (m := m) (κ := κ) pos (Nat.le_refl _)).ff a4⟩
/-- a product from its first factor on -/
theorem prod_all {N : Nat} (hN : 5000 ≤ N) {B : Nat → Int32} {len k v1 o : Nat} {rc : Int32 → gT → Option gT} (hf : FacS N B len k v1 rc o) {w v : gT} {pos m h T : Nat} {κ : Nat → Nat} {F G : Nat} (hI : In B len k o h w v pos m) (hk : κ m = T) (hT : T + 1 + 2 * (6 - o) < 31) (hv1 : v1 ≤ h) (hb : Bs 0 v h) (hF : 1000 ≤ F + pos) (hG : 1000 ≤ G + pos) :
    (∃ w' v' u' pos' m' κ' F', xX4_readProduct N rc (nI o) w = some w' ∧ FX1 N v1 F G v = LH N v1 F' v' ∧ In B len k o h w' u' pos' m' ∧ Pn 4 6 v' u' h ∧ Tr k h w v pos m κ w' u' pos' m' κ' ∧ κ' m' = T + 1 ∧ pos < pos' ∧ F + pos ≤ F' + pos' ∧ NoP (pkV B len pos')) ∨
    (∃ w' v', xX4_readProduct N rc (nI o) w = some w' ∧ FX1 N v1 F G v = some (nI 0, v') ∧ FL w v w' v') := by
  have hd := hI.dd
  have hhp := hI.2.2.2.2.2.2.2.1
  unfold xX4_readProduct
  rcases hf w v pos m h T κ F G hI hk (by omega) hv1 hF hG with ⟨w3, v3, pos3, m3, κ3, F3, a1, a2, a3, a4, a5, a6, a7⟩ | ⟨w3, v3, a1, a2, a3⟩
  · rw [a1, gBv_s, a2]
    rcases prod_loop hN hf (len - pos3) w3 v3 v3 pos3 m3 h T κ3 F3 N 0 rfl a3 (Pn.rf a3.2.2.2.2.2.1 (by omega)) a5 hT hv1 (hb.fr a4.i19) (by omega) (by omega) (by omega) with ⟨w', v', u', pos', m', κ', F', q1, q2, q3, q4, q5, q6, q7, q8⟩ | ⟨w', v', q1, q2, q3⟩
    · exact Or.inl ⟨w', v', u', pos', m', κ', F', q1, q2, q3, q4, a4.tr q5 (Nat.le_refl _), q6, by have := q5.1; omega, by omega, q8⟩
    · exact Or.inr ⟨w', v', q1, q2, a4.ff q3⟩
  · rw [a1, gBv_s, a2]
    obtain ⟨M, rfl⟩ : ∃ M, N = M + 1 := ⟨N - 1, by omega⟩
    rw [d_prodLoop a3.1.xd]
    exact Or.inr ⟨w3, v3, rfl, rfl, a3⟩
