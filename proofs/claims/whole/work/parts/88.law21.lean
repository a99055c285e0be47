/-- after the premise -/
theorem prem_fin {N : Nat} (hN : 5000 ≤ N) {B : Nat → Int32} (hB : ∀ i, Bl (B i) 256) {len k c : Nat} {w0 w v0 v : gT} {pos m m0 n0 : Nat} {l : Int32} {v5 : Int32} (hx : XT B w len pos) (hm : MT B v len pos) (e6 : w.1 40 6 = nI (m + k)) (e30 : v.1 0 30 = nI m) (hp : m ≤ pos) (hl : len ≤ 200) (hk : k ≤ 2 * c + 1) (hc : c < 14) (e3 : w.1 40 3 = nI c) (e32 : v.1 0 32 = nI c) (gx : GX2 w0 w) (gm : GM2 v0 v) (hm0 : m0 ≤ m) (hn0 : n0 ≤ m + k)
    (hcl : ∀ i, i < c → ClOk w v i m0 n0) (e20 : v.1 20 c = l) (a k0 : Nat) (e21 : v.1 21 c = nI a) (e5 : v5 = nI (a + k0)) (hseg : l ≠ nI 107 → Seg w v k0 a m 1 (m + k)) :
    (∃ w' v' pos' m' k', qC N l v5 w = some w' ∧ mK5 N v = some (nI 1, v') ∧ CS B len w' v' pos' m' k' (c + 1) ∧ GX2 w0 w' ∧ GM2 v0 v' ∧ pos < pos') ∨
    (∃ w' v', qC N l v5 w = some w' ∧ mK5 N v = some (nI 0, v') ∧ FF w' v' ∧ GX2 w0 w' ∧ GM2 v0 v') := by
  have hm2 : MT B (gU v 22 c (nI m)) len pos := hm.uc (by decide) (by decide)
  have hI := In.z hx hm2 e6 (v := gU v 22 c (nI m)) (by rw [gU1 (by decide)]; exact e30) hp hl (k := k) (by omega)
  have gm2 : GM2 v0 (gU v 22 c (nI m)) := gm.tr (GM2.u (by decide))
  unfold mK5
  rw [e32, gG_in (n := 14) hc (by omega), gLet_s, nI_clamp (by omega), e30]
  rcases prem_all hN hB hI l v5 with ⟨w1, v1, pos1, m1, q1, q2, q3, q4, q5, q6, q7, q8, q9, q10, q11⟩ | ⟨w1, v1, q1, q2, q3, q4, q5⟩
  · obtain ⟨f1, f2, f3, f4, f5⟩ := q11
    have hd := q3.2.2.2.2.1
    have e32' : v1.1 0 32 = nI c := by rw [f5.2 32 (by decide), gU1 (by decide)]; exact e32
    have e3' : w1.1 40 3 = nI c := f4.2.2.2.trans e3
    rw [q1, addCl e3' hc, gBv_s, q2, gBi_s, if_neg nI_10, e32', gG_in (n := 14) hc (by omega), gLet_s, gLet_s, nI_clamp (by omega), gU1 (by decide), e32', q6, nI_add]
    refine Or.inl ⟨_, _, pos1, m1, k + 1, rfl, rfl, ⟨(((q3.uc (by decide) (by decide)).uc (by decide) (by decide)).uc (by decide) (by decide)).uc (by decide) (by decide), (q4.uc (by decide) (by decide)).u0 (by decide) (by decide), ?_, ?_, gU0, gU0, by omega, by omega, q9, hl, fun i hi => ?_⟩, gx.tr (f4.g.tr addCl_g), gm2.tr (f5.g.tr ((GM2.u (by decide)).tr (GM2.z (by decide)))), q7⟩
    · rw [gU2 (by decide), gU1 (by decide), gU1 (by decide), gU1 (by decide)]
      exact q5
    · rw [gU2 (by decide), gU1 (by decide)]
      exact q6
    · have e44 : ∀ j, j < m + k → (gU (gU (gU (gU w1 41 c l) 42 c v5) 43 c (nI (m + k))) 40 3 (nI (c + 1))).1 44 j = w.1 44 j ∧ (gU (gU (gU (gU w1 41 c l) 42 c v5) 43 c (nI (m + k))) 40 3 (nI (c + 1))).1 45 j = w.1 45 j := fun j hj => by
        rw [gU1 (by decide), gU1 (by decide), gU1 (by decide), gU1 (by decide), gU1 (by decide), gU1 (by decide), gU1 (by decide), gU1 (by decide)]
        exact f1 j hj
      have e18 : ∀ j, j < m → (gU (gU v1 23 c (nI m1)) 0 32 (nI (c + 1))).1 18 j = v.1 18 j := fun j hj => by
        rw [gU1 (by decide), gU1 (by decide), f2 j hj, gU1 (by decide)]
      by_cases e : i = c
      · subst e
        refine ⟨?_, a, m, m1, k0, k, ?_, ?_, ?_, ?_, ?_, fun z => ?_, ?_, q8, Nat.le_refl _⟩
        · rw [gU1 (by decide), gU1 (by decide), gU1 (by decide), gU0, gU1 (by decide), gU1 (by decide), f5.1 20 (by decide), gU1 (by decide), e20]
        · rw [gU1 (by decide), gU1 (by decide), f5.1 21 (by decide), gU1 (by decide), e21]
        · rw [gU1 (by decide), gU1 (by decide), f5.1 22 (by decide), gU0]
        · rw [gU1 (by decide), gU0]
        · rw [gU1 (by decide), gU1 (by decide), gU0, e5]
        · rw [gU1 (by decide), gU0]
        · rw [gU1 (by decide), gU1 (by decide), gU1 (by decide), gU0] at z
          exact (hseg z).mono e44 e18 (by omega)
        · exact q10.mono (fun j _ => ⟨by rw [gU1 (by decide), gU1 (by decide), gU1 (by decide), gU1 (by decide)], by rw [gU1 (by decide), gU1 (by decide), gU1 (by decide), gU1 (by decide)]⟩) (fun j _ => by rw [gU1 (by decide), gU1 (by decide)]) (Nat.le_refl _)
      · refine (hcl i (by omega)).mono (fun j hj => e44 j (by omega)) (fun j hj => e18 j (by omega)) (by omega) (by omega) ⟨?_, ?_, ?_⟩ ⟨?_, ?_, ?_, ?_⟩
        · rw [gU1 (by decide), gU1 (by decide), gU1 (by decide), gU2 e, f4.1 41 (by decide)]
        · rw [gU1 (by decide), gU1 (by decide), gU2 e, gU1 (by decide), f4.1 42 (by decide)]
        · rw [gU1 (by decide), gU2 e, gU1 (by decide), gU1 (by decide), f4.1 43 (by decide)]
        · rw [gU1 (by decide), gU1 (by decide), f5.1 20 (by decide), gU1 (by decide)]
        · rw [gU1 (by decide), gU1 (by decide), f5.1 21 (by decide), gU1 (by decide)]
        · rw [gU1 (by decide), gU1 (by decide), f5.1 22 (by decide), gU2 e]
        · rw [gU1 (by decide), gU2 e, f5.1 23 (by decide), gU1 (by decide)]
  · have e3' : w1.1 40 3 = nI c := q4.2.2.2.trans e3
    rw [q1, addCl e3' hc, gBv_s, q2, gBi_s, if_pos rfl]
    obtain ⟨r1, r2, r3, r4, r5, r6, r7⟩ := q3
    exact Or.inr ⟨_, v1, rfl, rfl, ⟨r1, r2, r3, r4, r5, by rw [gU1 (by decide), gU1 (by decide), gU1 (by decide), gU1 (by decide)]; exact r6, r7⟩, gx.tr (q4.g.tr addCl_g), gm2.tr q5.g⟩
theorem clause_all {N : Nat} (hN : 5000 ≤ N) {B : Nat → Int32} (hB : ∀ i, Bl (B i) 256) {len : Nat} {w v : gT} {pos m k c : Nat} (hS : CS B len w v pos m k c) :
    (∃ w' v' pos' m' k', xX4_readClause N w = some w' ∧ xX10_readsClause N v = some (nI 1, v') ∧ CS B len w' v' pos' m' k' (c + 1) ∧ GX2 w w' ∧ GM2 v v' ∧ pos < pos') ∨
    (∃ w' v', xX4_readClause N w = some w' ∧ xX10_readsClause N v = some (nI 0, v') ∧ FF w' v' ∧ GX2 w w' ∧ GM2 v v') := by
  obtain ⟨hx, hm, e6, e30, e3, e32, hc14, hk, hmp, hl, hcl⟩ := hS
  have h5 := hx.2.2.2.2.1
  have h6 := hx.2.2.2.2.2
  by_cases hcc : isCl (pkV B len pos)
  · rw [rCl_1 hx hcc]
    unfold clK17
    by_cases c14 : c = 14
    · have hff : FF (gU w 19 4 (fc 4 pos)) (gU v 0 17 (fc 4 pos)) := FF.mk (by omega) (by omega) (by omega)
      rw [e3, if_pos (by rw [c14]), x_fail hx, gBv_s]
      unfold clK1
      rw [if_neg hff.xd, rMl_e, m_here hm h5 h6, gBi_s, mCl_1 hcc, gBi_s, if_neg nI_10, e32, if_pos (by rw [c14]), hm.2.2, wrong_e]
      exact Or.inr ⟨_, _, rfl, rfl, hff, (LX.t (by omega)).g, GM2.z (by decide)⟩
    · have hc : c < 14 := by omega
      have hpl : pos < len := by
        rcases hcc with z | z | z | z | z <;> exact pkV_lt (by omega) z
      rw [e3, if_neg (nI_no (by omega) (by omega) c14)]
      unfold clK1
      rw [hx.2.2.2.1, if_pos rfl, gLet_s, gLet_s, gU1 (by decide), e6, hx.2.2.1, nI_add, rMl_1 hm h5 h6 hcc e32 e30 hc]
      have hx1 := hx.adv hpl
      have hm1 : MT B (v16C v c pos m (pkV B len pos)) len (pos + 1) := (((((hm.uc (by decide) (by decide)).adv).uc (by decide) (by decide)).u0 (by decide) (by decide)).u0 (by decide) (by decide))
      have gm1 : GM2 v (v16C v c pos m (pkV B len pos)) := (GM2.u (by decide)).tr ((GM2.z (by decide)).tr ((GM2.u (by decide)).tr ((GM2.z (by decide)).tr (GM2.z (by decide)))))
      have gx1 : GX2 w (gU w 19 3 (nI (pos + 1))) := (LX.t (by omega)).g
      have e20 : (v16C v c pos m (pkV B len pos)).1 20 c = pkV B len pos := by
        unfold v16C
        rw [gU1 (by decide), gU1 (by decide), gU1 (by decide), gU1 (by decide), gU0]
      have e21 : (v16C v c pos m (pkV B len pos)).1 21 c = nI m := by
        unfold v16C
        rw [gU1 (by decide), gU1 (by decide), gU0]
      have e0 : ∀ i, i ∉ [15, 29, 31] → (v16C v c pos m (pkV B len pos)).1 0 i = v.1 0 i := fun i hi => by
        simp at hi
        unfold v16C
        rw [gU2 hi.2.2, gU2 hi.2.1, gU1 (by decide), gU2 hi.1, gU1 (by decide)]
      have e29 : (v16C v c pos m (pkV B len pos)).1 0 29 = nI 0 := by
        unfold v16C
        rw [gU2 (by decide), gU0]
      have e31 : (v16C v c pos m (pkV B len pos)).1 0 31 = nI 0 := by
        unfold v16C
        rw [gU0]
      have e18 : (v16C v c pos m (pkV B len pos)).1 18 = v.1 18 := by
        unfold v16C
        rw [gU1 (by decide), gU1 (by decide), gU1 (by decide), gU1 (by decide), gU1 (by decide)]
      have ecl : ∀ i, i < c → ClOk (gU w 19 3 (nI (pos + 1))) (v16C v c pos m (pkV B len pos)) i m (m + k) := fun i hi => by
        refine (hcl i hi).mono (fun j _ => ⟨by rw [gU1 (by decide)], by rw [gU1 (by decide)]⟩) (fun j _ => by rw [e18]) (Nat.le_refl _) (Nat.le_refl _) ⟨by rw [gU1 (by decide)], by rw [gU1 (by decide)], by rw [gU1 (by decide)]⟩ ⟨?_, ?_, ?_, ?_⟩
        · unfold v16C
          rw [gU1 (by decide), gU1 (by decide), gU1 (by decide), gU1 (by decide), gU2 (by omega)]
        · unfold v16C
          rw [gU1 (by decide), gU1 (by decide), gU2 (by omega), gU1 (by decide), gU1 (by decide)]
        · unfold v16C
          rw [gU1 (by decide), gU1 (by decide), gU1 (by decide), gU1 (by decide), gU1 (by decide)]
        · unfold v16C
          rw [gU1 (by decide), gU1 (by decide), gU1 (by decide), gU1 (by decide), gU1 (by decide)]
      revert hm1 gm1 e20 e21 e0 e29 e31 e18 ecl
      generalize v16C v c pos m (pkV B len pos) = v1
      intro hm1 gm1 e20 e21 e0 e29 e31 e18 ecl
      by_cases c107 : pkV B len pos = nI 107
      · rw [if_pos c107, if_pos c107]
        rcases prem_fin hN hB (w0 := w) (v0 := v) (v5 := nI (m + k)) hx1 hm1 (by rw [gU1 (by decide)]; exact e6) ((e0 30 (by decide)).trans e30) (by omega) hl (by omega) hc (by rw [gU1 (by decide)]; exact e3) ((e0 32 (by decide)).trans e32) gx1 gm1 (Nat.le_refl m) (Nat.le_refl _) ecl e20 m k e21 rfl (fun z => absurd c107 z) with ⟨w', v', pos', m', k', q1, q2, q3, q4, q5, q6⟩ | ⟨w', v', q1, q2, q3, q4, q5⟩
        · exact Or.inl ⟨w', v', pos', m', k', q1, q2, q3, q4, q5, by omega⟩
        · exact Or.inr ⟨w', v', q1, q2, q3, q4, q5⟩
      · rw [if_neg c107, if_neg c107]
        have hI : In B len k 0 0 (gU w 19 3 (nI (pos + 1))) v1 (pos + 1) m := ⟨hx1, hm1, by rw [gU1 (by decide)]; exact e6, (e0 30 (by decide)).trans e30, e29, e31, by omega, by omega, hl, by omega, by omega⟩
        rcases sum_top hN hB hI (κ := fun _ => 0) rfl (by omega) (Or.inl rfl) with ⟨w2, v2, pos2, m2, κ2, a1, a2, a3, a4, a5, a6, a7⟩ | ⟨w2, v2, a1, a2, a3⟩
        · have hd2 := a3.dd
          obtain ⟨t1, t2, t3, t4, t5, f1, f2, f3, f4, f5⟩ := id a4
          have hmp2 := a3.2.2.2.2.2.2.1
          rw [a1, gBv_s, addS_x a3.2.2.1 (by omega), gBv_s, a2, gBi_s, if_neg nI_10]
          have hsg := Seg.mk a4 rfl a5
          have ecl2 : ∀ i, i < c → ClOk (addS w2 (m2 + k) (nI 2) (nI 0)) v2 i m (m + k) := fun i hi => by
            refine (ecl i hi).mono (fun j hj => ?_) (fun j hj => f2 j hj) (Nat.le_refl _) (Nat.le_refl _) ⟨?_, ?_, ?_⟩ ⟨by rw [f5.1 20 (by decide)], by rw [f5.1 21 (by decide)], by rw [f5.1 22 (by decide)], by rw [f5.1 23 (by decide)]⟩
            · rw [addS_44, addS_45, if_neg (by omega), if_neg (by omega)]
              exact f1 j hj
            · unfold addS
              rw [gU1 (by decide), gU1 (by decide), gU1 (by decide), f4.1 41 (by decide)]
            · unfold addS
              rw [gU1 (by decide), gU1 (by decide), gU1 (by decide), f4.1 42 (by decide)]
            · unfold addS
              rw [gU1 (by decide), gU1 (by decide), gU1 (by decide), f4.1 43 (by decide)]
          rcases prem_fin hN hB (w0 := w) (v0 := v) (k := k + 1) (v5 := nI (m + k)) a3.1.addS a3.2.1 (by rw [addS_6]; congr 1) a3.2.2.2.1 hmp2 hl (by omega) hc (by unfold addS; rw [gU2 (by decide), gU1 (by decide), gU1 (by decide)]; exact f4.2.2.2.trans (by rw [gU1 (by decide)]; exact e3)) ((f5.2 32 (by decide)).trans ((e0 32 (by decide)).trans e32)) (gx1.tr (f4.g.tr (addS_lx _ _ _ _).g)) (gm1.tr f5.g) (show m ≤ m2 by omega) (show m + k ≤ m2 + (k + 1) by omega) ecl2 ((congrFun (f5.1 20 (by decide)) c).trans e20) m k ((congrFun (f5.1 21 (by decide)) c).trans e21) rfl (fun _ => hsg) with ⟨w', v', pos', m', k', q1, q2, q3, q4, q5, q6⟩ | ⟨w', v', q1, q2, q3, q4, q5⟩
          · exact Or.inl ⟨w', v', pos', m', k', q1, q2, q3, q4, q5, by omega⟩
          · exact Or.inr ⟨w', v', q1, q2, q3, q4, q5⟩
        · obtain ⟨w3, b1, b2, b3, b4⟩ := d_addStep a3.2.1 (nI 2) (nI 0)
          have hf3 := a3.x b2 b3 b4
          obtain ⟨w4, d1, d2, d3⟩ := d_qC hN hf3.1.xd hf3.2.1 (pkV B len pos) (nI (m + k))
          have lx4 := hf3.2.2.1.tr d3
          have e3' : w4.1 40 3 = nI c := lx4.2.2.2.trans (by rw [gU1 (by decide)]; exact e3)
          rw [a1, gBv_s, b1, gBv_s, d1, addCl e3' hc, gBv_s, a2, gBi_s, if_pos rfl]
          obtain ⟨r1, r2, r3, r4, r5, r6, r7⟩ := hf3.1
          exact Or.inr ⟨_, v2, rfl, rfl, ⟨r1, r2, r3, r4, r5, by rw [gU1 (by decide), gU1 (by decide), gU1 (by decide), gU1 (by decide)]; exact d2.trans r6, r7⟩, gx1.tr (lx4.g.tr addCl_g), gm1.tr hf3.2.2.2.g⟩
  · have hff : FF (gU w 19 4 (fc 1 pos)) (gU v 0 17 (fc 1 pos)) := FF.mk (by omega) (by omega) (by omega)
    rw [rCl_0 hx hcc]
    unfold clK1
    rw [if_neg hff.xd, rMl_e, m_here hm h5 h6, gBi_s, mCl_0 hcc, gBi_s, if_pos rfl, hm.2.2, wrong_e]
    exact Or.inr ⟨_, _, rfl, rfl, hff, (LX.t (by omega)).g, GM2.z (by decide)⟩
