def xWk9 (N : Nat) (v4 v5 v6 v10 : Int32) (w11 : gT) : Option gT := if (w11.1 19 4) = (nI 0) then gBv (xX7_add N v4 v5 v6 v10 w11) fun w12 => some w12 else some w11
def xWk3 (N : Nat) (v4 v5 v6 v7 : Int32) (w8 : gT) : Option gT := if v7 = (nI 0) then xWk9 N v4 v5 v6 v7 w8 else gBv (xX6_takeSign (nI 43) w8) fun w13 => xWk9 N v4 v5 v6 v7 w13
def xWk (N : Nat) (w2 : gT) : Option gT := gBi (xX6_takeDigit (nI 9) w2) fun v14 w15 => gBv (xX6_takeSign (nI 64) w15) fun w16 => gBi (xX6_takeDigit (nI 6) w16) fun v17 w18 => gBv (xX6_takeSign (nI 45) w18) fun w19 => gBi (xX7_readRoom w19) fun v20 w21 => gBi (xX6_peek w21) fun v22 w23 => if v22 = (nI 43) then xWk3 N v14 v17 v20 (nI 1) w23 else xWk3 N v14 v17 v20 (nI 0) w23
theorem readWalk_eq (N : Nat) (w : gT) : xX7_readWalk N w = (if (w.1 27 5) = (nI 16) then gBi (xX6_isAtDigit w) fun v24 w25 => (if v24 = (nI 0) then xWk N w25 else gBv (xX6_fail (nI 4) w25) fun w26 => xWk N w26) else xWk N w) := rfl
theorem d_room {N : Nat} {w : gT} (h : XD w) (a b c : Int32) : (gBi (xX6_peek w) fun v22 w23 => if v22 = (nI 43) then xWk3 N a b c (nI 1) w23 else xWk3 N a b c (nI 0) w23) = some w := by
  rw [d_peek h, gBi_s, if_neg (by decide)]
  unfold xWk3
  rw [if_pos rfl]
  unfold xWk9
  rw [if_neg h]
theorem d_xWk {N : Nat} {w : gT} (h : XD w) : xWk N w = some w := by
  unfold xWk
  rw [d_takeDigit h, gBi_s, d_takeSign h (by omega), gBv_s, d_takeDigit h, gBi_s, d_takeSign h (by omega), gBv_s, d_readRoom h, gBi_s, d_room h]
/-- the model while it reads a walk -/
def TR (n : Nat) (v0 v : gT) : Prop := GM v0 v ∧ v.1 0 20 = nI n ∧ ∀ i, i < n → v.1 13 i = v0.1 13 i ∧ v.1 14 i = v0.1 14 i ∧ v.1 15 i = v0.1 15 i ∧ v.1 17 i = v0.1 17 i
theorem TR.fm {n : Nat} {v0 v v' : gT} (h : TR n v0 v) (hf : FM v v') : TR n v0 v' := by
  obtain ⟨h1, h2, h3⟩ := h
  refine ⟨h1.tr hf.g, (hf.2 20 (by decide)).trans h2, fun i hi => ?_⟩
  rw [hf.at (by omega), hf.at (by omega), hf.at (by omega), hf.at (by omega)]
  exact h3 i hi
theorem TR.c {n : Nat} {v0 v : gT} (h : TR n v0 v) {c : Nat} {x : Int32} (hc : c ∈ [13, 14, 15, 17]) : TR n v0 (gU v c n x) := by
  obtain ⟨h1, h2, h3⟩ := h
  refine ⟨h1.tr (GM.c hc), ?_, fun i hi => ?_⟩
  · rw [gU1 (fun z => by subst z; simp at hc)]; exact h2
  · have e : ∀ d, (gU v c n x).1 d i = v.1 d i := fun d => by
      by_cases z : d = c
      · subst z; exact gU2 (by omega)
      · rw [gU1 z]
    rw [e, e, e, e]
    exact h3 i hi
theorem walk_both {N : Nat} (hN : 5000 ≤ N) {B : Nat → Int32} (hB : ∀ i, Bl (B i) 256) {w v : gT} {len pos n : Nat} (hx : XT B w len pos) (hm : MT B v len pos) (hw : WR n w v) :
    (∃ w' v' pos', xX7_readWalk N w = some w' ∧ xX10_readsWalk N v = some (nI 1, v') ∧ XT B w' len pos' ∧ MT B v' len pos' ∧ WR (n + 1) w' v' ∧ pos < pos' ∧ GX w w' ∧ GM v v') ∨
    (∃ w' v', xX7_readWalk N w = some w' ∧ xX10_readsWalk N v = some (nI 0, v') ∧ FF w' v' ∧ GX w w' ∧ GM v v') := by
  have h5 := hx.2.2.2.2.1
  have h6 := hx.2.2.2.2.2
  obtain ⟨hn16, hx5, hm20, hws⟩ := hw
  have wr : ∀ (v2 : gT) {p : Nat}, (gBi (xX10_wrongAt (nI 1) (nI p) v2) fun v31 w32 => if v31 = nI 0 ∨ v31 = nI 1 then some (v31, w32) else none) = some (nI 0, gU v2 0 17 (fc 1 p)) := fun v2 p => by
    rw [m_wrongAt, gBi_s, if_pos (Or.inl rfl)]
  rw [readWalk_eq, hx5]
  unfold xX10_readsWalk
  by_cases cD : ∃ d, d ≤ 9 ∧ pkV B len pos = nI (48 + d)
  · obtain ⟨g, hg, hc⟩ := cD
    have hpl := pkV_lt (by omega) hc
    rw [m_at1 hm h5 h6 hg hc, gBi_s, if_neg nI_10, hm20]
    by_cases e16 : n = 16
    · have en : nI n = nI 16 := by rw [e16]
      have hff : FF (gU w 19 4 (fc 4 pos)) (gU v 0 17 (fc 4 pos)) := FF.mk (by omega) (by omega) (by omega)
      refine Or.inr ⟨gU w 19 4 (fc 4 pos), gU v 0 17 (fc 4 pos), ?_, ?_, hff, (FX.u (by omega)).g, (FM.u (by decide)).g⟩
      · rw [if_pos en, x_at1 hx hg hc, gBi_s, if_neg nI_10, x_fail hx, gBv_s, d_xWk hff.xd]
      · rw [if_pos en, hm.2.2, m_wrongAt, gBi_s, if_pos (Or.inl rfl)]
    · have en : ¬ nI n = nI 16 := fun z => e16 ((nI_eq (by omega) (by omega)).mp z)
      rw [if_neg en, if_neg en]
      unfold xWk
      rw [x_digit1 hx hg (by omega) hc, gBi_s, m_digit1 hm h5 h6 hg (by omega) hc, gBi_s]
      have hx1 := hx.adv hpl
      have hm1 : MT B (gU (gU v 0 18 (nI g)) 0 15 (nI (pos + 1))) len (pos + 1) := (hm.u18 (nI g)).adv
      have t1 : TR n v (gU (gU v 0 18 (nI g)) 0 15 (nI (pos + 1))) := TR.fm (v := v) ⟨GM.rf, hm20, fun _ _ => ⟨rfl, rfl, rfl, rfl⟩⟩ ((FM.u (by decide)).tr (FM.u (by decide)))
      have e18 : (gU (gU v 0 18 (nI g)) 0 15 (nI (pos + 1))).1 0 18 = nI g := by rw [gU2 (by omega), gU0]
      have fx1 : FX w (gU w 19 3 (nI (pos + 1))) := FX.u (by omega)
      revert hx1 hm1 t1 e18 fx1
      generalize gU (gU v 0 18 (nI g)) 0 15 (nI (pos + 1)) = v1
      generalize gU w 19 3 (nI (pos + 1)) = w1
      intro hx1 hm1 t1 e18 fx1
      rw [t1.2.1, gG_in (by omega) (by omega), nI_clamp (by omega), gLet_s, e18]
      have hm2 : MT B (gU v1 13 n (nI g)) len (pos + 1) := hm1.c (by decide)
      have t2 : TR n v (gU v1 13 n (nI g)) := t1.c (by decide)
      have g13 : (gU v1 13 n (nI g)).1 13 n = nI g := gU0
      revert hm2 t2 g13
      generalize gU v1 13 n (nI g) = v2
      intro hm2 t2 g13
      clear hm1 t1 e18
      have p1 := hx1.2.2.2.2.1
      by_cases cA : pkV B len (pos + 1) = nI 64
      · have hpl1 := pkV_lt (by omega) cA
        have hx3 := hx1.adv hpl1
        have hm3 : MT B (gU v2 0 15 (nI (pos + 1 + 1))) len (pos + 1 + 1) := hm2.adv
        have t3 : TR n v (gU v2 0 15 (nI (pos + 1 + 1))) := t2.fm (FM.u (by decide))
        have fx3 : FX w (gU w1 19 3 (nI (pos + 1 + 1))) := fx1.tr (FX.u (by omega))
        have g13' : (gU v2 0 15 (nI (pos + 1 + 1))).1 13 n = nI g := by rw [gU1 (by omega)]; exact g13
        rw [x_sign1 hx1 cA, gBv_s, m_sign1 hm2 p1 h6 cA, gBi_s, if_neg nI_10]
        revert hx3 hm3 t3 fx3 g13'
        generalize gU v2 0 15 (nI (pos + 1 + 1)) = v3
        generalize gU w1 19 3 (nI (pos + 1 + 1)) = w3
        intro hx3 hm3 t3 fx3 g13
        have p3 := hx3.2.2.2.2.1
        by_cases cN : ∃ d, d ≤ 6 ∧ pkV B len (pos + 1 + 1) = nI (48 + d)
        · obtain ⟨t, ht, hc3⟩ := cN
          have hpl3 := pkV_lt (by omega) hc3
          have hx4 := hx3.adv hpl3
          have hm4 : MT B (gU (gU v3 0 18 (nI t)) 0 15 (nI (pos + 1 + 1 + 1))) len (pos + 1 + 1 + 1) := (hm3.u18 (nI t)).adv
          have t4 : TR n v (gU (gU v3 0 18 (nI t)) 0 15 (nI (pos + 1 + 1 + 1))) := t3.fm ((FM.u (by decide)).tr (FM.u (by decide)))
          have fx4 : FX w (gU w3 19 3 (nI (pos + 1 + 1 + 1))) := fx3.tr (FX.u (by omega))
          have e18 : (gU (gU v3 0 18 (nI t)) 0 15 (nI (pos + 1 + 1 + 1))).1 0 18 = nI t := by rw [gU2 (by omega), gU0]
          have g13' : (gU (gU v3 0 18 (nI t)) 0 15 (nI (pos + 1 + 1 + 1))).1 13 n = nI g := by rw [gU1 (by omega), gU1 (by omega)]; exact g13
          rw [x_digit1 hx3 ht (by omega) hc3, gBi_s, m_digit1 hm3 p3 h6 ht (by omega) hc3, gBi_s, if_neg nI_10]
          revert hx4 hm4 t4 fx4 e18 g13'
          generalize gU (gU v3 0 18 (nI t)) 0 15 (nI (pos + 1 + 1 + 1)) = v4
          generalize gU w3 19 3 (nI (pos + 1 + 1 + 1)) = w4
          intro hx4 hm4 t4 fx4 e18 g13
          rw [t4.2.1, gG_in (by omega) (by omega), nI_clamp (by omega), gLet_s, e18]
          have hm5 : MT B (gU v4 14 n (nI t)) len (pos + 1 + 1 + 1) := hm4.c (by decide)
          have t5 : TR n v (gU v4 14 n (nI t)) := t4.c (by decide)
          have g14 : (gU v4 14 n (nI t)).1 14 n = nI t := gU0
          have g13' : (gU v4 14 n (nI t)).1 13 n = nI g := by rw [gU1 (by omega)]; exact g13
          revert hm5 t5 g14 g13'
          generalize gU v4 14 n (nI t) = v5
          intro hm5 t5 g14 g13
          have p4 := hx4.2.2.2.2.1
          by_cases cB : pkV B len (pos + 1 + 1 + 1) = nI 45
          · have hpl4 := pkV_lt (by omega) cB
            have hx6 := hx4.adv hpl4
            have hm6 : MT B (gU v5 0 15 (nI (pos + 1 + 1 + 1 + 1))) len (pos + 1 + 1 + 1 + 1) := hm5.adv
            have t6 : TR n v (gU v5 0 15 (nI (pos + 1 + 1 + 1 + 1))) := t5.fm (FM.u (by decide))
            have fx6 : FX w (gU w4 19 3 (nI (pos + 1 + 1 + 1 + 1))) := fx4.tr (FX.u (by omega))
            have g13' : (gU v5 0 15 (nI (pos + 1 + 1 + 1 + 1))).1 13 n = nI g := by rw [gU1 (by omega)]; exact g13
            have g14' : (gU v5 0 15 (nI (pos + 1 + 1 + 1 + 1))).1 14 n = nI t := by rw [gU1 (by omega)]; exact g14
            rw [x_sign1 hx4 cB, gBv_s, m_sign1 hm5 p4 h6 cB, gBi_s, if_neg nI_10]
            revert hx6 hm6 t6 fx6 g13' g14'
            generalize gU v5 0 15 (nI (pos + 1 + 1 + 1 + 1)) = v6
            generalize gU w4 19 3 (nI (pos + 1 + 1 + 1 + 1)) = w6
            intro hx6 hm6 t6 fx6 g13 g14
            rcases room_both hN hB hx6 hm6 with ⟨r, w7, v7, pos7, hr, er, em, e18, hx7, hm7, fx7, fm7, hlt7⟩ | ⟨r, w7, v7, er, em, hff, fx7, fm7⟩
            · rw [er, gBi_s, em, gBi_s, if_neg nI_10]
              have t7 := t6.fm fm7
              have hfx := fx6.tr fx7
              have g13 : v7.1 13 n = nI g := by rw [fm7.at (by omega)]; exact g13
              have g14 : v7.1 14 n = nI t := by rw [fm7.at (by omega)]; exact g14
              have p7 := hx7.2.2.2.2.1
              have hpos : pos < pos7 := by omega
              rw [t7.2.1, gLet_s, gG_in (by omega) (by omega), nI_clamp (by omega), gLet_s, e18]
              have hm8 : MT B (gU v7 15 n (nI r)) len pos7 := hm7.c (by decide)
              have t8 : TR n v (gU v7 15 n (nI r)) := t7.c (by decide)
              have g15 : (gU v7 15 n (nI r)).1 15 n = nI r := gU0
              have g13' : (gU v7 15 n (nI r)).1 13 n = nI g := by rw [gU1 (by omega)]; exact g13
              have g14' : (gU v7 15 n (nI r)).1 14 n = nI t := by rw [gU1 (by omega)]; exact g14
              revert hm8 t8 g15 g13' g14'
              generalize gU v7 15 n (nI r) = v8
              intro hm8 t8 g15 g13 g14
              rw [x_peek hx7, gBi_s, m_here hm8 p7 h6, gBi_s, t8.2.1]
              have fin : ∀ (z : Nat) (w9 v9 : gT) (pos9 : Nat), z < 2 → pos < pos9 → XT B w9 len pos9 → MT B v9 len pos9 → FX w w9 → TR n v v9 → v9.1 13 n = nI g → v9.1 14 n = nI t → v9.1 15 n = nI r → v9.1 17 n = nI z → ∃ w', xWk9 N (nI g) (nI t) (nI r) (nI z) w9 = some w' ∧ XT B w' len pos9 ∧ MT B (gU v9 0 20 (nI n + nI 1)) len pos9 ∧ WR (n + 1) w' (gU v9 0 20 (nI n + nI 1)) ∧ pos < pos9 ∧ GX w w' ∧ GM v (gU v9 0 20 (nI n + nI 1)) := by
                intro z w9 v9 pos9 hz hpp hx9 hm9 fx9 t9 k13 k14 k15 k17
                obtain ⟨wa, ea, sa, a27, a28, a29, a30, a31, a32, b32⟩ := x_add hN (show n < 16 by omega) (w := w9) (by rw [fx9.at (by omega)]; exact hx5) (nI g) (nI t) (nI r) hz
                unfold xWk9
                rw [hx9.2.2.2.1, if_pos rfl, ea, gBv_s]
                obtain ⟨q1, q2, q3, q4, q5, q6⟩ := hx9
                obtain ⟨s1, s2, s3⟩ := hm9
                have ew : ∀ c, c ∈ [28, 29, 30, 31, 32] → w9.1 c = w.1 c := fun c hc => fx9.at (fun zz => by subst zz; simp at hc)
                refine ⟨wa, rfl, ⟨?_, ?_, ?_, ?_, q5, q6⟩, ⟨?_, ?_, ?_⟩, ⟨by omega, by rw [a27], by rw [gU0, nI_add], fun i hi => ?_⟩, hpp, ⟨fun c hc => ?_, ?_, ?_⟩, t9.1.tr ⟨fun c hc => gU1 (by simp at hc; omega), fun i hi => gU2 (by simp at hi; omega)⟩⟩
                · rw [sa 20 (by decide)]; exact q1
                · rw [sa 19 (by decide)]; exact q2
                · rw [sa 19 (by decide)]; exact q3
                · rw [sa 19 (by decide)]; exact q4
                · rw [gU1 (by omega)]; exact s1
                · rw [gU2 (by omega)]; exact s2
                · rw [gU2 (by omega)]; exact s3
                · rw [gU1 (by omega), gU1 (by omega), gU1 (by omega), gU1 (by omega), a28, a29, a30, a31, ew 28 (by decide), ew 29 (by decide), ew 30 (by decide), ew 31 (by decide)]
                  by_cases ei : i = n
                  · subst ei
                    have u : ∀ (f : Nat → Int32) (x : Int32), upd f i x i = x := fun f x => if_pos rfl
                    rw [u, u, u, u, k13, k14, k15, k17, a32, ew 28 (by decide), ew 29 (by decide)]
                    refine ⟨⟨rfl, rfl, rfl, rfl⟩, ⟨g, by omega, rfl⟩, ⟨t, by omega, rfl⟩, ⟨r, hr, rfl⟩, ⟨z, hz, rfl⟩, ?_⟩
                    have hu : ∀ (f : Nat → Int32) (x : Int32) k, k < i → upd f i x k = f k := fun f x k hk => if_neg (by omega)
                    by_cases cc : ∃ k, k < i ∧ w.1 28 k = nI g ∧ w.1 29 k = nI t
                    · obtain ⟨k, c1, c2, c3⟩ := cc
                      rw [b2i_f (not_not_intro ⟨k, c1, c2, c3⟩), b2i_f (not_not_intro ⟨k, c1, by rw [hu _ _ _ c1]; exact c2, by rw [hu _ _ _ c1]; exact c3⟩)]
                    · rw [b2i_t cc, b2i_t]
                      rintro ⟨k, c1, c2, c3⟩
                      rw [hu _ _ _ c1] at c2 c3
                      exact cc ⟨k, c1, c2, c3⟩
                  · have hin : i < n := by omega
                    have hu : ∀ (f : Nat → Int32) (x : Int32) k, k < n → upd f n x k = f k := fun f x k hk => if_neg (by omega)
                    obtain ⟨⟨m1, m2, m3, m4⟩, m5, m6, m7, m8, m9⟩ := hws i hin
                    obtain ⟨y1, y2, y3, y4⟩ := t9.2.2 i hin
                    rw [hu _ _ _ hin, hu _ _ _ hin, hu _ _ _ hin, hu _ _ _ hin, y1, y2, y3, y4, b32 i ei, ew 32 (by decide)]
                    refine ⟨⟨m1, m2, m3, m4⟩, m5, m6, m7, m8, ?_⟩
                    rw [m9]
                    by_cases cc : ∃ k, k < i ∧ w.1 28 k = w.1 28 i ∧ w.1 29 k = w.1 29 i
                    · obtain ⟨k, c1, c2, c3⟩ := cc
                      rw [b2i_f (not_not_intro ⟨k, c1, c2, c3⟩), b2i_f (not_not_intro ⟨k, c1, by rw [hu _ _ _ (by omega)]; exact c2, by rw [hu _ _ _ (by omega)]; exact c3⟩)]
                    · rw [b2i_t cc, b2i_t]
                      rintro ⟨k, c1, c2, c3⟩
                      rw [hu _ _ _ (by omega)] at c2 c3
                      exact cc ⟨k, c1, c2, c3⟩
                · rw [sa c (fun zz => hc (by simp at zz ⊢; omega))]
                  exact fx9.at (fun zz => hc (by simp [zz]))
                · rw [sa 19 (by decide)]; exact fx9.2.1
                · rw [sa 19 (by decide)]; exact fx9.2.2
              by_cases cP : pkV B len pos7 = nI 43
              · rw [if_pos cP, if_pos cP]
                try dsimp only
                have hplp := pkV_lt (by omega) cP
                have hm9 : MT B (gU v8 17 n (nI 1 &&& nI 1)) len pos7 := hm8.c (by decide)
                rw [gLet_s, gG_in (by omega) (by omega), nI_clamp (by omega), gLet_s, m_here hm9 p7 h6, gBi_s, if_pos cP, gLet_s]
                try dsimp only
                rw [hm9.2.2, nI_add, gLet_s, gU2 (by omega), gU1 (by omega), t8.2.1]
                unfold xWk3
                rw [if_neg nI_10, x_sign1 hx7 cP, gBv_s]
                obtain ⟨w', e1, e2, e3, e4, e5, e6, e7⟩ := fin 1 (gU w7 19 3 (nI (pos7 + 1))) (gU (gU v8 17 n (nI 1 &&& nI 1)) 0 15 (nI (pos7 + 1))) (pos7 + 1) (by omega) (by omega) (hx7.adv hplp) hm9.adv (hfx.tr (FX.u (by omega))) ((t8.c (by decide)).fm (FM.u (by decide))) (by rw [gU1 (by omega), gU1 (by omega)]; exact g13) (by rw [gU1 (by omega), gU1 (by omega)]; exact g14) (by rw [gU1 (by omega), gU1 (by omega)]; exact g15) (by rw [gU1 (by omega), gU0]; decide)
                exact Or.inl ⟨w', _, pos7 + 1, e1, rfl, e2, e3, e4, e5, e6, e7⟩
              · rw [if_neg cP, if_neg cP]
                try dsimp only
                have hm9 : MT B (gU v8 17 n (nI 0 &&& nI 1)) len pos7 := hm8.c (by decide)
                rw [gLet_s, gG_in (by omega) (by omega), nI_clamp (by omega), gLet_s, m_here hm9 p7 h6, gBi_s, if_neg cP]
                try dsimp only
                rw [gLet_s, gU1 (by omega), t8.2.1]
                unfold xWk3
                rw [if_pos rfl]
                obtain ⟨w', e1, e2, e3, e4, e5, e6, e7⟩ := fin 0 w7 (gU v8 17 n (nI 0 &&& nI 1)) pos7 (by omega) hpos hx7 hm9 hfx (t8.c (by decide)) (by rw [gU1 (by omega)]; exact g13) (by rw [gU1 (by omega)]; exact g14) (by rw [gU1 (by omega)]; exact g15) (by rw [gU0]; decide)
                exact Or.inl ⟨w', _, pos7, e1, rfl, e2, e3, e4, e5, e6, e7⟩
            · refine Or.inr ⟨w7, v7, ?_, ?_, hff, (fx6.tr fx7).g, (t6.fm fm7).1⟩
              · rw [er, gBi_s, d_room hff.xd]
              · rw [em, gBi_s, if_pos rfl]
          · have hff : FF (gU w4 19 4 (fc 1 (pos + 1 + 1 + 1))) (gU v5 0 17 (fc 1 (pos + 1 + 1 + 1))) := FF.mk (by omega) (by omega) (by omega)
            refine Or.inr ⟨_, _, ?_, ?_, hff, (fx4.tr (FX.u (by omega))).g, (t5.fm (FM.u (by decide))).1⟩
            · rw [x_sign0 hx4 cB, gBv_s, d_readRoom hff.xd, gBi_s, d_room hff.xd]
            · rw [m_sign0 hm5 p4 h6 cB, gBi_s, if_pos rfl]
        · have hn6 : ∀ d, d ≤ 6 → pkV B len (pos + 1 + 1) ≠ nI (48 + d) := fun d hd hc => cN ⟨d, hd, hc⟩
          have hff : FF (gU w3 19 4 (fc 1 (pos + 1 + 1))) (gU v3 0 17 (fc 1 (pos + 1 + 1))) := FF.mk (by omega) (by omega) (by omega)
          refine Or.inr ⟨_, _, ?_, ?_, hff, (fx3.tr (FX.u (by omega))).g, (t3.fm (FM.u (by decide))).1⟩
          · rw [x_digit0 hB hx3 (by omega) hn6, gBi_s, d_takeSign hff.xd (by omega), gBv_s, d_readRoom hff.xd, gBi_s, d_room hff.xd]
          · rw [m_digit0 hB hm3 p3 h6 (by omega) hn6, gBi_s, if_pos rfl]
      · have hff : FF (gU w1 19 4 (fc 1 (pos + 1))) (gU v2 0 17 (fc 1 (pos + 1))) := FF.mk (by omega) (by omega) (by omega)
        refine Or.inr ⟨_, _, ?_, ?_, hff, (fx1.tr (FX.u (by omega))).g, (t2.fm (FM.u (by decide))).1⟩
        · rw [x_sign0 hx1 cA, gBv_s, d_takeDigit hff.xd, gBi_s, d_takeSign hff.xd (by omega), gBv_s, d_readRoom hff.xd, gBi_s, d_room hff.xd]
        · rw [m_sign0 hm2 p1 h6 cA, gBi_s, if_pos rfl]
  · have hn : ∀ d, d ≤ 9 → pkV B len pos ≠ nI (48 + d) := fun d hd hc => cD ⟨d, hd, hc⟩
    have hff : FF (gU w 19 4 (fc 1 pos)) (gU v 0 17 (fc 1 pos)) := FF.mk (by omega) (by omega) (by omega)
    refine Or.inr ⟨gU w 19 4 (fc 1 pos), gU v 0 17 (fc 1 pos), ?_, ?_, hff, (FX.u (by omega)).g, (FM.u (by decide)).g⟩
    · have k : xWk N w = some (gU w 19 4 (fc 1 pos)) := by
        unfold xWk
        rw [x_digit0 hB hx (by omega) hn, gBi_s, d_takeSign hff.xd (by omega), gBv_s, d_takeDigit hff.xd, gBi_s, d_takeSign hff.xd (by omega), gBv_s, d_readRoom hff.xd, gBi_s, d_room hff.xd]
      rw [x_at0 hB hx hn, gBi_s, if_pos rfl, k]
      split <;> rfl
    · rw [m_at0 hB hm h5 h6 hn, gBi_s, if_pos rfl, hm.2.2]
      exact wr v
