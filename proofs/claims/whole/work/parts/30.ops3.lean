theorem nI_or (a b : Nat) : nI a ||| nI b = nI (a ||| b) := by
  unfold nI
  refine Int32.toBitVec_inj.mp ?_
  show BitVec.ofNat 32 a ||| BitVec.ofNat 32 b = BitVec.ofNat 32 (a ||| b)
  exact (BitVec.ofNat_or).symm
theorem shl1 {j : Nat} (hj : j < 10) : gShl (nI 1) (nI j) = nI (2 ^ j) := (by decide : ∀ j : Fin 10, gShl (nI 1) (nI j.1) = nI (2 ^ j.1)) ⟨j, hj⟩
theorem mask_bl {m : Int32} {j : Nat} (h : Bl m 1024) (hj : j < 10) : Bl (m ||| gShl (nI 1) (nI j)) 1024 := by
  obtain ⟨v, hv, rfl⟩ := h
  rw [shl1 hj, nI_or]
  refine ⟨_, ?_, rfl⟩
  have := Nat.or_lt_two_pow (n := 10) hv (Nat.pow_lt_pow_right (show 1 < 2 by omega) hj)
  exact this
theorem out1 {α : Type} {a : Int32} {k : Nat} (hk : k < 2 ^ 30) (h : a < nI 0 ∨ nI (k + 1) ≤ a) (s t : α) : (if a < nI 0 then s else if a ≤ nI k then t else s) = s := by
  by_cases h1 : a < nI 0
  · rw [if_pos h1]
  · rw [if_neg h1, if_neg (Int32.not_le.mpr (lt_of_le1 hk (h.resolve_left h1)))]
theorem in1 {α : Type} {j k : Nat} (hj : j ≤ k) (hk : k < 2 ^ 30) (s t : α) : (if nI j < nI 0 then s else if nI j ≤ nI k then t else s) = t := by
  simp (disch := omega) only [nI_add, nI_mul, nI_clamp, nI_leI, nI_ltI, nI_eq, pk_sub, pk_div, nI_rem, gG_in]
  rw [if_neg (by omega), if_pos hj]
theorem out2 {α : Type} {a : Int32} {k : Nat} (h : a < nI 0 ∨ nI k ≤ a) (s t : α) : (if a < nI 0 then s else if nI k ≤ a then s else t) = s := by
  by_cases h1 : a < nI 0
  · rw [if_pos h1]
  · rw [if_neg h1, if_pos (h.resolve_left h1)]
theorem in2 {α : Type} {j k : Nat} (hj : j < k) (hk : k < 2 ^ 30) (s t : α) : (if nI j < nI 0 then s else if nI k ≤ nI j then s else t) = t := by
  simp (disch := omega) only [nI_add, nI_mul, nI_clamp, nI_leI, nI_ltI, nI_eq, pk_sub, pk_div, nI_rem, gG_in]
  rw [if_neg (by omega), if_neg (by omega)]
theorem bl_row {f : Nat → Int32} {p : Nat → Prop} [DecidablePred p] {v : Int32} (h : ∀ i, i < 70 → Bl (f i) 12 ∨ f i = nI 255) (hv : Bl v 12 ∨ v = nI 255) : ∀ i, i < 70 → Bl (if p i then v else f i) 12 ∨ (if p i then v else f i) = nI 255 := fun i hi => by
  by_cases e : p i
  · rw [if_pos e]; exact hv
  · rw [if_neg e]; exact h i hi
theorem o_sleeper {N : Nat} (hN : 5000 ≤ N) {wx wm : gT} (h : Rel N wx wm) (a b : Int32) : OpOk N (xX9_sleeper N a b wx) (xX10_sleeper N a b wm) := by
  unfold xX9_sleeper xX10_sleeper
  rcases in_or a 10 (by omega) with ⟨j, hj, rfl⟩ | q
  · rw [m_in1 (by omega) (by omega) (by omega), in2 hj (by omega)]
    simp only [gBi_s]
    rw [if_neg nI_10]
    rcases in_or b 10 (by omega) with ⟨k, hk, rfl⟩ | q
    · rw [m_in1 (by omega) (by omega) (by omega), x_dig1 hk]
      simp only [gBi_s, gLet]
      rw [if_neg nI_10, if_neg nI_10, gG_in hj (by omega), m_tellBeds hN hj]
      unfold xX2_tellSleeper
      simp only [gLet]
      rw [gG_in hj (by omega), x_tellBeds hN hj]
      simp (disch := omega) only [nI_add, nI_mul, nI_clamp, nI_leI, nI_ltI, nI_eq, pk_sub, pk_div, nI_rem, gG_in]
      rw [gBv_s]
      refine OpOk.o ?_
      obtain ⟨D, ⟨⟨r1, r2, r3, r4, r5, r6, r7, r8, r9, r10⟩, R⟩, h2, ⟨⟨e1, e2, e3, e4, e5, e6, e7, e8, e9⟩, E2, ⟨c1, c2, c3, c4⟩, E4⟩, h4⟩ := h.nf
      refine Rel.mk (D := D) ⟨⟨r1, bl_row r2 (Or.inr rfl), bl_if r3 ⟨k, hk, rfl⟩, r4, r5, r6, r7, r8, mask_bl r9 hj, r10⟩, R⟩ h2 ⟨⟨e1, gU_sm e2, ?_, e4, e5, e6, e7, fun i hi h5 => ?_, ?_⟩, E2, ⟨c1, c2, ?_, c4⟩, E4⟩ h4
      · funext i
        show (if i < 70 ∧ i % 10 = j then nI 255 else wm.1 3 i) = (if i < 70 ∧ i % 10 = j then nI 255 else wx.1 3 i)
        rw [show wm.1 3 = wx.1 3 from e3]
      · show (if i = 10 + j then nI 0 else wm.1 8 i) = (if i = 10 + j then nI 0 else wx.1 9 i)
        rw [show wm.1 8 i = wx.1 9 i from e8 i hi h5]
      · show (if 5 = 10 + j then nI 0 else wm.1 8 5) = wx.1 1 12
        rw [if_neg (by omega)]
        exact e9
      · show wm.1 0 3 ||| _ = wx.1 1 9 ||| _
        rw [show wm.1 0 3 = wx.1 1 9 from c3]
    · rw [m_in0 (by omega) q (by omega), x_dig0 q]
      simp only [gBi_s]
      rw [if_pos trivial]
      exact OpOk.o h
  · rw [m_in0 (by omega) q (by omega), out2 q]
    simp only [gBi_s]
    rw [if_pos trivial]
    exact OpOk.o h
def rowU (w : gT) (j a b : Nat) (v : Int32) : gT := ((fun c i => if c = 3 then (if a ≤ i / 10 ∧ i / 10 < b ∧ i % 10 = j then v else w.1 3 i) else w.1 c i), w.2)
theorem row_loop {N : Nat} (hN : 5000 ≤ N) {F : (Int32 → gT → Option (Int32 × gT)) → Int32 → gT → Option (Int32 × gT)} {j a b : Nat} {v : Int32} (hj : j < 10) (hab : a < b) (hb : b ≤ 7) (w : gT) (hF : ∀ go n w, n ≤ b → F go (nI n) w = if b ≤ n then some (nI 1, w) else go (nI (n + 1)) (gU w 3 (n * 10 + j) v)) : gW1 F N (nI a) w = some (nI 1, rowU w j a b v) := by
  refine gW1_ind (fun t => t = some (nI 1, rowU w j a b v)) (fun m x w1 => ∃ n, a ≤ n ∧ n ≤ b ∧ x = nI n ∧ m = b - n ∧ w1 = rowU w j a n v) ?_ N (b - a) _ w (by omega) ⟨a, by omega, by omega, rfl, rfl, ?_⟩
  · rintro m go x w1 ⟨n, hn0, hn, rfl, rfl, rfl⟩ ih
    rw [hF _ _ _ hn]
    by_cases h : b ≤ n
    · have : n = b := by omega
      subst this
      rw [if_pos h]
    · rw [if_neg h]
      refine ih (b - (n + 1)) _ _ (by omega) ⟨n + 1, by omega, by omega, rfl, rfl, ?_⟩
      unfold gU rowU
      refine congrArg (fun z => (z, w.2)) (funext fun c => funext fun i => ?_)
      by_cases hc : c = 3
      · rw [if_pos hc, if_pos hc]
        dsimp only
        rw [if_pos hc]
        by_cases hi : i = n * 10 + j
        · rw [if_pos hi, if_pos (by omega)]
        · rw [if_neg hi]
          by_cases h2 : a ≤ i / 10 ∧ i / 10 < n ∧ i % 10 = j
          · rw [if_pos h2, if_pos (by omega)]
          · rw [if_neg h2, if_neg (by omega)]
      · rw [if_neg hc, if_neg hc]
        dsimp only
        rw [if_neg hc]
  · refine Prod.ext (funext fun c => funext fun i => ?_) rfl
    show w.1 c i = if c = 3 then (if a ≤ i / 10 ∧ i / 10 < a ∧ i % 10 = j then v else w.1 3 i) else w.1 c i
    by_cases hc : c = 3
    · rw [if_pos hc, if_neg (by omega), hc]
    · rw [if_neg hc]
theorem o_sleeps {N : Nat} (hN : 5000 ≤ N) {wx wm : gT} (h : Rel N wx wm) (a b c d : Int32) : OpOk N (xX9_sleeps N a b c d wx) (xX10_sleeps N a b c d wm) := by
  unfold xX9_sleeps xX10_sleeps
  rcases in_or a 10 (by omega) with ⟨j, hj, rfl⟩ | q
  · rw [x_hasSleeper _ hj, m_isSleeper _ hj]
    simp only [gBi_s, b2i_0]
    obtain ⟨D, ⟨⟨r1, r2, r3⟩, R⟩, h2, ⟨⟨e1, e2, e3, e4⟩, E2, ⟨c1, c2, c3, c4⟩, E4⟩, h4⟩ := h.nf
    rw [show wm.1 0 3 = wx.1 1 9 from c3]
    by_cases t : tol (wx.1 1 9) j
    · rw [if_neg (not_not_intro t), if_neg (not_not_intro t)]
      rcases in_or b 7 (by omega) with ⟨f, hf, rfl⟩ | q
      · have hf0 : ¬ nI f < nI 0 := by rw [nI_ltI (by omega) (by omega)]; omega
        rw [m_night1 hf, if_neg hf0]
        simp only [gBi_s]
        rw [if_neg nI_10, nI_add]
        rcases in_or c 8 (by omega) with ⟨g, hg, rfl⟩ | q
        · have hg0 : ¬ nI 7 < nI g := by rw [nI_ltI (by omega) (by omega)]; omega
          rw [if_neg hg0]
          by_cases hfg0 : nI f < nI g
          · have hfg : f < g := by rw [nI_ltI (by omega) (by omega)] at hfg0; exact hfg0
            rw [m_in1 (by omega) (by omega) (by omega), if_pos hfg0]
            simp only [gBi_s, gLet]
            rw [if_neg nI_10]
            have key : ∀ v : Int32, (Bl v 12 ∨ v = nI 255) → v = (if d = (-1) then nI 255 else d) → OpOk N (gW1 (xX9_sleeps_b47 (nI j) (nI g) d) N (nI f) wx) (gW1 (xX10_sleeps_b46 (nI j) (nI g) d) N (nI f) wm) := by
              intro v hv ev
              rw [row_loop (F := xX9_sleeps_b47 (nI j) (nI g) d) hN hj hfg (by omega) (v := v), row_loop (F := xX10_sleeps_b46 (nI j) (nI g) d) hN hj hfg (by omega) (v := v)]
              · refine OpOk.o (Rel.mk (D := D) ⟨⟨r1, bl_row r2 hv, r3⟩, R⟩ h2 ⟨⟨e1, e2, ?_, e4⟩, E2, ⟨c1, c2, c3, c4⟩, E4⟩ h4)
                funext i
                show (if _ then v else wm.1 3 i) = (if _ then v else wx.1 3 i)
                rw [show wm.1 3 = wx.1 3 from e3]
              · intro go n w hn
                unfold xX10_sleeps_b46
                simp (disch := omega) only [nI_add, nI_mul, nI_clamp, nI_leI, nI_ltI, nI_eq, pk_sub, pk_div, nI_rem, gG_in]
                by_cases hgn : g ≤ n
                · rw [if_pos hgn, if_pos hgn]
                · rw [if_neg hgn, if_neg hgn, ev]
                  simp only [gLet]
                  rw [Nat.mul_comm 10 n]
                  simp (disch := omega) only [nI_add, nI_mul, nI_clamp, nI_leI, nI_ltI, nI_eq, pk_sub, pk_div, nI_rem, gG_in]
                  by_cases hd : d = (-1)
                  · rw [if_pos hd, if_pos hd]
                  · rw [if_neg hd, if_neg hd]
              · intro go n w hn
                unfold xX9_sleeps_b47
                simp (disch := omega) only [nI_add, nI_mul, nI_clamp, nI_leI, nI_ltI, nI_eq, pk_sub, pk_div, nI_rem, gG_in]
                by_cases hgn : g ≤ n
                · rw [if_pos hgn, if_pos hgn]
                · rw [if_neg hgn, if_neg hgn, ev]
                  simp only [gLet]
                  simp (disch := omega) only [nI_add, nI_mul, nI_clamp, nI_leI, nI_ltI, nI_eq, pk_sub, pk_div, nI_rem, gG_in]
                  by_cases hd : d = (-1)
                  · rw [if_pos hd, if_pos hd]
                  · rw [if_neg hd, if_neg hd]
            by_cases hd : d = (-1)
            · have k0 := key (nI 255) (Or.inr rfl) (if_pos hd).symm
              rw [if_pos hd, if_pos hd]
              exact k0
            · rw [if_neg hd, if_neg hd]
              rcases in_or d 12 (by omega) with ⟨k, hk, rfl⟩ | q
              · rw [x_room1 hk, m_room1 hk]
                simp only [gBi_s]
                rw [if_neg nI_10, if_neg nI_10]
                exact key (nI k) (Or.inl ⟨k, hk, rfl⟩) (if_neg hd).symm
              · rw [x_room0 q, m_room0 q]
                simp only [gBi_s]
                rw [if_pos trivial]
                exact OpOk.o h
          · have hfg : ¬ f < g := by rw [nI_ltI (by omega) (by omega)] at hfg0; exact hfg0
            rw [m_inx (by omega) (by omega) (by omega) (by omega), if_neg hfg0]
            simp only [gBi_s]
            rw [if_pos trivial]
            exact OpOk.o h
        · rw [m_in0 (by omega) q (by omega)]
          simp only [gBi_s]
          rw [if_pos trivial]
          by_cases q1 : nI 7 < c
          · rw [if_pos q1]; exact OpOk.o h
          · rw [if_neg q1, if_neg]; · exact OpOk.o h
            rcases q with q | q
            · intro z
              have z1 := Int32.lt_iff_toInt_lt.mp z
              have z2 := Int32.lt_iff_toInt_lt.mp q
              rw [nI_toInt (by omega)] at z1
              have e0 : (0 : Int32).toInt = 0 := by decide
              omega
            · exact absurd (lt_of_le1 (by omega) q) q1
      · rw [m_night0 q]
        simp only [gBi_s]
        rw [if_pos trivial]
        by_cases q1 : b < nI 0
        · rw [if_pos q1]; exact OpOk.o h
        · rw [if_neg q1]
          by_cases q2 : nI 7 < c
          · rw [if_pos q2]; exact OpOk.o h
          · rw [if_neg q2, if_neg]; · exact OpOk.o h
            have z1 := Int32.le_iff_toInt_le.mp (q.resolve_left q1)
            have z2 := Int32.le_iff_toInt_le.mp (Int32.not_lt.mp q2)
            rw [Int32.lt_iff_toInt_lt]
            omega
    · rw [if_pos t, if_pos t]
      exact OpOk.o h
  · rw [x_hasSleeper_o _ q, m_isSleeper_o _ q]
    simp only [gBi_s]
    rw [if_pos trivial]
    exact OpOk.o h
theorem Rel.u8 {N : Nat} {wx wm : gT} {j : Nat} (h : Rel N wx wm) (hj : j < 10) : Rel N (gU wx 1 8 (wx.1 1 8 ||| gShl (nI 1) (nI j))) (gU wm 0 4 (wm.1 0 4 ||| gShl (nI 1) (nI j))) := by
  obtain ⟨D, ⟨⟨r1, r2, r3, r4, r5, r6, r7, r8, r9⟩, R⟩, h2, ⟨E1, E2, ⟨c1, c2, c3, c4, c5⟩, E4⟩, h4⟩ := h.nf
  refine Rel.mk (D := D) ⟨⟨r1, r2, r3, r4, r5, r6, r7, mask_bl r8 hj, r9⟩, R⟩ h2 ⟨E1, E2, ⟨c1, c2, c3, ?_, c5⟩, E4⟩ h4
  show wm.1 0 4 ||| _ = wx.1 1 8 ||| _
  rw [show wm.1 0 4 = wx.1 1 8 from c4]
theorem Rel.u5 {N : Nat} {wx wm : gT} {j : Nat} {v : Int32} (h : Rel N wx wm) (hv : Bl v 5) : Rel N (gU wx 5 j v) (gU wm 4 j v) := by
  obtain ⟨D, ⟨⟨r1, r2, r3, r4, r5⟩, R⟩, h2, ⟨⟨e1, e2, e3, e4, e5⟩, E2⟩, h4⟩ := h.nf
  exact Rel.mk (D := D) ⟨⟨r1, r2, r3, bl_if r4 hv, r5⟩, R⟩ h2 ⟨⟨e1, e2, e3, gU_sm e4, e5⟩, E2⟩ h4
theorem Rel.u6 {N : Nat} {wx wm : gT} {j : Nat} {v : Int32} (h : Rel N wx wm) (hv : Bl v 10) : Rel N (gU wx 6 j v) (gU wm 5 j v) := by
  obtain ⟨D, ⟨⟨r1, r2, r3, r4, r5, r6⟩, R⟩, h2, ⟨⟨e1, e2, e3, e4, e5, e6⟩, E2⟩, h4⟩ := h.nf
  exact Rel.mk (D := D) ⟨⟨r1, r2, r3, r4, bl_if r5 hv, r6⟩, R⟩ h2 ⟨⟨e1, e2, e3, e4, gU_sm e5, e6⟩, E2⟩ h4
theorem Rel.u7 {N : Nat} {wx wm : gT} {j : Nat} {v : Int32} (h : Rel N wx wm) (hv : Bl v 10) : Rel N (gU wx 7 j v) (gU wm 6 j v) := by
  obtain ⟨D, ⟨⟨r1, r2, r3, r4, r5, r6, r7⟩, R⟩, h2, ⟨⟨e1, e2, e3, e4, e5, e6, e7⟩, E2⟩, h4⟩ := h.nf
  exact Rel.mk (D := D) ⟨⟨r1, r2, r3, r4, r5, bl_if r6 hv, r7⟩, R⟩ h2 ⟨⟨e1, e2, e3, e4, e5, gU_sm e6, e7⟩, E2⟩ h4
theorem Rel.uy {N : Nat} {wx wm : gT} {j : Nat} {v : Int32} (h : Rel N wx wm) (hv : Bl v 1000) : Rel N (gU wx 8 j v) (gU wm 7 j v) := by
  obtain ⟨D, ⟨⟨r1, r2, r3, r4, r5, r6, r7, r8⟩, R⟩, h2, ⟨⟨e1, e2, e3, e4, e5, e6, e7, e8⟩, E2⟩, h4⟩ := h.nf
  exact Rel.mk (D := D) ⟨⟨r1, r2, r3, r4, r5, r6, bl_if r7 hv, r8⟩, R⟩ h2 ⟨⟨e1, e2, e3, e4, e5, e6, gU_sm e7, e8⟩, E2⟩ h4
theorem Rel.u9 {N : Nat} {wx wm : gT} {j : Nat} {v : Int32} (h : Rel N wx wm) (hj : j ≠ 5) : Rel N (gU wx 9 j v) (gU wm 8 j v) := by
  obtain ⟨D, h1, h2, ⟨⟨e1, e2, e3, e4, e5, e6, e7, e8, e9⟩, E2⟩, h4⟩ := h.nf
  refine Rel.mk (D := D) h1 h2 ⟨⟨e1, e2, e3, e4, e5, e6, e7, fun i hi h5 => ?_, ?_⟩, E2⟩ h4
  · show (if i = j then v else wm.1 8 i) = (if i = j then v else wx.1 9 i)
    rw [show wm.1 8 i = wx.1 9 i from e8 i hi h5]
  · show (if 5 = j then v else wm.1 8 5) = wx.1 1 12
    rw [if_neg (fun z => hj z.symm)]
    exact e9
theorem x_tellGhost {j : Nat} (hj : j < 10) (b c d e : Int32) (w : gT) : xX2_tellGhost (nI j) b c d e w = some (gU (gU (gU (gU (gU (gU (gU w 1 8 (w.1 1 8 ||| gShl (nI 1) (nI j))) 5 j b) 6 j c) 7 j d) 8 j e) 9 (20 + j) (nI 0)) 9 (30 + j) (nI 0)) := by
  unfold xX2_tellGhost
  dsimp only [gLet]
  rw [gG_in hj (by omega), gG_in hj (by omega), gG_in hj (by omega), gG_in hj (by omega), nI_add, nI_add, gG_in (by omega) (by omega), gG_in (by omega) (by omega), nI_clamp (by omega), nI_clamp (by omega), nI_clamp (by omega)]
theorem m_in999 {n : Nat} (hn : n < 1000) (w : gT) : xX10_in (nI n) (nI 0) (nI 999) w = some (nI 1, w) := by
  have a0 : ¬ nI n < nI 0 := by rw [nI_ltI (by omega) (by omega)]; omega
  have a1 : ¬ nI 999 < nI n := by rw [nI_ltI (by omega) (by omega)]; omega
  unfold xX10_in
  rw [if_neg a0, if_neg a1]
theorem o_ghost {N : Nat} {wx wm : gT} (h : Rel N wx wm) (a b c d e : Int32) : OpOk N (xX9_ghost a b c d e wx) (xX10_ghost a b c d e wm) := by
  unfold xX9_ghost xX10_ghost
  rcases in_or a 10 (by omega) with ⟨j, hj, rfl⟩ | q
  · rw [m_in1 (by omega) (by omega) (by omega), in2 hj (by omega)]
    simp only [gBi_s]
    rw [if_neg nI_10]
    rcases in_or b 5 (by omega) with ⟨k, hk, rfl⟩ | q
    · rw [m_in1 (by omega) (by omega) (by omega), in1 (by omega) (by omega)]
      simp only [gBi_s]
      rw [if_neg nI_10]
      rcases in_or c 10 (by omega) with ⟨l, hl, rfl⟩ | q
      · rw [m_in1 (by omega) (by omega) (by omega), x_dig1 hl]
        simp only [gBi_s]
        rw [if_neg nI_10, if_neg nI_10]
        rcases in_or d 10 (by omega) with ⟨m, hm, rfl⟩ | q
        · rw [m_in1 (by omega) (by omega) (by omega), x_dig1 hm]
          simp only [gBi_s]
          rw [if_neg nI_10, if_neg nI_10]
          rcases in_or e 1000 (by omega) with ⟨n, hn, rfl⟩ | q
          · have a0 : ¬ nI n < nI 0 := by rw [nI_ltI (by omega) (by omega)]; omega
            have a1 : nI n ≤ nI 999 := by rw [nI_leI (by omega) (by omega)]; omega
            rw [if_neg a0, if_pos a1, m_in999 hn, gBi_s, if_neg nI_10]
            rw [x_tellGhost hj, gBv_s, nI_add, nI_add, gLet_s, gG_in hj (by omega), gLet_s, gG_in hj (by omega), gLet_s, gG_in hj (by omega), gLet_s, gG_in hj (by omega), gLet_s, gG_in (by omega) (by omega), gLet_s, gG_in (by omega) (by omega), gLet_s, nI_clamp (by omega), nI_clamp (by omega), nI_clamp (by omega)]
            refine OpOk.o ?_
            have t1 := h.u8 hj
            have t2 := t1.u5 (j := j) ⟨k, hk, rfl⟩
            have t3 := t2.u6 (j := j) ⟨l, hl, rfl⟩
            have t4 := t3.u7 (j := j) ⟨m, hm, rfl⟩
            have t5 := t4.uy (j := j) ⟨n, hn, rfl⟩
            have t6 := t5.u9 (j := 20 + j) (v := nI 0) (by omega)
            exact t6.u9 (by omega)
          · rw [m_in0 (by omega) q (by omega), out1 (by omega) q]
            simp only [gBi_s]
            rw [if_pos trivial]
            exact OpOk.o h
        · rw [m_in0 (by omega) q (by omega), x_dig0 q]
          simp only [gBi_s]
          rw [if_pos trivial]
          exact OpOk.o h
      · rw [m_in0 (by omega) q (by omega), x_dig0 q]
        simp only [gBi_s]
        rw [if_pos trivial]
        exact OpOk.o h
    · rw [m_in0 (by omega) q (by omega), out1 (by omega) q]
      simp only [gBi_s]
      rw [if_pos trivial]
      exact OpOk.o h
  · rw [m_in0 (by omega) q (by omega), out2 q]
    simp only [gBi_s]
    rw [if_pos trivial]
    exact OpOk.o h
