theorem ifb {α : Type} {p : Prop} [Decidable p] {s t : α} : (if b2i p = nI 0 then s else t) = if p then t else s := by
  by_cases h : p
  · rw [if_neg (fun z => (b2i_0.mp z) h), if_pos h]
  · rw [if_pos (b2i_0.mpr h), if_neg h]
theorem o_walk {N : Nat} (hN : 5000 ≤ N) {wx wm : gT} (h : Rel N wx wm) (a b : Int32) : OpOk N (xX9_walk a b wx) (xX10_walk N a b wm) := by
  obtain ⟨D, hR, h2, hM, h4⟩ := h.nf
  have hX : EncX N (wx.1, D) wx := EncX.of h2
  obtain ⟨hW0, hW⟩ := spW_le hR
  have hWe : spW (wx.1, D).1 = spW wx.1 := rfl
  unfold xX9_walk xX10_walk
  rw [hM.wk, hW0]
  by_cases q0 : a < nI 0
  · rw [if_pos q0, if_pos q0]; exact OpOk.o h
  rw [if_neg q0, if_neg q0]
  obtain ⟨j, hj, rfl⟩ := nI_of q0
  by_cases q1 : nI j < nI (spW wx.1)
  · rw [if_pos q1, if_pos q1]
    have hi : j < spW wx.1 := by rw [nI_ltI (by omega) (by omega)] at q1; exact q1
    obtain ⟨k1, k2, k3, k4⟩ := hM.wl j hi
    have l : j < 16 := Nat.lt_of_lt_of_le hi hW
    rw [gG_in l (by omega), gG_in l (by omega), gG_in l (by omega), gG_in l (by omega), gG_in l (by omega), gG_in l (by omega), gG_in l (by omega), gG_in l (by omega), x_isGone hX hR hi, m_counts hN hM hR hi, gBi_s, gBi_s, nI_clamp (by omega), k1, k2, k3, k4]
    by_cases b0 : b = nI 0
    · rw [if_pos b0, if_pos b0]; exact OpOk.o h
    rw [if_neg b0, if_neg b0]
    by_cases b1 : b = nI 1
    · rw [if_pos b1, if_pos b1]; exact OpOk.o h
    rw [if_neg b1, if_neg b1]
    by_cases b2 : b = nI 2
    · rw [if_pos b2, if_pos b2]; exact OpOk.o h
    rw [if_neg b2, if_neg b2]
    by_cases b3 : b = nI 3
    · rw [if_pos b3, if_pos b3]
      rcases bl2 (hR.2.2.1.2 j hi).2.2.2.1 with e | e
      · rw [if_pos e, show wx.1 25 j = nI 0 from e]; exact OpOk.o h
      · rw [if_neg (by rw [e]; decide), show wx.1 25 j = nI 1 from e]; exact OpOk.o h
    rw [if_neg b3, if_neg b3]
    by_cases b4 : b = nI 4
    · rw [if_pos b4, if_pos b4, ifb, ifb]
      by_cases g : spGone (wx.1, D) j
      · rw [if_pos g, if_pos g]; exact OpOk.o h
      · rw [if_neg g, if_neg g]; exact OpOk.o h
    · rw [if_neg b4, if_neg b4]; exact OpOk.o h
  · rw [if_neg q1, if_neg q1]; exact OpOk.o h
theorem o_fright {N : Nat} (hN : 5000 ≤ N) {wx wm : gT} (h : Rel N wx wm) (a b c d e : Int32) : OpOk N (xX9_fright N a b c d e wx) (xX10_fright N a b c d e wm) := by
  obtain ⟨D, hR, h2, hM, h4⟩ := h.nf
  have hX : EncX N (wx.1, D) wx := EncX.of h2
  unfold xX9_fright xX10_fright
  rcases in_or a 10 (by omega) with ⟨g, hg, rfl⟩ | q
  · rw [x_hasGhost _ hg, m_isGhost _ hg, gBi_s, gBi_s, ifb, ifb, hM.gh]
    by_cases t : tol (wx.1 1 8) g
    · rw [if_pos t, if_pos t]
      rcases in_or b 10 (by omega) with ⟨p, hp, rfl⟩ | q
      · rw [x_hasSleeper _ hp, m_isSleeper _ hp, gBi_s, gBi_s, ifb, ifb, hM.sl]
        by_cases t : tol (wx.1 1 9) p
        · rw [if_pos t, if_pos t]
          rcases in_or c 7 (by omega) with ⟨n, hn, rfl⟩ | q
          · rw [x_night1 hn, m_night1 hn, gBi_s, gBi_s, if_neg nI_10, if_neg nI_10]
            rcases in_or d 12 (by omega) with ⟨r, hr, rfl⟩ | q
            · rw [x_room1 hr, m_room1 hr, gBi_s, gBi_s, if_neg nI_10, if_neg nI_10, gLet_s]
              have key : ∀ ch, Bl ch 2 → OpOk N (gBi (xX1_frightOf N (nI g) (nI p) (nI n) (nI r) ch wx) fun v11 w12 => some (v11, w12)) (gBi (xX10_frightOf N (nI g) (nI p) (nI n) (nI r) ch wm) fun v w => some (v, w)) := fun ch hch => by
                obtain ⟨w1, e1, s1⟩ := x_frightOf hN hX hR hg hp hn hr ch
                obtain ⟨w2, e2, s2⟩ := m_frightOf hN hM hR hg hp hn hr hch
                rw [e1, e2, gBi_s, gBi_s]
                exact OpOk.o (h.sm (s1.toX rfl) (s2.toM rfl) (congrFun (s2 0 (by decide)) 0))
              rcases in_or e 2 (by omega) with ⟨k, hk, rfl⟩ | q
              · rw [m_in1 (by omega) (by omega) (by omega), gBi_s, if_neg nI_10, gLet_s]
                rcases (show k = 0 ∨ k = 1 by omega) with rfl | rfl
                · rw [if_pos rfl, if_neg (Ne.symm nI_10)]
                  exact key _ ⟨0, by omega, rfl⟩
                · rw [if_neg nI_10, if_pos rfl, if_pos rfl]
                  exact key _ ⟨1, by omega, rfl⟩
              · rw [m_in0 (by omega) q (by omega), gBi_s, if_pos rfl, if_neg, if_neg]
                · exact OpOk.o h
                · rintro rfl
                  exact absurd q (by decide)
                · rintro rfl
                  exact absurd q (by decide)
            · rw [x_room0 q, m_room0 q, gBi_s, gBi_s, if_pos rfl, if_pos rfl]
              exact OpOk.o h
          · rw [x_night0 q, m_night0 q, gBi_s, gBi_s, if_pos rfl, if_pos rfl]
            exact OpOk.o h
        · rw [if_neg t, if_neg t]
          exact OpOk.o h
      · rw [x_hasSleeper_o _ q, m_isSleeper_o _ q, gBi_s, gBi_s, if_pos rfl, if_pos rfl]
        exact OpOk.o h
    · rw [if_neg t, if_neg t]
      exact OpOk.o h
  · rw [x_hasGhost_o _ q, m_isGhost_o _ q, gBi_s, gBi_s, if_pos rfl, if_pos rfl]
    exact OpOk.o h
abbrev spSum (σ : sT) (j : Nat) : Prop := j ≤ 4 ∨ (10 ≤ j ∧ j < 20 ∧ tol (σ.1 1 9) (j - 10)) ∨ (20 ≤ j ∧ j < 40 ∧ tol (σ.1 1 8) (j % 10))
theorem b2i_bl {p : Prop} [Decidable p] : b2i p = nI 0 ∨ b2i p = nI 1 := by
  by_cases h : p
  · exact Or.inr (b2i_t h)
  · exact Or.inl (b2i_f h)
theorem x_sumIn {σ : sT} {w : gT} (h1 : w.1 1 = σ.1 1) {j : Nat} (hj : j < 47) (t : Option (Int32 × gT)) : (if (nI 10) ≤ nI j then
      (if (nI 20) ≤ nI j then
        (if (nI 40) ≤ nI j then
          some ((nI 1), w)
        else
          gBi (xX2_hasGhost (gRem (nI j) (nI 10)) w) fun (v1 : Int32) (w2 : gT) =>
          (if v1 = (nI 0) then
            some ((nI 0), w2)
          else
            some ((nI 1), w2)))
      else
        gBi (xX2_hasSleeper (nI j - (nI 10)) w) fun (v3 : Int32) (w4 : gT) =>
        if v3 = nI 0 ∨ v3 = nI 1 then some (v3, w4) else none)
    else
      (if (nI 4) < nI j then
        some ((nI 0), w)
      else
        some ((nI 1), w))) = some (b2i (spSum σ j ∨ 40 ≤ j), w) := by
  simp (disch := omega) only [nI_add, nI_mul, nI_clamp, nI_leI, nI_ltI, nI_eq, pk_sub, pk_div, nI_rem, gG_in]
  by_cases a1 : 10 ≤ j
  · rw [if_pos a1]
    by_cases a2 : 20 ≤ j
    · rw [if_pos a2]
      by_cases a3 : 40 ≤ j
      · rw [if_pos a3, b2i_t (Or.inr a3)]
      · rw [if_neg a3, x_hasGhost _ (by omega), gBi_s, ifb, h1]
        by_cases t1 : tol (σ.1 1 8) (j % 10)
        · rw [if_pos t1, b2i_t (Or.inl (Or.inr (Or.inr ⟨by omega, by omega, t1⟩)))]
        · rw [if_neg t1, b2i_f]
          rintro ((z | z | z) | z)
          · omega
          · omega
          · exact t1 z.2.2
          · omega
    · rw [if_neg a2, x_hasSleeper _ (by omega), gBi_s, if_pos b2i_bl, h1]
      by_cases t1 : tol (σ.1 1 9) (j - 10)
      · rw [b2i_t t1, b2i_t (Or.inl (Or.inr (Or.inl ⟨by omega, by omega, t1⟩)))]
      · rw [b2i_f t1, b2i_f]
        rintro ((z | z | z) | z)
        · omega
        · exact t1 z.2.2
        · omega
        · omega
  · rw [if_neg a1]
    by_cases a2 : 4 < j
    · rw [if_pos a2, b2i_f (by omega)]
    · rw [if_neg a2, b2i_t (by omega)]
theorem x_isSum {σ : sT} {w : gT} (h1 : w.1 1 = σ.1 1) {j : Nat} (hj : j < 47) : xX9_isSum (nI j) w = some (b2i (spSum σ j ∨ 40 ≤ j), w) := by
  have a0 : ¬ nI j < nI 0 := by rw [nI_ltI (by omega) (by omega)]; omega
  have a1 : nI j < nI 47 := by rw [nI_ltI (by omega) (by omega)]; omega
  unfold xX9_isSum
  rw [if_neg a0, if_pos a1, x_sumIn h1 hj none]
theorem x_isSum_o {w : gT} {a : Int32} (h : a < nI 0 ∨ nI 47 ≤ a) : xX9_isSum a w = some (nI 0, w) := by
  unfold xX9_isSum
  by_cases h1 : a < nI 0
  · rw [if_pos h1]
  · rw [if_neg h1, if_neg (Int32.not_lt.mpr (h.resolve_left h1))]
theorem x_isSum9 {σ : sT} {w : gT} (h1 : w.1 1 = σ.1 1) {j : Nat} (hj : j < 40) : xX9_isSum_0_9 (nI j) w = some (b2i (spSum σ j ∨ 40 ≤ j), w) := by
  have a0 : ¬ nI j < nI 0 := by rw [nI_ltI (by omega) (by omega)]; omega
  have a1 : nI j < nI 40 := by rw [nI_ltI (by omega) (by omega)]; omega
  unfold xX9_isSum_0_9
  rw [if_neg a0, if_pos a1, x_sumIn h1 (by omega) none]
theorem x_isSum9_o {w : gT} {a : Int32} (h : a < nI 0 ∨ nI 40 ≤ a) : xX9_isSum_0_9 a w = some (nI 0, w) := by
  unfold xX9_isSum_0_9
  by_cases h1 : a < nI 0
  · rw [if_pos h1]
  · rw [if_neg h1, if_neg (Int32.not_lt.mpr (h.resolve_left h1))]
theorem m_isSum {N : Nat} {σ : sT} {w : gT} (hM : EncM N σ w) {j : Nat} (hj : j < 47) : xX10_isSum (nI j) w = some (b2i (spSum σ j), w) := by
  unfold xX10_isSum
  by_cases a1 : j ≤ 4
  · rw [m_in1 (by omega) a1 (by omega), gBi_s, if_neg nI_10, b2i_t (Or.inl a1)]
  · rw [m_inx (by omega) (by omega) (by omega) (by omega), gBi_s, if_pos rfl, gLet_s]
    by_cases a2 : 10 ≤ j ∧ j ≤ 19
    · rw [m_in1 a2.1 a2.2 (by omega), gBi_s, if_neg nI_10, pk_sub (by omega), m_isSleeper _ (by omega), gBi_s, ifb, hM.sl]
      by_cases t1 : tol (σ.1 1 9) (j - 10)
      · rw [if_pos t1, b2i_t (Or.inr (Or.inl ⟨by omega, by omega, t1⟩))]
      · rw [if_neg t1]
        dsimp only
        rw [m_inx (by omega) (by omega) (by omega) (by omega), gBi_s, if_pos rfl, b2i_f]
        rintro (z | z | z)
        · omega
        · exact t1 z.2.2
        · omega
    · rw [m_inx (by omega) (by omega) (by omega) (by omega), gBi_s, if_pos rfl]
      dsimp only
      by_cases a3 : 20 ≤ j ∧ j ≤ 39
      · rw [m_in1 a3.1 a3.2 (by omega), gBi_s, if_neg nI_10, nI_rem (by omega) (by omega) (by omega), m_isGhost _ (by omega), gBi_s, ifb, hM.gh]
        by_cases t1 : tol (σ.1 1 8) (j % 10)
        · rw [if_pos t1, b2i_t (Or.inr (Or.inr ⟨by omega, by omega, t1⟩))]
        · rw [if_neg t1, b2i_f]
          rintro (z | z | z)
          · omega
          · omega
          · exact t1 z.2.2
      · rw [m_inx (by omega) (by omega) (by omega) (by omega), gBi_s, if_pos rfl, b2i_f]
        rintro (z | z | z) <;> omega
theorem out_le {a : Int32} {k l : Nat} (h : a < nI 0 ∨ nI k ≤ a) (hk : k < 2 ^ 30) (hl : l ≤ k) : a < nI 0 ∨ nI l ≤ a := by
  rcases h with h | h
  · exact Or.inl h
  · refine Or.inr ?_
    have h1 := Int32.le_iff_toInt_le.mp h
    rw [nI_toInt (by omega)] at h1
    exact i32_le (by rw [nI_toInt (by omega)]; omega)
theorem m_isSum_o {w : gT} {a : Int32} (h : a < nI 0 ∨ nI 40 ≤ a) : xX10_isSum a w = some (nI 0, w) := by
  unfold xX10_isSum
  rw [m_in0 (by omega) (out_le (l := 5) h (by omega) (by omega)) (by omega), gBi_s, if_pos rfl, gLet_s, m_in0 (by omega) (out_le (l := 20) h (by omega) (by omega)) (by omega), gBi_s, if_pos rfl]
  dsimp only
  rw [m_in0 (by omega) (out_le (l := 40) h (by omega) (by omega)) (by omega), gBi_s, if_pos rfl]
theorem o_soFar {N : Nat} {wx wm : gT} (h : Rel N wx wm) (a : Int32) : OpOk N (xX9_soFar a wx) (xX10_soFar a wm) := by
  obtain ⟨D, hR, h2, hM, h4⟩ := h.nf
  unfold xX9_soFar xX10_soFar
  rcases in_or a 40 (by omega) with ⟨j, hj, rfl⟩ | q
  · rw [m_isSum hM (by omega), x_isSum9 (σ := (wx.1, D)) rfl hj, gBi_s, gBi_s, ifb, ifb, gG_in hj (by omega), gG_in (n := 47) (by omega) (by omega), nI_clamp (by omega)]
    by_cases j5 : j = 5
    · subst j5
      rw [if_pos rfl, if_pos rfl, if_neg, show wm.1 8 5 = wx.1 1 12 from hM.1.2.2.2.2.2.2.2.2]
      · exact OpOk.o h
      · rintro (z | z | z) <;> omega
    · have j6 : ¬ nI j = nI 5 := fun z => j5 ((nI_eq (by omega) (by omega)).mp z)
      rw [if_neg j6, if_neg j6]
      by_cases t : spSum (wx.1, D) j
      · rw [if_pos (Or.inl t), if_pos t, show wm.1 8 j = wx.1 9 j from hM.1.2.2.2.2.2.2.2.1 j hj j5]
        exact OpOk.o h
      · rw [if_neg t, if_neg (fun z => z.elim t (by omega))]
        exact OpOk.o h
  · have n5 : ¬ a = nI 5 := by
      rintro rfl
      exact absurd q (by decide)
    rw [m_isSum_o q, x_isSum9_o q, gBi_s, gBi_s, if_pos rfl, if_pos rfl, if_neg n5, if_neg n5]
    exact OpOk.o h
