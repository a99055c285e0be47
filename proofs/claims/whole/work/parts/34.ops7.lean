/-- sums up: cell b's places below 40 grow by cell a's -/
def addF (w : gT) (a b : Nat) : gT := ((fun c i => if c = b then (if i < 40 then w.1 b i + w.1 a i else w.1 b i) else w.1 c i), w.2)
theorem add_loop {N : Nat} (hN : 5000 ≤ N) {F : (Int32 → gT → Option (Int32 × gT)) → Int32 → gT → Option (Int32 × gT)} {a b : Nat} (hab : a ≠ b) (k : gT → Option (Int32 × gT)) (w : gT) (hF : ∀ go n w, n ≤ 40 → F go (nI n) w = if 40 ≤ n then k w else go (nI (n + 1)) (gU w b n (w.1 b n + w.1 a n))) : gW1 F N (nI 0) w = k (addF w a b) := by
  refine gW1_ind (fun t => t = k (addF w a b)) (fun m x w1 => ∃ n, n ≤ 40 ∧ x = nI n ∧ m = 40 - n ∧ w1 = ((fun c i => if c = b then (if i < n then w.1 b i + w.1 a i else w.1 b i) else w.1 c i), w.2)) ?_ N 40 _ w (by omega) ⟨0, by omega, rfl, rfl, ?_⟩
  · rintro m go x w1 ⟨n, hn, rfl, rfl, rfl⟩ ih
    rw [hF _ _ _ hn]
    by_cases h : 40 ≤ n
    · have : n = 40 := by omega
      subst this
      rw [if_pos h]
      rfl
    · rw [if_neg h]
      refine ih (40 - (n + 1)) _ _ (by omega) ⟨n + 1, by omega, rfl, rfl, ?_⟩
      unfold gU
      dsimp only
      rw [if_neg hab]
      refine congrArg (fun z => (z, w.2)) (funext fun c => funext fun i => ?_)
      by_cases hc : c = b
      · subst hc
        by_cases hi : i = n
        · subst hi
          simp
        · by_cases h2 : i < n
          · simp [hi, h2, show i < n + 1 by omega]
          · simp [hi, h2, show ¬ i < n + 1 by omega]
      · rw [if_neg hc, if_neg hc, if_neg hc]
  · refine Prod.ext (funext fun c => funext fun i => ?_) rfl
    by_cases hc : c = b
    · subst hc
      simp
    · simp [hc]
theorem sAdd_5 {sm : Nat → Int32} {i : Nat} {v : Int32} (h : 5 ≠ i) : sAdd sm i v 5 = sm 5 := by
  unfold sAdd upd
  rw [if_neg h]
theorem spFrs_5 (σ : sT) (g n r : Nat) (ch : Int32) (sm : Nat → Int32) : ∀ k, spFrs σ g n r ch k sm 5 = sm 5
  | 0 => rfl
  | k + 1 => by
    show (if _ then _ else _ : Nat → Int32) 5 = sm 5
    split
    · unfold sFr
      rw [sAdd_5 (by omega), sAdd_5 (by omega), sAdd_5 (by omega), sAdd_5 (by omega), sAdd_5 (by omega)]
      exact spFrs_5 σ g n r ch sm k
    · exact spFrs_5 σ g n r ch sm k
theorem spGo_5 (σ : sT) (i : Nat) (ch : Int32) (q : (Nat → Int32) × Int32) : (spGo σ i ch q).1 5 = q.1 5 := by
  unfold spGo
  split
  · exact sAdd_5 (sm := q.1) (i := 4) (v := nI 1) (by omega)
  · split
    · show sAdd _ _ _ 5 = _
      rw [sAdd_5 (by omega), sAdd_5 (by omega), spFrs_5]
    · exact sAdd_5 (sm := q.1) (i := 3) (v := nI 1) (by omega)
theorem spNt_5 (σ : sT) (n : Nat) (q : (Nat → Int32) × Int32 × Nat) : ∀ k, (spNt σ n k q).1 5 = q.1 5
  | 0 => rfl
  | k + 1 => by
    have e : spNt σ n (k + 1) q = if wn σ k = n ∧ spGone σ k then ((spGo σ k (spCh σ k (spNt σ n k q).2.2) ((spNt σ n k q).1, (spNt σ n k q).2.1)).1, (spGo σ k (spCh σ k (spNt σ n k q).2.2) ((spNt σ n k q).1, (spNt σ n k q).2.1)).2, spLf σ k (spNt σ n k q).2.2) else spNt σ n k q := rfl
    rw [e]
    split
    · show (spGo _ _ _ _).1 5 = _
      rw [spGo_5]
      exact spNt_5 σ n q k
    · exact spNt_5 σ n q k
theorem spWk_5 (σ : sT) : ∀ n, (spWk σ n).1 5 = nI 0
  | 0 => rfl
  | n + 1 => by
    show (spNt _ _ _ _).1 5 = _
    rw [spNt_5]
    exact spWk_5 σ n
theorem nf2 {N : Nat} {σ : sT} {wx wm : gT} (h1 : Rng σ) (h2 : EncX N σ wx) (h3 : EncM N σ wm) : Rng (wx.1, σ.2) ∧ Law N (wx.1, σ.2) ∧ EncM N (wx.1, σ.2) wm := by
  have e : msk (wx.1, σ.2) = msk σ := msk_eq h2.1 h2.2.1 rfl
  refine ⟨?_, ?_, ?_⟩
  · rw [← msk_R, e, msk_R]; exact h1
  · have : Law N (msk (wx.1, σ.2)) := by rw [e, msk_L]; exact h2.2.2
    rwa [msk_L] at this
  · rw [← msk_M, e, msk_M]; exact h3
theorem x_addl {N : Nat} (hN : 5000 ≤ N) (k : gT → Option (Int32 × gT)) (w : gT) : gW1 (xX9_live_b9 k) N (nI 0) w = k (addF w 51 9) := by
  refine add_loop hN (by omega) k w (fun go n w hn => ?_)
  unfold xX9_live_b9
  simp (disch := omega) only [nI_add, nI_mul, nI_clamp, nI_leI, nI_ltI, nI_eq, pk_sub, pk_div, nI_rem, gG_in]
  by_cases q : 40 ≤ n
  · rw [if_pos q, if_pos q]
  · rw [if_neg q, if_neg q, gLet_s]
theorem m_addl {N : Nat} (hN : 5000 ≤ N) (k : gT → Option (Int32 × gT)) (w : gT) : gW1 (xX10_live_b6 k) N (nI 0) w = k (addF w 31 8) := by
  refine add_loop hN (by omega) k w (fun go n w hn => ?_)
  unfold xX10_live_b6
  simp (disch := omega) only [nI_add, nI_mul, nI_clamp, nI_leI, nI_ltI, nI_eq, pk_sub, pk_div, nI_rem, gG_in]
  by_cases q : 40 ≤ n
  · rw [if_pos q, if_pos q]
  · rw [if_neg q, if_neg q, gLet_s]
theorem o_live {N : Nat} (hN : 5000 ≤ N) {wx wm : gT} (h : Rel N wx wm) : OpOk N (xX9_live N wx) (xX10_live N wm) := by
  obtain ⟨σ, hR, hX, hM, h4⟩ := h
  obtain ⟨w1, e1, s1, v1, x1⟩ := x_pass hN hX hR
  obtain ⟨w2, e2, s2, v2, x2⟩ := m_goesThrough hN hM hR h4
  obtain ⟨r1, r2, r3⟩ := nf2 hR (hX.sm (s1.toX rfl)) (hM.sm (s2.toM rfl))
  unfold xX9_live xX10_live
  rw [e1, e2, gBv_s, gBv_s, gLet_s, gLet_s, x_addl hN, m_addl hN]
  · rw [gLet_s, gLet_s, gLet_s]
    have ea : (gU (gU (addF w1 51 9) 1 12 ((addF w1 51 9).1 1 12 + nI 1)) 1 13 ((gU (addF w1 51 9) 1 12 ((addF w1 51 9).1 1 12 + nI 1)).1 50 4)).1 51 0 = (gU (addF w2 31 8) 8 5 ((addF w2 31 8).1 8 5 + nI 1)).1 31 0 := by
      show w1.1 51 0 = w2.1 31 0
      rw [v1 0 (by omega), v2 0 (by omega)]
    rw [ea]
    obtain ⟨⟨a1, a2, a3, a4, a5, a6, a7, a8, a9⟩, E⟩ := r3
    refine OpOk.o (Rel.mk (D := σ.2) r1 r2 ⟨⟨a1, a2, a3, a4, a5, a6, a7, fun i hi h5 => ?_, ?_⟩, E⟩ ?_)
    · show (if i = 5 then _ else if i < 40 then w2.1 8 i + w2.1 31 i else w2.1 8 i) = (if i < 40 then w1.1 9 i + w1.1 51 i else w1.1 9 i)
      rw [if_neg h5, if_pos hi, if_pos hi, v1 i (by omega), v2 i (by omega), show w2.1 8 i = w1.1 9 i from a8 i hi h5]
    · show w2.1 8 5 + w2.1 31 5 + nI 1 = w1.1 1 12 + nI 1
      rw [v2 5 (by omega), spWk_5, show w2.1 8 5 = w1.1 1 12 from a9]
      exact congrArg (· + nI 1) (Int32.add_zero _)
    · show w2.1 0 0 = w1.1 50 4
      rw [x1, x2]
theorem o_week {N : Nat} (hN : 5000 ≤ N) {wx wm : gT} (h : Rel N wx wm) (a : Int32) : OpOk N (xX9_week N a wx) (xX10_week N a wm) := by
  obtain ⟨σ, hR, hX, hM, h4⟩ := id h
  unfold xX9_week xX10_week
  rcases in_or a 47 (by omega) with ⟨j, hj, rfl⟩ | q
  · rw [m_isSum hM hj, x_isSum (σ := σ) (hX.1 1 rfl) hj, gBi_s, ifb, gLet_s, gBi_s, ifb]
    dsimp only
    have key : OpOk N (gBv (xX8_pass N wx) fun w3 => gG (nI j) 47 <| some (w3.1 51 (nI j).toNatClampNeg, w3)) (gBv (xX10_laysWeek N wm) fun w3 => gG (nI j) 47 <| some (w3.1 31 (nI j).toNatClampNeg, w3)) := by
      obtain ⟨w1, e1, s1, v1, x1⟩ := x_pass hN hX hR
      obtain ⟨w2, e2, s2, v2⟩ := m_laysWeek hN hM hR h4
      rw [e1, e2, gBv_s, gBv_s, gG_in hj (by omega), gG_in hj (by omega), nI_clamp (by omega), v1 j hj, v2 j hj]
      exact OpOk.o (h.sm (s1.toX rfl) (s2.toM rfl) (congrFun (s2 0 (by decide)) 0))
    by_cases t : spSum σ j
    · rw [if_pos (Or.inl t), if_pos t]
      exact key
    · rw [if_neg t]
      by_cases t2 : 40 ≤ j
      · rw [if_pos (Or.inr t2), m_in1 t2 (by omega) (by omega), gBi_s, if_neg nI_10]
        exact key
      · rw [if_neg (fun z => z.elim t t2), m_inx (by omega) (by omega) (by omega) (by omega), gBi_s, if_pos rfl]
        exact OpOk.o h
  · rw [m_isSum_o (out_le q (by omega) (by omega)), x_isSum_o q, gLet_s, gBi_s, gBi_s, if_pos rfl, if_pos rfl, m_in0 (by omega) q (by omega), gBi_s, if_pos rfl]
    exact OpOk.o h
