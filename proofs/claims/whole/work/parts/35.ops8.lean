/-- two loops side by side -/
theorem gW11 {α β : Type} {f : (Int32 → gT → Option α) → Int32 → gT → Option α} {g : (Int32 → gT → Option β) → Int32 → gT → Option β} (Post : Option α → Option β → Prop) (Inv : Nat → Int32 → gT → Int32 → gT → Prop)
    (hs : ∀ (m : Nat) (go : Int32 → gT → Option α) (go' : Int32 → gT → Option β) (x : Int32) (w : gT) (y : Int32) (v : gT), Inv m x w y v → (∀ (m' : Nat) (x' : Int32) (w' : gT) (y' : Int32) (v' : gT), m' < m → Inv m' x' w' y' v' → Post (go x' w') (go' y' v')) → Post (f go x w) (g go' y v)) :
    ∀ (n m : Nat) (x : Int32) (w : gT) (y : Int32) (v : gT), m < n → Inv m x w y v → Post (gW1 f n x w) (gW1 g n y v) := by
  intro n
  induction n with
  | zero => intro m x w y v h; omega
  | succ n ih => intro m x w y v h hi; exact hs m (gW1 f n) (gW1 g n) x w y v hi (fun m' x' w' y' v' h1 h2 => ih m' x' w' y' v' (by omega) h2)
theorem lt_nI {a : Int32} {k : Nat} (hk : k < 2 ^ 30) (h : a < nI 0) : a < nI k := by
  have e := Int32.lt_iff_toInt_lt.mp h
  rw [Int32.lt_iff_toInt_lt, nI_toInt (by omega)]
  rw [nI_toInt (by omega)] at e
  omega
theorem ge_nI {a : Int32} {k l : Nat} (hk : k < 2 ^ 30) (hl : l ≤ k) (h : nI k ≤ a) : nI l ≤ a := by
  have e := Int32.le_iff_toInt_le.mp h
  rw [nI_toInt (by omega)] at e
  exact i32_le (by rw [nI_toInt (by omega)]; omega)
theorem ge_nlt {a : Int32} {k l : Nat} (hk : k < 2 ^ 30) (hl : l ≤ k) (h : nI k ≤ a) : ¬ a < nI l := Int32.not_lt.mpr (ge_nI hk hl h)
theorem o_count {N : Nat} {wx wm : gT} (h : Rel N wx wm) (a : Int32) : OpOk N (xX9_count a wx) (xX10_count a wm) := by
  obtain ⟨D, hR, h2, hM, h4⟩ := h.nf
  unfold xX9_count xX10_count
  rw [show wm.1 0 19 = wx.1 21 5 from hM.wk, show wm.1 0 33 = wx.1 33 3 from hM.cl, show wm.1 0 14 = wx.1 19 1 from hM.tp, h4, show wm.1 0 2 = wx.1 1 10 from hM.ch, show wm.1 0 1 = wx.1 1 11 from hM.so, show wm.1 0 4 = wx.1 1 8 from hM.gh, show wm.1 0 3 = wx.1 1 9 from hM.sl]
  by_cases q : a = nI 0
  · rw [if_pos q, if_pos q]; exact OpOk.o h
  rw [if_neg q, if_neg q]; clear q
  by_cases q : a = nI 1
  · rw [if_pos q, if_pos q]; exact OpOk.o h
  rw [if_neg q, if_neg q]; clear q
  by_cases q : a = nI 2
  · rw [if_pos q, if_pos q]; exact OpOk.o h
  rw [if_neg q, if_neg q]; clear q
  by_cases q : a = nI 3
  · rw [if_pos q, if_pos q]; exact OpOk.o h
  rw [if_neg q, if_neg q]; clear q
  by_cases q : a = nI 4
  · rw [if_pos q, if_pos q]; exact OpOk.o h
  rw [if_neg q, if_neg q]; clear q
  by_cases q : a = nI 5
  · rw [if_pos q, if_pos q]; exact OpOk.o h
  rw [if_neg q, if_neg q]; clear q
  by_cases q : a = nI 6
  · rw [if_pos q, if_pos q]; exact OpOk.o h
  rw [if_neg q, if_neg q]; clear q
  by_cases q : a = nI 7
  · rw [if_pos q, if_pos q]; exact OpOk.o h
  rw [if_neg q, if_neg q]; clear q
  unfold xX9_countInHouse
  rw [gLet_s]
  try dsimp only
  rw [gLet_s]
  try dsimp only
  have no : OpOk N (gBi (some (-1, wx)) fun v w => some (v, w)) (some (-1, wm)) := OpOk.o h
  rcases in_or a 170 (by omega) with ⟨j, hj, rfl⟩ | q
  · by_cases b1 : j < 10
    · rw [if_pos (by rw [nI_ltI (by omega) (by omega)]; omega), if_pos (by rw [nI_ltI (by omega) (by omega)]; omega), if_pos (by rw [nI_ltI (by omega) (by omega)]; omega), m_inx (by omega) (by omega) (by omega) (by omega), gBi_s, gBi_s, if_pos rfl, gLet_s]
      try dsimp only
      rw [m_inx (by omega) (by omega) (by omega) (by omega), gBi_s, if_pos rfl]
      try dsimp only
      rw [m_inx (by omega) (by omega) (by omega) (by omega), gBi_s, if_pos rfl]
      exact OpOk.o h
    rw [if_neg (show ¬ nI j < nI 10 by rw [nI_ltI (by omega) (by omega)]; omega)]
    by_cases b2 : j < 22
    · rw [if_neg (show ¬ nI 22 ≤ nI j by rw [nI_leI (by omega) (by omega)]; omega), m_in1 (by omega) (by omega) (by omega), gBi_s, if_neg nI_10, pk_sub (by omega), gG_in (by omega) (by omega), gG_in (by omega) (by omega), gBi_s, show wm.1 1 = wx.1 2 from hM.a.1]
      exact OpOk.o h
    rw [if_pos (show nI 22 ≤ nI j by rw [nI_leI (by omega) (by omega)]; omega), m_inx (by omega) (by omega) (by omega) (by omega), gBi_s, if_pos rfl, gLet_s]
    try dsimp only
    have beds : OpOk N (gBi (if nI j < nI 100 then some (-1, wx) else if nI 170 ≤ nI j then some (-1, wx) else gBi (xX2_hasSleeper (gRem (nI j) (nI 10)) wx) fun v5 w6 => if v5 = nI 0 then some (-1, w6) else gG (nI j - nI 100) 70 <| some (w6.1 3 (nI j - nI 100).toNatClampNeg, w6)) fun v w => some (v, w)) (gBi (xX10_in (nI j) (nI 100) (nI 169) wm) fun v5 w6 => if v5 = nI 0 then some (-1, w6) else gBi (xX10_isSleeper (gRem (nI j) (nI 10)) w6) fun v7 w8 => if v7 = nI 0 then some (-1, w8) else gG (nI j - nI 100) 70 <| some (w8.1 3 (nI j - nI 100).toNatClampNeg, w8)) := by
      by_cases b3 : j < 100
      · rw [if_pos (by rw [nI_ltI (by omega) (by omega)]; omega), m_inx (by omega) (by omega) (by omega) (by omega), gBi_s, gBi_s, if_pos rfl]
        exact OpOk.o h
      · rw [if_neg (show ¬ nI j < nI 100 by rw [nI_ltI (by omega) (by omega)]; omega), if_neg (show ¬ nI 170 ≤ nI j by rw [nI_leI (by omega) (by omega)]; omega), m_in1 (by omega) (by omega) (by omega), gBi_s, if_neg nI_10, nI_rem (by omega) (by omega) (by omega), x_hasSleeper _ (by omega), m_isSleeper _ (by omega), gBi_s, gBi_s, ifb, ifb, hM.sl, pk_sub (by omega)]
        by_cases t : tol (wx.1 1 9) (j % 10)
        · rw [if_pos t, if_pos t, gG_in (by omega) (by omega), gG_in (by omega) (by omega), gBi_s, show wm.1 3 = wx.1 3 from hM.a.2.2.1]
          exact OpOk.o h
        · rw [if_neg t, if_neg t, gBi_s]
          exact OpOk.o h
    by_cases b4 : 30 ≤ j ∧ j ≤ 59
    · rw [if_neg (show ¬ nI j < nI 30 by rw [nI_ltI (by omega) (by omega)]; omega), if_neg (show ¬ nI 60 ≤ nI j by rw [nI_leI (by omega) (by omega)]; omega), m_in1 b4.1 b4.2 (by omega), gBi_s, if_neg nI_10, nI_rem (by omega) (by omega) (by omega), x_hasGhost _ (by omega), m_isGhost _ (by omega), gBi_s, gBi_s, ifb, ifb, hM.gh]
      by_cases t : tol (wx.1 1 8) (j % 10)
      · rw [if_pos t, if_pos t, gLet_s]
        by_cases b5 : 40 ≤ j
        · rw [if_pos (show nI 40 ≤ nI j by rw [nI_leI (by omega) (by omega)]; omega), if_pos (show nI 40 ≤ nI j by rw [nI_leI (by omega) (by omega)]; omega)]
          by_cases b6 : 50 ≤ j
          · rw [if_pos (show nI 50 ≤ nI j by rw [nI_leI (by omega) (by omega)]; omega), if_pos (show nI 50 ≤ nI j by rw [nI_leI (by omega) (by omega)]; omega), pk_sub (by omega), gG_in (by omega) (by omega), gG_in (by omega) (by omega), gBi_s, show wm.1 7 = wx.1 8 from hM.a.2.2.2.2.2.2, show j - 50 = j % 10 by omega]
            exact OpOk.o h
          · rw [if_neg (show ¬ nI 50 ≤ nI j by rw [nI_leI (by omega) (by omega)]; omega), if_neg (show ¬ nI 50 ≤ nI j by rw [nI_leI (by omega) (by omega)]; omega), pk_sub (by omega), gG_in (by omega) (by omega), gG_in (by omega) (by omega), gBi_s, show wm.1 4 = wx.1 5 from hM.a.2.2.2.1, show j - 40 = j % 10 by omega]
            exact OpOk.o h
        · rw [if_neg (show ¬ nI 40 ≤ nI j by rw [nI_leI (by omega) (by omega)]; omega), if_neg (show ¬ nI 40 ≤ nI j by rw [nI_leI (by omega) (by omega)]; omega), pk_sub (by omega), gG_in (by omega) (by omega), gG_in (by omega) (by omega), gBi_s, show wm.1 5 = wx.1 6 from hM.a.2.2.2.2.1, show j - 30 = j % 10 by omega]
          exact OpOk.o h
      · rw [if_neg t, if_neg t]
        try dsimp only
        rw [nI_rem (by omega) (by omega) (by omega)] at beds
        exact beds
    · rw [m_inx (by omega) (by omega) (by omega) (by omega), gBi_s, if_pos rfl]
      try dsimp only
      by_cases b5 : j < 30
      · rw [if_pos (show nI j < nI 30 by rw [nI_ltI (by omega) (by omega)]; omega)]
        exact beds
      · rw [if_neg (show ¬ nI j < nI 30 by rw [nI_ltI (by omega) (by omega)]; omega), if_pos (show nI 60 ≤ nI j by rw [nI_leI (by omega) (by omega)]; omega)]
        exact beds
  · rw [m_in0 (by omega) (out_le (l := 22) q (by omega) (by omega)) (by omega), gBi_s, if_pos rfl, gLet_s]
    try dsimp only
    rw [m_in0 (by omega) (out_le (l := 60) q (by omega) (by omega)) (by omega), gBi_s, if_pos rfl]
    try dsimp only
    rw [m_in0 (by omega) (out_le (l := 170) q (by omega) (by omega)) (by omega), gBi_s, if_pos rfl]
    rcases q with q | q
    · rw [if_pos (lt_nI (by omega) q), if_pos (lt_nI (by omega) q), if_pos (lt_nI (by omega) q)]
      exact no
    · rw [if_neg (ge_nlt (l := 10) (by omega) (by omega) q), if_pos (ge_nI (l := 22) (by omega) (by omega) q), if_neg (ge_nlt (l := 30) (by omega) (by omega) q), if_pos (ge_nI (l := 60) (by omega) (by omega) q), if_neg (ge_nlt (l := 100) (by omega) (by omega) q), if_pos q]
      exact no
