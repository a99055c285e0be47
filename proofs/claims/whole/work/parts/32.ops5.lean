theorem o_keep {N : Nat} (hN : 5000 ≤ N) {wx wm : gT} (h : Rel N wx wm) : OpOk N (xX9_keep wx) (xX10_keep N wm) := by
  obtain ⟨D, ⟨⟨r1, r2, r3, r4, r5, r6, r7, r8, r9, r10⟩, _, R3, R4, R5, R6⟩, h2, ⟨⟨e1, e2, e3, e4, e5, e6, e7, e8, e9⟩, ⟨b1, b2, b3, b4, b5, b6, b7, b8, b9⟩, ⟨c1, c2, c3, c4, c5, c6, c7, c8⟩, T, W, L⟩, h4⟩ := h.nf
  obtain ⟨wx1, f1, ⟨x1, x2, x3, x4, x5, x6, x7, x8⟩, ⟨y1, y2, y3, y4, y5, y6⟩, s⟩ := x_copy1 wx
  obtain ⟨wm1, g1, ⟨m1, m2, m3, m4, m5, m6, m7, m8⟩, ⟨n1, n2, n3, n4, n5, n6⟩, z0, z⟩ := m_keep1 hN wm
  unfold xX9_keep
  rw [f1, gBv_s, gLet_s, g1]
  have e12 : (gU wx1 0 2 (nI 1)).1 1 12 = wm1.1 8 5 := by
    rw [z 8 (by omega) (by omega)]
    exact (congrFun (s 1 (by decide)) 12).trans e9.symm
  rw [e12]
  refine OpOk.o (Rel.mk (D := D) ?_ ?_ ?_ ?_)
  · refine ⟨⟨?_, ?_, ?_, ?_, ?_, ?_, ?_, ?_, ?_, ?_⟩, ⟨?_, ?_, ?_, ?_, ?_, ?_, ?_, ?_, ?_, ?_⟩, ?_, ?_, ⟨1, by omega, rfl⟩, ?_, ?_⟩
    · show ∀ i, i < 12 → Bl (wx1.1 2 i) 10
      rw [s 2 (by decide)]; exact r1
    · show ∀ i, i < 70 → Bl (wx1.1 3 i) 12 ∨ wx1.1 3 i = nI 255
      rw [s 3 (by decide)]; exact r2
    · show ∀ i, i < 10 → Bl (wx1.1 4 i) 10
      rw [s 4 (by decide)]; exact r3
    · show ∀ i, i < 10 → Bl (wx1.1 5 i) 5
      rw [s 5 (by decide)]; exact r4
    · show ∀ i, i < 10 → Bl (wx1.1 6 i) 10
      rw [s 6 (by decide)]; exact r5
    · show ∀ i, i < 10 → Bl (wx1.1 7 i) 10
      rw [s 7 (by decide)]; exact r6
    · show ∀ i, i < 10 → Bl (wx1.1 8 i) 1000
      rw [s 8 (by decide)]; exact r7
    · show Bl (wx1.1 1 8) 1024
      rw [s 1 (by decide)]; exact r8
    · show Bl (wx1.1 1 9) 1024
      rw [s 1 (by decide)]; exact r9
    · show Bl (wx1.1 1 10) 10
      rw [s 1 (by decide)]; exact r10
    · show ∀ i, i < 12 → Bl (wx1.1 11 i) 10
      rw [x1]; exact cpF_lt (P := fun v => Bl v 10) r1
    · show ∀ i, i < 70 → Bl (wx1.1 12 i) 12 ∨ wx1.1 12 i = nI 255
      rw [x2]; exact cpF_lt (P := fun v => Bl v 12 ∨ v = nI 255) r2
    · show ∀ i, i < 10 → Bl (wx1.1 13 i) 10
      rw [x3]; exact cpF_lt (P := fun v => Bl v 10) r3
    · show ∀ i, i < 10 → Bl (wx1.1 14 i) 5
      rw [x4]; exact cpF_lt (P := fun v => Bl v 5) r4
    · show ∀ i, i < 10 → Bl (wx1.1 15 i) 10
      rw [x5]; exact cpF_lt (P := fun v => Bl v 10) r5
    · show ∀ i, i < 10 → Bl (wx1.1 16 i) 10
      rw [x6]; exact cpF_lt (P := fun v => Bl v 10) r6
    · show ∀ i, i < 10 → Bl (wx1.1 17 i) 1000
      rw [x7]; exact cpF_lt (P := fun v => Bl v 1000) r7
    · show Bl (wx1.1 10 8) 1024
      rw [y1]; exact r8
    · show Bl (wx1.1 10 9) 1024
      rw [y2]; exact r9
    · show Bl (wx1.1 10 10) 10
      rw [y3]; exact r10
    · show RngW wx1.1
      unfold RngW spW
      rw [s 21 (by decide), s 22 (by decide), s 23 (by decide), s 24 (by decide), s 25 (by decide), s 26 (by decide)]
      exact R3
    · show RngT wx1.1
      unfold RngT
      rw [s 19 (by decide), s 20 (by decide)]
      exact R4
    · show Bl (wx1.1 33 3) 15
      rw [s 33 (by decide)]; exact R6.1
    · show ∀ i, i < (wx1.1 33 3).toNatClampNeg → ∀ e, Bl (D.2 i e) 2
      rw [s 33 (by decide)]; exact R6.2
  · show ∀ i, i < (wx1.1 33 3).toNatClampNeg → (wx1.1 34 i ≠ nI 107 → ∀ w : gT, w.1 33 = wx1.1 33 → w.1 37 = wx1.1 37 → w.1 38 = wx1.1 38 → ∃ w', xX3_reckon N (wx1.1 35 i) w = some (D.1 i (envX (w.1 49)), w') ∧ SmC [39] w w') ∧ (∀ w : gT, w.1 33 = wx1.1 33 → w.1 37 = wx1.1 37 → w.1 38 = wx1.1 38 → ∃ w', xX3_reckon N (wx1.1 36 i) w = some (D.2 i (envX (w.1 49)), w') ∧ SmC [39] w w')
    rw [s 33 (by decide), s 34 (by decide), s 35 (by decide), s 36 (by decide), s 37 (by decide), s 38 (by decide)]
    exact h2
  · refine ⟨⟨?_, ?_, ?_, ?_, ?_, ?_, ?_, fun i hi h5 => ?_, ?_⟩, ⟨?_, ?_, ?_, ?_, ?_, ?_, ?_, fun i hi h5 => ?_, ?_⟩, ⟨?_, ?_, ?_, ?_, ?_, ?_, ?_, ?_, ?_, ?_, ?_, ?_, ?_⟩, ?_, ?_, ?_⟩
    · show wm1.1 1 = wx1.1 2
      rw [z 1 (by omega) (by omega), s 2 (by decide)]; exact e1
    · show wm1.1 2 = wx1.1 4
      rw [z 2 (by omega) (by omega), s 4 (by decide)]; exact e2
    · show wm1.1 3 = wx1.1 3
      rw [z 3 (by omega) (by omega), s 3 (by decide)]; exact e3
    · show wm1.1 4 = wx1.1 5
      rw [z 4 (by omega) (by omega), s 5 (by decide)]; exact e4
    · show wm1.1 5 = wx1.1 6
      rw [z 5 (by omega) (by omega), s 6 (by decide)]; exact e5
    · show wm1.1 6 = wx1.1 7
      rw [z 6 (by omega) (by omega), s 7 (by decide)]; exact e6
    · show wm1.1 7 = wx1.1 8
      rw [z 7 (by omega) (by omega), s 8 (by decide)]; exact e7
    · show wm1.1 8 i = wx1.1 9 i
      rw [z 8 (by omega) (by omega), s 9 (by decide)]; exact e8 i hi h5
    · show wm1.1 8 5 = wx1.1 1 12
      rw [z 8 (by omega) (by omega), s 1 (by decide)]; exact e9
    · show wm1.1 40 = wx1.1 11
      rw [m1, x1, show wm.1 1 = wx.1 2 from e1, show wm.1 40 = wx.1 11 from b1]
    · show wm1.1 41 = wx1.1 13
      rw [m2, x3, show wm.1 2 = wx.1 4 from e2, show wm.1 41 = wx.1 13 from b2]
    · show wm1.1 42 = wx1.1 12
      rw [m3, x2, show wm.1 3 = wx.1 3 from e3, show wm.1 42 = wx.1 12 from b3]
    · show wm1.1 43 = wx1.1 14
      rw [m4, x4, show wm.1 4 = wx.1 5 from e4, show wm.1 43 = wx.1 14 from b4]
    · show wm1.1 44 = wx1.1 15
      rw [m5, x5, show wm.1 5 = wx.1 6 from e5, show wm.1 44 = wx.1 15 from b5]
    · show wm1.1 45 = wx1.1 16
      rw [m6, x6, show wm.1 6 = wx.1 7 from e6, show wm.1 45 = wx.1 16 from b6]
    · show wm1.1 46 = wx1.1 17
      rw [m7, x7, show wm.1 7 = wx.1 8 from e7, show wm.1 46 = wx.1 17 from b7]
    · show wm1.1 47 i = wx1.1 18 i
      rw [m8, x8]
      unfold cpF
      rw [if_pos (by omega), if_pos hi]; exact e8 i hi h5
    · show wm1.1 47 5 = wx1.1 10 12
      rw [m8, y5]
      unfold cpF
      rw [if_pos (by omega)]; exact e9
    · show wm1.1 0 1 = wx1.1 1 11
      rw [z0 1 (by omega), s 1 (by decide)]; exact c1
    · show wm1.1 0 2 = wx1.1 1 10
      rw [z0 2 (by omega), s 1 (by decide)]; exact c2
    · show wm1.1 0 3 = wx1.1 1 9
      rw [z0 3 (by omega), s 1 (by decide)]; exact c3
    · show wm1.1 0 4 = wx1.1 1 8
      rw [z0 4 (by omega), s 1 (by decide)]; exact c4
    · show wm1.1 0 14 = wx1.1 19 1
      rw [z0 14 (by omega), s 19 (by decide)]; exact c5
    · show wm1.1 0 19 = wx1.1 21 5
      rw [z0 19 (by omega), s 21 (by decide)]; exact c6
    · show wm1.1 0 33 = wx1.1 33 3
      rw [z0 33 (by omega), s 33 (by decide)]; exact c7
    · show wm1.1 0 56 = nI 1
      exact n1
    · intro _
      show wm1.1 0 57 = wx1.1 10 13
      rw [n2, y6]; exact h4
    · intro _
      show wm1.1 0 58 = wx1.1 10 11
      rw [n3, y4]; exact c1
    · show wm1.1 0 59 = wx1.1 10 10
      rw [n4, y3]; exact c2
    · show wm1.1 0 60 = wx1.1 10 9
      rw [n5, y2]; exact c3
    · show wm1.1 0 61 = wx1.1 10 8
      rw [n6, y1]; exact c4
    · show ∀ i, wm1.1 9 i &&& nI 255 = wx1.1 20 i
      rw [z 9 (by omega) (by omega), s 20 (by decide)]; exact T
    · show ∀ i, i < (wx1.1 21 5).toNatClampNeg → wm1.1 10 i = wx1.1 22 i ∧ wm1.1 11 i = wx1.1 23 i ∧ wm1.1 12 i = wx1.1 24 i ∧ wm1.1 16 i = wx1.1 25 i
      rw [z 10 (by omega) (by omega), z 11 (by omega) (by omega), z 12 (by omega) (by omega), z 16 (by omega) (by omega), s 21 (by decide), s 22 (by decide), s 23 (by decide), s 24 (by decide), s 25 (by decide)]
      exact W
    · show ∀ i, i < (wx1.1 33 3).toNatClampNeg → wm1.1 25 i = wx1.1 34 i ∧ (wx1.1 34 i ≠ nI 107 → evM N (wm1.1 24) (wm1.1 26 i) (wm1.1 27 i) (D.1 i)) ∧ evM N (wm1.1 24) (wm1.1 27 i) (wm1.1 28 i) (D.2 i)
      rw [z 24 (by omega) (by omega), z 25 (by omega) (by omega), z 26 (by omega) (by omega), z 27 (by omega) (by omega), z 28 (by omega) (by omega), s 33 (by decide), s 34 (by decide)]
      exact L
  · show wm1.1 0 0 = wx1.1 1 13
    rw [z0 0 (by omega), s 1 (by decide)]; exact h4
theorem b1_of {x : Int32} (h : Bl x 2) (h0 : x ≠ nI 0) : x = nI 1 := (bl2 h).resolve_left h0
theorem o_undo {N : Nat} (hN : 5000 ≤ N) {wx wm : gT} (h : Rel N wx wm) : OpOk N (xX9_undo wx) (xX10_undo N wm) := by
  obtain ⟨D, ⟨_, ⟨r1, r2, r3, r4, r5, r6, r7, r8, r9, r10⟩, R3, R4, R5, R6⟩, h2, ⟨⟨e1, e2, e3, e4, e5, e6, e7, e8, e9⟩, ⟨b1, b2, b3, b4, b5, b6, b7, b8, b9⟩, ⟨c1, c2, c3, c4, c5, c6, c7, c8, c9, c10, c11, c12, c13⟩, T, W, L⟩, h4⟩ := h.nf
  obtain ⟨wx1, f1, ⟨x1, x2, x3, x4, x5, x6, x7, x8⟩, ⟨y1, y2, y3, y4, y5, y6⟩, s⟩ := x_copy2 wx
  obtain ⟨wm1, g1, ⟨m1, m2, m3, m4, m5, m6, m7, m8⟩, ⟨n1, n2, n3, n4, n5⟩, z0, z⟩ := m_undo1 hN wm
  unfold xX9_undo
  rw [f1, gBv_s, g1, show wm.1 0 56 = wx.1 0 2 from c8, s 0 (by decide)]
  by_cases q0 : wx.1 0 2 = nI 0
  · rw [if_pos q0, if_pos q0, if_pos (Or.inl q0), q0]
    exact OpOk.o h
  rw [if_neg q0, if_neg q0, if_pos (bl2 R5)]
  have q1 : wx.1 0 2 = nI 1 := b1_of R5 q0
  have c9 := c9 q0
  have c10 := c10 q0
  rw [q1]
  refine OpOk.o (Rel.mk (D := D) ?_ ?_ ?_ ?_)
  · refine ⟨⟨?_, ?_, ?_, ?_, ?_, ?_, ?_, ?_, ?_, ?_⟩, ⟨?_, ?_, ?_, ?_, ?_, ?_, ?_, ?_, ?_, ?_⟩, ?_, ?_, ?_, ?_, ?_⟩
    · show ∀ i, i < 12 → Bl (wx1.1 2 i) 10
      rw [x1]; exact cpF_lt (P := fun v => Bl v 10) r1
    · show ∀ i, i < 70 → Bl (wx1.1 3 i) 12 ∨ wx1.1 3 i = nI 255
      rw [x2]; exact cpF_lt (P := fun v => Bl v 12 ∨ v = nI 255) r2
    · show ∀ i, i < 10 → Bl (wx1.1 4 i) 10
      rw [x3]; exact cpF_lt (P := fun v => Bl v 10) r3
    · show ∀ i, i < 10 → Bl (wx1.1 5 i) 5
      rw [x4]; exact cpF_lt (P := fun v => Bl v 5) r4
    · show ∀ i, i < 10 → Bl (wx1.1 6 i) 10
      rw [x5]; exact cpF_lt (P := fun v => Bl v 10) r5
    · show ∀ i, i < 10 → Bl (wx1.1 7 i) 10
      rw [x6]; exact cpF_lt (P := fun v => Bl v 10) r6
    · show ∀ i, i < 10 → Bl (wx1.1 8 i) 1000
      rw [x7]; exact cpF_lt (P := fun v => Bl v 1000) r7
    · show Bl (wx1.1 1 8) 1024
      rw [y1]; exact r8
    · show Bl (wx1.1 1 9) 1024
      rw [y2]; exact r9
    · show Bl (wx1.1 1 10) 10
      rw [y3]; exact r10
    · show ∀ i, i < 12 → Bl (wx1.1 11 i) 10
      rw [s 11 (by decide)]; exact r1
    · show ∀ i, i < 70 → Bl (wx1.1 12 i) 12 ∨ wx1.1 12 i = nI 255
      rw [s 12 (by decide)]; exact r2
    · show ∀ i, i < 10 → Bl (wx1.1 13 i) 10
      rw [s 13 (by decide)]; exact r3
    · show ∀ i, i < 10 → Bl (wx1.1 14 i) 5
      rw [s 14 (by decide)]; exact r4
    · show ∀ i, i < 10 → Bl (wx1.1 15 i) 10
      rw [s 15 (by decide)]; exact r5
    · show ∀ i, i < 10 → Bl (wx1.1 16 i) 10
      rw [s 16 (by decide)]; exact r6
    · show ∀ i, i < 10 → Bl (wx1.1 17 i) 1000
      rw [s 17 (by decide)]; exact r7
    · show Bl (wx1.1 10 8) 1024
      rw [s 10 (by decide)]; exact r8
    · show Bl (wx1.1 10 9) 1024
      rw [s 10 (by decide)]; exact r9
    · show Bl (wx1.1 10 10) 10
      rw [s 10 (by decide)]; exact r10
    · show RngW wx1.1
      unfold RngW spW
      rw [s 21 (by decide), s 22 (by decide), s 23 (by decide), s 24 (by decide), s 25 (by decide), s 26 (by decide)]
      exact R3
    · show RngT wx1.1
      unfold RngT
      rw [s 19 (by decide), s 20 (by decide)]
      exact R4
    · show Bl (wx1.1 0 2) 2
      rw [s 0 (by decide)]; exact R5
    · show Bl (wx1.1 33 3) 15
      rw [s 33 (by decide)]; exact R6.1
    · show ∀ i, i < (wx1.1 33 3).toNatClampNeg → ∀ e, Bl (D.2 i e) 2
      rw [s 33 (by decide)]; exact R6.2
  · show ∀ i, i < (wx1.1 33 3).toNatClampNeg → (wx1.1 34 i ≠ nI 107 → ∀ w : gT, w.1 33 = wx1.1 33 → w.1 37 = wx1.1 37 → w.1 38 = wx1.1 38 → ∃ w', xX3_reckon N (wx1.1 35 i) w = some (D.1 i (envX (w.1 49)), w') ∧ SmC [39] w w') ∧ (∀ w : gT, w.1 33 = wx1.1 33 → w.1 37 = wx1.1 37 → w.1 38 = wx1.1 38 → ∃ w', xX3_reckon N (wx1.1 36 i) w = some (D.2 i (envX (w.1 49)), w') ∧ SmC [39] w w')
    rw [s 33 (by decide), s 34 (by decide), s 35 (by decide), s 36 (by decide), s 37 (by decide), s 38 (by decide)]
    exact h2
  · refine ⟨⟨?_, ?_, ?_, ?_, ?_, ?_, ?_, fun i hi h5 => ?_, ?_⟩, ⟨?_, ?_, ?_, ?_, ?_, ?_, ?_, fun i hi h5 => ?_, ?_⟩, ⟨?_, ?_, ?_, ?_, ?_, ?_, ?_, ?_, ?_, ?_, ?_, ?_, ?_⟩, ?_, ?_, ?_⟩
    · show wm1.1 1 = wx1.1 2
      rw [m1, x1, show wm.1 1 = wx.1 2 from e1, show wm.1 40 = wx.1 11 from b1]
    · show wm1.1 2 = wx1.1 4
      rw [m2, x3, show wm.1 2 = wx.1 4 from e2, show wm.1 41 = wx.1 13 from b2]
    · show wm1.1 3 = wx1.1 3
      rw [m3, x2, show wm.1 3 = wx.1 3 from e3, show wm.1 42 = wx.1 12 from b3]
    · show wm1.1 4 = wx1.1 5
      rw [m4, x4, show wm.1 4 = wx.1 5 from e4, show wm.1 43 = wx.1 14 from b4]
    · show wm1.1 5 = wx1.1 6
      rw [m5, x5, show wm.1 5 = wx.1 6 from e5, show wm.1 44 = wx.1 15 from b5]
    · show wm1.1 6 = wx1.1 7
      rw [m6, x6, show wm.1 6 = wx.1 7 from e6, show wm.1 45 = wx.1 16 from b6]
    · show wm1.1 7 = wx1.1 8
      rw [m7, x7, show wm.1 7 = wx.1 8 from e7, show wm.1 46 = wx.1 17 from b7]
    · show wm1.1 8 i = wx1.1 9 i
      rw [m8, x8]
      unfold cpF
      rw [if_pos (by omega), if_pos hi]; exact b8 i hi h5
    · show wm1.1 8 5 = wx1.1 1 12
      rw [m8, y5]
      unfold cpF
      rw [if_pos (by omega)]; exact b9
    · show wm1.1 40 = wx1.1 11
      rw [z 40 (by omega), s 11 (by decide)]; exact b1
    · show wm1.1 41 = wx1.1 13
      rw [z 41 (by omega), s 13 (by decide)]; exact b2
    · show wm1.1 42 = wx1.1 12
      rw [z 42 (by omega), s 12 (by decide)]; exact b3
    · show wm1.1 43 = wx1.1 14
      rw [z 43 (by omega), s 14 (by decide)]; exact b4
    · show wm1.1 44 = wx1.1 15
      rw [z 44 (by omega), s 15 (by decide)]; exact b5
    · show wm1.1 45 = wx1.1 16
      rw [z 45 (by omega), s 16 (by decide)]; exact b6
    · show wm1.1 46 = wx1.1 17
      rw [z 46 (by omega), s 17 (by decide)]; exact b7
    · show wm1.1 47 i = wx1.1 18 i
      rw [z 47 (by omega), s 18 (by decide)]; exact b8 i hi h5
    · show wm1.1 47 5 = wx1.1 10 12
      rw [z 47 (by omega), s 10 (by decide)]; exact b9
    · show wm1.1 0 1 = wx1.1 1 11
      rw [n2, y4]; exact c10
    · show wm1.1 0 2 = wx1.1 1 10
      rw [n3, y3]; exact c11
    · show wm1.1 0 3 = wx1.1 1 9
      rw [n4, y2]; exact c12
    · show wm1.1 0 4 = wx1.1 1 8
      rw [n5, y1]; exact c13
    · show wm1.1 0 14 = wx1.1 19 1
      rw [z0 14 (by omega), s 19 (by decide)]; exact c5
    · show wm1.1 0 19 = wx1.1 21 5
      rw [z0 19 (by omega), s 21 (by decide)]; exact c6
    · show wm1.1 0 33 = wx1.1 33 3
      rw [z0 33 (by omega), s 33 (by decide)]; exact c7
    · show wm1.1 0 56 = wx1.1 0 2
      rw [z0 56 (by omega), s 0 (by decide)]; exact c8
    · intro _
      show wm1.1 0 57 = wx1.1 10 13
      rw [z0 57 (by omega), s 10 (by decide)]; exact c9
    · intro _
      show wm1.1 0 58 = wx1.1 10 11
      rw [z0 58 (by omega), s 10 (by decide)]; exact c10
    · show wm1.1 0 59 = wx1.1 10 10
      rw [z0 59 (by omega), s 10 (by decide)]; exact c11
    · show wm1.1 0 60 = wx1.1 10 9
      rw [z0 60 (by omega), s 10 (by decide)]; exact c12
    · show wm1.1 0 61 = wx1.1 10 8
      rw [z0 61 (by omega), s 10 (by decide)]; exact c13
    · show ∀ i, wm1.1 9 i &&& nI 255 = wx1.1 20 i
      rw [z 9 (by omega), s 20 (by decide)]; exact T
    · show ∀ i, i < (wx1.1 21 5).toNatClampNeg → wm1.1 10 i = wx1.1 22 i ∧ wm1.1 11 i = wx1.1 23 i ∧ wm1.1 12 i = wx1.1 24 i ∧ wm1.1 16 i = wx1.1 25 i
      rw [z 10 (by omega), z 11 (by omega), z 12 (by omega), z 16 (by omega), s 21 (by decide), s 22 (by decide), s 23 (by decide), s 24 (by decide), s 25 (by decide)]
      exact W
    · show ∀ i, i < (wx1.1 33 3).toNatClampNeg → wm1.1 25 i = wx1.1 34 i ∧ (wx1.1 34 i ≠ nI 107 → evM N (wm1.1 24) (wm1.1 26 i) (wm1.1 27 i) (D.1 i)) ∧ evM N (wm1.1 24) (wm1.1 27 i) (wm1.1 28 i) (D.2 i)
      rw [z 24 (by omega), z 25 (by omega), z 26 (by omega), z 27 (by omega), z 28 (by omega), s 33 (by decide), s 34 (by decide)]
      exact L
  · show wm1.1 0 0 = wx1.1 1 13
    rw [n1, y6]; exact c9
