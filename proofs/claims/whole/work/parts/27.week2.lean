/-! THE WEEK gone through by both -/
theorem chains_at {σ : sT} (hR : Rng σ) : σ.1 1 10 = nI (spCn σ) ∧ spCn σ < 10 := by
  obtain ⟨a1, a2⟩ := hR.1.2.2.2.2.2.2.2.2.2.cl (by omega)
  exact ⟨a2, a1⟩
theorem spLf_lt (σ : sT) (i : Nat) {l : Nat} (h : l < 10) : spLf σ i l < 10 := by
  unfold spLf
  by_cases a : σ.1 25 i = nI 0 ∨ l = 0
  · rw [if_pos a]; exact h
  · rw [if_neg a]; omega
theorem spNt_lt (σ : sT) (n : Nat) (k : Nat) (q : (Nat → Int32) × Int32 × Nat) (h : q.2.2 < 10) : (spNt σ n k q).2.2 < 10 := by
  induction k with
  | zero => exact h
  | succ k ih =>
    unfold spNt
    by_cases a : wn σ k = n ∧ spGone σ k
    · rw [if_pos a]; exact spLf_lt σ k ih
    · rw [if_neg a]; exact ih
theorem x_pass {N : Nat} (hN : 5000 ≤ N) {σ : sT} {w : gT} (hE : EncX N σ w) (hR : Rng σ) : ∃ w', xX8_pass N w = some w' ∧ SmC [39, 49, 50, 51] w w' ∧ Eq47 (w'.1 51) (spWk σ 7).1 ∧ w'.1 50 4 = (spWk σ 7).2 := by
  obtain ⟨hW0, hW⟩ := spW_le hR
  obtain ⟨hC0, hC⟩ := chains_at hR
  obtain ⟨w1, e1, s1, z1⟩ := x_fill51 hN (nI 0) w
  unfold xX8_pass
  rw [e1, gBv_s]
  simp only [gLet]
  refine gW1_ind (fun t => ∃ w', t = some w' ∧ SmC [39, 49, 50, 51] w w' ∧ Eq47 (w'.1 51) (spWk σ 7).1 ∧ w'.1 50 4 = (spWk σ 7).2) (fun m a w2 => ∃ n, n ≤ 7 ∧ a = nI n ∧ m = 7 - n ∧ SmC [39, 49, 50, 51] w w2 ∧ Eq47 (w2.1 51) (spWk σ n).1 ∧ w2.1 50 4 = (spWk σ n).2) ?_ N 7 _ _ (by omega) ⟨0, by omega, rfl, by omega, (s1.mono (by decide)).tr (SmC.U (by decide)), ?_, ?_⟩
  · rintro m go a w2 ⟨n, hn, rfl, rfl, hs, hv, hx⟩ ih
    have hE2 : EncX N σ w2 := hE.sm (hs.toX rfl)
    unfold xX8_pass_b21
    simp (disch := omega) only [nI_add, nI_mul, nI_clamp, nI_leI, nI_ltI, nI_eq, pk_sub, pk_div, nI_rem, gG_in]
    by_cases h : 7 ≤ n
    · rw [if_pos h]
      have : n = 7 := by omega
      subst this
      exact ⟨w2, rfl, hs, hv, hx⟩
    · rw [if_neg h]
      simp only [gLet]
      rw [hE2.1 1 rfl, hC0]
      refine gW1_ind (fun t => ∃ w', t = some w' ∧ SmC [39, 49, 50, 51] w w' ∧ Eq47 (w'.1 51) (spWk σ 7).1 ∧ w'.1 50 4 = (spWk σ 7).2) (fun m a w3 => ∃ k, k ≤ spW σ.1 ∧ a = nI k ∧ m = spW σ.1 - k ∧ SmC [39, 49, 50, 51] w w3 ∧ Eq47 (w3.1 51) (spNt σ n k ((spWk σ n).1, (spWk σ n).2, spCn σ)).1 ∧ w3.1 50 4 = (spNt σ n k ((spWk σ n).1, (spWk σ n).2, spCn σ)).2.1 ∧ w3.1 50 5 = nI (spNt σ n k ((spWk σ n).1, (spWk σ n).2, spCn σ)).2.2) ?_ N (spW σ.1) _ _ (by omega) ⟨0, by omega, rfl, by omega, hs.tr (SmC.U (by decide)), ?_, ?_, ?_⟩
      · rintro m go2 a w3 ⟨k, hk, rfl, rfl, hs3, hv3, hx3, hl3⟩ ih2
        have hE3 : EncX N σ w3 := hE.sm (hs3.toX rfl)
        unfold xX8_pass_b40
        rw [hE3.1 21 rfl, hW0]
        simp (disch := omega) only [nI_add, nI_mul, nI_clamp, nI_leI, nI_ltI, nI_eq, pk_sub, pk_div, nI_rem, gG_in]
        by_cases h2 : spW σ.1 ≤ k
        · rw [if_pos h2]
          have : k = spW σ.1 := by omega
          subst this
          exact ih (7 - (n + 1)) _ _ (by omega) ⟨n + 1, by omega, rfl, rfl, hs3, hv3, hx3⟩
        · rw [if_neg h2]
          have hk2 : k < spW σ.1 := by omega
          obtain ⟨k1, k2, k3, k4, -⟩ := wk_at hR hk2
          simp only [gLet]
          rw [hE3.1 23 rfl, k3, x_isGone hE3 hR hk2]
          try simp (disch := omega) only [nI_add, nI_mul, nI_clamp, nI_leI, nI_ltI, nI_eq, pk_sub, pk_div, nI_rem, gG_in]
          simp only [gBi_s, b2i_0]
          have stay : ¬ (wn σ k = n ∧ spGone σ k) → ∃ w', go2 (nI (k + 1)) w3 = some w' ∧ SmC [39, 49, 50, 51] w w' ∧ Eq47 (w'.1 51) (spWk σ 7).1 ∧ w'.1 50 4 = (spWk σ 7).2 := fun hne => by
            refine ih2 (spW σ.1 - (k + 1)) _ _ (by omega) ⟨k + 1, by omega, rfl, rfl, hs3, ?_, ?_, ?_⟩
            · unfold spNt; rw [if_neg hne]; exact hv3
            · unfold spNt; rw [if_neg hne]; exact hx3
            · unfold spNt; rw [if_neg hne]; exact hl3
          by_cases q1 : wn σ k = n
          · rw [if_pos q1]
            by_cases q2 : spGone σ k
            · rw [if_neg (not_not_intro q2)]
              obtain ⟨w4, e4, s4, v4, x4, l4⟩ := x_goOut hN hE3 hR hk2 (spNt_lt σ n k ((spWk σ n).1, (spWk σ n).2, spCn σ) hC) hl3 hv3
              rw [e4, gBv_s]
              refine ih2 (spW σ.1 - (k + 1)) _ _ (by omega) ⟨k + 1, by omega, rfl, rfl, hs3.tr s4, ?_, ?_, ?_⟩
              · unfold spNt; rw [if_pos ⟨q1, q2⟩]; rw [hx3] at v4; exact v4
              · unfold spNt; rw [if_pos ⟨q1, q2⟩]; rw [hx3] at x4; exact x4
              · unfold spNt; rw [if_pos ⟨q1, q2⟩]; exact l4
            · rw [if_pos q2]
              exact stay (fun z => q2 z.2)
          · rw [if_neg q1]
            exact stay (fun z => q1 z.1)
      · rw [gU1 (by decide)]; exact hv
      · rw [gU2 (by decide)]; exact hx
      · rw [gU0]; rfl
  · rw [gU1 (by decide)]
    exact z1
  · rw [gU0, s1 1 (by decide), hE.1 1 rfl]
    rfl
/-- cells cs, and place 0 of cell 0, may have changed -/
def SmZ (cs : List Nat) (w w' : gT) : Prop := (∀ c, c ≠ 0 → c ∉ cs → w'.1 c = w.1 c) ∧ ∀ j, j ≠ 0 → w'.1 0 j = w.1 0 j
theorem SmZ.rf {cs : List Nat} {w : gT} : SmZ cs w w := ⟨fun _ _ _ => rfl, fun _ _ => rfl⟩
theorem SmZ.tr {cs : List Nat} {w w1 w2 : gT} (h : SmZ cs w w1) (h2 : SmZ cs w1 w2) : SmZ cs w w2 := ⟨fun c h0 hc => (h2.1 c h0 hc).trans (h.1 c h0 hc), fun j hj => (h2.2 j hj).trans (h.2 j hj)⟩
theorem SmC.toZ {cs ds : List Nat} {w w' : gT} (h : SmC cs w w') (h0 : 0 ∉ cs) (hs : ∀ c ∈ cs, c ∈ ds) : SmZ ds w w' := ⟨fun c _ hc => h c (fun z => hc (hs c z)), fun j _ => congrFun (h 0 h0) j⟩
theorem SmZ.x (cs : List Nat) (w : gT) (v : Int32) : SmZ cs w (gU w 0 0 v) := ⟨fun c h0 _ => gU1 h0, fun j hj => gU2 hj⟩
theorem SmZ.toM {cs : List Nat} {w w' : gT} (h : SmZ cs w w') (hc : cs.all (fun c => !pcM c) = true) : SmM w w' := by
  refine ⟨fun c hp => h.1 c (fun z => by subst z; cases hp) (fun hm => ?_), fun i hi => h.2 i (fun z => by subst z; cases hi)⟩
  have := List.all_eq_true.mp hc c hm
  rw [hp] at this
  cases this
theorem m_frs {N : Nat} (hN : 5000 ≤ N) {σ : sT} {w : gT} (hE : EncM N σ w) (hR : Rng σ) {g n r : Nat} (hg : g < 10) (hn : n < 7) (hr : r < 12) {ch : Int32} (hch : Bl ch 2) {sm : Nat → Int32} (hs0 : Eq47 (w.1 31) sm) :
    ∃ w', xX10_frightens N (nI g) (nI n) (nI r) ch w = some w' ∧ SmC [29, 30, 31] w w' ∧ Eq47 (w'.1 31) (spFrs σ g n r ch 10 sm) := by
  unfold xX10_frightens
  refine gW1_ind (fun t => ∃ w', t = some w' ∧ SmC [29, 30, 31] w w' ∧ Eq47 (w'.1 31) (spFrs σ g n r ch 10 sm)) (fun m a w1 => ∃ k, k ≤ 10 ∧ a = nI k ∧ m = 10 - k ∧ SmC [29, 30, 31] w w1 ∧ Eq47 (w1.1 31) (spFrs σ g n r ch k sm)) ?_ N 10 _ w (by omega) ⟨0, by omega, rfl, by omega, SmC.rf, hs0⟩
  rintro m go a w1 ⟨k, hk, rfl, rfl, hs, hv⟩ ih
  have hE1 : EncM N σ w1 := hE.sm (hs.toM rfl)
  unfold xX10_frightens_b3
  simp (disch := omega) only [nI_add, nI_mul, nI_clamp, nI_leI, nI_ltI, nI_eq, pk_sub, pk_div, nI_rem, gG_in]
  by_cases h : 10 ≤ k
  · rw [if_pos h]
    have : k = 10 := by omega
    subst this
    exact ⟨w1, rfl, hs, hv⟩
  · rw [if_neg h, m_isSleeper _ (by omega), hE1.sl]
    simp only [gLet, gBi_s, b2i_0]
    have stay : ∀ w2, SmC [29, 30, 31] w1 w2 → w2.1 31 = w1.1 31 → ¬ (tol (σ.1 1 9) k ∧ spFO σ g k n r ch ≠ (-2)) → ∃ w', go (nI (k + 1)) w2 = some w' ∧ SmC [29, 30, 31] w w' ∧ Eq47 (w'.1 31) (spFrs σ g n r ch 10 sm) := fun w2 s2 e2 hne => ih (10 - (k + 1)) _ _ (by omega) ⟨k + 1, by omega, rfl, rfl, hs.tr s2, by rw [e2]; show Eq47 _ (if _ then _ else _); rw [if_neg hne]; exact hv⟩
    by_cases q1 : tol (σ.1 1 9) k
    · rw [if_neg (not_not_intro q1)]
      obtain ⟨w2, e2, s2⟩ := m_frightOf hN hE1 hR hg (show k < 10 by omega) hn hr hch
      rw [e2]
      simp only [gBi_s]
      rcases spFO_cases σ g k n r ch with q2 | q2
      · rw [q2, if_neg m2_neg]
        exact stay w2 (s2.mono (by decide)) (s2 31 (by decide)) (fun z => z.2 q2)
      · obtain ⟨q3, q4⟩ := bl_ne2 (by omega) q2
        rw [if_pos q4]
        try simp (disch := omega) only [nI_add, nI_mul, nI_clamp, nI_leI, nI_ltI, nI_eq, pk_sub, pk_div, nI_rem, gG_in]
        refine ih (10 - (k + 1)) _ _ (by omega) ⟨k + 1, by omega, rfl, rfl, hs.tr ((s2.mono (by decide)).tr ((SmC.U (a := 31) (by decide)).tr ((SmC.U (a := 31) (by decide)).tr ((SmC.U (a := 31) (by decide)).tr ((SmC.U (a := 31) (by decide)).tr (SmC.U (a := 31) (by decide))))))), ?_⟩
        show Eq47 _ (if _ then _ else _)
        rw [if_pos ⟨q1, q3⟩]
        have e31 : w2.1 31 = w1.1 31 := s2 31 (by decide)
        have f0 : Eq47 (w2.1 31) (spFrs σ g n r ch k sm) := by rw [e31]; exact hv
        have f1 := f0.add (show 0 < 47 by omega) (spFO σ g k n r ch)
        have f2 := f1.add (show 10 + k < 47 by omega) (spFO σ g k n r ch)
        have f3 := f2.add (show 40 + n < 47 by omega) (spFO σ g k n r ch)
        have f4 := f3.add (show 2 < 47 by omega) (nI 1)
        have f5 := f4.add (show 20 + g < 47 by omega) (nI 1)
        simp only [gU_self]
        exact f5
    · rw [if_pos q1, if_neg m2_neg]
      exact stay w1 SmC.rf rfl (fun z => q1 z.1)
theorem m_goes {N : Nat} (hN : 5000 ≤ N) {σ : sT} {w : gT} (hE : EncM N σ w) (hR : Rng σ) {i : Nat} (hi : i < spW σ.1) {ch : Int32} (hch : Bl ch 2) {sm : Nat → Int32} (hs0 : Eq47 (w.1 31) sm) :
    ∃ w', xX10_goes N (nI i) ch w = some w' ∧ SmZ [29, 30, 31] w w' ∧ Eq47 (w'.1 31) (spGo σ i ch (sm, w.1 0 0)).1 ∧ w'.1 0 0 = (spGo σ i ch (sm, w.1 0 0)).2 := by
  obtain ⟨-, hW⟩ := spW_le hR
  obtain ⟨g1, g2, g3, g4, g5, g6, -⟩ := wk_at hR hi
  obtain ⟨a1, a2, a3, -⟩ := hE.wl i hi
  unfold xX10_goes
  simp (disch := omega) only [nI_add, nI_mul, nI_clamp, nI_leI, nI_ltI, nI_eq, pk_sub, pk_div, nI_rem, gG_in]
  rw [a1, g1, m_stands hN hE hR hi]
  simp only [gLet, gBi_s, b2i_0]
  by_cases q1 : spStands σ i
  · rw [if_neg (not_not_intro q1)]
    unfold spGo
    rw [if_pos q1]
    refine ⟨_, rfl, (SmC.U (a := 31) (cs := [31]) (by decide)).toZ (by decide) (by decide), ?_, ?_⟩
    · rw [gU_self]
      exact hs0.add (by omega) _
    · rw [gU1 (by decide)]
  · rw [if_pos q1]
    unfold xX10_draws
    simp only [gLet, gBi_s]
    have s3 : SmZ [29, 30, 31] w (gU w 0 0 (gRem ((nI 25173 * w.1 0 0) + nI 13849) (nI 65536))) := SmZ.x _ _ _
    generalize hw3 : gU w 0 0 (gRem ((nI 25173 * w.1 0 0) + nI 13849) (nI 65536)) = w3 at s3
    have x3 : w3.1 0 0 = drawX (w.1 0 0) := by rw [← hw3, gU0]; rfl
    have hE3 : EncM N σ w3 := hE.sm (s3.toM rfl)
    obtain ⟨b1, b2, b3, -⟩ := hE3.wl i hi
    rw [b2, b3, g3, g5]
    obtain ⟨w4, e4, s4, v4⟩ := m_feels hN hE3 (n := wn σ i) g2 g6 hch
    rw [e4, gBv_s]
    have hE4 : EncM N σ w4 := hE3.sm (s4.toM rfl)
    obtain ⟨w5, e5, s5⟩ := m_byLaw hN hE4 hR (l := nI 122) (high := nI 10) (by decide) ⟨10, by omega, rfl⟩
    rw [e5, gBi_s, v4, x3]
    have hE5 : EncM N σ w5 := hE4.sm (s5.toM rfl)
    have s25 : SmZ [29, 30, 31] w w5 := s3.tr ((s4.toZ (by decide) (by decide)).tr (s5.toZ (by decide) (by decide)))
    have e31 : w5.1 31 = w.1 31 := (s5 31 (by decide)).trans ((s4 31 (by decide)).trans (by rw [← hw3, gU1 (by decide)]))
    have e00 : w5.1 0 0 = drawX (w.1 0 0) := (congrFun (s5 0 (by decide)) 0).trans ((congrFun (s4 0 (by decide)) 0).trans x3)
    unfold spGo
    rw [if_neg q1]
    by_cases q2 : spAmt σ (nI 122) (nI 10) (spEnvW σ (wg σ i) (wn σ i) (wr σ i) ch) ≤ gRem (drawX (w.1 0 0)) (nI 10)
    · rw [if_pos q2, if_pos q2]
      obtain ⟨c1, c2, c3, -⟩ := hE5.wl i hi
      rw [c2, c3, g3, g5]
      obtain ⟨w6, e6, s6, v6⟩ := m_frs hN hE5 hR g2 g4 g6 hch (sm := sm) (by rw [e31]; exact hs0)
      rw [e6, gBv_s]
      have hE6 : EncM N σ w6 := hE5.sm (s6.toM rfl)
      obtain ⟨d1, d2, d3, -⟩ := hE6.wl i hi
      rw [d2, d3, g3, g5]
      obtain ⟨w7, e7, s7, v7⟩ := m_feels hN hE6 (n := wn σ i) g2 g6 hch
      rw [e7, gBv_s]
      have hE7 : EncM N σ w7 := hE6.sm (s7.toM rfl)
      obtain ⟨w8, e8, s8⟩ := m_byLaw hN hE7 hR (l := nI 119) (high := nI 999) (by decide) ⟨999, by omega, rfl⟩
      rw [e8, gBi_s, v7]
      have hE8 : EncM N σ w8 := hE7.sm (s8.toM rfl)
      rw [(hE8.wl i hi).2.1, g3, hE8.so]
      have s28 : SmZ [29, 30, 31] w w8 := s25.tr ((s6.toZ (by decide) (by decide)).tr ((s7.toZ (by decide) (by decide)).tr (s8.toZ (by decide) (by decide))))
      have e318 : w8.1 31 = w6.1 31 := (s8 31 (by decide)).trans (s7 31 (by decide))
      have e008 : w8.1 0 0 = drawX (w.1 0 0) := (congrFun (s8 0 (by decide)) 0).trans ((congrFun (s7 0 (by decide)) 0).trans ((congrFun (s6 0 (by decide)) 0).trans e00))
      have fin : ∀ v : Int32, v = (if nI (wn σ i) = σ.1 1 11 then nI 2 else nI 1) → ∃ w', some (gU (gU w8 31 1 (w8.1 31 1 + spAmt σ (nI 119) (nI 999) (spEnvW σ (wg σ i) (wn σ i) (wr σ i) ch) * v)) 31 (30 + wg σ i) ((gU w8 31 1 (w8.1 31 1 + spAmt σ (nI 119) (nI 999) (spEnvW σ (wg σ i) (wn σ i) (wr σ i) ch) * v)).1 31 (30 + wg σ i) + spAmt σ (nI 119) (nI 999) (spEnvW σ (wg σ i) (wn σ i) (wr σ i) ch) * v)) = some w' ∧ SmZ [29, 30, 31] w w' ∧ Eq47 (w'.1 31) (sAdd (sAdd (spFrs σ (wg σ i) (wn σ i) (wr σ i) ch 10 sm) 1 (spAmt σ (nI 119) (nI 999) (spEnvW σ (wg σ i) (wn σ i) (wr σ i) ch) * (if nI (wn σ i) = σ.1 1 11 then nI 2 else nI 1))) (30 + wg σ i) (spAmt σ (nI 119) (nI 999) (spEnvW σ (wg σ i) (wn σ i) (wr σ i) ch) * (if nI (wn σ i) = σ.1 1 11 then nI 2 else nI 1))) ∧ w'.1 0 0 = drawX (w.1 0 0) := by
        rintro v rfl
        refine ⟨_, rfl, s28.tr (((SmC.U (a := 31) (cs := [31]) (by decide)).tr (SmC.U (a := 31) (by decide))).toZ (by decide) (by decide)), ?_, ?_⟩
        · have f0 : Eq47 (w8.1 31) (spFrs σ (wg σ i) (wn σ i) (wr σ i) ch 10 sm) := by rw [e318]; exact v6
          simp only [gU_self]
          exact (f0.add (by omega) _).add (by omega) _
        · rw [gU1 (by decide), gU1 (by decide)]; exact e008
      try simp (disch := omega) only [nI_add, nI_mul, nI_clamp, nI_leI, nI_ltI, nI_eq, pk_sub, pk_div, nI_rem, gG_in]
      by_cases q3 : nI (wn σ i) = σ.1 1 11
      · rw [if_pos q3]
        try simp (disch := omega) only [nI_add, nI_mul, nI_clamp, nI_leI, nI_ltI, nI_eq, pk_sub, pk_div, nI_rem, gG_in]
        exact fin _ (if_pos q3).symm
      · rw [if_neg q3]
        try simp (disch := omega) only [nI_add, nI_mul, nI_clamp, nI_leI, nI_ltI, nI_eq, pk_sub, pk_div, nI_rem, gG_in]
        exact fin _ (if_neg q3).symm
    · rw [if_neg q2, if_neg q2]
      refine ⟨_, rfl, s25.tr ((SmC.U (a := 31) (cs := [31]) (by decide)).toZ (by decide) (by decide)), ?_, ?_⟩
      · rw [gU_self, e31]
        exact hs0.add (by omega) _
      · rw [gU1 (by decide)]; exact e00
theorem spCh_01 {σ : sT} {i l : Nat} (hl : l < 10) : (spCh σ i l = nI 0 ∧ (σ.1 25 i = nI 0 ∨ l = 0) ∧ spLf σ i l = l) ∨ (spCh σ i l = nI 1 ∧ ¬ σ.1 25 i = nI 0 ∧ ¬ l = 0 ∧ spLf σ i l = l - 1) := by
  unfold spCh spLf
  by_cases h : σ.1 25 i = nI 0 ∨ l = 0
  · rw [if_pos h, if_pos h]; exact Or.inl ⟨rfl, h, rfl⟩
  · rw [if_neg h, if_neg h]; exact Or.inr ⟨rfl, fun z => h (Or.inl z), fun z => h (Or.inr z), rfl⟩
theorem m_goesThrough {N : Nat} (hN : 5000 ≤ N) {σ : sT} {w : gT} (hE : EncM N σ w) (hR : Rng σ) (hx0 : w.1 0 0 = σ.1 1 13) : ∃ w', xX10_goesThrough N w = some w' ∧ SmZ [29, 30, 31] w w' ∧ Eq47 (w'.1 31) (spWk σ 7).1 ∧ w'.1 0 0 = (spWk σ 7).2 := by
  obtain ⟨hW0, hW⟩ := spW_le hR
  obtain ⟨hC0, hC⟩ := chains_at hR
  unfold xX10_goesThrough
  simp only [gLet]
  refine gW1_ind (fun t => ∃ w', t = some w' ∧ SmZ [29, 30, 31] w w' ∧ Eq47 (w'.1 31) (spWk σ 7).1 ∧ w'.1 0 0 = (spWk σ 7).2) (fun m a w1 => ∃ i, i ≤ 47 ∧ a = nI i ∧ m = 47 - i ∧ SmC [31] w w1 ∧ ∀ j, j < i → w1.1 31 j = nI 0) ?_ N 47 _ w (by omega) ⟨0, by omega, rfl, by omega, SmC.rf, by omega⟩
  rintro m go a w1 ⟨i, hi, rfl, rfl, hs1, hv1⟩ ih
  unfold xX10_goesThrough_b2
  simp (disch := omega) only [nI_add, nI_mul, nI_clamp, nI_leI, nI_ltI, nI_eq, pk_sub, pk_div, nI_rem, gG_in]
  by_cases h : 47 ≤ i
  · rw [if_pos h]
    refine gW1_ind (fun t => ∃ w', t = some w' ∧ SmZ [29, 30, 31] w w' ∧ Eq47 (w'.1 31) (spWk σ 7).1 ∧ w'.1 0 0 = (spWk σ 7).2) (fun m a w2 => ∃ n, n ≤ 7 ∧ a = nI n ∧ m = 7 - n ∧ SmZ [29, 30, 31] w w2 ∧ Eq47 (w2.1 31) (spWk σ n).1 ∧ w2.1 0 0 = (spWk σ n).2) ?_ N 7 _ _ (by omega) ⟨0, by omega, rfl, by omega, hs1.toZ (by decide) (by decide), fun j hj => hv1 j (by omega), ?_⟩
    · rintro m go a w2 ⟨n, hn, rfl, rfl, hs, hv, hx⟩ ih
      have hE2 : EncM N σ w2 := hE.sm (hs.toM rfl)
      unfold xX10_goesThrough_b23
      simp (disch := omega) only [nI_add, nI_mul, nI_clamp, nI_leI, nI_ltI, nI_eq, pk_sub, pk_div, nI_rem, gG_in]
      by_cases h : 7 ≤ n
      · rw [if_pos h]
        have : n = 7 := by omega
        subst this
        exact ⟨w2, rfl, hs, hv, hx⟩
      · rw [if_neg h]
        simp only [gLet]
        rw [hE2.ch, hC0]
        refine gW2_ind (fun t => ∃ w', t = some w' ∧ SmZ [29, 30, 31] w w' ∧ Eq47 (w'.1 31) (spWk σ 7).1 ∧ w'.1 0 0 = (spWk σ 7).2) (fun m l a w3 => ∃ k, k ≤ spW σ.1 ∧ a = nI k ∧ m = spW σ.1 - k ∧ SmZ [29, 30, 31] w w3 ∧ Eq47 (w3.1 31) (spNt σ n k ((spWk σ n).1, (spWk σ n).2, spCn σ)).1 ∧ w3.1 0 0 = (spNt σ n k ((spWk σ n).1, (spWk σ n).2, spCn σ)).2.1 ∧ l = nI (spNt σ n k ((spWk σ n).1, (spWk σ n).2, spCn σ)).2.2) ?_ N (spW σ.1) _ _ _ (by omega) ⟨0, by omega, rfl, by omega, hs, hv, hx, rfl⟩
        rintro m go2 l a w3 ⟨k, hk, rfl, rfl, hs3, hv3, hx3, rfl⟩ ih2
        have hE3 : EncM N σ w3 := hE.sm (hs3.toM rfl)
        have hl := spNt_lt σ n k ((spWk σ n).1, (spWk σ n).2, spCn σ) hC
        unfold xX10_goesThrough_b36
        rw [hE3.wk, hW0]
        simp (disch := omega) only [nI_add, nI_mul, nI_clamp, nI_leI, nI_ltI, nI_eq, pk_sub, pk_div, nI_rem, gG_in]
        by_cases h2 : spW σ.1 ≤ k
        · rw [if_pos h2]
          have : k = spW σ.1 := by omega
          subst this
          exact ih (7 - (n + 1)) _ _ (by omega) ⟨n + 1, by omega, rfl, rfl, hs3, hv3, hx3⟩
        · rw [if_neg h2]
          have hk2 : k < spW σ.1 := by omega
          obtain ⟨k1, k2, k3, k4, -⟩ := wk_at hR hk2
          obtain ⟨a1, a2, a3, a4⟩ := hE3.wl k hk2
          simp only [gLet]
          rw [a2, k3, m_counts hN hE3 hR hk2]
          try simp (disch := omega) only [nI_add, nI_mul, nI_clamp, nI_leI, nI_ltI, nI_eq, pk_sub, pk_div, nI_rem, gG_in]
          simp only [gBi_s, b2i_0]
          have stay : ¬ (wn σ k = n ∧ spGone σ k) → ∃ w', go2 (nI (spNt σ n k ((spWk σ n).1, (spWk σ n).2, spCn σ)).2.2) (nI (k + 1)) w3 = some w' ∧ SmZ [29, 30, 31] w w' ∧ Eq47 (w'.1 31) (spWk σ 7).1 ∧ w'.1 0 0 = (spWk σ 7).2 := fun hne => by
            refine ih2 (spW σ.1 - (k + 1)) _ _ _ (by omega) ⟨k + 1, by omega, rfl, rfl, hs3, ?_, ?_, ?_⟩
            · unfold spNt; rw [if_neg hne]; exact hv3
            · unfold spNt; rw [if_neg hne]; exact hx3
            · show _ = nI (if _ then _ else _ : (Nat → Int32) × Int32 × Nat).2.2
              rw [if_neg hne]
          by_cases q1 : wn σ k = n
          · rw [if_pos q1]
            by_cases q2 : spGone σ k
            · rw [if_neg (not_not_intro q2), a4]
              have run : ∀ (c : Int32) (e : Nat), c = spCh σ k (spNt σ n k ((spWk σ n).1, (spWk σ n).2, spCn σ)).2.2 → e = spLf σ k (spNt σ n k ((spWk σ n).1, (spWk σ n).2, spCn σ)).2.2 → ∃ w', (gBv (xX10_goes N (nI k) c w3) fun w27 => go2 (nI e) (nI (k + 1)) w27) = some w' ∧ SmZ [29, 30, 31] w w' ∧ Eq47 (w'.1 31) (spWk σ 7).1 ∧ w'.1 0 0 = (spWk σ 7).2 := by
                rintro c e rfl rfl
                obtain ⟨w4, e4, s4, v4, x4⟩ := m_goes hN hE3 hR hk2 (spCh_bl σ k _) hv3
                rw [e4, gBv_s]
                refine ih2 (spW σ.1 - (k + 1)) _ _ _ (by omega) ⟨k + 1, by omega, rfl, rfl, hs3.tr s4, ?_, ?_, ?_⟩
                · unfold spNt; rw [if_pos ⟨q1, q2⟩]; rw [hx3] at v4; exact v4
                · unfold spNt; rw [if_pos ⟨q1, q2⟩]; rw [hx3] at x4; exact x4
                · show _ = nI (if _ then _ else _ : (Nat → Int32) × Int32 × Nat).2.2
                  rw [if_pos ⟨q1, q2⟩]
              rcases spCh_01 (σ := σ) (i := k) hl with ⟨p1, p2, p3⟩ | ⟨p1, p2, p3, p4⟩
              · have z0 := run (nI 0) (spNt σ n k ((spWk σ n).1, (spWk σ n).2, spCn σ)).2.2 p1.symm p3.symm
                by_cases q3 : σ.1 25 k = nI 0
                · rw [if_pos q3]
                  simpa using z0
                · rw [if_neg q3]
                  have e0 := p2.resolve_left q3
                  rw [e0] at z0 ⊢
                  simpa using z0
              · have z1 := run (nI 1) ((spNt σ n k ((spWk σ n).1, (spWk σ n).2, spCn σ)).2.2 - 1) p1.symm p4.symm
                rw [if_neg p2, if_neg (by omega)]
                simpa [nI_10] using z1
            · rw [if_pos q2]
              exact stay (fun z => q2 z.2)
          · rw [if_neg q1]
            exact stay (fun z => q1 z.1)
    · rw [congrFun (hs1 0 (by decide)) 0, hx0]
      rfl
  · rw [if_neg h]
    refine ih (47 - (i + 1)) _ _ (by omega) ⟨i + 1, by omega, rfl, rfl, hs1.tr (SmC.U (by decide)), fun j hj => ?_⟩
    rw [gUs]
    by_cases e : j = i
    · rw [if_pos e]
    · rw [if_neg e]; exact hv1 j (by omega)
theorem m_laysWeek {N : Nat} (hN : 5000 ≤ N) {σ : sT} {w : gT} (hE : EncM N σ w) (hR : Rng σ) (hx0 : w.1 0 0 = σ.1 1 13) : ∃ w', xX10_laysWeek N w = some w' ∧ SmC [29, 30, 31] w w' ∧ Eq47 (w'.1 31) (spWk σ 7).1 := by
  obtain ⟨w1, e1, s1, v1, x1⟩ := m_goesThrough hN hE hR hx0
  unfold xX10_laysWeek
  simp only [gLet]
  rw [e1, gBv_s]
  refine ⟨_, rfl, fun c hc => ?_, ?_⟩
  · by_cases h0 : c = 0
    · subst h0
      funext j
      rw [gUs]
      by_cases hj : j = 0
      · rw [if_pos hj, hj]
      · rw [if_neg hj]; exact s1.2 j hj
    · rw [gU1 h0]
      exact s1.1 c h0 hc
  · rw [gU1 (by decide)]
    exact v1
