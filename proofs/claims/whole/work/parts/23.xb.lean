/-! THE CLASS: fright, wages, tenths, worth -/
theorem envX_get {f g : Nat → Int32} (h : envX f = g) : f 17 = g 0 ∧ f 13 = g 1 ∧ f 19 = g 2 ∧ f 6 = g 3 ∧ f 12 = g 4 ∧ f 2 = g 5 ∧ f 24 = g 6 ∧ f 7 = g 7 ∧ f 15 = g 8 ∧ f 21 = g 9 ∧ f 14 = g 10 ∧ f 11 = g 11 := by
  subst h
  exact ⟨rfl, rfl, rfl, rfl, rfl, rfl, rfl, rfl, rfl, rfl, rfl, rfl⟩
theorem spBed_lt {σ : sT} (hR : Rng σ) {g p n r : Nat} (hp : p < 10) (hn : n < 7) (hr : r < 12) (h : spNear σ g p n r) : spBed σ p n < 12 ∧ σ.1 3 (n * 10 + p) = nI (spBed σ p n) := by
  unfold spNear at h
  rcases hR.1.2.1 (n * 10 + p) (by omega) with ⟨b, hb, e⟩ | e
  · unfold spBed
    rw [show (1 : Nat) + 2 = 3 from rfl] at e
    rw [e, nI_clamp (by omega)]
    exact ⟨hb, rfl⟩
  · exfalso
    have : spBed σ p n = 255 := by
      unfold spBed
      rw [show (1 : Nat) + 2 = 3 from rfl] at e
      rw [e, nI_clamp (by omega)]
    omega
theorem spCo_le {σ : sT} {p n : Nat} : spCo σ p n ≤ 10 := countP_le
theorem x_frightOf {N : Nat} (hN : 5000 ≤ N) {σ : sT} {w : gT} (hE : EncX N σ w) (hR : Rng σ) {g p n r : Nat} (hg : g < 10) (hp : p < 10) (hn : n < 7) (hr : r < 12) (ch : Int32) : ∃ w', xX1_frightOf N (nI g) (nI p) (nI n) (nI r) ch w = some (spFO σ g p n r ch, w') ∧ SmC [39, 49] w w' := by
  unfold xX1_frightOf
  rw [x_isNear hE hR hg hp hn hr]
  simp only [gBi, b2i_0]
  by_cases hnr : spNear σ g p n r
  · rw [if_neg (not_not_intro hnr)]
    obtain ⟨hb, eb⟩ := spBed_lt hR hp hn hr hnr
    have hco : spCo σ p n ≤ 10 := spCo_le
    rw [x_companyOf hN hE hp hn]
    simp only [gBi]
    simp (disch := omega) only [nI_add, nI_mul, nI_clamp, nI_leI, nI_ltI, nI_eq, pk_sub, pk_div, nI_rem, gG_in]
    rw [hE.1 5 rfl, x_isLet _ (show spCo σ p n < 100 by omega)]
    simp only [gBi, b2i_0, hE.1 3 rfl, eb]
    unfold spFO spFV
    rw [if_pos hnr]
    by_cases hl : spLet (σ.1 5 g) (spCo σ p n) ch
    · rw [if_neg (not_not_intro hl)]
      obtain ⟨w7, e7, s7, v7⟩ := x_tellWalk hN hE (n := n) hg hb ch
      rw [e7]
      have h4 : w7.1 4 = σ.1 4 := (s7 4 (by decide)).trans (hE.1 4 rfl)
      simp (disch := omega) only [gBv_s, x_tellLetter]
      simp only [gU1 (show (4 : Nat) ≠ 49 by decide), h4]
      have s10 : ∀ a b c : Int32, SmC [49] w (gU (gU (gU w7 49 15 a) 49 21 b) 49 14 c) := fun a b c => s7.tr ((SmC.U (by decide)).tr ((SmC.U (by decide)).tr (SmC.U (by decide))))
      have hv : envX ((gU (gU (gU w7 49 (112 - 97) (nI p)) 49 (118 - 97) (σ.1 4 p)) 49 (111 - 97) (nI (spCo σ p n))).1 49) = spEnvF σ g p n (spBed σ p n) ch (nI (spCo σ p n)) := by
        obtain ⟨q0, q1, q2, q3, q4, q5, q6, q7, q8, q9, q10, q11⟩ := envX_get v7
        refine envX_eq ?_ (fun k hk => ?_)
        · simp [gUs, spEnvF, q0, q1, q2, q3, q4, q5, q6, q7, q11]
        · match k, hk with
          | k + 12, _ => rfl
      have hE2 : EncX N σ (gU (gU (gU w7 49 (112 - 97) (nI p)) 49 (118 - 97) (σ.1 4 p)) 49 (111 - 97) (nI (spCo σ p n))) := hE.sm ((s10 _ _ _).toX rfl)
      obtain ⟨w11, e11, s11⟩ := x_holds hN hE2 hR
      rw [e11, hv]
      simp only [gBi, b2i_0]
      have hE3 : EncX N σ w11 := hE2.sm (s11.toX rfl)
      by_cases hh : spHold σ (spEnvF σ g p n (spBed σ p n) ch (nI (spCo σ p n)))
      · rw [if_neg (not_not_intro hh), if_pos ⟨hl, hh⟩]
        obtain ⟨w12, e12, s12⟩ := x_amountOf hN hE3 hR (l := nI 102) (high := nI 99) (by decide)
        rw [e12, show w11.1 49 = _ from s11 49 (by decide), hv]
        exact ⟨w12, rfl, ((s10 _ _ _).mono (by decide)).tr ((s11.mono (by decide)).tr (s12.mono (by decide)))⟩
      · rw [if_pos hh, if_neg (fun z => hh z.2)]
        exact ⟨w11, rfl, ((s10 _ _ _).mono (by decide)).tr (s11.mono (by decide))⟩
    · rw [if_pos hl, if_neg (fun z => hl z.1)]
      exact ⟨w, rfl, SmC.rf⟩
  · rw [if_pos hnr]
    unfold spFO
    rw [if_neg hnr]
    exact ⟨w, rfl, SmC.rf⟩
theorem x_wageOf {N : Nat} (hN : 5000 ≤ N) {σ : sT} {w : gT} (hE : EncX N σ w) (hR : Rng σ) {g n r : Nat} (hg : g < 10) (hr : r < 12) (ch : Int32) : ∃ w', xX1_wageOf N (nI g) (nI n) (nI r) ch w = some (spAmt σ (nI 119) (nI 999) (spEnvW σ g n r ch), w') ∧ SmC [39, 49] w w' := by
  unfold xX1_wageOf
  obtain ⟨w1, e1, s1, v1⟩ := x_tellWalk hN hE (n := n) hg hr ch
  obtain ⟨w2, e2, s2⟩ := x_amountOf hN (hE.sm (s1.toX rfl)) hR (l := nI 119) (high := nI 999) (by decide)
  rw [e1, gBv_s, e2, gBi_s, v1]
  exact ⟨w2, rfl, (s1.mono (by decide)).tr (s2.mono (by decide))⟩
theorem x_tenthsOf {N : Nat} (hN : 5000 ≤ N) {σ : sT} {w : gT} (hE : EncX N σ w) (hR : Rng σ) {g n r : Nat} (hg : g < 10) (hr : r < 12) (ch : Int32) : ∃ w', xX1_tenthsOf N (nI g) (nI n) (nI r) ch w = some (spAmt σ (nI 122) (nI 10) (spEnvW σ g n r ch), w') ∧ SmC [39, 49] w w' := by
  unfold xX1_tenthsOf
  obtain ⟨w1, e1, s1, v1⟩ := x_tellWalk hN hE (n := n) hg hr ch
  obtain ⟨w2, e2, s2⟩ := x_amountOf hN (hE.sm (s1.toX rfl)) hR (l := nI 122) (high := nI 10) (by decide)
  rw [e1, gBv_s, e2, gBi_s, v1]
  exact ⟨w2, rfl, (s1.mono (by decide)).tr (s2.mono (by decide))⟩
def spEnvQ (σ : sT) (l r : Nat) (cold : Int32) : Nat → Int32 := fun k => match k with
  | 0 => nI r
  | 2 => σ.1 2 r
  | 5 => cold
  | 11 => nI l
  | _ => nI 0
theorem x_worthOf {N : Nat} (hN : 5000 ≤ N) {σ : sT} {w : gT} (hE : EncX N σ w) (hR : Rng σ) {l r : Nat} (hr : r < 12) (cold : Int32) : ∃ w', xX1_worthOf N (nI l) (nI r) cold w = some (spAmt σ (nI 113) (nI 999) (spEnvQ σ l r cold), w') ∧ SmC [39, 49] w w' := by
  obtain ⟨w1, e1, s1, z1⟩ := x_fill49 hN (nI 0) w
  unfold xX1_worthOf
  rw [e1]
  have hc : w1.1 2 = σ.1 2 := (s1 2 (by decide)).trans (hE.1 2 rfl)
  simp (disch := omega) only [gBv_s, x_tellLetter, nI_clamp, gG_in]
  simp only [gU1 (show (2 : Nat) ≠ 49 by decide), hc]
  have s10 : ∀ a b c d : Int32, SmC [49] w (gU (gU (gU (gU w1 49 11 a) 49 17 b) 49 19 c) 49 2 d) := fun a b c d => s1.tr ((SmC.U (by decide)).tr ((SmC.U (by decide)).tr ((SmC.U (by decide)).tr (SmC.U (by decide)))))
  have hv : envX ((gU (gU (gU (gU w1 49 (108 - 97) (nI l)) 49 (114 - 97) (nI r)) 49 (116 - 97) (σ.1 2 r)) 49 (99 - 97) cold).1 49) = spEnvQ σ l r cold := by
    refine envX_eq ?_ (fun k hk => ?_)
    · simp [gUs, spEnvQ, z1]
    · match k, hk with
      | k + 12, _ => rfl
  obtain ⟨w2, e2, s2⟩ := x_amountOf hN (hE.sm ((s10 (nI l) (nI r) (σ.1 2 r) cold).toX rfl)) hR (l := nI 113) (high := nI 999) (by decide)
  rw [e2, gBi_s, hv]
  exact ⟨w2, rfl, ((s10 _ _ _ _).mono (by decide)).tr (s2.mono (by decide))⟩
