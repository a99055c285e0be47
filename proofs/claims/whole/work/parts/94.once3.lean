/-- the best after the first t walks of a ghost -/
def Fm (G : Nat → Nat) (R : Nat → Nat) (W s : Nat) : Nat → Nat
  | 0 => G s
  | t + 1 => if R t ≠ 0 ∧ sb (R t) s ∧ sb s W ∧ G (mn s (R t)) + 1 < Fm G R W s t then G (mn s (R t)) + 1 else Fm G R W s t
theorem Fm_s (G R : Nat → Nat) (W s t : Nat) : Fm G R W s (t + 1) = if R t ≠ 0 ∧ sb (R t) s ∧ sb s W ∧ G (mn s (R t)) + 1 < Fm G R W s t then G (mn s (R t)) + 1 else Fm G R W s t := rfl
theorem Fm_mono (G R : Nat → Nat) (W s : Nat) : ∀ t k, Fm G R W s (t + k) ≤ Fm G R W s t
  | _, 0 => Nat.le_refl _
  | t, k + 1 => by
    have ih := Fm_mono G R W s t k
    rw [← Nat.add_assoc, Fm_s]
    split <;> omega
theorem Fm_le {G R : Nat → Nat} {W s t' t : Nat} (h : t' < t) (h0 : R t' ≠ 0) (h1 : sb (R t') s) (h2 : sb s W) : Fm G R W s t ≤ G (mn s (R t')) + 1 := by
  obtain ⟨k, rfl⟩ : ∃ k, t = t' + 1 + k := ⟨t - (t' + 1), by omega⟩
  refine Nat.le_trans (Fm_mono G R W s (t' + 1) k) ?_
  rw [Fm_s]
  split
  · exact Nat.le_refl _
  · have : ¬ G (mn s (R t')) + 1 < Fm G R W s t' := fun z => by
      rename_i hn
      exact hn ⟨h0, h1, h2, z⟩
    omega
theorem Fm_skip {G R : Nat → Nat} {W s t : Nat} (h : R t = 0 ∨ ∃ t', t' < t ∧ R t' = R t) : Fm G R W s (t + 1) = Fm G R W s t := by
  rw [Fm_s, if_neg]
  rintro ⟨h0, h1, h2, h3⟩
  obtain ⟨t', h4, h5⟩ := h.resolve_left h0
  have := Fm_le (G := G) (R := R) (W := W) (s := s) h4 (by rw [h5]; exact h0) (by rw [h5]; exact h1) h2
  rw [h5] at this
  omega
/-- who a walk frightens of those wanted -/
def Rw (σ : sT) (M g t : Nat) : Nat := bn (fun q => tol (nI M) q ∧ spP2 σ g (t / 12) (t % 12) q) 10
abbrev spPM (σ : sT) (M g n q : Nat) : Prop := tol (nI M) q ∧ σ.1 3 (n * 10 + q) ≠ nI 255 ∧ spFV σ g q n (nI 0) ≠ (-2)
theorem Rw_lt (σ : sT) (M g t : Nat) : Rw σ M g t < 1024 := bn_lt _ 10
theorem Rw_sb {σ : sT} {M g t : Nat} (hM : M < 1024) : sb (Rw σ M g t) M := sb_i.mpr fun i hi => by
  unfold Rw at hi
  rw [bn_tb, decide_eq_true_iff] at hi
  have := (tol_iff (v := M) (p := i) (by omega) (by omega)).mp hi.2.1
  exact (bitA_tb M i).mp this
theorem x_frBy {N : Nat} (hN : 5000 ≤ N) {σ : sT} {w : gT} (hE : EncX N σ w) (hR : Rng σ) {M g n : Nat} (hg : g < 10) (hn : n < 7) : ∃ w', xX1_frightenedBy N (nI g) (nI n) (nI M) w = some (nI (bn (spPM σ M g n) 10), w') ∧ SmC [39, 49] w w' := by
  unfold xX1_frightenedBy
  refine gW2_ind (fun t => ∃ w', t = some (nI (bn (spPM σ M g n) 10), w') ∧ SmC [39, 49] w w') (fun m a b w1 => ∃ q, q ≤ 10 ∧ a = nI (bn (spPM σ M g n) q) ∧ b = nI q ∧ m = 10 - q ∧ SmC [39, 49] w w1) ?_ N 10 _ _ w (by omega) ⟨0, by omega, rfl, rfl, rfl, SmC.rf⟩
  rintro m go a b w1 ⟨q, hq, rfl, rfl, rfl, hs⟩ ih
  have hE1 : EncX N σ w1 := hE.sm (hs.toX rfl)
  unfold xX1_frightenedBy_b6
  by_cases h : 10 ≤ q
  · rw [if_pos (yle (by omega) (by omega) h)]
    have : q = 10 := by omega
    subst this
    exact ⟨w1, rfl, hs⟩
  · rw [if_neg (nle (by omega) (by omega) h)]
    simp only [gLet_s, nI_10, ↓reduceIte]
    rw [nI_mul]
    simp only [nI_add]
    rw [gG_in (by omega) (by omega), nI_clamp (by omega), hE1.1 3 rfl]
    have no : ¬ spPM σ M g n q → ∃ w', go (nI (bn (spPM σ M g n) q)) (nI (q + 1)) w1 = some (nI (bn (spPM σ M g n) 10), w') ∧ SmC [39, 49] w w' := fun hne => ih (10 - (q + 1)) _ _ _ (by omega) ⟨q + 1, by omega, by rw [bn_f hne], rfl, rfl, hs⟩
    by_cases t : tol (nI M) q
    · rw [if_pos t]
      by_cases b : σ.1 3 (n * 10 + q) = nI 255
      · rw [if_pos b]
        exact no (fun z => z.2.1 b)
      · rw [if_neg b]
        obtain ⟨r, hr, er⟩ := (hR.1.2.1 (n * 10 + q) (by omega)).resolve_right b
        have er : σ.1 3 (n * 10 + q) = nI r := er
        have ebd : spBed σ q n = r := by
          unfold spBed
          rw [er, nI_clamp (by omega)]
        have efo : spFO σ g q n r (nI 0) = spFV σ g q n (nI 0) := by
          unfold spFO
          rw [if_pos (Or.inl ebd.symm)]
        rw [er]
        obtain ⟨w2, e2, s2⟩ := x_frightOf hN hE1 hR hg (show q < 10 by omega) hn hr (nI 0)
        rw [e2, gBi_s, efo]
        by_cases f : spFV σ g q n (nI 0) = (-2)
        · rw [if_pos f]
          exact ih (10 - (q + 1)) _ _ _ (by omega) ⟨q + 1, by omega, by rw [bn_f (fun z => z.2.2 f)], rfl, rfl, hs.tr s2⟩
        · rw [if_neg f, bn_step (by omega)]
          exact ih (10 - (q + 1)) _ _ _ (by omega) ⟨q + 1, by omega, by rw [bn_t ⟨t, b, f⟩], rfl, rfl, hs.tr s2⟩
    · rw [if_neg t]
      exact no (fun z => t z.1)
/-- one ghost used: after t of its walks -/
def GI (σ : sT) (M g mk : Nat) (w0 : gT) (A0 : Nat → Nat → Nat) (t : Nat) (w : gT) (A : Nat → Nat → Nat) : Prop := SmC [39, 49, 54, 55] w0 w ∧ NB A w ∧ (∀ j s, j ≠ g → A j s = A0 j s) ∧ (∀ s, s < 1024 → A g s = Fm (A0 (g + 1)) (Rw σ M g) M s t) ∧ (∀ t', t' < t → w.1 54 (84 * g + t') = nI (Rw σ M g t')) ∧ (∀ i, ¬ (84 * g ≤ i ∧ i < 84 * g + t) → w.1 54 i = w0.1 54 i) ∧ ∀ q, q < 1024 → ∃ y, y ≤ mk ∧ w.1 55 q = nI y ∧ (y = mk ↔ ∃ t', t' < t ∧ Rw σ M g t' = q ∧ q ≠ 0)
theorem GI_step {N : Nat} (hN : 5000 ≤ N) {σ : sT} {M g mk t : Nat} {w0 w : gT} {A0 A : Nat → Nat → Nat} (hM : M < 1024) (hg : g < 10) (hmk : mk < 2 ^ 30) (ht : t < 84) (h6 : w0.1 52 6 = nI M) (h5 : w0.1 52 5 = nI mk) (h : GI σ M g mk w0 A0 t w A) (k11 : gT → Option gT) (Post : Option gT → Prop) (hP : ∀ w' A', GI σ M g mk w0 A0 (t + 1) w' A' → Post (k11 w')) :
    Post (gLet (gU w 54 (84 * g + t) (nI (Rw σ M g t))) fun (w15 : gT) => (if nI (Rw σ M g t) = (nI 0) then k11 w15 else gG (nI (Rw σ M g t)) 1024 <| (if (w15.1 55 (nI (Rw σ M g t)).toNatClampNeg) = (w15.1 52 5) then k11 w15 else gG (nI (Rw σ M g t)) 1024 <| gLet (gU w15 55 (nI (Rw σ M g t)).toNatClampNeg (w15.1 52 5)) fun (w16 : gT) => gBv (xX0_useWalk N (nI g) (nI (Rw σ M g t)) w16) fun (w17 : gT) => k11 w17))) := by
  obtain ⟨h1, h2, h3, h4, h7, h8, h9⟩ := h
  have hRl := Rw_lt σ M g t
  have hRs : sb (Rw σ M g t) M := Rw_sb hM
  have hreach : ∀ t', t' < t + 1 → (gU w 54 (84 * g + t) (nI (Rw σ M g t))).1 54 (84 * g + t') = nI (Rw σ M g t') := fun t' h => by
    rw [gUs]
    by_cases e : t' = t
    · rw [if_pos (by rw [e]), e]
    · rw [if_neg (by omega)]
      exact h7 t' (by omega)
  have hreach2 : ∀ i, ¬ (84 * g ≤ i ∧ i < 84 * g + (t + 1)) → (gU w 54 (84 * g + t) (nI (Rw σ M g t))).1 54 i = w0.1 54 i := fun i hi => by
    rw [gU2 (by omega)]
    exact h8 i (by omega)
  have hNB : NB A (gU w 54 (84 * g + t) (nI (Rw σ M g t))) := h2
  have hsm : SmC [39, 49, 54, 55] w0 (gU w 54 (84 * g + t) (nI (Rw σ M g t))) := h1.tr (SmC.U (by decide))
  rw [gLet_s, gU1 (by decide), gU1 (by decide), h1 52 (by decide), h5, nI_clamp (by omega)]
  obtain ⟨y, y1, y2, y3⟩ := h9 (Rw σ M g t) hRl
  have skip : (Rw σ M g t = 0 ∨ ∃ t', t' < t ∧ Rw σ M g t' = Rw σ M g t) → Post (k11 (gU w 54 (84 * g + t) (nI (Rw σ M g t)))) := fun hsk => by
    refine hP _ A ⟨hsm, hNB, h3, fun s hs => ?_, hreach, hreach2, fun q hq => ?_⟩
    · rw [Fm_skip hsk]
      exact h4 s hs
    · obtain ⟨z, z1, z2, z3⟩ := h9 q hq
      refine ⟨z, z1, by rw [gU1 (by decide)]; exact z2, z3.trans ⟨fun ⟨t', a1, a2⟩ => ⟨t', by omega, a2⟩, fun ⟨t', a1, a2, a3⟩ => ?_⟩⟩
      by_cases e : t' = t
      · subst e
        rcases hsk with c | ⟨t2, c1, c2⟩
        · exact absurd (a2.symm.trans c) a3
        · exact ⟨t2, c1, c2.trans a2, a3⟩
      · exact ⟨t', by omega, a2, a3⟩
  by_cases r0 : Rw σ M g t = 0
  · rw [if_pos (by rw [r0])]
    exact skip (Or.inl r0)
  · rw [if_neg (fun z => r0 ((nI_eq (by omega) (by omega)).mp z)), gG_in hRl (by omega), y2]
    by_cases c : y = mk
    · obtain ⟨t', c1, c2, c3⟩ := y3.mp c
      rw [if_pos (by rw [c])]
      exact skip (Or.inr ⟨t', c1, c2⟩)
    · rw [if_neg (fun z => c ((nI_eq (by omega) (by omega)).mp z)), gG_in hRl (by omega), gLet_s]
      have h6' : (gU (gU w 54 (84 * g + t) (nI (Rw σ M g t))) 55 (Rw σ M g t) (nI mk)).1 52 6 = nI M := by
        rw [gU1 (by decide), gU1 (by decide), h1 52 (by decide)]
        exact h6
      obtain ⟨w', A', e1, e2, e3, e4, e5⟩ := x_useWalk hN (A := A) (w := gU (gU w 54 (84 * g + t) (nI (Rw σ M g t))) 55 (Rw σ M g t) (nI mk)) h2 hg hM hRs h6'
      rw [e1, gBv_s]
      refine hP w' A' ⟨hsm.tr (SmC.tr (SmC.U (cs := [39, 49, 54, 55]) (a := 55) (by decide)) (fun c _ => by rw [e2])), e3, fun j s hj => (e5 j s hj).trans (h3 j s hj), fun s hs => ?_, fun t' ht' => ?_, fun i hi => ?_, fun q hq => ?_⟩
      · rw [e4, h3 (g + 1) _ (by omega), h4 s hs, Fm_s]
        by_cases z : sb (Rw σ M g t) s ∧ sb s M ∧ A0 (g + 1) (mn s (Rw σ M g t)) + 1 < Fm (A0 (g + 1)) (Rw σ M g) M s t
        · rw [if_pos z, if_pos ⟨r0, z⟩]
        · rw [if_neg z, if_neg (fun x => z x.2)]
      · rw [e2, gU1 (by decide)]
        exact hreach t' ht'
      · rw [e2, gU1 (by decide)]
        exact hreach2 i hi
      · rw [e2, gUs]
        by_cases e : q = Rw σ M g t
        · rw [if_pos e]
          exact ⟨mk, Nat.le_refl _, rfl, fun _ => ⟨t, by omega, e.symm, by rw [e]; exact r0⟩, fun _ => rfl⟩
        · rw [if_neg e, gU1 (by decide)]
          obtain ⟨z, z1, z2, z3⟩ := h9 q hq
          refine ⟨z, z1, z2, z3.trans ⟨fun ⟨t', a1, a2⟩ => ⟨t', by omega, a2⟩, fun ⟨t', a1, a2, a3⟩ => ⟨t', ?_, a2, a3⟩⟩⟩
          have : t' ≠ t := fun x => e (by rw [← a2, x])
          omega
theorem x_useGhost {N : Nat} (hN : 5000 ≤ N) {σ : sT} {w0 : gT} {A0 : Nat → Nat → Nat} (hE : EncX N σ w0) (hR : Rng σ) {M g mk : Nat} (hM : M < 1024) (hMs : ∀ q, q < 10 → tol (nI M) q → tol (σ.1 1 9) q) (hg : g < 10) (hmk : mk < 2 ^ 30) (h6 : w0.1 52 6 = nI M) (h5 : w0.1 52 5 = nI mk) (h : GI σ M g mk w0 A0 0 w0 A0) : ∃ w' A', xX0_useGhost N (nI g) w0 = some w' ∧ GI σ M g mk w0 A0 84 w' A' := by
  unfold xX0_useGhost
  refine gW1_ind (fun (t : Option gT) => ∃ w' A', t = some w' ∧ GI σ M g mk w0 A0 84 w' A') (fun m a w1 => ∃ n A1, n ≤ 7 ∧ a = nI n ∧ m = 7 - n ∧ GI σ M g mk w0 A0 (12 * n) w1 A1) ?_ N 7 _ w0 (by omega) ⟨0, A0, by omega, rfl, rfl, h⟩
  rintro m go a w1 ⟨n, A1, hn, rfl, rfl, hi⟩ ih
  unfold xX0_useGhost_b2
  by_cases q : 7 ≤ n
  · rw [if_pos (yle (by omega) (by omega) q)]
    have : n = 7 := by omega
    subst this
    exact ⟨w1, A1, rfl, hi⟩
  · have hE1 : EncX N σ w1 := hE.sm (hi.1.toX rfl)
    obtain ⟨w2, e2, s2⟩ := x_frBy hN hE1 hR (M := M) hg (show n < 7 by omega)
    rw [if_neg (nle (by omega) (by omega) q), hi.1 52 (by decide), h6, e2, gBi_s, gLet_s]
    have hi2 : GI σ M g mk w0 A0 (12 * n) w2 A1 := by
      obtain ⟨g1, g2, g3, g4, g5, g6, g7⟩ := hi
      obtain ⟨-, k55, k2⟩ := p_X1_frightenedBy N w1 (nI g) (nI n) (nI M) w1 ⟨rfl, rfl, rfl⟩ _ e2
      have k2 : w2.2 = w1.2 := k2
      have k55 : w2.1 55 = w1.1 55 := k55
      refine ⟨g1.tr (s2.mono (by decide)), ?_, g3, g4, fun t' h => by rw [s2 54 (by decide)]; exact g5 t' h, fun i h => by rw [s2 54 (by decide)]; exact g6 i h, fun q hq => by rw [k55]; exact g7 q hq⟩
      unfold NB at g2 ⊢
      rw [k2]
      exact g2
    refine gW1_ind (fun (t : Option gT) => ∃ w' A', t = some w' ∧ GI σ M g mk w0 A0 84 w' A') (fun m a w1 => ∃ r A1, r ≤ 12 ∧ a = nI r ∧ m = 12 - r ∧ GI σ M g mk w0 A0 (12 * n + r) w1 A1) ?_ N 12 _ w2 (by omega) ⟨0, A1, by omega, rfl, rfl, hi2⟩
    rintro m go2 a w3 ⟨r, A3, hr, rfl, rfl, hi3⟩ ih2
    unfold xX0_useGhost_b25
    by_cases q2 : 12 ≤ r
    · have : r = 12 := by omega
      subst this
      rw [if_pos (yle (by omega) (by omega) q2), nI_add]
      exact ih (7 - (n + 1)) _ _ (by omega) ⟨n + 1, A3, by omega, rfl, rfl, hi3⟩
    · have hE3 : EncX N σ w3 := hE.sm (hi3.1.toX rfl)
      have et : (12 * n + r) / 12 = n ∧ (12 * n + r) % 12 = r := by omega
      have hb : bn (fun q => spPM σ M g n q ∧ spNear σ g q n r) 10 = Rw σ M g (12 * n + r) := by
        unfold Rw
        rw [et.1, et.2]
        refine bn_congr 10 (fun p hp => ?_)
        have := spP_eq hR (g := g) hp (show n < 7 by omega) (show r < 12 by omega)
        constructor
        · rintro ⟨⟨a1, a2, a3⟩, a4⟩
          exact ⟨a1, this.mp ⟨⟨hMs p hp a1, a2, a3⟩, a4⟩⟩
        · rintro ⟨a1, a2⟩
          obtain ⟨⟨b1, b2, b3⟩, b4⟩ := this.mpr a2
          exact ⟨⟨a1, b2, b3⟩, b4⟩
      rw [if_neg (nle (by omega) (by omega) q2), gLet_s, x_within hN hE3 hR hg (show n < 7 by omega) (show r < 12 by omega), gBi_s, hb, nI_mul, nI_add, nI_mul, nI_add, show (g * 7 + n) * 12 + r = 84 * g + (12 * n + r) by omega, gG_in (n := 840) (by omega) (by omega), nI_clamp (by omega)]
      refine GI_step hN hM hg hmk (show 12 * n + r < 84 by omega) h6 h5 hi3 (fun (w12 : gT) => go2 (nI r + nI 1) w12) (fun (t : Option gT) => ∃ w' A', t = some w' ∧ GI σ M g mk w0 A0 84 w' A') (fun w' A' hGI => ?_)
      try dsimp only
      rw [nI_add]
      exact ih2 (12 - (r + 1)) _ _ (by omega) ⟨r + 1, A', by omega, rfl, rfl, hGI⟩
