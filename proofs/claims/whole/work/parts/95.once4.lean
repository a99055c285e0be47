/-- fewest ghosts of the last d for a set; 15 where none do -/
def fdO (σ : sT) (M : Nat) : Nat → Nat → Nat
  | 0, s => if s = 0 then 0 else 15
  | d + 1, s => if tol (σ.1 1 8) (9 - d) then Fm (fdO σ M d) (Rw σ M (9 - d)) M s 84 else fdO σ M d s
theorem Fm_congr {G G' : Nat → Nat} {R : Nat → Nat} {W s : Nat} (hs : s < 1024) (h : ∀ s, s < 1024 → G s = G' s) : ∀ t, Fm G R W s t = Fm G' R W s t
  | 0 => h s hs
  | t + 1 => by
    have := sb_le (mn_sb s (R t))
    rw [Fm_s, Fm_s, Fm_congr hs h t, h (mn s (R t)) (by omega)]
theorem sh40 : ∀ v : Fin 16, gLsl (Int32.toInt64 (nI v.1)) (nI 40) = lI (v.1 * 2 ^ (4 * 10)) := by decide +kernel
def FI (σ : sT) (M mk0 : Nat) (w0 : gT) (d : Nat) (w : gT) (A : Nat → Nat → Nat) : Prop := SmC [39, 49, 52, 54, 55] w0 w ∧ NB A w ∧ (∀ j s, 10 - d ≤ j → j ≤ 10 → s < 1024 → A j s = fdO σ M (10 - j) s) ∧ (∀ j s, j < 10 - d → s < 1024 → A j s = 0) ∧ w.1 52 6 = nI M ∧ (∃ mk, mk ≤ mk0 + d ∧ w.1 52 5 = nI mk ∧ ∀ q, q < 1024 → ∃ y, y ≤ mk ∧ w.1 55 q = nI y) ∧ ∀ g, g < 10 → 10 - d ≤ g → tol (σ.1 1 8) g → ∀ t, t < 84 → w.1 54 (84 * g + t) = nI (Rw σ M g t)
/-- the row above copied -/
theorem x_copyRow {N : Nat} (hN : 5000 ≤ N) {A : Nat → Nat → Nat} {w : gT} {g : Nat} (hg : g < 10) (hA : NB A w) (h0 : ∀ s, s < 1024 → A g s = 0) (k7 : gT → Option gT) : ∃ w' A', gW1 (xX0_fill_b53 N k7 (nI g)) N (nI 0) w = k7 w' ∧ w'.1 = w.1 ∧ NB A' w' ∧ (∀ j s, s < 1024 → A' j s = if j = g then A (g + 1) s else A j s) := by
  refine gW1_ind (fun (t : Option gT) => ∃ w' A', t = k7 w' ∧ w'.1 = w.1 ∧ NB A' w' ∧ (∀ j s, s < 1024 → A' j s = if j = g then A (g + 1) s else A j s)) (fun m a w1 => ∃ k A1, k ≤ 1024 ∧ a = nI k ∧ m = 1024 - k ∧ w1.1 = w.1 ∧ NB A1 w1 ∧ ∀ j s, s < 1024 → A1 j s = if j = g ∧ s < k then A (g + 1) s else A j s) ?_ N 1024 _ w (by omega) ⟨0, A, by omega, rfl, rfl, rfl, hA, fun j s hs => by rw [if_neg (by omega)]⟩
  rintro m go a w1 ⟨k, A1, hk, rfl, rfl, h1, hA1, hv⟩ ih
  unfold xX0_fill_b53
  by_cases q : 1024 ≤ k
  · rw [if_pos (yle (by omega) (by omega) q)]
    refine ⟨w1, A1, rfl, h1, hA1, fun j s hs => ?_⟩
    rw [hv j s hs]
    by_cases e : j = g
    · rw [if_pos ⟨e, by omega⟩, if_pos e]
    · rw [if_neg (fun z => e z.1), if_neg e]
  · have hk2 : k < 1024 := by omega
    have e1 : A1 (g + 1) k = A (g + 1) k := by rw [hv _ _ hk2, if_neg (by omega)]
    have e0 : A1 g k = 0 := by rw [hv _ _ hk2, if_neg (by omega)]; exact h0 k hk2
    have hl := hA.lt (j := g + 1) (s := k) (by omega) hk2
    rw [if_neg (nle (by omega) (by omega) q), gG_in hk2 (by omega), nI_add, x_fewest hA1 (by omega) hk2, gBi_s, gG_in hk2 (by omega), gLet_s, nI_clamp (by omega), nI_add, e1]
    refine ih (1024 - (k + 1)) _ _ (by omega) ⟨k + 1, _, by omega, rfl, rfl, h1, hA1.or (j := g) (by omega) hk2 hl e0, fun j s hs => ?_⟩
    unfold updA
    by_cases e : j = g ∧ s = k
    · rw [if_pos e, if_pos ⟨e.1, by omega⟩, e.2]
    · rw [if_neg e, hv j s hs]
      by_cases e2 : j = g ∧ s < k
      · rw [if_pos e2, if_pos ⟨e2.1, by omega⟩]
      · rw [if_neg e2, if_neg (fun z => e2 ⟨z.1, by have : s ≠ k := fun y => e ⟨z.1, y⟩
                                                    omega⟩)]
theorem x_fill {N : Nat} (hN : 5000 ≤ N) {σ : sT} {w0 : gT} (hE : EncX N σ w0) (hR : Rng σ) {M mk0 : Nat} (hM : M < 1024) (hMs : ∀ q, q < 10 → tol (nI M) q → tol (σ.1 1 9) q) (hmk : mk0 + 10 < 2 ^ 30) (h5 : ∃ mk, mk ≤ mk0 ∧ w0.1 52 5 = nI mk ∧ ∀ q, q < 1024 → ∃ y, y ≤ mk ∧ w0.1 55 q = nI y) : ∃ w' A', xX0_fill N (nI M) w0 = some w' ∧ FI σ M mk0 w0 10 w' A' := by
  have eM : nI M &&& nI 1023 = nI M := by rw [pk_andN (by omega) 10 rfl, Nat.mod_eq_of_lt (by omega)]
  unfold xX0_fill
  rw [gLet_s, gLet_s, eM]
  have hs0 : SmC [39, 49, 52, 54, 55] w0 (gU w0 52 6 (nI M)) := SmC.U (by decide)
  -- the first row
  refine gW1_ind (fun (t : Option gT) => ∃ w' A', t = some w' ∧ FI σ M mk0 w0 10 w' A') (fun m a w1 => ∃ k, k ≤ 1024 ∧ a = nI k ∧ m = 1024 - k ∧ w1.1 = (gU w0 52 6 (nI M)).1 ∧ ∀ s, s < k → w1.2 s = lI ((if s = 0 then 0 else 15) * 2 ^ (4 * 10))) ?_ N 1024 _ _ (by omega) ⟨0, by omega, rfl, rfl, rfl, fun s hs => by omega⟩
  rintro m go a w1 ⟨k, hk, rfl, rfl, h1, hv⟩ ih
  unfold xX0_fill_b11
  by_cases q : 1024 ≤ k
  · have : k = 1024 := by omega
    subst this
    rw [if_pos (yle (by omega) (by omega) q)]
    clear ih
    have hI0 : FI σ M mk0 w0 0 w1 (fun j s => if j = 10 then (if s = 0 then 0 else 15) else 0) := by
      refine ⟨hs0.tr (fun c _ => by rw [h1]), fun s hs => ⟨_, hv s hs, ?_, fun j hj => ?_⟩, fun j s j1 j2 hs => ?_, fun j s j1 hs => ?_, ?_, ?_, fun g g1 g2 => by omega⟩
      · by_cases e : s = 0
        · rw [if_pos e]
          exact one_lt (y := 0) (g := 10) (by omega) (by omega)
        · rw [if_neg e]
          exact one_lt (y := 15) (g := 10) (by omega) (by omega)
      · by_cases e : s = 0
        · rw [if_pos e]
          show _ = if j = 10 then (if s = 0 then 0 else 15) else 0
          rw [if_pos e]
          exact (nb_one 0 10 ⟨j, hj⟩)
        · rw [if_neg e]
          show _ = if j = 10 then (if s = 0 then 0 else 15) else 0
          rw [if_neg e]
          exact (nb_one 15 10 ⟨j, hj⟩)
      · have : j = 10 := by omega
        subst this
        rfl
      · exact if_neg (by omega)
      · rw [h1, gU0]
      · obtain ⟨mk, a1, a2, a3⟩ := h5
        exact ⟨mk, by omega, by rw [h1, gU2 (by decide)]; exact a2, fun q hq => by rw [h1, gU1 (by decide)]; exact a3 q hq⟩
    refine gW1_ind (fun (t : Option gT) => ∃ w' A', t = some w' ∧ FI σ M mk0 w0 10 w' A') (fun m a w1 => ∃ d A1, d ≤ 10 ∧ a = nI (10 - d) - nI 1 ∧ m = 10 - d ∧ FI σ M mk0 w0 d w1 A1) ?_ N 10 _ w1 (by omega) ⟨0, _, by omega, by decide, rfl, hI0⟩
    rintro m go a w2 ⟨d, A1, hd, rfl, rfl, hI⟩ ih
    unfold xX0_fill_b47
    by_cases q : d = 10
    · subst q
      rw [if_pos (by decide)]
      exact ⟨w2, A1, rfl, hI⟩
    · obtain ⟨g, hgd⟩ : ∃ g, g = 9 - d := ⟨_, rfl⟩
      have hg : g < 10 := by omega
      obtain ⟨i1, i2, i3, i4, i5, ⟨mk, b1, b2, b3⟩, i7⟩ := hI
      rw [topM (show 1 ≤ 10 - d by omega), show 10 - d - 1 = g by omega, if_neg (nlt (by omega) (by omega) (by omega)), gLet_s]
      obtain ⟨w3, A3, e3, f3, n3, v3⟩ := x_copyRow hN hg i2 (fun s hs => i4 g s (by omega) hs) (fun (w8 : gT) => gLet (fun (w10 : gT) => go (nI g + (-1)) w10) fun k9 => gBi (xX2_hasGhost (nI g) w8) fun (v11 : Int32) (w12 : gT) => (if v11 = (nI 0) then k9 w12 else gLet (gU w12 52 5 ((w12.1 52 5) + (nI 1))) fun (w13 : gT) => gBv (xX0_useGhost N (nI g) w13) fun (w14 : gT) => k9 w14))
      rw [e3, gLet_s, x_hasGhost _ hg, gBi_s, ifb]
      dsimp only
      have hs3 : SmC [39, 49, 52, 54, 55] w0 w3 := i1.tr (fun c _ => by rw [f3])
      have eF : ∀ s, s < 1024 → A3 (g + 1) s = fdO σ M d s := fun s hs => by
        rw [v3 _ s hs, if_neg (by omega), i3 _ s (by omega) (by omega) hs, show 10 - (g + 1) = d by omega]
      have eg : ∀ s, s < 1024 → A3 g s = fdO σ M d s := fun s hs => by
        rw [v3 _ s hs, if_pos rfl, i3 _ s (by omega) (by omega) hs, show 10 - (g + 1) = d by omega]
      have eo : ∀ j s, j ≠ g → s < 1024 → A3 j s = A1 j s := fun j s hj hs => by rw [v3 j s hs, if_neg hj]
      have e8 : w3.1 1 8 = σ.1 1 8 := by rw [hs3 1 (by decide), hE.1 1 rfl]
      have nx : nI g + (-1) = nI (10 - (d + 1)) - nI 1 := by
        rw [m1_sub, show 10 - (d + 1) = g by omega]
      by_cases tg : tol (w3.1 1 8) g
      · have tg' : tol (σ.1 1 8) g := by rw [← e8]; exact tg
        rw [if_pos tg, gLet_s, f3, b2, nI_add]
        have hsm4 : SmC [39, 49, 52, 54, 55] w0 (gU w3 52 5 (nI (mk + 1))) := hs3.tr (SmC.U (by decide))
        obtain ⟨w5, A5, e5, g1, g2, g3, g4, g5, g6, g7⟩ := x_useGhost hN (w0 := gU w3 52 5 (nI (mk + 1))) (A0 := A3) (hE.sm (hsm4.toX rfl)) hR hM hMs hg (mk := mk + 1) (by omega) (by rw [gU2 (by decide), f3]; exact i5) gU0 ⟨SmC.rf, n3, fun _ _ _ => rfl, fun s hs => by rw [eg s hs]; exact (eF s hs).symm, fun t' h => by omega, fun _ _ => rfl, fun q hq => by
          obtain ⟨y, y1, y2⟩ := b3 q hq
          exact ⟨y, by omega, by rw [gU1 (by decide), f3]; exact y2, ⟨fun z => by omega, fun ⟨t', z, _⟩ => by omega⟩⟩⟩
        rw [e5, gBv_s, nx]
        refine ih (10 - (d + 1)) _ _ (by omega) ⟨d + 1, A5, by omega, rfl, rfl, hsm4.tr (g1.mono (by decide)), g2, fun j s j1 j2 hs => ?_, fun j s j1 hs => ?_, ?_, ⟨mk + 1, by omega, ?_, fun q hq => ?_⟩, fun g' a1 a2 a3 t ht => ?_⟩
        · by_cases ej : j = g
          · subst ej
            rw [g4 s hs, show 10 - j = d + 1 by omega, Fm_congr hs eF]
            show _ = if tol (σ.1 1 8) (9 - d) then Fm (fdO σ M d) (Rw σ M (9 - d)) M s 84 else fdO σ M d s
            rw [← hgd, if_pos tg']
          · rw [g3 j s ej, eo j s ej hs]
            exact i3 j s (by omega) j2 hs
        · rw [g3 j s (by omega), eo j s (by omega) hs]
          exact i4 j s (by omega) hs
        · rw [g1 52 (by decide), gU2 (by decide), f3]
          exact i5
        · rw [g1 52 (by decide), gU0]
        · obtain ⟨y, y1, y2, -⟩ := g7 q hq
          exact ⟨y, y1, y2⟩
        · by_cases ej : g' = g
          · subst ej
            exact g5 t ht
          · rw [g6 _ (by omega), gU1 (by decide), f3]
            exact i7 g' a1 (by omega) a3 t ht
      · have tg' : ¬ tol (σ.1 1 8) g := by rw [← e8]; exact tg
        rw [if_neg tg, nx]
        refine ih (10 - (d + 1)) _ _ (by omega) ⟨d + 1, A3, by omega, rfl, rfl, hs3, n3, fun j s j1 j2 hs => ?_, fun j s j1 hs => ?_, by rw [f3]; exact i5, ⟨mk, by omega, by rw [f3]; exact b2, fun q hq => by rw [f3]; exact b3 q hq⟩, fun g' a1 a2 a3 t ht => ?_⟩
        · by_cases ej : j = g
          · subst ej
            rw [eg s hs, show 10 - j = d + 1 by omega]
            show _ = if tol (σ.1 1 8) (9 - d) then Fm (fdO σ M d) (Rw σ M (9 - d)) M s 84 else fdO σ M d s
            rw [← hgd, if_neg tg']
          · rw [eo j s ej hs]
            exact i3 j s (by omega) j2 hs
        · rw [eo j s (by omega) hs]
          exact i4 j s (by omega) hs
        · by_cases ej : g' = g
          · subst ej
            exact absurd a3 tg'
          · rw [f3]
            exact i7 g' a1 (by omega) a3 t ht
  · have hk2 : k < 1024 := by omega
    rw [if_neg (nle (by omega) (by omega) q), gLet_s]
    have st : ∀ v, v < 16 → v = (if k = 0 then 0 else 15) → ∃ w' A', (gG (nI k) 1024 <| gLet (gUL w1 (nI k).toNatClampNeg (gLsl (Int32.toInt64 (nI v)) (nI 40))) fun (w28 : gT) => go (nI k + (nI 1)) w28) = some w' ∧ FI σ M mk0 w0 10 w' A' := fun v hv16 hve => by
      rw [gG_in hk2 (by omega), gLet_s, nI_clamp (by omega), sh40 ⟨v, hv16⟩, nI_add]
      refine ih (1024 - (k + 1)) _ _ (by omega) ⟨k + 1, by omega, rfl, rfl, h1, fun s hs => ?_⟩
      unfold gUL
      dsimp only
      by_cases e : s = k
      · rw [if_pos e, hve, e]
      · rw [if_neg e]
        exact hv s (by omega)
    by_cases k0 : k = 0
    · rw [if_pos (by rw [k0])]
      exact st 0 (by omega) (by rw [if_pos k0])
    · rw [if_neg (fun z => k0 ((nI_eq (by omega) (by omega)).mp z))]
      exact st 15 (by omega) (by rw [if_neg k0])
