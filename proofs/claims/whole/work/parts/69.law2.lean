theorem topA (T : Nat) : nI T - nI 1 + nI 1 = nI T := Int32.sub_add_cancel _ _
theorem topE (T : Nat) : nI T = nI (T + 1) - nI 1 := by rw [← nI_add, Int32.add_sub_cancel]
theorem topM {T : Nat} (h : 1 ≤ T) : nI T - nI 1 = nI (T - 1) := pk_sub h
theorem m1_sub (x : Int32) : x + (-1) = x - nI 1 := by
  rw [Int32.sub_eq_add_neg]
  rw [show -(nI 1) = (-1 : Int32) by decide]
theorem topD {T : Nat} (h : 1 ≤ T) : nI T - nI 1 + (-1) = nI (T - 1) - nI 1 := by
  rw [topM h, m1_sub]
theorem nI_01 : ¬ nI 0 = nI 1 := by decide
/-- the class reckons -/
theorem x_reck {N : Nat} (P κ : Nat → Nat) {a b k L : Nat} (hL : b + k < L) (hL2 : L ≤ 256) {w : gT} (h33 : w.1 33 6 = nI L) (hc : ∀ i, a ≤ i → i < b → TyS P κ b i ∧ CdX w P k i) (hd : w.1 37 (b + k) = nI 2) (hκ : κ b = 1 ∨ κ b = 100) : ∀ F f i T s w1, b - i < F → b - i < f → a ≤ i → i ≤ b → T = htK (κ i) → (κ i = 100 → s 0 = nI 0 ∨ s 0 = nI 1) → SmC [39] w w1 → (∀ j, j < T → w1.1 39 j = s j) → ∃ w', gW2 (xX3_reckon_b5 N) F (nI T - nI 1) (nI (i + k)) w1 = some (pv P b (envX (w.1 49)) f T s i, w') ∧ SmC [39] w w' := by
  intro F
  induction F with
  | zero => intro f i T s w1 h; omega
  | succ F ih =>
    intro f i T s w1 hF hf hai hib hT hb1 hs hst
    obtain ⟨f, rfl⟩ : ∃ f', f = f' + 1 := ⟨f - 1, by omega⟩
    have e37 : ∀ j, w1.1 37 j = w.1 37 j := fun j => by rw [hs 37 (by decide)]
    have e38 : ∀ j, w1.1 38 j = w.1 38 j := fun j => by rw [hs 38 (by decide)]
    rw [gW2_s]
    revert ih
    generalize gW2 (xX3_reckon_b5 N) F = go
    intro ih
    unfold xX3_reckon_b5 pv
    rw [if_neg (nlt (by omega) (by omega) (by omega)), hs 33 (by decide), h33, if_neg (nle (by omega) (by omega) (by omega)), gLet_s, gLet_s, gG_in (n := 256) (by omega) (by omega), gLet_s, nI_clamp (by omega), e37]
    by_cases q : b ≤ i
    · have e : i = b := by omega
      subst e
      have hT1 : T = 1 := by
        rcases hκ with h | h
        · rw [hT, h]; rfl
        · rw [hT, h]; rfl
      subst hT1
      rw [if_pos (Nat.le_refl _), hd, if_neg (by decide), if_neg (by decide), if_pos (by decide), if_pos rfl, topM (by omega), gG_in (by omega) (by omega), nI_clamp (by omega)]
      exact ⟨w1, by rw [← hst 0 (by omega)], hs⟩
    · obtain ⟨ty, c1, c2, c3, c4⟩ := hc i hai (by omega)
      rw [if_neg q, c1]
      have push : κ i < 31 → κ (i + 1) = κ i + 1 → ∀ x, ∃ w', go (nI T) (nI (i + k) + nI 1) (gU w1 39 T x) = some (pv P b (envX (w.1 49)) f (T + 1) (stU s T x) (i + 1), w') ∧ SmC [39] w w' := fun h1 h2 x => by
        rw [nI_add, show i + k + 1 = i + 1 + k by omega, topE T]
        have e1 : T = κ i := by rw [hT, htK_lt (by omega)]
        refine ih f (i + 1) (T + 1) _ _ (by omega) (by omega) (by omega) (by omega) (by rw [h2, htK_lt (by omega), e1]) (fun z => by omega) (hs.tr (SmC.U (by decide))) (fun j hj => ?_)
        unfold stU
        rw [gUs]
        by_cases e : j = T
        · rw [if_pos e, if_pos e]
        · rw [if_neg e, if_neg e]
          exact hst j (by omega)
      rcases ty with ⟨o1, t1, t2⟩ | ⟨o1, t0, t1, t2⟩ | ⟨o1, t1, t2⟩ | ⟨o1, t1, t2, t3, t4, t5⟩ | ⟨o1, o2, t1, t2, t3⟩ | ⟨o1, o2, t1, t2⟩
      · have hT31 : T < 31 := by rw [hT, htK_lt (by omega)]; exact t1
        rw [if_pos o1, o1, if_pos (show nI (opX 0) = nI 0 from rfl)]
        try dsimp only
        rw [topA, if_pos (ylt (by omega) (by omega) (by omega)), gLet_s, if_pos (show nI (opX 0) = nI 0 from rfl), gG_in (n := 256) (by omega) (by omega)]
        try dsimp only
        rw [gG_in (n := 32) (by omega) (by omega), gLet_s, nI_clamp (by omega), e38, c2 o1]
        exact push t1 t2 _
      · have hT31 : T < 31 := by rw [hT, htK_lt (by omega)]; exact t1
        have hp := posX_lt _ t0
        have he : w1.1 49 (posX (cA (P i))) = envX (w.1 49) (cA (P i)) := by
          rw [hs 49 (by decide)]
          exact (if_pos t0).symm
        rw [if_neg (show ¬ cO (P i) = 0 by omega), if_pos o1, o1, if_neg (show ¬ nI (opX 1) = nI 0 by decide), if_pos (show nI (opX 1) = nI 1 from rfl)]
        try dsimp only
        rw [topA, if_pos (ylt (by omega) (by omega) (by omega)), gLet_s, if_neg (show ¬ nI (opX 1) = nI 0 by decide), gG_in (n := 256) (by omega) (by omega), e38, c3 o1, x_letterAt hp, gBi_s]
        try dsimp only
        rw [gG_in (n := 32) (by omega) (by omega), gLet_s, nI_clamp (by omega), he]
        exact push t1 t2 _
      · have hT1 : T = 1 := by rw [hT, t1]; rfl
        subst hT1
        rw [if_neg (show ¬ cO (P i) = 0 by omega), if_neg (show ¬ cO (P i) = 1 by omega), if_pos o1, o1, if_neg (by decide), if_neg (by decide), if_pos (by decide), if_neg (by decide), if_pos (show nI (opX 10) = nI 3 from rfl), topM (by omega), gG_in (n := 32) (by omega) (by omega), gG_in (n := 32) (by omega) (by omega), gLet_s, nI_clamp (by omega)]
        try dsimp only
        rw [nI_add, show i + k + 1 = i + 1 + k by omega]
        have h0 := hst 0 (by omega)
        refine ih f (i + 1) 1 _ _ (by omega) (by omega) (by omega) (by omega) (by rw [t2]; rfl) (fun _ => ?_) (hs.tr (SmC.U (by decide))) (fun j hj => ?_)
        · show stU s 0 (nI 1 - s 0) 0 = nI 0 ∨ stU s 0 (nI 1 - s 0) 0 = nI 1
          have e : stU s 0 (nI 1 - s 0) 0 = nI 1 - s 0 := if_pos rfl
          rw [e]
          rcases hb1 t1 with h | h
          · rw [h]; exact Or.inr (by decide)
          · rw [h]; exact Or.inl (by decide)
        · have : j = 0 := by omega
          subst this
          show (gU w1 39 0 (nI 1 - w1.1 39 0)).1 39 0 = stU s 0 (nI 1 - s 0) 0
          rw [gU0, h0]
          exact (if_pos rfl).symm
      · have hT1 : T = 1 := by rw [hT, t1]; rfl
        subst hT1
        have h0 := hst 0 (by omega)
        have hb2 := hb1 t1
        rw [if_neg (show ¬ cO (P i) = 0 by omega), if_neg (show ¬ cO (P i) = 1 by omega), if_neg (show ¬ cO (P i) = 10 by omega), if_pos o1]
        have jump : ∃ w', go (nI 1 - nI 1) (gMax (nI (i + k)) (w1.1 38 (i + k) - nI 1) + nI 1) w1 = some (pv P b (envX (w.1 49)) f 1 s (cA (P i)), w') ∧ SmC [39] w w' := by
          rw [e38, c4 o1, pk_sub (show 1 ≤ cA (P i) + k by omega), gMax_nI (by omega) (by omega), nI_add, show max (i + k) (cA (P i) + k - 1) + 1 = cA (P i) + k by omega]
          exact ih f _ 1 _ _ (by omega) (by omega) (by omega) t4 (by rw [t5]; rfl) (fun _ => hb2) hs hst
        have fall : ∃ w', go (nI 1 - nI 1 + (-1)) (nI (i + k) + nI 1) w1 = some (pv P b (envX (w.1 49)) f (1 - 1) s (i + 1), w') ∧ SmC [39] w w' := by
          rw [topD (by omega), nI_add, show i + k + 1 = i + 1 + k by omega]
          exact ih f (i + 1) 0 _ _ (by omega) (by omega) (by omega) (by omega) (by rw [t2]; rfl) (fun z => by omega) hs (fun j hj => by omega)
        revert jump fall
        rw [topM (T := 1) (by omega)]
        intro jump fall
        have hc11 : ∀ o, o = 11 ∨ o = 12 → nI (opX o) ≠ nI 0 ∧ nI (opX o) ≠ nI 1 ∧ nI (opX o) ≠ nI 2 ∧ nI (opX o) ≠ nI 3 := fun o ho => by
          rcases ho with rfl | rfl <;> decide
        obtain ⟨d1, d2, d3, d4⟩ := hc11 _ o1
        rw [if_neg d1, if_neg d2, if_pos (by decide), if_neg d3, if_neg d4, gLet_s]
        have body : ∃ w', (gLet (fun (v24 : Int32) (w25 : gT) => gLet (fun (v27 : Int32) (v28 : Int32) (w29 : gT) => (if v27 = v28 then gG (nI (i + k)) 256 <| gLet (gMax (nI (i + k)) ((w29.1 38 (i + k)) - (nI 1))) fun (v30 : Int32) => (fun (v6 : Int32) (v7 : Int32) (w8 : gT) => go v6 (v7 + (nI 1)) w8) (nI (1 - 1)) v30 w29 else (fun (v6 : Int32) (v7 : Int32) (w8 : gT) => go v6 (v7 + (nI 1)) w8) (nI (1 - 1) + (-1)) (nI (i + k)) w29)) fun k26 => (if nI (opX (cO (P i))) = (nI 5) then k26 v24 (nI 1) w25 else k26 v24 (nI 0) w25)) fun k23 => gG (nI (1 - 1)) 32 <| (if (w1.1 39 (nI (1 - 1)).toNatClampNeg) = (nI 0) then k23 (nI 0) w1 else k23 (nI 1) w1)) = some ((if s (1 - 1) = (if cO (P i) = 12 then nI 1 else nI 0) then pv P b (envX (w.1 49)) f 1 s (cA (P i)) else pv P b (envX (w.1 49)) f (1 - 1) s (i + 1)), w') ∧ SmC [39] w w' := by
          rw [gLet_s, gG_in (n := 32) (by omega) (by omega), nI_clamp (by omega), h0]
          simp only [gLet_s]
          rw [gG_in (n := 256) (by omega) (by omega)]
          rcases o1 with o | o
          · rw [o, if_neg (show ¬ nI (opX 11) = nI 5 by decide), if_neg (show ¬ nI (opX 11) = nI 5 by decide), if_neg (show ¬ (11 : Nat) = 12 by decide)]
            rcases hb2 with h | h
            · rw [show s (1 - 1) = nI 0 from h]
              simp only [nI_10, nI_01, ↓reduceIte, if_true, if_false]
              exact jump
            · rw [show s (1 - 1) = nI 1 from h]
              simp only [nI_10, nI_01, ↓reduceIte, if_true, if_false]
              exact fall
          · rw [o, if_pos (show nI (opX 12) = nI 5 from rfl), if_pos (show nI (opX 12) = nI 5 from rfl), if_pos (show (12 : Nat) = 12 from rfl)]
            rcases hb2 with h | h
            · rw [show s (1 - 1) = nI 0 from h]
              simp only [nI_10, nI_01, ↓reduceIte, if_true, if_false]
              exact fall
            · rw [show s (1 - 1) = nI 1 from h]
              simp only [nI_10, nI_01, ↓reduceIte, if_true, if_false]
              exact jump
        rcases o1 with o | o
        · rw [o] at body ⊢
          rw [if_pos (show nI (opX 11) = nI 4 from rfl)]
          exact body
        · rw [o] at body ⊢
          rw [if_neg (show ¬ nI (opX 12) = nI 4 by decide), if_pos (show nI (opX 12) = nI 5 from rfl)]
          exact body
      all_goals
        have o3 : cO (P i) ≤ 9 := by omega
        have o4 : 2 ≤ cO (P i) := by omega
        have hT2 : T = κ i := by rw [hT, htK_lt (by omega)]
        obtain ⟨d1, d2, d3, d4, d5, d6, d7, d8⟩ := opX_bin o4 o3
        have h1 := hst (T - 1) (by omega)
        have h2 := hst (T - 2) (by omega)
        rw [if_neg (show ¬ cO (P i) = 0 by omega), if_neg (show ¬ cO (P i) = 1 by omega), if_neg (show ¬ cO (P i) = 10 by omega), if_neg (show ¬ (cO (P i) = 11 ∨ cO (P i) = 12) by omega), if_neg d1, if_neg d2, topM (T := T) (by omega), if_pos (yle (by omega) (by omega) (by omega)), if_neg d3, if_neg d4, gLet_s, if_neg d5, if_neg d6, gG_in (n := 32) (by omega) (by omega), gLet_s, nI_clamp (by omega), show nI (T - 1) + (-1) = nI (T - 2) from (by rw [show T - 2 = T - 1 - 1 by omega, ← topM (T := T - 1) (by omega), m1_sub]), if_neg (nlt (by omega) (by omega) (by omega)), h1]
        simp only [gLet_s]
        have goo : ¬ ((cO (P i) = 5 ∨ cO (P i) = 6) ∧ s (T - 1) = nI 0) → ∃ w', (gG (nI (T - 2)) 32 <| gBi (xX3_joined (nI (opX (cO (P i)))) (w1.1 39 (nI (T - 2)).toNatClampNeg) (s (T - 1)) w1) fun (v34 : Int32) (w35 : gT) => gG (nI (T - 2)) 32 <| go (nI (T - 2)) (nI (i + k) + (nI 1)) (gU w35 39 (nI (T - 2)).toNatClampNeg v34)) = some ((if (cO (P i) = 5 ∨ cO (P i) = 6) ∧ s (T - 1) = nI 0 then nI 0 else pv P b (envX (w.1 49)) f (T - 1) (stU s (T - 2) (jo (cO (P i)) (s (T - 2)) (s (T - 1)))) (i + 1)), w') ∧ SmC [39] w w' := fun hz => by
          rw [gG_in (n := 32) (by omega) (by omega), nI_clamp (by omega), h2, x_joined o4 o3 hz, gBi_s, gG_in (n := 32) (by omega) (by omega), if_neg hz, nI_add, show i + k + 1 = i + 1 + k by omega, show nI (T - 2) = nI (T - 1) - nI 1 from (by rw [topM (by omega), show T - 1 - 1 = T - 2 by omega])]
          refine ih f (i + 1) (T - 1) _ _ (by omega) (by omega) (by omega) (by omega) ?_ (fun z => ?_) (hs.tr (SmC.U (by decide))) (fun j hj => ?_)
          · first
            | (rw [t3, htK_lt (by omega)]; omega)
            | (rw [t2]; show T - 1 = 1; omega)
          · first
            | omega
            | (have e : T - 2 = 0 := by omega
               rw [e]
               have e2 : stU s 0 (jo (cO (P i)) (s 0) (s (T - 1))) 0 = jo (cO (P i)) (s 0) (s (T - 1)) := if_pos rfl
               rw [e2]
               exact jo_b _ (by omega) _ _)
          · unfold stU
            rw [gUs]
            by_cases e : j = T - 2
            · rw [if_pos e, if_pos e]
            · rw [if_neg e, if_neg e]
              exact hst j (by omega)
        by_cases z : s (T - 1) = nI 0
        · rw [if_pos z]
          by_cases o5 : cO (P i) = 5
          · rw [if_pos (d7.mpr o5), if_pos ⟨Or.inl o5, z⟩]
            exact ⟨w1, rfl, hs⟩
          · rw [if_neg (fun y => o5 (d7.mp y))]
            by_cases o6 : cO (P i) = 6
            · rw [if_pos (d8.mpr o6), if_pos ⟨Or.inr o6, z⟩]
              exact ⟨w1, rfl, hs⟩
            · rw [if_neg (fun y => o6 (d8.mp y))]
              exact goo (fun y => y.1.elim o5 o6)
        · rw [if_neg z]
          exact goo (fun y => z y.2)
