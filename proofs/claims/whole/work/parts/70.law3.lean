theorem P_lt {P κ : Nat → Nat} {b i : Nat} (h : TyS P κ b i) : P i < 13631488 := by
  have h2 : cO (P i) ≤ 12 := by
    rcases h with h | h | h | h | h | h <;> omega
  unfold cO at h2
  omega
/-- the model reckons -/
theorem m_reck {N : Nat} (P κ : Nat → Nat) {a b : Nat} (hb : b ≤ 220) {w : gT} (hc : ∀ i, a ≤ i → i < b → TyS P κ b i ∧ w.1 24 i = nI (P i)) (hκ : κ b = 1 ∨ κ b = 100) : ∀ F f i T s w1, b - i < F → b - i < f → a ≤ i → i ≤ b → T = htK (κ i) → (κ i = 100 → s 0 = nI 0 ∨ s 0 = nI 1) → SmC [29] w w1 → (∀ j, j < T → w1.1 29 j = s j) → ∃ w', gW2 (xX10_comesTo_b16 N (nI b) (nI 0)) F (nI T) (nI i) w1 = some (pv P b (envM (w.1 30)) f T s i, w') ∧ SmC [29] w w' := by
  intro F
  induction F with
  | zero => intro f i T s w1 h; omega
  | succ F ih =>
    intro f i T s w1 hF hf hai hib hT hb1 hs hst
    obtain ⟨f, rfl⟩ : ∃ f', f = f' + 1 := ⟨f - 1, by omega⟩
    rw [gW2_s]
    revert ih
    generalize gW2 (xX10_comesTo_b16 N (nI b) (nI 0)) F = go
    intro ih
    unfold xX10_comesTo_b16 pv
    by_cases q : b ≤ i
    · have e : i = b := by omega
      subst e
      have hT1 : T = 1 := by
        rcases hκ with h | h
        · rw [hT, h]; rfl
        · rw [hT, h]; rfl
      subst hT1
      rw [if_pos (yle (by omega) (by omega) q), if_pos q]
      exact ⟨w1, by rw [← hst 0 (by omega)], hs⟩
    · obtain ⟨ty, cd⟩ := hc i hai (by omega)
      have hPl := P_lt ty
      have e24 : w1.1 24 i = nI (P i) := by rw [hs 24 (by decide)]; exact cd
      have eO : (nI (P i)) / nI 1048576 = nI (cO (P i)) := pk_div (by omega) (by omega) (by omega)
      have eA : gRem (nI (P i)) (nI 1048576) = nI (cA (P i)) := nI_rem (by omega) (by omega) (by omega)
      have hO : cO (P i) < 13 := by unfold cO; omega
      have hA : cA (P i) < 1048576 := Nat.mod_lt _ (by omega)
      have ne : ∀ j, j < 100 → cO (P i) ≠ j → ¬ nI (cO (P i)) = nI j := fun j hj hn z => hn ((nI_eq (by omega) (by omega)).mp z)
      have eq : ∀ j, cO (P i) = j → nI (cO (P i)) = nI j := fun j h => by rw [h]
      rw [if_neg (nle (by omega) (by omega) q), if_neg q, gLet_s, gLet_s, gG_in (n := 220) (by omega) (by omega), gLet_s, gG_in (n := 220) (by omega) (by omega), gLet_s, gLet_s, nI_clamp (by omega), e24, eO, eA, nI_add i 1]
      have push : κ i < 31 → κ (i + 1) = κ i + 1 → ∀ x, ∃ w', gG (nI T) 220 (gLet (gU w1 29 (nI T).toNatClampNeg x) fun w19 => gLet (nI T + nI 1) fun v20 => go v20 (nI (i + 1)) w19) = some (pv P b (envM (w.1 30)) f (T + 1) (stU s T x) (i + 1), w') ∧ SmC [29] w w' := fun h1 h2 x => by
        have e1 : T = κ i := by rw [hT, htK_lt (by omega)]
        rw [gG_in (by omega) (by omega), gLet_s, gLet_s, nI_clamp (by omega), nI_add]
        refine ih f (i + 1) (T + 1) _ _ (by omega) (by omega) (by omega) (by omega) (by rw [h2, htK_lt (by omega), e1]) (fun z => by omega) (hs.tr (SmC.U (by decide))) (fun j hj => ?_)
        unfold stU
        rw [gUs]
        by_cases e : j = T
        · rw [if_pos e, if_pos e]
        · rw [if_neg e, if_neg e]
          exact hst j (by omega)
      rcases ty with ⟨o1, t1, t2⟩ | ⟨o1, t0, t1, t2⟩ | ⟨o1, t1, t2⟩ | ⟨o1, t1, t2, t3, t4, t5⟩ | ⟨o1, o2, t1, t2, t3⟩ | ⟨o1, o2, t1, t2⟩
      · rw [if_pos o1, if_pos (eq _ o1)]
        try dsimp only
        rw [gLet_s, if_pos (eq _ o1)]
        exact push t1 t2 _
      · have he : w1.1 30 (cA (P i)) = envM (w.1 30) (cA (P i)) := by
          rw [hs 30 (by decide)]
          exact (if_pos t0).symm
        rw [if_neg (show ¬ cO (P i) = 0 by omega), if_pos o1, if_neg (ne 0 (by omega) (by omega)), if_pos (eq _ o1)]
        try dsimp only
        rw [gLet_s, if_neg (ne 0 (by omega) (by omega)), gG_in (n := 12) t0 (by omega), nI_clamp (by omega), he]
        exact push t1 t2 _
      · have hT1 : T = 1 := by rw [hT, t1]; rfl
        subst hT1
        have h0 := hst 0 (by omega)
        rw [if_neg (show ¬ cO (P i) = 0 by omega), if_neg (show ¬ cO (P i) = 1 by omega), if_pos o1, if_neg (ne 0 (by omega) (by omega)), if_neg (ne 1 (by omega) (by omega)), if_pos (eq _ o1), topM (by omega), gG_in (n := 220) (by omega) (by omega), gG_in (n := 220) (by omega) (by omega), gLet_s, nI_clamp (by omega)]
        refine ih f (i + 1) 1 _ _ (by omega) (by omega) (by omega) (by omega) (by rw [t2]; rfl) (fun _ => ?_) (hs.tr (SmC.U (by decide))) (fun j hj => ?_)
        · show stU s 0 (nI 1 - s 0) 0 = nI 0 ∨ stU s 0 (nI 1 - s 0) 0 = nI 1
          have e : stU s 0 (nI 1 - s 0) 0 = nI 1 - s 0 := if_pos rfl
          rw [e]
          rcases hb1 t1 with h | h
          · rw [h]; exact Or.inr (by decide)
          · rw [h]; exact Or.inl (by decide)
        · have : j = 0 := by omega
          subst this
          show (gU w1 29 0 (nI 1 - w1.1 29 0)).1 29 0 = stU s 0 (nI 1 - s 0) 0
          rw [gU0, h0]
          exact (if_pos rfl).symm
      · have hT1 : T = 1 := by rw [hT, t1]; rfl
        subst hT1
        have h0 := hst 0 (by omega)
        have hb2 := hb1 t1
        rw [if_neg (show ¬ cO (P i) = 0 by omega), if_neg (show ¬ cO (P i) = 1 by omega), if_neg (show ¬ cO (P i) = 10 by omega), if_pos o1, if_neg (ne 0 (by omega) (by omega)), if_neg (ne 1 (by omega) (by omega)), if_neg (ne 10 (by omega) (by omega)), gLet_s]
        have jump : ∃ w', go (nI 1) (nI 0 + nI (cA (P i))) w1 = some (pv P b (envM (w.1 30)) f 1 s (cA (P i)), w') ∧ SmC [29] w w' := by
          rw [nI_add, Nat.zero_add]
          exact ih f _ 1 _ _ (by omega) (by omega) (by omega) t4 (by rw [t5]; rfl) (fun _ => hb2) hs hst
        have fall : ∃ w', go (nI (1 - 1)) (nI (i + 1)) w1 = some (pv P b (envM (w.1 30)) f (1 - 1) s (i + 1), w') ∧ SmC [29] w w' := ih f (i + 1) 0 _ _ (by omega) (by omega) (by omega) (by omega) (by rw [t2]; rfl) (fun z => by omega) hs (fun j hj => by omega)
        have body : ∃ w', (gLet (fun (v27 : Int32) (v28 : Int32) (w29 : gT) => (if v27 = v28 then gLet (nI 0 + nI (cA (P i))) fun (v31 : Int32) => go (nI 1) v31 w29 else gLet (nI 1 - (nI 1)) fun (v30 : Int32) => go v30 (nI (i + 1)) w29)) fun k26 => gG (nI 1 - (nI 1)) 220 <| (if nI (cO (P i)) = (nI 12) then k26 (w1.1 29 (nI 1 - (nI 1)).toNatClampNeg) (nI 1) w1 else k26 (w1.1 29 (nI 1 - (nI 1)).toNatClampNeg) (nI 0) w1)) = some ((if s (1 - 1) = (if cO (P i) = 12 then nI 1 else nI 0) then pv P b (envM (w.1 30)) f 1 s (cA (P i)) else pv P b (envM (w.1 30)) f (1 - 1) s (i + 1)), w') ∧ SmC [29] w w' := by
          rw [gLet_s, topM (T := 1) (by omega), gG_in (n := 220) (by omega) (by omega), nI_clamp (by omega), h0]
          simp only [gLet_s]
          rcases o1 with o | o
          · rw [o, if_neg (show ¬ nI 11 = nI 12 by decide), if_neg (show ¬ (11 : Nat) = 12 by decide)]
            rcases hb2 with h | h
            · rw [show s (1 - 1) = nI 0 from h]
              simp only [nI_10, nI_01, ↓reduceIte, if_true, if_false]
              exact jump
            · rw [show s (1 - 1) = nI 1 from h]
              simp only [nI_10, nI_01, ↓reduceIte, if_true, if_false]
              exact fall
          · rw [o, if_pos (show nI 12 = nI 12 from rfl), if_pos (show (12 : Nat) = 12 from rfl)]
            rcases hb2 with h | h
            · rw [show s (1 - 1) = nI 0 from h]
              simp only [nI_10, nI_01, ↓reduceIte, if_true, if_false]
              exact fall
            · rw [show s (1 - 1) = nI 1 from h]
              simp only [nI_10, nI_01, ↓reduceIte, if_true, if_false]
              exact jump
        rcases o1 with o | o
        · rw [o] at body ⊢
          rw [if_pos (show nI 11 = nI 11 from rfl)]
          exact body
        · rw [o] at body ⊢
          rw [if_neg (show ¬ nI 12 = nI 11 by decide), if_pos (show nI 12 = nI 12 from rfl)]
          exact body
      all_goals
        have o3 : cO (P i) ≤ 9 := by omega
        have o4 : 2 ≤ cO (P i) := by omega
        have hT2 : T = κ i := by rw [hT, htK_lt (by omega)]
        have h1 := hst (T - 1) (by omega)
        have h2 := hst (T - 2) (by omega)
        rw [if_neg (show ¬ cO (P i) = 0 by omega), if_neg (show ¬ cO (P i) = 1 by omega), if_neg (show ¬ cO (P i) = 10 by omega), if_neg (show ¬ (cO (P i) = 11 ∨ cO (P i) = 12) by omega), if_neg (ne 0 (by omega) (by omega)), if_neg (ne 1 (by omega) (by omega)), if_neg (ne 10 (by omega) (by omega)), gLet_s, if_neg (ne 11 (by omega) (by omega)), if_neg (ne 12 (by omega) (by omega)), gLet_s, gLet_s, gLet_s, topM (T := T) (by omega)]
        simp only []
        have goo : ¬ ((cO (P i) = 5 ∨ cO (P i) = 6) ∧ s (T - 1) = nI 0) → ∃ w', (gG (nI (T - 1) - (nI 1)) 220 <| gG (nI (T - 1)) 220 <| gBi (xX10_reckon (nI (cO (P i))) (w1.1 29 (nI (T - 1) - (nI 1)).toNatClampNeg) (w1.1 29 (nI (T - 1)).toNatClampNeg) w1) fun (v35 : Int32) (w36 : gT) => gG (nI (T - 1) - (nI 1)) 220 <| gLet (gU w36 29 (nI (T - 1) - (nI 1)).toNatClampNeg v35) fun (w37 : gT) => go (nI (T - 1)) (nI (i + 1)) w37) = some ((if (cO (P i) = 5 ∨ cO (P i) = 6) ∧ s (T - 1) = nI 0 then nI 0 else pv P b (envM (w.1 30)) f (T - 1) (stU s (T - 2) (jo (cO (P i)) (s (T - 2)) (s (T - 1)))) (i + 1)), w') ∧ SmC [29] w w' := fun hz => by
          rw [topM (T := T - 1) (by omega), show T - 1 - 1 = T - 2 by omega, gG_in (n := 220) (by omega) (by omega), gG_in (n := 220) (by omega) (by omega), nI_clamp (by omega), nI_clamp (by omega), h2, h1, m_joined o4 o3 hz, gBi_s, gG_in (n := 220) (by omega) (by omega), if_neg hz, gLet_s]
          refine ih f (i + 1) (T - 1) _ _ (by omega) (by omega) (by omega) (by omega) ?_ (fun z => ?_) (hs.tr (SmC.U (by decide))) (fun j hj => ?_)
          · first
            | (rw [t3, htK_lt (by omega)]; omega)
            | (rw [t2]; show T - 1 = 1; omega)
          · first
            | omega
            | (have e : T - 2 = 0 := by omega
               rw [e]
               have e2 : stU s 0 (jo (cO (P i)) (s 0) (s (T - 1))) 0 = jo (cO (P i)) (s 0) (s (T - 1)) := if_pos rfl
               rw [e2]
               exact jo_b _ (by omega) _ _)
          · unfold stU
            rw [gUs]
            by_cases e : j = T - 2
            · rw [if_pos e, if_pos e]
            · rw [if_neg e, if_neg e]
              exact hst j (by omega)
        have chk : (cO (P i) = 5 ∨ cO (P i) = 6) → ∃ w', (gG (nI (T - 1)) 220 (if w1.1 29 (nI (T - 1)).toNatClampNeg = nI 0 then some (nI 0, w1) else (gG (nI (T - 1) - (nI 1)) 220 <| gG (nI (T - 1)) 220 <| gBi (xX10_reckon (nI (cO (P i))) (w1.1 29 (nI (T - 1) - (nI 1)).toNatClampNeg) (w1.1 29 (nI (T - 1)).toNatClampNeg) w1) fun (v35 : Int32) (w36 : gT) => gG (nI (T - 1) - (nI 1)) 220 <| gLet (gU w36 29 (nI (T - 1) - (nI 1)).toNatClampNeg v35) fun (w37 : gT) => go (nI (T - 1)) (nI (i + 1)) w37))) = some ((if (cO (P i) = 5 ∨ cO (P i) = 6) ∧ s (T - 1) = nI 0 then nI 0 else pv P b (envM (w.1 30)) f (T - 1) (stU s (T - 2) (jo (cO (P i)) (s (T - 2)) (s (T - 1)))) (i + 1)), w') ∧ SmC [29] w w' := fun ho => by
          have e : w1.1 29 (nI (T - 1)).toNatClampNeg = s (T - 1) := by rw [nI_clamp (by omega), h1]
          by_cases z : s (T - 1) = nI 0
          · rw [gG_in (n := 220) (by omega) (by omega), if_pos (e.trans z)]
            refine ⟨w1, ?_, hs⟩
            rw [if_pos (show (cO (P i) = 5 ∨ cO (P i) = 6) ∧ s (T - 1) = nI 0 from ⟨ho, z⟩)]
          · have g := goo (fun y => z y.2)
            rw [gG_in (n := 220) (j := T - 1) (by omega) (by omega), if_neg (fun y => z (e.symm.trans y))]
            exact g
        by_cases o5 : cO (P i) = 5
        · rw [if_pos (eq _ o5)]
          exact chk (Or.inl o5)
        · rw [if_neg (ne 5 (by omega) o5)]
          by_cases o6 : cO (P i) = 6
          · rw [if_pos (eq _ o6)]
            exact chk (Or.inr o6)
          · rw [if_neg (ne 6 (by omega) o6)]
            exact goo (fun y => y.1.elim o5 o6)
