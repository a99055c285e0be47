/-- what a clause's part comes to -/
def pvD (P : Nat → Nat) (a b : Nat) : (Nat → Int32) → Int32 := fun e => pv P b e 221 0 (fun _ => nI 0) a
theorem law_evX {N : Nat} (hN : 5000 ≤ N) {s : Nat → Nat → Int32} {P κ : Nat → Nat} {a b k L : Nat} (hab : a ≤ b) (hb : b ≤ 220) (hL : b + k < L) (hL2 : L ≤ 256) (h33 : s 33 6 = nI L) (h0 : κ a = 0) (hc : ∀ i, a ≤ i → i < b → TyS P κ b i ∧ CdX (s, fun _ => 0) P k i) (hd : s 37 (b + k) = nI 2) (hκ : κ b = 1 ∨ κ b = 100) : evX N s (nI (a + k)) (pvD P a b) := by
  intro w e33 e37 e38
  obtain ⟨w', e, hs⟩ := x_reck (N := N) P κ (a := a) (b := b) (k := k) (L := L) hL hL2 (w := w) (by rw [e33]; exact h33) (fun i h1 h2 => by
    obtain ⟨c1, c2⟩ := hc i h1 h2
    refine ⟨c1, ?_⟩
    unfold CdX at c2 ⊢
    rw [e37, e38]
    exact c2) (by rw [e37]; exact hd) hκ N 221 a 0 (fun _ => nI 0) w (by omega) (by omega) (Nat.le_refl _) hab (by rw [h0]; rfl) (fun z => by omega) SmC.rf (fun j hj => by omega)
  exact ⟨w', e, hs⟩
theorem law_evM {N : Nat} (hN : 5000 ≤ N) {code : Nat → Int32} {P κ : Nat → Nat} {a b : Nat} (hab : a ≤ b) (hb : b < 220) (h0 : κ a = 0) (hc : ∀ i, a ≤ i → i < b → TyS P κ b i ∧ code i = nI (P i)) (hκ : κ b = 1 ∨ κ b = 100) : evM N code (nI a) (nI b) (pvD P a b) := by
  intro w e24
  obtain ⟨w', e, hs⟩ := m_reck (N := N) P κ (a := a) (b := b) (by omega) (w := w) (fun i h1 h2 => by
    rw [e24]
    exact hc i h1 h2) hκ N 221 a 0 (fun _ => nI 0) w (by omega) (by omega) (Nat.le_refl _) hab (by rw [h0]; rfl) (fun z => by omega) SmC.rf (fun j hj => by omega)
  refine ⟨w', ?_, hs⟩
  unfold xX10_comesTo
  rw [gLet_s, pk_div (by omega) (by omega) (by omega), Nat.div_eq_of_lt (show a < 220 by omega), nI_mul]
  exact e
/-- a yes or no -/
theorem pv_bool {P κ : Nat → Nat} {a b : Nat} (hb : κ b = 100) (e : Nat → Int32) (hc : ∀ i, a ≤ i → i < b → TyS P κ b i) : ∀ f i T s, a ≤ i → i ≤ b → T = htK (κ i) → (κ i = 100 → s 0 = nI 0 ∨ s 0 = nI 1) → pv P b e f T s i = nI 0 ∨ pv P b e f T s i = nI 1 := by
  intro f
  induction f with
  | zero => intro i T s _ _ _ _; exact Or.inl rfl
  | succ f ih =>
    intro i T s h1 h2 hT hb1
    unfold pv
    by_cases q : b ≤ i
    · have e : i = b := by omega
      subst e
      rw [if_pos q]
      exact hb1 hb
    · rw [if_neg q]
      rcases hc i h1 (by omega) with ⟨o1, t1, t2⟩ | ⟨o1, t0, t1, t2⟩ | ⟨o1, t1, t2⟩ | ⟨o1, t1, t2, t3, t4, t5⟩ | ⟨o1, o2, t1, t2, t3⟩ | ⟨o1, o2, t1, t2⟩
      · rw [if_pos o1]
        exact ih _ _ _ (by omega) (by omega) (by rw [t2, htK_lt (by omega), hT, htK_lt (by omega)]) (fun z => by omega)
      · rw [if_neg (by omega), if_pos o1]
        exact ih _ _ _ (by omega) (by omega) (by rw [t2, htK_lt (by omega), hT, htK_lt (by omega)]) (fun z => by omega)
      · have hT1 : T = 1 := by rw [hT, t1]; rfl
        subst hT1
        rw [if_neg (by omega), if_neg (by omega), if_pos o1]
        refine ih _ _ _ (by omega) (by omega) (by rw [t2]; rfl) (fun _ => ?_)
        show stU s 0 (nI 1 - s 0) 0 = nI 0 ∨ stU s 0 (nI 1 - s 0) 0 = nI 1
        have e : stU s 0 (nI 1 - s 0) 0 = nI 1 - s 0 := if_pos rfl
        rw [e]
        rcases hb1 t1 with h | h
        · rw [h]; exact Or.inr (by decide)
        · rw [h]; exact Or.inl (by decide)
      · have hT1 : T = 1 := by rw [hT, t1]; rfl
        subst hT1
        rw [if_neg (by omega), if_neg (by omega), if_neg (by omega), if_pos o1]
        by_cases c : s (1 - 1) = (if cO (P i) = 12 then nI 1 else nI 0)
        · rw [if_pos c]
          exact ih _ 1 _ (by omega) t4 (by rw [t5]; rfl) (fun _ => hb1 t1)
        · rw [if_neg c]
          exact ih _ _ _ (by omega) (by omega) (by rw [t2]; rfl) (fun z => by omega)
      · rw [if_neg (by omega), if_neg (by omega), if_neg (by omega), if_neg (by omega)]
        split
        · exact Or.inl rfl
        · exact ih _ _ _ (by omega) (by omega) (by rw [t3, htK_lt (by omega), hT, htK_lt (by omega)]) (fun z => by omega)
      · have hT2 : T = 2 := by rw [hT, t1]; rfl
        subst hT2
        rw [if_neg (by omega), if_neg (by omega), if_neg (by omega), if_neg (by omega)]
        split
        · exact Or.inl rfl
        · refine ih _ _ _ (by omega) (by omega) (by rw [t2]; rfl) (fun _ => ?_)
          have e2 : stU s 0 (jo (cO (P i)) (s 0) (s (2 - 1))) 0 = jo (cO (P i)) (s 0) (s (2 - 1)) := if_pos rfl
          show stU s 0 (jo (cO (P i)) (s 0) (s (2 - 1))) 0 = nI 0 ∨ stU s 0 (jo (cO (P i)) (s 0) (s (2 - 1))) 0 = nI 1
          rw [e2]
          exact jo_b _ (by omega) _ _
theorem pvD_bl {P κ : Nat → Nat} {a b : Nat} (hab : a ≤ b) (h0 : κ a = 0) (hb : κ b = 100) (hc : ∀ i, a ≤ i → i < b → TyS P κ b i) (e : Nat → Int32) : Bl (pvD P a b e) 2 := by
  rcases pv_bool hb e hc 221 a 0 (fun _ => nI 0) (Nat.le_refl _) hab (by rw [h0]; rfl) (fun z => by omega) with h | h
  · exact ⟨0, by omega, h⟩
  · exact ⟨1, by omega, h⟩
