/-! THE LAW: what its codes come to -/
def opX (k : Nat) : Nat := [0, 1, 6, 7, 8, 9, 10, 11, 12, 13, 3, 4, 5].getD k 0
abbrev cO (x : Nat) : Nat := x / 1048576
abbrev cA (x : Nat) : Nat := x % 1048576
def jo (o : Nat) (x y : Int32) : Int32 := if o = 2 then x + y else if o = 3 then x - y else if o = 4 then x * y else if o = 5 then x / y else if o = 6 then gRem x y else if o = 7 then (if y ≤ x then nI 0 else nI 1) else if o = 8 then (if x ≤ y then nI 0 else nI 1) else (if x = y then nI 1 else nI 0)
def stU (s : Nat → Int32) (t : Nat) (x : Int32) : Nat → Int32 := fun j => if j = t then x else s j
/-- what a code comes to: T things on the stack s, going on at i -/
def pv (P : Nat → Nat) (b : Nat) (e : Nat → Int32) : Nat → Nat → (Nat → Int32) → Nat → Int32
  | 0, _, _, _ => nI 0
  | f + 1, T, s, i => if b ≤ i then s 0 else
    if cO (P i) = 0 then pv P b e f (T + 1) (stU s T (nI (cA (P i)))) (i + 1)
    else if cO (P i) = 1 then pv P b e f (T + 1) (stU s T (e (cA (P i)))) (i + 1)
    else if cO (P i) = 10 then pv P b e f T (stU s (T - 1) (nI 1 - s (T - 1))) (i + 1)
    else if cO (P i) = 11 ∨ cO (P i) = 12 then (if s (T - 1) = (if cO (P i) = 12 then nI 1 else nI 0) then pv P b e f T s (cA (P i)) else pv P b e f (T - 1) s (i + 1))
    else if (cO (P i) = 5 ∨ cO (P i) = 6) ∧ s (T - 1) = nI 0 then nI 0
    else pv P b e f (T - 1) (stU s (T - 2) (jo (cO (P i)) (s (T - 2)) (s (T - 1)))) (i + 1)
/-- how a step may stand: k i tells how much the stack holds there, 100 that it holds a yes or no alone -/
def TyS (P k : Nat → Nat) (b i : Nat) : Prop :=
  (cO (P i) = 0 ∧ k i < 31 ∧ k (i + 1) = k i + 1) ∨ (cO (P i) = 1 ∧ cA (P i) < 12 ∧ k i < 31 ∧ k (i + 1) = k i + 1) ∨ (cO (P i) = 10 ∧ k i = 100 ∧ k (i + 1) = 100) ∨ ((cO (P i) = 11 ∨ cO (P i) = 12) ∧ k i = 100 ∧ k (i + 1) = 0 ∧ i < cA (P i) ∧ cA (P i) ≤ b ∧ k (cA (P i)) = 100) ∨ (2 ≤ cO (P i) ∧ cO (P i) ≤ 6 ∧ 2 ≤ k i ∧ k i < 32 ∧ k (i + 1) = k i - 1) ∨ (7 ≤ cO (P i) ∧ cO (P i) ≤ 9 ∧ k i = 2 ∧ k (i + 1) = 100)
def htK (x : Nat) : Nat := if x = 100 then 1 else x
theorem htK_100 : htK 100 = 1 := rfl
theorem htK_lt {x : Nat} (h : x < 100) : htK x = x := if_neg (by omega)
def CdX (w : gT) (P : Nat → Nat) (k i : Nat) : Prop := w.1 37 (i + k) = nI (opX (cO (P i))) ∧ (cO (P i) = 0 → w.1 38 (i + k) = nI (cA (P i))) ∧ (cO (P i) = 1 → w.1 38 (i + k) = nI (posX (cA (P i)))) ∧ (cO (P i) = 11 ∨ cO (P i) = 12 → w.1 38 (i + k) = nI (cA (P i) + k))
theorem x_joined {o : Nat} (h2 : 2 ≤ o) (h9 : o ≤ 9) {x y : Int32} (hz : ¬ ((o = 5 ∨ o = 6) ∧ y = nI 0)) (w : gT) : xX3_joined (nI (opX o)) x y w = some (jo o x y, w) := by
  unfold xX3_joined jo
  rcases (show o = 2 ∨ o = 3 ∨ o = 4 ∨ o = 5 ∨ o = 6 ∨ o = 7 ∨ o = 8 ∨ o = 9 by omega) with rfl | rfl | rfl | rfl | rfl | rfl | rfl | rfl
  · rfl
  · rfl
  · rfl
  · have hy : ¬ y = nI 0 := fun z => hz ⟨Or.inl rfl, z⟩
    rw [if_neg (by decide), if_neg (by decide), if_neg (by decide), if_pos rfl, if_neg hy, gZ_ne hy]
    rfl
  · have hy : ¬ y = nI 0 := fun z => hz ⟨Or.inr rfl, z⟩
    rw [if_neg (by decide), if_neg (by decide), if_neg (by decide), if_neg (by decide), if_pos rfl, if_neg hy, gZ_ne hy]
    rfl
  · show (if y ≤ x then some (nI 0, w) else some (nI 1, w)) = some ((if y ≤ x then nI 0 else nI 1), w)
    split <;> rfl
  · show (if x ≤ y then some (nI 0, w) else some (nI 1, w)) = some ((if x ≤ y then nI 0 else nI 1), w)
    split <;> rfl
  · show (if x = y then some (nI 1, w) else some (nI 0, w)) = some ((if x = y then nI 1 else nI 0), w)
    split <;> rfl
theorem m_joined {o : Nat} (h2 : 2 ≤ o) (h9 : o ≤ 9) {x y : Int32} (hz : ¬ ((o = 5 ∨ o = 6) ∧ y = nI 0)) (w : gT) : xX10_reckon (nI o) x y w = some (jo o x y, w) := by
  unfold xX10_reckon jo
  rcases (show o = 2 ∨ o = 3 ∨ o = 4 ∨ o = 5 ∨ o = 6 ∨ o = 7 ∨ o = 8 ∨ o = 9 by omega) with rfl | rfl | rfl | rfl | rfl | rfl | rfl | rfl
  · rfl
  · rfl
  · rfl
  · have hy : ¬ y = nI 0 := fun z => hz ⟨Or.inl rfl, z⟩
    rw [if_neg (by decide), if_neg (by decide), if_neg (by decide), if_pos rfl, gZ_ne hy]
    rfl
  · have hy : ¬ y = nI 0 := fun z => hz ⟨Or.inr rfl, z⟩
    rw [if_neg (by decide), if_neg (by decide), if_neg (by decide), if_neg (by decide), if_pos rfl, gZ_ne hy]
    rfl
  · show (if y ≤ x then some (nI 0, w) else some (nI 1, w)) = some ((if y ≤ x then nI 0 else nI 1), w)
    split <;> rfl
  · show (if x ≤ y then some (nI 0, w) else some (nI 1, w)) = some ((if x ≤ y then nI 0 else nI 1), w)
    split <;> rfl
  · show (if x = y then some (nI 1, w) else some (nI 0, w)) = some ((if x = y then nI 1 else nI 0), w)
    split <;> rfl
theorem jo_b (o : Nat) (h : 7 ≤ o) (x y : Int32) : jo o x y = nI 0 ∨ jo o x y = nI 1 := by
  unfold jo
  rw [if_neg (by omega), if_neg (by omega), if_neg (by omega), if_neg (by omega), if_neg (by omega)]
  split
  · split
    · exact Or.inl rfl
    · exact Or.inr rfl
  · split
    · split
      · exact Or.inl rfl
      · exact Or.inr rfl
    · split
      · exact Or.inr rfl
      · exact Or.inl rfl
theorem opX_bin {o : Nat} (h2 : 2 ≤ o) (h9 : o ≤ 9) : nI (opX o) ≠ nI 0 ∧ nI (opX o) ≠ nI 1 ∧ nI (opX o) ≠ nI 2 ∧ nI (opX o) ≠ nI 3 ∧ nI (opX o) ≠ nI 4 ∧ nI (opX o) ≠ nI 5 ∧ (nI (opX o) = nI 9 ↔ o = 5) ∧ (nI (opX o) = nI 10 ↔ o = 6) := by
  rcases (show o = 2 ∨ o = 3 ∨ o = 4 ∨ o = 5 ∨ o = 6 ∨ o = 7 ∨ o = 8 ∨ o = 9 by omega) with rfl | rfl | rfl | rfl | rfl | rfl | rfl | rfl <;> decide
theorem posX_lt : ∀ k, k < 12 → posX k < 26 := by
  intro k hk
  exact (by decide : ∀ k : Fin 12, posX k.1 < 26) ⟨k, hk⟩
theorem x_letterAt {k : Nat} (hk : k < 26) (w : gT) : xX3_letterAt (nI k) w = some (w.1 49 k, w) := by
  unfold xX3_letterAt
  rw [if_neg (nlt (by omega) (by omega) (by omega)), if_neg (nle (by omega) (by omega) (by omega)), gG_in (by omega) (by omega), nI_clamp (by omega)]
theorem gMax_nI {a b : Nat} (ha : a < 2 ^ 30) (hb : b < 2 ^ 30) : gMax (nI a) (nI b) = nI (max a b) := by
  unfold gMax
  by_cases h : a < b
  · rw [if_pos (ylt ha hb h), Nat.max_eq_right (by omega)]
  · rw [if_neg (nlt ha hb h), Nat.max_eq_left (by omega)]
