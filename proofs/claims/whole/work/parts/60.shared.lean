/-! THE CHAINS SHARED: the greedy choice against all -/
/-- sums over a mask, numbers from below zero too -/
def smI (d : Nat → Int) (m : Nat) : Nat → Int
  | 0 => 0
  | k + 1 => smI d m k + (if bitA m k then d k else 0)
theorem smI_congr {d e : Nat → Int} {m p : Nat} : ∀ k, (∀ i, i < k → (if bitA m i then d i else 0) = (if bitA p i then e i else 0)) → smI d m k = smI e p k
  | 0, _ => rfl
  | k + 1, h => by
    show smI d m k + _ = smI e p k + _
    rw [smI_congr k (fun i hi => h i (by omega)), h k (by omega)]
theorem smI_or {d : Nat → Int} {m g : Nat} (hb : ¬ bitA m g) : ∀ k, smI d (m ||| 2 ^ g) k = smI d m k + (if g < k then d g else 0)
  | 0 => by rw [if_neg (by omega)]; rfl
  | k + 1 => by
    have ih := smI_or (d := d) hb k
    show smI d (m ||| 2 ^ g) k + _ = smI d m k + _ + _
    rw [ih]
    by_cases e : k = g
    · subst e
      rw [if_neg (by omega), if_pos (bit_or.mpr (Or.inr rfl)), if_neg hb, if_pos (by omega)]
    · have eb : (if bitA (m ||| 2 ^ g) k then d k else 0) = (if bitA m k then d k else 0) := by
        by_cases b : bitA m k
        · rw [if_pos b, if_pos (bit_or.mpr (Or.inl b))]
        · rw [if_neg b, if_neg (fun z => (bit_or.mp z).elim b e)]
      rw [eb]
      generalize (if bitA m k then d k else 0) = x
      by_cases c : g < k
      · rw [if_pos c, if_pos (show g < k + 1 by omega)]; omega
      · rw [if_neg c, if_neg (show ¬ g < k + 1 by omega)]; omega
theorem smI_0 (d : Nat → Int) : ∀ k, smI d 0 k = 0
  | 0 => rfl
  | k + 1 => by
    have hb : ¬ bitA 0 k := by
      unfold bitA
      rw [Nat.zero_div]
      omega
    show smI d 0 k + _ = 0
    rw [smI_0 d k, if_neg hb]
    rfl
theorem or_add {p g : Nat} (hb : ¬ bitA p g) : p ||| 2 ^ g = p + 2 ^ g := by
  have hp := Nat.two_pow_pos g
  have hbl : p % 2 ^ g < 2 ^ g := Nat.mod_lt _ hp
  have h0 : p / 2 ^ g % 2 = 0 := by
    have := bit_lt p g
    unfold bitA at hb
    omega
  obtain ⟨a, ha⟩ : ∃ a, p / 2 ^ g = 2 * a := ⟨p / 2 ^ g / 2, by omega⟩
  have hd := Nat.div_add_mod p (2 ^ g)
  rw [ha] at hd
  have e1 := Nat.two_pow_add_eq_or_of_lt hbl (2 * a)
  have e2 := Nat.two_pow_add_eq_or_of_lt hbl (2 * a + 1)
  have e3 := Nat.two_pow_add_eq_or_of_lt (show 2 ^ g < 2 ^ (g + 1) from Nat.pow_lt_pow_right (by omega) (by omega)) a
  have e4 : 2 ^ g * (2 * a + 1) = 2 ^ (g + 1) * a + 2 ^ g := by rw [Nat.mul_add, Nat.mul_one, Nat.pow_succ, Nat.mul_assoc]
  have e5 : 2 ^ g * (2 * a) = 2 ^ (g + 1) * a := by rw [Nat.pow_succ, Nat.mul_assoc]
  have e6 : p + 2 ^ g = 2 ^ g * (2 * a + 1) + p % 2 ^ g := by
    rw [Nat.mul_add, Nat.mul_one]
    omega
  have e7 : p = 2 ^ g * (2 * a) ||| p % 2 ^ g := by rw [← e1]; exact hd.symm
  rw [e6, e2, e4, e3, ← e5]
  conv => lhs; rw [e7]
  rw [Nat.or_assoc, Nat.or_comm (p % 2 ^ g), ← Nat.or_assoc]
/-- a mask without one of its bits -/
theorem mask_split {m g : Nat} (hb : bitA m g) : ∃ p, ¬ bitA p g ∧ m = p ||| 2 ^ g ∧ p + 2 ^ g = m := by
  have h1 : 2 ^ g ≤ m := by
    apply Classical.byContradiction
    intro hn
    have e : m / 2 ^ g = 0 := Nat.div_eq_of_lt (by omega)
    unfold bitA at hb
    rw [e] at hb
    omega
  have hp := Nat.two_pow_pos g
  have hn : ¬ bitA (m - 2 ^ g) g := by
    unfold bitA at hb ⊢
    have e : m = (m - 2 ^ g) + 2 ^ g * 1 := by omega
    rw [e, Nat.add_mul_div_left _ _ hp] at hb
    omega
  exact ⟨m - 2 ^ g, hn, by rw [or_add hn]; omega, by omega⟩
