/-- the ghosts gone in night n, of the first k walks -/
abbrev spGn (σ : sT) (n k g : Nat) : Prop := ∃ i, i < k ∧ wn σ i = n ∧ spGone σ i ∧ wg σ i = g
theorem spGn_s {σ : sT} {n k g : Nat} : spGn σ n (k + 1) g ↔ spGn σ n k g ∨ (wn σ k = n ∧ spGone σ k ∧ wg σ k = g) := by
  constructor
  · rintro ⟨i, h1, h2⟩
    by_cases e : i = k
    · subst e; exact Or.inr h2
    · exact Or.inl ⟨i, by omega, h2⟩
  · rintro (⟨i, h1, h2⟩ | h)
    · exact ⟨i, by omega, h2⟩
    · exact ⟨k, by omega, h⟩
/-- a ghost goes but once in a night -/
theorem gone_once {σ : sT} (hR : Rng σ) {i j : Nat} (hi : i < spW σ.1) (hj : j < i) (h1 : wn σ j = wn σ i) (h2 : wg σ j = wg σ i) : ¬ spGone σ i := by
  rintro ⟨h3, -⟩
  obtain ⟨a1, -, a3, -⟩ := wk_at hR hi
  obtain ⟨b1, -, b3, -⟩ := wk_at hR (show j < spW σ.1 by omega)
  exact h3 ⟨j, hj, by rw [a1, b1, h2], by rw [a3, b3, h1]⟩
/-- what the ghost's walk of that night frightens, without and with a chain -/
def spAl (σ : sT) (n : Nat) (ch : Int32) (k g : Nat) : Nat := match k with
  | 0 => 0
  | k + 1 => if wn σ k = n ∧ spGone σ k ∧ wg σ k = g then spAll σ g n (wr σ k) ch 10 else spAl σ n ch k g
theorem spAl_no {σ : sT} {n : Nat} {ch : Int32} {g : Nat} : ∀ k, ¬ spGn σ n k g → spAl σ n ch k g = 0
  | 0, _ => rfl
  | k + 1, h => by
    show (if wn σ k = n ∧ spGone σ k ∧ wg σ k = g then spAll σ g n (wr σ k) ch 10 else spAl σ n ch k g) = 0
    rw [if_neg (fun z => h (spGn_s.mpr (Or.inr z)))]
    exact spAl_no k (fun z => h (spGn_s.mpr (Or.inl z)))
theorem spAl_le {σ : sT} {n : Nat} {ch : Int32} {g : Nat} : ∀ k, spAl σ n ch k g ≤ 990
  | 0 => Nat.zero_le _
  | k + 1 => by
    show (if wn σ k = n ∧ spGone σ k ∧ wg σ k = g then spAll σ g n (wr σ k) ch 10 else spAl σ n ch k g) ≤ 990
    split
    · have := spAll_le σ g n (wr σ k) ch 10
      omega
    · exact spAl_le k
