theorem lgD_1 (d : Nat → Int) : lgD d 1 = 0 := by
  show (if d 0 ≤ d (lgD d 0) then lgD d 0 else 0) = 0
  have : lgD d 0 = 0 := rfl
  rw [this]
  split <;> rfl
theorem x_dearest {N : Nat} (hN : 5000 ≤ N) {w : gT} {d : Nat → Int} (hd : ∀ g, g < 10 → (w.1 59 g).toInt = d g) : xX9_dearest N w = some (nI (lgD d 10), w) := by
  unfold xX9_dearest
  refine gW2_ind (fun t => t = some (nI (lgD d 10), w)) (fun m a b w1 => ∃ k, 1 ≤ k ∧ k ≤ 10 ∧ a = nI (lgD d k) ∧ b = nI k ∧ m = 10 - k ∧ w1 = w) ?_ N 9 _ _ w (by omega) ⟨1, by omega, by omega, by rw [lgD_1], rfl, rfl, rfl⟩
  rintro m go a b w1 ⟨k, hk1, hk, rfl, rfl, rfl, rfl⟩ ih
  unfold xX9_dearest_b4
  by_cases q : 10 ≤ k
  · rw [if_pos (yle (by omega) (by omega) q)]
    have : k = 10 := by omega
    rw [this]
  · obtain ⟨h1, -⟩ := lgD_p d k (by omega)
    have e : lgD d (k + 1) = if d k ≤ d (lgD d k) then lgD d k else k := rfl
    rw [if_neg (nle (by omega) (by omega) q), gLet_s, gG_in (by omega) (by omega), gG_in (by omega) (by omega), nI_clamp (by omega), nI_clamp (by omega), nI_add]
    by_cases c : w1.1 59 k ≤ w1.1 59 (lgD d k)
    · have c2 := Int32.le_iff_toInt_le.mp c
      rw [hd k (by omega), hd _ (by omega)] at c2
      rw [if_pos c]
      exact ih (10 - (k + 1)) _ _ _ (by omega) ⟨k + 1, by omega, by omega, by rw [e, if_pos c2], rfl, rfl, rfl⟩
    · have c2 : ¬ d k ≤ d (lgD d k) := fun z => c (Int32.le_iff_toInt_le.mpr (by rw [hd k (by omega), hd _ (by omega)]; exact z))
      rw [if_neg c]
      exact ih (10 - (k + 1)) _ _ _ (by omega) ⟨k + 1, by omega, by omega, by rw [e, if_neg c2], rfl, rfl, rfl⟩
