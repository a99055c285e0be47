def spW8 (σ : sT) (l r : Nat) : Nat := (spQ σ l r).toNatClampNeg
theorem spW8_in (σ : sT) (l r : Nat) : spQ σ l r = nI (spW8 σ l r) ∧ spW8 σ l r ≤ 999 := by
  obtain ⟨h1, h2⟩ := (spAmt_bl σ (nI 113) (show 999 < 1000 by omega) (spEnvQ σ l r (spCold σ r))).cl (by omega)
  exact ⟨h2, by unfold spW8 spQ; omega⟩
/-- the model's table as far as row k -/
def Tab (σ : sT) (A k : Nat) (w : gT) : Prop := ∀ i m, k ≤ i → i ≤ A → m < 4096 → w.1 37 (4096 * i + m) = nI (vM (spW8 σ) A (A - i) m)
def Wts (σ : sT) (A : Nat) (w : gT) : Prop := ∀ l r, l < A → r < 12 → w.1 36 (12 * l + r) = spQ σ l r
theorem m_lodge12 {σ : sT} {w : gT} {A k m : Nat} (hA : A ≤ 8) (hk : k < A) (hm : m < 4096) (hT : Tab σ A (k + 1) w) : xX10_lodgeBy (nI k) (nI 12) (nI m) w = some (nI (vM (spW8 σ) A (A - (k + 1)) m), w) := by
  unfold xX10_lodgeBy
  rw [if_pos rfl, nI_add, nI_mul, nI_add, gG_in (by omega) (by omega), nI_clamp (by omega), hT (k + 1) m (by omega) (by omega) hm]
theorem m_lodgeN {σ : sT} {w : gT} {A k m r : Nat} (hA : A ≤ 8) (hk : k < A) (hm : m < 4096) (hr : r < 12) (hb : bitA m r) : xX10_lodgeBy (nI k) (nI r) (nI m) w = some ((-1), w) := by
  unfold xX10_lodgeBy
  rw [if_neg (fun z => by have := (nI_eq (show r < 2 ^ 31 by omega) (show 12 < 2 ^ 31 by omega)).mp z; omega), m_has _ (by omega) (by omega), gBi_s, ifb, if_pos hb]
theorem m_lodgeY {σ : sT} {w : gT} {A k m r : Nat} (hA : A ≤ 8) (hk : k < A) (hm : m < 4096) (hr : r < 12) (hb : ¬ bitA m r) (hT : Tab σ A (k + 1) w) (hW : Wts σ A w) : xX10_lodgeBy (nI k) (nI r) (nI m) w = some (nI (spW8 σ k r + vM (spW8 σ) A (A - (k + 1)) (m ||| 2 ^ r)), w) := by
  have sh : gShl (nI 1) (nI r) = nI (2 ^ r) := (by decide : ∀ j : Fin 12, gShl (nI 1) (nI j.1) = nI (2 ^ j.1)) ⟨r, hr⟩
  have hl := or_lt12 hm hr
  unfold xX10_lodgeBy
  rw [if_neg (fun z => by have := (nI_eq (show r < 2 ^ 31 by omega) (show 12 < 2 ^ 31 by omega)).mp z; omega), m_has _ (by omega) (by omega), gBi_s, ifb, if_neg hb, sh, nI_or, nI_add, nI_mul, nI_mul, nI_add, nI_add, gG_in (by omega) (by omega), gG_in (by omega) (by omega), nI_clamp (by omega), nI_clamp (by omega), hT (k + 1) _ (by omega) (by omega) hl, hW k r hk hr, (spW8_in σ k r).1, nI_add]
def brI : Option (Nat × Nat) → Int32
  | none => (-1)
  | some q => nI q.2
theorem m_rowBest {N : Nat} (hN : 5000 ≤ N) {σ : sT} {w : gT} {A k m : Nat} (hA : A ≤ 8) (hk : k < A) (hm : m < 4096) (hT : Tab σ A (k + 1) w) (hW : Wts σ A w) (k12 : Int32 → gT → Option gT) : gW2 (xX10_laysJuly_b51 N k12 (nI k) (nI m)) N (-1) (nI 0) w = k12 (nI (vM (spW8 σ) A (A - k) m)) w := by
  obtain ⟨j, hj⟩ : ∃ j, A - k = j + 1 := ⟨A - k - 1, by omega⟩
  have hj2 : A - (k + 1) = j := by omega
  have hkj : A - (j + 1) = k := by omega
  have hle := vM_le (W := spW8 σ) (A := A) (fun l r => (spW8_in σ l r).2)
  have ev : vM (spW8 σ) A (A - k) m = (match br m (fun r => spW8 σ k r + vM (spW8 σ) A j (m ||| 2 ^ r)) 12 with
    | none => vM (spW8 σ) A j m
    | some q => max q.2 (vM (spW8 σ) A j m)) := by
    rw [hj]
    show (match br m (fun r => spW8 σ (A - (j + 1)) r + vM (spW8 σ) A j (m ||| 2 ^ r)) 12 with
      | none => vM (spW8 σ) A j m
      | some q => max q.2 (vM (spW8 σ) A j m)) = _
    rw [hkj]
  have fle : ∀ r, spW8 σ k r + vM (spW8 σ) A j (m ||| 2 ^ r) ≤ 8991 := fun r => by
    have h1 := (spW8_in σ k r).2
    have h2 := hle j (m ||| 2 ^ r)
    omega
  refine gW2_ind (fun t => t = k12 (nI (vM (spW8 σ) A (A - k) m)) w) (fun z x y w1 => ∃ r, r ≤ 13 ∧ y = nI r ∧ z = 13 - r ∧ w1 = w ∧ ((r ≤ 12 ∧ x = brI (br m (fun r => spW8 σ k r + vM (spW8 σ) A j (m ||| 2 ^ r)) r)) ∨ (r = 13 ∧ x = nI (vM (spW8 σ) A (A - k) m)))) ?_ N 13 _ _ w (by omega) ⟨0, by omega, rfl, rfl, rfl, Or.inl ⟨by omega, rfl⟩⟩
  rintro z go x y w1 ⟨r, hr, rfl, rfl, rfl, hc⟩ ih
  unfold xX10_laysJuly_b51
  by_cases q : 12 < r
  · rw [if_pos (ylt (by omega) (by omega) q)]
    rcases hc with ⟨h1, -⟩ | ⟨-, rfl⟩
    · omega
    · rfl
  · rw [if_neg (nlt (by omega) (by omega) q), gLet_s]
    rcases hc with ⟨h1, rfl⟩ | ⟨h1, -⟩
    · obtain ⟨p1, p2⟩ := br_p (m := m) (f := fun r => spW8 σ k r + vM (spW8 σ) A j (m ||| 2 ^ r)) r
      have ble : ∀ q, br m (fun r => spW8 σ k r + vM (spW8 σ) A j (m ||| 2 ^ r)) r = some q → q.2 ≤ 8991 := fun q hq => by
        have := (p2 q hq).2.2.1
        rw [this]
        exact fle q.1
      by_cases e12 : r = 12
      · subst e12
        have hvj := hle j m
        rw [m_lodge12 hA hk hm hT, gBi_s, hj2, nI_add]
        cases hb : br m (fun r => spW8 σ k r + vM (spW8 σ) A j (m ||| 2 ^ r)) 12 with
        | none =>
          have e0 : brI none = (-1) := rfl
          rw [hb] at ev
          have m1 := (m1_le (v := vM (spW8 σ) A j m) (by omega)).2
          rw [e0, if_pos (Int32.le_of_lt m1), m_lodge12 hA hk hm hT, gBi_s, hj2]
          exact ih 0 _ _ _ (by omega) ⟨13, by omega, rfl, rfl, rfl, Or.inr ⟨rfl, by rw [ev]⟩⟩
        | some q0 =>
          have e0 : brI (some q0) = nI q0.2 := rfl
          have hq0 := ble q0 hb
          rw [hb] at ev
          rw [e0]
          by_cases c : q0.2 ≤ vM (spW8 σ) A j m
          · rw [if_pos (yle (by omega) (by omega) c), m_lodge12 hA hk hm hT, gBi_s, hj2]
            refine ih 0 _ _ _ (by omega) ⟨13, by omega, rfl, rfl, rfl, Or.inr ⟨rfl, ?_⟩⟩
            rw [ev]
            exact congrArg nI (Nat.max_eq_right c).symm
          · rw [if_neg (nle (by omega) (by omega) c)]
            refine ih 0 _ _ _ (by omega) ⟨13, by omega, rfl, rfl, rfl, Or.inr ⟨rfl, ?_⟩⟩
            rw [ev]
            exact congrArg nI (Nat.max_eq_left (by omega)).symm
      · have hr12 : r < 12 := by omega
        by_cases b : bitA m r
        · rw [m_lodgeN (σ := σ) hA hk hm hr12 b, gBi_s, nI_add]
          have nx := br_set (f := fun r => spW8 σ k r + vM (spW8 σ) A j (m ||| 2 ^ r)) b
          cases hb : br m (fun r => spW8 σ k r + vM (spW8 σ) A j (m ||| 2 ^ r)) r with
          | none =>
            have e0 : brI none = (-1) := rfl
            rw [e0, if_pos (by decide), m_lodgeN (σ := σ) hA hk hm hr12 b, gBi_s]
            exact ih (13 - (r + 1)) _ _ _ (by omega) ⟨r + 1, by omega, rfl, rfl, rfl, Or.inl ⟨by omega, by rw [nx, hb]; rfl⟩⟩
          | some q0 =>
            have e0 : brI (some q0) = nI q0.2 := rfl
            have hq0 := ble q0 hb
            rw [e0, if_neg (m1_le (v := q0.2) (by omega)).1]
            exact ih (13 - (r + 1)) _ _ _ (by omega) ⟨r + 1, by omega, rfl, rfl, rfl, Or.inl ⟨by omega, by rw [nx, hb]; rfl⟩⟩
        · rw [m_lodgeY hA hk hm hr12 b hT hW, gBi_s, hj2, nI_add]
          have hf := fle r
          cases hb : br m (fun r => spW8 σ k r + vM (spW8 σ) A j (m ||| 2 ^ r)) r with
          | none =>
            have e0 : brI none = (-1) := rfl
            have nx := br_none b hb
            have m1 := (m1_le (v := spW8 σ k r + vM (spW8 σ) A j (m ||| 2 ^ r)) (by omega)).2
            rw [e0, if_pos (Int32.le_of_lt m1), m_lodgeY hA hk hm hr12 b hT hW, gBi_s, hj2]
            exact ih (13 - (r + 1)) _ _ _ (by omega) ⟨r + 1, by omega, rfl, rfl, rfl, Or.inl ⟨by omega, by rw [nx]; rfl⟩⟩
          | some q0 =>
            have e0 : brI (some q0) = nI q0.2 := rfl
            have hq0 := ble q0 hb
            have nx := br_some b hb
            rw [e0]
            by_cases c : q0.2 ≤ spW8 σ k r + vM (spW8 σ) A j (m ||| 2 ^ r)
            · rw [if_pos (yle (by omega) (by omega) c), m_lodgeY hA hk hm hr12 b hT hW, gBi_s, hj2]
              refine ih (13 - (r + 1)) _ _ _ (by omega) ⟨r + 1, by omega, rfl, rfl, rfl, Or.inl ⟨by omega, ?_⟩⟩
              rw [nx]
              by_cases c2 : spW8 σ k r + vM (spW8 σ) A j (m ||| 2 ^ r) ≤ q0.2
              · rw [if_pos c2]
                show nI _ = nI q0.2
                rw [show spW8 σ k r + vM (spW8 σ) A j (m ||| 2 ^ r) = q0.2 by omega]
              · rw [if_neg c2]
                rfl
            · rw [if_neg (nle (by omega) (by omega) c)]
              refine ih (13 - (r + 1)) _ _ _ (by omega) ⟨r + 1, by omega, rfl, rfl, rfl, Or.inl ⟨by omega, ?_⟩⟩
              rw [nx, if_pos (by omega)]
              rfl
    · omega
