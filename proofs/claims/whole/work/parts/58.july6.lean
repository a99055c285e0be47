theorem bcF_all4 : ∀ a b : Fin 64, bcF (nI (64 * a.1 + b.1)) = nI (pcn (64 * a.1 + b.1) 12) := by decide +kernel
theorem x_bitCount4 {v : Nat} (hv : v < 4096) (w : gT) : xJ6_bitCount_0f7a4 (nI v) w = some (nI (pcn v 12), w) := by
  have e : xJ6_bitCount_0f7a4 (nI v) w = some (bcF (nI v), w) := rfl
  have h := bcF_all4 ⟨v / 64, by omega⟩ ⟨v % 64, Nat.mod_lt _ (by omega)⟩
  dsimp only at h
  rw [Nat.div_add_mod] at h
  rw [e, h]
theorem shl12 {r : Nat} (hr : r < 12) : gShl (nI 1) (nI r) = nI (2 ^ r) := (by decide : ∀ j : Fin 12, gShl (nI 1) (nI j.1) = nI (2 ^ j.1)) ⟨r, hr⟩
def WtX (σ : sT) (A : Nat) (w : gT) : Prop := ∀ l r, l < A → r < 12 → w.1 57 (l * 12 + r) = spQ σ l r
/-- the class' table, for the masks from m on -/
def TbX (σ : sT) (A m : Nat) (w : gT) : Prop := ∀ p, m ≤ p → p < 4096 → w.1 58 p = nI (vC (spW8 σ) A (A - pcn p 12) p)
theorem vC_le {W : Nat → Nat → Nat} {A : Nat} (hW : ∀ l r, W l r ≤ 999) : ∀ j m, vC W A j m ≤ 999 * j
  | 0, _ => Nat.zero_le _
  | j + 1, m => by
    show (match br m (fun r => W (A - (j + 1)) r + vC W A j (m ||| 2 ^ r)) 12 with
      | none => 0
      | some q => q.2) ≤ _
    obtain ⟨p1, p2⟩ := br_p (m := m) (f := fun r => W (A - (j + 1)) r + vC W A j (m ||| 2 ^ r)) 12
    cases hb : br m (fun r => W (A - (j + 1)) r + vC W A j (m ||| 2 ^ r)) 12 with
    | none => exact Nat.zero_le _
    | some q =>
      have h3 := (p2 q hb).2.2.1
      have h1 := vC_le (A := A) hW j (m ||| 2 ^ q.1)
      have h2 := hW (A - (j + 1)) q.1
      show q.2 ≤ _
      rw [h3]
      omega
/-- what a room is worth to lodger k, with the best of those after -/
def fX (σ : sT) (A k m r : Nat) : Nat := spW8 σ k r + vC (spW8 σ) A (A - (k + 1)) (m ||| 2 ^ r)
theorem fX_le (σ : sT) {A k : Nat} (hA : A ≤ 8) (m r : Nat) : fX σ A k m r ≤ 8991 := by
  have h1 := (spW8_in σ k r).2
  have h2 := vC_le (W := spW8 σ) (A := A) (fun l r => (spW8_in σ l r).2) (A - (k + 1)) (m ||| 2 ^ r)
  unfold fX
  omega
theorem or_gt {m r : Nat} (hb : ¬ bitA m r) : m < m ||| 2 ^ r := by
  have h1 : m ≤ m ||| 2 ^ r := Nat.left_le_or
  have h2 : m ≠ m ||| 2 ^ r := fun z => hb (by rw [z]; exact bit_or.mpr (Or.inr rfl))
  omega
theorem x_bestRoom {N : Nat} (hN : 5000 ≤ N) {σ : sT} {w : gT} {A k m : Nat} (hA : A ≤ 8) (hk : k < A) (hm : m < 4096) (hp : pcn m 12 = k) (hT : TbX σ A (m + 1) w) (hW : WtX σ A w) : xX5_bestRoom N (nI k) (nI m) w = some (nI ((br m (fX σ A k m) 12).getD (0, 0)).1, w) := by
  unfold xX5_bestRoom
  refine gW3_ind (fun t => t = some (nI ((br m (fX σ A k m) 12).getD (0, 0)).1, w)) (fun z x y c w1 => ∃ r, r ≤ 12 ∧ x = nI ((br m (fX σ A k m) r).getD (0, 0)).1 ∧ y = brI (br m (fX σ A k m) r) ∧ c = nI r ∧ z = 12 - r ∧ w1 = w) ?_ N 12 _ _ _ w (by omega) ⟨0, by omega, rfl, rfl, rfl, rfl, rfl⟩
  rintro z go x y c w1 ⟨r, hr, rfl, rfl, rfl, rfl, rfl⟩ ih
  unfold xX5_bestRoom_b8
  by_cases q : 12 ≤ r
  · rw [if_pos (yle (by omega) (by omega) q)]
    have : r = 12 := by omega
    rw [this]
  · have hr12 : r < 12 := by omega
    have hl := or_lt12 hm hr12
    rw [if_neg (nle (by omega) (by omega) q), gLet_s, bit_nI (by omega) (by omega), shl12 hr12, nI_or, nI_mul, nI_add, gG_in (by omega) (by omega), gG_in (by omega) (by omega), nI_clamp (by omega), nI_clamp (by omega), nI_add]
    have hbl := bit_lt m r
    by_cases b : bitA m r
    · have e1 : m / 2 ^ r % 2 = 1 := b
      rw [e1, if_neg nI_10]
      exact ih (12 - (r + 1)) _ _ _ _ (by omega) ⟨r + 1, by omega, by rw [br_set b], by rw [br_set b], rfl, rfl, rfl⟩
    · have e0 : m / 2 ^ r % 2 = 0 := by
        have : ¬ m / 2 ^ r % 2 = 1 := b
        omega
      have hp2 := pcn_or b 12
      rw [if_pos hr12, hp] at hp2
      have hv : w1.1 57 (k * 12 + r) + w1.1 58 (m ||| 2 ^ r) = nI (fX σ A k m r) := by
        rw [hW k r hk hr12, (spW8_in σ k r).1, hT _ (or_gt b) hl, hp2, nI_add]
        rfl
      have hfl := fX_le σ (k := k) hA m r
      rw [e0, if_pos rfl, gLet_s, hv]
      obtain ⟨p1, p2⟩ := br_p (m := m) (f := fX σ A k m) r
      cases hb : br m (fX σ A k m) r with
      | none =>
        have e : brI none = (-1) := rfl
        rw [e, if_neg (m1_le (by omega)).1]
        exact ih (12 - (r + 1)) _ _ _ _ (by omega) ⟨r + 1, by omega, by rw [br_none b hb]; rfl, by rw [br_none b hb]; rfl, rfl, rfl, rfl⟩
      | some q0 =>
        have e : brI (some q0) = nI q0.2 := rfl
        have hq0 : q0.2 ≤ 8991 := by
          rw [(p2 q0 hb).2.2.1]
          exact fX_le σ hA m q0.1
        have nx := br_some b hb
        rw [e]
        by_cases cc : fX σ A k m r ≤ q0.2
        · rw [if_pos (yle (by omega) (by omega) cc)]
          rw [if_pos cc] at nx
          exact ih (12 - (r + 1)) _ _ _ _ (by omega) ⟨r + 1, by omega, by rw [nx], by rw [nx]; rfl, rfl, rfl, rfl⟩
        · rw [if_neg (nle (by omega) (by omega) cc)]
          rw [if_neg cc] at nx
          exact ih (12 - (r + 1)) _ _ _ _ (by omega) ⟨r + 1, by omega, by rw [nx]; rfl, by rw [nx]; rfl, rfl, rfl, rfl⟩
theorem vC_br {σ : sT} {A k m : Nat} (hk : k < A) : vC (spW8 σ) A (A - k) m = (match br m (fX σ A k m) 12 with
    | none => 0
    | some q => q.2) := by
  obtain ⟨j, hj⟩ : ∃ j, A - k = j + 1 := ⟨A - k - 1, by omega⟩
  have hj2 : A - (k + 1) = j := by omega
  have hkj : A - (j + 1) = k := by omega
  rw [hj]
  have ef : fX σ A k m = fun r => spW8 σ (A - (j + 1)) r + vC (spW8 σ) A j (m ||| 2 ^ r) := by
    funext r
    unfold fX
    rw [hj2, hkj]
  rw [ef]
  rfl
theorem x_fillTable {N : Nat} (hN : 5000 ≤ N) {σ : sT} {w : gT} {A : Nat} (hA : A ≤ 8) (hA0 : 0 < A) (hW : WtX σ A w) : ∃ w', xX5_fill N (nI A) w = some w' ∧ SmC [56, 58] w w' ∧ TbX σ A 0 w' := by
  unfold xX5_fill
  rw [gLet_s]
  refine gW1_ind (fun (t : Option gT) => ∃ w' : gT, t = some w' ∧ SmC [56, 58] w w' ∧ TbX σ A 0 w') (fun z x w1 => ∃ m, m ≤ 4096 ∧ z = m ∧ ((m = 0 ∧ x = (-1)) ∨ (0 < m ∧ x = nI (m - 1))) ∧ SmC [56, 58] w w1 ∧ w1.1 56 2 = nI A ∧ TbX σ A m w1) ?_ N 4096 _ _ (by omega) ⟨4096, by omega, rfl, Or.inr ⟨by omega, rfl⟩, SmC.U (by decide), gU0, fun p h1 h2 => by omega⟩
  rintro z go x w1 ⟨m, hm, rfl, hx, hs, h56, hT⟩ ih
  unfold xX5_fill_b9
  rcases hx with ⟨rfl, rfl⟩ | ⟨m0, rfl⟩
  · rw [if_pos (by decide)]
    exact ⟨w1, rfl, hs, hT⟩
  · have ez : z - 1 + 1 = z := by omega
    have hpl := pcn_le (z - 1) 12
    rw [if_neg (nlt (by omega) (by omega) (by omega)), gLet_s, x_bitCount4 (by omega), gBi_s, gG_in (by omega) (by omega), gLet_s, nI_clamp (by omega), gU1 (by omega), h56]
    have nxt : ∀ w2, SmC [56, 58] w w2 → w2.1 56 2 = nI A → TbX σ A (z - 1) w2 → ∃ w', go (nI (z - 1) + (-1)) w2 = some w' ∧ SmC [56, 58] w w' ∧ TbX σ A 0 w' := by
      intro w2 s2 h2 T2
      by_cases z1 : z - 1 = 0
      · refine ih (z - 1) _ _ (by omega) ⟨z - 1, by omega, rfl, Or.inl ⟨z1, ?_⟩, s2, h2, T2⟩
        rw [z1]
        decide
      · exact ih (z - 1) _ _ (by omega) ⟨z - 1, by omega, rfl, Or.inr ⟨by omega, m1_add (by omega) (by omega)⟩, s2, h2, T2⟩
    have s2 : SmC [56, 58] w (gU w1 58 (z - 1) (nI 0)) := hs.tr (SmC.U (by decide))
    have T2 : TbX σ A (z - 1 + 1) (gU w1 58 (z - 1) (nI 0)) := fun p h1 h2 => by
      rw [gU2 (by omega)]
      exact hT p (by omega) h2
    have h2 : (gU w1 58 (z - 1) (nI 0)).1 56 2 = nI A := by rw [gU1 (by omega)]; exact h56
    by_cases c : A ≤ pcn (z - 1) 12
    · rw [if_pos (yle (by omega) (by omega) c)]
      refine nxt _ s2 h2 (fun p h1 h3 => ?_)
      by_cases e : p = z - 1
      · rw [e, gU0, show A - pcn (z - 1) 12 = 0 by omega]
        rfl
      · exact T2 p (by omega) h3
    · have hW2 : WtX σ A (gU w1 58 (z - 1) (nI 0)) := fun l r hl hr => by rw [s2 57 (by decide)]; exact hW l r hl hr
      rw [if_neg (nle (by omega) (by omega) c), x_bestRoom hN hA (by omega) (by omega) rfl T2 hW2, gBi_s]
      obtain ⟨p1, p2⟩ := br_p (m := z - 1) (f := fX σ A (pcn (z - 1) 12) (z - 1)) 12
      obtain ⟨r0, hr0, hb0⟩ := unset_ex (m := z - 1) 12 (by omega)
      have hv := vC_br (σ := σ) (m := z - 1) (show pcn (z - 1) 12 < A by omega)
      cases hb : br (z - 1) (fX σ A (pcn (z - 1) 12) (z - 1)) 12 with
      | none => exact absurd (p1 hb r0 hr0) hb0
      | some q =>
        obtain ⟨q1, q2, q3, -⟩ := p2 q hb
        rw [hb] at hv
        have eq1 : ((some q).getD (0, 0)).1 = q.1 := rfl
        have hl := or_lt12 (show z - 1 < 4096 by omega) q1
        have hp2 := pcn_or q2 12
        rw [if_pos q1] at hp2
        rw [eq1, shl12 q1, nI_or, nI_mul, nI_add, gG_in (by omega) (by omega), gG_in (by omega) (by omega), gG_in (by omega) (by omega), gLet_s, nI_clamp (by omega), nI_clamp (by omega), hW2 _ _ (by omega) q1, (spW8_in σ _ _).1, T2 _ (or_gt q2) hl, hp2, nI_add]
        try dsimp only
        refine nxt _ (s2.tr (SmC.U (by decide))) (by rw [gU1 (by omega)]; exact h2) (fun p h1 h3 => ?_)
        by_cases e : p = z - 1
        · rw [e, gU0, hv]
          exact congrArg nI q3.symm
        · rw [gU2 e]
          exact T2 p (by omega) h3
