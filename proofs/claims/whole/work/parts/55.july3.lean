/-! THE ROOMS OF JULY: the best by masks -/
abbrev bitA (m r : Nat) : Prop := m / 2 ^ r % 2 = 1
theorem bitA_tb (m r : Nat) : bitA m r ↔ m.testBit r = true := by
  unfold bitA
  rw [Nat.testBit_eq_decide_div_mod_eq, decide_eq_true_iff]
theorem bit_or {m r i : Nat} : bitA (m ||| 2 ^ r) i ↔ bitA m i ∨ i = r := by
  rw [bitA_tb, bitA_tb, Nat.testBit_or, Nat.testBit_two_pow, Bool.or_eq_true, decide_eq_true_iff]
  exact ⟨fun h => h.imp id Eq.symm, fun h => h.imp id Eq.symm⟩
theorem or_lt12 {m r : Nat} (hm : m < 4096) (hr : r < 12) : m ||| 2 ^ r < 4096 := Nat.or_lt_two_pow (n := 12) hm (Nat.pow_lt_pow_right (show 1 < 2 by omega) hr)
theorem pcn_or {m r : Nat} (h : ¬ bitA m r) : ∀ k, pcn (m ||| 2 ^ r) k = pcn m k + (if r < k then 1 else 0)
  | 0 => by rw [if_neg (by omega)]; rfl
  | k + 1 => by
    have ih := pcn_or h k
    by_cases e : k = r
    · subst e
      have b1 : bitA (m ||| 2 ^ k) k := bit_or.mpr (Or.inr rfl)
      rw [pcn_t b1, pcn_f h, ih, if_neg (by omega), if_pos (by omega)]
    · by_cases b : bitA m k
      · have b1 : bitA (m ||| 2 ^ r) k := bit_or.mpr (Or.inl b)
        rw [pcn_t b1, pcn_t b, ih]
        by_cases c : r < k
        · rw [if_pos c, if_pos (by omega)]
        · rw [if_neg c, if_neg (by omega)]
      · have b1 : ¬ bitA (m ||| 2 ^ r) k := fun z => (bit_or.mp z).elim b e
        rw [pcn_f b1, pcn_f b, ih]
        by_cases c : r < k
        · rw [if_pos c, if_pos (by omega)]
        · rw [if_neg c, if_neg (by omega)]
theorem unset_ex {m : Nat} : ∀ k, pcn m k < k → ∃ r, r < k ∧ ¬ bitA m r
  | 0, h => by omega
  | k + 1, h => by
    by_cases b : bitA m k
    · rw [pcn_t b] at h
      obtain ⟨r, h1, h2⟩ := unset_ex (m := m) k (by omega)
      exact ⟨r, by omega, h2⟩
    · exact ⟨k, by omega, b⟩
/-- the first best room of those below n that m lets -/
def br (m : Nat) (f : Nat → Nat) : Nat → Option (Nat × Nat)
  | 0 => none
  | n + 1 => if bitA m n then br m f n else match br m f n with
    | none => some (n, f n)
    | some q => if f n ≤ q.2 then some q else some (n, f n)
theorem br_set {m : Nat} {f : Nat → Nat} {n : Nat} (h : bitA m n) : br m f (n + 1) = br m f n := if_pos h
theorem br_none {m : Nat} {f : Nat → Nat} {n : Nat} (h : ¬ bitA m n) (hb : br m f n = none) : br m f (n + 1) = some (n, f n) := by
  have e : br m f (n + 1) = if bitA m n then br m f n else match br m f n with
    | none => some (n, f n)
    | some q => if f n ≤ q.2 then some q else some (n, f n) := rfl
  rw [e, if_neg h, hb]
theorem br_some {m : Nat} {f : Nat → Nat} {n : Nat} {q : Nat × Nat} (h : ¬ bitA m n) (hb : br m f n = some q) : br m f (n + 1) = if f n ≤ q.2 then some q else some (n, f n) := by
  have e : br m f (n + 1) = if bitA m n then br m f n else match br m f n with
    | none => some (n, f n)
    | some q => if f n ≤ q.2 then some q else some (n, f n) := rfl
  rw [e, if_neg h, hb]
theorem br_p {m : Nat} {f : Nat → Nat} : ∀ n, (br m f n = none → ∀ r, r < n → bitA m r) ∧ ∀ q, br m f n = some q → q.1 < n ∧ ¬ bitA m q.1 ∧ q.2 = f q.1 ∧ (∀ r, r < n → ¬ bitA m r → f r ≤ q.2) ∧ ∀ r, r < q.1 → ¬ bitA m r → f r < q.2
  | 0 => ⟨fun _ r h => by omega, fun q h => by cases h⟩
  | n + 1 => by
    obtain ⟨ih1, ih2⟩ := br_p (m := m) (f := f) n
    by_cases b : bitA m n
    · rw [br_set b]
      refine ⟨fun h r hr => ?_, fun q h => ?_⟩
      · by_cases e : r = n
        · rw [e]; exact b
        · exact ih1 h r (by omega)
      · obtain ⟨h1, h2, h3, h4, h5⟩ := ih2 q h
        refine ⟨by omega, h2, h3, fun r hr hb => ?_, h5⟩
        by_cases e : r = n
        · subst e; exact absurd b hb
        · exact h4 r (by omega) hb
    · cases hb : br m f n with
      | none =>
        rw [br_none b hb]
        refine ⟨fun h => (by cases h), fun q h => ?_⟩
        cases h
        refine ⟨by show n < n + 1; omega, b, rfl, fun r hr hbr => ?_, fun r hr hbr => absurd (ih1 hb r hr) hbr⟩
        by_cases e : r = n
        · rw [e]; exact Nat.le_refl _
        · exact absurd (ih1 hb r (by omega)) hbr
      | some q =>
        rw [br_some b hb]
        obtain ⟨h1, h2, h3, h4, h5⟩ := ih2 q hb
        by_cases c : f n ≤ q.2
        · rw [if_pos c]
          refine ⟨fun h => (by cases h), fun q2 h => ?_⟩
          cases h
          refine ⟨by omega, h2, h3, fun r hr hbr => ?_, h5⟩
          by_cases e : r = n
          · rw [e]; exact c
          · exact h4 r (by omega) hbr
        · rw [if_neg c]
          refine ⟨fun h => (by cases h), fun q2 h => ?_⟩
          cases h
          refine ⟨by show n < n + 1; omega, b, rfl, fun r hr hbr => ?_, fun r hr hbr => ?_⟩
          · by_cases e : r = n
            · rw [e]; exact Nat.le_refl _
            · have := h4 r (by omega) hbr
              show f r ≤ f n
              omega
          · have := h4 r hr hbr
            show f r < f n
            omega
/-- the class' best: j lodgers still to come, of A -/
def vC (W : Nat → Nat → Nat) (A : Nat) : Nat → Nat → Nat
  | 0, _ => 0
  | j + 1, m => match br m (fun r => W (A - (j + 1)) r + vC W A j (m ||| 2 ^ r)) 12 with
    | none => 0
    | some q => q.2
/-- the model's best: a lodger may stay away -/
def vM (W : Nat → Nat → Nat) (A : Nat) : Nat → Nat → Nat
  | 0, _ => 0
  | j + 1, m => match br m (fun r => W (A - (j + 1)) r + vM W A j (m ||| 2 ^ r)) 12 with
    | none => vM W A j m
    | some q => max q.2 (vM W A j m)
theorem br_congr {m : Nat} {f g : Nat → Nat} : ∀ n, (∀ r, r < n → ¬ bitA m r → f r = g r) → br m f n = br m g n
  | 0, _ => rfl
  | n + 1, h => by
    have ih := br_congr (m := m) (f := f) (g := g) n (fun r hr => h r (by omega))
    by_cases b : bitA m n
    · rw [br_set b, br_set b, ih]
    · have e := h n (by omega) b
      cases hb : br m f n with
      | none => rw [br_none b hb, br_none b (ih ▸ hb), e]
      | some q => rw [br_some b hb, br_some b (ih ▸ hb), e]
theorem vM_ge0 {W : Nat → Nat → Nat} {A j m : Nat} : vM W A j m ≤ vM W A (j + 1) m := by
  show _ ≤ (match br m (fun r => W (A - (j + 1)) r + vM W A j (m ||| 2 ^ r)) 12 with
    | none => vM W A j m
    | some q => max q.2 (vM W A j m))
  split
  · exact Nat.le_refl _
  · exact Nat.le_max_right _ _
theorem vM_ge {W : Nat → Nat → Nat} {A j m r : Nat} (hr : r < 12) (hb : ¬ bitA m r) : W (A - (j + 1)) r + vM W A j (m ||| 2 ^ r) ≤ vM W A (j + 1) m := by
  show _ ≤ (match br m (fun r => W (A - (j + 1)) r + vM W A j (m ||| 2 ^ r)) 12 with
    | none => vM W A j m
    | some q => max q.2 (vM W A j m))
  obtain ⟨p1, p2⟩ := br_p (m := m) (f := fun r => W (A - (j + 1)) r + vM W A j (m ||| 2 ^ r)) 12
  cases h : br m (fun r => W (A - (j + 1)) r + vM W A j (m ||| 2 ^ r)) 12 with
  | none => exact absurd (p1 h r hr) hb
  | some q => exact Nat.le_trans ((p2 q h).2.2.2.1 r hr hb) (Nat.le_max_left _ _)
theorem vM_att {W : Nat → Nat → Nat} {A j m : Nat} : vM W A (j + 1) m = vM W A j m ∨ ∃ r, r < 12 ∧ ¬ bitA m r ∧ vM W A (j + 1) m = W (A - (j + 1)) r + vM W A j (m ||| 2 ^ r) := by
  have e : vM W A (j + 1) m = (match br m (fun r => W (A - (j + 1)) r + vM W A j (m ||| 2 ^ r)) 12 with
    | none => vM W A j m
    | some q => max q.2 (vM W A j m)) := rfl
  rw [e]
  obtain ⟨p1, p2⟩ := br_p (m := m) (f := fun r => W (A - (j + 1)) r + vM W A j (m ||| 2 ^ r)) 12
  cases h : br m (fun r => W (A - (j + 1)) r + vM W A j (m ||| 2 ^ r)) 12 with
  | none => exact Or.inl rfl
  | some q =>
    obtain ⟨q1, q2, q3, -⟩ := p2 q h
    show max q.2 (vM W A j m) = _ ∨ _
    rcases Nat.le_total q.2 (vM W A j m) with c | c
    · exact Or.inl (Nat.max_eq_right c)
    · refine Or.inr ⟨q.1, q1, q2, ?_⟩
      show max q.2 (vM W A j m) = _
      rw [Nat.max_eq_left c, q3]
/-- a room too few does no harm: some room is left over -/
theorem vM_room {W : Nat → Nat → Nat} {A : Nat} : ∀ j m, pcn m 12 + j < 12 → ∃ r, r < 12 ∧ ¬ bitA m r ∧ vM W A j m ≤ vM W A j (m ||| 2 ^ r)
  | 0, m, h => by
    obtain ⟨r, h1, h2⟩ := unset_ex (m := m) 12 (by omega)
    exact ⟨r, h1, h2, Nat.le_refl _⟩
  | j + 1, m, h => by
    rcases vM_att (W := W) (A := A) (j := j) (m := m) with e | ⟨q, hq, hb, e⟩
    · obtain ⟨r, h1, h2, h3⟩ := vM_room (W := W) (A := A) j m (by omega)
      exact ⟨r, h1, h2, by rw [e]; exact Nat.le_trans h3 vM_ge0⟩
    · have hp := pcn_or hb 12
      rw [if_pos hq] at hp
      obtain ⟨r, h1, h2, h3⟩ := vM_room (W := W) (A := A) j (m ||| 2 ^ q) (by omega)
      have hrb : ¬ bitA m r := fun z => h2 (bit_or.mpr (Or.inl z))
      have hne : q ≠ r := fun z => h2 (bit_or.mpr (Or.inr z.symm))
      have hqb : ¬ bitA (m ||| 2 ^ r) q := fun z => (bit_or.mp z).elim hb hne
      refine ⟨r, h1, hrb, ?_⟩
      have g := vM_ge (W := W) (A := A) (j := j) hq hqb
      rw [e]
      have e2 : m ||| 2 ^ r ||| 2 ^ q = m ||| 2 ^ q ||| 2 ^ r := by rw [Nat.or_assoc, Nat.or_assoc, Nat.or_comm (2 ^ r)]
      rw [e2] at g
      omega
theorem vM_vC {W : Nat → Nat → Nat} {A : Nat} : ∀ j m, pcn m 12 + j < 12 → vM W A j m = vC W A j m
  | 0, _, _ => rfl
  | j + 1, m, h => by
    have e1 : vM W A (j + 1) m = (match br m (fun r => W (A - (j + 1)) r + vM W A j (m ||| 2 ^ r)) 12 with
      | none => vM W A j m
      | some q => max q.2 (vM W A j m)) := rfl
    have e2 : vC W A (j + 1) m = (match br m (fun r => W (A - (j + 1)) r + vC W A j (m ||| 2 ^ r)) 12 with
      | none => 0
      | some q => q.2) := rfl
    have eb : br m (fun r => W (A - (j + 1)) r + vM W A j (m ||| 2 ^ r)) 12 = br m (fun r => W (A - (j + 1)) r + vC W A j (m ||| 2 ^ r)) 12 := br_congr 12 (fun r hr hb => by
      have hp := pcn_or hb 12
      rw [if_pos hr] at hp
      rw [vM_vC j (m ||| 2 ^ r) (by omega)])
    obtain ⟨r, h1, h2, h3⟩ := vM_room (W := W) (A := A) j m (by omega)
    obtain ⟨p1, p2⟩ := br_p (m := m) (f := fun r => W (A - (j + 1)) r + vM W A j (m ||| 2 ^ r)) 12
    rw [e1, e2, ← eb]
    cases hb : br m (fun r => W (A - (j + 1)) r + vM W A j (m ||| 2 ^ r)) 12 with
    | none => exact absurd (p1 hb r h1) h2
    | some q =>
      have := (p2 q hb).2.2.2.1 r h1 h2
      exact Nat.max_eq_left (by omega)
theorem vM_le {W : Nat → Nat → Nat} {A : Nat} (hW : ∀ l r, W l r ≤ 999) : ∀ j m, vM W A j m ≤ 999 * j
  | 0, _ => Nat.zero_le _
  | j + 1, m => by
    rcases vM_att (W := W) (A := A) (j := j) (m := m) with e | ⟨q, hq, hb, e⟩
    · have := vM_le (A := A) hW j m
      rw [e]; omega
    · have h1 := vM_le (A := A) hW j (m ||| 2 ^ q)
      have h2 := hW (A - (j + 1)) q
      rw [e]; omega
