/-- the first of the largest -/
def lgD (d : Nat → Int) : Nat → Nat
  | 0 => 0
  | k + 1 => if d k ≤ d (lgD d k) then lgD d k else k
theorem lgD_p (d : Nat → Int) : ∀ k, 0 < k → lgD d k < k ∧ ∀ i, i < k → d i ≤ d (lgD d k) ∧ (d i = d (lgD d k) → lgD d k ≤ i)
  | 0, h => by omega
  | k + 1, _ => by
    by_cases k0 : k = 0
    · subst k0
      have e : lgD d (0 + 1) = 0 := by
        show (if d 0 ≤ d (lgD d 0) then lgD d 0 else 0) = 0
        have : lgD d 0 = 0 := rfl
        rw [this]
        split <;> rfl
      rw [e]
      refine ⟨by omega, fun i hi => ?_⟩
      have : i = 0 := by omega
      subst this
      exact ⟨Int.le_refl _, fun _ => Nat.le_refl _⟩
    · obtain ⟨h1, h2⟩ := lgD_p d k (by omega)
      have e : lgD d (k + 1) = if d k ≤ d (lgD d k) then lgD d k else k := rfl
      rw [e]
      by_cases c : d k ≤ d (lgD d k)
      · rw [if_pos c]
        refine ⟨by omega, fun i hi => ?_⟩
        by_cases ei : i = k
        · subst ei
          exact ⟨c, fun _ => by omega⟩
        · exact h2 i (by omega)
      · rw [if_neg c]
        refine ⟨by omega, fun i hi => ?_⟩
        by_cases ei : i = k
        · subst ei
          exact ⟨Int.le_refl _, fun _ => Nat.le_refl _⟩
        · have := (h2 i (by omega)).1
          exact ⟨by omega, fun z => by omega⟩
def updI (d : Nat → Int) (g : Nat) : Nat → Int := fun i => if i = g then 0 else d i
/-- the greedy choice of c -/
def grD : Nat → (Nat → Int) → Nat
  | 0, _ => 0
  | c + 1, d => if 0 < d (lgD d 10) then grD c (updI d (lgD d 10)) ||| 2 ^ lgD d 10 else 0
def geqD (d : Nat → Int) (p m : Nat) : Prop := smI d m 10 < smI d p 10 ∨ (smI d m 10 = smI d p 10 ∧ (pcn p 10 < pcn m 10 ∨ (pcn p 10 = pcn m 10 ∧ p ≤ m)))
theorem smI_upd {d : Nat → Int} {g m : Nat} (hb : ¬ bitA m g) (k : Nat) : smI (updI d g) m k = smI d m k := smI_congr k (fun i _ => by
  by_cases e : i = g
  · subst e
    rw [if_neg hb, if_neg hb]
  · have : updI d g i = d i := if_neg e
    rw [this])
theorem smI_neg {d : Nat → Int} {m : Nat} (hd : ∀ i, i < 10 → d i ≤ 0) : ∀ k, k ≤ 10 → smI d m k ≤ 0
  | 0, _ => Int.le_refl _
  | k + 1, h => by
    have h1 := smI_neg (m := m) hd k (by omega)
    have h2 := hd k (by omega)
    show smI d m k + _ ≤ 0
    split <;> omega
theorem bit0 (g : Nat) : ¬ bitA 0 g := by
  unfold bitA
  rw [Nat.zero_div]
  omega
theorem pcn_z : ∀ k, pcn 0 k = 0
  | 0 => rfl
  | k + 1 => by rw [pcn_f (bit0 k), pcn_z k]
theorem grD_best : ∀ c d, grD c d < 1024 ∧ pcn (grD c d) 10 ≤ c ∧ (∀ i, bitA (grD c d) i → 0 < d i) ∧ ∀ m, m < 1024 → pcn m 10 ≤ c → geqD d (grD c d) m
  | 0, d => by
    refine ⟨by show 0 < 1024; omega, by show pcn 0 10 ≤ 0; rw [pcn_z]; omega, fun i hi => absurd hi (bit0 i), fun m hm hp => ?_⟩
    have e : m = 0 := by
      apply Classical.byContradiction
      intro hne
      obtain ⟨p, h1, h2⟩ := mask_ne (m := nI m) ⟨m, hm, rfl⟩ (fun z => hne ((nI_eq (by omega) (by omega)).mp z))
      have hb := (tol_iff (v := m) (p := p) (by omega) (by omega)).mp h2
      have := pcn_mono (v := m) (show p + 1 ≤ 10 by omega)
      rw [pcn_t hb] at this
      omega
    subst e
    exact Or.inr ⟨rfl, Or.inr ⟨rfl, Nat.le_refl _⟩⟩
  | c + 1, d => by
    obtain ⟨g1, g2⟩ := lgD_p d 10 (by omega)
    have e : grD (c + 1) d = if 0 < d (lgD d 10) then grD c (updI d (lgD d 10)) ||| 2 ^ lgD d 10 else 0 := rfl
    rw [e]
    revert g1 g2
    generalize lgD d 10 = g
    intro g1 g2
    by_cases dg : 0 < d g
    · rw [if_pos dg]
      obtain ⟨i1, i2, i3, i4⟩ := grD_best c (updI d g)
      revert i1 i2 i3 i4
      generalize grD c (updI d g) = S
      intro i1 i2 i3 i4
      have hS : ¬ bitA S g := fun z => by
        have h := i3 g z
        have : updI d g g = 0 := if_pos rfl
        omega
      have hpS := pcn_or hS 10
      rw [if_pos g1] at hpS
      have hsS := smI_or (d := d) hS 10
      rw [if_pos g1] at hsS
      have key : ∀ p, ¬ bitA p g → p < 1024 → pcn p 10 ≤ c → geqD d (S ||| 2 ^ g) (p ||| 2 ^ g) := fun p hp hpl hpc => by
        have h := i4 p hpl hpc
        have hpp := pcn_or hp 10
        rw [if_pos g1] at hpp
        have hsp := smI_or (d := d) hp 10
        rw [if_pos g1] at hsp
        unfold geqD at h ⊢
        rw [smI_upd hp, smI_upd hS] at h
        rw [hsp, hsS, hpp, hpS, or_add hp, or_add hS]
        omega
      refine ⟨Nat.or_lt_two_pow (n := 10) i1 (Nat.pow_lt_pow_right (show 1 < 2 by omega) g1), by omega, fun i hi => ?_, fun m hm hmc => ?_⟩
      · rcases bit_or.mp hi with hi | hi
        · have h := i3 i hi
          have hne : i ≠ g := fun z => hS (z ▸ hi)
          have : updI d g i = d i := if_neg hne
          omega
        · rw [hi]; exact dg
      · by_cases bg : bitA m g
        · obtain ⟨p, p1, p2, p3⟩ := mask_split bg
          have hpp := pcn_or p1 10
          rw [if_pos g1, ← p2] at hpp
          rw [p2]
          exact key p p1 (Nat.lt_of_le_of_lt (Nat.le.intro p3) hm) (by omega)
        · by_cases m0 : m = 0
          · subst m0
            have k0 := key 0 (bit0 g) (by omega) (by rw [pcn_z]; omega)
            have hs0 := smI_or (d := d) (bit0 g) 10
            rw [if_pos g1, smI_0] at hs0
            have hz := smI_0 d 10
            unfold geqD at k0 ⊢
            omega
          · obtain ⟨q, h1, h2⟩ := mask_ne (m := nI m) ⟨m, hm, rfl⟩ (fun z => m0 ((nI_eq (by omega) (by omega)).mp z))
            have hb : bitA m q := (tol_iff (v := m) (p := q) (by omega) (by omega)).mp h2
            obtain ⟨p, p1, p2, p3⟩ := mask_split hb
            have hne : q ≠ g := fun z => bg (z ▸ hb)
            have hpg : ¬ bitA p g := fun z => bg (by rw [p2]; exact bit_or.mpr (Or.inl z))
            have hpp := pcn_or p1 10
            rw [if_pos h1, ← p2] at hpp
            have hpg2 := pcn_or hpg 10
            rw [if_pos g1] at hpg2
            have hs1 := smI_or (d := d) p1 10
            rw [if_pos h1, ← p2] at hs1
            have hs2 := smI_or (d := d) hpg 10
            rw [if_pos g1] at hs2
            obtain ⟨u1, u2⟩ := g2 q h1
            have k0 := key p hpg (Nat.lt_of_le_of_lt (Nat.le.intro p3) hm) (by omega)
            have ea := or_add hpg
            have hlt : d q = d g → 2 ^ g < 2 ^ q := fun z => Nat.pow_lt_pow_right (by omega) (by have := u2 z; omega)
            unfold geqD at k0 ⊢
            by_cases ed : d q = d g
            · have := hlt ed
              omega
            · omega
    · rw [if_neg dg]
      have hd : ∀ i, i < 10 → d i ≤ 0 := fun i hi => by
        have := (g2 i hi).1
        omega
      refine ⟨by omega, by rw [pcn_z]; omega, fun i hi => absurd hi (bit0 i), fun m hm hmc => ?_⟩
      have h1 := smI_neg (m := m) hd 10 (by omega)
      have h2 := smI_0 d 10
      have h3 := pcn_z 10
      unfold geqD
      omega
