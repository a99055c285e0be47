theorem gW3_s {α : Type} {f : (Int32 → Int32 → Int32 → gT → Option α) → Int32 → Int32 → Int32 → gT → Option α} {n : Nat} {x y z : Int32} {w : gT} : gW3 f (n + 1) x y z w = f (gW3 f n) x y z w := rfl
theorem first_ex (P : Nat → Prop) : ∀ n, ∃ c, c ≤ n ∧ (∀ t, t < c → ¬ P t) ∧ (c = n ∨ P c)
  | 0 => ⟨0, Nat.le_refl _, fun t h => by omega, Or.inl rfl⟩
  | n + 1 => by
    obtain ⟨c, h1, h2, h3⟩ := first_ex P n
    by_cases hp : P c
    · exact ⟨c, by omega, h2, Or.inr hp⟩
    · have hc : c = n := h3.resolve_right hp
      refine ⟨n + 1, Nat.le_refl _, fun t ht => ?_, Or.inl rfl⟩
      by_cases e : t = n
      · rw [e, ← hc]; exact hp
      · exact h2 t (by omega)
theorem Fm_att {G R : Nat → Nat} {W s : Nat} : ∀ t, Fm G R W s t = G s ∨ ∃ t', t' < t ∧ R t' ≠ 0 ∧ sb (R t') s ∧ G (mn s (R t')) + 1 = Fm G R W s t
  | 0 => Or.inl rfl
  | t + 1 => by
    rw [Fm_s]
    split
    · rename_i c
      exact Or.inr ⟨t, by omega, c.1, c.2.1, rfl⟩
    · rcases Fm_att (G := G) (R := R) (W := W) (s := s) t with h | ⟨t', h1, h2⟩
      · exact Or.inl h
      · exact Or.inr ⟨t', by omega, h2⟩
/-- what both look at -/
def OI (σ : sT) (M : Nat) (w v : gT) : Prop := (∃ A, NB A w ∧ ∀ j s, j ≤ 10 → s < 1024 → A j s = fdO σ M (10 - j) s) ∧ w.1 1 8 = σ.1 1 8 ∧ w.1 52 6 = nI M ∧ (∀ g, g < 10 → tol (σ.1 1 8) g → ∀ t, t < 84 → w.1 54 (84 * g + t) = nI (Rw σ M g t)) ∧ v.1 0 4 = σ.1 1 8 ∧ RI σ M v ∧ TI σ M 10 v
theorem least_both {N : Nat} (hN : 5000 ≤ N) {σ : sT} {M : Nat} (hM : M < 1024) {w v : gT} (hO : OI σ M w v) {h m : Nat} (hh : h < 10) (hm : m < 1024) (hsb : sb m M) (tg : tol (σ.1 1 8) h) (hf : fdO σ M (10 - h) (mn M m) ≠ 15) :
    ∃ c, c ≤ 84 ∧ xX0_leastWalk N (nI h) (nI (mn M m)) w = some (nI c, w) ∧ xX10_leastCode N (nI h) (nI m) v = some (nI c, v) ∧ (c < 84 → sb (Rw σ M h c) (mn M m) ∧ fdO σ M (9 - h) (mn (mn M m) (Rw σ M h c)) ≠ 15) ∧ (c = 84 → fdO σ M (9 - h) (mn M m) ≠ 15) := by
  obtain ⟨⟨A, hA, hAv⟩, o2, o3, o4, o5, o6, o7⟩ := hO
  obtain ⟨s, hs⟩ : ∃ s, s = mn M m := ⟨_, rfl⟩
  rw [← hs] at hf ⊢
  have hsM : sb s M := by rw [hs]; exact mn_sb M m
  have hsl : s < 1024 := Nat.lt_of_le_of_lt (sb_le hsM) hM
  obtain ⟨F, hF⟩ : ∃ F, F = fdO σ M (10 - h) s := ⟨_, rfl⟩
  have hFm : F = Fm (fdO σ M (9 - h)) (Rw σ M h) M s 84 := by
    rw [hF, show 10 - h = (9 - h) + 1 by omega]
    have : fdO σ M (9 - h + 1) s = if tol (σ.1 1 8) (9 - (9 - h)) then Fm (fdO σ M (9 - h)) (Rw σ M (9 - (9 - h))) M s 84 else fdO σ M (9 - h) s := rfl
    rw [this, show 9 - (9 - h) = h by omega, if_pos tg]
  have hF10 : F ≤ 10 := by
    have := fdO_val σ M (10 - h) (by omega) s hsl
    omega
  have hGv := fdO_val σ M (9 - h) (by omega)
  have hA1 : ∀ x, x < 1024 → A (h + 1) x = fdO σ M (9 - h) x := fun x hx => by
    rw [hAv _ _ (by omega) hx, show 10 - (h + 1) = 9 - h by omega]
  have hA0 : A h s = F := by rw [hAv _ _ (by omega) hsl, hF]
  have hmnl : ∀ x, mn s x < 1024 := fun x => Nat.lt_of_le_of_lt (sb_le (mn_sb s x)) hsl
  have h33 : v.1 33 (1024 * h + m) = nI F := by
    have := o7 (10 - h) (by omega) m hm hsb
    rw [show 10 - (10 - h) = h by omega, ← hs, ← hF, big_n (by omega)] at this
    exact this
  have hGF : F ≤ fdO σ M (9 - h) s := by
    rw [hFm]
    have := Fm_mono (fdO σ M (9 - h)) (Rw σ M h) M s 0 84
    exact this
  obtain ⟨c, c1, c2, c3⟩ := first_ex (fun t => Rw σ M h t ≠ 0 ∧ sb (Rw σ M h t) s ∧ fdO σ M (9 - h) (mn s (Rw σ M h t)) + 1 = F) 84
  have hG84 : c = 84 → F = fdO σ M (9 - h) s := fun hc => by
    rcases Fm_att (G := fdO σ M (9 - h)) (R := Rw σ M h) (W := M) (s := s) 84 with z | ⟨t', z1, z2⟩
    · rw [hFm]; exact z
    · rw [← hFm] at z2
      exact absurd z2 (c2 t' (by omega))
  refine ⟨c, c1, ?_, ?_, fun hc => ?_, fun hc => ?_⟩
  · unfold xX0_leastWalk
    refine gW1_ind (fun (t : Option (Int32 × gT)) => t = some (nI c, w)) (fun q x w1 => ∃ t, t ≤ c ∧ x = nI t ∧ q = c - t ∧ w1 = w) ?_ N c _ w (by omega) ⟨0, by omega, rfl, rfl, rfl⟩
    rintro q go x w1 ⟨t, ht, rfl, rfl, rfl⟩ ih
    unfold xX0_leastWalk_b2
    by_cases q : 84 ≤ t
    · have : c = 84 := by omega
      rw [if_pos (yle (by omega) (by omega) q), this]
    · have ht84 : t < 84 := by omega
      have hRl := Rw_lt σ M h t
      rw [if_neg (nle (by omega) (by omega) q), gLet_s, nI_mul, nI_add, gG_in (n := 840) (by omega) (by omega), gLet_s, nI_clamp (by omega), show h * 84 + t = 84 * h + t by omega, o4 h hh tg t ht84, nI_add]
      have next : ¬ (Rw σ M h t ≠ 0 ∧ sb (Rw σ M h t) s ∧ fdO σ M (9 - h) (mn s (Rw σ M h t)) + 1 = F) → go (nI (t + 1)) w1 = some (nI c, w1) := fun hn => by
        have : t ≠ c := fun z => by
          subst z
          exact hn (c3.resolve_left (by omega))
        exact ih (c - (t + 1)) _ _ (by omega) ⟨t + 1, by omega, rfl, rfl, rfl⟩
      by_cases r0 : Rw σ M h t = 0
      · rw [if_pos (by rw [r0])]
        exact next (fun z => z.1 r0)
      · rw [if_neg (fun z => r0 ((nI_eq (by omega) (by omega)).mp z)), nI_mn]
        have hmnl2 := sb_le (mn_sb (Rw σ M h t) s)
        by_cases r1 : sb (Rw σ M h t) s
        · rw [if_pos (by rw [mn_0.mpr r1]), nI_add, nI_xor, mn_x r1, x_fewest hA (by omega) (hmnl _), gBi_s, x_fewest hA (by omega) hsl, gBi_s, hA1 _ (hmnl _), hA0, nI_add]
          have := hGv _ (hmnl (Rw σ M h t))
          by_cases r2 : fdO σ M (9 - h) (mn s (Rw σ M h t)) + 1 = F
          · rw [if_pos (by rw [r2])]
            have : t = c := by
              apply Classical.byContradiction
              intro z
              exact c2 t (by omega) ⟨r0, r1, r2⟩
            rw [this]
          · rw [if_neg (fun z => r2 ((nI_eq (by omega) (by omega)).mp z))]
            exact next (fun z => r2 z.2.2)
        · rw [if_neg (fun z => r1 (mn_0.mp ((nI_eq (by omega) (by omega)).mp z)))]
          exact next (fun z => r1 z.2.1)
  · unfold xX10_leastCode
    rw [gLet_s, m_isGhost _ hh, gBi_s, ifb, o5, if_pos tg]
    refine gW1_ind (fun (t : Option (Int32 × gT)) => t = some (nI c, v)) (fun q x w1 => ∃ t, t ≤ c ∧ x = nI t ∧ q = c - t ∧ w1 = v) ?_ N c _ v (by omega) ⟨0, by omega, rfl, rfl, rfl⟩
    rintro q go x w1 ⟨t, ht, rfl, rfl, rfl⟩ ih
    unfold xX10_leastCode_b15
    have hidx : 1024 * h + m < 11264 := by omega
    by_cases q : 84 ≤ t
    · have hc : c = 84 := by omega
      have ht : t = 84 := by omega
      subst ht
      have e84 : w1.1 33 (1024 * (h + 1) + m) = nI F := by
        have := o7 (9 - h) (by omega) m hm hsb
        rw [show 10 - (9 - h) = h + 1 by omega, ← hs, ← hG84 hc, big_n (by omega)] at this
        exact this
      rw [once84 hh hm e84, gBi_s, nI_mul, nI_add, gG_in (n := 11264) hidx (by omega), nI_clamp (by omega), h33, if_pos rfl, hc]
    · have ht84 : t < 84 := by omega
      have hRl := Rw_lt σ M h t
      have hRs : sb (Rw σ M h t) M := Rw_sb hM
      rw [onceT hh ht84 hm hRl (o6 h hh tg t ht84), gBi_s, nI_mul, nI_add, gG_in (n := 11264) hidx (by omega), nI_clamp (by omega), h33, gLet_s, nI_add]
      have fin : ∀ y : Int32, (y = nI F ↔ (Rw σ M h t ≠ 0 ∧ sb (Rw σ M h t) s ∧ fdO σ M (9 - h) (mn s (Rw σ M h t)) + 1 = F)) → (if y = nI F then some (nI t, w1) else go (nI (t + 1)) w1) = some (nI c, w1) := fun y hy => by
        by_cases z : y = nI F
        · have : t = c := by
            apply Classical.byContradiction
            intro z2
            exact c2 t (by omega) (hy.mp z)
          rw [if_pos z, this]
        · have : t ≠ c := fun z2 => by
            subst z2
            exact z (hy.mpr (c3.resolve_left (by omega)))
          rw [if_neg z]
          exact ih (c - (t + 1)) _ _ (by omega) ⟨t + 1, by omega, rfl, rfl, rfl⟩
      refine fin _ ?_
      by_cases d : Rw σ M h t &&& m = 0
      · have hds : sb (Rw σ M h t) s := by rw [hs]; exact (dis_sb hRs).mp d
        have hcl : m ||| Rw σ M h t < 1024 := Nat.or_lt_two_pow (n := 10) hm hRl
        have hval := o7 (9 - h) (by omega) (m ||| Rw σ M h t) hcl (or_sb hsb hRs)
        rw [show 10 - (9 - h) = h + 1 by omega, mn_mn, ← hs] at hval
        have hx := hGv _ (hmnl (Rw σ M h t))
        have hxb := big_le hx (by omega)
        rw [if_pos d, hval, nI_add, nI_eq (by omega) (by omega)]
        constructor
        · intro z
          have hx15 : fdO σ M (9 - h) (mn s (Rw σ M h t)) ≠ 15 := fun y => by
            rw [y, big_15] at z
            omega
          rw [big_n hx15] at z
          refine ⟨fun r0 => ?_, hds, z⟩
          have e : mn s (Rw σ M h t) = s := by
            rw [r0]
            apply Nat.eq_of_testBit_eq
            intro i
            rw [mn_tb, Nat.zero_testBit, Bool.not_false, Bool.and_true]
          rw [e] at z
          omega
        · rintro ⟨-, -, z⟩
          rw [big_n (by omega), z]
      · rw [if_neg d, nI_eq (by omega) (by omega)]
        exact ⟨fun z => by omega, fun z => absurd ((dis_sb hRs).mpr (by rw [← hs]; exact z.2.1)) d⟩
  · obtain ⟨z1, z2, z3⟩ := c3.resolve_left (by omega)
    exact ⟨z2, by omega⟩
  · rw [← hG84 hc]
    omega
