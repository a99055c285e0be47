theorem bn_tb {P : Nat → Prop} [DecidablePred P] (k p : Nat) : (bn P k).testBit p = decide (p < k ∧ P p) := by
  rw [Nat.testBit_eq_decide_div_mod_eq]
  exact decide_eq_decide.mpr (bn_bit k)
theorem bn_or {P : Nat → Prop} [DecidablePred P] {g n : Nat} (hg : g < n) : bn P n ||| 2 ^ g = bn (fun i => P i ∨ i = g) n := by
  refine Nat.eq_of_testBit_eq fun i => ?_
  rw [Nat.testBit_or, bn_tb, bn_tb, Nat.testBit_two_pow, ← Bool.decide_or]
  refine decide_eq_decide.mpr ⟨?_, ?_⟩
  · rintro (⟨h1, h2⟩ | h)
    · exact ⟨h1, Or.inl h2⟩
    · exact ⟨by omega, Or.inr h.symm⟩
  · rintro ⟨h1, h2 | h2⟩
    · exact Or.inl ⟨h1, h2⟩
    · exact Or.inr h2.symm
theorem m_has (v : Nat) {p : Nat} (hv : v < 2 ^ 30) (hp : p < 32) (w : gT) : xX10_has (nI v) (nI p) w = some (b2i (v / 2 ^ p % 2 = 1), w) := by
  have h := tol_iff (v := v) (p := p) hv hp
  unfold xX10_has
  by_cases t : tol (nI v) p
  · rw [b2i_t (h.mp t)]
    exact if_pos t
  · rw [b2i_f (fun z => t (h.mpr z))]
    exact if_neg t
/-- sums of f over P -/
def sI (f : Nat → Int32) (P : Nat → Prop) [DecidablePred P] : Nat → Int32
  | 0 => nI 0
  | k + 1 => sI f P k + (if P k then f k else nI 0)
theorem add0 (x : Int32) : x + nI 0 = x := Int32.add_zero x
theorem sI_congr {f : Nat → Int32} {P Q : Nat → Prop} [DecidablePred P] [DecidablePred Q] : ∀ k, (∀ i, i < k → (P i ↔ Q i)) → sI f P k = sI f Q k
  | 0, _ => rfl
  | k + 1, h => by
    show sI f P k + _ = sI f Q k + _
    rw [sI_congr k (fun i hi => h i (by omega))]
    by_cases a : P k
    · rw [if_pos a, if_pos ((h k (by omega)).mp a)]
    · rw [if_neg a, if_neg (fun z => a ((h k (by omega)).mpr z))]
theorem sI_ins {f : Nat → Int32} {P : Nat → Prop} [DecidablePred P] {g : Nat} (hP : ¬ P g) : ∀ k, g < k → sI f (fun i => P i ∨ i = g) k = sI f P k + f g
  | 0, h => by omega
  | k + 1, h => by
    show sI f (fun i => P i ∨ i = g) k + _ = sI f P k + _ + f g
    by_cases e : k = g
    · subst e
      rw [sI_congr (P := fun i => P i ∨ i = k) (Q := P) k (fun i hi => ⟨fun z => z.resolve_right (by omega), Or.inl⟩), if_pos (Or.inr rfl), if_neg hP, add0]
    · rw [sI_ins hP k (by omega), Int32.add_assoc, Int32.add_comm (f g), ← Int32.add_assoc]
      by_cases a : P k
      · rw [if_pos a, if_pos (Or.inl a)]
      · rw [if_neg a, if_neg (fun z => z.elim a e)]
/-- the ghosts that go to room r in one of the first k walks -/
abbrev spIn (σ : sT) (r k g : Nat) : Prop := ∃ i, i < k ∧ wr σ i = r ∧ spGone σ i ∧ wg σ i = g
def spCold (σ : sT) (r : Nat) : Int32 := sI (σ.1 7) (spIn σ r (spW σ.1)) 10
theorem spIn_s {σ : sT} {r k g : Nat} : spIn σ r (k + 1) g ↔ spIn σ r k g ∨ (wr σ k = r ∧ spGone σ k ∧ wg σ k = g) := by
  constructor
  · rintro ⟨i, h1, h2⟩
    by_cases e : i = k
    · subst e; exact Or.inr h2
    · exact Or.inl ⟨i, by omega, h2⟩
  · rintro (⟨i, h1, h2⟩ | h)
    · exact ⟨i, by omega, h2⟩
    · exact ⟨k, by omega, h⟩
theorem x_coldOf {N : Nat} (hN : 5000 ≤ N) {σ : sT} {w : gT} (hE : EncX N σ w) (hR : Rng σ) {r : Nat} (hr : r < 12) : xX7_coldOf N (nI r) w = some (spCold σ r, w) := by
  obtain ⟨hW0, hW⟩ := spW_le hR
  unfold xX7_coldOf spCold
  refine gW3_ind (fun t => t = some (sI (σ.1 7) (spIn σ r (spW σ.1)) 10, w)) (fun m a b c w1 => ∃ i, i ≤ spW σ.1 ∧ a = nI (bn (spIn σ r i) 10) ∧ b = sI (σ.1 7) (spIn σ r i) 10 ∧ c = nI i ∧ m = spW σ.1 - i ∧ w1 = w) ?_ N (spW σ.1) _ _ _ w (by omega) ⟨0, by omega, ?_, ?_, rfl, rfl, rfl⟩
  · rintro m go a b c w1 ⟨i, hi, rfl, rfl, rfl, rfl, rfl⟩ ih
    unfold xX7_coldOf_b8
    rw [hE.1 21 rfl, hW0]
    by_cases q : spW σ.1 ≤ i
    · rw [if_pos (yle (by omega) (by omega) q)]
      have : i = spW σ.1 := by omega
      rw [this]
    · have hi2 : i < spW σ.1 := by omega
      obtain ⟨g1, g2, g3, g4, g5, g6, -⟩ := wk_at hR hi2
      rw [if_neg (nle (by omega) (by omega) q), gLet_s, gG_in (by omega) (by omega), gLet_s, gG_in (by omega) (by omega), nI_clamp (by omega), hE.1 22 rfl, hE.1 24 rfl, g1, g5, nI_add]
      try dsimp only
      have no : ¬ (wr σ i = r ∧ spGone σ i) → go (nI (bn (spIn σ r i) 10)) (sI (σ.1 7) (spIn σ r i) 10) (nI (i + 1)) w1 = some (sI (σ.1 7) (spIn σ r (spW σ.1)) 10, w1) := fun hne => by
        have e : ∀ g, g < 10 → (spIn σ r i g ↔ spIn σ r (i + 1) g) := fun g _ => ⟨fun z => spIn_s.mpr (Or.inl z), fun z => (spIn_s.mp z).resolve_right (fun y => hne ⟨y.1, y.2.1⟩)⟩
        exact ih (spW σ.1 - (i + 1)) _ _ _ _ (by omega) ⟨i + 1, by omega, by rw [bn_congr 10 e], sI_congr 10 e, rfl, rfl, rfl⟩
      by_cases c1 : nI (wr σ i) = nI r
      · have c1n : wr σ i = r := (nI_eq (by omega) (by omega)).mp c1
        rw [if_pos c1, x_isGone hE hR hi2, gBi_s, ifb]
        by_cases c2 : spGone σ i
        · rw [if_pos c2]
          have hl := bn_lt (spIn σ r i) 10
          rw [bit_nI (by omega) (by omega)]
          have hb := bn_bit (P := spIn σ r i) (p := wg σ i) 10
          have hbl := bit_lt (bn (spIn σ r i) 10) (wg σ i)
          by_cases c3 : spIn σ r i (wg σ i)
          · have e1 : bn (spIn σ r i) 10 / 2 ^ wg σ i % 2 = 1 := hb.mpr ⟨g2, c3⟩
            rw [e1, if_neg nI_10]
            have e : ∀ g, g < 10 → (spIn σ r i g ↔ spIn σ r (i + 1) g) := fun g _ => ⟨fun z => spIn_s.mpr (Or.inl z), fun z => by
              rcases spIn_s.mp z with y | ⟨-, -, y⟩
              · exact y
              · rw [← y]; exact c3⟩
            exact ih (spW σ.1 - (i + 1)) _ _ _ _ (by omega) ⟨i + 1, by omega, by rw [bn_congr 10 e], sI_congr 10 e, rfl, rfl, rfl⟩
          · have e0 : bn (spIn σ r i) 10 / 2 ^ wg σ i % 2 = 0 := by
              have : ¬ bn (spIn σ r i) 10 / 2 ^ wg σ i % 2 = 1 := fun z => c3 (hb.mp z).2
              omega
            rw [e0, if_pos rfl, gLet_s, gG_in g2 (by omega), gLet_s, nI_clamp (by omega), hE.1 7 rfl, shl1 g2, nI_or, bn_or g2]
            have e : ∀ g, g < 10 → ((spIn σ r i g ∨ g = wg σ i) ↔ spIn σ r (i + 1) g) := fun g _ => by
              rw [spIn_s]
              constructor
              · rintro (z | z)
                · exact Or.inl z
                · exact Or.inr ⟨c1n, c2, z.symm⟩
              · rintro (z | ⟨-, -, z⟩)
                · exact Or.inl z
                · exact Or.inr z.symm
            exact ih (spW σ.1 - (i + 1)) _ _ _ _ (by omega) ⟨i + 1, by omega, by rw [bn_congr 10 e], by rw [← sI_ins c3 10 g2, sI_congr 10 e], rfl, rfl, rfl⟩
        · rw [if_neg c2]
          exact no (fun z => c2 z.2)
      · rw [if_neg c1]
        exact no (fun z => c1 (by rw [z.1]))
  · have e : ∀ g, g < 10 → (spIn σ r 0 g ↔ False) := fun g _ => ⟨fun ⟨i, h, _⟩ => by omega, False.elim⟩
    rw [bn_congr (Q := fun _ => False) 10 e, bn_stop (P := fun _ => False) (p := 0) 10 (by omega) (fun q _ _ hq => hq)]
    rfl
  · have e : ∀ g, g < 10 → (spIn σ r 0 g ↔ False) := fun g _ => ⟨fun ⟨i, h, _⟩ => by omega, False.elim⟩
    rw [sI_congr (Q := fun _ => False) 10 e]
    rfl
theorem m_coldIn {N : Nat} (hN : 5000 ≤ N) {σ : sT} {w : gT} (hE : EncM N σ w) (hR : Rng σ) {r : Nat} (hr : r < 12) : xX10_coldIn N (nI r) w = some (spCold σ r, w) := by
  obtain ⟨hW0, hW⟩ := spW_le hR
  unfold xX10_coldIn spCold
  rw [gLet_s]
  have fin : gW2 (xX10_coldIn_b52 N (nI (bn (spIn σ r (spW σ.1)) 10))) N (nI 0) (nI 0) w = some (sI (σ.1 7) (spIn σ r (spW σ.1)) 10, w) := by
    have hl := bn_lt (spIn σ r (spW σ.1)) 10
    refine gW2_ind (fun t => t = some (sI (σ.1 7) (spIn σ r (spW σ.1)) 10, w)) (fun m a b w1 => ∃ k, k ≤ 10 ∧ a = sI (σ.1 7) (spIn σ r (spW σ.1)) k ∧ b = nI k ∧ m = 10 - k ∧ w1 = w) ?_ N 10 _ _ w (by omega) ⟨0, by omega, rfl, rfl, rfl, rfl⟩
    rintro m go a b w1 ⟨k, hk, rfl, rfl, rfl, rfl⟩ ih
    unfold xX10_coldIn_b52
    by_cases q : 10 ≤ k
    · rw [if_pos (yle (by omega) (by omega) q)]
      have : k = 10 := by omega
      rw [this]
    · have hb := bn_bit (P := spIn σ r (spW σ.1)) (p := k) 10
      rw [if_neg (nle (by omega) (by omega) q), gLet_s, m_has _ (by omega) (by omega), gBi_s, ifb, gG_in (by omega) (by omega), nI_clamp (by omega), hE.a.2.2.2.2.2.1]
      try dsimp only
      simp only [gLet_s]
      rw [nI_add]
      by_cases c : spIn σ r (spW σ.1) k
      · rw [if_pos (hb.mpr ⟨by omega, c⟩)]
        refine ih (10 - (k + 1)) _ _ _ (by omega) ⟨k + 1, by omega, ?_, rfl, rfl, rfl⟩
        show _ = sI (σ.1 7) (spIn σ r (spW σ.1)) k + _
        rw [if_pos c]
      · rw [if_neg (fun z => c (hb.mp z).2)]
        refine ih (10 - (k + 1)) _ _ _ (by omega) ⟨k + 1, by omega, ?_, rfl, rfl, rfl⟩
        show _ = sI (σ.1 7) (spIn σ r (spW σ.1)) k + _
        rw [if_neg c]
  refine gW2_ind (fun t => t = some (sI (σ.1 7) (spIn σ r (spW σ.1)) 10, w)) (fun m a b w1 => ∃ i, i ≤ spW σ.1 ∧ a = nI (bn (spIn σ r i) 10) ∧ b = nI i ∧ m = spW σ.1 - i ∧ w1 = w) ?_ N (spW σ.1) _ _ w (by omega) ⟨0, by omega, ?_, rfl, rfl, rfl⟩
  · rintro m go a b w1 ⟨i, hi, rfl, rfl, rfl, rfl⟩ ih
    unfold xX10_coldIn_b4
    rw [hE.wk, hW0]
    by_cases q : spW σ.1 ≤ i
    · rw [if_pos (yle (by omega) (by omega) q)]
      have : i = spW σ.1 := by omega
      subst this
      exact fin
    · have hi2 : i < spW σ.1 := by omega
      obtain ⟨g1, g2, g3, g4, g5, g6, -⟩ := wk_at hR hi2
      obtain ⟨y1, y2, y3, -⟩ := hE.wl i hi2
      rw [if_neg (nle (by omega) (by omega) q), gLet_s, gG_in (by omega) (by omega), nI_clamp (by omega), y3, g5, nI_add]
      try dsimp only
      have no : ¬ (wr σ i = r ∧ spGone σ i) → go (nI (bn (spIn σ r i) 10)) (nI (i + 1)) w1 = some (sI (σ.1 7) (spIn σ r (spW σ.1)) 10, w1) := fun hne => by
        have e : ∀ g, g < 10 → (spIn σ r i g ↔ spIn σ r (i + 1) g) := fun g _ => ⟨fun z => spIn_s.mpr (Or.inl z), fun z => (spIn_s.mp z).resolve_right (fun y => hne ⟨y.1, y.2.1⟩)⟩
        exact ih (spW σ.1 - (i + 1)) _ _ _ (by omega) ⟨i + 1, by omega, by rw [bn_congr 10 e], rfl, rfl, rfl⟩
      by_cases c1 : nI (wr σ i) = nI r
      · have c1n : wr σ i = r := (nI_eq (by omega) (by omega)).mp c1
        rw [if_pos c1, m_counts hN hE hR hi2, gBi_s, ifb]
        by_cases c2 : spGone σ i
        · rw [if_pos c2, gG_in (by omega) (by omega), gLet_s, y1, g1, shl1 g2, nI_or, bn_or g2]
          have e : ∀ g, g < 10 → ((spIn σ r i g ∨ g = wg σ i) ↔ spIn σ r (i + 1) g) := fun g _ => by
            rw [spIn_s]
            constructor
            · rintro (z | z)
              · exact Or.inl z
              · exact Or.inr ⟨c1n, c2, z.symm⟩
            · rintro (z | ⟨-, -, z⟩)
              · exact Or.inl z
              · exact Or.inr z.symm
          exact ih (spW σ.1 - (i + 1)) _ _ _ (by omega) ⟨i + 1, by omega, by rw [bn_congr 10 e], rfl, rfl, rfl⟩
        · rw [if_neg c2]
          exact no (fun z => c2 z.2)
      · rw [if_neg c1]
        exact no (fun z => c1 (by rw [z.1]))
  · have e : ∀ g, g < 10 → (spIn σ r 0 g ↔ False) := fun g _ => ⟨fun ⟨i, h, _⟩ => by omega, False.elim⟩
    rw [bn_congr (Q := fun _ => False) 10 e, bn_stop (P := fun _ => False) (p := 0) 10 (by omega) (fun q _ _ hq => hq)]
    rfl
