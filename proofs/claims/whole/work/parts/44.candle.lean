/-- a mask of those below k that P holds for -/
def bn (P : Nat → Prop) [DecidablePred P] : Nat → Nat
  | 0 => 0
  | k + 1 => bn P k + (if P k then 2 ^ k else 0)
theorem bn_lt (P : Nat → Prop) [DecidablePred P] : ∀ k, bn P k < 2 ^ k
  | 0 => by unfold bn; omega
  | k + 1 => by
    have h := bn_lt P k
    show bn P k + _ < 2 ^ (k + 1)
    rw [Nat.pow_succ]
    split <;> omega
theorem bn_t {P : Nat → Prop} [DecidablePred P] {k : Nat} (h : P k) : bn P (k + 1) = bn P k + 2 ^ k := by
  show bn P k + _ = _
  rw [if_pos h]
theorem bn_f {P : Nat → Prop} [DecidablePred P] {k : Nat} (h : ¬ P k) : bn P (k + 1) = bn P k := by
  show bn P k + _ = _
  rw [if_neg h]
  rfl
theorem bn_congr {P Q : Nat → Prop} [DecidablePred P] [DecidablePred Q] : ∀ k, (∀ p, p < k → (P p ↔ Q p)) → bn P k = bn Q k
  | 0, _ => rfl
  | k + 1, h => by
    have e := bn_congr (P := P) (Q := Q) k (fun p hp => h p (by omega))
    by_cases a : P k
    · rw [bn_t a, bn_t ((h k (by omega)).mp a), e]
    · rw [bn_f a, bn_f (fun z => a ((h k (by omega)).mpr z)), e]
theorem bn_step {P : Nat → Prop} [DecidablePred P] {k : Nat} (hk : k < 10) : nI (bn P k) ||| gShl (nI 1) (nI k) = nI (bn P k + 2 ^ k) := by
  have h := Nat.two_pow_add_eq_or_of_lt (bn_lt P k) 1
  rw [Nat.mul_one] at h
  rw [shl1 hk, nI_or, Nat.or_comm, ← h, Nat.add_comm]
theorem bn_bit {P : Nat → Prop} [DecidablePred P] {p : Nat} : ∀ k, (bn P k / 2 ^ p % 2 = 1 ↔ p < k ∧ P p)
  | 0 => by
    show 0 / 2 ^ p % 2 = 1 ↔ _
    rw [Nat.zero_div]
    constructor
    · intro h; omega
    · intro h; omega
  | k + 1 => by
    have ih := bn_bit (P := P) (p := p) k
    have hl := bn_lt P k
    have hp : 0 < 2 ^ p := Nat.two_pow_pos p
    by_cases a : P k
    · rw [bn_t a]
      rcases Nat.lt_trichotomy p k with h | h | h
      · obtain ⟨d, rfl⟩ : ∃ d, k = p + 1 + d := ⟨k - (p + 1), by omega⟩
        have e : 2 ^ (p + 1 + d) = 2 ^ p * (2 * 2 ^ d) := by rw [Nat.pow_add, Nat.pow_succ, Nat.mul_assoc]
        rw [e, Nat.add_mul_div_left _ _ hp, Nat.add_mul_mod_self_left]
        rw [ih]
        constructor
        · rintro ⟨-, h2⟩; exact ⟨by omega, h2⟩
        · rintro ⟨-, h2⟩; exact ⟨by omega, h2⟩
      · subst h
        have e : bn P p + 2 ^ p = bn P p + 2 ^ p * 1 := by rw [Nat.mul_one]
        rw [e, Nat.add_mul_div_left _ _ hp, Nat.div_eq_of_lt hl]
        exact ⟨fun _ => ⟨by omega, a⟩, fun _ => rfl⟩
      · have h2 : bn P k + 2 ^ k < 2 ^ p := by
          have h3 : 2 ^ (k + 1) ≤ 2 ^ p := Nat.pow_le_pow_right (by omega) h
          rw [Nat.pow_succ] at h3
          omega
        rw [Nat.div_eq_of_lt h2]
        constructor
        · intro h; omega
        · intro h; omega
    · rw [bn_f a, ih]
      constructor
      · rintro ⟨h1, h2⟩; exact ⟨by omega, h2⟩
      · rintro ⟨h1, h2⟩
        have : p ≠ k := fun z => a (z ▸ h2)
        exact ⟨by omega, h2⟩
theorem bn_tol {P : Nat → Prop} [DecidablePred P] {p : Nat} (hp : p < 10) : tol (nI (bn P 10)) p ↔ P p := by
  have h := bn_lt P 10
  rw [tol_iff (by omega) (by omega), bn_bit]
  exact ⟨fun z => z.2, fun z => ⟨hp, z⟩⟩
theorem bn_stop {P : Nat → Prop} [DecidablePred P] {p : Nat} : ∀ k, p ≤ k → (∀ q, p ≤ q → q < k → ¬ P q) → bn P k = bn P p
  | 0, h, _ => by rw [show p = 0 by omega]
  | k + 1, h, hn => by
    by_cases e : p = k + 1
    · rw [e]
    · rw [bn_f (hn k (by omega) (by omega))]
      exact bn_stop k (by omega) (fun q h1 h2 => hn q h1 (by omega))
abbrev spP1 (σ : sT) (g n q : Nat) : Prop := tol (σ.1 1 9) q ∧ σ.1 3 (n * 10 + q) ≠ nI 255 ∧ spFV σ g q n (nI 0) ≠ (-2)
abbrev spP2 (σ : sT) (g n r q : Nat) : Prop := tol (σ.1 1 9) q ∧ spFO σ g q n r (nI 0) ≠ (-2)
theorem spP_eq {σ : sT} (hR : Rng σ) {g n r q : Nat} (hq : q < 10) (hn : n < 7) (hr : r < 12) : (spP1 σ g n q ∧ spNear σ g q n r) ↔ spP2 σ g n r q := by
  unfold spP1 spP2 spFO
  constructor
  · rintro ⟨⟨h1, h2, h3⟩, h4⟩
    rw [if_pos h4]
    exact ⟨h1, h3⟩
  · rintro ⟨h1, h2⟩
    by_cases h4 : spNear σ g q n r
    · rw [if_pos h4] at h2
      obtain ⟨b1, b2⟩ := spBed_lt hR (g := g) hq hn hr h4
      refine ⟨⟨h1, fun z => ?_, h2⟩, h4⟩
      rw [b2] at z
      have := (nI_eq (show spBed σ q n < 2 ^ 31 by omega) (show 255 < 2 ^ 31 by omega)).mp z
      omega
    · rw [if_neg h4] at h2
      exact absurd rfl h2
theorem x_frightenedBy {N : Nat} (hN : 5000 ≤ N) {σ : sT} {w : gT} (hE : EncX N σ w) (hR : Rng σ) {g n : Nat} (hg : g < 10) (hn : n < 7) : ∃ w', xX1_frightenedBy N (nI g) (nI n) (σ.1 1 9) w = some (nI (bn (spP1 σ g n) 10), w') ∧ SmC [39, 49] w w' := by
  unfold xX1_frightenedBy
  refine gW2_ind (fun t => ∃ w', t = some (nI (bn (spP1 σ g n) 10), w') ∧ SmC [39, 49] w w') (fun m a b w1 => ∃ q, q ≤ 10 ∧ a = nI (bn (spP1 σ g n) q) ∧ b = nI q ∧ m = 10 - q ∧ SmC [39, 49] w w1) ?_ N 10 _ _ w (by omega) ⟨0, by omega, rfl, rfl, rfl, SmC.rf⟩
  rintro m go a b w1 ⟨q, hq, rfl, rfl, rfl, hs⟩ ih
  have hE1 : EncX N σ w1 := hE.sm (hs.toX rfl)
  unfold xX1_frightenedBy_b6
  by_cases h : 10 ≤ q
  · rw [if_pos (yle (by omega) (by omega) h)]
    have : q = 10 := by omega
    subst this
    exact ⟨w1, rfl, hs⟩
  · rw [if_neg (nle (by omega) (by omega) h)]
    simp only [gLet_s, nI_10, ↓reduceIte]
    rw [nI_mul]
    simp only [nI_add]
    rw [gG_in (by omega) (by omega), nI_clamp (by omega), hE1.1 3 rfl]
    have no : ¬ spP1 σ g n q → ∃ w', go (nI (bn (spP1 σ g n) q)) (nI (q + 1)) w1 = some (nI (bn (spP1 σ g n) 10), w') ∧ SmC [39, 49] w w' := fun hne => ih (10 - (q + 1)) _ _ _ (by omega) ⟨q + 1, by omega, by rw [bn_f hne], rfl, rfl, hs⟩
    by_cases t : tol (σ.1 1 9) q
    · rw [if_pos t]
      by_cases b : σ.1 3 (n * 10 + q) = nI 255
      · rw [if_pos b]
        exact no (fun z => z.2.1 b)
      · rw [if_neg b]
        obtain ⟨r, hr, er⟩ := (hR.1.2.1 (n * 10 + q) (by omega)).resolve_right b
        have er : σ.1 3 (n * 10 + q) = nI r := er
        have ebd : spBed σ q n = r := by
          unfold spBed
          rw [er, nI_clamp (by omega)]
        have efo : spFO σ g q n r (nI 0) = spFV σ g q n (nI 0) := by
          unfold spFO
          rw [if_pos (Or.inl ebd.symm)]
        rw [er]
        obtain ⟨w2, e2, s2⟩ := x_frightOf hN hE1 hR hg (show q < 10 by omega) hn hr (nI 0)
        rw [e2, gBi_s, efo]
        by_cases f : spFV σ g q n (nI 0) = (-2)
        · rw [if_pos f]
          exact ih (10 - (q + 1)) _ _ _ (by omega) ⟨q + 1, by omega, by rw [bn_f (fun z => z.2.2 f)], rfl, rfl, hs.tr s2⟩
        · rw [if_neg f, bn_step (by omega)]
          exact ih (10 - (q + 1)) _ _ _ (by omega) ⟨q + 1, by omega, by rw [bn_t ⟨t, b, f⟩], rfl, rfl, hs.tr s2⟩
    · rw [if_neg t]
      exact no (fun z => t z.1)
theorem x_within {N : Nat} (hN : 5000 ≤ N) {σ : sT} {w : gT} (hE : EncX N σ w) (hR : Rng σ) {g n r : Nat} (hg : g < 10) (hn : n < 7) (hr : r < 12) (P : Nat → Prop) [DecidablePred P] : xX1_within N (nI g) (nI n) (nI r) (nI (bn P 10)) w = some (nI (bn (fun q => P q ∧ spNear σ g q n r) 10), w) := by
  have hl := bn_lt P 10
  unfold xX1_within
  refine gW2_ind (fun t => t = some (nI (bn (fun q => P q ∧ spNear σ g q n r) 10), w)) (fun m a b w1 => ∃ q, q ≤ 10 ∧ a = nI (bn (fun q => P q ∧ spNear σ g q n r) q) ∧ b = nI q ∧ m = 10 - q ∧ w1 = w) ?_ N 10 _ _ w (by omega) ⟨0, by omega, rfl, rfl, rfl, rfl⟩
  rintro m go a b w1 ⟨q, hq, rfl, rfl, rfl, rfl⟩ ih
  unfold xX1_within_b6
  by_cases h : 10 ≤ q
  · rw [if_pos (yle (by omega) (by omega) h)]
    have : q = 10 := by omega
    subst this
    rfl
  · rw [if_neg (nle (by omega) (by omega) h)]
    have hbit := bn_tol (P := P) (p := q) (by omega)
    by_cases z : gShr (nI (bn P 10)) (nI q) = nI 0
    · rw [if_pos z]
      rw [shr_nI (by omega) (by omega)] at z
      have hd : bn P 10 / 2 ^ q ≤ bn P 10 := Nat.div_le_self _ _
      have z0 : bn P 10 / 2 ^ q = 0 := (nI_eq (by omega) (by omega)).mp z
      have hlt : bn P 10 < 2 ^ q := (Nat.div_eq_zero_iff.mp z0).resolve_left (by have := Nat.two_pow_pos q; omega)
      rw [bn_stop 10 (by omega) (fun p h1 h2 hp => ?_)]
      have hb := (bn_bit (P := P) (p := p) 10).mpr ⟨h2, hp.1⟩
      have hle : 2 ^ q ≤ 2 ^ p := Nat.pow_le_pow_right (by omega) h1
      rw [Nat.div_eq_of_lt (by omega)] at hb
      omega
    · rw [if_neg z, gLet_s]
      try dsimp only
      rw [nI_add, x_isNear hE hR hg (show q < 10 by omega) hn hr, gBi_s, ifb]
      by_cases t : tol (nI (bn P 10)) q
      · rw [if_pos t]
        have hp := hbit.mp t
        by_cases nr : spNear σ g q n r
        · rw [if_pos nr, gLet_s]
          rw [bn_step (by omega)]
          exact ih (10 - (q + 1)) _ _ _ (by omega) ⟨q + 1, by omega, by rw [bn_t (P := fun q => P q ∧ spNear σ g q n r) ⟨hp, nr⟩], rfl, rfl, rfl⟩
        · rw [if_neg nr]
          exact ih (10 - (q + 1)) _ _ _ (by omega) ⟨q + 1, by omega, by rw [bn_f (P := fun q => P q ∧ spNear σ g q n r) (fun z => nr z.2)], rfl, rfl, rfl⟩
      · rw [if_neg t]
        exact ih (10 - (q + 1)) _ _ _ (by omega) ⟨q + 1, by omega, by rw [bn_f (P := fun q => P q ∧ spNear σ g q n r) (fun z => t (hbit.mpr z.1))], rfl, rfl, rfl⟩
theorem m_frightened {N : Nat} (hN : 5000 ≤ N) {σ : sT} {w : gT} (hE : EncM N σ w) (hR : Rng σ) {g n r : Nat} (hg : g < 10) (hn : n < 7) (hr : r < 12) : ∃ w', xX10_frightened N (nI g) (nI n) (nI r) w = some (nI (bn (spP2 σ g n r) 10), w') ∧ SmC [29, 30] w w' := by
  unfold xX10_frightened
  refine gW2_ind (fun t => ∃ w', t = some (nI (bn (spP2 σ g n r) 10), w') ∧ SmC [29, 30] w w') (fun m a b w1 => ∃ q, q ≤ 10 ∧ a = nI (bn (spP2 σ g n r) q) ∧ b = nI q ∧ m = 10 - q ∧ SmC [29, 30] w w1) ?_ N 10 _ _ w (by omega) ⟨0, by omega, rfl, rfl, rfl, SmC.rf⟩
  rintro m go a b w1 ⟨q, hq, rfl, rfl, rfl, hs⟩ ih
  have hE1 : EncM N σ w1 := hE.sm (hs.toM rfl)
  unfold xX10_frightened_b6
  by_cases h : 10 ≤ q
  · rw [if_pos (yle (by omega) (by omega) h)]
    have : q = 10 := by omega
    subst this
    exact ⟨w1, rfl, hs⟩
  · rw [if_neg (nle (by omega) (by omega) h), gLet_s]
    try dsimp only
    rw [m_isSleeper _ (by omega), gBi_s, ifb, hE1.sl, nI_add]
    by_cases t : tol (σ.1 1 9) q
    · rw [if_pos t]
      obtain ⟨w2, e2, s2⟩ := m_frightOf hN hE1 hR hg (show q < 10 by omega) hn hr (ch := nI 0) ⟨0, by omega, rfl⟩
      rw [e2, gBi_s]
      by_cases f : spFO σ g q n r (nI 0) = (-2)
      · rw [if_pos f]
        exact ih (10 - (q + 1)) _ _ _ (by omega) ⟨q + 1, by omega, by rw [bn_f (fun z => z.2 f)], rfl, rfl, hs.tr s2⟩
      · rw [if_neg f, gLet_s, bn_step (by omega)]
        exact ih (10 - (q + 1)) _ _ _ (by omega) ⟨q + 1, by omega, by rw [bn_t ⟨t, f⟩], rfl, rfl, hs.tr s2⟩
    · rw [if_neg t]
      exact ih (10 - (q + 1)) _ _ _ (by omega) ⟨q + 1, by omega, by rw [bn_f (fun z => t z.1)], rfl, rfl, hs⟩
def ansC (R : Nat → Prop) [DecidablePred R] (M c : Int32) : Int32 := if c = nI 0 then nI (ctOf R 120) else if c = nI 3 then M else if ctOf R 120 = 0 then (-2) else if c = nI 1 then nI (fsOf R 120 / 12) else nI (fsOf R 120 % 12)
def msOf (R : Nat → Prop) [DecidablePred R] : Nat → Int32
  | 0 => nI 0
  | t + 1 => if R t then msOf R t ||| gShl (nI 1) (nI (t / 12)) else msOf R t
theorem ms_t {R : Nat → Prop} [DecidablePred R] {t : Nat} (h : R t) : msOf R (t + 1) = msOf R t ||| gShl (nI 1) (nI (t / 12)) := if_pos h
theorem ms_f {R : Nat → Prop} [DecidablePred R] {t : Nat} (h : ¬ R t) : msOf R (t + 1) = msOf R t := if_neg h
abbrev spCd (σ : sT) (n : Nat) (a : Int32) (t : Nat) : Prop := tol (σ.1 1 8) (t / 12) ∧ nI (bn (spP2 σ (t / 12) n (t % 12)) 10) = a
def fsX (R : Nat → Prop) [DecidablePred R] (t : Nat) : Int32 := if ctOf R t = 0 then (-1) else nI (fsOf R t)
theorem m_candle {N : Nat} (hN : 5000 ≤ N) {σ : sT} {w : gT} (hE : EncM N σ w) (hR : Rng σ) {n : Nat} (hn : n < 7) (a : Int32) (k5 : Int32 → Int32 → Int32 → gT → Option (Int32 × gT)) (Post : Option (Int32 × gT) → Prop) (hP : ∀ w', SmC [29, 30] w w' → Post (k5 (nI (ctOf (spCd σ n a) 120)) (fsX (spCd σ n a) 120) (msOf (spCd σ n a) 120) w')) : Post (gW4 (xX10_candle_b46 N (nI n) a k5) N (nI 0) (-1) (nI 0) (nI 0) w) := by
  refine gW4_ind Post (fun m x0 x1 x2 x3 w1 => ∃ t, t ≤ 120 ∧ x0 = nI (ctOf (spCd σ n a) t) ∧ x1 = fsX (spCd σ n a) t ∧ x2 = msOf (spCd σ n a) t ∧ x3 = nI t ∧ m = 120 - t ∧ SmC [29, 30] w w1) ?_ N 120 _ _ _ _ w (by omega) ⟨0, by omega, rfl, rfl, rfl, rfl, rfl, SmC.rf⟩
  rintro m go x0 x1 x2 x3 w1 ⟨t, ht, rfl, rfl, rfl, rfl, rfl, hs⟩ ih
  have hE1 : EncM N σ w1 := hE.sm (hs.toM rfl)
  have hfl := fs_lt (spCd σ n a) (n := 120) (by omega) t ht
  unfold xX10_candle_b46
  by_cases q : 120 ≤ t
  · rw [if_pos (yle (by omega) (by omega) q)]
    have : t = 120 := by omega
    subst this
    exact hP w1 hs
  · rw [if_neg (nle (by omega) (by omega) q), gLet_s, pk_div (by omega) (by omega) (by omega), gLet_s, m_isGhost _ (by omega), gBi_s, ifb, hE1.gh]
    simp only [nI_add]
    have no : ∀ w2, SmC [29, 30] w1 w2 → ¬ spCd σ n a t → Post (go (nI (ctOf (spCd σ n a) t)) (fsX (spCd σ n a) t) (msOf (spCd σ n a) t) (nI (t + 1)) w2) := fun w2 s2 hne => ih (120 - (t + 1)) _ _ _ _ _ (by omega) ⟨t + 1, by omega, by rw [ct_n hne], by unfold fsX; rw [ct_n hne, fs_n hne], by rw [ms_f hne], rfl, rfl, hs.tr s2⟩
    by_cases g : tol (σ.1 1 8) (t / 12)
    · rw [if_pos g, nI_rem (by omega) (by omega) (by omega)]
      obtain ⟨w2, e2, s2⟩ := m_frightened hN hE1 hR (show t / 12 < 10 by omega) hn (show t % 12 < 12 by omega)
      rw [e2, gBi_s]
      by_cases e : nI (bn (spP2 σ (t / 12) n (t % 12)) 10) = a
      · rw [if_pos e, gLet_s]
        simp only [gLet_s]
        have hy : spCd σ n a t := ⟨g, e⟩
        have key : ∀ x, x = fsX (spCd σ n a) (t + 1) → Post (go (nI (ctOf (spCd σ n a) t + 1)) x (msOf (spCd σ n a) t ||| gShl (nI 1) (nI (t / 12))) (nI (t + 1)) w2) := by
          rintro x rfl
          exact ih (120 - (t + 1)) _ _ _ _ _ (by omega) ⟨t + 1, by omega, by rw [ct_s hy], rfl, by rw [ms_t hy], rfl, rfl, hs.tr s2⟩
        have e1 : fsX (spCd σ n a) (t + 1) = nI (fsOf (spCd σ n a) (t + 1)) := by
          unfold fsX
          rw [if_neg (by rw [ct_s hy]; omega)]
        by_cases z : ctOf (spCd σ n a) t = 0
        · have e0 : fsX (spCd σ n a) t = (-1) := if_pos z
          rw [if_pos e0]
          exact key _ (by rw [e1, fs_0 hy z])
        · have e0 : fsX (spCd σ n a) t = nI (fsOf (spCd σ n a) t) := if_neg z
          rw [e0, if_neg (nI_m1 (by omega))]
          exact key _ (by rw [e1, fs_1 z])
      · rw [if_neg e]
        exact no w2 s2 (fun z => e z.2)
    · rw [if_neg g]
      exact no w1 SmC.rf (fun z => g z.1)
theorem x_candle {N : Nat} (hN : 5000 ≤ N) {σ : sT} {w : gT} (hE : EncX N σ w) (hR : Rng σ) {n : Nat} (hn : n < 7) {a : Int32} (ha : a ≠ nI 0) (k5 : Int32 → Int32 → Int32 → gT → Option (Int32 × gT)) (Post : Option (Int32 × gT) → Prop) (hP : ∀ w', SmC [39, 49] w w' → Post (k5 (nI (ctOf (spCd σ n a) 120)) (fsX (spCd σ n a) 120) (msOf (spCd σ n a) 120) w')) : Post (gW4 (xX9_candle_b38 N (nI n) a k5) N (nI 0) (-1) (nI 0) (nI 0) w) := by
  refine gW4_ind Post (fun m x0 x1 x2 x3 w1 => ∃ g, g ≤ 10 ∧ x0 = nI (ctOf (spCd σ n a) (12 * g)) ∧ x1 = fsX (spCd σ n a) (12 * g) ∧ x2 = msOf (spCd σ n a) (12 * g) ∧ x3 = nI g ∧ m = 10 - g ∧ SmC [39, 49] w w1) ?_ N 10 _ _ _ _ w (by omega) ⟨0, by omega, rfl, rfl, rfl, rfl, rfl, SmC.rf⟩
  rintro m go x0 x1 x2 x3 w1 ⟨g, hg, rfl, rfl, rfl, rfl, rfl, hs⟩ ih
  have hE1 : EncX N σ w1 := hE.sm (hs.toX rfl)
  unfold xX9_candle_b38
  by_cases q : 10 ≤ g
  · rw [if_pos (yle (by omega) (by omega) q)]
    have : g = 10 := by omega
    subst this
    exact hP w1 hs
  · rw [if_neg (nle (by omega) (by omega) q), gLet_s, x_hasGhost _ (by omega), gBi_s, ifb, hE1.1 1 rfl]
    have inner : ∀ (P : Nat → Prop) (dP : DecidablePred P) (w2 : gT), SmC [39, 49] w1 w2 → (∀ r, r < 12 → (nI (bn (fun q => P q ∧ spNear σ g q n r) 10) = a ↔ spCd σ n a (12 * g + r))) → Post (gW4 (xX9_candle_b83 N (nI n) a (fun v22 v23 v24 w25 => go v22 v23 v24 (nI g + nI 1) w25) (nI g) (nI (bn P 10))) N (nI (ctOf (spCd σ n a) (12 * g))) (fsX (spCd σ n a) (12 * g)) (msOf (spCd σ n a) (12 * g)) (nI 0) w2) := by
      intro P dP w2 s2 hPr
      have hE2 : EncX N σ w2 := hE1.sm (s2.toX rfl)
      refine gW4_ind Post (fun m x0 x1 x2 x3 w3 => ∃ r, r ≤ 12 ∧ x0 = nI (ctOf (spCd σ n a) (12 * g + r)) ∧ x1 = fsX (spCd σ n a) (12 * g + r) ∧ x2 = msOf (spCd σ n a) (12 * g + r) ∧ x3 = nI r ∧ m = 12 - r ∧ w3 = w2) ?_ N 12 _ _ _ _ w2 (by omega) ⟨0, by omega, rfl, rfl, rfl, rfl, rfl, rfl⟩
      rintro m go2 x0 x1 x2 x3 w3 ⟨r, hr, rfl, rfl, rfl, rfl, rfl, rfl⟩ ih2
      have hfl := fs_lt (spCd σ n a) (n := 120) (by omega) (12 * g + r) (by omega)
      unfold xX9_candle_b83
      by_cases q2 : 12 ≤ r
      · rw [if_pos (yle (by omega) (by omega) q2)]
        have : r = 12 := by omega
        subst this
        try dsimp only
        rw [nI_add]
        exact ih (10 - (g + 1)) _ _ _ _ _ (by omega) ⟨g + 1, by omega, rfl, rfl, rfl, rfl, rfl, hs.tr s2⟩
      · rw [if_neg (nle (by omega) (by omega) q2), gLet_s, x_within hN hE2 hR (show g < 10 by omega) hn (show r < 12 by omega) P, gBi_s, nI_add]
        have hiff := hPr r (by omega)
        have hdv : (12 * g + r) / 12 = g := by omega
        by_cases e : nI (bn (fun q => P q ∧ spNear σ g q n r) 10) = a
        · rw [if_pos e, gLet_s]
          simp only [gLet_s]
          have hy := hiff.mp e
          have key : ∀ x, x = fsX (spCd σ n a) (12 * g + r + 1) → Post (go2 (nI (ctOf (spCd σ n a) (12 * g + r)) + nI 1) x (msOf (spCd σ n a) (12 * g + r) ||| gShl (nI 1) (nI g)) (nI (r + 1)) w3) := by
            rintro x rfl
            exact ih2 (12 - (r + 1)) _ _ _ _ _ (by omega) ⟨r + 1, by omega, by rw [← Nat.add_assoc, ct_s hy, nI_add], rfl, by rw [← Nat.add_assoc, ms_t hy, hdv], rfl, rfl, rfl⟩
          have e1 : fsX (spCd σ n a) (12 * g + r + 1) = nI (fsOf (spCd σ n a) (12 * g + r + 1)) := by
            unfold fsX
            rw [if_neg (by rw [ct_s hy]; omega)]
          by_cases z : ctOf (spCd σ n a) (12 * g + r) = 0
          · have e0 : fsX (spCd σ n a) (12 * g + r) = (-1) := if_pos z
            rw [if_pos e0, nI_mul, nI_add (g * 12)]
            exact key _ (by rw [e1, fs_0 hy z, Nat.mul_comm g 12])
          · have e0 : fsX (spCd σ n a) (12 * g + r) = nI (fsOf (spCd σ n a) (12 * g + r)) := if_neg z
            rw [e0, if_neg (nI_m1 (by omega))]
            exact key _ (by rw [e1, fs_1 z])
        · rw [if_neg e]
          have hne : ¬ spCd σ n a (12 * g + r) := fun z => e (hiff.mpr z)
          exact ih2 (12 - (r + 1)) _ _ _ _ _ (by omega) ⟨r + 1, by omega, by rw [← Nat.add_assoc, ct_n hne], by rw [← Nat.add_assoc]; unfold fsX; rw [ct_n hne, fs_n hne], by rw [← Nat.add_assoc, ms_f hne], rfl, rfl, rfl⟩
    by_cases t : tol (σ.1 1 8) g
    · rw [if_pos t]
      obtain ⟨w2, e2, s2⟩ := x_frightenedBy hN hE1 hR (show g < 10 by omega) hn
      rw [e2, gBi_s]
      refine inner (spP1 σ g n) (fun q => inferInstance) w2 s2 (fun r hr => ?_)
      have hdv : (12 * g + r) / 12 = g := by omega
      have hmd : (12 * g + r) % 12 = r := by omega
      unfold spCd
      rw [hdv, hmd, bn_congr (Q := spP2 σ g n r) 10 (fun q hq => spP_eq hR hq hn hr)]
      exact ⟨fun z => ⟨t, z⟩, fun z => z.2⟩
    · rw [if_neg t]
      have z := inner (fun _ => False) (fun _ => inferInstance) w1 SmC.rf (fun r hr => ?_)
      · have e0 : bn (fun _ => False) 10 = 0 := bn_stop (P := fun _ => False) (p := 0) 10 (by omega) (fun q _ _ hq => hq)
        rw [e0] at z
        exact z
      · have hdv : (12 * g + r) / 12 = g := by omega
        have e0 : bn (fun q => False ∧ spNear σ g q n r) 10 = 0 := bn_stop (P := fun q => False ∧ spNear σ g q n r) (p := 0) 10 (by omega) (fun q _ _ hq => hq.1)
        unfold spCd
        rw [hdv, e0]
        exact ⟨fun z => absurd z.symm ha, fun z => absurd z.1 t⟩
theorem msb_nI {s : Nat} (hs : s < 2 ^ 31) : (nI s).toBitVec.msb = false := by
  rw [BitVec.msb_eq_toInt]
  have e : (nI s).toBitVec.toInt = s := nI_toInt hs
  rw [e]
  exact decide_eq_false (by omega)
theorem neg_and {a : Int32} {s : Nat} (hs : s < 2 ^ 31) (ha : a < nI 0) : (a &&& (nI s ^^^ (-1))) ≠ nI 0 := by
  intro z
  have h1 : (a &&& (nI s ^^^ (-1))).toBitVec.msb = false := by rw [z]; exact msb_nI (by omega)
  rw [Int32.toBitVec_and, Int32.toBitVec_xor, BitVec.msb_and, BitVec.msb_xor, msb_nI hs] at h1
  have h2 : a.toBitVec.msb = true := by
    rw [BitVec.msb_eq_toInt]
    have e := Int32.lt_iff_toInt_lt.mp ha
    have e0 : (nI 0).toInt = 0 := by decide
    exact decide_eq_true (by show a.toInt < 0; omega)
  have h3 : ((-1) : Int32).toBitVec.msb = true := by decide
  rw [h2, h3] at h1
  exact absurd h1 (by decide)
theorem o_candle {N : Nat} (hN : 5000 ≤ N) {wx wm : gT} (h : Rel N wx wm) (a b c : Int32) : OpOk N (xX9_candle N a b c wx) (xX10_candle N a b c wm) := by
  obtain ⟨σ, hR, hX, hM, h4⟩ := id h
  have hq : Sq N σ wx wm := ⟨hR, hX, hM, h4⟩
  obtain ⟨s, hs, es⟩ := hR.1.2.2.2.2.2.2.2.2.1
  have es : σ.1 1 9 = nI s := es
  unfold xX9_candle xX10_candle
  rcases in_or a 7 (by omega) with ⟨n, hn, rfl⟩ | q
  · rw [x_night1 hn, m_night1 hn, gBi_s, gBi_s, if_neg nI_10, if_neg nI_10, hM.sl, es]
    unfold xX9_areSleepers
    rw [hX.1 1 rfl, es]
    by_cases b0 : b = nI 0
    · rw [if_pos b0, gBi_s, if_pos rfl, if_pos (by rw [b0]; decide)]
      exact OpOk.o h
    rw [if_neg b0]
    by_cases bz : (b &&& (nI s ^^^ (-1))) = nI 0
    · have bn0 : ¬ b < nI 0 := fun z => neg_and (by omega) z bz
      have bn1 : ¬ b < nI 1 := by
        obtain ⟨v, hv, rfl⟩ := nI_of bn0
        have hv0 : v ≠ 0 := fun z => b0 (by rw [z])
        rw [nI_ltI (by omega) (by omega)]
        omega
      rw [if_pos bz, gBi_s, if_neg nI_10, if_neg bn1, if_pos bz]
      rcases in_or c 4 (by omega) with ⟨k, hk, rfl⟩ | q
      · rw [m_in1 (by omega) (by omega) (by omega), gBi_s, if_neg nI_10, in1 (by omega) (by omega), gLet_s, gLet_s]
        refine x_candle hN hX hR hn b0 _ (fun t => OpOk N t _) (fun w1 s1 => ?_)
        refine m_candle hN hM hR hn b _ (fun t => OpOk N _ t) (fun v1 t1 => ?_)
        have hq1 := (hq.c s1 t1 rfl rfl).rel
        have hfl := fs_lt (spCd σ n b) (n := 120) (by omega) 120 (by omega)
        simp only [gLet_s]
        by_cases z : ctOf (spCd σ n b) 120 = 0
        · have e0 : fsX (spCd σ n b) 120 = (-1) := if_pos z
          rw [e0, if_pos rfl, if_pos rfl]
          split
          · exact OpOk.o hq1
          · split
            · exact OpOk.o hq1
            · exact OpOk.o hq1
        · have e0 : fsX (spCd σ n b) 120 = nI (fsOf (spCd σ n b) 120) := if_neg z
          rw [e0, if_neg (nI_m1 (by omega)), if_neg (nI_m1 (by omega))]
          split
          · exact OpOk.o hq1
          · split
            · exact OpOk.o hq1
            · split
              · exact OpOk.o hq1
              · exact OpOk.o hq1
      · rw [m_in0 (by omega) q (by omega), out1 (by omega) q, gBi_s, if_pos rfl]
        exact OpOk.o h
    · rw [if_neg bz, gBi_s, if_pos rfl]
      by_cases b1 : b < nI 1
      · rw [if_pos b1]
        exact OpOk.o h
      · rw [if_neg b1, if_neg bz]
        exact OpOk.o h
  · rw [x_night0 q, m_night0 q, gBi_s, gBi_s, if_pos rfl, if_pos rfl]
    exact OpOk.o h
