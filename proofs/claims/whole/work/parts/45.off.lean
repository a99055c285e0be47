/-- how many of the first k bits are set -/
def pcn (v : Nat) : Nat → Nat
  | 0 => 0
  | k + 1 => pcn v k + v / 2 ^ k % 2
def bcF (a : Int32) : Int32 :=
  let v1 := a - ((gUsh a (nI 1)) &&& (nI 1431655765))
  let v2 := (v1 &&& (nI 858993459)) + ((gUsh v1 (nI 2)) &&& (nI 858993459))
  let v3 := (v2 + (gUsh v2 (nI 4))) &&& (nI 252645135)
  let v4 := v3 + (gUsh v3 (nI 8))
  let v5 := v4 + (gUsh v4 (nI 16))
  v5 &&& (nI 63)
theorem bcF_all : ∀ v : Fin 1024, bcF (nI v.1) = nI (pcn v.1 10) := by decide +kernel
theorem x_bitCount {v : Nat} (hv : v < 1024) (w : gT) : xJ6_bitCount_0f7a4 (nI v) w = some (nI (pcn v 10), w) := by
  have e : xJ6_bitCount_0f7a4 (nI v) w = some (bcF (nI v), w) := rfl
  rw [e, bcF_all ⟨v, hv⟩]
theorem bit_lt (v k : Nat) : v / 2 ^ k % 2 < 2 := Nat.mod_lt _ (by omega)
theorem pcn_le (v : Nat) : ∀ k, pcn v k ≤ k
  | 0 => Nat.le_refl _
  | k + 1 => by
    have h := pcn_le v k
    have := bit_lt v k
    show pcn v k + _ ≤ _
    omega
theorem pcn_12 {v : Nat} (hv : v < 1024) : pcn v 12 = pcn v 10 := by
  show pcn v 10 + v / 2 ^ 10 % 2 + v / 2 ^ 11 % 2 = _
  rw [Nat.div_eq_of_lt (by omega), Nat.div_eq_of_lt (by omega)]
  rfl
theorem bit_nI {v k : Nat} (hv : v < 2 ^ 30) (hk : k < 32) : gShr (nI v) (nI k) &&& nI 1 = nI (v / 2 ^ k % 2) := by
  have h1 : v / 2 ^ k ≤ v := Nat.div_le_self _ _
  rw [shr_nI (by omega) hk, pk_andN (by omega) 1 rfl]
theorem m_bits {N : Nat} (hN : 5000 ≤ N) {v : Nat} (hv : v < 1024) (w : gT) : xX10_bits N (nI v) w = some (nI (pcn v 10), w) := by
  unfold xX10_bits
  refine gW2_ind (fun t => t = some (nI (pcn v 10), w)) (fun m a b w1 => ∃ k, k ≤ 12 ∧ a = nI (pcn v k) ∧ b = nI k ∧ m = 12 - k ∧ w1 = w) ?_ N 12 _ _ w (by omega) ⟨0, by omega, rfl, rfl, rfl, rfl⟩
  rintro m go a b w1 ⟨k, hk, rfl, rfl, rfl, rfl⟩ ih
  unfold xX10_bits_b4
  by_cases h : 12 ≤ k
  · rw [if_pos (yle (by omega) (by omega) h)]
    have : k = 12 := by omega
    subst this
    rw [pcn_12 hv]
  · rw [if_neg (nle (by omega) (by omega) h), gLet_s, bit_nI (by omega) (by omega), nI_add, nI_add]
    exact ih (12 - (k + 1)) _ _ _ (by omega) ⟨k + 1, by omega, rfl, rfl, rfl, rfl⟩
theorem pcn_mod {v j : Nat} : ∀ k, k ≤ j → pcn (v % 2 ^ j) k = pcn v k
  | 0, _ => rfl
  | k + 1, h => by
    show pcn (v % 2 ^ j) k + v % 2 ^ j / 2 ^ k % 2 = pcn v k + v / 2 ^ k % 2
    rw [pcn_mod k (by omega)]
    obtain ⟨d, rfl⟩ : ∃ d, j = k + 1 + d := ⟨j - (k + 1), by omega⟩
    rw [Nat.pow_add, Nat.pow_succ, Nat.mul_assoc, Nat.mod_mul_right_div_self, Nat.mod_mul_right_mod]
theorem pcn_high {v j : Nat} : ∀ k, j ≤ k → pcn (v % 2 ^ j) k = pcn (v % 2 ^ j) j
  | 0, h => by rw [show j = 0 by omega]
  | k + 1, h => by
    by_cases e : j = k + 1
    · rw [e]
    · have hl : v % 2 ^ j < 2 ^ k := Nat.lt_of_lt_of_le (Nat.mod_lt _ (Nat.two_pow_pos j)) (Nat.pow_le_pow_right (by omega) (by omega))
      show pcn (v % 2 ^ j) k + v % 2 ^ j / 2 ^ k % 2 = _
      rw [Nat.div_eq_of_lt hl]
      exact pcn_high k (by omega)
theorem x_rankOf {w : gT} {v : Nat} (hv : v < 1024) (h8 : w.1 1 8 = nI v) {j : Nat} (hj : j < 10) : xX2_rankOf (nI j) w = some (nI (pcn v j), w) := by
  unfold xX2_rankOf
  have hp : 2 ^ j < 2 ^ 10 := Nat.pow_lt_pow_right (by omega) hj
  have hp0 : 0 < 2 ^ j := Nat.two_pow_pos j
  have hm : (gShl (nI 1) (nI j) - nI 1).toBitVec.toNat = 2 ^ j - 1 := by
    rw [shl1 hj, pk_sub (by omega)]
    show (2 ^ j - 1) % 2 ^ 32 = _
    rw [Nat.mod_eq_of_lt (by omega)]
  rw [h8, pk_andN (by omega) j hm, x_bitCount (Nat.lt_of_le_of_lt (Nat.mod_le _ _) hv), gBi_s, pcn_high 10 (by omega), pcn_mod j (by omega)]
theorem pcn_mono {v : Nat} {a b : Nat} (h : a ≤ b) : pcn v a ≤ pcn v b := by
  obtain ⟨d, rfl⟩ : ∃ d, b = a + d := ⟨b - a, by omega⟩
  clear h
  induction d with
  | zero => exact Nat.le_refl _
  | succ d ih => exact Nat.le_trans ih (Nat.le_add_right _ _)
theorem pcn_t {v k : Nat} (h : v / 2 ^ k % 2 = 1) : pcn v (k + 1) = pcn v k + 1 := by
  show pcn v k + _ = _
  rw [h]
theorem pcn_f {v k : Nat} (h : ¬ v / 2 ^ k % 2 = 1) : pcn v (k + 1) = pcn v k := by
  have := bit_lt v k
  show pcn v k + _ = _
  omega
/-- the ghost of a rank -/
theorem rank_ex {v : Nat} : ∀ n k, k < pcn v n → ∃ j, j < n ∧ v / 2 ^ j % 2 = 1 ∧ pcn v j = k
  | 0, k, h => by exact absurd h (by show ¬ k < 0; omega)
  | n + 1, k, h => by
    by_cases b : v / 2 ^ n % 2 = 1
    · rw [pcn_t b] at h
      by_cases e : k = pcn v n
      · exact ⟨n, by omega, b, e.symm⟩
      · obtain ⟨j, h1, h2⟩ := rank_ex (v := v) n k (by omega)
        exact ⟨j, by omega, h2⟩
    · rw [pcn_f b] at h
      obtain ⟨j, h1, h2⟩ := rank_ex n k h
      exact ⟨j, by omega, h2⟩
theorem rank_inj {v a b : Nat} (ha : v / 2 ^ a % 2 = 1) (hb : v / 2 ^ b % 2 = 1) (h : pcn v a = pcn v b) : a = b := by
  rcases Nat.lt_trichotomy a b with z | z | z
  · have := pcn_mono (v := v) (show a + 1 ≤ b by omega)
    rw [pcn_t ha] at this
    omega
  · exact z
  · have := pcn_mono (v := v) (show b + 1 ≤ a by omega)
    rw [pcn_t hb] at this
    omega
/-- who is next off, of the first A ghosts, among those below j; y the years, f the days off -/
def bst (v A : Nat) (y f : Nat → Int32) : Nat → Option Nat
  | 0 => none
  | j + 1 => if v / 2 ^ j % 2 = 1 ∧ pcn v j < A then (match bst v A y f j with
    | none => some j
    | some b => if y j * (f b + nI 1) ≤ y b * (f j + nI 1) then some b else some j) else bst v A y f j
theorem bst_in {v A : Nat} {y f : Nat → Int32} : ∀ j b, bst v A y f j = some b → b < j ∧ v / 2 ^ b % 2 = 1 ∧ pcn v b < A
  | 0, b, h => by exact absurd h (by show ¬ none = some b; simp)
  | j + 1, b, h => by
    have e : bst v A y f (j + 1) = if v / 2 ^ j % 2 = 1 ∧ pcn v j < A then (match bst v A y f j with
      | none => some j
      | some b => if y j * (f b + nI 1) ≤ y b * (f j + nI 1) then some b else some j) else bst v A y f j := rfl
    rw [e] at h
    by_cases c : v / 2 ^ j % 2 = 1 ∧ pcn v j < A
    · rw [if_pos c] at h
      cases hb : bst v A y f j with
      | none =>
        rw [hb] at h
        cases h
        exact ⟨by omega, c⟩
      | some b0 =>
        rw [hb] at h
        obtain ⟨h1, h2⟩ := bst_in j b0 hb
        dsimp only at h
        split at h
        · cases h
          exact ⟨by omega, h2⟩
        · cases h
          exact ⟨by omega, c⟩
    · rw [if_neg c] at h
      obtain ⟨h1, h2⟩ := bst_in j b h
      exact ⟨by omega, h2⟩
theorem bst_skip {v A : Nat} {y f : Nat → Int32} {a : Nat} : ∀ b, a ≤ b → (∀ q, a ≤ q → q < b → ¬ (v / 2 ^ q % 2 = 1 ∧ pcn v q < A)) → bst v A y f b = bst v A y f a
  | 0, h, _ => by rw [show a = 0 by omega]
  | b + 1, h, hn => by
    by_cases e : a = b + 1
    · rw [e]
    · have e2 : bst v A y f (b + 1) = bst v A y f b := if_neg (hn b (by omega) (by omega))
      rw [e2]
      exact bst_skip b (by omega) (fun q h1 h2 => hn q h1 (by omega))
theorem bst_some {v A : Nat} {y f : Nat → Int32} {j b : Nat} (h : v / 2 ^ j % 2 = 1 ∧ pcn v j < A) (hb : bst v A y f j = some b) : bst v A y f (j + 1) = if y j * (f b + nI 1) ≤ y b * (f j + nI 1) then some b else some j := by
  have e : bst v A y f (j + 1) = if v / 2 ^ j % 2 = 1 ∧ pcn v j < A then (match bst v A y f j with
    | none => some j
    | some b => if y j * (f b + nI 1) ≤ y b * (f j + nI 1) then some b else some j) else bst v A y f j := rfl
  rw [e, if_pos h, hb]
theorem bst_none {v A : Nat} {y f : Nat → Int32} {j : Nat} (h : v / 2 ^ j % 2 = 1 ∧ pcn v j < A) (hb : bst v A y f j = none) : bst v A y f (j + 1) = some j := by
  have e : bst v A y f (j + 1) = if v / 2 ^ j % 2 = 1 ∧ pcn v j < A then (match bst v A y f j with
    | none => some j
    | some b => if y j * (f b + nI 1) ≤ y b * (f j + nI 1) then some b else some j) else bst v A y f j := rfl
  rw [e, if_pos h, hb]
def oI : Option Nat → Int32
  | none => (-1)
  | some b => nI b
theorem x_nextOff {N : Nat} (hN : 5000 ≤ N) {σ : sT} {w : gT} (hE : EncX N σ w) {v : Nat} (hv : v < 1024) (h8 : σ.1 1 8 = nI v) {A : Nat} (hA : A ≤ 10) : xX9_nextOff N (nI A) w = some (nI ((bst v A (σ.1 8) (w.1 59) 10).getD 0), w) := by
  unfold xX9_nextOff
  rw [gLet_s]
  have fin : ∀ o : Option Nat, bst v A (σ.1 8) (w.1 59) 10 = o → (if oI o = (-1) then some ((nI 0), w) else some (oI o, w)) = some (nI ((bst v A (σ.1 8) (w.1 59) 10).getD 0), w) := by
    intro o ho
    rw [ho]
    cases o with
    | none => exact if_pos (show oI none = (-1) from rfl)
    | some b =>
      have hb := (bst_in 10 b ho).1
      have e : oI (some b) = nI b := rfl
      rw [e, if_neg (nI_m1 (by omega))]
      rfl
  refine gW3_ind (fun t => t = some (nI ((bst v A (σ.1 8) (w.1 59) 10).getD 0), w)) (fun m x0 x1 x2 w1 => ∃ j, j ≤ 10 ∧ x0 = oI (bst v A (σ.1 8) (w.1 59) j) ∧ x1 = nI (A - pcn v j) ∧ x2 = nI j ∧ m = 10 - j ∧ w1 = w) ?_ N 10 _ _ _ w (by omega) ⟨0, by omega, rfl, rfl, rfl, rfl, rfl⟩
  rintro m go x0 x1 x2 w1 ⟨j, hj, rfl, rfl, rfl, rfl, rfl⟩ ih
  unfold xX9_nextOff_b7
  by_cases q : 10 ≤ j
  · rw [if_pos (yle (by omega) (by omega) q)]
    have : j = 10 := by omega
    subst this
    exact fin _ rfl
  · rw [if_neg (nle (by omega) (by omega) q)]
    by_cases z : A - pcn v j ≤ 0
    · rw [if_pos (yle (by omega) (by omega) z)]
      have e : bst v A (σ.1 8) (w1.1 59) 10 = bst v A (σ.1 8) (w1.1 59) j := bst_skip 10 (by omega) (fun p h1 h2 h3 => by
        have := pcn_mono (v := v) h1
        omega)
      exact fin _ e
    · rw [if_neg (nle (by omega) (by omega) z), gLet_s]
      try dsimp only
      rw [x_hasGhost _ (by omega), gBi_s, ifb, hE.1 1 rfl, h8]
      simp only [gLet_s]
      have ht := tol_iff (v := v) (p := j) (by omega) (by omega)
      have hsub : nI (A - pcn v j) + (-1) = nI (A - pcn v j - 1) := by
        have e1 : ((-1) : Int32) = - nI 1 := by decide
        rw [e1, ← Int32.sub_eq_add_neg, pk_sub (by omega)]
      by_cases t : tol (nI v) j
      · rw [if_pos t]
        have b1 := ht.mp t
        have hc : v / 2 ^ j % 2 = 1 ∧ pcn v j < A := ⟨b1, by omega⟩
        have hp : A - pcn v j - 1 = A - pcn v (j + 1) := by rw [pcn_t b1]; omega
        rw [hsub, nI_add]
        cases hb : bst v A (σ.1 8) (w1.1 59) j with
        | none =>
          have e0 : oI none = (-1) := rfl
          rw [e0, if_pos rfl]
          refine ih (10 - (j + 1)) _ _ _ _ (by omega) ⟨j + 1, by omega, ?_, by rw [hp], rfl, rfl, rfl⟩
          rw [bst_none hc hb]
          rfl
        | some b =>
          have hbl := (bst_in j b hb).1
          have e0 : oI (some b) = nI b := rfl
          rw [e0, if_neg (nI_m1 (by omega)), gG_in (by omega) (by omega), gG_in (by omega) (by omega), gG_in (by omega) (by omega), gG_in (by omega) (by omega), nI_clamp (by omega), nI_clamp (by omega), hE.1 8 rfl]
          have hs := bst_some hc hb
          by_cases k : σ.1 8 j * (w1.1 59 b + nI 1) ≤ σ.1 8 b * (w1.1 59 j + nI 1)
          · rw [if_pos k]
            rw [if_pos k] at hs
            exact ih (10 - (j + 1)) _ _ _ _ (by omega) ⟨j + 1, by omega, by rw [hs]; rfl, by rw [hp], rfl, rfl, rfl⟩
          · rw [if_neg k]
            rw [if_neg k] at hs
            exact ih (10 - (j + 1)) _ _ _ _ (by omega) ⟨j + 1, by omega, by rw [hs]; rfl, by rw [hp], rfl, rfl, rfl⟩
      · rw [if_neg t, nI_add]
        have b1 : ¬ v / 2 ^ j % 2 = 1 := fun z => t (ht.mpr z)
        have hs : bst v A (σ.1 8) (w1.1 59) (j + 1) = bst v A (σ.1 8) (w1.1 59) j := if_neg (fun z => b1 z.1)
        exact ih (10 - (j + 1)) _ _ _ _ (by omega) ⟨j + 1, by omega, by rw [hs], by rw [pcn_f b1], rfl, rfl, rfl⟩
