/-! ONCE: longs with a nibble a ghost -/
def lI (X : Nat) : Int64 := Int64.ofNat X
def nb (X j : Nat) : Nat := X / 2 ^ (4 * j) % 16
theorem lI_bv (X : Nat) : (lI X).toBitVec = BitVec.ofNat 64 X := rfl
theorem lI_xor (a b : Nat) : lI a ^^^ lI b = lI (a ^^^ b) := by
  apply Int64.toBitVec_inj.mp
  rw [Int64.toBitVec_xor, lI_bv, lI_bv, lI_bv]
  apply BitVec.eq_of_toNat_eq
  rw [BitVec.toNat_xor, BitVec.toNat_ofNat, BitVec.toNat_ofNat, BitVec.toNat_ofNat, Nat.xor_mod_two_pow]
theorem lI_or (a b : Nat) : lI a ||| lI b = lI (a ||| b) := by
  apply Int64.toBitVec_inj.mp
  rw [Int64.toBitVec_or, lI_bv, lI_bv, lI_bv]
  apply BitVec.eq_of_toNat_eq
  rw [BitVec.toNat_or, BitVec.toNat_ofNat, BitVec.toNat_ofNat, BitVec.toNat_ofNat, Nat.or_mod_two_pow]
theorem lsl_nb : ∀ y : Fin 16, ∀ g : Fin 11, gLsl (Int32.toInt64 (nI y.1)) (nI 4 * nI g.1) = lI (y.1 * 2 ^ (4 * g.1)) := by decide +kernel
theorem nb_one : ∀ y : Fin 16, ∀ g : Fin 11, ∀ j : Fin 11, nb (y.1 * 2 ^ (4 * g.1)) j.1 = if j.1 = g.1 then y.1 else 0 := by decide +kernel
theorem nb_xor (X Z j : Nat) : nb (X ^^^ Z) j = nb X j ^^^ nb Z j := by
  unfold nb
  rw [Nat.xor_div_two_pow, show (16 : Nat) = 2 ^ 4 from rfl, Nat.xor_mod_two_pow]
theorem nb_or (X Z j : Nat) : nb (X ||| Z) j = nb X j ||| nb Z j := by
  unfold nb
  rw [Nat.or_div_two_pow, show (16 : Nat) = 2 ^ 4 from rfl, Nat.or_mod_two_pow]
theorem nb_lt (X j : Nat) : nb X j < 16 := Nat.mod_lt _ (by omega)
theorem one_lt {y g : Nat} (hy : y < 16) (hg : g < 11) : y * 2 ^ (4 * g) < 2 ^ 44 := (by decide +kernel : ∀ y : Fin 16, ∀ g : Fin 11, y.1 * 2 ^ (4 * g.1) < 2 ^ 44) ⟨y, hy⟩ ⟨g, hg⟩
theorem nI_xor (a b : Nat) : nI a ^^^ nI b = nI (a ^^^ b) := by
  apply Int32.toBitVec_inj.mp
  rw [Int32.toBitVec_xor]
  apply BitVec.eq_of_toNat_eq
  rw [BitVec.toNat_xor]
  show a % 2 ^ 32 ^^^ b % 2 ^ 32 = (a ^^^ b) % 2 ^ 32
  rw [Nat.xor_mod_two_pow]
theorem nI_and (a b : Nat) : nI a &&& nI b = nI (a &&& b) := by
  apply Int32.toBitVec_inj.mp
  rw [Int32.toBitVec_and]
  apply BitVec.eq_of_toNat_eq
  rw [BitVec.toNat_and]
  show a % 2 ^ 32 &&& b % 2 ^ 32 = (a &&& b) % 2 ^ 32
  rw [Nat.and_mod_two_pow]
theorem sh63 : ∀ g : Fin 11, ((nI 4 * nI g.1).toInt64 &&& 63) = lI (4 * g.1) := by decide +kernel
theorem lsr_nb {X j : Nat} (hX : X < 2 ^ 44) (hj : j < 11) : (Int64.toInt32 (gLsr (lI X) (nI 4 * nI j))) &&& nI 15 = nI (nb X j) := by
  have h1 : gLsr (lI X) (nI 4 * nI j) = lI (X / 2 ^ (4 * j)) := by
    unfold gLsr
    rw [sh63 ⟨j, hj⟩]
    apply Int64.toBitVec_inj.mp
    have hm : (lI X).toBitVec.msb = false := by
      rw [lI_bv, BitVec.msb_eq_decide, BitVec.toNat_ofNat, Nat.mod_eq_of_lt (by omega)]
      exact decide_eq_false (by omega)
    rw [Int64.toBitVec_shiftRight, BitVec.sshiftRight_eq', BitVec.sshiftRight_eq_of_msb_false hm]
    have hs : ((lI (4 * j)).toBitVec.smod 64).toNat = 4 * j := (by decide +kernel : ∀ j : Fin 11, ((lI (4 * j.1)).toBitVec.smod 64).toNat = 4 * j.1) ⟨j, hj⟩
    apply BitVec.eq_of_toNat_eq
    rw [hs, BitVec.toNat_ushiftRight, lI_bv, lI_bv, BitVec.toNat_ofNat, BitVec.toNat_ofNat, Nat.shiftRight_eq_div_pow, Nat.mod_eq_of_lt (by omega)]
    have := Nat.div_le_self X (2 ^ (4 * j))
    rw [Nat.mod_eq_of_lt (by omega)]
  rw [h1]
  apply Int32.toBitVec_inj.mp
  apply BitVec.eq_of_toNat_eq
  rw [Int32.toBitVec_and, BitVec.toNat_and]
  have h2 : (Int64.toInt32 (lI (X / 2 ^ (4 * j)))).toBitVec.toNat = X / 2 ^ (4 * j) % 2 ^ 32 := by
    show ((lI (X / 2 ^ (4 * j))).toBitVec.signExtend 32).toNat = _
    rw [BitVec.signExtend_eq_setWidth_of_le _ (by omega), BitVec.toNat_setWidth, lI_bv, BitVec.toNat_ofNat, Nat.mod_mod_of_dvd _ (by decide)]
  rw [h2]
  have h3 : (nI 15).toBitVec.toNat = 2 ^ 4 - 1 := rfl
  have h4 : (nI (nb X j)).toBitVec.toNat = nb X j := by
    have := nb_lt X j
    show nb X j % 2 ^ 32 = _
    rw [Nat.mod_eq_of_lt (by omega)]
  rw [h3, h4, Nat.and_two_pow_sub_one_eq_mod, Nat.mod_mod_of_dvd _ (by decide)]
  rfl
/-- the table of the class: a row a ghost, a nibble each -/
def NB (A : Nat → Nat → Nat) (w : gT) : Prop := ∀ s, s < 1024 → ∃ X, w.2 s = lI X ∧ X < 2 ^ 44 ∧ ∀ j, j < 11 → nb X j = A j s
theorem x_fewest {A : Nat → Nat → Nat} {w : gT} (h : NB A w) {j s : Nat} (hj : j < 11) (hs : s < 1024) : xX0_fewest (nI j) (nI s) w = some (nI (A j s), w) := by
  obtain ⟨X, h1, h2, h3⟩ := h s hs
  unfold xX0_fewest
  rw [gG_in hs (by omega), nI_clamp (by omega), h1, lsr_nb h2 hj, h3 j hj]
theorem NB.lt {A : Nat → Nat → Nat} {w : gT} (h : NB A w) {j s : Nat} (hj : j < 11) (hs : s < 1024) : A j s < 16 := by
  obtain ⟨X, h1, h2, h3⟩ := h s hs
  rw [← h3 j hj]
  exact nb_lt _ _
def updA (A : Nat → Nat → Nat) (j s v : Nat) : Nat → Nat → Nat := fun a b => if a = j ∧ b = s then v else A a b
/-- a nibble changed -/
theorem NB.set {A : Nat → Nat → Nat} {w : gT} (h : NB A w) {j s v : Nat} (hj : j < 11) (hs : s < 1024) (hv : v < 16) : NB (updA A j s v) (gUL w s (w.2 s ^^^ gLsl (Int32.toInt64 (nI (A j s) ^^^ nI v)) (nI 4 * nI j))) := by
  intro t ht
  unfold gUL updA
  dsimp only
  by_cases e : t = s
  · subst e
    obtain ⟨X, h1, h2, h3⟩ := h t ht
    have hA : A j t < 16 := h.lt hj ht
    have hxl : A j t ^^^ v < 16 := Nat.xor_lt_two_pow (n := 4) hA hv
    rw [if_pos rfl, h1, nI_xor, lsl_nb ⟨_, hxl⟩ ⟨j, hj⟩, lI_xor]
    refine ⟨_, rfl, Nat.xor_lt_two_pow h2 (one_lt hxl hj), fun i hi => ?_⟩
    rw [nb_xor, h3 i hi, nb_one ⟨_, hxl⟩ ⟨j, hj⟩ ⟨i, hi⟩]
    dsimp only
    by_cases ei : i = j
    · subst ei
      rw [if_pos rfl, if_pos ⟨rfl, rfl⟩, ← Nat.xor_assoc, Nat.xor_self, Nat.zero_xor]
    · rw [if_neg ei, if_neg (fun z => ei z.1), Nat.xor_zero]
  · obtain ⟨X, h1, h2, h3⟩ := h t ht
    rw [if_neg e]
    refine ⟨X, h1, h2, fun i hi => ?_⟩
    rw [if_neg (fun z => e z.2)]
    exact h3 i hi
/-- a nibble first written -/
theorem NB.or {A : Nat → Nat → Nat} {w : gT} (h : NB A w) {j s v : Nat} (hj : j < 11) (hs : s < 1024) (hv : v < 16) (h0 : A j s = 0) : NB (updA A j s v) (gUL w s (w.2 s ||| gLsl (Int32.toInt64 (nI v)) (nI 4 * nI j))) := by
  intro t ht
  unfold gUL updA
  dsimp only
  by_cases e : t = s
  · subst e
    obtain ⟨X, h1, h2, h3⟩ := h t ht
    rw [if_pos rfl, h1, lsl_nb ⟨_, hv⟩ ⟨j, hj⟩, lI_or]
    refine ⟨_, rfl, Nat.or_lt_two_pow h2 (one_lt hv hj), fun i hi => ?_⟩
    rw [nb_or, h3 i hi, nb_one ⟨_, hv⟩ ⟨j, hj⟩ ⟨i, hi⟩]
    dsimp only
    by_cases ei : i = j
    · subst ei
      rw [if_pos rfl, if_pos ⟨rfl, rfl⟩, h0, Nat.zero_or]
    · rw [if_neg ei, if_neg (fun z => ei z.1), Nat.or_zero]
  · obtain ⟨X, h1, h2, h3⟩ := h t ht
    rw [if_neg e]
    refine ⟨X, h1, h2, fun i hi => ?_⟩
    rw [if_neg (fun z => e z.2)]
    exact h3 i hi
