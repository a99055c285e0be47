/-! sets of sleepers as masks -/
abbrev sb (a b : Nat) : Prop := a &&& b = a
theorem sb_i {a b : Nat} : sb a b ↔ ∀ i, a.testBit i = true → b.testBit i = true := by
  constructor
  · intro h i hi
    rw [← h, Nat.testBit_and] at hi
    revert hi
    generalize a.testBit i = x
    generalize b.testBit i = y
    cases x <;> cases y <;> simp
  · intro h
    apply Nat.eq_of_testBit_eq
    intro i
    rw [Nat.testBit_and]
    have := h i
    revert this
    generalize a.testBit i = x
    generalize b.testBit i = y
    cases x <;> cases y <;> simp
theorem sb_le {a b : Nat} (h : sb a b) : a ≤ b := by
  rw [← h]
  exact Nat.and_le_right
theorem sb_rf (a : Nat) : sb a a := sb_i.mpr (fun _ h => h)
theorem sb_tr {a b c : Nat} (h : sb a b) (h2 : sb b c) : sb a c := sb_i.mpr (fun i hi => sb_i.mp h2 i (sb_i.mp h i hi))
theorem sb_0 (a : Nat) : sb 0 a := Nat.zero_and a
theorem sb_anti {a b : Nat} (h : sb a b) (h2 : sb b a) : a = b := Nat.le_antisymm (sb_le h) (sb_le h2)
def mn (a b : Nat) : Nat := a ^^^ (a &&& b)
theorem mn_tb (a b i : Nat) : (mn a b).testBit i = (a.testBit i && !b.testBit i) := by
  unfold mn
  rw [Nat.testBit_xor, Nat.testBit_and]
  generalize a.testBit i = x
  generalize b.testBit i = y
  cases x <;> cases y <;> rfl
theorem mn_sb (a b : Nat) : sb (mn a b) a := sb_i.mpr fun i hi => by
  rw [mn_tb] at hi
  revert hi
  generalize a.testBit i = x
  cases x <;> simp
theorem mn_x {a b : Nat} (h : sb b a) : a ^^^ b = mn a b := by
  apply Nat.eq_of_testBit_eq
  intro i
  rw [mn_tb, Nat.testBit_xor]
  have := sb_i.mp h i
  revert this
  generalize a.testBit i = x
  generalize b.testBit i = y
  cases x <;> cases y <;> simp
theorem nI_mn (a b : Nat) : nI a &&& (nI b ^^^ (-1)) = nI (mn a b) := by
  apply Int32.toBitVec_inj.mp
  apply BitVec.eq_of_getLsbD_eq
  intro i hi
  have e1 : ∀ v, (nI v).toBitVec.getLsbD i = v.testBit i := fun v => by
    show (BitVec.ofNat 32 v).getLsbD i = _
    rw [BitVec.getLsbD_ofNat, decide_eq_true hi, Bool.true_and]
  have e3 : ((-1) : Int32).toBitVec.getLsbD i = true := (by decide : ∀ i : Fin 32, ((-1) : Int32).toBitVec.getLsbD i.1 = true) ⟨i, hi⟩
  rw [Int32.toBitVec_and, Int32.toBitVec_xor, BitVec.getLsbD_and, BitVec.getLsbD_xor, e1, e1, e1, e3, Bool.xor_true, mn_tb]
/-- left, then what is taken -/
theorem or_mn {l R W : Nat} (h : sb l (mn W R)) : mn (l ||| R) R = l := by
  apply Nat.eq_of_testBit_eq
  intro i
  rw [mn_tb, Nat.testBit_or]
  have := sb_i.mp h i
  rw [mn_tb] at this
  revert this
  generalize l.testBit i = x
  generalize R.testBit i = y
  generalize W.testBit i = z
  cases x <;> cases y <;> cases z <;> simp
theorem mn_or {s R : Nat} (h : sb R s) : mn s R ||| R = s := by
  apply Nat.eq_of_testBit_eq
  intro i
  rw [Nat.testBit_or, mn_tb]
  have := sb_i.mp h i
  revert this
  generalize s.testBit i = x
  generalize R.testBit i = y
  cases x <;> cases y <;> simp
theorem mn_mono {s W : Nat} (R : Nat) (h : sb s W) : sb (mn s R) (mn W R) := sb_i.mpr fun i hi => by
  rw [mn_tb] at hi ⊢
  have := sb_i.mp h i
  revert this hi
  generalize s.testBit i = x
  generalize R.testBit i = y
  generalize W.testBit i = z
  cases x <;> cases y <;> cases z <;> simp
theorem or_sb {l R W : Nat} (h1 : sb l W) (h2 : sb R W) : sb (l ||| R) W := sb_i.mpr fun i hi => by
  rw [Nat.testBit_or] at hi
  rcases (Bool.or_eq_true _ _).mp hi with h | h
  · exact sb_i.mp h1 i h
  · exact sb_i.mp h2 i h
theorem sb_or (l R : Nat) : sb R (l ||| R) := sb_i.mpr fun i hi => by
  rw [Nat.testBit_or, hi, Bool.or_true]
theorem and_sb (a b : Nat) : sb (a &&& b) b := sb_i.mpr fun i hi => by
  rw [Nat.testBit_and] at hi
  exact ((Bool.and_eq_true _ _).mp hi).2
theorem sb_half {a b : Nat} (h : sb a b) : sb (a / 2) (b / 2) ∧ a % 2 ≤ b % 2 := by
  refine ⟨sb_i.mpr fun i hi => ?_, ?_⟩
  · rw [Nat.testBit_div_two] at hi ⊢
    exact sb_i.mp h _ hi
  · have h0 := sb_i.mp h 0
    rw [Nat.testBit_zero, Nat.testBit_zero, decide_eq_true_iff, decide_eq_true_iff] at h0
    omega
/-- the next smaller part of o -/
theorem sm_le : ∀ l o s, sb l o → sb s o → s < l → s ≤ (l - 1) &&& o := by
  intro l
  induction l using Nat.strongRecOn with
  | ind l ih =>
    intro o s hl hs hsl
    have hl2 := sb_half hl
    have hs2 := sb_half hs
    have e1 : ((l - 1) &&& o) / 2 = (l - 1) / 2 &&& o / 2 := Nat.and_div_two
    have e2 : ((l - 1) &&& o) % 2 = ((l - 1) % 2 &&& o % 2) := by
      have := Nat.and_mod_two_pow (a := l - 1) (b := o) (n := 1)
      simpa using this
    by_cases c : l % 2 = 1
    · have e3 : (l - 1) / 2 = l / 2 := by omega
      have e4 : l / 2 &&& o / 2 = l / 2 := hl2.1
      rw [e3, e4] at e1
      omega
    · have e3 : (l - 1) / 2 = l / 2 - 1 := by omega
      have e5 : (l - 1) % 2 = 1 := by omega
      have h1 := ih (l / 2) (by omega) (o / 2) (s / 2) hl2.1 hs2.1 (by omega)
      rw [e3] at e1
      have e6 : 1 &&& o % 2 = o % 2 := by
        rcases (show o % 2 = 0 ∨ o % 2 = 1 by omega) with z | z <;> rw [z] <;> rfl
      rw [e5, e6] at e2
      omega
theorem sb_lt {a W : Nat} (h : sb a W) (hW : W < 1024) : a < 1024 := Nat.lt_of_le_of_lt (sb_le h) hW
/-- one walk used for all sets -/
theorem x_useWalk {N : Nat} (hN : 5000 ≤ N) {A : Nat → Nat → Nat} {w : gT} (hA : NB A w) {g R W : Nat} (hg : g < 10) (hW : W < 1024) (hR : sb R W) (h52 : w.1 52 6 = nI W) : ∃ w' A', xX0_useWalk N (nI g) (nI R) w = some w' ∧ w'.1 = w.1 ∧ NB A' w' ∧ (∀ s, A' g s = if sb R s ∧ sb s W ∧ A (g + 1) (mn s R) + 1 < A g s then A (g + 1) (mn s R) + 1 else A g s) ∧ ∀ j s, j ≠ g → A' j s = A j s := by
  have hRl := sb_lt hR hW
  have hol : mn W R ≤ W := sb_le (mn_sb W R)
  unfold xX0_useWalk
  rw [gLet_s, h52, nI_mn]
  refine gW2_ind (fun (t : Option gT) => ∃ (w' : gT) (A' : Nat → Nat → Nat), t = some w' ∧ w'.1 = w.1 ∧ NB A' w' ∧ (∀ s, A' g s = if sb R s ∧ sb s W ∧ A (g + 1) (mn s R) + 1 < A g s then A (g + 1) (mn s R) + 1 else A g s) ∧ ∀ j s, j ≠ g → A' j s = A j s) (fun m a b w1 => ∃ l i A1, sb l (mn W R) ∧ l + i ≤ 1023 ∧ a = nI l ∧ b = nI i ∧ l = m ∧ w1.1 = w.1 ∧ NB A1 w1 ∧ (∀ s, A1 g s = if sb R s ∧ sb s W ∧ l < mn s R ∧ A (g + 1) (mn s R) + 1 < A g s then A (g + 1) (mn s R) + 1 else A g s) ∧ ∀ j s, j ≠ g → A1 j s = A j s) ?_ N (mn W R) _ _ w (by omega) ⟨mn W R, 0, A, sb_rf _, by omega, rfl, rfl, rfl, rfl, hA, fun s => ?_, fun _ _ _ => rfl⟩
  · rintro m go a b w1 ⟨l, i, A1, hl, hli, rfl, rfl, rfl, h1, hA1, hg1, hj1⟩ ih
    have hlW : sb l W := sb_tr hl (mn_sb W R)
    have hll := sb_lt hlW hW
    have hor : sb (l ||| R) W := or_sb hlW hR
    have horl := sb_lt hor hW
    have hmo : mn (l ||| R) R = l := or_mn hl
    have eb : A1 g (l ||| R) = A g (l ||| R) := by
      rw [hg1, if_neg]
      rintro ⟨-, -, z, -⟩
      rw [hmo] at z
      omega
    unfold xX0_useWalk_b15
    rw [if_neg (nle (by omega) (by omega) (by omega)), gLet_s, nI_add, x_fewest hA1 (by omega) hll, gBi_s, gLet_s, nI_or, x_fewest hA1 (by omega) horl, gBi_s, hj1 (g + 1) l (by omega), eb, nI_add]
    -- the next
    have nxt : ∀ (w2 : gT) (A2 : Nat → Nat → Nat), w2.1 = w.1 → NB A2 w2 → (∀ s, A2 g s = if s = l ||| R ∧ A (g + 1) l + 1 < A g (l ||| R) then A (g + 1) l + 1 else A1 g s) → (∀ j s, j ≠ g → A2 j s = A j s) → ∃ (w' : gT) (A' : Nat → Nat → Nat), (if nI l = nI 0 then some w2 else gLet ((nI l - nI 1) &&& nI (mn W R)) fun v8 => go v8 (nI i + nI 1) w2) = some w' ∧ w'.1 = w.1 ∧ NB A' w' ∧ (∀ s, A' g s = if sb R s ∧ sb s W ∧ A (g + 1) (mn s R) + 1 < A g s then A (g + 1) (mn s R) + 1 else A g s) ∧ ∀ j s, j ≠ g → A' j s = A j s := by
      intro w2 A2 h2 hA2 hg2 hj2
      have tot : ∀ q s, q < l ∨ l = 0 → (∀ s, sb R s → sb s W → (l ≤ mn s R ↔ (l = 0 ∨ q < mn s R))) → A2 g s = if sb R s ∧ sb s W ∧ (l = 0 ∨ q < mn s R) ∧ A (g + 1) (mn s R) + 1 < A g s then A (g + 1) (mn s R) + 1 else A g s := by
        intro q s hq heq
        rw [hg2, hg1]
        by_cases c : s = l ||| R
        · have e : mn s R = l := by rw [c]; exact hmo
          have c1 : sb R s := by rw [c]; exact sb_or l R
          have c2 : sb s W := by rw [c]; exact hor
          rw [e, ← c]
          by_cases d : A (g + 1) l + 1 < A g s
          · rw [if_pos ⟨rfl, d⟩, if_pos ⟨c1, c2, by omega, d⟩]
          · rw [if_neg (fun z => d z.2), if_neg (fun z => d z.2.2.2), if_neg (fun z => d z.2.2.2)]
        · rw [if_neg (fun z => c z.1)]
          by_cases d : sb R s ∧ sb s W
          · have hne : mn s R ≠ l := fun z => c (by rw [← z, mn_or d.1])
            have := heq s d.1 d.2
            by_cases y : l < mn s R
            · by_cases x : A (g + 1) (mn s R) + 1 < A g s
              · rw [if_pos ⟨d.1, d.2, y, x⟩, if_pos ⟨d.1, d.2, this.mp (by omega), x⟩]
              · rw [if_neg (fun z => x z.2.2.2), if_neg (fun z => x z.2.2.2)]
            · rw [if_neg (fun z => y z.2.2.1), if_neg (fun z => by have := this.mpr z.2.2.1; omega)]
          · rw [if_neg (fun z => d ⟨z.1, z.2.1⟩), if_neg (fun z => d ⟨z.1, z.2.1⟩)]
      by_cases l0 : l = 0
      · rw [if_pos (by rw [l0])]
        refine ⟨w2, A2, rfl, h2, hA2, fun s => ?_, hj2⟩
        rw [tot 0 s (Or.inr l0) (fun s _ _ => ⟨fun _ => Or.inl l0, fun _ => by omega⟩)]
        by_cases c : sb R s ∧ sb s W ∧ A (g + 1) (mn s R) + 1 < A g s
        · rw [if_pos c, if_pos ⟨c.1, c.2.1, Or.inl l0, c.2.2⟩]
        · rw [if_neg c, if_neg (fun z => c ⟨z.1, z.2.1, z.2.2.2⟩)]
      · have hand : ((l - 1) &&& mn W R) ≤ l - 1 := Nat.and_le_left
        rw [if_neg (fun z => l0 ((nI_eq (by omega) (by omega)).mp z)), gLet_s, pk_sub (by omega), nI_and, nI_add]
        refine ih _ _ _ w2 (by omega) ⟨_, i + 1, A2, and_sb _ _, by omega, rfl, rfl, rfl, h2, hA2, fun s => ?_, hj2⟩
        rw [tot ((l - 1) &&& mn W R) s (Or.inl (by omega)) (fun s c1 c2 => ⟨fun z => Or.inr (by omega), fun z => ?_⟩)]
        · by_cases c : sb R s ∧ sb s W ∧ ((l - 1) &&& mn W R) < mn s R ∧ A (g + 1) (mn s R) + 1 < A g s
          · rw [if_pos c, if_pos ⟨c.1, c.2.1, Or.inr c.2.2.1, c.2.2.2⟩]
          · rw [if_neg c, if_neg (fun z => c ⟨z.1, z.2.1, z.2.2.1.resolve_left l0, z.2.2.2⟩)]
        · rcases z with z | z
          · exact absurd z l0
          · apply Classical.byContradiction
            intro hn
            have := sm_le l (mn W R) (mn s R) hl (mn_mono R c2) (by omega)
            omega
    by_cases c : A g (l ||| R) ≤ A (g + 1) l + 1
    · rw [if_pos (yle (by have := hA.lt (j := g) (s := l ||| R) (by omega) horl; omega) (by have := hA.lt (j := g + 1) (s := l) (by omega) hll; omega) c)]
      refine nxt w1 A1 h1 hA1 (fun s => ?_) hj1
      rw [if_neg (fun z => by omega)]
    · have b1 := hA.lt (j := g) (s := l ||| R) (by omega) horl
      rw [if_neg (nle (by omega) (by omega) c), gLet_s, gG_in horl (by omega), gG_in horl (by omega), gLet_s, nI_clamp (by omega)]
      have hset := hA1.set (j := g) (s := l ||| R) (v := A (g + 1) l + 1) (by omega) horl (by omega)
      rw [eb] at hset
      refine nxt _ _ ?_ hset (fun s => ?_) (fun j s hj => ?_)
      · exact h1
      · unfold updA
        by_cases e : s = l ||| R
        · rw [if_pos ⟨rfl, e⟩, if_pos ⟨e, by omega⟩]
        · rw [if_neg (fun z => e z.2), if_neg (fun z => e z.1)]
      · unfold updA
        rw [if_neg (fun z => hj z.1)]
        exact hj1 j s hj
  · rw [if_neg]
    rintro ⟨-, z2, z3, -⟩
    have := sb_le (mn_mono R z2)
    omega
