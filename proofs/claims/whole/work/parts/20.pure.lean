/-! THE PURE PART: what the functions of the class and the model come to -/
theorem nI_mul (a b : Nat) : nI a * nI b = nI (a * b) := pk_mul a b
theorem nI_rem {a d : Nat} (ha : a < 2 ^ 31) (h0 : 0 < d) (hd : d < 2 ^ 31) : gRem (nI a) (nI d) = nI (a % d) := pk_rem ha h0 hd
theorem nI_z : (0 : Int32) = nI 0 := rfl
theorem gG_in {α : Type} {j n : Nat} {t : Option α} (h : j < n) (hn : n < 2 ^ 31) : gG (nI j) n t = t := by
  unfold gG
  rw [if_neg]
  rintro (h1 | h1)
  · exact nI_pos (by omega) h1
  · rw [nI_clamp (by omega)] at h1
    omega
theorem gZ_ne {α : Type} {y : Int32} {t : Option α} (h : y ≠ 0) : gZ y t = t := if_neg h
def b2i (p : Prop) [Decidable p] : Int32 := if p then nI 1 else nI 0
theorem nI_10 : ¬ nI 1 = nI 0 := by decide
theorem b2i_0 {p : Prop} [Decidable p] : (b2i p = nI 0) ↔ ¬ p := by
  unfold b2i
  by_cases h : p <;> simp [h, nI_10]
theorem b2i_1 {p : Prop} [Decidable p] : (b2i p = nI 1) ↔ p := by
  unfold b2i
  by_cases h : p <;> simp [h, Ne.symm nI_10]
theorem b2i_t {p : Prop} [Decidable p] (h : p) : b2i p = nI 1 := b2i_1.mpr h
theorem b2i_f {p : Prop} [Decidable p] (h : ¬ p) : b2i p = nI 0 := b2i_0.mpr h
/-- only these cells may have changed -/
def SmC (cs : List Nat) (w w' : gT) : Prop := ∀ c, c ∉ cs → w'.1 c = w.1 c
theorem SmC.rf {cs : List Nat} {w : gT} : SmC cs w w := fun _ _ => rfl
theorem SmC.tr {cs : List Nat} {w w1 w2 : gT} (h : SmC cs w w1) (h2 : SmC cs w1 w2) : SmC cs w w2 := fun c hc => (h2 c hc).trans (h c hc)
theorem SmC.mono {cs ds : List Nat} {w w1 : gT} (h : SmC cs w w1) (hs : ∀ c ∈ cs, c ∈ ds) : SmC ds w w1 := fun c hc => h c (fun z => hc (hs c z))
theorem SmC.U {cs : List Nat} {w : gT} {a i : Nat} {v : Int32} (h : a ∈ cs) : SmC cs w (gU w a i v) := fun c hc => by
  funext j
  have : c ≠ a := fun e => hc (e ▸ h)
  simp [gU, this]
theorem SmC.UA {cs : List Nat} {w : gT} {a : Nat} {f : Nat → Int32} (h : a ∈ cs) : SmC cs w (gUA w a f) := fun c hc => by
  have : c ≠ a := fun e => hc (e ▸ h)
  simp [gUA, this]
theorem gU1 {w : gT} {a i b : Nat} {v : Int32} (h : b ≠ a) : (gU w a i v).1 b = w.1 b := by
  funext j
  simp [gU, h]
theorem gU0 {w : gT} {a i : Nat} {v : Int32} : (gU w a i v).1 a i = v := by simp [gU]
theorem gU2 {w : gT} {a i j : Nat} {v : Int32} (h : j ≠ i) : (gU w a i v).1 a j = w.1 a j := by simp [gU, h]
theorem gUs {w : gT} {a i j : Nat} {v : Int32} : (gU w a i v).1 a j = if j = i then v else w.1 a j := by simp [gU]
theorem gU_2 {w : gT} {a i : Nat} {v : Int32} : (gU w a i v).2 = w.2 := rfl
theorem gBi_s {α : Type} {r : Int32} {w : gT} {f : Int32 → gT → Option α} : gBi (some (r, w)) f = f r w := rfl
theorem gBv_s {α : Type} {w : gT} {f : gT → Option α} : gBv (some w) f = f w := rfl
theorem gLet_s {β α : Type} {x : β} {f : β → Option α} : gLet x f = f x := rfl
theorem ge0_of {x : Int32} (h : ¬ x < 0) : ∃ j : Nat, j < 2 ^ 31 ∧ x = nI j := nI_of h
/-- a number below n, or not -/
theorem in_or (x : Int32) (n : Nat) (hn : n < 2 ^ 31) : (∃ j, j < n ∧ x = nI j) ∨ (x < 0 ∨ nI n ≤ x) := by
  rcases pk_ix x hn with h | h | h
  · exact Or.inr (Or.inl h)
  · exact Or.inr (Or.inr h)
  · exact Or.inl h

/-- a loop with 0 numbers, by a measure -/
theorem gW0_ind {α : Type} {f : (gT → Option α) → gT → Option α} (Post : Option α → Prop) (Inv : Nat → gT → Prop)
    (hs : ∀ (m : Nat) (go : gT → Option α) (w : gT), Inv m w → (∀ (m' : Nat) (w' : gT), m' < m → Inv m' w' → Post (go w')) → Post (f go w)) :
    ∀ (n m : Nat) (w : gT), m < n → Inv m w → Post (gW0 f n w) := by
  intro n
  induction n with
  | zero => intro m  w h; omega
  | succ n ih => intro m  w h hi; exact hs m (gW0 f n) w hi (fun m'  w' h1 h2 => ih m' w' (by omega) h2)
/-- a loop with 1 numbers, by a measure -/
theorem gW1_ind {α : Type} {f : (Int32 → gT → Option α) → Int32 → gT → Option α} (Post : Option α → Prop) (Inv : Nat → Int32 → gT → Prop)
    (hs : ∀ (m : Nat) (go : Int32 → gT → Option α) (x0 : Int32) (w : gT), Inv m x0 w → (∀ (m' : Nat) (x0' : Int32) (w' : gT), m' < m → Inv m' x0' w' → Post (go x0' w')) → Post (f go x0 w)) :
    ∀ (n m : Nat) (x0 : Int32) (w : gT), m < n → Inv m x0 w → Post (gW1 f n x0 w) := by
  intro n
  induction n with
  | zero => intro m x0 w h; omega
  | succ n ih => intro m x0 w h hi; exact hs m (gW1 f n) x0 w hi (fun m' x0' w' h1 h2 => ih m' x0' w' (by omega) h2)
/-- a loop with 2 numbers, by a measure -/
theorem gW2_ind {α : Type} {f : (Int32 → Int32 → gT → Option α) → Int32 → Int32 → gT → Option α} (Post : Option α → Prop) (Inv : Nat → Int32 → Int32 → gT → Prop)
    (hs : ∀ (m : Nat) (go : Int32 → Int32 → gT → Option α) (x0 x1 : Int32) (w : gT), Inv m x0 x1 w → (∀ (m' : Nat) (x0' x1' : Int32) (w' : gT), m' < m → Inv m' x0' x1' w' → Post (go x0' x1' w')) → Post (f go x0 x1 w)) :
    ∀ (n m : Nat) (x0 x1 : Int32) (w : gT), m < n → Inv m x0 x1 w → Post (gW2 f n x0 x1 w) := by
  intro n
  induction n with
  | zero => intro m x0 x1 w h; omega
  | succ n ih => intro m x0 x1 w h hi; exact hs m (gW2 f n) x0 x1 w hi (fun m' x0' x1' w' h1 h2 => ih m' x0' x1' w' (by omega) h2)
/-- a loop with 3 numbers, by a measure -/
theorem gW3_ind {α : Type} {f : (Int32 → Int32 → Int32 → gT → Option α) → Int32 → Int32 → Int32 → gT → Option α} (Post : Option α → Prop) (Inv : Nat → Int32 → Int32 → Int32 → gT → Prop)
    (hs : ∀ (m : Nat) (go : Int32 → Int32 → Int32 → gT → Option α) (x0 x1 x2 : Int32) (w : gT), Inv m x0 x1 x2 w → (∀ (m' : Nat) (x0' x1' x2' : Int32) (w' : gT), m' < m → Inv m' x0' x1' x2' w' → Post (go x0' x1' x2' w')) → Post (f go x0 x1 x2 w)) :
    ∀ (n m : Nat) (x0 x1 x2 : Int32) (w : gT), m < n → Inv m x0 x1 x2 w → Post (gW3 f n x0 x1 x2 w) := by
  intro n
  induction n with
  | zero => intro m x0 x1 x2 w h; omega
  | succ n ih => intro m x0 x1 x2 w h hi; exact hs m (gW3 f n) x0 x1 x2 w hi (fun m' x0' x1' x2' w' h1 h2 => ih m' x0' x1' x2' w' (by omega) h2)
/-- a loop with 4 numbers, by a measure -/
theorem gW4_ind {α : Type} {f : (Int32 → Int32 → Int32 → Int32 → gT → Option α) → Int32 → Int32 → Int32 → Int32 → gT → Option α} (Post : Option α → Prop) (Inv : Nat → Int32 → Int32 → Int32 → Int32 → gT → Prop)
    (hs : ∀ (m : Nat) (go : Int32 → Int32 → Int32 → Int32 → gT → Option α) (x0 x1 x2 x3 : Int32) (w : gT), Inv m x0 x1 x2 x3 w → (∀ (m' : Nat) (x0' x1' x2' x3' : Int32) (w' : gT), m' < m → Inv m' x0' x1' x2' x3' w' → Post (go x0' x1' x2' x3' w')) → Post (f go x0 x1 x2 x3 w)) :
    ∀ (n m : Nat) (x0 x1 x2 x3 : Int32) (w : gT), m < n → Inv m x0 x1 x2 x3 w → Post (gW4 f n x0 x1 x2 x3 w) := by
  intro n
  induction n with
  | zero => intro m x0 x1 x2 x3 w h; omega
  | succ n ih => intro m x0 x1 x2 x3 w h hi; exact hs m (gW4 f n) x0 x1 x2 x3 w hi (fun m' x0' x1' x2' x3' w' h1 h2 => ih m' x0' x1' x2' x3' w' (by omega) h2)
/-- a loop with 5 numbers, by a measure -/
theorem gW5_ind {α : Type} {f : (Int32 → Int32 → Int32 → Int32 → Int32 → gT → Option α) → Int32 → Int32 → Int32 → Int32 → Int32 → gT → Option α} (Post : Option α → Prop) (Inv : Nat → Int32 → Int32 → Int32 → Int32 → Int32 → gT → Prop)
    (hs : ∀ (m : Nat) (go : Int32 → Int32 → Int32 → Int32 → Int32 → gT → Option α) (x0 x1 x2 x3 x4 : Int32) (w : gT), Inv m x0 x1 x2 x3 x4 w → (∀ (m' : Nat) (x0' x1' x2' x3' x4' : Int32) (w' : gT), m' < m → Inv m' x0' x1' x2' x3' x4' w' → Post (go x0' x1' x2' x3' x4' w')) → Post (f go x0 x1 x2 x3 x4 w)) :
    ∀ (n m : Nat) (x0 x1 x2 x3 x4 : Int32) (w : gT), m < n → Inv m x0 x1 x2 x3 x4 w → Post (gW5 f n x0 x1 x2 x3 x4 w) := by
  intro n
  induction n with
  | zero => intro m x0 x1 x2 x3 x4 w h; omega
  | succ n ih => intro m x0 x1 x2 x3 x4 w h hi; exact hs m (gW5 f n) x0 x1 x2 x3 x4 w hi (fun m' x0' x1' x2' x3' x4' w' h1 h2 => ih m' x0' x1' x2' x3' x4' w' (by omega) h2)
/-- a loop with 6 numbers, by a measure -/
theorem gW6_ind {α : Type} {f : (Int32 → Int32 → Int32 → Int32 → Int32 → Int32 → gT → Option α) → Int32 → Int32 → Int32 → Int32 → Int32 → Int32 → gT → Option α} (Post : Option α → Prop) (Inv : Nat → Int32 → Int32 → Int32 → Int32 → Int32 → Int32 → gT → Prop)
    (hs : ∀ (m : Nat) (go : Int32 → Int32 → Int32 → Int32 → Int32 → Int32 → gT → Option α) (x0 x1 x2 x3 x4 x5 : Int32) (w : gT), Inv m x0 x1 x2 x3 x4 x5 w → (∀ (m' : Nat) (x0' x1' x2' x3' x4' x5' : Int32) (w' : gT), m' < m → Inv m' x0' x1' x2' x3' x4' x5' w' → Post (go x0' x1' x2' x3' x4' x5' w')) → Post (f go x0 x1 x2 x3 x4 x5 w)) :
    ∀ (n m : Nat) (x0 x1 x2 x3 x4 x5 : Int32) (w : gT), m < n → Inv m x0 x1 x2 x3 x4 x5 w → Post (gW6 f n x0 x1 x2 x3 x4 x5 w) := by
  intro n
  induction n with
  | zero => intro m x0 x1 x2 x3 x4 x5 w h; omega
  | succ n ih => intro m x0 x1 x2 x3 x4 x5 w h hi; exact hs m (gW6 f n) x0 x1 x2 x3 x4 x5 w hi (fun m' x0' x1' x2' x3' x4' x5' w' h1 h2 => ih m' x0' x1' x2' x3' x4' x5' w' (by omega) h2)
