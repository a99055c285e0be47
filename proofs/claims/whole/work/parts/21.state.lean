/-! THE STATE that both hold: cells numbered as the class has them; the law as what its clauses come to -/
abbrev sT : Type := (Nat → Nat → Int32) × (Nat → (Nat → Int32) → Int32) × (Nat → (Nat → Int32) → Int32)
abbrev tol (m : Int32) (k : Nat) : Prop := (gShr m (nI k) &&& nI 1) = nI 1
/-- the class' cells that last -/
def pcX (c : Nat) : Bool := decide (c ≤ 18) || (decide (20 ≤ c) && decide (c ≤ 26)) || (decide (33 ≤ c) && decide (c ≤ 38))
/-- the model's cells that last, and places of its cell 0 -/
def pcM (c : Nat) : Bool := (decide (1 ≤ c) && decide (c ≤ 12)) || decide (c = 16) || (decide (24 ≤ c) && decide (c ≤ 28)) || decide (40 ≤ c)
def pc0 (i : Nat) : Bool := (decide (1 ≤ i) && decide (i ≤ 4)) || decide (i = 14) || decide (i = 19) || decide (i = 33) || decide (56 ≤ i)
/-- letters of the law by their numbers: r n t g m c y h p v o l -/
def posX (k : Nat) : Nat := [17, 13, 19, 6, 12, 2, 24, 7, 15, 21, 14, 11].getD k 0
def envX (f : Nat → Int32) : Nat → Int32 := fun k => if k < 12 then f (posX k) else nI 0
def envM (f : Nat → Int32) : Nat → Int32 := fun k => if k < 12 then f k else nI 0
/-- what a piece of the class' code comes to, in every world that holds this code -/
def evX (N : Nat) (s : Nat → Nat → Int32) (a : Int32) (D : (Nat → Int32) → Int32) : Prop := ∀ w : gT, w.1 33 = s 33 → w.1 37 = s 37 → w.1 38 = s 38 → ∃ w', xX3_reckon N a w = some (D (envX (w.1 49)), w') ∧ SmC [39] w w'
def evM (N : Nat) (code : Nat → Int32) (a b : Int32) (D : (Nat → Int32) → Int32) : Prop := ∀ w : gT, w.1 24 = code → ∃ w', xX10_comesTo N a b w = some (D (envM (w.1 30)), w') ∧ SmC [29] w w'
/-- a number below n -/
abbrev Bl (x : Int32) (n : Nat) : Prop := ∃ v, v < n ∧ x = nI v
/-- a house: its arrays from cell b + 1 on, its numbers in cell b -/
def RngH (s : Nat → Nat → Int32) (b : Nat) : Prop :=
  (∀ i, i < 12 → Bl (s (b + 1) i) 10) ∧ (∀ i, i < 70 → Bl (s (b + 2) i) 12 ∨ s (b + 2) i = nI 255) ∧ (∀ i, i < 10 → Bl (s (b + 3) i) 10) ∧ (∀ i, i < 10 → Bl (s (b + 4) i) 5) ∧ (∀ i, i < 10 → Bl (s (b + 5) i) 10) ∧ (∀ i, i < 10 → Bl (s (b + 6) i) 10) ∧ (∀ i, i < 10 → Bl (s (b + 7) i) 1000) ∧ Bl (s b 8) 1024 ∧ Bl (s b 9) 1024 ∧ Bl (s b 10) 10
/-- the rota: how many walks, their numbers; whether a walk is its ghost's first in that night -/
def spW (s : Nat → Nat → Int32) : Nat := (s 21 5).toNatClampNeg
def RngW (s : Nat → Nat → Int32) : Prop := Bl (s 21 5) 17 ∧ ∀ i, i < spW s → Bl (s 22 i) 10 ∧ Bl (s 23 i) 7 ∧ Bl (s 24 i) 12 ∧ Bl (s 25 i) 2 ∧ s 26 i = b2i (¬ ∃ k, k < i ∧ s 22 k = s 22 i ∧ s 23 k = s 23 i)
def spC (s : Nat → Nat → Int32) : Nat := (s 33 3).toNatClampNeg
def RngT (s : Nat → Nat → Int32) : Prop := Bl (s 19 1) 221 ∧ ∀ i, Bl (s 20 i) 256
def Rng (σ : sT) : Prop := RngH σ.1 1 ∧ RngH σ.1 10 ∧ RngW σ.1 ∧ RngT σ.1 ∧ Bl (σ.1 0 2) 2 ∧ Bl (σ.1 33 3) 15 ∧ ∀ i, i < spC σ.1 → ∀ e, Bl (σ.2.2 i e) 2
def EncX (N : Nat) (σ : sT) (w : gT) : Prop := (∀ c, pcX c = true → w.1 c = σ.1 c) ∧ w.1 19 1 = σ.1 19 1 ∧ (∀ i, i < spC σ.1 → (σ.1 34 i ≠ nI 107 → evX N σ.1 (σ.1 35 i) (σ.2.1 i)) ∧ evX N σ.1 (σ.1 36 i) (σ.2.2 i))
def EncM (N : Nat) (σ : sT) (w : gT) : Prop :=
  (w.1 1 = σ.1 2 ∧ w.1 2 = σ.1 4 ∧ w.1 3 = σ.1 3 ∧ w.1 4 = σ.1 5 ∧ w.1 5 = σ.1 6 ∧ w.1 6 = σ.1 7 ∧ w.1 7 = σ.1 8 ∧ (∀ i, i < 40 → i ≠ 5 → w.1 8 i = σ.1 9 i) ∧ w.1 8 5 = σ.1 1 12) ∧
  (w.1 40 = σ.1 11 ∧ w.1 41 = σ.1 13 ∧ w.1 42 = σ.1 12 ∧ w.1 43 = σ.1 14 ∧ w.1 44 = σ.1 15 ∧ w.1 45 = σ.1 16 ∧ w.1 46 = σ.1 17 ∧ (∀ i, i < 40 → i ≠ 5 → w.1 47 i = σ.1 18 i) ∧ w.1 47 5 = σ.1 10 12) ∧
  (w.1 0 1 = σ.1 1 11 ∧ w.1 0 2 = σ.1 1 10 ∧ w.1 0 3 = σ.1 1 9 ∧ w.1 0 4 = σ.1 1 8 ∧ w.1 0 14 = σ.1 19 1 ∧ w.1 0 19 = σ.1 21 5 ∧ w.1 0 33 = σ.1 33 3 ∧ w.1 0 56 = σ.1 0 2 ∧ (σ.1 0 2 ≠ nI 0 → w.1 0 57 = σ.1 10 13) ∧ (σ.1 0 2 ≠ nI 0 → w.1 0 58 = σ.1 10 11) ∧ w.1 0 59 = σ.1 10 10 ∧ w.1 0 60 = σ.1 10 9 ∧ w.1 0 61 = σ.1 10 8) ∧
  (∀ i, w.1 9 i &&& nI 255 = σ.1 20 i) ∧ (∀ i, i < spW σ.1 → w.1 10 i = σ.1 22 i ∧ w.1 11 i = σ.1 23 i ∧ w.1 12 i = σ.1 24 i ∧ w.1 16 i = σ.1 25 i) ∧
  (∀ i, i < spC σ.1 → w.1 25 i = σ.1 34 i ∧ (σ.1 34 i ≠ nI 107 → evM N (w.1 24) (w.1 26 i) (w.1 27 i) (σ.2.1 i)) ∧ evM N (w.1 24) (w.1 27 i) (w.1 28 i) (σ.2.2 i))
def SmX (w w' : gT) : Prop := (∀ c, pcX c = true → w'.1 c = w.1 c) ∧ w'.1 19 1 = w.1 19 1
def SmM (w w' : gT) : Prop := (∀ c, pcM c = true → w'.1 c = w.1 c) ∧ ∀ i, pc0 i = true → w'.1 0 i = w.1 0 i
theorem SmX.rf {w : gT} : SmX w w := ⟨fun _ _ => rfl, rfl⟩
theorem SmM.rf {w : gT} : SmM w w := ⟨fun _ _ => rfl, fun _ _ => rfl⟩
theorem SmX.tr {w w1 w2 : gT} (h : SmX w w1) (h2 : SmX w1 w2) : SmX w w2 := ⟨fun c hc => (h2.1 c hc).trans (h.1 c hc), h2.2.trans h.2⟩
theorem SmM.tr {w w1 w2 : gT} (h : SmM w w1) (h2 : SmM w1 w2) : SmM w w2 := ⟨fun c hc => (h2.1 c hc).trans (h.1 c hc), fun i hi => (h2.2 i hi).trans (h.2 i hi)⟩
theorem SmC.toX {cs : List Nat} {w w' : gT} (h : SmC cs w w') (hc : cs.all (fun c => !pcX c && !(c == 19)) = true) : SmX w w' := by
  have h1 : ∀ c ∈ cs, pcX c = false ∧ c ≠ 19 := fun c hm => by
    have := List.all_eq_true.mp hc c hm
    simpa using this
  refine ⟨fun c hp => h c (fun hm => ?_), congrFun (h 19 (fun hm => (h1 19 hm).2 rfl)) 1⟩
  rw [(h1 c hm).1] at hp
  cases hp
theorem SmC.toM {cs : List Nat} {w w' : gT} (h : SmC cs w w') (hc : cs.all (fun c => !pcM c && !(c == 0)) = true) : SmM w w' := by
  have h1 : ∀ c ∈ cs, pcM c = false ∧ c ≠ 0 := fun c hm => by
    have := List.all_eq_true.mp hc c hm
    simpa using this
  refine ⟨fun c hp => h c (fun hm => ?_), fun i _ => congrFun (h 0 (fun hm => (h1 0 hm).2 rfl)) i⟩
  rw [(h1 c hm).1] at hp
  cases hp
theorem EncX.sm {N : Nat} {σ : sT} {w w' : gT} (h : EncX N σ w) (hs : SmX w w') : EncX N σ w' := ⟨fun c hc => (hs.1 c hc).trans (h.1 c hc), hs.2.trans h.2.1, h.2.2⟩
theorem EncM.sm {N : Nat} {σ : sT} {w w' : gT} (h : EncM N σ w) (hs : SmM w w') : EncM N σ w' := by
  obtain ⟨⟨a1, a2, a3, a4, a5, a6, a7, a8, a9⟩, ⟨b1, b2, b3, b4, b5, b6, b7, b8, b9⟩, ⟨c2, c3, c4, c5, c6, c7, c8, c9, c10, c11, c12, c13, c14⟩, d1, d2, d3⟩ := h
  have e := hs.1
  have z := hs.2
  refine ⟨⟨?_, ?_, ?_, ?_, ?_, ?_, ?_, ?_, ?_⟩, ⟨?_, ?_, ?_, ?_, ?_, ?_, ?_, ?_, ?_⟩, ⟨?_, ?_, ?_, ?_, ?_, ?_, ?_, ?_, ?_, ?_, ?_, ?_, ?_⟩, ?_, ?_, ?_⟩
  · rw [e 1 rfl]; exact a1
  · rw [e 2 rfl]; exact a2
  · rw [e 3 rfl]; exact a3
  · rw [e 4 rfl]; exact a4
  · rw [e 5 rfl]; exact a5
  · rw [e 6 rfl]; exact a6
  · rw [e 7 rfl]; exact a7
  · rw [e 8 rfl]; exact a8
  · rw [e 8 rfl]; exact a9
  · rw [e 40 rfl]; exact b1
  · rw [e 41 rfl]; exact b2
  · rw [e 42 rfl]; exact b3
  · rw [e 43 rfl]; exact b4
  · rw [e 44 rfl]; exact b5
  · rw [e 45 rfl]; exact b6
  · rw [e 46 rfl]; exact b7
  · rw [e 47 rfl]; exact b8
  · rw [e 47 rfl]; exact b9
  · rw [z 1 rfl]; exact c2
  · rw [z 2 rfl]; exact c3
  · rw [z 3 rfl]; exact c4
  · rw [z 4 rfl]; exact c5
  · rw [z 14 rfl]; exact c6
  · rw [z 19 rfl]; exact c7
  · rw [z 33 rfl]; exact c8
  · rw [z 56 rfl]; exact c9
  · rw [z 57 rfl]; exact c10
  · rw [z 58 rfl]; exact c11
  · rw [z 59 rfl]; exact c12
  · rw [z 60 rfl]; exact c13
  · rw [z 61 rfl]; exact c14
  · rw [e 9 rfl]; exact d1
  · rw [e 10 rfl, e 11 rfl, e 12 rfl, e 16 rfl]; exact d2
  · rw [e 24 rfl, e 25 rfl, e 26 rfl, e 27 rfl, e 28 rfl]; exact d3
theorem Bl.cl {x : Int32} {n : Nat} (h : Bl x n) (hn : n ≤ 2 ^ 31) : x.toNatClampNeg < n ∧ x = nI x.toNatClampNeg := by
  obtain ⟨v, hv, rfl⟩ := h
  rw [nI_clamp (by omega)]
  exact ⟨hv, rfl⟩
theorem spW_eq {s : Nat → Nat → Int32} (h : RngW s) : s 21 5 = nI (spW s) ∧ spW s ≤ 16 := by
  obtain ⟨h1, h2⟩ := h.1.cl (by omega)
  exact ⟨h2, by unfold spW; omega⟩
theorem spC_eq {σ : sT} (h : Rng σ) : σ.1 33 3 = nI (spC σ.1) ∧ spC σ.1 ≤ 14 := by
  obtain ⟨h1, h2⟩ := h.2.2.2.2.2.1.cl (by omega)
  exact ⟨h2, by unfold spC; omega⟩
/-- the law asked: the first clause of a letter whose C holds; how much -/
def spFind (σ : sT) (l : Int32) (e : Nat → Int32) : Option Nat := (List.range (spC σ.1)).find? (fun i => decide (σ.1 34 i = l ∧ σ.2.2 i e = nI 1))
def spAmt (σ : sT) (l high : Int32) (e : Nat → Int32) : Int32 := match spFind σ l e with
  | some i => gMax (nI 0) (gMin high (σ.2.1 i e))
  | none => nI 0
abbrev spHold (σ : sT) (e : Nat → Int32) : Prop := (spFind σ (nI 107) e).isSome = true
def spEnvW (σ : sT) (g n r : Nat) (ch : Int32) : Nat → Int32 := fun k => match k with
  | 0 => nI r
  | 1 => nI n
  | 2 => σ.1 2 r
  | 3 => nI g
  | 4 => σ.1 6 g
  | 5 => σ.1 7 g
  | 6 => σ.1 8 g
  | 7 => ch
  | _ => nI 0
def spEnvF (σ : sT) (g p n r : Nat) (ch comp : Int32) : Nat → Int32 := fun k => match k with
  | 8 => nI p
  | 9 => σ.1 4 p
  | 10 => comp
  | k => spEnvW σ g n r ch k
/-- how many are in the room of p in night n -/
def spCo (σ : sT) (p n : Nat) : Nat := (List.range 10).countP (fun q => decide (tol (σ.1 1 9) q ∧ σ.1 3 (n * 10 + q) = σ.1 3 (n * 10 + p)))
def spBed (σ : sT) (p n : Nat) : Nat := (σ.1 3 (n * 10 + p)).toNatClampNeg
abbrev spNear (σ : sT) (g p n r : Nat) : Prop := r = spBed σ p n ∨ (σ.1 5 g = nI 2 ∧ (r + 1 = spBed σ p n ∨ r = spBed σ p n + 1))
abbrev spLet (kind : Int32) (comp : Nat) (ch : Int32) : Prop := kind ≠ nI 3 ∧ (kind = nI 1 → comp = 1) ∧ (kind = nI 4 → ch = nI 1)
def spFV (σ : sT) (g p n : Nat) (ch : Int32) : Int32 := if spLet (σ.1 5 g) (spCo σ p n) ch ∧ spHold σ (spEnvF σ g p n (spBed σ p n) ch (nI (spCo σ p n))) then spAmt σ (nI 102) (nI 99) (spEnvF σ g p n (spBed σ p n) ch (nI (spCo σ p n))) else (-2)
def spFO (σ : sT) (g p n r : Nat) (ch : Int32) : Int32 := if spNear σ g p n r then spFV σ g p n ch else (-2)
