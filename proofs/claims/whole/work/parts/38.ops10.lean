/-! TWO LOOPS side by side; operations that change nothing -/
theorem gW22 {α β : Type} {f : (Int32 → Int32 → gT → Option α) → Int32 → Int32 → gT → Option α} {g : (Int32 → Int32 → gT → Option β) → Int32 → Int32 → gT → Option β} (Post : Option α → Option β → Prop) (Inv : Nat → Int32 → Int32 → gT → Int32 → Int32 → gT → Prop)
    (hs : ∀ (m : Nat) (go : Int32 → Int32 → gT → Option α) (go' : Int32 → Int32 → gT → Option β) (x0 : Int32) (x1 : Int32) (w : gT) (y0 : Int32) (y1 : Int32) (v : gT), Inv m x0 x1 w y0 y1 v → (∀ (m' : Nat) (x0' : Int32) (x1' : Int32) (w' : gT) (y0' : Int32) (y1' : Int32) (v' : gT), m' < m → Inv m' x0' x1' w' y0' y1' v' → Post (go x0' x1' w') (go' y0' y1' v')) → Post (f go x0 x1 w) (g go' y0 y1 v)) :
    ∀ (n m : Nat) (x0 : Int32) (x1 : Int32) (w : gT) (y0 : Int32) (y1 : Int32) (v : gT), m < n → Inv m x0 x1 w y0 y1 v → Post (gW2 f n x0 x1 w) (gW2 g n y0 y1 v) := by
  intro n
  induction n with
  | zero => intro m x0 x1 w y0 y1 v h; omega
  | succ n ih => intro m x0 x1 w y0 y1 v h hi; exact hs m (gW2 f n) (gW2 g n) x0 x1 w y0 y1 v hi (fun m' x0' x1' w' y0' y1' v' h1 h2 => ih m' x0' x1' w' y0' y1' v' (by omega) h2)
theorem gW33 {α β : Type} {f : (Int32 → Int32 → Int32 → gT → Option α) → Int32 → Int32 → Int32 → gT → Option α} {g : (Int32 → Int32 → Int32 → gT → Option β) → Int32 → Int32 → Int32 → gT → Option β} (Post : Option α → Option β → Prop) (Inv : Nat → Int32 → Int32 → Int32 → gT → Int32 → Int32 → Int32 → gT → Prop)
    (hs : ∀ (m : Nat) (go : Int32 → Int32 → Int32 → gT → Option α) (go' : Int32 → Int32 → Int32 → gT → Option β) (x0 : Int32) (x1 : Int32) (x2 : Int32) (w : gT) (y0 : Int32) (y1 : Int32) (y2 : Int32) (v : gT), Inv m x0 x1 x2 w y0 y1 y2 v → (∀ (m' : Nat) (x0' : Int32) (x1' : Int32) (x2' : Int32) (w' : gT) (y0' : Int32) (y1' : Int32) (y2' : Int32) (v' : gT), m' < m → Inv m' x0' x1' x2' w' y0' y1' y2' v' → Post (go x0' x1' x2' w') (go' y0' y1' y2' v')) → Post (f go x0 x1 x2 w) (g go' y0 y1 y2 v)) :
    ∀ (n m : Nat) (x0 : Int32) (x1 : Int32) (x2 : Int32) (w : gT) (y0 : Int32) (y1 : Int32) (y2 : Int32) (v : gT), m < n → Inv m x0 x1 x2 w y0 y1 y2 v → Post (gW3 f n x0 x1 x2 w) (gW3 g n y0 y1 y2 v) := by
  intro n
  induction n with
  | zero => intro m x0 x1 x2 w y0 y1 y2 v h; omega
  | succ n ih => intro m x0 x1 x2 w y0 y1 y2 v h hi; exact hs m (gW3 f n) (gW3 g n) x0 x1 x2 w y0 y1 y2 v hi (fun m' x0' x1' x2' w' y0' y1' y2' v' h1 h2 => ih m' x0' x1' x2' w' y0' y1' y2' v' (by omega) h2)
theorem gW45 {α β : Type} {f : (Int32 → Int32 → Int32 → Int32 → gT → Option α) → Int32 → Int32 → Int32 → Int32 → gT → Option α} {g : (Int32 → Int32 → Int32 → Int32 → Int32 → gT → Option β) → Int32 → Int32 → Int32 → Int32 → Int32 → gT → Option β} (Post : Option α → Option β → Prop) (Inv : Nat → Int32 → Int32 → Int32 → Int32 → gT → Int32 → Int32 → Int32 → Int32 → Int32 → gT → Prop)
    (hs : ∀ (m : Nat) (go : Int32 → Int32 → Int32 → Int32 → gT → Option α) (go' : Int32 → Int32 → Int32 → Int32 → Int32 → gT → Option β) (x0 : Int32) (x1 : Int32) (x2 : Int32) (x3 : Int32) (w : gT) (y0 : Int32) (y1 : Int32) (y2 : Int32) (y3 : Int32) (y4 : Int32) (v : gT), Inv m x0 x1 x2 x3 w y0 y1 y2 y3 y4 v → (∀ (m' : Nat) (x0' : Int32) (x1' : Int32) (x2' : Int32) (x3' : Int32) (w' : gT) (y0' : Int32) (y1' : Int32) (y2' : Int32) (y3' : Int32) (y4' : Int32) (v' : gT), m' < m → Inv m' x0' x1' x2' x3' w' y0' y1' y2' y3' y4' v' → Post (go x0' x1' x2' x3' w') (go' y0' y1' y2' y3' y4' v')) → Post (f go x0 x1 x2 x3 w) (g go' y0 y1 y2 y3 y4 v)) :
    ∀ (n m : Nat) (x0 : Int32) (x1 : Int32) (x2 : Int32) (x3 : Int32) (w : gT) (y0 : Int32) (y1 : Int32) (y2 : Int32) (y3 : Int32) (y4 : Int32) (v : gT), m < n → Inv m x0 x1 x2 x3 w y0 y1 y2 y3 y4 v → Post (gW4 f n x0 x1 x2 x3 w) (gW5 g n y0 y1 y2 y3 y4 v) := by
  intro n
  induction n with
  | zero => intro m x0 x1 x2 x3 w y0 y1 y2 y3 y4 v h; omega
  | succ n ih => intro m x0 x1 x2 x3 w y0 y1 y2 y3 y4 v h hi; exact hs m (gW4 f n) (gW5 g n) x0 x1 x2 x3 w y0 y1 y2 y3 y4 v hi (fun m' x0' x1' x2' x3' w' y0' y1' y2' y3' y4' v' h1 h2 => ih m' x0' x1' x2' x3' w' y0' y1' y2' y3' y4' v' (by omega) h2)
def Sq (N : Nat) (σ : sT) (w v : gT) : Prop := Rng σ ∧ EncX N σ w ∧ EncM N σ v ∧ v.1 0 0 = σ.1 1 13
theorem Rel.sq {N : Nat} {w v : gT} (h : Rel N w v) : ∃ σ, Sq N σ w v := h
theorem Sq.rel {N : Nat} {σ : sT} {w v : gT} (h : Sq N σ w v) : Rel N w v := ⟨σ, h⟩
theorem Sq.c {N : Nat} {σ : sT} {w v w' v' : gT} (h : Sq N σ w v) {cs ds : List Nat} (h1 : SmC cs w w') (h2 : SmC ds v v') (hc : cs.all (fun c => !pcX c && !(c == 19)) = true) (hd : ds.all (fun c => !pcM c && !(c == 0)) = true) : Sq N σ w' v' :=
  ⟨h.1, h.2.1.sm (h1.toX hc), h.2.2.1.sm (h2.toM hd), (congrFun (h2 0 (fun hm => by have := List.all_eq_true.mp hd 0 hm; simp at this)) 0).trans h.2.2.2⟩
theorem Sq.cx {N : Nat} {σ : sT} {w v w' : gT} (h : Sq N σ w v) {cs : List Nat} (h1 : SmC cs w w') (hc : cs.all (fun c => !pcX c && !(c == 19)) = true) : Sq N σ w' v := ⟨h.1, h.2.1.sm (h1.toX hc), h.2.2⟩
theorem Sq.cm {N : Nat} {σ : sT} {w v v' : gT} (h : Sq N σ w v) {ds : List Nat} (h2 : SmC ds v v') (hd : ds.all (fun c => !pcM c && !(c == 0)) = true) : Sq N σ w v' :=
  ⟨h.1, h.2.1, h.2.2.1.sm (h2.toM hd), (congrFun (h2 0 (fun hm => by have := List.all_eq_true.mp hd 0 hm; simp at this)) 0).trans h.2.2.2⟩
theorem nle {a b : Nat} (ha : a < 2 ^ 30) (hb : b < 2 ^ 30) (h : ¬ a ≤ b) : ¬ nI a ≤ nI b := by rw [nI_leI (by omega) (by omega)]; exact h
theorem yle {a b : Nat} (ha : a < 2 ^ 30) (hb : b < 2 ^ 30) (h : a ≤ b) : nI a ≤ nI b := by rw [nI_leI (by omega) (by omega)]; exact h
theorem nlt {a b : Nat} (ha : a < 2 ^ 30) (hb : b < 2 ^ 30) (h : ¬ a < b) : ¬ nI a < nI b := by rw [nI_ltI (by omega) (by omega)]; exact h
theorem ylt {a b : Nat} (ha : a < 2 ^ 30) (hb : b < 2 ^ 30) (h : a < b) : nI a < nI b := by rw [nI_ltI (by omega) (by omega)]; exact h
theorem o_draughts {N : Nat} (hN : 5000 ≤ N) {wx wm : gT} (h : Rel N wx wm) : OpOk N (xX9_draughts N wx) (xX10_draughts N wm) := by
  obtain ⟨σ, hR, hX, hM, h4⟩ := id h
  unfold xX9_draughts xX10_draughts
  refine gW22 (OpOk N) (fun m x0 x1 w y0 y1 v => ∃ i, i ≤ 10 ∧ x0 = y0 ∧ x1 = nI i ∧ y1 = nI i ∧ m = 10 - i ∧ w = wx ∧ v = wm) ?_ N 10 _ _ _ _ _ _ (by omega) ⟨0, by omega, rfl, rfl, rfl, rfl, rfl, rfl⟩
  rintro m go go' x0 x1 w y0 y1 v ⟨i, hi, rfl, rfl, rfl, rfl, rfl, rfl⟩ ih
  unfold xX9_draughts_b4 xX10_draughts_b4
  by_cases q : 10 ≤ i
  · rw [if_pos (yle (by omega) (by omega) q), if_pos (yle (by omega) (by omega) q)]
    exact OpOk.o h
  · rw [if_neg (nle (by omega) (by omega) q), if_neg (nle (by omega) (by omega) q), gLet_s, gLet_s, m_isGhost _ (by omega)]
    try dsimp only
    rw [x_hasGhost _ (by omega)]
    simp only [gLet_s, gBi_s, ifb]
    simp (disch := omega) only [nI_add, nI_mul, nI_clamp, nI_leI, nI_ltI, nI_eq, pk_sub, pk_div, nI_rem, gG_in]
    rw [hM.gh, hX.1 1 rfl, hX.1 9 rfl, show v.1 8 (30 + i) = σ.1 9 (30 + i) from hM.1.2.2.2.2.2.2.2.1 (30 + i) (by omega) (by omega), show v.1 8 (20 + i) = σ.1 9 (20 + i) from hM.1.2.2.2.2.2.2.2.1 (20 + i) (by omega) (by omega)]
    have key : ∀ z : Int32, OpOk N (go z (nI (i + 1)) w) (go' z (nI (i + 1)) v) := fun z => ih (10 - (i + 1)) _ _ _ _ _ _ (by omega) ⟨i + 1, by omega, rfl, rfl, rfl, rfl, rfl, rfl⟩
    by_cases t : tol (σ.1 1 8) i
    · simp only [if_pos t]
      by_cases q1 : σ.1 9 (30 + i) ≤ nI 0
      · rw [if_pos q1, if_pos q1, if_pos trivial]
        exact key _
      · rw [if_neg q1, if_neg q1, if_neg (by decide)]
        by_cases q2 : σ.1 9 (20 + i) = nI 0
        · rw [if_pos q2, if_pos q2]
          exact key _
        · rw [if_neg q2, if_neg q2]
          exact key _
    · simp only [if_neg t]
      by_cases q1 : σ.1 9 (30 + i) ≤ nI 0
      · rw [if_pos q1]
        exact key _
      · rw [if_neg q1]
        exact key _
/-- how much a ghost frightens all, by p below k -/
def spAll (σ : sT) (g n r : Nat) (ch : Int32) : Nat → Nat
  | 0 => 0
  | k + 1 => spAll σ g n r ch k + (if tol (σ.1 1 9) k ∧ spFO σ g k n r ch ≠ (-2) then (spFO σ g k n r ch).toNatClampNeg else 0)
theorem spAll_le (σ : sT) (g n r : Nat) (ch : Int32) : ∀ k, spAll σ g n r ch k ≤ 99 * k
  | 0 => by unfold spAll; omega
  | k + 1 => by
    have h := spAll_le σ g n r ch k
    show spAll σ g n r ch k + _ ≤ _
    rcases spFO_cases σ g k n r ch with e | e
    · rw [if_neg (fun z => z.2 e)]; omega
    · obtain ⟨h1, -⟩ := e.cl (by omega)
      split <;> omega
theorem gMax_m2 : gMax (nI 0) (-2) = nI 0 := by decide
theorem gMax_0 {v : Nat} (hv : v < 2 ^ 30) : gMax (nI 0) (nI v) = nI v := by
  have := clamp_eq (nI 999) (nI 0) ⟨999, by omega, rfl⟩
  unfold gMax
  split
  · rfl
  · rename_i h
    rw [nI_ltI (by omega) (by omega)] at h
    rw [show v = 0 by omega]
theorem x_frightOfAll {N : Nat} (hN : 5000 ≤ N) {σ : sT} {w : gT} (hE : EncX N σ w) (hR : Rng σ) {g n r : Nat} (hg : g < 10) (hn : n < 7) (hr : r < 12) (ch : Int32) : ∃ w', xX1_frightOfAll N (nI g) (nI n) (nI r) ch w = some (nI (spAll σ g n r ch 10), w') ∧ SmC [39, 49] w w' := by
  unfold xX1_frightOfAll
  refine gW2_ind (fun t => ∃ w', t = some (nI (spAll σ g n r ch 10), w') ∧ SmC [39, 49] w w') (fun m a b w1 => ∃ k, k ≤ 10 ∧ a = nI (spAll σ g n r ch k) ∧ b = nI k ∧ m = 10 - k ∧ SmC [39, 49] w w1) ?_ N 10 _ _ w (by omega) ⟨0, by omega, rfl, rfl, rfl, SmC.rf⟩
  rintro m go a b w1 ⟨k, hk, rfl, rfl, rfl, hs⟩ ih
  have hE1 : EncX N σ w1 := hE.sm (hs.toX rfl)
  unfold xX1_frightOfAll_b6
  by_cases h : 10 ≤ k
  · rw [if_pos (yle (by omega) (by omega) h)]
    have : k = 10 := by omega
    subst this
    exact ⟨w1, rfl, hs⟩
  · rw [if_neg (nle (by omega) (by omega) h), gLet_s, x_hasSleeper _ (by omega), gBi_s, ifb, hE1.1 1 rfl, nI_add]
    by_cases q1 : tol (σ.1 1 9) k
    · rw [if_pos q1]
      obtain ⟨w2, e2, s2⟩ := x_frightOf hN hE1 hR hg (show k < 10 by omega) hn hr ch
      rw [e2, gBi_s, gLet_s]
      refine ih (10 - (k + 1)) _ _ _ (by omega) ⟨k + 1, by omega, ?_, rfl, rfl, hs.tr s2⟩
      show _ = nI (spAll σ g n r ch k + _)
      have hb := spAll_le σ g n r ch k
      rcases spFO_cases σ g k n r ch with e | e
      · rw [if_neg (fun z => z.2 e), e, gMax_m2, nI_add]
      · rw [if_pos ⟨q1, (bl_ne2 (by omega) e).1⟩]
        obtain ⟨v, hv, ev⟩ := e
        rw [ev, gMax_0 (by omega), nI_add, nI_clamp (by omega)]
    · rw [if_neg q1]
      refine ih (10 - (k + 1)) _ _ _ (by omega) ⟨k + 1, by omega, ?_, rfl, rfl, hs⟩
      show _ = nI (spAll σ g n r ch k + _)
      rw [if_neg (fun z => q1 z.1)]
      rfl
theorem m_frightBy {N : Nat} (hN : 5000 ≤ N) {σ : sT} {w : gT} (hE : EncM N σ w) (hR : Rng σ) {g n r : Nat} (hg : g < 10) (hn : n < 7) (hr : r < 12) {ch : Int32} (hch : Bl ch 2) : ∃ w', xX10_frightBy N (nI g) (nI n) (nI r) ch w = some (nI (spAll σ g n r ch 10), w') ∧ SmC [29, 30] w w' := by
  unfold xX10_frightBy
  refine gW2_ind (fun t => ∃ w', t = some (nI (spAll σ g n r ch 10), w') ∧ SmC [29, 30] w w') (fun m a b w1 => ∃ k, k ≤ 10 ∧ a = nI (spAll σ g n r ch k) ∧ b = nI k ∧ m = 10 - k ∧ SmC [29, 30] w w1) ?_ N 10 _ _ w (by omega) ⟨0, by omega, rfl, rfl, rfl, SmC.rf⟩
  rintro m go a b w1 ⟨k, hk, rfl, rfl, rfl, hs⟩ ih
  have hE1 : EncM N σ w1 := hE.sm (hs.toM rfl)
  unfold xX10_frightBy_b6
  by_cases h : 10 ≤ k
  · rw [if_pos (yle (by omega) (by omega) h)]
    have : k = 10 := by omega
    subst this
    exact ⟨w1, rfl, hs⟩
  · rw [if_neg (nle (by omega) (by omega) h), gLet_s]
    try dsimp only
    rw [m_isSleeper _ (by omega), gBi_s, ifb, hE1.sl, nI_add]
    simp only [gLet_s]
    by_cases q1 : tol (σ.1 1 9) k
    · rw [if_pos q1]
      obtain ⟨w2, e2, s2⟩ := m_frightOf hN hE1 hR hg (show k < 10 by omega) hn hr hch
      rw [e2, gBi_s]
      have hb := spAll_le σ g n r ch k
      have key : ∀ z : Int32, z = nI (if tol (σ.1 1 9) k ∧ spFO σ g k n r ch ≠ (-2) then (spFO σ g k n r ch).toNatClampNeg else 0) → ∃ w', go (nI (spAll σ g n r ch k) + z) (nI (k + 1)) w2 = some (nI (spAll σ g n r ch 10), w') ∧ SmC [29, 30] w w' := by
        rintro z rfl
        refine ih (10 - (k + 1)) _ _ _ (by omega) ⟨k + 1, by omega, ?_, rfl, rfl, hs.tr s2⟩
        rw [nI_add]
        rfl
      rcases spFO_cases σ g k n r ch with e | e
      · rw [e, if_pos (by decide)]
        exact key _ (by rw [if_neg (fun z => z.2 e)])
      · have hne := (bl_ne2 (by omega) e).1
        obtain ⟨v, hv, ev⟩ := e
        rw [ev]
        by_cases hv0 : v ≤ 0
        · rw [if_pos (yle (by omega) (by omega) hv0)]
          refine key _ ?_
          rw [if_pos ⟨q1, hne⟩, ev, nI_clamp (by omega), show v = 0 by omega]
        · rw [if_neg (nle (by omega) (by omega) hv0)]
          refine key _ ?_
          rw [if_pos ⟨q1, hne⟩, ev, nI_clamp (by omega)]
    · rw [if_neg q1, if_pos (by decide)]
      refine ih (10 - (k + 1)) _ _ _ (by omega) ⟨k + 1, by omega, ?_, rfl, rfl, hs⟩
      show _ = nI (spAll σ g n r ch k + _)
      rw [if_neg (fun z => q1 z.1), nI_add]
