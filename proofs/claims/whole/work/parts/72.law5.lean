/-! THE LAW READ by both: what may change, what a stretch of codes is -/
def LX (w w' : gT) : Prop := (∀ c, c ∉ [19, 40, 44, 45] → w'.1 c = w.1 c) ∧ w'.1 19 1 = w.1 19 1 ∧ w'.1 19 2 = w.1 19 2 ∧ w'.1 40 3 = w.1 40 3
def LM (v v' : gT) : Prop := (∀ c, c ∉ [0, 18, 19] → v'.1 c = v.1 c) ∧ ∀ i, i ∉ [15, 17, 18, 29, 30, 31] → v'.1 0 i = v.1 0 i
theorem LX.rf {w : gT} : LX w w := ⟨fun _ _ => rfl, rfl, rfl, rfl⟩
theorem LM.rf {v : gT} : LM v v := ⟨fun _ _ => rfl, fun _ _ => rfl⟩
theorem LX.tr {w w1 w2 : gT} (h : LX w w1) (h2 : LX w1 w2) : LX w w2 := ⟨fun c hc => (h2.1 c hc).trans (h.1 c hc), h2.2.1.trans h.2.1, h2.2.2.1.trans h.2.2.1, h2.2.2.2.trans h.2.2.2⟩
theorem LM.tr {v v1 v2 : gT} (h : LM v v1) (h2 : LM v1 v2) : LM v v2 := ⟨fun c hc => (h2.1 c hc).trans (h.1 c hc), fun i hi => (h2.2 i hi).trans (h.2 i hi)⟩
theorem LX.t {w : gT} {i : Nat} {x : Int32} (hi : 2 < i) : LX w (gU w 19 i x) := ⟨fun c hc => gU1 (fun z => hc (by rw [z]; decide)), gU2 (by omega), gU2 (by omega), by rw [gU1 (by decide)]⟩
theorem LX.s {w : gT} {i : Nat} {x : Int32} (hi : i ≠ 3) : LX w (gU w 40 i x) := ⟨fun c hc => gU1 (fun z => hc (by rw [z]; decide)), by rw [gU1 (by decide)], by rw [gU1 (by decide)], gU2 (Ne.symm hi)⟩
theorem LX.c {w : gT} {a i : Nat} {x : Int32} (ha : a = 44 ∨ a = 45) : LX w (gU w a i x) := by
  rcases ha with rfl | rfl
  · exact ⟨fun c hc => gU1 (fun z => hc (by rw [z]; decide)), by rw [gU1 (by decide)], by rw [gU1 (by decide)], by rw [gU1 (by decide)]⟩
  · exact ⟨fun c hc => gU1 (fun z => hc (by rw [z]; decide)), by rw [gU1 (by decide)], by rw [gU1 (by decide)], by rw [gU1 (by decide)]⟩
theorem LM.n {v : gT} {i : Nat} {x : Int32} (hi : i ∈ [15, 17, 18, 29, 30, 31]) : LM v (gU v 0 i x) := ⟨fun c hc => gU1 (fun z => hc (by rw [z]; decide)), fun j hj => gU2 (fun z => hj (z ▸ hi))⟩
theorem LM.c {v : gT} {a i : Nat} {x : Int32} (ha : a = 18 ∨ a = 19) : LM v (gU v a i x) := by
  rcases ha with rfl | rfl
  · exact ⟨fun c hc => gU1 (fun z => hc (by rw [z]; decide)), fun j hj => by rw [gU1 (by decide)]⟩
  · exact ⟨fun c hc => gU1 (fun z => hc (by rw [z]; decide)), fun j hj => by rw [gU1 (by decide)]⟩
theorem FX.lx {w w' : gT} (h : FX w w') : LX w w' := ⟨fun c hc => h.1 c (fun z => hc (by simp at z; rw [z]; decide)), h.2.1, h.2.2, by rw [h.1 40 (by decide)]⟩
theorem FM.lm {v v' : gT} (h : FM v v') : LM v v' := ⟨fun c hc => h.1 c (fun z => hc (by simp at z; rw [z]; decide)), fun i hi => h.2 i (fun z => hi (by simp at z ⊢; omega))⟩
/-- a step of the class' code against the model's word -/
def CdC (a b : Int32) (x k : Nat) : Prop := a = nI (opX (cO x)) ∧ (cO x = 0 → b = nI (cA x)) ∧ (cO x = 1 → b = nI (posX (cA x))) ∧ (cO x = 11 ∨ cO x = 12 → b = nI (cA x + k))
def Sg (w v : gT) (k : Nat) (κ : Nat → Nat) (i m : Nat) : Prop := ∃ x, v.1 18 i = nI x ∧ TyS (fun _ => x) κ m i ∧ CdC (w.1 44 (i + k)) (w.1 45 (i + k)) x k
theorem TyS_mono {x : Nat} {κ κ' : Nat → Nat} {i m m' : Nat} (h : TyS (fun _ => x) κ m i) (him : i < m) (hm : m ≤ m') (hk : ∀ j, j ≤ m → κ' j = κ j) : TyS (fun _ => x) κ' m' i := by
  unfold TyS at h ⊢
  rw [hk i (by omega), hk (i + 1) (by omega)]
  rcases h with h | h | h | ⟨h1, h2, h3, h4, h5, h6⟩ | h | h
  · exact Or.inl h
  · exact Or.inr (Or.inl h)
  · exact Or.inr (Or.inr (Or.inl h))
  · exact Or.inr (Or.inr (Or.inr (Or.inl ⟨h1, h2, h3, h4, by omega, by rw [hk _ h5]; exact h6⟩)))
  · exact Or.inr (Or.inr (Or.inr (Or.inr (Or.inl h))))
  · exact Or.inr (Or.inr (Or.inr (Or.inr (Or.inr h))))
theorem Sg_mono {w v w' v' : gT} {k : Nat} {κ κ' : Nat → Nat} {i m m' : Nat} (h : Sg w v k κ i m) (him : i < m) (hm : m ≤ m') (hk : ∀ j, j ≤ m → κ' j = κ j) (e44 : w'.1 44 (i + k) = w.1 44 (i + k)) (e45 : w'.1 45 (i + k) = w.1 45 (i + k)) (e18 : v'.1 18 i = v.1 18 i) : Sg w' v' k κ' i m' := by
  obtain ⟨x, h1, h2, h3⟩ := h
  exact ⟨x, e18.trans h1, TyS_mono h2 him hm hk, by rw [e44, e45]; exact h3⟩
def Fr (k m h : Nat) (w v w' v' : gT) : Prop := (∀ i, i < m + k → w'.1 44 i = w.1 44 i ∧ w'.1 45 i = w.1 45 i) ∧ (∀ i, i < m → v'.1 18 i = v.1 18 i) ∧ (∀ j, j < h → v'.1 19 j = v.1 19 j) ∧ LX w w' ∧ LM v v'
def Tr (k h : Nat) (w v : gT) (pos m : Nat) (κ : Nat → Nat) (w' v' : gT) (pos' m' : Nat) (κ' : Nat → Nat) : Prop := pos ≤ pos' ∧ m ≤ m' ∧ m' + pos ≤ m + pos' ∧ (∀ i, i ≤ m → κ' i = κ i) ∧ (∀ i, m ≤ i → i < m' → Sg w' v' k κ' i m') ∧ Fr k m h w v w' v'
theorem Fr.tr {k m h m2 h2 : Nat} {w v w1 v1 w2 v2 : gT} (a : Fr k m h w v w1 v1) (b : Fr k m2 h2 w1 v1 w2 v2) (hm : m ≤ m2) (hh : h ≤ h2) : Fr k m h w v w2 v2 := ⟨fun i hi => ⟨((b.1 i (by omega)).1).trans (a.1 i hi).1, ((b.1 i (by omega)).2).trans (a.1 i hi).2⟩, fun i hi => (b.2.1 i (by omega)).trans (a.2.1 i hi), fun j hj => (b.2.2.1 j (by omega)).trans (a.2.2.1 j hj), a.2.2.2.1.tr b.2.2.2.1, a.2.2.2.2.tr b.2.2.2.2⟩
theorem Tr.tr {k h h2 : Nat} {w v w1 v1 w2 v2 : gT} {pos m pos1 m1 pos2 m2 : Nat} {κ κ1 κ2 : Nat → Nat} (a : Tr k h w v pos m κ w1 v1 pos1 m1 κ1) (b : Tr k h2 w1 v1 pos1 m1 κ1 w2 v2 pos2 m2 κ2) (hh : h ≤ h2) : Tr k h w v pos m κ w2 v2 pos2 m2 κ2 := by
  obtain ⟨a1, a2, a3, a4, a5, a6⟩ := a
  obtain ⟨b1, b2, b3, b4, b5, b6⟩ := b
  refine ⟨by omega, by omega, by omega, fun i hi => (b4 i (by omega)).trans (a4 i hi), fun i h1 h2 => ?_, a6.tr b6 a2 hh⟩
  by_cases c : i < m1
  · exact Sg_mono (a5 i h1 c) c b2 (fun j hj => b4 j hj) (b6.1 _ (by omega)).1 (b6.1 _ (by omega)).2 (b6.2.1 _ c)
  · exact b5 i (by omega) h2
/-- nothing written -/
theorem Tr.u {k h : Nat} {w v w' v' : gT} {pos m pos' : Nat} {κ : Nat → Nat} (hp : pos ≤ pos') (e44 : w'.1 44 = w.1 44) (e45 : w'.1 45 = w.1 45) (e18 : v'.1 18 = v.1 18) (e19 : ∀ j, j < h → v'.1 19 j = v.1 19 j) (hx : LX w w') (hm : LM v v') : Tr k h w v pos m κ w' v' pos' m κ := ⟨hp, Nat.le_refl _, by omega, fun _ _ => rfl, fun i h1 h2 => absurd h1 (by omega), fun i _ => ⟨by rw [e44], by rw [e45]⟩, fun i _ => by rw [e18], e19, hx, hm⟩
theorem Tr.rf {k h : Nat} {w v : gT} {pos m : Nat} {κ : Nat → Nat} : Tr k h w v pos m κ w v pos m κ := Tr.u (Nat.le_refl _) rfl rfl rfl (fun _ _ => rfl) LX.rf LM.rf
def addS (w : gT) (n : Nat) (a b : Int32) : gT := gU (gU (gU w 44 n a) 45 n b) 40 6 (nI (n + 1))
def notS (v : gT) (m x : Nat) : gT := gU (gU v 18 m (nI x)) 0 30 (nI (m + 1))
def updK (κ : Nat → Nat) (i t : Nat) : Nat → Nat := fun j => if j = i then t else κ j
theorem addS_x {w : gT} {n : Nat} (h : w.1 40 6 = nI n) (hn : n < 256) (a b : Int32) : xX3_addStep a b w = some (addS w n a b) := by
  unfold xX3_addStep addS
  rw [h, if_neg (nle (by omega) (by omega) (by omega)), gG_in hn (by omega), gLet_s, gU1 (by decide), h, gG_in hn (by omega), gLet_s, gU1 (by decide), gU1 (by decide), h, gLet_s, nI_add, nI_clamp (by omega)]
theorem notS_m {v : gT} {m : Nat} (h : v.1 0 30 = nI m) (hm : m < 220) (a b : Nat) : xX10_notes (nI a) (nI b) v = some (notS v m (1048576 * a + b)) := by
  unfold xX10_notes notS
  rw [h, gG_in hm (by omega), gLet_s, gLet_s, gU1 (by decide), h, nI_mul, nI_add, nI_add, nI_clamp (by omega)]
theorem addS_lx (w : gT) (n : Nat) (a b : Int32) : LX w (addS w n a b) := (LX.c (Or.inl rfl)).tr ((LX.c (Or.inr rfl)).tr (LX.s (by decide)))
theorem notS_lm (v : gT) (m x : Nat) : LM v (notS v m x) := (LM.c (Or.inl rfl)).tr (LM.n (by decide))
theorem addS_44 {w : gT} {n i : Nat} {a b : Int32} : (addS w n a b).1 44 i = if i = n then a else w.1 44 i := by
  unfold addS
  rw [gU1 (by decide), gU1 (by decide), gUs]
theorem addS_45 {w : gT} {n i : Nat} {a b : Int32} : (addS w n a b).1 45 i = if i = n then b else w.1 45 i := by
  unfold addS
  rw [gU1 (by decide), gUs, gU1 (by decide)]
theorem notS_18 {v : gT} {m x i : Nat} : (notS v m x).1 18 i = if i = m then nI x else v.1 18 i := by
  unfold notS
  rw [gU1 (by decide), gUs]
/-- a code put down by both -/
theorem Tr.emit {k h : Nat} {w v : gT} {pos m t x : Nat} {κ : Nat → Nat} {a b : Int32} (hx : TyS (fun _ => x) (updK κ (m + 1) t) (m + 1) m) (hc : CdC a b x k) : Tr k h w v pos m κ (addS w (m + k) a b) (notS v m x) (pos + 1) (m + 1) (updK κ (m + 1) t) := by
  refine ⟨by omega, by omega, by omega, fun i hi => if_neg (by omega), fun i h1 h2 => ?_, fun i hi => ?_, fun i hi => ?_, fun j hj => ?_, addS_lx _ _ _ _, notS_lm _ _ _⟩
  · have : i = m := by omega
    subst this
    refine ⟨x, ?_, hx, ?_⟩
    · rw [notS_18, if_pos rfl]
    · rw [addS_44, addS_45, if_pos rfl, if_pos rfl]
      exact hc
  · rw [addS_44, addS_45, if_neg (by omega), if_neg (by omega)]
    exact ⟨rfl, rfl⟩
  · rw [notS_18, if_neg (by omega)]
  · unfold notS
    rw [gU1 (by decide), gU1 (by decide)]
/-- both stand at the same place -/
def In (B : Nat → Int32) (len k o h : Nat) (w v : gT) (pos m : Nat) : Prop := XT B w len pos ∧ MT B v len pos ∧ w.1 40 6 = nI (m + k) ∧ v.1 0 30 = nI m ∧ v.1 0 29 = nI o ∧ v.1 0 31 = nI h ∧ m ≤ pos ∧ h ≤ pos ∧ len ≤ 200 ∧ k ≤ 28 ∧ o ≤ 6
