def GX2 (w w' : gT) : Prop := (∀ c, c ∉ [19, 40, 41, 42, 43, 44, 45] → w'.1 c = w.1 c) ∧ w'.1 19 1 = w.1 19 1 ∧ w'.1 19 2 = w.1 19 2
def GM2 (v v' : gT) : Prop := (∀ c, c ∉ [0, 18, 19, 20, 21, 22, 23] → v'.1 c = v.1 c) ∧ ∀ i, i ∉ [15, 17, 18, 29, 30, 31, 32] → v'.1 0 i = v.1 0 i
theorem GX2.rf {w : gT} : GX2 w w := ⟨fun _ _ => rfl, rfl, rfl⟩
theorem GM2.rf {v : gT} : GM2 v v := ⟨fun _ _ => rfl, fun _ _ => rfl⟩
theorem GX2.tr {w w1 w2 : gT} (h : GX2 w w1) (h2 : GX2 w1 w2) : GX2 w w2 := ⟨fun c hc => (h2.1 c hc).trans (h.1 c hc), h2.2.1.trans h.2.1, h2.2.2.trans h.2.2⟩
theorem GM2.tr {v v1 v2 : gT} (h : GM2 v v1) (h2 : GM2 v1 v2) : GM2 v v2 := ⟨fun c hc => (h2.1 c hc).trans (h.1 c hc), fun i hi => (h2.2 i hi).trans (h.2 i hi)⟩
theorem LX.g {w w' : gT} (h : LX w w') : GX2 w w' := ⟨fun c hc => h.1 c (fun z => hc (by simp at z ⊢; omega)), h.2.1, h.2.2.1⟩
theorem LM.g {v v' : gT} (h : LM v v') : GM2 v v' := ⟨fun c hc => h.1 c (fun z => hc (by simp at z ⊢; omega)), fun i hi => h.2 i (fun z => hi (by simp at z ⊢; omega))⟩
theorem GX2.u {w : gT} {a i : Nat} {x : Int32} (ha : a ∈ [40, 41, 42, 43, 44, 45]) : GX2 w (gU w a i x) := by
  have h19 : (19 : Nat) ≠ a := fun z => by
    subst z
    simp at ha
  refine ⟨fun c hc => gU1 (fun z => hc ?_), by rw [gU1 h19], by rw [gU1 h19]⟩
  simp at ha ⊢
  omega
theorem GM2.u {v : gT} {a i : Nat} {x : Int32} (ha : a ∈ [20, 21, 22, 23]) : GM2 v (gU v a i x) := by
  have h0 : (0 : Nat) ≠ a := fun z => by
    subst z
    simp at ha
  refine ⟨fun c hc => gU1 (fun z => hc ?_), fun j hj => by rw [gU1 h0]⟩
  simp at ha ⊢
  omega
theorem GM2.z {v : gT} {i : Nat} {x : Int32} (hi : i ∈ [15, 17, 18, 29, 30, 31, 32]) : GM2 v (gU v 0 i x) := ⟨fun c hc => gU1 (fun z => hc (by rw [z]; decide)), fun j hj => gU2 (fun z => hj (z ▸ hi))⟩
def ClOk (w v : gT) (i m n : Nat) : Prop := w.1 41 i = v.1 20 i ∧ ∃ a b e k0 k1, v.1 21 i = nI a ∧ v.1 22 i = nI b ∧ v.1 23 i = nI e ∧ w.1 42 i = nI (a + k0) ∧ w.1 43 i = nI (b + k1) ∧ (w.1 41 i ≠ nI 107 → Seg w v k0 a b 1 n) ∧ Seg w v k1 b e 100 n ∧ b ≤ m ∧ e ≤ m
theorem ClOk.mono {w v w' v' : gT} {i m n m' n' : Nat} (h : ClOk w v i m n) (e44 : ∀ i, i < n → w'.1 44 i = w.1 44 i ∧ w'.1 45 i = w.1 45 i) (e18 : ∀ i, i < m → v'.1 18 i = v.1 18 i) (hn : n ≤ n') (hm : m ≤ m') (ew : w'.1 41 i = w.1 41 i ∧ w'.1 42 i = w.1 42 i ∧ w'.1 43 i = w.1 43 i) (ev : v'.1 20 i = v.1 20 i ∧ v'.1 21 i = v.1 21 i ∧ v'.1 22 i = v.1 22 i ∧ v'.1 23 i = v.1 23 i) : ClOk w' v' i m' n' := by
  obtain ⟨h1, a, b, e, k0, k1, h2, h3, h4, h5, h6, h7, h8, h9, h10⟩ := h
  unfold ClOk
  rw [ew.1, ew.2.1, ew.2.2, ev.1, ev.2.1, ev.2.2.1, ev.2.2.2]
  exact ⟨h1, a, b, e, k0, k1, h2, h3, h4, h5, h6, fun z => (h7 z).mono e44 (fun i hi => e18 i (by omega)) hn, h8.mono e44 (fun i hi => e18 i (by omega)) hn, by omega, by omega⟩
def CS (B : Nat → Int32) (len : Nat) (w v : gT) (pos m k c : Nat) : Prop := XT B w len pos ∧ MT B v len pos ∧ w.1 40 6 = nI (m + k) ∧ v.1 0 30 = nI m ∧ w.1 40 3 = nI c ∧ v.1 0 32 = nI c ∧ c ≤ 14 ∧ k ≤ 2 * c ∧ m ≤ pos ∧ len ≤ 200 ∧ ∀ i, i < c → ClOk w v i m (m + k)
def clK1 (N : Nat) (v2 : Int32) (w3 : gT) : Option gT :=
  (if (w3.1 19 4) = (nI 0) then
    gLet (gU w3 19 3 ((w3.1 19 3) + (nI 1))) fun (w13 : gT) =>
    gLet (w13.1 40 6) fun (v14 : Int32) =>
    (if v2 = (nI 107) then
      qC N v2 v14 w13
    else
      gBv (xX4_readSum N 9 (nI 0) w13) fun (w15 : gT) =>
      gBv (xX3_addStep (nI 2) (nI 0) w15) fun (w16 : gT) =>
      qC N v2 v14 w16)
  else
    some w3)
def clK17 (N : Nat) (v18 : Int32) (w19 : gT) : Option gT :=
  (if (w19.1 40 3) = (nI 14) then
    gBv (xX6_fail (nI 4) w19) fun (w20 : gT) =>
    clK1 N v18 w20
  else
    clK1 N v18 w19)
theorem rCl_e (N : Nat) (w : gT) : xX4_readClause N w = gBi (xX6_peek w) fun (v21 : Int32) (w22 : gT) => (if v21 = (nI 107) then clK17 N v21 w22 else (if v21 = (nI 102) then clK17 N v21 w22 else (if v21 = (nI 119) then clK17 N v21 w22 else (if v21 = (nI 122) then clK17 N v21 w22 else (if v21 = (nI 113) then clK17 N v21 w22 else gBv (xX6_fail (nI 1) w22) fun (w23 : gT) => clK1 N v21 w23))))) := rfl
def isCl (p : Int32) : Prop := p = nI 107 ∨ p = nI 102 ∨ p = nI 119 ∨ p = nI 122 ∨ p = nI 113
theorem rCl_1 {N : Nat} {B : Nat → Int32} {w : gT} {len pos : Nat} (hx : XT B w len pos) (hc : isCl (pkV B len pos)) : xX4_readClause N w = clK17 N (pkV B len pos) w := by
  rw [rCl_e, x_peek hx, gBi_s]
  rcases hc with h | h | h | h | h <;> rw [h] <;> rfl
theorem rCl_0 {N : Nat} {B : Nat → Int32} {w : gT} {len pos : Nat} (hx : XT B w len pos) (hc : ¬ isCl (pkV B len pos)) : xX4_readClause N w = clK1 N (pkV B len pos) (gU w 19 4 (fc 1 pos)) := by
  unfold isCl at hc
  rw [rCl_e, x_peek hx, gBi_s, if_neg (fun z => hc (Or.inl z)), if_neg (fun z => hc (Or.inr (Or.inl z))), if_neg (fun z => hc (Or.inr (Or.inr (Or.inl z)))), if_neg (fun z => hc (Or.inr (Or.inr (Or.inr (Or.inl z))))), if_neg (fun z => hc (Or.inr (Or.inr (Or.inr (Or.inr z))))), x_fail hx, gBv_s]
theorem mCl_1 {p : Int32} (hc : isCl p) (w : gT) : xX10_isClause p w = some (nI 1, w) := by
  rcases hc with rfl | rfl | rfl | rfl | rfl <;> rfl
theorem mCl_0 {p : Int32} (hc : ¬ isCl p) (w : gT) : xX10_isClause p w = some (nI 0, w) := by
  unfold isCl at hc
  unfold xX10_isClause
  rw [if_neg (fun z => hc (Or.inl z)), if_neg (fun z => hc (Or.inr (Or.inl z))), if_neg (fun z => hc (Or.inr (Or.inr (Or.inl z)))), if_neg (fun z => hc (Or.inr (Or.inr (Or.inr (Or.inl z))))), if_neg (fun z => hc (Or.inr (Or.inr (Or.inr (Or.inr z)))))]
def mK5 (N : Nat) : gT → Option (Int32 × gT) := fun (w6 : gT) =>
    gG (w6.1 0 32) 14 <|
    gLet (gU w6 22 (w6.1 0 32).toNatClampNeg (w6.1 0 30)) fun (w7 : gT) =>
    gBi (xX10_readsCondition N w7) fun (v8 : Int32) (w9 : gT) =>
    (if v8 = (nI 0) then
      some ((nI 0), w9)
    else
      gG (w9.1 0 32) 14 <|
      gLet (gU w9 23 (w9.1 0 32).toNatClampNeg (w9.1 0 30)) fun (w10 : gT) =>
      gLet (gU w10 0 32 ((w10.1 0 32) + (nI 1))) fun (w11 : gT) =>
      some ((nI 1), w11))
def v16C (v : gT) (c pos m : Nat) (l : Int32) : gT := gU (gU (gU (gU (gU v 20 c l) 0 15 (nI (pos + 1))) 21 c (nI m)) 0 29 (nI 0)) 0 31 (nI 0)
theorem rMl_e (N : Nat) (w : gT) : xX10_readsClause N w = gBi (xX10_here w) fun (v1 : Int32) (w2 : gT) => gBi (xX10_isClause v1 w2) fun (v3 : Int32) (w4 : gT) => (if v3 = (nI 0) then gBi (xX10_wrongAt (nI 1) (w4.1 0 15) w4) fun (v21 : Int32) (w22 : gT) => if v21 = nI 0 ∨ v21 = nI 1 then some (v21, w22) else none else (if (w4.1 0 32) = (nI 14) then gBi (xX10_wrongAt (nI 4) (w4.1 0 15) w4) fun (v19 : Int32) (w20 : gT) => if v19 = nI 0 ∨ v19 = nI 1 then some (v19, w20) else none else gG (w4.1 0 32) 14 <| gLet (gU w4 20 (w4.1 0 32).toNatClampNeg v1) fun (w12 : gT) => gLet (gU w12 0 15 ((w12.1 0 15) + (nI 1))) fun (w13 : gT) => gG (w13.1 0 32) 14 <| gLet (gU w13 21 (w13.1 0 32).toNatClampNeg (w13.1 0 30)) fun (w14 : gT) => gLet (gU w14 0 29 (nI 0)) fun (w15 : gT) => gLet (gU w15 0 31 (nI 0)) fun (w16 : gT) => (if v1 = (nI 107) then mK5 N w16 else gBi (xX10_readsSum N w16) fun (v17 : Int32) (w18 : gT) => (if v17 = (nI 0) then some ((nI 0), w18) else mK5 N w18)))) := rfl
theorem rMl_1 {N : Nat} {B : Nat → Int32} {v : gT} {len pos m c : Nat} (hm : MT B v len pos) (h5 : pos ≤ len) (h6 : len ≤ 220) (hc : isCl (pkV B len pos)) (e32 : v.1 0 32 = nI c) (e30 : v.1 0 30 = nI m) (hc14 : c < 14) : xX10_readsClause N v = (if pkV B len pos = nI 107 then mK5 N (v16C v c pos m (pkV B len pos)) else gBi (xX10_readsSum N (v16C v c pos m (pkV B len pos))) fun (v17 : Int32) (w18 : gT) => (if v17 = (nI 0) then some ((nI 0), w18) else mK5 N w18)) := by
  unfold v16C
  rw [rMl_e, m_here hm h5 h6, gBi_s, mCl_1 hc, gBi_s, if_neg nI_10, e32, if_neg (nI_no (by omega) (by omega) (by omega)), gG_in (n := 14) hc14 (by omega), gLet_s, gLet_s, gU2 (by decide), gU1 (by decide), e32, gG_in (n := 14) hc14 (by omega), gLet_s, gLet_s, gLet_s, gU2 (by decide), gU1 (by decide), hm.2.2, e30, nI_add, nI_clamp (by omega)]
theorem addCl {w : gT} {c : Nat} {l a b : Int32} (h : w.1 40 3 = nI c) (hc : c < 14) : xX3_addClause l a b w = some (gU (gU (gU (gU w 41 c l) 42 c a) 43 c b) 40 3 (nI (c + 1))) := by
  unfold xX3_addClause
  rw [h, if_neg (nle (by omega) (by omega) (by omega)), gG_in (n := 14) hc (by omega), gLet_s, gU1 (by decide), h, gG_in (n := 14) hc (by omega), gLet_s, gU1 (by decide), gU1 (by decide), h, gG_in (n := 14) hc (by omega), gLet_s, gLet_s, gU1 (by decide), gU1 (by decide), gU1 (by decide), h, nI_add, nI_clamp (by omega)]
theorem addCl_g {w : gT} {c : Nat} {l a b : Int32} : GX2 w (gU (gU (gU (gU w 41 c l) 42 c a) 43 c b) 40 3 (nI (c + 1))) := (GX2.u (by decide)).tr ((GX2.u (by decide)).tr ((GX2.u (by decide)).tr (GX2.u (by decide))))
theorem In.z {B : Nat → Int32} {len k : Nat} {w v : gT} {pos m : Nat} (hx : XT B w len pos) (hm : MT B v len pos) (e6 : w.1 40 6 = nI (m + k)) (e30 : v.1 0 30 = nI m) (hp : m ≤ pos) (hl : len ≤ 200) (hk : k ≤ 28) : In B len k 0 0 w (gU (gU v 0 29 (nI 0)) 0 31 (nI 0)) pos m := ⟨hx, (hm.u0 (by decide) (by decide)).u0 (by decide) (by decide), e6, by rw [gU2 (by decide), gU2 (by decide)]; exact e30, by rw [gU2 (by decide), gU0], gU0, hp, by omega, hl, hk, by omega⟩
