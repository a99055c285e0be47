def NoP (p : Int32) : Prop := p ≠ nI 42 ∧ p ≠ nI 47 ∧ p ≠ nI 37
def NoS (p : Int32) : Prop := NoP p ∧ p ≠ nI 43 ∧ p ≠ nI 45
theorem times0 {p : Int32} (h : NoP p) (w : gT) : xX4_timesAt p w = some (-1, w) := by
  unfold xX4_timesAt
  rw [if_neg h.1, if_neg h.2.1, if_neg h.2.2]
theorem times1 {p : Int32} (h : ¬ NoP p) : ∃ ch x, 4 ≤ x ∧ x ≤ 6 ∧ ch < 256 ∧ p = nI ch ∧ (∀ w, xX4_timesAt p w = some (nI (opX x), w)) ∧ ∀ w, xX10_sumSign p w = some (nI x, w) := by
  by_cases h1 : p = nI 42
  · subst h1
    exact ⟨42, 4, by omega, by omega, by omega, rfl, fun w => rfl, fun w => rfl⟩
  · by_cases h2 : p = nI 47
    · subst h2
      exact ⟨47, 5, by omega, by omega, by omega, rfl, fun w => rfl, fun w => rfl⟩
    · by_cases h3 : p = nI 37
      · subst h3
        exact ⟨37, 6, by omega, by omega, by omega, rfl, fun w => rfl, fun w => rfl⟩
      · exact absurd ⟨h1, h2, h3⟩ h
theorem sumS0 {p : Int32} (h : NoS p) (w : gT) : xX10_sumSign p w = some (-1, w) := by
  unfold xX10_sumSign
  rw [if_neg h.2.1, if_neg h.2.2, if_neg h.1.1, if_neg h.1.2.1, if_neg h.1.2.2]
theorem nop_m1 : NoP (-1) := by
  unfold NoP
  decide
theorem d_prodLoop {N : Nat} {w : gT} (h : XD w) (rc : Int32 → gT → Option gT) (a x : Int32) (G : Nat) : gW1 (xX4_readProduct_b7 N a rc) (G + 1) x w = some w := by
  rw [gW1_s]
  unfold xX4_readProduct_b7
  by_cases c : nI 200 ≤ x
  · rw [if_pos c]
  · rw [if_neg c, d_peek h, gBi_s, times0 nop_m1, gBi_s, if_pos rfl]
theorem d_sumLoop {N : Nat} {w : gT} (h : XD w) (rc : Int32 → gT → Option gT) (a x : Int32) (G : Nat) : gW1 (xX4_readSum_b7 N a rc) (G + 1) x w = some w := by
  rw [gW1_s]
  unfold xX4_readSum_b7
  by_cases c : nI 200 ≤ x
  · rw [if_pos c]
  · rw [if_neg c, gLet_s, d_peek h, gBi_s, if_neg (by decide), d_peek h, gBi_s, if_neg (by decide)]
def FacS (N : Nat) (B : Nat → Int32) (len k v1 : Nat) (rc : Int32 → gT → Option gT) (o : Nat) : Prop := ∀ (w v : gT) (pos m h T : Nat) (κ : Nat → Nat) (F G : Nat), In B len k o h w v pos m → κ m = T → T + 2 * (6 - o) < 31 → v1 ≤ h → 1000 ≤ F + pos → 1000 ≤ G + pos →
  (∃ w' v' pos' m' κ' F', xX4_readFactor N rc (nI o) w = some w' ∧ FX1 N v1 F G v = LH N v1 F' v' ∧ In B len k o h w' v' pos' m' ∧ Tr k h w v pos m κ w' v' pos' m' κ' ∧ κ' m' = T + 1 ∧ pos < pos' ∧ F + pos ≤ F' + pos') ∨
  (∃ w' v', xX4_readFactor N rc (nI o) w = some w' ∧ FX1 N v1 F G v = some (nI 0, v') ∧ FL w v w' v')
theorem Tr.sh {k h : Nat} {w v w' v' : gT} {pos m pos' m' : Nat} {κ κ' : Nat → Nat} (a : Tr k h w v (pos + 1) m κ w' v' pos' m' κ') : Tr k h w v pos m κ w' v' (pos' - 1) m' κ' := by
  obtain ⟨a1, a2, a3, a4, a5, a6⟩ := a
  exact ⟨by omega, a2, by omega, a4, a5, a6⟩
theorem Tr.ff {k h : Nat} {w v w' v' w2 v2 : gT} {pos m pos' m' : Nat} {κ κ' : Nat → Nat} (a : Tr k h w v pos m κ w' v' pos' m' κ') (b : FL w' v' w2 v2) : FL w v w2 v2 := FL.tr a.2.2.2.2.2.2.2.2.1 a.2.2.2.2.2.2.2.2.2 b
theorem ty_bin {x : Nat} {κ : Nat → Nat} {m T : Nat} (hk : κ m = T + 2) (hT : T + 2 < 32) (h2 : 2 ≤ x) (h6 : x ≤ 6) : TyS (fun _ => 1048576 * x + 0) (updK κ (m + 1) (T + 1)) (m + 1) m := by
  have e1 : updK κ (m + 1) (T + 1) m = T + 2 := (if_neg (by omega)).trans hk
  have e2 : updK κ (m + 1) (T + 1) (m + 1) = T + 1 := if_pos rfl
  have e3 : cO (1048576 * x + 0) = x := cO_mk (by omega)
  unfold TyS
  rw [e1, e2, e3]
  exact Or.inr (Or.inr (Or.inr (Or.inr (Or.inl ⟨h2, h6, by omega, hT, by omega⟩))))
theorem cd_op {x k : Nat} (h2 : 2 ≤ x) (h6 : x ≤ 10) : CdC (nI (opX x)) (nI 0) (1048576 * x + 0) k := by
  have e3 : cO (1048576 * x + 0) = x := cO_mk (by omega)
  unfold CdC
  rw [e3]
  exact ⟨rfl, fun z => by omega, fun z => by omega, fun z => by omega⟩
/-- a sign that waits: what the model does -/
def psh (v : gT) (h x p : Nat) : gT := gU (gU (gU v 19 h (nI (1048576 * x))) 0 31 (nI (h + 1))) 0 15 (nI (p + 1))
theorem In.push {B : Nat → Int32} {len k o h : Nat} {w v : gT} {pos m x : Nat} (hI : In B len k o h w v pos m) (hp : pos < len) : In B len k o (h + 1) (gU w 19 3 (nI (pos + 1))) (psh v h x pos) (pos + 1) m := by
  obtain ⟨i1, i2, i3, i4, i5, i6, i7, i8, i9, i10, i11⟩ := hI
  unfold psh
  exact ⟨i1.adv hp, ((i2.uc (by decide) (by decide)).u0 (by decide) (by decide)).adv, by rw [gU1 (by decide)]; exact i3, by rw [gU2 (by decide), gU2 (by decide), gU1 (by decide)]; exact i4, by rw [gU2 (by decide), gU2 (by decide), gU1 (by decide)]; exact i5, by rw [gU2 (by decide), gU0], by omega, by omega, i9, i10, i11⟩
theorem psh_19 {v : gT} {h x p : Nat} : (psh v h x p).1 19 h = nI (1048576 * x) := by
  unfold psh
  rw [gU1 (by decide), gU1 (by decide), gU0]
theorem Tr.push {k h : Nat} {w v : gT} {pos m x : Nat} {κ : Nat → Nat} (p : Nat) (hp : pos ≤ p) : Tr k h w v pos m κ (gU w 19 3 (nI (pos + 1))) (psh v h x pos) p m κ := by
  unfold psh
  refine Tr.u hp (gU1 (by decide)) (gU1 (by decide)) (by rw [gU1 (by decide), gU1 (by decide), gU1 (by decide)]) (fun j hj => by rw [gU1 (by decide), gU1 (by decide), gU2 (by omega)]) (LX.t (by omega)) ((LM.c (Or.inr rfl)).tr ((LM.n (by decide)).tr (LM.n (by decide))))
/-- it is put down -/
theorem pop_all {B : Nat → Int32} {len k o h : Nat} {w u w3 v3 : gT} {pos m pos3 m3 x T lo hi : Nat} {κ κ3 : Nat → Nat} (hI : In B len k o h w u pos m) (hI3 : In B len k o (h + 1) w3 v3 pos3 m3) (ht : Tr k (h + 1) (gU w 19 3 (nI (pos + 1))) (psh u h x pos) (pos + 1) m κ w3 v3 pos3 m3 κ3) (hk : κ3 m3 = T + 2) (hT : T + 2 < 32) (h2 : 2 ≤ x) (h6 : x ≤ 6) (hlo : lo ≤ x) (hhi : x ≤ hi) :
    xX3_addStep (nI (opX x)) (nI 0) w3 = some (addS w3 (m3 + k) (nI (opX x)) (nI 0)) ∧ In B len k o h (addS w3 (m3 + k) (nI (opX x)) (nI 0)) (e1 v3 m3 h x) pos3 (m3 + 1) ∧ Pn lo hi v3 (e1 v3 m3 h x) h ∧ Tr k h w u pos m κ (addS w3 (m3 + k) (nI (opX x)) (nI 0)) (e1 v3 m3 h x) pos3 (m3 + 1) (updK κ3 (m3 + 1) (T + 1)) ∧ updK κ3 (m3 + 1) (T + 1) (m3 + 1) = T + 1 := by
  have d3 := hI3.dd
  have d1 := hI.dd
  have hpp : pos + 1 ≤ pos3 := ht.1
  have hm3 : m3 + (pos + 1) ≤ m + pos3 := ht.2.2.1
  have hmp := hI.2.2.2.2.2.2.1
  have hhp := hI.2.2.2.2.2.2.2.1
  have hIe : In B len k o (h + 1) (addS w3 (m3 + k) (nI (opX x)) (nI 0)) (notS v3 m3 (1048576 * x + 0)) pos3 (m3 + 1) := hI3.emit (by omega)
  refine ⟨addS_x hI3.2.2.1 (by omega) _ _, ?_, ?_, ?_, if_pos rfl⟩
  · obtain ⟨i1, i2, i3, i4, i5, i6, i7, i8, i9, i10, i11⟩ := hIe
    unfold e1
    exact ⟨i1, i2.u0 (by decide) (by decide), i3, by rw [gU2 (by decide)]; exact i4, by rw [gU2 (by decide)]; exact i5, gU0, i7, by omega, i9, i10, i11⟩
  · have e19 : v3.1 19 h = nI (1048576 * x) := (ht.2.2.2.2.2.2.2.1 h (by omega)).trans psh_19
    exact ⟨by unfold e1; rw [gU0], by omega, Or.inr ⟨x, m3, hlo, hhi, rfl, hI3.2.2.2.2.2.1, e19, hI3.2.2.2.1, by omega⟩⟩
  · have t1 : Tr k h w u pos m κ (gU w 19 3 (nI (pos + 1))) (psh u h x pos) pos m κ := Tr.push pos (Nat.le_refl _)
    have t2 := t1.tr ht.sh (by omega)
    have t3 : Tr k h w3 v3 (pos3 - 1) m3 κ3 (addS w3 (m3 + k) (nI (opX x)) (nI 0)) (notS v3 m3 (1048576 * x + 0)) (pos3 - 1 + 1) (m3 + 1) (updK κ3 (m3 + 1) (T + 1)) := Tr.emit (ty_bin hk hT h2 h6) (cd_op h2 (by omega))
    rw [show pos3 - 1 + 1 = pos3 by omega] at t3
    have t4 : Tr k h (addS w3 (m3 + k) (nI (opX x)) (nI 0)) (notS v3 m3 (1048576 * x + 0)) pos3 (m3 + 1) (updK κ3 (m3 + 1) (T + 1)) (addS w3 (m3 + k) (nI (opX x)) (nI 0)) (e1 v3 m3 h x) pos3 (m3 + 1) (updK κ3 (m3 + 1) (T + 1)) := Tr.u (Nat.le_refl _) rfl rfl (gU1 (by decide)) (fun j _ => by unfold e1; rw [gU1 (by decide)]) LX.rf (LM.n (by decide))
    exact (t2.tr t3 (Nat.le_refl _)).tr t4 (Nat.le_refl _)
/-- the model at an operator -/
theorem m_op {N : Nat} {B : Nat → Int32} {len k o h v1 F : Nat} {w v u : gT} {pos m x : Nat} (hI : In B len k o h w u pos m) (hmt : MT B v len pos) (hx2 : 2 ≤ x) (hx6 : x ≤ 6) (hs : ∀ w, xX10_sumSign (pkV B len pos) w = some (nI x, w)) (hc : xX10_closesSums N (if 4 ≤ x then nI 0 else nI 1) v = some u) : LH N v1 (F + 1) v = FX1 N v1 F N (psh u h x pos) := by
  have h5 := hI.1.2.2.2.2.1
  have h6 := hI.1.2.2.2.2.2
  have hd := hI.dd
  have hh := hI.2.2.2.2.2.2.2.1
  have hne : ¬ nI x = (-1) := nI_m1 (by omega)
  unfold LH
  rw [gW0_s]
  unfold xX10_readsSum_b14
  rw [gLet_s, m_here hmt h5 h6, gBi_s, hs, gBi_s, if_neg hne, gLet_s]
  have body : (gBv (xX10_closesSums N (if 4 ≤ x then nI 0 else nI 1) v) fun (w30 : gT) => gG (w30.1 0 31) 220 <| gLet (gU w30 19 (w30.1 0 31).toNatClampNeg ((nI 1048576) * nI x)) fun (w31 : gT) => gLet (gU w31 0 31 ((w31.1 0 31) + (nI 1))) fun (w32 : gT) => gLet (gU w32 0 15 ((w32.1 0 15) + (nI 1))) fun (w33 : gT) => gBi (xX10_readsFactor N w33) fun (v34 : Int32) (w35 : gT) => (if v34 = (nI 0) then some ((nI 0), w35) else gW0 (xX10_readsSum_b14 N (kS N (nI v1)) (nI v1)) F w35)) = FX1 N v1 F N (psh u h x pos) := by
    rw [hc, gBv_s, hI.2.2.2.2.2.1, gG_in (by omega) (by omega), gLet_s, gLet_s, gLet_s, gU1 (by decide), hI.2.2.2.2.2.1, gU2 (by decide), gU1 (by decide), hI.2.1.2.2, nI_add, nI_add, nI_mul, nI_clamp (by omega)]
    rfl
  by_cases c : 4 ≤ x
  · rw [if_pos c] at body
    rw [if_pos (yle (by omega) (by omega) c)]
    exact body
  · rw [if_neg c] at body
    rw [if_neg (nle (by omega) (by omega) c)]
    exact body
