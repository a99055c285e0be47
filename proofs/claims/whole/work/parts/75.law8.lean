/-! SUMS: the class goes down, the model keeps what waits on its stack -/
def kS (N : Nat) (v1 : Int32) : gT → Option (Int32 × gT) := fun (w5 : gT) =>
  gBi (xX10_hasOpenSum N v1 w5) fun (v6 : Int32) (w7 : gT) =>
  (if v6 = (nI 0) then
    gBv (xX10_closesSums N (nI 1) w7) fun (w8 : gT) =>
    some ((nI 1), w8)
  else
    gBi (xX10_wrongAt (nI 1) (w7.1 0 15) w7) fun (v9 : Int32) (w10 : gT) =>
    if v9 = nI 0 ∨ v9 = nI 1 then some (v9, w10) else none)
def LH (N v1 F : Nat) (v : gT) : Option (Int32 × gT) := gW0 (xX10_readsSum_b14 N (kS N (nI v1)) (nI v1)) F v
def FX1 (N v1 F G : Nat) (v : gT) : Option (Int32 × gT) := gBi (gW0 (xX10_readsFactor_b0 N (kF N)) G v) fun (r : Int32) (v' : gT) => if r = nI 0 then some (nI 0, v') else LH N v1 F v'
theorem rS_e (N : Nat) {v : gT} {h : Nat} (e : v.1 0 31 = nI h) : xX10_readsSum N v = FX1 N h N N v := by
  unfold xX10_readsSum
  rw [gLet_s, e]
  rfl
/-- an operator that waits put down -/
def e1 (v : gT) (m h x : Nat) : gT := gU (notS v m (1048576 * x + 0)) 0 31 (nI h)
theorem waitTop_0 {v : gT} (h : v.1 0 31 = nI 0) : xX10_waitTop v = some (-1, v) := by
  unfold xX10_waitTop
  rw [if_pos h]
theorem waitTop_t {v : gT} {h t x : Nat} (e : v.1 0 31 = nI (h + 1)) (hh : h < 220) (ht : t < 20) (hx : x < 1048576) (e2 : v.1 19 h = nI (1048576 * t + x)) : xX10_waitTop v = some (nI t, v) := by
  have hne : ¬ nI (h + 1) = nI 0 := fun z => by
    have := (nI_eq (show h + 1 < 2 ^ 31 by omega) (by omega)).mp z
    omega
  unfold xX10_waitTop
  rw [e, if_neg hne, pk_sub (by omega), Nat.add_sub_cancel, gG_in hh (by omega), nI_clamp (by omega), e2, pk_div (by omega) (by omega) (by omega), show (1048576 * t + x) / 1048576 = t by omega]
theorem closes_pop {N : Nat} {a1 : Int32} {v : gT} {m h x : Nat} (e : v.1 0 31 = nI (h + 1)) (hh : h < 220) (e2 : v.1 19 h = nI (1048576 * x)) (e3 : v.1 0 30 = nI m) (hm : m < 220) (hx : (4 ≤ x ∧ x ≤ 6) ∨ (a1 = nI 1 ∧ 2 ≤ x ∧ x ≤ 3)) (E : Nat) : gW0 (xX10_closesSums_b0 N a1) (E + 1) v = gW0 (xX10_closesSums_b0 N a1) E (e1 v m h x) := by
  have hx6 : x ≤ 6 := by omega
  have wt : xX10_waitTop v = some (nI x, v) := waitTop_t (x := 0) e hh (by omega) (by omega) e2
  rw [gW0_s]
  generalize gW0 (xX10_closesSums_b0 N a1) E = go
  unfold xX10_closesSums_b0
  rw [gLet_s, gLet_s, wt, gBi_s, wt, gBi_s]
  have k3 : (gBi (xX10_waitTop v) fun (v5 : Int32) (w6 : gT) => gBv (xX10_notes v5 (nI 0) w6) fun (w7 : gT) => gLet (gU w7 0 31 ((w7.1 0 31) - (nI 1))) fun (w8 : gT) => go w8) = go (e1 v m h x) := by
    rw [wt, gBi_s, notS_m e3 hm, gBv_s, gLet_s, notS_0 (by decide), e, pk_sub (by omega), Nat.add_sub_cancel]
    rfl
  rcases hx with ⟨h4, h6⟩ | ⟨ha, h2, h3⟩
  · rw [if_neg (nlt (by omega) (by omega) (by omega)), if_pos (yle (by omega) (by omega) h6)]
    exact k3
  · subst ha
    rw [if_pos (ylt (by omega) (by omega) (by omega))]
    dsimp only
    rw [if_neg nI_10, wt, gBi_s]
    by_cases c : x = 2
    · rw [if_pos (by rw [c])]
      exact k3
    · have c3 : x = 3 := by omega
      rw [if_neg (fun z => c ((nI_eq (by omega) (by omega)).mp z)), wt, gBi_s, if_pos (by rw [c3])]
      exact k3
/-- what lies below stops the closing -/
def Bs (a : Nat) (v : gT) (h : Nat) : Prop := h = 0 ∨ ∃ t x, t < 20 ∧ x < 1048576 ∧ v.1 19 (h - 1) = nI (1048576 * t + x) ∧ ¬ (4 ≤ t ∧ t ≤ 6) ∧ (a = 0 ∨ ¬ (2 ≤ t ∧ t ≤ 3))
theorem closes_stop {N a : Nat} {v : gT} {h : Nat} (ha : a < 2) (e : v.1 0 31 = nI h) (hh : h ≤ 220) (hb : Bs a v h) (E : Nat) : gW0 (xX10_closesSums_b0 N (nI a)) (E + 1) v = some v := by
  rw [gW0_s]
  generalize gW0 (xX10_closesSums_b0 N (nI a)) E = go
  unfold xX10_closesSums_b0
  rw [gLet_s, gLet_s]
  by_cases h0 : h = 0
  · have wt := waitTop_0 (v := v) (by rw [e, h0])
    rw [wt, gBi_s, if_pos (by decide)]
    dsimp only
    by_cases a0 : nI a = nI 0
    · rw [if_pos a0]
    · rw [if_neg a0, wt, gBi_s, if_neg (by decide), wt, gBi_s, if_neg (by decide)]
  · obtain ⟨t, x, b1, b2, b3, b4, b5⟩ := hb.resolve_left h0
    have wt := waitTop_t (v := v) (h := h - 1) (by rw [e]; congr 1; omega) (by omega) b1 b2 b3
    have fin : (if nI a = nI 0 then some v else gBi (xX10_waitTop v) fun (v11 : Int32) (w12 : gT) => (if v11 = (nI 2) then (fun (w4 : gT) => gBi (xX10_waitTop w4) fun (v5 : Int32) (w6 : gT) => gBv (xX10_notes v5 (nI 0) w6) fun (w7 : gT) => gLet (gU w7 0 31 ((w7.1 0 31) - (nI 1))) fun (w8 : gT) => go w8) w12 else gBi (xX10_waitTop w12) fun (v13 : Int32) (w14 : gT) => (if v13 = (nI 3) then (fun (w4 : gT) => gBi (xX10_waitTop w4) fun (v5 : Int32) (w6 : gT) => gBv (xX10_notes v5 (nI 0) w6) fun (w7 : gT) => gLet (gU w7 0 31 ((w7.1 0 31) - (nI 1))) fun (w8 : gT) => go w8) w14 else some w14))) = some v := by
      by_cases a0 : a = 0
      · rw [if_pos (by rw [a0])]
      · have b5' := b5.resolve_left a0
        rw [if_neg (fun z => a0 ((nI_eq (by omega) (by omega)).mp z)), wt, gBi_s, if_neg (fun z => by have := (nI_eq (show t < 2 ^ 31 by omega) (by omega)).mp z; omega), wt, gBi_s, if_neg (fun z => by have := (nI_eq (show t < 2 ^ 31 by omega) (by omega)).mp z; omega)]
    rw [wt, gBi_s]
    by_cases c : t < 4
    · rw [if_pos (ylt (by omega) (by omega) c)]
      exact fin
    · rw [if_neg (nlt (by omega) (by omega) c), wt, gBi_s, if_neg (nle (by omega) (by omega) (by omega))]
      exact fin
/-- one operator waits, or none -/
def Pn (lo hi : Nat) (v u : gT) (h : Nat) : Prop := u.1 0 31 = nI h ∧ h < 210 ∧ (v = u ∨ ∃ x m, lo ≤ x ∧ x ≤ hi ∧ u = e1 v m h x ∧ v.1 0 31 = nI (h + 1) ∧ v.1 19 h = nI (1048576 * x) ∧ v.1 0 30 = nI m ∧ m < 220)
theorem e1_19 {v : gT} {m h x : Nat} : (e1 v m h x).1 19 = v.1 19 := by
  unfold e1 notS
  rw [gU1 (by decide), gU1 (by decide), gU1 (by decide)]
theorem e1_0 {v : gT} {m h x i : Nat} (h1 : i ≠ 30) (h2 : i ≠ 31) : (e1 v m h x).1 0 i = v.1 0 i := by
  unfold e1
  rw [gU2 h2, notS_0 h1]
theorem e1_lm (v : gT) (m h x : Nat) : LM v (e1 v m h x) := (notS_lm _ _ _).tr (LM.n (by decide))
theorem LM.sy {v v' : gT} (h : LM v v') : LM v' v := ⟨fun c hc => (h.1 c hc).symm, fun i hi => (h.2 i hi).symm⟩
theorem Pn.i19 {lo hi h : Nat} {v u : gT} (hp : Pn lo hi v u h) : v.1 19 = u.1 19 := by
  rcases hp.2.2 with rfl | ⟨x, m, -, -, rfl, -⟩
  · rfl
  · exact e1_19.symm
theorem Pn.lm {lo hi h : Nat} {v u : gT} (hp : Pn lo hi v u h) : LM u v := by
  rcases hp.2.2 with rfl | ⟨x, m, -, -, rfl, -⟩
  · exact LM.rf
  · exact (e1_lm _ _ _ _).sy
theorem Pn.i0 {lo hi h : Nat} {v u : gT} (hp : Pn lo hi v u h) {i : Nat} (h1 : i ≠ 30) (h2 : i ≠ 31) : v.1 0 i = u.1 0 i := by
  rcases hp.2.2 with rfl | ⟨x, m, -, -, rfl, -⟩
  · rfl
  · exact (e1_0 h1 h2).symm
theorem Pn.mt {lo hi h : Nat} {v u : gT} (hp : Pn lo hi v u h) {B : Nat → Int32} {len pos : Nat} (hm : MT B u len pos) : MT B v len pos := by
  refine ⟨?_, ?_, ?_⟩
  · rw [hp.lm.1 9 (by decide)]
    exact hm.1
  · rw [hp.i0 (by decide) (by decide)]; exact hm.2.1
  · rw [hp.i0 (by decide) (by decide)]; exact hm.2.2
theorem Pn.H {lo hi h : Nat} {v u : gT} (hp : Pn lo hi v u h) : v.1 0 31 = nI h ∨ (v.1 0 31 = nI (h + 1) ∧ ∃ x, lo ≤ x ∧ x ≤ hi ∧ v.1 19 h = nI (1048576 * x)) := by
  rcases hp.2.2 with rfl | ⟨x, m, x1, x2, -, e, e2, -⟩
  · exact Or.inl hp.1
  · exact Or.inr ⟨e, x, x1, x2, e2⟩
theorem Pn.rf {lo hi h : Nat} {v : gT} (e : v.1 0 31 = nI h) (hh : h < 210) : Pn lo hi v v h := ⟨e, hh, Or.inl rfl⟩
theorem closes0 {N : Nat} (hN : 5000 ≤ N) {v u : gT} {h : Nat} (hp : Pn 4 6 v u h) (hb : Bs 0 u h) : xX10_closesSums N (nI 0) v = some u := by
  obtain ⟨M, rfl⟩ : ∃ M, N = M + 1 + 1 := ⟨N - 2, by omega⟩
  unfold xX10_closesSums
  obtain ⟨h1, h2, h3⟩ := hp
  rcases h3 with rfl | ⟨x, m, x1, x2, rfl, e, e2, e3, e4⟩
  · exact closes_stop (by omega) h1 (by omega) hb _
  · rw [closes_pop e (by omega) e2 e3 e4 (Or.inl ⟨x1, x2⟩)]
    exact closes_stop (by omega) h1 (by omega) hb _
theorem closes1 {N : Nat} (hN : 5000 ≤ N) {v u y : gT} {h1 h : Nat} (hp : Pn 4 6 v u h1) (hq : Pn 2 3 u y h) (hb : Bs 1 y h) : xX10_closesSums N (nI 1) v = some y := by
  obtain ⟨M, rfl⟩ : ∃ M, N = M + 1 + 1 + 1 := ⟨N - 3, by omega⟩
  unfold xX10_closesSums
  have step : ∀ E, gW0 (xX10_closesSums_b0 (M + 1 + 1 + 1) (nI 1)) (E + 1 + 1) u = some y := fun E => by
    obtain ⟨h1, h2, h3⟩ := hq
    rcases h3 with rfl | ⟨x, m, x1, x2, rfl, e, e2, e3, e4⟩
    · exact closes_stop (by omega) h1 (by omega) hb _
    · rw [closes_pop e (by omega) e2 e3 e4 (Or.inr ⟨rfl, x1, x2⟩)]
      exact closes_stop (by omega) h1 (by omega) hb _
  obtain ⟨h1, h2, h3⟩ := hp
  rcases h3 with rfl | ⟨x, m, x1, x2, rfl, e, e2, e3, e4⟩
  · exact step _
  · rw [closes_pop e (by omega) e2 e3 e4 (Or.inl ⟨x1, x2⟩)]
    exact step _
theorem has_yes {N : Nat} (hN : 5000 ≤ N) {v : gT} {v1 H j : Nat} (e : v.1 0 31 = nI H) (hH : H ≤ 220) (h1 : v1 ≤ j) (h2 : j < H) (e2 : v.1 19 j = nI (1048576 * 14)) : xX10_hasOpenSum N (nI v1) v = some (nI 1, v) := by
  unfold xX10_hasOpenSum
  refine gW1_ind (fun t => t = some (nI 1, v)) (fun m x w => ∃ i, i ≤ j ∧ x = nI i ∧ m = j - i ∧ w = v) ?_ N (j - v1) _ v (by omega) ⟨v1, h1, rfl, rfl, rfl⟩
  rintro m go x w ⟨i, hi, rfl, rfl, rfl⟩ ih
  unfold xX10_hasOpenSum_b2
  rw [e, if_neg (nle (by omega) (by omega) (by omega)), gG_in (by omega) (by omega), nI_clamp (by omega), nI_add]
  by_cases c : (w.1 19 i) / nI 1048576 = nI 14
  · rw [if_pos c]
  · rw [if_neg c]
    have : i ≠ j := fun z => c (by rw [z, e2, pk_div (by omega) (by omega) (by omega)])
    exact ih (j - (i + 1)) _ _ (by omega) ⟨i + 1, by omega, rfl, rfl, rfl⟩
theorem has_no {N : Nat} (hN : 5000 ≤ N) {v : gT} {v1 H : Nat} (e : v.1 0 31 = nI H) (hH : H ≤ 220) (hv : v1 ≤ H) (hn : ∀ j, v1 ≤ j → j < H → ∃ x, x < 14 ∧ v.1 19 j = nI (1048576 * x)) : xX10_hasOpenSum N (nI v1) v = some (nI 0, v) := by
  unfold xX10_hasOpenSum
  refine gW1_ind (fun t => t = some (nI 0, v)) (fun m x w => ∃ i, v1 ≤ i ∧ i ≤ H ∧ x = nI i ∧ m = H - i ∧ w = v) ?_ N (H - v1) _ v (by omega) ⟨v1, Nat.le_refl _, hv, rfl, rfl, rfl⟩
  rintro m go x w ⟨i, hi0, hi, rfl, rfl, rfl⟩ ih
  unfold xX10_hasOpenSum_b2
  rw [e]
  by_cases q : H ≤ i
  · rw [if_pos (yle (by omega) (by omega) q)]
  · obtain ⟨x, hx, ex⟩ := hn i hi0 (by omega)
    rw [if_neg (nle (by omega) (by omega) q), gG_in (by omega) (by omega), nI_clamp (by omega), nI_add, ex, pk_div (by omega) (by omega) (by omega), Nat.mul_div_cancel_left _ (by omega), if_neg (fun z => by have := (nI_eq (show x < 2 ^ 31 by omega) (by omega)).mp z; omega)]
    exact ih (H - (i + 1)) _ _ (by omega) ⟨i + 1, by omega, by omega, rfl, rfl, rfl⟩
