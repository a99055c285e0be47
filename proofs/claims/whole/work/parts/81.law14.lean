/-- what lies on top -/
def Tp (lo : Nat) (v : gT) (h : Nat) : Prop := 1 ≤ h ∧ ∃ t x, lo ≤ t ∧ t ≤ 13 ∧ x < 1048576 ∧ v.1 19 (h - 1) = nI (1048576 * t + x)
theorem Tp.bs {lo : Nat} {v : gT} {h : Nat} (hl : 10 ≤ lo) (ht : Tp lo v h) : Bs 1 v h := by
  obtain ⟨h1, t, x, b1, b2, b3, b4⟩ := ht
  exact Or.inr ⟨t, x, by omega, b3, b4, by omega, Or.inr (by omega)⟩
theorem Tp.fr {lo : Nat} {v v' : gT} {h : Nat} (ht : Tp lo v h) (e : ∀ j, j < h → v'.1 19 j = v.1 19 j) : Tp lo v' h := by
  obtain ⟨h1, t, x, b1, b2, b3, b4⟩ := ht
  exact ⟨h1, t, x, b1, b2, b3, (e _ (by omega)).trans b4⟩
theorem Tp.wt {lo : Nat} {v : gT} {h : Nat} (ht : Tp lo v h) (hh : h ≤ 220) (e : v.1 0 31 = nI h) : ∃ t, lo ≤ t ∧ t ≤ 13 ∧ xX10_waitTop v = some (nI t, v) := by
  obtain ⟨h1, t, x, b1, b2, b3, b4⟩ := ht
  exact ⟨t, b1, b2, waitTop_t (h := h - 1) (by rw [e]; congr 1; omega) (by omega) (by omega) b3 b4⟩
theorem Tp.wk {lo lo' : Nat} {v : gT} {h : Nat} (ht : Tp lo v h) (hl : lo' ≤ lo) : Tp lo' v h := by
  obtain ⟨h1, t, x, b1, b2, b3, b4⟩ := ht
  exact ⟨h1, t, x, by omega, b2, b3, b4⟩
theorem nI_no {a b : Nat} (ha : a < 1000) (hb : b < 1000) (h : a ≠ b) : ¬ nI a = nI b := fun z => h ((nI_eq (by omega) (by omega)).mp z)
/-- the piece's end -/
def e10 (v : gT) (m h o : Nat) : gT := gU (gU (notS v m (1048576 * 10 + 0)) 0 31 (nI h)) 0 29 (nI o)
theorem EP_pop {N F G E : Nat} {v : gT} {m h o : Nat} (e31 : v.1 0 31 = nI (h + 1)) (hh : h < 220) (e19 : v.1 19 h = nI (1048576 * 10)) (e30 : v.1 0 30 = nI m) (hm : m < 220) (e29 : v.1 0 29 = nI (o + 1)) : EP N F G (E + 1) v = EP N F G E (e10 v m h o) := by
  unfold EP
  rw [gW0_s]
  congr 1
  generalize gW0 (xX10_endsPiece_b0 N) E = go
  unfold xX10_endsPiece_b0 e10
  rw [waitTop_t (t := 10) (x := 0) e31 hh (by omega) (by omega) e19, gBi_s, if_pos rfl, show nI 0 = nI 0 from rfl, notS_m e30 hm, gBv_s, gLet_s, gLet_s, notS_0 (by decide), e31, gU2 (by decide), notS_0 (by decide), e29, pk_sub (by omega), pk_sub (by omega), Nat.add_sub_cancel, Nat.add_sub_cancel]
theorem EP_stop {N F G E : Nat} {v : gT} {h : Nat} (e31 : v.1 0 31 = nI h) (hh : h ≤ 220) (ht : Tp 11 v h) : EP N F G (E + 1) v = AP N F G v := by
  obtain ⟨t, t1, t2, wt⟩ := ht.wt hh e31
  unfold EP
  rw [gW0_s]
  have e : xX10_endsPiece_b0 N (gW0 (xX10_endsPiece_b0 N) E) v = some v := by
    unfold xX10_endsPiece_b0
    rw [wt, gBi_s, if_neg (nI_no (by omega) (by omega) (by omega))]
  rw [e, gBv_s]
/-- jumps that wait for their place -/
def pat (v : gT) (l t h m : Nat) : gT := gU (gU v 18 l (nI (1048576 * t + m))) 0 31 (nI h)
def Jm (t : Nat) (v u : gT) (h m : Nat) : Prop := u.1 0 31 = nI h ∧ h < 210 ∧ (v = u ∨ ∃ l, l < m ∧ m < 220 ∧ v.1 0 31 = nI (h + 1) ∧ v.1 19 h = nI (1048576 * t + l) ∧ v.1 18 l = nI (1048576 * t + 0) ∧ v.1 0 30 = nI m ∧ u = pat v l t h m)
def Jx (k : Nat) (last : Int32) (w y : gT) (m : Nat) : Prop := (last = (-1) ∧ w = y) ∨ ∃ l, l < m ∧ l + k < 256 ∧ last = nI (l + k) ∧ y = gU w 45 (l + k) (nI (m + k))
theorem pat_lm (v : gT) (l t h m : Nat) : LM v (pat v l t h m) := (LM.c (Or.inl rfl)).tr (LM.n (by decide))
theorem Jm.i19 {t h m : Nat} {v u : gT} (hj : Jm t v u h m) : v.1 19 = u.1 19 := by
  rcases hj.2.2 with rfl | ⟨l, -, -, -, -, -, -, rfl⟩
  · rfl
  · unfold pat
    rw [gU1 (by decide), gU1 (by decide)]
theorem Jm.lm {t h m : Nat} {v u : gT} (hj : Jm t v u h m) : LM u v := by
  rcases hj.2.2 with rfl | ⟨l, -, -, -, -, -, -, rfl⟩
  · exact LM.rf
  · exact (pat_lm _ _ _ _ _).sy
theorem Jm.mt {t h m : Nat} {v u : gT} (hj : Jm t v u h m) {B : Nat → Int32} {len pos : Nat} (hm : MT B u len pos) : MT B v len pos := by
  rcases hj.2.2 with rfl | ⟨l, -, -, -, -, -, -, rfl⟩
  · exact hm
  · unfold pat at hm
    refine ⟨?_, ?_, ?_⟩
    · have := hm.1
      rw [gU1 (by decide), gU1 (by decide)] at this
      exact this
    · have := hm.2.1
      rw [gU2 (by decide), gU1 (by decide)] at this
      exact this
    · have := hm.2.2
      rw [gU2 (by decide), gU1 (by decide)] at this
      exact this
theorem Jm.rf {t h m : Nat} {v : gT} (e : v.1 0 31 = nI h) (hh : h < 210) : Jm t v v h m := ⟨e, hh, Or.inl rfl⟩
theorem lands_pop {N a t l h m E : Nat} {v : gT} (hl : l < m) (hm : m < 220) (e31 : v.1 0 31 = nI (h + 1)) (hh : h < 210) (e19 : v.1 19 h = nI (1048576 * t + l)) (e18 : v.1 18 l = nI (1048576 * t + 0)) (e30 : v.1 0 30 = nI m) (ht : t = 11 ∨ (t = 12 ∧ a = 1)) : gW0 (xX10_lands_b0 N (nI a)) (E + 1) v = gW0 (xX10_lands_b0 N (nI a)) E (pat v l t h m) := by
  rw [gW0_s]
  generalize gW0 (xX10_lands_b0 N (nI a)) E = go
  have wt := waitTop_t (v := v) (h := h) (t := t) (x := l) e31 (by omega) (by omega) (by omega) e19
  have k3 : (gG ((v.1 0 31) - (nI 1)) 220 <| gLet (gRem (v.1 19 ((v.1 0 31) - (nI 1)).toNatClampNeg) (nI 1048576)) fun (v5 : Int32) => gG v5 220 <| gG v5 220 <| gLet (gU v 18 v5.toNatClampNeg (((nI 1048576) * ((v.1 18 v5.toNatClampNeg) / (nI 1048576))) + (v.1 0 30))) fun (w6 : gT) => gLet (gU w6 0 31 ((w6.1 0 31) - (nI 1))) fun (w7 : gT) => go w7) = go (pat v l t h m) := by
    rw [e31, pk_sub (by omega), Nat.add_sub_cancel, gG_in (n := 220) (by omega) (by omega), gLet_s, nI_clamp (by omega), e19, nI_rem (by omega) (by omega) (by omega), show (1048576 * t + l) % 1048576 = l by omega, gG_in (n := 220) (by omega) (by omega), gG_in (n := 220) (by omega) (by omega), gLet_s, gLet_s, gU1 (by decide), e31, nI_clamp (by omega), e18, pk_div (by omega) (by omega) (by omega), show (1048576 * t + 0) / 1048576 = t by omega, e30, nI_mul, nI_add, pk_sub (by omega), Nat.add_sub_cancel]
    rfl
  unfold xX10_lands_b0
  rw [gLet_s, wt, gBi_s]
  rcases ht with rfl | ⟨rfl, rfl⟩
  · rw [if_pos rfl]
    exact k3
  · rw [if_neg (by decide), if_neg nI_10, wt, gBi_s, if_pos rfl]
    exact k3
theorem lands_stop {N a h E : Nat} {v : gT} (e31 : v.1 0 31 = nI h) (hh : h ≤ 220) (ht : Tp (12 + a) v h) (ha : a < 2) : gW0 (xX10_lands_b0 N (nI a)) (E + 1) v = some v := by
  obtain ⟨t, t1, t2, wt⟩ := ht.wt hh e31
  rw [gW0_s]
  generalize gW0 (xX10_lands_b0 N (nI a)) E = go
  unfold xX10_lands_b0
  rw [gLet_s, wt, gBi_s, if_neg (nI_no (by omega) (by omega) (by omega))]
  by_cases a0 : a = 0
  · rw [if_pos (by rw [a0])]
  · rw [if_neg (nI_no (by omega) (by omega) a0), wt, gBi_s, if_neg (nI_no (by omega) (by omega) (by omega))]
theorem lands0 {N : Nat} (hN : 5000 ≤ N) {v u : gT} {h m : Nat} (hj : Jm 11 v u h m) (ht : Tp 12 u h) : xX10_lands N (nI 0) v = some u := by
  obtain ⟨M, rfl⟩ : ∃ M, N = M + 1 + 1 := ⟨N - 2, by omega⟩
  unfold xX10_lands
  obtain ⟨j1, j2, j3⟩ := hj
  rcases j3 with rfl | ⟨l, l1, l2, l3, l4, l5, l6, rfl⟩
  · exact lands_stop j1 (by omega) ht (by omega)
  · rw [lands_pop l1 l2 l3 j2 l4 l5 l6 (Or.inl rfl)]
    exact lands_stop j1 (by omega) ht (by omega)
theorem lands1 {N : Nat} (hN : 5000 ≤ N) {v u y : gT} {h h1 m : Nat} (hj : Jm 11 v u h1 m) (hi : Jm 12 u y h m) (ht : Tp 13 y h) : xX10_lands N (nI 1) v = some y := by
  obtain ⟨M, rfl⟩ : ∃ M, N = M + 1 + 1 + 1 := ⟨N - 3, by omega⟩
  unfold xX10_lands
  have step : ∀ E, gW0 (xX10_lands_b0 (M + 1 + 1 + 1) (nI 1)) (E + 1 + 1) u = some y := fun E => by
    obtain ⟨j1, j2, j3⟩ := hi
    rcases j3 with rfl | ⟨l, l1, l2, l3, l4, l5, l6, rfl⟩
    · exact lands_stop j1 (by omega) ht (by omega)
    · rw [lands_pop l1 l2 l3 j2 l4 l5 l6 (Or.inr ⟨rfl, rfl⟩)]
      exact lands_stop j1 (by omega) ht (by omega)
  obtain ⟨j1, j2, j3⟩ := hj
  rcases j3 with rfl | ⟨l, l1, l2, l3, l4, l5, l6, rfl⟩
  · exact step _
  · rw [lands_pop l1 l2 l3 j2 l4 l5 l6 (Or.inl rfl)]
    exact step _
theorem x_aim {k m : Nat} {last : Int32} {w y : gT} (hj : Jx k last w y m) (h6 : w.1 40 6 = nI (m + k)) (hm : m + k < 256) : xX3_aim last (nI (m + k)) w = some y := by
  unfold xX3_aim
  rcases hj with ⟨rfl, rfl⟩ | ⟨l, l1, l2, rfl, rfl⟩
  · rw [if_pos (by decide)]
  · rw [if_neg (nlt (by omega) (by omega) (by omega)), h6, if_neg (nle (by omega) (by omega) (by omega)), gG_in (by omega) (by omega), gLet_s, nI_clamp (by omega)]
theorem gU_cm {w : gT} {a b i j : Nat} {x y : Int32} (h : a ≠ b) : gU (gU w b j y) a i x = gU (gU w a i x) b j y := by
  refine Prod.ext ?_ rfl
  funext c l
  by_cases ca : c = a
  · subst ca
    rw [gUs, gU1 h, gU1 h, gUs]
  · by_cases cb : c = b
    · subst cb
      rw [gU1 ca, gUs, gUs, gU1 ca]
    · rw [gU1 ca, gU1 cb, gU1 cb, gU1 ca]
theorem Jx.at {k m : Nat} {last : Int32} {w y : gT} (hj : Jx k last w y m) {i : Nat} {x : Int32} : Jx k last (gU w 19 i x) (gU y 19 i x) m := by
  rcases hj with ⟨rfl, rfl⟩ | ⟨l, l1, l2, rfl, rfl⟩
  · exact Or.inl ⟨rfl, rfl⟩
  · exact Or.inr ⟨l, l1, l2, rfl, gU_cm (by decide)⟩
theorem Jx.c {k m : Nat} {last : Int32} {w y : gT} (hj : Jx k last w y m) {c : Nat} (hc : c ≠ 45) : w.1 c = y.1 c := by
  rcases hj with ⟨rfl, rfl⟩ | ⟨l, l1, l2, rfl, rfl⟩
  · rfl
  · rw [gU1 hc]
/-- a jump put down by both -/
def jmp (u : gT) (h m t p : Nat) : gT := gU (notS (gU (gU u 19 h (nI (1048576 * t + m))) 0 31 (nI (h + 1))) m (1048576 * t + 0)) 0 15 (nI (p + 1))
theorem m_jumps {B : Nat → Int32} {len k o h t : Nat} {w u : gT} {pos m : Nat} (hI : In B len k o h w u pos m) (ht : t < 20) : xX10_jumps (nI t) u = some (jmp u h m t pos) := by
  have hd := hI.dd
  have hh := hI.2.2.2.2.2.2.2.1
  have hmp := hI.2.2.2.2.2.2.1
  unfold xX10_jumps
  rw [hI.2.2.2.2.2.1, gG_in (n := 220) (by omega) (by omega), gLet_s, gLet_s, gU1 (by decide), hI.2.2.2.2.2.1, hI.2.2.2.1, nI_mul, nI_add, nI_add, nI_clamp (by omega), notS_m (m := m) (by rw [gU2 (by decide), gU1 (by decide)]; exact hI.2.2.2.1) (by omega), gBv_s, gLet_s, notS_0 (by decide), gU2 (by decide), gU1 (by decide), hI.2.1.2.2, nI_add]
  rfl
theorem In.jump {B : Nat → Int32} {len k o h t : Nat} {w u : gT} {pos m : Nat} {a b : Int32} (hI : In B len k o h w u pos m) (hp : pos < len) : In B len k o (h + 1) (addS (gU w 19 3 (nI (pos + 1))) (m + k) a b) (jmp u h m t pos) (pos + 1) (m + 1) := by
  obtain ⟨i1, i2, i3, i4, i5, i6, i7, i8, i9, i10, i11⟩ := hI
  unfold jmp
  exact ⟨(i1.adv hp).addS, (((i2.uc (by decide) (by decide)).u0 (by decide) (by decide)).notS).adv, by rw [addS_6]; congr 1; omega, by rw [gU2 (by decide)]; exact notS_30, by rw [gU2 (by decide), notS_0 (by decide), gU2 (by decide), gU1 (by decide)]; exact i5, by rw [gU2 (by decide), notS_0 (by decide), gU0], by omega, by omega, i9, i10, i11⟩
