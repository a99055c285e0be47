theorem XT.uc {B : Nat → Int32} {w : gT} {len pos a i : Nat} {x : Int32} (h : XT B w len pos) (ha : a ≠ 19) (ha2 : a ≠ 20) : XT B (gU w a i x) len pos := by
  obtain ⟨h1, h2, h3, h4, h5, h6⟩ := h
  refine ⟨?_, ?_, ?_, ?_, h5, h6⟩
  · rw [gU1 (Ne.symm ha2)]; exact h1
  · rw [gU1 (Ne.symm ha)]; exact h2
  · rw [gU1 (Ne.symm ha)]; exact h3
  · rw [gU1 (Ne.symm ha)]; exact h4
theorem MT.uc {B : Nat → Int32} {v : gT} {len pos a i : Nat} {x : Int32} (h : MT B v len pos) (ha : a ≠ 0) (ha2 : a ≠ 9) : MT B (gU v a i x) len pos := by
  obtain ⟨h1, h2, h3⟩ := h
  refine ⟨?_, ?_, ?_⟩
  · rw [gU1 (Ne.symm ha2)]; exact h1
  · rw [gU1 (Ne.symm ha)]; exact h2
  · rw [gU1 (Ne.symm ha)]; exact h3
theorem MT.u0 {B : Nat → Int32} {v : gT} {len pos i : Nat} {x : Int32} (h : MT B v len pos) (h15 : i ≠ 15) (h16 : i ≠ 16) : MT B (gU v 0 i x) len pos := by
  obtain ⟨h1, h2, h3⟩ := h
  refine ⟨?_, ?_, ?_⟩
  · rw [gU1 (by decide)]; exact h1
  · rw [gU2 (Ne.symm h16)]; exact h2
  · rw [gU2 (Ne.symm h15)]; exact h3
theorem XT.addS {B : Nat → Int32} {w : gT} {len pos n : Nat} {a b : Int32} (h : XT B w len pos) : XT B (addS w n a b) len pos := ((h.uc (by decide) (by decide)).uc (by decide) (by decide)).uc (by decide) (by decide)
theorem MT.notS {B : Nat → Int32} {v : gT} {len pos m x : Nat} (h : MT B v len pos) : MT B (notS v m x) len pos := (h.uc (by decide) (by decide)).u0 (by decide) (by decide)
theorem notS_0 {v : gT} {m x i : Nat} (h : i ≠ 30) : (notS v m x).1 0 i = v.1 0 i := by
  unfold notS
  rw [gU2 h, gU1 (by decide)]
theorem notS_30 {v : gT} {m x : Nat} : (notS v m x).1 0 30 = nI (m + 1) := by
  unfold notS
  rw [gU0]
theorem addS_6 {w : gT} {n : Nat} {a b : Int32} : (addS w n a b).1 40 6 = nI (n + 1) := by
  unfold addS
  rw [gU0]
theorem In.emit {B : Nat → Int32} {len k o h : Nat} {w v : gT} {pos m x : Nat} {a b : Int32} (hI : In B len k o h w v pos m) (hp : m + 1 ≤ pos) : In B len k o h (addS w (m + k) a b) (notS v m x) pos (m + 1) := by
  obtain ⟨i1, i2, i3, i4, i5, i6, i7, i8, i9, i10, i11⟩ := hI
  exact ⟨i1.addS, i2.notS, by rw [addS_6]; congr 1; omega, notS_30, (notS_0 (by decide)).trans i5, (notS_0 (by decide)).trans i6, hp, i8, i9, i10, i11⟩
/-- both go on with the text -/
theorem In.mv {B : Nat → Int32} {len k o h : Nat} {w v w1 v1 : gT} {pos pos1 m : Nat} (hI : In B len k o h w v pos m) (hx : XT B w1 len pos1) (hm : MT B v1 len pos1) (fx : FX w w1) (fm : FM v v1) (hp : pos ≤ pos1) : In B len k o h w1 v1 pos1 m := by
  obtain ⟨i1, i2, i3, i4, i5, i6, i7, i8, i9, i10, i11⟩ := hI
  exact ⟨hx, hm, by rw [fx.1 40 (by decide)]; exact i3, (fm.2 30 (by decide)).trans i4, (fm.2 29 (by decide)).trans i5, (fm.2 31 (by decide)).trans i6, by omega, by omega, i9, i10, i11⟩
theorem Tr.mv {k h : Nat} {w v w1 v1 : gT} {pos m pos1 : Nat} {κ : Nat → Nat} (fx : FX w w1) (fm : FM v v1) (hp : pos ≤ pos1) : Tr k h w v pos m κ w1 v1 pos1 m κ := Tr.u hp (fx.1 44 (by decide)) (fx.1 45 (by decide)) (fm.1 18 (by decide)) (fun j _ => by rw [fm.1 19 (by decide)]) fx.lx fm.lm
theorem In.dd {B : Nat → Int32} {len k o h : Nat} {w v : gT} {pos m : Nat} (hI : In B len k o h w v pos m) : m + k ≤ 255 ∧ pos ≤ 200 := by
  obtain ⟨i1, i2, i3, i4, i5, i6, i7, i8, i9, i10, i11⟩ := hI
  have := i1.2.2.2.2.1
  omega
theorem In.fl {B : Nat → Int32} {len k o h : Nat} {w v : gT} {pos m c : Nat} (hI : In B len k o h w v pos m) (h1 : 1 ≤ c) (h2 : c < 10) : FL w v (gU w 19 4 (fc c pos)) (gU v 0 17 (fc c pos)) := by
  have := hI.dd
  exact FL.mk h1 h2 (by omega) (n := m + k) (by omega) hI.2.2.1
def kF (N : Nat) : gT → Option (Int32 × gT) := fun (w2 : gT) =>
  gBi (xX10_isDigit w2) fun (v3 : Int32) (w4 : gT) =>
  (if v3 = (nI 0) then
    gBi (xX10_here w4) fun (v5 : Int32) (w6 : gT) =>
    gBi (xX10_factOf v5 w6) fun (v7 : Int32) (w8 : gT) =>
    (if v7 = (-1) then
      gBi (xX10_wrongAt (nI 1) (w8.1 0 15) w8) fun (v11 : Int32) (w12 : gT) =>
      if v11 = nI 0 ∨ v11 = nI 1 then some (v11, w12) else none
    else
      gBv (xX10_notes (nI 1) v7 w8) fun (w9 : gT) =>
      gLet (gU w9 0 15 ((w9.1 0 15) + (nI 1))) fun (w10 : gT) =>
      some ((nI 1), w10))
  else
    gBi (xX10_readsNumber N w4) fun (v13 : Int32) (w14 : gT) =>
    (if v13 = (nI 0) then
      some ((nI 0), w14)
    else
      gBv (xX10_notes (nI 0) (w14.1 0 18) w14) fun (w15 : gT) =>
      some ((nI 1), w15)))
theorem rF_e (N : Nat) (w : gT) : xX10_readsFactor N w = gW0 (xX10_readsFactor_b0 N (kF N)) N w := rfl
theorem wrong_e (v : gT) (k p : Nat) : (gBi (xX10_wrongAt (nI k) (nI p) v) fun (v3 : Int32) (w4 : gT) => if v3 = nI 0 ∨ v3 = nI 1 then some (v3, w4) else none) = some (nI 0, gU v 0 17 (fc k p)) := by
  rw [m_wrongAt, gBi_s, if_pos (Or.inl rfl)]
theorem ty_push {x : Nat} {κ : Nat → Nat} {m T : Nat} (hk : κ m = T) (hT : T < 31) (hx : cO x = 0 ∨ (cO x = 1 ∧ cA x < 12)) : TyS (fun _ => x) (updK κ (m + 1) (T + 1)) (m + 1) m := by
  have e1 : updK κ (m + 1) (T + 1) m = T := (if_neg (by omega)).trans hk
  have e2 : updK κ (m + 1) (T + 1) (m + 1) = T + 1 := if_pos rfl
  unfold TyS
  rw [e1, e2]
  rcases hx with h | ⟨h, h2⟩
  · exact Or.inl ⟨h, hT, rfl⟩
  · exact Or.inr (Or.inl ⟨h, h2, hT, rfl⟩)
theorem cO_mk {a b : Nat} (hb : b < 1048576) : cO (1048576 * a + b) = a := by unfold cO; omega
theorem cA_mk {a b : Nat} (hb : b < 1048576) : cA (1048576 * a + b) = b := by unfold cA; omega
theorem fac_base {N : Nat} (hN : 5000 ≤ N) {B : Nat → Int32} (hB : ∀ i, Bl (B i) 256) {len k o h : Nat} {w v : gT} {pos m T : Nat} {κ : Nat → Nat} (hI : In B len k o h w v pos m) (hT : κ m = T) (hT31 : T < 31) (hb : pkV B len pos ≠ nI 91) (rc : Int32 → gT → Option gT) (a : Int32) :
    (∃ w' v' pos' m' κ', xX4_readFactor N rc a w = some w' ∧ kF N v = some (nI 1, v') ∧ In B len k o h w' v' pos' m' ∧ Tr k h w v pos m κ w' v' pos' m' κ' ∧ κ' m' = T + 1 ∧ pos < pos') ∨
    (∃ w' v', xX4_readFactor N rc a w = some w' ∧ kF N v = some (nI 0, v') ∧ FL w v w' v') := by
  have hI0 := hI
  have hdd := hI.dd
  obtain ⟨i1, i2, i3, i4, i5, i6, i7, i8, i9, i10, i11⟩ := hI
  have h5 := i1.2.2.2.2.1
  have h6 := i1.2.2.2.2.2
  unfold xX4_readFactor kF
  rw [x_peek i1, gBi_s, if_neg hb]
  by_cases cd : ∃ e, e ≤ 9 ∧ pkV B len pos = nI (48 + e)
  · obtain ⟨e, he, hce⟩ := cd
    rw [x_at1 i1 he hce, gBi_s, if_neg nI_10, m_at1 i2 h5 h6 he hce, gBi_s, if_neg nI_10]
    unfold xX4_readNumber xX10_readsNumber
    simp only [gLet_s]
    rw [i2.2.2]
    obtain ⟨r, w1, v1, pos1, b1, b2, b3, b4, b5, b6, b7, b8, b9, b10⟩ := num_loop (N := N) hB (len := len) (pos0 := pos) (fun (v2 : Int32) (w3 : gT) => gBi (xX6_isAtDigit w3) fun (v7 : Int32) (w8 : gT) => (if v7 = (nI 0) then gBv (xX3_addStep (nI 0) v2 w8) fun (w6 : gT) => some w6 else gBv (xX6_fail (nI 2) w8) fun (w9 : gT) => gBv (xX3_addStep (nI 0) v2 w9) fun (w6 : gT) => some w6)) (fun (w4 : gT) => gBi (xX10_wrongAt (nI 2) (w4.1 0 15) w4) fun (v5 : Int32) (w6 : gT) => if v5 = nI 0 ∨ v5 = nI 1 then some (v5, w6) else none) 5 0 N N 0 pos w (gU v 0 18 (nI 0)) (by omega) (by omega) (by omega) i1 (i2.u18 _) gU0 (by omega) (by omega)
    have hpp := b9 (by omega) ⟨e, he, hce⟩
    have b6' : FM v v1 := (FM.u (by decide)).tr b6
    have hI1 := hI0.mv b3 b4 b5 b6' (by omega)
    have hdd1 := hI1.dd
    rw [b2]
    try dsimp only
    rcases b10 with ⟨hn, hm⟩ | ⟨e2, he2, hc2, hm⟩
    · rw [hm, gBi_s, if_neg nI_10, b8, notS_m hI1.2.2.2.1 (by omega), gBv_s, x_at0 hB b3 hn, gBi_s, if_pos rfl, addS_x hI1.2.2.1 (by omega), gBv_s]
      refine Or.inl ⟨_, _, pos1, m + 1, updK κ (m + 1) (T + 1), rfl, rfl, hI1.emit (by omega), ?_, if_pos rfl, hpp⟩
      have t1 : Tr k h w v pos m κ w1 v1 (pos1 - 1) m κ := Tr.mv b5 b6' (by omega)
      have t2 : Tr k h w1 v1 (pos1 - 1) m κ (addS w1 (m + k) (nI 0) (nI r)) (notS v1 m (1048576 * 0 + r)) (pos1 - 1 + 1) (m + 1) (updK κ (m + 1) (T + 1)) := Tr.emit (ty_push hT hT31 (Or.inl (cO_mk (by omega)))) (by
        unfold CdC
        rw [cO_mk (by omega), cA_mk (by omega)]
        exact ⟨rfl, fun _ => rfl, fun z => by omega, fun z => by omega⟩)
      rw [show pos1 - 1 + 1 = pos1 by omega] at t2
      exact t1.tr t2 (Nat.le_refl _)
    · rw [hm]
      try dsimp only
      refine Or.inr ?_
      have hfl := hI1.fl (c := 2) (by omega) (by omega)
      obtain ⟨w3, e3, f3, g3, l3⟩ := d_addStep hfl.2.1 (nI 0) (nI r)
      have hfl3 := hfl.x f3 g3 l3
      rw [x_at1 b3 he2 hc2, gBi_s, if_neg nI_10, x_fail b3, gBv_s, e3, gBv_s, b4.2.2, wrong_e, gBi_s, if_pos rfl]
      exact ⟨_, _, rfl, rfl, FL.tr b5.lx b6'.lm hfl3⟩
  · have hn : ∀ e, e ≤ 9 → pkV B len pos ≠ nI (48 + e) := fun e he z => cd ⟨e, he, z⟩
    rw [x_at0 hB i1 hn, gBi_s, if_pos rfl, m_at0 hB i2 h5 h6 hn, gBi_s, if_pos rfl, m_here i2 h5 h6, gBi_s, foV_e, gBi_s, isl_e, gBi_s]
    by_cases bad : isl (pkV B len pos) = nI 0 ∧ foV (pkV B len pos) = (-1)
    · rw [if_pos bad.1, if_pos bad.2, x_fail i1, gBv_s, i2.2.2, wrong_e]
      exact Or.inr ⟨_, _, rfl, rfl, hI0.fl (by omega) (by omega)⟩
    rcases pk_cases hB len pos with hq | ⟨q, hq, eq⟩
    · exact absurd (by rw [hq]; exact let_m1) bad
    · rcases let_all ⟨q, hq⟩ with z | ⟨z1, j, z2, z3⟩
      · exact absurd (by rw [eq]; exact z) bad
      · have z1 : isl (nI q) = nI 1 := z1
        have z2 : foV (nI q) = nI j.1 := z2
        have z3 : q = 97 + posX j.1 := z3
        have hpl := pkV_lt (show q < 2 ^ 30 by omega) eq
        have hj := j.2
        rw [eq, z1, z2, if_neg nI_10, if_neg (nI_m1 (by omega)), i1.2.2.1, nI_add, gLet_s, addS_x (n := m + k) (by rw [gU1 (by decide)]; exact i3) (by omega), gBv_s, notS_m i4 (by omega), gBv_s, gLet_s, notS_0 (by decide), i2.2.2, nI_add, pk_sub (by omega), show q - 97 = posX j.1 by omega]
        have x1 := i1.adv hpl
        have m1 : MT B (gU (notS v m (1048576 * 1 + j.1)) 0 15 (nI (pos + 1))) len (pos + 1) := (i2.notS).adv
        refine Or.inl ⟨_, _, pos + 1, m + 1, updK κ (m + 1) (T + 1), rfl, rfl, ⟨x1.addS, m1, by rw [addS_6]; congr 1; omega, by rw [gU2 (by decide)]; exact notS_30, by rw [gU2 (by decide), notS_0 (by decide)]; exact i5, by rw [gU2 (by decide), notS_0 (by decide)]; exact i6, by omega, by omega, i9, i10, i11⟩, ?_, if_pos rfl, by omega⟩
        have t1 : Tr k h w v pos m κ (gU w 19 3 (nI (pos + 1))) v pos m κ := Tr.u (Nat.le_refl _) (gU1 (by decide)) (gU1 (by decide)) rfl (fun _ _ => rfl) (LX.t (by omega)) LM.rf
        have t2 : Tr k h (gU w 19 3 (nI (pos + 1))) v pos m κ (addS (gU w 19 3 (nI (pos + 1))) (m + k) (nI 1) (nI (posX j.1))) (notS v m (1048576 * 1 + j.1)) (pos + 1) (m + 1) (updK κ (m + 1) (T + 1)) := Tr.emit (ty_push hT hT31 (Or.inr ⟨cO_mk (by omega), by rw [cA_mk (by omega)]; exact hj⟩)) (by
          unfold CdC
          rw [cO_mk (by omega), cA_mk (by omega)]
          exact ⟨rfl, fun z => by omega, fun _ => rfl, fun z => by omega⟩)
        have t3 : Tr k h (addS (gU w 19 3 (nI (pos + 1))) (m + k) (nI 1) (nI (posX j.1))) (notS v m (1048576 * 1 + j.1)) (pos + 1) (m + 1) (updK κ (m + 1) (T + 1)) (addS (gU w 19 3 (nI (pos + 1))) (m + k) (nI 1) (nI (posX j.1))) (gU (notS v m (1048576 * 1 + j.1)) 0 15 (nI (pos + 1))) (pos + 1) (m + 1) (updK κ (m + 1) (T + 1)) := Tr.u (Nat.le_refl _) rfl rfl (gU1 (by decide)) (fun j _ => by rw [gU1 (by decide)]) LX.rf (LM.n (by decide))
        exact (t1.tr t2 (Nat.le_refl _)).tr t3 (Nat.le_refl _)
