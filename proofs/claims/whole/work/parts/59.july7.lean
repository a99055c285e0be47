/-- the rooms given one after another -/
def mkS (σ : sT) (A : Nat) : Nat → Nat
  | 0 => 0
  | k + 1 => mkS σ A k ||| 2 ^ ((br (mkS σ A k) (fX σ A k (mkS σ A k)) 12).getD (0, 0)).1
def rmS (σ : sT) (A k : Nat) : Nat := ((br (mkS σ A k) (fX σ A k (mkS σ A k)) 12).getD (0, 0)).1
theorem rm_p {σ : sT} {A k : Nat} (hp : pcn (mkS σ A k) 12 < 12) : rmS σ A k < 12 ∧ ¬ bitA (mkS σ A k) (rmS σ A k) ∧ (∀ r, r < rmS σ A k → ¬ bitA (mkS σ A k) r → fX σ A k (mkS σ A k) r < fX σ A k (mkS σ A k) (rmS σ A k)) ∧ ∃ q, br (mkS σ A k) (fX σ A k (mkS σ A k)) 12 = some q ∧ q.1 = rmS σ A k ∧ q.2 = fX σ A k (mkS σ A k) (rmS σ A k) := by
  obtain ⟨p1, p2⟩ := br_p (m := mkS σ A k) (f := fX σ A k (mkS σ A k)) 12
  obtain ⟨r0, hr0, hb0⟩ := unset_ex (m := mkS σ A k) 12 hp
  unfold rmS
  cases hb : br (mkS σ A k) (fX σ A k (mkS σ A k)) 12 with
  | none => exact absurd (p1 hb r0 hr0) hb0
  | some q =>
    obtain ⟨q1, q2, q3, q4, q5⟩ := p2 q hb
    have e : ((some q).getD (0, 0)).1 = q.1 := rfl
    rw [e]
    exact ⟨q1, q2, fun r h1 h2 => by rw [← q3]; exact q5 r h1 h2, q, rfl, rfl, q3⟩
theorem mk_p {σ : sT} {A : Nat} : ∀ k, k ≤ 8 → mkS σ A k < 4096 ∧ pcn (mkS σ A k) 12 = k
  | 0, _ => ⟨by show 0 < 4096; omega, by show pcn 0 12 = 0; decide⟩
  | k + 1, h => by
    obtain ⟨h1, h2⟩ := mk_p (σ := σ) (A := A) k (by omega)
    obtain ⟨r1, r2, -⟩ := rm_p (σ := σ) (A := A) (k := k) (by omega)
    have hp := pcn_or r2 12
    rw [if_pos r1, h2] at hp
    exact ⟨or_lt12 h1 r1, hp⟩
theorem x_roomOf {N : Nat} (hN : 5000 ≤ N) {σ : sT} {w : gT} {A l : Nat} (hA : A ≤ 8) (hl : l < A) (hT : TbX σ A 0 w) (hW : WtX σ A w) : xX5_roomOf N (nI l) w = some (nI (rmS σ A l), w) := by
  have hT2 : ∀ m, TbX σ A m w := fun m p _ h2 => hT p (by omega) h2
  unfold xX5_roomOf
  rw [gLet_s]
  refine gW2_ind (fun t => t = some (nI (rmS σ A l), w)) (fun z x y w1 => ∃ k, k ≤ l ∧ x = nI (mkS σ A k) ∧ y = nI k ∧ z = l - k ∧ w1 = w) ?_ N l _ _ w (by omega) ⟨0, by omega, rfl, rfl, rfl, rfl⟩
  rintro z go x y w1 ⟨k, hk, rfl, rfl, rfl, rfl⟩ ih
  obtain ⟨h1, h2⟩ := mk_p (σ := σ) (A := A) k (by omega)
  unfold xX5_roomOf_b4
  by_cases q : l ≤ k
  · have e : k = l := by omega
    subst e
    rw [if_pos (yle (by omega) (by omega) q)]
    try dsimp only
    rw [x_bestRoom hN hA (by omega) h1 h2 (hT2 _) hW, gBi_s]
    rfl
  · obtain ⟨r1, -⟩ := rm_p (σ := σ) (A := A) (k := k) (by omega)
    have r1' : ((br (mkS σ A k) (fX σ A k (mkS σ A k)) 12).getD (0, 0)).1 < 12 := r1
    rw [if_neg (nle (by omega) (by omega) q), x_bestRoom hN hA (by omega) h1 h2 (hT2 _) hW, gBi_s, gLet_s, shl12 r1', nI_or, nI_add]
    exact ih (l - (k + 1)) _ _ _ (by omega) ⟨k + 1, by omega, rfl, rfl, rfl, rfl⟩
theorem fM_fX {σ : sT} {A k m r : Nat} (hA : A ≤ 8) (hk : k < A) (hp : pcn m 12 = k) (hr : r < 12) (hb : ¬ bitA m r) : spW8 σ k r + vM (spW8 σ) A (A - (k + 1)) (m ||| 2 ^ r) = fX σ A k m r := by
  have hp2 := pcn_or hb 12
  rw [if_pos hr, hp] at hp2
  unfold fX
  rw [vM_vC _ _ (by omega)]
theorem m_roomOf {N : Nat} (hN : 5000 ≤ N) {σ : sT} {w : gT} {A l : Nat} (hA : A ≤ 8) (hl : l < A) (hT : Tab σ A 0 w) (hW : Wts σ A w) : gW3 (xX10_july_b56 N (nI l)) N (nI 0) (nI 0) (nI 0) w = some (nI (rmS σ A l), w) := by
  have hT2 : ∀ k, Tab σ A k w := fun k i m _ h2 h3 => hT i m (by omega) h2 h3
  refine gW3_ind (fun t => t = some (nI (rmS σ A l), w)) (fun z x y c w1 => ∃ k, k ≤ l + 1 ∧ x = nI (mkS σ A k) ∧ (k = l + 1 → y = nI (rmS σ A l)) ∧ c = nI k ∧ z = l + 1 - k ∧ w1 = w) ?_ N (l + 1) _ _ _ w (by omega) ⟨0, by omega, rfl, fun h => by omega, rfl, rfl, rfl⟩
  rintro z go x y c w1 ⟨k, hk, rfl, hy, rfl, rfl, rfl⟩ ih
  obtain ⟨h1, h2⟩ := mk_p (σ := σ) (A := A) k (by omega)
  unfold xX10_july_b56
  by_cases q : l < k
  · rw [if_pos (ylt (by omega) (by omega) q), hy (by omega)]
  · obtain ⟨r1, r2, r3, q0, b1, b2, b3⟩ := rm_p (σ := σ) (A := A) (k := k) (by omega)
    have hv : vM (spW8 σ) A (A - k) (mkS σ A k) = fX σ A k (mkS σ A k) (rmS σ A k) := by
      rw [vM_vC _ _ (by omega), vC_br (by omega), b1]
      exact b3
    have htab := hT2 0 k (mkS σ A k) (by omega) (by omega) h1
    rw [hv] at htab
    have hle := fX_le σ (k := k) hA (mkS σ A k)
    rw [if_neg (nlt (by omega) (by omega) q), gLet_s]
    try dsimp only
    refine gW1_ind (fun t => t = some (nI (rmS σ A l), w1)) (fun z x w2 => ∃ r, r ≤ rmS σ A k ∧ x = nI r ∧ z = rmS σ A k - r ∧ w2 = w1) ?_ N (rmS σ A k) _ w1 (by omega) ⟨0, by omega, rfl, rfl, rfl⟩
    rintro z go2 x w2 ⟨r, hr, rfl, rfl, rfl⟩ ih2
    unfold xX10_july_b65
    by_cases e : r = rmS σ A k
    · subst e
      rw [m_lodgeY hA (by omega) h1 r1 r2 (hT2 _) hW, gBi_s, nI_mul, nI_add, gG_in (by omega) (by omega), nI_clamp (by omega), htab, fM_fX hA (by omega) h2 r1 r2, if_pos rfl]
      try dsimp only
      rw [gLet_s]
      try dsimp only
      rw [if_neg (fun zz => by have := (nI_eq (show rmS σ A k < 2 ^ 31 by omega) (show 12 < 2 ^ 31 by omega)).mp zz; omega), shl12 r1, nI_or, nI_add]
      refine ih (l + 1 - (k + 1)) _ _ _ _ (by omega) ⟨k + 1, by omega, rfl, fun h => ?_, rfl, rfl, rfl⟩
      rw [show k = l by omega]
    · have hr12 : r < 12 := by omega
      by_cases b : bitA (mkS σ A k) r
      · rw [m_lodgeN (σ := σ) hA (show k < A by omega) h1 hr12 b, gBi_s, nI_mul, nI_add, gG_in (by omega) (by omega), nI_clamp (by omega), htab, if_neg (fun zz => nI_m1 (Nat.lt_of_le_of_lt (hle _) (by omega)) zz.symm), gLet_s, nI_add]
        exact ih2 (rmS σ A k - (r + 1)) _ _ (by omega) ⟨r + 1, by omega, rfl, rfl, rfl⟩
      · have hlt := r3 r (by omega) b
        have hne : ¬ nI (fX σ A k (mkS σ A k) r) = nI (fX σ A k (mkS σ A k) (rmS σ A k)) := fun zz => by
          have h3 := hle (rmS σ A k)
          have := (nI_eq (by omega) (by omega)).mp zz
          omega
        rw [m_lodgeY hA (by omega) h1 hr12 b (hT2 _) hW, gBi_s, nI_mul, nI_add, gG_in (by omega) (by omega), nI_clamp (by omega), htab, fM_fX hA (by omega) h2 hr12 b, if_neg hne, gLet_s, nI_add]
        exact ih2 (rmS σ A k - (r + 1)) _ _ (by omega) ⟨r + 1, by omega, rfl, rfl, rfl⟩
theorem o_july {N : Nat} (hN : 5000 ≤ N) {wx wm : gT} (h : Rel N wx wm) (a b : Int32) : OpOk N (xX9_july N a b wx) (xX10_july N a b wm) := by
  obtain ⟨σ, hR, hX, hM, h4⟩ := id h
  have hq : Sq N σ wx wm := ⟨hR, hX, hM, h4⟩
  unfold xX9_july xX10_july
  rcases in_or a 9 (by omega) with ⟨A, hA, rfl⟩ | q
  · by_cases a0 : A < 1
    · rw [if_pos (ylt (by omega) (by omega) a0), m_inx (by omega) (by omega) (by omega) (by omega), gBi_s, if_pos rfl]
      exact OpOk.o h
    rw [if_neg (nlt (by omega) (by omega) a0), if_pos (yle (by omega) (by omega) (by omega)), m_in1 (by omega) (by omega) (by omega), gBi_s, if_neg nI_10, gLet_s, pk_sub (by omega)]
    have key : b = (-1) ∨ (∃ l, l < A ∧ b = nI l) → OpOk N ((fun w2 => gLet (fun w4 => gBv (xX5_fill N (nI A) w4) fun w5 => if b = (-1) then gBi (xX5_most w5) fun v8 w9 => some (v8, w9) else gBi (xX5_roomOf N b w5) fun v6 w7 => some (v6, w7)) fun k3 => gW1 (xX9_july_b32 N (nI A) k3) N (nI 0) w2) wx) (gBv (xX10_laysWorths N (nI A) wm) fun w5 => gBv (xX10_laysJuly N (nI A) w5) fun w6 => if b = (-1) then some (w6.1 37 0, w6) else gW3 (xX10_july_b56 N b) N (nI 0) (nI 0) (nI 0) w6) := by
      intro hb
      try dsimp only
      rw [gLet_s]
      refine x_worths hN hX hR (by omega) _ (fun t => OpOk N t _) (fun w1 s1 W1 => ?_)
      obtain ⟨w2, e2, s2, T2⟩ := x_fillTable hN (σ := σ) (w := w1) (A := A) (by omega) (by omega) W1
      obtain ⟨v1, f1, t1, V1⟩ := m_worths hN hM hR (A := A) (by omega)
      obtain ⟨v2, f2, t2, U2⟩ := m_laysJuly hN (σ := σ) (w := v1) (A := A) (by omega) (by omega) V1
      have W2 : WtX σ A w2 := fun l r hl hr => by rw [s2 57 (by decide)]; exact W1 l r hl hr
      have V2 : Wts σ A v2 := fun l r hl hr => by rw [t2 36 (by decide)]; exact V1 l r hl hr
      have hq2 : Sq N σ w2 v2 := (hq.c s1 t1 rfl rfl).c s2 t2 rfl rfl
      rw [e2, gBv_s, f1, gBv_s, f2, gBv_s]
      have p0 : pcn 0 12 = 0 := by decide
      rcases hb with rfl | ⟨l, hl, rfl⟩
      · have ev : vM (spW8 σ) A A 0 = vC (spW8 σ) A A 0 := vM_vC A 0 (by rw [p0]; omega)
        have e58 := T2 0 (by omega) (by omega)
        have e37 := U2 0 0 (by omega) (by omega) (by omega)
        rw [p0] at e58
        rw [if_pos rfl, if_pos rfl]
        unfold xX5_most
        rw [gBi_s, e58]
        have e37' : v2.1 37 0 = nI (vC (spW8 σ) A (A - 0) 0) := by
          rw [Nat.sub_zero, ← ev]
          rw [Nat.sub_zero] at e37
          exact e37
        rw [e37']
        exact OpOk.o hq2.rel
      · rw [if_neg (nI_m1 (by omega)), if_neg (nI_m1 (by omega)), x_roomOf hN (by omega) hl T2 W2, gBi_s, m_roomOf hN (by omega) hl U2 V2]
        exact OpOk.o hq2.rel
    rcases in_or b A (by omega) with ⟨l, hl, rfl⟩ | q
    · have k := key (Or.inr ⟨l, hl, rfl⟩)
      have e : xX10_in (nI l) (-1) (nI (A - 1)) wm = some (nI 1, wm) := by
        unfold xX10_in
        rw [if_neg (fun z => (m1_le (v := l) (by omega)).1 (Int32.le_of_lt z)), if_neg (nlt (by omega) (by omega) (by omega))]
      rw [e, gBi_s, if_neg nI_10, if_neg (nI_m1 (by omega)), if_neg (nlt (by omega) (by omega) (by omega)), if_pos (ylt (by omega) (by omega) hl)]
      exact k
    · by_cases b1 : b = (-1)
      · have k := key (Or.inl b1)
        have e : xX10_in b (-1) (nI (A - 1)) wm = some (nI 1, wm) := by
          unfold xX10_in
          rw [b1, if_neg (by decide), if_neg (fun z => (m1_le (v := A - 1) (by omega)).1 (Int32.le_of_lt z))]
        rw [e, gBi_s, if_neg nI_10, if_pos b1]
        exact k
      · have e : xX10_in b (-1) (nI (A - 1)) wm = some (nI 0, wm) := by
          unfold xX10_in
          rcases q with q | q
          · have hlt : b < (-1) := by
              rw [Int32.lt_iff_toInt_lt] at q ⊢
              have e0 : (0 : Int32).toInt = 0 := by decide
              have e1 : ((-1) : Int32).toInt = -1 := by decide
              have : b.toInt ≠ -1 := fun z => b1 (Int32.toInt_inj.mp (by rw [z, e1]))
              omega
            rw [if_pos hlt]
          · have hgt : nI (A - 1) < b := lt_of_le1 (by omega) (by rw [show A - 1 + 1 = A by omega]; exact q)
            rw [if_pos hgt]
            split <;> rfl
        rw [e, gBi_s, if_pos rfl, if_neg b1]
        rcases q with q | q
        · have q' : b < nI 0 := q
          rw [if_pos q']; exact OpOk.o h
        · rw [if_neg (ge_nlt (l := 0) (by omega) (by omega) q), if_neg (Int32.not_lt.mpr q)]
          exact OpOk.o h
  · rw [m_in0 (by omega) q (by omega), gBi_s, if_pos rfl]
    rcases q with q | q
    · rw [if_pos (lt_nI (by omega) q)]; exact OpOk.o h
    · rw [if_neg (ge_nlt (l := 1) (by omega) (by omega) q), if_neg (Int32.not_le.mpr (lt_of_le1 (by omega) q))]
      exact OpOk.o h
