def opn (v : gT) (h o x p : Nat) : gT := gU (gU (gU (gU v 0 29 (nI (o + 1))) 19 h (nI (1048576 * x))) 0 31 (nI (h + 1))) 0 15 (nI (p + 1))
theorem opn_e {v : gT} {h o x p : Nat} : opn v h o x p = gU (gU (gU (gU v 0 29 (nI (o + 1))) 19 h (nI (1048576 * x))) 0 31 (nI (h + 1))) 0 15 (nI (p + 1)) := rfl
theorem m_opens {B : Nat → Int32} {len k o h x : Nat} {w v : gT} {pos m : Nat} (hI : In B len k o h w v pos m) (ho : o < 6) : xX10_opens (nI x) v = some (nI 1, opn v h o x pos) := by
  have hd := hI.dd
  have hh := hI.2.2.2.2.2.2.2.1
  unfold xX10_opens opn
  rw [hI.2.2.2.2.1, if_neg (fun z => by have := (nI_eq (show o < 2 ^ 31 by omega) (by omega)).mp z; omega), gLet_s, nI_add, gU2 (by decide), hI.2.2.2.2.2.1, gG_in (by omega) (by omega), gLet_s, gLet_s, gLet_s, gU1 (by decide), gU2 (by decide), hI.2.2.2.2.2.1, gU2 (by decide), gU1 (by decide), gU2 (by decide), hI.2.1.2.2, nI_add, nI_add, nI_mul, nI_clamp (by omega)]
theorem m_opens6 {B : Nat → Int32} {len k h x : Nat} {w v : gT} {pos m : Nat} (hI : In B len k 6 h w v pos m) : xX10_opens (nI x) v = some (nI 0, gU v 0 17 (fc 5 pos)) := by
  unfold xX10_opens
  rw [hI.2.2.2.2.1, if_pos rfl, hI.2.1.2.2]
  exact wrong_e v 5 pos
theorem In.opn {B : Nat → Int32} {len k o h : Nat} {w v : gT} {pos m x : Nat} (hI : In B len k o h w v pos m) (hp : pos < len) (ho : o < 6) : In B len k (o + 1) (h + 1) (gU w 19 3 (nI (pos + 1))) (opn v h o x pos) (pos + 1) m := by
  obtain ⟨i1, i2, i3, i4, i5, i6, i7, i8, i9, i10, i11⟩ := hI
  rw [opn_e]
  exact ⟨i1.adv hp, (((i2.u0 (by decide) (by decide)).uc (by decide) (by decide)).u0 (by decide) (by decide)).adv, by rw [gU1 (by decide)]; exact i3, by rw [gU2 (by decide), gU2 (by decide), gU1 (by decide), gU2 (by decide)]; exact i4, by rw [gU2 (by decide), gU2 (by decide), gU1 (by decide), gU0], by rw [gU2 (by decide), gU0], by omega, by omega, i9, i10, by omega⟩
theorem opn_19 {v : gT} {h o x p : Nat} : (opn v h o x p).1 19 h = nI (1048576 * x) := by
  unfold opn
  rw [gU1 (by decide), gU1 (by decide), gU0]
theorem Tr.opn {k h o : Nat} {w v : gT} {pos m x : Nat} {κ : Nat → Nat} (p : Nat) (hp : pos ≤ p) : Tr k h w v pos m κ (gU w 19 3 (nI (pos + 1))) (opn v h o x pos) p m κ := by
  rw [opn_e]
  refine Tr.u hp (gU1 (by decide)) (gU1 (by decide)) (by rw [gU1 (by decide), gU1 (by decide), gU1 (by decide), gU1 (by decide)]) (fun j hj => by rw [gU1 (by decide), gU1 (by decide), gU2 (by omega), gU1 (by decide)]) (LX.t (by omega)) ((LM.n (by decide)).tr ((LM.c (Or.inr rfl)).tr ((LM.n (by decide)).tr (LM.n (by decide)))))
def cls (v : gT) (h o p : Nat) : gT := gU (gU (gU v 0 31 (nI h)) 0 29 (nI o)) 0 15 (nI (p + 1))
theorem cls_e {v : gT} {h o p : Nat} : cls v h o p = gU (gU (gU v 0 31 (nI h)) 0 29 (nI o)) 0 15 (nI (p + 1)) := rfl
theorem In.cls {B : Nat → Int32} {len k o h : Nat} {w v : gT} {pos m : Nat} (hI : In B len k (o + 1) (h + 1) w v pos m) (hp : pos < len) : In B len k o h (gU w 19 3 (nI (pos + 1))) (cls v h o pos) (pos + 1) m := by
  obtain ⟨i1, i2, i3, i4, i5, i6, i7, i8, i9, i10, i11⟩ := hI
  rw [cls_e]
  exact ⟨i1.adv hp, ((i2.u0 (by decide) (by decide)).u0 (by decide) (by decide)).adv, by rw [gU1 (by decide)]; exact i3, by rw [gU2 (by decide), gU2 (by decide), gU2 (by decide)]; exact i4, by rw [gU2 (by decide), gU0], by rw [gU2 (by decide), gU2 (by decide), gU0], by omega, by omega, i9, i10, by omega⟩
theorem Tr.cls {k h o : Nat} {w v : gT} {pos m : Nat} {κ : Nat → Nat} : Tr k h w v pos m κ (gU w 19 3 (nI (pos + 1))) (cls v h o pos) (pos + 1) m κ := by
  rw [cls_e]
  refine Tr.u (by omega) (gU1 (by decide)) (gU1 (by decide)) (by rw [gU1 (by decide), gU1 (by decide), gU1 (by decide)]) (fun j hj => by rw [gU1 (by decide), gU1 (by decide), gU1 (by decide)]) (LX.t (by omega)) ((LM.n (by decide)).tr ((LM.n (by decide)).tr (LM.n (by decide))))
theorem x_deeper {B : Nat → Int32} {w : gT} {len pos o : Nat} (h : XT B w len pos) (ho : o < 6) : xX4_goesDeeper (nI o) w = some (nI 1, gU w 19 3 (nI (pos + 1))) := by
  unfold xX4_goesDeeper
  rw [if_pos (ylt (by omega) (by omega) ho), gLet_s, h.2.2.1, nI_add]
theorem x_deeper6 {B : Nat → Int32} {w : gT} {len pos : Nat} (h : XT B w len pos) : xX4_goesDeeper (nI 6) w = some (nI 0, gU w 19 4 (fc 5 pos)) := by
  unfold xX4_goesDeeper
  rw [if_neg (by decide), x_fail h, gBv_s]
theorem FX1_b {N v1 F G : Nat} {B : Nat → Int32} {v : gT} {len pos : Nat} (hm : MT B v len pos) (h5 : pos ≤ len) (h6 : len ≤ 220) (hb : pkV B len pos = nI 91) : FX1 N v1 F (G + 1) v = gBi (gBi (xX10_opens (nI 14) v) fun (v20 : Int32) (w21 : gT) => (if v20 = (nI 0) then some ((nI 0), w21) else gW0 (xX10_readsFactor_b0 N (kF N)) G w21)) fun (r : Int32) (v' : gT) => if r = nI 0 then some (nI 0, v') else LH N v1 F v' := by
  unfold FX1
  rw [gW0_s]
  generalize gW0 (xX10_readsFactor_b0 N (kF N)) G = go
  unfold xX10_readsFactor_b0
  rw [m_here hm h5 h6, gBi_s, if_pos hb]
theorem FX1_n {N v1 F G : Nat} {B : Nat → Int32} {v : gT} {len pos : Nat} (hm : MT B v len pos) (h5 : pos ≤ len) (h6 : len ≤ 220) (hb : pkV B len pos ≠ nI 91) : FX1 N v1 F (G + 1) v = gBi (kF N v) fun (r : Int32) (v' : gT) => if r = nI 0 then some (nI 0, v') else LH N v1 F v' := by
  unfold FX1
  rw [gW0_s]
  generalize gW0 (xX10_readsFactor_b0 N (kF N)) G = go
  unfold xX10_readsFactor_b0
  rw [m_here hm h5 h6, gBi_s, if_neg hb]
theorem Pn.H3 {h h1 : Nat} {v u y : gT} (hp : Pn 4 6 v u h1) (hq : Pn 2 3 u y h) : ∃ H, h ≤ H ∧ H ≤ h + 2 ∧ v.1 0 31 = nI H ∧ ∀ j, h ≤ j → j < H → ∃ x, x < 14 ∧ v.1 19 j = nI (1048576 * x) := by
  have e19 := hp.i19
  have hh := hp.2.1
  have hh2 := hq.2.1
  rcases hq.H with b | ⟨b, x, x1, x2, b2⟩
  · have e : h1 = h := (nI_eq (by omega) (by omega)).mp (hp.1.symm.trans b)
    subst e
    rcases hp.H with a | ⟨a, z, z1, z2, a2⟩
    · exact ⟨h1, Nat.le_refl _, by omega, a, fun j j1 j2 => by omega⟩
    · exact ⟨h1 + 1, by omega, by omega, a, fun j j1 j2 => ⟨z, by omega, by rw [show j = h1 by omega]; exact a2⟩⟩
  · have e : h1 = h + 1 := (nI_eq (by omega) (by omega)).mp (hp.1.symm.trans b)
    subst e
    have b3 : v.1 19 h = nI (1048576 * x) := by rw [e19]; exact b2
    rcases hp.H with a | ⟨a, z, z1, z2, a2⟩
    · exact ⟨h + 1, by omega, by omega, a, fun j j1 j2 => ⟨x, by omega, by rw [show j = h by omega]; exact b3⟩⟩
    · refine ⟨h + 1 + 1, by omega, by omega, a, fun j j1 j2 => ?_⟩
      by_cases c : j = h
      · exact ⟨x, by omega, by rw [c]; exact b3⟩
      · exact ⟨z, by omega, by rw [show j = h + 1 by omega]; exact a2⟩
theorem fac_step {N : Nat} (hN : 5000 ≤ N) {B : Nat → Int32} (hB : ∀ i, Bl (B i) 256) {len k v1 d : Nat} (hs : SumS N B len k v1 d) : ∀ o, 9 ≤ d + 1 + o → FacS N B len k v1 (xX4_readSum N d) o := by
  intro o hdo w v pos m h T κ F G hI hk hT hv1 hF hG
  have hd := hI.dd
  have hhp := hI.2.2.2.2.2.2.2.1
  have ho6 := hI.2.2.2.2.2.2.2.2.2.2
  have h5 := hI.1.2.2.2.2.1
  have h6 := hI.1.2.2.2.2.2
  obtain ⟨G, rfl⟩ : ∃ G', G = G' + 1 := ⟨G - 1, by omega⟩
  by_cases hb : pkV B len pos = nI 91
  · have hpl := pkV_lt (by omega) hb
    unfold xX4_readFactor
    rw [x_peek hI.1, gBi_s, if_pos hb, FX1_b hI.2.1 h5 h6 hb]
    by_cases o6 : o = 6
    · subst o6
      rw [x_deeper6 hI.1, gBi_s, if_pos rfl, m_opens6 hI, gBi_s, if_pos rfl, gBi_s, if_pos rfl]
      exact Or.inr ⟨_, _, rfl, rfl, hI.fl (by omega) (by omega)⟩
    · have ho : o < 6 := by omega
      have hI2 := hI.opn (x := 14) hpl ho
      have hb2 : Bs 1 (opn v h o 14 pos) (h + 1) := Or.inr ⟨14, 0, by omega, by omega, by rw [Nat.add_sub_cancel]; exact opn_19, by omega, Or.inr (by omega)⟩
      rw [x_deeper hI.1 ho, gBi_s, if_neg nI_10, m_opens hI ho, gBi_s, if_neg nI_10, nI_add]
      have efx : (gBi (gW0 (xX10_readsFactor_b0 N (kF N)) G (opn v h o 14 pos)) fun (r : Int32) (v' : gT) => if r = nI 0 then some (nI 0, v') else LH N v1 F v') = FX1 N v1 F G (opn v h o 14 pos) := rfl
      rw [efx]
      have t0 : Tr k h w v pos m κ (gU w 19 3 (nI (pos + 1))) (opn v h o 14 pos) (pos + 1) m κ := Tr.opn (pos + 1) (by omega)
      rcases hs (o + 1) _ _ (pos + 1) m (h + 1) T κ F G (by omega) hI2 hk (by omega) (by omega) hb2 (by omega) (by omega) with ⟨w3, v3, u3, y3, h3, pos3, m3, κ3, F3, a1, a2, a3, a4, a5, a6, a7, a8, a9, a10⟩ | ⟨w3, v3, a1, a2, a3⟩
      · have hd3 := a3.dd
        have h53 := a3.1.2.2.2.2.1
        obtain ⟨H, H1, H2, H3, -⟩ := a4.H3 a5
        have hmt3 : MT B v3 len pos3 := a4.mt (a5.mt a3.2.1)
        have e14 : v3.1 19 h = nI (1048576 * 14) := by
          rw [a4.i19, a5.i19, a6.i19 h (by omega)]
          exact opn_19
        have hhh := a3.2.2.2.2.2.2.2.1
        have hyes : xX10_hasOpenSum N (nI v1) v3 = some (nI 1, v3) := has_yes hN H3 (by omega) hv1 (by omega) e14
        obtain ⟨F3, rfl⟩ : ∃ F', F3 = F' + 1 := ⟨F3 - 1, by omega⟩
        rw [a1, gBv_s, a2]
        unfold LH
        rw [gW0_s]
        generalize hgo : gW0 (xX10_readsSum_b14 N (kS N (nI v1)) (nI v1)) F3 = go
        unfold xX10_readsSum_b14
        rw [gLet_s, m_here hmt3 h53 h6, gBi_s, sumS0 a10, gBi_s, if_pos rfl, m_here hmt3 h53 h6, gBi_s]
        by_cases c : pkV B len pos3 = nI 93
        · have hpl3 := pkV_lt (by omega) c
          rw [if_pos c, hyes, gBi_s, if_neg nI_10, closes1 hN a4 a5 (hb2.fr a6.i19), gBv_s, gLet_s, gLet_s, gLet_s, x_sign1 a3.1 c, gBv_s, a3.2.2.2.2.2.1, gU2 (by decide), a3.2.2.2.2.1, gU2 (by decide), gU2 (by decide), a3.2.1.2.2, nI_add, pk_sub (by omega), pk_sub (by omega), Nat.add_sub_cancel, Nat.add_sub_cancel]
          refine Or.inl ⟨_, cls y3 h o pos3, pos3 + 1, m3, κ3, F3, rfl, ?_, a3.cls hpl3, (t0.tr a6 (by omega)).tr Tr.cls (Nat.le_refl _), a7, by omega, by omega⟩
          show go _ = gW0 (xX10_readsSum_b14 N (kS N (nI v1)) (nI v1)) F3 _
          rw [hgo]
          rfl
        · rw [if_neg c, x_sign0 a3.1 c, gBv_s]
          unfold kS
          rw [hyes, gBi_s, if_neg nI_10, hmt3.2.2, wrong_e]
          have hfl : FL w3 v3 (gU w3 19 4 (fc 1 pos3)) (gU v3 0 17 (fc 1 pos3)) := FL.mk (by omega) (by omega) (by omega) (n := m3 + k) (by omega) a3.2.2.1
          exact Or.inr ⟨_, _, rfl, rfl, t0.ff (a6.ff (FL.tr LX.rf (a5.lm.tr a4.lm) hfl))⟩
      · rw [a1, gBv_s, d_takeSign a3.1.xd (by omega), gBv_s, a2]
        exact Or.inr ⟨_, _, rfl, rfl, t0.ff a3⟩
  · rw [FX1_n hI.2.1 h5 h6 hb]
    rcases fac_base hN hB hI hk (by omega) hb (xX4_readSum N d) (nI o) with ⟨w', v', pos', m', κ', q1, q2, q3, q4, q5, q6⟩ | ⟨w', v', q1, q2, q3⟩
    · rw [q2, gBi_s, if_neg nI_10]
      exact Or.inl ⟨w', v', pos', m', κ', F, q1, rfl, q3, q4, q5, q6, by omega⟩
    · rw [q2, gBi_s, if_pos rfl]
      exact Or.inr ⟨w', v', q1, rfl, q3⟩
theorem sum_all {N : Nat} (hN : 5000 ≤ N) {B : Nat → Int32} (hB : ∀ i, Bl (B i) 256) (len k v1 : Nat) : ∀ d, SumS N B len k v1 d
  | 0 => fun o w v pos m h T κ F G hdo hI => by
    have := hI.2.2.2.2.2.2.2.2.2.2
    omega
  | d + 1 => sum_step hN (fac_step hN hB (sum_all hN hB len k v1 d))
