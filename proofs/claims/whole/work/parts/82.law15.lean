theorem jmp_19 {u : gT} {h m t p : Nat} : (jmp u h m t p).1 19 h = nI (1048576 * t + m) := by
  unfold jmp notS
  rw [gU1 (by decide), gU1 (by decide), gU1 (by decide), gU1 (by decide), gU0]
theorem jmp_18 {u : gT} {h m t p i : Nat} : (jmp u h m t p).1 18 i = if i = m then nI (1048576 * t + 0) else u.1 18 i := by
  unfold jmp
  rw [gU1 (by decide), notS_18, gU1 (by decide), gU1 (by decide)]
theorem jmp_19j {u : gT} {h m t p j : Nat} (hj : j ≠ h) : (jmp u h m t p).1 19 j = u.1 19 j := by
  unfold jmp notS
  rw [gU1 (by decide), gU1 (by decide), gU1 (by decide), gU1 (by decide), gU2 hj]
theorem jmp_lm (u : gT) (h m t p : Nat) : LM u (jmp u h m t p) := (LM.c (Or.inr rfl)).tr ((LM.n (by decide)).tr ((notS_lm _ _ _).tr (LM.n (by decide))))
theorem jump_lift {B : Nat → Int32} {len k o h t : Nat} {y u w3 u3 : gT} {pos m pos3 m3 : Nat} {κ κ3 : Nat → Nat} (ht : t = 11 ∨ t = 12) (hI : In B len k o h y u pos m) (hk : κ m = 100) (hI3 : In B len k o (h + 1) w3 u3 pos3 m3) (hT : Tr k (h + 1) (addS (gU y 19 3 (nI (pos + 1))) (m + k) (nI (opX t)) (nI (m + k + 1))) (jmp u h m t pos) (pos + 1) (m + 1) (updK κ (m + 1) 0) w3 u3 pos3 m3 κ3) (hk3 : κ3 m3 = 100) :
    Jx k (nI (m + k)) w3 (gU w3 45 (m + k) (nI (m3 + k))) m3 ∧ Jm t u3 (pat u3 m t h m3) h m3 ∧ In B len k o h (gU w3 45 (m + k) (nI (m3 + k))) (pat u3 m t h m3) pos3 m3 ∧ Tr k h y u pos m κ (gU w3 45 (m + k) (nI (m3 + k))) (pat u3 m t h m3) pos3 m3 κ3 := by
  have hd := hI.dd
  have hd3 := hI3.dd
  have hmp3 := hI3.2.2.2.2.2.2.1
  have hhp := hI.2.2.2.2.2.2.2.1
  obtain ⟨b1, b2, b3, b4, b5, b6, b7, b8, b9, b10⟩ := hT
  refine ⟨Or.inr ⟨m, by omega, by omega, rfl, rfl⟩, ⟨by unfold pat; rw [gU0], by omega, Or.inr ⟨m, by omega, by omega, hI3.2.2.2.2.2.1, (b8 h (by omega)).trans jmp_19, (b7 m (by omega)).trans (by rw [jmp_18, if_pos rfl]), hI3.2.2.2.1, rfl⟩⟩, ?_, by omega, by omega, by omega, fun i hi => ?_, fun i h1 h2 => ?_, fun i hi => ?_, fun i hi => ?_, fun j hj => ?_, ?_, ?_⟩
  · obtain ⟨i1, i2, i3, i4, i5, i6, i7, i8, i9, i10, i11⟩ := hI3
    unfold pat
    exact ⟨i1.uc (by decide) (by decide), (i2.uc (by decide) (by decide)).u0 (by decide) (by decide), by rw [gU1 (by decide)]; exact i3, by rw [gU2 (by decide), gU1 (by decide)]; exact i4, by rw [gU2 (by decide), gU1 (by decide)]; exact i5, gU0, i7, by omega, i9, i10, i11⟩
  · exact (b4 i (by omega)).trans (if_neg (by omega))
  · have p18 : ∀ i, (pat u3 m t h m3).1 18 i = if i = m then nI (1048576 * t + m3) else u3.1 18 i := fun i => by
      unfold pat
      rw [gU1 (by decide), gUs]
    by_cases c : i = m
    · subst c
      refine ⟨1048576 * t + m3, by rw [p18, if_pos rfl], ?_, ?_⟩
      · have e3 : cO (1048576 * t + m3) = t := cO_mk (by omega)
        have e4 : cA (1048576 * t + m3) = m3 := cA_mk (by omega)
        have k1 : κ3 i = 100 := (b4 i (by omega)).trans ((if_neg (by omega)).trans hk)
        have k2 : κ3 (i + 1) = 0 := (b4 (i + 1) (Nat.le_refl _)).trans (if_pos rfl)
        unfold TyS
        rw [e3, e4]
        exact Or.inr (Or.inr (Or.inr (Or.inl ⟨ht, k1, k2, by omega, Nat.le_refl _, hk3⟩)))
      · have e3 : cO (1048576 * t + m3) = t := cO_mk (by omega)
        have e4 : cA (1048576 * t + m3) = m3 := cA_mk (by omega)
        unfold CdC
        rw [e3, e4, gU1 (by decide), gU0, (b6 _ (by omega)).1, addS_44, if_pos rfl]
        exact ⟨rfl, fun z => by omega, fun z => by omega, fun _ => rfl⟩
    · exact Sg_mono (b5 i (by omega) h2) h2 (Nat.le_refl _) (fun _ _ => rfl) (by rw [gU1 (by decide)]) (gU2 (by omega)) (by rw [p18, if_neg c])
  · rw [gU1 (by decide), gU2 (by omega), (b6 i (by omega)).1, (b6 i (by omega)).2, addS_44, addS_45, if_neg (by omega), if_neg (by omega), gU1 (by decide), gU1 (by decide)]
    exact ⟨rfl, rfl⟩
  · unfold pat
    rw [gU1 (by decide), gU2 (by omega), b7 i (by omega), jmp_18, if_neg (by omega)]
  · unfold pat
    rw [gU1 (by decide), gU1 (by decide), b8 j (by omega), jmp_19j (by omega)]
  · exact ((LX.t (by omega)).tr (addS_lx _ _ _ _)).tr (b9.tr (LX.c (Or.inr rfl)))
  · exact (jmp_lm _ _ _ _ _).tr (b10.tr (pat_lm _ _ _ _ _))
def PieceS (N : Nat) (B : Nat → Int32) (len k : Nat) (rc : Int32 → gT → Option gT) (o : Nat) : Prop := ∀ (w v : gT) (pos m h : Nat) (κ : Nat → Nat) (F : Nat), In B len k o h w v pos m → κ m = 0 → Tp 10 v h → 1000 ≤ F + pos →
  (∃ w' v' pos' m' κ' F' G' E', rc (nI o) w = some w' ∧ LB N F v = EP N F' G' E' v' ∧ In B len k o h w' v' pos' m' ∧ Tr k h w v pos m κ w' v' pos' m' κ' ∧ κ' m' = 100 ∧ pos < pos' ∧ 1000 ≤ F' + pos' ∧ 1000 ≤ G' + pos' ∧ 1000 + h ≤ E') ∨
  (∃ w' v', rc (nI o) w = some w' ∧ LB N F v = some (nI 0, v') ∧ FL w v w' v')
theorem Jx.xt {k m : Nat} {last : Int32} {w y : gT} (hj : Jx k last w y m) {B : Nat → Int32} {len pos : Nat} (hx : XT B y len pos) : XT B w len pos := by
  obtain ⟨h1, h2, h3, h4, h5, h6⟩ := hx
  exact ⟨by rw [hj.c (by decide)]; exact h1, by rw [hj.c (by decide)]; exact h2, by rw [hj.c (by decide)]; exact h3, by rw [hj.c (by decide)]; exact h4, h5, h6⟩
theorem x_addJump {B : Nat → Int32} {len k o h c a : Nat} {last : Int32} {w y u : gT} {pos m : Nat} (hI : In B len k o h y u pos m) (hj : Jx k last w y m) (hc : pkV B len pos = nI c) : xX4_addJump (nI a) (nI c) last w = some (nI (m + k), addS (gU y 19 3 (nI (pos + 1))) (m + k) (nI a) (nI (m + k + 1))) := by
  have hd := hI.dd
  have e6 : w.1 40 6 = nI (m + k) := by rw [hj.c (by decide)]; exact hI.2.2.1
  unfold xX4_addJump
  rw [x_sign1 (hj.xt hI.1) hc, gBv_s, gLet_s, gU1 (by decide), e6, x_aim hj.at (by rw [gU1 (by decide)]; exact e6) (by omega), gBv_s, nI_add, addS_x (n := m + k) (by rw [gU1 (by decide)]; exact hI.2.2.1) (by omega), gBv_s]
theorem d_pieceLoop {N : Nat} {w : gT} (h : XD w) (hd : DD w) (rc : Int32 → gT → Option gT) (a x : Int32) {last : Int32} (hl : last < nI 0 ∨ ∃ l, l < 256 ∧ last = nI l) (G : Nat) : ∃ w', gW2 (xX4_readPieces_b9 N a (fun (v3 : Int32) (w4 : gT) => gBv (xX3_aim v3 (w4.1 40 6) w4) fun (w5 : gT) => some w5) rc) (G + 1) last x w = some w' ∧ w'.1 19 4 = w.1 19 4 ∧ DD w' ∧ LX w w' := by
  obtain ⟨w', e, e2, e3, e4⟩ := d_aim hd (b := w.1 40 6) hl
  refine ⟨w', ?_, e2, e3, e4⟩
  rw [gW2_s]
  unfold xX4_readPieces_b9
  have ke : (gBv (xX3_aim last (w.1 40 6) w) fun w5 => some w5) = some w' := by rw [e, gBv_s]
  by_cases c : nI 200 ≤ x
  · rw [if_pos c]
    exact ke
  · rw [if_neg c, d_peek h, gBi_s, if_neg (by decide)]
    exact ke
theorem d_partLoop {N : Nat} {w : gT} (h : XD w) (hd : DD w) (rc : Int32 → gT → Option gT) (a x : Int32) {last : Int32} (hl : last < nI 0 ∨ ∃ l, l < 256 ∧ last = nI l) (G : Nat) : ∃ w', gW2 (xX4_readParts_b9 N a (fun (v3 : Int32) (w4 : gT) => gBv (xX3_aim v3 (w4.1 40 6) w4) fun (w5 : gT) => some w5) rc) (G + 1) last x w = some w' ∧ w'.1 19 4 = w.1 19 4 ∧ DD w' ∧ LX w w' := by
  obtain ⟨w', e, e2, e3, e4⟩ := d_aim hd (b := w.1 40 6) hl
  refine ⟨w', ?_, e2, e3, e4⟩
  rw [gW2_s]
  unfold xX4_readParts_b9
  have ke : (gBv (xX3_aim last (w.1 40 6) w) fun w5 => some w5) = some w' := by rw [e, gBv_s]
  by_cases c : nI 200 ≤ x
  · rw [if_pos c]
    exact ke
  · rw [if_neg c, d_peek h, gBi_s, if_neg (by decide)]
    exact ke
theorem FL.jt {B : Nat → Int32} {len k o h t p : Nat} {y u w' v' : gT} {pos m : Nat} {a b : Int32} (hI : In B len k o h y u pos m) (hf : FL (addS (gU y 19 3 (nI p)) (m + k) a b) (jmp u h m t pos) w' v') : FL y u w' v' := FL.tr ((LX.t (by omega)).tr (addS_lx _ _ _ _)) (jmp_lm _ _ _ _ _) hf
