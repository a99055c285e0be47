/-! THE WEEK -/
def sAdd (sm : Nat → Int32) (i : Nat) (v : Int32) : Nat → Int32 := upd sm i (sm i + v)
def sFr (σ : sT) (g n k : Nat) (v : Int32) (s : Nat → Int32) : Nat → Int32 := sAdd (sAdd (sAdd (sAdd (sAdd s 0 v) (10 + k) v) (40 + n) v) 2 (nI 1)) (20 + g) (nI 1)
def spFrs (σ : sT) (g n r : Nat) (ch : Int32) : Nat → (Nat → Int32) → (Nat → Int32)
  | 0, sm => sm
  | k + 1, sm => if tol (σ.1 1 9) k ∧ spFO σ g k n r ch ≠ (-2) then sFr σ g n k (spFO σ g k n r ch) (spFrs σ g n r ch k sm) else spFrs σ g n r ch k sm
def drawX (x : Int32) : Int32 := gRem ((nI 25173 * x) + nI 13849) (nI 65536)
def spGo (σ : sT) (i : Nat) (ch : Int32) (q : (Nat → Int32) × Int32) : (Nat → Int32) × Int32 :=
  if spStands σ i then (sAdd q.1 4 (nI 1), q.2)
  else if spAmt σ (nI 122) (nI 10) (spEnvW σ (wg σ i) (wn σ i) (wr σ i) ch) ≤ gRem (drawX q.2) (nI 10) then
    (sAdd (sAdd (spFrs σ (wg σ i) (wn σ i) (wr σ i) ch 10 q.1) 1 (spAmt σ (nI 119) (nI 999) (spEnvW σ (wg σ i) (wn σ i) (wr σ i) ch) * (if nI (wn σ i) = σ.1 1 11 then nI 2 else nI 1))) (30 + wg σ i) (spAmt σ (nI 119) (nI 999) (spEnvW σ (wg σ i) (wn σ i) (wr σ i) ch) * (if nI (wn σ i) = σ.1 1 11 then nI 2 else nI 1)), drawX q.2)
  else (sAdd q.1 3 (nI 1), drawX q.2)
def spCh (σ : sT) (i left : Nat) : Int32 := if σ.1 25 i = nI 0 ∨ left = 0 then nI 0 else nI 1
def spLf (σ : sT) (i left : Nat) : Nat := if σ.1 25 i = nI 0 ∨ left = 0 then left else left - 1
/-- the first k walks in night n: sums, X, chains left -/
def spNt (σ : sT) (n : Nat) : Nat → (Nat → Int32) × Int32 × Nat → (Nat → Int32) × Int32 × Nat
  | 0, q => q
  | k + 1, q => if wn σ k = n ∧ spGone σ k then ((spGo σ k (spCh σ k (spNt σ n k q).2.2) ((spNt σ n k q).1, (spNt σ n k q).2.1)).1, (spGo σ k (spCh σ k (spNt σ n k q).2.2) ((spNt σ n k q).1, (spNt σ n k q).2.1)).2, spLf σ k (spNt σ n k q).2.2) else spNt σ n k q
def spCn (σ : sT) : Nat := (σ.1 1 10).toNatClampNeg
/-- the first n nights -/
def spWk (σ : sT) : Nat → (Nat → Int32) × Int32
  | 0 => (fun _ => nI 0, σ.1 1 13)
  | n + 1 => ((spNt σ n (spW σ.1) ((spWk σ n).1, (spWk σ n).2, spCn σ)).1, (spNt σ n (spW σ.1) ((spWk σ n).1, (spWk σ n).2, spCn σ)).2.1)
/-- as far as the sums go -/
def Eq47 (f g : Nat → Int32) : Prop := ∀ i, i < 47 → f i = g i
theorem Eq47.add {f g : Nat → Int32} (h : Eq47 f g) {i : Nat} (hi : i < 47) (v : Int32) : Eq47 (upd f i (f i + v)) (sAdd g i v) := by
  intro j hj
  unfold sAdd upd
  by_cases e : j = i
  · rw [if_pos e, if_pos e, h i hi]
  · rw [if_neg e, if_neg e, h j hj]
theorem spCh_bl (σ : sT) (i l : Nat) : Bl (spCh σ i l) 2 := by
  unfold spCh
  by_cases h : σ.1 25 i = nI 0 ∨ l = 0
  · rw [if_pos h]; exact ⟨0, by omega, rfl⟩
  · rw [if_neg h]; exact ⟨1, by omega, rfl⟩
theorem spAmt_bl (σ : sT) (l : Int32) {k : Nat} (hk : k < 1000) (e : Nat → Int32) : Bl (spAmt σ l (nI k) e) (k + 1) := by
  unfold spAmt
  cases spFind σ l e with
  | none => exact ⟨0, by omega, rfl⟩
  | some i =>
    show Bl (gMax (nI 0) (gMin (nI k) (σ.2.1 i e))) (k + 1)
    rw [clamp_eq _ _ ⟨k, hk, rfl⟩]
    by_cases h1 : nI 0 ≤ σ.2.1 i e
    · rw [if_pos h1]
      by_cases h2 : σ.2.1 i e ≤ nI k
      · rw [if_pos h2]
        have q1 := Int32.le_iff_toInt_le.mp h1
        have q2 := Int32.le_iff_toInt_le.mp h2
        have e0 : (nI 0).toInt = 0 := by decide
        have ek : (nI k).toInt = k := nI_toInt (by omega)
        refine ⟨(σ.2.1 i e).toInt.toNat, by omega, Int32.toInt_inj.mp ?_⟩
        rw [nI_toInt (by omega)]
        omega
      · rw [if_neg h2]
        exact ⟨k, by omega, rfl⟩
    · rw [if_neg h1]
      exact ⟨0, by omega, rfl⟩
theorem spFO_cases (σ : sT) (g p n r : Nat) (ch : Int32) : spFO σ g p n r ch = (-2) ∨ Bl (spFO σ g p n r ch) 100 := by
  unfold spFO spFV
  by_cases h1 : spNear σ g p n r
  · rw [if_pos h1]
    by_cases h2 : spLet (σ.1 5 g) (spCo σ p n) ch ∧ spHold σ (spEnvF σ g p n (spBed σ p n) ch (nI (spCo σ p n)))
    · rw [if_pos h2]
      exact Or.inr (spAmt_bl σ _ (by omega) _)
    · rw [if_neg h2]; exact Or.inl rfl
  · rw [if_neg h1]; exact Or.inl rfl
theorem bl_ne2 {x : Int32} {n : Nat} (hn : n ≤ 2 ^ 31) (h : Bl x n) : x ≠ (-2) ∧ nI 0 ≤ x := by
  obtain ⟨v, hv, rfl⟩ := h
  have ek : (nI v).toInt = v := nI_toInt (by omega)
  have e0 : (nI 0).toInt = 0 := by decide
  have e2 : ((-2) : Int32).toInt = -2 := by decide
  exact ⟨fun z => by rw [z, e2] at ek; omega, i32_le (by omega)⟩
theorem m2_neg : ¬ nI 0 ≤ ((-2) : Int32) := by decide
theorem x_fill51 {N : Nat} (hN : 5000 ≤ N) (v : Int32) (w : gT) : ∃ w', xJ7_fill_53178_51 N v w = some w' ∧ SmC [51] w w' ∧ ∀ i, i < 47 → w'.1 51 i = v := by
  unfold xJ7_fill_53178_51
  refine gW1_ind (fun t => ∃ w', t = some w' ∧ SmC [51] w w' ∧ ∀ i, i < 47 → w'.1 51 i = v) (fun m a w1 => ∃ i, i ≤ 47 ∧ a = nI i ∧ m = 47 - i ∧ SmC [51] w w1 ∧ ∀ j, j < i → w1.1 51 j = v) ?_ N 47 _ w (by omega) ⟨0, by omega, rfl, by omega, SmC.rf, by omega⟩
  rintro m go a w1 ⟨i, hi, rfl, rfl, hs, hv⟩ ih
  unfold xJ7_fill_53178_51_b5
  simp (disch := omega) only [nI_add, nI_mul, nI_clamp, nI_leI, nI_ltI, nI_eq, pk_sub, pk_div, nI_rem, gG_in]
  by_cases h : 47 ≤ i
  · rw [if_pos h]
    exact ⟨w1, rfl, hs, fun j hj => hv j (by omega)⟩
  · rw [if_neg h]
    refine ih (47 - (i + 1)) _ _ (by omega) ⟨i + 1, by omega, rfl, rfl, hs.tr (SmC.U (by decide)), fun j hj => ?_⟩
    rw [gUs]
    by_cases e : j = i
    · rw [if_pos e]
    · rw [if_neg e]; exact hv j (by omega)
theorem x_chainFor {N : Nat} {σ : sT} {w : gT} (hE : EncX N σ w) (hR : Rng σ) {i l : Nat} (hi : i < spW σ.1) (hl : l < 10) (h5 : w.1 50 5 = nI l) : ∃ w', xX8_chainFor (nI i) w = some (spCh σ i l, w') ∧ SmC [50] w w' ∧ w'.1 50 5 = nI (spLf σ i l) ∧ w'.1 50 4 = w.1 50 4 := by
  obtain ⟨-, hW⟩ := spW_le hR
  unfold xX8_chainFor
  simp (disch := omega) only [nI_add, nI_mul, nI_clamp, nI_leI, nI_ltI, nI_eq, pk_sub, pk_div, nI_rem, gG_in]
  rw [hE.1 25 rfl, h5]
  unfold spCh spLf
  by_cases a : σ.1 25 i = nI 0
  · rw [if_pos a, if_pos (Or.inl a), if_pos (Or.inl a)]
    exact ⟨w, rfl, SmC.rf, h5, rfl⟩
  · rw [if_neg a]
    simp (disch := omega) only [nI_add, nI_mul, nI_clamp, nI_leI, nI_ltI, nI_eq, pk_sub, pk_div, nI_rem, gG_in]
    by_cases b : l = 0
    · rw [if_pos b, if_pos (Or.inr b), if_pos (Or.inr b)]
      exact ⟨w, rfl, SmC.rf, h5, rfl⟩
    · rw [if_neg b, if_neg (fun z => z.elim a b), if_neg (fun z => z.elim a b)]
      refine ⟨_, rfl, SmC.U (by decide), ?_, gU2 (by decide)⟩
      rw [gU0]
theorem x_frs {N : Nat} (hN : 5000 ≤ N) {σ : sT} {w : gT} (hE : EncX N σ w) (hR : Rng σ) {g n r : Nat} (hg : g < 10) (hn : n < 7) (hr : r < 12) (ch : Int32) {sm : Nat → Int32} (hs0 : Eq47 (w.1 51) sm) (k11 : gT → Option gT) (Post : Option gT → Prop)
    (hP : ∀ w', SmC [39, 49, 51] w w' → Eq47 (w'.1 51) (spFrs σ g n r ch 10 sm) → Post (k11 w')) : Post (gW1 (xX8_goOut_b120 N k11 ch (nI g) (nI n) (nI r)) N (nI 0) w) := by
  refine gW1_ind Post (fun m a w1 => ∃ k, k ≤ 10 ∧ a = nI k ∧ m = 10 - k ∧ SmC [39, 49, 51] w w1 ∧ Eq47 (w1.1 51) (spFrs σ g n r ch k sm)) ?_ N 10 _ w (by omega) ⟨0, by omega, rfl, by omega, SmC.rf, hs0⟩
  rintro m go a w1 ⟨k, hk, rfl, rfl, hs, hv⟩ ih
  have hE1 : EncX N σ w1 := hE.sm (hs.toX rfl)
  unfold xX8_goOut_b120
  simp (disch := omega) only [nI_add, nI_mul, nI_clamp, nI_leI, nI_ltI, nI_eq, pk_sub, pk_div, nI_rem, gG_in]
  by_cases h : 10 ≤ k
  · rw [if_pos h]
    have : k = 10 := by omega
    subst this
    exact hP w1 hs hv
  · rw [if_neg h, x_hasSleeper _ (by omega), hE1.1 1 rfl]
    simp only [gLet, gBi_s, b2i_0]
    have stay : ∀ w2, SmC [39, 49, 51] w1 w2 → w2.1 51 = w1.1 51 → ¬ (tol (σ.1 1 9) k ∧ spFO σ g k n r ch ≠ (-2)) → Post (go (nI (k + 1)) w2) := fun w2 s2 e2 hne => ih (10 - (k + 1)) _ _ (by omega) ⟨k + 1, by omega, rfl, rfl, hs.tr s2, by rw [e2]; show Eq47 _ (if _ then _ else _); rw [if_neg hne]; exact hv⟩
    by_cases q1 : tol (σ.1 1 9) k
    · rw [if_neg (not_not_intro q1)]
      obtain ⟨w2, e2, s2⟩ := x_frightOf hN hE1 hR hg (show k < 10 by omega) hn hr ch
      rw [e2]
      simp only [gBi_s]
      by_cases q2 : spFO σ g k n r ch = (-2)
      · rw [if_pos q2]
        exact stay w2 (s2.mono (by decide)) (s2 51 (by decide)) (fun z => z.2 q2)
      · rw [if_neg q2]
        try simp (disch := omega) only [nI_add, nI_mul, nI_clamp, nI_leI, nI_ltI, nI_eq, pk_sub, pk_div, nI_rem, gG_in]
        refine ih (10 - (k + 1)) _ _ (by omega) ⟨k + 1, by omega, rfl, rfl, hs.tr ((s2.mono (by decide)).tr ((SmC.U (a := 51) (by decide)).tr ((SmC.U (a := 51) (by decide)).tr ((SmC.U (a := 51) (by decide)).tr ((SmC.U (a := 51) (by decide)).tr (SmC.U (a := 51) (by decide))))))), ?_⟩
        show Eq47 _ (if _ then _ else _)
        rw [if_pos ⟨q1, q2⟩]
        have e51 : w2.1 51 = w1.1 51 := s2 51 (by decide)
        have f0 : Eq47 (w2.1 51) (spFrs σ g n r ch k sm) := by rw [e51]; exact hv
        have f1 := f0.add (show 0 < 47 by omega) (spFO σ g k n r ch)
        have f2 := f1.add (show 10 + k < 47 by omega) (spFO σ g k n r ch)
        have f3 := f2.add (show 40 + n < 47 by omega) (spFO σ g k n r ch)
        have f4 := f3.add (show 2 < 47 by omega) (nI 1)
        have f5 := f4.add (show 20 + g < 47 by omega) (nI 1)
        simp only [gU_self]
        exact f5
    · rw [if_pos q1, if_pos trivial]
      exact stay w1 SmC.rf rfl (fun z => q1 z.1)
theorem x_goOut {N : Nat} (hN : 5000 ≤ N) {σ : sT} {w : gT} (hE : EncX N σ w) (hR : Rng σ) {i l : Nat} (hi : i < spW σ.1) (hl : l < 10) (h5 : w.1 50 5 = nI l) {sm : Nat → Int32} (hs0 : Eq47 (w.1 51) sm) :
    ∃ w', xX8_goOut N (nI i) w = some w' ∧ SmC [39, 49, 50, 51] w w' ∧ Eq47 (w'.1 51) (spGo σ i (spCh σ i l) (sm, w.1 50 4)).1 ∧ w'.1 50 4 = (spGo σ i (spCh σ i l) (sm, w.1 50 4)).2 ∧ w'.1 50 5 = nI (spLf σ i l) := by
  obtain ⟨-, hW⟩ := spW_le hR
  obtain ⟨g1, g2, g3, g4, g5, g6, -⟩ := wk_at hR hi
  obtain ⟨w2, e2, s2, c5, c4⟩ := x_chainFor hE hR hi hl h5
  have hE2 : EncX N σ w2 := hE.sm (s2.toX rfl)
  have e51 : w2.1 51 = w.1 51 := s2 51 (by decide)
  unfold xX8_goOut
  rw [e2, gBi_s, x_isClaimed hN hE2 hR hi, gBi_s, hE2.1 22 rfl, hE2.1 23 rfl, hE2.1 24 rfl]
  simp (disch := omega) only [nI_add, nI_mul, nI_clamp, nI_leI, nI_ltI, nI_eq, pk_sub, pk_div, nI_rem, gG_in]
  rw [g1, g3, g5]
  simp only [gLet, b2i_0]
  by_cases q1 : spStands σ i
  · rw [if_neg (not_not_intro q1)]
    unfold spGo
    rw [if_pos q1]
    refine ⟨_, rfl, (s2.mono (by decide)).tr (SmC.U (by decide)), ?_, ?_, ?_⟩
    · rw [gU_self, e51]
      exact hs0.add (by omega) _
    · rw [gU1 (by decide)]; exact c4
    · rw [gU1 (by decide)]; exact c5
  · rw [if_pos q1]
    have s3 : SmC [50] w2 (gU w2 50 4 (gRem ((nI 25173 * w2.1 50 4) + nI 13849) (nI 65536))) := SmC.U (by decide)
    generalize hw3 : gU w2 50 4 (gRem ((nI 25173 * w2.1 50 4) + nI 13849) (nI 65536)) = w3 at s3
    have x3 : w3.1 50 4 = drawX (w.1 50 4) := by rw [← hw3, gU0, c4]; rfl
    have l3 : w3.1 50 5 = nI (spLf σ i l) := by rw [← hw3, gU2 (by decide)]; exact c5
    have hE3 : EncX N σ w3 := hE2.sm (s3.toX rfl)
    obtain ⟨w4, e4, s4⟩ := x_tenthsOf hN hE3 hR (n := wn σ i) g2 g6 (spCh σ i l)
    rw [e4, gBi_s, x3]
    have hE4 : EncX N σ w4 := hE3.sm (s4.toX rfl)
    have s24 : SmC [39, 49, 50, 51] w w4 := (s2.mono (by decide)).tr ((s3.mono (by decide)).tr (s4.mono (by decide)))
    have e514 : w4.1 51 = w.1 51 := (s4 51 (by decide)).trans ((s3 51 (by decide)).trans e51)
    have e50 : w4.1 50 = w3.1 50 := s4 50 (by decide)
    unfold spGo
    rw [if_neg q1]
    by_cases q2 : spAmt σ (nI 122) (nI 10) (spEnvW σ (wg σ i) (wn σ i) (wr σ i) (spCh σ i l)) ≤ gRem (drawX (w.1 50 4)) (nI 10)
    · rw [if_pos q2, if_pos q2]
      refine x_frs hN hE4 hR g2 g4 g6 (spCh σ i l) (sm := sm) (by rw [e514]; exact hs0) _ (fun t => ∃ w', t = some w' ∧ SmC [39, 49, 50, 51] w w' ∧ Eq47 (w'.1 51) (sAdd (sAdd (spFrs σ (wg σ i) (wn σ i) (wr σ i) (spCh σ i l) 10 sm) 1 (spAmt σ (nI 119) (nI 999) (spEnvW σ (wg σ i) (wn σ i) (wr σ i) (spCh σ i l)) * (if nI (wn σ i) = σ.1 1 11 then nI 2 else nI 1))) (30 + wg σ i) (spAmt σ (nI 119) (nI 999) (spEnvW σ (wg σ i) (wn σ i) (wr σ i) (spCh σ i l)) * (if nI (wn σ i) = σ.1 1 11 then nI 2 else nI 1))) ∧ w'.1 50 4 = drawX (w.1 50 4) ∧ w'.1 50 5 = nI (spLf σ i l)) (fun w5 s5 v5 => ?_)
      have hE5 : EncX N σ w5 := hE4.sm (s5.toX rfl)
      obtain ⟨w6, e6, s6⟩ := x_wageOf hN hE5 hR (n := wn σ i) g2 g6 (spCh σ i l)
      have hE6 : EncX N σ w6 := hE5.sm (s6.toX rfl)
      simp only [e6, gBi_s]
      rw [hE6.1 1 rfl]
      have e516 : w6.1 51 = w5.1 51 := s6 51 (by decide)
      have e506 : w6.1 50 = w3.1 50 := (s6 50 (by decide)).trans ((s5 50 (by decide)).trans e50)
      simp (disch := omega) only [nI_add, nI_mul, nI_clamp, nI_leI, nI_ltI, nI_eq, pk_sub, pk_div, nI_rem, gG_in]
      have fin : ∀ v : Int32, v = (if nI (wn σ i) = σ.1 1 11 then nI 2 else nI 1) → ∃ w', some (gU (gU w6 51 1 (w6.1 51 1 + spAmt σ (nI 119) (nI 999) (spEnvW σ (wg σ i) (wn σ i) (wr σ i) (spCh σ i l)) * v)) 51 (30 + wg σ i) ((gU w6 51 1 (w6.1 51 1 + spAmt σ (nI 119) (nI 999) (spEnvW σ (wg σ i) (wn σ i) (wr σ i) (spCh σ i l)) * v)).1 51 (30 + wg σ i) + spAmt σ (nI 119) (nI 999) (spEnvW σ (wg σ i) (wn σ i) (wr σ i) (spCh σ i l)) * v)) = some w' ∧ SmC [39, 49, 50, 51] w w' ∧ Eq47 (w'.1 51) (sAdd (sAdd (spFrs σ (wg σ i) (wn σ i) (wr σ i) (spCh σ i l) 10 sm) 1 (spAmt σ (nI 119) (nI 999) (spEnvW σ (wg σ i) (wn σ i) (wr σ i) (spCh σ i l)) * (if nI (wn σ i) = σ.1 1 11 then nI 2 else nI 1))) (30 + wg σ i) (spAmt σ (nI 119) (nI 999) (spEnvW σ (wg σ i) (wn σ i) (wr σ i) (spCh σ i l)) * (if nI (wn σ i) = σ.1 1 11 then nI 2 else nI 1))) ∧ w'.1 50 4 = drawX (w.1 50 4) ∧ w'.1 50 5 = nI (spLf σ i l) := by
        rintro v rfl
        refine ⟨_, rfl, s24.tr ((s5.mono (by decide)).tr ((s6.mono (by decide)).tr ((SmC.U (by decide)).tr (SmC.U (by decide))))), ?_, ?_, ?_⟩
        · have f0 : Eq47 (w6.1 51) (spFrs σ (wg σ i) (wn σ i) (wr σ i) (spCh σ i l) 10 sm) := by rw [e516]; exact v5
          simp only [gU_self]
          exact (f0.add (by omega) _).add (by omega) _
        · rw [gU1 (by decide), gU1 (by decide), e506]; exact x3
        · rw [gU1 (by decide), gU1 (by decide), e506]; exact l3
      by_cases q3 : nI (wn σ i) = σ.1 1 11
      · rw [if_pos q3]
        exact fin _ (if_pos q3).symm
      · rw [if_neg q3]
        exact fin _ (if_neg q3).symm
    · rw [if_neg q2, if_neg q2]
      refine ⟨_, rfl, s24.tr (SmC.U (by decide)), ?_, ?_, ?_⟩
      · rw [gU_self, e514]
        exact hs0.add (by omega) _
      · rw [gU1 (by decide), e50]; exact x3
      · rw [gU1 (by decide), e50]; exact l3
