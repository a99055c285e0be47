def iI (x : Int) : Int32 := Int32.ofInt x
theorem iI_nI (k : Nat) : nI k = iI (k : Int) := by
  apply Int32.toBitVec_inj.mp
  show BitVec.ofNat 32 k = BitVec.ofInt 32 (k : Int)
  rw [BitVec.ofInt_natCast]
theorem iI_add (a b : Int) : iI a + iI b = iI (a + b) := (Int32.ofInt_add a b).symm
theorem iI_sub (a b : Int) : iI a - iI b = iI (a - b) := (Int32.ofInt_sub a b).symm
theorem iI_to {a : Int} (h1 : -1000000 ≤ a) (h2 : a ≤ 1000000) : (iI a).toInt = a := Int32.toInt_ofInt_of_le (by omega) (by omega)
theorem x_grd {N : Nat} (hN : 5000 ≤ N) {w : gT} {C : Nat} (hC : C < 10) (h10 : w.1 1 10 = nI C) (k7 : Int32 → Int32 → gT → Option (Int32 × gT)) (Post : Option (Int32 × gT) → Prop) {d : Nat → Int} (hd : ∀ g, g < 10 → w.1 59 g = iI (d g)) (hb : ∀ g, g < 10 → -990 ≤ d g ∧ d g ≤ 990) (X : Int) (hP : ∀ w', SmC [59] w w' → Post (k7 (iI (X + smI d (grD C d) 10)) (nI (grD C d)) w')) : Post (gW3 (xX9_shared_b30 N k7) N (iI X) (nI 0) (nI 0) w) := by
  refine gW3_ind Post (fun m a b c w1 => ∃ k X' M' d', k ≤ C ∧ a = iI X' ∧ b = nI M' ∧ c = nI k ∧ m = C - k ∧ SmC [59] w w1 ∧ (∀ g, g < 10 → w1.1 59 g = iI (d' g)) ∧ (∀ g, g < 10 → -990 ≤ d' g ∧ d' g ≤ 990) ∧ X' + smI d' (grD (C - k) d') 10 = X + smI d (grD C d) 10 ∧ M' ||| grD (C - k) d' = grD C d) ?_ N C _ _ _ w (by omega) ⟨0, X, 0, d, by omega, rfl, rfl, rfl, by omega, SmC.rf, hd, hb, rfl, Nat.zero_or _⟩
  rintro m go a b c w1 ⟨k, X', M', d', hk, rfl, rfl, rfl, rfl, hs, hd1, hb1, e1, e2⟩ ih
  unfold xX9_shared_b30
  rw [hs 1 (by decide), h10]
  by_cases q : C ≤ k
  · rw [if_pos (yle (by omega) (by omega) q)]
    have e : C - k = 0 := by omega
    have g0 : grD 0 d' = 0 := rfl
    rw [e, g0, smI_0, Int.add_zero] at e1
    rw [e, g0, Nat.or_zero] at e2
    rw [e1, e2]
    exact hP w1 hs
  · have hc : C - k = C - (k + 1) + 1 := by omega
    have ht : ∀ g, g < 10 → (w1.1 59 g).toInt = d' g := fun g hg => by
      have := hb1 g hg
      rw [hd1 g hg, iI_to (by omega) (by omega)]
    obtain ⟨g1, -⟩ := lgD_p d' 10 (by omega)
    have eg : grD (C - (k + 1) + 1) d' = if 0 < d' (lgD d' 10) then grD (C - (k + 1)) (updI d' (lgD d' 10)) ||| 2 ^ lgD d' 10 else 0 := rfl
    rw [hc, eg] at e1 e2
    rw [if_neg (nle (by omega) (by omega) q), x_dearest hN ht, gBi_s, gG_in (n := 10) g1 (by omega), nI_clamp (by omega)]
    revert g1 e1 e2
    generalize lgD d' 10 = g
    intro e1 e2 g1
    have hlt : nI 0 < w1.1 59 g ↔ 0 < d' g := by
      rw [Int32.lt_iff_toInt_lt, ht g g1]
      have : (nI 0).toInt = 0 := by decide
      rw [this]
    by_cases z : 0 < d' g
    · rw [if_pos (hlt.mpr z), gLet_s, gG_in (n := 10) g1 (by omega), gLet_s, gG_in (n := 10) g1 (by omega), gLet_s, nI_add, shl1 g1, nI_or, hd1 g g1, iI_add]
      rw [if_pos z] at e1 e2
      obtain ⟨i1, i2, i3, i4⟩ := grD_best (C - (k + 1)) (updI d' g)
      have hS : ¬ bitA (grD (C - (k + 1)) (updI d' g)) g := fun y => by
        have h := i3 g y
        have : updI d' g g = 0 := if_pos rfl
        omega
      rw [smI_or hS, if_pos g1, ← smI_upd hS] at e1
      refine ih (C - (k + 1)) _ _ _ _ (by omega) ⟨k + 1, X' + d' g, M' ||| 2 ^ g, updI d' g, by omega, rfl, rfl, rfl, rfl, hs.tr (SmC.U (by decide)), fun i hi => ?_, fun i hi => ?_, by omega, by rw [← e2, Nat.or_assoc, Nat.or_comm (2 ^ g)]⟩
      · rw [gUs]
        unfold updI
        by_cases e : i = g
        · rw [if_pos e, if_pos e]; exact iI_nI 0
        · rw [if_neg e, if_neg e]; exact hd1 i hi
      · unfold updI
        have := hb1 i hi
        split <;> omega
    · rw [if_neg (fun y => z (hlt.mp y))]
      rw [if_neg z] at e1 e2
      rw [smI_0, Int.add_zero] at e1
      rw [Nat.or_zero] at e2
      rw [e1, e2]
      exact hP w1 hs
