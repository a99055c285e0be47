theorem walk_loop {N : Nat} (hN : 5000 ≤ N) {σ : sT} {M : Nat} (hM : M < 1024) {w v : gT} (hO : OI σ M w v) {g : Nat} (hg : g < 10) (tg : tol (σ.1 1 8) g) (k4 : Int32 → gT → Option (Int32 × gT)) (hk4 : ∀ m, m < 1024 → k4 (nI m) v = gBi (xX10_leastCode N (nI g) (nI m) v) fun (v7 : Int32) (w8 : gT) => some (v7, w8)) : ∀ k h m F1 F2 (x : Int32), h + k = g → k + 2 ≤ F1 → k + 1 ≤ F2 → m < 1024 → sb m M → fdO σ M (10 - h) (mn M m) ≠ 15 → ∃ r, gW3 (xX0_walkOf_b11 N (nI g)) F1 (nI (mn M m)) x (nI h) w = some (r, w) ∧ gW2 (xX10_once_b69 N (nI g) k4) F2 (nI m) (nI h) v = some (r, v) := by
  have o8 := hO.2.1
  have o4 := hO.2.2.2.1
  have o5 := hO.2.2.2.2.1
  have o6 := hO.2.2.2.2.2.1
  intro k
  induction k with
  | zero =>
    intro h m F1 F2 x hhk h1 h2 hm hsb hf
    have hhg : h = g := by omega
    subst hhg
    obtain ⟨F1, rfl⟩ : ∃ F, F1 = F + 1 + 1 := ⟨F1 - 2, by omega⟩
    obtain ⟨F2, rfl⟩ : ∃ F, F2 = F + 1 := ⟨F2 - 1, by omega⟩
    obtain ⟨c, c1, c2, c3, c4, c5⟩ := least_both hN hM hO hg hm hsb tg hf
    have last : ∀ y, gW3 (xX0_walkOf_b11 N (nI h)) (F1 + 1) y (nI c) (nI (h + 1)) w = some (nI c, w) := fun y => by
      rw [gW3_s]
      unfold xX0_walkOf_b11
      rw [if_pos (ylt (by omega) (by omega) (by omega))]
    refine ⟨nI c, ?_, ?_⟩
    · rw [gW3_s]
      revert last
      generalize gW3 (xX0_walkOf_b11 N (nI h)) (F1 + 1) = go
      intro last
      unfold xX0_walkOf_b11
      rw [if_neg (nlt (by omega) (by omega) (by omega)), if_neg (nle (by omega) (by omega) (by omega)), gLet_s, x_hasGhost _ hg, gBi_s, ifb, o8, if_pos tg, c2, gBi_s]
      dsimp only
      rw [gLet_s]
      by_cases q : 84 ≤ c
      · rw [if_pos (yle (by omega) (by omega) q)]
        dsimp only
        rw [nI_add]
        exact last _
      · rw [if_neg (nle (by omega) (by omega) q), nI_mul, nI_add, gG_in (n := 840) (by omega) (by omega), gLet_s]
        dsimp only
        rw [nI_add]
        exact last _
    · rw [gW2_s]
      generalize gW2 (xX10_once_b69 N (nI h) k4) F2 = go
      unfold xX10_once_b69
      rw [if_pos (yle (by omega) (by omega) (Nat.le_refl _)), hk4 m hm, c3, gBi_s]
  | succ k ih =>
    intro h m F1 F2 x hhk h1 h2 hm hsb hf
    have hh : h < 10 := by omega
    have hml : mn M m < 1024 := Nat.lt_of_le_of_lt (sb_le (mn_sb M m)) hM
    obtain ⟨F1, rfl⟩ : ∃ F, F1 = F + 1 := ⟨F1 - 1, by omega⟩
    obtain ⟨F2, rfl⟩ : ∃ F, F2 = F + 1 := ⟨F2 - 1, by omega⟩
    rw [gW3_s, gW2_s]
    have ih' := fun m' x' a b c => ih (h + 1) m' F1 F2 x' (by omega) (by omega) (by omega) a b c
    clear ih
    revert ih'
    generalize gW3 (xX0_walkOf_b11 N (nI g)) F1 = go
    generalize gW2 (xX10_once_b69 N (nI g) k4) F2 = go2
    intro ih
    unfold xX0_walkOf_b11 xX10_once_b69
    rw [if_neg (nlt (by omega) (by omega) (by omega)), if_neg (nle (by omega) (by omega) (by omega)), gLet_s, x_hasGhost _ hh, gBi_s, ifb, o8, if_neg (nle (by omega) (by omega) (by omega)), gLet_s]
    by_cases th : tol (σ.1 1 8) h
    · obtain ⟨c, c1, c2, c3, c4, c5⟩ := least_both hN hM hO hh hm hsb th hf
      rw [if_pos th, c2, gBi_s, c3, gBi_s]
      dsimp only
      rw [gLet_s]
      by_cases q : 84 ≤ c
      · have hc : c = 84 := by omega
        rw [if_pos (yle (by omega) (by omega) q), if_pos (by rw [hc])]
        dsimp only
        rw [nI_add]
        exact ih m _ hm hsb (by rw [show 10 - (h + 1) = 9 - h by omega]; exact c5 hc)
      · obtain ⟨d1, d2⟩ := c4 (by omega)
        have hRl := Rw_lt σ M h c
        have hRs : sb (Rw σ M h c) M := Rw_sb hM
        rw [if_neg (nle (by omega) (by omega) q), if_neg (nI_no (by omega) (by omega) (by omega)), nI_mul, nI_add (h * 84) c, gG_in (n := 840) (by omega) (by omega), gLet_s, nI_mul, nI_add (84 * h) c, gG_in (n := 840) (by omega) (by omega), nI_clamp (show h * 84 + c < 2 ^ 31 by omega), nI_clamp (show 84 * h + c < 2 ^ 31 by omega), show h * 84 + c = 84 * h + c by omega, o4 h hh th c (by omega), o6 h hh th c (by omega), nI_xor, mn_x d1, nI_or, ← mn_mn]
        dsimp only
        rw [nI_add]
        exact ih _ _ (Nat.or_lt_two_pow (n := 10) hm hRl) (or_sb hsb hRs) (by rw [show 10 - (h + 1) = 9 - h by omega, mn_mn]; exact d2)
    · have e33 : xX10_leastCode N (nI h) (nI m) v = some (nI 84, v) := by
        obtain ⟨M', hN'⟩ : ∃ M', N = M' + 1 := ⟨N - 1, by omega⟩
        have e0 : fdO σ M (10 - h) (mn M m) = fdO σ M (9 - h) (mn M m) := by
          rw [show 10 - h = (9 - h) + 1 by omega]
          have : fdO σ M (9 - h + 1) (mn M m) = if tol (σ.1 1 8) (9 - (9 - h)) then Fm (fdO σ M (9 - h)) (Rw σ M (9 - (9 - h))) M (mn M m) 84 else fdO σ M (9 - h) (mn M m) := rfl
          rw [this, show 9 - (9 - h) = h by omega, if_neg th]
        have a1 := hO.2.2.2.2.2.2 (10 - h) (by omega) m hm hsb
        have a2 := hO.2.2.2.2.2.2 (9 - h) (by omega) m hm hsb
        rw [show 10 - (10 - h) = h by omega, e0] at a1
        rw [show 10 - (9 - h) = h + 1 by omega] at a2
        unfold xX10_leastCode
        rw [gLet_s, m_isGhost _ hh, gBi_s, ifb, o5, if_neg th]
        dsimp only
        rw [show gW1 (xX10_leastCode_b15 N (nI h) (nI m)) N (nI 84) v = xX10_leastCode_b15 N (nI h) (nI m) (gW1 (xX10_leastCode_b15 N (nI h) (nI m)) M') (nI 84) v from by rw [hN']; rfl]
        generalize gW1 (xX10_leastCode_b15 N (nI h) (nI m)) M' = go3
        unfold xX10_leastCode_b15
        rw [once84 hh hm a2, gBi_s, nI_mul, nI_add, gG_in (n := 11264) (by omega) (by omega), nI_clamp (by omega), a1, if_pos rfl]
      rw [if_neg th, e33, gBi_s, if_pos rfl]
      dsimp only
      rw [gLet_s, if_pos (by decide)]
      dsimp only
      rw [nI_add]
      refine ih m _ hm hsb ?_
      rw [show 10 - (h + 1) = 9 - h by omega]
      have e0 : fdO σ M (10 - h) (mn M m) = fdO σ M (9 - h) (mn M m) := by
        rw [show 10 - h = (9 - h) + 1 by omega]
        have : fdO σ M (9 - h + 1) (mn M m) = if tol (σ.1 1 8) (9 - (9 - h)) then Fm (fdO σ M (9 - h)) (Rw σ M (9 - (9 - h))) M (mn M m) 84 else fdO σ M (9 - h) (mn M m) := rfl
        rw [this, show 9 - (9 - h) = h by omega, if_neg th]
      rw [← e0]
      exact hf
def Mk (n : Nat) (w : gT) : Prop := ∃ mk, mk ≤ n ∧ w.1 52 5 = nI mk ∧ ∀ q, q < 1024 → ∃ y, y ≤ mk ∧ w.1 55 q = nI y
theorem Mk.ks {n : Nat} {w w' : gT} (h : Mk n w) (hk : Ks w w') : Mk n w' := by
  unfold Mk at h ⊢
  rw [hk.1, hk.2.1]
  exact h
theorem Mk.le {n m : Nat} {w : gT} (h : Mk n w) (hm : n ≤ m) : Mk m w := by
  obtain ⟨k, a, b⟩ := h
  exact ⟨k, by omega, b⟩
def OpOkM (N n : Nat) (tx tm : Option (Int32 × gT)) : Prop := ∃ r wx wm, tx = some (r, wx) ∧ tm = some (r, wm) ∧ Rel N wx wm ∧ Mk n wx
theorem OpOkM.o {N n : Nat} {r : Int32} {wx wm : gT} (h : Rel N wx wm) (hk : Mk n wx) : OpOkM N n (some (r, wx)) (some (r, wm)) := ⟨r, wx, wm, rfl, rfl, h, hk⟩
theorem o_once {N n : Nat} (hN : 5000 ≤ N) {wx wm : gT} (h : Rel N wx wm) (hk : Mk n wx) (hn : n + 10 < 2 ^ 30) (a b : Int32) : OpOkM N (n + 10) (xX9_once N a b wx) (xX10_once N a b wm) := by
  obtain ⟨σ, hR, hX, hM, h4⟩ := id h
  have hq : Sq N σ wx wm := ⟨hR, hX, hM, h4⟩
  have hk' := hk.le (m := n + 10) (by omega)
  obtain ⟨s, hs, es⟩ := hR.1.2.2.2.2.2.2.2.2.1
  have es : σ.1 1 9 = nI s := es
  unfold xX9_once xX10_once xX9_areSleepers
  rw [hM.sl, es, hX.1 1 rfl, es]
  by_cases a0 : a = nI 0
  · rw [if_pos a0, gBi_s, if_pos rfl, if_pos (by rw [a0]; decide)]
    exact OpOkM.o h hk'
  rw [if_neg a0]
  by_cases az : (a &&& (nI s ^^^ (-1))) = nI 0
  · have an0 : ¬ a < nI 0 := fun z => neg_and (by omega) z az
    obtain ⟨M, hMl, rfl⟩ := nI_of an0
    have hM0 : M ≠ 0 := fun z => a0 (by rw [z])
    have hMs : sb M s := by
      rw [nI_mn] at az
      have := sb_le (mn_sb M s)
      exact mn_0.mp ((nI_eq (by omega) (by omega)).mp az)
    have hM1 : M < 1024 := sb_lt hMs hs
    have hM1' : ¬ nI M < nI 1 := nlt (by omega) (by omega) (by omega)
    have hMt : ∀ q, q < 10 → tol (nI M) q → tol (σ.1 1 9) q := fun q hq ht => by
      rw [es]
      exact (tol_iff (by omega) (by omega)).mpr ((bitA_tb s q).mpr (sb_i.mp hMs q ((bitA_tb M q).mp ((tol_iff (by omega) (by omega)).mp ht))))
    rw [if_pos az, gBi_s, if_neg nI_10, if_neg hM1', if_pos az, gLet_s, gLet_s]
    obtain ⟨w1, A, e1, f1, f2, f3, f4, f5, f6, f7⟩ := x_fill hN hX hR hM1 hMt (by omega) hk
    obtain ⟨v1, e2, g1, g2, g3⟩ := m_lays hN hM hR hM1
    have hrel : Rel N w1 v1 := (hq.c f1 g1 rfl rfl).rel
    have hmk : Mk (n + 10) w1 := f6
    have hO : OI σ M w1 v1 := ⟨⟨A, f2, fun j s hj hs => f3 j s (by omega) hj hs⟩, by rw [f1 1 (by decide), hX.1 1 rfl], f5, fun g h1 h2 t h3 => f7 g h1 (by omega) h2 t h3, by rw [g1 0 (by decide)]; exact hM.gh, g2, g3⟩
    have hFv := fdO_val σ M 10 (by omega) M hM1
    have mM0 : mn M 0 = M := by
      apply Nat.eq_of_testBit_eq
      intro i
      rw [mn_tb, Nat.zero_testBit, Bool.not_false, Bool.and_true]
    have e33 : v1.1 33 0 = nI (big (fdO σ M 10 M)) := by
      have := g3 10 (Nat.le_refl _) 0 (by omega) (sb_0 M)
      rw [mM0] at this
      exact this
    have eA : A 0 M = fdO σ M 10 M := f3 0 M (by omega) (by omega) hM1
    have found : xX0_isFound w1 = some (if fdO σ M 10 M = 15 then nI 0 else nI 1, w1) := by
      unfold xX0_isFound
      rw [f5, x_fewest f2 (by omega) hM1, gBi_s, eA]
      by_cases c : fdO σ M 10 M = 15
      · rw [if_pos (by rw [c]), if_pos c]
      · rw [if_neg (fun z => c ((nI_eq (by omega) (by omega)).mp z)), if_neg c]
    have main : ∀ (b : Int32), (b = (-1) ∨ ∃ g, g < 10 ∧ b = nI g ∧ tol (σ.1 1 8) g) → OpOkM N (n + 10) (gBv (xX0_fill N (nI M) wx) fun (w5 : gT) => gBi (xX0_isFound w5) fun (v6 : Int32) (w7 : gT) => (if v6 = (nI 0) then some ((-2), w7) else (if b = (-1) then gBi (xX0_fewest (nI 0) (nI M) w7) fun (v10 : Int32) (w11 : gT) => some (v10, w11) else gBi (xX0_walkOf N b w7) fun (v8 : Int32) (w9 : gT) => some (v8, w9)))) (gBv (xX10_laysOnce N (nI M) wm) fun (w3 : gT) => (if (w3.1 33 0) < (nI 1000000000) then (if b = (-1) then some ((w3.1 33 0), w3) else gLet (fun (v5 : Int32) (w6 : gT) => gBi (xX10_leastCode N b v5 w6) fun (v7 : Int32) (w8 : gT) => some (v7, w8)) fun k4 => gW2 (xX10_once_b69 N b k4) N (nI 0) (nI 0) w3) else some ((-2), w3))) := by
      intro b hb
      rw [e1, gBv_s, found, gBi_s, e2, gBv_s, e33]
      by_cases c : fdO σ M 10 M = 15
      · rw [if_pos c, if_pos rfl, c, if_neg (by decide)]
        exact OpOkM.o hrel hmk
      · rw [if_neg c, if_neg nI_10, big_n c, if_pos (ylt (by omega) (by omega) (by omega))]
        rcases hb with rfl | ⟨g, hg, rfl, tg⟩
        · rw [if_pos rfl, if_pos rfl, x_fewest f2 (by omega) hM1, gBi_s, eA]
          exact OpOkM.o hrel hmk
        · rw [if_neg (nI_m1 (by omega)), if_neg (nI_m1 (by omega)), gLet_s]
          unfold xX0_walkOf
          rw [gLet_s, f5]
          obtain ⟨r, r1, r2⟩ := walk_loop hN hM1 hO hg tg (fun (v5 : Int32) (w6 : gT) => gBi (xX10_leastCode N (nI g) v5 w6) fun (v7 : Int32) (w8 : gT) => some (v7, w8)) (fun m _ => rfl) g 0 0 N N (nI 84) (by omega) (by omega) (by omega) (by omega) (sb_0 M) (by rw [mM0]; exact c)
          rw [mM0] at r1
          rw [r1, gBi_s, r2]
          exact OpOkM.o hrel hmk
    by_cases b1 : b = (-1)
    · rw [if_pos b1, if_pos b1]
      exact main b (Or.inl b1)
    · rw [if_neg b1, if_neg b1]
      rcases in_or b 10 (by omega) with ⟨g, hg, rfl⟩ | q
      · rw [x_hasGhost _ hg, gBi_s, ifb, hX.1 1 rfl, m_isGhost _ hg, gBi_s, ifb, hM.gh]
        by_cases tg : tol (σ.1 1 8) g
        · rw [if_pos tg, if_pos tg]
          exact main (nI g) (Or.inr ⟨g, hg, rfl, tg⟩)
        · rw [if_neg tg, if_neg tg]
          exact OpOkM.o h hk'
      · rw [x_hasGhost_o _ q, gBi_s, if_pos rfl, m_isGhost_o _ q, gBi_s, if_pos rfl]
        exact OpOkM.o h hk'
  · rw [if_neg az, gBi_s, if_pos rfl]
    by_cases a1 : a < nI 1
    · rw [if_pos a1]
      exact OpOkM.o h hk'
    · rw [if_neg a1, if_neg az]
      exact OpOkM.o h hk'
