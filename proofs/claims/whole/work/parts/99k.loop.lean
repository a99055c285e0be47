theorem law_loop {κ : lC} {N : Nat} (ok : lOk κ) (hN : 5000 ≤ N) (hL : lL κ ≤ 3072) : ∀ (f t : Nat) (wx wm : gT), 6 * t ≤ 6000 → lL κ + 6 ≤ 6 * (t + f) → Rel N wx wm → Mk (10 * t) wx → lJ κ 18 (nI (6 * t)) [] wx wm := by
  intro f
  induction f with
  | zero =>
    intro t wx wm ht hf hR hM
    exact l_head ok hL ht (fun h => absurd h (by omega))
  | succ f ih =>
    intro t wx wm ht hf hR hM
    refine l_head ok hL ht (fun h => ?_)
    have hin : ∀ k, k ≤ 5 → vp_in (nI (6 * t) + nI k) (lL κ) := fun k hk => by
      rw [nI_add]
      exact vp_in_nI (by omega) (by omega)
    have K : ∀ wx' wm', Rel N wx' wm' → Mk (10 * t + 10) wx' → lJ κ 1128 (nI (6 * t)) [] wx' wm' := fun wx' wm' hR' hM' =>
      l_six ok dL_law_1128 rfl (show nI (6 * t) + 6 = nI (6 * (t + 1)) from nI_add (6 * t) 6) (l_goto (q := 18) ok dL_law_1131 (by decide) (ih (t + 1) wx' wm' (by omega) (by omega) hR' hM'))
    refine l_switch ok (vp_in_nI (by omega) (by omega)) (fun n hn => ?_)
    have hb : 10 * t + 10 < 2 ^ 30 := by omega
    rcases Nat.lt_or_ge n 30 with h30 | h30
    · rcases (show n = 0 ∨ n = 1 ∨ n = 2 ∨ n = 3 ∨ n = 4 ∨ n = 5 ∨ n = 6 ∨ n = 7 ∨ n = 8 ∨ n = 9 ∨ n = 10 ∨ n = 11 ∨ n = 12 ∨ n = 13 ∨ n = 14 ∨ n = 15 ∨ n = 16 ∨ n = 17 ∨ n = 18 ∨ n = 19 ∨ n = 20 ∨ n = 21 ∨ n = 22 ∨ n = 23 ∨ n = 24 ∨ n = 25 ∨ n = 26 ∨ n = 27 ∨ n = 28 ∨ n = 29 by omega) with rfl | rfl | rfl | rfl | rfl | rfl | rfl | rfl | rfl | rfl | rfl | rfl | rfl | rfl | rfl | rfl | rfl | rfl | rfl | rfl | rfl | rfl | rfl | rfl | rfl | rfl | rfl | rfl | rfl | rfl
      · exact lc_0 ok hN hR hM hb hin K
      · exact lc_1 ok hN hR hM hb hin K
      · exact lc_2 ok hN hR hM hb hin K
      · exact lc_3 ok hN hR hM hb hin K
      · exact lc_4 ok hN hR hM hb hin K
      · exact lc_5 ok hN hR hM hb hin K
      · exact lc_6 ok hN hR hM hb hin K
      · exact lc_7 ok hN hR hM hb hin K
      · exact lc_8 ok hN hR hM hb hin K
      · exact lc_9 ok hN hR hM hb hin K
      · exact lc_10 ok hN hR hM hb hin K
      · exact lc_11 ok hN hR hM hb hin K
      · exact lc_12 ok hN hR hM hb hin K
      · exact lc_13 ok hN hR hM hb hin K
      · exact lc_14 ok hN hR hM hb hin K
      · exact lc_15 ok hN hR hM hb hin K
      · exact lc_16 ok hN hR hM hb hin K
      · exact lc_17 ok hN hR hM hb hin K
      · exact lc_18 ok hN hR hM hb hin K
      · exact lc_19 ok hN hR hM hb hin K
      · exact lc_20 ok hN hR hM hb hin K
      · exact lc_21 ok hN hR hM hb hin K
      · exact lc_22 ok hN hR hM hb hin K
      · exact lc_23 ok hN hR hM hb hin K
      · exact lc_24 ok hN hR hM hb hin K
      · exact lc_25 ok hN hR hM hb hin K
      · exact lc_26 ok hN hR hM hb hin K
      · exact lc_27 ok hN hR hM hb hin K
      · exact lc_28 ok hN hR hM hb hin K
      · exact lc_29 ok hN hR hM hb hin K
    · rw [show lT n = 1128 by rcases (show n = 30 ∨ n = 31 by omega) with rfl | rfl <;> rfl]
      exact K wx wm hR (hM.le (by omega))
