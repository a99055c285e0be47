theorem geqD_anti {d : Nat → Int} {p q : Nat} (h1 : geqD d p q) (h2 : geqD d q p) : p = q := by
  unfold geqD at h1 h2
  omega
theorem geqD_tr {d : Nat → Int} {p q r : Nat} (h1 : geqD d p q) (h2 : geqD d q r) : geqD d p r := by
  unfold geqD at h1 h2 ⊢
  omega
theorem geqD_rf (d : Nat → Int) (p : Nat) : geqD d p p := Or.inr ⟨rfl, Or.inr ⟨rfl, Nat.le_refl _⟩⟩
/-- a mask that may be had: of the gone, no more than there are chains -/
abbrev okM (G C m : Nat) : Prop := (∀ i, i < 10 → bitA m i → bitA G i) ∧ pcn m 10 ≤ C
theorem m_shared {N : Nat} (hN : 5000 ≤ N) {σ : sT} {w : gT} {n G C : Nat} (hG : G < 1024) (hC : C < 10) (h02 : w.1 0 2 = nI C) (hGn : ∀ i, i < 10 → (bitA G i ↔ spGn σ n (spW σ.1) i)) (hv : ∀ g, spGn σ n (spW σ.1) g → w.1 34 g = nI (spAl σ n (nI 0) (spW σ.1) g) ∧ w.1 35 g = nI (spAl σ n (nI 1) (spW σ.1) g)) (a2 : Int32) : gW3 (xX10_shared_b130 N a2 (nI G)) N (nI 0) (-1) (nI 0) w = some (if a2 = nI 0 then nI (grD C (dM σ n)) else nI (sN (fM σ n (grD C (dM σ n))) 10), w) := by
  obtain ⟨r1, r2, r3, r4⟩ := grD_best C (dM σ n)
  have hbest : okM G C (grD C (dM σ n)) := ⟨fun i hi hb => by
    have h := r3 i hb
    apply Classical.byContradiction
    intro hng
    have hng : ¬ spGn σ n (spW σ.1) i := fun z => hng ((hGn i hi).mpr z)
    unfold dM at h
    rw [spAl_no _ hng, spAl_no _ hng] at h
    omega, r2⟩
  have hS : ∀ m, sN (fM σ n m) 10 ≤ 9900 := fun m => sN_le (fM_le σ n m) 10
  refine gW3_ind (fun t => t = some (if a2 = nI 0 then nI (grD C (dM σ n)) else nI (sN (fM σ n (grD C (dM σ n))) 10), w)) (fun M a b c w1 => ∃ k, k ≤ 1024 ∧ c = nI k ∧ M = 1024 - k ∧ w1 = w ∧ ((k = 0 ∧ a = nI 0 ∧ b = (-1)) ∨ ∃ p, p < 1024 ∧ a = nI p ∧ b = nI (sN (fM σ n p) 10) ∧ okM G C p ∧ p < k ∧ ∀ m, m < k → okM G C m → geqD (dM σ n) p m)) ?_ N 1024 _ _ _ w (by omega) ⟨0, by omega, rfl, rfl, rfl, Or.inl ⟨rfl, rfl, rfl⟩⟩
  rintro M go a b c w1 ⟨k, hk, rfl, rfl, rfl, hd⟩ ih
  unfold xX10_shared_b130
  by_cases q : 1024 ≤ k
  · rw [if_pos (yle (by omega) (by omega) q)]
    have : k = 1024 := by omega
    subst this
    rcases hd with ⟨z, -⟩ | ⟨p, p1, rfl, rfl, p2, p3, p4⟩
    · omega
    · have e : p = grD C (dM σ n) := geqD_anti (p4 _ r1 hbest) (r4 p p1 p2.2)
      rw [e]
      split <;> rfl
  · have hk2 : k < 1024 := by omega
    rw [if_neg (nle (by omega) (by omega) q), gLet_s]
    try dsimp only
    rw [nI_add]
    have keep : ∀ a b, (∃ p, p < 1024 ∧ a = nI p ∧ b = nI (sN (fM σ n p) 10) ∧ okM G C p ∧ p < k + 1 ∧ ∀ m, m < k + 1 → okM G C m → geqD (dM σ n) p m) → go a b (nI (k + 1)) w1 = some (if a2 = nI 0 then nI (grD C (dM σ n)) else nI (sN (fM σ n (grD C (dM σ n))) 10), w1) := fun a b h => ih (1024 - (k + 1)) _ _ _ _ (by omega) ⟨k + 1, by omega, rfl, rfl, rfl, Or.inr h⟩
    have hold : ∀ p, p < 1024 → okM G C p → p < k → (∀ m, m < k → okM G C m → geqD (dM σ n) p m) → (okM G C k → geqD (dM σ n) p k) → ∃ p', p' < 1024 ∧ nI p = nI p' ∧ nI (sN (fM σ n p) 10) = nI (sN (fM σ n p') 10) ∧ okM G C p' ∧ p' < k + 1 ∧ ∀ m, m < k + 1 → okM G C m → geqD (dM σ n) p' m := fun p p1 p2 p3 p4 p5 => ⟨p, p1, rfl, rfl, p2, by omega, fun m hm ho => by
      by_cases e : m = k
      · subst e; exact p5 ho
      · exact p4 m (by omega) ho⟩
    have h0ok : okM G C 0 := ⟨fun i _ hb => absurd hb (bit0 i), by rw [pcn_z]; omega⟩
    by_cases c1 : (nI k &&& (nI G ^^^ (-1))) = nI 0
    · have c1n := (sub_iff hk2).mp c1
      rw [if_pos c1, m_bits hN hk2, gBi_s, h02]
      by_cases c2 : pcn k 10 ≤ C
      · have hok : okM G C k := ⟨c1n, c2⟩
        have hSk := hS k
        have hek := fM_sum σ n k 10
        rw [if_pos (yle (by have := pcn_le k 10; omega) (by omega) c2), gLet_s, m_sum hN hG hk2 hGn c1n hv]
        try dsimp only
        rcases hd with ⟨rfl, rfl, rfl⟩ | ⟨p, p1, rfl, rfl, p2, p3, p4⟩
        · have hm1 : ¬ nI (sN (fM σ n 0) 10) < (-1) := by
            rw [Int32.lt_iff_toInt_lt, nI_toInt (by omega)]
            have : ((-1) : Int32).toInt = -1 := by decide
            omega
          rw [if_neg hm1, gLet_s, if_neg (nI_m1 (by omega))]
          try dsimp only
          refine keep _ _ ⟨0, by omega, rfl, rfl, hok, by omega, fun m hm _ => ?_⟩
          have : m = 0 := by omega
          rw [this]
          exact geqD_rf _ _
        · have hSp := hS p
          have hep := fM_sum σ n p 10
          have new : geqD (dM σ n) k p → go (nI k) (nI (sN (fM σ n k) 10)) (nI (k + 1)) w1 = some (if a2 = nI 0 then nI (grD C (dM σ n)) else nI (sN (fM σ n (grD C (dM σ n))) 10), w1) := fun hg => keep _ _ ⟨k, hk2, rfl, rfl, hok, by omega, fun m hm ho => by
            by_cases e : m = k
            · subst e; exact geqD_rf _ _
            · exact geqD_tr hg (p4 m (by omega) ho)⟩
          by_cases c3 : sN (fM σ n k) 10 < sN (fM σ n p) 10
          · rw [if_pos (ylt (by omega) (by omega) c3)]
            exact keep _ _ (hold p p1 p2 p3 p4 (fun _ => Or.inl (by omega)))
          · rw [if_neg (nlt (by omega) (by omega) c3), gLet_s]
            try dsimp only
            by_cases c4 : sN (fM σ n k) 10 = sN (fM σ n p) 10
            · rw [if_pos (by rw [c4]), m_bits hN hk2, gBi_s, m_bits hN p1, gBi_s]
              have l1 := pcn_le k 10
              have l2 := pcn_le p 10
              by_cases c5 : pcn k 10 < pcn p 10
              · rw [if_pos (ylt (by omega) (by omega) c5)]
                exact new (Or.inr ⟨by omega, Or.inl c5⟩)
              · rw [if_neg (nlt (by omega) (by omega) c5)]
                exact keep _ _ (hold p p1 p2 p3 p4 (fun _ => Or.inr ⟨by omega, by omega⟩))
            · rw [if_neg (fun z => c4 ((nI_eq (by omega) (by omega)).mp z))]
              exact new (Or.inl (by omega))
      · rw [if_neg (nle (by have := pcn_le k 10; omega) (by omega) c2)]
        rcases hd with ⟨rfl, rfl, rfl⟩ | ⟨p, p1, rfl, rfl, p2, p3, p4⟩
        · exact absurd h0ok.2 c2
        · exact keep _ _ (hold p p1 p2 p3 p4 (fun z => absurd z.2 c2))
    · rw [if_neg c1]
      rcases hd with ⟨rfl, rfl, rfl⟩ | ⟨p, p1, rfl, rfl, p2, p3, p4⟩
      · exact absurd ((sub_iff hk2).mpr h0ok.1) c1
      · exact keep _ _ (hold p p1 p2 p3 p4 (fun z => absurd ((sub_iff hk2).mpr z.1) c1))
theorem o_shared {N : Nat} (hN : 5000 ≤ N) {wx wm : gT} (h : Rel N wx wm) (a b : Int32) : OpOk N (xX9_shared N a b wx) (xX10_shared N a b wm) := by
  obtain ⟨σ, hR, hX, hM, h4⟩ := id h
  have hq : Sq N σ wx wm := ⟨hR, hX, hM, h4⟩
  obtain ⟨C, hC, eC⟩ := hR.1.2.2.2.2.2.2.2.2.2
  have eC : σ.1 1 10 = nI C := eC
  unfold xX9_shared xX10_shared
  rcases in_or a 7 (by omega) with ⟨n, hn, rfl⟩ | q
  · rw [x_night1 hn, m_night1 hn, gBi_s, gBi_s, if_neg nI_10, if_neg nI_10]
    have main : OpOk N (gBi (xX9_weighChains N (nI n) wx) fun (v5 : Int32) (w6 : gT) => gLet (fun (v8 : Int32) (v9 : Int32) (w10 : gT) => (if b = (nI 0) then some (v9, w10) else some (v8, w10))) fun k7 => gW3 (xX9_shared_b30 N k7) N v5 (nI 0) (nI 0) w6) (gLet (fun (v6 : Int32) (w7 : gT) => gW3 (xX10_shared_b130 N b v6) N (nI 0) ((-1) : Int32) (nI 0) w7) fun k5 => gW2 (xX10_shared_b23 N (nI n) k5) N (nI 0) (nI 0) wm) := by
      obtain ⟨w1, e1, s1, z1⟩ := x_weigh hN hX hR hn
      rw [e1, gBi_s, gLet_s, gLet_s]
      have hd : ∀ g, g < 10 → w1.1 59 g = iI (dM σ n g) := fun g hg => by
        rw [z1 g hg, iI_nI (spAl σ n (nI 1) (spW σ.1) g), iI_nI (spAl σ n (nI 0) (spW σ.1) g), iI_sub]
        rfl
      have hbd : ∀ g, g < 10 → -990 ≤ dM σ n g ∧ dM σ n g ≤ 990 := fun g _ => by
        have h1 := spAl_le (σ := σ) (n := n) (ch := nI 0) (g := g) (spW σ.1)
        have h2 := spAl_le (σ := σ) (n := n) (ch := nI 1) (g := g) (spW σ.1)
        unfold dM
        omega
      rw [iI_nI (sN _ 10)]
      refine x_grd hN hC (by rw [s1 1 (by decide), hX.1 1 rfl]; exact eC) _ (fun t => OpOk N t _) hd hbd _ (fun w2 s2 => ?_)
      refine m_gone hN hM hR hn _ (fun t => OpOk N _ t) (fun v1 t1 hv => ?_)
      have hGl := bn_lt (spGn σ n (spW σ.1)) 10
      rw [m_shared hN hGl hC (by rw [t1 0 (by decide), hM.ch]; exact eC) (fun i hi => (bn_bit 10).trans ⟨fun z => z.2, fun z => ⟨hi, z⟩⟩) hv]
      have hrel := (hq.c (s1.tr (s2.mono (by decide))) t1 rfl rfl).rel
      have hf := fM_sum σ n (grD C (dM σ n)) 10
      rw [← hf, ← iI_nI]
      split
      · exact OpOk.o hrel
      · exact OpOk.o hrel
    rcases in_or b 2 (by omega) with ⟨j, hj, rfl⟩ | q
    · rw [m_in1 (by omega) (by omega) (by omega), gBi_s, if_neg nI_10, gLet_s]
      rcases (show j = 0 ∨ j = 1 by omega) with rfl | rfl
      · rw [if_pos rfl]
        exact main
      · rw [if_neg nI_10, if_pos rfl]
        exact main
    · have q' := q
      rw [m_in0 (by omega) q (by omega), gBi_s, if_pos rfl, gLet_s, if_neg (fun z => by rw [z] at q'; revert q'; decide), if_neg (fun z => by rw [z] at q'; revert q'; decide)]
      exact OpOk.o h
  · rw [x_night0 q, m_night0 q, gBi_s, gBi_s, if_pos rfl, if_pos rfl]
    exact OpOk.o h
