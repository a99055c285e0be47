def GX (w w' : gT) : Prop := (∀ c, c ∉ [19, 27, 28, 29, 30, 31, 32] → w'.1 c = w.1 c) ∧ w'.1 19 1 = w.1 19 1 ∧ w'.1 19 2 = w.1 19 2
def GM (v v' : gT) : Prop := (∀ c, c ∉ [0, 13, 14, 15, 17] → v'.1 c = v.1 c) ∧ ∀ i, i ∉ [15, 17, 18, 20] → v'.1 0 i = v.1 0 i
theorem GX.rf {w : gT} : GX w w := ⟨fun _ _ => rfl, rfl, rfl⟩
theorem GM.rf {w : gT} : GM w w := ⟨fun _ _ => rfl, fun _ _ => rfl⟩
theorem GX.tr {w w1 w2 : gT} (h : GX w w1) (h2 : GX w1 w2) : GX w w2 := ⟨fun c hc => (h2.1 c hc).trans (h.1 c hc), h2.2.1.trans h.2.1, h2.2.2.trans h.2.2⟩
theorem GM.tr {w w1 w2 : gT} (h : GM w w1) (h2 : GM w1 w2) : GM w w2 := ⟨fun c hc => (h2.1 c hc).trans (h.1 c hc), fun i hi => (h2.2 i hi).trans (h.2 i hi)⟩
theorem FX.g {w w' : gT} (h : FX w w') : GX w w' := ⟨fun c hc => h.1 c (fun z => hc (by simp at z; simp [z])), h.2.1, h.2.2⟩
theorem FM.g {v v' : gT} (h : FM v v') : GM v v' := ⟨fun c hc => h.1 c (fun z => hc (by simp at z; simp [z])), fun i hi => h.2 i (fun z => hi (by simp at z; rcases z with z | z | z <;> simp [z]))⟩
theorem GM.c {v : gT} {c i : Nat} {x : Int32} (hc : c ∈ [13, 14, 15, 17]) : GM v (gU v c i x) := ⟨fun d hd => gU1 (fun z => hd (by subst z; simp at hc ⊢; omega)), fun j _ => by rw [gU1 (fun z => by subst z; simp at hc)]⟩
theorem MT.c {B : Nat → Int32} {v : gT} {len pos c i : Nat} {x : Int32} (h : MT B v len pos) (hc : c ∈ [13, 14, 15, 17]) : MT B (gU v c i x) len pos := by
  obtain ⟨h1, h2, h3⟩ := h
  simp at hc
  refine ⟨?_, ?_, ?_⟩
  · rw [gU1 (by omega)]; exact h1
  · rw [gU1 (by omega)]; exact h2
  · rw [gU1 (by omega)]; exact h3
/-- the first n walks read, of both -/
def WR (n : Nat) (w v : gT) : Prop := n ≤ 16 ∧ w.1 27 5 = nI n ∧ v.1 0 20 = nI n ∧ ∀ i, i < n → (w.1 28 i = v.1 13 i ∧ w.1 29 i = v.1 14 i ∧ w.1 30 i = v.1 15 i ∧ w.1 31 i = v.1 17 i) ∧ Bl (w.1 28 i) 10 ∧ Bl (w.1 29 i) 7 ∧ Bl (w.1 30 i) 12 ∧ Bl (w.1 31 i) 2 ∧ w.1 32 i = b2i (¬ ∃ k, k < i ∧ w.1 28 k = w.1 28 i ∧ w.1 29 k = w.1 29 i)
theorem x_add {N : Nat} (hN : 5000 ≤ N) {w : gT} {n : Nat} (hn : n < 16) (h5 : w.1 27 5 = nI n) (g t r : Int32) {z : Nat} (hz : z < 2) : ∃ w', xX7_add N g t r (nI z) w = some w' ∧ (∀ c, c ∉ [27, 28, 29, 30, 31, 32] → w'.1 c = w.1 c) ∧ w'.1 27 5 = nI (n + 1) ∧ w'.1 28 = upd (w.1 28) n g ∧ w'.1 29 = upd (w.1 29) n t ∧ w'.1 30 = upd (w.1 30) n r ∧ w'.1 31 = upd (w.1 31) n (nI z) ∧ w'.1 32 n = b2i (¬ ∃ k, k < n ∧ w.1 28 k = g ∧ w.1 29 k = t) ∧ ∀ i, i ≠ n → w'.1 32 i = w.1 32 i := by
  unfold xX7_add
  rw [h5, if_pos (ylt (by omega) (by omega) hn), gLet_s, gG_in hn (by omega), nI_clamp (by omega), gLet_s, gU1 (by omega), h5, gG_in hn (by omega), nI_clamp (by omega), gLet_s, gU1 (by omega), gU1 (by omega), h5, gG_in hn (by omega), nI_clamp (by omega), gLet_s, gU1 (by omega), gU1 (by omega), gU1 (by omega), h5]
  have main : ∀ x : Int32, x = nI z → ∃ w', (gG (nI n) 16 <| gLet (gU (gU (gU (gU w 28 n g) 29 n t) 30 n r) 31 (nI n).toNatClampNeg x) fun w5 => gG (w5.1 27 5) 16 <| gLet (gU w5 32 (w5.1 27 5).toNatClampNeg (nI 1)) fun w6 => gW1 (xX7_add_b72 g t) N (nI 0) w6) = some w' ∧ (∀ c, c ∉ [27, 28, 29, 30, 31, 32] → w'.1 c = w.1 c) ∧ w'.1 27 5 = nI (n + 1) ∧ w'.1 28 = upd (w.1 28) n g ∧ w'.1 29 = upd (w.1 29) n t ∧ w'.1 30 = upd (w.1 30) n r ∧ w'.1 31 = upd (w.1 31) n (nI z) ∧ w'.1 32 n = b2i (¬ ∃ k, k < n ∧ w.1 28 k = g ∧ w.1 29 k = t) ∧ ∀ i, i ≠ n → w'.1 32 i = w.1 32 i := by
    rintro x rfl
    rw [gG_in hn (by omega), gLet_s, nI_clamp (by omega), gU1 (by omega), gU1 (by omega), gU1 (by omega), gU1 (by omega), h5, gG_in hn (by omega), gLet_s, nI_clamp (by omega)]
    have b0 : ∀ c, c ∉ [28, 29, 30, 31, 32] → (gU (gU (gU (gU (gU w 28 n g) 29 n t) 30 n r) 31 n (nI z)) 32 n (nI 1)).1 c = w.1 c := fun c hc => by
      simp at hc
      rw [gU1 (by omega), gU1 (by omega), gU1 (by omega), gU1 (by omega), gU1 (by omega)]
    have b28 : (gU (gU (gU (gU (gU w 28 n g) 29 n t) 30 n r) 31 n (nI z)) 32 n (nI 1)).1 28 = upd (w.1 28) n g := by
      rw [gU1 (by omega), gU1 (by omega), gU1 (by omega), gU1 (by omega), gU_self]
    have b29 : (gU (gU (gU (gU (gU w 28 n g) 29 n t) 30 n r) 31 n (nI z)) 32 n (nI 1)).1 29 = upd (w.1 29) n t := by
      rw [gU1 (by omega), gU1 (by omega), gU1 (by omega), gU_self, gU1 (by omega)]
    have b30 : (gU (gU (gU (gU (gU w 28 n g) 29 n t) 30 n r) 31 n (nI z)) 32 n (nI 1)).1 30 = upd (w.1 30) n r := by
      rw [gU1 (by omega), gU1 (by omega), gU_self, gU1 (by omega), gU1 (by omega)]
    have b31 : (gU (gU (gU (gU (gU w 28 n g) 29 n t) 30 n r) 31 n (nI z)) 32 n (nI 1)).1 31 = upd (w.1 31) n (nI z) := by
      rw [gU1 (by omega), gU_self, gU1 (by omega), gU1 (by omega), gU1 (by omega)]
    have b32 : ∀ i, (gU (gU (gU (gU (gU w 28 n g) 29 n t) 30 n r) 31 n (nI z)) 32 n (nI 1)).1 32 i = if i = n then nI 1 else w.1 32 i := fun i => by
      rw [gUs, gU1 (by omega), gU1 (by omega), gU1 (by omega), gU1 (by omega)]
    revert b0 b28 b29 b30 b31 b32
    generalize gU (gU (gU (gU (gU w 28 n g) 29 n t) 30 n r) 31 n (nI z)) 32 n (nI 1) = w1
    intro b0 b28 b29 b30 b31 b32
    refine gW1_ind (fun (o : Option gT) => ∃ w' : gT, o = some w' ∧ (∀ c, c ∉ [27, 28, 29, 30, 31, 32] → w'.1 c = w.1 c) ∧ w'.1 27 5 = nI (n + 1) ∧ w'.1 28 = upd (w.1 28) n g ∧ w'.1 29 = upd (w.1 29) n t ∧ w'.1 30 = upd (w.1 30) n r ∧ w'.1 31 = upd (w.1 31) n (nI z) ∧ w'.1 32 n = b2i (¬ ∃ k, k < n ∧ w.1 28 k = g ∧ w.1 29 k = t) ∧ ∀ i, i ≠ n → w'.1 32 i = w.1 32 i)
      (fun m x w2 => ∃ k, k ≤ n ∧ x = nI k ∧ m = n - k ∧ (∀ c, c ≠ 32 → w2.1 c = w1.1 c) ∧ w2.1 32 n = b2i (¬ ∃ q, q < k ∧ w.1 28 q = g ∧ w.1 29 q = t) ∧ ∀ i, i ≠ n → w2.1 32 i = w.1 32 i) ?_ N n _ w1 (by omega) ⟨0, by omega, rfl, rfl, fun _ _ => rfl, ?_, fun i hi => by rw [b32, if_neg hi]⟩
    · rintro m go x w2 ⟨k, hk, rfl, rfl, hs, h32, hi32⟩ ih
      unfold xX7_add_b72
      rw [hs 27 (by omega), hs 28 (by omega), hs 29 (by omega), b28, b29, b0 27 (by decide), h5]
      by_cases q : n ≤ k
      · rw [if_pos (yle (by omega) (by omega) q), gLet_s]
        have ek : k = n := by omega
        subst ek
        refine ⟨_, rfl, fun c hc => ?_, ?_, ?_, ?_, ?_, ?_, ?_, fun i hi => ?_⟩
        · simp at hc
          rw [gU1 (by omega), hs c (by omega)]
          exact b0 c (by simp; omega)
        · rw [gU0, nI_add]
        · rw [gU1 (by omega), hs 28 (by omega)]; exact b28
        · rw [gU1 (by omega), hs 29 (by omega)]; exact b29
        · rw [gU1 (by omega), hs 30 (by omega)]; exact b30
        · rw [gU1 (by omega), hs 31 (by omega)]; exact b31
        · rw [gU1 (by omega)]; exact h32
        · rw [gU1 (by omega)]; exact hi32 i hi
      · have e28 : upd (w.1 28) n g k = w.1 28 k := if_neg (by omega)
        have e29 : upd (w.1 29) n t k = w.1 29 k := if_neg (by omega)
        rw [if_neg (nle (by omega) (by omega) q), gLet_s, gG_in (by omega) (by omega), gG_in (by omega) (by omega), gG_in hn (by omega), nI_clamp (by omega), nI_clamp (by omega), e28, e29, gLet_s, nI_add]
        have no : ¬ (w.1 28 k = g ∧ w.1 29 k = t) → b2i (¬ ∃ q, q < k + 1 ∧ w.1 28 q = g ∧ w.1 29 q = t) = b2i (¬ ∃ q, q < k ∧ w.1 28 q = g ∧ w.1 29 q = t) := fun hne => by
          by_cases c : ∃ q, q < k ∧ w.1 28 q = g ∧ w.1 29 q = t
          · rw [b2i_f (not_not_intro c), b2i_f (not_not_intro (by obtain ⟨q, h1, h2⟩ := c; exact ⟨q, by omega, h2⟩))]
          · rw [b2i_t c, b2i_t]
            rintro ⟨q, h1, h2⟩
            by_cases e : q = k
            · subst e; exact hne h2
            · exact c ⟨q, by omega, h2⟩
        by_cases c1 : w.1 28 k = g
        · rw [if_pos c1]
          by_cases c2 : w.1 29 k = t
          · rw [if_pos c2]
            refine ih (n - (k + 1)) _ _ (by omega) ⟨k + 1, by omega, rfl, rfl, fun c hc => by rw [gU1 hc]; exact hs c hc, ?_, fun i hi => by rw [gU2 hi]; exact hi32 i hi⟩
            rw [gU0, b2i_f (not_not_intro ⟨k, by omega, c1, c2⟩)]
          · rw [if_neg c2]
            exact ih (n - (k + 1)) _ _ (by omega) ⟨k + 1, by omega, rfl, rfl, hs, by rw [h32, no (fun zz => c2 zz.2)], hi32⟩
        · rw [if_neg c1]
          exact ih (n - (k + 1)) _ _ (by omega) ⟨k + 1, by omega, rfl, rfl, hs, by rw [h32, no (fun zz => c1 zz.1)], hi32⟩
    · rw [b32, if_pos rfl, b2i_t]
      rintro ⟨q, h1, h2⟩
      omega
  rcases (show z = 0 ∨ z = 1 by omega) with rfl | rfl
  · rw [if_pos rfl]; exact main _ rfl
  · rw [if_neg nI_10]; exact main _ rfl
