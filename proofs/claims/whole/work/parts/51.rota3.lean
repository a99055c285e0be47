theorem takeEnd1 {B : Nat → Int32} {w : gT} {len pos : Nat} (h : XT B w len pos) (hp : len ≤ pos) : xX6_takeEnd w = some w := by
  unfold xX6_takeEnd
  have e : pkV B len pos = (-1) := if_pos hp
  rw [x_peek h, gBi_s, if_pos e]
theorem takeEnd0 {B : Nat → Int32} (hB : ∀ i, Bl (B i) 256) {w : gT} {len pos : Nat} (h : XT B w len pos) (hp : pos < len) : xX6_takeEnd w = some (gU w 19 4 (fc 1 pos)) := by
  unfold xX6_takeEnd
  have e : pkV B len pos = B pos := if_neg (by omega)
  obtain ⟨q, hq, eq⟩ := hB pos
  rw [x_peek h, gBi_s, if_neg (by rw [e, eq]; exact nI_m1 (by omega)), x_fail h, gBv_s]
/-- two loops side by side; the second's rest seen -/
theorem gW11u {α β : Type} {f : (Int32 → gT → Option α) → Int32 → gT → Option α} {g : (Int32 → gT → Option β) → Int32 → gT → Option β} (Post : Option α → Option β → Prop) (Inv : Nat → Int32 → gT → Int32 → gT → Prop)
    (hs : ∀ (m n : Nat) (go : Int32 → gT → Option α) (x : Int32) (w : gT) (y : Int32) (v : gT), m < n + 1 → Inv m x w y v → (∀ (m' : Nat) (x' : Int32) (w' : gT) (y' : Int32) (v' : gT), m' < m → Inv m' x' w' y' v' → Post (go x' w') (gW1 g n y' v')) → Post (f go x w) (g (gW1 g n) y v)) :
    ∀ (n m : Nat) (x : Int32) (w : gT) (y : Int32) (v : gT), m < n → Inv m x w y v → Post (gW1 f n x w) (gW1 g n y v) := by
  intro n
  induction n with
  | zero => intro m x w y v h; omega
  | succ n ih => intro m x w y v h hi; exact hs m n (gW1 f n) x w y v h hi (fun m' x' w' y' v' h1 h2 => ih m' x' w' y' v' (by omega) h2)
/-- all the walks read by both -/
theorem walks_both {N : Nat} (hN : 5000 ≤ N) {B : Nat → Int32} (hB : ∀ i, Bl (B i) 256) {w v : gT} {len n it pos : Nat} (hx : XT B w len pos) (hm : MT B v len pos) (hw : WR n w v) (hl : len ≤ 160) (hit : it ≤ pos) (k8 : Int32 → gT → Option (Int32 × gT)) (Post : Option gT → Option (Int32 × gT) → Prop)
    (h1 : ∀ w' v' n', WR n' w' v' → w'.1 19 4 = nI 0 → GX w w' → GM v v' → Post (some w') (k8 (nI 1) v'))
    (h0 : ∀ w' v', FF w' v' → GX w w' → GM v v' → Post (some w') (k8 (nI 0) v')) :
    Post (gW1 (xX7_readFrom_b12 N (fun w4 => gBv (xX6_takeEnd w4) fun w5 => some w5)) N (nI it) w) (gW1 (xX10_rota_b41 N k8) N (nI 1) v) := by
  have h6 := hx.2.2.2.2.2
  have hp5 := hx.2.2.2.2.1
  refine gW11u Post (fun m x w1 y v1 => ∃ it n1, x = nI it ∧ m = 400 - it ∧ GX w w1 ∧ GM v v1 ∧ it ≤ 170 ∧ ((y = nI 1 ∧ ∃ pos1, XT B w1 len pos1 ∧ MT B v1 len pos1 ∧ WR n1 w1 v1 ∧ it ≤ pos1) ∨ (y = nI 0 ∧ FF w1 v1))) ?_ N (400 - it) _ _ _ _ (by omega) ⟨it, n, rfl, rfl, GX.rf, GM.rf, by omega, Or.inl ⟨rfl, pos, hx, hm, hw, hit⟩⟩
  rintro m nn go x w1 y v1 hmn ⟨it, n1, rfl, rfl, gx, gm, hit2, hc⟩ ih
  obtain ⟨go', hgo⟩ : ∃ go', go' = gW1 (xX10_rota_b41 N k8) nn := ⟨_, rfl⟩
  rw [← hgo] at ih ⊢
  unfold xX7_readFrom_b12 xX10_rota_b41
  rcases hc with ⟨rfl, pos1, hx1, hm1, hw1, hip⟩ | ⟨rfl, hff⟩
  · have hp1 := hx1.2.2.2.2.1
    rw [if_neg nI_10, hm1.2.1, hm1.2.2]
    have endx : len ≤ pos1 → Post (gBv (xX6_takeEnd w1) fun w5 => some w5) (k8 (nI 1) v1) := fun hle => by
      rw [takeEnd1 hx1 hle, gBv_s]
      exact h1 w1 v1 n1 hw1 hx1.2.2.2.1 gx gm
    by_cases q : len ≤ pos1
    · rw [if_pos (yle (by omega) (by omega) q)]
      have e : pkV B len pos1 = (-1) := if_pos q
      rw [x_peek hx1, gBi_s, e, if_neg (show ¬ ((-1) : Int32) = nI 59 by decide)]
      by_cases q2 : 160 ≤ it
      · rw [if_pos (yle (by omega) (by omega) q2)]
        exact endx q
      · rw [if_neg (nle (by omega) (by omega) q2)]
        exact endx q
    · rw [if_neg (nle (by omega) (by omega) q), if_neg (nle (by omega) (by omega) (show ¬ 160 ≤ it by omega)), gLet_s, gLet_s, x_peek hx1, gBi_s]
      by_cases c : pkV B len pos1 = nI 59
      · rw [if_pos c, x_sign1 hx1 c, gBv_s, m_sign1 hm1 hp1 h6 c, gBi_s, if_neg nI_10]
        have hx2 := hx1.adv (show pos1 < len by omega)
        have hm2 : MT B (gU v1 0 15 (nI (pos1 + 1))) len (pos1 + 1) := hm1.adv
        have gx2 : GX w (gU w1 19 3 (nI (pos1 + 1))) := gx.tr (FX.u (by omega)).g
        have gm2 : GM v (gU v1 0 15 (nI (pos1 + 1))) := gm.tr (FM.u (by decide)).g
        have hw2 : WR n1 (gU w1 19 3 (nI (pos1 + 1))) (gU v1 0 15 (nI (pos1 + 1))) := by
          obtain ⟨a1, a2, a3, a4⟩ := hw1
          refine ⟨a1, by rw [gU1 (by omega)]; exact a2, by rw [gU2 (by omega)]; exact a3, fun i hi => ?_⟩
          rw [gU1 (by omega), gU1 (by omega), gU1 (by omega), gU1 (by omega), gU1 (by omega), gU1 (by omega), gU1 (by omega), gU1 (by omega), gU1 (by omega)]
          exact a4 i hi
        rcases walk_both hN hB hx2 hm2 hw2 with ⟨w3, v3, pos3, e1, e2, hx3, hm3, hw3, hlt, gx3, gm3⟩ | ⟨w3, v3, e1, e2, hff, gx3, gm3⟩
        · rw [e1, gBv_s, e2, gBi_s, if_neg nI_10, nI_add]
          exact ih (400 - (it + 1)) _ _ _ _ (by omega) ⟨it + 1, n1 + 1, rfl, rfl, gx2.tr gx3, gm2.tr gm3, by omega, Or.inl ⟨rfl, pos3, hx3, hm3, hw3, by omega⟩⟩
        · rw [e1, gBv_s, e2, gBi_s, if_pos rfl, nI_add]
          exact ih (400 - (it + 1)) _ _ _ _ (by omega) ⟨it + 1, n1, rfl, rfl, gx2.tr gx3, gm2.tr gm3, by omega, Or.inr ⟨rfl, hff⟩⟩
      · have hff : FF (gU w1 19 4 (fc 1 pos1)) (gU v1 0 17 (fc 1 pos1)) := FF.mk (by omega) (by omega) (by omega)
        rw [if_neg c, m_sign0 hm1 hp1 h6 c, gBi_s, if_pos rfl]
        try dsimp only
        rw [takeEnd0 hB hx1 (by omega), gBv_s]
        obtain ⟨n2, rfl⟩ : ∃ n2, nn = n2 + 1 := ⟨nn - 1, by omega⟩
        have st : go' (nI 0) (gU v1 0 17 (fc 1 pos1)) = k8 (nI 0) (gU v1 0 17 (fc 1 pos1)) := by
          rw [hgo, gW1_s]
          exact if_pos rfl
        rw [st]
        exact h0 _ _ hff (gx.tr (FX.u (by omega)).g) (gm.tr (FM.u (by decide)).g)
  · rw [if_pos rfl]
    have e : (gBv (xX6_takeEnd w1) fun w5 => some w5) = some w1 := by rw [d_takeEnd hff.xd, gBv_s]
    by_cases q2 : 160 ≤ it
    · rw [if_pos (yle (by omega) (by omega) q2)]
      try dsimp only
      rw [e]
      exact h0 w1 v1 hff gx gm
    · rw [if_neg (nle (by omega) (by omega) q2), d_peek hff.xd, gBi_s, if_neg (show ¬ ((-1) : Int32) = nI 59 by decide)]
      try dsimp only
      rw [e]
      exact h0 w1 v1 hff gx gm
theorem m_copyWalks {N : Nat} (hN : 5000 ≤ N) {v : gT} {n : Nat} (hn : n ≤ 16) (h19 : v.1 0 19 = nI n) (hb : ∀ i, i < n → Bl (v.1 17 i) 2) : ∃ v', gW1 (xX10_rota_b105) N (nI 0) v = some (nI n, v') ∧ (∀ c, c ∉ [10, 11, 12, 16] → v'.1 c = v.1 c) ∧ ∀ i, i < n → v'.1 10 i = v.1 13 i ∧ v'.1 11 i = v.1 14 i ∧ v'.1 12 i = v.1 15 i ∧ v'.1 16 i = v.1 17 i := by
  refine gW1_ind (fun (o : Option (Int32 × gT)) => ∃ v' : gT, o = some (nI n, v') ∧ (∀ c, c ∉ [10, 11, 12, 16] → v'.1 c = v.1 c) ∧ ∀ i, i < n → v'.1 10 i = v.1 13 i ∧ v'.1 11 i = v.1 14 i ∧ v'.1 12 i = v.1 15 i ∧ v'.1 16 i = v.1 17 i) (fun m x v1 => ∃ k, k ≤ n ∧ x = nI k ∧ m = n - k ∧ (∀ c, c ∉ [10, 11, 12, 16] → v1.1 c = v.1 c) ∧ ∀ i, i < k → v1.1 10 i = v.1 13 i ∧ v1.1 11 i = v.1 14 i ∧ v1.1 12 i = v.1 15 i ∧ v1.1 16 i = v.1 17 i) ?_ N n _ v (by omega) ⟨0, by omega, rfl, rfl, fun _ _ => rfl, fun i hi => by omega⟩
  rintro m go x v1 ⟨k, hk, rfl, rfl, hs, hv⟩ ih
  unfold xX10_rota_b105
  rw [hs 0 (by decide), h19]
  by_cases q : n ≤ k
  · rw [if_pos (yle (by omega) (by omega) q)]
    exact ⟨v1, rfl, hs, fun i hi => hv i (by omega)⟩
  · have hk16 : k < 16 := by omega
    rw [if_neg (nle (by omega) (by omega) q), gG_in hk16 (by omega), gG_in hk16 (by omega), gLet_s, gG_in hk16 (by omega), gG_in hk16 (by omega), gLet_s, gG_in hk16 (by omega), gG_in hk16 (by omega), gLet_s, gG_in hk16 (by omega), gG_in hk16 (by omega), gLet_s, nI_clamp (by omega), gU1 (by omega), gU1 (by omega), gU1 (by omega), gU1 (by omega), gU1 (by omega), gU1 (by omega), hs 13 (by decide), hs 14 (by decide), hs 15 (by decide), hs 17 (by decide)]
    have e17 : v.1 17 k &&& nI 1 = v.1 17 k := by
      obtain ⟨z, hz, ez⟩ := hb k (by omega)
      rw [ez]
      rcases (show z = 0 ∨ z = 1 by omega) with rfl | rfl <;> decide
    rw [e17, nI_add]
    refine ih (n - (k + 1)) _ _ (by omega) ⟨k + 1, by omega, rfl, rfl, fun c hc => ?_, fun i hi => ?_⟩
    · have hc2 := hc
      simp at hc2
      rw [gU1 (by omega), gU1 (by omega), gU1 (by omega), gU1 (by omega)]
      exact hs c hc
    · have hh : i ≠ k → v1.1 10 i = v.1 13 i ∧ v1.1 11 i = v.1 14 i ∧ v1.1 12 i = v.1 15 i ∧ v1.1 16 i = v.1 17 i := fun hne => hv i (by omega)
      refine ⟨?_, ?_, ?_, ?_⟩
      · rw [gU1 (by omega), gU1 (by omega), gU1 (by omega), gUs]
        by_cases e : i = k
        · rw [if_pos e, e]
        · rw [if_neg e]; exact (hh e).1
      · rw [gU1 (by omega), gU1 (by omega), gUs, gU1 (by omega)]
        by_cases e : i = k
        · rw [if_pos e, e]
        · rw [if_neg e]; exact (hh e).2.1
      · rw [gU1 (by omega), gUs, gU1 (by omega), gU1 (by omega)]
        by_cases e : i = k
        · rw [if_pos e, e]
        · rw [if_neg e]; exact (hh e).2.2.1
      · rw [gUs, gU1 (by omega), gU1 (by omega), gU1 (by omega)]
        by_cases e : i = k
        · rw [if_pos e, e]
        · rw [if_neg e]; exact (hh e).2.2.2
