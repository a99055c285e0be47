set_option maxRecDepth 100000 in
theorem lq_100 : Cond.classLink R_law 7 RX9 ∈ gTs := g_word (i := 100) (by decide +kernel) rfl
set_option maxRecDepth 100000 in
theorem lq_101 : Cond.instantiable RX9 14 ∈ gTs := g_word (i := 101) (by decide +kernel) rfl
set_option maxRecDepth 100000 in
theorem lq_102 : Cond.methodLink R_law 9 yX9_init ∈ gTs := g_word (i := 102) (by decide +kernel) rfl
set_option maxRecDepth 100000 in
theorem lq_103 : Cond.instanceMethod yX9_init ∈ gTs := g_word (i := 103) (by decide +kernel) rfl
set_option maxRecDepth 100000 in
theorem lq_104 : Cond.code yX9_init cX9_init 1 none ∈ gTs := g_word (i := 104) (by rfl) rfl
set_option maxRecDepth 100000 in
theorem lq_109 : Cond.instantiable RX2 14 ∈ gTs := g_word (i := 109) (by decide +kernel) rfl
set_option maxRecDepth 100000 in
theorem lq_183 : Cond.instantiable RX6 5 ∈ gTs := g_word (i := 183) (by decide +kernel) rfl
set_option maxRecDepth 100000 in
theorem lq_211 : Cond.instantiable RX7 6 ∈ gTs := g_word (i := 211) (by decide +kernel) rfl
set_option maxRecDepth 100000 in
theorem lq_246 : Cond.instantiable RX3 8 ∈ gTs := g_word (i := 246) (by decide +kernel) rfl
set_option maxRecDepth 100000 in
theorem lq_280 : Cond.instantiable RX4 2 ∈ gTs := g_word (i := 280) (by decide +kernel) rfl
set_option maxRecDepth 100000 in
theorem lq_293 : Cond.instantiable RX1 3 ∈ gTs := g_word (i := 293) (by decide +kernel) rfl
set_option maxRecDepth 100000 in
theorem lq_309 : Cond.instantiable RX8 6 ∈ gTs := g_word (i := 309) (by decide +kernel) rfl
set_option maxRecDepth 100000 in
theorem lq_336 : Cond.instantiable RX0 7 ∈ gTs := g_word (i := 336) (by decide +kernel) rfl
set_option maxRecDepth 100000 in
theorem lq_365 : Cond.instantiable RX5 3 ∈ gTs := g_word (i := 365) (by decide +kernel) rfl
set_option maxRecDepth 100000 in
theorem lq_1030 : Cond.classLink R_law 10 RX10 ∈ gTs := g_word (i := 1030) (by decide +kernel) rfl
set_option maxRecDepth 100000 in
theorem lq_1031 : Cond.instantiable RX10 70 ∈ gTs := g_word (i := 1031) (by decide +kernel) rfl
set_option maxRecDepth 100000 in
theorem lq_1032 : Cond.methodLink R_law 12 yX10_init ∈ gTs := g_word (i := 1032) (by decide +kernel) rfl
set_option maxRecDepth 100000 in
theorem lq_1033 : Cond.instanceMethod yX10_init ∈ gTs := g_word (i := 1033) (by decide +kernel) rfl
set_option maxRecDepth 100000 in
theorem lq_1034 : Cond.code yX10_init cX10_init 1 none ∈ gTs := g_word (i := 1034) (by rfl) rfl
theorem gI_of {S : gS} {ad : Nat → Nat} {ac : Nat → ClassId} {w : gT} {A : Nat → Prop} (h : va_D A (gWs S ad ac w)) : gI S ad := fun i j hi hj e =>
  h.1 i j _ _ (gWs_at (List.getElem?_eq_getElem hi)) (gWs_at (List.getElem?_eq_getElem hj)) e
theorem gA_of {S : gS} {ad : Nat → Nat} {ac : Nat → ClassId} {w : gT} {A : Nat → Prop} (h : va_D A (gWs S ad ac w)) : ∀ k, k < S.length → A (ad k) := fun k hk => h.2 k _ (gWs_at (List.getElem?_eq_getElem hk))
theorem gB_of {S : gS} {ad : Nat → Nat} {ac : Nat → ClassId} {w : gT} {D : va_G} {cl : List vw_C} {H : Heap} (h : va_P D cl (gWs S ad ac w) H) : ∀ k, k < S.length → ad k < H.size := fun k hk => (h k _ (gWs_at (List.getElem?_eq_getElem hk))).lt
def adS (f : Nat → Nat) (a b : Nat) : Nat → Nat := fun k => if k = 100 then a else if k = 101 then b else f k
set_option maxRecDepth 100000 in
theorem adS_1 {f : Nat → Nat} {a b : Nat} {ac : Nat → ClassId} : gWs S1 (adS f a b) ac wx0 = gWs S1 f ac wx0 := by
  rw [ws_S1, ws_S1]
  rfl
set_option maxRecDepth 100000 in
theorem adS_2 {f : Nat → Nat} {a b : Nat} {ac : Nat → ClassId} : gWs S2 (adS f a b) ac wm0 = gWs S2 f ac wm0 := by
  rw [ws_S2, ws_S2]
  rfl
set_option maxRecDepth 100000 in
theorem l_str {s : State} {b : Nat} (hgv : (Jvm.Cond.and given_1 narrow_1).before #[Value.ref b] s = true) (hts : ∀ w ∈ lw_tbl, w.before #[Value.ref b] s = true) : ∃ a v : Nat, ∀ f, gFz (adS f a v) (lA s) s s.heap := by
  have hs := flat_of_before _ hgv
  have hA : ∀ a : Nat, a < s.heap.size → ¬ lA s a := fun a h => Nat.not_le.mpr h
  obtain ⟨adK, adV, h1, h2⟩ := vk_Sof (args := #[Value.ref b]) (s := s) (N := 1) (tm := fun _ => .string "GhostRota$LawReader" 110) (len := [12]) (byt := [[114, 110, 116, 103, 109, 99, 121, 104, 112, 118, 111, 108]]) (A := lA s)
    (fun i hi => by obtain rfl : i = 0 := by omega
                    decide)
    (fun i hi => by obtain rfl : i = 0 := by omega
                    exact hs _ (by decide +kernel))
    (fun i hi => by obtain rfl : i = 0 := by omega
                    exact hs _ (by decide +kernel))
    (fun i hi => by obtain rfl : i = 0 := by omega
                    exact hs _ (by decide +kernel))
    (fun i hi => by obtain rfl : i = 0 := by omega
                    exact hs _ (by decide +kernel))
    (fun i hi j hj => by
      obtain rfl : i = 0 := by omega
      have hj : j < 12 := hj
      rcases (show j = 0 ∨ j = 1 ∨ j = 2 ∨ j = 3 ∨ j = 4 ∨ j = 5 ∨ j = 6 ∨ j = 7 ∨ j = 8 ∨ j = 9 ∨ j = 10 ∨ j = 11 by omega) with rfl | rfl | rfl | rfl | rfl | rfl | rfl | rfl | rfl | rfl | rfl | rfl <;> exact hs _ (by decide +kernel))
    (fun i j hi hj hij => absurd (show i = j by omega) hij) hA
  refine ⟨adK 0, adV 0, fun f => ⟨⟨fun i hi => ?_, fun i j hi hj _ => by omega⟩, ?_, ?_⟩⟩
  · obtain rfl : i = 0 := by omega
    exact h1.1 0 hi
  · exact vk_R.of (hts _ (List.mem_of_getElem? (i := 589) (by decide +kernel))) (h2 0 (by decide))
  · exact va_Zof (hts _ (List.mem_of_getElem? (i := 603) (by decide +kernel))) (hts _ (List.mem_of_getElem? (i := 92) (by decide +kernel))) (va_eqi (hs _ (by decide +kernel))) hA
theorem l_D1 {s : State} {b : Nat} (hts : ∀ w ∈ gTs, w.before #[Value.ref b] s = true) : ∃ D : va_G, va_K D cl1 [] s := by
  obtain ⟨c0, i0, h0⟩ := u_known (C := RX0) (T := TX0) (N := 7) (n := 7) hts inw_X0 (hts _ lq_336)
  obtain ⟨c1, i1, h1⟩ := u_known (C := RX1) (T := TX1) (N := 3) (n := 3) hts inw_X1 (hts _ lq_293)
  obtain ⟨c2, i2, h2⟩ := u_known (C := RX2) (T := TX2) (N := 14) (n := 14) hts inw_X2 (hts _ lq_109)
  obtain ⟨c3, i3, h3⟩ := u_known (C := RX3) (T := TX3) (N := 8) (n := 8) hts inw_X3 (hts _ lq_246)
  obtain ⟨c4, i4, h4⟩ := u_known (C := RX4) (T := TX4) (N := 2) (n := 2) hts inw_X4 (hts _ lq_280)
  obtain ⟨c5, i5, h5⟩ := u_known (C := RX5) (T := TX5) (N := 3) (n := 3) hts inw_X5 (hts _ lq_365)
  obtain ⟨c6, i6, h6⟩ := u_known (C := RX6) (T := TX6) (N := 5) (n := 5) hts inw_X6 (hts _ lq_183)
  obtain ⟨c7, i7, h7⟩ := u_known (C := RX7) (T := TX7) (N := 6) (n := 6) hts inw_X7 (hts _ lq_211)
  obtain ⟨c8, i8, h8⟩ := u_known (C := RX8) (T := TX8) (N := 6) (n := 6) hts inw_X8 (hts _ lq_309)
  obtain ⟨c9, i9, h9⟩ := u_known (C := RX9) (T := TX9) (N := 14) (n := 14) hts inw_X9 (hts _ lq_101)
  refine ⟨(fun k => [c0, c1, c2, c3, c4, c5, c6, c7, c8, c9].getD k 0, fun k => [i0, i1, i2, i3, i4, i5, i6, i7, i8, i9].getD k (fun _ => 0)), fun k q hq => ?_, fun k q h => by simp at h⟩
  match k, hq with
  | 0, hq => cases hq; exact h0
  | 1, hq => cases hq; exact h1
  | 2, hq => cases hq; exact h2
  | 3, hq => cases hq; exact h3
  | 4, hq => cases hq; exact h4
  | 5, hq => cases hq; exact h5
  | 6, hq => cases hq; exact h6
  | 7, hq => cases hq; exact h7
  | 8, hq => cases hq; exact h8
  | 9, hq => cases hq; exact h9
  | k + 10, hq => simp at hq
theorem l_D2 {s : State} {b : Nat} (hts : ∀ w ∈ gTs, w.before #[Value.ref b] s = true) : ∃ D : va_G, va_K D cl2 [] s := by
  obtain ⟨c0, i0, h0⟩ := u_known (C := RX10) (T := TX10) (N := 70) (n := 70) hts inw_X10 (hts _ lq_1031)
  refine ⟨(fun _ => c0, fun _ => i0), fun k q hq => ?_, fun k q h => by simp at h⟩
  match k, hq with
  | 0, hq => cases hq; exact h0
  | k + 1, hq => simp at hq
set_option maxHeartbeats 4000000 in
set_option maxRecDepth 100000 in
/-- the law, from its entry -/
theorem whole_start {p : Program} {e : Env} {s : State} {m : MethodId} {below : List Frame} {meth : Method} {c : Code} (l : Launch) (hflags : l.flags = flags0) {b L : Nat} {xs : Nat → Int32} (hL : L ≤ 3072) (C0 : lw_At p s m meth c b L xs) : W p l e room_1 s m #[Value.ref b] below meth c s.heap [] 0 0 (lw_Z below #[Value.ref b] s) (entryFrame m ([Value.ref b] : List Value).toArray 4) := by
  obtain ⟨hx, hb, hr, hml, hown, hts0, hX, hbl, hlocks, hgv⟩ := id C0
  have hts := l_gts hts0
  obtain ⟨D1, hK1⟩ := l_D1 hts
  obtain ⟨D2, hK2⟩ := l_D2 hts
  obtain ⟨as, av, hFz⟩ := l_str hgv hts0
  have hn1 : va_Nw (.methodLinkNest RX9 11 yX2_init RX9) s := va_Nw.of rfl (hts0 _ (List.mem_of_getElem? (i := 110) (by decide +kernel)))
  have hn2 : va_Nw (.methodLinkNest RX9 21 yX6_init RX9) s := va_Nw.of rfl (hts0 _ (List.mem_of_getElem? (i := 184) (by decide +kernel)))
  have hn3 : va_Nw (.methodLinkNest RX9 28 yX7_init RX9) s := va_Nw.of rfl (hts0 _ (List.mem_of_getElem? (i := 212) (by decide +kernel)))
  have hn4 : va_Nw (.methodLinkNest RX9 38 yX3_init RX9) s := va_Nw.of rfl (hts0 _ (List.mem_of_getElem? (i := 247) (by decide +kernel)))
  have hn5 : va_Nw (.methodLinkNest RX9 84 yX5_init RX9) s := va_Nw.of rfl (hts0 _ (List.mem_of_getElem? (i := 366) (by decide +kernel)))
  have hl := lv_entry ([.ref b]) (n := 4) (Nat.le_of_ble_eq_true rfl)
  rw [lg_entry_eq]
  generalize (lg_sl ([.ref b]) ++ List.replicate (4 - (lg_sl ([.ref b])).length) Slot.unset).toArray = ls at hl ⊢
  have hl : lv_has ls 4 [(0, .ref b)] := hl
  have hS : va_S (lA s) s.heap s.heap [] := va_S.rf
  have hA : ∀ q : Nat, s.heap.size ≤ q → lA s q := fun _ h => h
  have hP0 : va_P D1 cl1 [] s.heap := fun k q h => by simp at h
  have hD0 : va_D (lA s) [] := ⟨fun i j p q h => by simp at h, fun k q h => by simp at h⟩
  refine va_new (ci := 9) (fs := [.null, .null, .int 0, .null, .null, .null, .null, .null, .null, .null, .null, .null, .null, .null]) (C := RX9) (T := TX9) (N := 14) hx hb hts inw_X9 tyX9 tyX9_ok hown (hts _ lq_100) (hts _ lq_101) (hts _ lq_80) hK1 hP0 hD0 hS hA rfl (by decide +kernel) (Nat.le_of_ble_eq_true rfl) (Nat.le_of_ble_eq_true rfl) dL_law_0 (fun q0 H hP hD hS => ?_)
  have hP : va_P D1 cl1 (cz_X9 q0) H := hP
  have hD : va_D (lA s) (cz_X9 q0) := hD
  refine W.widen (k := 1) (n := 14) (Nat.le_of_ble_eq_true rfl) (Nat.le_of_ble_eq_true rfl) ?_
  refine lv_dup hx hb dL_law_3 rfl ?_
  have hFc := va_free (wc := cz_X9 q0) hD hS hA [0] rfl
  refine va_callv (va_runI (As := []) (rest := [.ref q0]) ⟨hx, hb, hml, hown, hts⟩ (ci_X9 l D1 q0 H.size) (cwI 0 hts (g_good tbl_good (fun z hz => (List.mem_cons.mp hz).elim (fun e => e ▸ lq_104) id)) rfl rfl rfl (hts _ lq_80) (hts _ lq_102) (hts _ lq_103) rfl ⟨by decide +kernel, by decide +kernel, by decide +kernel⟩ ⟨Nat.le_of_ble_eq_true rfl, Nat.le_of_ble_eq_true rfl⟩) ⟨fun a U g mk q => by obtain ⟨q0, q1, qP, qK, qD, n1, n2, n3, n4, n5⟩ := q; exact ⟨q0, q1, qP, va_K.moved (u := U) (U := U.calling g mk a) (Vm.Alike.refl U.vm) qK, qD, va_Nw.same rfl rfl n1, va_Nw.same rfl rfl n2, va_Nw.same rfl rfl n3, va_Nw.same rfl rfl n4, va_Nw.same rfl rfl n5⟩, fun U hU hW => ⟨rfl, by rw [hU], by rw [hU]; exact hP, va_K.moved hW.alike hK1, hD.weaken (fun _ _ _ _ => trivial), va_Nw.warmM hW hn1, va_Nw.warmM hW hn2, va_Nw.warmM hW hn3, va_Nw.warmM hW hn4, va_Nw.warmM hW hn5⟩⟩ rfl rfl hl.1 rfl (lv_room (Nat.le_of_ble_eq_true rfl)) dL_law_4 ⟨Nat.le_of_ble_eq_true rfl, Nat.le_of_ble_eq_true rfl⟩) hS (fun q _ h => hFc q h) hFc (fun u t H1 locs ht hvm _ hB hz1 hk1 hS => ?_)
  obtain ⟨f1, ac1⟩ := u
  obtain ⟨hP1, hG1, hD1, he1⟩ := hB
  rw [ht] at hP1
  have hG1 := gK.moved hvm.symm hG1
  have hP1 : va_P D1 cl1 (gWs S1 (adS f1 as av) ac1 wx0) H1 := by rw [adS_1]; exact hP1
  have hD1 : va_D (lA s) (gWs S1 (adS f1 as av) ac1 wx0) := by rw [adS_1]; exact hD1.weaken (fun k q hk h => hFc q.1 h)
  have he1 : adS f1 as av 0 = q0 := he1
  have hG1 : gK S1 cl1 D1 ac1 s := hG1
  refine W.widen (k := 60) (n := 9155) (Nat.le_of_ble_eq_true rfl) (Nat.le_of_ble_eq_true rfl) ?_
  refine va_forget (fun q hq => hS.2.2 q hq) ?_
  have hz0 : s.heap.size ≤ H1.size := hS.1
  have hk0 : ∀ q, q < s.heap.size → H1[q]? = s.heap[q]? := fun q hq => hS.2.1 q hq (l_nb hq)
  refine lv_astore_n (lv' := [(1, .ref q0), (0, .ref b)]) hx hb dL_law_7 rfl hl (by decide) rfl (fun ls hl => ?_)
  clear hS hD hP hFc hk1 hz1
  generalize hA2e : (fun q : Nat => H1.size ≤ q) = A2
  have hA2 : ∀ q : Nat, H1.size ≤ q → A2 q := fun q h => by rw [← hA2e]; exact h
  have hA3 : ∀ q : Nat, A2 q → H1.size ≤ q := fun q h => by rw [← hA2e] at h; exact h
  have hS : va_S A2 H1 H1 [] := va_S.rf
  have hP0 : va_P D2 cl2 [] H1 := fun k q h => by simp at h
  have hD0 : va_D A2 [] := ⟨fun i j p q h => by simp at h, fun k q h => by simp at h⟩
  refine va_new (ci := 0) (fs := [.int 0, .int 0, .int 0, .int 0, .int 0, .null, .null, .null, .null, .null, .null, .null, .null, .null, .int 0, .int 0, .int 0, .int 0, .int 0, .int 0, .int 0, .null, .null, .null, .null, .null, .null, .null, .null, .int 0, .int 0, .int 0, .int 0, .int 0, .null, .null, .null, .null, .null, .null, .null, .null, .null, .null, .null, .null, .null, .null, .null, .null, .null, .null, .null, .null, .null, .null, .int 0, .int 0, .int 0, .int 0, .int 0, .int 0, .null, .null, .null, .null, .null, .null, .null, .null]) (C := RX10) (T := TX10) (N := 70) hx hb hts inw_X10 tyX10 tyX10_ok hown (hts _ lq_1030) (hts _ lq_1031) (hts _ lq_90) hK2 hP0 hD0 hS hA2 rfl (by decide +kernel) (Nat.le_of_ble_eq_true rfl) (Nat.le_of_ble_eq_true rfl) dL_law_8 (fun q1 H hP hD hS => ?_)
  have hP : va_P D2 cl2 (cz_X10 q1) H := hP
  have hD : va_D A2 (cz_X10 q1) := hD
  refine W.widen (k := 61) (n := 9225) (Nat.le_of_ble_eq_true rfl) (Nat.le_of_ble_eq_true rfl) ?_
  refine lv_dup hx hb dL_law_11 rfl ?_
  have hFc := va_free (wc := cz_X10 q1) hD hS hA2 [0] rfl
  refine va_callv (va_runI (As := []) (rest := [.ref q1]) ⟨hx, hb, hml, hown, hts⟩ (ci_X10 l D2 q1 H.size) (cwI 0 hts (g_good tbl_good (fun z hz => (List.mem_cons.mp hz).elim (fun e => e ▸ lq_1034) id)) rfl rfl rfl (hts _ lq_90) (hts _ lq_1032) (hts _ lq_1033) rfl ⟨by decide +kernel, by decide +kernel, by decide +kernel⟩ ⟨Nat.le_of_ble_eq_true rfl, Nat.le_of_ble_eq_true rfl⟩) ⟨fun a U g mk q => by obtain ⟨q0, q1, qP, qK, qD⟩ := q; exact ⟨q0, q1, qP, va_K.moved (u := U) (U := U.calling g mk a) (Vm.Alike.refl U.vm) qK, qD⟩, fun U hU hW => ⟨rfl, by rw [hU], by rw [hU]; exact hP, va_K.moved hW.alike hK2, hD.weaken (fun _ _ _ _ => trivial)⟩⟩ rfl rfl hl.1 rfl (lv_room (Nat.le_of_ble_eq_true rfl)) dL_law_12 ⟨Nat.le_of_ble_eq_true rfl, Nat.le_of_ble_eq_true rfl⟩) hS (fun q _ h => hFc q h) hFc (fun u t H3 locs ht hvm _ hB hz1 hk1 hS => ?_)
  obtain ⟨f2, ac2⟩ := u
  obtain ⟨hP2, hG2, hD2, he2⟩ := hB
  rw [ht] at hP2
  have hG2 := gK.moved hvm.symm hG2
  have hP2 : va_P D2 cl2 (gWs S2 (adS f2 as av) ac2 wm0) H3 := by rw [adS_2]; exact hP2
  have hD2 : va_D A2 (gWs S2 (adS f2 as av) ac2 wm0) := by rw [adS_2]; exact hD2.weaken (fun k q hk h => hFc q.1 h)
  have he2 : adS f2 as av 0 = q1 := he2
  have hG2 : gK S2 cl2 D2 ac2 s := hG2
  refine W.widen (k := 600000) (n := 7302250) (Nat.le_of_ble_eq_true rfl) (Nat.le_of_ble_eq_true rfl) ?_
  refine lv_astore_n (lv' := [(2, .ref q1), (1, .ref q0), (0, .ref b)]) hx hb dL_law_15 rfl hl (by decide) rfl (fun ls hl => ?_)
  refine lv_iconst (v := nI (6 * 0)) hx hb dL_law_16 (by decide) ?_
  refine lv_istore_n (lv' := [(3, .int (nI (6 * 0))), (2, .ref q1), (1, .ref q0), (0, .ref b)]) hx hb dL_law_17 rfl hl (by decide) rfl (fun ls hl => ?_)
  have hl : lv_has ls 4 [(3, .int (nI (6 * 0))), (2, .ref (adS f2 as av 0)), (1, .ref (adS f1 as av 0)), (0, .ref b)] := by
    rw [he1, he2]
    exact hl
  have hne : ∀ i j, i < S1.length → j < S2.length → adS f1 as av i ≠ adS f2 as av j := fun i j hi hj e => by
    have h1 := gB_of hP1 i hi
    have h2 := hA3 _ (gA_of hD2 j hj)
    rw [e] at h1
    exact absurd h1 (Nat.not_lt.mpr h2)
  have ok : lOk ((p, l, e, s, m, below, meth, c), (b, L, xs), (D1, adS f1 as av, ac1), (D2, adS f2 as av, ac2)) := ⟨C0, ⟨hG1, gI_of hD1, gA_of hD1, hFz f1⟩, ⟨hG2, gI_of hD2, fun k hk => Nat.le_trans hz0 (hA3 _ (gA_of hD2 k hk)), hFz f2⟩, hne⟩
  have hPX : va_P D1 cl1 (gWs S1 (adS f1 as av) ac1 wx0) H3 := hP1.kept (fun k x hx => by
    have hlt := (hP1 k x hx).lt
    exact hS.2.1 x.1 hlt (fun h => absurd hlt (Nat.not_lt.mpr (hA3 _ h))))
  have hS9 : va_S (lA s) s.heap H3 locs := ⟨Nat.le_trans hz0 hS.1, fun q h1 h2 => (hS.2.1 q (Nat.lt_of_lt_of_le h1 hz0) (fun h => absurd (Nat.lt_of_lt_of_le h1 hz0) (Nat.not_lt.mpr (hA3 _ h)))).trans (hk0 q h1), fun l hl => Nat.le_trans hz0 (hA3 _ (hS.2.2 l hl))⟩
  exact law_loop ok (N := 5000) (Nat.le_refl _) hL (L + 1) 0 wx0 wm0 (by decide) (show L + 6 ≤ 6 * (0 + (L + 1)) by omega) (rel_start 5000) mk_start H3 locs ls hPX hP2 hS9 hl
