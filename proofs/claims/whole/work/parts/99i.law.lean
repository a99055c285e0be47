abbrev lC : Type := (Program × Launch × Env × State × MethodId × List Frame × Method × Code) × (Nat × Nat × (Nat → Int32)) × (va_G × (Nat → Nat) × (Nat → ClassId)) × (va_G × (Nat → Nat) × (Nat → ClassId))
def lA (s : State) : Nat → Prop := fun q => s.heap.size ≤ q
/-- what one of the two worlds stands on -/
def lH (S : gS) (cl : List vw_C) (s : State) (x : va_G × (Nat → Nat) × (Nat → ClassId)) : Prop := gK S cl x.1 x.2.2 s ∧ gI S x.2.1 ∧ (∀ k, k < S.length → s.heap.size ≤ x.2.1 k) ∧ gFz x.2.1 (lA s) s s.heap
def lOk (κ : lC) : Prop := match κ with
  | ((p, _, _, s, m, _, meth, c), (b, L, xs), X, Y) => lw_At p s m meth c b L xs ∧ lH S1 cl1 s X ∧ lH S2 cl2 s Y ∧ ∀ i j, i < S1.length → j < S2.length → X.2.1 i ≠ Y.2.1 j
def lb (κ : lC) : Nat := κ.2.1.1
def lL (κ : lC) : Nat := κ.2.1.2.1
def lxs (κ : lC) : Nat → Int32 := κ.2.1.2.2
def lX (κ : lC) : Nat := κ.2.2.1.2.1 0
def lM (κ : lC) : Nat := κ.2.2.2.2.1 0
/-- from here, with these worlds, the law comes to its end with 1 -/
def lJ (κ : lC) (pc : Nat) (i : Int32) (st : List Value) (wx wm : gT) : Prop := match κ with
  | ((p, l, e, s, m, below, meth, c), (b, _, _), X, Y) => ∀ (H : Heap) (locs : List Loc) (ls : Array Slot), va_P X.1 cl1 (gWs S1 X.2.1 X.2.2 wx) H → va_P Y.1 cl2 (gWs S2 Y.2.1 Y.2.2 wm) H → va_S (lA s) s.heap H locs → lv_has ls 4 [(3, .int i), (2, .ref (Y.2.1 0)), (1, .ref (X.2.1 0)), (0, .ref b)] → W p l e room_1 s m #[Value.ref b] below meth c H locs 600000 7302250 (lw_Z below #[Value.ref b] s) (F0 m pc ls st)
section LR
variable {κ : lC} {pc q : Nat} {i : Int32} {st : List Value} {wx wm : gT}
theorem l_b (ok : lOk κ) (hd : decode code pc = .ok (.aload_n 0, 1)) (hq : pc + 1 = q) (K : lJ κ q i (.ref (lb κ) :: st) wx wm) : lJ κ pc i st wx wm := by
  obtain ⟨⟨p, l, e, s, m, below, meth, c⟩, ⟨b, L, xs⟩, X, Y⟩ := κ
  subst hq
  obtain ⟨⟨hx, hb, hrt, hml, hown, hts, hX, hbl, hlk, hgv⟩, -⟩ := ok
  intro H locs ls h1 h2 hS hl
  exact lv_aload_n hx hb hd rfl (lv_at hl 3 rfl) (K H locs ls h1 h2 hS hl)
theorem l_x (ok : lOk κ) (hd : decode code pc = .ok (.aload_n 1, 1)) (hq : pc + 1 = q) (K : lJ κ q i (.ref (lX κ) :: st) wx wm) : lJ κ pc i st wx wm := by
  obtain ⟨⟨p, l, e, s, m, below, meth, c⟩, ⟨b, L, xs⟩, X, Y⟩ := κ
  subst hq
  obtain ⟨⟨hx, hb, hrt, hml, hown, hts, hX, hbl, hlk, hgv⟩, -⟩ := ok
  intro H locs ls h1 h2 hS hl
  exact lv_aload_n hx hb hd rfl (lv_at hl 2 rfl) (K H locs ls h1 h2 hS hl)
theorem l_m (ok : lOk κ) (hd : decode code pc = .ok (.aload_n 2, 1)) (hq : pc + 1 = q) (K : lJ κ q i (.ref (lM κ) :: st) wx wm) : lJ κ pc i st wx wm := by
  obtain ⟨⟨p, l, e, s, m, below, meth, c⟩, ⟨b, L, xs⟩, X, Y⟩ := κ
  subst hq
  obtain ⟨⟨hx, hb, hrt, hml, hown, hts, hX, hbl, hlk, hgv⟩, -⟩ := ok
  intro H locs ls h1 h2 hS hl
  exact lv_aload_n hx hb hd rfl (lv_at hl 1 rfl) (K H locs ls h1 h2 hS hl)
theorem l_i (ok : lOk κ) (hd : decode code pc = .ok (.iload_n 3, 1)) (hq : pc + 1 = q) (K : lJ κ q i (.int i :: st) wx wm) : lJ κ pc i st wx wm := by
  obtain ⟨⟨p, l, e, s, m, below, meth, c⟩, ⟨b, L, xs⟩, X, Y⟩ := κ
  subst hq
  obtain ⟨⟨hx, hb, hrt, hml, hown, hts, hX, hbl, hlk, hgv⟩, -⟩ := ok
  intro H locs ls h1 h2 hS hl
  exact lv_iload_n hx hb hd rfl (lv_at hl 0 rfl) (K H locs ls h1 h2 hS hl)
theorem l_iconst (ok : lOk κ) {n : Int} {v : Int32} (hd : decode code pc = .ok (.iconst n, 1)) (hq : pc + 1 = q) (hv : Int32.ofInt n = v) (K : lJ κ q i (.int v :: st) wx wm) : lJ κ pc i st wx wm := by
  obtain ⟨⟨p, l, e, s, m, below, meth, c⟩, ⟨b, L, xs⟩, X, Y⟩ := κ
  subst hq
  obtain ⟨⟨hx, hb, hrt, hml, hown, hts, hX, hbl, hlk, hgv⟩, -⟩ := ok
  intro H locs ls h1 h2 hS hl
  exact lv_iconst hx hb hd hv (K H locs ls h1 h2 hS hl)
theorem l_bipush (ok : lOk κ) {n : Int} {v : Int32} (hd : decode code pc = .ok (.bipush n, 2)) (hq : pc + 2 = q) (hv : (Int8.ofInt n).toInt32 = v) (K : lJ κ q i (.int v :: st) wx wm) : lJ κ pc i st wx wm := by
  obtain ⟨⟨p, l, e, s, m, below, meth, c⟩, ⟨b, L, xs⟩, X, Y⟩ := κ
  subst hq
  obtain ⟨⟨hx, hb, hrt, hml, hown, hts, hX, hbl, hlk, hgv⟩, -⟩ := ok
  intro H locs ls h1 h2 hS hl
  exact lv_bipush hx hb hd hv (K H locs ls h1 h2 hS hl)
theorem l_iadd (ok : lOk κ) {x y : Int32} (hd : decode code pc = .ok (.iadd, 1)) (hq : pc + 1 = q) (K : lJ κ q i (.int (x + y) :: st) wx wm) : lJ κ pc i (.int y :: .int x :: st) wx wm := by
  obtain ⟨⟨p, l, e, s, m, below, meth, c⟩, ⟨b, L, xs⟩, X, Y⟩ := κ
  subst hq
  obtain ⟨⟨hx, hb, hrt, hml, hown, hts, hX, hbl, hlk, hgv⟩, -⟩ := ok
  intro H locs ls h1 h2 hS hl
  exact lv_iadd hx hb hd (K H locs ls h1 h2 hS hl)
theorem l_isub (ok : lOk κ) {x y : Int32} (hd : decode code pc = .ok (.isub, 1)) (hq : pc + 1 = q) (K : lJ κ q i (.int (x - y) :: st) wx wm) : lJ κ pc i (.int y :: .int x :: st) wx wm := by
  obtain ⟨⟨p, l, e, s, m, below, meth, c⟩, ⟨b, L, xs⟩, X, Y⟩ := κ
  subst hq
  obtain ⟨⟨hx, hb, hrt, hml, hown, hts, hX, hbl, hlk, hgv⟩, -⟩ := ok
  intro H locs ls h1 h2 hS hl
  exact lv_isub hx hb hd (K H locs ls h1 h2 hS hl)
theorem l_iand (ok : lOk κ) {x y : Int32} (hd : decode code pc = .ok (.iand, 1)) (hq : pc + 1 = q) (K : lJ κ q i (.int (x &&& y) :: st) wx wm) : lJ κ pc i (.int y :: .int x :: st) wx wm := by
  obtain ⟨⟨p, l, e, s, m, below, meth, c⟩, ⟨b, L, xs⟩, X, Y⟩ := κ
  subst hq
  obtain ⟨⟨hx, hb, hrt, hml, hown, hts, hX, hbl, hlk, hgv⟩, -⟩ := ok
  intro H locs ls h1 h2 hS hl
  exact lv_iand hx hb hd (K H locs ls h1 h2 hS hl)
theorem l_nb {s : State} {b : Nat} (h : b < s.heap.size) : ¬ lA s b := Nat.not_le.mpr h
theorem l_len (ok : lOk κ) (hd : decode code pc = .ok (.arraylength, 1)) (hq : pc + 1 = q) (K : lJ κ q i (.int (nI (lL κ)) :: st) wx wm) : lJ κ pc i (.ref (lb κ) :: st) wx wm := by
  obtain ⟨⟨p, l, e, s, m, below, meth, c⟩, ⟨b, L, xs⟩, X, Y⟩ := κ
  subst hq
  obtain ⟨⟨hx, hb, hrt, hml, hown, hts, hX, hbl, hlk, hgv⟩, -⟩ := ok
  intro H locs ls h1 h2 hS hl
  exact va_slen hx hb hX hbl (l_nb hbl) hS hd (K H locs ls h1 h2 hS hl)
theorem l_ld (ok : lOk κ) {j : Int32} (hin : vp_in j (lL κ)) (hd : decode code pc = .ok (.iaload, 1)) (hq : pc + 1 = q) (K : lJ κ q i (.int (lxs κ j.toNatClampNeg) :: st) wx wm) : lJ κ pc i (.int j :: .ref (lb κ) :: st) wx wm := by
  obtain ⟨⟨p, l, e, s, m, below, meth, c⟩, ⟨b, L, xs⟩, X, Y⟩ := κ
  subst hq
  obtain ⟨⟨hx, hb, hrt, hml, hown, hts, hX, hbl, hlk, hgv⟩, -⟩ := ok
  intro H locs ls h1 h2 hS hl
  exact va_sld hx hb hX hbl (l_nb hbl) hS hin hd (K H locs ls h1 h2 hS hl)
/-- an argument out of the script -/
def la (κ : lC) (i : Int32) (k : Nat) : Int32 := lxs κ (i + nI k).toNatClampNeg
theorem l_arg (ok : lOk κ) (k : Nat) {n : Int} (h0 : decode code pc = .ok (.aload_n 0, 1)) (h1 : decode code (pc + 1) = .ok (.iload_n 3, 1)) (h2 : decode code (pc + 2) = .ok (.iconst n, 1)) (h3 : decode code (pc + 3) = .ok (.iadd, 1)) (h4 : decode code (pc + 4) = .ok (.iaload, 1)) (hq : pc + 5 = q) (hv : Int32.ofInt n = nI k) (hin : vp_in (i + nI k) (lL κ)) (K : lJ κ q i (.int (la κ i k) :: st) wx wm) : lJ κ pc i st wx wm :=
  l_b ok h0 rfl (l_i ok h1 rfl (l_iconst ok h2 rfl hv (l_iadd ok h3 rfl (l_ld ok hin h4 hq K))))
theorem l_eq (ok : lOk κ) {off : Int} {x : Int32} (hd : decode code pc = .ok (.if_icmp .eq off, 3)) (ht : (pc : Int) + off = (q : Int)) (K : lJ κ q i st wx wm) : lJ κ pc i (.int x :: .int x :: st) wx wm := by
  obtain ⟨⟨p, l, e, s, m, below, meth, c⟩, ⟨b, L, xs⟩, X, Y⟩ := κ
  obtain ⟨⟨hx, hb, hrt, hml, hown, hts, hX, hbl, hlk, hgv⟩, -⟩ := ok
  intro H locs ls h1 h2 hS hl
  exact lv_icmp_eq hx hb hd ht (fun _ => K H locs ls h1 h2 hS hl) (fun h => absurd rfl h)
theorem l_gt (ok : lOk κ) {off : Int} {x y : Int32} (hd : decode code pc = .ok (.if_icmp .gt off, 3)) (ht : (pc : Int) + off = (q : Int)) (kt : y < x → lJ κ q i st wx wm) (kf : ¬ y < x → lJ κ (pc + 3) i st wx wm) : lJ κ pc i (.int y :: .int x :: st) wx wm := by
  obtain ⟨⟨p, l, e, s, m, below, meth, c⟩, ⟨b, L, xs⟩, X, Y⟩ := κ
  obtain ⟨⟨hx, hb, hrt, hml, hown, hts, hX, hbl, hlk, hgv⟩, -⟩ := ok
  intro H locs ls h1 h2 hS hl
  exact lv_icmp_gt hx hb hd ht (fun h => kt h H locs ls h1 h2 hS hl) (fun h => kf h H locs ls h1 h2 hS hl)
theorem l_goto (ok : lOk κ) {off : Int} (hd : decode code pc = .ok (.goto off, 3)) (ht : (pc : Int) + off = (q : Int)) (K : lJ κ q i st wx wm) : lJ κ pc i st wx wm := by
  obtain ⟨⟨p, l, e, s, m, below, meth, c⟩, ⟨b, L, xs⟩, X, Y⟩ := κ
  obtain ⟨⟨hx, hb, hrt, hml, hown, hts, hX, hbl, hlk, hgv⟩, -⟩ := ok
  intro H locs ls h1 h2 hS hl
  exact lv_goto hx hb hd ht (K H locs ls h1 h2 hS hl)
theorem l_six (ok : lOk κ) {i' : Int32} (hd : decode code pc = .ok (.iinc 3 6, 3)) (hq : pc + 3 = q) (hv : i + 6 = i') (K : lJ κ q i' st wx wm) : lJ κ pc i st wx wm := by
  obtain ⟨⟨p, l, e, s, m, below, meth, c⟩, ⟨b, L, xs⟩, X, Y⟩ := κ
  subst hq
  obtain ⟨⟨hx, hb, hrt, hml, hown, hts, hX, hbl, hlk, hgv⟩, -⟩ := ok
  intro H locs ls h1 h2 hS hl
  refine lv_iinc (v := i') (lv' := [(3, .int i'), (2, .ref (Y.2.1 0)), (1, .ref (X.2.1 0)), (0, .ref b)]) hx hb hd hl (k := 0) rfl (by rw [← hv]; rfl) (by decide) rfl (fun ls hl => ?_)
  exact K H locs ls h1 h2 hS hl
theorem l_end (ok : lOk κ) (hd : decode code pc = .ok (.iconst 1, 1)) (hd2 : decode code (pc + 1) = .ok (.ireturn, 1)) : lJ κ pc i [] wx wm := by
  obtain ⟨⟨p, l, e, s, m, below, meth, c⟩, ⟨b, L, xs⟩, X, Y⟩ := κ
  obtain ⟨⟨hx, hb, hrt, hml, hown, hts, hX, hbl, hlk, hgv⟩, -⟩ := ok
  intro H locs ls h1 h2 hS hl
  refine lv_iconst (v := 1) hx hb hd (by decide) ?_
  refine va_forget (fun q hq => hS.2.2 q hq) ?_
  exact lw_ret hx hb hrt hlk hd2
theorem l_map {ad : Nat → Nat} (is : List Int32) : (is.map Value.int).map (gV ad) = is.map Value.int := by
  rw [List.map_map]
  rfl
theorem l_gts {s : State} {b : Nat} (h : ∀ w ∈ lw_tbl, w.before #[Value.ref b] s = true) : ∀ w ∈ gTs, w.before #[Value.ref b] s = true := fun w hw => h w ((List.mem_filter.mp hw).1)
theorem l_sub {S : gS} {cl : List vw_C} {s : State} {x : va_G × (Nat → Nat) × (Nat → ClassId)} {H : Heap} (h : lH S cl s x) (hz : s.heap.size ≤ H.size) : ∀ q, gA S x.2.1 H.size q → lA s q := fun q hq => by
  rcases hq with ⟨k, hk, rfl⟩ | hq
  · exact h.2.2.1 k hk
  · exact Nat.le_trans hz hq
/-- a call on the class -/
theorem l_callX (ok : lOk κ) {index ny n : Nat} {y : MethodName} {cy : ByteArray} {ry : Option FieldType} {rmY : Room} {is : List Int32} {stk : List Value} {r : Int32} {w1 : gT} (hd : decode code pc = .ok (.invokevirtual index, 3)) (hq : pc + 3 = q) (hM : gM S1 cl1 gTs y cy ny ry rmY gi (.ref 0 :: is.map Value.int) wx (some (r, w1))) (hf : gCl gTs R_law index y cy ny ry n) (hr : gRm room_1 rmY ny) (hc : y.cls = RX9) (hn : is.length = n) (hst : stk = (is.map Value.int).reverse ++ .ref (lX κ) :: st) (hcat : (st.map fun v => v.category).sum ≤ 8) (K : lJ κ q i (.int r :: st) w1 wm) : lJ κ pc i stk wx wm := by
  obtain ⟨⟨p, l, e, s, m, below, meth, c⟩, ⟨b, L, xs⟩, ⟨D1, ad1, ac1⟩, ⟨D2, ad2, ac2⟩⟩ := κ
  subst hq
  subst hst
  obtain ⟨⟨hx, hb0, hrt, hml, hown, hts0, -, -, hlk, -⟩, hH1, -, hne⟩ := ok
  have hts := l_gts hts0
  have hsub0 := hH1
  obtain ⟨hK, hI, -, hFz⟩ := hH1
  obtain ⟨hf1, hf2, hf3, hf4, hf5, hf6⟩ := hf
  intro H locs ls hP1 hP2 hS hl
  have hsub := l_sub (H := H) hsub0 hS.1
  have hMet : Met l y (.code y cy ny ry :: gTs) rmY (va_Pc ((.ref 0 :: is.map Value.int).map (gV ad1)) (fun U => U.heap.size = H.size ∧ va_P D1 cl1 (gWs S1 ad1 ac1 wx) U.heap ∧ gK S1 cl1 D1 ac1 U ∧ gI S1 ad1 ∧ gFz ad1 (gA S1 ad1 H.size) U U.heap)) (va_Qi (S := gT) (fun r' u => r' = r ∧ u = w1) (fun u t => va_P D1 cl1 (gWs S1 ad1 ac1 u) t.heap) (gA S1 ad1 H.size)) 0 0 (gA S1 ad1 H.size) := hM (r, w1) rfl l D1 ad1 ac1 H.size
  have hrv := va_recv (q0 := 0) (ws := gWs S1 ad1 ac1 wx) hK.1 hP1 (ci := 9) rfl (gWs_at (S := S1) (k := 0) (ad := ad1) (ac := ac1) (w := wx) rfl)
  rw [show (RX9, TX9, 14).1 = y.cls from hc.symm] at hrv
  refine va_calli (va_runV (As := is.map Value.int) (rest := st) (g := F0 m pc ls ((is.map Value.int).reverse ++ .ref (ad1 0) :: st)) (n := n) (ws := .code y cy ny ry :: gTs) (own := R_law) (index := index) (bytes := cy) (maxL := ny) (ret := ry) ⟨hx, hb0, hml, hown, hts⟩ hMet (cwV (own := R_law) (index := index) (C := y.cls) (y := y) (bytes := cy) (maxL := ny) (ret := ry) (ws := .code y cy ny ry :: gTs) (ws' := gTs) (rm := rmY) n hts (g_goodV tbl_good hf1 hf2 hf3 hf4 hf5) rfl hr.1 hr.2.1 ⟨rfl, hf6⟩ ⟨hr.2.2.1, hr.2.2.2⟩) ⟨g_blind, hrv, fun U hU hW => ⟨by rw [List.map_cons, l_map]; rfl, by rw [hU], by rw [hU]; exact hP1, hK.moved hW.alike, hI, by have hz := hFz.to hS hU hW hsub; rw [hU] at hz ⊢; exact hz⟩⟩ rfl (by simpa using hn) hl.1 rfl (lv_room hcat) hd ⟨Nat.le_refl _, Nat.le_refl _⟩) hS (fun q _ h => hsub q h) hsub (fun r' u t H1 locs1 ht hvm hpost hB hz1 hk1 hS1 => ?_)
  obtain ⟨rfl, rfl⟩ := hpost
  rw [ht] at hB
  refine K H1 locs1 ls hB (hP2.kept (fun k x hx => ?_)) hS1 hl
  have hlt := (hP2 k x hx).lt
  obtain ⟨d, hd2, rfl⟩ := gWs_of hx
  refine hk1 _ hlt (fun hq => ?_)
  rcases hq with ⟨j, hj, e0⟩ | hq
  · exact hne j k hj (g_lt hd2) e0.symm
  · exact absurd hlt (Nat.not_lt.mpr hq)
/-- a call on the model -/
theorem l_callM (ok : lOk κ) {index ny n : Nat} {y : MethodName} {cy : ByteArray} {ry : Option FieldType} {rmY : Room} {is : List Int32} {stk : List Value} {r : Int32} {w1 : gT} (hd : decode code pc = .ok (.invokevirtual index, 3)) (hq : pc + 3 = q) (hM : gM S2 cl2 gTs y cy ny ry rmY gi (.ref 0 :: is.map Value.int) wm (some (r, w1))) (hf : gCl gTs R_law index y cy ny ry n) (hr : gRm room_1 rmY ny) (hc : y.cls = RX10) (hn : is.length = n) (hst : stk = (is.map Value.int).reverse ++ .ref (lM κ) :: st) (hcat : (st.map fun v => v.category).sum ≤ 8) (K : lJ κ q i (.int r :: st) wx w1) : lJ κ pc i stk wx wm := by
  obtain ⟨⟨p, l, e, s, m, below, meth, c⟩, ⟨b, L, xs⟩, ⟨D1, ad1, ac1⟩, ⟨D2, ad2, ac2⟩⟩ := κ
  subst hq
  subst hst
  obtain ⟨⟨hx, hb0, hrt, hml, hown, hts0, -, -, hlk, -⟩, -, hH1, hne⟩ := ok
  have hts := l_gts hts0
  have hsub0 := hH1
  obtain ⟨hK, hI, -, hFz⟩ := hH1
  obtain ⟨hf1, hf2, hf3, hf4, hf5, hf6⟩ := hf
  intro H locs ls hP1 hP2 hS hl
  have hsub := l_sub (H := H) hsub0 hS.1
  have hMet : Met l y (.code y cy ny ry :: gTs) rmY (va_Pc ((.ref 0 :: is.map Value.int).map (gV ad2)) (fun U => U.heap.size = H.size ∧ va_P D2 cl2 (gWs S2 ad2 ac2 wm) U.heap ∧ gK S2 cl2 D2 ac2 U ∧ gI S2 ad2 ∧ gFz ad2 (gA S2 ad2 H.size) U U.heap)) (va_Qi (S := gT) (fun r' u => r' = r ∧ u = w1) (fun u t => va_P D2 cl2 (gWs S2 ad2 ac2 u) t.heap) (gA S2 ad2 H.size)) 0 0 (gA S2 ad2 H.size) := hM (r, w1) rfl l D2 ad2 ac2 H.size
  have hrv := va_recv (q0 := 0) (ws := gWs S2 ad2 ac2 wm) hK.1 hP2 (ci := 0) rfl (gWs_at (S := S2) (k := 0) (ad := ad2) (ac := ac2) (w := wm) rfl)
  rw [show (RX10, TX10, 70).1 = y.cls from hc.symm] at hrv
  refine va_calli (va_runV (As := is.map Value.int) (rest := st) (g := F0 m pc ls ((is.map Value.int).reverse ++ .ref (ad2 0) :: st)) (n := n) (ws := .code y cy ny ry :: gTs) (own := R_law) (index := index) (bytes := cy) (maxL := ny) (ret := ry) ⟨hx, hb0, hml, hown, hts⟩ hMet (cwV (own := R_law) (index := index) (C := y.cls) (y := y) (bytes := cy) (maxL := ny) (ret := ry) (ws := .code y cy ny ry :: gTs) (ws' := gTs) (rm := rmY) n hts (g_goodV tbl_good hf1 hf2 hf3 hf4 hf5) rfl hr.1 hr.2.1 ⟨rfl, hf6⟩ ⟨hr.2.2.1, hr.2.2.2⟩) ⟨g_blind, hrv, fun U hU hW => ⟨by rw [List.map_cons, l_map]; rfl, by rw [hU], by rw [hU]; exact hP2, hK.moved hW.alike, hI, by have hz := hFz.to hS hU hW hsub; rw [hU] at hz ⊢; exact hz⟩⟩ rfl (by simpa using hn) hl.1 rfl (lv_room hcat) hd ⟨Nat.le_refl _, Nat.le_refl _⟩) hS (fun q _ h => hsub q h) hsub (fun r' u t H1 locs1 ht hvm hpost hB hz1 hk1 hS1 => ?_)
  obtain ⟨rfl, rfl⟩ := hpost
  rw [ht] at hB
  refine K H1 locs1 ls (hP1.kept (fun k x hx => ?_)) hB hS1 hl
  have hlt := (hP1 k x hx).lt
  obtain ⟨d, hd2, rfl⟩ := gWs_of hx
  refine hk1 _ hlt (fun hq => ?_)
  rcases hq with ⟨j, hj, e0⟩ | hq
  · exact hne k j (g_lt hd2) hj e0
  · exact absurd hlt (Nat.not_lt.mpr hq)
theorem l_31 (x : Int32) : ∃ n, n < 32 ∧ x &&& 31 = nI n := by
  refine ⟨(x &&& 31).toBitVec.toNat, ?_, ?_⟩
  · rw [Int32.toBitVec_and, BitVec.toNat_and]
    exact Nat.lt_of_le_of_lt Nat.and_le_right (by decide)
  · apply Int32.toBitVec_inj.mp
    apply BitVec.eq_of_toNat_eq
    show _ = (BitVec.ofNat 32 _).toNat
    rw [BitVec.toNat_ofNat, Nat.mod_eq_of_lt (BitVec.isLt _)]
/-- the loop's head -/
theorem l_head (ok : lOk κ) {t : Nat} (hL : lL κ ≤ 3072) (ht : 6 * t ≤ 6000) (K : 6 * t + 6 ≤ lL κ → lJ κ 27 (nI (6 * t)) [] wx wm) : lJ κ 18 (nI (6 * t)) [] wx wm := by
  refine l_i ok dL_law_18 rfl (l_b ok dL_law_19 rfl (l_len ok dL_law_20 rfl (l_bipush (v := 6) ok dL_law_21 rfl (by decide) (l_isub ok dL_law_23 rfl (l_gt (q := 1134) ok dL_law_24 (by decide) (fun _ => l_end ok dL_law_1134 dL_law_1135) (fun h => K ?_))))))
  rcases Nat.lt_or_ge (lL κ) (6 * t + 6) with q | q
  · refine absurd ?_ h
    rcases Nat.lt_or_ge (lL κ) 6 with q6 | q6
    · have h0 : nI (lL κ) - 6 < 0 := by
        generalize lL κ = n at q6 ⊢
        rcases (show n = 0 ∨ n = 1 ∨ n = 2 ∨ n = 3 ∨ n = 4 ∨ n = 5 by omega) with rfl | rfl | rfl | rfl | rfl | rfl <;> decide
      have h1 : 0 ≤ nI (6 * t) := nI_pos' (by omega)
      exact Int32.lt_of_lt_of_le h0 h1
    · have e : nI (lL κ) - 6 = nI (lL κ - 6) := by
        have e2 := nI_add (lL κ - 6) 6
        rw [show lL κ - 6 + 6 = lL κ by omega] at e2
        rw [← e2, show nI 6 = 6 from rfl, Int32.add_sub_cancel]
      rw [e]
      exact nI_lt (by omega) (by omega)
  · exact q
end LR
def lT (n : Nat) : Nat := 33 + [135, 168, 191, 214, 247, 300, 363, 426, 449, 472, 505, 568, 591, 604, 627, 660, 693, 736, 749, 782, 805, 838, 871, 914, 957, 1000, 1023, 1036, 1049, 1072].getD n 1095
theorem l_switch {κ : lC} {i : Int32} {wx wm : gT} (ok : lOk κ) (hin : vp_in i (lL κ)) (K : ∀ n, n < 32 → lJ κ (lT n) i [] wx wm) : lJ κ 27 i [] wx wm := by
  refine l_b ok dL_law_27 rfl (l_i ok dL_law_28 rfl (l_ld ok hin dL_law_29 rfl (l_bipush (v := 31) ok dL_law_30 rfl (by decide) (l_iand ok dL_law_32 rfl ?_))))
  obtain ⟨n, hn, e⟩ := l_31 (lxs κ i.toNatClampNeg)
  rw [e]
  have K := K n hn
  obtain ⟨⟨p, l, e, s, m, below, meth, c⟩, ⟨b, L, xs⟩, X, Y⟩ := κ
  obtain ⟨⟨hx, hb, hrt, hml, hown, hts, hX, hbl, hlk, hgv⟩, -⟩ := ok
  intro H locs ls h1 h2 hS hl
  have K := K H locs ls h1 h2 hS hl
  rcases Nat.lt_or_ge n 30 with h30 | h30
  · have ho : ∃ off : Int, (#[135, 168, 191, 214, 247, 300, 363, 426, 449, 472, 505, 568, 591, 604, 627, 660, 693, 736, 749, 782, 805, 838, 871, 914, 957, 1000, 1023, 1036, 1049, 1072] : Array Int)[((nI n).toInt - 0).toNat]? = some off ∧ ((33 : Nat) : Int) + off = (lT n : Int) := by
      rw [nI_toInt (by omega)]
      rcases (show n = 0 ∨ n = 1 ∨ n = 2 ∨ n = 3 ∨ n = 4 ∨ n = 5 ∨ n = 6 ∨ n = 7 ∨ n = 8 ∨ n = 9 ∨ n = 10 ∨ n = 11 ∨ n = 12 ∨ n = 13 ∨ n = 14 ∨ n = 15 ∨ n = 16 ∨ n = 17 ∨ n = 18 ∨ n = 19 ∨ n = 20 ∨ n = 21 ∨ n = 22 ∨ n = 23 ∨ n = 24 ∨ n = 25 ∨ n = 26 ∨ n = 27 ∨ n = 28 ∨ n = 29 by omega) with rfl | rfl | rfl | rfl | rfl | rfl | rfl | rfl | rfl | rfl | rfl | rfl | rfl | rfl | rfl | rfl | rfl | rfl | rfl | rfl | rfl | rfl | rfl | rfl | rfl | rfl | rfl | rfl | rfl | rfl <;> exact ⟨_, rfl, by decide⟩
    obtain ⟨off, ho1, ho2⟩ := ho
    exact lv_tableIn hx hb dL_law_33 (by rw [nI_toInt (by omega)]; omega) (by rw [nI_toInt (by omega)]; omega) ho1 ho2 K
  · exact lv_tableOut (tgt := lT n) hx hb dL_law_33 (Or.inr (by rw [nI_toInt (by omega)]; omega)) (by rcases (show n = 30 ∨ n = 31 by omega) with rfl | rfl <;> rfl) K
