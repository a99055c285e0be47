section GSTR2
variable {α : Type} {S : gS} {cl : List vw_C} {Ts : List Cond} {own : String} {cc : ByteArray} {nL : Nat} {ret : Option FieldType} {rm : Room} {fin : α → Option Int32 × gT} {κ : gC} {pc : Nat} {L : List (Nat × Value)} {st : List Value} {w : gT} {t : Option α}
theorem z_iltn (ok : gOk S cl Ts own cc nL ret κ) {x y : Int32} {off : Int} {q g : Nat} (hd : decode cc pc = .ok (.if_icmp .lt off, 3)) (hq : pc + 3 = q) (hg : (pc : Int) + off = (g : Int)) (hx : ¬ x < y) (k : gJ S cl rm nL fin κ q L st w t) : gJ S cl rm nL fin κ pc L (.int y :: .int x :: st) w t := by
  have h := g_icmp_lt (x := x) (y := y) (t1 := none) ok hd hq hg gJ_none k
  rwa [if_neg hx] at h
theorem z_igtt (ok : gOk S cl Ts own cc nL ret κ) {x y : Int32} {off : Int} {q g : Nat} (hd : decode cc pc = .ok (.if_icmp .gt off, 3)) (hq : pc + 3 = q) (hg : (pc : Int) + off = (g : Int)) (hx : y < x) (k : gJ S cl rm nL fin κ g L st w t) : gJ S cl rm nL fin κ pc L (.int y :: .int x :: st) w t := by
  have h := g_icmp_gt (x := x) (y := y) (t2 := none) ok hd hq hg k gJ_none
  rwa [if_pos hx] at h
theorem z_ltt (ok : gOk S cl Ts own cc nL ret κ) {x : Int32} {off : Int} {q g : Nat} (hd : decode cc pc = .ok (.ifCond .lt off, 3)) (hq : pc + 3 = q) (hg : (pc : Int) + off = (g : Int)) (hx : x < nI 0) (k : gJ S cl rm nL fin κ g L st w t) : gJ S cl rm nL fin κ pc L (.int x :: st) w t := by
  have h := g_if_lt (x := x) (t2 := none) ok hd hq hg k gJ_none
  rwa [if_pos hx] at h
theorem z_inen (ok : gOk S cl Ts own cc nL ret κ) {x y : Int32} {off : Int} {q g : Nat} (hd : decode cc pc = .ok (.if_icmp .ne off, 3)) (hq : pc + 3 = q) (hg : (pc : Int) + off = (g : Int)) (hx : x = y) (k : gJ S cl rm nL fin κ q L st w t) : gJ S cl rm nL fin κ pc L (.int y :: .int x :: st) w t := by
  have h := g_icmp_ne (x := x) (y := y) (t2 := none) ok hd hq hg gJ_none k
  rwa [if_pos hx] at h
theorem z_inet (ok : gOk S cl Ts own cc nL ret κ) {x y : Int32} {off : Int} {q g : Nat} (hd : decode cc pc = .ok (.if_icmp .ne off, 3)) (hq : pc + 3 = q) (hg : (pc : Int) + off = (g : Int)) (hx : x ≠ y) (k : gJ S cl rm nL fin κ g L st w t) : gJ S cl rm nL fin κ pc L (.int y :: .int x :: st) w t := by
  have h := g_icmp_ne (x := x) (y := y) (t1 := none) ok hd hq hg k gJ_none
  rwa [if_neg hx] at h
end GSTR2
theorem z_bret {S : gS} {cl : List vw_C} {Ts : List Cond} {own : String} {cc : ByteArray} {nL : Nat} {rm : Room} {κ : gC} {pc : Nat} {L : List (Nat × Value)} {w : gT} (ok : gOk S cl Ts own cc nL (some .byte) κ) {x : Int32} (hd : decode cc pc = .ok (.ireturn, 1)) (hx : narrow .byte (.int x) = .int x) : gJ S cl rm nL gi κ pc L [.int x] w (some (x, w)) := by
  obtain ⟨p, l, e, s, m, args, below, meth, c, D, ad, ac⟩ := κ
  intro a ha H locs ls hP hS hl
  cases ha
  exact W.zret (v := x) ok.1 ok.2.1 ok.2.2.2.1 hx (fun t ht _ => ⟨⟨x, w, rfl, ⟨rfl, rfl⟩, (show va_P D cl (gWs S ad ac w) t.heap by rw [ht]; exact hP)⟩, hS.F ht⟩) hS.2.2 hd (hlocks := ok.2.2.2.2.1)
set_option maxRecDepth 100000 in
theorem sw_92 : Cond.initialized RJ0 ∈ gTs := g_word (i := 92) (by decide +kernel) rfl
set_option maxRecDepth 100000 in
theorem sw_93 : Cond.initialized RJ1 ∈ gTs := g_word (i := 93) (by decide +kernel) rfl
set_option maxRecDepth 100000 in
theorem sw_590 : Cond.methodLink RX4 112 yJ0_indexOf_0f7a4 ∈ gTs := g_word (i := 590) (by decide +kernel) rfl
set_option maxRecDepth 100000 in
theorem sw_591 : Cond.instanceMethod yJ0_indexOf_0f7a4 ∈ gTs := g_word (i := 591) (by decide +kernel) rfl
set_option maxRecDepth 100000 in
theorem sw_592 : Cond.selects RJ0 yJ0_indexOf_0f7a4 yJ0_indexOf_0f7a4 ∈ gTs := g_word (i := 592) (by decide +kernel) rfl
set_option maxRecDepth 100000 in
theorem sw_593 : Cond.code yJ0_indexOf_0f7a4 cJ0_indexOf_0f7a4 2 (some .int) ∈ gTs := g_word (i := 593) (by rfl) rfl
set_option maxRecDepth 100000 in
theorem sw_594 : Cond.methodLink RJ0 633 yJ0_indexOf_7cf53 ∈ gTs := g_word (i := 594) (by decide +kernel) rfl
set_option maxRecDepth 100000 in
theorem sw_595 : Cond.instanceMethod yJ0_indexOf_7cf53 ∈ gTs := g_word (i := 595) (by decide +kernel) rfl
set_option maxRecDepth 100000 in
theorem sw_596 : Cond.selects RJ0 yJ0_indexOf_7cf53 yJ0_indexOf_7cf53 ∈ gTs := g_word (i := 596) (by decide +kernel) rfl
set_option maxRecDepth 100000 in
theorem sw_597 : Cond.code yJ0_indexOf_7cf53 cJ0_indexOf_7cf53 3 (some .int) ∈ gTs := g_word (i := 597) (by rfl) rfl
set_option maxRecDepth 100000 in
theorem sw_598 : Cond.methodLink RJ0 492 yJ0_isLatin1_aae02 ∈ gTs := g_word (i := 598) (by decide +kernel) rfl
set_option maxRecDepth 100000 in
theorem sw_599 : Cond.instanceMethod yJ0_isLatin1_aae02 ∈ gTs := g_word (i := 599) (by decide +kernel) rfl
set_option maxRecDepth 100000 in
theorem sw_600 : Cond.selects RJ0 yJ0_isLatin1_aae02 yJ0_isLatin1_aae02 ∈ gTs := g_word (i := 600) (by decide +kernel) rfl
set_option maxRecDepth 100000 in
theorem sw_601 : Cond.code yJ0_isLatin1_aae02 cJ0_isLatin1_aae02 1 (some .boolean) ∈ gTs := g_word (i := 601) (by rfl) rfl
set_option maxRecDepth 100000 in
theorem sw_602 : Cond.fieldLink RJ0 38 "java/lang/String" "COMPACT_STRINGS" "Z" ∈ gTs := g_word (i := 602) (by decide +kernel) rfl
set_option maxRecDepth 100000 in
theorem sw_604 : Cond.methodLink RJ0 505 yJ0_length_8abf5 ∈ gTs := g_word (i := 604) (by decide +kernel) rfl
set_option maxRecDepth 100000 in
theorem sw_605 : Cond.instanceMethod yJ0_length_8abf5 ∈ gTs := g_word (i := 605) (by decide +kernel) rfl
set_option maxRecDepth 100000 in
theorem sw_606 : Cond.selects RJ0 yJ0_length_8abf5 yJ0_length_8abf5 ∈ gTs := g_word (i := 606) (by decide +kernel) rfl
set_option maxRecDepth 100000 in
theorem sw_607 : Cond.code yJ0_length_8abf5 cJ0_length_8abf5 1 (some .int) ∈ gTs := g_word (i := 607) (by rfl) rfl
set_option maxRecDepth 100000 in
theorem sw_608 : Cond.methodLink RJ0 335 yJ0_coder_7d493 ∈ gTs := g_word (i := 608) (by decide +kernel) rfl
set_option maxRecDepth 100000 in
theorem sw_609 : Cond.instanceMethod yJ0_coder_7d493 ∈ gTs := g_word (i := 609) (by decide +kernel) rfl
set_option maxRecDepth 100000 in
theorem sw_610 : Cond.selects RJ0 yJ0_coder_7d493 yJ0_coder_7d493 ∈ gTs := g_word (i := 610) (by decide +kernel) rfl
set_option maxRecDepth 100000 in
theorem sw_611 : Cond.code yJ0_coder_7d493 cJ0_coder_7d493 1 (some .byte) ∈ gTs := g_word (i := 611) (by rfl) rfl
set_option maxRecDepth 100000 in
theorem sw_612 : Cond.methodLink RJ0 637 yJ1_indexOf_4cfef ∈ gTs := g_word (i := 612) (by decide +kernel) rfl
set_option maxRecDepth 100000 in
theorem sw_613 : Cond.static yJ1_indexOf_4cfef ∈ gTs := g_word (i := 613) (by decide +kernel) rfl
set_option maxRecDepth 100000 in
theorem sw_614 : Cond.code yJ1_indexOf_4cfef cJ1_indexOf_4cfef 4 (some .int) ∈ gTs := g_word (i := 614) (by rfl) rfl
set_option maxRecDepth 100000 in
theorem sw_615 : Cond.methodLink RJ1 88 yJ1_canEncode_9a6ad ∈ gTs := g_word (i := 615) (by decide +kernel) rfl
set_option maxRecDepth 100000 in
theorem sw_616 : Cond.static yJ1_canEncode_9a6ad ∈ gTs := g_word (i := 616) (by decide +kernel) rfl
set_option maxRecDepth 100000 in
theorem sw_617 : Cond.code yJ1_canEncode_9a6ad cJ1_canEncode_9a6ad 1 (some .boolean) ∈ gTs := g_word (i := 617) (by rfl) rfl
set_option maxRecDepth 100000 in
theorem sw_618 : Cond.methodLink RJ1 92 Lib.Math.max.name ∈ gTs := g_word (i := 618) (by decide +kernel) rfl
set_option maxRecDepth 100000 in
theorem sw_621 : Cond.methodLink RJ1 38 Lib.Math.min.name ∈ gTs := g_word (i := 621) (by decide +kernel) rfl
set_option maxRecDepth 100000 in
theorem sw_624 : Cond.methodLink RJ1 95 yJ1_indexOfChar_4cfef ∈ gTs := g_word (i := 624) (by decide +kernel) rfl
set_option maxRecDepth 100000 in
theorem sw_625 : Cond.static yJ1_indexOfChar_4cfef ∈ gTs := g_word (i := 625) (by decide +kernel) rfl
set_option maxRecDepth 100000 in
theorem sw_626 : Cond.code yJ1_indexOfChar_4cfef cJ1_indexOfChar_4cfef 6 (some .int) ∈ gTs := g_word (i := 626) (by rfl) rfl
set_option maxRecDepth 100000 in
theorem sw_1618 : Cond.fieldLink RJ0 15 "java/lang/String" "coder" "B" ∈ gTs := g_word (i := 1618) (by decide +kernel) rfl
set_option maxRecDepth 100000 in
theorem sw_1619 : Cond.fieldLink RJ0 9 "java/lang/String" "value" "[B" ∈ gTs := g_word (i := 1619) (by decide +kernel) rfl
theorem cz_coder : gCl gTs RJ0 335 yJ0_coder_7d493 cJ0_coder_7d493 1 (some .byte) 0 := ⟨sw_608, sw_609, sw_610, sw_92, sw_611, by decide +kernel⟩
theorem cz_isL : gCl gTs RJ0 492 yJ0_isLatin1_aae02 cJ0_isLatin1_aae02 1 (some .boolean) 0 := ⟨sw_598, sw_599, sw_600, sw_92, sw_601, by decide +kernel⟩
theorem cz_len : gCl gTs RJ0 505 yJ0_length_8abf5 cJ0_length_8abf5 1 (some .int) 0 := ⟨sw_604, sw_605, sw_606, sw_92, sw_607, by decide +kernel⟩
theorem cz_ix2 : gCl gTs RJ0 633 yJ0_indexOf_7cf53 cJ0_indexOf_7cf53 3 (some .int) 2 := ⟨sw_594, sw_595, sw_596, sw_92, sw_597, by decide +kernel⟩
theorem cz_ix1 : gCl gTs RX4 112 yJ0_indexOf_0f7a4 cJ0_indexOf_0f7a4 2 (some .int) 1 := ⟨sw_590, sw_591, sw_592, sw_92, sw_593, by decide +kernel⟩
theorem cz_lx : gCs gTs RJ0 637 yJ1_indexOf_4cfef cJ1_indexOf_4cfef 4 (some .int) 4 := ⟨sw_612, sw_613, sw_93, sw_614, by decide +kernel⟩
theorem cz_can : gCs gTs RJ1 88 yJ1_canEncode_9a6ad cJ1_canEncode_9a6ad 1 (some .boolean) 1 := ⟨sw_615, sw_616, sw_93, sw_617, by decide +kernel⟩
theorem cz_ixc : gCs gTs RJ1 95 yJ1_indexOfChar_4cfef cJ1_indexOfChar_4cfef 6 (some .int) 4 := ⟨sw_624, sw_625, sw_93, sw_626, by decide +kernel⟩
def rmZ (d : Nat) : Room := { frames := d, cells := 0, slots := 0, locals := 40 * d }
theorem zk_coder (w : gT) : gM S1 cl1 gTs yJ0_coder_7d493 cJ0_coder_7d493 1 (some .byte) (rmZ 0) gi [.ref 100] w (some (nI 0, w)) := by
  refine gM_of (own := RJ0) [(0, .ref 100)] rfl (by decide) (fun _ => rfl) (fun _ => Nat.le_of_ble_eq_true rfl) (fun κ ok => ?_)
  refine z_gets (q := 3) ok dJ0_coder_7d493_0 rfl sw_602 ?_
  refine z_eqn (q := 6) (g := 13) ok dJ0_coder_7d493_3 rfl (by decide) (by decide) ?_
  refine g_aload_n (q := 7) ok dJ0_coder_7d493_6 rfl 0 rfl rfl ?_
  refine z_getC (q := 10) ok dJ0_coder_7d493_7 rfl sw_1618 ?_
  refine g_goto (q := 14) ok dJ0_coder_7d493_10 (by decide) ?_
  exact z_bret ok dJ0_coder_7d493_14 rfl
theorem zk_isL (w : gT) : gM S1 cl1 gTs yJ0_isLatin1_aae02 cJ0_isLatin1_aae02 1 (some .boolean) (rmZ 0) gi [.ref 100] w (some (nI 1, w)) := by
  refine gM_of (own := RJ0) [(0, .ref 100)] rfl (by decide) (fun _ => rfl) (fun _ => Nat.le_of_ble_eq_true rfl) (fun κ ok => ?_)
  refine z_gets (q := 3) ok dJ0_isLatin1_aae02_0 rfl sw_602 ?_
  refine z_eqn (q := 6) (g := 17) ok dJ0_isLatin1_aae02_3 rfl (by decide) (by decide) ?_
  refine g_aload_n (q := 7) ok dJ0_isLatin1_aae02_6 rfl 0 rfl rfl ?_
  refine z_getC (q := 10) ok dJ0_isLatin1_aae02_7 rfl sw_1618 ?_
  refine z_nen (q := 13) (g := 17) ok dJ0_isLatin1_aae02_10 rfl (by decide) ?_
  refine g_iconst (v := (nI 1)) (q := 14) ok dJ0_isLatin1_aae02_13 rfl (by decide) ?_
  refine g_goto (q := 18) ok dJ0_isLatin1_aae02_14 (by decide) ?_
  exact g_zret ok dJ0_isLatin1_aae02_18 rfl
theorem zk_len (w : gT) : gM S1 cl1 gTs yJ0_length_8abf5 cJ0_length_8abf5 1 (some .int) (rmZ 1) gi [.ref 100] w (some (nI 12, w)) := by
  refine gM_of (own := RJ0) [(0, .ref 100)] rfl (by decide) (fun _ => rfl) (fun _ => Nat.le_of_ble_eq_true rfl) (fun κ ok => ?_)
  refine g_aload_n (q := 1) ok dJ0_length_8abf5_0 rfl 0 rfl rfl ?_
  refine z_getV (q := 4) ok dJ0_length_8abf5_1 rfl sw_1619 ?_
  refine z_alen (q := 5) ok dJ0_length_8abf5_4 rfl ?_
  refine g_aload_n (q := 6) ok dJ0_length_8abf5_5 rfl 0 rfl rfl ?_
  refine z_callV (q := 9) (As := []) (st := [.int (nI 12)]) ok tbl_good dJ0_length_8abf5_6 rfl (zk_coder w) cz_coder ⟨rfl, rfl, by decide, by decide⟩ rfl rfl rfl (fun _ => Nat.le_of_ble_eq_true rfl) ?_
  refine g_ishr (q := 10) ok dJ0_length_8abf5_9 rfl ?_
  exact g_iret ok dJ0_length_8abf5_10
theorem zk_can {n : Nat} (hn : n < 128) (w : gT) : gM S1 cl1 gTs yJ1_canEncode_9a6ad cJ1_canEncode_9a6ad 1 (some .boolean) (rmZ 0) gi [.int (nI n)] w (some (nI 1, w)) := by
  refine gM_of (own := RJ1) [(0, .int (nI n))] rfl (by decide) (fun _ => rfl) (fun _ => Nat.le_of_ble_eq_true rfl) (fun κ ok => ?_)
  refine g_iload_n (q := 1) ok dJ1_canEncode_9a6ad_0 rfl 0 rfl rfl ?_
  refine z_ltn (q := 4) (g := 15) ok dJ1_canEncode_9a6ad_1 rfl (by decide) (nI_pos (by omega)) ?_
  refine g_iload_n (q := 5) ok dJ1_canEncode_9a6ad_4 rfl 0 rfl rfl ?_
  refine g_sipush (v := (nI 255)) (q := 8) ok dJ1_canEncode_9a6ad_5 rfl (by decide) ?_
  refine z_igtn (q := 11) (g := 15) ok dJ1_canEncode_9a6ad_8 rfl (by decide) (nI_nlt (by omega) (by omega)) ?_
  refine g_iconst (v := (nI 1)) (q := 12) ok dJ1_canEncode_9a6ad_11 rfl (by decide) ?_
  refine g_goto (q := 16) ok dJ1_canEncode_9a6ad_12 (by decide) ?_
  exact g_zret ok dJ1_canEncode_9a6ad_16 rfl
/-- where the sign stands, from the last k places on -/
def zq (n : Nat) : Nat → Int32
  | 0 => -1
  | k + 1 => if zB (11 - k) = nI n then nI (11 - k) else zq n k
theorem zk_ixc {n : Nat} (hn : n < 128) (w : gT) : gM S1 cl1 gTs yJ1_indexOfChar_4cfef cJ1_indexOfChar_4cfef 6 (some .int) (rmZ 0) gi [.ref 101, .int (nI n), .int (nI 0), .int (nI 12)] w (some (zq n 12, w)) := by
  refine gM_of (own := RJ1) [(0, .ref 101), (1, .int (nI n)), (2, .int (nI 0)), (3, .int (nI 12))] rfl (by decide) (fun _ => rfl) (fun _ => Nat.le_of_ble_eq_true rfl) (fun κ ok => ?_)
  have e8 : (nI n).toInt8.toInt32 = nI n := (by decide +kernel : ∀ n : Fin 128, (nI n.1).toInt8.toInt32 = nI n.1) ⟨n, hn⟩
  refine g_iload_n (q := 1) ok dJ1_indexOfChar_4cfef_0 rfl 1 rfl rfl ?_
  refine g_i2b (q := 2) ok dJ1_indexOfChar_4cfef_1 rfl ?_
  rw [e8]
  refine g_istore (q := 4) (L' := [(4, .int (nI n)), (0, .ref 101), (1, .int (nI n)), (2, .int (nI 0)), (3, .int (nI 12))]) ok dJ1_indexOfChar_4cfef_2 rfl (by decide) rfl rfl ?_
  refine g_iload_n (q := 5) ok dJ1_indexOfChar_4cfef_4 rfl 3 rfl rfl ?_
  refine g_istore (q := 7) (L' := [(5, .int (nI 0)), (4, .int (nI n)), (0, .ref 101), (1, .int (nI n)), (2, .int (nI 0)), (3, .int (nI 12))]) ok dJ1_indexOfChar_4cfef_5 rfl (by decide) rfl rfl ?_
  have lp : ∀ k, k ≤ 12 → gJ S1 cl1 (rmZ 0) 6 gi κ 7 [(5, .int (nI (12 - k))), (4, .int (nI n)), (0, .ref 101), (1, .int (nI n)), (2, .int (nI 0)), (3, .int (nI 12))] [] w (some (zq n k, w)) := by
    intro k
    induction k with
    | zero =>
      intro _
      refine g_iload (q := 9) ok dJ1_indexOfChar_4cfef_7 rfl 0 rfl ?_
      refine g_iload_n (q := 10) ok dJ1_indexOfChar_4cfef_9 rfl 5 rfl rfl ?_
      refine z_iget (q := 13) (g := 31) ok dJ1_indexOfChar_4cfef_10 rfl (by decide) (by decide) ?_
      refine g_iconst (v := (-1)) (q := 32) ok dJ1_indexOfChar_4cfef_31 rfl (by decide) ?_
      exact g_iret ok dJ1_indexOfChar_4cfef_32
    | succ k ih =>
      intro hk
      have ek : 12 - (k + 1) = 11 - k := by omega
      rw [ek]
      refine g_iload (q := 9) ok dJ1_indexOfChar_4cfef_7 rfl 0 rfl ?_
      refine g_iload_n (q := 10) ok dJ1_indexOfChar_4cfef_9 rfl 5 rfl rfl ?_
      refine z_igen (q := 13) (g := 31) ok dJ1_indexOfChar_4cfef_10 rfl (by decide) (by rw [nI_leI (by omega) (by omega)]; omega) ?_
      refine g_aload_n (q := 14) ok dJ1_indexOfChar_4cfef_13 rfl 2 rfl rfl ?_
      refine g_iload (q := 16) ok dJ1_indexOfChar_4cfef_14 rfl 0 rfl ?_
      refine z_bal (q := 17) (i := 11 - k) ok (by omega) dJ1_indexOfChar_4cfef_16 rfl ?_
      refine g_iload (q := 19) ok dJ1_indexOfChar_4cfef_17 rfl 1 rfl ?_
      show gJ S1 cl1 (rmZ 0) 6 gi κ 19 _ _ w (some ((if zB (11 - k) = nI n then nI (11 - k) else zq n k), w))
      by_cases c : zB (11 - k) = nI n
      · rw [if_pos c]
        refine z_inen (q := 22) (g := 25) ok dJ1_indexOfChar_4cfef_19 rfl (by decide) c ?_
        refine g_iload (q := 24) ok dJ1_indexOfChar_4cfef_22 rfl 0 rfl ?_
        exact g_iret ok dJ1_indexOfChar_4cfef_24
      · have ih' := ih (by omega)
        rw [show 12 - k = 11 - k + 1 by omega] at ih'
        rw [if_neg c]
        refine z_inet (q := 22) (g := 25) ok dJ1_indexOfChar_4cfef_19 rfl (by decide) c ?_
        refine g_iinc (q := 28) (v := nI (11 - k + 1)) (L' := [(5, .int (nI (11 - k + 1))), (4, .int (nI n)), (0, .ref 101), (1, .int (nI n)), (2, .int (nI 0)), (3, .int (nI 12))]) ok dJ1_indexOfChar_4cfef_25 rfl 0 rfl (by rw [← nI_add]; rfl) (by decide) rfl rfl ?_
        exact g_goto (q := 7) ok dJ1_indexOfChar_4cfef_28 (by decide) ih'
  exact lp 12 (Nat.le_refl _)
theorem zk_lx {n : Nat} (hn : n < 128) (w : gT) : gM S1 cl1 gTs yJ1_indexOf_4cfef cJ1_indexOf_4cfef 4 (some .int) (rmZ 1) gi [.ref 101, .int (nI n), .int (nI 0), .int (nI 12)] w (some (zq n 12, w)) := by
  refine gM_of (own := RJ1) [(0, .ref 101), (1, .int (nI n)), (2, .int (nI 0)), (3, .int (nI 12))] rfl (by decide) (fun _ => rfl) (fun _ => Nat.le_of_ble_eq_true rfl) (fun κ ok => ?_)
  refine g_iload_n (q := 1) ok dJ1_indexOf_4cfef_0 rfl 1 rfl rfl ?_
  refine z_callS (q := 4) (As := [.int (nI n)]) (st := []) ok tbl_good dJ1_indexOf_4cfef_1 rfl (zk_can hn w) cz_can ⟨rfl, rfl, by decide, by decide⟩ rfl rfl (fun _ => Nat.le_of_ble_eq_true rfl) ?_
  refine z_net (q := 7) (g := 9) ok dJ1_indexOf_4cfef_4 rfl (by decide) (by decide) ?_
  refine g_iload_n (q := 10) ok dJ1_indexOf_4cfef_9 rfl 2 rfl rfl ?_
  refine g_iconst (v := (nI 0)) (q := 11) ok dJ1_indexOf_4cfef_10 rfl (by decide) ?_
  refine g_max (q := 14) (st := []) ok dJ1_indexOf_4cfef_11 rfl sw_618 tw_619 tw_94 tw_620 ⟨Nat.le_of_ble_eq_true rfl, Nat.le_of_ble_eq_true rfl⟩ (fun _ => Nat.le_of_ble_eq_true rfl) ?_
  refine g_istore_n (q := 15) (L' := [(2, .int (nI 0)), (0, .ref 101), (1, .int (nI n)), (3, .int (nI 12))]) ok dJ1_indexOf_4cfef_14 rfl rfl (by decide) rfl rfl ?_
  refine g_iload_n (q := 16) ok dJ1_indexOf_4cfef_15 rfl 3 rfl rfl ?_
  refine g_aload_n (q := 17) ok dJ1_indexOf_4cfef_16 rfl 1 rfl rfl ?_
  refine z_alen (q := 18) ok dJ1_indexOf_4cfef_17 rfl ?_
  refine g_min (q := 21) (st := []) ok dJ1_indexOf_4cfef_18 rfl sw_621 tw_622 tw_94 tw_623 ⟨Nat.le_of_ble_eq_true rfl, Nat.le_of_ble_eq_true rfl⟩ (fun _ => Nat.le_of_ble_eq_true rfl) ?_
  refine g_istore_n (q := 22) (L' := [(3, .int (nI 12)), (2, .int (nI 0)), (0, .ref 101), (1, .int (nI n))]) ok dJ1_indexOf_4cfef_21 rfl rfl (by decide) rfl rfl ?_
  refine g_iload_n (q := 23) ok dJ1_indexOf_4cfef_22 rfl 1 rfl rfl ?_
  refine g_iload_n (q := 24) ok dJ1_indexOf_4cfef_23 rfl 0 rfl rfl ?_
  refine z_iltt (q := 27) (g := 29) ok dJ1_indexOf_4cfef_24 rfl (by decide) (by decide) ?_
  refine g_aload_n (q := 30) ok dJ1_indexOf_4cfef_29 rfl 2 rfl rfl ?_
  refine g_iload_n (q := 31) ok dJ1_indexOf_4cfef_30 rfl 3 rfl rfl ?_
  refine g_iload_n (q := 32) ok dJ1_indexOf_4cfef_31 rfl 1 rfl rfl ?_
  refine g_iload_n (q := 33) ok dJ1_indexOf_4cfef_32 rfl 0 rfl rfl ?_
  refine z_callS (q := 36) (As := [.ref 101, .int (nI n), .int (nI 0), .int (nI 12)]) (st := []) ok tbl_good dJ1_indexOf_4cfef_33 rfl (zk_ixc hn w) cz_ixc ⟨rfl, rfl, by decide, by decide⟩ rfl rfl (fun _ => Nat.le_of_ble_eq_true rfl) ?_
  exact g_iret ok dJ1_indexOf_4cfef_36
theorem zk_ix2 {n : Nat} (hn : n < 128) (w : gT) : gM S1 cl1 gTs yJ0_indexOf_7cf53 cJ0_indexOf_7cf53 3 (some .int) (rmZ 2) gi [.ref 100, .int (nI n), .int (nI 0)] w (some (zq n 12, w)) := by
  refine gM_of (own := RJ0) [(0, .ref 100), (1, .int (nI n)), (2, .int (nI 0))] rfl (by decide) (fun _ => rfl) (fun _ => Nat.le_of_ble_eq_true rfl) (fun κ ok => ?_)
  refine g_aload_n (q := 1) ok dJ0_indexOf_7cf53_0 rfl 0 rfl rfl ?_
  refine z_callV (q := 4) (As := []) (st := []) ok tbl_good dJ0_indexOf_7cf53_1 rfl (zk_isL w) cz_isL ⟨rfl, rfl, by decide, by decide⟩ rfl rfl rfl (fun _ => Nat.le_of_ble_eq_true rfl) ?_
  refine z_eqn (q := 7) (g := 23) ok dJ0_indexOf_7cf53_4 rfl (by decide) (by decide) ?_
  refine g_aload_n (q := 8) ok dJ0_indexOf_7cf53_7 rfl 0 rfl rfl ?_
  refine z_getV (q := 11) ok dJ0_indexOf_7cf53_8 rfl sw_1619 ?_
  refine g_iload_n (q := 12) ok dJ0_indexOf_7cf53_11 rfl 1 rfl rfl ?_
  refine g_iload_n (q := 13) ok dJ0_indexOf_7cf53_12 rfl 2 rfl rfl ?_
  refine g_aload_n (q := 14) ok dJ0_indexOf_7cf53_13 rfl 0 rfl rfl ?_
  refine z_callV (q := 17) (As := []) (st := [.int (nI 0), .int (nI n), .ref 101]) ok tbl_good dJ0_indexOf_7cf53_14 rfl (zk_len w) cz_len ⟨rfl, rfl, by decide, by decide⟩ rfl rfl rfl (fun _ => Nat.le_of_ble_eq_true rfl) ?_
  refine z_callS (q := 20) (As := [.ref 101, .int (nI n), .int (nI 0), .int (nI 12)]) (st := []) ok tbl_good dJ0_indexOf_7cf53_17 rfl (zk_lx hn w) cz_lx ⟨rfl, rfl, by decide, by decide⟩ rfl rfl (fun _ => Nat.le_of_ble_eq_true rfl) ?_
  refine g_goto (q := 36) ok dJ0_indexOf_7cf53_20 (by decide) ?_
  exact g_iret ok dJ0_indexOf_7cf53_36
theorem zk_ix1 {n : Nat} (hn : n < 128) (w : gT) : gM S1 cl1 gTs yJ0_indexOf_0f7a4 cJ0_indexOf_0f7a4 2 (some .int) (rmZ 3) gi [.ref 100, .int (nI n)] w (some (zq n 12, w)) := by
  refine gM_of (own := RJ0) [(0, .ref 100), (1, .int (nI n))] rfl (by decide) (fun _ => rfl) (fun _ => Nat.le_of_ble_eq_true rfl) (fun κ ok => ?_)
  refine g_aload_n (q := 1) ok dJ0_indexOf_0f7a4_0 rfl 0 rfl rfl ?_
  refine g_iload_n (q := 2) ok dJ0_indexOf_0f7a4_1 rfl 1 rfl rfl ?_
  refine g_iconst (v := (nI 0)) (q := 3) ok dJ0_indexOf_0f7a4_2 rfl (by decide) ?_
  refine z_callV (q := 6) (As := [.int (nI n), .int (nI 0)]) (st := []) ok tbl_good dJ0_indexOf_0f7a4_3 rfl (zk_ix2 hn w) cz_ix2 ⟨rfl, rfl, by decide, by decide⟩ rfl rfl rfl (fun _ => Nat.le_of_ble_eq_true rfl) ?_
  exact g_iret ok dJ0_indexOf_0f7a4_6
def zLt (a0 : Int32) : Prop := a0 = nI 114 ∨ a0 = nI 110 ∨ a0 = nI 116 ∨ a0 = nI 103 ∨ a0 = nI 109 ∨ a0 = nI 99 ∨ a0 = nI 121 ∨ a0 = nI 104 ∨ a0 = nI 112 ∨ a0 = nI 118 ∨ a0 = nI 111 ∨ a0 = nI 108
theorem zq_all : ∀ n : Fin 128, 97 ≤ n.1 → n.1 ≤ 122 → ((nI n.1).toUInt32 % 65536).toInt32 = nI n.1 ∧ ((zq n.1 12 < nI 0) ↔ ¬ (nI n.1 = nI 114 ∨ nI n.1 = nI 110 ∨ nI n.1 = nI 116 ∨ nI n.1 = nI 103 ∨ nI n.1 = nI 109 ∨ nI n.1 = nI 99 ∨ nI n.1 = nI 121 ∨ nI n.1 = nI 104 ∨ nI n.1 = nI 112 ∨ nI n.1 = nI 118 ∨ nI n.1 = nI 111 ∨ nI n.1 = nI 108)) := by decide +kernel
theorem zLt_in {a0 : Int32} (h : a0 = nI 114 ∨ a0 = nI 110 ∨ a0 = nI 116 ∨ a0 = nI 103 ∨ a0 = nI 109 ∨ a0 = nI 99 ∨ a0 = nI 121 ∨ a0 = nI 104 ∨ a0 = nI 112 ∨ a0 = nI 118 ∨ a0 = nI 111 ∨ a0 = nI 108) : ¬ a0 < nI 97 ∧ ¬ nI 122 < a0 := by
  rcases h with rfl | rfl | rfl | rfl | rfl | rfl | rfl | rfl | rfl | rfl | rfl | rfl <;> decide
theorem zk_isLetter (a0 : Int32) (w : gT) : gM S1 cl1 gTs yX4_isLetter cX4_isLetter 1 (some .boolean) rmX4_isLetter gi [.int a0] w (xX4_isLetter a0 w) := by
  refine gM_of (own := RX4) [(0, .int a0)] rfl (by decide) (fun _ => rfl) (fun _ => Nat.le_of_ble_eq_true rfl) (fun κ ok => ?_)
  have no : gJ S1 cl1 rmX4_isLetter 1 gi κ 26 [(0, .int a0)] [] w (some (nI 0, w)) := g_iconst (v := (nI 0)) (q := 27) ok dX4_isLetter_26 rfl (by decide) (g_zret ok dX4_isLetter_27 rfl)
  unfold xX4_isLetter
  refine g_iload_n (q := 1) ok dX4_isLetter_0 rfl 0 rfl rfl ?_
  refine g_bipush (v := (nI 97)) (q := 3) ok dX4_isLetter_1 rfl (by decide) ?_
  by_cases c1 : a0 < nI 97
  · rw [if_neg (fun z => (zLt_in z).1 c1)]
    exact z_iltt (q := 6) (g := 26) ok dX4_isLetter_3 rfl (by decide) c1 no
  refine z_iltn (q := 6) (g := 26) ok dX4_isLetter_3 rfl (by decide) c1 ?_
  refine g_iload_n (q := 7) ok dX4_isLetter_6 rfl 0 rfl rfl ?_
  refine g_bipush (v := (nI 122)) (q := 9) ok dX4_isLetter_7 rfl (by decide) ?_
  by_cases c2 : nI 122 < a0
  · rw [if_neg (fun z => (zLt_in z).2 c2)]
    exact z_igtt (q := 12) (g := 26) ok dX4_isLetter_9 rfl (by decide) c2 no
  refine z_igtn (q := 12) (g := 26) ok dX4_isLetter_9 rfl (by decide) c2 ?_
  obtain ⟨n, hn, rfl⟩ := nI_of (x := a0) (fun z => c1 (by
    rw [Int32.lt_iff_toInt_lt] at z ⊢
    have e1 : (0 : Int32).toInt = 0 := by decide
    have e2 : (nI 97).toInt = 97 := by decide
    omega))
  have n1 : 97 ≤ n := by
    rw [nI_ltI (by omega) (by omega)] at c1
    omega
  have n2 : n ≤ 122 := by
    rw [nI_ltI (by omega) (by omega)] at c2
    omega
  obtain ⟨e16, hz⟩ := zq_all ⟨n, by omega⟩ n1 n2
  have e16 : ((nI n).toUInt32 % 65536).toInt32 = nI n := e16
  refine z_ldc (q := 14) ok rfl dX4_isLetter_12 rfl ?_
  refine g_iload_n (q := 15) ok dX4_isLetter_14 rfl 0 rfl rfl ?_
  refine g_i2c (q := 16) ok dX4_isLetter_15 rfl ?_
  rw [e16]
  refine z_callV (q := 19) (As := [.int (nI n)]) (st := []) ok tbl_good dX4_isLetter_16 rfl (zk_ix1 (by omega) w) cz_ix1 ⟨rfl, rfl, by decide, by decide⟩ rfl rfl rfl (fun _ => Nat.le_of_ble_eq_true rfl) ?_
  by_cases c3 : zq n 12 < nI 0
  · rw [if_neg (hz.mp c3)]
    exact z_ltt (q := 22) (g := 26) ok dX4_isLetter_19 rfl (by decide) c3 no
  · rw [if_pos (Classical.not_not.mp (fun z => c3 (hz.mpr z)))]
    refine z_ltn (q := 22) (g := 26) ok dX4_isLetter_19 rfl (by decide) c3 ?_
    refine g_iconst (v := (nI 1)) (q := 23) ok dX4_isLetter_22 rfl (by decide) ?_
    refine g_goto (q := 27) ok dX4_isLetter_23 (by decide) ?_
    exact g_zret ok dX4_isLetter_27 rfl
