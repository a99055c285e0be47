/-! THE STRING CONSTANT'S indexOf: rows of the JDK's own methods at it (cells 100: the constant, 101: its bytes) -/
section GSTR
variable {α : Type} {S : gS} {cl : List vw_C} {Ts : List Cond} {own : String} {cc : ByteArray} {nL : Nat} {ret : Option FieldType} {rm : Room} {fin : α → Option Int32 × gT} {κ : gC} {pc : Nat} {L : List (Nat × Value)} {st : List Value} {w : gT} {t : Option α}
theorem z_ldc (ok : gOk S cl Ts own cc nL ret κ) {q : Nat} (ho : own = "GhostRota$LawReader") (hd : decode cc pc = .ok (.ldc 110, 2)) (hq : pc + 2 = q) (k : gJ S cl rm nL fin κ q L (.ref 100 :: st) w t) : gJ S cl rm nL fin κ pc L st w t := by
  obtain ⟨p, l, e, s, m, args, below, meth, c, D, ad, ac⟩ := κ
  obtain ⟨hx, hb0, hml, hrt, hlk, hown, hts, hK, hI, hFz⟩ := ok
  subst hq
  subst ho
  intro a ha H locs ls hP hS hl
  exact va_ldcS hx hb0 hown hFz.2.1 hd (k a ha H locs ls hP hS hl)
theorem z_getV (ok : gOk S cl Ts own cc nL ret κ) {index q : Nat} (hd : decode cc pc = .ok (.getfield index, 3)) (hq : pc + 3 = q) (hw : Cond.fieldLink own index "java/lang/String" "value" "[B" ∈ Ts) (k : gJ S cl rm nL fin κ q L (.ref 101 :: st) w t) : gJ S cl rm nL fin κ pc L (.ref 100 :: st) w t := by
  obtain ⟨p, l, e, s, m, args, below, meth, c, D, ad, ac⟩ := κ
  obtain ⟨hx, hb0, hml, hrt, hlk, hown, hts, hK, hI, hFz⟩ := ok
  subst hq
  intro a ha H locs ls hP hS hl
  exact vk_getf hx hb0 (hFz.1.1 0 (by omega)).2.2.1 hS hown (hts _ hw) (fun _ h => h) hd (k a ha H locs ls hP hS hl)
theorem z_getC (ok : gOk S cl Ts own cc nL ret κ) {index q : Nat} (hd : decode cc pc = .ok (.getfield index, 3)) (hq : pc + 3 = q) (hw : Cond.fieldLink own index "java/lang/String" "coder" "B" ∈ Ts) (k : gJ S cl rm nL fin κ q L (.int (nI 0) :: st) w t) : gJ S cl rm nL fin κ pc L (.ref 100 :: st) w t := by
  obtain ⟨p, l, e, s, m, args, below, meth, c, D, ad, ac⟩ := κ
  obtain ⟨hx, hb0, hml, hrt, hlk, hown, hts, hK, hI, hFz⟩ := ok
  subst hq
  intro a ha H locs ls hP hS hl
  exact vk_getf hx hb0 (hFz.1.1 0 (by omega)).2.1 hS hown (hts _ hw) (fun _ h => h) hd (k a ha H locs ls hP hS hl)
theorem z_gets (ok : gOk S cl Ts own cc nL ret κ) {index q : Nat} (hd : decode cc pc = .ok (.getstatic index, 3)) (hq : pc + 3 = q) (hw : Cond.fieldLink own index "java/lang/String" "COMPACT_STRINGS" "Z" ∈ Ts) (k : gJ S cl rm nL fin κ q L (.int (nI 1) :: st) w t) : gJ S cl rm nL fin κ pc L st w t := by
  obtain ⟨p, l, e, s, m, args, below, meth, c, D, ad, ac⟩ := κ
  obtain ⟨hx, hb0, hml, hrt, hlk, hown, hts, hK, hI, hFz⟩ := ok
  subst hq
  intro a ha H locs ls hP hS hl
  exact va_gets hx hb0 hFz.2.2 hS hown (hts _ hw) (fun _ h => h) hd (k a ha H locs ls hP hS hl)
theorem z_alen (ok : gOk S cl Ts own cc nL ret κ) {q : Nat} (hd : decode cc pc = .ok (.arraylength, 1)) (hq : pc + 1 = q) (k : gJ S cl rm nL fin κ q L (.int (nI 12) :: st) w t) : gJ S cl rm nL fin κ pc L (.ref 101 :: st) w t := by
  obtain ⟨p, l, e, s, m, args, below, meth, c, D, ad, ac⟩ := κ
  obtain ⟨hx, hb0, hml, hrt, hlk, hown, hts, hK, hI, hFz⟩ := ok
  subst hq
  intro a ha H locs ls hP hS hl
  exact va_tlen hx hb0 (hFz.1.1 0 (by omega)).2.2.2 hS rfl hd (k a ha H locs ls hP hS hl)
def zB (i : Nat) : Int32 := [nI 114, nI 110, nI 116, nI 103, nI 109, nI 99, nI 121, nI 104, nI 112, nI 118, nI 111, nI 108].getD i 0
theorem z_bal (ok : gOk S cl Ts own cc nL ret κ) {q i : Nat} (hi : i < 12) (hd : decode cc pc = .ok (.baload, 1)) (hq : pc + 1 = q) (k : gJ S cl rm nL fin κ q L (.int (zB i) :: st) w t) : gJ S cl rm nL fin κ pc L (.int (nI i) :: .ref 101 :: st) w t := by
  obtain ⟨p, l, e, s, m, args, below, meth, c, D, ad, ac⟩ := κ
  obtain ⟨hx, hb0, hml, hrt, hlk, hown, hts, hK, hI, hFz⟩ := ok
  subst hq
  intro a ha H locs ls hP hS hl
  have hcl : (nI i).toNatClampNeg = i := nI_clamp (by omega)
  refine va_tb hx hb0 (hFz.1.1 0 (by omega)).2.2.2 hS (i := nI i) (v := .int (zB i)) ?_ ?_ hd (k a ha H locs ls hP hS hl)
  · rintro (h | h)
    · exact nI_pos (by omega) h
    · rw [hcl] at h
      have h : 12 ≤ i := h
      omega
  · rw [hcl]
    rfl
theorem z_eqn (ok : gOk S cl Ts own cc nL ret κ) {x : Int32} {off : Int} {q g : Nat} (hd : decode cc pc = .ok (.ifCond .eq off, 3)) (hq : pc + 3 = q) (hg : (pc : Int) + off = (g : Int)) (hx : x ≠ nI 0) (k : gJ S cl rm nL fin κ q L st w t) : gJ S cl rm nL fin κ pc L (.int x :: st) w t := by
  have h := g_if_eq (x := x) (t1 := none) ok hd hq hg gJ_none k
  rwa [if_neg hx] at h
theorem z_nen (ok : gOk S cl Ts own cc nL ret κ) {off : Int} {q g : Nat} (hd : decode cc pc = .ok (.ifCond .ne off, 3)) (hq : pc + 3 = q) (hg : (pc : Int) + off = (g : Int)) (k : gJ S cl rm nL fin κ q L st w t) : gJ S cl rm nL fin κ pc L (.int (nI 0) :: st) w t := by
  have h := g_if_ne (x := nI 0) (t2 := none) ok hd hq hg gJ_none k
  rwa [if_pos rfl] at h
theorem z_net (ok : gOk S cl Ts own cc nL ret κ) {x : Int32} {off : Int} {q g : Nat} (hd : decode cc pc = .ok (.ifCond .ne off, 3)) (hq : pc + 3 = q) (hg : (pc : Int) + off = (g : Int)) (hx : x ≠ nI 0) (k : gJ S cl rm nL fin κ g L st w t) : gJ S cl rm nL fin κ pc L (.int x :: st) w t := by
  have h := g_if_ne (x := x) (t1 := none) ok hd hq hg k gJ_none
  rwa [if_neg hx] at h
theorem z_ltn (ok : gOk S cl Ts own cc nL ret κ) {x : Int32} {off : Int} {q g : Nat} (hd : decode cc pc = .ok (.ifCond .lt off, 3)) (hq : pc + 3 = q) (hg : (pc : Int) + off = (g : Int)) (hx : ¬ x < nI 0) (k : gJ S cl rm nL fin κ q L st w t) : gJ S cl rm nL fin κ pc L (.int x :: st) w t := by
  have h := g_if_lt (x := x) (t1 := none) ok hd hq hg gJ_none k
  rwa [if_neg hx] at h
theorem z_igtn (ok : gOk S cl Ts own cc nL ret κ) {x y : Int32} {off : Int} {q g : Nat} (hd : decode cc pc = .ok (.if_icmp .gt off, 3)) (hq : pc + 3 = q) (hg : (pc : Int) + off = (g : Int)) (hx : ¬ y < x) (k : gJ S cl rm nL fin κ q L st w t) : gJ S cl rm nL fin κ pc L (.int y :: .int x :: st) w t := by
  have h := g_icmp_gt (x := x) (y := y) (t1 := none) ok hd hq hg gJ_none k
  rwa [if_neg hx] at h
theorem z_iltt (ok : gOk S cl Ts own cc nL ret κ) {x y : Int32} {off : Int} {q g : Nat} (hd : decode cc pc = .ok (.if_icmp .lt off, 3)) (hq : pc + 3 = q) (hg : (pc : Int) + off = (g : Int)) (hx : x < y) (k : gJ S cl rm nL fin κ g L st w t) : gJ S cl rm nL fin κ pc L (.int y :: .int x :: st) w t := by
  have h := g_icmp_lt (x := x) (y := y) (t2 := none) ok hd hq hg k gJ_none
  rwa [if_pos hx] at h
theorem z_igen (ok : gOk S cl Ts own cc nL ret κ) {x y : Int32} {off : Int} {q g : Nat} (hd : decode cc pc = .ok (.if_icmp .ge off, 3)) (hq : pc + 3 = q) (hg : (pc : Int) + off = (g : Int)) (hx : ¬ y ≤ x) (k : gJ S cl rm nL fin κ q L st w t) : gJ S cl rm nL fin κ pc L (.int y :: .int x :: st) w t := by
  have h := g_icmp_ge (x := x) (y := y) (t1 := none) ok hd hq hg gJ_none k
  rwa [if_neg hx] at h
theorem z_iget (ok : gOk S cl Ts own cc nL ret κ) {x y : Int32} {off : Int} {q g : Nat} (hd : decode cc pc = .ok (.if_icmp .ge off, 3)) (hq : pc + 3 = q) (hg : (pc : Int) + off = (g : Int)) (hx : y ≤ x) (k : gJ S cl rm nL fin κ g L st w t) : gJ S cl rm nL fin κ pc L (.int y :: .int x :: st) w t := by
  have h := g_icmp_ge (x := x) (y := y) (t2 := none) ok hd hq hg k gJ_none
  rwa [if_pos hx] at h
/-- a method of the constant called -/
theorem z_callV (ok : gOk S cl Ts own cc nL ret κ) {index : Nat} {y : MethodName} {cy : ByteArray} {ny n q : Nat} {ry : Option FieldType} {rmY : Room} {As stk : List Value} {r : Int32} (hgood : ∀ w ∈ Ts, goodWord w = true) (hd : decode cc pc = .ok (.invokevirtual index, 3)) (hq : pc + 3 = q) (hM : gM S cl Ts y cy ny ry rmY gi (.ref 100 :: As) w (some (r, w))) (hf : gCl Ts own index y cy ny ry n) (hr : gRm rm rmY ny) (hc : y.cls = "java/lang/String") (hn : As.length = n) (hst : stk = As.reverse ++ .ref 100 :: st) (hcat : ∀ ad : Nat → Nat, ((st.map (gV ad)).map fun v => v.category).sum ≤ 8) (k : gJ S cl rm nL fin κ q L (.int r :: st) w t) : gJ S cl rm nL fin κ pc L stk w t := by
  obtain ⟨p, l, e, s, m, args, below, meth, c, D, ad, ac⟩ := κ
  subst hq
  subst hst
  intro a ha H locs ls hP hS hl
  obtain ⟨hx, hb0, hml, hrt, hlk, hown, hts, hK, hI, hFz⟩ := ok
  obtain ⟨hf1, hf2, hf3, hf4, hf5, hf6⟩ := hf
  have hMet : Met l y (.code y cy ny ry :: Ts) rmY (va_Pc ((.ref 100 :: As).map (gV ad)) (fun U => U.heap.size = H.size ∧ va_P D cl (gWs S ad ac w) U.heap ∧ gK S cl D ac U ∧ gI S ad ∧ gFz ad (gA S ad H.size) U U.heap)) (va_Qi (S := gT) (fun r1 u => r1 = r ∧ u = w) (fun u t => va_P D cl (gWs S ad ac u) t.heap) (gA S ad H.size)) 0 0 (gA S ad H.size) := hM (r, w) rfl l D ad ac H.size
  have hrv := vk_recv (i := 0) hFz.1 (by omega) hS
  rw [← hc] at hrv
  refine va_calli (va_runV (As := As.map (gV ad)) (rest := st.map (gV ad)) (g := F0 m pc ls ((As.reverse ++ .ref 100 :: st).map (gV ad))) (n := n) (ws := .code y cy ny ry :: Ts) (own := own) (index := index) (bytes := cy) (maxL := ny) (ret := ry) ⟨hx, hb0, hml, hown, hts⟩ hMet (cwV (own := own) (index := index) (C := y.cls) (y := y) (bytes := cy) (maxL := ny) (ret := ry) (ws := .code y cy ny ry :: Ts) (ws' := Ts) (rm := rmY) n hts (g_goodV hgood hf1 hf2 hf3 hf4 hf5) rfl hr.1 hr.2.1 ⟨rfl, hf6⟩ ⟨hr.2.2.1, hr.2.2.2⟩) ⟨g_blind, hrv, fun U hU hW => ⟨by simp [gV], by rw [hU], by rw [hU]; exact hP, hK.moved hW.alike, hI, by have hz := hFz.to hS hU hW (g_sub hS.1); rw [hU] at hz ⊢; exact hz⟩⟩ rfl (by simpa using hn) hl.1 (by simp [gV]) (lv_room (hcat ad)) hd ⟨Nat.zero_le _, Nat.zero_le _⟩) hS (fun q _ h => g_sub hS.1 q h) (g_sub hS.1) (fun r1 u t1 H1 locs1 ht hvm hpost hB hz1 hk1 hS1 => ?_)
  obtain ⟨rfl, rfl⟩ := hpost
  rw [ht] at hB
  exact k a ha H1 locs1 ls hB hS1 hl
theorem z_callS (ok : gOk S cl Ts own cc nL ret κ) {index : Nat} {y : MethodName} {cy : ByteArray} {ny n q : Nat} {ry : Option FieldType} {rmY : Room} {As stk : List Value} {r : Int32} (hgood : ∀ w ∈ Ts, goodWord w = true) (hd : decode cc pc = .ok (.invokestatic index, 3)) (hq : pc + 3 = q) (hM : gM S cl Ts y cy ny ry rmY gi As w (some (r, w))) (hf : gCs Ts own index y cy ny ry n) (hr : gRm rm rmY ny) (hn : As.length = n) (hst : stk = As.reverse ++ st) (hcat : ∀ ad : Nat → Nat, ((st.map (gV ad)).map fun v => v.category).sum ≤ 8) (k : gJ S cl rm nL fin κ q L (.int r :: st) w t) : gJ S cl rm nL fin κ pc L stk w t := by
  have e : t = gBi (some (r, w)) (fun r' w' => @ite _ (r' = r ∧ w' = w) (Classical.propDecidable _) t none) := (if_pos ⟨rfl, rfl⟩).symm
  rw [e]
  refine g_callSi ok hgood hd hq hM hf hr hn hst hcat (fun r' w' => ?_)
  by_cases h : r' = r ∧ w' = w
  · obtain ⟨rfl, rfl⟩ := h
    rw [if_pos ⟨rfl, rfl⟩]
    exact k
  · rw [if_neg h]
    exact gJ_none
end GSTR
