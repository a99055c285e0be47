/-- a call's answer and world go on -/
def gBi {α : Type} (c : Option (Int32 × gT)) (f : Int32 → gT → Option α) : Option α := match c with
  | some x => f x.1 x.2
  | none => none
def gBv {α : Type} (c : Option gT) (f : gT → Option α) : Option α := match c with
  | some x => f x
  | none => none
/-- a value with a name -/
def gLet {β α : Type} (x : β) (f : β → Option α) : Option α := f x
/-- a place that must be there; a divisor that must not be 0 -/
def gG {α : Type} (i : Int32) (n : Nat) (t : Option α) : Option α := if i < 0 ∨ n ≤ i.toNatClampNeg then none else t
def gZ {α : Type} (y : Int32) (t : Option α) : Option α := if y = 0 then none else t
def gRem (x y : Int32) : Int32 := x - x / y * y
def gShl (x y : Int32) : Int32 := x <<< (y &&& 31)
def gShr (x y : Int32) : Int32 := x >>> (y &&& 31)
def gUsh (x y : Int32) : Int32 := (x.toUInt32 >>> (y.toUInt32 &&& Int32.toUInt32 31)).toInt32
def gMax (x y : Int32) : Int32 := if x < y then y else x
def gMin (x y : Int32) : Int32 := if y < x then y else x
def gLsl (x : Int64) (y : Int32) : Int64 := x <<< (y.toInt64 &&& 63)
def gLsr (x : Int64) (y : Int32) : Int64 := x >>> (y.toInt64 &&& 63)
/-- the first n places of an array, copied -/
def gCpy (w : gT) (a b n : Nat) : gT := gUA w b (fun k => if k < n then w.1 a k else w.1 b k)
section GC
variable {α : Type} {S : gS} {cl : List vw_C} {Ts : List Cond} {own : String} {cc : ByteArray} {nL : Nat} {ret : Option FieldType} {rm : Room} {fin : α → Option Int32 × gT} {κ : gC} {pc : Nat} {L : List (Nat × Value)} {st : List Value} {w : gT} {t t1 t2 : Option α}

theorem g_if_eq (ok : gOk S cl Ts own cc nL ret κ) {x : Int32} {off : Int} {q g : Nat} (hd : decode cc pc = .ok (.ifCond .eq off, 3)) (hq : pc + 3 = q) (hg : (pc : Int) + off = (g : Int)) (kt : gJ S cl rm nL fin κ g L st w t1) (kf : gJ S cl rm nL fin κ q L st w t2) : gJ S cl rm nL fin κ pc L (.int x :: st) w (if x = (nI 0) then t1 else t2) := by
  obtain ⟨p, l, e, s, m, args, below, meth, c, D, ad, ac⟩ := κ
  subst hq
  intro a ha H locs ls hP hS hl
  exact lv_if_eq ok.1 ok.2.1 hd hg (fun hc => kt a ((g_ite ha).1 hc) H locs ls hP hS hl) (fun hc => kf a ((g_ite ha).2 hc) H locs ls hP hS hl)
theorem g_if_ne (ok : gOk S cl Ts own cc nL ret κ) {x : Int32} {off : Int} {q g : Nat} (hd : decode cc pc = .ok (.ifCond .ne off, 3)) (hq : pc + 3 = q) (hg : (pc : Int) + off = (g : Int)) (kt : gJ S cl rm nL fin κ g L st w t2) (kf : gJ S cl rm nL fin κ q L st w t1) : gJ S cl rm nL fin κ pc L (.int x :: st) w (if x = (nI 0) then t1 else t2) := by
  obtain ⟨p, l, e, s, m, args, below, meth, c, D, ad, ac⟩ := κ
  subst hq
  intro a ha H locs ls hP hS hl
  exact lv_if_ne ok.1 ok.2.1 hd hg (fun hc => kt a ((g_ite ha).2 hc) H locs ls hP hS hl) (fun hc => kf a ((g_ite ha).1 hc) H locs ls hP hS hl)
theorem g_if_lt (ok : gOk S cl Ts own cc nL ret κ) {x : Int32} {off : Int} {q g : Nat} (hd : decode cc pc = .ok (.ifCond .lt off, 3)) (hq : pc + 3 = q) (hg : (pc : Int) + off = (g : Int)) (kt : gJ S cl rm nL fin κ g L st w t1) (kf : gJ S cl rm nL fin κ q L st w t2) : gJ S cl rm nL fin κ pc L (.int x :: st) w (if x < (nI 0) then t1 else t2) := by
  obtain ⟨p, l, e, s, m, args, below, meth, c, D, ad, ac⟩ := κ
  subst hq
  intro a ha H locs ls hP hS hl
  exact lv_if_lt ok.1 ok.2.1 hd hg (fun hc => kt a ((g_ite ha).1 hc) H locs ls hP hS hl) (fun hc => kf a ((g_ite ha).2 hc) H locs ls hP hS hl)
theorem g_if_ge (ok : gOk S cl Ts own cc nL ret κ) {x : Int32} {off : Int} {q g : Nat} (hd : decode cc pc = .ok (.ifCond .ge off, 3)) (hq : pc + 3 = q) (hg : (pc : Int) + off = (g : Int)) (kt : gJ S cl rm nL fin κ g L st w t1) (kf : gJ S cl rm nL fin κ q L st w t2) : gJ S cl rm nL fin κ pc L (.int x :: st) w (if (nI 0) ≤ x then t1 else t2) := by
  obtain ⟨p, l, e, s, m, args, below, meth, c, D, ad, ac⟩ := κ
  subst hq
  intro a ha H locs ls hP hS hl
  exact lv_if_ge ok.1 ok.2.1 hd hg (fun hc => kt a ((g_ite ha).1 hc) H locs ls hP hS hl) (fun hc => kf a ((g_ite ha).2 hc) H locs ls hP hS hl)
theorem g_if_gt (ok : gOk S cl Ts own cc nL ret κ) {x : Int32} {off : Int} {q g : Nat} (hd : decode cc pc = .ok (.ifCond .gt off, 3)) (hq : pc + 3 = q) (hg : (pc : Int) + off = (g : Int)) (kt : gJ S cl rm nL fin κ g L st w t1) (kf : gJ S cl rm nL fin κ q L st w t2) : gJ S cl rm nL fin κ pc L (.int x :: st) w (if (nI 0) < x then t1 else t2) := by
  obtain ⟨p, l, e, s, m, args, below, meth, c, D, ad, ac⟩ := κ
  subst hq
  intro a ha H locs ls hP hS hl
  exact lv_if_gt ok.1 ok.2.1 hd hg (fun hc => kt a ((g_ite ha).1 hc) H locs ls hP hS hl) (fun hc => kf a ((g_ite ha).2 hc) H locs ls hP hS hl)
theorem g_if_le (ok : gOk S cl Ts own cc nL ret κ) {x : Int32} {off : Int} {q g : Nat} (hd : decode cc pc = .ok (.ifCond .le off, 3)) (hq : pc + 3 = q) (hg : (pc : Int) + off = (g : Int)) (kt : gJ S cl rm nL fin κ g L st w t1) (kf : gJ S cl rm nL fin κ q L st w t2) : gJ S cl rm nL fin κ pc L (.int x :: st) w (if x ≤ (nI 0) then t1 else t2) := by
  obtain ⟨p, l, e, s, m, args, below, meth, c, D, ad, ac⟩ := κ
  subst hq
  intro a ha H locs ls hP hS hl
  exact lv_if_le ok.1 ok.2.1 hd hg (fun hc => kt a ((g_ite ha).1 hc) H locs ls hP hS hl) (fun hc => kf a ((g_ite ha).2 hc) H locs ls hP hS hl)
theorem g_icmp_eq (ok : gOk S cl Ts own cc nL ret κ) {x y : Int32} {off : Int} {q g : Nat} (hd : decode cc pc = .ok (.if_icmp .eq off, 3)) (hq : pc + 3 = q) (hg : (pc : Int) + off = (g : Int)) (kt : gJ S cl rm nL fin κ g L st w t1) (kf : gJ S cl rm nL fin κ q L st w t2) : gJ S cl rm nL fin κ pc L (.int y :: .int x :: st) w (if x = y then t1 else t2) := by
  obtain ⟨p, l, e, s, m, args, below, meth, c, D, ad, ac⟩ := κ
  subst hq
  intro a ha H locs ls hP hS hl
  exact lv_icmp_eq ok.1 ok.2.1 hd hg (fun hc => kt a ((g_ite ha).1 hc) H locs ls hP hS hl) (fun hc => kf a ((g_ite ha).2 hc) H locs ls hP hS hl)
theorem g_icmp_ne (ok : gOk S cl Ts own cc nL ret κ) {x y : Int32} {off : Int} {q g : Nat} (hd : decode cc pc = .ok (.if_icmp .ne off, 3)) (hq : pc + 3 = q) (hg : (pc : Int) + off = (g : Int)) (kt : gJ S cl rm nL fin κ g L st w t2) (kf : gJ S cl rm nL fin κ q L st w t1) : gJ S cl rm nL fin κ pc L (.int y :: .int x :: st) w (if x = y then t1 else t2) := by
  obtain ⟨p, l, e, s, m, args, below, meth, c, D, ad, ac⟩ := κ
  subst hq
  intro a ha H locs ls hP hS hl
  exact lv_icmp_ne ok.1 ok.2.1 hd hg (fun hc => kt a ((g_ite ha).2 hc) H locs ls hP hS hl) (fun hc => kf a ((g_ite ha).1 hc) H locs ls hP hS hl)
theorem g_icmp_lt (ok : gOk S cl Ts own cc nL ret κ) {x y : Int32} {off : Int} {q g : Nat} (hd : decode cc pc = .ok (.if_icmp .lt off, 3)) (hq : pc + 3 = q) (hg : (pc : Int) + off = (g : Int)) (kt : gJ S cl rm nL fin κ g L st w t1) (kf : gJ S cl rm nL fin κ q L st w t2) : gJ S cl rm nL fin κ pc L (.int y :: .int x :: st) w (if x < y then t1 else t2) := by
  obtain ⟨p, l, e, s, m, args, below, meth, c, D, ad, ac⟩ := κ
  subst hq
  intro a ha H locs ls hP hS hl
  exact lv_icmp_lt ok.1 ok.2.1 hd hg (fun hc => kt a ((g_ite ha).1 hc) H locs ls hP hS hl) (fun hc => kf a ((g_ite ha).2 hc) H locs ls hP hS hl)
theorem g_icmp_ge (ok : gOk S cl Ts own cc nL ret κ) {x y : Int32} {off : Int} {q g : Nat} (hd : decode cc pc = .ok (.if_icmp .ge off, 3)) (hq : pc + 3 = q) (hg : (pc : Int) + off = (g : Int)) (kt : gJ S cl rm nL fin κ g L st w t1) (kf : gJ S cl rm nL fin κ q L st w t2) : gJ S cl rm nL fin κ pc L (.int y :: .int x :: st) w (if y ≤ x then t1 else t2) := by
  obtain ⟨p, l, e, s, m, args, below, meth, c, D, ad, ac⟩ := κ
  subst hq
  intro a ha H locs ls hP hS hl
  exact lv_icmp_ge ok.1 ok.2.1 hd hg (fun hc => kt a ((g_ite ha).1 hc) H locs ls hP hS hl) (fun hc => kf a ((g_ite ha).2 hc) H locs ls hP hS hl)
theorem g_icmp_gt (ok : gOk S cl Ts own cc nL ret κ) {x y : Int32} {off : Int} {q g : Nat} (hd : decode cc pc = .ok (.if_icmp .gt off, 3)) (hq : pc + 3 = q) (hg : (pc : Int) + off = (g : Int)) (kt : gJ S cl rm nL fin κ g L st w t1) (kf : gJ S cl rm nL fin κ q L st w t2) : gJ S cl rm nL fin κ pc L (.int y :: .int x :: st) w (if y < x then t1 else t2) := by
  obtain ⟨p, l, e, s, m, args, below, meth, c, D, ad, ac⟩ := κ
  subst hq
  intro a ha H locs ls hP hS hl
  exact lv_icmp_gt ok.1 ok.2.1 hd hg (fun hc => kt a ((g_ite ha).1 hc) H locs ls hP hS hl) (fun hc => kf a ((g_ite ha).2 hc) H locs ls hP hS hl)
theorem g_icmp_le (ok : gOk S cl Ts own cc nL ret κ) {x y : Int32} {off : Int} {q g : Nat} (hd : decode cc pc = .ok (.if_icmp .le off, 3)) (hq : pc + 3 = q) (hg : (pc : Int) + off = (g : Int)) (kt : gJ S cl rm nL fin κ g L st w t1) (kf : gJ S cl rm nL fin κ q L st w t2) : gJ S cl rm nL fin κ pc L (.int y :: .int x :: st) w (if x ≤ y then t1 else t2) := by
  obtain ⟨p, l, e, s, m, args, below, meth, c, D, ad, ac⟩ := κ
  subst hq
  intro a ha H locs ls hP hS hl
  exact lv_icmp_le ok.1 ok.2.1 hd hg (fun hc => kt a ((g_ite ha).1 hc) H locs ls hP hS hl) (fun hc => kf a ((g_ite ha).2 hc) H locs ls hP hS hl)
/-- a switch, at one of its numbers -/
theorem g_tsIn (ok : gOk S cl Ts own cc nL ret κ) {x v : Int32} {dflt lo hi : Int} {offs : Array Int} {len g : Nat} (hd : decode cc pc = .ok (.tableswitch dflt lo hi offs, len)) (h1 : ¬ v.toInt < lo) (h2 : ¬ hi < v.toInt) {off : Int} (ho : offs[(v.toInt - lo).toNat]? = some off) (hg : (pc : Int) + off = (g : Int)) (hx : x = v) (k : gJ S cl rm nL fin κ g L st w t) : gJ S cl rm nL fin κ pc L (.int x :: st) w t := by
  obtain ⟨p, l, e, s, m, args, below, meth, c, D, ad, ac⟩ := κ
  subst hx
  intro a ha H locs ls hP hS hl
  exact lv_tableIn ok.1 ok.2.1 hd h1 h2 ho hg (k a ha H locs ls hP hS hl)
theorem g_tsOut (ok : gOk S cl Ts own cc nL ret κ) {x : Int32} {dflt lo hi : Int} {offs : Array Int} {len g : Nat} (hd : decode cc pc = .ok (.tableswitch dflt lo hi offs, len)) (h : x.toInt < lo ∨ hi < x.toInt) (hg : (pc : Int) + dflt = (g : Int)) (k : gJ S cl rm nL fin κ g L st w t) : gJ S cl rm nL fin κ pc L (.int x :: st) w t := by
  obtain ⟨p, l, e, s, m, args, below, meth, c, D, ad, ac⟩ := κ
  intro a ha H locs ls hP hS hl
  exact lv_tableOut ok.1 ok.2.1 hd h hg (k a ha H locs ls hP hS hl)
/-- a case of an answer, asked once -/
theorem g_if {c0 : Prop} [Decidable c0] (kt : c0 → gJ S cl rm nL fin κ pc L st w t1) (kf : ¬ c0 → gJ S cl rm nL fin κ pc L st w t2) : gJ S cl rm nL fin κ pc L st w (if c0 then t1 else t2) := by
  by_cases hc : c0
  · rw [if_pos hc]; exact kt hc
  · rw [if_neg hc]; exact kf hc
/-- a field's facts: where its link stands among the words, which field of which of the classes it is -/
def gFl (cl : List vw_C) (Ts : List Cond) (own : String) (index ci j : Nat) : Prop := ∃ (C : String) (T : u_T) (N : Nat), cl[ci]? = some (C, T, N) ∧ j < N ∧ Cond.fieldLink own index C (T j).2.1 (T j).2.2.1 ∈ Ts ∧ (T j).1 = C ∧ ∀ w ∈ u_ws C T N, w ∈ Ts
def gFp (cl : List vw_C) (Ts : List Cond) (own : String) (index ci j : Nat) (ty : FieldType) : Prop := ∃ (C : String) (T : u_T) (N : Nat) (ty0 : Nat → FieldType), cl[ci]? = some (C, T, N) ∧ j < N ∧ Cond.fieldLink own index C (T j).2.1 (T j).2.2.1 ∈ Ts ∧ (T j).1 = C ∧ (∀ w ∈ u_ws C T N, w ∈ Ts) ∧ (∀ k, k < N → parseFieldDescriptor (T k).2.2.1 = some (ty0 k)) ∧ (∀ a, a < N → ∀ b, b < N → a ≠ b → (T a).2.1 ≠ (T b).2.1) ∧ (T j).2.2.2 = false ∧ parseFieldDescriptor (T j).2.2.1 = some ty
theorem g_inws {C : String} {T : u_T} {N : Nat} {Ts : List Cond} (is : List Nat) (h : (List.range N).all (fun k => decide (Ts[is.getD k 0]? = some (u_lay C T k))) = true) : ∀ w ∈ u_ws C T N, w ∈ Ts := by
  intro w hw
  obtain ⟨k, hk, rfl⟩ := List.mem_map.mp hw
  have h1 := List.all_eq_true.mp h k hk
  exact List.mem_of_getElem? (of_decide_eq_true h1)
theorem g_getI (ok : gOk S cl Ts own cc nL ret κ) {index ci j b N : Nat} {rs : List (Option Nat)} {q : Nat} (hd : decode cc pc = .ok (.getfield index, 3)) (hq : pc + 3 = q) (hf : gFl cl Ts own index ci j) (hS0 : S[b]? = some (.inr (ci, rs))) (hj : rs[j]? = some none) (k : gJ S cl rm nL fin κ q L (.int (w.1 b j) :: st) w t) : gJ S cl rm nL fin κ pc L (.ref b :: st) w t := by
  obtain ⟨p, l, e, s, m, args, below, meth, c, D, ad, ac⟩ := κ
  subst hq
  intro a ha H locs ls hP hS hl
  obtain ⟨C, T, N, hc, hjN, hlk, hdc, hin⟩ := hf
  exact va_get (v := .int (w.1 b j)) ok.1 ok.2.1 ok.2.2.2.2.2.2.1 hin ok.2.2.2.2.2.1 ok.2.2.2.2.2.2.2.1.1 hP b (gWs_at hS0) hc j hjN (ok.2.2.2.2.2.2.1 _ hlk) (fun x hx => by rw [hdc] at hx; exact hx) (by rw [List.getElem?_mapIdx, hj]; rfl) hd (k a ha H locs ls hP hS hl)
theorem g_getR (ok : gOk S cl Ts own cc nL ret κ) {index ci j b d : Nat} {rs : List (Option Nat)} {q : Nat} (hd : decode cc pc = .ok (.getfield index, 3)) (hq : pc + 3 = q) (hf : gFl cl Ts own index ci j) (hS0 : S[b]? = some (.inr (ci, rs))) (hj : rs[j]? = some (some d)) (k : gJ S cl rm nL fin κ q L (.ref d :: st) w t) : gJ S cl rm nL fin κ pc L (.ref b :: st) w t := by
  obtain ⟨p, l, e, s, m, args, below, meth, c, D, ad, ac⟩ := κ
  subst hq
  intro a ha H locs ls hP hS hl
  obtain ⟨C, T, N, hc, hjN, hlk, hdc, hin⟩ := hf
  exact va_get (v := .ref (ad d)) ok.1 ok.2.1 ok.2.2.2.2.2.2.1 hin ok.2.2.2.2.2.1 ok.2.2.2.2.2.2.2.1.1 hP b (gWs_at hS0) hc j hjN (ok.2.2.2.2.2.2.1 _ hlk) (fun x hx => by rw [hdc] at hx; exact hx) (by rw [List.getElem?_mapIdx, hj]; rfl) hd (k a ha H locs ls hP hS hl)
theorem g_mapset {ad : Nat → Nat} {f : Nat → Int32} {j : Nat} {x : Int32} {rs : List (Option Nat)} (hj : rs[j]? = some none) : (rs.mapIdx (gF ad f)).set j (.int x) = rs.mapIdx (gF ad (upd f j x)) := by
  apply List.ext_getElem?
  intro i
  by_cases hi : i = j
  · subst hi
    rw [List.getElem?_set_self (by simpa using (List.getElem?_eq_some_iff.mp hj).1), List.getElem?_mapIdx, hj]
    simp [gF, upd]
  · rw [List.getElem?_set_ne (Ne.symm hi), List.getElem?_mapIdx, List.getElem?_mapIdx]
    cases rs[i]? with
    | none => rfl
    | some r => cases r <;> simp [gF, upd, hi]
theorem g_put (ok : gOk S cl Ts own cc nL ret κ) {index ci j b : Nat} {ty : FieldType} {x : Int32} {rs : List (Option Nat)} {q : Nat} (hd : decode cc pc = .ok (.putfield index, 3)) (hq : pc + 3 = q) (hf : gFp cl Ts own index ci j ty) (hS0 : S[b]? = some (.inr (ci, rs))) (hj : rs[j]? = some none) (hn : narrow ty (.int x) = .int x) (hfit : fits ty (.int x) = true) (k : gJ S cl rm nL fin κ q L st (gU w b j x) t) : gJ S cl rm nL fin κ pc L (.int x :: .ref b :: st) w t := by
  obtain ⟨p, l, e, s, m, args, below, meth, c, D, ad, ac⟩ := κ
  subst hq
  intro a ha H locs ls hP hS hl
  obtain ⟨C, T, N, ty0, hc, hjN, hlk, hdc, hin, hty, hnm, hfi, hpd⟩ := hf
  refine va_put (v := .int x) (ty := ty) ok.1 ok.2.1 ok.2.2.2.2.2.2.1 hin ty0 hty hnm ok.2.2.2.2.2.1 ok.2.2.2.2.2.2.2.1.1 hP (gWs_D ok.2.2.2.2.2.2.2.2.1 gA_in) hS b (gWs_at hS0) hc j hjN (ok.2.2.2.2.2.2.1 _ hlk) (fun x hx => by rw [hdc] at hx; exact hx) hfi hpd hn hfit (by simpa using (List.getElem?_eq_some_iff.mp hj).1) hd (fun H1 locs1 hP1 _ hS1 => k a ha H1 locs1 ls ?_ hS1 hl)
  rw [← gWs_set (w := w) hS0 (fun i d' _ hi => gE_U hi)]
  rw [g_mapset hj] at hP1
  show va_P D cl ((gWs S ad ac w).set b (ad b, .inr (ci, rs.mapIdx (gF ad ((gU w b j x).1 b))))) H1
  rw [gU_self]
  exact hP1
theorem g_guard {i : Int32} {n : Nat} {a : α} (h : gG i n t = some a) : vp_in i n ∧ t = some a := by
  unfold gG at h
  by_cases hc : i < 0 ∨ n ≤ i.toNatClampNeg
  · rw [if_pos hc] at h; cases h
  · rw [if_neg hc] at h; exact ⟨hc, h⟩
theorem g_iald (ok : gOk S cl Ts own cc nL ret κ) {b n : Nat} {i : Int32} {q : Nat} (hd : decode cc pc = .ok (.iaload, 1)) (hq : pc + 1 = q) (hS0 : S[b]? = some (.inl (.int, n))) (k : gJ S cl rm nL fin κ q L (.int (w.1 b i.toNatClampNeg) :: st) w t) : gJ S cl rm nL fin κ pc L (.int i :: .ref b :: st) w (gG i n t) := by
  obtain ⟨p, l, e, s, m, args, below, meth, c, D, ad, ac⟩ := κ
  subst hq
  intro a ha H locs ls hP hS hl
  obtain ⟨hin, ha⟩ := g_guard ha
  exact va_iald ok.1 ok.2.1 (ok.2.2.2.2.2.2.2.1.one hS0) hP b 0 (f := w.1 b) (gWs_at hS0) rfl hin hd (k a ha H locs ls hP hS hl)
theorem g_bald (ok : gOk S cl Ts own cc nL ret κ) {b n : Nat} {i : Int32} {q : Nat} (hd : decode cc pc = .ok (.baload, 1)) (hq : pc + 1 = q) (hS0 : S[b]? = some (.inl (.byte, n))) (k : gJ S cl rm nL fin κ q L (.int (w.1 b i.toNatClampNeg) :: st) w t) : gJ S cl rm nL fin κ pc L (.int i :: .ref b :: st) w (gG i n t) := by
  obtain ⟨p, l, e, s, m, args, below, meth, c, D, ad, ac⟩ := κ
  subst hq
  intro a ha H locs ls hP hS hl
  obtain ⟨hin, ha⟩ := g_guard ha
  exact va_bald ok.1 ok.2.1 (ok.2.2.2.2.2.2.2.1.one hS0) hP b 0 (f := w.1 b) (gWs_at hS0) rfl hin hd (k a ha H locs ls hP hS hl)
theorem g_zald (ok : gOk S cl Ts own cc nL ret κ) {b n : Nat} {i : Int32} {q : Nat} (hd : decode cc pc = .ok (.baload, 1)) (hq : pc + 1 = q) (hS0 : S[b]? = some (.inl (.boolean, n))) (k : gJ S cl rm nL fin κ q L (.int (w.1 b i.toNatClampNeg) :: st) w t) : gJ S cl rm nL fin κ pc L (.int i :: .ref b :: st) w (gG i n t) := by
  obtain ⟨p, l, e, s, m, args, below, meth, c, D, ad, ac⟩ := κ
  subst hq
  intro a ha H locs ls hP hS hl
  obtain ⟨hin, ha⟩ := g_guard ha
  exact va_zald ok.1 ok.2.1 (ok.2.2.2.2.2.2.2.1.one hS0) hP b 0 (f := w.1 b) (gWs_at hS0) rfl hin hd (k a ha H locs ls hP hS hl)
theorem g_lald (ok : gOk S cl Ts own cc nL ret κ) {b n : Nat} {i : Int32} {q : Nat} (hd : decode cc pc = .ok (.laload, 1)) (hq : pc + 1 = q) (hS0 : S[b]? = some (.inl (.long, n))) (k : gJ S cl rm nL fin κ q L (.long (w.2 i.toNatClampNeg) :: st) w t) : gJ S cl rm nL fin κ pc L (.int i :: .ref b :: st) w (gG i n t) := by
  obtain ⟨p, l, e, s, m, args, below, meth, c, D, ad, ac⟩ := κ
  subst hq
  intro a ha H locs ls hP hS hl
  obtain ⟨hin, ha⟩ := g_guard ha
  exact va_lald ok.1 ok.2.1 (ok.2.2.2.2.2.2.2.1.one hS0) hP b 0 (f := w.2) (gWs_at hS0) rfl hin hd (k a ha H locs ls hP hS hl)
theorem g_putA {D : va_G} {ad : Nat → Nat} {ac : Nat → ClassId} {H1 : Heap} {b n i : Nat} {ty : FieldType} {x : Int32} (hty : ∀ f g, gAr ty f g = .inl f) (hS0 : S[b]? = some (.inl (ty, n))) (h : va_P D cl ((gWs S ad ac w).set b (ad b, .inl (ac b, n, .inl (upd (w.1 b) i x)))) H1) : va_P D cl (gWs S ad ac (gU w b i x)) H1 := by
  rw [← gWs_set (w := w) hS0 (fun j d' _ hj => gE_U hj)]
  show va_P D cl ((gWs S ad ac w).set b (ad b, .inl (ac b, n, gAr ty ((gU w b i x).1 b) (gU w b i x).2))) H1
  rw [hty, gU_self]
  exact h
theorem g_iast (ok : gOk S cl Ts own cc nL ret κ) {b n : Nat} {i x : Int32} {q : Nat} (hd : decode cc pc = .ok (.iastore, 1)) (hq : pc + 1 = q) (hS0 : S[b]? = some (.inl (.int, n))) (k : gJ S cl rm nL fin κ q L st (gU w b i.toNatClampNeg x) t) : gJ S cl rm nL fin κ pc L (.int x :: .int i :: .ref b :: st) w (gG i n t) := by
  obtain ⟨p, l, e, s, m, args, below, meth, c, D, ad, ac⟩ := κ
  subst hq
  intro a ha H locs ls hP hS hl
  obtain ⟨hin, ha⟩ := g_guard ha
  exact va_iast ok.1 ok.2.1 (ok.2.2.2.2.2.2.2.1.one hS0) hP (gWs_D ok.2.2.2.2.2.2.2.2.1 gA_in) hS b 0 (f := w.1 b) (gWs_at hS0) rfl hin hd (fun H1 locs1 hP1 _ hS1 => k a ha H1 locs1 ls (g_putA (fun _ _ => rfl) hS0 hP1) hS1 hl)
theorem g_bast (ok : gOk S cl Ts own cc nL ret κ) {b n : Nat} {i x : Int32} {q : Nat} (hd : decode cc pc = .ok (.bastore, 1)) (hq : pc + 1 = q) (hS0 : S[b]? = some (.inl (.byte, n))) (k : gJ S cl rm nL fin κ q L st (gU w b i.toNatClampNeg x.toInt8.toInt32) t) : gJ S cl rm nL fin κ pc L (.int x :: .int i :: .ref b :: st) w (gG i n t) := by
  obtain ⟨p, l, e, s, m, args, below, meth, c, D, ad, ac⟩ := κ
  subst hq
  intro a ha H locs ls hP hS hl
  obtain ⟨hin, ha⟩ := g_guard ha
  exact va_bast ok.1 ok.2.1 (ok.2.2.2.2.2.2.2.1.one hS0) hP (gWs_D ok.2.2.2.2.2.2.2.2.1 gA_in) hS b 0 (f := w.1 b) (gWs_at hS0) rfl hin hd (fun H1 locs1 hP1 _ hS1 => k a ha H1 locs1 ls (g_putA (fun _ _ => rfl) hS0 (by rw [vp_nar_byte] at hP1; exact hP1)) hS1 hl)
theorem g_zast (ok : gOk S cl Ts own cc nL ret κ) {b n : Nat} {i x : Int32} {q : Nat} (hd : decode cc pc = .ok (.bastore, 1)) (hq : pc + 1 = q) (hS0 : S[b]? = some (.inl (.boolean, n))) (k : gJ S cl rm nL fin κ q L st (gU w b i.toNatClampNeg (x &&& 1)) t) : gJ S cl rm nL fin κ pc L (.int x :: .int i :: .ref b :: st) w (gG i n t) := by
  obtain ⟨p, l, e, s, m, args, below, meth, c, D, ad, ac⟩ := κ
  subst hq
  intro a ha H locs ls hP hS hl
  obtain ⟨hin, ha⟩ := g_guard ha
  exact va_zast ok.1 ok.2.1 (ok.2.2.2.2.2.2.2.1.one hS0) hP (gWs_D ok.2.2.2.2.2.2.2.2.1 gA_in) hS b 0 (f := w.1 b) (gWs_at hS0) rfl hin hd (fun H1 locs1 hP1 _ hS1 => k a ha H1 locs1 ls (g_putA (fun _ _ => rfl) hS0 hP1) hS1 hl)
theorem gE_UL {ad : Nat → Nat} {ac : Nat → ClassId} {i : Nat} {v : Int64} {j : Nat} {d : gD1} (h : ∀ n, d ≠ .inl (.long, n)) : gE ad ac (gUL w i v) j d = gE ad ac w j d := by
  cases d with
  | inr q => rfl
  | inl q =>
    obtain ⟨ty, n⟩ := q
    cases ty <;> first | rfl | exact absurd rfl (h n)
theorem g_last (ok : gOk S cl Ts own cc nL ret κ) {b n : Nat} {i : Int32} {x : Int64} {q : Nat} (hd : decode cc pc = .ok (.lastore, 1)) (hq : pc + 1 = q) (hS0 : S[b]? = some (.inl (.long, n))) (h1 : ∀ j n', S[j]? = some (.inl (.long, n')) → j = b) (k : gJ S cl rm nL fin κ q L st (gUL w i.toNatClampNeg x) t) : gJ S cl rm nL fin κ pc L (.long x :: .int i :: .ref b :: st) w (gG i n t) := by
  obtain ⟨p, l, e, s, m, args, below, meth, c, D, ad, ac⟩ := κ
  subst hq
  intro a ha H locs ls hP hS hl
  obtain ⟨hin, ha⟩ := g_guard ha
  refine va_last ok.1 ok.2.1 (ok.2.2.2.2.2.2.2.1.one hS0) hP (gWs_D ok.2.2.2.2.2.2.2.2.1 gA_in) hS b 0 (f := w.2) (gWs_at hS0) rfl hin hd (fun H1 locs1 hP1 _ hS1 => k a ha H1 locs1 ls ?_ hS1 hl)
  rw [← gWs_set (w := w) hS0 (fun j d' hd' hj => gE_UL (fun n' e => hj (h1 j n' (by rw [hd', e]))))]
  exact hP1
theorem g_alen (ok : gOk S cl Ts own cc nL ret κ) {b n : Nat} {ty : FieldType} {v : Int32} {q : Nat} (hd : decode cc pc = .ok (.arraylength, 1)) (hq : pc + 1 = q) (hS0 : S[b]? = some (.inl (ty, n))) (hv : Int32.ofNat n = v) (k : gJ S cl rm nL fin κ q L (.int v :: st) w t) : gJ S cl rm nL fin κ pc L (.ref b :: st) w t := by
  obtain ⟨p, l, e, s, m, args, below, meth, c, D, ad, ac⟩ := κ
  subst hq
  intro a ha H locs ls hP hS hl
  exact va_alen ok.1 ok.2.1 (ok.2.2.2.2.2.2.2.1.one hS0) hP b 0 (gWs_at hS0) (ty := ty) rfl hv hd (k a ha H locs ls hP hS hl)
end GC
section GX
variable {S : gS} {cl : List vw_C} {Ts : List Cond} {own : String} {cc : ByteArray} {nL : Nat} {ret : Option FieldType} {rm : Room} {κ : gC} {pc : Nat} {L : List (Nat × Value)} {st : List Value} {w : gT}
theorem g_iret (ok : gOk S cl Ts own cc nL (some .int) κ) {x : Int32} (hd : decode cc pc = .ok (.ireturn, 1)) : gJ S cl rm nL gi κ pc L [.int x] w (some (x, w)) := by
  obtain ⟨p, l, e, s, m, args, below, meth, c, D, ad, ac⟩ := κ
  intro a ha H locs ls hP hS hl
  cases ha
  exact W.iret (v := x) ok.1 ok.2.1 ok.2.2.2.1 (fun t ht _ => ⟨⟨x, w, rfl, ⟨rfl, rfl⟩, (show va_P D cl (gWs S ad ac w) t.heap by rw [ht]; exact hP)⟩, hS.F ht⟩) hS.2.2 hd (hlocks := ok.2.2.2.2.1)
theorem g_zret (ok : gOk S cl Ts own cc nL (some .boolean) κ) {x : Int32} (hd : decode cc pc = .ok (.ireturn, 1)) (hx : narrow .boolean (.int x) = .int x) : gJ S cl rm nL gi κ pc L [.int x] w (some (x, w)) := by
  obtain ⟨p, l, e, s, m, args, below, meth, c, D, ad, ac⟩ := κ
  intro a ha H locs ls hP hS hl
  cases ha
  exact W.zret (v := x) ok.1 ok.2.1 ok.2.2.2.1 hx (fun t ht _ => ⟨⟨x, w, rfl, ⟨rfl, rfl⟩, (show va_P D cl (gWs S ad ac w) t.heap by rw [ht]; exact hP)⟩, hS.F ht⟩) hS.2.2 hd (hlocks := ok.2.2.2.2.1)
theorem g_zretv (ok : gOk S cl Ts own cc nL (some .boolean) κ) {x : Int32} (hd : decode cc pc = .ok (.ireturn, 1)) : gJ S cl rm nL gi κ pc L [.int x] w (if x = nI 0 ∨ x = nI 1 then some (x, w) else none) := by
  by_cases hx : x = nI 0 ∨ x = nI 1
  · rw [if_pos hx]
    exact g_zret ok hd (by rcases hx with rfl | rfl <;> rfl)
  · rw [if_neg hx]
    exact gJ_none
theorem g_vret (ok : gOk S cl Ts own cc nL none κ) (hd : decode cc pc = .ok (.return_, 1)) : gJ S cl rm nL gv κ pc L [] w (some w) := by
  obtain ⟨p, l, e, s, m, args, below, meth, c, D, ad, ac⟩ := κ
  intro a ha H locs ls hP hS hl
  cases ha
  exact W.vret ok.1 ok.2.1 ok.2.2.2.1 (fun t ht _ => ⟨⟨w, rfl, rfl, (show va_P D cl (gWs S ad ac w) t.heap by rw [ht]; exact hP)⟩, hS.F ht⟩) hS.2.2 hd (hlocks := ok.2.2.2.2.1)
end GX
section GCALL
variable {α : Type} {S : gS} {cl : List vw_C} {Ts : List Cond} {own : String} {cc : ByteArray} {nL : Nat} {ret : Option FieldType} {rm : Room} {fin : α → Option Int32 × gT} {κ : gC} {pc : Nat} {L : List (Nat × Value)} {st : List Value} {w : gT} {t : Option α}
/-- an instance method's call: its link, the words of it, its room, how many arguments -/
def gCl (Ts : List Cond) (own : String) (index : Nat) (y : MethodName) (cy : ByteArray) (ny : Nat) (ry : Option FieldType) (n : Nat) : Prop := Cond.methodLink own index y ∈ Ts ∧ Cond.instanceMethod y ∈ Ts ∧ Cond.selects y.cls y y ∈ Ts ∧ Cond.initialized y.cls ∈ Ts ∧ Cond.code y cy ny ry ∈ Ts ∧ (y.cls ≠ "java/lang/invoke/MethodHandle" ∧ y.cls ≠ "java/lang/invoke/VarHandle" ∧ (parseMethodDescriptor y.desc).map (fun d => d.parameters.length) = some n)
def gCs (Ts : List Cond) (own : String) (index : Nat) (y : MethodName) (cy : ByteArray) (ny : Nat) (ry : Option FieldType) (n : Nat) : Prop := Cond.methodLink own index y ∈ Ts ∧ Cond.static y ∈ Ts ∧ Cond.initialized y.cls ∈ Ts ∧ Cond.code y cy ny ry ∈ Ts ∧ (y.cls ≠ "java/lang/invoke/MethodHandle" ∧ y.cls ≠ "java/lang/invoke/VarHandle" ∧ (parseMethodDescriptor y.desc).map (fun d => d.parameters.length) = some n)
def gRm (rm ry : Room) (ny : Nat) : Prop := ry.cells = 0 ∧ ry.slots = 0 ∧ ry.frames + 1 ≤ rm.frames ∧ 8 + (ny + 11) + ry.locals ≤ rm.locals
theorem g_good {Ts : List Cond} (hgood : ∀ w ∈ Ts, goodWord w = true) {ws : List Cond} (h : ∀ w ∈ ws, w ∈ Ts) : GoodIn Ts ws := fun w hw => ⟨h w hw, good_of_word (hgood w (h w hw))⟩
theorem g_goodV {index ny : Nat} {y : MethodName} {cy : ByteArray} {ry : Option FieldType} {C : String} (hgood : ∀ w ∈ Ts, goodWord w = true) (h1 : Cond.methodLink own index y ∈ Ts) (h2 : Cond.instanceMethod y ∈ Ts) (h3 : Cond.selects C y y ∈ Ts) (h4 : Cond.initialized C ∈ Ts) (h5 : Cond.code y cy ny ry ∈ Ts) : GoodIn Ts (wsV own index C y (.code y cy ny ry :: Ts)) := g_good hgood (fun z hz => by
  rcases List.mem_append.mp (show z ∈ ([.methodLink own index y, .instanceMethod y, .selects C y y, .initialized C] : List Cond) ++ (.code y cy ny ry :: Ts) from hz) with h | h
  · simp only [List.mem_cons, List.not_mem_nil, or_false] at h
    rcases h with rfl | rfl | rfl | rfl <;> assumption
  · rcases List.mem_cons.mp h with rfl | h <;> assumption)
theorem g_goodS {index ny : Nat} {y : MethodName} {cy : ByteArray} {ry : Option FieldType} (hgood : ∀ w ∈ Ts, goodWord w = true) (h1 : Cond.methodLink own index y ∈ Ts) (h2 : Cond.static y ∈ Ts) (h4 : Cond.initialized y.cls ∈ Ts) (h5 : Cond.code y cy ny ry ∈ Ts) : GoodIn Ts (va_wsS own index y (.code y cy ny ry :: Ts)) := g_good hgood (fun z hz => by
  rcases List.mem_append.mp (show z ∈ ([.methodLink own index y, .static y, .initialized y.cls] : List Cond) ++ (.code y cy ny ry :: Ts) from hz) with h | h
  · simp only [List.mem_cons, List.not_mem_nil, or_false] at h
    rcases h with rfl | rfl | rfl <;> assumption
  · rcases List.mem_cons.mp h with rfl | h <;> assumption)
theorem g_sub {ad : Nat → Nat} {H s0 : Heap} (h : s0.size ≤ H.size) : ∀ q, gA S ad H.size q → gA S ad s0.size q := fun q hq => by
  rcases hq with h1 | h1
  · exact Or.inl h1
  · exact Or.inr (Nat.le_trans h h1)
theorem g_blind {D : va_G} {ad : Nat → Nat} {ac : Nat → ClassId} {sz : Nat} {As : List Value} : FrameBlind (va_Pc As (fun U => U.heap.size = sz ∧ va_P D cl (gWs S ad ac w) U.heap ∧ gK S cl D ac U ∧ gI S ad ∧ gFz ad (gA S ad sz) U U.heap)) := fun a U g mk q => by
  obtain ⟨q0, q1, q2, q3, q4, q5⟩ := q
  exact ⟨q0, q1, q2, gK.moved (u := U) (U := U.calling g mk a) (Vm.Alike.refl U.vm) q3, q4, gFz.calling q5⟩

theorem g_callVi (ok : gOk S cl Ts own cc nL ret κ) {index : Nat} {y : MethodName} {cy : ByteArray} {ny n q : Nat} {ry : Option FieldType} {rmY : Room} {b ci : Nat} {rs : List (Option Nat)} {As stk : List Value} {tY : Option (Int32 × gT)} {f : Int32 → gT → Option α} (hgood : ∀ w ∈ Ts, goodWord w = true) (hd : decode cc pc = .ok (.invokevirtual index, 3)) (hq : pc + 3 = q) (hM : gM S cl Ts y cy ny ry rmY gi (.ref b :: As) w tY) (hf : gCl Ts own index y cy ny ry n) (hr : gRm rm rmY ny) (hb : S[b]? = some (.inr (ci, rs))) (hc : (cl[ci]?).map (fun q => q.1) = some y.cls) (hn : As.length = n) (hst : stk = As.reverse ++ .ref b :: st) (hcat : ∀ ad : Nat → Nat, ((st.map (gV ad)).map fun v => v.category).sum ≤ 8) (k : ∀ (r : Int32) (w1 : gT), gJ S cl rm nL fin κ q L (.int r :: st) w1 (f r w1)) : gJ S cl rm nL fin κ pc L stk w (gBi tY f) := by
  obtain ⟨p, l, e, s, m, args, below, meth, c, D, ad, ac⟩ := κ
  subst hq
  subst hst
  intro a ha H locs ls hP hS hl
  obtain ⟨hx, hb0, hml, hrt, hlk, hown, hts, hK, hI, hFz⟩ := ok
  obtain ⟨hf1, hf2, hf3, hf4, hf5, hf6⟩ := hf
  cases hY : tY with
  | none => rw [hY] at ha; cases ha
  | some x =>
  rw [hY] at ha
  have ha : f x.1 x.2 = some a := ha
  have hMet : Met l y (.code y cy ny ry :: Ts) rmY (va_Pc ((.ref b :: As).map (gV ad)) (fun U => U.heap.size = H.size ∧ va_P D cl (gWs S ad ac w) U.heap ∧ gK S cl D ac U ∧ gI S ad ∧ gFz ad (gA S ad H.size) U U.heap)) (va_Qi (S := gT) (fun r u => r = x.1 ∧ u = x.2) (fun u t => va_P D cl (gWs S ad ac u) t.heap) (gA S ad H.size)) 0 0 (gA S ad H.size) := hM x hY l D ad ac H.size
  cases hq1 : cl[ci]? with
  | none => rw [hq1] at hc; cases hc
  | some q1 =>
  rw [hq1] at hc
  have hcn : q1.1 = y.cls := Option.some.inj hc
  have hrv := va_recv (ws := gWs S ad ac w) hK.1 hP hq1 (gWs_at (ad := ad) (ac := ac) (w := w) hb)
  rw [hcn] at hrv
  refine va_calli (va_runV (As := As.map (gV ad)) (rest := st.map (gV ad)) (g := F0 m pc ls ((As.reverse ++ .ref b :: st).map (gV ad))) (n := n) (ws := .code y cy ny ry :: Ts) (own := own) (index := index) (bytes := cy) (maxL := ny) (ret := ry) ⟨hx, hb0, hml, hown, hts⟩ hMet (cwV (own := own) (index := index) (C := y.cls) (y := y) (bytes := cy) (maxL := ny) (ret := ry) (ws := .code y cy ny ry :: Ts) (ws' := Ts) (rm := rmY) n hts (g_goodV hgood hf1 hf2 hf3 hf4 hf5) rfl hr.1 hr.2.1 ⟨rfl, hf6⟩ ⟨hr.2.2.1, hr.2.2.2⟩) ⟨g_blind, hrv, fun U hU hW => ⟨by simp [gV], by rw [hU], by rw [hU]; exact hP, hK.moved hW.alike, hI, by have hz := hFz.to hS hU hW (g_sub hS.1); rw [hU] at hz ⊢; exact hz⟩⟩ rfl (by simpa using hn) hl.1 (by simp [gV]) (lv_room (hcat ad)) hd ⟨Nat.zero_le _, Nat.zero_le _⟩) hS (fun q _ h => g_sub hS.1 q h) (g_sub hS.1) (fun r u t H1 locs1 ht hvm hpost hB hz1 hk1 hS1 => ?_)
  obtain ⟨rfl, rfl⟩ := hpost
  rw [ht] at hB
  exact k _ _ a ha H1 locs1 ls hB hS1 hl
theorem g_callVv (ok : gOk S cl Ts own cc nL ret κ) {index : Nat} {y : MethodName} {cy : ByteArray} {ny n q : Nat} {ry : Option FieldType} {rmY : Room} {b ci : Nat} {rs : List (Option Nat)} {As stk : List Value} {tY : Option (gT)} {f : gT → Option α} (hgood : ∀ w ∈ Ts, goodWord w = true) (hd : decode cc pc = .ok (.invokevirtual index, 3)) (hq : pc + 3 = q) (hM : gM S cl Ts y cy ny ry rmY gv (.ref b :: As) w tY) (hf : gCl Ts own index y cy ny ry n) (hr : gRm rm rmY ny) (hb : S[b]? = some (.inr (ci, rs))) (hc : (cl[ci]?).map (fun q => q.1) = some y.cls) (hn : As.length = n) (hst : stk = As.reverse ++ .ref b :: st) (hcat : ∀ ad : Nat → Nat, ((st.map (gV ad)).map fun v => v.category).sum ≤ 8) (k : ∀ w1 : gT, gJ S cl rm nL fin κ q L st w1 (f w1)) : gJ S cl rm nL fin κ pc L stk w (gBv tY f) := by
  obtain ⟨p, l, e, s, m, args, below, meth, c, D, ad, ac⟩ := κ
  subst hq
  subst hst
  intro a ha H locs ls hP hS hl
  obtain ⟨hx, hb0, hml, hrt, hlk, hown, hts, hK, hI, hFz⟩ := ok
  obtain ⟨hf1, hf2, hf3, hf4, hf5, hf6⟩ := hf
  cases hY : tY with
  | none => rw [hY] at ha; cases ha
  | some x =>
  rw [hY] at ha
  have ha : f x = some a := ha
  have hMet : Met l y (.code y cy ny ry :: Ts) rmY (va_Pc ((.ref b :: As).map (gV ad)) (fun U => U.heap.size = H.size ∧ va_P D cl (gWs S ad ac w) U.heap ∧ gK S cl D ac U ∧ gI S ad ∧ gFz ad (gA S ad H.size) U U.heap)) (va_Qv (S := gT) (fun u => u = x) (fun u t => va_P D cl (gWs S ad ac u) t.heap) (gA S ad H.size)) 0 0 (gA S ad H.size) := hM x hY l D ad ac H.size
  cases hq1 : cl[ci]? with
  | none => rw [hq1] at hc; cases hc
  | some q1 =>
  rw [hq1] at hc
  have hcn : q1.1 = y.cls := Option.some.inj hc
  have hrv := va_recv (ws := gWs S ad ac w) hK.1 hP hq1 (gWs_at (ad := ad) (ac := ac) (w := w) hb)
  rw [hcn] at hrv
  refine va_callv (va_runV (As := As.map (gV ad)) (rest := st.map (gV ad)) (g := F0 m pc ls ((As.reverse ++ .ref b :: st).map (gV ad))) (n := n) (ws := .code y cy ny ry :: Ts) (own := own) (index := index) (bytes := cy) (maxL := ny) (ret := ry) ⟨hx, hb0, hml, hown, hts⟩ hMet (cwV (own := own) (index := index) (C := y.cls) (y := y) (bytes := cy) (maxL := ny) (ret := ry) (ws := .code y cy ny ry :: Ts) (ws' := Ts) (rm := rmY) n hts (g_goodV hgood hf1 hf2 hf3 hf4 hf5) rfl hr.1 hr.2.1 ⟨rfl, hf6⟩ ⟨hr.2.2.1, hr.2.2.2⟩) ⟨g_blind, hrv, fun U hU hW => ⟨by simp [gV], by rw [hU], by rw [hU]; exact hP, hK.moved hW.alike, hI, by have hz := hFz.to hS hU hW (g_sub hS.1); rw [hU] at hz ⊢; exact hz⟩⟩ rfl (by simpa using hn) hl.1 (by simp [gV]) (lv_room (hcat ad)) hd ⟨Nat.zero_le _, Nat.zero_le _⟩) hS (fun q _ h => g_sub hS.1 q h) (g_sub hS.1) (fun u t H1 locs1 ht hvm hpost hB hz1 hk1 hS1 => ?_)
  subst hpost
  rw [ht] at hB
  exact k _ a ha H1 locs1 ls hB hS1 hl
theorem g_callSi (ok : gOk S cl Ts own cc nL ret κ) {index : Nat} {y : MethodName} {cy : ByteArray} {ny n q : Nat} {ry : Option FieldType} {rmY : Room}  {As stk : List Value} {tY : Option (Int32 × gT)} {f : Int32 → gT → Option α} (hgood : ∀ w ∈ Ts, goodWord w = true) (hd : decode cc pc = .ok (.invokestatic index, 3)) (hq : pc + 3 = q) (hM : gM S cl Ts y cy ny ry rmY gi As w tY) (hf : gCs Ts own index y cy ny ry n) (hr : gRm rm rmY ny) (hn : As.length = n) (hst : stk = As.reverse ++ st) (hcat : ∀ ad : Nat → Nat, ((st.map (gV ad)).map fun v => v.category).sum ≤ 8) (k : ∀ (r : Int32) (w1 : gT), gJ S cl rm nL fin κ q L (.int r :: st) w1 (f r w1)) : gJ S cl rm nL fin κ pc L stk w (gBi tY f) := by
  obtain ⟨p, l, e, s, m, args, below, meth, c, D, ad, ac⟩ := κ
  subst hq
  subst hst
  intro a ha H locs ls hP hS hl
  obtain ⟨hx, hb0, hml, hrt, hlk, hown, hts, hK, hI, hFz⟩ := ok
  obtain ⟨hf1, hf2, hf3, hf5, hf6⟩ := hf
  cases hY : tY with
  | none => rw [hY] at ha; cases ha
  | some x =>
  rw [hY] at ha
  have ha : f x.1 x.2 = some a := ha
  have hMet : Met l y (.code y cy ny ry :: Ts) rmY (va_Pc (As.map (gV ad)) (fun U => U.heap.size = H.size ∧ va_P D cl (gWs S ad ac w) U.heap ∧ gK S cl D ac U ∧ gI S ad ∧ gFz ad (gA S ad H.size) U U.heap)) (va_Qi (S := gT) (fun r u => r = x.1 ∧ u = x.2) (fun u t => va_P D cl (gWs S ad ac u) t.heap) (gA S ad H.size)) 0 0 (gA S ad H.size) := hM x hY l D ad ac H.size
  refine va_calli (va_runS (As := As.map (gV ad)) (rest := st.map (gV ad)) (g := F0 m pc ls ((As.reverse ++ st).map (gV ad))) (n := n) (ws := .code y cy ny ry :: Ts) (own := own) (index := index) (bytes := cy) (maxL := ny) (ret := ry) ⟨hx, hb0, hml, hown, hts⟩ hMet (va_cwS (own := own) (index := index) (y := y) (bytes := cy) (maxL := ny) (ret := ry) (ws := .code y cy ny ry :: Ts) (ws' := Ts) (rm := rmY) n hts (g_goodS hgood hf1 hf2 hf3 hf5) rfl hr.1 hr.2.1 hf6 ⟨hr.2.2.1, hr.2.2.2⟩) ⟨g_blind, fun U hU hW => ⟨by simp [gV], by rw [hU], by rw [hU]; exact hP, hK.moved hW.alike, hI, by have hz := hFz.to hS hU hW (g_sub hS.1); rw [hU] at hz ⊢; exact hz⟩⟩ rfl (by simpa using hn) hl.1 (by simp [gV]) (lv_room (hcat ad)) hd ⟨Nat.zero_le _, Nat.zero_le _⟩) hS (fun q _ h => g_sub hS.1 q h) (g_sub hS.1) (fun r u t H1 locs1 ht hvm hpost hB hz1 hk1 hS1 => ?_)
  obtain ⟨rfl, rfl⟩ := hpost
  rw [ht] at hB
  exact k _ _ a ha H1 locs1 ls hB hS1 hl
theorem g_callSv (ok : gOk S cl Ts own cc nL ret κ) {index : Nat} {y : MethodName} {cy : ByteArray} {ny n q : Nat} {ry : Option FieldType} {rmY : Room}  {As stk : List Value} {tY : Option (gT)} {f : gT → Option α} (hgood : ∀ w ∈ Ts, goodWord w = true) (hd : decode cc pc = .ok (.invokestatic index, 3)) (hq : pc + 3 = q) (hM : gM S cl Ts y cy ny ry rmY gv As w tY) (hf : gCs Ts own index y cy ny ry n) (hr : gRm rm rmY ny) (hn : As.length = n) (hst : stk = As.reverse ++ st) (hcat : ∀ ad : Nat → Nat, ((st.map (gV ad)).map fun v => v.category).sum ≤ 8) (k : ∀ w1 : gT, gJ S cl rm nL fin κ q L st w1 (f w1)) : gJ S cl rm nL fin κ pc L stk w (gBv tY f) := by
  obtain ⟨p, l, e, s, m, args, below, meth, c, D, ad, ac⟩ := κ
  subst hq
  subst hst
  intro a ha H locs ls hP hS hl
  obtain ⟨hx, hb0, hml, hrt, hlk, hown, hts, hK, hI, hFz⟩ := ok
  obtain ⟨hf1, hf2, hf3, hf5, hf6⟩ := hf
  cases hY : tY with
  | none => rw [hY] at ha; cases ha
  | some x =>
  rw [hY] at ha
  have ha : f x = some a := ha
  have hMet : Met l y (.code y cy ny ry :: Ts) rmY (va_Pc (As.map (gV ad)) (fun U => U.heap.size = H.size ∧ va_P D cl (gWs S ad ac w) U.heap ∧ gK S cl D ac U ∧ gI S ad ∧ gFz ad (gA S ad H.size) U U.heap)) (va_Qv (S := gT) (fun u => u = x) (fun u t => va_P D cl (gWs S ad ac u) t.heap) (gA S ad H.size)) 0 0 (gA S ad H.size) := hM x hY l D ad ac H.size
  refine va_callv (va_runS (As := As.map (gV ad)) (rest := st.map (gV ad)) (g := F0 m pc ls ((As.reverse ++ st).map (gV ad))) (n := n) (ws := .code y cy ny ry :: Ts) (own := own) (index := index) (bytes := cy) (maxL := ny) (ret := ry) ⟨hx, hb0, hml, hown, hts⟩ hMet (va_cwS (own := own) (index := index) (y := y) (bytes := cy) (maxL := ny) (ret := ry) (ws := .code y cy ny ry :: Ts) (ws' := Ts) (rm := rmY) n hts (g_goodS hgood hf1 hf2 hf3 hf5) rfl hr.1 hr.2.1 hf6 ⟨hr.2.2.1, hr.2.2.2⟩) ⟨g_blind, fun U hU hW => ⟨by simp [gV], by rw [hU], by rw [hU]; exact hP, hK.moved hW.alike, hI, by have hz := hFz.to hS hU hW (g_sub hS.1); rw [hU] at hz ⊢; exact hz⟩⟩ rfl (by simpa using hn) hl.1 (by simp [gV]) (lv_room (hcat ad)) hd ⟨Nat.zero_le _, Nat.zero_le _⟩) hS (fun q _ h => g_sub hS.1 q h) (g_sub hS.1) (fun u t H1 locs1 ht hvm hpost hB hz1 hk1 hS1 => ?_)
  subst hpost
  rw [ht] at hB
  exact k _ a ha H1 locs1 ls hB hS1 hl
end GCALL
