/-! FLAT WORLDS: the cells of a system by numbers, what they hold as functions of the cell and the place -/
abbrev gT : Type := (Nat → Nat → Int32) × (Nat → Int64)
/-- a cell's form: an array of a type and length, or an object: its number among the classes, its fields (a cell that never changes, or an int) -/
abbrev gD1 : Type := (FieldType × Nat) ⊕ (Nat × List (Option Nat))
abbrev gS : Type := List gD1
def gU (w : gT) (a i : Nat) (v : Int32) : gT := (fun b j => if b = a then (if j = i then v else w.1 b j) else w.1 b j, w.2)
def gUL (w : gT) (i : Nat) (v : Int64) : gT := (w.1, fun j => if j = i then v else w.2 j)
def gUA (w : gT) (a : Nat) (f : Nat → Int32) : gT := (fun b => if b = a then f else w.1 b, w.2)
def gV (ad : Nat → Nat) : Value → Value
  | .ref i => .ref (ad i)
  | .int x => .int x
  | .long x => .long x
  | v => v
def gF (ad : Nat → Nat) (f : Nat → Int32) (j : Nat) (r : Option Nat) : Value := match r with
  | some t => .ref (ad t)
  | none => .int (f j)
def gAr (ty : FieldType) (f : Nat → Int32) (g : Nat → Int64) : (Nat → Int32) ⊕ (Nat → Int64) ⊕ (Nat → UInt32) ⊕ (Nat → UInt64) ⊕ (Nat → Option Nat) := match ty with
  | .long => .inr (.inl g)
  | _ => .inl f
def gE (ad : Nat → Nat) (ac : Nat → ClassId) (w : gT) (k : Nat) (d : gD1) : va_E := match d with
  | .inl q => .inl (ac k, q.2, gAr q.1 (w.1 k) w.2)
  | .inr q => .inr (q.1, q.2.mapIdx (gF ad (w.1 k)))
def gWs (S : gS) (ad : Nat → Nat) (ac : Nat → ClassId) (w : gT) : va_W := S.mapIdx (fun k d => (ad k, gE ad ac w k d))
def gA (S : gS) (ad : Nat → Nat) (sz : Nat) : Nat → Prop := fun q => (∃ k, k < S.length ∧ q = ad k) ∨ sz ≤ q
def gI (S : gS) (ad : Nat → Nat) : Prop := ∀ i j, i < S.length → j < S.length → ad i = ad j → i = j
theorem gWs_at {S : gS} {ad : Nat → Nat} {ac : Nat → ClassId} {w : gT} {k : Nat} {d : gD1} (h : S[k]? = some d) : (gWs S ad ac w)[k]? = some (ad k, gE ad ac w k d) := by
  simp [gWs, List.getElem?_mapIdx, h]
theorem gWs_of {S : gS} {ad : Nat → Nat} {ac : Nat → ClassId} {w : gT} {k : Nat} {q : Nat × va_E} (h : (gWs S ad ac w)[k]? = some q) : ∃ d, S[k]? = some d ∧ q = (ad k, gE ad ac w k d) := by
  simp only [gWs, List.getElem?_mapIdx, Option.map_eq_some_iff] at h
  obtain ⟨d, h1, h2⟩ := h
  exact ⟨d, h1, h2.symm⟩
theorem g_lt {S : gS} {k : Nat} {d : gD1} (h : S[k]? = some d) : k < S.length := (List.getElem?_eq_some_iff.mp h).1
theorem gWs_set {S : gS} {ad : Nat → Nat} {ac : Nat → ClassId} {w w' : gT} {k : Nat} {d : gD1} (hd : S[k]? = some d) (h : ∀ j d', S[j]? = some d' → j ≠ k → gE ad ac w' j d' = gE ad ac w j d') : (gWs S ad ac w).set k (ad k, gE ad ac w' k d) = gWs S ad ac w' := by
  apply List.ext_getElem?
  intro j
  by_cases hj : j = k
  · subst hj
    rw [List.getElem?_set_self (by simpa [gWs] using g_lt hd), gWs_at hd]
  · rw [List.getElem?_set_ne (Ne.symm hj)]
    cases hs : S[j]? with
    | none => simp [gWs, List.getElem?_mapIdx, hs]
    | some d' => rw [gWs_at hs, gWs_at hs, h j d' hs hj]
theorem gE_U {ad : Nat → Nat} {ac : Nat → ClassId} {w : gT} {a i : Nat} {v : Int32} {j : Nat} {d : gD1} (h : j ≠ a) : gE ad ac (gU w a i v) j d = gE ad ac w j d := by
  have e : (gU w a i v).1 j = w.1 j := by funext q; simp [gU, h]
  have e2 : (gU w a i v).2 = w.2 := rfl
  cases d with
  | inl q => simp only [gE, e, e2]
  | inr q => simp only [gE, e]
theorem gE_UA {ad : Nat → Nat} {ac : Nat → ClassId} {w : gT} {a : Nat} {f : Nat → Int32} {j : Nat} {d : gD1} (h : j ≠ a) : gE ad ac (gUA w a f) j d = gE ad ac w j d := by
  have e : (gUA w a f).1 j = w.1 j := by simp [gUA, h]
  have e2 : (gUA w a f).2 = w.2 := rfl
  cases d with
  | inl q => simp only [gE, e, e2]
  | inr q => simp only [gE, e]
theorem gU_self {w : gT} {a i : Nat} {v : Int32} : (gU w a i v).1 a = upd (w.1 a) i v := by
  funext j
  simp [gU, upd]
theorem gUA_self {w : gT} {a : Nat} {f : Nat → Int32} : (gUA w a f).1 a = f := by simp [gUA]
theorem gWs_D {S : gS} {ad : Nat → Nat} {ac : Nat → ClassId} {w : gT} {A : Nat → Prop} (hI : gI S ad) (hA : ∀ k, k < S.length → A (ad k)) : va_D A (gWs S ad ac w) := by
  refine ⟨fun i j p q hi hj hpq => ?_, fun k q hk => ?_⟩
  · obtain ⟨d1, h1, rfl⟩ := gWs_of hi
    obtain ⟨d2, h2, rfl⟩ := gWs_of hj
    exact hI i j (g_lt h1) (g_lt h2) hpq
  · obtain ⟨d, h1, rfl⟩ := gWs_of hk
    exact hA k (g_lt h1)
theorem gA_in {S : gS} {ad : Nat → Nat} {sz : Nat} : ∀ k, k < S.length → gA S ad sz (ad k) := fun k hk => Or.inl ⟨k, hk, rfl⟩
/-- what the tables say of the system's classes and arrays -/
def gK (S : gS) (cl : List vw_C) (D : va_G) (ac : Nat → ClassId) (U : State) : Prop := va_K D cl [] U ∧ ∀ k ty n, S[k]? = some (.inl (ty, n)) → ArrOfT U (ac k) ty ∧ va_RA U (ac k) ty
theorem gK.moved {S : gS} {cl : List vw_C} {D : va_G} {ac : Nat → ClassId} {u U : State} (hvm : u.vm.Alike U.vm) (h : gK S cl D ac u) : gK S cl D ac U :=
  ⟨h.1.moved hvm, fun k ty n hk => ⟨arrOfT_moved hvm (h.2 k ty n hk).1, (h.2 k ty n hk).2.moved hvm⟩⟩
theorem gK.one {S : gS} {cl : List vw_C} {D : va_G} {ac : Nat → ClassId} {U : State} (h : gK S cl D ac U) {k n : Nat} {ty : FieldType} (hk : S[k]? = some (.inl (ty, n))) : va_K D cl [(ac k, ty)] U := by
  refine ⟨h.1.1, fun j q hj => ?_⟩
  cases j with
  | zero => simp only [List.getElem?_cons_zero, Option.some.injEq] at hj; subst hj; exact h.2 k ty n hk
  | succ j => simp at hj
theorem gK.two {S : gS} {cl : List vw_C} {D : va_G} {ac : Nat → ClassId} {U : State} (h : gK S cl D ac U) {k n k2 n2 : Nat} {ty ty2 : FieldType} (hk : S[k]? = some (.inl (ty, n))) (hk2 : S[k2]? = some (.inl (ty2, n2))) : va_K D cl [(ac k, ty), (ac k2, ty2)] U := (h.one hk).app (h.one hk2)
/-- what stays outside the world: one String constant and a static -/
def gFz (ad : Nat → Nat) (A : Nat → Prop) (U : State) (H : Heap) : Prop := vk_S 1 [12] [[114, 110, 116, 103, 109, 99, 121, 104, 112, 118, 111, 108]] (fun _ => ad 100) (fun _ => ad 101) A U H ∧ vk_R "GhostRota$LawReader" 110 "rntgmcyhpvol" (ad 100) U ∧ va_Z "java/lang/String" "COMPACT_STRINGS" "Z" (.int 1) A U H
theorem gFz.calling {ad : Nat → Nat} {A : Nat → Prop} {U : State} {g : JFrame} {mk : MethodId} {a : Array Value} (h : gFz ad A U U.heap) : gFz ad A (U.calling g mk a) (U.calling g mk a).heap := by
  obtain ⟨h1, h2, h3⟩ := h
  exact ⟨vk_S.moved (u := U) (U := U.calling g mk a) (Vm.Alike.refl U.vm) h1, vk_R.same (u := U) (U := U.calling g mk a) rfl h2, va_Z.moved (u := U) (U := U.calling g mk a) (Vm.Alike.refl U.vm) h3⟩
theorem gFz.to {ad : Nat → Nat} {A B : Nat → Prop} {s U : State} {H : Heap} {locs : List Loc} (h : gFz ad A s s.heap) (hS : va_S A s.heap H locs) (hU : U.heap = H) (hW : s.WarmedH U.vm) (hAB : ∀ q, B q → A q) : gFz ad B U U.heap := by
  obtain ⟨h1, h2, h3⟩ := h
  rw [hU]
  exact ⟨(vk_S.moved hW.alike (h1.kept hS.2.1)).narrow hAB, h2.warm hW, (va_Z.moved hW.alike (h3.kept hS.2.1)).narrow hAB⟩
/-- a walk's fixed things: program, launch, world outside, start, method, arguments, callers, method, code, where the classes' fields lie, the cells' addresses and array classes -/
abbrev gC : Type := Program × Launch × Env × State × MethodId × Array Value × List Frame × Method × Code × va_G × (Nat → Nat) × (Nat → ClassId)
def gOk (S : gS) (cl : List vw_C) (Ts : List Cond) (own : String) (cc : ByteArray) (nL : Nat) (ret : Option FieldType) (κ : gC) : Prop := match κ with
  | (p, _, _, s, m, args, _, meth, c, D, ad, ac) => p.tables.exec = Jvm.exec ∧ c.code = cc ∧ c.maxLocals = nL ∧ meth.sig.returnType = ret ∧ meth.locks = false ∧ s.vm.findClass own = some m.cls ∧ (∀ w ∈ Ts, w.before args s = true) ∧ gK S cl D ac s ∧ gI S ad ∧ gFz ad (gA S ad s.heap.size) s s.heap
/-- a method's end: its answer and the world -/
def gQ (S : gS) (cl : List vw_C) (D : va_G) (ad : Nat → Nat) (ac : Nat → ClassId) (A : Nat → Prop) (q : Option Int32 × gT) : Array Value → State → Outcome → State → Prop := match q with
  | (some r0, w0) => va_Qi (S := gT) (fun r u => r = r0 ∧ u = w0) (fun u t => va_P D cl (gWs S ad ac u) t.heap) A
  | (none, w0) => va_Qv (S := gT) (fun u => u = w0) (fun u t => va_P D cl (gWs S ad ac u) t.heap) A
/-- from here the method comes to the end that t tells, if t tells one -/
def gJ {α : Type} (S : gS) (cl : List vw_C) (rm : Room) (nL : Nat) (fin : α → Option Int32 × gT) (κ : gC) (pc : Nat) (L : List (Nat × Value)) (st : List Value) (w : gT) (t : Option α) : Prop := match κ with
  | (p, l, e, s, m, args, below, meth, c, D, ad, ac) => ∀ a, t = some a → ∀ (H : Heap) (locs : List Loc) (ls : Array Slot), va_P D cl (gWs S ad ac w) H → va_S (gA S ad s.heap.size) s.heap H locs → lv_has ls nL (L.map (fun q => (q.1, gV ad q.2))) → W p l e rm s m args below meth c H locs 0 0 (MQ below (gQ S cl D ad ac (gA S ad s.heap.size) (fin a)) args s 0 0 (gA S ad s.heap.size)) (F0 m pc ls (st.map (gV ad)))
/-- a method's contract at given arguments and world: it ends as t tells, if t tells it -/
def gM {α : Type} (S : gS) (cl : List vw_C) (Ts : List Cond) (y : MethodName) (cc : ByteArray) (nL : Nat) (ret : Option FieldType) (rm : Room) (fin : α → Option Int32 × gT) (As : List Value) (w : gT) (t : Option α) : Prop :=
  ∀ a, t = some a → ∀ (l : Launch) (D : va_G) (ad : Nat → Nat) (ac : Nat → ClassId) (sz : Nat), Met l y (.code y cc nL ret :: Ts) rm (va_Pc (As.map (gV ad)) (fun U => U.heap.size = sz ∧ va_P D cl (gWs S ad ac w) U.heap ∧ gK S cl D ac U ∧ gI S ad ∧ gFz ad (gA S ad sz) U U.heap)) (gQ S cl D ad ac (gA S ad sz) (fin a)) 0 0 (gA S ad sz)
def gi (x : Int32 × gT) : Option Int32 × gT := (some x.1, x.2)
def gv (w : gT) : Option Int32 × gT := (none, w)
theorem gM_of {α : Type} {S : gS} {cl : List vw_C} {Ts : List Cond} {y : MethodName} {cc : ByteArray} {nL : Nat} {ret : Option FieldType} {rm : Room} {fin : α → Option Int32 × gT} {As : List Value} {w : gT} {t : Option α} {own : String} (L0 : List (Nat × Value))
    (ho : y.cls = own) (hy : plainName y.cls = true) (hL : ∀ ad : Nat → Nat, lv_args 0 (As.map (gV ad)) = L0.map (fun q => (q.1, gV ad q.2))) (hn : ∀ ad : Nat → Nat, (lg_sl (As.map (gV ad))).length ≤ nL)
    (h : ∀ κ, gOk S cl Ts own cc nL ret κ → gJ S cl rm nL fin κ 0 L0 [] w t) : gM S cl Ts y cc nL ret rm fin As w t := by
  intro a ha l D ad ac sz
  refine Met.ofW (cc := cc) (maxL := nL) (ret := ret) hy rfl ?_
  intro p e s m args below meth c s₁ B hml hv
  obtain ⟨rfl, hsz, hP, hK, hI, hF⟩ := hv
  subst hsz
  have hts := atoms_spec (ws := .code y cc nL ret :: Ts) B.pre
  have ok : gOk S cl Ts own cc nL ret (p, l, e, s, m, (As.map (gV ad)).toArray, below, meth, c, D, ad, ac) := ⟨B.exec, B.bytes, hml, B.returns, B.notSynchronized, by rw [← ho]; exact findClass_of_methodNamed B.named, fun w hw => hts w (List.mem_cons_of_mem _ hw), hK, hI, hF⟩
  have hl := lv_entry (As.map (gV ad)) (n := nL) (hn ad)
  rw [lg_entry_eq]
  rw [hL ad] at hl
  exact h _ ok a ha _ [] _ hP va_S.rf hl
/-- a method at a guess of its contract's form: nothing is told -/
theorem gJ_none {α : Type} {S : gS} {cl : List vw_C} {rm : Room} {nL : Nat} {fin : α → Option Int32 × gT} {κ : gC} {pc : Nat} {L : List (Nat × Value)} {st : List Value} {w : gT} : gJ S cl rm nL fin κ pc L st w (none : Option α) := by
  obtain ⟨p, l, e, s, m, args, below, meth, c, D, ad, ac⟩ := κ
  intro a ha
  cases ha
theorem gM_none {α : Type} {S : gS} {cl : List vw_C} {Ts : List Cond} {y : MethodName} {cc : ByteArray} {nL : Nat} {ret : Option FieldType} {rm : Room} {fin : α → Option Int32 × gT} {As : List Value} {w : gT} : gM S cl Ts y cc nL ret rm fin As w (none : Option α) := by
  intro a ha
  cases ha
section GR
variable {α : Type} {S : gS} {cl : List vw_C} {Ts : List Cond} {own : String} {cc : ByteArray} {nL : Nat} {ret : Option FieldType} {rm : Room} {fin : α → Option Int32 × gT} {κ : gC} {pc : Nat} {L : List (Nat × Value)} {st : List Value} {w : gT} {t : Option α}
theorem g_to {L' : List (Nat × Value)} (h : gJ S cl rm nL fin κ pc L' st w t) (ks : List Nat) (hl : lv_pick L ks = L') : gJ S cl rm nL fin κ pc L st w t := by
  obtain ⟨p, l, e, s, m, args, below, meth, c, D, ad, ac⟩ := κ
  intro a ha H locs ls hP hS hv
  refine h a ha H locs ls hP hS ⟨hv.1, hv.2.1, fun q hq => hv.2.2 q ?_⟩
  subst hl
  obtain ⟨q0, hq0, rfl⟩ := List.mem_map.mp hq
  obtain ⟨k, -, hk⟩ := List.mem_filterMap.mp hq0
  exact List.mem_map.mpr ⟨q0, List.mem_of_getElem? hk, rfl⟩
theorem g_iconst (ok : gOk S cl Ts own cc nL ret κ) {n : Int} {v : Int32} {q : Nat} (hd : decode cc pc = .ok (.iconst n, 1)) (hq : pc + 1 = q) (hv : Int32.ofInt n = v) (k : gJ S cl rm nL fin κ q L (.int v :: st) w t) : gJ S cl rm nL fin κ pc L st w t := by
  obtain ⟨p, l, e, s, m, args, below, meth, c, D, ad, ac⟩ := κ
  subst hq
  intro a ha H locs ls hP hS hl
  exact lv_iconst ok.1 ok.2.1 hd hv (k a ha H locs ls hP hS hl)
theorem g_bipush (ok : gOk S cl Ts own cc nL ret κ) {n : Int} {v : Int32} {q : Nat} (hd : decode cc pc = .ok (.bipush n, 2)) (hq : pc + 2 = q) (hv : (Int8.ofInt n).toInt32 = v) (k : gJ S cl rm nL fin κ q L (.int v :: st) w t) : gJ S cl rm nL fin κ pc L st w t := by
  obtain ⟨p, l, e, s, m, args, below, meth, c, D, ad, ac⟩ := κ
  subst hq
  intro a ha H locs ls hP hS hl
  exact lv_bipush ok.1 ok.2.1 hd hv (k a ha H locs ls hP hS hl)
theorem g_sipush (ok : gOk S cl Ts own cc nL ret κ) {n : Int} {v : Int32} {q : Nat} (hd : decode cc pc = .ok (.sipush n, 3)) (hq : pc + 3 = q) (hv : (Int16.ofInt n).toInt32 = v) (k : gJ S cl rm nL fin κ q L (.int v :: st) w t) : gJ S cl rm nL fin κ pc L st w t := by
  obtain ⟨p, l, e, s, m, args, below, meth, c, D, ad, ac⟩ := κ
  subst hq
  intro a ha H locs ls hP hS hl
  exact lv_sipush ok.1 ok.2.1 hd hv (k a ha H locs ls hP hS hl)
theorem g_ldc (ok : gOk S cl Ts own cc nL ret κ) {index : Nat} {v : Int32} {q : Nat} (hd : decode cc pc = .ok (.ldc index, 2)) (hq : pc + 2 = q) (hc : Cond.constant own index v ∈ Ts) (k : gJ S cl rm nL fin κ q L (.int v :: st) w t) : gJ S cl rm nL fin κ pc L st w t := by
  obtain ⟨p, l, e, s, m, args, below, meth, c, D, ad, ac⟩ := κ
  subst hq
  intro a ha H locs ls hP hS hl
  exact lv_ldc ok.1 ok.2.1 ok.2.2.2.2.2.1 (ok.2.2.2.2.2.2.1 _ hc) hd (k a ha H locs ls hP hS hl)
theorem g_ldcw (ok : gOk S cl Ts own cc nL ret κ) {index : Nat} {v : Int32} {q : Nat} (hd : decode cc pc = .ok (.ldc_w index, 3)) (hq : pc + 3 = q) (hc : Cond.constant own index v ∈ Ts) (k : gJ S cl rm nL fin κ q L (.int v :: st) w t) : gJ S cl rm nL fin κ pc L st w t := by
  obtain ⟨p, l, e, s, m, args, below, meth, c, D, ad, ac⟩ := κ
  subst hq
  intro a ha H locs ls hP hS hl
  exact lv_ldcw ok.1 ok.2.1 ok.2.2.2.2.2.1 (ok.2.2.2.2.2.2.1 _ hc) hd (k a ha H locs ls hP hS hl)
theorem g_at {ls : Array Slot} {ad : Nat → Nat} (hl : lv_has ls nL (L.map (fun q => (q.1, gV ad q.2)))) {k i : Nat} {v : Value} (h : L[k]? = some (i, v)) : ls[i]? = some (.val (gV ad v)) := lv_at hl k (by rw [List.getElem?_map, h]; rfl)
theorem g_iload_n (ok : gOk S cl Ts own cc nL ret κ) {n : Fin 4} {i : Nat} {x : Int32} {q : Nat} (hd : decode cc pc = .ok (.iload_n n, 1)) (hq : pc + 1 = q) (j : Nat) (hi : (n : Nat) = i) (hj : L[j]? = some (i, .int x)) (k : gJ S cl rm nL fin κ q L (.int x :: st) w t) : gJ S cl rm nL fin κ pc L st w t := by
  obtain ⟨p, l, e, s, m, args, below, meth, c, D, ad, ac⟩ := κ
  subst hq
  intro a ha H locs ls hP hS hl
  exact lv_iload_n ok.1 ok.2.1 hd hi (g_at hl hj) (k a ha H locs ls hP hS hl)
theorem g_iload (ok : gOk S cl Ts own cc nL ret κ) {i : Nat} {x : Int32} {q : Nat} (hd : decode cc pc = .ok (.iload i, 2)) (hq : pc + 2 = q) (j : Nat) (hj : L[j]? = some (i, .int x)) (k : gJ S cl rm nL fin κ q L (.int x :: st) w t) : gJ S cl rm nL fin κ pc L st w t := by
  obtain ⟨p, l, e, s, m, args, below, meth, c, D, ad, ac⟩ := κ
  subst hq
  intro a ha H locs ls hP hS hl
  exact lv_iload ok.1 ok.2.1 hd (g_at hl hj) (k a ha H locs ls hP hS hl)
theorem g_aload_n (ok : gOk S cl Ts own cc nL ret κ) {n : Fin 4} {i : Nat} {x : Nat} {q : Nat} (hd : decode cc pc = .ok (.aload_n n, 1)) (hq : pc + 1 = q) (j : Nat) (hi : (n : Nat) = i) (hj : L[j]? = some (i, .ref x)) (k : gJ S cl rm nL fin κ q L (.ref x :: st) w t) : gJ S cl rm nL fin κ pc L st w t := by
  obtain ⟨p, l, e, s, m, args, below, meth, c, D, ad, ac⟩ := κ
  subst hq
  intro a ha H locs ls hP hS hl
  exact lv_aload_n ok.1 ok.2.1 hd hi (g_at hl hj) (k a ha H locs ls hP hS hl)
theorem g_aload (ok : gOk S cl Ts own cc nL ret κ) {i : Nat} {x : Nat} {q : Nat} (hd : decode cc pc = .ok (.aload i, 2)) (hq : pc + 2 = q) (j : Nat) (hj : L[j]? = some (i, .ref x)) (k : gJ S cl rm nL fin κ q L (.ref x :: st) w t) : gJ S cl rm nL fin κ pc L st w t := by
  obtain ⟨p, l, e, s, m, args, below, meth, c, D, ad, ac⟩ := κ
  subst hq
  intro a ha H locs ls hP hS hl
  exact lv_aload ok.1 ok.2.1 hd (g_at hl hj) (k a ha H locs ls hP hS hl)
/-- the locals behind a store: no value of two slots is among them -/
def gSt (i : Nat) (v : Value) (L : List (Nat × Value)) : List (Nat × Value) := (i, v) :: L.filter (fun q => !(q.1 == i))
def gOne : List (Nat × Value) → Bool
  | [] => true
  | (_, .int _) :: r => gOne r
  | (_, .ref _) :: r => gOne r
  | _ :: _ => false
theorem gOne_cat : ∀ {L : List (Nat × Value)}, gOne L = true → ∀ (ad : Nat → Nat), ∀ q ∈ L, (gV ad q.2).category = 1
  | [], _, _, q, hq => by cases hq
  | (_, .int _) :: r, h, ad, q, hq => by
    rcases List.mem_cons.mp hq with rfl | hq
    · rfl
    · exact gOne_cat (L := r) h ad q hq
  | (_, .ref _) :: r, h, ad, q, hq => by
    rcases List.mem_cons.mp hq with rfl | hq
    · rfl
    · exact gOne_cat (L := r) h ad q hq
  | (_, .long _) :: _, h, _, _, _ => by simp [gOne] at h
  | (_, .float _) :: _, h, _, _, _ => by simp [gOne] at h
  | (_, .double _) :: _, h, _, _, _ => by simp [gOne] at h
  | (_, .null) :: _, h, _, _, _ => by simp [gOne] at h
  | (_, .retAddr _) :: _, h, _, _, _ => by simp [gOne] at h
theorem gSt_has {ls' : Array Slot} {ad : Nat → Nat} {i : Nat} {v : Value} (hone : gOne L = true)
    (h : lv_has ls' nL ((i, gV ad v) :: (L.map (fun q => (q.1, gV ad q.2))).filter (fun q => !(q.1 == i) && !(q.1 + 1 == i && q.2.category == 2)))) : lv_has ls' nL ((gSt i v L).map (fun q => (q.1, gV ad q.2))) := by
  refine ⟨h.1, h.2.1, fun q hq => h.2.2 q ?_⟩
  obtain ⟨q0, hq0, rfl⟩ := List.mem_map.mp hq
  rcases List.mem_cons.mp hq0 with rfl | hq0
  · exact List.mem_cons_self
  · obtain ⟨hm, hf⟩ := List.mem_filter.mp hq0
    refine List.mem_cons_of_mem _ (List.mem_filter.mpr ⟨List.mem_map.mpr ⟨q0, hm, rfl⟩, ?_⟩)
    have hc := gOne_cat hone ad q0 hm
    simp only [hc]
    simp at hf ⊢
    exact hf
theorem g_istore_n (ok : gOk S cl Ts own cc nL ret κ) {n : Fin 4} {i : Nat} {x : Int32} {q : Nat} {L' : List (Nat × Value)} (hd : decode cc pc = .ok (.istore_n n, 1)) (hq : pc + 1 = q) (hi : (n : Nat) = i) (hn : i < nL) (h1 : gOne L = true) (hL : gSt i (.int x) L = L') (k : gJ S cl rm nL fin κ q L' st w t) : gJ S cl rm nL fin κ pc L (.int x :: st) w t := by
  obtain ⟨p, l, e, s, m, args, below, meth, c, D, ad, ac⟩ := κ
  subst hq
  subst hL
  intro a ha H locs ls hP hS hl
  exact lv_istore_n ok.1 ok.2.1 hd hi hl hn rfl (fun ls' hl' => k a ha H locs ls' hP hS (gSt_has (v := .int x) h1 hl'))
theorem g_istore (ok : gOk S cl Ts own cc nL ret κ) {i : Nat} {x : Int32} {q : Nat} {L' : List (Nat × Value)} (hd : decode cc pc = .ok (.istore i, 2)) (hq : pc + 2 = q) (hn : i < nL) (h1 : gOne L = true) (hL : gSt i (.int x) L = L') (k : gJ S cl rm nL fin κ q L' st w t) : gJ S cl rm nL fin κ pc L (.int x :: st) w t := by
  obtain ⟨p, l, e, s, m, args, below, meth, c, D, ad, ac⟩ := κ
  subst hq
  subst hL
  intro a ha H locs ls hP hS hl
  exact lv_istore ok.1 ok.2.1 hd hl hn rfl (fun ls' hl' => k a ha H locs ls' hP hS (gSt_has (v := .int x) h1 hl'))
theorem g_iinc (ok : gOk S cl Ts own cc nL ret κ) {i : Nat} {n : Int} {x v : Int32} {q : Nat} {L' : List (Nat × Value)} (hd : decode cc pc = .ok (.iinc i n, 3)) (hq : pc + 3 = q) (j : Nat) (hj : L[j]? = some (i, .int x)) (hv : x + Int32.ofInt n = v) (hn : i < nL) (h1 : gOne L = true) (hL : gSt i (.int v) L = L') (k : gJ S cl rm nL fin κ q L' st w t) : gJ S cl rm nL fin κ pc L st w t := by
  obtain ⟨p, l, e, s, m, args, below, meth, c, D, ad, ac⟩ := κ
  subst hq
  subst hL
  intro a ha H locs ls hP hS hl
  exact lv_iinc (k := j) ok.1 ok.2.1 hd hl (by rw [List.getElem?_map, hj]; rfl) hv hn rfl (fun ls' hl' => k a ha H locs ls' hP hS (gSt_has (v := .int v) h1 hl'))
theorem g_iadd (ok : gOk S cl Ts own cc nL ret κ) {x y : Int32} {q : Nat} (hd : decode cc pc = .ok (.iadd, 1)) (hq : pc + 1 = q) (k : gJ S cl rm nL fin κ q L (.int (x + y) :: st) w t) : gJ S cl rm nL fin κ pc L (.int y :: .int x :: st) w t := by
  obtain ⟨p, l, e, s, m, args, below, meth, c, D, ad, ac⟩ := κ
  subst hq
  intro a ha H locs ls hP hS hl
  exact lv_iadd ok.1 ok.2.1 hd (k a ha H locs ls hP hS hl)
theorem g_isub (ok : gOk S cl Ts own cc nL ret κ) {x y : Int32} {q : Nat} (hd : decode cc pc = .ok (.isub, 1)) (hq : pc + 1 = q) (k : gJ S cl rm nL fin κ q L (.int (x - y) :: st) w t) : gJ S cl rm nL fin κ pc L (.int y :: .int x :: st) w t := by
  obtain ⟨p, l, e, s, m, args, below, meth, c, D, ad, ac⟩ := κ
  subst hq
  intro a ha H locs ls hP hS hl
  exact lv_isub ok.1 ok.2.1 hd (k a ha H locs ls hP hS hl)
theorem g_imul (ok : gOk S cl Ts own cc nL ret κ) {x y : Int32} {q : Nat} (hd : decode cc pc = .ok (.imul, 1)) (hq : pc + 1 = q) (k : gJ S cl rm nL fin κ q L (.int (x * y) :: st) w t) : gJ S cl rm nL fin κ pc L (.int y :: .int x :: st) w t := by
  obtain ⟨p, l, e, s, m, args, below, meth, c, D, ad, ac⟩ := κ
  subst hq
  intro a ha H locs ls hP hS hl
  exact lv_imul ok.1 ok.2.1 hd (k a ha H locs ls hP hS hl)
theorem g_iand (ok : gOk S cl Ts own cc nL ret κ) {x y : Int32} {q : Nat} (hd : decode cc pc = .ok (.iand, 1)) (hq : pc + 1 = q) (k : gJ S cl rm nL fin κ q L (.int (x &&& y) :: st) w t) : gJ S cl rm nL fin κ pc L (.int y :: .int x :: st) w t := by
  obtain ⟨p, l, e, s, m, args, below, meth, c, D, ad, ac⟩ := κ
  subst hq
  intro a ha H locs ls hP hS hl
  exact lv_iand ok.1 ok.2.1 hd (k a ha H locs ls hP hS hl)
theorem g_ior (ok : gOk S cl Ts own cc nL ret κ) {x y : Int32} {q : Nat} (hd : decode cc pc = .ok (.ior, 1)) (hq : pc + 1 = q) (k : gJ S cl rm nL fin κ q L (.int (x ||| y) :: st) w t) : gJ S cl rm nL fin κ pc L (.int y :: .int x :: st) w t := by
  obtain ⟨p, l, e, s, m, args, below, meth, c, D, ad, ac⟩ := κ
  subst hq
  intro a ha H locs ls hP hS hl
  exact lv_ior ok.1 ok.2.1 hd (k a ha H locs ls hP hS hl)
theorem g_ixor (ok : gOk S cl Ts own cc nL ret κ) {x y : Int32} {q : Nat} (hd : decode cc pc = .ok (.ixor, 1)) (hq : pc + 1 = q) (k : gJ S cl rm nL fin κ q L (.int (x ^^^ y) :: st) w t) : gJ S cl rm nL fin κ pc L (.int y :: .int x :: st) w t := by
  obtain ⟨p, l, e, s, m, args, below, meth, c, D, ad, ac⟩ := κ
  subst hq
  intro a ha H locs ls hP hS hl
  exact lv_ixor ok.1 ok.2.1 hd (k a ha H locs ls hP hS hl)
theorem g_ishl (ok : gOk S cl Ts own cc nL ret κ) {x y : Int32} {q : Nat} (hd : decode cc pc = .ok (.ishl, 1)) (hq : pc + 1 = q) (k : gJ S cl rm nL fin κ q L (.int (x <<< (y &&& 31)) :: st) w t) : gJ S cl rm nL fin κ pc L (.int y :: .int x :: st) w t := by
  obtain ⟨p, l, e, s, m, args, below, meth, c, D, ad, ac⟩ := κ
  subst hq
  intro a ha H locs ls hP hS hl
  exact lv_ishl ok.1 ok.2.1 hd (k a ha H locs ls hP hS hl)
theorem g_ishr (ok : gOk S cl Ts own cc nL ret κ) {x y : Int32} {q : Nat} (hd : decode cc pc = .ok (.ishr, 1)) (hq : pc + 1 = q) (k : gJ S cl rm nL fin κ q L (.int (x >>> (y &&& 31)) :: st) w t) : gJ S cl rm nL fin κ pc L (.int y :: .int x :: st) w t := by
  obtain ⟨p, l, e, s, m, args, below, meth, c, D, ad, ac⟩ := κ
  subst hq
  intro a ha H locs ls hP hS hl
  exact lv_ishr ok.1 ok.2.1 hd (k a ha H locs ls hP hS hl)
theorem g_iushr (ok : gOk S cl Ts own cc nL ret κ) {x y : Int32} {q : Nat} (hd : decode cc pc = .ok (.iushr, 1)) (hq : pc + 1 = q) (k : gJ S cl rm nL fin κ q L (.int ((x.toUInt32 >>> (y.toUInt32 &&& Int32.toUInt32 31)).toInt32) :: st) w t) : gJ S cl rm nL fin κ pc L (.int y :: .int x :: st) w t := by
  obtain ⟨p, l, e, s, m, args, below, meth, c, D, ad, ac⟩ := κ
  subst hq
  intro a ha H locs ls hP hS hl
  exact lv_iushr ok.1 ok.2.1 hd rfl (k a ha H locs ls hP hS hl)
theorem g_idiv (ok : gOk S cl Ts own cc nL ret κ) {x y : Int32} {q : Nat} (hd : decode cc pc = .ok (.idiv, 1)) (hq : pc + 1 = q) (k : gJ S cl rm nL fin κ q L (.int (x / y) :: st) w t) : gJ S cl rm nL fin κ pc L (.int y :: .int x :: st) w (if y = 0 then none else t) := by
  obtain ⟨p, l, e, s, m, args, below, meth, c, D, ad, ac⟩ := κ
  subst hq
  intro a ha H locs ls hP hS hl
  by_cases hy : y = 0
  · rw [if_pos hy] at ha
    cases ha
  · rw [if_neg hy] at ha
    exact lv_idiv ok.1 ok.2.1 hd hy (k a ha H locs ls hP hS hl)
theorem g_irem (ok : gOk S cl Ts own cc nL ret κ) {x y : Int32} {q : Nat} (hd : decode cc pc = .ok (.irem, 1)) (hq : pc + 1 = q) (k : gJ S cl rm nL fin κ q L (.int (x - x / y * y) :: st) w t) : gJ S cl rm nL fin κ pc L (.int y :: .int x :: st) w (if y = 0 then none else t) := by
  obtain ⟨p, l, e, s, m, args, below, meth, c, D, ad, ac⟩ := κ
  subst hq
  intro a ha H locs ls hP hS hl
  by_cases hy : y = 0
  · rw [if_pos hy] at ha
    cases ha
  · rw [if_neg hy] at ha
    exact lv_irem ok.1 ok.2.1 hd hy (k a ha H locs ls hP hS hl)
theorem g_lor (ok : gOk S cl Ts own cc nL ret κ) {x y : Int64} {q : Nat} (hd : decode cc pc = .ok (.lor, 1)) (hq : pc + 1 = q) (k : gJ S cl rm nL fin κ q L (.long (x ||| y) :: st) w t) : gJ S cl rm nL fin κ pc L (.long y :: .long x :: st) w t := by
  obtain ⟨p, l, e, s, m, args, below, meth, c, D, ad, ac⟩ := κ
  subst hq
  intro a ha H locs ls hP hS hl
  exact lv_lor ok.1 ok.2.1 hd (k a ha H locs ls hP hS hl)
theorem g_lxor (ok : gOk S cl Ts own cc nL ret κ) {x y : Int64} {q : Nat} (hd : decode cc pc = .ok (.lxor, 1)) (hq : pc + 1 = q) (k : gJ S cl rm nL fin κ q L (.long (x ^^^ y) :: st) w t) : gJ S cl rm nL fin κ pc L (.long y :: .long x :: st) w t := by
  obtain ⟨p, l, e, s, m, args, below, meth, c, D, ad, ac⟩ := κ
  subst hq
  intro a ha H locs ls hP hS hl
  exact lv_lxor ok.1 ok.2.1 hd (k a ha H locs ls hP hS hl)
theorem g_i2l (ok : gOk S cl Ts own cc nL ret κ) {x : Int32} {q : Nat} (hd : decode cc pc = .ok (.i2l, 1)) (hq : pc + 1 = q) (k : gJ S cl rm nL fin κ q L (.long x.toInt64 :: st) w t) : gJ S cl rm nL fin κ pc L (.int x :: st) w t := by
  obtain ⟨p, l, e, s, m, args, below, meth, c, D, ad, ac⟩ := κ
  subst hq
  intro a ha H locs ls hP hS hl
  exact lv_i2l ok.1 ok.2.1 hd rfl (k a ha H locs ls hP hS hl)
theorem g_l2i (ok : gOk S cl Ts own cc nL ret κ) {x : Int64} {q : Nat} (hd : decode cc pc = .ok (.l2i, 1)) (hq : pc + 1 = q) (k : gJ S cl rm nL fin κ q L (.int x.toInt32 :: st) w t) : gJ S cl rm nL fin κ pc L (.long x :: st) w t := by
  obtain ⟨p, l, e, s, m, args, below, meth, c, D, ad, ac⟩ := κ
  subst hq
  intro a ha H locs ls hP hS hl
  exact lv_l2i ok.1 ok.2.1 hd rfl (k a ha H locs ls hP hS hl)
theorem g_i2b (ok : gOk S cl Ts own cc nL ret κ) {x : Int32} {q : Nat} (hd : decode cc pc = .ok (.i2b, 1)) (hq : pc + 1 = q) (k : gJ S cl rm nL fin κ q L (.int x.toInt8.toInt32 :: st) w t) : gJ S cl rm nL fin κ pc L (.int x :: st) w t := by
  obtain ⟨p, l, e, s, m, args, below, meth, c, D, ad, ac⟩ := κ
  subst hq
  intro a ha H locs ls hP hS hl
  exact lv_i2b ok.1 ok.2.1 hd rfl (k a ha H locs ls hP hS hl)
theorem g_i2c (ok : gOk S cl Ts own cc nL ret κ) {x : Int32} {q : Nat} (hd : decode cc pc = .ok (.i2c, 1)) (hq : pc + 1 = q) (k : gJ S cl rm nL fin κ q L (.int (x.toUInt32 % 65536).toInt32 :: st) w t) : gJ S cl rm nL fin κ pc L (.int x :: st) w t := by
  obtain ⟨p, l, e, s, m, args, below, meth, c, D, ad, ac⟩ := κ
  subst hq
  intro a ha H locs ls hP hS hl
  exact lv_i2c ok.1 ok.2.1 hd rfl (k a ha H locs ls hP hS hl)
theorem g_lshl (ok : gOk S cl Ts own cc nL ret κ) {x : Int64} {y : Int32} {q : Nat} (hd : decode cc pc = .ok (.lshl, 1)) (hq : pc + 1 = q) (k : gJ S cl rm nL fin κ q L (.long (x <<< (y.toInt64 &&& 63)) :: st) w t) : gJ S cl rm nL fin κ pc L (.int y :: .long x :: st) w t := by
  obtain ⟨p, l, e, s, m, args, below, meth, c, D, ad, ac⟩ := κ
  subst hq
  intro a ha H locs ls hP hS hl
  exact lv_lshl ok.1 ok.2.1 hd rfl (k a ha H locs ls hP hS hl)
theorem g_lshr (ok : gOk S cl Ts own cc nL ret κ) {x : Int64} {y : Int32} {q : Nat} (hd : decode cc pc = .ok (.lshr, 1)) (hq : pc + 1 = q) (k : gJ S cl rm nL fin κ q L (.long (x >>> (y.toInt64 &&& 63)) :: st) w t) : gJ S cl rm nL fin κ pc L (.int y :: .long x :: st) w t := by
  obtain ⟨p, l, e, s, m, args, below, meth, c, D, ad, ac⟩ := κ
  subst hq
  intro a ha H locs ls hP hS hl
  exact lv_lshr ok.1 ok.2.1 hd rfl (k a ha H locs ls hP hS hl)
theorem g_dup (ok : gOk S cl Ts own cc nL ret κ) {x : Value} {q : Nat} (hd : decode cc pc = .ok (.dup, 1)) (hq : pc + 1 = q) (hc : ∀ ad : Nat → Nat, (gV ad x).category = 1) (k : gJ S cl rm nL fin κ q L (x :: x :: st) w t) : gJ S cl rm nL fin κ pc L (x :: st) w t := by
  obtain ⟨p, l, e, s, m, args, below, meth, c, D, ad, ac⟩ := κ
  subst hq
  intro a ha H locs ls hP hS hl
  exact lv_dup ok.1 ok.2.1 hd (hc ad) (k a ha H locs ls hP hS hl)
theorem g_dup2 (ok : gOk S cl Ts own cc nL ret κ) {x y : Value} {q : Nat} (hd : decode cc pc = .ok (.dup2, 1)) (hq : pc + 1 = q) (hc : ∀ ad : Nat → Nat, (gV ad x).category = 1 ∧ (gV ad y).category = 1) (k : gJ S cl rm nL fin κ q L (x :: y :: x :: y :: st) w t) : gJ S cl rm nL fin κ pc L (x :: y :: st) w t := by
  obtain ⟨p, l, e, s, m, args, below, meth, c, D, ad, ac⟩ := κ
  subst hq
  intro a ha H locs ls hP hS hl
  exact lv_dup2_11 ok.1 ok.2.1 hd (hc ad).1 (hc ad).2 (k a ha H locs ls hP hS hl)
theorem g_pop (ok : gOk S cl Ts own cc nL ret κ) {x : Value} {q : Nat} (hd : decode cc pc = .ok (.pop, 1)) (hq : pc + 1 = q) (hc : ∀ ad : Nat → Nat, (gV ad x).category = 1) (k : gJ S cl rm nL fin κ q L st w t) : gJ S cl rm nL fin κ pc L (x :: st) w t := by
  obtain ⟨p, l, e, s, m, args, below, meth, c, D, ad, ac⟩ := κ
  subst hq
  intro a ha H locs ls hP hS hl
  exact lv_pop ok.1 ok.2.1 hd (hc ad) (k a ha H locs ls hP hS hl)
theorem g_goto (ok : gOk S cl Ts own cc nL ret κ) {off : Int} {q : Nat} (hd : decode cc pc = .ok (.goto off, 3)) (hq : (pc : Int) + off = (q : Int)) (k : gJ S cl rm nL fin κ q L st w t) : gJ S cl rm nL fin κ pc L st w t := by
  obtain ⟨p, l, e, s, m, args, below, meth, c, D, ad, ac⟩ := κ
  intro a ha H locs ls hP hS hl
  exact lv_goto ok.1 ok.2.1 hd hq (k a ha H locs ls hP hS hl)
theorem g_ite {c0 : Prop} [Decidable c0] {t1 t2 : Option α} {a : α} (h : (if c0 then t1 else t2) = some a) : (c0 → t1 = some a) ∧ (¬ c0 → t2 = some a) := by
  by_cases hc : c0
  · rw [if_pos hc] at h
    exact ⟨fun _ => h, fun n => absurd hc n⟩
  · rw [if_neg hc] at h
    exact ⟨fun n => absurd n hc, fun _ => h⟩
end GR
