section GLP
variable {α : Type} {S : gS} {cl : List vw_C} {Ts : List Cond} {own : String} {cc : ByteArray} {nL : Nat} {ret : Option FieldType} {rm : Room} {fin : α → Option Int32 × gT} {κ : gC} {pc : Nat} {L : List (Nat × Value)} {st : List Value} {w : gT} {t : Option α}
def gW0 {α : Type} (f : (gT → Option α) → gT → Option α) : Nat → gT → Option α
  | 0, _ => none
  | n + 1, w => f (gW0 f n) w
theorem g_loop0 {f : (gT → Option α) → gT → Option α} {Lf : List (Nat × Value)} (h : ∀ go : gT → Option α, (∀ (w : gT), gJ S cl rm nL fin κ pc Lf st w (go w)) → ∀ (w : gT), gJ S cl rm nL fin κ pc Lf st w (f go w)) : ∀ (n : Nat) (w : gT), gJ S cl rm nL fin κ pc Lf st w (gW0 f n w) := by
  intro n
  induction n with
  | zero => intro  w; exact gJ_none
  | succ n ih => intro  w; exact h (gW0 f n) ih w
def gW1 {α : Type} (f : (Int32 → gT → Option α) → Int32 → gT → Option α) : Nat → Int32 → gT → Option α
  | 0, _, _ => none
  | n + 1, x0, w => f (gW1 f n) x0 w
theorem g_loop1 {f : (Int32 → gT → Option α) → Int32 → gT → Option α} {Lf : Int32 → List (Nat × Value)} (h : ∀ go : Int32 → gT → Option α, (∀ (x0 : Int32) (w : gT), gJ S cl rm nL fin κ pc (Lf x0) st w (go x0 w)) → ∀ (x0 : Int32) (w : gT), gJ S cl rm nL fin κ pc (Lf x0) st w (f go x0 w)) : ∀ (n : Nat) (x0 : Int32) (w : gT), gJ S cl rm nL fin κ pc (Lf x0) st w (gW1 f n x0 w) := by
  intro n
  induction n with
  | zero => intro x0 w; exact gJ_none
  | succ n ih => intro x0 w; exact h (gW1 f n) ih x0 w
def gW2 {α : Type} (f : (Int32 → Int32 → gT → Option α) → Int32 → Int32 → gT → Option α) : Nat → Int32 → Int32 → gT → Option α
  | 0, _, _, _ => none
  | n + 1, x0, x1, w => f (gW2 f n) x0 x1 w
theorem g_loop2 {f : (Int32 → Int32 → gT → Option α) → Int32 → Int32 → gT → Option α} {Lf : Int32 → Int32 → List (Nat × Value)} (h : ∀ go : Int32 → Int32 → gT → Option α, (∀ (x0 x1 : Int32) (w : gT), gJ S cl rm nL fin κ pc (Lf x0 x1) st w (go x0 x1 w)) → ∀ (x0 x1 : Int32) (w : gT), gJ S cl rm nL fin κ pc (Lf x0 x1) st w (f go x0 x1 w)) : ∀ (n : Nat) (x0 x1 : Int32) (w : gT), gJ S cl rm nL fin κ pc (Lf x0 x1) st w (gW2 f n x0 x1 w) := by
  intro n
  induction n with
  | zero => intro x0 x1 w; exact gJ_none
  | succ n ih => intro x0 x1 w; exact h (gW2 f n) ih x0 x1 w
def gW3 {α : Type} (f : (Int32 → Int32 → Int32 → gT → Option α) → Int32 → Int32 → Int32 → gT → Option α) : Nat → Int32 → Int32 → Int32 → gT → Option α
  | 0, _, _, _, _ => none
  | n + 1, x0, x1, x2, w => f (gW3 f n) x0 x1 x2 w
theorem g_loop3 {f : (Int32 → Int32 → Int32 → gT → Option α) → Int32 → Int32 → Int32 → gT → Option α} {Lf : Int32 → Int32 → Int32 → List (Nat × Value)} (h : ∀ go : Int32 → Int32 → Int32 → gT → Option α, (∀ (x0 x1 x2 : Int32) (w : gT), gJ S cl rm nL fin κ pc (Lf x0 x1 x2) st w (go x0 x1 x2 w)) → ∀ (x0 x1 x2 : Int32) (w : gT), gJ S cl rm nL fin κ pc (Lf x0 x1 x2) st w (f go x0 x1 x2 w)) : ∀ (n : Nat) (x0 x1 x2 : Int32) (w : gT), gJ S cl rm nL fin κ pc (Lf x0 x1 x2) st w (gW3 f n x0 x1 x2 w) := by
  intro n
  induction n with
  | zero => intro x0 x1 x2 w; exact gJ_none
  | succ n ih => intro x0 x1 x2 w; exact h (gW3 f n) ih x0 x1 x2 w
def gW4 {α : Type} (f : (Int32 → Int32 → Int32 → Int32 → gT → Option α) → Int32 → Int32 → Int32 → Int32 → gT → Option α) : Nat → Int32 → Int32 → Int32 → Int32 → gT → Option α
  | 0, _, _, _, _, _ => none
  | n + 1, x0, x1, x2, x3, w => f (gW4 f n) x0 x1 x2 x3 w
theorem g_loop4 {f : (Int32 → Int32 → Int32 → Int32 → gT → Option α) → Int32 → Int32 → Int32 → Int32 → gT → Option α} {Lf : Int32 → Int32 → Int32 → Int32 → List (Nat × Value)} (h : ∀ go : Int32 → Int32 → Int32 → Int32 → gT → Option α, (∀ (x0 x1 x2 x3 : Int32) (w : gT), gJ S cl rm nL fin κ pc (Lf x0 x1 x2 x3) st w (go x0 x1 x2 x3 w)) → ∀ (x0 x1 x2 x3 : Int32) (w : gT), gJ S cl rm nL fin κ pc (Lf x0 x1 x2 x3) st w (f go x0 x1 x2 x3 w)) : ∀ (n : Nat) (x0 x1 x2 x3 : Int32) (w : gT), gJ S cl rm nL fin κ pc (Lf x0 x1 x2 x3) st w (gW4 f n x0 x1 x2 x3 w) := by
  intro n
  induction n with
  | zero => intro x0 x1 x2 x3 w; exact gJ_none
  | succ n ih => intro x0 x1 x2 x3 w; exact h (gW4 f n) ih x0 x1 x2 x3 w
def gW5 {α : Type} (f : (Int32 → Int32 → Int32 → Int32 → Int32 → gT → Option α) → Int32 → Int32 → Int32 → Int32 → Int32 → gT → Option α) : Nat → Int32 → Int32 → Int32 → Int32 → Int32 → gT → Option α
  | 0, _, _, _, _, _, _ => none
  | n + 1, x0, x1, x2, x3, x4, w => f (gW5 f n) x0 x1 x2 x3 x4 w
theorem g_loop5 {f : (Int32 → Int32 → Int32 → Int32 → Int32 → gT → Option α) → Int32 → Int32 → Int32 → Int32 → Int32 → gT → Option α} {Lf : Int32 → Int32 → Int32 → Int32 → Int32 → List (Nat × Value)} (h : ∀ go : Int32 → Int32 → Int32 → Int32 → Int32 → gT → Option α, (∀ (x0 x1 x2 x3 x4 : Int32) (w : gT), gJ S cl rm nL fin κ pc (Lf x0 x1 x2 x3 x4) st w (go x0 x1 x2 x3 x4 w)) → ∀ (x0 x1 x2 x3 x4 : Int32) (w : gT), gJ S cl rm nL fin κ pc (Lf x0 x1 x2 x3 x4) st w (f go x0 x1 x2 x3 x4 w)) : ∀ (n : Nat) (x0 x1 x2 x3 x4 : Int32) (w : gT), gJ S cl rm nL fin κ pc (Lf x0 x1 x2 x3 x4) st w (gW5 f n x0 x1 x2 x3 x4 w) := by
  intro n
  induction n with
  | zero => intro x0 x1 x2 x3 x4 w; exact gJ_none
  | succ n ih => intro x0 x1 x2 x3 x4 w; exact h (gW5 f n) ih x0 x1 x2 x3 x4 w
def gW6 {α : Type} (f : (Int32 → Int32 → Int32 → Int32 → Int32 → Int32 → gT → Option α) → Int32 → Int32 → Int32 → Int32 → Int32 → Int32 → gT → Option α) : Nat → Int32 → Int32 → Int32 → Int32 → Int32 → Int32 → gT → Option α
  | 0, _, _, _, _, _, _, _ => none
  | n + 1, x0, x1, x2, x3, x4, x5, w => f (gW6 f n) x0 x1 x2 x3 x4 x5 w
theorem g_loop6 {f : (Int32 → Int32 → Int32 → Int32 → Int32 → Int32 → gT → Option α) → Int32 → Int32 → Int32 → Int32 → Int32 → Int32 → gT → Option α} {Lf : Int32 → Int32 → Int32 → Int32 → Int32 → Int32 → List (Nat × Value)} (h : ∀ go : Int32 → Int32 → Int32 → Int32 → Int32 → Int32 → gT → Option α, (∀ (x0 x1 x2 x3 x4 x5 : Int32) (w : gT), gJ S cl rm nL fin κ pc (Lf x0 x1 x2 x3 x4 x5) st w (go x0 x1 x2 x3 x4 x5 w)) → ∀ (x0 x1 x2 x3 x4 x5 : Int32) (w : gT), gJ S cl rm nL fin κ pc (Lf x0 x1 x2 x3 x4 x5) st w (f go x0 x1 x2 x3 x4 x5 w)) : ∀ (n : Nat) (x0 x1 x2 x3 x4 x5 : Int32) (w : gT), gJ S cl rm nL fin κ pc (Lf x0 x1 x2 x3 x4 x5) st w (gW6 f n x0 x1 x2 x3 x4 x5 w) := by
  intro n
  induction n with
  | zero => intro x0 x1 x2 x3 x4 x5 w; exact gJ_none
  | succ n ih => intro x0 x1 x2 x3 x4 x5 w; exact h (gW6 f n) ih x0 x1 x2 x3 x4 x5 w
def gW7 {α : Type} (f : (Int32 → Int32 → Int32 → Int32 → Int32 → Int32 → Int32 → gT → Option α) → Int32 → Int32 → Int32 → Int32 → Int32 → Int32 → Int32 → gT → Option α) : Nat → Int32 → Int32 → Int32 → Int32 → Int32 → Int32 → Int32 → gT → Option α
  | 0, _, _, _, _, _, _, _, _ => none
  | n + 1, x0, x1, x2, x3, x4, x5, x6, w => f (gW7 f n) x0 x1 x2 x3 x4 x5 x6 w
theorem g_loop7 {f : (Int32 → Int32 → Int32 → Int32 → Int32 → Int32 → Int32 → gT → Option α) → Int32 → Int32 → Int32 → Int32 → Int32 → Int32 → Int32 → gT → Option α} {Lf : Int32 → Int32 → Int32 → Int32 → Int32 → Int32 → Int32 → List (Nat × Value)} (h : ∀ go : Int32 → Int32 → Int32 → Int32 → Int32 → Int32 → Int32 → gT → Option α, (∀ (x0 x1 x2 x3 x4 x5 x6 : Int32) (w : gT), gJ S cl rm nL fin κ pc (Lf x0 x1 x2 x3 x4 x5 x6) st w (go x0 x1 x2 x3 x4 x5 x6 w)) → ∀ (x0 x1 x2 x3 x4 x5 x6 : Int32) (w : gT), gJ S cl rm nL fin κ pc (Lf x0 x1 x2 x3 x4 x5 x6) st w (f go x0 x1 x2 x3 x4 x5 x6 w)) : ∀ (n : Nat) (x0 x1 x2 x3 x4 x5 x6 : Int32) (w : gT), gJ S cl rm nL fin κ pc (Lf x0 x1 x2 x3 x4 x5 x6) st w (gW7 f n x0 x1 x2 x3 x4 x5 x6 w) := by
  intro n
  induction n with
  | zero => intro x0 x1 x2 x3 x4 x5 x6 w; exact gJ_none
  | succ n ih => intro x0 x1 x2 x3 x4 x5 x6 w; exact h (gW7 f n) ih x0 x1 x2 x3 x4 x5 x6 w
theorem g_leti {x : Int32} {f : Int32 → Option α} (k : ∀ v : Int32, gJ S cl rm nL fin κ pc L (.int v :: st) w (f v)) : gJ S cl rm nL fin κ pc L (.int x :: st) w (gLet x f) := k x
theorem g_letw {f : gT → Option α} (k : ∀ w1 : gT, gJ S cl rm nL fin κ pc L st w1 (f w1)) : gJ S cl rm nL fin κ pc L st w (gLet w f) := k w
theorem g_join {β : Type} {k : β} {f : β → Option α} {P : β → Prop} (hk : P k) (h : ∀ k' : β, P k' → gJ S cl rm nL fin κ pc L st w (f k')) : gJ S cl rm nL fin κ pc L st w (gLet k f) := h k hk
theorem g_idivC (ok : gOk S cl Ts own cc nL ret κ) {x y : Int32} {q : Nat} (hd : decode cc pc = .ok (.idiv, 1)) (hq : pc + 1 = q) (hy : ¬ y = 0) (k : gJ S cl rm nL fin κ q L (.int (x / y) :: st) w t) : gJ S cl rm nL fin κ pc L (.int y :: .int x :: st) w t := by
  have h := g_idiv ok hd hq k
  rw [if_neg hy] at h
  exact h
theorem g_iremC (ok : gOk S cl Ts own cc nL ret κ) {x y : Int32} {q : Nat} (hd : decode cc pc = .ok (.irem, 1)) (hq : pc + 1 = q) (hy : ¬ y = 0) (k : gJ S cl rm nL fin κ q L (.int (gRem x y) :: st) w t) : gJ S cl rm nL fin κ pc L (.int y :: .int x :: st) w t := by
  have h := g_irem ok hd hq k
  rw [if_neg hy] at h
  exact h
theorem g_idivV (ok : gOk S cl Ts own cc nL ret κ) {x y : Int32} {q : Nat} (hd : decode cc pc = .ok (.idiv, 1)) (hq : pc + 1 = q) (k : gJ S cl rm nL fin κ q L (.int (x / y) :: st) w t) : gJ S cl rm nL fin κ pc L (.int y :: .int x :: st) w (gZ y t) := g_idiv ok hd hq k
theorem g_iremV (ok : gOk S cl Ts own cc nL ret κ) {x y : Int32} {q : Nat} (hd : decode cc pc = .ok (.irem, 1)) (hq : pc + 1 = q) (k : gJ S cl rm nL fin κ q L (.int (gRem x y) :: st) w t) : gJ S cl rm nL fin κ pc L (.int y :: .int x :: st) w (gZ y t) := g_irem ok hd hq k
theorem g_ialdC (ok : gOk S cl Ts own cc nL ret κ) {b n j : Nat} {i : Int32} {q : Nat} (hd : decode cc pc = .ok (.iaload, 1)) (hq : pc + 1 = q) (hS0 : S[b]? = some (.inl (.int, n))) (hi : ¬ (i < 0 ∨ n ≤ i.toNatClampNeg)) (hj : i.toNatClampNeg = j) (k : gJ S cl rm nL fin κ q L (.int (w.1 b j) :: st) w t) : gJ S cl rm nL fin κ pc L (.int i :: .ref b :: st) w t := by
  subst hj
  have h := g_iald ok hd hq hS0 k
  rw [show gG i n t = t from if_neg hi] at h
  exact h
theorem g_iastC (ok : gOk S cl Ts own cc nL ret κ) {b n j : Nat} {i x : Int32} {q : Nat} (hd : decode cc pc = .ok (.iastore, 1)) (hq : pc + 1 = q) (hS0 : S[b]? = some (.inl (.int, n))) (hi : ¬ (i < 0 ∨ n ≤ i.toNatClampNeg)) (hj : i.toNatClampNeg = j) (k : gJ S cl rm nL fin κ q L st (gU w b j x) t) : gJ S cl rm nL fin κ pc L (.int x :: .int i :: .ref b :: st) w t := by
  subst hj
  have h := g_iast ok hd hq hS0 k
  rw [show gG i n t = t from if_neg hi] at h
  exact h
theorem g_max (ok : gOk S cl Ts own cc nL ret κ) {index : Nat} {x y : Int32} {q : Nat} (hd : decode cc pc = .ok (.invokestatic index, 3)) (hq : pc + 3 = q) (h1 : Cond.methodLink own index Lib.Math.max.name ∈ Ts) (h2 : Cond.static Lib.Math.max.name ∈ Ts) (h3 : Cond.initialized "java/lang/Math" ∈ Ts) (h4 : Cond.code Lib.Math.max.name Lib.Math.max.code 2 (some .int) ∈ Ts) (hr : 1 ≤ rm.frames ∧ 21 ≤ rm.locals) (hcat : ∀ ad : Nat → Nat, ((st.map (gV ad)).map fun v => v.category).sum ≤ 8) (k : gJ S cl rm nL fin κ q L (.int (gMax x y) :: st) w t) : gJ S cl rm nL fin κ pc L (.int y :: .int x :: st) w t := by
  obtain ⟨p, l, e, s, m, args, below, meth, c, D, ad, ac⟩ := κ
  subst hq
  intro a ha H locs ls hP hS hl
  have hts := ok.2.2.2.2.2.2.1
  exact va_mmax ok.1 ok.2.1 (ok.2.2.1.trans hl.1.symm) ok.2.2.2.2.2.1 (hts _ h1) (hts _ h2) (hts _ h3) (hts _ h4) hr.1 (by have := hcat ad; have := hr.2; omega) (Nat.zero_le _) (Nat.zero_le _) hd (k a ha H locs ls hP hS hl)
theorem g_min (ok : gOk S cl Ts own cc nL ret κ) {index : Nat} {x y : Int32} {q : Nat} (hd : decode cc pc = .ok (.invokestatic index, 3)) (hq : pc + 3 = q) (h1 : Cond.methodLink own index Lib.Math.min.name ∈ Ts) (h2 : Cond.static Lib.Math.min.name ∈ Ts) (h3 : Cond.initialized "java/lang/Math" ∈ Ts) (h4 : Cond.code Lib.Math.min.name Lib.Math.min.code 2 (some .int) ∈ Ts) (hr : 1 ≤ rm.frames ∧ 21 ≤ rm.locals) (hcat : ∀ ad : Nat → Nat, ((st.map (gV ad)).map fun v => v.category).sum ≤ 8) (k : gJ S cl rm nL fin κ q L (.int (gMin x y) :: st) w t) : gJ S cl rm nL fin κ pc L (.int y :: .int x :: st) w t := by
  obtain ⟨p, l, e, s, m, args, below, meth, c, D, ad, ac⟩ := κ
  subst hq
  intro a ha H locs ls hP hS hl
  have hts := ok.2.2.2.2.2.2.1
  exact va_mmin ok.1 ok.2.1 (ok.2.2.1.trans hl.1.symm) ok.2.2.2.2.2.1 (hts _ h1) (hts _ h2) (hts _ h3) (hts _ h4) hr.1 (by have := hcat ad; have := hr.2; omega) (Nat.zero_le _) (Nat.zero_le _) hd (k a ha H locs ls hP hS hl)
theorem g_copy (ok : gOk S cl Ts own cc nL ret κ) {index b d n0 n1 N : Nat} {n : Int32} {q : Nat} (hd : decode cc pc = .ok (.invokestatic index, 3)) (hq : pc + 3 = q) (h1 : Cond.methodLink own index arraycopyName ∈ Ts) (h2 : Cond.native arraycopyName ∈ Ts) (h3 : Cond.static arraycopyName ∈ Ts) (h4 : Cond.initialized "java/lang/System" ∈ Ts) (hb : S[b]? = some (.inl (.int, n0))) (hdd : S[d]? = some (.inl (.int, n1))) (hn : ¬ n < 0) (hN : n.toNatClampNeg = N) (h0 : N ≤ n0 ∧ N ≤ n1) (hr : 1 ≤ rm.frames ∧ 8 + (nativeFrameWords "java/lang/System" "arraycopy" 5 + 11) ≤ rm.locals) (hcat : ∀ ad : Nat → Nat, ((st.map (gV ad)).map fun v => v.category).sum ≤ 8) (k : gJ S cl rm nL fin κ q L st (gCpy w b d N) t) : gJ S cl rm nL fin κ pc L (.int n :: .int (nI 0) :: .ref d :: .int (nI 0) :: .ref b :: st) w t := by
  obtain ⟨p, l, e, s, m, args, below, meth, c, D, ad, ac⟩ := κ
  subst hq
  subst hN
  intro a ha H locs ls hP hS hl
  have hts := ok.2.2.2.2.2.2.1
  refine va_copyi ok.1 ok.2.1 (ok.2.2.1.trans hl.1.symm) ok.2.2.2.2.2.1 (hts _ h1) (hts _ h2) (hts _ h3) (hts _ h4) (ok.2.2.2.2.2.2.2.1.two hb hdd) hP (gWs_D ok.2.2.2.2.2.2.2.2.1 gA_in) hS b d 0 1 (f := w.1 b) (g := w.1 d) (ty := .int) (gWs_at hb) (gWs_at hdd) rfl rfl rfl (by decide) (by decide) hn (by rw [nI_0]; simpa using h0.1) (by rw [nI_0]; simpa using h0.2) (fun _ _ => rfl) hr.1 (by have := hcat ad; have := hr.2; omega) hd (fun H1 locs1 hP1 _ hS1 => k a ha H1 locs1 ls ?_ hS1 hl)
  rw [← gWs_set (w := w) (w' := gCpy w b d n.toNatClampNeg) hdd (fun j d' _ hj => gE_UA hj)]
  show va_P D cl ((gWs S ad ac w).set d (ad d, .inl (ac d, n1, .inl ((gCpy w b d n.toNatClampNeg).1 d)))) H1
  have e : (gCpy w b d n.toNatClampNeg).1 d = va_cpy (w.1 b) (w.1 d) (nI 0).toNatClampNeg (nI 0).toNatClampNeg n.toNatClampNeg := by
    rw [nI_0]
    funext j
    simp [gCpy, gUA, va_cpy]
  rw [e]
  exact hP1
end GLP
