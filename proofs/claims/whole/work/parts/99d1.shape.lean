def tysF (ac : Nat → ClassId) : Nat → List gD1 → List (ClassId × FieldType)
  | _, [] => []
  | n, .inl q :: l => (ac n, q.1) :: tysF ac (n + 1) l
  | n, .inr _ :: l => tysF ac (n + 1) l
def tysOf (S : gS) (ac : Nat → ClassId) : List (ClassId × FieldType) := tysF ac 0 S
theorem tysF_in {ac : Nat → ClassId} : ∀ (S : gS) (n k : Nat) (ty : FieldType) (m : Nat), S[k]? = some (.inl (ty, m)) → (ac (n + k), ty) ∈ tysF ac n S
  | [], _, _, _, _, h => by simp at h
  | .inl q :: l, n, 0, ty, m, h => by
    simp only [List.getElem?_cons_zero, Option.some.injEq, Sum.inl.injEq] at h
    subst h
    exact List.mem_cons_self
  | .inr _ :: l, n, 0, ty, m, h => by simp at h
  | .inl q :: l, n, k + 1, ty, m, h => by
    have h1 := tysF_in (ac := ac) l (n + 1) k ty m (by simpa using h)
    rw [show n + 1 + k = n + (k + 1) by omega] at h1
    exact List.mem_cons_of_mem _ h1
  | .inr _ :: l, n, k + 1, ty, m, h => by
    have h1 := tysF_in (ac := ac) l (n + 1) k ty m (by simpa using h)
    rw [show n + 1 + k = n + (k + 1) by omega] at h1
    exact h1
theorem gK_of {S : gS} {cl : List vw_C} {D : va_G} {ac : Nat → ClassId} {tys : List (ClassId × FieldType)} {U : State} (h : va_K D cl tys U) (ht : tysOf S ac = tys) : gK S cl D ac U := by
  refine ⟨⟨h.1, fun k q hq => by simp at hq⟩, fun k ty n hk => ?_⟩
  have hm : (ac k, ty) ∈ tys := by
    rw [← ht]
    have h1 := tysF_in (ac := ac) S 0 k ty n hk
    rw [Nat.zero_add] at h1
    exact h1
  obtain ⟨i, hi⟩ := List.getElem?_of_mem hm
  exact h.2 i _ hi
def mF {α β : Type} (f : Nat → α → β) : Nat → List α → List β
  | _, [] => []
  | n, a :: l => f n a :: mF f (n + 1) l
theorem mF_eq {α β : Type} (f : Nat → α → β) : ∀ (l : List α) (n : Nat), l.mapIdx (fun i a => f (n + i) a) = mF f n l
  | [], _ => rfl
  | a :: l, n => by
    rw [List.mapIdx_cons]
    show f (n + 0) a :: l.mapIdx (fun i b => f (n + (i + 1)) b) = f n a :: mF f (n + 1) l
    rw [← mF_eq f l (n + 1)]
    have e : (fun (i : Nat) (b : α) => f (n + (i + 1)) b) = fun i b => f (n + 1 + i) b := by
      funext i b
      rw [show n + (i + 1) = n + 1 + i by omega]
    rw [e]
    rfl
theorem mF_0 {α β : Type} (f : Nat → α → β) (l : List α) : l.mapIdx f = mF f 0 l := by
  rw [← mF_eq f l 0]
  congr 1
  funext i a
  rw [Nat.zero_add]
def gE' (ad : Nat → Nat) (ac : Nat → ClassId) (w : gT) (k : Nat) (d : gD1) : Nat × va_E := match d with
  | .inl q => (ad k, .inl (ac k, q.2, gAr q.1 (w.1 k) w.2))
  | .inr q => (ad k, .inr (q.1, mF (gF ad (w.1 k)) 0 q.2))
theorem gWs_mF {S : gS} {ad : Nat → Nat} {ac : Nat → ClassId} {w : gT} : gWs S ad ac w = mF (gE' ad ac w) 0 S := by
  rw [← mF_0]
  show S.mapIdx _ = S.mapIdx _
  congr 1
  funext k d
  cases d with
  | inl q => rfl
  | inr q => simp only [gE, gE', mF_0]
set_option maxRecDepth 100000 in
set_option maxHeartbeats 8000000 in
theorem ws_S1 {ad : Nat → Nat} {ac : Nat → ClassId} : gWs S1 ad ac wx0 = [(ad 0, .inr (9, [.ref (ad 1), .ref (ad 10), .int 0, .ref (ad 19), .ref (ad 21), .ref (ad 27), .ref (ad 33), .ref (ad 40), .ref (ad 47), .ref (ad 48), .ref (ad 50), .ref (ad 52), .ref (ad 56), .ref (ad 59)])), (ad 1, .inr (2, [.ref (ad 2), .ref (ad 3), .ref (ad 4), .ref (ad 5), .ref (ad 6), .ref (ad 7), .ref (ad 8), .ref (ad 9), .int 0, .int 0, .int 0, .int (-1), .int 0, .int 1])), (ad 2, .inl (ac 2, 12, .inl fun _ => 0)), (ad 3, .inl (ac 3, 70, .inl fun _ => 0)), (ad 4, .inl (ac 4, 10, .inl fun _ => 0)), (ad 5, .inl (ac 5, 10, .inl fun _ => 0)), (ad 6, .inl (ac 6, 10, .inl fun _ => 0)), (ad 7, .inl (ac 7, 10, .inl fun _ => 0)), (ad 8, .inl (ac 8, 10, .inl fun _ => 0)), (ad 9, .inl (ac 9, 40, .inl fun _ => 0)), (ad 10, .inr (2, [.ref (ad 11), .ref (ad 12), .ref (ad 13), .ref (ad 14), .ref (ad 15), .ref (ad 16), .ref (ad 17), .ref (ad 18), .int 0, .int 0, .int 0, .int (-1), .int 0, .int 1])), (ad 11, .inl (ac 11, 12, .inl fun _ => 0)), (ad 12, .inl (ac 12, 70, .inl fun _ => 0)), (ad 13, .inl (ac 13, 10, .inl fun _ => 0)), (ad 14, .inl (ac 14, 10, .inl fun _ => 0)), (ad 15, .inl (ac 15, 10, .inl fun _ => 0)), (ad 16, .inl (ac 16, 10, .inl fun _ => 0)), (ad 17, .inl (ac 17, 10, .inl fun _ => 0)), (ad 18, .inl (ac 18, 40, .inl fun _ => 0)), (ad 19, .inr (6, [.ref (ad 20), .int 0, .int 0, .int 0, .int 0])), (ad 20, .inl (ac 20, 220, .inl fun _ => 0)), (ad 21, .inr (7, [.ref (ad 22), .ref (ad 23), .ref (ad 24), .ref (ad 25), .ref (ad 26), .int 0])), (ad 22, .inl (ac 22, 16, .inl fun _ => 0)), (ad 23, .inl (ac 23, 16, .inl fun _ => 0)), (ad 24, .inl (ac 24, 16, .inl fun _ => 0)), (ad 25, .inl (ac 25, 16, .inl fun _ => 0)), (ad 26, .inl (ac 26, 16, .inl fun _ => 0)), (ad 27, .inr (7, [.ref (ad 28), .ref (ad 29), .ref (ad 30), .ref (ad 31), .ref (ad 32), .int 0])), (ad 28, .inl (ac 28, 16, .inl fun _ => 0)), (ad 29, .inl (ac 29, 16, .inl fun _ => 0)), (ad 30, .inl (ac 30, 16, .inl fun _ => 0)), (ad 31, .inl (ac 31, 16, .inl fun _ => 0)), (ad 32, .inl (ac 32, 16, .inl fun _ => 0)), (ad 33, .inr (3, [.ref (ad 34), .ref (ad 35), .ref (ad 36), .int 0, .ref (ad 37), .ref (ad 38), .int 0, .ref (ad 39)])), (ad 34, .inl (ac 34, 14, .inl fun _ => 0)), (ad 35, .inl (ac 35, 14, .inl fun _ => 0)), (ad 36, .inl (ac 36, 14, .inl fun _ => 0)), (ad 37, .inl (ac 37, 256, .inl fun _ => 0)), (ad 38, .inl (ac 38, 256, .inl fun _ => 0)), (ad 39, .inl (ac 39, 32, .inl fun _ => 0)), (ad 40, .inr (3, [.ref (ad 41), .ref (ad 42), .ref (ad 43), .int 0, .ref (ad 44), .ref (ad 45), .int 0, .ref (ad 46)])), (ad 41, .inl (ac 41, 14, .inl fun _ => 0)), (ad 42, .inl (ac 42, 14, .inl fun _ => 0)), (ad 43, .inl (ac 43, 14, .inl fun _ => 0)), (ad 44, .inl (ac 44, 256, .inl fun _ => 0)), (ad 45, .inl (ac 45, 256, .inl fun _ => 0)), (ad 46, .inl (ac 46, 32, .inl fun _ => 0)), (ad 47, .inr (4, [.ref (ad 19), .ref (ad 40)])), (ad 48, .inr (1, [.ref (ad 1), .ref (ad 33), .ref (ad 49)])), (ad 49, .inl (ac 49, 26, .inl fun _ => 0)), (ad 50, .inr (8, [.ref (ad 1), .ref (ad 21), .ref (ad 48), .ref (ad 51), .int 0, .int 0])), (ad 51, .inl (ac 51, 47, .inl fun _ => 0)), (ad 52, .inr (0, [.ref (ad 1), .ref (ad 48), .ref (ad 53), .ref (ad 54), .ref (ad 55), .int 0, .int 0])), (ad 53, .inl (ac 53, 1024, .inr (.inl fun _ => 0))), (ad 54, .inl (ac 54, 840, .inl fun _ => 0)), (ad 55, .inl (ac 55, 1024, .inl fun _ => 0)), (ad 56, .inr (5, [.ref (ad 57), .ref (ad 58), .int 0])), (ad 57, .inl (ac 57, 96, .inl fun _ => 0)), (ad 58, .inl (ac 58, 4096, .inl fun _ => 0)), (ad 59, .inl (ac 59, 10, .inl fun _ => 0))] := gWs_mF.trans rfl
set_option maxRecDepth 100000 in
set_option maxHeartbeats 8000000 in
theorem ty_S1 (ac : Nat → ClassId) : tysOf S1 ac = [(ac 2, .int), (ac 3, .int), (ac 4, .int), (ac 5, .int), (ac 6, .int), (ac 7, .int), (ac 8, .int), (ac 9, .int), (ac 11, .int), (ac 12, .int), (ac 13, .int), (ac 14, .int), (ac 15, .int), (ac 16, .int), (ac 17, .int), (ac 18, .int), (ac 20, .int), (ac 22, .int), (ac 23, .int), (ac 24, .int), (ac 25, .int), (ac 26, .int), (ac 28, .int), (ac 29, .int), (ac 30, .int), (ac 31, .int), (ac 32, .int), (ac 34, .int), (ac 35, .int), (ac 36, .int), (ac 37, .int), (ac 38, .int), (ac 39, .int), (ac 41, .int), (ac 42, .int), (ac 43, .int), (ac 44, .int), (ac 45, .int), (ac 46, .int), (ac 49, .int), (ac 51, .int), (ac 53, .long), (ac 54, .int), (ac 55, .int), (ac 57, .int), (ac 58, .int), (ac 59, .int)] := rfl
set_option maxRecDepth 100000 in
set_option maxHeartbeats 8000000 in
theorem ws_S2 {ad : Nat → Nat} {ac : Nat → ClassId} : gWs S2 ad ac wm0 = [(ad 0, .inr (0, [.int 1, .int (-1), .int 0, .int 0, .int 0, .ref (ad 1), .ref (ad 2), .ref (ad 3), .ref (ad 4), .ref (ad 5), .ref (ad 6), .ref (ad 7), .ref (ad 8), .ref (ad 9), .int 0, .int 0, .int 0, .int 0, .int 0, .int 0, .int 0, .ref (ad 10), .ref (ad 11), .ref (ad 12), .ref (ad 13), .ref (ad 14), .ref (ad 15), .ref (ad 16), .ref (ad 17), .int 0, .int 0, .int 0, .int 0, .int 0, .ref (ad 18), .ref (ad 19), .ref (ad 20), .ref (ad 21), .ref (ad 22), .ref (ad 23), .ref (ad 24), .ref (ad 25), .ref (ad 26), .ref (ad 27), .ref (ad 28), .ref (ad 29), .ref (ad 30), .ref (ad 31), .ref (ad 32), .ref (ad 33), .ref (ad 34), .ref (ad 35), .ref (ad 36), .ref (ad 37), .ref (ad 38), .ref (ad 39), .int 0, .int 0, .int 0, .int 0, .int 0, .int 0, .ref (ad 40), .ref (ad 41), .ref (ad 42), .ref (ad 43), .ref (ad 44), .ref (ad 45), .ref (ad 46), .ref (ad 47)])), (ad 1, .inl (ac 1, 12, .inl fun _ => 0)), (ad 2, .inl (ac 2, 10, .inl fun _ => 0)), (ad 3, .inl (ac 3, 70, .inl fun _ => 0)), (ad 4, .inl (ac 4, 10, .inl fun _ => 0)), (ad 5, .inl (ac 5, 10, .inl fun _ => 0)), (ad 6, .inl (ac 6, 10, .inl fun _ => 0)), (ad 7, .inl (ac 7, 10, .inl fun _ => 0)), (ad 8, .inl (ac 8, 47, .inl fun _ => 0)), (ad 9, .inl (ac 9, 220, .inl fun _ => 0)), (ad 10, .inl (ac 10, 16, .inl fun _ => 0)), (ad 11, .inl (ac 11, 16, .inl fun _ => 0)), (ad 12, .inl (ac 12, 16, .inl fun _ => 0)), (ad 13, .inl (ac 13, 16, .inl fun _ => 0)), (ad 14, .inl (ac 14, 16, .inl fun _ => 0)), (ad 15, .inl (ac 15, 16, .inl fun _ => 0)), (ad 16, .inl (ac 16, 16, .inl fun _ => 0)), (ad 17, .inl (ac 17, 16, .inl fun _ => 0)), (ad 18, .inl (ac 18, 220, .inl fun _ => 0)), (ad 19, .inl (ac 19, 220, .inl fun _ => 0)), (ad 20, .inl (ac 20, 14, .inl fun _ => 0)), (ad 21, .inl (ac 21, 14, .inl fun _ => 0)), (ad 22, .inl (ac 22, 14, .inl fun _ => 0)), (ad 23, .inl (ac 23, 14, .inl fun _ => 0)), (ad 24, .inl (ac 24, 220, .inl fun _ => 0)), (ad 25, .inl (ac 25, 14, .inl fun _ => 0)), (ad 26, .inl (ac 26, 14, .inl fun _ => 0)), (ad 27, .inl (ac 27, 14, .inl fun _ => 0)), (ad 28, .inl (ac 28, 14, .inl fun _ => 0)), (ad 29, .inl (ac 29, 220, .inl fun _ => 0)), (ad 30, .inl (ac 30, 12, .inl fun _ => 0)), (ad 31, .inl (ac 31, 47, .inl fun _ => 0)), (ad 32, .inl (ac 32, 840, .inl fun _ => 0)), (ad 33, .inl (ac 33, 11264, .inl fun _ => 0)), (ad 34, .inl (ac 34, 10, .inl fun _ => 0)), (ad 35, .inl (ac 35, 10, .inl fun _ => 0)), (ad 36, .inl (ac 36, 96, .inl fun _ => 0)), (ad 37, .inl (ac 37, 36864, .inl fun _ => 0)), (ad 38, .inl (ac 38, 10, .inl fun _ => 0)), (ad 39, .inl (ac 39, 10, .inl fun _ => 0)), (ad 40, .inl (ac 40, 12, .inl fun _ => 0)), (ad 41, .inl (ac 41, 10, .inl fun _ => 0)), (ad 42, .inl (ac 42, 70, .inl fun _ => 0)), (ad 43, .inl (ac 43, 10, .inl fun _ => 0)), (ad 44, .inl (ac 44, 10, .inl fun _ => 0)), (ad 45, .inl (ac 45, 10, .inl fun _ => 0)), (ad 46, .inl (ac 46, 10, .inl fun _ => 0)), (ad 47, .inl (ac 47, 47, .inl fun _ => 0))] := gWs_mF.trans rfl
set_option maxRecDepth 100000 in
set_option maxHeartbeats 8000000 in
theorem ty_S2 (ac : Nat → ClassId) : tysOf S2 ac = [(ac 1, .int), (ac 2, .int), (ac 3, .int), (ac 4, .int), (ac 5, .int), (ac 6, .int), (ac 7, .int), (ac 8, .int), (ac 9, .byte), (ac 10, .int), (ac 11, .int), (ac 12, .int), (ac 13, .int), (ac 14, .int), (ac 15, .int), (ac 16, .boolean), (ac 17, .boolean), (ac 18, .int), (ac 19, .int), (ac 20, .int), (ac 21, .int), (ac 22, .int), (ac 23, .int), (ac 24, .int), (ac 25, .int), (ac 26, .int), (ac 27, .int), (ac 28, .int), (ac 29, .int), (ac 30, .int), (ac 31, .int), (ac 32, .int), (ac 33, .int), (ac 34, .int), (ac 35, .int), (ac 36, .int), (ac 37, .int), (ac 38, .int), (ac 39, .int), (ac 40, .int), (ac 41, .int), (ac 42, .int), (ac 43, .int), (ac 44, .int), (ac 45, .int), (ac 46, .int), (ac 47, .int)] := rfl
