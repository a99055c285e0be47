def cz_X2 (h0 : Nat) : va_W := [(h0, .inr (2, [.null, .null, .null, .null, .null, .null, .null, .null, .int 0, .int 0, .int 0, .int 0, .int 0, .int 0]))]
abbrev cw_X2 (h0 : Nat) (u : (Nat → Nat) × (Nat → ClassId)) : va_W := [(h0, .inr (2, [.ref (u.1 0), .ref (u.1 1), .ref (u.1 2), .ref (u.1 3), .ref (u.1 4), .ref (u.1 5), .ref (u.1 6), .ref (u.1 7), .int 0, .int 0, .int 0, .int (-1), .int 0, .int 1])), ((u.1 0), .inl ((u.2 0), 12, .inl fun _ => 0)), ((u.1 1), .inl ((u.2 1), 70, .inl fun _ => 0)), ((u.1 2), .inl ((u.2 2), 10, .inl fun _ => 0)), ((u.1 3), .inl ((u.2 3), 10, .inl fun _ => 0)), ((u.1 4), .inl ((u.2 4), 10, .inl fun _ => 0)), ((u.1 5), .inl ((u.2 5), 10, .inl fun _ => 0)), ((u.1 6), .inl ((u.2 6), 10, .inl fun _ => 0)), ((u.1 7), .inl ((u.2 7), 40, .inl fun _ => 0))]
abbrev ct_X2 (u : (Nat → Nat) × (Nat → ClassId)) : List (ClassId × FieldType) := [((u.2 0), .int), ((u.2 1), .int), ((u.2 2), .int), ((u.2 3), .int), ((u.2 4), .int), ((u.2 5), .int), ((u.2 6), .int), ((u.2 7), .int)]
set_option maxHeartbeats 16000000 in
set_option maxRecDepth 100000 in
theorem ci_X2 (l : Launch) (D : va_G) (h0 sz : Nat) : Met l yX2_init (.code yX2_init cX2_init 1 none :: gTs) ({ frames := 1, cells := 8, slots := 172, locals := 12 }) (va_Pc [.ref h0] (fun U => U.heap.size = sz ∧ va_P D cl1 [(h0, .inr (2, [.null, .null, .null, .null, .null, .null, .null, .null, .int 0, .int 0, .int 0, .int 0, .int 0, .int 0]))] U.heap ∧ va_K D cl1 [] U ∧ va_D (fun _ => True) [(h0, .inr (2, [.null, .null, .null, .null, .null, .null, .null, .null, .int 0, .int 0, .int 0, .int 0, .int 0, .int 0]))])) (va_Qv (S := (Nat → Nat) × (Nat → ClassId)) (fun _ => True) (fun u t => va_P D cl1 (cw_X2 h0 u) t.heap ∧ va_K D cl1 (ct_X2 u) t ∧ va_D (va_A [(h0, .inr (2, [.null, .null, .null, .null, .null, .null, .null, .null, .int 0, .int 0, .int 0, .int 0, .int 0, .int 0]))] sz) (cw_X2 h0 u)) (va_A [(h0, .inr (2, [.null, .null, .null, .null, .null, .null, .null, .null, .int 0, .int 0, .int 0, .int 0, .int 0, .int 0]))] sz)) 8 172 (va_A [(h0, .inr (2, [.null, .null, .null, .null, .null, .null, .null, .null, .int 0, .int 0, .int 0, .int 0, .int 0, .int 0]))] sz) := by
  refine Met.ofW (cc := cX2_init) (maxL := 1) (ret := none) (by decide) rfl ?_
  intro p e s m args below meth c s₁ B hml hv
  obtain ⟨rfl, hsz, hP, hK, hD0⟩ := hv
  have hx := B.exec
  have hb := B.bytes
  have hr := B.returns
  have hts0 := atoms_spec (ws := .code yX2_init cX2_init 1 none :: gTs) B.pre
  have hts : ∀ w ∈ gTs, w.before _ s = true := fun w hw => hts0 w (List.mem_cons_of_mem _ hw)
  have hown : s.vm.findClass RX2 = some m.cls := findClass_of_methodNamed B.named
  have hlocks := B.notSynchronized
  have hin : meth.name = "<init>" := (name_of_methodNamed B.named B.method).1
  subst hsz
  have hD := hD0.self (sz := s.heap.size)
  generalize hAe : va_A [(h0, .inr (2, [.null, .null, .null, .null, .null, .null, .null, .null, .int 0, .int 0, .int 0, .int 0, .int 0, .int 0]))] s.heap.size = A at hD ⊢
  have hA : ∀ q : Nat, s.heap.size ≤ q → A q := fun q h => by rw [← hAe]; exact Or.inr h
  have hS : va_S A s.heap s.heap [] := va_S.rf
  have hl := lv_entry ([.ref h0]) (n := 1) (Nat.le_of_ble_eq_true rfl)
  rw [lg_entry_eq]
  generalize (lg_sl ([.ref h0]) ++ List.replicate (1 - (lg_sl ([.ref h0])).length) Slot.unset).toArray = ls at hl ⊢
  have hl : lv_has ls 1 [(0, .ref h0)] := hl
  refine lv_aload_n hx hb dX2_init_0 rfl (lv_at hl 0 rfl) ?_
  refine W.objInit hx hb hown (hts _ iw_113) (hts _ iw_106) (hts _ iw_107) rfl (by rw [hml]; exact hl.1) rfl dX2_init_1 (Nat.le_of_ble_eq_true rfl) (Nat.le_of_ble_eq_true rfl) ?_
  refine W.eq (g2 := F0 m 4 ls []) rfl ?_
  refine lv_aload_n hx hb dX2_init_4 rfl (lv_at hl 0 rfl) ?_
  refine lv_bipush (v := 12) hx hb dX2_init_5 (by decide) ?_
  refine va_newa (atype := .int) (ty := .int) (a0 := (12, .inl fun _ => 0)) (N' := 12) hx hb (hts _ iw_181) rfl hK hP hD hS hA (fun _ => rfl) (by decide) (by decide) (Nat.le_of_ble_eq_true rfl) (Nat.le_of_ble_eq_true rfl) (Nat.le_of_ble_eq_true rfl) dX2_init_7 (fun q0 k0 H hK hP hD hS => ?_)
  have hK : va_K D cl1 [(k0, .int)] s := hK
  have hP : va_P D cl1 [(h0, .inr (2, [.null, .null, .null, .null, .null, .null, .null, .null, .int 0, .int 0, .int 0, .int 0, .int 0, .int 0])), (q0, .inl (k0, 12, .inl fun _ => 0))] H := hP
  have hD : va_D A [(h0, .inr (2, [.null, .null, .null, .null, .null, .null, .null, .null, .int 0, .int 0, .int 0, .int 0, .int 0, .int 0])), (q0, .inl (k0, 12, .inl fun _ => 0))] := hD
  refine W.widen (k := 1) (n := 12) (Nat.le_of_ble_eq_true rfl) (Nat.le_of_ble_eq_true rfl) ?_
  refine va_putF (D := D) (ci := 2) (v := .ref q0) (ty := .array .int) (C := RX2) (T := TX2) (N := 14) hx hb hts inw_X2 tyX2 tyX2_ok nmX2 hown hK hP hD hS 0 rfl rfl 0 (by decide) (hts _ iw_114) (fun _ h9 => h9) rfl hin rfl (by decide +kernel) rfl rfl (Nat.le_of_ble_eq_true rfl) dX2_init_9 (fun H locs hP hD hS => ?_)
  have hP : va_P D cl1 [(h0, .inr (2, [.ref q0, .null, .null, .null, .null, .null, .null, .null, .int 0, .int 0, .int 0, .int 0, .int 0, .int 0])), (q0, .inl (k0, 12, .inl fun _ => 0))] H := hP
  have hD : va_D A [(h0, .inr (2, [.ref q0, .null, .null, .null, .null, .null, .null, .null, .int 0, .int 0, .int 0, .int 0, .int 0, .int 0])), (q0, .inl (k0, 12, .inl fun _ => 0))] := hD
  refine lv_aload_n hx hb dX2_init_12 rfl (lv_at hl 0 rfl) ?_
  refine lv_bipush (v := 70) hx hb dX2_init_13 (by decide) ?_
  refine va_newa (atype := .int) (ty := .int) (a0 := (70, .inl fun _ => 0)) (N' := 70) hx hb (hts _ iw_181) rfl hK hP hD hS hA (fun _ => rfl) (by decide) (by decide) (Nat.le_of_ble_eq_true rfl) (Nat.le_of_ble_eq_true rfl) (Nat.le_of_ble_eq_true rfl) dX2_init_15 (fun q1 k1 H hK hP hD hS => ?_)
  have hK : va_K D cl1 [(k0, .int), (k1, .int)] s := hK
  have hP : va_P D cl1 [(h0, .inr (2, [.ref q0, .null, .null, .null, .null, .null, .null, .null, .int 0, .int 0, .int 0, .int 0, .int 0, .int 0])), (q0, .inl (k0, 12, .inl fun _ => 0)), (q1, .inl (k1, 70, .inl fun _ => 0))] H := hP
  have hD : va_D A [(h0, .inr (2, [.ref q0, .null, .null, .null, .null, .null, .null, .null, .int 0, .int 0, .int 0, .int 0, .int 0, .int 0])), (q0, .inl (k0, 12, .inl fun _ => 0)), (q1, .inl (k1, 70, .inl fun _ => 0))] := hD
  refine W.widen (k := 2) (n := 82) (Nat.le_of_ble_eq_true rfl) (Nat.le_of_ble_eq_true rfl) ?_
  refine va_putF (D := D) (ci := 2) (v := .ref q1) (ty := .array .int) (C := RX2) (T := TX2) (N := 14) hx hb hts inw_X2 tyX2 tyX2_ok nmX2 hown hK hP hD hS 0 rfl rfl 1 (by decide) (hts _ iw_117) (fun _ h9 => h9) rfl hin rfl (by decide +kernel) rfl rfl (Nat.le_of_ble_eq_true rfl) dX2_init_17 (fun H locs hP hD hS => ?_)
  have hP : va_P D cl1 [(h0, .inr (2, [.ref q0, .ref q1, .null, .null, .null, .null, .null, .null, .int 0, .int 0, .int 0, .int 0, .int 0, .int 0])), (q0, .inl (k0, 12, .inl fun _ => 0)), (q1, .inl (k1, 70, .inl fun _ => 0))] H := hP
  have hD : va_D A [(h0, .inr (2, [.ref q0, .ref q1, .null, .null, .null, .null, .null, .null, .int 0, .int 0, .int 0, .int 0, .int 0, .int 0])), (q0, .inl (k0, 12, .inl fun _ => 0)), (q1, .inl (k1, 70, .inl fun _ => 0))] := hD
  refine lv_aload_n hx hb dX2_init_20 rfl (lv_at hl 0 rfl) ?_
  refine lv_bipush (v := 10) hx hb dX2_init_21 (by decide) ?_
  refine va_newa (atype := .int) (ty := .int) (a0 := (10, .inl fun _ => 0)) (N' := 10) hx hb (hts _ iw_181) rfl hK hP hD hS hA (fun _ => rfl) (by decide) (by decide) (Nat.le_of_ble_eq_true rfl) (Nat.le_of_ble_eq_true rfl) (Nat.le_of_ble_eq_true rfl) dX2_init_23 (fun q2 k2 H hK hP hD hS => ?_)
  have hK : va_K D cl1 [(k0, .int), (k1, .int), (k2, .int)] s := hK
  have hP : va_P D cl1 [(h0, .inr (2, [.ref q0, .ref q1, .null, .null, .null, .null, .null, .null, .int 0, .int 0, .int 0, .int 0, .int 0, .int 0])), (q0, .inl (k0, 12, .inl fun _ => 0)), (q1, .inl (k1, 70, .inl fun _ => 0)), (q2, .inl (k2, 10, .inl fun _ => 0))] H := hP
  have hD : va_D A [(h0, .inr (2, [.ref q0, .ref q1, .null, .null, .null, .null, .null, .null, .int 0, .int 0, .int 0, .int 0, .int 0, .int 0])), (q0, .inl (k0, 12, .inl fun _ => 0)), (q1, .inl (k1, 70, .inl fun _ => 0)), (q2, .inl (k2, 10, .inl fun _ => 0))] := hD
  refine W.widen (k := 3) (n := 92) (Nat.le_of_ble_eq_true rfl) (Nat.le_of_ble_eq_true rfl) ?_
  refine va_putF (D := D) (ci := 2) (v := .ref q2) (ty := .array .int) (C := RX2) (T := TX2) (N := 14) hx hb hts inw_X2 tyX2 tyX2_ok nmX2 hown hK hP hD hS 0 rfl rfl 2 (by decide) (hts _ iw_120) (fun _ h9 => h9) rfl hin rfl (by decide +kernel) rfl rfl (Nat.le_of_ble_eq_true rfl) dX2_init_25 (fun H locs hP hD hS => ?_)
  have hP : va_P D cl1 [(h0, .inr (2, [.ref q0, .ref q1, .ref q2, .null, .null, .null, .null, .null, .int 0, .int 0, .int 0, .int 0, .int 0, .int 0])), (q0, .inl (k0, 12, .inl fun _ => 0)), (q1, .inl (k1, 70, .inl fun _ => 0)), (q2, .inl (k2, 10, .inl fun _ => 0))] H := hP
  have hD : va_D A [(h0, .inr (2, [.ref q0, .ref q1, .ref q2, .null, .null, .null, .null, .null, .int 0, .int 0, .int 0, .int 0, .int 0, .int 0])), (q0, .inl (k0, 12, .inl fun _ => 0)), (q1, .inl (k1, 70, .inl fun _ => 0)), (q2, .inl (k2, 10, .inl fun _ => 0))] := hD
  refine lv_aload_n hx hb dX2_init_28 rfl (lv_at hl 0 rfl) ?_
  refine lv_bipush (v := 10) hx hb dX2_init_29 (by decide) ?_
  refine va_newa (atype := .int) (ty := .int) (a0 := (10, .inl fun _ => 0)) (N' := 10) hx hb (hts _ iw_181) rfl hK hP hD hS hA (fun _ => rfl) (by decide) (by decide) (Nat.le_of_ble_eq_true rfl) (Nat.le_of_ble_eq_true rfl) (Nat.le_of_ble_eq_true rfl) dX2_init_31 (fun q3 k3 H hK hP hD hS => ?_)
  have hK : va_K D cl1 [(k0, .int), (k1, .int), (k2, .int), (k3, .int)] s := hK
  have hP : va_P D cl1 [(h0, .inr (2, [.ref q0, .ref q1, .ref q2, .null, .null, .null, .null, .null, .int 0, .int 0, .int 0, .int 0, .int 0, .int 0])), (q0, .inl (k0, 12, .inl fun _ => 0)), (q1, .inl (k1, 70, .inl fun _ => 0)), (q2, .inl (k2, 10, .inl fun _ => 0)), (q3, .inl (k3, 10, .inl fun _ => 0))] H := hP
  have hD : va_D A [(h0, .inr (2, [.ref q0, .ref q1, .ref q2, .null, .null, .null, .null, .null, .int 0, .int 0, .int 0, .int 0, .int 0, .int 0])), (q0, .inl (k0, 12, .inl fun _ => 0)), (q1, .inl (k1, 70, .inl fun _ => 0)), (q2, .inl (k2, 10, .inl fun _ => 0)), (q3, .inl (k3, 10, .inl fun _ => 0))] := hD
  refine W.widen (k := 4) (n := 102) (Nat.le_of_ble_eq_true rfl) (Nat.le_of_ble_eq_true rfl) ?_
  refine va_putF (D := D) (ci := 2) (v := .ref q3) (ty := .array .int) (C := RX2) (T := TX2) (N := 14) hx hb hts inw_X2 tyX2 tyX2_ok nmX2 hown hK hP hD hS 0 rfl rfl 3 (by decide) (hts _ iw_122) (fun _ h9 => h9) rfl hin rfl (by decide +kernel) rfl rfl (Nat.le_of_ble_eq_true rfl) dX2_init_33 (fun H locs hP hD hS => ?_)
  have hP : va_P D cl1 [(h0, .inr (2, [.ref q0, .ref q1, .ref q2, .ref q3, .null, .null, .null, .null, .int 0, .int 0, .int 0, .int 0, .int 0, .int 0])), (q0, .inl (k0, 12, .inl fun _ => 0)), (q1, .inl (k1, 70, .inl fun _ => 0)), (q2, .inl (k2, 10, .inl fun _ => 0)), (q3, .inl (k3, 10, .inl fun _ => 0))] H := hP
  have hD : va_D A [(h0, .inr (2, [.ref q0, .ref q1, .ref q2, .ref q3, .null, .null, .null, .null, .int 0, .int 0, .int 0, .int 0, .int 0, .int 0])), (q0, .inl (k0, 12, .inl fun _ => 0)), (q1, .inl (k1, 70, .inl fun _ => 0)), (q2, .inl (k2, 10, .inl fun _ => 0)), (q3, .inl (k3, 10, .inl fun _ => 0))] := hD
  refine lv_aload_n hx hb dX2_init_36 rfl (lv_at hl 0 rfl) ?_
  refine lv_bipush (v := 10) hx hb dX2_init_37 (by decide) ?_
  refine va_newa (atype := .int) (ty := .int) (a0 := (10, .inl fun _ => 0)) (N' := 10) hx hb (hts _ iw_181) rfl hK hP hD hS hA (fun _ => rfl) (by decide) (by decide) (Nat.le_of_ble_eq_true rfl) (Nat.le_of_ble_eq_true rfl) (Nat.le_of_ble_eq_true rfl) dX2_init_39 (fun q4 k4 H hK hP hD hS => ?_)
  have hK : va_K D cl1 [(k0, .int), (k1, .int), (k2, .int), (k3, .int), (k4, .int)] s := hK
  have hP : va_P D cl1 [(h0, .inr (2, [.ref q0, .ref q1, .ref q2, .ref q3, .null, .null, .null, .null, .int 0, .int 0, .int 0, .int 0, .int 0, .int 0])), (q0, .inl (k0, 12, .inl fun _ => 0)), (q1, .inl (k1, 70, .inl fun _ => 0)), (q2, .inl (k2, 10, .inl fun _ => 0)), (q3, .inl (k3, 10, .inl fun _ => 0)), (q4, .inl (k4, 10, .inl fun _ => 0))] H := hP
  have hD : va_D A [(h0, .inr (2, [.ref q0, .ref q1, .ref q2, .ref q3, .null, .null, .null, .null, .int 0, .int 0, .int 0, .int 0, .int 0, .int 0])), (q0, .inl (k0, 12, .inl fun _ => 0)), (q1, .inl (k1, 70, .inl fun _ => 0)), (q2, .inl (k2, 10, .inl fun _ => 0)), (q3, .inl (k3, 10, .inl fun _ => 0)), (q4, .inl (k4, 10, .inl fun _ => 0))] := hD
  refine W.widen (k := 5) (n := 112) (Nat.le_of_ble_eq_true rfl) (Nat.le_of_ble_eq_true rfl) ?_
  refine va_putF (D := D) (ci := 2) (v := .ref q4) (ty := .array .int) (C := RX2) (T := TX2) (N := 14) hx hb hts inw_X2 tyX2 tyX2_ok nmX2 hown hK hP hD hS 0 rfl rfl 4 (by decide) (hts _ iw_125) (fun _ h9 => h9) rfl hin rfl (by decide +kernel) rfl rfl (Nat.le_of_ble_eq_true rfl) dX2_init_41 (fun H locs hP hD hS => ?_)
  have hP : va_P D cl1 [(h0, .inr (2, [.ref q0, .ref q1, .ref q2, .ref q3, .ref q4, .null, .null, .null, .int 0, .int 0, .int 0, .int 0, .int 0, .int 0])), (q0, .inl (k0, 12, .inl fun _ => 0)), (q1, .inl (k1, 70, .inl fun _ => 0)), (q2, .inl (k2, 10, .inl fun _ => 0)), (q3, .inl (k3, 10, .inl fun _ => 0)), (q4, .inl (k4, 10, .inl fun _ => 0))] H := hP
  have hD : va_D A [(h0, .inr (2, [.ref q0, .ref q1, .ref q2, .ref q3, .ref q4, .null, .null, .null, .int 0, .int 0, .int 0, .int 0, .int 0, .int 0])), (q0, .inl (k0, 12, .inl fun _ => 0)), (q1, .inl (k1, 70, .inl fun _ => 0)), (q2, .inl (k2, 10, .inl fun _ => 0)), (q3, .inl (k3, 10, .inl fun _ => 0)), (q4, .inl (k4, 10, .inl fun _ => 0))] := hD
  refine lv_aload_n hx hb dX2_init_44 rfl (lv_at hl 0 rfl) ?_
  refine lv_bipush (v := 10) hx hb dX2_init_45 (by decide) ?_
  refine va_newa (atype := .int) (ty := .int) (a0 := (10, .inl fun _ => 0)) (N' := 10) hx hb (hts _ iw_181) rfl hK hP hD hS hA (fun _ => rfl) (by decide) (by decide) (Nat.le_of_ble_eq_true rfl) (Nat.le_of_ble_eq_true rfl) (Nat.le_of_ble_eq_true rfl) dX2_init_47 (fun q5 k5 H hK hP hD hS => ?_)
  have hK : va_K D cl1 [(k0, .int), (k1, .int), (k2, .int), (k3, .int), (k4, .int), (k5, .int)] s := hK
  have hP : va_P D cl1 [(h0, .inr (2, [.ref q0, .ref q1, .ref q2, .ref q3, .ref q4, .null, .null, .null, .int 0, .int 0, .int 0, .int 0, .int 0, .int 0])), (q0, .inl (k0, 12, .inl fun _ => 0)), (q1, .inl (k1, 70, .inl fun _ => 0)), (q2, .inl (k2, 10, .inl fun _ => 0)), (q3, .inl (k3, 10, .inl fun _ => 0)), (q4, .inl (k4, 10, .inl fun _ => 0)), (q5, .inl (k5, 10, .inl fun _ => 0))] H := hP
  have hD : va_D A [(h0, .inr (2, [.ref q0, .ref q1, .ref q2, .ref q3, .ref q4, .null, .null, .null, .int 0, .int 0, .int 0, .int 0, .int 0, .int 0])), (q0, .inl (k0, 12, .inl fun _ => 0)), (q1, .inl (k1, 70, .inl fun _ => 0)), (q2, .inl (k2, 10, .inl fun _ => 0)), (q3, .inl (k3, 10, .inl fun _ => 0)), (q4, .inl (k4, 10, .inl fun _ => 0)), (q5, .inl (k5, 10, .inl fun _ => 0))] := hD
  refine W.widen (k := 6) (n := 122) (Nat.le_of_ble_eq_true rfl) (Nat.le_of_ble_eq_true rfl) ?_
  refine va_putF (D := D) (ci := 2) (v := .ref q5) (ty := .array .int) (C := RX2) (T := TX2) (N := 14) hx hb hts inw_X2 tyX2 tyX2_ok nmX2 hown hK hP hD hS 0 rfl rfl 5 (by decide) (hts _ iw_128) (fun _ h9 => h9) rfl hin rfl (by decide +kernel) rfl rfl (Nat.le_of_ble_eq_true rfl) dX2_init_49 (fun H locs hP hD hS => ?_)
  have hP : va_P D cl1 [(h0, .inr (2, [.ref q0, .ref q1, .ref q2, .ref q3, .ref q4, .ref q5, .null, .null, .int 0, .int 0, .int 0, .int 0, .int 0, .int 0])), (q0, .inl (k0, 12, .inl fun _ => 0)), (q1, .inl (k1, 70, .inl fun _ => 0)), (q2, .inl (k2, 10, .inl fun _ => 0)), (q3, .inl (k3, 10, .inl fun _ => 0)), (q4, .inl (k4, 10, .inl fun _ => 0)), (q5, .inl (k5, 10, .inl fun _ => 0))] H := hP
  have hD : va_D A [(h0, .inr (2, [.ref q0, .ref q1, .ref q2, .ref q3, .ref q4, .ref q5, .null, .null, .int 0, .int 0, .int 0, .int 0, .int 0, .int 0])), (q0, .inl (k0, 12, .inl fun _ => 0)), (q1, .inl (k1, 70, .inl fun _ => 0)), (q2, .inl (k2, 10, .inl fun _ => 0)), (q3, .inl (k3, 10, .inl fun _ => 0)), (q4, .inl (k4, 10, .inl fun _ => 0)), (q5, .inl (k5, 10, .inl fun _ => 0))] := hD
  refine lv_aload_n hx hb dX2_init_52 rfl (lv_at hl 0 rfl) ?_
  refine lv_bipush (v := 10) hx hb dX2_init_53 (by decide) ?_
  refine va_newa (atype := .int) (ty := .int) (a0 := (10, .inl fun _ => 0)) (N' := 10) hx hb (hts _ iw_181) rfl hK hP hD hS hA (fun _ => rfl) (by decide) (by decide) (Nat.le_of_ble_eq_true rfl) (Nat.le_of_ble_eq_true rfl) (Nat.le_of_ble_eq_true rfl) dX2_init_55 (fun q6 k6 H hK hP hD hS => ?_)
  have hK : va_K D cl1 [(k0, .int), (k1, .int), (k2, .int), (k3, .int), (k4, .int), (k5, .int), (k6, .int)] s := hK
  have hP : va_P D cl1 [(h0, .inr (2, [.ref q0, .ref q1, .ref q2, .ref q3, .ref q4, .ref q5, .null, .null, .int 0, .int 0, .int 0, .int 0, .int 0, .int 0])), (q0, .inl (k0, 12, .inl fun _ => 0)), (q1, .inl (k1, 70, .inl fun _ => 0)), (q2, .inl (k2, 10, .inl fun _ => 0)), (q3, .inl (k3, 10, .inl fun _ => 0)), (q4, .inl (k4, 10, .inl fun _ => 0)), (q5, .inl (k5, 10, .inl fun _ => 0)), (q6, .inl (k6, 10, .inl fun _ => 0))] H := hP
  have hD : va_D A [(h0, .inr (2, [.ref q0, .ref q1, .ref q2, .ref q3, .ref q4, .ref q5, .null, .null, .int 0, .int 0, .int 0, .int 0, .int 0, .int 0])), (q0, .inl (k0, 12, .inl fun _ => 0)), (q1, .inl (k1, 70, .inl fun _ => 0)), (q2, .inl (k2, 10, .inl fun _ => 0)), (q3, .inl (k3, 10, .inl fun _ => 0)), (q4, .inl (k4, 10, .inl fun _ => 0)), (q5, .inl (k5, 10, .inl fun _ => 0)), (q6, .inl (k6, 10, .inl fun _ => 0))] := hD
  refine W.widen (k := 7) (n := 132) (Nat.le_of_ble_eq_true rfl) (Nat.le_of_ble_eq_true rfl) ?_
  refine va_putF (D := D) (ci := 2) (v := .ref q6) (ty := .array .int) (C := RX2) (T := TX2) (N := 14) hx hb hts inw_X2 tyX2 tyX2_ok nmX2 hown hK hP hD hS 0 rfl rfl 6 (by decide) (hts _ iw_131) (fun _ h9 => h9) rfl hin rfl (by decide +kernel) rfl rfl (Nat.le_of_ble_eq_true rfl) dX2_init_57 (fun H locs hP hD hS => ?_)
  have hP : va_P D cl1 [(h0, .inr (2, [.ref q0, .ref q1, .ref q2, .ref q3, .ref q4, .ref q5, .ref q6, .null, .int 0, .int 0, .int 0, .int 0, .int 0, .int 0])), (q0, .inl (k0, 12, .inl fun _ => 0)), (q1, .inl (k1, 70, .inl fun _ => 0)), (q2, .inl (k2, 10, .inl fun _ => 0)), (q3, .inl (k3, 10, .inl fun _ => 0)), (q4, .inl (k4, 10, .inl fun _ => 0)), (q5, .inl (k5, 10, .inl fun _ => 0)), (q6, .inl (k6, 10, .inl fun _ => 0))] H := hP
  have hD : va_D A [(h0, .inr (2, [.ref q0, .ref q1, .ref q2, .ref q3, .ref q4, .ref q5, .ref q6, .null, .int 0, .int 0, .int 0, .int 0, .int 0, .int 0])), (q0, .inl (k0, 12, .inl fun _ => 0)), (q1, .inl (k1, 70, .inl fun _ => 0)), (q2, .inl (k2, 10, .inl fun _ => 0)), (q3, .inl (k3, 10, .inl fun _ => 0)), (q4, .inl (k4, 10, .inl fun _ => 0)), (q5, .inl (k5, 10, .inl fun _ => 0)), (q6, .inl (k6, 10, .inl fun _ => 0))] := hD
  refine lv_aload_n hx hb dX2_init_60 rfl (lv_at hl 0 rfl) ?_
  refine lv_bipush (v := 40) hx hb dX2_init_61 (by decide) ?_
  refine va_newa (atype := .int) (ty := .int) (a0 := (40, .inl fun _ => 0)) (N' := 40) hx hb (hts _ iw_181) rfl hK hP hD hS hA (fun _ => rfl) (by decide) (by decide) (Nat.le_of_ble_eq_true rfl) (Nat.le_of_ble_eq_true rfl) (Nat.le_of_ble_eq_true rfl) dX2_init_63 (fun q7 k7 H hK hP hD hS => ?_)
  have hK : va_K D cl1 [(k0, .int), (k1, .int), (k2, .int), (k3, .int), (k4, .int), (k5, .int), (k6, .int), (k7, .int)] s := hK
  have hP : va_P D cl1 [(h0, .inr (2, [.ref q0, .ref q1, .ref q2, .ref q3, .ref q4, .ref q5, .ref q6, .null, .int 0, .int 0, .int 0, .int 0, .int 0, .int 0])), (q0, .inl (k0, 12, .inl fun _ => 0)), (q1, .inl (k1, 70, .inl fun _ => 0)), (q2, .inl (k2, 10, .inl fun _ => 0)), (q3, .inl (k3, 10, .inl fun _ => 0)), (q4, .inl (k4, 10, .inl fun _ => 0)), (q5, .inl (k5, 10, .inl fun _ => 0)), (q6, .inl (k6, 10, .inl fun _ => 0)), (q7, .inl (k7, 40, .inl fun _ => 0))] H := hP
  have hD : va_D A [(h0, .inr (2, [.ref q0, .ref q1, .ref q2, .ref q3, .ref q4, .ref q5, .ref q6, .null, .int 0, .int 0, .int 0, .int 0, .int 0, .int 0])), (q0, .inl (k0, 12, .inl fun _ => 0)), (q1, .inl (k1, 70, .inl fun _ => 0)), (q2, .inl (k2, 10, .inl fun _ => 0)), (q3, .inl (k3, 10, .inl fun _ => 0)), (q4, .inl (k4, 10, .inl fun _ => 0)), (q5, .inl (k5, 10, .inl fun _ => 0)), (q6, .inl (k6, 10, .inl fun _ => 0)), (q7, .inl (k7, 40, .inl fun _ => 0))] := hD
  refine W.widen (k := 8) (n := 172) (Nat.le_of_ble_eq_true rfl) (Nat.le_of_ble_eq_true rfl) ?_
  refine va_putF (D := D) (ci := 2) (v := .ref q7) (ty := .array .int) (C := RX2) (T := TX2) (N := 14) hx hb hts inw_X2 tyX2 tyX2_ok nmX2 hown hK hP hD hS 0 rfl rfl 7 (by decide) (hts _ iw_135) (fun _ h9 => h9) rfl hin rfl (by decide +kernel) rfl rfl (Nat.le_of_ble_eq_true rfl) dX2_init_65 (fun H locs hP hD hS => ?_)
  have hP : va_P D cl1 [(h0, .inr (2, [.ref q0, .ref q1, .ref q2, .ref q3, .ref q4, .ref q5, .ref q6, .ref q7, .int 0, .int 0, .int 0, .int 0, .int 0, .int 0])), (q0, .inl (k0, 12, .inl fun _ => 0)), (q1, .inl (k1, 70, .inl fun _ => 0)), (q2, .inl (k2, 10, .inl fun _ => 0)), (q3, .inl (k3, 10, .inl fun _ => 0)), (q4, .inl (k4, 10, .inl fun _ => 0)), (q5, .inl (k5, 10, .inl fun _ => 0)), (q6, .inl (k6, 10, .inl fun _ => 0)), (q7, .inl (k7, 40, .inl fun _ => 0))] H := hP
  have hD : va_D A [(h0, .inr (2, [.ref q0, .ref q1, .ref q2, .ref q3, .ref q4, .ref q5, .ref q6, .ref q7, .int 0, .int 0, .int 0, .int 0, .int 0, .int 0])), (q0, .inl (k0, 12, .inl fun _ => 0)), (q1, .inl (k1, 70, .inl fun _ => 0)), (q2, .inl (k2, 10, .inl fun _ => 0)), (q3, .inl (k3, 10, .inl fun _ => 0)), (q4, .inl (k4, 10, .inl fun _ => 0)), (q5, .inl (k5, 10, .inl fun _ => 0)), (q6, .inl (k6, 10, .inl fun _ => 0)), (q7, .inl (k7, 40, .inl fun _ => 0))] := hD
  refine lv_aload_n hx hb dX2_init_68 rfl (lv_at hl 0 rfl) ?_
  refine lv_iconst (v := (-1)) hx hb dX2_init_69 (by decide) ?_
  refine va_put (D := D) (ci := 2) (v := .int (-1)) (ty := .int) (C := RX2) (T := TX2) (N := 14) hx hb hts inw_X2 tyX2 tyX2_ok nmX2 hown hK hP hD hS 0 rfl rfl 11 (by decide) (hts _ iw_144) (fun _ h9 => h9) rfl (by decide +kernel) rfl rfl (Nat.le_of_ble_eq_true rfl) dX2_init_70 (fun H locs hP hD hS => ?_)
  have hP : va_P D cl1 [(h0, .inr (2, [.ref q0, .ref q1, .ref q2, .ref q3, .ref q4, .ref q5, .ref q6, .ref q7, .int 0, .int 0, .int 0, .int (-1), .int 0, .int 0])), (q0, .inl (k0, 12, .inl fun _ => 0)), (q1, .inl (k1, 70, .inl fun _ => 0)), (q2, .inl (k2, 10, .inl fun _ => 0)), (q3, .inl (k3, 10, .inl fun _ => 0)), (q4, .inl (k4, 10, .inl fun _ => 0)), (q5, .inl (k5, 10, .inl fun _ => 0)), (q6, .inl (k6, 10, .inl fun _ => 0)), (q7, .inl (k7, 40, .inl fun _ => 0))] H := hP
  have hD : va_D A [(h0, .inr (2, [.ref q0, .ref q1, .ref q2, .ref q3, .ref q4, .ref q5, .ref q6, .ref q7, .int 0, .int 0, .int 0, .int (-1), .int 0, .int 0])), (q0, .inl (k0, 12, .inl fun _ => 0)), (q1, .inl (k1, 70, .inl fun _ => 0)), (q2, .inl (k2, 10, .inl fun _ => 0)), (q3, .inl (k3, 10, .inl fun _ => 0)), (q4, .inl (k4, 10, .inl fun _ => 0)), (q5, .inl (k5, 10, .inl fun _ => 0)), (q6, .inl (k6, 10, .inl fun _ => 0)), (q7, .inl (k7, 40, .inl fun _ => 0))] := hD
  refine lv_aload_n hx hb dX2_init_73 rfl (lv_at hl 0 rfl) ?_
  refine lv_iconst (v := 1) hx hb dX2_init_74 (by decide) ?_
  refine va_put (D := D) (ci := 2) (v := .int 1) (ty := .int) (C := RX2) (T := TX2) (N := 14) hx hb hts inw_X2 tyX2 tyX2_ok nmX2 hown hK hP hD hS 0 rfl rfl 13 (by decide) (hts _ iw_149) (fun _ h9 => h9) rfl (by decide +kernel) rfl rfl (Nat.le_of_ble_eq_true rfl) dX2_init_75 (fun H locs hP hD hS => ?_)
  have hP : va_P D cl1 [(h0, .inr (2, [.ref q0, .ref q1, .ref q2, .ref q3, .ref q4, .ref q5, .ref q6, .ref q7, .int 0, .int 0, .int 0, .int (-1), .int 0, .int 1])), (q0, .inl (k0, 12, .inl fun _ => 0)), (q1, .inl (k1, 70, .inl fun _ => 0)), (q2, .inl (k2, 10, .inl fun _ => 0)), (q3, .inl (k3, 10, .inl fun _ => 0)), (q4, .inl (k4, 10, .inl fun _ => 0)), (q5, .inl (k5, 10, .inl fun _ => 0)), (q6, .inl (k6, 10, .inl fun _ => 0)), (q7, .inl (k7, 40, .inl fun _ => 0))] H := hP
  have hD : va_D A [(h0, .inr (2, [.ref q0, .ref q1, .ref q2, .ref q3, .ref q4, .ref q5, .ref q6, .ref q7, .int 0, .int 0, .int 0, .int (-1), .int 0, .int 1])), (q0, .inl (k0, 12, .inl fun _ => 0)), (q1, .inl (k1, 70, .inl fun _ => 0)), (q2, .inl (k2, 10, .inl fun _ => 0)), (q3, .inl (k3, 10, .inl fun _ => 0)), (q4, .inl (k4, 10, .inl fun _ => 0)), (q5, .inl (k5, 10, .inl fun _ => 0)), (q6, .inl (k6, 10, .inl fun _ => 0)), (q7, .inl (k7, 40, .inl fun _ => 0))] := hD
  have hP9 := hP
  have hD9 := hD
  have hK9 := hK
  exact W.vret hx hb hr (fun t ht hW => ⟨⟨(fun k => [q0, q1, q2, q3, q4, q5, q6, q7].getD k 0, fun k => [k0, k1, k2, k3, k4, k5, k6, k7].getD k 0), rfl, trivial, by rw [ht]; exact hP9, va_K.moved hW.alike hK9, hD9⟩, hS.F ht⟩) hS.2.2 dX2_init_78
def cz_X6 (h0 : Nat) : va_W := [(h0, .inr (6, [.null, .int 0, .int 0, .int 0, .int 0]))]
abbrev cw_X6 (h0 : Nat) (u : (Nat → Nat) × (Nat → ClassId)) : va_W := [(h0, .inr (6, [.ref (u.1 0), .int 0, .int 0, .int 0, .int 0])), ((u.1 0), .inl ((u.2 0), 220, .inl fun _ => 0))]
abbrev ct_X6 (u : (Nat → Nat) × (Nat → ClassId)) : List (ClassId × FieldType) := [((u.2 0), .int)]
set_option maxHeartbeats 16000000 in
set_option maxRecDepth 100000 in
theorem ci_X6 (l : Launch) (D : va_G) (h0 sz : Nat) : Met l yX6_init (.code yX6_init cX6_init 1 none :: gTs) ({ frames := 1, cells := 1, slots := 220, locals := 12 }) (va_Pc [.ref h0] (fun U => U.heap.size = sz ∧ va_P D cl1 [(h0, .inr (6, [.null, .int 0, .int 0, .int 0, .int 0]))] U.heap ∧ va_K D cl1 [] U ∧ va_D (fun _ => True) [(h0, .inr (6, [.null, .int 0, .int 0, .int 0, .int 0]))])) (va_Qv (S := (Nat → Nat) × (Nat → ClassId)) (fun _ => True) (fun u t => va_P D cl1 (cw_X6 h0 u) t.heap ∧ va_K D cl1 (ct_X6 u) t ∧ va_D (va_A [(h0, .inr (6, [.null, .int 0, .int 0, .int 0, .int 0]))] sz) (cw_X6 h0 u)) (va_A [(h0, .inr (6, [.null, .int 0, .int 0, .int 0, .int 0]))] sz)) 1 220 (va_A [(h0, .inr (6, [.null, .int 0, .int 0, .int 0, .int 0]))] sz) := by
  refine Met.ofW (cc := cX6_init) (maxL := 1) (ret := none) (by decide) rfl ?_
  intro p e s m args below meth c s₁ B hml hv
  obtain ⟨rfl, hsz, hP, hK, hD0⟩ := hv
  have hx := B.exec
  have hb := B.bytes
  have hr := B.returns
  have hts0 := atoms_spec (ws := .code yX6_init cX6_init 1 none :: gTs) B.pre
  have hts : ∀ w ∈ gTs, w.before _ s = true := fun w hw => hts0 w (List.mem_cons_of_mem _ hw)
  have hown : s.vm.findClass RX6 = some m.cls := findClass_of_methodNamed B.named
  have hlocks := B.notSynchronized
  have hin : meth.name = "<init>" := (name_of_methodNamed B.named B.method).1
  subst hsz
  have hD := hD0.self (sz := s.heap.size)
  generalize hAe : va_A [(h0, .inr (6, [.null, .int 0, .int 0, .int 0, .int 0]))] s.heap.size = A at hD ⊢
  have hA : ∀ q : Nat, s.heap.size ≤ q → A q := fun q h => by rw [← hAe]; exact Or.inr h
  have hS : va_S A s.heap s.heap [] := va_S.rf
  have hl := lv_entry ([.ref h0]) (n := 1) (Nat.le_of_ble_eq_true rfl)
  rw [lg_entry_eq]
  generalize (lg_sl ([.ref h0]) ++ List.replicate (1 - (lg_sl ([.ref h0])).length) Slot.unset).toArray = ls at hl ⊢
  have hl : lv_has ls 1 [(0, .ref h0)] := hl
  refine lv_aload_n hx hb dX6_init_0 rfl (lv_at hl 0 rfl) ?_
  refine W.objInit hx hb hown (hts _ iw_187) (hts _ iw_106) (hts _ iw_107) rfl (by rw [hml]; exact hl.1) rfl dX6_init_1 (Nat.le_of_ble_eq_true rfl) (Nat.le_of_ble_eq_true rfl) ?_
  refine W.eq (g2 := F0 m 4 ls []) rfl ?_
  refine lv_aload_n hx hb dX6_init_4 rfl (lv_at hl 0 rfl) ?_
  refine lv_sipush (v := 220) hx hb dX6_init_5 (by decide) ?_
  refine va_newa (atype := .int) (ty := .int) (a0 := (220, .inl fun _ => 0)) (N' := 220) hx hb (hts _ iw_181) rfl hK hP hD hS hA (fun _ => rfl) (by decide) (by decide) (Nat.le_of_ble_eq_true rfl) (Nat.le_of_ble_eq_true rfl) (Nat.le_of_ble_eq_true rfl) dX6_init_8 (fun q0 k0 H hK hP hD hS => ?_)
  have hK : va_K D cl1 [(k0, .int)] s := hK
  have hP : va_P D cl1 [(h0, .inr (6, [.null, .int 0, .int 0, .int 0, .int 0])), (q0, .inl (k0, 220, .inl fun _ => 0))] H := hP
  have hD : va_D A [(h0, .inr (6, [.null, .int 0, .int 0, .int 0, .int 0])), (q0, .inl (k0, 220, .inl fun _ => 0))] := hD
  refine W.widen (k := 1) (n := 220) (Nat.le_of_ble_eq_true rfl) (Nat.le_of_ble_eq_true rfl) ?_
  refine va_putF (D := D) (ci := 6) (v := .ref q0) (ty := .array .int) (C := RX6) (T := TX6) (N := 5) hx hb hts inw_X6 tyX6 tyX6_ok nmX6 hown hK hP hD hS 0 rfl rfl 0 (by decide) (hts _ iw_188) (fun _ h9 => h9) rfl hin rfl (by decide +kernel) rfl rfl (Nat.le_of_ble_eq_true rfl) dX6_init_10 (fun H locs hP hD hS => ?_)
  have hP : va_P D cl1 [(h0, .inr (6, [.ref q0, .int 0, .int 0, .int 0, .int 0])), (q0, .inl (k0, 220, .inl fun _ => 0))] H := hP
  have hD : va_D A [(h0, .inr (6, [.ref q0, .int 0, .int 0, .int 0, .int 0])), (q0, .inl (k0, 220, .inl fun _ => 0))] := hD
  have hP9 := hP
  have hD9 := hD
  have hK9 := hK
  exact W.vret hx hb hr (fun t ht hW => ⟨⟨(fun k => [q0].getD k 0, fun k => [k0].getD k 0), rfl, trivial, by rw [ht]; exact hP9, va_K.moved hW.alike hK9, hD9⟩, hS.F ht⟩) hS.2.2 dX6_init_13
def cz_X7 (h0 : Nat) : va_W := [(h0, .inr (7, [.null, .null, .null, .null, .null, .int 0]))]
abbrev cw_X7 (h0 : Nat) (u : (Nat → Nat) × (Nat → ClassId)) : va_W := [(h0, .inr (7, [.ref (u.1 0), .ref (u.1 1), .ref (u.1 2), .ref (u.1 3), .ref (u.1 4), .int 0])), ((u.1 0), .inl ((u.2 0), 16, .inl fun _ => 0)), ((u.1 1), .inl ((u.2 1), 16, .inl fun _ => 0)), ((u.1 2), .inl ((u.2 2), 16, .inl fun _ => 0)), ((u.1 3), .inl ((u.2 3), 16, .inl fun _ => 0)), ((u.1 4), .inl ((u.2 4), 16, .inl fun _ => 0))]
abbrev ct_X7 (u : (Nat → Nat) × (Nat → ClassId)) : List (ClassId × FieldType) := [((u.2 0), .int), ((u.2 1), .int), ((u.2 2), .int), ((u.2 3), .int), ((u.2 4), .int)]
set_option maxHeartbeats 16000000 in
set_option maxRecDepth 100000 in
theorem ci_X7 (l : Launch) (D : va_G) (h0 sz : Nat) : Met l yX7_init (.code yX7_init cX7_init 1 none :: gTs) ({ frames := 1, cells := 5, slots := 80, locals := 12 }) (va_Pc [.ref h0] (fun U => U.heap.size = sz ∧ va_P D cl1 [(h0, .inr (7, [.null, .null, .null, .null, .null, .int 0]))] U.heap ∧ va_K D cl1 [] U ∧ va_D (fun _ => True) [(h0, .inr (7, [.null, .null, .null, .null, .null, .int 0]))])) (va_Qv (S := (Nat → Nat) × (Nat → ClassId)) (fun _ => True) (fun u t => va_P D cl1 (cw_X7 h0 u) t.heap ∧ va_K D cl1 (ct_X7 u) t ∧ va_D (va_A [(h0, .inr (7, [.null, .null, .null, .null, .null, .int 0]))] sz) (cw_X7 h0 u)) (va_A [(h0, .inr (7, [.null, .null, .null, .null, .null, .int 0]))] sz)) 5 80 (va_A [(h0, .inr (7, [.null, .null, .null, .null, .null, .int 0]))] sz) := by
  refine Met.ofW (cc := cX7_init) (maxL := 1) (ret := none) (by decide) rfl ?_
  intro p e s m args below meth c s₁ B hml hv
  obtain ⟨rfl, hsz, hP, hK, hD0⟩ := hv
  have hx := B.exec
  have hb := B.bytes
  have hr := B.returns
  have hts0 := atoms_spec (ws := .code yX7_init cX7_init 1 none :: gTs) B.pre
  have hts : ∀ w ∈ gTs, w.before _ s = true := fun w hw => hts0 w (List.mem_cons_of_mem _ hw)
  have hown : s.vm.findClass RX7 = some m.cls := findClass_of_methodNamed B.named
  have hlocks := B.notSynchronized
  have hin : meth.name = "<init>" := (name_of_methodNamed B.named B.method).1
  subst hsz
  have hD := hD0.self (sz := s.heap.size)
  generalize hAe : va_A [(h0, .inr (7, [.null, .null, .null, .null, .null, .int 0]))] s.heap.size = A at hD ⊢
  have hA : ∀ q : Nat, s.heap.size ≤ q → A q := fun q h => by rw [← hAe]; exact Or.inr h
  have hS : va_S A s.heap s.heap [] := va_S.rf
  have hl := lv_entry ([.ref h0]) (n := 1) (Nat.le_of_ble_eq_true rfl)
  rw [lg_entry_eq]
  generalize (lg_sl ([.ref h0]) ++ List.replicate (1 - (lg_sl ([.ref h0])).length) Slot.unset).toArray = ls at hl ⊢
  have hl : lv_has ls 1 [(0, .ref h0)] := hl
  refine lv_aload_n hx hb dX7_init_0 rfl (lv_at hl 0 rfl) ?_
  refine W.objInit hx hb hown (hts _ iw_215) (hts _ iw_106) (hts _ iw_107) rfl (by rw [hml]; exact hl.1) rfl dX7_init_1 (Nat.le_of_ble_eq_true rfl) (Nat.le_of_ble_eq_true rfl) ?_
  refine W.eq (g2 := F0 m 4 ls []) rfl ?_
  refine lv_aload_n hx hb dX7_init_4 rfl (lv_at hl 0 rfl) ?_
  refine lv_bipush (v := 16) hx hb dX7_init_5 (by decide) ?_
  refine va_newa (atype := .int) (ty := .int) (a0 := (16, .inl fun _ => 0)) (N' := 16) hx hb (hts _ iw_181) rfl hK hP hD hS hA (fun _ => rfl) (by decide) (by decide) (Nat.le_of_ble_eq_true rfl) (Nat.le_of_ble_eq_true rfl) (Nat.le_of_ble_eq_true rfl) dX7_init_7 (fun q0 k0 H hK hP hD hS => ?_)
  have hK : va_K D cl1 [(k0, .int)] s := hK
  have hP : va_P D cl1 [(h0, .inr (7, [.null, .null, .null, .null, .null, .int 0])), (q0, .inl (k0, 16, .inl fun _ => 0))] H := hP
  have hD : va_D A [(h0, .inr (7, [.null, .null, .null, .null, .null, .int 0])), (q0, .inl (k0, 16, .inl fun _ => 0))] := hD
  refine W.widen (k := 1) (n := 16) (Nat.le_of_ble_eq_true rfl) (Nat.le_of_ble_eq_true rfl) ?_
  refine va_putF (D := D) (ci := 7) (v := .ref q0) (ty := .array .int) (C := RX7) (T := TX7) (N := 6) hx hb hts inw_X7 tyX7 tyX7_ok nmX7 hown hK hP hD hS 0 rfl rfl 0 (by decide) (hts _ iw_216) (fun _ h9 => h9) rfl hin rfl (by decide +kernel) rfl rfl (Nat.le_of_ble_eq_true rfl) dX7_init_9 (fun H locs hP hD hS => ?_)
  have hP : va_P D cl1 [(h0, .inr (7, [.ref q0, .null, .null, .null, .null, .int 0])), (q0, .inl (k0, 16, .inl fun _ => 0))] H := hP
  have hD : va_D A [(h0, .inr (7, [.ref q0, .null, .null, .null, .null, .int 0])), (q0, .inl (k0, 16, .inl fun _ => 0))] := hD
  refine lv_aload_n hx hb dX7_init_12 rfl (lv_at hl 0 rfl) ?_
  refine lv_bipush (v := 16) hx hb dX7_init_13 (by decide) ?_
  refine va_newa (atype := .int) (ty := .int) (a0 := (16, .inl fun _ => 0)) (N' := 16) hx hb (hts _ iw_181) rfl hK hP hD hS hA (fun _ => rfl) (by decide) (by decide) (Nat.le_of_ble_eq_true rfl) (Nat.le_of_ble_eq_true rfl) (Nat.le_of_ble_eq_true rfl) dX7_init_15 (fun q1 k1 H hK hP hD hS => ?_)
  have hK : va_K D cl1 [(k0, .int), (k1, .int)] s := hK
  have hP : va_P D cl1 [(h0, .inr (7, [.ref q0, .null, .null, .null, .null, .int 0])), (q0, .inl (k0, 16, .inl fun _ => 0)), (q1, .inl (k1, 16, .inl fun _ => 0))] H := hP
  have hD : va_D A [(h0, .inr (7, [.ref q0, .null, .null, .null, .null, .int 0])), (q0, .inl (k0, 16, .inl fun _ => 0)), (q1, .inl (k1, 16, .inl fun _ => 0))] := hD
  refine W.widen (k := 2) (n := 32) (Nat.le_of_ble_eq_true rfl) (Nat.le_of_ble_eq_true rfl) ?_
  refine va_putF (D := D) (ci := 7) (v := .ref q1) (ty := .array .int) (C := RX7) (T := TX7) (N := 6) hx hb hts inw_X7 tyX7 tyX7_ok nmX7 hown hK hP hD hS 0 rfl rfl 1 (by decide) (hts _ iw_219) (fun _ h9 => h9) rfl hin rfl (by decide +kernel) rfl rfl (Nat.le_of_ble_eq_true rfl) dX7_init_17 (fun H locs hP hD hS => ?_)
  have hP : va_P D cl1 [(h0, .inr (7, [.ref q0, .ref q1, .null, .null, .null, .int 0])), (q0, .inl (k0, 16, .inl fun _ => 0)), (q1, .inl (k1, 16, .inl fun _ => 0))] H := hP
  have hD : va_D A [(h0, .inr (7, [.ref q0, .ref q1, .null, .null, .null, .int 0])), (q0, .inl (k0, 16, .inl fun _ => 0)), (q1, .inl (k1, 16, .inl fun _ => 0))] := hD
  refine lv_aload_n hx hb dX7_init_20 rfl (lv_at hl 0 rfl) ?_
  refine lv_bipush (v := 16) hx hb dX7_init_21 (by decide) ?_
  refine va_newa (atype := .int) (ty := .int) (a0 := (16, .inl fun _ => 0)) (N' := 16) hx hb (hts _ iw_181) rfl hK hP hD hS hA (fun _ => rfl) (by decide) (by decide) (Nat.le_of_ble_eq_true rfl) (Nat.le_of_ble_eq_true rfl) (Nat.le_of_ble_eq_true rfl) dX7_init_23 (fun q2 k2 H hK hP hD hS => ?_)
  have hK : va_K D cl1 [(k0, .int), (k1, .int), (k2, .int)] s := hK
  have hP : va_P D cl1 [(h0, .inr (7, [.ref q0, .ref q1, .null, .null, .null, .int 0])), (q0, .inl (k0, 16, .inl fun _ => 0)), (q1, .inl (k1, 16, .inl fun _ => 0)), (q2, .inl (k2, 16, .inl fun _ => 0))] H := hP
  have hD : va_D A [(h0, .inr (7, [.ref q0, .ref q1, .null, .null, .null, .int 0])), (q0, .inl (k0, 16, .inl fun _ => 0)), (q1, .inl (k1, 16, .inl fun _ => 0)), (q2, .inl (k2, 16, .inl fun _ => 0))] := hD
  refine W.widen (k := 3) (n := 48) (Nat.le_of_ble_eq_true rfl) (Nat.le_of_ble_eq_true rfl) ?_
  refine va_putF (D := D) (ci := 7) (v := .ref q2) (ty := .array .int) (C := RX7) (T := TX7) (N := 6) hx hb hts inw_X7 tyX7 tyX7_ok nmX7 hown hK hP hD hS 0 rfl rfl 2 (by decide) (hts _ iw_222) (fun _ h9 => h9) rfl hin rfl (by decide +kernel) rfl rfl (Nat.le_of_ble_eq_true rfl) dX7_init_25 (fun H locs hP hD hS => ?_)
  have hP : va_P D cl1 [(h0, .inr (7, [.ref q0, .ref q1, .ref q2, .null, .null, .int 0])), (q0, .inl (k0, 16, .inl fun _ => 0)), (q1, .inl (k1, 16, .inl fun _ => 0)), (q2, .inl (k2, 16, .inl fun _ => 0))] H := hP
  have hD : va_D A [(h0, .inr (7, [.ref q0, .ref q1, .ref q2, .null, .null, .int 0])), (q0, .inl (k0, 16, .inl fun _ => 0)), (q1, .inl (k1, 16, .inl fun _ => 0)), (q2, .inl (k2, 16, .inl fun _ => 0))] := hD
  refine lv_aload_n hx hb dX7_init_28 rfl (lv_at hl 0 rfl) ?_
  refine lv_bipush (v := 16) hx hb dX7_init_29 (by decide) ?_
  refine va_newa (atype := .int) (ty := .int) (a0 := (16, .inl fun _ => 0)) (N' := 16) hx hb (hts _ iw_181) rfl hK hP hD hS hA (fun _ => rfl) (by decide) (by decide) (Nat.le_of_ble_eq_true rfl) (Nat.le_of_ble_eq_true rfl) (Nat.le_of_ble_eq_true rfl) dX7_init_31 (fun q3 k3 H hK hP hD hS => ?_)
  have hK : va_K D cl1 [(k0, .int), (k1, .int), (k2, .int), (k3, .int)] s := hK
  have hP : va_P D cl1 [(h0, .inr (7, [.ref q0, .ref q1, .ref q2, .null, .null, .int 0])), (q0, .inl (k0, 16, .inl fun _ => 0)), (q1, .inl (k1, 16, .inl fun _ => 0)), (q2, .inl (k2, 16, .inl fun _ => 0)), (q3, .inl (k3, 16, .inl fun _ => 0))] H := hP
  have hD : va_D A [(h0, .inr (7, [.ref q0, .ref q1, .ref q2, .null, .null, .int 0])), (q0, .inl (k0, 16, .inl fun _ => 0)), (q1, .inl (k1, 16, .inl fun _ => 0)), (q2, .inl (k2, 16, .inl fun _ => 0)), (q3, .inl (k3, 16, .inl fun _ => 0))] := hD
  refine W.widen (k := 4) (n := 64) (Nat.le_of_ble_eq_true rfl) (Nat.le_of_ble_eq_true rfl) ?_
  refine va_putF (D := D) (ci := 7) (v := .ref q3) (ty := .array .int) (C := RX7) (T := TX7) (N := 6) hx hb hts inw_X7 tyX7 tyX7_ok nmX7 hown hK hP hD hS 0 rfl rfl 3 (by decide) (hts _ iw_225) (fun _ h9 => h9) rfl hin rfl (by decide +kernel) rfl rfl (Nat.le_of_ble_eq_true rfl) dX7_init_33 (fun H locs hP hD hS => ?_)
  have hP : va_P D cl1 [(h0, .inr (7, [.ref q0, .ref q1, .ref q2, .ref q3, .null, .int 0])), (q0, .inl (k0, 16, .inl fun _ => 0)), (q1, .inl (k1, 16, .inl fun _ => 0)), (q2, .inl (k2, 16, .inl fun _ => 0)), (q3, .inl (k3, 16, .inl fun _ => 0))] H := hP
  have hD : va_D A [(h0, .inr (7, [.ref q0, .ref q1, .ref q2, .ref q3, .null, .int 0])), (q0, .inl (k0, 16, .inl fun _ => 0)), (q1, .inl (k1, 16, .inl fun _ => 0)), (q2, .inl (k2, 16, .inl fun _ => 0)), (q3, .inl (k3, 16, .inl fun _ => 0))] := hD
  refine lv_aload_n hx hb dX7_init_36 rfl (lv_at hl 0 rfl) ?_
  refine lv_bipush (v := 16) hx hb dX7_init_37 (by decide) ?_
  refine va_newa (atype := .int) (ty := .int) (a0 := (16, .inl fun _ => 0)) (N' := 16) hx hb (hts _ iw_181) rfl hK hP hD hS hA (fun _ => rfl) (by decide) (by decide) (Nat.le_of_ble_eq_true rfl) (Nat.le_of_ble_eq_true rfl) (Nat.le_of_ble_eq_true rfl) dX7_init_39 (fun q4 k4 H hK hP hD hS => ?_)
  have hK : va_K D cl1 [(k0, .int), (k1, .int), (k2, .int), (k3, .int), (k4, .int)] s := hK
  have hP : va_P D cl1 [(h0, .inr (7, [.ref q0, .ref q1, .ref q2, .ref q3, .null, .int 0])), (q0, .inl (k0, 16, .inl fun _ => 0)), (q1, .inl (k1, 16, .inl fun _ => 0)), (q2, .inl (k2, 16, .inl fun _ => 0)), (q3, .inl (k3, 16, .inl fun _ => 0)), (q4, .inl (k4, 16, .inl fun _ => 0))] H := hP
  have hD : va_D A [(h0, .inr (7, [.ref q0, .ref q1, .ref q2, .ref q3, .null, .int 0])), (q0, .inl (k0, 16, .inl fun _ => 0)), (q1, .inl (k1, 16, .inl fun _ => 0)), (q2, .inl (k2, 16, .inl fun _ => 0)), (q3, .inl (k3, 16, .inl fun _ => 0)), (q4, .inl (k4, 16, .inl fun _ => 0))] := hD
  refine W.widen (k := 5) (n := 80) (Nat.le_of_ble_eq_true rfl) (Nat.le_of_ble_eq_true rfl) ?_
  refine va_putF (D := D) (ci := 7) (v := .ref q4) (ty := .array .int) (C := RX7) (T := TX7) (N := 6) hx hb hts inw_X7 tyX7 tyX7_ok nmX7 hown hK hP hD hS 0 rfl rfl 4 (by decide) (hts _ iw_228) (fun _ h9 => h9) rfl hin rfl (by decide +kernel) rfl rfl (Nat.le_of_ble_eq_true rfl) dX7_init_41 (fun H locs hP hD hS => ?_)
  have hP : va_P D cl1 [(h0, .inr (7, [.ref q0, .ref q1, .ref q2, .ref q3, .ref q4, .int 0])), (q0, .inl (k0, 16, .inl fun _ => 0)), (q1, .inl (k1, 16, .inl fun _ => 0)), (q2, .inl (k2, 16, .inl fun _ => 0)), (q3, .inl (k3, 16, .inl fun _ => 0)), (q4, .inl (k4, 16, .inl fun _ => 0))] H := hP
  have hD : va_D A [(h0, .inr (7, [.ref q0, .ref q1, .ref q2, .ref q3, .ref q4, .int 0])), (q0, .inl (k0, 16, .inl fun _ => 0)), (q1, .inl (k1, 16, .inl fun _ => 0)), (q2, .inl (k2, 16, .inl fun _ => 0)), (q3, .inl (k3, 16, .inl fun _ => 0)), (q4, .inl (k4, 16, .inl fun _ => 0))] := hD
  have hP9 := hP
  have hD9 := hD
  have hK9 := hK
  exact W.vret hx hb hr (fun t ht hW => ⟨⟨(fun k => [q0, q1, q2, q3, q4].getD k 0, fun k => [k0, k1, k2, k3, k4].getD k 0), rfl, trivial, by rw [ht]; exact hP9, va_K.moved hW.alike hK9, hD9⟩, hS.F ht⟩) hS.2.2 dX7_init_44
def cz_X3 (h0 : Nat) : va_W := [(h0, .inr (3, [.null, .null, .null, .int 0, .null, .null, .int 0, .null]))]
abbrev cw_X3 (h0 : Nat) (u : (Nat → Nat) × (Nat → ClassId)) : va_W := [(h0, .inr (3, [.ref (u.1 0), .ref (u.1 1), .ref (u.1 2), .int 0, .ref (u.1 3), .ref (u.1 4), .int 0, .ref (u.1 5)])), ((u.1 0), .inl ((u.2 0), 14, .inl fun _ => 0)), ((u.1 1), .inl ((u.2 1), 14, .inl fun _ => 0)), ((u.1 2), .inl ((u.2 2), 14, .inl fun _ => 0)), ((u.1 3), .inl ((u.2 3), 256, .inl fun _ => 0)), ((u.1 4), .inl ((u.2 4), 256, .inl fun _ => 0)), ((u.1 5), .inl ((u.2 5), 32, .inl fun _ => 0))]
abbrev ct_X3 (u : (Nat → Nat) × (Nat → ClassId)) : List (ClassId × FieldType) := [((u.2 0), .int), ((u.2 1), .int), ((u.2 2), .int), ((u.2 3), .int), ((u.2 4), .int), ((u.2 5), .int)]
set_option maxHeartbeats 16000000 in
set_option maxRecDepth 100000 in
theorem ci_X3 (l : Launch) (D : va_G) (h0 sz : Nat) : Met l yX3_init (.code yX3_init cX3_init 1 none :: gTs) ({ frames := 1, cells := 6, slots := 586, locals := 12 }) (va_Pc [.ref h0] (fun U => U.heap.size = sz ∧ va_P D cl1 [(h0, .inr (3, [.null, .null, .null, .int 0, .null, .null, .int 0, .null]))] U.heap ∧ va_K D cl1 [] U ∧ va_D (fun _ => True) [(h0, .inr (3, [.null, .null, .null, .int 0, .null, .null, .int 0, .null]))])) (va_Qv (S := (Nat → Nat) × (Nat → ClassId)) (fun _ => True) (fun u t => va_P D cl1 (cw_X3 h0 u) t.heap ∧ va_K D cl1 (ct_X3 u) t ∧ va_D (va_A [(h0, .inr (3, [.null, .null, .null, .int 0, .null, .null, .int 0, .null]))] sz) (cw_X3 h0 u)) (va_A [(h0, .inr (3, [.null, .null, .null, .int 0, .null, .null, .int 0, .null]))] sz)) 6 586 (va_A [(h0, .inr (3, [.null, .null, .null, .int 0, .null, .null, .int 0, .null]))] sz) := by
  refine Met.ofW (cc := cX3_init) (maxL := 1) (ret := none) (by decide) rfl ?_
  intro p e s m args below meth c s₁ B hml hv
  obtain ⟨rfl, hsz, hP, hK, hD0⟩ := hv
  have hx := B.exec
  have hb := B.bytes
  have hr := B.returns
  have hts0 := atoms_spec (ws := .code yX3_init cX3_init 1 none :: gTs) B.pre
  have hts : ∀ w ∈ gTs, w.before _ s = true := fun w hw => hts0 w (List.mem_cons_of_mem _ hw)
  have hown : s.vm.findClass RX3 = some m.cls := findClass_of_methodNamed B.named
  have hlocks := B.notSynchronized
  have hin : meth.name = "<init>" := (name_of_methodNamed B.named B.method).1
  subst hsz
  have hD := hD0.self (sz := s.heap.size)
  generalize hAe : va_A [(h0, .inr (3, [.null, .null, .null, .int 0, .null, .null, .int 0, .null]))] s.heap.size = A at hD ⊢
  have hA : ∀ q : Nat, s.heap.size ≤ q → A q := fun q h => by rw [← hAe]; exact Or.inr h
  have hS : va_S A s.heap s.heap [] := va_S.rf
  have hl := lv_entry ([.ref h0]) (n := 1) (Nat.le_of_ble_eq_true rfl)
  rw [lg_entry_eq]
  generalize (lg_sl ([.ref h0]) ++ List.replicate (1 - (lg_sl ([.ref h0])).length) Slot.unset).toArray = ls at hl ⊢
  have hl : lv_has ls 1 [(0, .ref h0)] := hl
  refine lv_aload_n hx hb dX3_init_0 rfl (lv_at hl 0 rfl) ?_
  refine W.objInit hx hb hown (hts _ iw_250) (hts _ iw_106) (hts _ iw_107) rfl (by rw [hml]; exact hl.1) rfl dX3_init_1 (Nat.le_of_ble_eq_true rfl) (Nat.le_of_ble_eq_true rfl) ?_
  refine W.eq (g2 := F0 m 4 ls []) rfl ?_
  refine lv_aload_n hx hb dX3_init_4 rfl (lv_at hl 0 rfl) ?_
  refine lv_bipush (v := 14) hx hb dX3_init_5 (by decide) ?_
  refine va_newa (atype := .int) (ty := .int) (a0 := (14, .inl fun _ => 0)) (N' := 14) hx hb (hts _ iw_181) rfl hK hP hD hS hA (fun _ => rfl) (by decide) (by decide) (Nat.le_of_ble_eq_true rfl) (Nat.le_of_ble_eq_true rfl) (Nat.le_of_ble_eq_true rfl) dX3_init_7 (fun q0 k0 H hK hP hD hS => ?_)
  have hK : va_K D cl1 [(k0, .int)] s := hK
  have hP : va_P D cl1 [(h0, .inr (3, [.null, .null, .null, .int 0, .null, .null, .int 0, .null])), (q0, .inl (k0, 14, .inl fun _ => 0))] H := hP
  have hD : va_D A [(h0, .inr (3, [.null, .null, .null, .int 0, .null, .null, .int 0, .null])), (q0, .inl (k0, 14, .inl fun _ => 0))] := hD
  refine W.widen (k := 1) (n := 14) (Nat.le_of_ble_eq_true rfl) (Nat.le_of_ble_eq_true rfl) ?_
  refine va_putF (D := D) (ci := 3) (v := .ref q0) (ty := .array .int) (C := RX3) (T := TX3) (N := 8) hx hb hts inw_X3 tyX3 tyX3_ok nmX3 hown hK hP hD hS 0 rfl rfl 0 (by decide) (hts _ iw_251) (fun _ h9 => h9) rfl hin rfl (by decide +kernel) rfl rfl (Nat.le_of_ble_eq_true rfl) dX3_init_9 (fun H locs hP hD hS => ?_)
  have hP : va_P D cl1 [(h0, .inr (3, [.ref q0, .null, .null, .int 0, .null, .null, .int 0, .null])), (q0, .inl (k0, 14, .inl fun _ => 0))] H := hP
  have hD : va_D A [(h0, .inr (3, [.ref q0, .null, .null, .int 0, .null, .null, .int 0, .null])), (q0, .inl (k0, 14, .inl fun _ => 0))] := hD
  refine lv_aload_n hx hb dX3_init_12 rfl (lv_at hl 0 rfl) ?_
  refine lv_bipush (v := 14) hx hb dX3_init_13 (by decide) ?_
  refine va_newa (atype := .int) (ty := .int) (a0 := (14, .inl fun _ => 0)) (N' := 14) hx hb (hts _ iw_181) rfl hK hP hD hS hA (fun _ => rfl) (by decide) (by decide) (Nat.le_of_ble_eq_true rfl) (Nat.le_of_ble_eq_true rfl) (Nat.le_of_ble_eq_true rfl) dX3_init_15 (fun q1 k1 H hK hP hD hS => ?_)
  have hK : va_K D cl1 [(k0, .int), (k1, .int)] s := hK
  have hP : va_P D cl1 [(h0, .inr (3, [.ref q0, .null, .null, .int 0, .null, .null, .int 0, .null])), (q0, .inl (k0, 14, .inl fun _ => 0)), (q1, .inl (k1, 14, .inl fun _ => 0))] H := hP
  have hD : va_D A [(h0, .inr (3, [.ref q0, .null, .null, .int 0, .null, .null, .int 0, .null])), (q0, .inl (k0, 14, .inl fun _ => 0)), (q1, .inl (k1, 14, .inl fun _ => 0))] := hD
  refine W.widen (k := 2) (n := 28) (Nat.le_of_ble_eq_true rfl) (Nat.le_of_ble_eq_true rfl) ?_
  refine va_putF (D := D) (ci := 3) (v := .ref q1) (ty := .array .int) (C := RX3) (T := TX3) (N := 8) hx hb hts inw_X3 tyX3 tyX3_ok nmX3 hown hK hP hD hS 0 rfl rfl 1 (by decide) (hts _ iw_252) (fun _ h9 => h9) rfl hin rfl (by decide +kernel) rfl rfl (Nat.le_of_ble_eq_true rfl) dX3_init_17 (fun H locs hP hD hS => ?_)
  have hP : va_P D cl1 [(h0, .inr (3, [.ref q0, .ref q1, .null, .int 0, .null, .null, .int 0, .null])), (q0, .inl (k0, 14, .inl fun _ => 0)), (q1, .inl (k1, 14, .inl fun _ => 0))] H := hP
  have hD : va_D A [(h0, .inr (3, [.ref q0, .ref q1, .null, .int 0, .null, .null, .int 0, .null])), (q0, .inl (k0, 14, .inl fun _ => 0)), (q1, .inl (k1, 14, .inl fun _ => 0))] := hD
  refine lv_aload_n hx hb dX3_init_20 rfl (lv_at hl 0 rfl) ?_
  refine lv_bipush (v := 14) hx hb dX3_init_21 (by decide) ?_
  refine va_newa (atype := .int) (ty := .int) (a0 := (14, .inl fun _ => 0)) (N' := 14) hx hb (hts _ iw_181) rfl hK hP hD hS hA (fun _ => rfl) (by decide) (by decide) (Nat.le_of_ble_eq_true rfl) (Nat.le_of_ble_eq_true rfl) (Nat.le_of_ble_eq_true rfl) dX3_init_23 (fun q2 k2 H hK hP hD hS => ?_)
  have hK : va_K D cl1 [(k0, .int), (k1, .int), (k2, .int)] s := hK
  have hP : va_P D cl1 [(h0, .inr (3, [.ref q0, .ref q1, .null, .int 0, .null, .null, .int 0, .null])), (q0, .inl (k0, 14, .inl fun _ => 0)), (q1, .inl (k1, 14, .inl fun _ => 0)), (q2, .inl (k2, 14, .inl fun _ => 0))] H := hP
  have hD : va_D A [(h0, .inr (3, [.ref q0, .ref q1, .null, .int 0, .null, .null, .int 0, .null])), (q0, .inl (k0, 14, .inl fun _ => 0)), (q1, .inl (k1, 14, .inl fun _ => 0)), (q2, .inl (k2, 14, .inl fun _ => 0))] := hD
  refine W.widen (k := 3) (n := 42) (Nat.le_of_ble_eq_true rfl) (Nat.le_of_ble_eq_true rfl) ?_
  refine va_putF (D := D) (ci := 3) (v := .ref q2) (ty := .array .int) (C := RX3) (T := TX3) (N := 8) hx hb hts inw_X3 tyX3 tyX3_ok nmX3 hown hK hP hD hS 0 rfl rfl 2 (by decide) (hts _ iw_253) (fun _ h9 => h9) rfl hin rfl (by decide +kernel) rfl rfl (Nat.le_of_ble_eq_true rfl) dX3_init_25 (fun H locs hP hD hS => ?_)
  have hP : va_P D cl1 [(h0, .inr (3, [.ref q0, .ref q1, .ref q2, .int 0, .null, .null, .int 0, .null])), (q0, .inl (k0, 14, .inl fun _ => 0)), (q1, .inl (k1, 14, .inl fun _ => 0)), (q2, .inl (k2, 14, .inl fun _ => 0))] H := hP
  have hD : va_D A [(h0, .inr (3, [.ref q0, .ref q1, .ref q2, .int 0, .null, .null, .int 0, .null])), (q0, .inl (k0, 14, .inl fun _ => 0)), (q1, .inl (k1, 14, .inl fun _ => 0)), (q2, .inl (k2, 14, .inl fun _ => 0))] := hD
  refine lv_aload_n hx hb dX3_init_28 rfl (lv_at hl 0 rfl) ?_
  refine lv_sipush (v := 256) hx hb dX3_init_29 (by decide) ?_
  refine va_newa (atype := .int) (ty := .int) (a0 := (256, .inl fun _ => 0)) (N' := 256) hx hb (hts _ iw_181) rfl hK hP hD hS hA (fun _ => rfl) (by decide) (by decide) (Nat.le_of_ble_eq_true rfl) (Nat.le_of_ble_eq_true rfl) (Nat.le_of_ble_eq_true rfl) dX3_init_32 (fun q3 k3 H hK hP hD hS => ?_)
  have hK : va_K D cl1 [(k0, .int), (k1, .int), (k2, .int), (k3, .int)] s := hK
  have hP : va_P D cl1 [(h0, .inr (3, [.ref q0, .ref q1, .ref q2, .int 0, .null, .null, .int 0, .null])), (q0, .inl (k0, 14, .inl fun _ => 0)), (q1, .inl (k1, 14, .inl fun _ => 0)), (q2, .inl (k2, 14, .inl fun _ => 0)), (q3, .inl (k3, 256, .inl fun _ => 0))] H := hP
  have hD : va_D A [(h0, .inr (3, [.ref q0, .ref q1, .ref q2, .int 0, .null, .null, .int 0, .null])), (q0, .inl (k0, 14, .inl fun _ => 0)), (q1, .inl (k1, 14, .inl fun _ => 0)), (q2, .inl (k2, 14, .inl fun _ => 0)), (q3, .inl (k3, 256, .inl fun _ => 0))] := hD
  refine W.widen (k := 4) (n := 298) (Nat.le_of_ble_eq_true rfl) (Nat.le_of_ble_eq_true rfl) ?_
  refine va_putF (D := D) (ci := 3) (v := .ref q3) (ty := .array .int) (C := RX3) (T := TX3) (N := 8) hx hb hts inw_X3 tyX3 tyX3_ok nmX3 hown hK hP hD hS 0 rfl rfl 4 (by decide) (hts _ iw_257) (fun _ h9 => h9) rfl hin rfl (by decide +kernel) rfl rfl (Nat.le_of_ble_eq_true rfl) dX3_init_34 (fun H locs hP hD hS => ?_)
  have hP : va_P D cl1 [(h0, .inr (3, [.ref q0, .ref q1, .ref q2, .int 0, .ref q3, .null, .int 0, .null])), (q0, .inl (k0, 14, .inl fun _ => 0)), (q1, .inl (k1, 14, .inl fun _ => 0)), (q2, .inl (k2, 14, .inl fun _ => 0)), (q3, .inl (k3, 256, .inl fun _ => 0))] H := hP
  have hD : va_D A [(h0, .inr (3, [.ref q0, .ref q1, .ref q2, .int 0, .ref q3, .null, .int 0, .null])), (q0, .inl (k0, 14, .inl fun _ => 0)), (q1, .inl (k1, 14, .inl fun _ => 0)), (q2, .inl (k2, 14, .inl fun _ => 0)), (q3, .inl (k3, 256, .inl fun _ => 0))] := hD
  refine lv_aload_n hx hb dX3_init_37 rfl (lv_at hl 0 rfl) ?_
  refine lv_sipush (v := 256) hx hb dX3_init_38 (by decide) ?_
  refine va_newa (atype := .int) (ty := .int) (a0 := (256, .inl fun _ => 0)) (N' := 256) hx hb (hts _ iw_181) rfl hK hP hD hS hA (fun _ => rfl) (by decide) (by decide) (Nat.le_of_ble_eq_true rfl) (Nat.le_of_ble_eq_true rfl) (Nat.le_of_ble_eq_true rfl) dX3_init_41 (fun q4 k4 H hK hP hD hS => ?_)
  have hK : va_K D cl1 [(k0, .int), (k1, .int), (k2, .int), (k3, .int), (k4, .int)] s := hK
  have hP : va_P D cl1 [(h0, .inr (3, [.ref q0, .ref q1, .ref q2, .int 0, .ref q3, .null, .int 0, .null])), (q0, .inl (k0, 14, .inl fun _ => 0)), (q1, .inl (k1, 14, .inl fun _ => 0)), (q2, .inl (k2, 14, .inl fun _ => 0)), (q3, .inl (k3, 256, .inl fun _ => 0)), (q4, .inl (k4, 256, .inl fun _ => 0))] H := hP
  have hD : va_D A [(h0, .inr (3, [.ref q0, .ref q1, .ref q2, .int 0, .ref q3, .null, .int 0, .null])), (q0, .inl (k0, 14, .inl fun _ => 0)), (q1, .inl (k1, 14, .inl fun _ => 0)), (q2, .inl (k2, 14, .inl fun _ => 0)), (q3, .inl (k3, 256, .inl fun _ => 0)), (q4, .inl (k4, 256, .inl fun _ => 0))] := hD
  refine W.widen (k := 5) (n := 554) (Nat.le_of_ble_eq_true rfl) (Nat.le_of_ble_eq_true rfl) ?_
  refine va_putF (D := D) (ci := 3) (v := .ref q4) (ty := .array .int) (C := RX3) (T := TX3) (N := 8) hx hb hts inw_X3 tyX3 tyX3_ok nmX3 hown hK hP hD hS 0 rfl rfl 5 (by decide) (hts _ iw_258) (fun _ h9 => h9) rfl hin rfl (by decide +kernel) rfl rfl (Nat.le_of_ble_eq_true rfl) dX3_init_43 (fun H locs hP hD hS => ?_)
  have hP : va_P D cl1 [(h0, .inr (3, [.ref q0, .ref q1, .ref q2, .int 0, .ref q3, .ref q4, .int 0, .null])), (q0, .inl (k0, 14, .inl fun _ => 0)), (q1, .inl (k1, 14, .inl fun _ => 0)), (q2, .inl (k2, 14, .inl fun _ => 0)), (q3, .inl (k3, 256, .inl fun _ => 0)), (q4, .inl (k4, 256, .inl fun _ => 0))] H := hP
  have hD : va_D A [(h0, .inr (3, [.ref q0, .ref q1, .ref q2, .int 0, .ref q3, .ref q4, .int 0, .null])), (q0, .inl (k0, 14, .inl fun _ => 0)), (q1, .inl (k1, 14, .inl fun _ => 0)), (q2, .inl (k2, 14, .inl fun _ => 0)), (q3, .inl (k3, 256, .inl fun _ => 0)), (q4, .inl (k4, 256, .inl fun _ => 0))] := hD
  refine lv_aload_n hx hb dX3_init_46 rfl (lv_at hl 0 rfl) ?_
  refine lv_bipush (v := 32) hx hb dX3_init_47 (by decide) ?_
  refine va_newa (atype := .int) (ty := .int) (a0 := (32, .inl fun _ => 0)) (N' := 32) hx hb (hts _ iw_181) rfl hK hP hD hS hA (fun _ => rfl) (by decide) (by decide) (Nat.le_of_ble_eq_true rfl) (Nat.le_of_ble_eq_true rfl) (Nat.le_of_ble_eq_true rfl) dX3_init_49 (fun q5 k5 H hK hP hD hS => ?_)
  have hK : va_K D cl1 [(k0, .int), (k1, .int), (k2, .int), (k3, .int), (k4, .int), (k5, .int)] s := hK
  have hP : va_P D cl1 [(h0, .inr (3, [.ref q0, .ref q1, .ref q2, .int 0, .ref q3, .ref q4, .int 0, .null])), (q0, .inl (k0, 14, .inl fun _ => 0)), (q1, .inl (k1, 14, .inl fun _ => 0)), (q2, .inl (k2, 14, .inl fun _ => 0)), (q3, .inl (k3, 256, .inl fun _ => 0)), (q4, .inl (k4, 256, .inl fun _ => 0)), (q5, .inl (k5, 32, .inl fun _ => 0))] H := hP
  have hD : va_D A [(h0, .inr (3, [.ref q0, .ref q1, .ref q2, .int 0, .ref q3, .ref q4, .int 0, .null])), (q0, .inl (k0, 14, .inl fun _ => 0)), (q1, .inl (k1, 14, .inl fun _ => 0)), (q2, .inl (k2, 14, .inl fun _ => 0)), (q3, .inl (k3, 256, .inl fun _ => 0)), (q4, .inl (k4, 256, .inl fun _ => 0)), (q5, .inl (k5, 32, .inl fun _ => 0))] := hD
  refine W.widen (k := 6) (n := 586) (Nat.le_of_ble_eq_true rfl) (Nat.le_of_ble_eq_true rfl) ?_
  refine va_putF (D := D) (ci := 3) (v := .ref q5) (ty := .array .int) (C := RX3) (T := TX3) (N := 8) hx hb hts inw_X3 tyX3 tyX3_ok nmX3 hown hK hP hD hS 0 rfl rfl 7 (by decide) (hts _ iw_261) (fun _ h9 => h9) rfl hin rfl (by decide +kernel) rfl rfl (Nat.le_of_ble_eq_true rfl) dX3_init_51 (fun H locs hP hD hS => ?_)
  have hP : va_P D cl1 [(h0, .inr (3, [.ref q0, .ref q1, .ref q2, .int 0, .ref q3, .ref q4, .int 0, .ref q5])), (q0, .inl (k0, 14, .inl fun _ => 0)), (q1, .inl (k1, 14, .inl fun _ => 0)), (q2, .inl (k2, 14, .inl fun _ => 0)), (q3, .inl (k3, 256, .inl fun _ => 0)), (q4, .inl (k4, 256, .inl fun _ => 0)), (q5, .inl (k5, 32, .inl fun _ => 0))] H := hP
  have hD : va_D A [(h0, .inr (3, [.ref q0, .ref q1, .ref q2, .int 0, .ref q3, .ref q4, .int 0, .ref q5])), (q0, .inl (k0, 14, .inl fun _ => 0)), (q1, .inl (k1, 14, .inl fun _ => 0)), (q2, .inl (k2, 14, .inl fun _ => 0)), (q3, .inl (k3, 256, .inl fun _ => 0)), (q4, .inl (k4, 256, .inl fun _ => 0)), (q5, .inl (k5, 32, .inl fun _ => 0))] := hD
  have hP9 := hP
  have hD9 := hD
  have hK9 := hK
  exact W.vret hx hb hr (fun t ht hW => ⟨⟨(fun k => [q0, q1, q2, q3, q4, q5].getD k 0, fun k => [k0, k1, k2, k3, k4, k5].getD k 0), rfl, trivial, by rw [ht]; exact hP9, va_K.moved hW.alike hK9, hD9⟩, hS.F ht⟩) hS.2.2 dX3_init_54
def cz_X4 (h0 : Nat) : va_W := [(h0, .inr (4, [.null, .null]))]
abbrev cw_X4 (h0 a1 a2 : Nat) (u : (Nat → Nat) × (Nat → ClassId)) : va_W := [(h0, .inr (4, [.ref a1, .ref a2]))]
abbrev ct_X4 (u : (Nat → Nat) × (Nat → ClassId)) : List (ClassId × FieldType) := []
set_option maxHeartbeats 16000000 in
set_option maxRecDepth 100000 in
theorem ci_X4 (l : Launch) (D : va_G) (h0 a1 a2 sz : Nat) : Met l yX4_init (.code yX4_init cX4_init 3 none :: gTs) ({ frames := 1, cells := 0, slots := 0, locals := 12 }) (va_Pc [.ref h0, .ref a1, .ref a2] (fun U => U.heap.size = sz ∧ va_P D cl1 [(h0, .inr (4, [.null, .null]))] U.heap ∧ va_K D cl1 [] U ∧ va_D (fun _ => True) [(h0, .inr (4, [.null, .null]))])) (va_Qv (S := (Nat → Nat) × (Nat → ClassId)) (fun _ => True) (fun u t => va_P D cl1 (cw_X4 h0 a1 a2 u) t.heap ∧ va_K D cl1 (ct_X4 u) t ∧ va_D (va_A [(h0, .inr (4, [.null, .null]))] sz) (cw_X4 h0 a1 a2 u)) (va_A [(h0, .inr (4, [.null, .null]))] sz)) 0 0 (va_A [(h0, .inr (4, [.null, .null]))] sz) := by
  refine Met.ofW (cc := cX4_init) (maxL := 3) (ret := none) (by decide) rfl ?_
  intro p e s m args below meth c s₁ B hml hv
  obtain ⟨rfl, hsz, hP, hK, hD0⟩ := hv
  have hx := B.exec
  have hb := B.bytes
  have hr := B.returns
  have hts0 := atoms_spec (ws := .code yX4_init cX4_init 3 none :: gTs) B.pre
  have hts : ∀ w ∈ gTs, w.before _ s = true := fun w hw => hts0 w (List.mem_cons_of_mem _ hw)
  have hown : s.vm.findClass RX4 = some m.cls := findClass_of_methodNamed B.named
  have hlocks := B.notSynchronized
  have hin : meth.name = "<init>" := (name_of_methodNamed B.named B.method).1
  subst hsz
  have hD := hD0.self (sz := s.heap.size)
  generalize hAe : va_A [(h0, .inr (4, [.null, .null]))] s.heap.size = A at hD ⊢
  have hA : ∀ q : Nat, s.heap.size ≤ q → A q := fun q h => by rw [← hAe]; exact Or.inr h
  have hS : va_S A s.heap s.heap [] := va_S.rf
  have hl := lv_entry ([.ref h0, .ref a1, .ref a2]) (n := 3) (Nat.le_of_ble_eq_true rfl)
  rw [lg_entry_eq]
  generalize (lg_sl ([.ref h0, .ref a1, .ref a2]) ++ List.replicate (3 - (lg_sl ([.ref h0, .ref a1, .ref a2])).length) Slot.unset).toArray = ls at hl ⊢
  have hl : lv_has ls 3 [(0, .ref h0), (1, .ref a1), (2, .ref a2)] := hl
  refine lv_aload_n hx hb dX4_init_0 rfl (lv_at hl 0 rfl) ?_
  refine W.objInit hx hb hown (hts _ iw_284) (hts _ iw_106) (hts _ iw_107) rfl (by rw [hml]; exact hl.1) rfl dX4_init_1 (Nat.le_of_ble_eq_true rfl) (Nat.le_of_ble_eq_true rfl) ?_
  refine W.eq (g2 := F0 m 4 ls []) rfl ?_
  refine lv_aload_n hx hb dX4_init_4 rfl (lv_at hl 0 rfl) ?_
  refine lv_aload_n hx hb dX4_init_5 rfl (lv_at hl 1 rfl) ?_
  refine va_putF (D := D) (ci := 4) (v := .ref a1) (ty := .object "GhostRota$Tape") (C := RX4) (T := TX4) (N := 2) hx hb hts inw_X4 tyX4 tyX4_ok nmX4 hown hK hP hD hS 0 rfl rfl 0 (by decide) (hts _ iw_285) (fun _ h9 => h9) rfl hin rfl (by decide +kernel) rfl rfl (Nat.le_of_ble_eq_true rfl) dX4_init_6 (fun H locs hP hD hS => ?_)
  have hP : va_P D cl1 [(h0, .inr (4, [.ref a1, .null]))] H := hP
  have hD : va_D A [(h0, .inr (4, [.ref a1, .null]))] := hD
  refine lv_aload_n hx hb dX4_init_9 rfl (lv_at hl 0 rfl) ?_
  refine lv_aload_n hx hb dX4_init_10 rfl (lv_at hl 2 rfl) ?_
  refine va_putF (D := D) (ci := 4) (v := .ref a2) (ty := .object "GhostRota$Law") (C := RX4) (T := TX4) (N := 2) hx hb hts inw_X4 tyX4 tyX4_ok nmX4 hown hK hP hD hS 0 rfl rfl 1 (by decide) (hts _ iw_286) (fun _ h9 => h9) rfl hin rfl (by decide +kernel) rfl rfl (Nat.le_of_ble_eq_true rfl) dX4_init_11 (fun H locs hP hD hS => ?_)
  have hP : va_P D cl1 [(h0, .inr (4, [.ref a1, .ref a2]))] H := hP
  have hD : va_D A [(h0, .inr (4, [.ref a1, .ref a2]))] := hD
  have hP9 := hP
  have hD9 := hD
  have hK9 := hK
  exact W.vret hx hb hr (fun t ht hW => ⟨⟨(fun k => [].getD k 0, fun k => [].getD k 0), rfl, trivial, by rw [ht]; exact hP9, va_K.moved hW.alike hK9, hD9⟩, hS.F ht⟩) hS.2.2 dX4_init_14
def cz_X1 (h0 : Nat) : va_W := [(h0, .inr (1, [.null, .null, .null]))]
abbrev cw_X1 (h0 a1 a2 : Nat) (u : (Nat → Nat) × (Nat → ClassId)) : va_W := [(h0, .inr (1, [.ref a1, .ref a2, .ref (u.1 0)])), ((u.1 0), .inl ((u.2 0), 26, .inl fun _ => 0))]
abbrev ct_X1 (u : (Nat → Nat) × (Nat → ClassId)) : List (ClassId × FieldType) := [((u.2 0), .int)]
set_option maxHeartbeats 16000000 in
set_option maxRecDepth 100000 in
theorem ci_X1 (l : Launch) (D : va_G) (h0 a1 a2 sz : Nat) : Met l yX1_init (.code yX1_init cX1_init 3 none :: gTs) ({ frames := 1, cells := 1, slots := 26, locals := 12 }) (va_Pc [.ref h0, .ref a1, .ref a2] (fun U => U.heap.size = sz ∧ va_P D cl1 [(h0, .inr (1, [.null, .null, .null]))] U.heap ∧ va_K D cl1 [] U ∧ va_D (fun _ => True) [(h0, .inr (1, [.null, .null, .null]))])) (va_Qv (S := (Nat → Nat) × (Nat → ClassId)) (fun _ => True) (fun u t => va_P D cl1 (cw_X1 h0 a1 a2 u) t.heap ∧ va_K D cl1 (ct_X1 u) t ∧ va_D (va_A [(h0, .inr (1, [.null, .null, .null]))] sz) (cw_X1 h0 a1 a2 u)) (va_A [(h0, .inr (1, [.null, .null, .null]))] sz)) 1 26 (va_A [(h0, .inr (1, [.null, .null, .null]))] sz) := by
  refine Met.ofW (cc := cX1_init) (maxL := 3) (ret := none) (by decide) rfl ?_
  intro p e s m args below meth c s₁ B hml hv
  obtain ⟨rfl, hsz, hP, hK, hD0⟩ := hv
  have hx := B.exec
  have hb := B.bytes
  have hr := B.returns
  have hts0 := atoms_spec (ws := .code yX1_init cX1_init 3 none :: gTs) B.pre
  have hts : ∀ w ∈ gTs, w.before _ s = true := fun w hw => hts0 w (List.mem_cons_of_mem _ hw)
  have hown : s.vm.findClass RX1 = some m.cls := findClass_of_methodNamed B.named
  have hlocks := B.notSynchronized
  have hin : meth.name = "<init>" := (name_of_methodNamed B.named B.method).1
  subst hsz
  have hD := hD0.self (sz := s.heap.size)
  generalize hAe : va_A [(h0, .inr (1, [.null, .null, .null]))] s.heap.size = A at hD ⊢
  have hA : ∀ q : Nat, s.heap.size ≤ q → A q := fun q h => by rw [← hAe]; exact Or.inr h
  have hS : va_S A s.heap s.heap [] := va_S.rf
  have hl := lv_entry ([.ref h0, .ref a1, .ref a2]) (n := 3) (Nat.le_of_ble_eq_true rfl)
  rw [lg_entry_eq]
  generalize (lg_sl ([.ref h0, .ref a1, .ref a2]) ++ List.replicate (3 - (lg_sl ([.ref h0, .ref a1, .ref a2])).length) Slot.unset).toArray = ls at hl ⊢
  have hl : lv_has ls 3 [(0, .ref h0), (1, .ref a1), (2, .ref a2)] := hl
  refine lv_aload_n hx hb dX1_init_0 rfl (lv_at hl 0 rfl) ?_
  refine W.objInit hx hb hown (hts _ iw_297) (hts _ iw_106) (hts _ iw_107) rfl (by rw [hml]; exact hl.1) rfl dX1_init_1 (Nat.le_of_ble_eq_true rfl) (Nat.le_of_ble_eq_true rfl) ?_
  refine W.eq (g2 := F0 m 4 ls []) rfl ?_
  refine lv_aload_n hx hb dX1_init_4 rfl (lv_at hl 0 rfl) ?_
  refine lv_bipush (v := 26) hx hb dX1_init_5 (by decide) ?_
  refine va_newa (atype := .int) (ty := .int) (a0 := (26, .inl fun _ => 0)) (N' := 26) hx hb (hts _ iw_181) rfl hK hP hD hS hA (fun _ => rfl) (by decide) (by decide) (Nat.le_of_ble_eq_true rfl) (Nat.le_of_ble_eq_true rfl) (Nat.le_of_ble_eq_true rfl) dX1_init_7 (fun q0 k0 H hK hP hD hS => ?_)
  have hK : va_K D cl1 [(k0, .int)] s := hK
  have hP : va_P D cl1 [(h0, .inr (1, [.null, .null, .null])), (q0, .inl (k0, 26, .inl fun _ => 0))] H := hP
  have hD : va_D A [(h0, .inr (1, [.null, .null, .null])), (q0, .inl (k0, 26, .inl fun _ => 0))] := hD
  refine W.widen (k := 1) (n := 26) (Nat.le_of_ble_eq_true rfl) (Nat.le_of_ble_eq_true rfl) ?_
  refine va_putF (D := D) (ci := 1) (v := .ref q0) (ty := .array .int) (C := RX1) (T := TX1) (N := 3) hx hb hts inw_X1 tyX1 tyX1_ok nmX1 hown hK hP hD hS 0 rfl rfl 2 (by decide) (hts _ iw_300) (fun _ h9 => h9) rfl hin rfl (by decide +kernel) rfl rfl (Nat.le_of_ble_eq_true rfl) dX1_init_9 (fun H locs hP hD hS => ?_)
  have hP : va_P D cl1 [(h0, .inr (1, [.null, .null, .ref q0])), (q0, .inl (k0, 26, .inl fun _ => 0))] H := hP
  have hD : va_D A [(h0, .inr (1, [.null, .null, .ref q0])), (q0, .inl (k0, 26, .inl fun _ => 0))] := hD
  refine lv_aload_n hx hb dX1_init_12 rfl (lv_at hl 0 rfl) ?_
  refine lv_aload_n hx hb dX1_init_13 rfl (lv_at hl 1 rfl) ?_
  refine va_putF (D := D) (ci := 1) (v := .ref a1) (ty := .object "GhostRota$House") (C := RX1) (T := TX1) (N := 3) hx hb hts inw_X1 tyX1 tyX1_ok nmX1 hown hK hP hD hS 0 rfl rfl 0 (by decide) (hts _ iw_298) (fun _ h9 => h9) rfl hin rfl (by decide +kernel) rfl rfl (Nat.le_of_ble_eq_true rfl) dX1_init_14 (fun H locs hP hD hS => ?_)
  have hP : va_P D cl1 [(h0, .inr (1, [.ref a1, .null, .ref q0])), (q0, .inl (k0, 26, .inl fun _ => 0))] H := hP
  have hD : va_D A [(h0, .inr (1, [.ref a1, .null, .ref q0])), (q0, .inl (k0, 26, .inl fun _ => 0))] := hD
  refine lv_aload_n hx hb dX1_init_17 rfl (lv_at hl 0 rfl) ?_
  refine lv_aload_n hx hb dX1_init_18 rfl (lv_at hl 2 rfl) ?_
  refine va_putF (D := D) (ci := 1) (v := .ref a2) (ty := .object "GhostRota$Law") (C := RX1) (T := TX1) (N := 3) hx hb hts inw_X1 tyX1 tyX1_ok nmX1 hown hK hP hD hS 0 rfl rfl 1 (by decide) (hts _ iw_299) (fun _ h9 => h9) rfl hin rfl (by decide +kernel) rfl rfl (Nat.le_of_ble_eq_true rfl) dX1_init_19 (fun H locs hP hD hS => ?_)
  have hP : va_P D cl1 [(h0, .inr (1, [.ref a1, .ref a2, .ref q0])), (q0, .inl (k0, 26, .inl fun _ => 0))] H := hP
  have hD : va_D A [(h0, .inr (1, [.ref a1, .ref a2, .ref q0])), (q0, .inl (k0, 26, .inl fun _ => 0))] := hD
  have hP9 := hP
  have hD9 := hD
  have hK9 := hK
  exact W.vret hx hb hr (fun t ht hW => ⟨⟨(fun k => [q0].getD k 0, fun k => [k0].getD k 0), rfl, trivial, by rw [ht]; exact hP9, va_K.moved hW.alike hK9, hD9⟩, hS.F ht⟩) hS.2.2 dX1_init_22
def cz_X8 (h0 : Nat) : va_W := [(h0, .inr (8, [.null, .null, .null, .null, .int 0, .int 0]))]
abbrev cw_X8 (h0 a1 a2 a3 : Nat) (u : (Nat → Nat) × (Nat → ClassId)) : va_W := [(h0, .inr (8, [.ref a1, .ref a2, .ref a3, .ref (u.1 0), .int 0, .int 0])), ((u.1 0), .inl ((u.2 0), 47, .inl fun _ => 0))]
abbrev ct_X8 (u : (Nat → Nat) × (Nat → ClassId)) : List (ClassId × FieldType) := [((u.2 0), .int)]
set_option maxHeartbeats 16000000 in
set_option maxRecDepth 100000 in
theorem ci_X8 (l : Launch) (D : va_G) (h0 a1 a2 a3 sz : Nat) : Met l yX8_init (.code yX8_init cX8_init 4 none :: gTs) ({ frames := 1, cells := 1, slots := 47, locals := 12 }) (va_Pc [.ref h0, .ref a1, .ref a2, .ref a3] (fun U => U.heap.size = sz ∧ va_P D cl1 [(h0, .inr (8, [.null, .null, .null, .null, .int 0, .int 0]))] U.heap ∧ va_K D cl1 [] U ∧ va_D (fun _ => True) [(h0, .inr (8, [.null, .null, .null, .null, .int 0, .int 0]))])) (va_Qv (S := (Nat → Nat) × (Nat → ClassId)) (fun _ => True) (fun u t => va_P D cl1 (cw_X8 h0 a1 a2 a3 u) t.heap ∧ va_K D cl1 (ct_X8 u) t ∧ va_D (va_A [(h0, .inr (8, [.null, .null, .null, .null, .int 0, .int 0]))] sz) (cw_X8 h0 a1 a2 a3 u)) (va_A [(h0, .inr (8, [.null, .null, .null, .null, .int 0, .int 0]))] sz)) 1 47 (va_A [(h0, .inr (8, [.null, .null, .null, .null, .int 0, .int 0]))] sz) := by
  refine Met.ofW (cc := cX8_init) (maxL := 4) (ret := none) (by decide) rfl ?_
  intro p e s m args below meth c s₁ B hml hv
  obtain ⟨rfl, hsz, hP, hK, hD0⟩ := hv
  have hx := B.exec
  have hb := B.bytes
  have hr := B.returns
  have hts0 := atoms_spec (ws := .code yX8_init cX8_init 4 none :: gTs) B.pre
  have hts : ∀ w ∈ gTs, w.before _ s = true := fun w hw => hts0 w (List.mem_cons_of_mem _ hw)
  have hown : s.vm.findClass RX8 = some m.cls := findClass_of_methodNamed B.named
  have hlocks := B.notSynchronized
  have hin : meth.name = "<init>" := (name_of_methodNamed B.named B.method).1
  subst hsz
  have hD := hD0.self (sz := s.heap.size)
  generalize hAe : va_A [(h0, .inr (8, [.null, .null, .null, .null, .int 0, .int 0]))] s.heap.size = A at hD ⊢
  have hA : ∀ q : Nat, s.heap.size ≤ q → A q := fun q h => by rw [← hAe]; exact Or.inr h
  have hS : va_S A s.heap s.heap [] := va_S.rf
  have hl := lv_entry ([.ref h0, .ref a1, .ref a2, .ref a3]) (n := 4) (Nat.le_of_ble_eq_true rfl)
  rw [lg_entry_eq]
  generalize (lg_sl ([.ref h0, .ref a1, .ref a2, .ref a3]) ++ List.replicate (4 - (lg_sl ([.ref h0, .ref a1, .ref a2, .ref a3])).length) Slot.unset).toArray = ls at hl ⊢
  have hl : lv_has ls 4 [(0, .ref h0), (1, .ref a1), (2, .ref a2), (3, .ref a3)] := hl
  refine lv_aload_n hx hb dX8_init_0 rfl (lv_at hl 0 rfl) ?_
  refine W.objInit hx hb hown (hts _ iw_313) (hts _ iw_106) (hts _ iw_107) rfl (by rw [hml]; exact hl.1) rfl dX8_init_1 (Nat.le_of_ble_eq_true rfl) (Nat.le_of_ble_eq_true rfl) ?_
  refine W.eq (g2 := F0 m 4 ls []) rfl ?_
  refine lv_aload_n hx hb dX8_init_4 rfl (lv_at hl 0 rfl) ?_
  refine lv_bipush (v := 47) hx hb dX8_init_5 (by decide) ?_
  refine va_newa (atype := .int) (ty := .int) (a0 := (47, .inl fun _ => 0)) (N' := 47) hx hb (hts _ iw_181) rfl hK hP hD hS hA (fun _ => rfl) (by decide) (by decide) (Nat.le_of_ble_eq_true rfl) (Nat.le_of_ble_eq_true rfl) (Nat.le_of_ble_eq_true rfl) dX8_init_7 (fun q0 k0 H hK hP hD hS => ?_)
  have hK : va_K D cl1 [(k0, .int)] s := hK
  have hP : va_P D cl1 [(h0, .inr (8, [.null, .null, .null, .null, .int 0, .int 0])), (q0, .inl (k0, 47, .inl fun _ => 0))] H := hP
  have hD : va_D A [(h0, .inr (8, [.null, .null, .null, .null, .int 0, .int 0])), (q0, .inl (k0, 47, .inl fun _ => 0))] := hD
  refine W.widen (k := 1) (n := 47) (Nat.le_of_ble_eq_true rfl) (Nat.le_of_ble_eq_true rfl) ?_
  refine va_putF (D := D) (ci := 8) (v := .ref q0) (ty := .array .int) (C := RX8) (T := TX8) (N := 6) hx hb hts inw_X8 tyX8 tyX8_ok nmX8 hown hK hP hD hS 0 rfl rfl 3 (by decide) (hts _ iw_317) (fun _ h9 => h9) rfl hin rfl (by decide +kernel) rfl rfl (Nat.le_of_ble_eq_true rfl) dX8_init_9 (fun H locs hP hD hS => ?_)
  have hP : va_P D cl1 [(h0, .inr (8, [.null, .null, .null, .ref q0, .int 0, .int 0])), (q0, .inl (k0, 47, .inl fun _ => 0))] H := hP
  have hD : va_D A [(h0, .inr (8, [.null, .null, .null, .ref q0, .int 0, .int 0])), (q0, .inl (k0, 47, .inl fun _ => 0))] := hD
  refine lv_aload_n hx hb dX8_init_12 rfl (lv_at hl 0 rfl) ?_
  refine lv_aload_n hx hb dX8_init_13 rfl (lv_at hl 1 rfl) ?_
  refine va_putF (D := D) (ci := 8) (v := .ref a1) (ty := .object "GhostRota$House") (C := RX8) (T := TX8) (N := 6) hx hb hts inw_X8 tyX8 tyX8_ok nmX8 hown hK hP hD hS 0 rfl rfl 0 (by decide) (hts _ iw_314) (fun _ h9 => h9) rfl hin rfl (by decide +kernel) rfl rfl (Nat.le_of_ble_eq_true rfl) dX8_init_14 (fun H locs hP hD hS => ?_)
  have hP : va_P D cl1 [(h0, .inr (8, [.ref a1, .null, .null, .ref q0, .int 0, .int 0])), (q0, .inl (k0, 47, .inl fun _ => 0))] H := hP
  have hD : va_D A [(h0, .inr (8, [.ref a1, .null, .null, .ref q0, .int 0, .int 0])), (q0, .inl (k0, 47, .inl fun _ => 0))] := hD
  refine lv_aload_n hx hb dX8_init_17 rfl (lv_at hl 0 rfl) ?_
  refine lv_aload_n hx hb dX8_init_18 rfl (lv_at hl 2 rfl) ?_
  refine va_putF (D := D) (ci := 8) (v := .ref a2) (ty := .object "GhostRota$Walks") (C := RX8) (T := TX8) (N := 6) hx hb hts inw_X8 tyX8 tyX8_ok nmX8 hown hK hP hD hS 0 rfl rfl 1 (by decide) (hts _ iw_315) (fun _ h9 => h9) rfl hin rfl (by decide +kernel) rfl rfl (Nat.le_of_ble_eq_true rfl) dX8_init_19 (fun H locs hP hD hS => ?_)
  have hP : va_P D cl1 [(h0, .inr (8, [.ref a1, .ref a2, .null, .ref q0, .int 0, .int 0])), (q0, .inl (k0, 47, .inl fun _ => 0))] H := hP
  have hD : va_D A [(h0, .inr (8, [.ref a1, .ref a2, .null, .ref q0, .int 0, .int 0])), (q0, .inl (k0, 47, .inl fun _ => 0))] := hD
  refine lv_aload_n hx hb dX8_init_22 rfl (lv_at hl 0 rfl) ?_
  refine lv_aload_n hx hb dX8_init_23 rfl (lv_at hl 3 rfl) ?_
  refine va_putF (D := D) (ci := 8) (v := .ref a3) (ty := .object "GhostRota$Dread") (C := RX8) (T := TX8) (N := 6) hx hb hts inw_X8 tyX8 tyX8_ok nmX8 hown hK hP hD hS 0 rfl rfl 2 (by decide) (hts _ iw_316) (fun _ h9 => h9) rfl hin rfl (by decide +kernel) rfl rfl (Nat.le_of_ble_eq_true rfl) dX8_init_24 (fun H locs hP hD hS => ?_)
  have hP : va_P D cl1 [(h0, .inr (8, [.ref a1, .ref a2, .ref a3, .ref q0, .int 0, .int 0])), (q0, .inl (k0, 47, .inl fun _ => 0))] H := hP
  have hD : va_D A [(h0, .inr (8, [.ref a1, .ref a2, .ref a3, .ref q0, .int 0, .int 0])), (q0, .inl (k0, 47, .inl fun _ => 0))] := hD
  have hP9 := hP
  have hD9 := hD
  have hK9 := hK
  exact W.vret hx hb hr (fun t ht hW => ⟨⟨(fun k => [q0].getD k 0, fun k => [k0].getD k 0), rfl, trivial, by rw [ht]; exact hP9, va_K.moved hW.alike hK9, hD9⟩, hS.F ht⟩) hS.2.2 dX8_init_27
def cz_X0 (h0 : Nat) : va_W := [(h0, .inr (0, [.null, .null, .null, .null, .null, .int 0, .int 0]))]
abbrev cw_X0 (h0 a1 a2 : Nat) (u : (Nat → Nat) × (Nat → ClassId)) : va_W := [(h0, .inr (0, [.ref a1, .ref a2, .ref (u.1 0), .ref (u.1 1), .ref (u.1 2), .int 0, .int 0])), ((u.1 0), .inl ((u.2 0), 1024, .inr (.inl fun _ => 0))), ((u.1 1), .inl ((u.2 1), 840, .inl fun _ => 0)), ((u.1 2), .inl ((u.2 2), 1024, .inl fun _ => 0))]
abbrev ct_X0 (u : (Nat → Nat) × (Nat → ClassId)) : List (ClassId × FieldType) := [((u.2 0), .long), ((u.2 1), .int), ((u.2 2), .int)]
set_option maxHeartbeats 16000000 in
set_option maxRecDepth 100000 in
theorem ci_X0 (l : Launch) (D : va_G) (h0 a1 a2 sz : Nat) : Met l yX0_init (.code yX0_init cX0_init 3 none :: gTs) ({ frames := 1, cells := 3, slots := 2888, locals := 12 }) (va_Pc [.ref h0, .ref a1, .ref a2] (fun U => U.heap.size = sz ∧ va_P D cl1 [(h0, .inr (0, [.null, .null, .null, .null, .null, .int 0, .int 0]))] U.heap ∧ va_K D cl1 [] U ∧ va_D (fun _ => True) [(h0, .inr (0, [.null, .null, .null, .null, .null, .int 0, .int 0]))])) (va_Qv (S := (Nat → Nat) × (Nat → ClassId)) (fun _ => True) (fun u t => va_P D cl1 (cw_X0 h0 a1 a2 u) t.heap ∧ va_K D cl1 (ct_X0 u) t ∧ va_D (va_A [(h0, .inr (0, [.null, .null, .null, .null, .null, .int 0, .int 0]))] sz) (cw_X0 h0 a1 a2 u)) (va_A [(h0, .inr (0, [.null, .null, .null, .null, .null, .int 0, .int 0]))] sz)) 3 2888 (va_A [(h0, .inr (0, [.null, .null, .null, .null, .null, .int 0, .int 0]))] sz) := by
  refine Met.ofW (cc := cX0_init) (maxL := 3) (ret := none) (by decide) rfl ?_
  intro p e s m args below meth c s₁ B hml hv
  obtain ⟨rfl, hsz, hP, hK, hD0⟩ := hv
  have hx := B.exec
  have hb := B.bytes
  have hr := B.returns
  have hts0 := atoms_spec (ws := .code yX0_init cX0_init 3 none :: gTs) B.pre
  have hts : ∀ w ∈ gTs, w.before _ s = true := fun w hw => hts0 w (List.mem_cons_of_mem _ hw)
  have hown : s.vm.findClass RX0 = some m.cls := findClass_of_methodNamed B.named
  have hlocks := B.notSynchronized
  have hin : meth.name = "<init>" := (name_of_methodNamed B.named B.method).1
  subst hsz
  have hD := hD0.self (sz := s.heap.size)
  generalize hAe : va_A [(h0, .inr (0, [.null, .null, .null, .null, .null, .int 0, .int 0]))] s.heap.size = A at hD ⊢
  have hA : ∀ q : Nat, s.heap.size ≤ q → A q := fun q h => by rw [← hAe]; exact Or.inr h
  have hS : va_S A s.heap s.heap [] := va_S.rf
  have hl := lv_entry ([.ref h0, .ref a1, .ref a2]) (n := 3) (Nat.le_of_ble_eq_true rfl)
  rw [lg_entry_eq]
  generalize (lg_sl ([.ref h0, .ref a1, .ref a2]) ++ List.replicate (3 - (lg_sl ([.ref h0, .ref a1, .ref a2])).length) Slot.unset).toArray = ls at hl ⊢
  have hl : lv_has ls 3 [(0, .ref h0), (1, .ref a1), (2, .ref a2)] := hl
  refine lv_aload_n hx hb dX0_init_0 rfl (lv_at hl 0 rfl) ?_
  refine W.objInit hx hb hown (hts _ iw_340) (hts _ iw_106) (hts _ iw_107) rfl (by rw [hml]; exact hl.1) rfl dX0_init_1 (Nat.le_of_ble_eq_true rfl) (Nat.le_of_ble_eq_true rfl) ?_
  refine W.eq (g2 := F0 m 4 ls []) rfl ?_
  refine lv_aload_n hx hb dX0_init_4 rfl (lv_at hl 0 rfl) ?_
  refine lv_sipush (v := 1024) hx hb dX0_init_5 (by decide) ?_
  refine va_newa (atype := .long) (ty := .long) (a0 := (1024, .inr (.inl fun _ => 0))) (N' := 1024) hx hb (hts _ iw_363) rfl hK hP hD hS hA (fun _ => rfl) (by decide) (by decide) (Nat.le_of_ble_eq_true rfl) (Nat.le_of_ble_eq_true rfl) (Nat.le_of_ble_eq_true rfl) dX0_init_8 (fun q0 k0 H hK hP hD hS => ?_)
  have hK : va_K D cl1 [(k0, .long)] s := hK
  have hP : va_P D cl1 [(h0, .inr (0, [.null, .null, .null, .null, .null, .int 0, .int 0])), (q0, .inl (k0, 1024, .inr (.inl fun _ => 0)))] H := hP
  have hD : va_D A [(h0, .inr (0, [.null, .null, .null, .null, .null, .int 0, .int 0])), (q0, .inl (k0, 1024, .inr (.inl fun _ => 0)))] := hD
  refine W.widen (k := 1) (n := 1024) (Nat.le_of_ble_eq_true rfl) (Nat.le_of_ble_eq_true rfl) ?_
  refine va_putF (D := D) (ci := 0) (v := .ref q0) (ty := .array .long) (C := RX0) (T := TX0) (N := 7) hx hb hts inw_X0 tyX0 tyX0_ok nmX0 hown hK hP hD hS 0 rfl rfl 2 (by decide) (hts _ iw_343) (fun _ h9 => h9) rfl hin rfl (by decide +kernel) rfl rfl (Nat.le_of_ble_eq_true rfl) dX0_init_10 (fun H locs hP hD hS => ?_)
  have hP : va_P D cl1 [(h0, .inr (0, [.null, .null, .ref q0, .null, .null, .int 0, .int 0])), (q0, .inl (k0, 1024, .inr (.inl fun _ => 0)))] H := hP
  have hD : va_D A [(h0, .inr (0, [.null, .null, .ref q0, .null, .null, .int 0, .int 0])), (q0, .inl (k0, 1024, .inr (.inl fun _ => 0)))] := hD
  refine lv_aload_n hx hb dX0_init_13 rfl (lv_at hl 0 rfl) ?_
  refine lv_sipush (v := 840) hx hb dX0_init_14 (by decide) ?_
  refine va_newa (atype := .int) (ty := .int) (a0 := (840, .inl fun _ => 0)) (N' := 840) hx hb (hts _ iw_181) rfl hK hP hD hS hA (fun _ => rfl) (by decide) (by decide) (Nat.le_of_ble_eq_true rfl) (Nat.le_of_ble_eq_true rfl) (Nat.le_of_ble_eq_true rfl) dX0_init_17 (fun q1 k1 H hK hP hD hS => ?_)
  have hK : va_K D cl1 [(k0, .long), (k1, .int)] s := hK
  have hP : va_P D cl1 [(h0, .inr (0, [.null, .null, .ref q0, .null, .null, .int 0, .int 0])), (q0, .inl (k0, 1024, .inr (.inl fun _ => 0))), (q1, .inl (k1, 840, .inl fun _ => 0))] H := hP
  have hD : va_D A [(h0, .inr (0, [.null, .null, .ref q0, .null, .null, .int 0, .int 0])), (q0, .inl (k0, 1024, .inr (.inl fun _ => 0))), (q1, .inl (k1, 840, .inl fun _ => 0))] := hD
  refine W.widen (k := 2) (n := 1864) (Nat.le_of_ble_eq_true rfl) (Nat.le_of_ble_eq_true rfl) ?_
  refine va_putF (D := D) (ci := 0) (v := .ref q1) (ty := .array .int) (C := RX0) (T := TX0) (N := 7) hx hb hts inw_X0 tyX0 tyX0_ok nmX0 hown hK hP hD hS 0 rfl rfl 3 (by decide) (hts _ iw_344) (fun _ h9 => h9) rfl hin rfl (by decide +kernel) rfl rfl (Nat.le_of_ble_eq_true rfl) dX0_init_19 (fun H locs hP hD hS => ?_)
  have hP : va_P D cl1 [(h0, .inr (0, [.null, .null, .ref q0, .ref q1, .null, .int 0, .int 0])), (q0, .inl (k0, 1024, .inr (.inl fun _ => 0))), (q1, .inl (k1, 840, .inl fun _ => 0))] H := hP
  have hD : va_D A [(h0, .inr (0, [.null, .null, .ref q0, .ref q1, .null, .int 0, .int 0])), (q0, .inl (k0, 1024, .inr (.inl fun _ => 0))), (q1, .inl (k1, 840, .inl fun _ => 0))] := hD
  refine lv_aload_n hx hb dX0_init_22 rfl (lv_at hl 0 rfl) ?_
  refine lv_sipush (v := 1024) hx hb dX0_init_23 (by decide) ?_
  refine va_newa (atype := .int) (ty := .int) (a0 := (1024, .inl fun _ => 0)) (N' := 1024) hx hb (hts _ iw_181) rfl hK hP hD hS hA (fun _ => rfl) (by decide) (by decide) (Nat.le_of_ble_eq_true rfl) (Nat.le_of_ble_eq_true rfl) (Nat.le_of_ble_eq_true rfl) dX0_init_26 (fun q2 k2 H hK hP hD hS => ?_)
  have hK : va_K D cl1 [(k0, .long), (k1, .int), (k2, .int)] s := hK
  have hP : va_P D cl1 [(h0, .inr (0, [.null, .null, .ref q0, .ref q1, .null, .int 0, .int 0])), (q0, .inl (k0, 1024, .inr (.inl fun _ => 0))), (q1, .inl (k1, 840, .inl fun _ => 0)), (q2, .inl (k2, 1024, .inl fun _ => 0))] H := hP
  have hD : va_D A [(h0, .inr (0, [.null, .null, .ref q0, .ref q1, .null, .int 0, .int 0])), (q0, .inl (k0, 1024, .inr (.inl fun _ => 0))), (q1, .inl (k1, 840, .inl fun _ => 0)), (q2, .inl (k2, 1024, .inl fun _ => 0))] := hD
  refine W.widen (k := 3) (n := 2888) (Nat.le_of_ble_eq_true rfl) (Nat.le_of_ble_eq_true rfl) ?_
  refine va_putF (D := D) (ci := 0) (v := .ref q2) (ty := .array .int) (C := RX0) (T := TX0) (N := 7) hx hb hts inw_X0 tyX0 tyX0_ok nmX0 hown hK hP hD hS 0 rfl rfl 4 (by decide) (hts _ iw_345) (fun _ h9 => h9) rfl hin rfl (by decide +kernel) rfl rfl (Nat.le_of_ble_eq_true rfl) dX0_init_28 (fun H locs hP hD hS => ?_)
  have hP : va_P D cl1 [(h0, .inr (0, [.null, .null, .ref q0, .ref q1, .ref q2, .int 0, .int 0])), (q0, .inl (k0, 1024, .inr (.inl fun _ => 0))), (q1, .inl (k1, 840, .inl fun _ => 0)), (q2, .inl (k2, 1024, .inl fun _ => 0))] H := hP
  have hD : va_D A [(h0, .inr (0, [.null, .null, .ref q0, .ref q1, .ref q2, .int 0, .int 0])), (q0, .inl (k0, 1024, .inr (.inl fun _ => 0))), (q1, .inl (k1, 840, .inl fun _ => 0)), (q2, .inl (k2, 1024, .inl fun _ => 0))] := hD
  refine lv_aload_n hx hb dX0_init_31 rfl (lv_at hl 0 rfl) ?_
  refine lv_aload_n hx hb dX0_init_32 rfl (lv_at hl 1 rfl) ?_
  refine va_putF (D := D) (ci := 0) (v := .ref a1) (ty := .object "GhostRota$House") (C := RX0) (T := TX0) (N := 7) hx hb hts inw_X0 tyX0 tyX0_ok nmX0 hown hK hP hD hS 0 rfl rfl 0 (by decide) (hts _ iw_341) (fun _ h9 => h9) rfl hin rfl (by decide +kernel) rfl rfl (Nat.le_of_ble_eq_true rfl) dX0_init_33 (fun H locs hP hD hS => ?_)
  have hP : va_P D cl1 [(h0, .inr (0, [.ref a1, .null, .ref q0, .ref q1, .ref q2, .int 0, .int 0])), (q0, .inl (k0, 1024, .inr (.inl fun _ => 0))), (q1, .inl (k1, 840, .inl fun _ => 0)), (q2, .inl (k2, 1024, .inl fun _ => 0))] H := hP
  have hD : va_D A [(h0, .inr (0, [.ref a1, .null, .ref q0, .ref q1, .ref q2, .int 0, .int 0])), (q0, .inl (k0, 1024, .inr (.inl fun _ => 0))), (q1, .inl (k1, 840, .inl fun _ => 0)), (q2, .inl (k2, 1024, .inl fun _ => 0))] := hD
  refine lv_aload_n hx hb dX0_init_36 rfl (lv_at hl 0 rfl) ?_
  refine lv_aload_n hx hb dX0_init_37 rfl (lv_at hl 2 rfl) ?_
  refine va_putF (D := D) (ci := 0) (v := .ref a2) (ty := .object "GhostRota$Dread") (C := RX0) (T := TX0) (N := 7) hx hb hts inw_X0 tyX0 tyX0_ok nmX0 hown hK hP hD hS 0 rfl rfl 1 (by decide) (hts _ iw_342) (fun _ h9 => h9) rfl hin rfl (by decide +kernel) rfl rfl (Nat.le_of_ble_eq_true rfl) dX0_init_38 (fun H locs hP hD hS => ?_)
  have hP : va_P D cl1 [(h0, .inr (0, [.ref a1, .ref a2, .ref q0, .ref q1, .ref q2, .int 0, .int 0])), (q0, .inl (k0, 1024, .inr (.inl fun _ => 0))), (q1, .inl (k1, 840, .inl fun _ => 0)), (q2, .inl (k2, 1024, .inl fun _ => 0))] H := hP
  have hD : va_D A [(h0, .inr (0, [.ref a1, .ref a2, .ref q0, .ref q1, .ref q2, .int 0, .int 0])), (q0, .inl (k0, 1024, .inr (.inl fun _ => 0))), (q1, .inl (k1, 840, .inl fun _ => 0)), (q2, .inl (k2, 1024, .inl fun _ => 0))] := hD
  have hP9 := hP
  have hD9 := hD
  have hK9 := hK
  exact W.vret hx hb hr (fun t ht hW => ⟨⟨(fun k => [q0, q1, q2].getD k 0, fun k => [k0, k1, k2].getD k 0), rfl, trivial, by rw [ht]; exact hP9, va_K.moved hW.alike hK9, hD9⟩, hS.F ht⟩) hS.2.2 dX0_init_41
def cz_X5 (h0 : Nat) : va_W := [(h0, .inr (5, [.null, .null, .int 0]))]
abbrev cw_X5 (h0 : Nat) (u : (Nat → Nat) × (Nat → ClassId)) : va_W := [(h0, .inr (5, [.ref (u.1 0), .ref (u.1 1), .int 0])), ((u.1 0), .inl ((u.2 0), 96, .inl fun _ => 0)), ((u.1 1), .inl ((u.2 1), 4096, .inl fun _ => 0))]
abbrev ct_X5 (u : (Nat → Nat) × (Nat → ClassId)) : List (ClassId × FieldType) := [((u.2 0), .int), ((u.2 1), .int)]
set_option maxHeartbeats 16000000 in
set_option maxRecDepth 100000 in
theorem ci_X5 (l : Launch) (D : va_G) (h0 sz : Nat) : Met l yX5_init (.code yX5_init cX5_init 1 none :: gTs) ({ frames := 1, cells := 2, slots := 4192, locals := 12 }) (va_Pc [.ref h0] (fun U => U.heap.size = sz ∧ va_P D cl1 [(h0, .inr (5, [.null, .null, .int 0]))] U.heap ∧ va_K D cl1 [] U ∧ va_D (fun _ => True) [(h0, .inr (5, [.null, .null, .int 0]))])) (va_Qv (S := (Nat → Nat) × (Nat → ClassId)) (fun _ => True) (fun u t => va_P D cl1 (cw_X5 h0 u) t.heap ∧ va_K D cl1 (ct_X5 u) t ∧ va_D (va_A [(h0, .inr (5, [.null, .null, .int 0]))] sz) (cw_X5 h0 u)) (va_A [(h0, .inr (5, [.null, .null, .int 0]))] sz)) 2 4192 (va_A [(h0, .inr (5, [.null, .null, .int 0]))] sz) := by
  refine Met.ofW (cc := cX5_init) (maxL := 1) (ret := none) (by decide) rfl ?_
  intro p e s m args below meth c s₁ B hml hv
  obtain ⟨rfl, hsz, hP, hK, hD0⟩ := hv
  have hx := B.exec
  have hb := B.bytes
  have hr := B.returns
  have hts0 := atoms_spec (ws := .code yX5_init cX5_init 1 none :: gTs) B.pre
  have hts : ∀ w ∈ gTs, w.before _ s = true := fun w hw => hts0 w (List.mem_cons_of_mem _ hw)
  have hown : s.vm.findClass RX5 = some m.cls := findClass_of_methodNamed B.named
  have hlocks := B.notSynchronized
  have hin : meth.name = "<init>" := (name_of_methodNamed B.named B.method).1
  subst hsz
  have hD := hD0.self (sz := s.heap.size)
  generalize hAe : va_A [(h0, .inr (5, [.null, .null, .int 0]))] s.heap.size = A at hD ⊢
  have hA : ∀ q : Nat, s.heap.size ≤ q → A q := fun q h => by rw [← hAe]; exact Or.inr h
  have hS : va_S A s.heap s.heap [] := va_S.rf
  have hl := lv_entry ([.ref h0]) (n := 1) (Nat.le_of_ble_eq_true rfl)
  rw [lg_entry_eq]
  generalize (lg_sl ([.ref h0]) ++ List.replicate (1 - (lg_sl ([.ref h0])).length) Slot.unset).toArray = ls at hl ⊢
  have hl : lv_has ls 1 [(0, .ref h0)] := hl
  refine lv_aload_n hx hb dX5_init_0 rfl (lv_at hl 0 rfl) ?_
  refine W.objInit hx hb hown (hts _ iw_369) (hts _ iw_106) (hts _ iw_107) rfl (by rw [hml]; exact hl.1) rfl dX5_init_1 (Nat.le_of_ble_eq_true rfl) (Nat.le_of_ble_eq_true rfl) ?_
  refine W.eq (g2 := F0 m 4 ls []) rfl ?_
  refine lv_aload_n hx hb dX5_init_4 rfl (lv_at hl 0 rfl) ?_
  refine lv_bipush (v := 96) hx hb dX5_init_5 (by decide) ?_
  refine va_newa (atype := .int) (ty := .int) (a0 := (96, .inl fun _ => 0)) (N' := 96) hx hb (hts _ iw_181) rfl hK hP hD hS hA (fun _ => rfl) (by decide) (by decide) (Nat.le_of_ble_eq_true rfl) (Nat.le_of_ble_eq_true rfl) (Nat.le_of_ble_eq_true rfl) dX5_init_7 (fun q0 k0 H hK hP hD hS => ?_)
  have hK : va_K D cl1 [(k0, .int)] s := hK
  have hP : va_P D cl1 [(h0, .inr (5, [.null, .null, .int 0])), (q0, .inl (k0, 96, .inl fun _ => 0))] H := hP
  have hD : va_D A [(h0, .inr (5, [.null, .null, .int 0])), (q0, .inl (k0, 96, .inl fun _ => 0))] := hD
  refine W.widen (k := 1) (n := 96) (Nat.le_of_ble_eq_true rfl) (Nat.le_of_ble_eq_true rfl) ?_
  refine va_putF (D := D) (ci := 5) (v := .ref q0) (ty := .array .int) (C := RX5) (T := TX5) (N := 3) hx hb hts inw_X5 tyX5 tyX5_ok nmX5 hown hK hP hD hS 0 rfl rfl 0 (by decide) (hts _ iw_370) (fun _ h9 => h9) rfl hin rfl (by decide +kernel) rfl rfl (Nat.le_of_ble_eq_true rfl) dX5_init_9 (fun H locs hP hD hS => ?_)
  have hP : va_P D cl1 [(h0, .inr (5, [.ref q0, .null, .int 0])), (q0, .inl (k0, 96, .inl fun _ => 0))] H := hP
  have hD : va_D A [(h0, .inr (5, [.ref q0, .null, .int 0])), (q0, .inl (k0, 96, .inl fun _ => 0))] := hD
  refine lv_aload_n hx hb dX5_init_12 rfl (lv_at hl 0 rfl) ?_
  refine lv_sipush (v := 4096) hx hb dX5_init_13 (by decide) ?_
  refine va_newa (atype := .int) (ty := .int) (a0 := (4096, .inl fun _ => 0)) (N' := 4096) hx hb (hts _ iw_181) rfl hK hP hD hS hA (fun _ => rfl) (by decide) (by decide) (Nat.le_of_ble_eq_true rfl) (Nat.le_of_ble_eq_true rfl) (Nat.le_of_ble_eq_true rfl) dX5_init_16 (fun q1 k1 H hK hP hD hS => ?_)
  have hK : va_K D cl1 [(k0, .int), (k1, .int)] s := hK
  have hP : va_P D cl1 [(h0, .inr (5, [.ref q0, .null, .int 0])), (q0, .inl (k0, 96, .inl fun _ => 0)), (q1, .inl (k1, 4096, .inl fun _ => 0))] H := hP
  have hD : va_D A [(h0, .inr (5, [.ref q0, .null, .int 0])), (q0, .inl (k0, 96, .inl fun _ => 0)), (q1, .inl (k1, 4096, .inl fun _ => 0))] := hD
  refine W.widen (k := 2) (n := 4192) (Nat.le_of_ble_eq_true rfl) (Nat.le_of_ble_eq_true rfl) ?_
  refine va_putF (D := D) (ci := 5) (v := .ref q1) (ty := .array .int) (C := RX5) (T := TX5) (N := 3) hx hb hts inw_X5 tyX5 tyX5_ok nmX5 hown hK hP hD hS 0 rfl rfl 1 (by decide) (hts _ iw_372) (fun _ h9 => h9) rfl hin rfl (by decide +kernel) rfl rfl (Nat.le_of_ble_eq_true rfl) dX5_init_18 (fun H locs hP hD hS => ?_)
  have hP : va_P D cl1 [(h0, .inr (5, [.ref q0, .ref q1, .int 0])), (q0, .inl (k0, 96, .inl fun _ => 0)), (q1, .inl (k1, 4096, .inl fun _ => 0))] H := hP
  have hD : va_D A [(h0, .inr (5, [.ref q0, .ref q1, .int 0])), (q0, .inl (k0, 96, .inl fun _ => 0)), (q1, .inl (k1, 4096, .inl fun _ => 0))] := hD
  have hP9 := hP
  have hD9 := hD
  have hK9 := hK
  exact W.vret hx hb hr (fun t ht hW => ⟨⟨(fun k => [q0, q1].getD k 0, fun k => [k0, k1].getD k 0), rfl, trivial, by rw [ht]; exact hP9, va_K.moved hW.alike hK9, hD9⟩, hS.F ht⟩) hS.2.2 dX5_init_21
