set_option maxRecDepth 20000 in
theorem kX9_shared (N : Nat) (a1 : Int32) (a2 : Int32) (w : gT) : gM S1 cl1 gTs yX9_shared cX9_shared 7 (some .int) rmX9_shared gi [.ref 0, .int a1, .int a2] w (xX9_shared N a1 a2 w) := by
  refine gM_of (own := RX9) [(0, .ref 0), (1, .int a1), (2, .int a2)] rfl (by decide) (fun _ => rfl) (fun _ => Nat.le_of_ble_eq_true rfl) (fun κ ok => ?_)
  unfold xX9_shared
  refine g_iload_n (q := 1) ok dX9_shared_0 rfl 1 rfl rfl ?_
  refine g_callSi (q := 4) (As := [.int a1]) (st := []) ok tbl_good dX9_shared_1 rfl (kX9_isNight _ _) cf_X9_103 ⟨rfl, rfl, Nat.le_of_ble_eq_true rfl, Nat.le_of_ble_eq_true rfl⟩ rfl rfl (fun _ => Nat.le_of_ble_eq_true rfl) (fun v1 w2 => ?_)
  refine g_if_eq (q := 7) (g := 16) ok dX9_shared_4 rfl (by decide) ?_ ?_
  · refine g_iconst (v := (-1)) (q := 17) ok dX9_shared_16 rfl (by decide) ?_
    exact g_iret ok dX9_shared_17
  · refine g_join (P := fun k3 => ∀ (w4 : gT), gJ S1 cl1 rmX9_shared 7 gi κ 18 [(0, .ref 0), (1, .int a1), (2, .int a2)] [] w4 (k3 w4)) (fun w4 => ?_) (fun k3 hk3 => ?_)
    · refine g_aload_n (q := 19) ok dX9_shared_18 rfl 0 rfl rfl ?_
      refine g_iload_n (q := 20) ok dX9_shared_19 rfl 1 rfl rfl ?_
      refine g_callVi (q := 23) (As := [.int a1]) (st := []) ok tbl_good dX9_shared_20 rfl (kX9_weighChains N _ _) cf_X9_246 ⟨rfl, rfl, Nat.le_of_ble_eq_true rfl, Nat.le_of_ble_eq_true rfl⟩ sX_0 rfl rfl rfl (fun _ => Nat.le_of_ble_eq_true rfl) (fun v5 w6 => ?_)
      refine g_istore_n (q := 24) (L' := [(3, .int v5), (0, .ref 0), (1, .int a1), (2, .int a2)]) ok dX9_shared_23 rfl rfl (by decide) rfl rfl ?_
      refine g_iconst (v := (nI 0)) (q := 25) ok dX9_shared_24 rfl (by decide) ?_
      refine g_istore (q := 27) (L' := [(4, .int (nI 0)), (3, .int v5), (0, .ref 0), (1, .int a1), (2, .int a2)]) ok dX9_shared_25 rfl (by decide) rfl rfl ?_
      refine g_iconst (v := (nI 0)) (q := 28) ok dX9_shared_27 rfl (by decide) ?_
      refine g_istore (q := 30) (L' := [(5, .int (nI 0)), (4, .int (nI 0)), (3, .int v5), (0, .ref 0), (1, .int a1), (2, .int a2)]) ok dX9_shared_28 rfl (by decide) rfl rfl ?_
      refine g_join (P := fun k7 => ∀ (v8 : Int32) (v9 : Int32) (w10 : gT), gJ S1 cl1 rmX9_shared 7 gi κ 94 [(0, .ref 0), (2, .int a2), (3, .int v8), (4, .int v9)] [] w10 (k7 v8 v9 w10)) (fun v8 v9 w10 => ?_) (fun k7 hk7 => ?_)
      · refine g_iload_n (q := 95) ok dX9_shared_94 rfl 1 rfl rfl ?_
        refine g_if_ne (q := 98) (g := 103) ok dX9_shared_95 rfl (by decide) ?_ ?_
        · refine g_iload_n (q := 104) ok dX9_shared_103 rfl 2 rfl rfl ?_
          exact g_iret ok dX9_shared_104
        · refine g_iload (q := 100) ok dX9_shared_98 rfl 3 rfl ?_
          refine g_goto (q := 104) ok dX9_shared_100 (by decide) ?_
          exact g_iret ok dX9_shared_104
      · refine g_to (L' := [(0, .ref 0), (2, .int a2), (3, .int v5), (4, .int (nI 0)), (5, .int (nI 0))]) ?_ [3, 5, 2, 1, 0] rfl
        refine g_loop3 (Lf := fun v12 v13 v14 => [(0, .ref 0), (2, .int a2), (3, .int v12), (4, .int v13), (5, .int v14)]) (fun go11 hgo11 v12 v13 v14 w15 => ?_) N _ _ _ _
        unfold xX9_shared_b30
        refine g_iload (q := 32) ok dX9_shared_30 rfl 4 rfl ?_
        refine g_aload_n (q := 33) ok dX9_shared_32 rfl 0 rfl rfl ?_
        refine g_getR (q := 36) ok dX9_shared_33 rfl fl_X9_12 sX_0 rfl ?_
        refine g_getI (q := 39) (N := 0) ok dX9_shared_36 rfl fl_X9_110 sX_1 rfl ?_
        refine g_icmp_ge (q := 42) (g := 94) ok dX9_shared_39 rfl (by decide) ?_ ?_
        · refine g_to (L' := [(0, .ref 0), (2, .int a2), (3, .int v12), (4, .int v13)]) ?_ [0, 1, 2, 3] rfl
          exact hk7 _ _ _
        · refine g_aload_n (q := 43) ok dX9_shared_42 rfl 0 rfl rfl ?_
          refine g_callVi (q := 46) (As := []) (st := []) ok tbl_good dX9_shared_43 rfl (kX9_dearest N _) cf_X9_249 ⟨rfl, rfl, Nat.le_of_ble_eq_true rfl, Nat.le_of_ble_eq_true rfl⟩ sX_0 rfl rfl rfl (fun _ => Nat.le_of_ble_eq_true rfl) (fun v16 w17 => ?_)
          refine g_istore (q := 48) (L' := [(6, .int v16), (0, .ref 0), (2, .int a2), (3, .int v12), (4, .int v13), (5, .int v14)]) ok dX9_shared_46 rfl (by decide) rfl rfl ?_
          refine g_aload_n (q := 49) ok dX9_shared_48 rfl 1 rfl rfl ?_
          refine g_getR (q := 52) ok dX9_shared_49 rfl fl_X9_89 sX_0 rfl ?_
          refine g_iload (q := 54) ok dX9_shared_52 rfl 0 rfl ?_
          refine g_iald (q := 55) ok dX9_shared_54 rfl sX_59 ?_
          refine g_if_gt (q := 58) (g := 61) ok dX9_shared_55 rfl (by decide) ?_ ?_
          · refine g_iload (q := 63) ok dX9_shared_61 rfl 4 rfl ?_
            refine g_iconst (v := (nI 1)) (q := 64) ok dX9_shared_63 rfl (by decide) ?_
            refine g_iload (q := 66) ok dX9_shared_64 rfl 0 rfl ?_
            refine g_ishl (q := 67) ok dX9_shared_66 rfl ?_
            refine g_ior (q := 68) ok dX9_shared_67 rfl ?_
            refine g_leti (fun v18 => ?_)
            refine g_istore (q := 70) (L' := [(4, .int v18), (6, .int v16), (0, .ref 0), (2, .int a2), (3, .int v12), (5, .int v14)]) ok dX9_shared_68 rfl (by decide) rfl rfl ?_
            refine g_iload_n (q := 71) ok dX9_shared_70 rfl 4 rfl rfl ?_
            refine g_aload_n (q := 72) ok dX9_shared_71 rfl 2 rfl rfl ?_
            refine g_getR (q := 75) ok dX9_shared_72 rfl fl_X9_89 sX_0 rfl ?_
            refine g_iload (q := 77) ok dX9_shared_75 rfl 1 rfl ?_
            refine g_iald (q := 78) ok dX9_shared_77 rfl sX_59 ?_
            refine g_iadd (q := 79) ok dX9_shared_78 rfl ?_
            refine g_leti (fun v19 => ?_)
            refine g_istore_n (q := 80) (L' := [(3, .int v19), (4, .int v18), (6, .int v16), (0, .ref 0), (2, .int a2), (5, .int v14)]) ok dX9_shared_79 rfl rfl (by decide) rfl rfl ?_
            refine g_aload_n (q := 81) ok dX9_shared_80 rfl 3 rfl rfl ?_
            refine g_getR (q := 84) ok dX9_shared_81 rfl fl_X9_89 sX_0 rfl ?_
            refine g_iload (q := 86) ok dX9_shared_84 rfl 2 rfl ?_
            refine g_iconst (v := (nI 0)) (q := 87) ok dX9_shared_86 rfl (by decide) ?_
            refine g_iast (q := 88) ok dX9_shared_87 rfl sX_59 ?_
            refine g_letw (fun w20 => ?_)
            refine g_iinc (v := v14 + (nI 1)) (q := 91) (L' := [(5, .int (v14 + (nI 1))), (3, .int v19), (4, .int v18), (6, .int v16), (0, .ref 0), (2, .int a2)]) ok dX9_shared_88 rfl 5 rfl rfl (by decide) rfl rfl ?_
            refine g_goto (q := 30) ok dX9_shared_91 (by decide) ?_
            refine g_to (L' := [(0, .ref 0), (2, .int a2), (3, .int v19), (4, .int v18), (5, .int (v14 + (nI 1)))]) ?_ [4, 5, 1, 2, 0] rfl
            exact hgo11 _ _ _ _
          · refine g_goto (q := 94) ok dX9_shared_58 (by decide) ?_
            refine g_to (L' := [(0, .ref 0), (2, .int a2), (3, .int v12), (4, .int v13)]) ?_ [1, 2, 3, 4] rfl
            exact hk7 _ _ _
    · refine g_iload_n (q := 8) ok dX9_shared_7 rfl 2 rfl rfl ?_
      refine g_if_eq (q := 11) (g := 18) ok dX9_shared_8 rfl (by decide) ?_ ?_
      · exact hk3 _
      · refine g_iload_n (q := 12) ok dX9_shared_11 rfl 2 rfl rfl ?_
        refine g_iconst (v := (nI 1)) (q := 13) ok dX9_shared_12 rfl (by decide) ?_
        refine g_icmp_eq (q := 16) (g := 18) ok dX9_shared_13 rfl (by decide) ?_ ?_
        · exact hk3 _
        · refine g_iconst (v := (-1)) (q := 17) ok dX9_shared_16 rfl (by decide) ?_
          exact g_iret ok dX9_shared_17
set_option maxRecDepth 20000 in
theorem kJ6_bitCount_0f7a4 (a0 : Int32) (w : gT) : gM S1 cl1 gTs yJ6_bitCount_0f7a4 cJ6_bitCount_0f7a4 1 (some .int) rmJ6_bitCount_0f7a4 gi [.int a0] w (xJ6_bitCount_0f7a4 a0 w) := by
  refine gM_of (own := RJ6) [(0, .int a0)] rfl (by decide) (fun _ => rfl) (fun _ => Nat.le_of_ble_eq_true rfl) (fun κ ok => ?_)
  unfold xJ6_bitCount_0f7a4
  refine g_iload_n (q := 1) ok dJ6_bitCount_0f7a4_0 rfl 0 rfl rfl ?_
  refine g_iload_n (q := 2) ok dJ6_bitCount_0f7a4_1 rfl 0 rfl rfl ?_
  refine g_iconst (v := (nI 1)) (q := 3) ok dJ6_bitCount_0f7a4_2 rfl (by decide) ?_
  refine g_iushr (q := 4) ok dJ6_bitCount_0f7a4_3 rfl ?_
  refine g_ldcw (q := 7) ok dJ6_bitCount_0f7a4_4 rfl tw_943 ?_
  refine g_iand (q := 8) ok dJ6_bitCount_0f7a4_7 rfl ?_
  refine g_isub (q := 9) ok dJ6_bitCount_0f7a4_8 rfl ?_
  refine g_leti (fun v1 => ?_)
  refine g_istore_n (q := 10) (L' := [(0, .int v1)]) ok dJ6_bitCount_0f7a4_9 rfl rfl (by decide) rfl rfl ?_
  refine g_iload_n (q := 11) ok dJ6_bitCount_0f7a4_10 rfl 0 rfl rfl ?_
  refine g_ldcw (q := 14) ok dJ6_bitCount_0f7a4_11 rfl tw_944 ?_
  refine g_iand (q := 15) ok dJ6_bitCount_0f7a4_14 rfl ?_
  refine g_iload_n (q := 16) ok dJ6_bitCount_0f7a4_15 rfl 0 rfl rfl ?_
  refine g_iconst (v := (nI 2)) (q := 17) ok dJ6_bitCount_0f7a4_16 rfl (by decide) ?_
  refine g_iushr (q := 18) ok dJ6_bitCount_0f7a4_17 rfl ?_
  refine g_ldcw (q := 21) ok dJ6_bitCount_0f7a4_18 rfl tw_944 ?_
  refine g_iand (q := 22) ok dJ6_bitCount_0f7a4_21 rfl ?_
  refine g_iadd (q := 23) ok dJ6_bitCount_0f7a4_22 rfl ?_
  refine g_leti (fun v2 => ?_)
  refine g_istore_n (q := 24) (L' := [(0, .int v2)]) ok dJ6_bitCount_0f7a4_23 rfl rfl (by decide) rfl rfl ?_
  refine g_iload_n (q := 25) ok dJ6_bitCount_0f7a4_24 rfl 0 rfl rfl ?_
  refine g_iload_n (q := 26) ok dJ6_bitCount_0f7a4_25 rfl 0 rfl rfl ?_
  refine g_iconst (v := (nI 4)) (q := 27) ok dJ6_bitCount_0f7a4_26 rfl (by decide) ?_
  refine g_iushr (q := 28) ok dJ6_bitCount_0f7a4_27 rfl ?_
  refine g_iadd (q := 29) ok dJ6_bitCount_0f7a4_28 rfl ?_
  refine g_ldcw (q := 32) ok dJ6_bitCount_0f7a4_29 rfl tw_945 ?_
  refine g_iand (q := 33) ok dJ6_bitCount_0f7a4_32 rfl ?_
  refine g_leti (fun v3 => ?_)
  refine g_istore_n (q := 34) (L' := [(0, .int v3)]) ok dJ6_bitCount_0f7a4_33 rfl rfl (by decide) rfl rfl ?_
  refine g_iload_n (q := 35) ok dJ6_bitCount_0f7a4_34 rfl 0 rfl rfl ?_
  refine g_iload_n (q := 36) ok dJ6_bitCount_0f7a4_35 rfl 0 rfl rfl ?_
  refine g_bipush (v := (nI 8)) (q := 38) ok dJ6_bitCount_0f7a4_36 rfl (by decide) ?_
  refine g_iushr (q := 39) ok dJ6_bitCount_0f7a4_38 rfl ?_
  refine g_iadd (q := 40) ok dJ6_bitCount_0f7a4_39 rfl ?_
  refine g_leti (fun v4 => ?_)
  refine g_istore_n (q := 41) (L' := [(0, .int v4)]) ok dJ6_bitCount_0f7a4_40 rfl rfl (by decide) rfl rfl ?_
  refine g_iload_n (q := 42) ok dJ6_bitCount_0f7a4_41 rfl 0 rfl rfl ?_
  refine g_iload_n (q := 43) ok dJ6_bitCount_0f7a4_42 rfl 0 rfl rfl ?_
  refine g_bipush (v := (nI 16)) (q := 45) ok dJ6_bitCount_0f7a4_43 rfl (by decide) ?_
  refine g_iushr (q := 46) ok dJ6_bitCount_0f7a4_45 rfl ?_
  refine g_iadd (q := 47) ok dJ6_bitCount_0f7a4_46 rfl ?_
  refine g_leti (fun v5 => ?_)
  refine g_istore_n (q := 48) (L' := [(0, .int v5)]) ok dJ6_bitCount_0f7a4_47 rfl rfl (by decide) rfl rfl ?_
  refine g_iload_n (q := 49) ok dJ6_bitCount_0f7a4_48 rfl 0 rfl rfl ?_
  refine g_bipush (v := (nI 63)) (q := 51) ok dJ6_bitCount_0f7a4_49 rfl (by decide) ?_
  refine g_iand (q := 52) ok dJ6_bitCount_0f7a4_51 rfl ?_
  exact g_iret ok dJ6_bitCount_0f7a4_52
set_option maxRecDepth 20000 in
theorem kX5_bestRoom (N : Nat) (a1 : Int32) (a2 : Int32) (w : gT) : gM S1 cl1 gTs yX5_bestRoom cX5_bestRoom 7 (some .int) rmX5_bestRoom gi [.ref 56, .int a1, .int a2] w (xX5_bestRoom N a1 a2 w) := by
  refine gM_of (own := RX5) [(0, .ref 56), (1, .int a1), (2, .int a2)] rfl (by decide) (fun _ => rfl) (fun _ => Nat.le_of_ble_eq_true rfl) (fun κ ok => ?_)
  unfold xX5_bestRoom
  refine g_iconst (v := (nI 0)) (q := 1) ok dX5_bestRoom_0 rfl (by decide) ?_
  refine g_istore_n (q := 2) (L' := [(3, .int (nI 0)), (0, .ref 56), (1, .int a1), (2, .int a2)]) ok dX5_bestRoom_1 rfl rfl (by decide) rfl rfl ?_
  refine g_iconst (v := (-1)) (q := 3) ok dX5_bestRoom_2 rfl (by decide) ?_
  refine g_istore (q := 5) (L' := [(4, .int (-1)), (3, .int (nI 0)), (0, .ref 56), (1, .int a1), (2, .int a2)]) ok dX5_bestRoom_3 rfl (by decide) rfl rfl ?_
  refine g_iconst (v := (nI 0)) (q := 6) ok dX5_bestRoom_5 rfl (by decide) ?_
  refine g_istore (q := 8) (L' := [(5, .int (nI 0)), (4, .int (-1)), (3, .int (nI 0)), (0, .ref 56), (1, .int a1), (2, .int a2)]) ok dX5_bestRoom_6 rfl (by decide) rfl rfl ?_
  refine g_to (L' := [(0, .ref 56), (1, .int a1), (2, .int a2), (3, .int (nI 0)), (4, .int (-1)), (5, .int (nI 0))]) ?_ [3, 4, 5, 2, 1, 0] rfl
  refine g_loop3 (Lf := fun v2 v3 v4 => [(0, .ref 56), (1, .int a1), (2, .int a2), (3, .int v2), (4, .int v3), (5, .int v4)]) (fun go1 hgo1 v2 v3 v4 w5 => ?_) N _ _ _ _
  unfold xX5_bestRoom_b8
  refine g_iload (q := 10) ok dX5_bestRoom_8 rfl 5 rfl ?_
  refine g_bipush (v := (nI 12)) (q := 12) ok dX5_bestRoom_10 rfl (by decide) ?_
  refine g_icmp_ge (q := 15) (g := 70) ok dX5_bestRoom_12 rfl (by decide) ?_ ?_
  · refine g_iload_n (q := 71) ok dX5_bestRoom_70 rfl 3 rfl rfl ?_
    exact g_iret ok dX5_bestRoom_71
  · refine g_join (P := fun k6 => ∀ (v7 : Int32) (v8 : Int32) (w9 : gT), gJ S1 cl1 rmX5_bestRoom 7 gi κ 64 [(0, .ref 56), (1, .int a1), (2, .int a2), (5, .int v4), (3, .int v7), (4, .int v8)] [] w9 (k6 v7 v8 w9)) (fun v7 v8 w9 => ?_) (fun k6 hk6 => ?_)
    · refine g_iinc (v := v4 + (nI 1)) (q := 67) (L' := [(5, .int (v4 + (nI 1))), (0, .ref 56), (1, .int a1), (2, .int a2), (3, .int v7), (4, .int v8)]) ok dX5_bestRoom_64 rfl 3 rfl rfl (by decide) rfl rfl ?_
      refine g_goto (q := 8) ok dX5_bestRoom_67 (by decide) ?_
      refine g_to (L' := [(0, .ref 56), (1, .int a1), (2, .int a2), (3, .int v7), (4, .int v8), (5, .int (v4 + (nI 1)))]) ?_ [1, 2, 3, 4, 5, 0] rfl
      exact hgo1 _ _ _ _
    · refine g_iload_n (q := 16) ok dX5_bestRoom_15 rfl 2 rfl rfl ?_
      refine g_iload (q := 18) ok dX5_bestRoom_16 rfl 5 rfl ?_
      refine g_ishr (q := 19) ok dX5_bestRoom_18 rfl ?_
      refine g_iconst (v := (nI 1)) (q := 20) ok dX5_bestRoom_19 rfl (by decide) ?_
      refine g_iand (q := 21) ok dX5_bestRoom_20 rfl ?_
      refine g_if_ne (q := 24) (g := 64) ok dX5_bestRoom_21 rfl (by decide) ?_ ?_
      · refine g_to (L' := [(0, .ref 56), (1, .int a1), (2, .int a2), (5, .int v4), (3, .int v2), (4, .int v3)]) ?_ [0, 1, 2, 5, 3, 4] rfl
        exact hk6 _ _ _
      · refine g_aload_n (q := 25) ok dX5_bestRoom_24 rfl 0 rfl rfl ?_
        refine g_getR (q := 28) ok dX5_bestRoom_25 rfl fl_X5_9 sX_56 rfl ?_
        refine g_iload_n (q := 29) ok dX5_bestRoom_28 rfl 1 rfl rfl ?_
        refine g_bipush (v := (nI 12)) (q := 31) ok dX5_bestRoom_29 rfl (by decide) ?_
        refine g_imul (q := 32) ok dX5_bestRoom_31 rfl ?_
        refine g_iload (q := 34) ok dX5_bestRoom_32 rfl 5 rfl ?_
        refine g_iadd (q := 35) ok dX5_bestRoom_34 rfl ?_
        refine g_iald (q := 36) ok dX5_bestRoom_35 rfl sX_57 ?_
        refine g_aload_n (q := 37) ok dX5_bestRoom_36 rfl 0 rfl rfl ?_
        refine g_getR (q := 40) ok dX5_bestRoom_37 rfl fl_X5_15 sX_56 rfl ?_
        refine g_iload_n (q := 41) ok dX5_bestRoom_40 rfl 2 rfl rfl ?_
        refine g_iconst (v := (nI 1)) (q := 42) ok dX5_bestRoom_41 rfl (by decide) ?_
        refine g_iload (q := 44) ok dX5_bestRoom_42 rfl 5 rfl ?_
        refine g_ishl (q := 45) ok dX5_bestRoom_44 rfl ?_
        refine g_ior (q := 46) ok dX5_bestRoom_45 rfl ?_
        refine g_iald (q := 47) ok dX5_bestRoom_46 rfl sX_58 ?_
        refine g_iadd (q := 48) ok dX5_bestRoom_47 rfl ?_
        refine g_leti (fun v10 => ?_)
        refine g_istore (q := 50) (L' := [(6, .int v10), (0, .ref 56), (1, .int a1), (2, .int a2), (3, .int v2), (4, .int v3), (5, .int v4)]) ok dX5_bestRoom_48 rfl (by decide) rfl rfl ?_
        refine g_iload (q := 52) ok dX5_bestRoom_50 rfl 0 rfl ?_
        refine g_iload (q := 54) ok dX5_bestRoom_52 rfl 5 rfl ?_
        refine g_icmp_le (q := 57) (g := 64) ok dX5_bestRoom_54 rfl (by decide) ?_ ?_
        · refine g_to (L' := [(0, .ref 56), (1, .int a1), (2, .int a2), (5, .int v4), (3, .int v2), (4, .int v3)]) ?_ [1, 2, 3, 6, 4, 5] rfl
          exact hk6 _ _ _
        · refine g_iload (q := 59) ok dX5_bestRoom_57 rfl 0 rfl ?_
          refine g_istore (q := 61) (L' := [(4, .int v10), (6, .int v10), (0, .ref 56), (1, .int a1), (2, .int a2), (3, .int v2), (5, .int v4)]) ok dX5_bestRoom_59 rfl (by decide) rfl rfl ?_
          refine g_iload (q := 63) ok dX5_bestRoom_61 rfl 6 rfl ?_
          refine g_istore_n (q := 64) (L' := [(3, .int v4), (4, .int v10), (6, .int v10), (0, .ref 56), (1, .int a1), (2, .int a2), (5, .int v4)]) ok dX5_bestRoom_63 rfl rfl (by decide) rfl rfl ?_
          refine g_to (L' := [(0, .ref 56), (1, .int a1), (2, .int a2), (5, .int v4), (3, .int v4), (4, .int v10)]) ?_ [3, 4, 5, 6, 0, 1] rfl
          exact hk6 _ _ _
set_option maxRecDepth 20000 in
theorem kX5_fill (N : Nat) (a1 : Int32) (w : gT) : gM S1 cl1 gTs yX5_fill cX5_fill 5 none rmX5_fill gv [.ref 56, .int a1] w (xX5_fill N a1 w) := by
  refine gM_of (own := RX5) [(0, .ref 56), (1, .int a1)] rfl (by decide) (fun _ => rfl) (fun _ => Nat.le_of_ble_eq_true rfl) (fun κ ok => ?_)
  unfold xX5_fill
  refine g_aload_n (q := 1) ok dX5_fill_0 rfl 0 rfl rfl ?_
  refine g_iload_n (q := 2) ok dX5_fill_1 rfl 1 rfl rfl ?_
  refine g_put (q := 5) ok dX5_fill_2 rfl fp_X5_18 sX_56 rfl rfl rfl ?_
  refine g_letw (fun w1 => ?_)
  refine g_sipush (v := (nI 4095)) (q := 8) ok dX5_fill_5 rfl (by decide) ?_
  refine g_istore_n (q := 9) (L' := [(2, .int (nI 4095)), (0, .ref 56), (1, .int a1)]) ok dX5_fill_8 rfl rfl (by decide) rfl rfl ?_
  refine g_to (L' := [(0, .ref 56), (2, .int (nI 4095))]) ?_ [1, 0] rfl
  refine g_loop1 (Lf := fun v3 => [(0, .ref 56), (2, .int v3)]) (fun go2 hgo2 v3 w4 => ?_) N _ _
  unfold xX5_fill_b9
  refine g_iload_n (q := 10) ok dX5_fill_9 rfl 1 rfl rfl ?_
  refine g_if_lt (q := 13) (g := 77) ok dX5_fill_10 rfl (by decide) ?_ ?_
  · exact g_vret ok dX5_fill_77
  · refine g_join (P := fun k5 => ∀ (w6 : gT), gJ S1 cl1 rmX5_fill 5 gv κ 71 [(0, .ref 56), (2, .int v3)] [] w6 (k5 w6)) (fun w6 => ?_) (fun k5 hk5 => ?_)
    · refine g_iinc (v := v3 + (-1)) (q := 74) (L' := [(2, .int (v3 + (-1))), (0, .ref 56)]) ok dX5_fill_71 rfl 1 rfl rfl (by decide) rfl rfl ?_
      refine g_goto (q := 9) ok dX5_fill_74 (by decide) ?_
      refine g_to (L' := [(0, .ref 56), (2, .int (v3 + (-1)))]) ?_ [1, 0] rfl
      exact hgo2 _ _
    · refine g_iload_n (q := 14) ok dX5_fill_13 rfl 1 rfl rfl ?_
      refine g_callSi (q := 17) (As := [.int v3]) (st := []) ok tbl_good dX5_fill_14 rfl (kJ6_bitCount_0f7a4 _ _) cf_X5_22 ⟨rfl, rfl, Nat.le_of_ble_eq_true rfl, Nat.le_of_ble_eq_true rfl⟩ rfl rfl (fun _ => Nat.le_of_ble_eq_true rfl) (fun v7 w8 => ?_)
      refine g_istore_n (q := 18) (L' := [(3, .int v7), (0, .ref 56), (2, .int v3)]) ok dX5_fill_17 rfl rfl (by decide) rfl rfl ?_
      refine g_aload_n (q := 19) ok dX5_fill_18 rfl 1 rfl rfl ?_
      refine g_getR (q := 22) ok dX5_fill_19 rfl fl_X5_15 sX_56 rfl ?_
      refine g_iload_n (q := 23) ok dX5_fill_22 rfl 2 rfl rfl ?_
      refine g_iconst (v := (nI 0)) (q := 24) ok dX5_fill_23 rfl (by decide) ?_
      refine g_iast (q := 25) ok dX5_fill_24 rfl sX_58 ?_
      refine g_letw (fun w9 => ?_)
      refine g_iload_n (q := 26) ok dX5_fill_25 rfl 0 rfl rfl ?_
      refine g_aload_n (q := 27) ok dX5_fill_26 rfl 1 rfl rfl ?_
      refine g_getI (q := 30) (N := 0) ok dX5_fill_27 rfl fl_X5_18 sX_56 rfl ?_
      refine g_icmp_ge (q := 33) (g := 71) ok dX5_fill_30 rfl (by decide) ?_ ?_
      · refine g_to (L' := [(0, .ref 56), (2, .int v3)]) ?_ [1, 2] rfl
        exact hk5 _
      · refine g_aload_n (q := 34) ok dX5_fill_33 rfl 1 rfl rfl ?_
        refine g_iload_n (q := 35) ok dX5_fill_34 rfl 0 rfl rfl ?_
        refine g_iload_n (q := 36) ok dX5_fill_35 rfl 2 rfl rfl ?_
        refine g_callVi (q := 39) (As := [.int v7, .int v3]) (st := []) ok tbl_good dX5_fill_36 rfl (kX5_bestRoom N _ _ _) cf_X5_28 ⟨rfl, rfl, Nat.le_of_ble_eq_true rfl, Nat.le_of_ble_eq_true rfl⟩ sX_56 rfl rfl rfl (fun _ => Nat.le_of_ble_eq_true rfl) (fun v10 w11 => ?_)
        refine g_istore (q := 41) (L' := [(4, .int v10), (3, .int v7), (0, .ref 56), (2, .int v3)]) ok dX5_fill_39 rfl (by decide) rfl rfl ?_
        refine g_aload_n (q := 42) ok dX5_fill_41 rfl 2 rfl rfl ?_
        refine g_getR (q := 45) ok dX5_fill_42 rfl fl_X5_15 sX_56 rfl ?_
        refine g_iload_n (q := 46) ok dX5_fill_45 rfl 3 rfl rfl ?_
        refine g_aload_n (q := 47) ok dX5_fill_46 rfl 2 rfl rfl ?_
        refine g_getR (q := 50) ok dX5_fill_47 rfl fl_X5_9 sX_56 rfl ?_
        refine g_iload_n (q := 51) ok dX5_fill_50 rfl 1 rfl rfl ?_
        refine g_bipush (v := (nI 12)) (q := 53) ok dX5_fill_51 rfl (by decide) ?_
        refine g_imul (q := 54) ok dX5_fill_53 rfl ?_
        refine g_iload (q := 56) ok dX5_fill_54 rfl 0 rfl ?_
        refine g_iadd (q := 57) ok dX5_fill_56 rfl ?_
        refine g_iald (q := 58) ok dX5_fill_57 rfl sX_57 ?_
        refine g_aload_n (q := 59) ok dX5_fill_58 rfl 2 rfl rfl ?_
        refine g_getR (q := 62) ok dX5_fill_59 rfl fl_X5_15 sX_56 rfl ?_
        refine g_iload_n (q := 63) ok dX5_fill_62 rfl 3 rfl rfl ?_
        refine g_iconst (v := (nI 1)) (q := 64) ok dX5_fill_63 rfl (by decide) ?_
        refine g_iload (q := 66) ok dX5_fill_64 rfl 0 rfl ?_
        refine g_ishl (q := 67) ok dX5_fill_66 rfl ?_
        refine g_ior (q := 68) ok dX5_fill_67 rfl ?_
        refine g_iald (q := 69) ok dX5_fill_68 rfl sX_58 ?_
        refine g_iadd (q := 70) ok dX5_fill_69 rfl ?_
        refine g_iast (q := 71) ok dX5_fill_70 rfl sX_58 ?_
        refine g_letw (fun w12 => ?_)
        refine g_to (L' := [(0, .ref 56), (2, .int v3)]) ?_ [2, 3] rfl
        exact hk5 _
set_option maxRecDepth 20000 in
theorem kX5_roomOf (N : Nat) (a1 : Int32) (w : gT) : gM S1 cl1 gTs yX5_roomOf cX5_roomOf 4 (some .int) rmX5_roomOf gi [.ref 56, .int a1] w (xX5_roomOf N a1 w) := by
  refine gM_of (own := RX5) [(0, .ref 56), (1, .int a1)] rfl (by decide) (fun _ => rfl) (fun _ => Nat.le_of_ble_eq_true rfl) (fun κ ok => ?_)
  unfold xX5_roomOf
  refine g_iconst (v := (nI 0)) (q := 1) ok dX5_roomOf_0 rfl (by decide) ?_
  refine g_istore_n (q := 2) (L' := [(2, .int (nI 0)), (0, .ref 56), (1, .int a1)]) ok dX5_roomOf_1 rfl rfl (by decide) rfl rfl ?_
  refine g_iconst (v := (nI 0)) (q := 3) ok dX5_roomOf_2 rfl (by decide) ?_
  refine g_istore_n (q := 4) (L' := [(3, .int (nI 0)), (2, .int (nI 0)), (0, .ref 56), (1, .int a1)]) ok dX5_roomOf_3 rfl rfl (by decide) rfl rfl ?_
  refine g_join (P := fun k1 => ∀ (v2 : Int32) (w3 : gT), gJ S1 cl1 rmX5_roomOf 4 gi κ 26 [(0, .ref 56), (1, .int a1), (2, .int v2)] [] w3 (k1 v2 w3)) (fun v2 w3 => ?_) (fun k1 hk1 => ?_)
  · refine g_aload_n (q := 27) ok dX5_roomOf_26 rfl 0 rfl rfl ?_
    refine g_iload_n (q := 28) ok dX5_roomOf_27 rfl 1 rfl rfl ?_
    refine g_iload_n (q := 29) ok dX5_roomOf_28 rfl 2 rfl rfl ?_
    refine g_callVi (q := 32) (As := [.int a1, .int v2]) (st := []) ok tbl_good dX5_roomOf_29 rfl (kX5_bestRoom N _ _ _) cf_X5_28 ⟨rfl, rfl, Nat.le_of_ble_eq_true rfl, Nat.le_of_ble_eq_true rfl⟩ sX_56 rfl rfl rfl (fun _ => Nat.le_of_ble_eq_true rfl) (fun v4 w5 => ?_)
    exact g_iret ok dX5_roomOf_32
  · refine g_to (L' := [(0, .ref 56), (1, .int a1), (2, .int (nI 0)), (3, .int (nI 0))]) ?_ [2, 3, 1, 0] rfl
    refine g_loop2 (Lf := fun v7 v8 => [(0, .ref 56), (1, .int a1), (2, .int v7), (3, .int v8)]) (fun go6 hgo6 v7 v8 w9 => ?_) N _ _ _
    unfold xX5_roomOf_b4
    refine g_iload_n (q := 5) ok dX5_roomOf_4 rfl 3 rfl rfl ?_
    refine g_iload_n (q := 6) ok dX5_roomOf_5 rfl 1 rfl rfl ?_
    refine g_icmp_ge (q := 9) (g := 26) ok dX5_roomOf_6 rfl (by decide) ?_ ?_
    · refine g_to (L' := [(0, .ref 56), (1, .int a1), (2, .int v7)]) ?_ [0, 1, 2] rfl
      exact hk1 _ _
    · refine g_iload_n (q := 10) ok dX5_roomOf_9 rfl 2 rfl rfl ?_
      refine g_iconst (v := (nI 1)) (q := 11) ok dX5_roomOf_10 rfl (by decide) ?_
      refine g_aload_n (q := 12) ok dX5_roomOf_11 rfl 0 rfl rfl ?_
      refine g_iload_n (q := 13) ok dX5_roomOf_12 rfl 3 rfl rfl ?_
      refine g_iload_n (q := 14) ok dX5_roomOf_13 rfl 2 rfl rfl ?_
      refine g_callVi (q := 17) (As := [.int v8, .int v7]) (st := [.int (nI 1), .int v7]) ok tbl_good dX5_roomOf_14 rfl (kX5_bestRoom N _ _ _) cf_X5_28 ⟨rfl, rfl, Nat.le_of_ble_eq_true rfl, Nat.le_of_ble_eq_true rfl⟩ sX_56 rfl rfl rfl (fun _ => Nat.le_of_ble_eq_true rfl) (fun v10 w11 => ?_)
      refine g_ishl (q := 18) ok dX5_roomOf_17 rfl ?_
      refine g_ior (q := 19) ok dX5_roomOf_18 rfl ?_
      refine g_leti (fun v12 => ?_)
      refine g_istore_n (q := 20) (L' := [(2, .int v12), (0, .ref 56), (1, .int a1), (3, .int v8)]) ok dX5_roomOf_19 rfl rfl (by decide) rfl rfl ?_
      refine g_iinc (v := v8 + (nI 1)) (q := 23) (L' := [(3, .int (v8 + (nI 1))), (2, .int v12), (0, .ref 56), (1, .int a1)]) ok dX5_roomOf_20 rfl 3 rfl rfl (by decide) rfl rfl ?_
      refine g_goto (q := 4) ok dX5_roomOf_23 (by decide) ?_
      refine g_to (L' := [(0, .ref 56), (1, .int a1), (2, .int v12), (3, .int (v8 + (nI 1)))]) ?_ [2, 3, 1, 0] rfl
      exact hgo6 _ _ _
set_option maxRecDepth 20000 in
theorem kX5_most (w : gT) : gM S1 cl1 gTs yX5_most cX5_most 1 (some .int) rmX5_most gi [.ref 56] w (xX5_most w) := by
  refine gM_of (own := RX5) [(0, .ref 56)] rfl (by decide) (fun _ => rfl) (fun _ => Nat.le_of_ble_eq_true rfl) (fun κ ok => ?_)
  unfold xX5_most
  refine g_aload_n (q := 1) ok dX5_most_0 rfl 0 rfl rfl ?_
  refine g_getR (q := 4) ok dX5_most_1 rfl fl_X5_15 sX_56 rfl ?_
  refine g_iconst (v := (nI 0)) (q := 5) ok dX5_most_4 rfl (by decide) ?_
  refine g_ialdC (j := 0) (q := 6) ok dX5_most_5 rfl sX_58 (by decide) (by decide) ?_
  exact g_iret ok dX5_most_6
set_option maxRecDepth 20000 in
theorem kX7_coldOf (N : Nat) (a1 : Int32) (w : gT) : gM S1 cl1 gTs yX7_coldOf cX7_coldOf 7 (some .int) rmX7_coldOf gi [.ref 21, .int a1, .ref 1] w (xX7_coldOf N a1 w) := by
  refine gM_of (own := RX7) [(0, .ref 21), (1, .int a1), (2, .ref 1)] rfl (by decide) (fun _ => rfl) (fun _ => Nat.le_of_ble_eq_true rfl) (fun κ ok => ?_)
  unfold xX7_coldOf
  refine g_iconst (v := (nI 0)) (q := 1) ok dX7_coldOf_0 rfl (by decide) ?_
  refine g_istore_n (q := 2) (L' := [(3, .int (nI 0)), (0, .ref 21), (1, .int a1), (2, .ref 1)]) ok dX7_coldOf_1 rfl rfl (by decide) rfl rfl ?_
  refine g_iconst (v := (nI 0)) (q := 3) ok dX7_coldOf_2 rfl (by decide) ?_
  refine g_istore (q := 5) (L' := [(4, .int (nI 0)), (3, .int (nI 0)), (0, .ref 21), (1, .int a1), (2, .ref 1)]) ok dX7_coldOf_3 rfl (by decide) rfl rfl ?_
  refine g_iconst (v := (nI 0)) (q := 6) ok dX7_coldOf_5 rfl (by decide) ?_
  refine g_istore (q := 8) (L' := [(5, .int (nI 0)), (4, .int (nI 0)), (3, .int (nI 0)), (0, .ref 21), (1, .int a1), (2, .ref 1)]) ok dX7_coldOf_6 rfl (by decide) rfl rfl ?_
  refine g_to (L' := [(0, .ref 21), (2, .ref 1), (1, .int a1), (3, .int (nI 0)), (4, .int (nI 0)), (5, .int (nI 0))]) ?_ [3, 5, 4, 2, 1, 0] rfl
  refine g_loop3 (Lf := fun v2 v3 v4 => [(0, .ref 21), (2, .ref 1), (1, .int a1), (3, .int v2), (4, .int v3), (5, .int v4)]) (fun go1 hgo1 v2 v3 v4 w5 => ?_) N _ _ _ _
  unfold xX7_coldOf_b8
  refine g_iload (q := 10) ok dX7_coldOf_8 rfl 5 rfl ?_
  refine g_aload_n (q := 11) ok dX7_coldOf_10 rfl 0 rfl rfl ?_
  refine g_getI (q := 14) (N := 0) ok dX7_coldOf_11 rfl fl_X7_27 sX_21 rfl ?_
  refine g_icmp_ge (q := 17) (g := 81) ok dX7_coldOf_14 rfl (by decide) ?_ ?_
  · refine g_iload (q := 83) ok dX7_coldOf_81 rfl 4 rfl ?_
    exact g_iret ok dX7_coldOf_83
  · refine g_join (P := fun k6 => ∀ (v7 : Int32) (v8 : Int32) (w9 : gT), gJ S1 cl1 rmX7_coldOf 7 gi κ 75 [(0, .ref 21), (2, .ref 1), (1, .int a1), (5, .int v4), (3, .int v7), (4, .int v8)] [] w9 (k6 v7 v8 w9)) (fun v7 v8 w9 => ?_) (fun k6 hk6 => ?_)
    · refine g_iinc (v := v4 + (nI 1)) (q := 78) (L' := [(5, .int (v4 + (nI 1))), (0, .ref 21), (2, .ref 1), (1, .int a1), (3, .int v7), (4, .int v8)]) ok dX7_coldOf_75 rfl 3 rfl rfl (by decide) rfl rfl ?_
      refine g_goto (q := 8) ok dX7_coldOf_78 (by decide) ?_
      refine g_to (L' := [(0, .ref 21), (2, .ref 1), (1, .int a1), (3, .int v7), (4, .int v8), (5, .int (v4 + (nI 1)))]) ?_ [1, 2, 3, 4, 5, 0] rfl
      exact hgo1 _ _ _ _
    · refine g_aload_n (q := 18) ok dX7_coldOf_17 rfl 0 rfl rfl ?_
      refine g_getR (q := 21) ok dX7_coldOf_18 rfl fl_X7_11 sX_21 rfl ?_
      refine g_iload (q := 23) ok dX7_coldOf_21 rfl 5 rfl ?_
      refine g_iald (q := 24) ok dX7_coldOf_23 rfl sX_22 ?_
      refine g_leti (fun v10 => ?_)
      refine g_istore (q := 26) (L' := [(6, .int v10), (0, .ref 21), (2, .ref 1), (1, .int a1), (3, .int v2), (4, .int v3), (5, .int v4)]) ok dX7_coldOf_24 rfl (by decide) rfl rfl ?_
      refine g_aload_n (q := 27) ok dX7_coldOf_26 rfl 1 rfl rfl ?_
      refine g_getR (q := 30) ok dX7_coldOf_27 rfl fl_X7_18 sX_21 rfl ?_
      refine g_iload (q := 32) ok dX7_coldOf_30 rfl 6 rfl ?_
      refine g_iald (q := 33) ok dX7_coldOf_32 rfl sX_24 ?_
      refine g_iload_n (q := 34) ok dX7_coldOf_33 rfl 3 rfl rfl ?_
      refine g_icmp_ne (q := 37) (g := 75) ok dX7_coldOf_34 rfl (by decide) ?_ ?_
      · refine g_to (L' := [(0, .ref 21), (2, .ref 1), (1, .int a1), (5, .int v4), (3, .int v2), (4, .int v3)]) ?_ [1, 2, 3, 6, 4, 5] rfl
        exact hk6 _ _ _
      · refine g_aload_n (q := 38) ok dX7_coldOf_37 rfl 1 rfl rfl ?_
        refine g_iload (q := 40) ok dX7_coldOf_38 rfl 6 rfl ?_
        refine g_aload_n (q := 41) ok dX7_coldOf_40 rfl 2 rfl rfl ?_
        refine g_callVi (q := 44) (As := [.int v4, .ref 1]) (st := []) ok tbl_good dX7_coldOf_41 rfl (kX7_isGone _ _) cf_X7_83 ⟨rfl, rfl, Nat.le_of_ble_eq_true rfl, Nat.le_of_ble_eq_true rfl⟩ sX_21 rfl rfl rfl (fun _ => Nat.le_of_ble_eq_true rfl) (fun v11 w12 => ?_)
        refine g_if_eq (q := 47) (g := 75) ok dX7_coldOf_44 rfl (by decide) ?_ ?_
        · refine g_to (L' := [(0, .ref 21), (2, .ref 1), (1, .int a1), (5, .int v4), (3, .int v2), (4, .int v3)]) ?_ [1, 2, 3, 6, 4, 5] rfl
          exact hk6 _ _ _
        · refine g_iload_n (q := 48) ok dX7_coldOf_47 rfl 4 rfl rfl ?_
          refine g_iload (q := 50) ok dX7_coldOf_48 rfl 0 rfl ?_
          refine g_ishr (q := 51) ok dX7_coldOf_50 rfl ?_
          refine g_iconst (v := (nI 1)) (q := 52) ok dX7_coldOf_51 rfl (by decide) ?_
          refine g_iand (q := 53) ok dX7_coldOf_52 rfl ?_
          refine g_if_ne (q := 56) (g := 75) ok dX7_coldOf_53 rfl (by decide) ?_ ?_
          · refine g_to (L' := [(0, .ref 21), (2, .ref 1), (1, .int a1), (5, .int v4), (3, .int v2), (4, .int v3)]) ?_ [1, 2, 3, 6, 4, 5] rfl
            exact hk6 _ _ _
          · refine g_iload_n (q := 57) ok dX7_coldOf_56 rfl 4 rfl rfl ?_
            refine g_iconst (v := (nI 1)) (q := 58) ok dX7_coldOf_57 rfl (by decide) ?_
            refine g_iload (q := 60) ok dX7_coldOf_58 rfl 0 rfl ?_
            refine g_ishl (q := 61) ok dX7_coldOf_60 rfl ?_
            refine g_ior (q := 62) ok dX7_coldOf_61 rfl ?_
            refine g_leti (fun v13 => ?_)
            refine g_istore_n (q := 63) (L' := [(3, .int v13), (6, .int v10), (0, .ref 21), (2, .ref 1), (1, .int a1), (4, .int v3), (5, .int v4)]) ok dX7_coldOf_62 rfl rfl (by decide) rfl rfl ?_
            refine g_iload (q := 65) ok dX7_coldOf_63 rfl 5 rfl ?_
            refine g_aload_n (q := 66) ok dX7_coldOf_65 rfl 3 rfl rfl ?_
            refine g_getR (q := 69) ok dX7_coldOf_66 rfl fl_X7_94 sX_1 rfl ?_
            refine g_iload (q := 71) ok dX7_coldOf_69 rfl 1 rfl ?_
            refine g_iald (q := 72) ok dX7_coldOf_71 rfl sX_7 ?_
            refine g_iadd (q := 73) ok dX7_coldOf_72 rfl ?_
            refine g_leti (fun v14 => ?_)
            refine g_istore (q := 75) (L' := [(4, .int v14), (3, .int v13), (6, .int v10), (0, .ref 21), (2, .ref 1), (1, .int a1), (5, .int v4)]) ok dX7_coldOf_73 rfl (by decide) rfl rfl ?_
            refine g_to (L' := [(0, .ref 21), (2, .ref 1), (1, .int a1), (5, .int v4), (3, .int v13), (4, .int v14)]) ?_ [3, 4, 5, 6, 1, 0] rfl
            exact hk6 _ _ _
set_option maxRecDepth 20000 in
theorem kX1_worthOf (N : Nat) (a1 : Int32) (a2 : Int32) (a3 : Int32) (w : gT) : gM S1 cl1 gTs yX1_worthOf cX1_worthOf 4 (some .int) rmX1_worthOf gi [.ref 48, .int a1, .int a2, .int a3] w (xX1_worthOf N a1 a2 a3 w) := by
  refine gM_of (own := RX1) [(0, .ref 48), (1, .int a1), (2, .int a2), (3, .int a3)] rfl (by decide) (fun _ => rfl) (fun _ => Nat.le_of_ble_eq_true rfl) (fun κ ok => ?_)
  unfold xX1_worthOf
  refine g_aload_n (q := 1) ok dX1_worthOf_0 rfl 0 rfl rfl ?_
  refine g_getR (q := 4) ok dX1_worthOf_1 rfl fl_X1_11 sX_48 rfl ?_
  refine g_iconst (v := (nI 0)) (q := 5) ok dX1_worthOf_4 rfl (by decide) ?_
  refine g_callSv (q := 8) (As := [.ref 49, .int (nI 0)]) (st := []) ok tbl_good dX1_worthOf_5 rfl (kJ7_fill_53178_49 N _ _) cf_X1_77 ⟨rfl, rfl, Nat.le_of_ble_eq_true rfl, Nat.le_of_ble_eq_true rfl⟩ rfl rfl (fun _ => Nat.le_of_ble_eq_true rfl) (fun w1 => ?_)
  refine g_aload_n (q := 9) ok dX1_worthOf_8 rfl 0 rfl rfl ?_
  refine g_bipush (v := (nI 108)) (q := 11) ok dX1_worthOf_9 rfl (by decide) ?_
  refine g_iload_n (q := 12) ok dX1_worthOf_11 rfl 1 rfl rfl ?_
  refine g_callVv (q := 15) (As := [.int (nI 108), .int a1]) (st := []) ok tbl_good dX1_worthOf_12 rfl (kX1_tellLetter _ _ _) cf_X1_49 ⟨rfl, rfl, Nat.le_of_ble_eq_true rfl, Nat.le_of_ble_eq_true rfl⟩ sX_48 rfl rfl rfl (fun _ => Nat.le_of_ble_eq_true rfl) (fun w2 => ?_)
  refine g_aload_n (q := 16) ok dX1_worthOf_15 rfl 0 rfl rfl ?_
  refine g_bipush (v := (nI 114)) (q := 18) ok dX1_worthOf_16 rfl (by decide) ?_
  refine g_iload_n (q := 19) ok dX1_worthOf_18 rfl 2 rfl rfl ?_
  refine g_callVv (q := 22) (As := [.int (nI 114), .int a2]) (st := []) ok tbl_good dX1_worthOf_19 rfl (kX1_tellLetter _ _ _) cf_X1_49 ⟨rfl, rfl, Nat.le_of_ble_eq_true rfl, Nat.le_of_ble_eq_true rfl⟩ sX_48 rfl rfl rfl (fun _ => Nat.le_of_ble_eq_true rfl) (fun w3 => ?_)
  refine g_aload_n (q := 23) ok dX1_worthOf_22 rfl 0 rfl rfl ?_
  refine g_bipush (v := (nI 116)) (q := 25) ok dX1_worthOf_23 rfl (by decide) ?_
  refine g_aload_n (q := 26) ok dX1_worthOf_25 rfl 0 rfl rfl ?_
  refine g_getR (q := 29) ok dX1_worthOf_26 rfl fl_X1_17 sX_48 rfl ?_
  refine g_getR (q := 32) ok dX1_worthOf_29 rfl fl_X1_83 sX_1 rfl ?_
  refine g_iload_n (q := 33) ok dX1_worthOf_32 rfl 2 rfl rfl ?_
  refine g_iald (q := 34) ok dX1_worthOf_33 rfl sX_2 ?_
  refine g_callVv (q := 37) (As := [.int (nI 116), .int (w3.1 2 a2.toNatClampNeg)]) (st := []) ok tbl_good dX1_worthOf_34 rfl (kX1_tellLetter _ _ _) cf_X1_49 ⟨rfl, rfl, Nat.le_of_ble_eq_true rfl, Nat.le_of_ble_eq_true rfl⟩ sX_48 rfl rfl rfl (fun _ => Nat.le_of_ble_eq_true rfl) (fun w4 => ?_)
  refine g_aload_n (q := 38) ok dX1_worthOf_37 rfl 0 rfl rfl ?_
  refine g_bipush (v := (nI 99)) (q := 40) ok dX1_worthOf_38 rfl (by decide) ?_
  refine g_iload_n (q := 41) ok dX1_worthOf_40 rfl 3 rfl rfl ?_
  refine g_callVv (q := 44) (As := [.int (nI 99), .int a3]) (st := []) ok tbl_good dX1_worthOf_41 rfl (kX1_tellLetter _ _ _) cf_X1_49 ⟨rfl, rfl, Nat.le_of_ble_eq_true rfl, Nat.le_of_ble_eq_true rfl⟩ sX_48 rfl rfl rfl (fun _ => Nat.le_of_ble_eq_true rfl) (fun w5 => ?_)
  refine g_aload_n (q := 45) ok dX1_worthOf_44 rfl 0 rfl rfl ?_
  refine g_getR (q := 48) ok dX1_worthOf_45 rfl fl_X1_21 sX_48 rfl ?_
  refine g_bipush (v := (nI 113)) (q := 50) ok dX1_worthOf_48 rfl (by decide) ?_
  refine g_sipush (v := (nI 999)) (q := 53) ok dX1_worthOf_50 rfl (by decide) ?_
  refine g_aload_n (q := 54) ok dX1_worthOf_53 rfl 0 rfl rfl ?_
  refine g_getR (q := 57) ok dX1_worthOf_54 rfl fl_X1_11 sX_48 rfl ?_
  refine g_callVi (q := 60) (As := [.int (nI 113), .int (nI 999), .ref 49]) (st := []) ok tbl_good dX1_worthOf_57 rfl (kX3_amountOf N _ _ _) cf_X1_60 ⟨rfl, rfl, Nat.le_of_ble_eq_true rfl, Nat.le_of_ble_eq_true rfl⟩ sX_33 rfl rfl rfl (fun _ => Nat.le_of_ble_eq_true rfl) (fun v6 w7 => ?_)
  exact g_iret ok dX1_worthOf_60
set_option maxRecDepth 20000 in
theorem kX9_july (N : Nat) (a1 : Int32) (a2 : Int32) (w : gT) : gM S1 cl1 gTs yX9_july cX9_july 6 (some .int) rmX9_july gi [.ref 0, .int a1, .int a2] w (xX9_july N a1 a2 w) := by
  refine gM_of (own := RX9) [(0, .ref 0), (1, .int a1), (2, .int a2)] rfl (by decide) (fun _ => rfl) (fun _ => Nat.le_of_ble_eq_true rfl) (fun κ ok => ?_)
  unfold xX9_july
  refine g_iload_n (q := 1) ok dX9_july_0 rfl 1 rfl rfl ?_
  refine g_iconst (v := (nI 1)) (q := 2) ok dX9_july_1 rfl (by decide) ?_
  refine g_icmp_lt (q := 5) (g := 11) ok dX9_july_2 rfl (by decide) ?_ ?_
  · refine g_iconst (v := (-1)) (q := 12) ok dX9_july_11 rfl (by decide) ?_
    exact g_iret ok dX9_july_12
  · refine g_iload_n (q := 6) ok dX9_july_5 rfl 1 rfl rfl ?_
    refine g_bipush (v := (nI 8)) (q := 8) ok dX9_july_6 rfl (by decide) ?_
    refine g_icmp_le (q := 11) (g := 13) ok dX9_july_8 rfl (by decide) ?_ ?_
    · refine g_join (P := fun k1 => ∀ (w2 : gT), gJ S1 cl1 rmX9_july 6 gi κ 30 [(0, .ref 0), (1, .int a1), (2, .int a2)] [] w2 (k1 w2)) (fun w2 => ?_) (fun k1 hk1 => ?_)
      · refine g_iconst (v := (nI 0)) (q := 31) ok dX9_july_30 rfl (by decide) ?_
        refine g_istore_n (q := 32) (L' := [(3, .int (nI 0)), (0, .ref 0), (1, .int a1), (2, .int a2)]) ok dX9_july_31 rfl rfl (by decide) rfl rfl ?_
        refine g_join (P := fun k3 => ∀ (w4 : gT), gJ S1 cl1 rmX9_july 6 gi κ 100 [(0, .ref 0), (1, .int a1), (2, .int a2)] [] w4 (k3 w4)) (fun w4 => ?_) (fun k3 hk3 => ?_)
        · refine g_aload_n (q := 101) ok dX9_july_100 rfl 0 rfl rfl ?_
          refine g_getR (q := 104) ok dX9_july_101 rfl fl_X9_85 sX_0 rfl ?_
          refine g_iload_n (q := 105) ok dX9_july_104 rfl 1 rfl rfl ?_
          refine g_callVv (q := 108) (As := [.int a1]) (st := []) ok tbl_good dX9_july_105 rfl (kX5_fill N _ _) cf_X9_263 ⟨rfl, rfl, Nat.le_of_ble_eq_true rfl, Nat.le_of_ble_eq_true rfl⟩ sX_56 rfl rfl rfl (fun _ => Nat.le_of_ble_eq_true rfl) (fun w5 => ?_)
          refine g_iload_n (q := 109) ok dX9_july_108 rfl 2 rfl rfl ?_
          refine g_iconst (v := (-1)) (q := 110) ok dX9_july_109 rfl (by decide) ?_
          refine g_icmp_ne (q := 113) (g := 123) ok dX9_july_110 rfl (by decide) ?_ ?_
          · refine g_aload_n (q := 124) ok dX9_july_123 rfl 0 rfl rfl ?_
            refine g_getR (q := 127) ok dX9_july_124 rfl fl_X9_85 sX_0 rfl ?_
            refine g_iload_n (q := 128) ok dX9_july_127 rfl 2 rfl rfl ?_
            refine g_callVi (q := 131) (As := [.int a2]) (st := []) ok tbl_good dX9_july_128 rfl (kX5_roomOf N _ _) cf_X9_267 ⟨rfl, rfl, Nat.le_of_ble_eq_true rfl, Nat.le_of_ble_eq_true rfl⟩ sX_56 rfl rfl rfl (fun _ => Nat.le_of_ble_eq_true rfl) (fun v6 w7 => ?_)
            exact g_iret ok dX9_july_131
          · refine g_aload_n (q := 114) ok dX9_july_113 rfl 0 rfl rfl ?_
            refine g_getR (q := 117) ok dX9_july_114 rfl fl_X9_85 sX_0 rfl ?_
            refine g_callVi (q := 120) (As := []) (st := []) ok tbl_good dX9_july_117 rfl (kX5_most _) cf_X9_264 ⟨rfl, rfl, Nat.le_of_ble_eq_true rfl, Nat.le_of_ble_eq_true rfl⟩ sX_56 rfl rfl rfl (fun _ => Nat.le_of_ble_eq_true rfl) (fun v8 w9 => ?_)
            refine g_goto (q := 131) ok dX9_july_120 (by decide) ?_
            exact g_iret ok dX9_july_131
        · refine g_to (L' := [(0, .ref 0), (1, .int a1), (2, .int a2), (3, .int (nI 0))]) ?_ [1, 2, 3, 0] rfl
          refine g_loop1 (Lf := fun v11 => [(0, .ref 0), (1, .int a1), (2, .int a2), (3, .int v11)]) (fun go10 hgo10 v11 w12 => ?_) N _ _
          unfold xX9_july_b32
          refine g_iload_n (q := 33) ok dX9_july_32 rfl 3 rfl rfl ?_
          refine g_bipush (v := (nI 12)) (q := 35) ok dX9_july_33 rfl (by decide) ?_
          refine g_icmp_ge (q := 38) (g := 100) ok dX9_july_35 rfl (by decide) ?_ ?_
          · refine g_to (L' := [(0, .ref 0), (1, .int a1), (2, .int a2)]) ?_ [0, 1, 2] rfl
            exact hk3 _
          · refine g_aload_n (q := 39) ok dX9_july_38 rfl 0 rfl rfl ?_
            refine g_getR (q := 42) ok dX9_july_39 rfl fl_X9_29 sX_0 rfl ?_
            refine g_iload_n (q := 43) ok dX9_july_42 rfl 3 rfl rfl ?_
            refine g_aload_n (q := 44) ok dX9_july_43 rfl 0 rfl rfl ?_
            refine g_getR (q := 47) ok dX9_july_44 rfl fl_X9_12 sX_0 rfl ?_
            refine g_callVi (q := 50) (As := [.int v11, .ref 1]) (st := []) ok tbl_good dX9_july_47 rfl (kX7_coldOf N _ _) cf_X9_253 ⟨rfl, rfl, Nat.le_of_ble_eq_true rfl, Nat.le_of_ble_eq_true rfl⟩ sX_21 rfl rfl rfl (fun _ => Nat.le_of_ble_eq_true rfl) (fun v13 w14 => ?_)
            refine g_istore (q := 52) (L' := [(4, .int v13), (0, .ref 0), (1, .int a1), (2, .int a2), (3, .int v11)]) ok dX9_july_50 rfl (by decide) rfl rfl ?_
            refine g_iconst (v := (nI 0)) (q := 53) ok dX9_july_52 rfl (by decide) ?_
            refine g_istore (q := 55) (L' := [(5, .int (nI 0)), (4, .int v13), (0, .ref 0), (1, .int a1), (2, .int a2), (3, .int v11)]) ok dX9_july_53 rfl (by decide) rfl rfl ?_
            refine g_join (P := fun k15 => ∀ (w16 : gT), gJ S1 cl1 rmX9_july 6 gi κ 94 [(0, .ref 0), (1, .int a1), (2, .int a2), (3, .int v11)] [] w16 (k15 w16)) (fun w16 => ?_) (fun k15 hk15 => ?_)
            · refine g_iinc (v := v11 + (nI 1)) (q := 97) (L' := [(3, .int (v11 + (nI 1))), (0, .ref 0), (1, .int a1), (2, .int a2)]) ok dX9_july_94 rfl 3 rfl rfl (by decide) rfl rfl ?_
              refine g_goto (q := 32) ok dX9_july_97 (by decide) ?_
              refine g_to (L' := [(0, .ref 0), (1, .int a1), (2, .int a2), (3, .int (v11 + (nI 1)))]) ?_ [1, 2, 3, 0] rfl
              exact hgo10 _ _
            · refine g_to (L' := [(0, .ref 0), (1, .int a1), (2, .int a2), (3, .int v11), (4, .int v13), (5, .int (nI 0))]) ?_ [2, 3, 4, 5, 1, 0] rfl
              refine g_loop1 (Lf := fun v18 => [(0, .ref 0), (1, .int a1), (2, .int a2), (3, .int v11), (4, .int v13), (5, .int v18)]) (fun go17 hgo17 v18 w19 => ?_) N _ _
              unfold xX9_july_b55
              refine g_iload (q := 57) ok dX9_july_55 rfl 5 rfl ?_
              refine g_iload_n (q := 58) ok dX9_july_57 rfl 1 rfl rfl ?_
              refine g_icmp_ge (q := 61) (g := 94) ok dX9_july_58 rfl (by decide) ?_ ?_
              · refine g_to (L' := [(0, .ref 0), (1, .int a1), (2, .int a2), (3, .int v11)]) ?_ [0, 1, 2, 3] rfl
                exact hk15 _
              · refine g_aload_n (q := 62) ok dX9_july_61 rfl 0 rfl rfl ?_
                refine g_getR (q := 65) ok dX9_july_62 rfl fl_X9_85 sX_0 rfl ?_
                refine g_getR (q := 68) ok dX9_july_65 rfl fl_X9_257 sX_56 rfl ?_
                refine g_iload (q := 70) ok dX9_july_68 rfl 5 rfl ?_
                refine g_bipush (v := (nI 12)) (q := 72) ok dX9_july_70 rfl (by decide) ?_
                refine g_imul (q := 73) ok dX9_july_72 rfl ?_
                refine g_iload_n (q := 74) ok dX9_july_73 rfl 3 rfl rfl ?_
                refine g_iadd (q := 75) ok dX9_july_74 rfl ?_
                refine g_aload_n (q := 76) ok dX9_july_75 rfl 0 rfl rfl ?_
                refine g_getR (q := 79) ok dX9_july_76 rfl fl_X9_60 sX_0 rfl ?_
                refine g_iload (q := 81) ok dX9_july_79 rfl 5 rfl ?_
                refine g_iload_n (q := 82) ok dX9_july_81 rfl 3 rfl rfl ?_
                refine g_iload (q := 84) ok dX9_july_82 rfl 4 rfl ?_
                refine g_callVi (q := 87) (As := [.int v18, .int v11, .int v13]) (st := [.int ((v18 * (nI 12)) + v11), .ref 57]) ok tbl_good dX9_july_84 rfl (kX1_worthOf N _ _ _ _) cf_X9_260 ⟨rfl, rfl, Nat.le_of_ble_eq_true rfl, Nat.le_of_ble_eq_true rfl⟩ sX_48 rfl rfl rfl (fun _ => Nat.le_of_ble_eq_true rfl) (fun v20 w21 => ?_)
                refine g_iast (q := 88) ok dX9_july_87 rfl sX_57 ?_
                refine g_letw (fun w22 => ?_)
                refine g_iinc (v := v18 + (nI 1)) (q := 91) (L' := [(5, .int (v18 + (nI 1))), (0, .ref 0), (1, .int a1), (2, .int a2), (3, .int v11), (4, .int v13)]) ok dX9_july_88 rfl 5 rfl rfl (by decide) rfl rfl ?_
                refine g_goto (q := 55) ok dX9_july_91 (by decide) ?_
                refine g_to (L' := [(0, .ref 0), (1, .int a1), (2, .int a2), (3, .int v11), (4, .int v13), (5, .int (v18 + (nI 1)))]) ?_ [1, 2, 3, 4, 5, 0] rfl
                exact hgo17 _ _
      · refine g_iload_n (q := 14) ok dX9_july_13 rfl 2 rfl rfl ?_
        refine g_iconst (v := (-1)) (q := 15) ok dX9_july_14 rfl (by decide) ?_
        refine g_icmp_eq (q := 18) (g := 30) ok dX9_july_15 rfl (by decide) ?_ ?_
        · exact hk1 _
        · refine g_iload_n (q := 19) ok dX9_july_18 rfl 2 rfl rfl ?_
          refine g_if_lt (q := 22) (g := 27) ok dX9_july_19 rfl (by decide) ?_ ?_
          · refine g_bipush (v := (-2)) (q := 29) ok dX9_july_27 rfl (by decide) ?_
            exact g_iret ok dX9_july_29
          · refine g_iload_n (q := 23) ok dX9_july_22 rfl 2 rfl rfl ?_
            refine g_iload_n (q := 24) ok dX9_july_23 rfl 1 rfl rfl ?_
            refine g_icmp_lt (q := 27) (g := 30) ok dX9_july_24 rfl (by decide) ?_ ?_
            · exact hk1 _
            · refine g_bipush (v := (-2)) (q := 29) ok dX9_july_27 rfl (by decide) ?_
              exact g_iret ok dX9_july_29
    · refine g_iconst (v := (-1)) (q := 12) ok dX9_july_11 rfl (by decide) ?_
      exact g_iret ok dX9_july_12
set_option maxRecDepth 20000 in
theorem kX2_rankOf (a1 : Int32) (w : gT) : gM S1 cl1 gTs yX2_rankOf cX2_rankOf 2 (some .int) rmX2_rankOf gi [.ref 1, .int a1] w (xX2_rankOf a1 w) := by
  refine gM_of (own := RX2) [(0, .ref 1), (1, .int a1)] rfl (by decide) (fun _ => rfl) (fun _ => Nat.le_of_ble_eq_true rfl) (fun κ ok => ?_)
  unfold xX2_rankOf
  refine g_aload_n (q := 1) ok dX2_rankOf_0 rfl 0 rfl rfl ?_
  refine g_getI (q := 4) (N := 0) ok dX2_rankOf_1 rfl fl_X2_43 sX_1 rfl ?_
  refine g_iconst (v := (nI 1)) (q := 5) ok dX2_rankOf_4 rfl (by decide) ?_
  refine g_iload_n (q := 6) ok dX2_rankOf_5 rfl 1 rfl rfl ?_
  refine g_ishl (q := 7) ok dX2_rankOf_6 rfl ?_
  refine g_iconst (v := (nI 1)) (q := 8) ok dX2_rankOf_7 rfl (by decide) ?_
  refine g_isub (q := 9) ok dX2_rankOf_8 rfl ?_
  refine g_iand (q := 10) ok dX2_rankOf_9 rfl ?_
  refine g_callSi (q := 13) (As := [.int ((w.1 1 8) &&& ((gShl (nI 1) a1) - (nI 1)))]) (st := []) ok tbl_good dX2_rankOf_10 rfl (kJ6_bitCount_0f7a4 _ _) cf_X2_49 ⟨rfl, rfl, Nat.le_of_ble_eq_true rfl, Nat.le_of_ble_eq_true rfl⟩ rfl rfl (fun _ => Nat.le_of_ble_eq_true rfl) (fun v1 w2 => ?_)
  exact g_iret ok dX2_rankOf_13
set_option maxRecDepth 20000 in
theorem kX9_nextOff (N : Nat) (a1 : Int32) (w : gT) : gM S1 cl1 gTs yX9_nextOff cX9_nextOff 5 (some .int) rmX9_nextOff gi [.ref 0, .int a1] w (xX9_nextOff N a1 w) := by
  refine gM_of (own := RX9) [(0, .ref 0), (1, .int a1)] rfl (by decide) (fun _ => rfl) (fun _ => Nat.le_of_ble_eq_true rfl) (fun κ ok => ?_)
  unfold xX9_nextOff
  refine g_iconst (v := (-1)) (q := 1) ok dX9_nextOff_0 rfl (by decide) ?_
  refine g_istore_n (q := 2) (L' := [(2, .int (-1)), (0, .ref 0), (1, .int a1)]) ok dX9_nextOff_1 rfl rfl (by decide) rfl rfl ?_
  refine g_iload_n (q := 3) ok dX9_nextOff_2 rfl 2 rfl rfl ?_
  refine g_istore_n (q := 4) (L' := [(3, .int a1), (2, .int (-1)), (0, .ref 0), (1, .int a1)]) ok dX9_nextOff_3 rfl rfl (by decide) rfl rfl ?_
  refine g_iconst (v := (nI 0)) (q := 5) ok dX9_nextOff_4 rfl (by decide) ?_
  refine g_istore (q := 7) (L' := [(4, .int (nI 0)), (3, .int a1), (2, .int (-1)), (0, .ref 0), (1, .int a1)]) ok dX9_nextOff_5 rfl (by decide) rfl rfl ?_
  refine g_join (P := fun k1 => ∀ (v2 : Int32) (w3 : gT), gJ S1 cl1 rmX9_nextOff 5 gi κ 88 [(0, .ref 0), (2, .int v2)] [] w3 (k1 v2 w3)) (fun v2 w3 => ?_) (fun k1 hk1 => ?_)
  · refine g_iload_n (q := 89) ok dX9_nextOff_88 rfl 1 rfl rfl ?_
    refine g_iconst (v := (-1)) (q := 90) ok dX9_nextOff_89 rfl (by decide) ?_
    refine g_icmp_ne (q := 93) (g := 97) ok dX9_nextOff_90 rfl (by decide) ?_ ?_
    · refine g_iload_n (q := 98) ok dX9_nextOff_97 rfl 1 rfl rfl ?_
      exact g_iret ok dX9_nextOff_98
    · refine g_iconst (v := (nI 0)) (q := 94) ok dX9_nextOff_93 rfl (by decide) ?_
      refine g_goto (q := 98) ok dX9_nextOff_94 (by decide) ?_
      exact g_iret ok dX9_nextOff_98
  · refine g_to (L' := [(0, .ref 0), (2, .int (-1)), (3, .int a1), (4, .int (nI 0))]) ?_ [3, 2, 1, 0] rfl
    refine g_loop3 (Lf := fun v5 v6 v7 => [(0, .ref 0), (2, .int v5), (3, .int v6), (4, .int v7)]) (fun go4 hgo4 v5 v6 v7 w8 => ?_) N _ _ _ _
    unfold xX9_nextOff_b7
    refine g_iload (q := 9) ok dX9_nextOff_7 rfl 3 rfl ?_
    refine g_bipush (v := (nI 10)) (q := 11) ok dX9_nextOff_9 rfl (by decide) ?_
    refine g_icmp_ge (q := 14) (g := 88) ok dX9_nextOff_11 rfl (by decide) ?_ ?_
    · refine g_to (L' := [(0, .ref 0), (2, .int v5)]) ?_ [0, 1] rfl
      exact hk1 _ _
    · refine g_iload_n (q := 15) ok dX9_nextOff_14 rfl 2 rfl rfl ?_
      refine g_if_le (q := 18) (g := 88) ok dX9_nextOff_15 rfl (by decide) ?_ ?_
      · refine g_to (L' := [(0, .ref 0), (2, .int v5)]) ?_ [0, 1] rfl
        exact hk1 _ _
      · refine g_join (P := fun k9 => ∀ (v10 : Int32) (v11 : Int32) (w12 : gT), gJ S1 cl1 rmX9_nextOff 5 gi κ 82 [(0, .ref 0), (4, .int v7), (2, .int v10), (3, .int v11)] [] w12 (k9 v10 v11 w12)) (fun v10 v11 w12 => ?_) (fun k9 hk9 => ?_)
        · refine g_iinc (v := v7 + (nI 1)) (q := 85) (L' := [(4, .int (v7 + (nI 1))), (0, .ref 0), (2, .int v10), (3, .int v11)]) ok dX9_nextOff_82 rfl 1 rfl rfl (by decide) rfl rfl ?_
          refine g_goto (q := 7) ok dX9_nextOff_85 (by decide) ?_
          refine g_to (L' := [(0, .ref 0), (2, .int v10), (3, .int v11), (4, .int (v7 + (nI 1)))]) ?_ [1, 2, 3, 0] rfl
          exact hgo4 _ _ _ _
        · refine g_aload_n (q := 19) ok dX9_nextOff_18 rfl 0 rfl rfl ?_
          refine g_getR (q := 22) ok dX9_nextOff_19 rfl fl_X9_12 sX_0 rfl ?_
          refine g_iload (q := 24) ok dX9_nextOff_22 rfl 3 rfl ?_
          refine g_callVi (q := 27) (As := [.int v7]) (st := []) ok tbl_good dX9_nextOff_24 rfl (kX2_hasGhost _ _) cf_X9_178 ⟨rfl, rfl, Nat.le_of_ble_eq_true rfl, Nat.le_of_ble_eq_true rfl⟩ sX_1 rfl rfl rfl (fun _ => Nat.le_of_ble_eq_true rfl) (fun v13 w14 => ?_)
          refine g_if_eq (q := 30) (g := 82) ok dX9_nextOff_27 rfl (by decide) ?_ ?_
          · refine g_to (L' := [(0, .ref 0), (4, .int v7), (2, .int v5), (3, .int v6)]) ?_ [0, 3, 1, 2] rfl
            exact hk9 _ _ _
          · refine g_join (P := fun k15 => ∀ (v16 : Int32) (w17 : gT), gJ S1 cl1 rmX9_nextOff 5 gi κ 79 [(0, .ref 0), (4, .int v7), (3, .int v16)] [] w17 (k15 v16 w17)) (fun v16 w17 => ?_) (fun k15 hk15 => ?_)
            · refine g_iload (q := 81) ok dX9_nextOff_79 rfl 1 rfl ?_
              refine g_istore_n (q := 82) (L' := [(2, .int v7), (0, .ref 0), (4, .int v7), (3, .int v16)]) ok dX9_nextOff_81 rfl rfl (by decide) rfl rfl ?_
              refine g_to (L' := [(0, .ref 0), (4, .int v7), (2, .int v7), (3, .int v16)]) ?_ [1, 2, 0, 3] rfl
              exact hk9 _ _ _
            · refine g_iinc (v := v6 + (-1)) (q := 33) (L' := [(3, .int (v6 + (-1))), (0, .ref 0), (2, .int v5), (4, .int v7)]) ok dX9_nextOff_30 rfl 2 rfl rfl (by decide) rfl rfl ?_
              refine g_iload_n (q := 34) ok dX9_nextOff_33 rfl 2 rfl rfl ?_
              refine g_iconst (v := (-1)) (q := 35) ok dX9_nextOff_34 rfl (by decide) ?_
              refine g_icmp_eq (q := 38) (g := 79) ok dX9_nextOff_35 rfl (by decide) ?_ ?_
              · refine g_to (L' := [(0, .ref 0), (4, .int v7), (3, .int (v6 + (-1)))]) ?_ [1, 3, 0] rfl
                exact hk15 _ _
              · refine g_aload_n (q := 39) ok dX9_nextOff_38 rfl 1 rfl rfl ?_
                refine g_getR (q := 42) ok dX9_nextOff_39 rfl fl_X9_12 sX_0 rfl ?_
                refine g_getR (q := 45) ok dX9_nextOff_42 rfl fl_X9_313 sX_1 rfl ?_
                refine g_iload (q := 47) ok dX9_nextOff_45 rfl 3 rfl ?_
                refine g_iald (q := 48) ok dX9_nextOff_47 rfl sX_8 ?_
                refine g_aload_n (q := 49) ok dX9_nextOff_48 rfl 1 rfl rfl ?_
                refine g_getR (q := 52) ok dX9_nextOff_49 rfl fl_X9_89 sX_0 rfl ?_
                refine g_iload_n (q := 53) ok dX9_nextOff_52 rfl 2 rfl rfl ?_
                refine g_iald (q := 54) ok dX9_nextOff_53 rfl sX_59 ?_
                refine g_iconst (v := (nI 1)) (q := 55) ok dX9_nextOff_54 rfl (by decide) ?_
                refine g_iadd (q := 56) ok dX9_nextOff_55 rfl ?_
                refine g_imul (q := 57) ok dX9_nextOff_56 rfl ?_
                refine g_aload_n (q := 58) ok dX9_nextOff_57 rfl 1 rfl rfl ?_
                refine g_getR (q := 61) ok dX9_nextOff_58 rfl fl_X9_12 sX_0 rfl ?_
                refine g_getR (q := 64) ok dX9_nextOff_61 rfl fl_X9_313 sX_1 rfl ?_
                refine g_iload_n (q := 65) ok dX9_nextOff_64 rfl 2 rfl rfl ?_
                refine g_iald (q := 66) ok dX9_nextOff_65 rfl sX_8 ?_
                refine g_aload_n (q := 67) ok dX9_nextOff_66 rfl 1 rfl rfl ?_
                refine g_getR (q := 70) ok dX9_nextOff_67 rfl fl_X9_89 sX_0 rfl ?_
                refine g_iload (q := 72) ok dX9_nextOff_70 rfl 3 rfl ?_
                refine g_iald (q := 73) ok dX9_nextOff_72 rfl sX_59 ?_
                refine g_iconst (v := (nI 1)) (q := 74) ok dX9_nextOff_73 rfl (by decide) ?_
                refine g_iadd (q := 75) ok dX9_nextOff_74 rfl ?_
                refine g_imul (q := 76) ok dX9_nextOff_75 rfl ?_
                refine g_icmp_le (q := 79) (g := 82) ok dX9_nextOff_76 rfl (by decide) ?_ ?_
                · refine g_to (L' := [(0, .ref 0), (4, .int v7), (2, .int v5), (3, .int (v6 + (-1)))]) ?_ [1, 3, 2, 0] rfl
                  exact hk9 _ _ _
                · refine g_to (L' := [(0, .ref 0), (4, .int v7), (3, .int (v6 + (-1)))]) ?_ [1, 3, 0] rfl
                  exact hk15 _ _
set_option maxRecDepth 20000 in
theorem kX9_off (N : Nat) (a1 : Int32) (a2 : Int32) (a3 : Int32) (w : gT) : gM S1 cl1 gTs yX9_off cX9_off 5 (some .int) rmX9_off gi [.ref 0, .int a1, .int a2, .int a3] w (xX9_off N a1 a2 a3 w) := by
  refine gM_of (own := RX9) [(0, .ref 0), (1, .int a1), (2, .int a2), (3, .int a3)] rfl (by decide) (fun _ => rfl) (fun _ => Nat.le_of_ble_eq_true rfl) (fun κ ok => ?_)
  unfold xX9_off
  refine g_aload_n (q := 1) ok dX9_off_0 rfl 0 rfl rfl ?_
  refine g_getR (q := 4) ok dX9_off_1 rfl fl_X9_12 sX_0 rfl ?_
  refine g_iload_n (q := 5) ok dX9_off_4 rfl 3 rfl rfl ?_
  refine g_callVi (q := 8) (As := [.int a3]) (st := []) ok tbl_good dX9_off_5 rfl (kX2_hasGhost _ _) cf_X9_178 ⟨rfl, rfl, Nat.le_of_ble_eq_true rfl, Nat.le_of_ble_eq_true rfl⟩ sX_1 rfl rfl rfl (fun _ => Nat.le_of_ble_eq_true rfl) (fun v1 w2 => ?_)
  refine g_if_eq (q := 11) (g := 42) ok dX9_off_8 rfl (by decide) ?_ ?_
  · refine g_iconst (v := (-1)) (q := 43) ok dX9_off_42 rfl (by decide) ?_
    exact g_iret ok dX9_off_43
  · refine g_iload_n (q := 12) ok dX9_off_11 rfl 1 rfl rfl ?_
    refine g_iconst (v := (nI 1)) (q := 13) ok dX9_off_12 rfl (by decide) ?_
    refine g_icmp_lt (q := 16) (g := 42) ok dX9_off_13 rfl (by decide) ?_ ?_
    · refine g_iconst (v := (-1)) (q := 43) ok dX9_off_42 rfl (by decide) ?_
      exact g_iret ok dX9_off_43
    · refine g_iload_n (q := 17) ok dX9_off_16 rfl 1 rfl rfl ?_
      refine g_aload_n (q := 18) ok dX9_off_17 rfl 0 rfl rfl ?_
      refine g_getR (q := 21) ok dX9_off_18 rfl fl_X9_12 sX_0 rfl ?_
      refine g_getI (q := 24) (N := 0) ok dX9_off_21 rfl fl_X9_270 sX_1 rfl ?_
      refine g_callSi (q := 27) (As := [.int (w2.1 1 8)]) (st := [.int a1]) ok tbl_good dX9_off_24 rfl (kJ6_bitCount_0f7a4 _ _) cf_X9_273 ⟨rfl, rfl, Nat.le_of_ble_eq_true rfl, Nat.le_of_ble_eq_true rfl⟩ rfl rfl (fun _ => Nat.le_of_ble_eq_true rfl) (fun v3 w4 => ?_)
      refine g_icmp_gt (q := 30) (g := 42) ok dX9_off_27 rfl (by decide) ?_ ?_
      · refine g_iconst (v := (-1)) (q := 43) ok dX9_off_42 rfl (by decide) ?_
        exact g_iret ok dX9_off_43
      · refine g_iload_n (q := 31) ok dX9_off_30 rfl 2 rfl rfl ?_
        refine g_iconst (v := (nI 1)) (q := 32) ok dX9_off_31 rfl (by decide) ?_
        refine g_icmp_lt (q := 35) (g := 42) ok dX9_off_32 rfl (by decide) ?_ ?_
        · refine g_iconst (v := (-1)) (q := 43) ok dX9_off_42 rfl (by decide) ?_
          exact g_iret ok dX9_off_43
        · refine g_iload_n (q := 36) ok dX9_off_35 rfl 2 rfl rfl ?_
          refine g_sipush (v := (nI 366)) (q := 39) ok dX9_off_36 rfl (by decide) ?_
          refine g_icmp_le (q := 42) (g := 44) ok dX9_off_39 rfl (by decide) ?_ ?_
          · refine g_aload_n (q := 45) ok dX9_off_44 rfl 0 rfl rfl ?_
            refine g_getR (q := 48) ok dX9_off_45 rfl fl_X9_12 sX_0 rfl ?_
            refine g_iload_n (q := 49) ok dX9_off_48 rfl 3 rfl rfl ?_
            refine g_callVi (q := 52) (As := [.int a3]) (st := []) ok tbl_good dX9_off_49 rfl (kX2_rankOf _ _) cf_X9_278 ⟨rfl, rfl, Nat.le_of_ble_eq_true rfl, Nat.le_of_ble_eq_true rfl⟩ sX_1 rfl rfl rfl (fun _ => Nat.le_of_ble_eq_true rfl) (fun v5 w6 => ?_)
            refine g_iload_n (q := 53) ok dX9_off_52 rfl 1 rfl rfl ?_
            refine g_icmp_lt (q := 56) (g := 59) ok dX9_off_53 rfl (by decide) ?_ ?_
            · refine g_aload_n (q := 60) ok dX9_off_59 rfl 0 rfl rfl ?_
              refine g_getR (q := 63) ok dX9_off_60 rfl fl_X9_89 sX_0 rfl ?_
              refine g_iconst (v := (nI 0)) (q := 64) ok dX9_off_63 rfl (by decide) ?_
              refine g_callSv (q := 67) (As := [.ref 59, .int (nI 0)]) (st := []) ok tbl_good dX9_off_64 rfl (kJ7_fill_53178 N _ _) cf_X9_281 ⟨rfl, rfl, Nat.le_of_ble_eq_true rfl, Nat.le_of_ble_eq_true rfl⟩ rfl rfl (fun _ => Nat.le_of_ble_eq_true rfl) (fun w7 => ?_)
              refine g_iconst (v := (nI 0)) (q := 68) ok dX9_off_67 rfl (by decide) ?_
              refine g_istore (q := 70) (L' := [(4, .int (nI 0)), (0, .ref 0), (1, .int a1), (2, .int a2), (3, .int a3)]) ok dX9_off_68 rfl (by decide) rfl rfl ?_
              refine g_to (L' := [(0, .ref 0), (1, .int a1), (2, .int a2), (3, .int a3), (4, .int (nI 0))]) ?_ [1, 2, 3, 4, 0] rfl
              refine g_loop1 (Lf := fun v9 => [(0, .ref 0), (1, .int a1), (2, .int a2), (3, .int a3), (4, .int v9)]) (fun go8 hgo8 v9 w10 => ?_) N _ _
              unfold xX9_off_b70
              refine g_iload (q := 72) ok dX9_off_70 rfl 4 rfl ?_
              refine g_iload_n (q := 73) ok dX9_off_72 rfl 2 rfl rfl ?_
              refine g_icmp_ge (q := 76) (g := 96) ok dX9_off_73 rfl (by decide) ?_ ?_
              · refine g_aload_n (q := 97) ok dX9_off_96 rfl 0 rfl rfl ?_
                refine g_getR (q := 100) ok dX9_off_97 rfl fl_X9_89 sX_0 rfl ?_
                refine g_iload_n (q := 101) ok dX9_off_100 rfl 3 rfl rfl ?_
                refine g_iald (q := 102) ok dX9_off_101 rfl sX_59 ?_
                exact g_iret ok dX9_off_102
              · refine g_aload_n (q := 77) ok dX9_off_76 rfl 0 rfl rfl ?_
                refine g_getR (q := 80) ok dX9_off_77 rfl fl_X9_89 sX_0 rfl ?_
                refine g_aload_n (q := 81) ok dX9_off_80 rfl 0 rfl rfl ?_
                refine g_iload_n (q := 82) ok dX9_off_81 rfl 1 rfl rfl ?_
                refine g_callVi (q := 85) (As := [.int a1]) (st := [.ref 59]) ok tbl_good dX9_off_82 rfl (kX9_nextOff N _ _) cf_X9_286 ⟨rfl, rfl, Nat.le_of_ble_eq_true rfl, Nat.le_of_ble_eq_true rfl⟩ sX_0 rfl rfl rfl (fun _ => Nat.le_of_ble_eq_true rfl) (fun v11 w12 => ?_)
                refine g_dup2 (q := 86) ok dX9_off_85 rfl (fun _ => ⟨rfl, rfl⟩) ?_
                refine g_iald (q := 87) ok dX9_off_86 rfl sX_59 ?_
                refine g_iconst (v := (nI 1)) (q := 88) ok dX9_off_87 rfl (by decide) ?_
                refine g_iadd (q := 89) ok dX9_off_88 rfl ?_
                refine g_iast (q := 90) ok dX9_off_89 rfl sX_59 ?_
                refine g_letw (fun w13 => ?_)
                refine g_iinc (v := v9 + (nI 1)) (q := 93) (L' := [(4, .int (v9 + (nI 1))), (0, .ref 0), (1, .int a1), (2, .int a2), (3, .int a3)]) ok dX9_off_90 rfl 4 rfl rfl (by decide) rfl rfl ?_
                refine g_goto (q := 70) ok dX9_off_93 (by decide) ?_
                refine g_to (L' := [(0, .ref 0), (1, .int a1), (2, .int a2), (3, .int a3), (4, .int (v9 + (nI 1)))]) ?_ [1, 2, 3, 4, 0] rfl
                exact hgo8 _ _
            · refine g_bipush (v := (-2)) (q := 58) ok dX9_off_56 rfl (by decide) ?_
              exact g_iret ok dX9_off_58
          · refine g_iconst (v := (-1)) (q := 43) ok dX9_off_42 rfl (by decide) ?_
            exact g_iret ok dX9_off_43
set_option maxRecDepth 20000 in
theorem kX9_gainOfFirst (a0 : Int32) (a1 : Int32) (a2 : Int32) (w : gT) : gM S1 cl1 gTs yX9_gainOfFirst cX9_gainOfFirst 3 (some .int) rmX9_gainOfFirst gi [.int a0, .int a1, .int a2] w (xX9_gainOfFirst a0 a1 a2 w) := by
  refine gM_of (own := RX9) [(0, .int a0), (1, .int a1), (2, .int a2)] rfl (by decide) (fun _ => rfl) (fun _ => Nat.le_of_ble_eq_true rfl) (fun κ ok => ?_)
  unfold xX9_gainOfFirst
  refine g_iload_n (q := 1) ok dX9_gainOfFirst_0 rfl 1 rfl rfl ?_
  refine g_iload_n (q := 2) ok dX9_gainOfFirst_1 rfl 2 rfl rfl ?_
  refine g_icmp_lt (q := 5) (g := 11) ok dX9_gainOfFirst_2 rfl (by decide) ?_ ?_
  · refine g_iconst (v := (nI 0)) (q := 12) ok dX9_gainOfFirst_11 rfl (by decide) ?_
    exact g_iret ok dX9_gainOfFirst_12
  · refine g_iload_n (q := 6) ok dX9_gainOfFirst_5 rfl 0 rfl rfl ?_
    refine g_iload_n (q := 7) ok dX9_gainOfFirst_6 rfl 1 rfl rfl ?_
    refine g_isub (q := 8) ok dX9_gainOfFirst_7 rfl ?_
    refine g_goto (q := 12) ok dX9_gainOfFirst_8 (by decide) ?_
    exact g_iret ok dX9_gainOfFirst_12
set_option maxRecDepth 20000 in
theorem kX9_gainOfSecond (a0 : Int32) (a1 : Int32) (a2 : Int32) (w : gT) : gM S1 cl1 gTs yX9_gainOfSecond cX9_gainOfSecond 3 (some .int) rmX9_gainOfSecond gi [.int a0, .int a1, .int a2] w (xX9_gainOfSecond a0 a1 a2 w) := by
  refine gM_of (own := RX9) [(0, .int a0), (1, .int a1), (2, .int a2)] rfl (by decide) (fun _ => rfl) (fun _ => Nat.le_of_ble_eq_true rfl) (fun κ ok => ?_)
  unfold xX9_gainOfSecond
  refine g_iload_n (q := 1) ok dX9_gainOfSecond_0 rfl 2 rfl rfl ?_
  refine g_iload_n (q := 2) ok dX9_gainOfSecond_1 rfl 1 rfl rfl ?_
  refine g_icmp_le (q := 5) (g := 11) ok dX9_gainOfSecond_2 rfl (by decide) ?_ ?_
  · refine g_iconst (v := (nI 0)) (q := 12) ok dX9_gainOfSecond_11 rfl (by decide) ?_
    exact g_iret ok dX9_gainOfSecond_12
  · refine g_iload_n (q := 6) ok dX9_gainOfSecond_5 rfl 0 rfl rfl ?_
    refine g_iload_n (q := 7) ok dX9_gainOfSecond_6 rfl 2 rfl rfl ?_
    refine g_isub (q := 8) ok dX9_gainOfSecond_7 rfl ?_
    refine g_goto (q := 12) ok dX9_gainOfSecond_8 (by decide) ?_
    exact g_iret ok dX9_gainOfSecond_12
set_option maxRecDepth 20000 in
theorem kX9_isSettled (N : Nat) (a0 : Int32) (a1 : Int32) (a2 : Int32) (a3 : Int32) (w : gT) : gM S1 cl1 gTs yX9_isSettled cX9_isSettled 7 (some .boolean) rmX9_isSettled gi [.int a0, .int a1, .int a2, .int a3] w (xX9_isSettled N a0 a1 a2 a3 w) := by
  refine gM_of (own := RX9) [(0, .int a0), (1, .int a1), (2, .int a2), (3, .int a3)] rfl (by decide) (fun _ => rfl) (fun _ => Nat.le_of_ble_eq_true rfl) (fun κ ok => ?_)
  unfold xX9_isSettled
  refine g_iload_n (q := 1) ok dX9_isSettled_0 rfl 0 rfl rfl ?_
  refine g_iload_n (q := 2) ok dX9_isSettled_1 rfl 2 rfl rfl ?_
  refine g_iload_n (q := 3) ok dX9_isSettled_2 rfl 3 rfl rfl ?_
  refine g_callSi (q := 6) (As := [.int a0, .int a2, .int a3]) (st := []) ok tbl_good dX9_isSettled_3 rfl (kX9_gainOfFirst _ _ _ _) cf_X9_316 ⟨rfl, rfl, Nat.le_of_ble_eq_true rfl, Nat.le_of_ble_eq_true rfl⟩ rfl rfl (fun _ => Nat.le_of_ble_eq_true rfl) (fun v1 w2 => ?_)
  refine g_istore (q := 8) (L' := [(4, .int v1), (0, .int a0), (1, .int a1), (2, .int a2), (3, .int a3)]) ok dX9_isSettled_6 rfl (by decide) rfl rfl ?_
  refine g_iload_n (q := 9) ok dX9_isSettled_8 rfl 2 rfl rfl ?_
  refine g_iload_n (q := 10) ok dX9_isSettled_9 rfl 3 rfl rfl ?_
  refine g_iload_n (q := 11) ok dX9_isSettled_10 rfl 4 rfl rfl ?_
  refine g_callSi (q := 14) (As := [.int a1, .int a2, .int a3]) (st := []) ok tbl_good dX9_isSettled_11 rfl (kX9_gainOfSecond _ _ _ _) cf_X9_319 ⟨rfl, rfl, Nat.le_of_ble_eq_true rfl, Nat.le_of_ble_eq_true rfl⟩ rfl rfl (fun _ => Nat.le_of_ble_eq_true rfl) (fun v3 w4 => ?_)
  refine g_istore (q := 16) (L' := [(5, .int v3), (4, .int v1), (0, .int a0), (1, .int a1), (2, .int a2), (3, .int a3)]) ok dX9_isSettled_14 rfl (by decide) rfl rfl ?_
  refine g_iconst (v := (nI 1)) (q := 17) ok dX9_isSettled_16 rfl (by decide) ?_
  refine g_istore (q := 19) (L' := [(6, .int (nI 1)), (5, .int v3), (4, .int v1), (0, .int a0), (1, .int a1), (2, .int a2), (3, .int a3)]) ok dX9_isSettled_17 rfl (by decide) rfl rfl ?_
  refine g_to (L' := [(0, .int a0), (1, .int a1), (2, .int a2), (3, .int a3), (4, .int v1), (5, .int v3), (6, .int (nI 1))]) ?_ [3, 4, 5, 6, 2, 1, 0] rfl
  refine g_loop1 (Lf := fun v6 => [(0, .int a0), (1, .int a1), (2, .int a2), (3, .int a3), (4, .int v1), (5, .int v3), (6, .int v6)]) (fun go5 hgo5 v6 w7 => ?_) N _ _
  unfold xX9_isSettled_b19
  refine g_iload (q := 21) ok dX9_isSettled_19 rfl 6 rfl ?_
  refine g_bipush (v := (nI 9)) (q := 23) ok dX9_isSettled_21 rfl (by decide) ?_
  refine g_icmp_gt (q := 26) (g := 58) ok dX9_isSettled_23 rfl (by decide) ?_ ?_
  · refine g_iconst (v := (nI 1)) (q := 59) ok dX9_isSettled_58 rfl (by decide) ?_
    exact g_zret ok dX9_isSettled_59 rfl
  · refine g_iload_n (q := 27) ok dX9_isSettled_26 rfl 0 rfl rfl ?_
    refine g_iload (q := 29) ok dX9_isSettled_27 rfl 6 rfl ?_
    refine g_iload_n (q := 30) ok dX9_isSettled_29 rfl 3 rfl rfl ?_
    refine g_callSi (q := 33) (As := [.int a0, .int v6, .int a3]) (st := []) ok tbl_good dX9_isSettled_30 rfl (kX9_gainOfFirst _ _ _ _) cf_X9_316 ⟨rfl, rfl, Nat.le_of_ble_eq_true rfl, Nat.le_of_ble_eq_true rfl⟩ rfl rfl (fun _ => Nat.le_of_ble_eq_true rfl) (fun v8 w9 => ?_)
    refine g_iload (q := 35) ok dX9_isSettled_33 rfl 4 rfl ?_
    refine g_icmp_gt (q := 38) (g := 50) ok dX9_isSettled_35 rfl (by decide) ?_ ?_
    · refine g_iconst (v := (nI 0)) (q := 51) ok dX9_isSettled_50 rfl (by decide) ?_
      exact g_zret ok dX9_isSettled_51 rfl
    · refine g_iload_n (q := 39) ok dX9_isSettled_38 rfl 1 rfl rfl ?_
      refine g_iload_n (q := 40) ok dX9_isSettled_39 rfl 2 rfl rfl ?_
      refine g_iload (q := 42) ok dX9_isSettled_40 rfl 6 rfl ?_
      refine g_callSi (q := 45) (As := [.int a1, .int a2, .int v6]) (st := []) ok tbl_good dX9_isSettled_42 rfl (kX9_gainOfSecond _ _ _ _) cf_X9_319 ⟨rfl, rfl, Nat.le_of_ble_eq_true rfl, Nat.le_of_ble_eq_true rfl⟩ rfl rfl (fun _ => Nat.le_of_ble_eq_true rfl) (fun v10 w11 => ?_)
      refine g_iload (q := 47) ok dX9_isSettled_45 rfl 5 rfl ?_
      refine g_icmp_le (q := 50) (g := 52) ok dX9_isSettled_47 rfl (by decide) ?_ ?_
      · refine g_iinc (v := v6 + (nI 1)) (q := 55) (L' := [(6, .int (v6 + (nI 1))), (0, .int a0), (1, .int a1), (2, .int a2), (3, .int a3), (4, .int v1), (5, .int v3)]) ok dX9_isSettled_52 rfl 6 rfl rfl (by decide) rfl rfl ?_
        refine g_goto (q := 19) ok dX9_isSettled_55 (by decide) ?_
        refine g_to (L' := [(0, .int a0), (1, .int a1), (2, .int a2), (3, .int a3), (4, .int v1), (5, .int v3), (6, .int (v6 + (nI 1)))]) ?_ [1, 2, 3, 4, 5, 6, 0] rfl
        exact hgo5 _ _
      · refine g_iconst (v := (nI 0)) (q := 51) ok dX9_isSettled_50 rfl (by decide) ?_
        exact g_zret ok dX9_isSettled_51 rfl
set_option maxRecDepth 20000 in
theorem kX9_bids (N : Nat) (a1 : Int32) (a2 : Int32) (a3 : Int32) (w : gT) : gM S1 cl1 gTs yX9_bids cX9_bids 9 (some .int) rmX9_bids gi [.ref 0, .int a1, .int a2, .int a3] w (xX9_bids N a1 a2 a3 w) := by
  refine gM_of (own := RX9) [(0, .ref 0), (1, .int a1), (2, .int a2), (3, .int a3)] rfl (by decide) (fun _ => rfl) (fun _ => Nat.le_of_ble_eq_true rfl) (fun κ ok => ?_)
  unfold xX9_bids
  refine g_iload_n (q := 1) ok dX9_bids_0 rfl 1 rfl rfl ?_
  refine g_if_lt (q := 4) (g := 29) ok dX9_bids_1 rfl (by decide) ?_ ?_
  · refine g_iconst (v := (-1)) (q := 30) ok dX9_bids_29 rfl (by decide) ?_
    exact g_iret ok dX9_bids_30
  · refine g_iload_n (q := 5) ok dX9_bids_4 rfl 1 rfl rfl ?_
    refine g_bipush (v := (nI 20)) (q := 7) ok dX9_bids_5 rfl (by decide) ?_
    refine g_icmp_gt (q := 10) (g := 29) ok dX9_bids_7 rfl (by decide) ?_ ?_
    · refine g_iconst (v := (-1)) (q := 30) ok dX9_bids_29 rfl (by decide) ?_
      exact g_iret ok dX9_bids_30
    · refine g_iload_n (q := 11) ok dX9_bids_10 rfl 2 rfl rfl ?_
      refine g_if_lt (q := 14) (g := 29) ok dX9_bids_11 rfl (by decide) ?_ ?_
      · refine g_iconst (v := (-1)) (q := 30) ok dX9_bids_29 rfl (by decide) ?_
        exact g_iret ok dX9_bids_30
      · refine g_iload_n (q := 15) ok dX9_bids_14 rfl 2 rfl rfl ?_
        refine g_bipush (v := (nI 20)) (q := 17) ok dX9_bids_15 rfl (by decide) ?_
        refine g_icmp_gt (q := 20) (g := 29) ok dX9_bids_17 rfl (by decide) ?_ ?_
        · refine g_iconst (v := (-1)) (q := 30) ok dX9_bids_29 rfl (by decide) ?_
          exact g_iret ok dX9_bids_30
        · refine g_iload_n (q := 21) ok dX9_bids_20 rfl 3 rfl rfl ?_
          refine g_if_lt (q := 24) (g := 29) ok dX9_bids_21 rfl (by decide) ?_ ?_
          · refine g_iconst (v := (-1)) (q := 30) ok dX9_bids_29 rfl (by decide) ?_
            exact g_iret ok dX9_bids_30
          · refine g_iload_n (q := 25) ok dX9_bids_24 rfl 3 rfl rfl ?_
            refine g_iconst (v := (nI 2)) (q := 26) ok dX9_bids_25 rfl (by decide) ?_
            refine g_icmp_le (q := 29) (g := 31) ok dX9_bids_26 rfl (by decide) ?_ ?_
            · refine g_iconst (v := (nI 0)) (q := 32) ok dX9_bids_31 rfl (by decide) ?_
              refine g_istore (q := 34) (L' := [(4, .int (nI 0)), (0, .ref 0), (1, .int a1), (2, .int a2), (3, .int a3)]) ok dX9_bids_32 rfl (by decide) rfl rfl ?_
              refine g_iconst (v := (nI 0)) (q := 35) ok dX9_bids_34 rfl (by decide) ?_
              refine g_istore (q := 37) (L' := [(5, .int (nI 0)), (4, .int (nI 0)), (0, .ref 0), (1, .int a1), (2, .int a2), (3, .int a3)]) ok dX9_bids_35 rfl (by decide) rfl rfl ?_
              refine g_iconst (v := (nI 0)) (q := 38) ok dX9_bids_37 rfl (by decide) ?_
              refine g_istore (q := 40) (L' := [(6, .int (nI 0)), (5, .int (nI 0)), (4, .int (nI 0)), (0, .ref 0), (1, .int a1), (2, .int a2), (3, .int a3)]) ok dX9_bids_38 rfl (by decide) rfl rfl ?_
              refine g_iconst (v := (nI 1)) (q := 41) ok dX9_bids_40 rfl (by decide) ?_
              refine g_istore (q := 43) (L' := [(7, .int (nI 1)), (6, .int (nI 0)), (5, .int (nI 0)), (4, .int (nI 0)), (0, .ref 0), (1, .int a1), (2, .int a2), (3, .int a3)]) ok dX9_bids_41 rfl (by decide) rfl rfl ?_
              refine g_join (P := fun k1 => ∀ (v2 : Int32) (v3 : Int32) (v4 : Int32) (w5 : gT), gJ S1 cl1 rmX9_bids 9 gi κ 115 [(0, .ref 0), (3, .int a3), (4, .int v2), (5, .int v3), (6, .int v4)] [] w5 (k1 v2 v3 v4 w5)) (fun v2 v3 v4 w5 => ?_) (fun k1 hk1 => ?_)
              · refine g_iload_n (q := 116) ok dX9_bids_115 rfl 1 rfl rfl ?_
                refine g_if_ne (q := 119) (g := 122) ok dX9_bids_116 rfl (by decide) ?_ ?_
                · refine g_iload (q := 124) ok dX9_bids_122 rfl 2 rfl ?_
                  refine g_if_ne (q := 127) (g := 130) ok dX9_bids_124 rfl (by decide) ?_ ?_
                  · refine g_iload_n (q := 131) ok dX9_bids_130 rfl 1 rfl rfl ?_
                    refine g_iconst (v := (nI 1)) (q := 132) ok dX9_bids_131 rfl (by decide) ?_
                    refine g_icmp_ne (q := 135) (g := 140) ok dX9_bids_132 rfl (by decide) ?_ ?_
                    · refine g_iload (q := 142) ok dX9_bids_140 rfl 4 rfl ?_
                      exact g_iret ok dX9_bids_142
                    · refine g_iload (q := 137) ok dX9_bids_135 rfl 3 rfl ?_
                      refine g_goto (q := 142) ok dX9_bids_137 (by decide) ?_
                      exact g_iret ok dX9_bids_142
                  · refine g_bipush (v := (-2)) (q := 129) ok dX9_bids_127 rfl (by decide) ?_
                    exact g_iret ok dX9_bids_129
                · refine g_iload (q := 121) ok dX9_bids_119 rfl 2 rfl ?_
                  exact g_iret ok dX9_bids_121
              · refine g_to (L' := [(0, .ref 0), (1, .int a1), (2, .int a2), (3, .int a3), (4, .int (nI 0)), (5, .int (nI 0)), (6, .int (nI 0)), (7, .int (nI 1))]) ?_ [4, 5, 6, 7, 3, 2, 1, 0] rfl
                refine g_loop4 (Lf := fun v7 v8 v9 v10 => [(0, .ref 0), (1, .int a1), (2, .int a2), (3, .int a3), (4, .int v7), (5, .int v8), (6, .int v9), (7, .int v10)]) (fun go6 hgo6 v7 v8 v9 v10 w11 => ?_) N _ _ _ _ _
                unfold xX9_bids_b43
                refine g_iload (q := 45) ok dX9_bids_43 rfl 7 rfl ?_
                refine g_bipush (v := (nI 9)) (q := 47) ok dX9_bids_45 rfl (by decide) ?_
                refine g_icmp_gt (q := 50) (g := 115) ok dX9_bids_47 rfl (by decide) ?_ ?_
                · refine g_to (L' := [(0, .ref 0), (3, .int a3), (4, .int v7), (5, .int v8), (6, .int v9)]) ?_ [0, 3, 4, 5, 6] rfl
                  exact hk1 _ _ _ _
                · refine g_iconst (v := (nI 1)) (q := 51) ok dX9_bids_50 rfl (by decide) ?_
                  refine g_istore (q := 53) (L' := [(8, .int (nI 1)), (0, .ref 0), (1, .int a1), (2, .int a2), (3, .int a3), (4, .int v7), (5, .int v8), (6, .int v9), (7, .int v10)]) ok dX9_bids_51 rfl (by decide) rfl rfl ?_
                  refine g_join (P := fun k12 => ∀ (v13 : Int32) (v14 : Int32) (v15 : Int32) (w16 : gT), gJ S1 cl1 rmX9_bids 9 gi κ 109 [(0, .ref 0), (1, .int a1), (2, .int a2), (3, .int a3), (7, .int v10), (4, .int v13), (5, .int v14), (6, .int v15)] [] w16 (k12 v13 v14 v15 w16)) (fun v13 v14 v15 w16 => ?_) (fun k12 hk12 => ?_)
                  · refine g_iinc (v := v10 + (nI 1)) (q := 112) (L' := [(7, .int (v10 + (nI 1))), (0, .ref 0), (1, .int a1), (2, .int a2), (3, .int a3), (4, .int v13), (5, .int v14), (6, .int v15)]) ok dX9_bids_109 rfl 4 rfl rfl (by decide) rfl rfl ?_
                    refine g_goto (q := 43) ok dX9_bids_112 (by decide) ?_
                    refine g_to (L' := [(0, .ref 0), (1, .int a1), (2, .int a2), (3, .int a3), (4, .int v13), (5, .int v14), (6, .int v15), (7, .int (v10 + (nI 1)))]) ?_ [1, 2, 3, 4, 5, 6, 7, 0] rfl
                    exact hgo6 _ _ _ _ _
                  · refine g_to (L' := [(0, .ref 0), (1, .int a1), (2, .int a2), (3, .int a3), (7, .int v10), (4, .int v7), (5, .int v8), (6, .int v9), (8, .int (nI 1))]) ?_ [1, 2, 3, 4, 8, 5, 6, 7, 0] rfl
                    refine g_loop4 (Lf := fun v18 v19 v20 v21 => [(0, .ref 0), (1, .int a1), (2, .int a2), (3, .int a3), (7, .int v10), (4, .int v18), (5, .int v19), (6, .int v20), (8, .int v21)]) (fun go17 hgo17 v18 v19 v20 v21 w22 => ?_) N _ _ _ _ _
                    unfold xX9_bids_b53
                    refine g_iload (q := 55) ok dX9_bids_53 rfl 8 rfl ?_
                    refine g_bipush (v := (nI 9)) (q := 57) ok dX9_bids_55 rfl (by decide) ?_
                    refine g_icmp_gt (q := 60) (g := 109) ok dX9_bids_57 rfl (by decide) ?_ ?_
                    · refine g_to (L' := [(0, .ref 0), (1, .int a1), (2, .int a2), (3, .int a3), (7, .int v10), (4, .int v18), (5, .int v19), (6, .int v20)]) ?_ [0, 1, 2, 3, 4, 5, 6, 7] rfl
                      exact hk12 _ _ _ _
                    · refine g_join (P := fun k23 => ∀ (v24 : Int32) (v25 : Int32) (v26 : Int32) (w27 : gT), gJ S1 cl1 rmX9_bids 9 gi κ 103 [(0, .ref 0), (1, .int a1), (2, .int a2), (3, .int a3), (7, .int v10), (8, .int v21), (4, .int v24), (5, .int v25), (6, .int v26)] [] w27 (k23 v24 v25 v26 w27)) (fun v24 v25 v26 w27 => ?_) (fun k23 hk23 => ?_)
                      · refine g_iinc (v := v21 + (nI 1)) (q := 106) (L' := [(8, .int (v21 + (nI 1))), (0, .ref 0), (1, .int a1), (2, .int a2), (3, .int a3), (7, .int v10), (4, .int v24), (5, .int v25), (6, .int v26)]) ok dX9_bids_103 rfl 5 rfl rfl (by decide) rfl rfl ?_
                        refine g_goto (q := 53) ok dX9_bids_106 (by decide) ?_
                        refine g_to (L' := [(0, .ref 0), (1, .int a1), (2, .int a2), (3, .int a3), (7, .int v10), (4, .int v24), (5, .int v25), (6, .int v26), (8, .int (v21 + (nI 1)))]) ?_ [1, 2, 3, 4, 5, 6, 7, 8, 0] rfl
                        exact hgo17 _ _ _ _ _
                      · refine g_iload_n (q := 61) ok dX9_bids_60 rfl 1 rfl rfl ?_
                        refine g_iload_n (q := 62) ok dX9_bids_61 rfl 2 rfl rfl ?_
                        refine g_iload (q := 64) ok dX9_bids_62 rfl 4 rfl ?_
                        refine g_iload (q := 66) ok dX9_bids_64 rfl 8 rfl ?_
                        refine g_callSi (q := 69) (As := [.int a1, .int a2, .int v10, .int v21]) (st := []) ok tbl_good dX9_bids_66 rfl (kX9_isSettled N _ _ _ _ _) cf_X9_289 ⟨rfl, rfl, Nat.le_of_ble_eq_true rfl, Nat.le_of_ble_eq_true rfl⟩ rfl rfl (fun _ => Nat.le_of_ble_eq_true rfl) (fun v28 w29 => ?_)
                        refine g_if_eq (q := 72) (g := 103) ok dX9_bids_69 rfl (by decide) ?_ ?_
                        · refine g_to (L' := [(0, .ref 0), (1, .int a1), (2, .int a2), (3, .int a3), (7, .int v10), (8, .int v21), (4, .int v18), (5, .int v19), (6, .int v20)]) ?_ [0, 1, 2, 3, 4, 8, 5, 6, 7] rfl
                          exact hk23 _ _ _ _
                        · refine g_join (P := fun k30 => ∀ (v31 : Int32) (w32 : gT), gJ S1 cl1 rmX9_bids 9 gi κ 84 [(0, .ref 0), (1, .int a1), (2, .int a2), (3, .int a3), (4, .int v18), (6, .int v20), (7, .int v10), (8, .int v21)] [.int v31] w32 (k30 v31 w32)) (fun v31 w32 => ?_) (fun k30 hk30 => ?_)
                          · refine g_join (P := fun k33 => ∀ (v34 : Int32) (v35 : Int32) (w36 : gT), gJ S1 cl1 rmX9_bids 9 gi κ 98 [(0, .ref 0), (1, .int a1), (2, .int a2), (3, .int a3), (4, .int v18), (7, .int v10), (8, .int v21), (5, .int v34)] [.int v35] w36 (k33 v34 v35 w36)) (fun v34 v35 w36 => ?_) (fun k33 hk33 => ?_)
                            · refine g_istore (q := 100) (L' := [(6, .int v35), (0, .ref 0), (1, .int a1), (2, .int a2), (3, .int a3), (4, .int v18), (7, .int v10), (8, .int v21), (5, .int v34)]) ok dX9_bids_98 rfl (by decide) rfl rfl ?_
                              refine g_iinc (v := v18 + (nI 1)) (q := 103) (L' := [(4, .int (v18 + (nI 1))), (6, .int v35), (0, .ref 0), (1, .int a1), (2, .int a2), (3, .int a3), (7, .int v10), (8, .int v21), (5, .int v34)]) ok dX9_bids_100 rfl 5 rfl rfl (by decide) rfl rfl ?_
                              refine g_to (L' := [(0, .ref 0), (1, .int a1), (2, .int a2), (3, .int a3), (7, .int v10), (8, .int v21), (4, .int (v18 + (nI 1))), (5, .int v34), (6, .int v35)]) ?_ [2, 3, 4, 5, 6, 7, 0, 8, 1] rfl
                              exact hk23 _ _ _ _
                            · refine g_istore (q := 86) (L' := [(5, .int v31), (0, .ref 0), (1, .int a1), (2, .int a2), (3, .int a3), (4, .int v18), (6, .int v20), (7, .int v10), (8, .int v21)]) ok dX9_bids_84 rfl (by decide) rfl rfl ?_
                              refine g_iload (q := 88) ok dX9_bids_86 rfl 5 rfl ?_
                              refine g_if_ne (q := 91) (g := 96) ok dX9_bids_88 rfl (by decide) ?_ ?_
                              · refine g_iload (q := 98) ok dX9_bids_96 rfl 6 rfl ?_
                                refine g_to (L' := [(0, .ref 0), (1, .int a1), (2, .int a2), (3, .int a3), (4, .int v18), (7, .int v10), (8, .int v21), (5, .int v31)]) ?_ [1, 2, 3, 4, 5, 7, 8, 0] rfl
                                exact hk33 _ _ _
                              · refine g_iload (q := 93) ok dX9_bids_91 rfl 8 rfl ?_
                                refine g_goto (q := 98) ok dX9_bids_93 (by decide) ?_
                                refine g_to (L' := [(0, .ref 0), (1, .int a1), (2, .int a2), (3, .int a3), (4, .int v18), (7, .int v10), (8, .int v21), (5, .int v31)]) ?_ [1, 2, 3, 4, 5, 7, 8, 0] rfl
                                exact hk33 _ _ _
                          · refine g_iload (q := 74) ok dX9_bids_72 rfl 5 rfl ?_
                            refine g_if_ne (q := 77) (g := 82) ok dX9_bids_74 rfl (by decide) ?_ ?_
                            · refine g_iload (q := 84) ok dX9_bids_82 rfl 6 rfl ?_
                              refine g_to (L' := [(0, .ref 0), (1, .int a1), (2, .int a2), (3, .int a3), (4, .int v18), (6, .int v20), (7, .int v10), (8, .int v21)]) ?_ [0, 1, 2, 3, 5, 7, 4, 8] rfl
                              exact hk30 _ _
                            · refine g_iload (q := 79) ok dX9_bids_77 rfl 4 rfl ?_
                              refine g_goto (q := 84) ok dX9_bids_79 (by decide) ?_
                              refine g_to (L' := [(0, .ref 0), (1, .int a1), (2, .int a2), (3, .int a3), (4, .int v18), (6, .int v20), (7, .int v10), (8, .int v21)]) ?_ [0, 1, 2, 3, 5, 7, 4, 8] rfl
                              exact hk30 _ _
            · refine g_iconst (v := (-1)) (q := 30) ok dX9_bids_29 rfl (by decide) ?_
              exact g_iret ok dX9_bids_30
set_option maxRecDepth 20000 in
theorem kX8_reduced (N : Nat) (a0 : Int32) (a1 : Int32) (a2 : Int32) (w : gT) : gM S1 cl1 gTs yX8_reduced cX8_reduced 7 (some .int) rmX8_reduced gi [.int a0, .int a1, .int a2] w (xX8_reduced N a0 a1 a2 w) := by
  refine gM_of (own := RX8) [(0, .int a0), (1, .int a1), (2, .int a2)] rfl (by decide) (fun _ => rfl) (fun _ => Nat.le_of_ble_eq_true rfl) (fun κ ok => ?_)
  unfold xX8_reduced
  refine g_iload_n (q := 1) ok dX8_reduced_0 rfl 1 rfl rfl ?_
  refine g_istore_n (q := 2) (L' := [(3, .int a1), (0, .int a0), (1, .int a1), (2, .int a2)]) ok dX8_reduced_1 rfl rfl (by decide) rfl rfl ?_
  refine g_iload_n (q := 3) ok dX8_reduced_2 rfl 1 rfl rfl ?_
  refine g_istore (q := 5) (L' := [(4, .int a0), (3, .int a1), (0, .int a0), (1, .int a1), (2, .int a2)]) ok dX8_reduced_3 rfl (by decide) rfl rfl ?_
  refine g_iconst (v := (nI 0)) (q := 6) ok dX8_reduced_5 rfl (by decide) ?_
  refine g_istore (q := 8) (L' := [(5, .int (nI 0)), (4, .int a0), (3, .int a1), (0, .int a0), (1, .int a1), (2, .int a2)]) ok dX8_reduced_6 rfl (by decide) rfl rfl ?_
  refine g_join (P := fun k1 => ∀ (v2 : Int32) (w3 : gT), gJ S1 cl1 rmX8_reduced 7 gi κ 39 [(0, .int a0), (1, .int a1), (2, .int a2), (3, .int v2)] [] w3 (k1 v2 w3)) (fun v2 w3 => ?_) (fun k1 hk1 => ?_)
  · refine g_iload_n (q := 40) ok dX8_reduced_39 rfl 3 rfl rfl ?_
    refine g_if_gt (q := 43) (g := 45) ok dX8_reduced_40 rfl (by decide) ?_ ?_
    · refine g_iload_n (q := 46) ok dX8_reduced_45 rfl 2 rfl rfl ?_
      refine g_if_ne (q := 49) (g := 53) ok dX8_reduced_46 rfl (by decide) ?_ ?_
      · refine g_iload_n (q := 54) ok dX8_reduced_53 rfl 1 rfl rfl ?_
        refine g_iload_n (q := 55) ok dX8_reduced_54 rfl 3 rfl rfl ?_
        refine g_idivV (q := 56) ok dX8_reduced_55 rfl ?_
        exact g_iret ok dX8_reduced_56
      · refine g_iload_n (q := 50) ok dX8_reduced_49 rfl 0 rfl rfl ?_
        refine g_goto (q := 54) ok dX8_reduced_50 (by decide) ?_
        refine g_iload_n (q := 55) ok dX8_reduced_54 rfl 3 rfl rfl ?_
        refine g_idivV (q := 56) ok dX8_reduced_55 rfl ?_
        exact g_iret ok dX8_reduced_56
    · refine g_iconst (v := (-1)) (q := 44) ok dX8_reduced_43 rfl (by decide) ?_
      exact g_iret ok dX8_reduced_44
  · refine g_to (L' := [(0, .int a0), (1, .int a1), (2, .int a2), (3, .int a1), (4, .int a0), (5, .int (nI 0))]) ?_ [3, 4, 5, 2, 1, 0] rfl
    refine g_loop3 (Lf := fun v5 v6 v7 => [(0, .int a0), (1, .int a1), (2, .int a2), (3, .int v5), (4, .int v6), (5, .int v7)]) (fun go4 hgo4 v5 v6 v7 w8 => ?_) N _ _ _ _
    unfold xX8_reduced_b8
    refine g_iload (q := 10) ok dX8_reduced_8 rfl 5 rfl ?_
    refine g_bipush (v := (nI 64)) (q := 12) ok dX8_reduced_10 rfl (by decide) ?_
    refine g_icmp_ge (q := 15) (g := 39) ok dX8_reduced_12 rfl (by decide) ?_ ?_
    · refine g_to (L' := [(0, .int a0), (1, .int a1), (2, .int a2), (3, .int v5)]) ?_ [0, 1, 2, 3] rfl
      exact hk1 _ _
    · refine g_iload (q := 17) ok dX8_reduced_15 rfl 4 rfl ?_
      refine g_if_le (q := 20) (g := 39) ok dX8_reduced_17 rfl (by decide) ?_ ?_
      · refine g_to (L' := [(0, .int a0), (1, .int a1), (2, .int a2), (3, .int v5)]) ?_ [0, 1, 2, 3] rfl
        exact hk1 _ _
      · refine g_iload_n (q := 21) ok dX8_reduced_20 rfl 3 rfl rfl ?_
        refine g_iload (q := 23) ok dX8_reduced_21 rfl 4 rfl ?_
        refine g_iremV (q := 24) ok dX8_reduced_23 rfl ?_
        refine g_leti (fun v9 => ?_)
        refine g_istore (q := 26) (L' := [(6, .int v9), (0, .int a0), (1, .int a1), (2, .int a2), (3, .int v5), (4, .int v6), (5, .int v7)]) ok dX8_reduced_24 rfl (by decide) rfl rfl ?_
        refine g_iload (q := 28) ok dX8_reduced_26 rfl 5 rfl ?_
        refine g_istore_n (q := 29) (L' := [(3, .int v6), (6, .int v9), (0, .int a0), (1, .int a1), (2, .int a2), (4, .int v6), (5, .int v7)]) ok dX8_reduced_28 rfl rfl (by decide) rfl rfl ?_
        refine g_iload (q := 31) ok dX8_reduced_29 rfl 1 rfl ?_
        refine g_istore (q := 33) (L' := [(4, .int v9), (3, .int v6), (6, .int v9), (0, .int a0), (1, .int a1), (2, .int a2), (5, .int v7)]) ok dX8_reduced_31 rfl (by decide) rfl rfl ?_
        refine g_iinc (v := v7 + (nI 1)) (q := 36) (L' := [(5, .int (v7 + (nI 1))), (4, .int v9), (3, .int v6), (6, .int v9), (0, .int a0), (1, .int a1), (2, .int a2)]) ok dX8_reduced_33 rfl 6 rfl rfl (by decide) rfl rfl ?_
        refine g_goto (q := 8) ok dX8_reduced_36 (by decide) ?_
        refine g_to (L' := [(0, .int a0), (1, .int a1), (2, .int a2), (3, .int v6), (4, .int v9), (5, .int (v7 + (nI 1)))]) ?_ [4, 5, 6, 2, 1, 0] rfl
        exact hgo4 _ _ _ _
set_option maxRecDepth 20000 in
theorem kX8_oddsOf (N : Nat) (a1 : Int32) (a2 : Int32) (a3 : Int32) (w : gT) : gM S1 cl1 gTs yX8_oddsOf cX8_oddsOf 10 (some .int) rmX8_oddsOf gi [.ref 50, .int a1, .int a2, .int a3] w (xX8_oddsOf N a1 a2 a3 w) := by
  refine gM_of (own := RX8) [(0, .ref 50), (1, .int a1), (2, .int a2), (3, .int a3)] rfl (by decide) (fun _ => rfl) (fun _ => Nat.le_of_ble_eq_true rfl) (fun κ ok => ?_)
  unfold xX8_oddsOf
  refine g_iconst (v := (nI 0)) (q := 1) ok dX8_oddsOf_0 rfl (by decide) ?_
  refine g_istore (q := 3) (L' := [(4, .int (nI 0)), (0, .ref 50), (1, .int a1), (2, .int a2), (3, .int a3)]) ok dX8_oddsOf_1 rfl (by decide) rfl rfl ?_
  refine g_iconst (v := (nI 1)) (q := 4) ok dX8_oddsOf_3 rfl (by decide) ?_
  refine g_istore (q := 6) (L' := [(5, .int (nI 1)), (4, .int (nI 0)), (0, .ref 50), (1, .int a1), (2, .int a2), (3, .int a3)]) ok dX8_oddsOf_4 rfl (by decide) rfl rfl ?_
  refine g_iconst (v := (nI 1)) (q := 7) ok dX8_oddsOf_6 rfl (by decide) ?_
  refine g_istore (q := 9) (L' := [(6, .int (nI 1)), (5, .int (nI 1)), (4, .int (nI 0)), (0, .ref 50), (1, .int a1), (2, .int a2), (3, .int a3)]) ok dX8_oddsOf_7 rfl (by decide) rfl rfl ?_
  refine g_aload_n (q := 10) ok dX8_oddsOf_9 rfl 3 rfl rfl ?_
  refine g_aload_n (q := 11) ok dX8_oddsOf_10 rfl 3 rfl rfl ?_
  refine g_getR (q := 14) ok dX8_oddsOf_11 rfl fl_X8_15 sX_50 rfl ?_
  refine g_getI (q := 17) (N := 0) ok dX8_oddsOf_14 rfl fl_X8_40 sX_1 rfl ?_
  refine g_put (q := 20) ok dX8_oddsOf_17 rfl fp_X8_43 sX_50 rfl rfl rfl ?_
  refine g_letw (fun w1 => ?_)
  refine g_iconst (v := (nI 0)) (q := 21) ok dX8_oddsOf_20 rfl (by decide) ?_
  refine g_istore (q := 23) (L' := [(7, .int (nI 0)), (6, .int (nI 1)), (5, .int (nI 1)), (4, .int (nI 0)), (0, .ref 50), (1, .int a1), (2, .int a2), (3, .int a3)]) ok dX8_oddsOf_21 rfl (by decide) rfl rfl ?_
  refine g_join (P := fun k2 => ∀ (v3 : Int32) (v4 : Int32) (w5 : gT), gJ S1 cl1 rmX8_oddsOf 10 gi κ 208 [(0, .ref 50), (3, .int a3), (5, .int v3), (6, .int v4)] [] w5 (k2 v3 v4 w5)) (fun v3 v4 w5 => ?_) (fun k2 hk2 => ?_)
  · refine g_iload (q := 210) ok dX8_oddsOf_208 rfl 3 rfl ?_
    refine g_iload (q := 212) ok dX8_oddsOf_210 rfl 2 rfl ?_
    refine g_isub (q := 213) ok dX8_oddsOf_212 rfl ?_
    refine g_iload (q := 215) ok dX8_oddsOf_213 rfl 3 rfl ?_
    refine g_iload_n (q := 216) ok dX8_oddsOf_215 rfl 1 rfl rfl ?_
    refine g_callSi (q := 219) (As := [.int (v4 - v3), .int v4, .int a3]) (st := []) ok tbl_good dX8_oddsOf_216 rfl (kX8_reduced N _ _ _ _) cf_X8_99 ⟨rfl, rfl, Nat.le_of_ble_eq_true rfl, Nat.le_of_ble_eq_true rfl⟩ rfl rfl (fun _ => Nat.le_of_ble_eq_true rfl) (fun v6 w7 => ?_)
    exact g_iret ok dX8_oddsOf_219
  · refine g_to (L' := [(0, .ref 50), (1, .int a1), (2, .int a2), (3, .int a3), (4, .int (nI 0)), (5, .int (nI 1)), (6, .int (nI 1)), (7, .int (nI 0))]) ?_ [4, 5, 6, 7, 3, 2, 1, 0] rfl
    refine g_loop4 (Lf := fun v9 v10 v11 v12 => [(0, .ref 50), (1, .int a1), (2, .int a2), (3, .int a3), (4, .int v9), (5, .int v10), (6, .int v11), (7, .int v12)]) (fun go8 hgo8 v9 v10 v11 v12 w13 => ?_) N _ _ _ _ _
    unfold xX8_oddsOf_b23
    refine g_iload (q := 25) ok dX8_oddsOf_23 rfl 7 rfl ?_
    refine g_aload_n (q := 26) ok dX8_oddsOf_25 rfl 0 rfl rfl ?_
    refine g_getR (q := 29) ok dX8_oddsOf_26 rfl fl_X8_19 sX_50 rfl ?_
    refine g_getI (q := 32) (N := 0) ok dX8_oddsOf_29 rfl fl_X8_46 sX_21 rfl ?_
    refine g_icmp_ge (q := 35) (g := 208) ok dX8_oddsOf_32 rfl (by decide) ?_ ?_
    · refine g_to (L' := [(0, .ref 50), (3, .int a3), (5, .int v10), (6, .int v11)]) ?_ [0, 3, 5, 6] rfl
      exact hk2 _ _ _
    · refine g_join (P := fun k14 => ∀ (v15 : Int32) (v16 : Int32) (v17 : Int32) (w18 : gT), gJ S1 cl1 rmX8_oddsOf 10 gi κ 202 [(0, .ref 50), (1, .int a1), (2, .int a2), (3, .int a3), (7, .int v12), (4, .int v15), (5, .int v16), (6, .int v17)] [] w18 (k14 v15 v16 v17 w18)) (fun v15 v16 v17 w18 => ?_) (fun k14 hk14 => ?_)
      · refine g_iinc (v := v12 + (nI 1)) (q := 205) (L' := [(7, .int (v12 + (nI 1))), (0, .ref 50), (1, .int a1), (2, .int a2), (3, .int a3), (4, .int v15), (5, .int v16), (6, .int v17)]) ok dX8_oddsOf_202 rfl 4 rfl rfl (by decide) rfl rfl ?_
        refine g_goto (q := 23) ok dX8_oddsOf_205 (by decide) ?_
        refine g_to (L' := [(0, .ref 50), (1, .int a1), (2, .int a2), (3, .int a3), (4, .int v15), (5, .int v16), (6, .int v17), (7, .int (v12 + (nI 1)))]) ?_ [1, 2, 3, 4, 5, 6, 7, 0] rfl
        exact hgo8 _ _ _ _ _
      · refine g_aload_n (q := 36) ok dX8_oddsOf_35 rfl 0 rfl rfl ?_
        refine g_getR (q := 39) ok dX8_oddsOf_36 rfl fl_X8_19 sX_50 rfl ?_
        refine g_getR (q := 42) ok dX8_oddsOf_39 rfl fl_X8_51 sX_21 rfl ?_
        refine g_iload (q := 44) ok dX8_oddsOf_42 rfl 7 rfl ?_
        refine g_iald (q := 45) ok dX8_oddsOf_44 rfl sX_23 ?_
        refine g_iload_n (q := 46) ok dX8_oddsOf_45 rfl 1 rfl rfl ?_
        refine g_icmp_ne (q := 49) (g := 202) ok dX8_oddsOf_46 rfl (by decide) ?_ ?_
        · refine g_to (L' := [(0, .ref 50), (1, .int a1), (2, .int a2), (3, .int a3), (7, .int v12), (4, .int v9), (5, .int v10), (6, .int v11)]) ?_ [0, 1, 2, 3, 7, 4, 5, 6] rfl
          exact hk14 _ _ _ _
        · refine g_aload_n (q := 50) ok dX8_oddsOf_49 rfl 0 rfl rfl ?_
          refine g_getR (q := 53) ok dX8_oddsOf_50 rfl fl_X8_19 sX_50 rfl ?_
          refine g_iload (q := 55) ok dX8_oddsOf_53 rfl 7 rfl ?_
          refine g_aload_n (q := 56) ok dX8_oddsOf_55 rfl 0 rfl rfl ?_
          refine g_getR (q := 59) ok dX8_oddsOf_56 rfl fl_X8_15 sX_50 rfl ?_
          refine g_callVi (q := 62) (As := [.int v12, .ref 1]) (st := []) ok tbl_good dX8_oddsOf_59 rfl (kX7_isGone _ _) cf_X8_54 ⟨rfl, rfl, Nat.le_of_ble_eq_true rfl, Nat.le_of_ble_eq_true rfl⟩ sX_21 rfl rfl rfl (fun _ => Nat.le_of_ble_eq_true rfl) (fun v19 w20 => ?_)
          refine g_if_ne (q := 65) (g := 68) ok dX8_oddsOf_62 rfl (by decide) ?_ ?_
          · refine g_aload_n (q := 69) ok dX8_oddsOf_68 rfl 0 rfl rfl ?_
            refine g_iload (q := 71) ok dX8_oddsOf_69 rfl 7 rfl ?_
            refine g_callVi (q := 74) (As := [.int v12]) (st := []) ok tbl_good dX8_oddsOf_71 rfl (kX8_chainFor _ _) cf_X8_62 ⟨rfl, rfl, Nat.le_of_ble_eq_true rfl, Nat.le_of_ble_eq_true rfl⟩ sX_50 rfl rfl rfl (fun _ => Nat.le_of_ble_eq_true rfl) (fun v21 w22 => ?_)
            refine g_istore (q := 76) (L' := [(8, .int v21), (0, .ref 50), (1, .int a1), (2, .int a2), (3, .int a3), (4, .int v9), (5, .int v10), (6, .int v11), (7, .int v12)]) ok dX8_oddsOf_74 rfl (by decide) rfl rfl ?_
            refine g_aload_n (q := 77) ok dX8_oddsOf_76 rfl 1 rfl rfl ?_
            refine g_getR (q := 80) ok dX8_oddsOf_77 rfl fl_X8_19 sX_50 rfl ?_
            refine g_iload (q := 82) ok dX8_oddsOf_80 rfl 8 rfl ?_
            refine g_aload_n (q := 83) ok dX8_oddsOf_82 rfl 1 rfl rfl ?_
            refine g_getR (q := 86) ok dX8_oddsOf_83 rfl fl_X8_15 sX_50 rfl ?_
            refine g_callVi (q := 89) (As := [.int v12, .ref 1]) (st := []) ok tbl_good dX8_oddsOf_86 rfl (kX7_isClaimed N _ _) cf_X8_66 ⟨rfl, rfl, Nat.le_of_ble_eq_true rfl, Nat.le_of_ble_eq_true rfl⟩ sX_21 rfl rfl rfl (fun _ => Nat.le_of_ble_eq_true rfl) (fun v23 w24 => ?_)
            refine g_if_eq (q := 92) (g := 95) ok dX8_oddsOf_89 rfl (by decide) ?_ ?_
            · refine g_iinc (v := v9 + (nI 1)) (q := 98) (L' := [(4, .int (v9 + (nI 1))), (8, .int v21), (0, .ref 50), (1, .int a1), (2, .int a2), (3, .int a3), (5, .int v10), (6, .int v11), (7, .int v12)]) ok dX8_oddsOf_95 rfl 5 rfl rfl (by decide) rfl rfl ?_
              refine g_iload (q := 100) ok dX8_oddsOf_98 rfl 0 rfl ?_
              refine g_iconst (v := (nI 4)) (q := 101) ok dX8_oddsOf_100 rfl (by decide) ?_
              refine g_icmp_le (q := 104) (g := 107) ok dX8_oddsOf_101 rfl (by decide) ?_ ?_
              · refine g_join (P := fun k25 => ∀ (v26 : Int32) (w27 : gT), gJ S1 cl1 rmX8_oddsOf 10 gi κ 148 [(0, .ref 50), (1, .int a1), (2, .int a2), (3, .int a3), (4, .int (v9 + (nI 1))), (5, .int v10), (6, .int v11), (7, .int v12), (8, .int v21)] [.int v26] w27 (k25 v26 w27)) (fun v26 w27 => ?_) (fun k25 hk25 => ?_)
                · refine g_join (P := fun k28 => ∀ (v29 : Int32) (v30 : Int32) (v31 : Int32) (w32 : gT), gJ S1 cl1 rmX8_oddsOf 10 gi κ 199 [(0, .ref 50), (1, .int a1), (2, .int a2), (3, .int a3), (4, .int (v9 + (nI 1))), (7, .int v12), (6, .int v29)] [.int v31, .int v30] w32 (k28 v29 v30 v31 w32)) (fun v29 v30 v31 w32 => ?_) (fun k28 hk28 => ?_)
                  · refine g_imul (q := 200) ok dX8_oddsOf_199 rfl ?_
                    refine g_leti (fun v33 => ?_)
                    refine g_istore (q := 202) (L' := [(5, .int v33), (0, .ref 50), (1, .int a1), (2, .int a2), (3, .int a3), (4, .int (v9 + (nI 1))), (7, .int v12), (6, .int v29)]) ok dX8_oddsOf_200 rfl (by decide) rfl rfl ?_
                    refine g_to (L' := [(0, .ref 50), (1, .int a1), (2, .int a2), (3, .int a3), (7, .int v12), (4, .int (v9 + (nI 1))), (5, .int v33), (6, .int v29)]) ?_ [1, 2, 3, 4, 6, 5, 0, 7] rfl
                    exact hk14 _ _ _ _
                  · refine g_istore (q := 150) (L' := [(9, .int v26), (0, .ref 50), (1, .int a1), (2, .int a2), (3, .int a3), (4, .int (v9 + (nI 1))), (5, .int v10), (6, .int v11), (7, .int v12), (8, .int v21)]) ok dX8_oddsOf_148 rfl (by decide) rfl rfl ?_
                    refine g_iload (q := 152) ok dX8_oddsOf_150 rfl 7 rfl ?_
                    refine g_bipush (v := (nI 10)) (q := 154) ok dX8_oddsOf_152 rfl (by decide) ?_
                    refine g_imul (q := 155) ok dX8_oddsOf_154 rfl ?_
                    refine g_leti (fun v34 => ?_)
                    refine g_istore (q := 157) (L' := [(6, .int v34), (9, .int v26), (0, .ref 50), (1, .int a1), (2, .int a2), (3, .int a3), (4, .int (v9 + (nI 1))), (5, .int v10), (7, .int v12), (8, .int v21)]) ok dX8_oddsOf_155 rfl (by decide) rfl rfl ?_
                    refine g_iload (q := 159) ok dX8_oddsOf_157 rfl 7 rfl ?_
                    refine g_iload (q := 161) ok dX8_oddsOf_159 rfl 1 rfl ?_
                    refine g_if_eq (q := 164) (g := 197) ok dX8_oddsOf_161 rfl (by decide) ?_ ?_
                    · refine g_bipush (v := (nI 10)) (q := 199) ok dX8_oddsOf_197 rfl (by decide) ?_
                      refine g_to (L' := [(0, .ref 50), (1, .int a1), (2, .int a2), (3, .int a3), (4, .int (v9 + (nI 1))), (7, .int v12), (6, .int v34)]) ?_ [2, 3, 4, 5, 6, 8, 0] rfl
                      exact hk28 _ _ _ _
                    · refine g_aload_n (q := 165) ok dX8_oddsOf_164 rfl 2 rfl rfl ?_
                      refine g_getR (q := 168) ok dX8_oddsOf_165 rfl fl_X8_23 sX_50 rfl ?_
                      refine g_aload_n (q := 169) ok dX8_oddsOf_168 rfl 2 rfl rfl ?_
                      refine g_getR (q := 172) ok dX8_oddsOf_169 rfl fl_X8_19 sX_50 rfl ?_
                      refine g_getR (q := 175) ok dX8_oddsOf_172 rfl fl_X8_69 sX_21 rfl ?_
                      refine g_iload (q := 177) ok dX8_oddsOf_175 rfl 8 rfl ?_
                      refine g_iald (q := 178) ok dX8_oddsOf_177 rfl sX_22 ?_
                      refine g_iload_n (q := 179) ok dX8_oddsOf_178 rfl 3 rfl rfl ?_
                      refine g_aload_n (q := 180) ok dX8_oddsOf_179 rfl 2 rfl rfl ?_
                      refine g_getR (q := 183) ok dX8_oddsOf_180 rfl fl_X8_19 sX_50 rfl ?_
                      refine g_getR (q := 186) ok dX8_oddsOf_183 rfl fl_X8_72 sX_21 rfl ?_
                      refine g_iload (q := 188) ok dX8_oddsOf_186 rfl 8 rfl ?_
                      refine g_iald (q := 189) ok dX8_oddsOf_188 rfl sX_24 ?_
                      refine g_iload (q := 191) ok dX8_oddsOf_189 rfl 9 rfl ?_
                      refine g_callVi (q := 194) (As := [.int (w27.1 22 v12.toNatClampNeg), .int a1, .int (w27.1 24 v12.toNatClampNeg), .int v21]) (st := [.int v10]) ok tbl_good dX8_oddsOf_191 rfl (kX1_tenthsOf N _ _ _ _ _) cf_X8_76 ⟨rfl, rfl, Nat.le_of_ble_eq_true rfl, Nat.le_of_ble_eq_true rfl⟩ sX_48 rfl rfl rfl (fun _ => Nat.le_of_ble_eq_true rfl) (fun v35 w36 => ?_)
                      refine g_goto (q := 199) ok dX8_oddsOf_194 (by decide) ?_
                      refine g_to (L' := [(0, .ref 50), (1, .int a1), (2, .int a2), (3, .int a3), (4, .int (v9 + (nI 1))), (7, .int v12), (6, .int v34)]) ?_ [2, 3, 4, 5, 6, 8, 0] rfl
                      exact hk28 _ _ _ _
                · refine g_aload_n (q := 108) ok dX8_oddsOf_107 rfl 2 rfl rfl ?_
                  refine g_getR (q := 111) ok dX8_oddsOf_108 rfl fl_X8_23 sX_50 rfl ?_
                  refine g_aload_n (q := 112) ok dX8_oddsOf_111 rfl 2 rfl rfl ?_
                  refine g_getR (q := 115) ok dX8_oddsOf_112 rfl fl_X8_19 sX_50 rfl ?_
                  refine g_getR (q := 118) ok dX8_oddsOf_115 rfl fl_X8_69 sX_21 rfl ?_
                  refine g_iload (q := 120) ok dX8_oddsOf_118 rfl 8 rfl ?_
                  refine g_iald (q := 121) ok dX8_oddsOf_120 rfl sX_22 ?_
                  refine g_iload_n (q := 122) ok dX8_oddsOf_121 rfl 4 rfl rfl ?_
                  refine g_iload_n (q := 123) ok dX8_oddsOf_122 rfl 3 rfl rfl ?_
                  refine g_aload_n (q := 124) ok dX8_oddsOf_123 rfl 2 rfl rfl ?_
                  refine g_getR (q := 127) ok dX8_oddsOf_124 rfl fl_X8_19 sX_50 rfl ?_
                  refine g_getR (q := 130) ok dX8_oddsOf_127 rfl fl_X8_72 sX_21 rfl ?_
                  refine g_iload (q := 132) ok dX8_oddsOf_130 rfl 8 rfl ?_
                  refine g_iald (q := 133) ok dX8_oddsOf_132 rfl sX_24 ?_
                  refine g_iload (q := 135) ok dX8_oddsOf_133 rfl 1 rfl ?_
                  refine g_callVi (q := 138) (As := [.int (w24.1 22 v12.toNatClampNeg), .int a2, .int a1, .int (w24.1 24 v12.toNatClampNeg), .int v21]) (st := []) ok tbl_good dX8_oddsOf_135 rfl (kX1_frightOf N _ _ _ _ _ _) cf_X8_86 ⟨rfl, rfl, Nat.le_of_ble_eq_true rfl, Nat.le_of_ble_eq_true rfl⟩ sX_48 rfl rfl rfl (fun _ => Nat.le_of_ble_eq_true rfl) (fun v37 w38 => ?_)
                  refine g_bipush (v := (-2)) (q := 140) ok dX8_oddsOf_138 rfl (by decide) ?_
                  refine g_icmp_eq (q := 143) (g := 147) ok dX8_oddsOf_140 rfl (by decide) ?_ ?_
                  · refine g_iconst (v := (nI 0)) (q := 148) ok dX8_oddsOf_147 rfl (by decide) ?_
                    refine g_to (L' := [(0, .ref 50), (1, .int a1), (2, .int a2), (3, .int a3), (4, .int (v9 + (nI 1))), (5, .int v10), (6, .int v11), (7, .int v12), (8, .int v21)]) ?_ [2, 3, 4, 5, 0, 6, 7, 8, 1] rfl
                    exact hk25 _ _
                  · refine g_iconst (v := (nI 1)) (q := 144) ok dX8_oddsOf_143 rfl (by decide) ?_
                    refine g_goto (q := 148) ok dX8_oddsOf_144 (by decide) ?_
                    refine g_to (L' := [(0, .ref 50), (1, .int a1), (2, .int a2), (3, .int a3), (4, .int (v9 + (nI 1))), (5, .int v10), (6, .int v11), (7, .int v12), (8, .int v21)]) ?_ [2, 3, 4, 5, 0, 6, 7, 8, 1] rfl
                    exact hk25 _ _
              · refine g_bipush (v := (-2)) (q := 106) ok dX8_oddsOf_104 rfl (by decide) ?_
                exact g_iret ok dX8_oddsOf_106
            · refine g_goto (q := 202) ok dX8_oddsOf_92 (by decide) ?_
              refine g_to (L' := [(0, .ref 50), (1, .int a1), (2, .int a2), (3, .int a3), (7, .int v12), (4, .int v9), (5, .int v10), (6, .int v11)]) ?_ [1, 2, 3, 4, 8, 5, 6, 7] rfl
              exact hk14 _ _ _ _
          · refine g_goto (q := 202) ok dX8_oddsOf_65 (by decide) ?_
            refine g_to (L' := [(0, .ref 50), (1, .int a1), (2, .int a2), (3, .int a3), (7, .int v12), (4, .int v9), (5, .int v10), (6, .int v11)]) ?_ [0, 1, 2, 3, 7, 4, 5, 6] rfl
            exact hk14 _ _ _ _
set_option maxRecDepth 20000 in
theorem kX9_odds (N : Nat) (a1 : Int32) (a2 : Int32) (a3 : Int32) (w : gT) : gM S1 cl1 gTs yX9_odds cX9_odds 4 (some .int) rmX9_odds gi [.ref 0, .int a1, .int a2, .int a3] w (xX9_odds N a1 a2 a3 w) := by
  refine gM_of (own := RX9) [(0, .ref 0), (1, .int a1), (2, .int a2), (3, .int a3)] rfl (by decide) (fun _ => rfl) (fun _ => Nat.le_of_ble_eq_true rfl) (fun κ ok => ?_)
  unfold xX9_odds
  refine g_iload_n (q := 1) ok dX9_odds_0 rfl 1 rfl rfl ?_
  refine g_callSi (q := 4) (As := [.int a1]) (st := []) ok tbl_good dX9_odds_1 rfl (kX9_isNight _ _) cf_X9_103 ⟨rfl, rfl, Nat.le_of_ble_eq_true rfl, Nat.le_of_ble_eq_true rfl⟩ rfl rfl (fun _ => Nat.le_of_ble_eq_true rfl) (fun v1 w2 => ?_)
  refine g_if_eq (q := 7) (g := 27) ok dX9_odds_4 rfl (by decide) ?_ ?_
  · refine g_iconst (v := (-1)) (q := 28) ok dX9_odds_27 rfl (by decide) ?_
    exact g_iret ok dX9_odds_28
  · refine g_aload_n (q := 8) ok dX9_odds_7 rfl 0 rfl rfl ?_
    refine g_getR (q := 11) ok dX9_odds_8 rfl fl_X9_12 sX_0 rfl ?_
    refine g_iload_n (q := 12) ok dX9_odds_11 rfl 2 rfl rfl ?_
    refine g_callVi (q := 15) (As := [.int a2]) (st := []) ok tbl_good dX9_odds_12 rfl (kX2_hasSleeper _ _) cf_X9_117 ⟨rfl, rfl, Nat.le_of_ble_eq_true rfl, Nat.le_of_ble_eq_true rfl⟩ sX_1 rfl rfl rfl (fun _ => Nat.le_of_ble_eq_true rfl) (fun v3 w4 => ?_)
    refine g_if_eq (q := 18) (g := 27) ok dX9_odds_15 rfl (by decide) ?_ ?_
    · refine g_iconst (v := (-1)) (q := 28) ok dX9_odds_27 rfl (by decide) ?_
      exact g_iret ok dX9_odds_28
    · refine g_join (P := fun k5 => ∀ (w6 : gT), gJ S1 cl1 rmX9_odds 4 gi κ 29 [(0, .ref 0), (1, .int a1), (2, .int a2), (3, .int a3)] [] w6 (k5 w6)) (fun w6 => ?_) (fun k5 hk5 => ?_)
      · refine g_aload_n (q := 30) ok dX9_odds_29 rfl 0 rfl rfl ?_
        refine g_getR (q := 33) ok dX9_odds_30 rfl fl_X9_69 sX_0 rfl ?_
        refine g_iload_n (q := 34) ok dX9_odds_33 rfl 1 rfl rfl ?_
        refine g_iload_n (q := 35) ok dX9_odds_34 rfl 2 rfl rfl ?_
        refine g_iload_n (q := 36) ok dX9_odds_35 rfl 3 rfl rfl ?_
        refine g_callVi (q := 39) (As := [.int a1, .int a2, .int a3]) (st := []) ok tbl_good dX9_odds_36 rfl (kX8_oddsOf N _ _ _ _) cf_X9_293 ⟨rfl, rfl, Nat.le_of_ble_eq_true rfl, Nat.le_of_ble_eq_true rfl⟩ sX_50 rfl rfl rfl (fun _ => Nat.le_of_ble_eq_true rfl) (fun v7 w8 => ?_)
        exact g_iret ok dX9_odds_39
      · refine g_iload_n (q := 19) ok dX9_odds_18 rfl 3 rfl rfl ?_
        refine g_if_eq (q := 22) (g := 29) ok dX9_odds_19 rfl (by decide) ?_ ?_
        · exact hk5 _
        · refine g_iload_n (q := 23) ok dX9_odds_22 rfl 3 rfl rfl ?_
          refine g_iconst (v := (nI 1)) (q := 24) ok dX9_odds_23 rfl (by decide) ?_
          refine g_icmp_eq (q := 27) (g := 29) ok dX9_odds_24 rfl (by decide) ?_ ?_
          · exact hk5 _
          · refine g_iconst (v := (-1)) (q := 28) ok dX9_odds_27 rfl (by decide) ?_
            exact g_iret ok dX9_odds_28
set_option maxRecDepth 20000 in
theorem kX9_seed (a1 : Int32) (w : gT) : gM S1 cl1 gTs yX9_seed cX9_seed 2 (some .boolean) rmX9_seed gi [.ref 0, .int a1] w (xX9_seed a1 w) := by
  refine gM_of (own := RX9) [(0, .ref 0), (1, .int a1)] rfl (by decide) (fun _ => rfl) (fun _ => Nat.le_of_ble_eq_true rfl) (fun κ ok => ?_)
  unfold xX9_seed
  refine g_iload_n (q := 1) ok dX9_seed_0 rfl 1 rfl rfl ?_
  refine g_if_lt (q := 4) (g := 11) ok dX9_seed_1 rfl (by decide) ?_ ?_
  · refine g_iconst (v := (nI 0)) (q := 12) ok dX9_seed_11 rfl (by decide) ?_
    exact g_zret ok dX9_seed_12 rfl
  · refine g_iload_n (q := 5) ok dX9_seed_4 rfl 1 rfl rfl ?_
    refine g_ldcw (q := 8) ok dX9_seed_5 rfl tw_1000 ?_
    refine g_icmp_le (q := 11) (g := 13) ok dX9_seed_8 rfl (by decide) ?_ ?_
    · refine g_aload_n (q := 14) ok dX9_seed_13 rfl 0 rfl rfl ?_
      refine g_getR (q := 17) ok dX9_seed_14 rfl fl_X9_12 sX_0 rfl ?_
      refine g_iload_n (q := 18) ok dX9_seed_17 rfl 1 rfl rfl ?_
      refine g_put (q := 21) ok dX9_seed_18 rfl fp_X9_204 sX_1 rfl rfl rfl ?_
      refine g_letw (fun w1 => ?_)
      refine g_iconst (v := (nI 1)) (q := 22) ok dX9_seed_21 rfl (by decide) ?_
      exact g_zret ok dX9_seed_22 rfl
    · refine g_iconst (v := (nI 0)) (q := 12) ok dX9_seed_11 rfl (by decide) ?_
      exact g_zret ok dX9_seed_12 rfl
set_option maxRecDepth 20000 in
theorem kX2_copy (w : gT) : gM S1 cl1 gTs yX2_copy cX2_copy 2 none rmX2_copy gv [.ref 10, .ref 1] w (xX2_copy w) := by
  refine gM_of (own := RX2) [(0, .ref 10), (1, .ref 1)] rfl (by decide) (fun _ => rfl) (fun _ => Nat.le_of_ble_eq_true rfl) (fun κ ok => ?_)
  unfold xX2_copy
  refine g_aload_n (q := 1) ok dX2_copy_0 rfl 1 rfl rfl ?_
  refine g_getR (q := 4) ok dX2_copy_1 rfl fl_X2_9 sX_1 rfl ?_
  refine g_iconst (v := (nI 0)) (q := 5) ok dX2_copy_4 rfl (by decide) ?_
  refine g_aload_n (q := 6) ok dX2_copy_5 rfl 0 rfl rfl ?_
  refine g_getR (q := 9) ok dX2_copy_6 rfl fl_X2_9 sX_10 rfl ?_
  refine g_iconst (v := (nI 0)) (q := 10) ok dX2_copy_9 rfl (by decide) ?_
  refine g_bipush (v := (nI 12)) (q := 12) ok dX2_copy_10 rfl (by decide) ?_
  refine g_copy (N := 12) (q := 15) (st := []) ok dX2_copy_12 rfl tw_1009 tw_541 tw_540 tw_91 sX_2 sX_11 (by decide) (by decide) ⟨by decide, by decide⟩ ⟨Nat.le_of_ble_eq_true rfl, by decide +kernel⟩ (fun _ => Nat.le_of_ble_eq_true rfl) ?_
  refine g_letw (fun w1 => ?_)
  refine g_aload_n (q := 16) ok dX2_copy_15 rfl 1 rfl rfl ?_
  refine g_getR (q := 19) ok dX2_copy_16 rfl fl_X2_15 sX_1 rfl ?_
  refine g_iconst (v := (nI 0)) (q := 20) ok dX2_copy_19 rfl (by decide) ?_
  refine g_aload_n (q := 21) ok dX2_copy_20 rfl 0 rfl rfl ?_
  refine g_getR (q := 24) ok dX2_copy_21 rfl fl_X2_15 sX_10 rfl ?_
  refine g_iconst (v := (nI 0)) (q := 25) ok dX2_copy_24 rfl (by decide) ?_
  refine g_bipush (v := (nI 70)) (q := 27) ok dX2_copy_25 rfl (by decide) ?_
  refine g_copy (N := 70) (q := 30) (st := []) ok dX2_copy_27 rfl tw_1009 tw_541 tw_540 tw_91 sX_3 sX_12 (by decide) (by decide) ⟨by decide, by decide⟩ ⟨Nat.le_of_ble_eq_true rfl, by decide +kernel⟩ (fun _ => Nat.le_of_ble_eq_true rfl) ?_
  refine g_letw (fun w2 => ?_)
  refine g_aload_n (q := 31) ok dX2_copy_30 rfl 1 rfl rfl ?_
  refine g_getR (q := 34) ok dX2_copy_31 rfl fl_X2_18 sX_1 rfl ?_
  refine g_iconst (v := (nI 0)) (q := 35) ok dX2_copy_34 rfl (by decide) ?_
  refine g_aload_n (q := 36) ok dX2_copy_35 rfl 0 rfl rfl ?_
  refine g_getR (q := 39) ok dX2_copy_36 rfl fl_X2_18 sX_10 rfl ?_
  refine g_iconst (v := (nI 0)) (q := 40) ok dX2_copy_39 rfl (by decide) ?_
  refine g_bipush (v := (nI 10)) (q := 42) ok dX2_copy_40 rfl (by decide) ?_
  refine g_copy (N := 10) (q := 45) (st := []) ok dX2_copy_42 rfl tw_1009 tw_541 tw_540 tw_91 sX_4 sX_13 (by decide) (by decide) ⟨by decide, by decide⟩ ⟨Nat.le_of_ble_eq_true rfl, by decide +kernel⟩ (fun _ => Nat.le_of_ble_eq_true rfl) ?_
  refine g_letw (fun w3 => ?_)
  refine g_aload_n (q := 46) ok dX2_copy_45 rfl 1 rfl rfl ?_
  refine g_getR (q := 49) ok dX2_copy_46 rfl fl_X2_21 sX_1 rfl ?_
  refine g_iconst (v := (nI 0)) (q := 50) ok dX2_copy_49 rfl (by decide) ?_
  refine g_aload_n (q := 51) ok dX2_copy_50 rfl 0 rfl rfl ?_
  refine g_getR (q := 54) ok dX2_copy_51 rfl fl_X2_21 sX_10 rfl ?_
  refine g_iconst (v := (nI 0)) (q := 55) ok dX2_copy_54 rfl (by decide) ?_
  refine g_bipush (v := (nI 10)) (q := 57) ok dX2_copy_55 rfl (by decide) ?_
  refine g_copy (N := 10) (q := 60) (st := []) ok dX2_copy_57 rfl tw_1009 tw_541 tw_540 tw_91 sX_5 sX_14 (by decide) (by decide) ⟨by decide, by decide⟩ ⟨Nat.le_of_ble_eq_true rfl, by decide +kernel⟩ (fun _ => Nat.le_of_ble_eq_true rfl) ?_
  refine g_letw (fun w4 => ?_)
  refine g_aload_n (q := 61) ok dX2_copy_60 rfl 1 rfl rfl ?_
  refine g_getR (q := 64) ok dX2_copy_61 rfl fl_X2_24 sX_1 rfl ?_
  refine g_iconst (v := (nI 0)) (q := 65) ok dX2_copy_64 rfl (by decide) ?_
  refine g_aload_n (q := 66) ok dX2_copy_65 rfl 0 rfl rfl ?_
  refine g_getR (q := 69) ok dX2_copy_66 rfl fl_X2_24 sX_10 rfl ?_
  refine g_iconst (v := (nI 0)) (q := 70) ok dX2_copy_69 rfl (by decide) ?_
  refine g_bipush (v := (nI 10)) (q := 72) ok dX2_copy_70 rfl (by decide) ?_
  refine g_copy (N := 10) (q := 75) (st := []) ok dX2_copy_72 rfl tw_1009 tw_541 tw_540 tw_91 sX_6 sX_15 (by decide) (by decide) ⟨by decide, by decide⟩ ⟨Nat.le_of_ble_eq_true rfl, by decide +kernel⟩ (fun _ => Nat.le_of_ble_eq_true rfl) ?_
  refine g_letw (fun w5 => ?_)
  refine g_aload_n (q := 76) ok dX2_copy_75 rfl 1 rfl rfl ?_
  refine g_getR (q := 79) ok dX2_copy_76 rfl fl_X2_27 sX_1 rfl ?_
  refine g_iconst (v := (nI 0)) (q := 80) ok dX2_copy_79 rfl (by decide) ?_
  refine g_aload_n (q := 81) ok dX2_copy_80 rfl 0 rfl rfl ?_
  refine g_getR (q := 84) ok dX2_copy_81 rfl fl_X2_27 sX_10 rfl ?_
  refine g_iconst (v := (nI 0)) (q := 85) ok dX2_copy_84 rfl (by decide) ?_
  refine g_bipush (v := (nI 10)) (q := 87) ok dX2_copy_85 rfl (by decide) ?_
  refine g_copy (N := 10) (q := 90) (st := []) ok dX2_copy_87 rfl tw_1009 tw_541 tw_540 tw_91 sX_7 sX_16 (by decide) (by decide) ⟨by decide, by decide⟩ ⟨Nat.le_of_ble_eq_true rfl, by decide +kernel⟩ (fun _ => Nat.le_of_ble_eq_true rfl) ?_
  refine g_letw (fun w6 => ?_)
  refine g_aload_n (q := 91) ok dX2_copy_90 rfl 1 rfl rfl ?_
  refine g_getR (q := 94) ok dX2_copy_91 rfl fl_X2_30 sX_1 rfl ?_
  refine g_iconst (v := (nI 0)) (q := 95) ok dX2_copy_94 rfl (by decide) ?_
  refine g_aload_n (q := 96) ok dX2_copy_95 rfl 0 rfl rfl ?_
  refine g_getR (q := 99) ok dX2_copy_96 rfl fl_X2_30 sX_10 rfl ?_
  refine g_iconst (v := (nI 0)) (q := 100) ok dX2_copy_99 rfl (by decide) ?_
  refine g_bipush (v := (nI 10)) (q := 102) ok dX2_copy_100 rfl (by decide) ?_
  refine g_copy (N := 10) (q := 105) (st := []) ok dX2_copy_102 rfl tw_1009 tw_541 tw_540 tw_91 sX_8 sX_17 (by decide) (by decide) ⟨by decide, by decide⟩ ⟨Nat.le_of_ble_eq_true rfl, by decide +kernel⟩ (fun _ => Nat.le_of_ble_eq_true rfl) ?_
  refine g_letw (fun w7 => ?_)
  refine g_aload_n (q := 106) ok dX2_copy_105 rfl 1 rfl rfl ?_
  refine g_getR (q := 109) ok dX2_copy_106 rfl fl_X2_33 sX_1 rfl ?_
  refine g_iconst (v := (nI 0)) (q := 110) ok dX2_copy_109 rfl (by decide) ?_
  refine g_aload_n (q := 111) ok dX2_copy_110 rfl 0 rfl rfl ?_
  refine g_getR (q := 114) ok dX2_copy_111 rfl fl_X2_33 sX_10 rfl ?_
  refine g_iconst (v := (nI 0)) (q := 115) ok dX2_copy_114 rfl (by decide) ?_
  refine g_bipush (v := (nI 40)) (q := 117) ok dX2_copy_115 rfl (by decide) ?_
  refine g_copy (N := 40) (q := 120) (st := []) ok dX2_copy_117 rfl tw_1009 tw_541 tw_540 tw_91 sX_9 sX_18 (by decide) (by decide) ⟨by decide, by decide⟩ ⟨Nat.le_of_ble_eq_true rfl, by decide +kernel⟩ (fun _ => Nat.le_of_ble_eq_true rfl) ?_
  refine g_letw (fun w8 => ?_)
  refine g_aload_n (q := 121) ok dX2_copy_120 rfl 0 rfl rfl ?_
  refine g_aload_n (q := 122) ok dX2_copy_121 rfl 1 rfl rfl ?_
  refine g_getI (q := 125) (N := 0) ok dX2_copy_122 rfl fl_X2_43 sX_1 rfl ?_
  refine g_put (q := 128) ok dX2_copy_125 rfl fp_X2_43 sX_10 rfl rfl rfl ?_
  refine g_letw (fun w9 => ?_)
  refine g_aload_n (q := 129) ok dX2_copy_128 rfl 0 rfl rfl ?_
  refine g_aload_n (q := 130) ok dX2_copy_129 rfl 1 rfl rfl ?_
  refine g_getI (q := 133) (N := 0) ok dX2_copy_130 rfl fl_X2_46 sX_1 rfl ?_
  refine g_put (q := 136) ok dX2_copy_133 rfl fp_X2_46 sX_10 rfl rfl rfl ?_
  refine g_letw (fun w10 => ?_)
  refine g_aload_n (q := 137) ok dX2_copy_136 rfl 0 rfl rfl ?_
  refine g_aload_n (q := 138) ok dX2_copy_137 rfl 1 rfl rfl ?_
  refine g_getI (q := 141) (N := 0) ok dX2_copy_138 rfl fl_X2_65 sX_1 rfl ?_
  refine g_put (q := 144) ok dX2_copy_141 rfl fp_X2_65 sX_10 rfl rfl rfl ?_
  refine g_letw (fun w11 => ?_)
  refine g_aload_n (q := 145) ok dX2_copy_144 rfl 0 rfl rfl ?_
  refine g_aload_n (q := 146) ok dX2_copy_145 rfl 1 rfl rfl ?_
  refine g_getI (q := 149) (N := 0) ok dX2_copy_146 rfl fl_X2_36 sX_1 rfl ?_
  refine g_put (q := 152) ok dX2_copy_149 rfl fp_X2_36 sX_10 rfl rfl rfl ?_
  refine g_letw (fun w12 => ?_)
  refine g_aload_n (q := 153) ok dX2_copy_152 rfl 0 rfl rfl ?_
  refine g_aload_n (q := 154) ok dX2_copy_153 rfl 1 rfl rfl ?_
  refine g_getI (q := 157) (N := 0) ok dX2_copy_154 rfl fl_X2_68 sX_1 rfl ?_
  refine g_put (q := 160) ok dX2_copy_157 rfl fp_X2_68 sX_10 rfl rfl rfl ?_
  refine g_letw (fun w13 => ?_)
  refine g_aload_n (q := 161) ok dX2_copy_160 rfl 0 rfl rfl ?_
  refine g_aload_n (q := 162) ok dX2_copy_161 rfl 1 rfl rfl ?_
  refine g_getI (q := 165) (N := 0) ok dX2_copy_162 rfl fl_X2_40 sX_1 rfl ?_
  refine g_put (q := 168) ok dX2_copy_165 rfl fp_X2_40 sX_10 rfl rfl rfl ?_
  refine g_letw (fun w14 => ?_)
  exact g_vret ok dX2_copy_168
set_option maxRecDepth 20000 in
theorem kX9_keep (w : gT) : gM S1 cl1 gTs yX9_keep cX9_keep 1 (some .int) rmX9_keep gi [.ref 0] w (xX9_keep w) := by
  refine gM_of (own := RX9) [(0, .ref 0)] rfl (by decide) (fun _ => rfl) (fun _ => Nat.le_of_ble_eq_true rfl) (fun κ ok => ?_)
  unfold xX9_keep
  refine g_aload_n (q := 1) ok dX9_keep_0 rfl 0 rfl rfl ?_
  refine g_getR (q := 4) ok dX9_keep_1 rfl fl_X9_16 sX_0 rfl ?_
  refine g_aload_n (q := 5) ok dX9_keep_4 rfl 0 rfl rfl ?_
  refine g_getR (q := 8) ok dX9_keep_5 rfl fl_X9_12 sX_0 rfl ?_
  refine g_callVv (q := 11) (As := [.ref 1]) (st := []) ok tbl_good dX9_keep_8 rfl (kX2_copy _) cf_X9_297 ⟨rfl, rfl, Nat.le_of_ble_eq_true rfl, Nat.le_of_ble_eq_true rfl⟩ sX_10 rfl rfl rfl (fun _ => Nat.le_of_ble_eq_true rfl) (fun w1 => ?_)
  refine g_aload_n (q := 12) ok dX9_keep_11 rfl 0 rfl rfl ?_
  refine g_iconst (v := (nI 1)) (q := 13) ok dX9_keep_12 rfl (by decide) ?_
  refine g_put (q := 16) ok dX9_keep_13 rfl fp_X9_300 sX_0 rfl rfl rfl ?_
  refine g_letw (fun w2 => ?_)
  refine g_aload_n (q := 17) ok dX9_keep_16 rfl 0 rfl rfl ?_
  refine g_getR (q := 20) ok dX9_keep_17 rfl fl_X9_12 sX_0 rfl ?_
  refine g_getI (q := 23) (N := 0) ok dX9_keep_20 rfl fl_X9_198 sX_1 rfl ?_
  exact g_iret ok dX9_keep_23
set_option maxRecDepth 20000 in
theorem kX2_copy_1_10 (w : gT) : gM S1 cl1 gTs yX2_copy cX2_copy 2 none rmX2_copy_1_10 gv [.ref 1, .ref 10] w (xX2_copy_1_10 w) := by
  refine gM_of (own := RX2) [(0, .ref 1), (1, .ref 10)] rfl (by decide) (fun _ => rfl) (fun _ => Nat.le_of_ble_eq_true rfl) (fun κ ok => ?_)
  unfold xX2_copy_1_10
  refine g_aload_n (q := 1) ok dX2_copy_0 rfl 1 rfl rfl ?_
  refine g_getR (q := 4) ok dX2_copy_1 rfl fl_X2_9 sX_10 rfl ?_
  refine g_iconst (v := (nI 0)) (q := 5) ok dX2_copy_4 rfl (by decide) ?_
  refine g_aload_n (q := 6) ok dX2_copy_5 rfl 0 rfl rfl ?_
  refine g_getR (q := 9) ok dX2_copy_6 rfl fl_X2_9 sX_1 rfl ?_
  refine g_iconst (v := (nI 0)) (q := 10) ok dX2_copy_9 rfl (by decide) ?_
  refine g_bipush (v := (nI 12)) (q := 12) ok dX2_copy_10 rfl (by decide) ?_
  refine g_copy (N := 12) (q := 15) (st := []) ok dX2_copy_12 rfl tw_1009 tw_541 tw_540 tw_91 sX_11 sX_2 (by decide) (by decide) ⟨by decide, by decide⟩ ⟨Nat.le_of_ble_eq_true rfl, by decide +kernel⟩ (fun _ => Nat.le_of_ble_eq_true rfl) ?_
  refine g_letw (fun w1 => ?_)
  refine g_aload_n (q := 16) ok dX2_copy_15 rfl 1 rfl rfl ?_
  refine g_getR (q := 19) ok dX2_copy_16 rfl fl_X2_15 sX_10 rfl ?_
  refine g_iconst (v := (nI 0)) (q := 20) ok dX2_copy_19 rfl (by decide) ?_
  refine g_aload_n (q := 21) ok dX2_copy_20 rfl 0 rfl rfl ?_
  refine g_getR (q := 24) ok dX2_copy_21 rfl fl_X2_15 sX_1 rfl ?_
  refine g_iconst (v := (nI 0)) (q := 25) ok dX2_copy_24 rfl (by decide) ?_
  refine g_bipush (v := (nI 70)) (q := 27) ok dX2_copy_25 rfl (by decide) ?_
  refine g_copy (N := 70) (q := 30) (st := []) ok dX2_copy_27 rfl tw_1009 tw_541 tw_540 tw_91 sX_12 sX_3 (by decide) (by decide) ⟨by decide, by decide⟩ ⟨Nat.le_of_ble_eq_true rfl, by decide +kernel⟩ (fun _ => Nat.le_of_ble_eq_true rfl) ?_
  refine g_letw (fun w2 => ?_)
  refine g_aload_n (q := 31) ok dX2_copy_30 rfl 1 rfl rfl ?_
  refine g_getR (q := 34) ok dX2_copy_31 rfl fl_X2_18 sX_10 rfl ?_
  refine g_iconst (v := (nI 0)) (q := 35) ok dX2_copy_34 rfl (by decide) ?_
  refine g_aload_n (q := 36) ok dX2_copy_35 rfl 0 rfl rfl ?_
  refine g_getR (q := 39) ok dX2_copy_36 rfl fl_X2_18 sX_1 rfl ?_
  refine g_iconst (v := (nI 0)) (q := 40) ok dX2_copy_39 rfl (by decide) ?_
  refine g_bipush (v := (nI 10)) (q := 42) ok dX2_copy_40 rfl (by decide) ?_
  refine g_copy (N := 10) (q := 45) (st := []) ok dX2_copy_42 rfl tw_1009 tw_541 tw_540 tw_91 sX_13 sX_4 (by decide) (by decide) ⟨by decide, by decide⟩ ⟨Nat.le_of_ble_eq_true rfl, by decide +kernel⟩ (fun _ => Nat.le_of_ble_eq_true rfl) ?_
  refine g_letw (fun w3 => ?_)
  refine g_aload_n (q := 46) ok dX2_copy_45 rfl 1 rfl rfl ?_
  refine g_getR (q := 49) ok dX2_copy_46 rfl fl_X2_21 sX_10 rfl ?_
  refine g_iconst (v := (nI 0)) (q := 50) ok dX2_copy_49 rfl (by decide) ?_
  refine g_aload_n (q := 51) ok dX2_copy_50 rfl 0 rfl rfl ?_
  refine g_getR (q := 54) ok dX2_copy_51 rfl fl_X2_21 sX_1 rfl ?_
  refine g_iconst (v := (nI 0)) (q := 55) ok dX2_copy_54 rfl (by decide) ?_
  refine g_bipush (v := (nI 10)) (q := 57) ok dX2_copy_55 rfl (by decide) ?_
  refine g_copy (N := 10) (q := 60) (st := []) ok dX2_copy_57 rfl tw_1009 tw_541 tw_540 tw_91 sX_14 sX_5 (by decide) (by decide) ⟨by decide, by decide⟩ ⟨Nat.le_of_ble_eq_true rfl, by decide +kernel⟩ (fun _ => Nat.le_of_ble_eq_true rfl) ?_
  refine g_letw (fun w4 => ?_)
  refine g_aload_n (q := 61) ok dX2_copy_60 rfl 1 rfl rfl ?_
  refine g_getR (q := 64) ok dX2_copy_61 rfl fl_X2_24 sX_10 rfl ?_
  refine g_iconst (v := (nI 0)) (q := 65) ok dX2_copy_64 rfl (by decide) ?_
  refine g_aload_n (q := 66) ok dX2_copy_65 rfl 0 rfl rfl ?_
  refine g_getR (q := 69) ok dX2_copy_66 rfl fl_X2_24 sX_1 rfl ?_
  refine g_iconst (v := (nI 0)) (q := 70) ok dX2_copy_69 rfl (by decide) ?_
  refine g_bipush (v := (nI 10)) (q := 72) ok dX2_copy_70 rfl (by decide) ?_
  refine g_copy (N := 10) (q := 75) (st := []) ok dX2_copy_72 rfl tw_1009 tw_541 tw_540 tw_91 sX_15 sX_6 (by decide) (by decide) ⟨by decide, by decide⟩ ⟨Nat.le_of_ble_eq_true rfl, by decide +kernel⟩ (fun _ => Nat.le_of_ble_eq_true rfl) ?_
  refine g_letw (fun w5 => ?_)
  refine g_aload_n (q := 76) ok dX2_copy_75 rfl 1 rfl rfl ?_
  refine g_getR (q := 79) ok dX2_copy_76 rfl fl_X2_27 sX_10 rfl ?_
  refine g_iconst (v := (nI 0)) (q := 80) ok dX2_copy_79 rfl (by decide) ?_
  refine g_aload_n (q := 81) ok dX2_copy_80 rfl 0 rfl rfl ?_
  refine g_getR (q := 84) ok dX2_copy_81 rfl fl_X2_27 sX_1 rfl ?_
  refine g_iconst (v := (nI 0)) (q := 85) ok dX2_copy_84 rfl (by decide) ?_
  refine g_bipush (v := (nI 10)) (q := 87) ok dX2_copy_85 rfl (by decide) ?_
  refine g_copy (N := 10) (q := 90) (st := []) ok dX2_copy_87 rfl tw_1009 tw_541 tw_540 tw_91 sX_16 sX_7 (by decide) (by decide) ⟨by decide, by decide⟩ ⟨Nat.le_of_ble_eq_true rfl, by decide +kernel⟩ (fun _ => Nat.le_of_ble_eq_true rfl) ?_
  refine g_letw (fun w6 => ?_)
  refine g_aload_n (q := 91) ok dX2_copy_90 rfl 1 rfl rfl ?_
  refine g_getR (q := 94) ok dX2_copy_91 rfl fl_X2_30 sX_10 rfl ?_
  refine g_iconst (v := (nI 0)) (q := 95) ok dX2_copy_94 rfl (by decide) ?_
  refine g_aload_n (q := 96) ok dX2_copy_95 rfl 0 rfl rfl ?_
  refine g_getR (q := 99) ok dX2_copy_96 rfl fl_X2_30 sX_1 rfl ?_
  refine g_iconst (v := (nI 0)) (q := 100) ok dX2_copy_99 rfl (by decide) ?_
  refine g_bipush (v := (nI 10)) (q := 102) ok dX2_copy_100 rfl (by decide) ?_
  refine g_copy (N := 10) (q := 105) (st := []) ok dX2_copy_102 rfl tw_1009 tw_541 tw_540 tw_91 sX_17 sX_8 (by decide) (by decide) ⟨by decide, by decide⟩ ⟨Nat.le_of_ble_eq_true rfl, by decide +kernel⟩ (fun _ => Nat.le_of_ble_eq_true rfl) ?_
  refine g_letw (fun w7 => ?_)
  refine g_aload_n (q := 106) ok dX2_copy_105 rfl 1 rfl rfl ?_
  refine g_getR (q := 109) ok dX2_copy_106 rfl fl_X2_33 sX_10 rfl ?_
  refine g_iconst (v := (nI 0)) (q := 110) ok dX2_copy_109 rfl (by decide) ?_
  refine g_aload_n (q := 111) ok dX2_copy_110 rfl 0 rfl rfl ?_
  refine g_getR (q := 114) ok dX2_copy_111 rfl fl_X2_33 sX_1 rfl ?_
  refine g_iconst (v := (nI 0)) (q := 115) ok dX2_copy_114 rfl (by decide) ?_
  refine g_bipush (v := (nI 40)) (q := 117) ok dX2_copy_115 rfl (by decide) ?_
  refine g_copy (N := 40) (q := 120) (st := []) ok dX2_copy_117 rfl tw_1009 tw_541 tw_540 tw_91 sX_18 sX_9 (by decide) (by decide) ⟨by decide, by decide⟩ ⟨Nat.le_of_ble_eq_true rfl, by decide +kernel⟩ (fun _ => Nat.le_of_ble_eq_true rfl) ?_
  refine g_letw (fun w8 => ?_)
  refine g_aload_n (q := 121) ok dX2_copy_120 rfl 0 rfl rfl ?_
  refine g_aload_n (q := 122) ok dX2_copy_121 rfl 1 rfl rfl ?_
  refine g_getI (q := 125) (N := 0) ok dX2_copy_122 rfl fl_X2_43 sX_10 rfl ?_
  refine g_put (q := 128) ok dX2_copy_125 rfl fp_X2_43 sX_1 rfl rfl rfl ?_
  refine g_letw (fun w9 => ?_)
  refine g_aload_n (q := 129) ok dX2_copy_128 rfl 0 rfl rfl ?_
  refine g_aload_n (q := 130) ok dX2_copy_129 rfl 1 rfl rfl ?_
  refine g_getI (q := 133) (N := 0) ok dX2_copy_130 rfl fl_X2_46 sX_10 rfl ?_
  refine g_put (q := 136) ok dX2_copy_133 rfl fp_X2_46 sX_1 rfl rfl rfl ?_
  refine g_letw (fun w10 => ?_)
  refine g_aload_n (q := 137) ok dX2_copy_136 rfl 0 rfl rfl ?_
  refine g_aload_n (q := 138) ok dX2_copy_137 rfl 1 rfl rfl ?_
  refine g_getI (q := 141) (N := 0) ok dX2_copy_138 rfl fl_X2_65 sX_10 rfl ?_
  refine g_put (q := 144) ok dX2_copy_141 rfl fp_X2_65 sX_1 rfl rfl rfl ?_
  refine g_letw (fun w11 => ?_)
  refine g_aload_n (q := 145) ok dX2_copy_144 rfl 0 rfl rfl ?_
  refine g_aload_n (q := 146) ok dX2_copy_145 rfl 1 rfl rfl ?_
  refine g_getI (q := 149) (N := 0) ok dX2_copy_146 rfl fl_X2_36 sX_10 rfl ?_
  refine g_put (q := 152) ok dX2_copy_149 rfl fp_X2_36 sX_1 rfl rfl rfl ?_
  refine g_letw (fun w12 => ?_)
  refine g_aload_n (q := 153) ok dX2_copy_152 rfl 0 rfl rfl ?_
  refine g_aload_n (q := 154) ok dX2_copy_153 rfl 1 rfl rfl ?_
  refine g_getI (q := 157) (N := 0) ok dX2_copy_154 rfl fl_X2_68 sX_10 rfl ?_
  refine g_put (q := 160) ok dX2_copy_157 rfl fp_X2_68 sX_1 rfl rfl rfl ?_
  refine g_letw (fun w13 => ?_)
  refine g_aload_n (q := 161) ok dX2_copy_160 rfl 0 rfl rfl ?_
  refine g_aload_n (q := 162) ok dX2_copy_161 rfl 1 rfl rfl ?_
  refine g_getI (q := 165) (N := 0) ok dX2_copy_162 rfl fl_X2_40 sX_10 rfl ?_
  refine g_put (q := 168) ok dX2_copy_165 rfl fp_X2_40 sX_1 rfl rfl rfl ?_
  refine g_letw (fun w14 => ?_)
  exact g_vret ok dX2_copy_168
set_option maxRecDepth 20000 in
theorem kX9_undo (w : gT) : gM S1 cl1 gTs yX9_undo cX9_undo 1 (some .boolean) rmX9_undo gi [.ref 0] w (xX9_undo w) := by
  refine gM_of (own := RX9) [(0, .ref 0)] rfl (by decide) (fun _ => rfl) (fun _ => Nat.le_of_ble_eq_true rfl) (fun κ ok => ?_)
  unfold xX9_undo
  refine g_aload_n (q := 1) ok dX9_undo_0 rfl 0 rfl rfl ?_
  refine g_getI (q := 4) (N := 0) ok dX9_undo_1 rfl fl_X9_300 sX_0 rfl ?_
  refine g_if_eq (q := 7) (g := 18) ok dX9_undo_4 rfl (by decide) ?_ ?_
  · refine g_aload_n (q := 19) ok dX9_undo_18 rfl 0 rfl rfl ?_
    refine g_getI (q := 22) (N := 0) ok dX9_undo_19 rfl fl_X9_300 sX_0 rfl ?_
    exact g_zretv ok dX9_undo_22
  · refine g_aload_n (q := 8) ok dX9_undo_7 rfl 0 rfl rfl ?_
    refine g_getR (q := 11) ok dX9_undo_8 rfl fl_X9_12 sX_0 rfl ?_
    refine g_aload_n (q := 12) ok dX9_undo_11 rfl 0 rfl rfl ?_
    refine g_getR (q := 15) ok dX9_undo_12 rfl fl_X9_16 sX_0 rfl ?_
    refine g_callVv (q := 18) (As := [.ref 10]) (st := []) ok tbl_good dX9_undo_15 rfl (kX2_copy_1_10 _) cf_X9_297 ⟨rfl, rfl, Nat.le_of_ble_eq_true rfl, Nat.le_of_ble_eq_true rfl⟩ sX_1 rfl rfl rfl (fun _ => Nat.le_of_ble_eq_true rfl) (fun w1 => ?_)
    refine g_aload_n (q := 19) ok dX9_undo_18 rfl 0 rfl rfl ?_
    refine g_getI (q := 22) (N := 0) ok dX9_undo_19 rfl fl_X9_300 sX_0 rfl ?_
    exact g_zretv ok dX9_undo_22
set_option maxRecDepth 20000 in
theorem kX6_numberAt (a1 : Int32) (w : gT) : gM S1 cl1 gTs yX6_numberAt cX6_numberAt 2 (some .int) rmX6_numberAt gi [.ref 19, .int a1] w (xX6_numberAt a1 w) := by
  refine gM_of (own := RX6) [(0, .ref 19), (1, .int a1)] rfl (by decide) (fun _ => rfl) (fun _ => Nat.le_of_ble_eq_true rfl) (fun κ ok => ?_)
  unfold xX6_numberAt
  refine g_iload_n (q := 1) ok dX6_numberAt_0 rfl 1 rfl rfl ?_
  refine g_if_lt (q := 4) (g := 13) ok dX6_numberAt_1 rfl (by decide) ?_ ?_
  · refine g_iconst (v := (nI 0)) (q := 14) ok dX6_numberAt_13 rfl (by decide) ?_
    exact g_iret ok dX6_numberAt_14
  · refine g_iload_n (q := 5) ok dX6_numberAt_4 rfl 1 rfl rfl ?_
    refine g_iconst (v := (nI 4)) (q := 6) ok dX6_numberAt_5 rfl (by decide) ?_
    refine g_iadd (q := 7) ok dX6_numberAt_6 rfl ?_
    refine g_sipush (v := (nI 220)) (q := 10) ok dX6_numberAt_7 rfl (by decide) ?_
    refine g_icmp_le (q := 13) (g := 15) ok dX6_numberAt_10 rfl (by decide) ?_ ?_
    · refine g_aload_n (q := 16) ok dX6_numberAt_15 rfl 0 rfl rfl ?_
      refine g_getR (q := 19) ok dX6_numberAt_16 rfl fl_X6_9 sX_19 rfl ?_
      refine g_iload_n (q := 20) ok dX6_numberAt_19 rfl 1 rfl rfl ?_
      refine g_iald (q := 21) ok dX6_numberAt_20 rfl sX_20 ?_
      refine g_bipush (v := (nI 24)) (q := 23) ok dX6_numberAt_21 rfl (by decide) ?_
      refine g_ishl (q := 24) ok dX6_numberAt_23 rfl ?_
      refine g_aload_n (q := 25) ok dX6_numberAt_24 rfl 0 rfl rfl ?_
      refine g_getR (q := 28) ok dX6_numberAt_25 rfl fl_X6_9 sX_19 rfl ?_
      refine g_iload_n (q := 29) ok dX6_numberAt_28 rfl 1 rfl rfl ?_
      refine g_iconst (v := (nI 1)) (q := 30) ok dX6_numberAt_29 rfl (by decide) ?_
      refine g_iadd (q := 31) ok dX6_numberAt_30 rfl ?_
      refine g_iald (q := 32) ok dX6_numberAt_31 rfl sX_20 ?_
      refine g_bipush (v := (nI 16)) (q := 34) ok dX6_numberAt_32 rfl (by decide) ?_
      refine g_ishl (q := 35) ok dX6_numberAt_34 rfl ?_
      refine g_ior (q := 36) ok dX6_numberAt_35 rfl ?_
      refine g_aload_n (q := 37) ok dX6_numberAt_36 rfl 0 rfl rfl ?_
      refine g_getR (q := 40) ok dX6_numberAt_37 rfl fl_X6_9 sX_19 rfl ?_
      refine g_iload_n (q := 41) ok dX6_numberAt_40 rfl 1 rfl rfl ?_
      refine g_iconst (v := (nI 2)) (q := 42) ok dX6_numberAt_41 rfl (by decide) ?_
      refine g_iadd (q := 43) ok dX6_numberAt_42 rfl ?_
      refine g_iald (q := 44) ok dX6_numberAt_43 rfl sX_20 ?_
      refine g_bipush (v := (nI 8)) (q := 46) ok dX6_numberAt_44 rfl (by decide) ?_
      refine g_ishl (q := 47) ok dX6_numberAt_46 rfl ?_
      refine g_ior (q := 48) ok dX6_numberAt_47 rfl ?_
      refine g_aload_n (q := 49) ok dX6_numberAt_48 rfl 0 rfl rfl ?_
      refine g_getR (q := 52) ok dX6_numberAt_49 rfl fl_X6_9 sX_19 rfl ?_
      refine g_iload_n (q := 53) ok dX6_numberAt_52 rfl 1 rfl rfl ?_
      refine g_iconst (v := (nI 3)) (q := 54) ok dX6_numberAt_53 rfl (by decide) ?_
      refine g_iadd (q := 55) ok dX6_numberAt_54 rfl ?_
      refine g_iald (q := 56) ok dX6_numberAt_55 rfl sX_20 ?_
      refine g_ior (q := 57) ok dX6_numberAt_56 rfl ?_
      exact g_iret ok dX6_numberAt_57
    · refine g_iconst (v := (nI 0)) (q := 14) ok dX6_numberAt_13 rfl (by decide) ?_
      exact g_iret ok dX6_numberAt_14
set_option maxRecDepth 20000 in
theorem kX9_check (N : Nat) (a1 : Int32) (w : gT) : gM S1 cl1 gTs yX9_check cX9_check 4 (some .int) rmX9_check gi [.ref 0, .int a1] w (xX9_check N a1 w) := by
  refine gM_of (own := RX9) [(0, .ref 0), (1, .int a1)] rfl (by decide) (fun _ => rfl) (fun _ => Nat.le_of_ble_eq_true rfl) (fun κ ok => ?_)
  unfold xX9_check
  refine g_iload_n (q := 1) ok dX9_check_0 rfl 1 rfl rfl ?_
  refine g_if_lt (q := 4) (g := 23) ok dX9_check_1 rfl (by decide) ?_ ?_
  · refine g_bipush (v := (-2)) (q := 25) ok dX9_check_23 rfl (by decide) ?_
    exact g_iret ok dX9_check_25
  · refine g_iload_n (q := 5) ok dX9_check_4 rfl 1 rfl rfl ?_
    refine g_bipush (v := (nI 10)) (q := 7) ok dX9_check_5 rfl (by decide) ?_
    refine g_icmp_gt (q := 10) (g := 23) ok dX9_check_7 rfl (by decide) ?_ ?_
    · refine g_bipush (v := (-2)) (q := 25) ok dX9_check_23 rfl (by decide) ?_
      exact g_iret ok dX9_check_25
    · refine g_iconst (v := (nI 4)) (q := 11) ok dX9_check_10 rfl (by decide) ?_
      refine g_iload_n (q := 12) ok dX9_check_11 rfl 1 rfl rfl ?_
      refine g_imul (q := 13) ok dX9_check_12 rfl ?_
      refine g_aload_n (q := 14) ok dX9_check_13 rfl 0 rfl rfl ?_
      refine g_getR (q := 17) ok dX9_check_14 rfl fl_X9_22 sX_0 rfl ?_
      refine g_getI (q := 20) (N := 0) ok dX9_check_17 rfl fl_X9_135 sX_19 rfl ?_
      refine g_icmp_le (q := 23) (g := 26) ok dX9_check_20 rfl (by decide) ?_ ?_
      · refine g_aload_n (q := 27) ok dX9_check_26 rfl 0 rfl rfl ?_
        refine g_getR (q := 30) ok dX9_check_27 rfl fl_X9_22 sX_0 rfl ?_
        refine g_iconst (v := (nI 4)) (q := 31) ok dX9_check_30 rfl (by decide) ?_
        refine g_iload_n (q := 32) ok dX9_check_31 rfl 1 rfl rfl ?_
        refine g_imul (q := 33) ok dX9_check_32 rfl ?_
        refine g_callVv (q := 36) (As := [.int ((nI 4) * a1)]) (st := []) ok tbl_good dX9_check_33 rfl (kX6_open _ _) cf_X9_138 ⟨rfl, rfl, Nat.le_of_ble_eq_true rfl, Nat.le_of_ble_eq_true rfl⟩ sX_19 rfl rfl rfl (fun _ => Nat.le_of_ble_eq_true rfl) (fun w1 => ?_)
        refine g_iconst (v := (nI 0)) (q := 37) ok dX9_check_36 rfl (by decide) ?_
        refine g_istore_n (q := 38) (L' := [(2, .int (nI 0)), (0, .ref 0), (1, .int a1)]) ok dX9_check_37 rfl rfl (by decide) rfl rfl ?_
        refine g_to (L' := [(0, .ref 0), (1, .int a1), (2, .int (nI 0))]) ?_ [1, 2, 0] rfl
        refine g_loop1 (Lf := fun v3 => [(0, .ref 0), (1, .int a1), (2, .int v3)]) (fun go2 hgo2 v3 w4 => ?_) N _ _
        unfold xX9_check_b38
        refine g_iload_n (q := 39) ok dX9_check_38 rfl 2 rfl rfl ?_
        refine g_iload_n (q := 40) ok dX9_check_39 rfl 1 rfl rfl ?_
        refine g_icmp_ge (q := 43) (g := 93) ok dX9_check_40 rfl (by decide) ?_ ?_
        · refine g_iconst (v := (-1)) (q := 94) ok dX9_check_93 rfl (by decide) ?_
          exact g_iret ok dX9_check_94
        · refine g_join (P := fun k5 => ∀ (v6 : Int32) (w7 : gT), gJ S1 cl1 rmX9_check 4 gi κ 70 [(0, .ref 0), (1, .int a1), (2, .int v3)] [.int v6] w7 (k5 v6 w7)) (fun v6 w7 => ?_) (fun k5 hk5 => ?_)
          · refine g_istore_n (q := 71) (L' := [(3, .int v6), (0, .ref 0), (1, .int a1), (2, .int v3)]) ok dX9_check_70 rfl rfl (by decide) rfl rfl ?_
            refine g_aload_n (q := 72) ok dX9_check_71 rfl 1 rfl rfl ?_
            refine g_getR (q := 75) ok dX9_check_72 rfl fl_X9_22 sX_0 rfl ?_
            refine g_iconst (v := (nI 4)) (q := 76) ok dX9_check_75 rfl (by decide) ?_
            refine g_iload_n (q := 77) ok dX9_check_76 rfl 3 rfl rfl ?_
            refine g_imul (q := 78) ok dX9_check_77 rfl ?_
            refine g_callVi (q := 81) (As := [.int ((nI 4) * v3)]) (st := []) ok tbl_good dX9_check_78 rfl (kX6_numberAt _ _) cf_X9_304 ⟨rfl, rfl, Nat.le_of_ble_eq_true rfl, Nat.le_of_ble_eq_true rfl⟩ sX_19 rfl rfl rfl (fun _ => Nat.le_of_ble_eq_true rfl) (fun v8 w9 => ?_)
            refine g_iload_n (q := 82) ok dX9_check_81 rfl 0 rfl rfl ?_
            refine g_icmp_eq (q := 85) (g := 87) ok dX9_check_82 rfl (by decide) ?_ ?_
            · refine g_iinc (v := v3 + (nI 1)) (q := 90) (L' := [(2, .int (v3 + (nI 1))), (3, .int v6), (0, .ref 0), (1, .int a1)]) ok dX9_check_87 rfl 3 rfl rfl (by decide) rfl rfl ?_
              refine g_goto (q := 38) ok dX9_check_90 (by decide) ?_
              refine g_to (L' := [(0, .ref 0), (1, .int a1), (2, .int (v3 + (nI 1)))]) ?_ [2, 3, 0] rfl
              exact hgo2 _ _
            · refine g_iload_n (q := 86) ok dX9_check_85 rfl 3 rfl rfl ?_
              exact g_iret ok dX9_check_86
          · refine g_aload_n (q := 44) ok dX9_check_43 rfl 0 rfl rfl ?_
            refine g_getR (q := 47) ok dX9_check_44 rfl fl_X9_12 sX_0 rfl ?_
            refine g_iload_n (q := 48) ok dX9_check_47 rfl 2 rfl rfl ?_
            refine g_callVi (q := 51) (As := [.int v3]) (st := []) ok tbl_good dX9_check_48 rfl (kX2_hasSleeper _ _) cf_X9_117 ⟨rfl, rfl, Nat.le_of_ble_eq_true rfl, Nat.le_of_ble_eq_true rfl⟩ sX_1 rfl rfl rfl (fun _ => Nat.le_of_ble_eq_true rfl) (fun v10 w11 => ?_)
            refine g_if_eq (q := 54) (g := 69) ok dX9_check_51 rfl (by decide) ?_ ?_
            · refine g_iconst (v := (nI 0)) (q := 70) ok dX9_check_69 rfl (by decide) ?_
              exact hk5 _ _
            · refine g_aload_n (q := 55) ok dX9_check_54 rfl 0 rfl rfl ?_
              refine g_getR (q := 58) ok dX9_check_55 rfl fl_X9_12 sX_0 rfl ?_
              refine g_getR (q := 61) ok dX9_check_58 rfl fl_X9_195 sX_1 rfl ?_
              refine g_bipush (v := (nI 10)) (q := 63) ok dX9_check_61 rfl (by decide) ?_
              refine g_iload_n (q := 64) ok dX9_check_63 rfl 2 rfl rfl ?_
              refine g_iadd (q := 65) ok dX9_check_64 rfl ?_
              refine g_iald (q := 66) ok dX9_check_65 rfl sX_9 ?_
              refine g_goto (q := 70) ok dX9_check_66 (by decide) ?_
              exact hk5 _ _
      · refine g_bipush (v := (-2)) (q := 25) ok dX9_check_23 rfl (by decide) ?_
        exact g_iret ok dX9_check_25
set_option maxRecDepth 20000 in
theorem kX9_countInHouse (a1 : Int32) (w : gT) : gM S1 cl1 gTs yX9_countInHouse cX9_countInHouse 3 (some .int) rmX9_countInHouse gi [.ref 0, .int a1] w (xX9_countInHouse a1 w) := by
  refine gM_of (own := RX9) [(0, .ref 0), (1, .int a1)] rfl (by decide) (fun _ => rfl) (fun _ => Nat.le_of_ble_eq_true rfl) (fun κ ok => ?_)
  unfold xX9_countInHouse
  refine g_join (P := fun k1 => ∀ (w2 : gT), gJ S1 cl1 rmX9_countInHouse 3 gi κ 25 [(0, .ref 0), (1, .int a1)] [] w2 (k1 w2)) (fun w2 => ?_) (fun k1 hk1 => ?_)
  · refine g_join (P := fun k3 => ∀ (w4 : gT), gJ S1 cl1 rmX9_countInHouse 3 gi κ 100 [(0, .ref 0), (1, .int a1)] [] w4 (k3 w4)) (fun w4 => ?_) (fun k3 hk3 => ?_)
    · refine g_iload_n (q := 101) ok dX9_countInHouse_100 rfl 1 rfl rfl ?_
      refine g_bipush (v := (nI 100)) (q := 103) ok dX9_countInHouse_101 rfl (by decide) ?_
      refine g_icmp_lt (q := 106) (g := 140) ok dX9_countInHouse_103 rfl (by decide) ?_ ?_
      · refine g_iconst (v := (-1)) (q := 141) ok dX9_countInHouse_140 rfl (by decide) ?_
        exact g_iret ok dX9_countInHouse_141
      · refine g_iload_n (q := 107) ok dX9_countInHouse_106 rfl 1 rfl rfl ?_
        refine g_sipush (v := (nI 170)) (q := 110) ok dX9_countInHouse_107 rfl (by decide) ?_
        refine g_icmp_ge (q := 113) (g := 140) ok dX9_countInHouse_110 rfl (by decide) ?_ ?_
        · refine g_iconst (v := (-1)) (q := 141) ok dX9_countInHouse_140 rfl (by decide) ?_
          exact g_iret ok dX9_countInHouse_141
        · refine g_aload_n (q := 114) ok dX9_countInHouse_113 rfl 0 rfl rfl ?_
          refine g_getR (q := 117) ok dX9_countInHouse_114 rfl fl_X9_12 sX_0 rfl ?_
          refine g_iload_n (q := 118) ok dX9_countInHouse_117 rfl 1 rfl rfl ?_
          refine g_bipush (v := (nI 10)) (q := 120) ok dX9_countInHouse_118 rfl (by decide) ?_
          refine g_iremC (q := 121) ok dX9_countInHouse_120 rfl (by decide) ?_
          refine g_callVi (q := 124) (As := [.int (gRem a1 (nI 10))]) (st := []) ok tbl_good dX9_countInHouse_121 rfl (kX2_hasSleeper _ _) cf_X9_117 ⟨rfl, rfl, Nat.le_of_ble_eq_true rfl, Nat.le_of_ble_eq_true rfl⟩ sX_1 rfl rfl rfl (fun _ => Nat.le_of_ble_eq_true rfl) (fun v5 w6 => ?_)
          refine g_if_eq (q := 127) (g := 140) ok dX9_countInHouse_124 rfl (by decide) ?_ ?_
          · refine g_iconst (v := (-1)) (q := 141) ok dX9_countInHouse_140 rfl (by decide) ?_
            exact g_iret ok dX9_countInHouse_141
          · refine g_aload_n (q := 128) ok dX9_countInHouse_127 rfl 0 rfl rfl ?_
            refine g_getR (q := 131) ok dX9_countInHouse_128 rfl fl_X9_12 sX_0 rfl ?_
            refine g_getR (q := 134) ok dX9_countInHouse_131 rfl fl_X9_120 sX_1 rfl ?_
            refine g_iload_n (q := 135) ok dX9_countInHouse_134 rfl 1 rfl rfl ?_
            refine g_bipush (v := (nI 100)) (q := 137) ok dX9_countInHouse_135 rfl (by decide) ?_
            refine g_isub (q := 138) ok dX9_countInHouse_137 rfl ?_
            refine g_iald (q := 139) ok dX9_countInHouse_138 rfl sX_3 ?_
            exact g_iret ok dX9_countInHouse_139
    · refine g_iload_n (q := 26) ok dX9_countInHouse_25 rfl 1 rfl rfl ?_
      refine g_bipush (v := (nI 30)) (q := 28) ok dX9_countInHouse_26 rfl (by decide) ?_
      refine g_icmp_lt (q := 31) (g := 100) ok dX9_countInHouse_28 rfl (by decide) ?_ ?_
      · exact hk3 _
      · refine g_iload_n (q := 32) ok dX9_countInHouse_31 rfl 1 rfl rfl ?_
        refine g_bipush (v := (nI 60)) (q := 34) ok dX9_countInHouse_32 rfl (by decide) ?_
        refine g_icmp_ge (q := 37) (g := 100) ok dX9_countInHouse_34 rfl (by decide) ?_ ?_
        · exact hk3 _
        · refine g_aload_n (q := 38) ok dX9_countInHouse_37 rfl 0 rfl rfl ?_
          refine g_getR (q := 41) ok dX9_countInHouse_38 rfl fl_X9_12 sX_0 rfl ?_
          refine g_iload_n (q := 42) ok dX9_countInHouse_41 rfl 1 rfl rfl ?_
          refine g_bipush (v := (nI 10)) (q := 44) ok dX9_countInHouse_42 rfl (by decide) ?_
          refine g_iremC (q := 45) ok dX9_countInHouse_44 rfl (by decide) ?_
          refine g_callVi (q := 48) (As := [.int (gRem a1 (nI 10))]) (st := []) ok tbl_good dX9_countInHouse_45 rfl (kX2_hasGhost _ _) cf_X9_178 ⟨rfl, rfl, Nat.le_of_ble_eq_true rfl, Nat.le_of_ble_eq_true rfl⟩ sX_1 rfl rfl rfl (fun _ => Nat.le_of_ble_eq_true rfl) (fun v7 w8 => ?_)
          refine g_if_eq (q := 51) (g := 100) ok dX9_countInHouse_48 rfl (by decide) ?_ ?_
          · exact hk3 _
          · refine g_iload_n (q := 52) ok dX9_countInHouse_51 rfl 1 rfl rfl ?_
            refine g_bipush (v := (nI 10)) (q := 54) ok dX9_countInHouse_52 rfl (by decide) ?_
            refine g_iremC (q := 55) ok dX9_countInHouse_54 rfl (by decide) ?_
            refine g_leti (fun v9 => ?_)
            refine g_istore_n (q := 56) (L' := [(2, .int v9), (0, .ref 0), (1, .int a1)]) ok dX9_countInHouse_55 rfl rfl (by decide) rfl rfl ?_
            refine g_iload_n (q := 57) ok dX9_countInHouse_56 rfl 2 rfl rfl ?_
            refine g_bipush (v := (nI 40)) (q := 59) ok dX9_countInHouse_57 rfl (by decide) ?_
            refine g_icmp_ge (q := 62) (g := 72) ok dX9_countInHouse_59 rfl (by decide) ?_ ?_
            · refine g_iload_n (q := 73) ok dX9_countInHouse_72 rfl 2 rfl rfl ?_
              refine g_bipush (v := (nI 50)) (q := 75) ok dX9_countInHouse_73 rfl (by decide) ?_
              refine g_icmp_ge (q := 78) (g := 90) ok dX9_countInHouse_75 rfl (by decide) ?_ ?_
              · refine g_aload_n (q := 91) ok dX9_countInHouse_90 rfl 1 rfl rfl ?_
                refine g_getR (q := 94) ok dX9_countInHouse_91 rfl fl_X9_12 sX_0 rfl ?_
                refine g_getR (q := 97) ok dX9_countInHouse_94 rfl fl_X9_313 sX_1 rfl ?_
                refine g_iload_n (q := 98) ok dX9_countInHouse_97 rfl 0 rfl rfl ?_
                refine g_iald (q := 99) ok dX9_countInHouse_98 rfl sX_8 ?_
                exact g_iret ok dX9_countInHouse_99
              · refine g_aload_n (q := 79) ok dX9_countInHouse_78 rfl 1 rfl rfl ?_
                refine g_getR (q := 82) ok dX9_countInHouse_79 rfl fl_X9_12 sX_0 rfl ?_
                refine g_getR (q := 85) ok dX9_countInHouse_82 rfl fl_X9_310 sX_1 rfl ?_
                refine g_iload_n (q := 86) ok dX9_countInHouse_85 rfl 0 rfl rfl ?_
                refine g_iald (q := 87) ok dX9_countInHouse_86 rfl sX_5 ?_
                refine g_goto (q := 99) ok dX9_countInHouse_87 (by decide) ?_
                exact g_iret ok dX9_countInHouse_99
            · refine g_aload_n (q := 63) ok dX9_countInHouse_62 rfl 1 rfl rfl ?_
              refine g_getR (q := 66) ok dX9_countInHouse_63 rfl fl_X9_12 sX_0 rfl ?_
              refine g_getR (q := 69) ok dX9_countInHouse_66 rfl fl_X9_243 sX_1 rfl ?_
              refine g_iload_n (q := 70) ok dX9_countInHouse_69 rfl 0 rfl rfl ?_
              refine g_iald (q := 71) ok dX9_countInHouse_70 rfl sX_6 ?_
              exact g_iret ok dX9_countInHouse_71
  · refine g_iload_n (q := 1) ok dX9_countInHouse_0 rfl 1 rfl rfl ?_
    refine g_bipush (v := (nI 10)) (q := 3) ok dX9_countInHouse_1 rfl (by decide) ?_
    refine g_icmp_lt (q := 6) (g := 25) ok dX9_countInHouse_3 rfl (by decide) ?_ ?_
    · exact hk1 _
    · refine g_iload_n (q := 7) ok dX9_countInHouse_6 rfl 1 rfl rfl ?_
      refine g_bipush (v := (nI 22)) (q := 9) ok dX9_countInHouse_7 rfl (by decide) ?_
      refine g_icmp_ge (q := 12) (g := 25) ok dX9_countInHouse_9 rfl (by decide) ?_ ?_
      · exact hk1 _
      · refine g_aload_n (q := 13) ok dX9_countInHouse_12 rfl 0 rfl rfl ?_
        refine g_getR (q := 16) ok dX9_countInHouse_13 rfl fl_X9_12 sX_0 rfl ?_
        refine g_getR (q := 19) ok dX9_countInHouse_16 rfl fl_X9_100 sX_1 rfl ?_
        refine g_iload_n (q := 20) ok dX9_countInHouse_19 rfl 1 rfl rfl ?_
        refine g_bipush (v := (nI 10)) (q := 22) ok dX9_countInHouse_20 rfl (by decide) ?_
        refine g_isub (q := 23) ok dX9_countInHouse_22 rfl ?_
        refine g_iald (q := 24) ok dX9_countInHouse_23 rfl sX_2 ?_
        exact g_iret ok dX9_countInHouse_24
