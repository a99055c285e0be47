set_option maxRecDepth 20000 in
theorem kX10_coldIn (N : Nat) (a1 : Int32) (w : gT) : gM S2 cl2 gTs yX10_coldIn cX10_coldIn 5 (some .int) rmX10_coldIn gi [.ref 0, .int a1] w (xX10_coldIn N a1 w) := by
  refine gM_of (own := RX10) [(0, .ref 0), (1, .int a1)] rfl (by decide) (fun _ => rfl) (fun _ => Nat.le_of_ble_eq_true rfl) (fun κ ok => ?_)
  unfold xX10_coldIn
  refine g_iconst (v := (nI 0)) (q := 1) ok dX10_coldIn_0 rfl (by decide) ?_
  refine g_istore_n (q := 2) (L' := [(2, .int (nI 0)), (0, .ref 0), (1, .int a1)]) ok dX10_coldIn_1 rfl rfl (by decide) rfl rfl ?_
  refine g_iconst (v := (nI 0)) (q := 3) ok dX10_coldIn_2 rfl (by decide) ?_
  refine g_istore_n (q := 4) (L' := [(3, .int (nI 0)), (2, .int (nI 0)), (0, .ref 0), (1, .int a1)]) ok dX10_coldIn_3 rfl rfl (by decide) rfl rfl ?_
  refine g_join (P := fun k1 => ∀ (v2 : Int32) (w3 : gT), gJ S2 cl2 rmX10_coldIn 5 gi κ 47 [(0, .ref 0), (2, .int v2)] [] w3 (k1 v2 w3)) (fun v2 w3 => ?_) (fun k1 hk1 => ?_)
  · refine g_iconst (v := (nI 0)) (q := 48) ok dX10_coldIn_47 rfl (by decide) ?_
    refine g_istore_n (q := 49) (L' := [(3, .int (nI 0)), (0, .ref 0), (2, .int v2)]) ok dX10_coldIn_48 rfl rfl (by decide) rfl rfl ?_
    refine g_iconst (v := (nI 0)) (q := 50) ok dX10_coldIn_49 rfl (by decide) ?_
    refine g_istore (q := 52) (L' := [(4, .int (nI 0)), (3, .int (nI 0)), (0, .ref 0), (2, .int v2)]) ok dX10_coldIn_50 rfl (by decide) rfl rfl ?_
    refine g_to (L' := [(0, .ref 0), (2, .int v2), (3, .int (nI 0)), (4, .int (nI 0))]) ?_ [2, 3, 1, 0] rfl
    refine g_loop2 (Lf := fun v5 v6 => [(0, .ref 0), (2, .int v2), (3, .int v5), (4, .int v6)]) (fun go4 hgo4 v5 v6 w7 => ?_) N _ _ _
    unfold xX10_coldIn_b52
    refine g_iload (q := 54) ok dX10_coldIn_52 rfl 3 rfl ?_
    refine g_bipush (v := (nI 10)) (q := 56) ok dX10_coldIn_54 rfl (by decide) ?_
    refine g_icmp_ge (q := 59) (g := 88) ok dX10_coldIn_56 rfl (by decide) ?_ ?_
    · refine g_iload_n (q := 89) ok dX10_coldIn_88 rfl 2 rfl rfl ?_
      exact g_iret ok dX10_coldIn_89
    · refine g_join (P := fun k8 => ∀ (v9 : Int32) (v10 : Int32) (w11 : gT), gJ S2 cl2 rmX10_coldIn 5 gi κ 80 [(0, .ref 0), (2, .int v2), (4, .int v6)] [.int v10, .int v9] w11 (k8 v9 v10 w11)) (fun v9 v10 w11 => ?_) (fun k8 hk8 => ?_)
      · refine g_iadd (q := 81) ok dX10_coldIn_80 rfl ?_
        refine g_leti (fun v12 => ?_)
        refine g_istore_n (q := 82) (L' := [(3, .int v12), (0, .ref 0), (2, .int v2), (4, .int v6)]) ok dX10_coldIn_81 rfl rfl (by decide) rfl rfl ?_
        refine g_iinc (v := v6 + (nI 1)) (q := 85) (L' := [(4, .int (v6 + (nI 1))), (3, .int v12), (0, .ref 0), (2, .int v2)]) ok dX10_coldIn_82 rfl 3 rfl rfl (by decide) rfl rfl ?_
        refine g_goto (q := 52) ok dX10_coldIn_85 (by decide) ?_
        refine g_to (L' := [(0, .ref 0), (2, .int v2), (3, .int v12), (4, .int (v6 + (nI 1)))]) ?_ [2, 3, 1, 0] rfl
        exact hgo4 _ _ _
      · refine g_iload_n (q := 60) ok dX10_coldIn_59 rfl 2 rfl rfl ?_
        refine g_iload_n (q := 61) ok dX10_coldIn_60 rfl 1 rfl rfl ?_
        refine g_iload (q := 63) ok dX10_coldIn_61 rfl 3 rfl ?_
        refine g_callSi (q := 66) (As := [.int v2, .int v6]) (st := [.int v5]) ok tbl_good dX10_coldIn_63 rfl (kX10_has _ _ _) cf_X10_164 ⟨rfl, rfl, Nat.le_of_ble_eq_true rfl, Nat.le_of_ble_eq_true rfl⟩ rfl rfl (fun _ => Nat.le_of_ble_eq_true rfl) (fun v13 w14 => ?_)
        refine g_if_eq (q := 69) (g := 79) ok dX10_coldIn_66 rfl (by decide) ?_ ?_
        · refine g_iconst (v := (nI 0)) (q := 80) ok dX10_coldIn_79 rfl (by decide) ?_
          refine g_to (L' := [(0, .ref 0), (2, .int v2), (4, .int v6)]) ?_ [0, 1, 3] rfl
          exact hk8 _ _ _
        · refine g_aload_n (q := 70) ok dX10_coldIn_69 rfl 0 rfl rfl ?_
          refine g_getR (q := 73) ok dX10_coldIn_70 rfl fl_X10_25 sM_0 rfl ?_
          refine g_iload (q := 75) ok dX10_coldIn_73 rfl 3 rfl ?_
          refine g_iald (q := 76) ok dX10_coldIn_75 rfl sM_6 ?_
          refine g_goto (q := 80) ok dX10_coldIn_76 (by decide) ?_
          refine g_to (L' := [(0, .ref 0), (2, .int v2), (4, .int v6)]) ?_ [0, 1, 3] rfl
          exact hk8 _ _ _
  · refine g_to (L' := [(0, .ref 0), (1, .int a1), (2, .int (nI 0)), (3, .int (nI 0))]) ?_ [2, 3, 1, 0] rfl
    refine g_loop2 (Lf := fun v16 v17 => [(0, .ref 0), (1, .int a1), (2, .int v16), (3, .int v17)]) (fun go15 hgo15 v16 v17 w18 => ?_) N _ _ _
    unfold xX10_coldIn_b4
    refine g_iload_n (q := 5) ok dX10_coldIn_4 rfl 3 rfl rfl ?_
    refine g_aload_n (q := 6) ok dX10_coldIn_5 rfl 0 rfl rfl ?_
    refine g_getI (q := 9) (N := 0) ok dX10_coldIn_6 rfl fl_X10_233 sM_0 rfl ?_
    refine g_icmp_ge (q := 12) (g := 47) ok dX10_coldIn_9 rfl (by decide) ?_ ?_
    · refine g_to (L' := [(0, .ref 0), (2, .int v16)]) ?_ [0, 2] rfl
      exact hk1 _ _
    · refine g_join (P := fun k19 => ∀ (v20 : Int32) (w21 : gT), gJ S2 cl2 rmX10_coldIn 5 gi κ 41 [(0, .ref 0), (1, .int a1), (3, .int v17), (2, .int v20)] [] w21 (k19 v20 w21)) (fun v20 w21 => ?_) (fun k19 hk19 => ?_)
      · refine g_iinc (v := v17 + (nI 1)) (q := 44) (L' := [(3, .int (v17 + (nI 1))), (0, .ref 0), (1, .int a1), (2, .int v20)]) ok dX10_coldIn_41 rfl 2 rfl rfl (by decide) rfl rfl ?_
        refine g_goto (q := 4) ok dX10_coldIn_44 (by decide) ?_
        refine g_to (L' := [(0, .ref 0), (1, .int a1), (2, .int v20), (3, .int (v17 + (nI 1)))]) ?_ [1, 2, 3, 0] rfl
        exact hgo15 _ _ _
      · refine g_aload_n (q := 13) ok dX10_coldIn_12 rfl 0 rfl rfl ?_
        refine g_getR (q := 16) ok dX10_coldIn_13 rfl fl_X10_44 sM_0 rfl ?_
        refine g_iload_n (q := 17) ok dX10_coldIn_16 rfl 3 rfl rfl ?_
        refine g_iald (q := 18) ok dX10_coldIn_17 rfl sM_12 ?_
        refine g_iload_n (q := 19) ok dX10_coldIn_18 rfl 1 rfl rfl ?_
        refine g_icmp_ne (q := 22) (g := 41) ok dX10_coldIn_19 rfl (by decide) ?_ ?_
        · refine g_to (L' := [(0, .ref 0), (1, .int a1), (3, .int v17), (2, .int v16)]) ?_ [0, 1, 3, 2] rfl
          exact hk19 _ _
        · refine g_aload_n (q := 23) ok dX10_coldIn_22 rfl 0 rfl rfl ?_
          refine g_iload_n (q := 24) ok dX10_coldIn_23 rfl 3 rfl rfl ?_
          refine g_callVi (q := 27) (As := [.int v17]) (st := []) ok tbl_good dX10_coldIn_24 rfl (kX10_counts N _ _) cf_X10_239 ⟨rfl, rfl, Nat.le_of_ble_eq_true rfl, Nat.le_of_ble_eq_true rfl⟩ sM_0 rfl rfl rfl (fun _ => Nat.le_of_ble_eq_true rfl) (fun v22 w23 => ?_)
          refine g_if_eq (q := 30) (g := 41) ok dX10_coldIn_27 rfl (by decide) ?_ ?_
          · refine g_to (L' := [(0, .ref 0), (1, .int a1), (3, .int v17), (2, .int v16)]) ?_ [0, 1, 3, 2] rfl
            exact hk19 _ _
          · refine g_iload_n (q := 31) ok dX10_coldIn_30 rfl 2 rfl rfl ?_
            refine g_iconst (v := (nI 1)) (q := 32) ok dX10_coldIn_31 rfl (by decide) ?_
            refine g_aload_n (q := 33) ok dX10_coldIn_32 rfl 0 rfl rfl ?_
            refine g_getR (q := 36) ok dX10_coldIn_33 rfl fl_X10_38 sM_0 rfl ?_
            refine g_iload_n (q := 37) ok dX10_coldIn_36 rfl 3 rfl rfl ?_
            refine g_iald (q := 38) ok dX10_coldIn_37 rfl sM_10 ?_
            refine g_ishl (q := 39) ok dX10_coldIn_38 rfl ?_
            refine g_ior (q := 40) ok dX10_coldIn_39 rfl ?_
            refine g_leti (fun v24 => ?_)
            refine g_istore_n (q := 41) (L' := [(2, .int v24), (0, .ref 0), (1, .int a1), (3, .int v17)]) ok dX10_coldIn_40 rfl rfl (by decide) rfl rfl ?_
            refine g_to (L' := [(0, .ref 0), (1, .int a1), (3, .int v17), (2, .int v24)]) ?_ [1, 2, 3, 0] rfl
            exact hk19 _ _
set_option maxRecDepth 20000 in
theorem kX10_laysWorths (N : Nat) (a1 : Int32) (w : gT) : gM S2 cl2 gTs yX10_laysWorths cX10_laysWorths 6 none rmX10_laysWorths gv [.ref 0, .int a1] w (xX10_laysWorths N a1 w) := by
  refine gM_of (own := RX10) [(0, .ref 0), (1, .int a1)] rfl (by decide) (fun _ => rfl) (fun _ => Nat.le_of_ble_eq_true rfl) (fun κ ok => ?_)
  unfold xX10_laysWorths
  refine g_iconst (v := (nI 0)) (q := 1) ok dX10_laysWorths_0 rfl (by decide) ?_
  refine g_istore_n (q := 2) (L' := [(2, .int (nI 0)), (0, .ref 0), (1, .int a1)]) ok dX10_laysWorths_1 rfl rfl (by decide) rfl rfl ?_
  refine g_to (L' := [(0, .ref 0), (1, .int a1), (2, .int (nI 0))]) ?_ [1, 2, 0] rfl
  refine g_loop1 (Lf := fun v2 => [(0, .ref 0), (1, .int a1), (2, .int v2)]) (fun go1 hgo1 v2 w3 => ?_) N _ _
  unfold xX10_laysWorths_b2
  refine g_iload_n (q := 3) ok dX10_laysWorths_2 rfl 2 rfl rfl ?_
  refine g_bipush (v := (nI 12)) (q := 5) ok dX10_laysWorths_3 rfl (by decide) ?_
  refine g_icmp_ge (q := 8) (g := 115) ok dX10_laysWorths_5 rfl (by decide) ?_ ?_
  · exact g_vret ok dX10_laysWorths_115
  · refine g_aload_n (q := 9) ok dX10_laysWorths_8 rfl 0 rfl rfl ?_
    refine g_iload_n (q := 10) ok dX10_laysWorths_9 rfl 2 rfl rfl ?_
    refine g_callVi (q := 13) (As := [.int v2]) (st := []) ok tbl_good dX10_laysWorths_10 rfl (kX10_coldIn N _ _) cf_X10_390 ⟨rfl, rfl, Nat.le_of_ble_eq_true rfl, Nat.le_of_ble_eq_true rfl⟩ sM_0 rfl rfl rfl (fun _ => Nat.le_of_ble_eq_true rfl) (fun v4 w5 => ?_)
    refine g_istore_n (q := 14) (L' := [(3, .int v4), (0, .ref 0), (1, .int a1), (2, .int v2)]) ok dX10_laysWorths_13 rfl rfl (by decide) rfl rfl ?_
    refine g_iconst (v := (nI 0)) (q := 15) ok dX10_laysWorths_14 rfl (by decide) ?_
    refine g_istore (q := 17) (L' := [(4, .int (nI 0)), (3, .int v4), (0, .ref 0), (1, .int a1), (2, .int v2)]) ok dX10_laysWorths_15 rfl (by decide) rfl rfl ?_
    refine g_join (P := fun k6 => ∀ (w7 : gT), gJ S2 cl2 rmX10_laysWorths 6 gv κ 109 [(0, .ref 0), (1, .int a1), (2, .int v2)] [] w7 (k6 w7)) (fun w7 => ?_) (fun k6 hk6 => ?_)
    · refine g_iinc (v := v2 + (nI 1)) (q := 112) (L' := [(2, .int (v2 + (nI 1))), (0, .ref 0), (1, .int a1)]) ok dX10_laysWorths_109 rfl 2 rfl rfl (by decide) rfl rfl ?_
      refine g_goto (q := 2) ok dX10_laysWorths_112 (by decide) ?_
      refine g_to (L' := [(0, .ref 0), (1, .int a1), (2, .int (v2 + (nI 1)))]) ?_ [1, 2, 0] rfl
      exact hgo1 _ _
    · refine g_to (L' := [(0, .ref 0), (1, .int a1), (2, .int v2), (3, .int v4), (4, .int (nI 0))]) ?_ [2, 3, 4, 1, 0] rfl
      refine g_loop1 (Lf := fun v9 => [(0, .ref 0), (1, .int a1), (2, .int v2), (3, .int v4), (4, .int v9)]) (fun go8 hgo8 v9 w10 => ?_) N _ _
      unfold xX10_laysWorths_b17
      refine g_iload (q := 19) ok dX10_laysWorths_17 rfl 4 rfl ?_
      refine g_iload_n (q := 20) ok dX10_laysWorths_19 rfl 1 rfl rfl ?_
      refine g_icmp_ge (q := 23) (g := 109) ok dX10_laysWorths_20 rfl (by decide) ?_ ?_
      · refine g_to (L' := [(0, .ref 0), (1, .int a1), (2, .int v2)]) ?_ [0, 1, 2] rfl
        exact hk6 _
      · refine g_iconst (v := (nI 0)) (q := 24) ok dX10_laysWorths_23 rfl (by decide) ?_
        refine g_istore (q := 26) (L' := [(5, .int (nI 0)), (0, .ref 0), (1, .int a1), (2, .int v2), (3, .int v4), (4, .int v9)]) ok dX10_laysWorths_24 rfl (by decide) rfl rfl ?_
        refine g_join (P := fun k11 => ∀ (w12 : gT), gJ S2 cl2 rmX10_laysWorths 6 gv κ 47 [(0, .ref 0), (1, .int a1), (2, .int v2), (3, .int v4), (4, .int v9)] [] w12 (k11 w12)) (fun w12 => ?_) (fun k11 hk11 => ?_)
        · refine g_aload_n (q := 48) ok dX10_laysWorths_47 rfl 0 rfl rfl ?_
          refine g_getR (q := 51) ok dX10_laysWorths_48 rfl fl_X10_99 sM_0 rfl ?_
          refine g_iconst (v := (nI 0)) (q := 52) ok dX10_laysWorths_51 rfl (by decide) ?_
          refine g_iload_n (q := 53) ok dX10_laysWorths_52 rfl 2 rfl rfl ?_
          refine g_iastC (j := 0) (q := 54) ok dX10_laysWorths_53 rfl sM_30 (by decide) (by decide) ?_
          refine g_letw (fun w13 => ?_)
          refine g_aload_n (q := 55) ok dX10_laysWorths_54 rfl 0 rfl rfl ?_
          refine g_getR (q := 58) ok dX10_laysWorths_55 rfl fl_X10_99 sM_0 rfl ?_
          refine g_iconst (v := (nI 2)) (q := 59) ok dX10_laysWorths_58 rfl (by decide) ?_
          refine g_aload_n (q := 60) ok dX10_laysWorths_59 rfl 0 rfl rfl ?_
          refine g_getR (q := 63) ok dX10_laysWorths_60 rfl fl_X10_7 sM_0 rfl ?_
          refine g_iload_n (q := 64) ok dX10_laysWorths_63 rfl 2 rfl rfl ?_
          refine g_iald (q := 65) ok dX10_laysWorths_64 rfl sM_1 ?_
          refine g_iastC (j := 2) (q := 66) ok dX10_laysWorths_65 rfl sM_30 (by decide) (by decide) ?_
          refine g_letw (fun w14 => ?_)
          refine g_aload_n (q := 67) ok dX10_laysWorths_66 rfl 0 rfl rfl ?_
          refine g_getR (q := 70) ok dX10_laysWorths_67 rfl fl_X10_99 sM_0 rfl ?_
          refine g_iconst (v := (nI 5)) (q := 71) ok dX10_laysWorths_70 rfl (by decide) ?_
          refine g_iload_n (q := 72) ok dX10_laysWorths_71 rfl 3 rfl rfl ?_
          refine g_iastC (j := 5) (q := 73) ok dX10_laysWorths_72 rfl sM_30 (by decide) (by decide) ?_
          refine g_letw (fun w15 => ?_)
          refine g_aload_n (q := 74) ok dX10_laysWorths_73 rfl 0 rfl rfl ?_
          refine g_getR (q := 77) ok dX10_laysWorths_74 rfl fl_X10_99 sM_0 rfl ?_
          refine g_bipush (v := (nI 11)) (q := 79) ok dX10_laysWorths_77 rfl (by decide) ?_
          refine g_iload (q := 81) ok dX10_laysWorths_79 rfl 4 rfl ?_
          refine g_iastC (j := 11) (q := 82) ok dX10_laysWorths_81 rfl sM_30 (by decide) (by decide) ?_
          refine g_letw (fun w16 => ?_)
          refine g_aload_n (q := 83) ok dX10_laysWorths_82 rfl 0 rfl rfl ?_
          refine g_getR (q := 86) ok dX10_laysWorths_83 rfl fl_X10_117 sM_0 rfl ?_
          refine g_bipush (v := (nI 12)) (q := 88) ok dX10_laysWorths_86 rfl (by decide) ?_
          refine g_iload (q := 90) ok dX10_laysWorths_88 rfl 4 rfl ?_
          refine g_imul (q := 91) ok dX10_laysWorths_90 rfl ?_
          refine g_iload_n (q := 92) ok dX10_laysWorths_91 rfl 2 rfl rfl ?_
          refine g_iadd (q := 93) ok dX10_laysWorths_92 rfl ?_
          refine g_aload_n (q := 94) ok dX10_laysWorths_93 rfl 0 rfl rfl ?_
          refine g_bipush (v := (nI 113)) (q := 96) ok dX10_laysWorths_94 rfl (by decide) ?_
          refine g_sipush (v := (nI 999)) (q := 99) ok dX10_laysWorths_96 rfl (by decide) ?_
          refine g_callVi (q := 102) (As := [.int (nI 113), .int (nI 999)]) (st := [.int (((nI 12) * v9) + v2), .ref 36]) ok tbl_good dX10_laysWorths_99 rfl (kX10_byLaw N _ _ _) cf_X10_333 ⟨rfl, rfl, Nat.le_of_ble_eq_true rfl, Nat.le_of_ble_eq_true rfl⟩ sM_0 rfl rfl rfl (fun _ => Nat.le_of_ble_eq_true rfl) (fun v17 w18 => ?_)
          refine g_iast (q := 103) ok dX10_laysWorths_102 rfl sM_36 ?_
          refine g_letw (fun w19 => ?_)
          refine g_iinc (v := v9 + (nI 1)) (q := 106) (L' := [(4, .int (v9 + (nI 1))), (0, .ref 0), (1, .int a1), (2, .int v2), (3, .int v4)]) ok dX10_laysWorths_103 rfl 4 rfl rfl (by decide) rfl rfl ?_
          refine g_goto (q := 17) ok dX10_laysWorths_106 (by decide) ?_
          refine g_to (L' := [(0, .ref 0), (1, .int a1), (2, .int v2), (3, .int v4), (4, .int (v9 + (nI 1)))]) ?_ [1, 2, 3, 4, 0] rfl
          exact hgo8 _ _
        · refine g_to (L' := [(0, .ref 0), (1, .int a1), (2, .int v2), (3, .int v4), (4, .int v9), (5, .int (nI 0))]) ?_ [1, 2, 3, 4, 5, 0] rfl
          refine g_loop1 (Lf := fun v21 => [(0, .ref 0), (1, .int a1), (2, .int v2), (3, .int v4), (4, .int v9), (5, .int v21)]) (fun go20 hgo20 v21 w22 => ?_) N _ _
          unfold xX10_laysWorths_b26
          refine g_iload (q := 28) ok dX10_laysWorths_26 rfl 5 rfl ?_
          refine g_bipush (v := (nI 12)) (q := 30) ok dX10_laysWorths_28 rfl (by decide) ?_
          refine g_icmp_ge (q := 33) (g := 47) ok dX10_laysWorths_30 rfl (by decide) ?_ ?_
          · refine g_to (L' := [(0, .ref 0), (1, .int a1), (2, .int v2), (3, .int v4), (4, .int v9)]) ?_ [0, 1, 2, 3, 4] rfl
            exact hk11 _
          · refine g_aload_n (q := 34) ok dX10_laysWorths_33 rfl 0 rfl rfl ?_
            refine g_getR (q := 37) ok dX10_laysWorths_34 rfl fl_X10_99 sM_0 rfl ?_
            refine g_iload (q := 39) ok dX10_laysWorths_37 rfl 5 rfl ?_
            refine g_iconst (v := (nI 0)) (q := 40) ok dX10_laysWorths_39 rfl (by decide) ?_
            refine g_iast (q := 41) ok dX10_laysWorths_40 rfl sM_30 ?_
            refine g_letw (fun w23 => ?_)
            refine g_iinc (v := v21 + (nI 1)) (q := 44) (L' := [(5, .int (v21 + (nI 1))), (0, .ref 0), (1, .int a1), (2, .int v2), (3, .int v4), (4, .int v9)]) ok dX10_laysWorths_41 rfl 5 rfl rfl (by decide) rfl rfl ?_
            refine g_goto (q := 26) ok dX10_laysWorths_44 (by decide) ?_
            refine g_to (L' := [(0, .ref 0), (1, .int a1), (2, .int v2), (3, .int v4), (4, .int v9), (5, .int (v21 + (nI 1)))]) ?_ [1, 2, 3, 4, 5, 0] rfl
            exact hgo20 _ _
set_option maxRecDepth 20000 in
theorem kX10_lodgeBy (a1 : Int32) (a2 : Int32) (a3 : Int32) (w : gT) : gM S2 cl2 gTs yX10_lodgeBy cX10_lodgeBy 4 (some .int) rmX10_lodgeBy gi [.ref 0, .int a1, .int a2, .int a3] w (xX10_lodgeBy a1 a2 a3 w) := by
  refine gM_of (own := RX10) [(0, .ref 0), (1, .int a1), (2, .int a2), (3, .int a3)] rfl (by decide) (fun _ => rfl) (fun _ => Nat.le_of_ble_eq_true rfl) (fun κ ok => ?_)
  unfold xX10_lodgeBy
  refine g_iload_n (q := 1) ok dX10_lodgeBy_0 rfl 2 rfl rfl ?_
  refine g_bipush (v := (nI 12)) (q := 3) ok dX10_lodgeBy_1 rfl (by decide) ?_
  refine g_icmp_ne (q := 6) (g := 23) ok dX10_lodgeBy_3 rfl (by decide) ?_ ?_
  · refine g_iload_n (q := 24) ok dX10_lodgeBy_23 rfl 3 rfl rfl ?_
    refine g_iload_n (q := 25) ok dX10_lodgeBy_24 rfl 2 rfl rfl ?_
    refine g_callSi (q := 28) (As := [.int a3, .int a2]) (st := []) ok tbl_good dX10_lodgeBy_25 rfl (kX10_has _ _ _) cf_X10_164 ⟨rfl, rfl, Nat.le_of_ble_eq_true rfl, Nat.le_of_ble_eq_true rfl⟩ rfl rfl (fun _ => Nat.le_of_ble_eq_true rfl) (fun v1 w2 => ?_)
    refine g_if_eq (q := 31) (g := 35) ok dX10_lodgeBy_28 rfl (by decide) ?_ ?_
    · refine g_aload_n (q := 36) ok dX10_lodgeBy_35 rfl 0 rfl rfl ?_
      refine g_getR (q := 39) ok dX10_lodgeBy_36 rfl fl_X10_117 sM_0 rfl ?_
      refine g_bipush (v := (nI 12)) (q := 41) ok dX10_lodgeBy_39 rfl (by decide) ?_
      refine g_iload_n (q := 42) ok dX10_lodgeBy_41 rfl 1 rfl rfl ?_
      refine g_imul (q := 43) ok dX10_lodgeBy_42 rfl ?_
      refine g_iload_n (q := 44) ok dX10_lodgeBy_43 rfl 2 rfl rfl ?_
      refine g_iadd (q := 45) ok dX10_lodgeBy_44 rfl ?_
      refine g_iald (q := 46) ok dX10_lodgeBy_45 rfl sM_36 ?_
      refine g_aload_n (q := 47) ok dX10_lodgeBy_46 rfl 0 rfl rfl ?_
      refine g_getR (q := 50) ok dX10_lodgeBy_47 rfl fl_X10_121 sM_0 rfl ?_
      refine g_sipush (v := (nI 4096)) (q := 53) ok dX10_lodgeBy_50 rfl (by decide) ?_
      refine g_iload_n (q := 54) ok dX10_lodgeBy_53 rfl 1 rfl rfl ?_
      refine g_iconst (v := (nI 1)) (q := 55) ok dX10_lodgeBy_54 rfl (by decide) ?_
      refine g_iadd (q := 56) ok dX10_lodgeBy_55 rfl ?_
      refine g_imul (q := 57) ok dX10_lodgeBy_56 rfl ?_
      refine g_iload_n (q := 58) ok dX10_lodgeBy_57 rfl 3 rfl rfl ?_
      refine g_iconst (v := (nI 1)) (q := 59) ok dX10_lodgeBy_58 rfl (by decide) ?_
      refine g_iload_n (q := 60) ok dX10_lodgeBy_59 rfl 2 rfl rfl ?_
      refine g_ishl (q := 61) ok dX10_lodgeBy_60 rfl ?_
      refine g_ior (q := 62) ok dX10_lodgeBy_61 rfl ?_
      refine g_iadd (q := 63) ok dX10_lodgeBy_62 rfl ?_
      refine g_iald (q := 64) ok dX10_lodgeBy_63 rfl sM_37 ?_
      refine g_iadd (q := 65) ok dX10_lodgeBy_64 rfl ?_
      exact g_iret ok dX10_lodgeBy_65
    · refine g_iconst (v := (-1)) (q := 32) ok dX10_lodgeBy_31 rfl (by decide) ?_
      refine g_goto (q := 65) ok dX10_lodgeBy_32 (by decide) ?_
      exact g_iret ok dX10_lodgeBy_65
  · refine g_aload_n (q := 7) ok dX10_lodgeBy_6 rfl 0 rfl rfl ?_
    refine g_getR (q := 10) ok dX10_lodgeBy_7 rfl fl_X10_121 sM_0 rfl ?_
    refine g_sipush (v := (nI 4096)) (q := 13) ok dX10_lodgeBy_10 rfl (by decide) ?_
    refine g_iload_n (q := 14) ok dX10_lodgeBy_13 rfl 1 rfl rfl ?_
    refine g_iconst (v := (nI 1)) (q := 15) ok dX10_lodgeBy_14 rfl (by decide) ?_
    refine g_iadd (q := 16) ok dX10_lodgeBy_15 rfl ?_
    refine g_imul (q := 17) ok dX10_lodgeBy_16 rfl ?_
    refine g_iload_n (q := 18) ok dX10_lodgeBy_17 rfl 3 rfl rfl ?_
    refine g_iadd (q := 19) ok dX10_lodgeBy_18 rfl ?_
    refine g_iald (q := 20) ok dX10_lodgeBy_19 rfl sM_37 ?_
    refine g_goto (q := 65) ok dX10_lodgeBy_20 (by decide) ?_
    exact g_iret ok dX10_lodgeBy_65
set_option maxRecDepth 20000 in
theorem kX10_laysJuly (N : Nat) (a1 : Int32) (w : gT) : gM S2 cl2 gTs yX10_laysJuly cX10_laysJuly 6 none rmX10_laysJuly gv [.ref 0, .int a1] w (xX10_laysJuly N a1 w) := by
  refine gM_of (own := RX10) [(0, .ref 0), (1, .int a1)] rfl (by decide) (fun _ => rfl) (fun _ => Nat.le_of_ble_eq_true rfl) (fun κ ok => ?_)
  unfold xX10_laysJuly
  refine g_iconst (v := (nI 0)) (q := 1) ok dX10_laysJuly_0 rfl (by decide) ?_
  refine g_istore_n (q := 2) (L' := [(2, .int (nI 0)), (0, .ref 0), (1, .int a1)]) ok dX10_laysJuly_1 rfl rfl (by decide) rfl rfl ?_
  refine g_join (P := fun k1 => ∀ (w2 : gT), gJ S2 cl2 rmX10_laysJuly 6 gv κ 28 [(0, .ref 0), (1, .int a1)] [] w2 (k1 w2)) (fun w2 => ?_) (fun k1 hk1 => ?_)
  · refine g_iload_n (q := 29) ok dX10_laysJuly_28 rfl 1 rfl rfl ?_
    refine g_iconst (v := (nI 1)) (q := 30) ok dX10_laysJuly_29 rfl (by decide) ?_
    refine g_isub (q := 31) ok dX10_laysJuly_30 rfl ?_
    refine g_leti (fun v3 => ?_)
    refine g_istore_n (q := 32) (L' := [(2, .int v3), (0, .ref 0), (1, .int a1)]) ok dX10_laysJuly_31 rfl rfl (by decide) rfl rfl ?_
    refine g_to (L' := [(0, .ref 0), (2, .int v3)]) ?_ [1, 0] rfl
    refine g_loop1 (Lf := fun v5 => [(0, .ref 0), (2, .int v5)]) (fun go4 hgo4 v5 w6 => ?_) N _ _
    unfold xX10_laysJuly_b32
    refine g_iload_n (q := 33) ok dX10_laysJuly_32 rfl 1 rfl rfl ?_
    refine g_if_lt (q := 36) (g := 118) ok dX10_laysJuly_33 rfl (by decide) ?_ ?_
    · exact g_vret ok dX10_laysJuly_118
    · refine g_iconst (v := (nI 0)) (q := 37) ok dX10_laysJuly_36 rfl (by decide) ?_
      refine g_istore_n (q := 38) (L' := [(3, .int (nI 0)), (0, .ref 0), (2, .int v5)]) ok dX10_laysJuly_37 rfl rfl (by decide) rfl rfl ?_
      refine g_join (P := fun k7 => ∀ (w8 : gT), gJ S2 cl2 rmX10_laysJuly 6 gv κ 112 [(0, .ref 0), (2, .int v5)] [] w8 (k7 w8)) (fun w8 => ?_) (fun k7 hk7 => ?_)
      · refine g_iinc (v := v5 + (-1)) (q := 115) (L' := [(2, .int (v5 + (-1))), (0, .ref 0)]) ok dX10_laysJuly_112 rfl 1 rfl rfl (by decide) rfl rfl ?_
        refine g_goto (q := 32) ok dX10_laysJuly_115 (by decide) ?_
        refine g_to (L' := [(0, .ref 0), (2, .int (v5 + (-1)))]) ?_ [1, 0] rfl
        exact hgo4 _ _
      · refine g_to (L' := [(0, .ref 0), (2, .int v5), (3, .int (nI 0))]) ?_ [1, 2, 0] rfl
        refine g_loop1 (Lf := fun v10 => [(0, .ref 0), (2, .int v5), (3, .int v10)]) (fun go9 hgo9 v10 w11 => ?_) N _ _
        unfold xX10_laysJuly_b38
        refine g_iload_n (q := 39) ok dX10_laysJuly_38 rfl 2 rfl rfl ?_
        refine g_sipush (v := (nI 4096)) (q := 42) ok dX10_laysJuly_39 rfl (by decide) ?_
        refine g_icmp_ge (q := 45) (g := 112) ok dX10_laysJuly_42 rfl (by decide) ?_ ?_
        · refine g_to (L' := [(0, .ref 0), (2, .int v5)]) ?_ [0, 1] rfl
          exact hk7 _
        · refine g_iconst (v := (-1)) (q := 46) ok dX10_laysJuly_45 rfl (by decide) ?_
          refine g_istore (q := 48) (L' := [(4, .int (-1)), (0, .ref 0), (2, .int v5), (3, .int v10)]) ok dX10_laysJuly_46 rfl (by decide) rfl rfl ?_
          refine g_iconst (v := (nI 0)) (q := 49) ok dX10_laysJuly_48 rfl (by decide) ?_
          refine g_istore (q := 51) (L' := [(5, .int (nI 0)), (4, .int (-1)), (0, .ref 0), (2, .int v5), (3, .int v10)]) ok dX10_laysJuly_49 rfl (by decide) rfl rfl ?_
          refine g_join (P := fun k12 => ∀ (v13 : Int32) (w14 : gT), gJ S2 cl2 rmX10_laysJuly 6 gv κ 92 [(0, .ref 0), (2, .int v5), (3, .int v10), (4, .int v13)] [] w14 (k12 v13 w14)) (fun v13 w14 => ?_) (fun k12 hk12 => ?_)
          · refine g_aload_n (q := 93) ok dX10_laysJuly_92 rfl 0 rfl rfl ?_
            refine g_getR (q := 96) ok dX10_laysJuly_93 rfl fl_X10_121 sM_0 rfl ?_
            refine g_sipush (v := (nI 4096)) (q := 99) ok dX10_laysJuly_96 rfl (by decide) ?_
            refine g_iload_n (q := 100) ok dX10_laysJuly_99 rfl 1 rfl rfl ?_
            refine g_imul (q := 101) ok dX10_laysJuly_100 rfl ?_
            refine g_iload_n (q := 102) ok dX10_laysJuly_101 rfl 2 rfl rfl ?_
            refine g_iadd (q := 103) ok dX10_laysJuly_102 rfl ?_
            refine g_iload (q := 105) ok dX10_laysJuly_103 rfl 3 rfl ?_
            refine g_iast (q := 106) ok dX10_laysJuly_105 rfl sM_37 ?_
            refine g_letw (fun w15 => ?_)
            refine g_iinc (v := v10 + (nI 1)) (q := 109) (L' := [(3, .int (v10 + (nI 1))), (0, .ref 0), (2, .int v5), (4, .int v13)]) ok dX10_laysJuly_106 rfl 2 rfl rfl (by decide) rfl rfl ?_
            refine g_goto (q := 38) ok dX10_laysJuly_109 (by decide) ?_
            refine g_to (L' := [(0, .ref 0), (2, .int v5), (3, .int (v10 + (nI 1)))]) ?_ [1, 2, 0] rfl
            exact hgo9 _ _
          · refine g_to (L' := [(0, .ref 0), (2, .int v5), (3, .int v10), (4, .int (-1)), (5, .int (nI 0))]) ?_ [2, 3, 4, 1, 0] rfl
            refine g_loop2 (Lf := fun v17 v18 => [(0, .ref 0), (2, .int v5), (3, .int v10), (4, .int v17), (5, .int v18)]) (fun go16 hgo16 v17 v18 w19 => ?_) N _ _ _
            unfold xX10_laysJuly_b51
            refine g_iload (q := 53) ok dX10_laysJuly_51 rfl 4 rfl ?_
            refine g_bipush (v := (nI 12)) (q := 55) ok dX10_laysJuly_53 rfl (by decide) ?_
            refine g_icmp_gt (q := 58) (g := 92) ok dX10_laysJuly_55 rfl (by decide) ?_ ?_
            · refine g_to (L' := [(0, .ref 0), (2, .int v5), (3, .int v10), (4, .int v17)]) ?_ [0, 1, 2, 3] rfl
              exact hk12 _ _
            · refine g_join (P := fun k20 => ∀ (v21 : Int32) (w22 : gT), gJ S2 cl2 rmX10_laysJuly 6 gv κ 84 [(0, .ref 0), (2, .int v5), (3, .int v10), (5, .int v18)] [.int v21] w22 (k20 v21 w22)) (fun v21 w22 => ?_) (fun k20 hk20 => ?_)
              · refine g_istore (q := 86) (L' := [(4, .int v21), (0, .ref 0), (2, .int v5), (3, .int v10), (5, .int v18)]) ok dX10_laysJuly_84 rfl (by decide) rfl rfl ?_
                refine g_iinc (v := v18 + (nI 1)) (q := 89) (L' := [(5, .int (v18 + (nI 1))), (4, .int v21), (0, .ref 0), (2, .int v5), (3, .int v10)]) ok dX10_laysJuly_86 rfl 4 rfl rfl (by decide) rfl rfl ?_
                refine g_goto (q := 51) ok dX10_laysJuly_89 (by decide) ?_
                refine g_to (L' := [(0, .ref 0), (2, .int v5), (3, .int v10), (4, .int v21), (5, .int (v18 + (nI 1)))]) ?_ [2, 3, 4, 1, 0] rfl
                exact hgo16 _ _ _
              · refine g_iload (q := 60) ok dX10_laysJuly_58 rfl 3 rfl ?_
                refine g_aload_n (q := 61) ok dX10_laysJuly_60 rfl 0 rfl rfl ?_
                refine g_iload_n (q := 62) ok dX10_laysJuly_61 rfl 1 rfl rfl ?_
                refine g_iload (q := 64) ok dX10_laysJuly_62 rfl 4 rfl ?_
                refine g_iload_n (q := 65) ok dX10_laysJuly_64 rfl 2 rfl rfl ?_
                refine g_callVi (q := 68) (As := [.int v5, .int v18, .int v10]) (st := [.int v17]) ok tbl_good dX10_laysJuly_65 rfl (kX10_lodgeBy _ _ _ _) cf_X10_393 ⟨rfl, rfl, Nat.le_of_ble_eq_true rfl, Nat.le_of_ble_eq_true rfl⟩ sM_0 rfl rfl rfl (fun _ => Nat.le_of_ble_eq_true rfl) (fun v23 w24 => ?_)
                refine g_icmp_le (q := 71) (g := 76) ok dX10_laysJuly_68 rfl (by decide) ?_ ?_
                · refine g_aload_n (q := 77) ok dX10_laysJuly_76 rfl 0 rfl rfl ?_
                  refine g_iload_n (q := 78) ok dX10_laysJuly_77 rfl 1 rfl rfl ?_
                  refine g_iload (q := 80) ok dX10_laysJuly_78 rfl 4 rfl ?_
                  refine g_iload_n (q := 81) ok dX10_laysJuly_80 rfl 2 rfl rfl ?_
                  refine g_callVi (q := 84) (As := [.int v5, .int v18, .int v10]) (st := []) ok tbl_good dX10_laysJuly_81 rfl (kX10_lodgeBy _ _ _ _) cf_X10_393 ⟨rfl, rfl, Nat.le_of_ble_eq_true rfl, Nat.le_of_ble_eq_true rfl⟩ sM_0 rfl rfl rfl (fun _ => Nat.le_of_ble_eq_true rfl) (fun v25 w26 => ?_)
                  refine g_to (L' := [(0, .ref 0), (2, .int v5), (3, .int v10), (5, .int v18)]) ?_ [0, 1, 2, 4] rfl
                  exact hk20 _ _
                · refine g_iload (q := 73) ok dX10_laysJuly_71 rfl 3 rfl ?_
                  refine g_goto (q := 84) ok dX10_laysJuly_73 (by decide) ?_
                  refine g_to (L' := [(0, .ref 0), (2, .int v5), (3, .int v10), (5, .int v18)]) ?_ [0, 1, 2, 4] rfl
                  exact hk20 _ _
  · refine g_to (L' := [(0, .ref 0), (1, .int a1), (2, .int (nI 0))]) ?_ [1, 2, 0] rfl
    refine g_loop1 (Lf := fun v28 => [(0, .ref 0), (1, .int a1), (2, .int v28)]) (fun go27 hgo27 v28 w29 => ?_) N _ _
    unfold xX10_laysJuly_b2
    refine g_iload_n (q := 3) ok dX10_laysJuly_2 rfl 2 rfl rfl ?_
    refine g_sipush (v := (nI 4096)) (q := 6) ok dX10_laysJuly_3 rfl (by decide) ?_
    refine g_icmp_ge (q := 9) (g := 28) ok dX10_laysJuly_6 rfl (by decide) ?_ ?_
    · refine g_to (L' := [(0, .ref 0), (1, .int a1)]) ?_ [0, 1] rfl
      exact hk1 _
    · refine g_aload_n (q := 10) ok dX10_laysJuly_9 rfl 0 rfl rfl ?_
      refine g_getR (q := 13) ok dX10_laysJuly_10 rfl fl_X10_121 sM_0 rfl ?_
      refine g_sipush (v := (nI 4096)) (q := 16) ok dX10_laysJuly_13 rfl (by decide) ?_
      refine g_iload_n (q := 17) ok dX10_laysJuly_16 rfl 1 rfl rfl ?_
      refine g_imul (q := 18) ok dX10_laysJuly_17 rfl ?_
      refine g_iload_n (q := 19) ok dX10_laysJuly_18 rfl 2 rfl rfl ?_
      refine g_iadd (q := 20) ok dX10_laysJuly_19 rfl ?_
      refine g_iconst (v := (nI 0)) (q := 21) ok dX10_laysJuly_20 rfl (by decide) ?_
      refine g_iast (q := 22) ok dX10_laysJuly_21 rfl sM_37 ?_
      refine g_letw (fun w30 => ?_)
      refine g_iinc (v := v28 + (nI 1)) (q := 25) (L' := [(2, .int (v28 + (nI 1))), (0, .ref 0), (1, .int a1)]) ok dX10_laysJuly_22 rfl 2 rfl rfl (by decide) rfl rfl ?_
      refine g_goto (q := 2) ok dX10_laysJuly_25 (by decide) ?_
      refine g_to (L' := [(0, .ref 0), (1, .int a1), (2, .int (v28 + (nI 1)))]) ?_ [1, 2, 0] rfl
      exact hgo27 _ _
set_option maxRecDepth 20000 in
theorem kX10_july (N : Nat) (a1 : Int32) (a2 : Int32) (w : gT) : gM S2 cl2 gTs yX10_july cX10_july 6 (some .int) rmX10_july gi [.ref 0, .int a1, .int a2] w (xX10_july N a1 a2 w) := by
  refine gM_of (own := RX10) [(0, .ref 0), (1, .int a1), (2, .int a2)] rfl (by decide) (fun _ => rfl) (fun _ => Nat.le_of_ble_eq_true rfl) (fun κ ok => ?_)
  unfold xX10_july
  refine g_iload_n (q := 1) ok dX10_july_0 rfl 1 rfl rfl ?_
  refine g_iconst (v := (nI 1)) (q := 2) ok dX10_july_1 rfl (by decide) ?_
  refine g_bipush (v := (nI 8)) (q := 4) ok dX10_july_2 rfl (by decide) ?_
  refine g_callSi (q := 7) (As := [.int a1, .int (nI 1), .int (nI 8)]) (st := []) ok tbl_good dX10_july_4 rfl (kX10_in _ _ _ _) cf_X10_175 ⟨rfl, rfl, Nat.le_of_ble_eq_true rfl, Nat.le_of_ble_eq_true rfl⟩ rfl rfl (fun _ => Nat.le_of_ble_eq_true rfl) (fun v1 w2 => ?_)
  refine g_if_ne (q := 10) (g := 12) ok dX10_july_7 rfl (by decide) ?_ ?_
  · refine g_iload_n (q := 13) ok dX10_july_12 rfl 2 rfl rfl ?_
    refine g_iconst (v := (-1)) (q := 14) ok dX10_july_13 rfl (by decide) ?_
    refine g_iload_n (q := 15) ok dX10_july_14 rfl 1 rfl rfl ?_
    refine g_iconst (v := (nI 1)) (q := 16) ok dX10_july_15 rfl (by decide) ?_
    refine g_isub (q := 17) ok dX10_july_16 rfl ?_
    refine g_callSi (q := 20) (As := [.int a2, .int (-1), .int (a1 - (nI 1))]) (st := []) ok tbl_good dX10_july_17 rfl (kX10_in _ _ _ _) cf_X10_175 ⟨rfl, rfl, Nat.le_of_ble_eq_true rfl, Nat.le_of_ble_eq_true rfl⟩ rfl rfl (fun _ => Nat.le_of_ble_eq_true rfl) (fun v3 w4 => ?_)
    refine g_if_ne (q := 23) (g := 26) ok dX10_july_20 rfl (by decide) ?_ ?_
    · refine g_aload_n (q := 27) ok dX10_july_26 rfl 0 rfl rfl ?_
      refine g_iload_n (q := 28) ok dX10_july_27 rfl 1 rfl rfl ?_
      refine g_callVv (q := 31) (As := [.int a1]) (st := []) ok tbl_good dX10_july_28 rfl (kX10_laysWorths N _ _) cf_X10_396 ⟨rfl, rfl, Nat.le_of_ble_eq_true rfl, Nat.le_of_ble_eq_true rfl⟩ sM_0 rfl rfl rfl (fun _ => Nat.le_of_ble_eq_true rfl) (fun w5 => ?_)
      refine g_aload_n (q := 32) ok dX10_july_31 rfl 0 rfl rfl ?_
      refine g_iload_n (q := 33) ok dX10_july_32 rfl 1 rfl rfl ?_
      refine g_callVv (q := 36) (As := [.int a1]) (st := []) ok tbl_good dX10_july_33 rfl (kX10_laysJuly N _ _) cf_X10_399 ⟨rfl, rfl, Nat.le_of_ble_eq_true rfl, Nat.le_of_ble_eq_true rfl⟩ sM_0 rfl rfl rfl (fun _ => Nat.le_of_ble_eq_true rfl) (fun w6 => ?_)
      refine g_iload_n (q := 37) ok dX10_july_36 rfl 2 rfl rfl ?_
      refine g_iconst (v := (-1)) (q := 38) ok dX10_july_37 rfl (by decide) ?_
      refine g_icmp_ne (q := 41) (g := 48) ok dX10_july_38 rfl (by decide) ?_ ?_
      · refine g_iconst (v := (nI 0)) (q := 49) ok dX10_july_48 rfl (by decide) ?_
        refine g_istore_n (q := 50) (L' := [(3, .int (nI 0)), (0, .ref 0), (1, .int a1), (2, .int a2)]) ok dX10_july_49 rfl rfl (by decide) rfl rfl ?_
        refine g_iconst (v := (nI 0)) (q := 51) ok dX10_july_50 rfl (by decide) ?_
        refine g_istore (q := 53) (L' := [(4, .int (nI 0)), (3, .int (nI 0)), (0, .ref 0), (1, .int a1), (2, .int a2)]) ok dX10_july_51 rfl (by decide) rfl rfl ?_
        refine g_iconst (v := (nI 0)) (q := 54) ok dX10_july_53 rfl (by decide) ?_
        refine g_istore (q := 56) (L' := [(5, .int (nI 0)), (4, .int (nI 0)), (3, .int (nI 0)), (0, .ref 0), (1, .int a1), (2, .int a2)]) ok dX10_july_54 rfl (by decide) rfl rfl ?_
        refine g_to (L' := [(0, .ref 0), (2, .int a2), (3, .int (nI 0)), (4, .int (nI 0)), (5, .int (nI 0))]) ?_ [3, 5, 2, 1, 0] rfl
        refine g_loop3 (Lf := fun v8 v9 v10 => [(0, .ref 0), (2, .int a2), (3, .int v8), (4, .int v9), (5, .int v10)]) (fun go7 hgo7 v8 v9 v10 w11 => ?_) N _ _ _ _
        unfold xX10_july_b56
        refine g_iload (q := 58) ok dX10_july_56 rfl 4 rfl ?_
        refine g_iload_n (q := 59) ok dX10_july_58 rfl 1 rfl rfl ?_
        refine g_icmp_gt (q := 62) (g := 123) ok dX10_july_59 rfl (by decide) ?_ ?_
        · refine g_iload (q := 125) ok dX10_july_123 rfl 3 rfl ?_
          exact g_iret ok dX10_july_125
        · refine g_iconst (v := (nI 0)) (q := 63) ok dX10_july_62 rfl (by decide) ?_
          refine g_istore (q := 65) (L' := [(4, .int (nI 0)), (0, .ref 0), (2, .int a2), (3, .int v8), (5, .int v10)]) ok dX10_july_63 rfl (by decide) rfl rfl ?_
          refine g_join (P := fun k12 => ∀ (v13 : Int32) (w14 : gT), gJ S2 cl2 rmX10_july 6 gi κ 99 [(0, .ref 0), (2, .int a2), (3, .int v8), (5, .int v10), (4, .int v13)] [] w14 (k12 v13 w14)) (fun v13 w14 => ?_) (fun k12 hk12 => ?_)
          · refine g_join (P := fun k15 => ∀ (v16 : Int32) (w17 : gT), gJ S2 cl2 rmX10_july 6 gi κ 116 [(0, .ref 0), (2, .int a2), (4, .int v13), (5, .int v10)] [.int v16] w17 (k15 v16 w17)) (fun v16 w17 => ?_) (fun k15 hk15 => ?_)
            · refine g_istore_n (q := 117) (L' := [(3, .int v16), (0, .ref 0), (2, .int a2), (4, .int v13), (5, .int v10)]) ok dX10_july_116 rfl rfl (by decide) rfl rfl ?_
              refine g_iinc (v := v10 + (nI 1)) (q := 120) (L' := [(5, .int (v10 + (nI 1))), (3, .int v16), (0, .ref 0), (2, .int a2), (4, .int v13)]) ok dX10_july_117 rfl 4 rfl rfl (by decide) rfl rfl ?_
              refine g_goto (q := 56) ok dX10_july_120 (by decide) ?_
              refine g_to (L' := [(0, .ref 0), (2, .int a2), (3, .int v16), (4, .int v13), (5, .int (v10 + (nI 1)))]) ?_ [2, 3, 1, 4, 0] rfl
              exact hgo7 _ _ _ _
            · refine g_iload (q := 101) ok dX10_july_99 rfl 4 rfl ?_
              refine g_bipush (v := (nI 12)) (q := 103) ok dX10_july_101 rfl (by decide) ?_
              refine g_icmp_ne (q := 106) (g := 110) ok dX10_july_103 rfl (by decide) ?_ ?_
              · refine g_iload_n (q := 111) ok dX10_july_110 rfl 2 rfl rfl ?_
                refine g_iconst (v := (nI 1)) (q := 112) ok dX10_july_111 rfl (by decide) ?_
                refine g_iload (q := 114) ok dX10_july_112 rfl 4 rfl ?_
                refine g_ishl (q := 115) ok dX10_july_114 rfl ?_
                refine g_ior (q := 116) ok dX10_july_115 rfl ?_
                refine g_to (L' := [(0, .ref 0), (2, .int a2), (4, .int v13), (5, .int v10)]) ?_ [0, 1, 4, 3] rfl
                exact hk15 _ _
              · refine g_iload_n (q := 107) ok dX10_july_106 rfl 2 rfl rfl ?_
                refine g_goto (q := 116) ok dX10_july_107 (by decide) ?_
                refine g_to (L' := [(0, .ref 0), (2, .int a2), (4, .int v13), (5, .int v10)]) ?_ [0, 1, 4, 3] rfl
                exact hk15 _ _
          · refine g_to (L' := [(0, .ref 0), (2, .int a2), (3, .int v8), (5, .int v10), (4, .int (nI 0))]) ?_ [1, 2, 3, 4, 0] rfl
            refine g_loop1 (Lf := fun v19 => [(0, .ref 0), (2, .int a2), (3, .int v8), (5, .int v10), (4, .int v19)]) (fun go18 hgo18 v19 w20 => ?_) N _ _
            unfold xX10_july_b65
            refine g_aload_n (q := 66) ok dX10_july_65 rfl 0 rfl rfl ?_
            refine g_iload (q := 68) ok dX10_july_66 rfl 3 rfl ?_
            refine g_iload (q := 70) ok dX10_july_68 rfl 4 rfl ?_
            refine g_iload_n (q := 71) ok dX10_july_70 rfl 2 rfl rfl ?_
            refine g_callVi (q := 74) (As := [.int v10, .int v19, .int v8]) (st := []) ok tbl_good dX10_july_71 rfl (kX10_lodgeBy _ _ _ _) cf_X10_393 ⟨rfl, rfl, Nat.le_of_ble_eq_true rfl, Nat.le_of_ble_eq_true rfl⟩ sM_0 rfl rfl rfl (fun _ => Nat.le_of_ble_eq_true rfl) (fun v21 w22 => ?_)
            refine g_aload_n (q := 75) ok dX10_july_74 rfl 0 rfl rfl ?_
            refine g_getR (q := 78) ok dX10_july_75 rfl fl_X10_121 sM_0 rfl ?_
            refine g_sipush (v := (nI 4096)) (q := 81) ok dX10_july_78 rfl (by decide) ?_
            refine g_iload (q := 83) ok dX10_july_81 rfl 3 rfl ?_
            refine g_imul (q := 84) ok dX10_july_83 rfl ?_
            refine g_iload_n (q := 85) ok dX10_july_84 rfl 2 rfl rfl ?_
            refine g_iadd (q := 86) ok dX10_july_85 rfl ?_
            refine g_iald (q := 87) ok dX10_july_86 rfl sM_37 ?_
            refine g_icmp_eq (q := 90) (g := 99) ok dX10_july_87 rfl (by decide) ?_ ?_
            · exact hk12 _ _
            · refine g_iload (q := 92) ok dX10_july_90 rfl 4 rfl ?_
              refine g_iconst (v := (nI 1)) (q := 93) ok dX10_july_92 rfl (by decide) ?_
              refine g_iadd (q := 94) ok dX10_july_93 rfl ?_
              refine g_leti (fun v23 => ?_)
              refine g_istore (q := 96) (L' := [(4, .int v23), (0, .ref 0), (2, .int a2), (3, .int v8), (5, .int v10)]) ok dX10_july_94 rfl (by decide) rfl rfl ?_
              refine g_goto (q := 65) ok dX10_july_96 (by decide) ?_
              refine g_to (L' := [(0, .ref 0), (2, .int a2), (3, .int v8), (5, .int v10), (4, .int v23)]) ?_ [1, 2, 3, 4, 0] rfl
              exact hgo18 _ _
      · refine g_aload_n (q := 42) ok dX10_july_41 rfl 0 rfl rfl ?_
        refine g_getR (q := 45) ok dX10_july_42 rfl fl_X10_121 sM_0 rfl ?_
        refine g_iconst (v := (nI 0)) (q := 46) ok dX10_july_45 rfl (by decide) ?_
        refine g_ialdC (j := 0) (q := 47) ok dX10_july_46 rfl sM_37 (by decide) (by decide) ?_
        exact g_iret ok dX10_july_47
    · refine g_bipush (v := (-2)) (q := 25) ok dX10_july_23 rfl (by decide) ?_
      exact g_iret ok dX10_july_25
  · refine g_iconst (v := (-1)) (q := 11) ok dX10_july_10 rfl (by decide) ?_
    exact g_iret ok dX10_july_11
set_option maxRecDepth 20000 in
theorem kX10_off (N : Nat) (a1 : Int32) (a2 : Int32) (a3 : Int32) (w : gT) : gM S2 cl2 gTs yX10_off cX10_off 10 (some .int) rmX10_off gi [.ref 0, .int a1, .int a2, .int a3] w (xX10_off N a1 a2 a3 w) := by
  refine gM_of (own := RX10) [(0, .ref 0), (1, .int a1), (2, .int a2), (3, .int a3)] rfl (by decide) (fun _ => rfl) (fun _ => Nat.le_of_ble_eq_true rfl) (fun κ ok => ?_)
  unfold xX10_off
  refine g_aload_n (q := 1) ok dX10_off_0 rfl 0 rfl rfl ?_
  refine g_getI (q := 4) (N := 0) ok dX10_off_1 rfl fl_X10_168 sM_0 rfl ?_
  refine g_callSi (q := 7) (As := [.int (w.1 0 4)]) (st := []) ok tbl_good dX10_off_4 rfl (kX10_bits N _ _) cf_X10_387 ⟨rfl, rfl, Nat.le_of_ble_eq_true rfl, Nat.le_of_ble_eq_true rfl⟩ rfl rfl (fun _ => Nat.le_of_ble_eq_true rfl) (fun v1 w2 => ?_)
  refine g_istore (q := 9) (L' := [(4, .int v1), (0, .ref 0), (1, .int a1), (2, .int a2), (3, .int a3)]) ok dX10_off_7 rfl (by decide) rfl rfl ?_
  refine g_iload_n (q := 10) ok dX10_off_9 rfl 2 rfl rfl ?_
  refine g_iconst (v := (nI 1)) (q := 11) ok dX10_off_10 rfl (by decide) ?_
  refine g_iload (q := 13) ok dX10_off_11 rfl 0 rfl ?_
  refine g_callSi (q := 16) (As := [.int a1, .int (nI 1), .int v1]) (st := []) ok tbl_good dX10_off_13 rfl (kX10_in _ _ _ _) cf_X10_175 ⟨rfl, rfl, Nat.le_of_ble_eq_true rfl, Nat.le_of_ble_eq_true rfl⟩ rfl rfl (fun _ => Nat.le_of_ble_eq_true rfl) (fun v3 w4 => ?_)
  refine g_if_eq (q := 19) (g := 38) ok dX10_off_16 rfl (by decide) ?_ ?_
  · refine g_iconst (v := (-1)) (q := 39) ok dX10_off_38 rfl (by decide) ?_
    exact g_iret ok dX10_off_39
  · refine g_iload_n (q := 20) ok dX10_off_19 rfl 3 rfl rfl ?_
    refine g_iconst (v := (nI 1)) (q := 21) ok dX10_off_20 rfl (by decide) ?_
    refine g_sipush (v := (nI 366)) (q := 24) ok dX10_off_21 rfl (by decide) ?_
    refine g_callSi (q := 27) (As := [.int a2, .int (nI 1), .int (nI 366)]) (st := []) ok tbl_good dX10_off_24 rfl (kX10_in _ _ _ _) cf_X10_175 ⟨rfl, rfl, Nat.le_of_ble_eq_true rfl, Nat.le_of_ble_eq_true rfl⟩ rfl rfl (fun _ => Nat.le_of_ble_eq_true rfl) (fun v5 w6 => ?_)
    refine g_if_eq (q := 30) (g := 38) ok dX10_off_27 rfl (by decide) ?_ ?_
    · refine g_iconst (v := (-1)) (q := 39) ok dX10_off_38 rfl (by decide) ?_
      exact g_iret ok dX10_off_39
    · refine g_aload_n (q := 31) ok dX10_off_30 rfl 1 rfl rfl ?_
      refine g_iload_n (q := 32) ok dX10_off_31 rfl 4 rfl rfl ?_
      refine g_callVi (q := 35) (As := [.int a3]) (st := []) ok tbl_good dX10_off_32 rfl (kX10_isGhost _ _) cf_X10_236 ⟨rfl, rfl, Nat.le_of_ble_eq_true rfl, Nat.le_of_ble_eq_true rfl⟩ sM_0 rfl rfl rfl (fun _ => Nat.le_of_ble_eq_true rfl) (fun v7 w8 => ?_)
      refine g_if_ne (q := 38) (g := 40) ok dX10_off_35 rfl (by decide) ?_ ?_
      · refine g_iconst (v := (nI 0)) (q := 41) ok dX10_off_40 rfl (by decide) ?_
        refine g_istore (q := 43) (L' := [(5, .int (nI 0)), (4, .int v1), (0, .ref 0), (1, .int a1), (2, .int a2), (3, .int a3)]) ok dX10_off_41 rfl (by decide) rfl rfl ?_
        refine g_iconst (v := (nI 0)) (q := 44) ok dX10_off_43 rfl (by decide) ?_
        refine g_istore (q := 46) (L' := [(6, .int (nI 0)), (5, .int (nI 0)), (4, .int v1), (0, .ref 0), (1, .int a1), (2, .int a2), (3, .int a3)]) ok dX10_off_44 rfl (by decide) rfl rfl ?_
        refine g_iconst (v := (nI 0)) (q := 47) ok dX10_off_46 rfl (by decide) ?_
        refine g_istore (q := 49) (L' := [(7, .int (nI 0)), (6, .int (nI 0)), (5, .int (nI 0)), (4, .int v1), (0, .ref 0), (1, .int a1), (2, .int a2), (3, .int a3)]) ok dX10_off_47 rfl (by decide) rfl rfl ?_
        refine g_join (P := fun k9 => ∀ (v10 : Int32) (w11 : gT), gJ S2 cl2 rmX10_off 10 gi κ 121 [(0, .ref 0), (1, .int a1), (2, .int a2), (3, .int a3), (6, .int v10)] [] w11 (k9 v10 w11)) (fun v10 w11 => ?_) (fun k9 hk9 => ?_)
        · refine g_iload (q := 123) ok dX10_off_121 rfl 4 rfl ?_
          refine g_if_ne (q := 126) (g := 129) ok dX10_off_123 rfl (by decide) ?_ ?_
          · refine g_iconst (v := (nI 0)) (q := 130) ok dX10_off_129 rfl (by decide) ?_
            refine g_istore (q := 132) (L' := [(7, .int (nI 0)), (0, .ref 0), (1, .int a1), (2, .int a2), (3, .int a3), (6, .int v10)]) ok dX10_off_130 rfl (by decide) rfl rfl ?_
            refine g_join (P := fun k12 => ∀ (w13 : gT), gJ S2 cl2 rmX10_off 10 gi κ 229 [(0, .ref 0), (1, .int a1), (3, .int a3)] [] w13 (k12 w13)) (fun w13 => ?_) (fun k12 hk12 => ?_)
            · refine g_iconst (v := (nI 0)) (q := 230) ok dX10_off_229 rfl (by decide) ?_
              refine g_istore (q := 232) (L' := [(7, .int (nI 0)), (0, .ref 0), (1, .int a1), (3, .int a3)]) ok dX10_off_230 rfl (by decide) rfl rfl ?_
              refine g_iconst (v := (nI 0)) (q := 233) ok dX10_off_232 rfl (by decide) ?_
              refine g_istore (q := 235) (L' := [(8, .int (nI 0)), (7, .int (nI 0)), (0, .ref 0), (1, .int a1), (3, .int a3)]) ok dX10_off_233 rfl (by decide) rfl rfl ?_
              refine g_to (L' := [(0, .ref 0), (1, .int a1), (3, .int a3), (7, .int (nI 0)), (8, .int (nI 0))]) ?_ [2, 3, 4, 1, 0] rfl
              refine g_loop2 (Lf := fun v15 v16 => [(0, .ref 0), (1, .int a1), (3, .int a3), (7, .int v15), (8, .int v16)]) (fun go14 hgo14 v15 v16 w17 => ?_) N _ _ _
              unfold xX10_off_b235
              refine g_iload (q := 237) ok dX10_off_235 rfl 4 rfl ?_
              refine g_iload_n (q := 238) ok dX10_off_237 rfl 1 rfl rfl ?_
              refine g_icmp_ge (q := 241) (g := 267) ok dX10_off_238 rfl (by decide) ?_ ?_
              · refine g_iload (q := 269) ok dX10_off_267 rfl 3 rfl ?_
                exact g_iret ok dX10_off_269
              · refine g_join (P := fun k18 => ∀ (v19 : Int32) (w20 : gT), gJ S2 cl2 rmX10_off 10 gi κ 261 [(0, .ref 0), (1, .int a1), (3, .int a3), (8, .int v16), (7, .int v19)] [] w20 (k18 v19 w20)) (fun v19 w20 => ?_) (fun k18 hk18 => ?_)
                · refine g_iinc (v := v16 + (nI 1)) (q := 264) (L' := [(8, .int (v16 + (nI 1))), (0, .ref 0), (1, .int a1), (3, .int a3), (7, .int v19)]) ok dX10_off_261 rfl 3 rfl rfl (by decide) rfl rfl ?_
                  refine g_goto (q := 235) ok dX10_off_264 (by decide) ?_
                  refine g_to (L' := [(0, .ref 0), (1, .int a1), (3, .int a3), (7, .int v19), (8, .int (v16 + (nI 1)))]) ?_ [1, 2, 3, 4, 0] rfl
                  exact hgo14 _ _ _
                · refine g_aload_n (q := 242) ok dX10_off_241 rfl 0 rfl rfl ?_
                  refine g_getR (q := 245) ok dX10_off_242 rfl fl_X10_127 sM_0 rfl ?_
                  refine g_iload (q := 247) ok dX10_off_245 rfl 4 rfl ?_
                  refine g_iald (q := 248) ok dX10_off_247 rfl sM_39 ?_
                  refine g_iload_n (q := 249) ok dX10_off_248 rfl 2 rfl rfl ?_
                  refine g_icmp_ne (q := 252) (g := 261) ok dX10_off_249 rfl (by decide) ?_ ?_
                  · refine g_to (L' := [(0, .ref 0), (1, .int a1), (3, .int a3), (8, .int v16), (7, .int v15)]) ?_ [0, 1, 2, 4, 3] rfl
                    exact hk18 _ _
                  · refine g_aload_n (q := 253) ok dX10_off_252 rfl 0 rfl rfl ?_
                    refine g_getR (q := 256) ok dX10_off_253 rfl fl_X10_124 sM_0 rfl ?_
                    refine g_iload (q := 258) ok dX10_off_256 rfl 4 rfl ?_
                    refine g_iald (q := 259) ok dX10_off_258 rfl sM_38 ?_
                    refine g_leti (fun v21 => ?_)
                    refine g_istore (q := 261) (L' := [(7, .int v21), (0, .ref 0), (1, .int a1), (3, .int a3), (8, .int v16)]) ok dX10_off_259 rfl (by decide) rfl rfl ?_
                    refine g_to (L' := [(0, .ref 0), (1, .int a1), (3, .int a3), (8, .int v16), (7, .int v21)]) ?_ [1, 2, 3, 4, 0] rfl
                    exact hk18 _ _
            · refine g_to (L' := [(0, .ref 0), (1, .int a1), (2, .int a2), (3, .int a3), (7, .int (nI 0))]) ?_ [1, 2, 3, 4, 0] rfl
              refine g_loop1 (Lf := fun v23 => [(0, .ref 0), (1, .int a1), (2, .int a2), (3, .int a3), (7, .int v23)]) (fun go22 hgo22 v23 w24 => ?_) N _ _
              unfold xX10_off_b132
              refine g_iload (q := 134) ok dX10_off_132 rfl 4 rfl ?_
              refine g_iload_n (q := 135) ok dX10_off_134 rfl 2 rfl rfl ?_
              refine g_icmp_ge (q := 138) (g := 229) ok dX10_off_135 rfl (by decide) ?_ ?_
              · refine g_to (L' := [(0, .ref 0), (1, .int a1), (3, .int a3)]) ?_ [0, 1, 3] rfl
                exact hk12 _
              · refine g_iconst (v := (nI 0)) (q := 139) ok dX10_off_138 rfl (by decide) ?_
                refine g_istore (q := 141) (L' := [(8, .int (nI 0)), (0, .ref 0), (1, .int a1), (2, .int a2), (3, .int a3), (7, .int v23)]) ok dX10_off_139 rfl (by decide) rfl rfl ?_
                refine g_iconst (v := (nI 1)) (q := 142) ok dX10_off_141 rfl (by decide) ?_
                refine g_istore (q := 144) (L' := [(9, .int (nI 1)), (8, .int (nI 0)), (0, .ref 0), (1, .int a1), (2, .int a2), (3, .int a3), (7, .int v23)]) ok dX10_off_142 rfl (by decide) rfl rfl ?_
                refine g_join (P := fun k25 => ∀ (v26 : Int32) (w27 : gT), gJ S2 cl2 rmX10_off 10 gi κ 207 [(0, .ref 0), (1, .int a1), (2, .int a2), (3, .int a3), (7, .int v23), (8, .int v26)] [] w27 (k25 v26 w27)) (fun v26 w27 => ?_) (fun k25 hk25 => ?_)
                · refine g_aload_n (q := 208) ok dX10_off_207 rfl 0 rfl rfl ?_
                  refine g_getR (q := 211) ok dX10_off_208 rfl fl_X10_124 sM_0 rfl ?_
                  refine g_iload (q := 213) ok dX10_off_211 rfl 5 rfl ?_
                  refine g_aload_n (q := 214) ok dX10_off_213 rfl 0 rfl rfl ?_
                  refine g_getR (q := 217) ok dX10_off_214 rfl fl_X10_124 sM_0 rfl ?_
                  refine g_iload (q := 219) ok dX10_off_217 rfl 5 rfl ?_
                  refine g_iald (q := 220) ok dX10_off_219 rfl sM_38 ?_
                  refine g_iconst (v := (nI 1)) (q := 221) ok dX10_off_220 rfl (by decide) ?_
                  refine g_iadd (q := 222) ok dX10_off_221 rfl ?_
                  refine g_iast (q := 223) ok dX10_off_222 rfl sM_38 ?_
                  refine g_letw (fun w28 => ?_)
                  refine g_iinc (v := v23 + (nI 1)) (q := 226) (L' := [(7, .int (v23 + (nI 1))), (0, .ref 0), (1, .int a1), (2, .int a2), (3, .int a3), (8, .int v26)]) ok dX10_off_223 rfl 4 rfl rfl (by decide) rfl rfl ?_
                  refine g_goto (q := 132) ok dX10_off_226 (by decide) ?_
                  refine g_to (L' := [(0, .ref 0), (1, .int a1), (2, .int a2), (3, .int a3), (7, .int (v23 + (nI 1)))]) ?_ [1, 2, 3, 4, 0] rfl
                  exact hgo22 _ _
                · refine g_to (L' := [(0, .ref 0), (1, .int a1), (2, .int a2), (3, .int a3), (7, .int v23), (8, .int (nI 0)), (9, .int (nI 1))]) ?_ [2, 3, 4, 5, 6, 1, 0] rfl
                  refine g_loop2 (Lf := fun v30 v31 => [(0, .ref 0), (1, .int a1), (2, .int a2), (3, .int a3), (7, .int v23), (8, .int v30), (9, .int v31)]) (fun go29 hgo29 v30 v31 w32 => ?_) N _ _ _
                  unfold xX10_off_b144
                  refine g_iload (q := 146) ok dX10_off_144 rfl 6 rfl ?_
                  refine g_iload_n (q := 147) ok dX10_off_146 rfl 1 rfl rfl ?_
                  refine g_icmp_ge (q := 150) (g := 207) ok dX10_off_147 rfl (by decide) ?_ ?_
                  · refine g_to (L' := [(0, .ref 0), (1, .int a1), (2, .int a2), (3, .int a3), (7, .int v23), (8, .int v30)]) ?_ [0, 1, 2, 3, 4, 5] rfl
                    exact hk25 _ _
                  · refine g_join (P := fun k33 => ∀ (v34 : Int32) (w35 : gT), gJ S2 cl2 rmX10_off 10 gi κ 201 [(0, .ref 0), (1, .int a1), (2, .int a2), (3, .int a3), (7, .int v23), (9, .int v31), (8, .int v34)] [] w35 (k33 v34 w35)) (fun v34 w35 => ?_) (fun k33 hk33 => ?_)
                    · refine g_iinc (v := v31 + (nI 1)) (q := 204) (L' := [(9, .int (v31 + (nI 1))), (0, .ref 0), (1, .int a1), (2, .int a2), (3, .int a3), (7, .int v23), (8, .int v34)]) ok dX10_off_201 rfl 5 rfl rfl (by decide) rfl rfl ?_
                      refine g_goto (q := 144) ok dX10_off_204 (by decide) ?_
                      refine g_to (L' := [(0, .ref 0), (1, .int a1), (2, .int a2), (3, .int a3), (7, .int v23), (8, .int v34), (9, .int (v31 + (nI 1)))]) ?_ [1, 2, 3, 4, 5, 6, 0] rfl
                      exact hgo29 _ _ _
                    · refine g_aload_n (q := 151) ok dX10_off_150 rfl 0 rfl rfl ?_
                      refine g_getR (q := 154) ok dX10_off_151 rfl fl_X10_28 sM_0 rfl ?_
                      refine g_aload_n (q := 155) ok dX10_off_154 rfl 0 rfl rfl ?_
                      refine g_getR (q := 158) ok dX10_off_155 rfl fl_X10_127 sM_0 rfl ?_
                      refine g_iload (q := 160) ok dX10_off_158 rfl 6 rfl ?_
                      refine g_iald (q := 161) ok dX10_off_160 rfl sM_39 ?_
                      refine g_iald (q := 162) ok dX10_off_161 rfl sM_7 ?_
                      refine g_aload_n (q := 163) ok dX10_off_162 rfl 0 rfl rfl ?_
                      refine g_getR (q := 166) ok dX10_off_163 rfl fl_X10_124 sM_0 rfl ?_
                      refine g_iload (q := 168) ok dX10_off_166 rfl 5 rfl ?_
                      refine g_iald (q := 169) ok dX10_off_168 rfl sM_38 ?_
                      refine g_iconst (v := (nI 1)) (q := 170) ok dX10_off_169 rfl (by decide) ?_
                      refine g_iadd (q := 171) ok dX10_off_170 rfl ?_
                      refine g_imul (q := 172) ok dX10_off_171 rfl ?_
                      refine g_aload_n (q := 173) ok dX10_off_172 rfl 0 rfl rfl ?_
                      refine g_getR (q := 176) ok dX10_off_173 rfl fl_X10_28 sM_0 rfl ?_
                      refine g_aload_n (q := 177) ok dX10_off_176 rfl 0 rfl rfl ?_
                      refine g_getR (q := 180) ok dX10_off_177 rfl fl_X10_127 sM_0 rfl ?_
                      refine g_iload (q := 182) ok dX10_off_180 rfl 5 rfl ?_
                      refine g_iald (q := 183) ok dX10_off_182 rfl sM_39 ?_
                      refine g_iald (q := 184) ok dX10_off_183 rfl sM_7 ?_
                      refine g_aload_n (q := 185) ok dX10_off_184 rfl 0 rfl rfl ?_
                      refine g_getR (q := 188) ok dX10_off_185 rfl fl_X10_124 sM_0 rfl ?_
                      refine g_iload (q := 190) ok dX10_off_188 rfl 6 rfl ?_
                      refine g_iald (q := 191) ok dX10_off_190 rfl sM_38 ?_
                      refine g_iconst (v := (nI 1)) (q := 192) ok dX10_off_191 rfl (by decide) ?_
                      refine g_iadd (q := 193) ok dX10_off_192 rfl ?_
                      refine g_imul (q := 194) ok dX10_off_193 rfl ?_
                      refine g_icmp_le (q := 197) (g := 201) ok dX10_off_194 rfl (by decide) ?_ ?_
                      · refine g_to (L' := [(0, .ref 0), (1, .int a1), (2, .int a2), (3, .int a3), (7, .int v23), (9, .int v31), (8, .int v30)]) ?_ [0, 1, 2, 3, 4, 6, 5] rfl
                        exact hk33 _ _
                      · refine g_iload (q := 199) ok dX10_off_197 rfl 6 rfl ?_
                        refine g_istore (q := 201) (L' := [(8, .int v31), (0, .ref 0), (1, .int a1), (2, .int a2), (3, .int a3), (7, .int v23), (9, .int v31)]) ok dX10_off_199 rfl (by decide) rfl rfl ?_
                        refine g_to (L' := [(0, .ref 0), (1, .int a1), (2, .int a2), (3, .int a3), (7, .int v23), (9, .int v31), (8, .int v31)]) ?_ [1, 2, 3, 4, 5, 6, 0] rfl
                        exact hk33 _ _
          · refine g_bipush (v := (-2)) (q := 128) ok dX10_off_126 rfl (by decide) ?_
            exact g_iret ok dX10_off_128
        · refine g_to (L' := [(0, .ref 0), (1, .int a1), (2, .int a2), (3, .int a3), (5, .int (nI 0)), (6, .int (nI 0)), (7, .int (nI 0))]) ?_ [4, 5, 6, 7, 2, 1, 0] rfl
          refine g_loop3 (Lf := fun v37 v38 v39 => [(0, .ref 0), (1, .int a1), (2, .int a2), (3, .int a3), (5, .int v37), (6, .int v38), (7, .int v39)]) (fun go36 hgo36 v37 v38 v39 w40 => ?_) N _ _ _ _
          unfold xX10_off_b49
          refine g_iload (q := 51) ok dX10_off_49 rfl 6 rfl ?_
          refine g_bipush (v := (nI 10)) (q := 53) ok dX10_off_51 rfl (by decide) ?_
          refine g_icmp_ge (q := 56) (g := 121) ok dX10_off_53 rfl (by decide) ?_ ?_
          · refine g_to (L' := [(0, .ref 0), (1, .int a1), (2, .int a2), (3, .int a3), (6, .int v38)]) ?_ [0, 1, 2, 3, 5] rfl
            exact hk9 _ _
          · refine g_iload (q := 58) ok dX10_off_56 rfl 4 rfl ?_
            refine g_iload_n (q := 59) ok dX10_off_58 rfl 1 rfl rfl ?_
            refine g_icmp_ge (q := 62) (g := 121) ok dX10_off_59 rfl (by decide) ?_ ?_
            · refine g_to (L' := [(0, .ref 0), (1, .int a1), (2, .int a2), (3, .int a3), (6, .int v38)]) ?_ [0, 1, 2, 3, 5] rfl
              exact hk9 _ _
            · refine g_join (P := fun k41 => ∀ (v42 : Int32) (v43 : Int32) (w44 : gT), gJ S2 cl2 rmX10_off 10 gi κ 115 [(0, .ref 0), (1, .int a1), (2, .int a2), (3, .int a3), (7, .int v39), (5, .int v42), (6, .int v43)] [] w44 (k41 v42 v43 w44)) (fun v42 v43 w44 => ?_) (fun k41 hk41 => ?_)
              · refine g_iinc (v := v39 + (nI 1)) (q := 118) (L' := [(7, .int (v39 + (nI 1))), (0, .ref 0), (1, .int a1), (2, .int a2), (3, .int a3), (5, .int v42), (6, .int v43)]) ok dX10_off_115 rfl 4 rfl rfl (by decide) rfl rfl ?_
                refine g_goto (q := 49) ok dX10_off_118 (by decide) ?_
                refine g_to (L' := [(0, .ref 0), (1, .int a1), (2, .int a2), (3, .int a3), (5, .int v42), (6, .int v43), (7, .int (v39 + (nI 1)))]) ?_ [1, 2, 3, 4, 5, 6, 0] rfl
                exact hgo36 _ _ _ _
              · refine g_aload_n (q := 63) ok dX10_off_62 rfl 0 rfl rfl ?_
                refine g_iload (q := 65) ok dX10_off_63 rfl 6 rfl ?_
                refine g_callVi (q := 68) (As := [.int v39]) (st := []) ok tbl_good dX10_off_65 rfl (kX10_isGhost _ _) cf_X10_236 ⟨rfl, rfl, Nat.le_of_ble_eq_true rfl, Nat.le_of_ble_eq_true rfl⟩ sM_0 rfl rfl rfl (fun _ => Nat.le_of_ble_eq_true rfl) (fun v45 w46 => ?_)
                refine g_if_ne (q := 71) (g := 74) ok dX10_off_68 rfl (by decide) ?_ ?_
                · refine g_join (P := fun k47 => ∀ (v48 : Int32) (w49 : gT), gJ S2 cl2 rmX10_off 10 gi κ 107 [(0, .ref 0), (1, .int a1), (2, .int a2), (3, .int a3), (5, .int v37), (7, .int v39)] [.int v48] w49 (k47 v48 w49)) (fun v48 w49 => ?_) (fun k47 hk47 => ?_)
                  · refine g_istore (q := 109) (L' := [(6, .int v48), (0, .ref 0), (1, .int a1), (2, .int a2), (3, .int a3), (5, .int v37), (7, .int v39)]) ok dX10_off_107 rfl (by decide) rfl rfl ?_
                    refine g_iload (q := 111) ok dX10_off_109 rfl 5 rfl ?_
                    refine g_iconst (v := (nI 1)) (q := 112) ok dX10_off_111 rfl (by decide) ?_
                    refine g_iadd (q := 113) ok dX10_off_112 rfl ?_
                    refine g_leti (fun v50 => ?_)
                    refine g_istore (q := 115) (L' := [(5, .int v50), (6, .int v48), (0, .ref 0), (1, .int a1), (2, .int a2), (3, .int a3), (7, .int v39)]) ok dX10_off_113 rfl (by decide) rfl rfl ?_
                    refine g_to (L' := [(0, .ref 0), (1, .int a1), (2, .int a2), (3, .int a3), (7, .int v39), (5, .int v50), (6, .int v48)]) ?_ [2, 3, 4, 5, 6, 0, 1] rfl
                    exact hk41 _ _ _
                  · refine g_join (P := fun k51 => ∀ (w52 : gT), gJ S2 cl2 rmX10_off 10 gi κ 102 [(0, .ref 0), (1, .int a1), (2, .int a2), (3, .int a3), (5, .int v37), (7, .int v39)] [] w52 (k51 w52)) (fun w52 => ?_) (fun k51 hk51 => ?_)
                    · refine g_iconst (v := (nI 1)) (q := 103) ok dX10_off_102 rfl (by decide) ?_
                      refine g_goto (q := 107) ok dX10_off_103 (by decide) ?_
                      exact hk47 _ _
                    · refine g_aload_n (q := 75) ok dX10_off_74 rfl 0 rfl rfl ?_
                      refine g_getR (q := 78) ok dX10_off_75 rfl fl_X10_127 sM_0 rfl ?_
                      refine g_iload (q := 80) ok dX10_off_78 rfl 4 rfl ?_
                      refine g_iload (q := 82) ok dX10_off_80 rfl 6 rfl ?_
                      refine g_iast (q := 83) ok dX10_off_82 rfl sM_39 ?_
                      refine g_letw (fun w53 => ?_)
                      refine g_aload_n (q := 84) ok dX10_off_83 rfl 0 rfl rfl ?_
                      refine g_getR (q := 87) ok dX10_off_84 rfl fl_X10_124 sM_0 rfl ?_
                      refine g_iload (q := 89) ok dX10_off_87 rfl 4 rfl ?_
                      refine g_iconst (v := (nI 0)) (q := 90) ok dX10_off_89 rfl (by decide) ?_
                      refine g_iast (q := 91) ok dX10_off_90 rfl sM_38 ?_
                      refine g_letw (fun w54 => ?_)
                      refine g_iload (q := 93) ok dX10_off_91 rfl 5 rfl ?_
                      refine g_if_ne (q := 96) (g := 102) ok dX10_off_93 rfl (by decide) ?_ ?_
                      · refine g_to (L' := [(0, .ref 0), (1, .int a1), (2, .int a2), (3, .int a3), (5, .int v37), (7, .int v39)]) ?_ [0, 1, 2, 3, 4, 6] rfl
                        exact hk51 _
                      · refine g_iload (q := 98) ok dX10_off_96 rfl 6 rfl ?_
                        refine g_iload_n (q := 99) ok dX10_off_98 rfl 3 rfl rfl ?_
                        refine g_icmp_ne (q := 102) (g := 106) ok dX10_off_99 rfl (by decide) ?_ ?_
                        · refine g_iconst (v := (nI 0)) (q := 107) ok dX10_off_106 rfl (by decide) ?_
                          refine g_to (L' := [(0, .ref 0), (1, .int a1), (2, .int a2), (3, .int a3), (5, .int v37), (7, .int v39)]) ?_ [0, 1, 2, 3, 4, 6] rfl
                          exact hk47 _ _
                        · refine g_to (L' := [(0, .ref 0), (1, .int a1), (2, .int a2), (3, .int a3), (5, .int v37), (7, .int v39)]) ?_ [0, 1, 2, 3, 4, 6] rfl
                          exact hk51 _
                · refine g_goto (q := 115) ok dX10_off_71 (by decide) ?_
                  refine g_to (L' := [(0, .ref 0), (1, .int a1), (2, .int a2), (3, .int a3), (7, .int v39), (5, .int v37), (6, .int v38)]) ?_ [0, 1, 2, 3, 6, 4, 5] rfl
                  exact hk41 _ _ _
      · refine g_iconst (v := (-1)) (q := 39) ok dX10_off_38 rfl (by decide) ?_
        exact g_iret ok dX10_off_39
set_option maxRecDepth 20000 in
theorem kX10_gain0 (a0 : Int32) (a1 : Int32) (a2 : Int32) (w : gT) : gM S2 cl2 gTs yX10_gain0 cX10_gain0 3 (some .int) rmX10_gain0 gi [.int a0, .int a1, .int a2] w (xX10_gain0 a0 a1 a2 w) := by
  refine gM_of (own := RX10) [(0, .int a0), (1, .int a1), (2, .int a2)] rfl (by decide) (fun _ => rfl) (fun _ => Nat.le_of_ble_eq_true rfl) (fun κ ok => ?_)
  unfold xX10_gain0
  refine g_iload_n (q := 1) ok dX10_gain0_0 rfl 1 rfl rfl ?_
  refine g_iload_n (q := 2) ok dX10_gain0_1 rfl 2 rfl rfl ?_
  refine g_icmp_lt (q := 5) (g := 11) ok dX10_gain0_2 rfl (by decide) ?_ ?_
  · refine g_iconst (v := (nI 0)) (q := 12) ok dX10_gain0_11 rfl (by decide) ?_
    exact g_iret ok dX10_gain0_12
  · refine g_iload_n (q := 6) ok dX10_gain0_5 rfl 0 rfl rfl ?_
    refine g_iload_n (q := 7) ok dX10_gain0_6 rfl 1 rfl rfl ?_
    refine g_isub (q := 8) ok dX10_gain0_7 rfl ?_
    refine g_goto (q := 12) ok dX10_gain0_8 (by decide) ?_
    exact g_iret ok dX10_gain0_12
set_option maxRecDepth 20000 in
theorem kX10_gain1 (a0 : Int32) (a1 : Int32) (a2 : Int32) (w : gT) : gM S2 cl2 gTs yX10_gain1 cX10_gain1 3 (some .int) rmX10_gain1 gi [.int a0, .int a1, .int a2] w (xX10_gain1 a0 a1 a2 w) := by
  refine gM_of (own := RX10) [(0, .int a0), (1, .int a1), (2, .int a2)] rfl (by decide) (fun _ => rfl) (fun _ => Nat.le_of_ble_eq_true rfl) (fun κ ok => ?_)
  unfold xX10_gain1
  refine g_iload_n (q := 1) ok dX10_gain1_0 rfl 1 rfl rfl ?_
  refine g_iload_n (q := 2) ok dX10_gain1_1 rfl 2 rfl rfl ?_
  refine g_icmp_lt (q := 5) (g := 9) ok dX10_gain1_2 rfl (by decide) ?_ ?_
  · refine g_iload_n (q := 10) ok dX10_gain1_9 rfl 0 rfl rfl ?_
    refine g_iload_n (q := 11) ok dX10_gain1_10 rfl 2 rfl rfl ?_
    refine g_isub (q := 12) ok dX10_gain1_11 rfl ?_
    exact g_iret ok dX10_gain1_12
  · refine g_iconst (v := (nI 0)) (q := 6) ok dX10_gain1_5 rfl (by decide) ?_
    refine g_goto (q := 12) ok dX10_gain1_6 (by decide) ?_
    exact g_iret ok dX10_gain1_12
set_option maxRecDepth 20000 in
theorem kX10_rests (N : Nat) (a0 : Int32) (a1 : Int32) (a2 : Int32) (a3 : Int32) (w : gT) : gM S2 cl2 gTs yX10_rests cX10_rests 5 (some .boolean) rmX10_rests gi [.int a0, .int a1, .int a2, .int a3] w (xX10_rests N a0 a1 a2 a3 w) := by
  refine gM_of (own := RX10) [(0, .int a0), (1, .int a1), (2, .int a2), (3, .int a3)] rfl (by decide) (fun _ => rfl) (fun _ => Nat.le_of_ble_eq_true rfl) (fun κ ok => ?_)
  unfold xX10_rests
  refine g_iconst (v := (nI 1)) (q := 1) ok dX10_rests_0 rfl (by decide) ?_
  refine g_istore (q := 3) (L' := [(4, .int (nI 1)), (0, .int a0), (1, .int a1), (2, .int a2), (3, .int a3)]) ok dX10_rests_1 rfl (by decide) rfl rfl ?_
  refine g_to (L' := [(0, .int a0), (1, .int a1), (2, .int a2), (3, .int a3), (4, .int (nI 1))]) ?_ [1, 2, 3, 4, 0] rfl
  refine g_loop1 (Lf := fun v2 => [(0, .int a0), (1, .int a1), (2, .int a2), (3, .int a3), (4, .int v2)]) (fun go1 hgo1 v2 w3 => ?_) N _ _
  unfold xX10_rests_b3
  refine g_iload (q := 5) ok dX10_rests_3 rfl 4 rfl ?_
  refine g_bipush (v := (nI 10)) (q := 7) ok dX10_rests_5 rfl (by decide) ?_
  refine g_icmp_ge (q := 10) (g := 50) ok dX10_rests_7 rfl (by decide) ?_ ?_
  · refine g_iconst (v := (nI 1)) (q := 51) ok dX10_rests_50 rfl (by decide) ?_
    exact g_zret ok dX10_rests_51 rfl
  · refine g_iload_n (q := 11) ok dX10_rests_10 rfl 0 rfl rfl ?_
    refine g_iload (q := 13) ok dX10_rests_11 rfl 4 rfl ?_
    refine g_iload_n (q := 14) ok dX10_rests_13 rfl 3 rfl rfl ?_
    refine g_callSi (q := 17) (As := [.int a0, .int v2, .int a3]) (st := []) ok tbl_good dX10_rests_14 rfl (kX10_gain0 _ _ _ _) cf_X10_402 ⟨rfl, rfl, Nat.le_of_ble_eq_true rfl, Nat.le_of_ble_eq_true rfl⟩ rfl rfl (fun _ => Nat.le_of_ble_eq_true rfl) (fun v4 w5 => ?_)
    refine g_iload_n (q := 18) ok dX10_rests_17 rfl 0 rfl rfl ?_
    refine g_iload_n (q := 19) ok dX10_rests_18 rfl 2 rfl rfl ?_
    refine g_iload_n (q := 20) ok dX10_rests_19 rfl 3 rfl rfl ?_
    refine g_callSi (q := 23) (As := [.int a0, .int a2, .int a3]) (st := [.int v4]) ok tbl_good dX10_rests_20 rfl (kX10_gain0 _ _ _ _) cf_X10_402 ⟨rfl, rfl, Nat.le_of_ble_eq_true rfl, Nat.le_of_ble_eq_true rfl⟩ rfl rfl (fun _ => Nat.le_of_ble_eq_true rfl) (fun v6 w7 => ?_)
    refine g_icmp_gt (q := 26) (g := 42) ok dX10_rests_23 rfl (by decide) ?_ ?_
    · refine g_iconst (v := (nI 0)) (q := 43) ok dX10_rests_42 rfl (by decide) ?_
      exact g_zret ok dX10_rests_43 rfl
    · refine g_iload_n (q := 27) ok dX10_rests_26 rfl 1 rfl rfl ?_
      refine g_iload_n (q := 28) ok dX10_rests_27 rfl 2 rfl rfl ?_
      refine g_iload (q := 30) ok dX10_rests_28 rfl 4 rfl ?_
      refine g_callSi (q := 33) (As := [.int a1, .int a2, .int v2]) (st := []) ok tbl_good dX10_rests_30 rfl (kX10_gain1 _ _ _ _) cf_X10_405 ⟨rfl, rfl, Nat.le_of_ble_eq_true rfl, Nat.le_of_ble_eq_true rfl⟩ rfl rfl (fun _ => Nat.le_of_ble_eq_true rfl) (fun v8 w9 => ?_)
      refine g_iload_n (q := 34) ok dX10_rests_33 rfl 1 rfl rfl ?_
      refine g_iload_n (q := 35) ok dX10_rests_34 rfl 2 rfl rfl ?_
      refine g_iload_n (q := 36) ok dX10_rests_35 rfl 3 rfl rfl ?_
      refine g_callSi (q := 39) (As := [.int a1, .int a2, .int a3]) (st := [.int v8]) ok tbl_good dX10_rests_36 rfl (kX10_gain1 _ _ _ _) cf_X10_405 ⟨rfl, rfl, Nat.le_of_ble_eq_true rfl, Nat.le_of_ble_eq_true rfl⟩ rfl rfl (fun _ => Nat.le_of_ble_eq_true rfl) (fun v10 w11 => ?_)
      refine g_icmp_le (q := 42) (g := 44) ok dX10_rests_39 rfl (by decide) ?_ ?_
      · refine g_iinc (v := v2 + (nI 1)) (q := 47) (L' := [(4, .int (v2 + (nI 1))), (0, .int a0), (1, .int a1), (2, .int a2), (3, .int a3)]) ok dX10_rests_44 rfl 4 rfl rfl (by decide) rfl rfl ?_
        refine g_goto (q := 3) ok dX10_rests_47 (by decide) ?_
        refine g_to (L' := [(0, .int a0), (1, .int a1), (2, .int a2), (3, .int a3), (4, .int (v2 + (nI 1)))]) ?_ [1, 2, 3, 4, 0] rfl
        exact hgo1 _ _
      · refine g_iconst (v := (nI 0)) (q := 43) ok dX10_rests_42 rfl (by decide) ?_
        exact g_zret ok dX10_rests_43 rfl
set_option maxRecDepth 20000 in
theorem kX10_bids (N : Nat) (a1 : Int32) (a2 : Int32) (a3 : Int32) (w : gT) : gM S2 cl2 gTs yX10_bids cX10_bids 7 (some .int) rmX10_bids gi [.ref 0, .int a1, .int a2, .int a3] w (xX10_bids N a1 a2 a3 w) := by
  refine gM_of (own := RX10) [(0, .ref 0), (1, .int a1), (2, .int a2), (3, .int a3)] rfl (by decide) (fun _ => rfl) (fun _ => Nat.le_of_ble_eq_true rfl) (fun κ ok => ?_)
  unfold xX10_bids
  refine g_iload_n (q := 1) ok dX10_bids_0 rfl 1 rfl rfl ?_
  refine g_iconst (v := (nI 0)) (q := 2) ok dX10_bids_1 rfl (by decide) ?_
  refine g_bipush (v := (nI 20)) (q := 4) ok dX10_bids_2 rfl (by decide) ?_
  refine g_callSi (q := 7) (As := [.int a1, .int (nI 0), .int (nI 20)]) (st := []) ok tbl_good dX10_bids_4 rfl (kX10_in _ _ _ _) cf_X10_175 ⟨rfl, rfl, Nat.le_of_ble_eq_true rfl, Nat.le_of_ble_eq_true rfl⟩ rfl rfl (fun _ => Nat.le_of_ble_eq_true rfl) (fun v1 w2 => ?_)
  refine g_if_eq (q := 10) (g := 29) ok dX10_bids_7 rfl (by decide) ?_ ?_
  · refine g_iconst (v := (-1)) (q := 30) ok dX10_bids_29 rfl (by decide) ?_
    exact g_iret ok dX10_bids_30
  · refine g_iload_n (q := 11) ok dX10_bids_10 rfl 2 rfl rfl ?_
    refine g_iconst (v := (nI 0)) (q := 12) ok dX10_bids_11 rfl (by decide) ?_
    refine g_bipush (v := (nI 20)) (q := 14) ok dX10_bids_12 rfl (by decide) ?_
    refine g_callSi (q := 17) (As := [.int a2, .int (nI 0), .int (nI 20)]) (st := []) ok tbl_good dX10_bids_14 rfl (kX10_in _ _ _ _) cf_X10_175 ⟨rfl, rfl, Nat.le_of_ble_eq_true rfl, Nat.le_of_ble_eq_true rfl⟩ rfl rfl (fun _ => Nat.le_of_ble_eq_true rfl) (fun v3 w4 => ?_)
    refine g_if_eq (q := 20) (g := 29) ok dX10_bids_17 rfl (by decide) ?_ ?_
    · refine g_iconst (v := (-1)) (q := 30) ok dX10_bids_29 rfl (by decide) ?_
      exact g_iret ok dX10_bids_30
    · refine g_iload_n (q := 21) ok dX10_bids_20 rfl 3 rfl rfl ?_
      refine g_iconst (v := (nI 0)) (q := 22) ok dX10_bids_21 rfl (by decide) ?_
      refine g_iconst (v := (nI 2)) (q := 23) ok dX10_bids_22 rfl (by decide) ?_
      refine g_callSi (q := 26) (As := [.int a3, .int (nI 0), .int (nI 2)]) (st := []) ok tbl_good dX10_bids_23 rfl (kX10_in _ _ _ _) cf_X10_175 ⟨rfl, rfl, Nat.le_of_ble_eq_true rfl, Nat.le_of_ble_eq_true rfl⟩ rfl rfl (fun _ => Nat.le_of_ble_eq_true rfl) (fun v5 w6 => ?_)
      refine g_if_ne (q := 29) (g := 31) ok dX10_bids_26 rfl (by decide) ?_ ?_
      · refine g_iconst (v := (nI 0)) (q := 32) ok dX10_bids_31 rfl (by decide) ?_
        refine g_istore (q := 34) (L' := [(4, .int (nI 0)), (0, .ref 0), (1, .int a1), (2, .int a2), (3, .int a3)]) ok dX10_bids_32 rfl (by decide) rfl rfl ?_
        refine g_iconst (v := (-1)) (q := 35) ok dX10_bids_34 rfl (by decide) ?_
        refine g_istore (q := 37) (L' := [(5, .int (-1)), (4, .int (nI 0)), (0, .ref 0), (1, .int a1), (2, .int a2), (3, .int a3)]) ok dX10_bids_35 rfl (by decide) rfl rfl ?_
        refine g_iconst (v := (nI 0)) (q := 38) ok dX10_bids_37 rfl (by decide) ?_
        refine g_istore (q := 40) (L' := [(6, .int (nI 0)), (5, .int (-1)), (4, .int (nI 0)), (0, .ref 0), (1, .int a1), (2, .int a2), (3, .int a3)]) ok dX10_bids_38 rfl (by decide) rfl rfl ?_
        refine g_join (P := fun k7 => ∀ (v8 : Int32) (v9 : Int32) (w10 : gT), gJ S2 cl2 rmX10_bids 7 gi κ 99 [(0, .ref 0), (3, .int a3), (4, .int v8), (5, .int v9)] [] w10 (k7 v8 v9 w10)) (fun v8 v9 w10 => ?_) (fun k7 hk7 => ?_)
        · refine g_iload_n (q := 100) ok dX10_bids_99 rfl 1 rfl rfl ?_
          refine g_if_ne (q := 103) (g := 108) ok dX10_bids_100 rfl (by decide) ?_ ?_
          · refine g_iload (q := 110) ok dX10_bids_108 rfl 3 rfl ?_
            refine g_iconst (v := (-1)) (q := 111) ok dX10_bids_110 rfl (by decide) ?_
            refine g_icmp_ne (q := 114) (g := 119) ok dX10_bids_111 rfl (by decide) ?_ ?_
            · refine g_iload_n (q := 120) ok dX10_bids_119 rfl 1 rfl rfl ?_
              refine g_iconst (v := (nI 1)) (q := 121) ok dX10_bids_120 rfl (by decide) ?_
              refine g_icmp_ne (q := 124) (g := 134) ok dX10_bids_121 rfl (by decide) ?_ ?_
              · refine g_iload (q := 136) ok dX10_bids_134 rfl 3 rfl ?_
                refine g_bipush (v := (nI 9)) (q := 138) ok dX10_bids_136 rfl (by decide) ?_
                refine g_iremC (q := 139) ok dX10_bids_138 rfl (by decide) ?_
                refine g_iconst (v := (nI 1)) (q := 140) ok dX10_bids_139 rfl (by decide) ?_
                refine g_iadd (q := 141) ok dX10_bids_140 rfl ?_
                exact g_iret ok dX10_bids_141
              · refine g_iload (q := 126) ok dX10_bids_124 rfl 3 rfl ?_
                refine g_bipush (v := (nI 9)) (q := 128) ok dX10_bids_126 rfl (by decide) ?_
                refine g_idivC (q := 129) ok dX10_bids_128 rfl (by decide) ?_
                refine g_iconst (v := (nI 1)) (q := 130) ok dX10_bids_129 rfl (by decide) ?_
                refine g_iadd (q := 131) ok dX10_bids_130 rfl ?_
                refine g_goto (q := 141) ok dX10_bids_131 (by decide) ?_
                exact g_iret ok dX10_bids_141
            · refine g_bipush (v := (-2)) (q := 116) ok dX10_bids_114 rfl (by decide) ?_
              refine g_goto (q := 141) ok dX10_bids_116 (by decide) ?_
              exact g_iret ok dX10_bids_141
          · refine g_iload (q := 105) ok dX10_bids_103 rfl 2 rfl ?_
            refine g_goto (q := 141) ok dX10_bids_105 (by decide) ?_
            exact g_iret ok dX10_bids_141
        · refine g_to (L' := [(0, .ref 0), (1, .int a1), (2, .int a2), (3, .int a3), (4, .int (nI 0)), (5, .int (-1)), (6, .int (nI 0))]) ?_ [3, 4, 5, 6, 2, 1, 0] rfl
          refine g_loop3 (Lf := fun v12 v13 v14 => [(0, .ref 0), (1, .int a1), (2, .int a2), (3, .int a3), (4, .int v12), (5, .int v13), (6, .int v14)]) (fun go11 hgo11 v12 v13 v14 w15 => ?_) N _ _ _ _
          unfold xX10_bids_b40
          refine g_iload (q := 42) ok dX10_bids_40 rfl 6 rfl ?_
          refine g_bipush (v := (nI 81)) (q := 44) ok dX10_bids_42 rfl (by decide) ?_
          refine g_icmp_ge (q := 47) (g := 99) ok dX10_bids_44 rfl (by decide) ?_ ?_
          · refine g_to (L' := [(0, .ref 0), (3, .int a3), (4, .int v12), (5, .int v13)]) ?_ [0, 3, 4, 5] rfl
            exact hk7 _ _ _
          · refine g_join (P := fun k16 => ∀ (v17 : Int32) (v18 : Int32) (w19 : gT), gJ S2 cl2 rmX10_bids 7 gi κ 93 [(0, .ref 0), (1, .int a1), (2, .int a2), (3, .int a3), (6, .int v14), (4, .int v17), (5, .int v18)] [] w19 (k16 v17 v18 w19)) (fun v17 v18 w19 => ?_) (fun k16 hk16 => ?_)
            · refine g_iinc (v := v14 + (nI 1)) (q := 96) (L' := [(6, .int (v14 + (nI 1))), (0, .ref 0), (1, .int a1), (2, .int a2), (3, .int a3), (4, .int v17), (5, .int v18)]) ok dX10_bids_93 rfl 4 rfl rfl (by decide) rfl rfl ?_
              refine g_goto (q := 40) ok dX10_bids_96 (by decide) ?_
              refine g_to (L' := [(0, .ref 0), (1, .int a1), (2, .int a2), (3, .int a3), (4, .int v17), (5, .int v18), (6, .int (v14 + (nI 1)))]) ?_ [1, 2, 3, 4, 5, 6, 0] rfl
              exact hgo11 _ _ _ _
            · refine g_iload_n (q := 48) ok dX10_bids_47 rfl 1 rfl rfl ?_
              refine g_iload_n (q := 49) ok dX10_bids_48 rfl 2 rfl rfl ?_
              refine g_iload (q := 51) ok dX10_bids_49 rfl 6 rfl ?_
              refine g_bipush (v := (nI 9)) (q := 53) ok dX10_bids_51 rfl (by decide) ?_
              refine g_idivC (q := 54) ok dX10_bids_53 rfl (by decide) ?_
              refine g_iconst (v := (nI 1)) (q := 55) ok dX10_bids_54 rfl (by decide) ?_
              refine g_iadd (q := 56) ok dX10_bids_55 rfl ?_
              refine g_iload (q := 58) ok dX10_bids_56 rfl 6 rfl ?_
              refine g_bipush (v := (nI 9)) (q := 60) ok dX10_bids_58 rfl (by decide) ?_
              refine g_iremC (q := 61) ok dX10_bids_60 rfl (by decide) ?_
              refine g_iconst (v := (nI 1)) (q := 62) ok dX10_bids_61 rfl (by decide) ?_
              refine g_iadd (q := 63) ok dX10_bids_62 rfl ?_
              refine g_callSi (q := 66) (As := [.int a1, .int a2, .int ((v14 / (nI 9)) + (nI 1)), .int ((gRem v14 (nI 9)) + (nI 1))]) (st := []) ok tbl_good dX10_bids_63 rfl (kX10_rests N _ _ _ _ _) cf_X10_408 ⟨rfl, rfl, Nat.le_of_ble_eq_true rfl, Nat.le_of_ble_eq_true rfl⟩ rfl rfl (fun _ => Nat.le_of_ble_eq_true rfl) (fun v20 w21 => ?_)
              refine g_if_ne (q := 69) (g := 72) ok dX10_bids_66 rfl (by decide) ?_ ?_
              · refine g_join (P := fun k22 => ∀ (v23 : Int32) (w24 : gT), gJ S2 cl2 rmX10_bids 7 gi κ 85 [(0, .ref 0), (1, .int a1), (2, .int a2), (3, .int a3), (4, .int v12), (6, .int v14)] [.int v23] w24 (k22 v23 w24)) (fun v23 w24 => ?_) (fun k22 hk22 => ?_)
                · refine g_istore (q := 87) (L' := [(5, .int v23), (0, .ref 0), (1, .int a1), (2, .int a2), (3, .int a3), (4, .int v12), (6, .int v14)]) ok dX10_bids_85 rfl (by decide) rfl rfl ?_
                  refine g_iload (q := 89) ok dX10_bids_87 rfl 5 rfl ?_
                  refine g_iconst (v := (nI 1)) (q := 90) ok dX10_bids_89 rfl (by decide) ?_
                  refine g_iadd (q := 91) ok dX10_bids_90 rfl ?_
                  refine g_leti (fun v25 => ?_)
                  refine g_istore (q := 93) (L' := [(4, .int v25), (5, .int v23), (0, .ref 0), (1, .int a1), (2, .int a2), (3, .int a3), (6, .int v14)]) ok dX10_bids_91 rfl (by decide) rfl rfl ?_
                  refine g_to (L' := [(0, .ref 0), (1, .int a1), (2, .int a2), (3, .int a3), (6, .int v14), (4, .int v25), (5, .int v23)]) ?_ [2, 3, 4, 5, 6, 0, 1] rfl
                  exact hk16 _ _ _
                · refine g_iload (q := 74) ok dX10_bids_72 rfl 5 rfl ?_
                  refine g_iconst (v := (-1)) (q := 75) ok dX10_bids_74 rfl (by decide) ?_
                  refine g_icmp_ne (q := 78) (g := 83) ok dX10_bids_75 rfl (by decide) ?_ ?_
                  · refine g_iload (q := 85) ok dX10_bids_83 rfl 5 rfl ?_
                    refine g_to (L' := [(0, .ref 0), (1, .int a1), (2, .int a2), (3, .int a3), (4, .int v12), (6, .int v14)]) ?_ [0, 1, 2, 3, 4, 6] rfl
                    exact hk22 _ _
                  · refine g_iload (q := 80) ok dX10_bids_78 rfl 6 rfl ?_
                    refine g_goto (q := 85) ok dX10_bids_80 (by decide) ?_
                    refine g_to (L' := [(0, .ref 0), (1, .int a1), (2, .int a2), (3, .int a3), (4, .int v12), (6, .int v14)]) ?_ [0, 1, 2, 3, 4, 6] rfl
                    exact hk22 _ _
              · refine g_goto (q := 93) ok dX10_bids_69 (by decide) ?_
                refine g_to (L' := [(0, .ref 0), (1, .int a1), (2, .int a2), (3, .int a3), (6, .int v14), (4, .int v12), (5, .int v13)]) ?_ [0, 1, 2, 3, 6, 4, 5] rfl
                exact hk16 _ _ _
      · refine g_iconst (v := (-1)) (q := 30) ok dX10_bids_29 rfl (by decide) ?_
        exact g_iret ok dX10_bids_30
set_option maxRecDepth 20000 in
theorem kX10_gcd (N : Nat) (a0 : Int32) (a1 : Int32) (w : gT) : gM S2 cl2 gTs yX10_gcd cX10_gcd 5 (some .int) rmX10_gcd gi [.int a0, .int a1] w (xX10_gcd N a0 a1 w) := by
  refine gM_of (own := RX10) [(0, .int a0), (1, .int a1)] rfl (by decide) (fun _ => rfl) (fun _ => Nat.le_of_ble_eq_true rfl) (fun κ ok => ?_)
  unfold xX10_gcd
  refine g_iload_n (q := 1) ok dX10_gcd_0 rfl 0 rfl rfl ?_
  refine g_istore_n (q := 2) (L' := [(2, .int a0), (0, .int a0), (1, .int a1)]) ok dX10_gcd_1 rfl rfl (by decide) rfl rfl ?_
  refine g_iload_n (q := 3) ok dX10_gcd_2 rfl 2 rfl rfl ?_
  refine g_istore_n (q := 4) (L' := [(3, .int a1), (2, .int a0), (0, .int a0), (1, .int a1)]) ok dX10_gcd_3 rfl rfl (by decide) rfl rfl ?_
  refine g_to (L' := [(2, .int a0), (3, .int a1)]) ?_ [1, 0] rfl
  refine g_loop2 (Lf := fun v2 v3 => [(2, .int v2), (3, .int v3)]) (fun go1 hgo1 v2 v3 w4 => ?_) N _ _ _
  unfold xX10_gcd_b4
  refine g_iload_n (q := 5) ok dX10_gcd_4 rfl 1 rfl rfl ?_
  refine g_if_eq (q := 8) (g := 21) ok dX10_gcd_5 rfl (by decide) ?_ ?_
  · refine g_iload_n (q := 22) ok dX10_gcd_21 rfl 0 rfl rfl ?_
    exact g_iret ok dX10_gcd_22
  · refine g_iload_n (q := 9) ok dX10_gcd_8 rfl 0 rfl rfl ?_
    refine g_iload_n (q := 10) ok dX10_gcd_9 rfl 1 rfl rfl ?_
    refine g_iremV (q := 11) ok dX10_gcd_10 rfl ?_
    refine g_leti (fun v5 => ?_)
    refine g_istore (q := 13) (L' := [(4, .int v5), (2, .int v2), (3, .int v3)]) ok dX10_gcd_11 rfl (by decide) rfl rfl ?_
    refine g_iload_n (q := 14) ok dX10_gcd_13 rfl 2 rfl rfl ?_
    refine g_istore_n (q := 15) (L' := [(2, .int v3), (4, .int v5), (3, .int v3)]) ok dX10_gcd_14 rfl rfl (by decide) rfl rfl ?_
    refine g_iload (q := 17) ok dX10_gcd_15 rfl 1 rfl ?_
    refine g_istore_n (q := 18) (L' := [(3, .int v5), (2, .int v3), (4, .int v5)]) ok dX10_gcd_17 rfl rfl (by decide) rfl rfl ?_
    refine g_goto (q := 4) ok dX10_gcd_18 (by decide) ?_
    refine g_to (L' := [(2, .int v3), (3, .int v5)]) ?_ [1, 0] rfl
    exact hgo1 _ _ _
set_option maxRecDepth 20000 in
theorem kX10_odds (N : Nat) (a1 : Int32) (a2 : Int32) (a3 : Int32) (w : gT) : gM S2 cl2 gTs yX10_odds cX10_odds 11 (some .int) rmX10_odds gi [.ref 0, .int a1, .int a2, .int a3] w (xX10_odds N a1 a2 a3 w) := by
  refine gM_of (own := RX10) [(0, .ref 0), (1, .int a1), (2, .int a2), (3, .int a3)] rfl (by decide) (fun _ => rfl) (fun _ => Nat.le_of_ble_eq_true rfl) (fun κ ok => ?_)
  unfold xX10_odds
  refine g_iload_n (q := 1) ok dX10_odds_0 rfl 1 rfl rfl ?_
  refine g_callSi (q := 4) (As := [.int a1]) (st := []) ok tbl_good dX10_odds_1 rfl (kX10_isNight _ _) cf_X10_179 ⟨rfl, rfl, Nat.le_of_ble_eq_true rfl, Nat.le_of_ble_eq_true rfl⟩ rfl rfl (fun _ => Nat.le_of_ble_eq_true rfl) (fun v1 w2 => ?_)
  refine g_if_eq (q := 7) (g := 24) ok dX10_odds_4 rfl (by decide) ?_ ?_
  · refine g_iconst (v := (-1)) (q := 25) ok dX10_odds_24 rfl (by decide) ?_
    exact g_iret ok dX10_odds_25
  · refine g_aload_n (q := 8) ok dX10_odds_7 rfl 0 rfl rfl ?_
    refine g_iload_n (q := 9) ok dX10_odds_8 rfl 2 rfl rfl ?_
    refine g_callVi (q := 12) (As := [.int a2]) (st := []) ok tbl_good dX10_odds_9 rfl (kX10_isSleeper _ _) cf_X10_185 ⟨rfl, rfl, Nat.le_of_ble_eq_true rfl, Nat.le_of_ble_eq_true rfl⟩ sM_0 rfl rfl rfl (fun _ => Nat.le_of_ble_eq_true rfl) (fun v3 w4 => ?_)
    refine g_if_eq (q := 15) (g := 24) ok dX10_odds_12 rfl (by decide) ?_ ?_
    · refine g_iconst (v := (-1)) (q := 25) ok dX10_odds_24 rfl (by decide) ?_
      exact g_iret ok dX10_odds_25
    · refine g_iload_n (q := 16) ok dX10_odds_15 rfl 3 rfl rfl ?_
      refine g_iconst (v := (nI 0)) (q := 17) ok dX10_odds_16 rfl (by decide) ?_
      refine g_iconst (v := (nI 1)) (q := 18) ok dX10_odds_17 rfl (by decide) ?_
      refine g_callSi (q := 21) (As := [.int a3, .int (nI 0), .int (nI 1)]) (st := []) ok tbl_good dX10_odds_18 rfl (kX10_in _ _ _ _) cf_X10_175 ⟨rfl, rfl, Nat.le_of_ble_eq_true rfl, Nat.le_of_ble_eq_true rfl⟩ rfl rfl (fun _ => Nat.le_of_ble_eq_true rfl) (fun v5 w6 => ?_)
      refine g_if_ne (q := 24) (g := 26) ok dX10_odds_21 rfl (by decide) ?_ ?_
      · refine g_aload_n (q := 27) ok dX10_odds_26 rfl 0 rfl rfl ?_
        refine g_getI (q := 30) (N := 0) ok dX10_odds_27 rfl fl_X10_182 sM_0 rfl ?_
        refine g_leti (fun v7 => ?_)
        refine g_istore (q := 32) (L' := [(4, .int v7), (0, .ref 0), (1, .int a1), (2, .int a2), (3, .int a3)]) ok dX10_odds_30 rfl (by decide) rfl rfl ?_
        refine g_iconst (v := (nI 0)) (q := 33) ok dX10_odds_32 rfl (by decide) ?_
        refine g_istore (q := 35) (L' := [(5, .int (nI 0)), (4, .int v7), (0, .ref 0), (1, .int a1), (2, .int a2), (3, .int a3)]) ok dX10_odds_33 rfl (by decide) rfl rfl ?_
        refine g_iconst (v := (nI 1)) (q := 36) ok dX10_odds_35 rfl (by decide) ?_
        refine g_istore (q := 38) (L' := [(6, .int (nI 1)), (5, .int (nI 0)), (4, .int v7), (0, .ref 0), (1, .int a1), (2, .int a2), (3, .int a3)]) ok dX10_odds_36 rfl (by decide) rfl rfl ?_
        refine g_iconst (v := (nI 1)) (q := 39) ok dX10_odds_38 rfl (by decide) ?_
        refine g_istore (q := 41) (L' := [(7, .int (nI 1)), (6, .int (nI 1)), (5, .int (nI 0)), (4, .int v7), (0, .ref 0), (1, .int a1), (2, .int a2), (3, .int a3)]) ok dX10_odds_39 rfl (by decide) rfl rfl ?_
        refine g_iconst (v := (nI 0)) (q := 42) ok dX10_odds_41 rfl (by decide) ?_
        refine g_istore (q := 44) (L' := [(8, .int (nI 0)), (7, .int (nI 1)), (6, .int (nI 1)), (5, .int (nI 0)), (4, .int v7), (0, .ref 0), (1, .int a1), (2, .int a2), (3, .int a3)]) ok dX10_odds_42 rfl (by decide) rfl rfl ?_
        refine g_join (P := fun k8 => ∀ (v9 : Int32) (v10 : Int32) (w11 : gT), gJ S2 cl2 rmX10_odds 11 gi κ 223 [(0, .ref 0), (3, .int a3), (6, .int v9), (7, .int v10)] [] w11 (k8 v9 v10 w11)) (fun v9 v10 w11 => ?_) (fun k8 hk8 => ?_)
        · refine g_iload (q := 225) ok dX10_odds_223 rfl 2 rfl ?_
          refine g_iload (q := 227) ok dX10_odds_225 rfl 3 rfl ?_
          refine g_isub (q := 228) ok dX10_odds_227 rfl ?_
          refine g_iload (q := 230) ok dX10_odds_228 rfl 2 rfl ?_
          refine g_callSi (q := 233) (As := [.int (v9 - v10), .int v9]) (st := []) ok tbl_good dX10_odds_230 rfl (kX10_gcd N _ _ _) cf_X10_412 ⟨rfl, rfl, Nat.le_of_ble_eq_true rfl, Nat.le_of_ble_eq_true rfl⟩ rfl rfl (fun _ => Nat.le_of_ble_eq_true rfl) (fun v12 w13 => ?_)
          refine g_istore (q := 235) (L' := [(8, .int v12), (0, .ref 0), (3, .int a3), (6, .int v9), (7, .int v10)]) ok dX10_odds_233 rfl (by decide) rfl rfl ?_
          refine g_iload_n (q := 236) ok dX10_odds_235 rfl 2 rfl rfl ?_
          refine g_if_ne (q := 239) (g := 250) ok dX10_odds_236 rfl (by decide) ?_ ?_
          · refine g_iload (q := 252) ok dX10_odds_250 rfl 3 rfl ?_
            refine g_iload (q := 254) ok dX10_odds_252 rfl 0 rfl ?_
            refine g_idivV (q := 255) ok dX10_odds_254 rfl ?_
            exact g_iret ok dX10_odds_255
          · refine g_iload (q := 241) ok dX10_odds_239 rfl 3 rfl ?_
            refine g_iload (q := 243) ok dX10_odds_241 rfl 4 rfl ?_
            refine g_isub (q := 244) ok dX10_odds_243 rfl ?_
            refine g_iload (q := 246) ok dX10_odds_244 rfl 0 rfl ?_
            refine g_idivV (q := 247) ok dX10_odds_246 rfl ?_
            refine g_goto (q := 255) ok dX10_odds_247 (by decide) ?_
            exact g_iret ok dX10_odds_255
        · refine g_to (L' := [(0, .ref 0), (1, .int a1), (2, .int a2), (3, .int a3), (4, .int v7), (5, .int (nI 0)), (6, .int (nI 1)), (7, .int (nI 1)), (8, .int (nI 0))]) ?_ [5, 6, 7, 8, 4, 3, 2, 1, 0] rfl
          refine g_loop5 (Lf := fun v15 v16 v17 v18 v19 => [(0, .ref 0), (1, .int a1), (2, .int a2), (3, .int a3), (4, .int v15), (5, .int v16), (6, .int v17), (7, .int v18), (8, .int v19)]) (fun go14 hgo14 v15 v16 v17 v18 v19 w20 => ?_) N _ _ _ _ _ _
          unfold xX10_odds_b44
          refine g_iload (q := 46) ok dX10_odds_44 rfl 8 rfl ?_
          refine g_aload_n (q := 47) ok dX10_odds_46 rfl 0 rfl rfl ?_
          refine g_getI (q := 50) (N := 0) ok dX10_odds_47 rfl fl_X10_233 sM_0 rfl ?_
          refine g_icmp_ge (q := 53) (g := 223) ok dX10_odds_50 rfl (by decide) ?_ ?_
          · refine g_to (L' := [(0, .ref 0), (3, .int a3), (6, .int v17), (7, .int v18)]) ?_ [0, 3, 6, 7] rfl
            exact hk8 _ _ _
          · refine g_join (P := fun k21 => ∀ (v22 : Int32) (v23 : Int32) (v24 : Int32) (v25 : Int32) (w26 : gT), gJ S2 cl2 rmX10_odds 11 gi κ 217 [(0, .ref 0), (1, .int a1), (2, .int a2), (3, .int a3), (8, .int v19), (4, .int v22), (5, .int v23), (6, .int v24), (7, .int v25)] [] w26 (k21 v22 v23 v24 v25 w26)) (fun v22 v23 v24 v25 w26 => ?_) (fun k21 hk21 => ?_)
            · refine g_iinc (v := v19 + (nI 1)) (q := 220) (L' := [(8, .int (v19 + (nI 1))), (0, .ref 0), (1, .int a1), (2, .int a2), (3, .int a3), (4, .int v22), (5, .int v23), (6, .int v24), (7, .int v25)]) ok dX10_odds_217 rfl 4 rfl rfl (by decide) rfl rfl ?_
              refine g_goto (q := 44) ok dX10_odds_220 (by decide) ?_
              refine g_to (L' := [(0, .ref 0), (1, .int a1), (2, .int a2), (3, .int a3), (4, .int v22), (5, .int v23), (6, .int v24), (7, .int v25), (8, .int (v19 + (nI 1)))]) ?_ [1, 2, 3, 4, 5, 6, 7, 8, 0] rfl
              exact hgo14 _ _ _ _ _ _
            · refine g_aload_n (q := 54) ok dX10_odds_53 rfl 0 rfl rfl ?_
              refine g_getR (q := 57) ok dX10_odds_54 rfl fl_X10_41 sM_0 rfl ?_
              refine g_iload (q := 59) ok dX10_odds_57 rfl 8 rfl ?_
              refine g_iald (q := 60) ok dX10_odds_59 rfl sM_11 ?_
              refine g_iload_n (q := 61) ok dX10_odds_60 rfl 1 rfl rfl ?_
              refine g_icmp_ne (q := 64) (g := 217) ok dX10_odds_61 rfl (by decide) ?_ ?_
              · refine g_to (L' := [(0, .ref 0), (1, .int a1), (2, .int a2), (3, .int a3), (8, .int v19), (4, .int v15), (5, .int v16), (6, .int v17), (7, .int v18)]) ?_ [0, 1, 2, 3, 8, 4, 5, 6, 7] rfl
                exact hk21 _ _ _ _ _
              · refine g_aload_n (q := 65) ok dX10_odds_64 rfl 0 rfl rfl ?_
                refine g_iload (q := 67) ok dX10_odds_65 rfl 8 rfl ?_
                refine g_callVi (q := 70) (As := [.int v19]) (st := []) ok tbl_good dX10_odds_67 rfl (kX10_counts N _ _) cf_X10_239 ⟨rfl, rfl, Nat.le_of_ble_eq_true rfl, Nat.le_of_ble_eq_true rfl⟩ sM_0 rfl rfl rfl (fun _ => Nat.le_of_ble_eq_true rfl) (fun v27 w28 => ?_)
                refine g_if_ne (q := 73) (g := 76) ok dX10_odds_70 rfl (by decide) ?_ ?_
                · refine g_join (P := fun k29 => ∀ (v30 : Int32) (w31 : gT), gJ S2 cl2 rmX10_odds 11 gi κ 96 [(0, .ref 0), (1, .int a1), (2, .int a2), (3, .int a3), (4, .int v15), (5, .int v16), (6, .int v17), (7, .int v18), (8, .int v19)] [.int v30] w31 (k29 v30 w31)) (fun v30 w31 => ?_) (fun k29 hk29 => ?_)
                  · refine g_join (P := fun k32 => ∀ (v33 : Int32) (v34 : Int32) (v35 : Int32) (w36 : gT), gJ S2 cl2 rmX10_odds 11 gi κ 110 [(0, .ref 0), (1, .int a1), (2, .int a2), (3, .int a3), (5, .int v16), (6, .int v17), (7, .int v18), (8, .int v19), (9, .int v33)] [.int v35, .int v34] w36 (k32 v33 v34 v35 w36)) (fun v33 v34 v35 w36 => ?_) (fun k32 hk32 => ?_)
                    · refine g_isub (q := 111) ok dX10_odds_110 rfl ?_
                      refine g_leti (fun v37 => ?_)
                      refine g_istore (q := 113) (L' := [(4, .int v37), (0, .ref 0), (1, .int a1), (2, .int a2), (3, .int a3), (5, .int v16), (6, .int v17), (7, .int v18), (8, .int v19), (9, .int v33)]) ok dX10_odds_111 rfl (by decide) rfl rfl ?_
                      refine g_aload_n (q := 114) ok dX10_odds_113 rfl 1 rfl rfl ?_
                      refine g_iload (q := 116) ok dX10_odds_114 rfl 8 rfl ?_
                      refine g_callVi (q := 119) (As := [.int v19]) (st := []) ok tbl_good dX10_odds_116 rfl (kX10_stands N _ _) cf_X10_341 ⟨rfl, rfl, Nat.le_of_ble_eq_true rfl, Nat.le_of_ble_eq_true rfl⟩ sM_0 rfl rfl rfl (fun _ => Nat.le_of_ble_eq_true rfl) (fun v38 w39 => ?_)
                      refine g_if_eq (q := 122) (g := 125) ok dX10_odds_119 rfl (by decide) ?_ ?_
                      · refine g_iload (q := 127) ok dX10_odds_125 rfl 5 rfl ?_
                        refine g_iconst (v := (nI 1)) (q := 128) ok dX10_odds_127 rfl (by decide) ?_
                        refine g_iadd (q := 129) ok dX10_odds_128 rfl ?_
                        refine g_leti (fun v40 => ?_)
                        refine g_istore (q := 131) (L' := [(5, .int v40), (4, .int v37), (0, .ref 0), (1, .int a1), (2, .int a2), (3, .int a3), (6, .int v17), (7, .int v18), (8, .int v19), (9, .int v33)]) ok dX10_odds_129 rfl (by decide) rfl rfl ?_
                        refine g_iload (q := 133) ok dX10_odds_131 rfl 0 rfl ?_
                        refine g_iconst (v := (nI 4)) (q := 134) ok dX10_odds_133 rfl (by decide) ?_
                        refine g_icmp_le (q := 137) (g := 140) ok dX10_odds_134 rfl (by decide) ?_ ?_
                        · refine g_join (P := fun k41 => ∀ (v42 : Int32) (v43 : Int32) (v44 : Int32) (w45 : gT), gJ S2 cl2 rmX10_odds 11 gi κ 214 [(0, .ref 0), (1, .int a1), (2, .int a2), (3, .int a3), (4, .int v37), (5, .int v40), (8, .int v19), (6, .int v42)] [.int v44, .int v43] w45 (k41 v42 v43 v44 w45)) (fun v42 v43 v44 w45 => ?_) (fun k41 hk41 => ?_)
                          · refine g_imul (q := 215) ok dX10_odds_214 rfl ?_
                            refine g_leti (fun v46 => ?_)
                            refine g_istore (q := 217) (L' := [(7, .int v46), (0, .ref 0), (1, .int a1), (2, .int a2), (3, .int a3), (4, .int v37), (5, .int v40), (8, .int v19), (6, .int v42)]) ok dX10_odds_215 rfl (by decide) rfl rfl ?_
                            refine g_to (L' := [(0, .ref 0), (1, .int a1), (2, .int a2), (3, .int a3), (8, .int v19), (4, .int v37), (5, .int v40), (6, .int v42), (7, .int v46)]) ?_ [1, 2, 3, 4, 7, 5, 6, 8, 0] rfl
                            exact hk21 _ _ _ _ _
                          · refine g_aload_n (q := 141) ok dX10_odds_140 rfl 2 rfl rfl ?_
                            refine g_aload_n (q := 142) ok dX10_odds_141 rfl 2 rfl rfl ?_
                            refine g_getR (q := 145) ok dX10_odds_142 rfl fl_X10_38 sM_0 rfl ?_
                            refine g_iload (q := 147) ok dX10_odds_145 rfl 8 rfl ?_
                            refine g_iald (q := 148) ok dX10_odds_147 rfl sM_10 ?_
                            refine g_iload_n (q := 149) ok dX10_odds_148 rfl 3 rfl rfl ?_
                            refine g_aload_n (q := 150) ok dX10_odds_149 rfl 2 rfl rfl ?_
                            refine g_getR (q := 153) ok dX10_odds_150 rfl fl_X10_44 sM_0 rfl ?_
                            refine g_iload (q := 155) ok dX10_odds_153 rfl 8 rfl ?_
                            refine g_iald (q := 156) ok dX10_odds_155 rfl sM_12 ?_
                            refine g_iload (q := 158) ok dX10_odds_156 rfl 9 rfl ?_
                            refine g_callVv (q := 161) (As := [.int (w39.1 10 v19.toNatClampNeg), .int a1, .int (w39.1 12 v19.toNatClampNeg), .int v33]) (st := []) ok tbl_good dX10_odds_158 rfl (kX10_feels N _ _ _ _ _) cf_X10_326 ⟨rfl, rfl, Nat.le_of_ble_eq_true rfl, Nat.le_of_ble_eq_true rfl⟩ sM_0 rfl rfl rfl (fun _ => Nat.le_of_ble_eq_true rfl) (fun w47 => ?_)
                            refine g_aload_n (q := 162) ok dX10_odds_161 rfl 2 rfl rfl ?_
                            refine g_bipush (v := (nI 122)) (q := 164) ok dX10_odds_162 rfl (by decide) ?_
                            refine g_bipush (v := (nI 10)) (q := 166) ok dX10_odds_164 rfl (by decide) ?_
                            refine g_callVi (q := 169) (As := [.int (nI 122), .int (nI 10)]) (st := []) ok tbl_good dX10_odds_166 rfl (kX10_byLaw N _ _ _) cf_X10_333 ⟨rfl, rfl, Nat.le_of_ble_eq_true rfl, Nat.le_of_ble_eq_true rfl⟩ sM_0 rfl rfl rfl (fun _ => Nat.le_of_ble_eq_true rfl) (fun v48 w49 => ?_)
                            refine g_istore (q := 171) (L' := [(10, .int v48), (5, .int v40), (4, .int v37), (0, .ref 0), (1, .int a1), (2, .int a2), (3, .int a3), (6, .int v17), (7, .int v18), (8, .int v19), (9, .int v33)]) ok dX10_odds_169 rfl (by decide) rfl rfl ?_
                            refine g_iload (q := 173) ok dX10_odds_171 rfl 7 rfl ?_
                            refine g_bipush (v := (nI 10)) (q := 175) ok dX10_odds_173 rfl (by decide) ?_
                            refine g_imul (q := 176) ok dX10_odds_175 rfl ?_
                            refine g_leti (fun v50 => ?_)
                            refine g_istore (q := 178) (L' := [(6, .int v50), (10, .int v48), (5, .int v40), (4, .int v37), (0, .ref 0), (1, .int a1), (2, .int a2), (3, .int a3), (7, .int v18), (8, .int v19), (9, .int v33)]) ok dX10_odds_176 rfl (by decide) rfl rfl ?_
                            refine g_iload (q := 180) ok dX10_odds_178 rfl 8 rfl ?_
                            refine g_aload_n (q := 181) ok dX10_odds_180 rfl 4 rfl rfl ?_
                            refine g_aload_n (q := 182) ok dX10_odds_181 rfl 4 rfl rfl ?_
                            refine g_getR (q := 185) ok dX10_odds_182 rfl fl_X10_38 sM_0 rfl ?_
                            refine g_iload (q := 187) ok dX10_odds_185 rfl 9 rfl ?_
                            refine g_iald (q := 188) ok dX10_odds_187 rfl sM_10 ?_
                            refine g_iload_n (q := 189) ok dX10_odds_188 rfl 6 rfl rfl ?_
                            refine g_iload_n (q := 190) ok dX10_odds_189 rfl 5 rfl rfl ?_
                            refine g_aload_n (q := 191) ok dX10_odds_190 rfl 4 rfl rfl ?_
                            refine g_getR (q := 194) ok dX10_odds_191 rfl fl_X10_44 sM_0 rfl ?_
                            refine g_iload (q := 196) ok dX10_odds_194 rfl 9 rfl ?_
                            refine g_iald (q := 197) ok dX10_odds_196 rfl sM_12 ?_
                            refine g_iload (q := 199) ok dX10_odds_197 rfl 10 rfl ?_
                            refine g_callVi (q := 202) (As := [.int (w49.1 10 v19.toNatClampNeg), .int a2, .int a1, .int (w49.1 12 v19.toNatClampNeg), .int v33]) (st := [.int v18]) ok tbl_good dX10_odds_199 rfl (kX10_frightOf N _ _ _ _ _ _) cf_X10_336 ⟨rfl, rfl, Nat.le_of_ble_eq_true rfl, Nat.le_of_ble_eq_true rfl⟩ sM_0 rfl rfl rfl (fun _ => Nat.le_of_ble_eq_true rfl) (fun v51 w52 => ?_)
                            refine g_bipush (v := (-2)) (q := 204) ok dX10_odds_202 rfl (by decide) ?_
                            refine g_icmp_ne (q := 207) (g := 212) ok dX10_odds_204 rfl (by decide) ?_ ?_
                            · refine g_iload (q := 214) ok dX10_odds_212 rfl 1 rfl ?_
                              refine g_to (L' := [(0, .ref 0), (1, .int a1), (2, .int a2), (3, .int a3), (4, .int v37), (5, .int v40), (8, .int v19), (6, .int v50)]) ?_ [4, 5, 6, 7, 3, 2, 9, 0] rfl
                              exact hk41 _ _ _ _
                            · refine g_bipush (v := (nI 10)) (q := 209) ok dX10_odds_207 rfl (by decide) ?_
                              refine g_goto (q := 214) ok dX10_odds_209 (by decide) ?_
                              refine g_to (L' := [(0, .ref 0), (1, .int a1), (2, .int a2), (3, .int a3), (4, .int v37), (5, .int v40), (8, .int v19), (6, .int v50)]) ?_ [4, 5, 6, 7, 3, 2, 9, 0] rfl
                              exact hk41 _ _ _ _
                        · refine g_bipush (v := (-2)) (q := 139) ok dX10_odds_137 rfl (by decide) ?_
                          exact g_iret ok dX10_odds_139
                      · refine g_goto (q := 217) ok dX10_odds_122 (by decide) ?_
                        refine g_to (L' := [(0, .ref 0), (1, .int a1), (2, .int a2), (3, .int a3), (8, .int v19), (4, .int v37), (5, .int v16), (6, .int v17), (7, .int v18)]) ?_ [1, 2, 3, 4, 8, 0, 5, 6, 7] rfl
                        exact hk21 _ _ _ _ _
                    · refine g_istore (q := 98) (L' := [(9, .int v30), (0, .ref 0), (1, .int a1), (2, .int a2), (3, .int a3), (4, .int v15), (5, .int v16), (6, .int v17), (7, .int v18), (8, .int v19)]) ok dX10_odds_96 rfl (by decide) rfl rfl ?_
                      refine g_iload (q := 100) ok dX10_odds_98 rfl 5 rfl ?_
                      refine g_iload (q := 102) ok dX10_odds_100 rfl 0 rfl ?_
                      refine g_if_eq (q := 105) (g := 109) ok dX10_odds_102 rfl (by decide) ?_ ?_
                      · refine g_iconst (v := (nI 0)) (q := 110) ok dX10_odds_109 rfl (by decide) ?_
                        refine g_to (L' := [(0, .ref 0), (1, .int a1), (2, .int a2), (3, .int a3), (5, .int v16), (6, .int v17), (7, .int v18), (8, .int v19), (9, .int v30)]) ?_ [1, 2, 3, 4, 6, 7, 8, 9, 0] rfl
                        exact hk32 _ _ _ _
                      · refine g_iconst (v := (nI 1)) (q := 106) ok dX10_odds_105 rfl (by decide) ?_
                        refine g_goto (q := 110) ok dX10_odds_106 (by decide) ?_
                        refine g_to (L' := [(0, .ref 0), (1, .int a1), (2, .int a2), (3, .int a3), (5, .int v16), (6, .int v17), (7, .int v18), (8, .int v19), (9, .int v30)]) ?_ [1, 2, 3, 4, 6, 7, 8, 9, 0] rfl
                        exact hk32 _ _ _ _
                  · refine g_join (P := fun k53 => ∀ (w54 : gT), gJ S2 cl2 rmX10_odds 11 gi κ 95 [(0, .ref 0), (1, .int a1), (2, .int a2), (3, .int a3), (4, .int v15), (5, .int v16), (6, .int v17), (7, .int v18), (8, .int v19)] [] w54 (k53 w54)) (fun w54 => ?_) (fun k53 hk53 => ?_)
                    · refine g_iconst (v := (nI 0)) (q := 96) ok dX10_odds_95 rfl (by decide) ?_
                      exact hk29 _ _
                    · refine g_aload_n (q := 77) ok dX10_odds_76 rfl 0 rfl rfl ?_
                      refine g_getR (q := 80) ok dX10_odds_77 rfl fl_X10_56 sM_0 rfl ?_
                      refine g_iload (q := 82) ok dX10_odds_80 rfl 8 rfl ?_
                      refine g_zald (q := 83) ok dX10_odds_82 rfl sM_16 ?_
                      refine g_if_eq (q := 86) (g := 95) ok dX10_odds_83 rfl (by decide) ?_ ?_
                      · exact hk53 _
                      · refine g_iload (q := 88) ok dX10_odds_86 rfl 4 rfl ?_
                        refine g_if_le (q := 91) (g := 95) ok dX10_odds_88 rfl (by decide) ?_ ?_
                        · exact hk53 _
                        · refine g_iconst (v := (nI 1)) (q := 92) ok dX10_odds_91 rfl (by decide) ?_
                          refine g_goto (q := 96) ok dX10_odds_92 (by decide) ?_
                          exact hk29 _ _
                · refine g_goto (q := 217) ok dX10_odds_73 (by decide) ?_
                  refine g_to (L' := [(0, .ref 0), (1, .int a1), (2, .int a2), (3, .int a3), (8, .int v19), (4, .int v15), (5, .int v16), (6, .int v17), (7, .int v18)]) ?_ [0, 1, 2, 3, 8, 4, 5, 6, 7] rfl
                  exact hk21 _ _ _ _ _
      · refine g_iconst (v := (-1)) (q := 25) ok dX10_odds_24 rfl (by decide) ?_
        exact g_iret ok dX10_odds_25
set_option maxRecDepth 20000 in
theorem kX10_seed (a1 : Int32) (w : gT) : gM S2 cl2 gTs yX10_seed cX10_seed 2 (some .boolean) rmX10_seed gi [.ref 0, .int a1] w (xX10_seed a1 w) := by
  refine gM_of (own := RX10) [(0, .ref 0), (1, .int a1)] rfl (by decide) (fun _ => rfl) (fun _ => Nat.le_of_ble_eq_true rfl) (fun κ ok => ?_)
  unfold xX10_seed
  refine g_iload_n (q := 1) ok dX10_seed_0 rfl 1 rfl rfl ?_
  refine g_iconst (v := (nI 0)) (q := 2) ok dX10_seed_1 rfl (by decide) ?_
  refine g_ldcw (q := 5) ok dX10_seed_2 rfl tw_1594 ?_
  refine g_callSi (q := 8) (As := [.int a1, .int (nI 0), .int (nI 65535)]) (st := []) ok tbl_good dX10_seed_5 rfl (kX10_in _ _ _ _) cf_X10_175 ⟨rfl, rfl, Nat.le_of_ble_eq_true rfl, Nat.le_of_ble_eq_true rfl⟩ rfl rfl (fun _ => Nat.le_of_ble_eq_true rfl) (fun v1 w2 => ?_)
  refine g_if_ne (q := 11) (g := 13) ok dX10_seed_8 rfl (by decide) ?_ ?_
  · refine g_aload_n (q := 14) ok dX10_seed_13 rfl 0 rfl rfl ?_
    refine g_iload_n (q := 15) ok dX10_seed_14 rfl 1 rfl rfl ?_
    refine g_put (q := 18) ok dX10_seed_15 rfl fp_X10_154 sM_0 rfl rfl rfl ?_
    refine g_letw (fun w3 => ?_)
    refine g_iconst (v := (nI 1)) (q := 19) ok dX10_seed_18 rfl (by decide) ?_
    exact g_zret ok dX10_seed_19 rfl
  · refine g_iconst (v := (nI 0)) (q := 12) ok dX10_seed_11 rfl (by decide) ?_
    exact g_zret ok dX10_seed_12 rfl
set_option maxRecDepth 20000 in
theorem kX10_copies (N : Nat) (a2 : Int32) (w : gT) : gM S2 cl2 gTs yX10_copies cX10_copies 4 none rmX10_copies gv [.ref 1, .ref 40, .int a2] w (xX10_copies N a2 w) := by
  refine gM_of (own := RX10) [(0, .ref 1), (1, .ref 40), (2, .int a2)] rfl (by decide) (fun _ => rfl) (fun _ => Nat.le_of_ble_eq_true rfl) (fun κ ok => ?_)
  unfold xX10_copies
  refine g_iconst (v := (nI 0)) (q := 1) ok dX10_copies_0 rfl (by decide) ?_
  refine g_istore_n (q := 2) (L' := [(3, .int (nI 0)), (0, .ref 1), (1, .ref 40), (2, .int a2)]) ok dX10_copies_1 rfl rfl (by decide) rfl rfl ?_
  refine g_to (L' := [(0, .ref 1), (1, .ref 40), (2, .int a2), (3, .int (nI 0))]) ?_ [1, 2, 3, 0] rfl
  refine g_loop1 (Lf := fun v2 => [(0, .ref 1), (1, .ref 40), (2, .int a2), (3, .int v2)]) (fun go1 hgo1 v2 w3 => ?_) N _ _
  unfold xX10_copies_b2
  refine g_iload_n (q := 3) ok dX10_copies_2 rfl 3 rfl rfl ?_
  refine g_iload_n (q := 4) ok dX10_copies_3 rfl 2 rfl rfl ?_
  refine g_icmp_ge (q := 7) (g := 19) ok dX10_copies_4 rfl (by decide) ?_ ?_
  · exact g_vret ok dX10_copies_19
  · refine g_aload_n (q := 8) ok dX10_copies_7 rfl 1 rfl rfl ?_
    refine g_iload_n (q := 9) ok dX10_copies_8 rfl 3 rfl rfl ?_
    refine g_aload_n (q := 10) ok dX10_copies_9 rfl 0 rfl rfl ?_
    refine g_iload_n (q := 11) ok dX10_copies_10 rfl 3 rfl rfl ?_
    refine g_iald (q := 12) ok dX10_copies_11 rfl sM_1 ?_
    refine g_iast (q := 13) ok dX10_copies_12 rfl sM_40 ?_
    refine g_letw (fun w4 => ?_)
    refine g_iinc (v := v2 + (nI 1)) (q := 16) (L' := [(3, .int (v2 + (nI 1))), (0, .ref 1), (1, .ref 40), (2, .int a2)]) ok dX10_copies_13 rfl 3 rfl rfl (by decide) rfl rfl ?_
    refine g_goto (q := 2) ok dX10_copies_16 (by decide) ?_
    refine g_to (L' := [(0, .ref 1), (1, .ref 40), (2, .int a2), (3, .int (v2 + (nI 1)))]) ?_ [1, 2, 3, 0] rfl
    exact hgo1 _ _
set_option maxRecDepth 20000 in
theorem kX10_copies_2_41 (N : Nat) (a2 : Int32) (w : gT) : gM S2 cl2 gTs yX10_copies cX10_copies 4 none rmX10_copies_2_41 gv [.ref 2, .ref 41, .int a2] w (xX10_copies_2_41 N a2 w) := by
  refine gM_of (own := RX10) [(0, .ref 2), (1, .ref 41), (2, .int a2)] rfl (by decide) (fun _ => rfl) (fun _ => Nat.le_of_ble_eq_true rfl) (fun κ ok => ?_)
  unfold xX10_copies_2_41
  refine g_iconst (v := (nI 0)) (q := 1) ok dX10_copies_0 rfl (by decide) ?_
  refine g_istore_n (q := 2) (L' := [(3, .int (nI 0)), (0, .ref 2), (1, .ref 41), (2, .int a2)]) ok dX10_copies_1 rfl rfl (by decide) rfl rfl ?_
  refine g_to (L' := [(0, .ref 2), (1, .ref 41), (2, .int a2), (3, .int (nI 0))]) ?_ [1, 2, 3, 0] rfl
  refine g_loop1 (Lf := fun v2 => [(0, .ref 2), (1, .ref 41), (2, .int a2), (3, .int v2)]) (fun go1 hgo1 v2 w3 => ?_) N _ _
  unfold xX10_copies_2_41_b2
  refine g_iload_n (q := 3) ok dX10_copies_2 rfl 3 rfl rfl ?_
  refine g_iload_n (q := 4) ok dX10_copies_3 rfl 2 rfl rfl ?_
  refine g_icmp_ge (q := 7) (g := 19) ok dX10_copies_4 rfl (by decide) ?_ ?_
  · exact g_vret ok dX10_copies_19
  · refine g_aload_n (q := 8) ok dX10_copies_7 rfl 1 rfl rfl ?_
    refine g_iload_n (q := 9) ok dX10_copies_8 rfl 3 rfl rfl ?_
    refine g_aload_n (q := 10) ok dX10_copies_9 rfl 0 rfl rfl ?_
    refine g_iload_n (q := 11) ok dX10_copies_10 rfl 3 rfl rfl ?_
    refine g_iald (q := 12) ok dX10_copies_11 rfl sM_2 ?_
    refine g_iast (q := 13) ok dX10_copies_12 rfl sM_41 ?_
    refine g_letw (fun w4 => ?_)
    refine g_iinc (v := v2 + (nI 1)) (q := 16) (L' := [(3, .int (v2 + (nI 1))), (0, .ref 2), (1, .ref 41), (2, .int a2)]) ok dX10_copies_13 rfl 3 rfl rfl (by decide) rfl rfl ?_
    refine g_goto (q := 2) ok dX10_copies_16 (by decide) ?_
    refine g_to (L' := [(0, .ref 2), (1, .ref 41), (2, .int a2), (3, .int (v2 + (nI 1)))]) ?_ [1, 2, 3, 0] rfl
    exact hgo1 _ _
set_option maxRecDepth 20000 in
theorem kX10_copies_3_42 (N : Nat) (a2 : Int32) (w : gT) : gM S2 cl2 gTs yX10_copies cX10_copies 4 none rmX10_copies_3_42 gv [.ref 3, .ref 42, .int a2] w (xX10_copies_3_42 N a2 w) := by
  refine gM_of (own := RX10) [(0, .ref 3), (1, .ref 42), (2, .int a2)] rfl (by decide) (fun _ => rfl) (fun _ => Nat.le_of_ble_eq_true rfl) (fun κ ok => ?_)
  unfold xX10_copies_3_42
  refine g_iconst (v := (nI 0)) (q := 1) ok dX10_copies_0 rfl (by decide) ?_
  refine g_istore_n (q := 2) (L' := [(3, .int (nI 0)), (0, .ref 3), (1, .ref 42), (2, .int a2)]) ok dX10_copies_1 rfl rfl (by decide) rfl rfl ?_
  refine g_to (L' := [(0, .ref 3), (1, .ref 42), (2, .int a2), (3, .int (nI 0))]) ?_ [1, 2, 3, 0] rfl
  refine g_loop1 (Lf := fun v2 => [(0, .ref 3), (1, .ref 42), (2, .int a2), (3, .int v2)]) (fun go1 hgo1 v2 w3 => ?_) N _ _
  unfold xX10_copies_3_42_b2
  refine g_iload_n (q := 3) ok dX10_copies_2 rfl 3 rfl rfl ?_
  refine g_iload_n (q := 4) ok dX10_copies_3 rfl 2 rfl rfl ?_
  refine g_icmp_ge (q := 7) (g := 19) ok dX10_copies_4 rfl (by decide) ?_ ?_
  · exact g_vret ok dX10_copies_19
  · refine g_aload_n (q := 8) ok dX10_copies_7 rfl 1 rfl rfl ?_
    refine g_iload_n (q := 9) ok dX10_copies_8 rfl 3 rfl rfl ?_
    refine g_aload_n (q := 10) ok dX10_copies_9 rfl 0 rfl rfl ?_
    refine g_iload_n (q := 11) ok dX10_copies_10 rfl 3 rfl rfl ?_
    refine g_iald (q := 12) ok dX10_copies_11 rfl sM_3 ?_
    refine g_iast (q := 13) ok dX10_copies_12 rfl sM_42 ?_
    refine g_letw (fun w4 => ?_)
    refine g_iinc (v := v2 + (nI 1)) (q := 16) (L' := [(3, .int (v2 + (nI 1))), (0, .ref 3), (1, .ref 42), (2, .int a2)]) ok dX10_copies_13 rfl 3 rfl rfl (by decide) rfl rfl ?_
    refine g_goto (q := 2) ok dX10_copies_16 (by decide) ?_
    refine g_to (L' := [(0, .ref 3), (1, .ref 42), (2, .int a2), (3, .int (v2 + (nI 1)))]) ?_ [1, 2, 3, 0] rfl
    exact hgo1 _ _
set_option maxRecDepth 20000 in
theorem kX10_copies_4_43 (N : Nat) (a2 : Int32) (w : gT) : gM S2 cl2 gTs yX10_copies cX10_copies 4 none rmX10_copies_4_43 gv [.ref 4, .ref 43, .int a2] w (xX10_copies_4_43 N a2 w) := by
  refine gM_of (own := RX10) [(0, .ref 4), (1, .ref 43), (2, .int a2)] rfl (by decide) (fun _ => rfl) (fun _ => Nat.le_of_ble_eq_true rfl) (fun κ ok => ?_)
  unfold xX10_copies_4_43
  refine g_iconst (v := (nI 0)) (q := 1) ok dX10_copies_0 rfl (by decide) ?_
  refine g_istore_n (q := 2) (L' := [(3, .int (nI 0)), (0, .ref 4), (1, .ref 43), (2, .int a2)]) ok dX10_copies_1 rfl rfl (by decide) rfl rfl ?_
  refine g_to (L' := [(0, .ref 4), (1, .ref 43), (2, .int a2), (3, .int (nI 0))]) ?_ [1, 2, 3, 0] rfl
  refine g_loop1 (Lf := fun v2 => [(0, .ref 4), (1, .ref 43), (2, .int a2), (3, .int v2)]) (fun go1 hgo1 v2 w3 => ?_) N _ _
  unfold xX10_copies_4_43_b2
  refine g_iload_n (q := 3) ok dX10_copies_2 rfl 3 rfl rfl ?_
  refine g_iload_n (q := 4) ok dX10_copies_3 rfl 2 rfl rfl ?_
  refine g_icmp_ge (q := 7) (g := 19) ok dX10_copies_4 rfl (by decide) ?_ ?_
  · exact g_vret ok dX10_copies_19
  · refine g_aload_n (q := 8) ok dX10_copies_7 rfl 1 rfl rfl ?_
    refine g_iload_n (q := 9) ok dX10_copies_8 rfl 3 rfl rfl ?_
    refine g_aload_n (q := 10) ok dX10_copies_9 rfl 0 rfl rfl ?_
    refine g_iload_n (q := 11) ok dX10_copies_10 rfl 3 rfl rfl ?_
    refine g_iald (q := 12) ok dX10_copies_11 rfl sM_4 ?_
    refine g_iast (q := 13) ok dX10_copies_12 rfl sM_43 ?_
    refine g_letw (fun w4 => ?_)
    refine g_iinc (v := v2 + (nI 1)) (q := 16) (L' := [(3, .int (v2 + (nI 1))), (0, .ref 4), (1, .ref 43), (2, .int a2)]) ok dX10_copies_13 rfl 3 rfl rfl (by decide) rfl rfl ?_
    refine g_goto (q := 2) ok dX10_copies_16 (by decide) ?_
    refine g_to (L' := [(0, .ref 4), (1, .ref 43), (2, .int a2), (3, .int (v2 + (nI 1)))]) ?_ [1, 2, 3, 0] rfl
    exact hgo1 _ _
set_option maxRecDepth 20000 in
theorem kX10_copies_5_44 (N : Nat) (a2 : Int32) (w : gT) : gM S2 cl2 gTs yX10_copies cX10_copies 4 none rmX10_copies_5_44 gv [.ref 5, .ref 44, .int a2] w (xX10_copies_5_44 N a2 w) := by
  refine gM_of (own := RX10) [(0, .ref 5), (1, .ref 44), (2, .int a2)] rfl (by decide) (fun _ => rfl) (fun _ => Nat.le_of_ble_eq_true rfl) (fun κ ok => ?_)
  unfold xX10_copies_5_44
  refine g_iconst (v := (nI 0)) (q := 1) ok dX10_copies_0 rfl (by decide) ?_
  refine g_istore_n (q := 2) (L' := [(3, .int (nI 0)), (0, .ref 5), (1, .ref 44), (2, .int a2)]) ok dX10_copies_1 rfl rfl (by decide) rfl rfl ?_
  refine g_to (L' := [(0, .ref 5), (1, .ref 44), (2, .int a2), (3, .int (nI 0))]) ?_ [1, 2, 3, 0] rfl
  refine g_loop1 (Lf := fun v2 => [(0, .ref 5), (1, .ref 44), (2, .int a2), (3, .int v2)]) (fun go1 hgo1 v2 w3 => ?_) N _ _
  unfold xX10_copies_5_44_b2
  refine g_iload_n (q := 3) ok dX10_copies_2 rfl 3 rfl rfl ?_
  refine g_iload_n (q := 4) ok dX10_copies_3 rfl 2 rfl rfl ?_
  refine g_icmp_ge (q := 7) (g := 19) ok dX10_copies_4 rfl (by decide) ?_ ?_
  · exact g_vret ok dX10_copies_19
  · refine g_aload_n (q := 8) ok dX10_copies_7 rfl 1 rfl rfl ?_
    refine g_iload_n (q := 9) ok dX10_copies_8 rfl 3 rfl rfl ?_
    refine g_aload_n (q := 10) ok dX10_copies_9 rfl 0 rfl rfl ?_
    refine g_iload_n (q := 11) ok dX10_copies_10 rfl 3 rfl rfl ?_
    refine g_iald (q := 12) ok dX10_copies_11 rfl sM_5 ?_
    refine g_iast (q := 13) ok dX10_copies_12 rfl sM_44 ?_
    refine g_letw (fun w4 => ?_)
    refine g_iinc (v := v2 + (nI 1)) (q := 16) (L' := [(3, .int (v2 + (nI 1))), (0, .ref 5), (1, .ref 44), (2, .int a2)]) ok dX10_copies_13 rfl 3 rfl rfl (by decide) rfl rfl ?_
    refine g_goto (q := 2) ok dX10_copies_16 (by decide) ?_
    refine g_to (L' := [(0, .ref 5), (1, .ref 44), (2, .int a2), (3, .int (v2 + (nI 1)))]) ?_ [1, 2, 3, 0] rfl
    exact hgo1 _ _
set_option maxRecDepth 20000 in
theorem kX10_copies_6_45 (N : Nat) (a2 : Int32) (w : gT) : gM S2 cl2 gTs yX10_copies cX10_copies 4 none rmX10_copies_6_45 gv [.ref 6, .ref 45, .int a2] w (xX10_copies_6_45 N a2 w) := by
  refine gM_of (own := RX10) [(0, .ref 6), (1, .ref 45), (2, .int a2)] rfl (by decide) (fun _ => rfl) (fun _ => Nat.le_of_ble_eq_true rfl) (fun κ ok => ?_)
  unfold xX10_copies_6_45
  refine g_iconst (v := (nI 0)) (q := 1) ok dX10_copies_0 rfl (by decide) ?_
  refine g_istore_n (q := 2) (L' := [(3, .int (nI 0)), (0, .ref 6), (1, .ref 45), (2, .int a2)]) ok dX10_copies_1 rfl rfl (by decide) rfl rfl ?_
  refine g_to (L' := [(0, .ref 6), (1, .ref 45), (2, .int a2), (3, .int (nI 0))]) ?_ [1, 2, 3, 0] rfl
  refine g_loop1 (Lf := fun v2 => [(0, .ref 6), (1, .ref 45), (2, .int a2), (3, .int v2)]) (fun go1 hgo1 v2 w3 => ?_) N _ _
  unfold xX10_copies_6_45_b2
  refine g_iload_n (q := 3) ok dX10_copies_2 rfl 3 rfl rfl ?_
  refine g_iload_n (q := 4) ok dX10_copies_3 rfl 2 rfl rfl ?_
  refine g_icmp_ge (q := 7) (g := 19) ok dX10_copies_4 rfl (by decide) ?_ ?_
  · exact g_vret ok dX10_copies_19
  · refine g_aload_n (q := 8) ok dX10_copies_7 rfl 1 rfl rfl ?_
    refine g_iload_n (q := 9) ok dX10_copies_8 rfl 3 rfl rfl ?_
    refine g_aload_n (q := 10) ok dX10_copies_9 rfl 0 rfl rfl ?_
    refine g_iload_n (q := 11) ok dX10_copies_10 rfl 3 rfl rfl ?_
    refine g_iald (q := 12) ok dX10_copies_11 rfl sM_6 ?_
    refine g_iast (q := 13) ok dX10_copies_12 rfl sM_45 ?_
    refine g_letw (fun w4 => ?_)
    refine g_iinc (v := v2 + (nI 1)) (q := 16) (L' := [(3, .int (v2 + (nI 1))), (0, .ref 6), (1, .ref 45), (2, .int a2)]) ok dX10_copies_13 rfl 3 rfl rfl (by decide) rfl rfl ?_
    refine g_goto (q := 2) ok dX10_copies_16 (by decide) ?_
    refine g_to (L' := [(0, .ref 6), (1, .ref 45), (2, .int a2), (3, .int (v2 + (nI 1)))]) ?_ [1, 2, 3, 0] rfl
    exact hgo1 _ _
set_option maxRecDepth 20000 in
theorem kX10_copies_7_46 (N : Nat) (a2 : Int32) (w : gT) : gM S2 cl2 gTs yX10_copies cX10_copies 4 none rmX10_copies_7_46 gv [.ref 7, .ref 46, .int a2] w (xX10_copies_7_46 N a2 w) := by
  refine gM_of (own := RX10) [(0, .ref 7), (1, .ref 46), (2, .int a2)] rfl (by decide) (fun _ => rfl) (fun _ => Nat.le_of_ble_eq_true rfl) (fun κ ok => ?_)
  unfold xX10_copies_7_46
  refine g_iconst (v := (nI 0)) (q := 1) ok dX10_copies_0 rfl (by decide) ?_
  refine g_istore_n (q := 2) (L' := [(3, .int (nI 0)), (0, .ref 7), (1, .ref 46), (2, .int a2)]) ok dX10_copies_1 rfl rfl (by decide) rfl rfl ?_
  refine g_to (L' := [(0, .ref 7), (1, .ref 46), (2, .int a2), (3, .int (nI 0))]) ?_ [1, 2, 3, 0] rfl
  refine g_loop1 (Lf := fun v2 => [(0, .ref 7), (1, .ref 46), (2, .int a2), (3, .int v2)]) (fun go1 hgo1 v2 w3 => ?_) N _ _
  unfold xX10_copies_7_46_b2
  refine g_iload_n (q := 3) ok dX10_copies_2 rfl 3 rfl rfl ?_
  refine g_iload_n (q := 4) ok dX10_copies_3 rfl 2 rfl rfl ?_
  refine g_icmp_ge (q := 7) (g := 19) ok dX10_copies_4 rfl (by decide) ?_ ?_
  · exact g_vret ok dX10_copies_19
  · refine g_aload_n (q := 8) ok dX10_copies_7 rfl 1 rfl rfl ?_
    refine g_iload_n (q := 9) ok dX10_copies_8 rfl 3 rfl rfl ?_
    refine g_aload_n (q := 10) ok dX10_copies_9 rfl 0 rfl rfl ?_
    refine g_iload_n (q := 11) ok dX10_copies_10 rfl 3 rfl rfl ?_
    refine g_iald (q := 12) ok dX10_copies_11 rfl sM_7 ?_
    refine g_iast (q := 13) ok dX10_copies_12 rfl sM_46 ?_
    refine g_letw (fun w4 => ?_)
    refine g_iinc (v := v2 + (nI 1)) (q := 16) (L' := [(3, .int (v2 + (nI 1))), (0, .ref 7), (1, .ref 46), (2, .int a2)]) ok dX10_copies_13 rfl 3 rfl rfl (by decide) rfl rfl ?_
    refine g_goto (q := 2) ok dX10_copies_16 (by decide) ?_
    refine g_to (L' := [(0, .ref 7), (1, .ref 46), (2, .int a2), (3, .int (v2 + (nI 1)))]) ?_ [1, 2, 3, 0] rfl
    exact hgo1 _ _
set_option maxRecDepth 20000 in
theorem kX10_copies_8_47 (N : Nat) (a2 : Int32) (w : gT) : gM S2 cl2 gTs yX10_copies cX10_copies 4 none rmX10_copies_8_47 gv [.ref 8, .ref 47, .int a2] w (xX10_copies_8_47 N a2 w) := by
  refine gM_of (own := RX10) [(0, .ref 8), (1, .ref 47), (2, .int a2)] rfl (by decide) (fun _ => rfl) (fun _ => Nat.le_of_ble_eq_true rfl) (fun κ ok => ?_)
  unfold xX10_copies_8_47
  refine g_iconst (v := (nI 0)) (q := 1) ok dX10_copies_0 rfl (by decide) ?_
  refine g_istore_n (q := 2) (L' := [(3, .int (nI 0)), (0, .ref 8), (1, .ref 47), (2, .int a2)]) ok dX10_copies_1 rfl rfl (by decide) rfl rfl ?_
  refine g_to (L' := [(0, .ref 8), (1, .ref 47), (2, .int a2), (3, .int (nI 0))]) ?_ [1, 2, 3, 0] rfl
  refine g_loop1 (Lf := fun v2 => [(0, .ref 8), (1, .ref 47), (2, .int a2), (3, .int v2)]) (fun go1 hgo1 v2 w3 => ?_) N _ _
  unfold xX10_copies_8_47_b2
  refine g_iload_n (q := 3) ok dX10_copies_2 rfl 3 rfl rfl ?_
  refine g_iload_n (q := 4) ok dX10_copies_3 rfl 2 rfl rfl ?_
  refine g_icmp_ge (q := 7) (g := 19) ok dX10_copies_4 rfl (by decide) ?_ ?_
  · exact g_vret ok dX10_copies_19
  · refine g_aload_n (q := 8) ok dX10_copies_7 rfl 1 rfl rfl ?_
    refine g_iload_n (q := 9) ok dX10_copies_8 rfl 3 rfl rfl ?_
    refine g_aload_n (q := 10) ok dX10_copies_9 rfl 0 rfl rfl ?_
    refine g_iload_n (q := 11) ok dX10_copies_10 rfl 3 rfl rfl ?_
    refine g_iald (q := 12) ok dX10_copies_11 rfl sM_8 ?_
    refine g_iast (q := 13) ok dX10_copies_12 rfl sM_47 ?_
    refine g_letw (fun w4 => ?_)
    refine g_iinc (v := v2 + (nI 1)) (q := 16) (L' := [(3, .int (v2 + (nI 1))), (0, .ref 8), (1, .ref 47), (2, .int a2)]) ok dX10_copies_13 rfl 3 rfl rfl (by decide) rfl rfl ?_
    refine g_goto (q := 2) ok dX10_copies_16 (by decide) ?_
    refine g_to (L' := [(0, .ref 8), (1, .ref 47), (2, .int a2), (3, .int (v2 + (nI 1)))]) ?_ [1, 2, 3, 0] rfl
    exact hgo1 _ _
set_option maxRecDepth 20000 in
theorem kX10_keep (N : Nat) (w : gT) : gM S2 cl2 gTs yX10_keep cX10_keep 1 (some .int) rmX10_keep gi [.ref 0] w (xX10_keep N w) := by
  refine gM_of (own := RX10) [(0, .ref 0)] rfl (by decide) (fun _ => rfl) (fun _ => Nat.le_of_ble_eq_true rfl) (fun κ ok => ?_)
  unfold xX10_keep
  refine g_aload_n (q := 1) ok dX10_keep_0 rfl 0 rfl rfl ?_
  refine g_iconst (v := (nI 1)) (q := 2) ok dX10_keep_1 rfl (by decide) ?_
  refine g_put (q := 5) ok dX10_keep_2 rfl fp_X10_416 sM_0 rfl rfl rfl ?_
  refine g_letw (fun w1 => ?_)
  refine g_aload_n (q := 6) ok dX10_keep_5 rfl 0 rfl rfl ?_
  refine g_aload_n (q := 7) ok dX10_keep_6 rfl 0 rfl rfl ?_
  refine g_getI (q := 10) (N := 0) ok dX10_keep_7 rfl fl_X10_154 sM_0 rfl ?_
  refine g_put (q := 13) ok dX10_keep_10 rfl fp_X10_420 sM_0 rfl rfl rfl ?_
  refine g_letw (fun w2 => ?_)
  refine g_aload_n (q := 14) ok dX10_keep_13 rfl 0 rfl rfl ?_
  refine g_aload_n (q := 15) ok dX10_keep_14 rfl 0 rfl rfl ?_
  refine g_getI (q := 18) (N := 0) ok dX10_keep_15 rfl fl_X10_158 sM_0 rfl ?_
  refine g_put (q := 21) ok dX10_keep_18 rfl fp_X10_423 sM_0 rfl rfl rfl ?_
  refine g_letw (fun w3 => ?_)
  refine g_aload_n (q := 22) ok dX10_keep_21 rfl 0 rfl rfl ?_
  refine g_aload_n (q := 23) ok dX10_keep_22 rfl 0 rfl rfl ?_
  refine g_getI (q := 26) (N := 0) ok dX10_keep_23 rfl fl_X10_182 sM_0 rfl ?_
  refine g_put (q := 29) ok dX10_keep_26 rfl fp_X10_426 sM_0 rfl rfl rfl ?_
  refine g_letw (fun w4 => ?_)
  refine g_aload_n (q := 30) ok dX10_keep_29 rfl 0 rfl rfl ?_
  refine g_aload_n (q := 31) ok dX10_keep_30 rfl 0 rfl rfl ?_
  refine g_getI (q := 34) (N := 0) ok dX10_keep_31 rfl fl_X10_161 sM_0 rfl ?_
  refine g_put (q := 37) ok dX10_keep_34 rfl fp_X10_429 sM_0 rfl rfl rfl ?_
  refine g_letw (fun w5 => ?_)
  refine g_aload_n (q := 38) ok dX10_keep_37 rfl 0 rfl rfl ?_
  refine g_aload_n (q := 39) ok dX10_keep_38 rfl 0 rfl rfl ?_
  refine g_getI (q := 42) (N := 0) ok dX10_keep_39 rfl fl_X10_168 sM_0 rfl ?_
  refine g_put (q := 45) ok dX10_keep_42 rfl fp_X10_432 sM_0 rfl rfl rfl ?_
  refine g_letw (fun w6 => ?_)
  refine g_aload_n (q := 46) ok dX10_keep_45 rfl 0 rfl rfl ?_
  refine g_getR (q := 49) ok dX10_keep_46 rfl fl_X10_7 sM_0 rfl ?_
  refine g_aload_n (q := 50) ok dX10_keep_49 rfl 0 rfl rfl ?_
  refine g_getR (q := 53) ok dX10_keep_50 rfl fl_X10_130 sM_0 rfl ?_
  refine g_bipush (v := (nI 12)) (q := 55) ok dX10_keep_53 rfl (by decide) ?_
  refine g_callSv (q := 58) (As := [.ref 1, .ref 40, .int (nI 12)]) (st := []) ok tbl_good dX10_keep_55 rfl (kX10_copies N _ _) cf_X10_435 ⟨rfl, rfl, Nat.le_of_ble_eq_true rfl, Nat.le_of_ble_eq_true rfl⟩ rfl rfl (fun _ => Nat.le_of_ble_eq_true rfl) (fun w7 => ?_)
  refine g_aload_n (q := 59) ok dX10_keep_58 rfl 0 rfl rfl ?_
  refine g_getR (q := 62) ok dX10_keep_59 rfl fl_X10_13 sM_0 rfl ?_
  refine g_aload_n (q := 63) ok dX10_keep_62 rfl 0 rfl rfl ?_
  refine g_getR (q := 66) ok dX10_keep_63 rfl fl_X10_133 sM_0 rfl ?_
  refine g_bipush (v := (nI 10)) (q := 68) ok dX10_keep_66 rfl (by decide) ?_
  refine g_callSv (q := 71) (As := [.ref 2, .ref 41, .int (nI 10)]) (st := []) ok tbl_good dX10_keep_68 rfl (kX10_copies_2_41 N _ _) cf_X10_435 ⟨rfl, rfl, Nat.le_of_ble_eq_true rfl, Nat.le_of_ble_eq_true rfl⟩ rfl rfl (fun _ => Nat.le_of_ble_eq_true rfl) (fun w8 => ?_)
  refine g_aload_n (q := 72) ok dX10_keep_71 rfl 0 rfl rfl ?_
  refine g_getR (q := 75) ok dX10_keep_72 rfl fl_X10_16 sM_0 rfl ?_
  refine g_aload_n (q := 76) ok dX10_keep_75 rfl 0 rfl rfl ?_
  refine g_getR (q := 79) ok dX10_keep_76 rfl fl_X10_136 sM_0 rfl ?_
  refine g_bipush (v := (nI 70)) (q := 81) ok dX10_keep_79 rfl (by decide) ?_
  refine g_callSv (q := 84) (As := [.ref 3, .ref 42, .int (nI 70)]) (st := []) ok tbl_good dX10_keep_81 rfl (kX10_copies_3_42 N _ _) cf_X10_435 ⟨rfl, rfl, Nat.le_of_ble_eq_true rfl, Nat.le_of_ble_eq_true rfl⟩ rfl rfl (fun _ => Nat.le_of_ble_eq_true rfl) (fun w9 => ?_)
  refine g_aload_n (q := 85) ok dX10_keep_84 rfl 0 rfl rfl ?_
  refine g_getR (q := 88) ok dX10_keep_85 rfl fl_X10_19 sM_0 rfl ?_
  refine g_aload_n (q := 89) ok dX10_keep_88 rfl 0 rfl rfl ?_
  refine g_getR (q := 92) ok dX10_keep_89 rfl fl_X10_139 sM_0 rfl ?_
  refine g_bipush (v := (nI 10)) (q := 94) ok dX10_keep_92 rfl (by decide) ?_
  refine g_callSv (q := 97) (As := [.ref 4, .ref 43, .int (nI 10)]) (st := []) ok tbl_good dX10_keep_94 rfl (kX10_copies_4_43 N _ _) cf_X10_435 ⟨rfl, rfl, Nat.le_of_ble_eq_true rfl, Nat.le_of_ble_eq_true rfl⟩ rfl rfl (fun _ => Nat.le_of_ble_eq_true rfl) (fun w10 => ?_)
  refine g_aload_n (q := 98) ok dX10_keep_97 rfl 0 rfl rfl ?_
  refine g_getR (q := 101) ok dX10_keep_98 rfl fl_X10_22 sM_0 rfl ?_
  refine g_aload_n (q := 102) ok dX10_keep_101 rfl 0 rfl rfl ?_
  refine g_getR (q := 105) ok dX10_keep_102 rfl fl_X10_142 sM_0 rfl ?_
  refine g_bipush (v := (nI 10)) (q := 107) ok dX10_keep_105 rfl (by decide) ?_
  refine g_callSv (q := 110) (As := [.ref 5, .ref 44, .int (nI 10)]) (st := []) ok tbl_good dX10_keep_107 rfl (kX10_copies_5_44 N _ _) cf_X10_435 ⟨rfl, rfl, Nat.le_of_ble_eq_true rfl, Nat.le_of_ble_eq_true rfl⟩ rfl rfl (fun _ => Nat.le_of_ble_eq_true rfl) (fun w11 => ?_)
  refine g_aload_n (q := 111) ok dX10_keep_110 rfl 0 rfl rfl ?_
  refine g_getR (q := 114) ok dX10_keep_111 rfl fl_X10_25 sM_0 rfl ?_
  refine g_aload_n (q := 115) ok dX10_keep_114 rfl 0 rfl rfl ?_
  refine g_getR (q := 118) ok dX10_keep_115 rfl fl_X10_145 sM_0 rfl ?_
  refine g_bipush (v := (nI 10)) (q := 120) ok dX10_keep_118 rfl (by decide) ?_
  refine g_callSv (q := 123) (As := [.ref 6, .ref 45, .int (nI 10)]) (st := []) ok tbl_good dX10_keep_120 rfl (kX10_copies_6_45 N _ _) cf_X10_435 ⟨rfl, rfl, Nat.le_of_ble_eq_true rfl, Nat.le_of_ble_eq_true rfl⟩ rfl rfl (fun _ => Nat.le_of_ble_eq_true rfl) (fun w12 => ?_)
  refine g_aload_n (q := 124) ok dX10_keep_123 rfl 0 rfl rfl ?_
  refine g_getR (q := 127) ok dX10_keep_124 rfl fl_X10_28 sM_0 rfl ?_
  refine g_aload_n (q := 128) ok dX10_keep_127 rfl 0 rfl rfl ?_
  refine g_getR (q := 131) ok dX10_keep_128 rfl fl_X10_148 sM_0 rfl ?_
  refine g_bipush (v := (nI 10)) (q := 133) ok dX10_keep_131 rfl (by decide) ?_
  refine g_callSv (q := 136) (As := [.ref 7, .ref 46, .int (nI 10)]) (st := []) ok tbl_good dX10_keep_133 rfl (kX10_copies_7_46 N _ _) cf_X10_435 ⟨rfl, rfl, Nat.le_of_ble_eq_true rfl, Nat.le_of_ble_eq_true rfl⟩ rfl rfl (fun _ => Nat.le_of_ble_eq_true rfl) (fun w13 => ?_)
  refine g_aload_n (q := 137) ok dX10_keep_136 rfl 0 rfl rfl ?_
  refine g_getR (q := 140) ok dX10_keep_137 rfl fl_X10_31 sM_0 rfl ?_
  refine g_aload_n (q := 141) ok dX10_keep_140 rfl 0 rfl rfl ?_
  refine g_getR (q := 144) ok dX10_keep_141 rfl fl_X10_151 sM_0 rfl ?_
  refine g_bipush (v := (nI 47)) (q := 146) ok dX10_keep_144 rfl (by decide) ?_
  refine g_callSv (q := 149) (As := [.ref 8, .ref 47, .int (nI 47)]) (st := []) ok tbl_good dX10_keep_146 rfl (kX10_copies_8_47 N _ _) cf_X10_435 ⟨rfl, rfl, Nat.le_of_ble_eq_true rfl, Nat.le_of_ble_eq_true rfl⟩ rfl rfl (fun _ => Nat.le_of_ble_eq_true rfl) (fun w14 => ?_)
  refine g_aload_n (q := 150) ok dX10_keep_149 rfl 0 rfl rfl ?_
  refine g_getR (q := 153) ok dX10_keep_150 rfl fl_X10_31 sM_0 rfl ?_
  refine g_iconst (v := (nI 5)) (q := 154) ok dX10_keep_153 rfl (by decide) ?_
  refine g_ialdC (j := 5) (q := 155) ok dX10_keep_154 rfl sM_8 (by decide) (by decide) ?_
  exact g_iret ok dX10_keep_155
set_option maxRecDepth 20000 in
theorem kX10_copies_40_1 (N : Nat) (a2 : Int32) (w : gT) : gM S2 cl2 gTs yX10_copies cX10_copies 4 none rmX10_copies_40_1 gv [.ref 40, .ref 1, .int a2] w (xX10_copies_40_1 N a2 w) := by
  refine gM_of (own := RX10) [(0, .ref 40), (1, .ref 1), (2, .int a2)] rfl (by decide) (fun _ => rfl) (fun _ => Nat.le_of_ble_eq_true rfl) (fun κ ok => ?_)
  unfold xX10_copies_40_1
  refine g_iconst (v := (nI 0)) (q := 1) ok dX10_copies_0 rfl (by decide) ?_
  refine g_istore_n (q := 2) (L' := [(3, .int (nI 0)), (0, .ref 40), (1, .ref 1), (2, .int a2)]) ok dX10_copies_1 rfl rfl (by decide) rfl rfl ?_
  refine g_to (L' := [(0, .ref 40), (1, .ref 1), (2, .int a2), (3, .int (nI 0))]) ?_ [1, 2, 3, 0] rfl
  refine g_loop1 (Lf := fun v2 => [(0, .ref 40), (1, .ref 1), (2, .int a2), (3, .int v2)]) (fun go1 hgo1 v2 w3 => ?_) N _ _
  unfold xX10_copies_40_1_b2
  refine g_iload_n (q := 3) ok dX10_copies_2 rfl 3 rfl rfl ?_
  refine g_iload_n (q := 4) ok dX10_copies_3 rfl 2 rfl rfl ?_
  refine g_icmp_ge (q := 7) (g := 19) ok dX10_copies_4 rfl (by decide) ?_ ?_
  · exact g_vret ok dX10_copies_19
  · refine g_aload_n (q := 8) ok dX10_copies_7 rfl 1 rfl rfl ?_
    refine g_iload_n (q := 9) ok dX10_copies_8 rfl 3 rfl rfl ?_
    refine g_aload_n (q := 10) ok dX10_copies_9 rfl 0 rfl rfl ?_
    refine g_iload_n (q := 11) ok dX10_copies_10 rfl 3 rfl rfl ?_
    refine g_iald (q := 12) ok dX10_copies_11 rfl sM_40 ?_
    refine g_iast (q := 13) ok dX10_copies_12 rfl sM_1 ?_
    refine g_letw (fun w4 => ?_)
    refine g_iinc (v := v2 + (nI 1)) (q := 16) (L' := [(3, .int (v2 + (nI 1))), (0, .ref 40), (1, .ref 1), (2, .int a2)]) ok dX10_copies_13 rfl 3 rfl rfl (by decide) rfl rfl ?_
    refine g_goto (q := 2) ok dX10_copies_16 (by decide) ?_
    refine g_to (L' := [(0, .ref 40), (1, .ref 1), (2, .int a2), (3, .int (v2 + (nI 1)))]) ?_ [1, 2, 3, 0] rfl
    exact hgo1 _ _
set_option maxRecDepth 20000 in
theorem kX10_copies_41_2 (N : Nat) (a2 : Int32) (w : gT) : gM S2 cl2 gTs yX10_copies cX10_copies 4 none rmX10_copies_41_2 gv [.ref 41, .ref 2, .int a2] w (xX10_copies_41_2 N a2 w) := by
  refine gM_of (own := RX10) [(0, .ref 41), (1, .ref 2), (2, .int a2)] rfl (by decide) (fun _ => rfl) (fun _ => Nat.le_of_ble_eq_true rfl) (fun κ ok => ?_)
  unfold xX10_copies_41_2
  refine g_iconst (v := (nI 0)) (q := 1) ok dX10_copies_0 rfl (by decide) ?_
  refine g_istore_n (q := 2) (L' := [(3, .int (nI 0)), (0, .ref 41), (1, .ref 2), (2, .int a2)]) ok dX10_copies_1 rfl rfl (by decide) rfl rfl ?_
  refine g_to (L' := [(0, .ref 41), (1, .ref 2), (2, .int a2), (3, .int (nI 0))]) ?_ [1, 2, 3, 0] rfl
  refine g_loop1 (Lf := fun v2 => [(0, .ref 41), (1, .ref 2), (2, .int a2), (3, .int v2)]) (fun go1 hgo1 v2 w3 => ?_) N _ _
  unfold xX10_copies_41_2_b2
  refine g_iload_n (q := 3) ok dX10_copies_2 rfl 3 rfl rfl ?_
  refine g_iload_n (q := 4) ok dX10_copies_3 rfl 2 rfl rfl ?_
  refine g_icmp_ge (q := 7) (g := 19) ok dX10_copies_4 rfl (by decide) ?_ ?_
  · exact g_vret ok dX10_copies_19
  · refine g_aload_n (q := 8) ok dX10_copies_7 rfl 1 rfl rfl ?_
    refine g_iload_n (q := 9) ok dX10_copies_8 rfl 3 rfl rfl ?_
    refine g_aload_n (q := 10) ok dX10_copies_9 rfl 0 rfl rfl ?_
    refine g_iload_n (q := 11) ok dX10_copies_10 rfl 3 rfl rfl ?_
    refine g_iald (q := 12) ok dX10_copies_11 rfl sM_41 ?_
    refine g_iast (q := 13) ok dX10_copies_12 rfl sM_2 ?_
    refine g_letw (fun w4 => ?_)
    refine g_iinc (v := v2 + (nI 1)) (q := 16) (L' := [(3, .int (v2 + (nI 1))), (0, .ref 41), (1, .ref 2), (2, .int a2)]) ok dX10_copies_13 rfl 3 rfl rfl (by decide) rfl rfl ?_
    refine g_goto (q := 2) ok dX10_copies_16 (by decide) ?_
    refine g_to (L' := [(0, .ref 41), (1, .ref 2), (2, .int a2), (3, .int (v2 + (nI 1)))]) ?_ [1, 2, 3, 0] rfl
    exact hgo1 _ _
set_option maxRecDepth 20000 in
theorem kX10_copies_42_3 (N : Nat) (a2 : Int32) (w : gT) : gM S2 cl2 gTs yX10_copies cX10_copies 4 none rmX10_copies_42_3 gv [.ref 42, .ref 3, .int a2] w (xX10_copies_42_3 N a2 w) := by
  refine gM_of (own := RX10) [(0, .ref 42), (1, .ref 3), (2, .int a2)] rfl (by decide) (fun _ => rfl) (fun _ => Nat.le_of_ble_eq_true rfl) (fun κ ok => ?_)
  unfold xX10_copies_42_3
  refine g_iconst (v := (nI 0)) (q := 1) ok dX10_copies_0 rfl (by decide) ?_
  refine g_istore_n (q := 2) (L' := [(3, .int (nI 0)), (0, .ref 42), (1, .ref 3), (2, .int a2)]) ok dX10_copies_1 rfl rfl (by decide) rfl rfl ?_
  refine g_to (L' := [(0, .ref 42), (1, .ref 3), (2, .int a2), (3, .int (nI 0))]) ?_ [1, 2, 3, 0] rfl
  refine g_loop1 (Lf := fun v2 => [(0, .ref 42), (1, .ref 3), (2, .int a2), (3, .int v2)]) (fun go1 hgo1 v2 w3 => ?_) N _ _
  unfold xX10_copies_42_3_b2
  refine g_iload_n (q := 3) ok dX10_copies_2 rfl 3 rfl rfl ?_
  refine g_iload_n (q := 4) ok dX10_copies_3 rfl 2 rfl rfl ?_
  refine g_icmp_ge (q := 7) (g := 19) ok dX10_copies_4 rfl (by decide) ?_ ?_
  · exact g_vret ok dX10_copies_19
  · refine g_aload_n (q := 8) ok dX10_copies_7 rfl 1 rfl rfl ?_
    refine g_iload_n (q := 9) ok dX10_copies_8 rfl 3 rfl rfl ?_
    refine g_aload_n (q := 10) ok dX10_copies_9 rfl 0 rfl rfl ?_
    refine g_iload_n (q := 11) ok dX10_copies_10 rfl 3 rfl rfl ?_
    refine g_iald (q := 12) ok dX10_copies_11 rfl sM_42 ?_
    refine g_iast (q := 13) ok dX10_copies_12 rfl sM_3 ?_
    refine g_letw (fun w4 => ?_)
    refine g_iinc (v := v2 + (nI 1)) (q := 16) (L' := [(3, .int (v2 + (nI 1))), (0, .ref 42), (1, .ref 3), (2, .int a2)]) ok dX10_copies_13 rfl 3 rfl rfl (by decide) rfl rfl ?_
    refine g_goto (q := 2) ok dX10_copies_16 (by decide) ?_
    refine g_to (L' := [(0, .ref 42), (1, .ref 3), (2, .int a2), (3, .int (v2 + (nI 1)))]) ?_ [1, 2, 3, 0] rfl
    exact hgo1 _ _
set_option maxRecDepth 20000 in
theorem kX10_copies_43_4 (N : Nat) (a2 : Int32) (w : gT) : gM S2 cl2 gTs yX10_copies cX10_copies 4 none rmX10_copies_43_4 gv [.ref 43, .ref 4, .int a2] w (xX10_copies_43_4 N a2 w) := by
  refine gM_of (own := RX10) [(0, .ref 43), (1, .ref 4), (2, .int a2)] rfl (by decide) (fun _ => rfl) (fun _ => Nat.le_of_ble_eq_true rfl) (fun κ ok => ?_)
  unfold xX10_copies_43_4
  refine g_iconst (v := (nI 0)) (q := 1) ok dX10_copies_0 rfl (by decide) ?_
  refine g_istore_n (q := 2) (L' := [(3, .int (nI 0)), (0, .ref 43), (1, .ref 4), (2, .int a2)]) ok dX10_copies_1 rfl rfl (by decide) rfl rfl ?_
  refine g_to (L' := [(0, .ref 43), (1, .ref 4), (2, .int a2), (3, .int (nI 0))]) ?_ [1, 2, 3, 0] rfl
  refine g_loop1 (Lf := fun v2 => [(0, .ref 43), (1, .ref 4), (2, .int a2), (3, .int v2)]) (fun go1 hgo1 v2 w3 => ?_) N _ _
  unfold xX10_copies_43_4_b2
  refine g_iload_n (q := 3) ok dX10_copies_2 rfl 3 rfl rfl ?_
  refine g_iload_n (q := 4) ok dX10_copies_3 rfl 2 rfl rfl ?_
  refine g_icmp_ge (q := 7) (g := 19) ok dX10_copies_4 rfl (by decide) ?_ ?_
  · exact g_vret ok dX10_copies_19
  · refine g_aload_n (q := 8) ok dX10_copies_7 rfl 1 rfl rfl ?_
    refine g_iload_n (q := 9) ok dX10_copies_8 rfl 3 rfl rfl ?_
    refine g_aload_n (q := 10) ok dX10_copies_9 rfl 0 rfl rfl ?_
    refine g_iload_n (q := 11) ok dX10_copies_10 rfl 3 rfl rfl ?_
    refine g_iald (q := 12) ok dX10_copies_11 rfl sM_43 ?_
    refine g_iast (q := 13) ok dX10_copies_12 rfl sM_4 ?_
    refine g_letw (fun w4 => ?_)
    refine g_iinc (v := v2 + (nI 1)) (q := 16) (L' := [(3, .int (v2 + (nI 1))), (0, .ref 43), (1, .ref 4), (2, .int a2)]) ok dX10_copies_13 rfl 3 rfl rfl (by decide) rfl rfl ?_
    refine g_goto (q := 2) ok dX10_copies_16 (by decide) ?_
    refine g_to (L' := [(0, .ref 43), (1, .ref 4), (2, .int a2), (3, .int (v2 + (nI 1)))]) ?_ [1, 2, 3, 0] rfl
    exact hgo1 _ _
set_option maxRecDepth 20000 in
theorem kX10_copies_44_5 (N : Nat) (a2 : Int32) (w : gT) : gM S2 cl2 gTs yX10_copies cX10_copies 4 none rmX10_copies_44_5 gv [.ref 44, .ref 5, .int a2] w (xX10_copies_44_5 N a2 w) := by
  refine gM_of (own := RX10) [(0, .ref 44), (1, .ref 5), (2, .int a2)] rfl (by decide) (fun _ => rfl) (fun _ => Nat.le_of_ble_eq_true rfl) (fun κ ok => ?_)
  unfold xX10_copies_44_5
  refine g_iconst (v := (nI 0)) (q := 1) ok dX10_copies_0 rfl (by decide) ?_
  refine g_istore_n (q := 2) (L' := [(3, .int (nI 0)), (0, .ref 44), (1, .ref 5), (2, .int a2)]) ok dX10_copies_1 rfl rfl (by decide) rfl rfl ?_
  refine g_to (L' := [(0, .ref 44), (1, .ref 5), (2, .int a2), (3, .int (nI 0))]) ?_ [1, 2, 3, 0] rfl
  refine g_loop1 (Lf := fun v2 => [(0, .ref 44), (1, .ref 5), (2, .int a2), (3, .int v2)]) (fun go1 hgo1 v2 w3 => ?_) N _ _
  unfold xX10_copies_44_5_b2
  refine g_iload_n (q := 3) ok dX10_copies_2 rfl 3 rfl rfl ?_
  refine g_iload_n (q := 4) ok dX10_copies_3 rfl 2 rfl rfl ?_
  refine g_icmp_ge (q := 7) (g := 19) ok dX10_copies_4 rfl (by decide) ?_ ?_
  · exact g_vret ok dX10_copies_19
  · refine g_aload_n (q := 8) ok dX10_copies_7 rfl 1 rfl rfl ?_
    refine g_iload_n (q := 9) ok dX10_copies_8 rfl 3 rfl rfl ?_
    refine g_aload_n (q := 10) ok dX10_copies_9 rfl 0 rfl rfl ?_
    refine g_iload_n (q := 11) ok dX10_copies_10 rfl 3 rfl rfl ?_
    refine g_iald (q := 12) ok dX10_copies_11 rfl sM_44 ?_
    refine g_iast (q := 13) ok dX10_copies_12 rfl sM_5 ?_
    refine g_letw (fun w4 => ?_)
    refine g_iinc (v := v2 + (nI 1)) (q := 16) (L' := [(3, .int (v2 + (nI 1))), (0, .ref 44), (1, .ref 5), (2, .int a2)]) ok dX10_copies_13 rfl 3 rfl rfl (by decide) rfl rfl ?_
    refine g_goto (q := 2) ok dX10_copies_16 (by decide) ?_
    refine g_to (L' := [(0, .ref 44), (1, .ref 5), (2, .int a2), (3, .int (v2 + (nI 1)))]) ?_ [1, 2, 3, 0] rfl
    exact hgo1 _ _
set_option maxRecDepth 20000 in
theorem kX10_copies_45_6 (N : Nat) (a2 : Int32) (w : gT) : gM S2 cl2 gTs yX10_copies cX10_copies 4 none rmX10_copies_45_6 gv [.ref 45, .ref 6, .int a2] w (xX10_copies_45_6 N a2 w) := by
  refine gM_of (own := RX10) [(0, .ref 45), (1, .ref 6), (2, .int a2)] rfl (by decide) (fun _ => rfl) (fun _ => Nat.le_of_ble_eq_true rfl) (fun κ ok => ?_)
  unfold xX10_copies_45_6
  refine g_iconst (v := (nI 0)) (q := 1) ok dX10_copies_0 rfl (by decide) ?_
  refine g_istore_n (q := 2) (L' := [(3, .int (nI 0)), (0, .ref 45), (1, .ref 6), (2, .int a2)]) ok dX10_copies_1 rfl rfl (by decide) rfl rfl ?_
  refine g_to (L' := [(0, .ref 45), (1, .ref 6), (2, .int a2), (3, .int (nI 0))]) ?_ [1, 2, 3, 0] rfl
  refine g_loop1 (Lf := fun v2 => [(0, .ref 45), (1, .ref 6), (2, .int a2), (3, .int v2)]) (fun go1 hgo1 v2 w3 => ?_) N _ _
  unfold xX10_copies_45_6_b2
  refine g_iload_n (q := 3) ok dX10_copies_2 rfl 3 rfl rfl ?_
  refine g_iload_n (q := 4) ok dX10_copies_3 rfl 2 rfl rfl ?_
  refine g_icmp_ge (q := 7) (g := 19) ok dX10_copies_4 rfl (by decide) ?_ ?_
  · exact g_vret ok dX10_copies_19
  · refine g_aload_n (q := 8) ok dX10_copies_7 rfl 1 rfl rfl ?_
    refine g_iload_n (q := 9) ok dX10_copies_8 rfl 3 rfl rfl ?_
    refine g_aload_n (q := 10) ok dX10_copies_9 rfl 0 rfl rfl ?_
    refine g_iload_n (q := 11) ok dX10_copies_10 rfl 3 rfl rfl ?_
    refine g_iald (q := 12) ok dX10_copies_11 rfl sM_45 ?_
    refine g_iast (q := 13) ok dX10_copies_12 rfl sM_6 ?_
    refine g_letw (fun w4 => ?_)
    refine g_iinc (v := v2 + (nI 1)) (q := 16) (L' := [(3, .int (v2 + (nI 1))), (0, .ref 45), (1, .ref 6), (2, .int a2)]) ok dX10_copies_13 rfl 3 rfl rfl (by decide) rfl rfl ?_
    refine g_goto (q := 2) ok dX10_copies_16 (by decide) ?_
    refine g_to (L' := [(0, .ref 45), (1, .ref 6), (2, .int a2), (3, .int (v2 + (nI 1)))]) ?_ [1, 2, 3, 0] rfl
    exact hgo1 _ _
set_option maxRecDepth 20000 in
theorem kX10_copies_46_7 (N : Nat) (a2 : Int32) (w : gT) : gM S2 cl2 gTs yX10_copies cX10_copies 4 none rmX10_copies_46_7 gv [.ref 46, .ref 7, .int a2] w (xX10_copies_46_7 N a2 w) := by
  refine gM_of (own := RX10) [(0, .ref 46), (1, .ref 7), (2, .int a2)] rfl (by decide) (fun _ => rfl) (fun _ => Nat.le_of_ble_eq_true rfl) (fun κ ok => ?_)
  unfold xX10_copies_46_7
  refine g_iconst (v := (nI 0)) (q := 1) ok dX10_copies_0 rfl (by decide) ?_
  refine g_istore_n (q := 2) (L' := [(3, .int (nI 0)), (0, .ref 46), (1, .ref 7), (2, .int a2)]) ok dX10_copies_1 rfl rfl (by decide) rfl rfl ?_
  refine g_to (L' := [(0, .ref 46), (1, .ref 7), (2, .int a2), (3, .int (nI 0))]) ?_ [1, 2, 3, 0] rfl
  refine g_loop1 (Lf := fun v2 => [(0, .ref 46), (1, .ref 7), (2, .int a2), (3, .int v2)]) (fun go1 hgo1 v2 w3 => ?_) N _ _
  unfold xX10_copies_46_7_b2
  refine g_iload_n (q := 3) ok dX10_copies_2 rfl 3 rfl rfl ?_
  refine g_iload_n (q := 4) ok dX10_copies_3 rfl 2 rfl rfl ?_
  refine g_icmp_ge (q := 7) (g := 19) ok dX10_copies_4 rfl (by decide) ?_ ?_
  · exact g_vret ok dX10_copies_19
  · refine g_aload_n (q := 8) ok dX10_copies_7 rfl 1 rfl rfl ?_
    refine g_iload_n (q := 9) ok dX10_copies_8 rfl 3 rfl rfl ?_
    refine g_aload_n (q := 10) ok dX10_copies_9 rfl 0 rfl rfl ?_
    refine g_iload_n (q := 11) ok dX10_copies_10 rfl 3 rfl rfl ?_
    refine g_iald (q := 12) ok dX10_copies_11 rfl sM_46 ?_
    refine g_iast (q := 13) ok dX10_copies_12 rfl sM_7 ?_
    refine g_letw (fun w4 => ?_)
    refine g_iinc (v := v2 + (nI 1)) (q := 16) (L' := [(3, .int (v2 + (nI 1))), (0, .ref 46), (1, .ref 7), (2, .int a2)]) ok dX10_copies_13 rfl 3 rfl rfl (by decide) rfl rfl ?_
    refine g_goto (q := 2) ok dX10_copies_16 (by decide) ?_
    refine g_to (L' := [(0, .ref 46), (1, .ref 7), (2, .int a2), (3, .int (v2 + (nI 1)))]) ?_ [1, 2, 3, 0] rfl
    exact hgo1 _ _
set_option maxRecDepth 20000 in
theorem kX10_copies_47_8 (N : Nat) (a2 : Int32) (w : gT) : gM S2 cl2 gTs yX10_copies cX10_copies 4 none rmX10_copies_47_8 gv [.ref 47, .ref 8, .int a2] w (xX10_copies_47_8 N a2 w) := by
  refine gM_of (own := RX10) [(0, .ref 47), (1, .ref 8), (2, .int a2)] rfl (by decide) (fun _ => rfl) (fun _ => Nat.le_of_ble_eq_true rfl) (fun κ ok => ?_)
  unfold xX10_copies_47_8
  refine g_iconst (v := (nI 0)) (q := 1) ok dX10_copies_0 rfl (by decide) ?_
  refine g_istore_n (q := 2) (L' := [(3, .int (nI 0)), (0, .ref 47), (1, .ref 8), (2, .int a2)]) ok dX10_copies_1 rfl rfl (by decide) rfl rfl ?_
  refine g_to (L' := [(0, .ref 47), (1, .ref 8), (2, .int a2), (3, .int (nI 0))]) ?_ [1, 2, 3, 0] rfl
  refine g_loop1 (Lf := fun v2 => [(0, .ref 47), (1, .ref 8), (2, .int a2), (3, .int v2)]) (fun go1 hgo1 v2 w3 => ?_) N _ _
  unfold xX10_copies_47_8_b2
  refine g_iload_n (q := 3) ok dX10_copies_2 rfl 3 rfl rfl ?_
  refine g_iload_n (q := 4) ok dX10_copies_3 rfl 2 rfl rfl ?_
  refine g_icmp_ge (q := 7) (g := 19) ok dX10_copies_4 rfl (by decide) ?_ ?_
  · exact g_vret ok dX10_copies_19
  · refine g_aload_n (q := 8) ok dX10_copies_7 rfl 1 rfl rfl ?_
    refine g_iload_n (q := 9) ok dX10_copies_8 rfl 3 rfl rfl ?_
    refine g_aload_n (q := 10) ok dX10_copies_9 rfl 0 rfl rfl ?_
    refine g_iload_n (q := 11) ok dX10_copies_10 rfl 3 rfl rfl ?_
    refine g_iald (q := 12) ok dX10_copies_11 rfl sM_47 ?_
    refine g_iast (q := 13) ok dX10_copies_12 rfl sM_8 ?_
    refine g_letw (fun w4 => ?_)
    refine g_iinc (v := v2 + (nI 1)) (q := 16) (L' := [(3, .int (v2 + (nI 1))), (0, .ref 47), (1, .ref 8), (2, .int a2)]) ok dX10_copies_13 rfl 3 rfl rfl (by decide) rfl rfl ?_
    refine g_goto (q := 2) ok dX10_copies_16 (by decide) ?_
    refine g_to (L' := [(0, .ref 47), (1, .ref 8), (2, .int a2), (3, .int (v2 + (nI 1)))]) ?_ [1, 2, 3, 0] rfl
    exact hgo1 _ _
set_option maxRecDepth 20000 in
theorem kX10_undo (N : Nat) (w : gT) : gM S2 cl2 gTs yX10_undo cX10_undo 1 (some .boolean) rmX10_undo gi [.ref 0] w (xX10_undo N w) := by
  refine gM_of (own := RX10) [(0, .ref 0)] rfl (by decide) (fun _ => rfl) (fun _ => Nat.le_of_ble_eq_true rfl) (fun κ ok => ?_)
  unfold xX10_undo
  refine g_aload_n (q := 1) ok dX10_undo_0 rfl 0 rfl rfl ?_
  refine g_getI (q := 4) (N := 0) ok dX10_undo_1 rfl fl_X10_416 sM_0 rfl ?_
  refine g_if_ne (q := 7) (g := 9) ok dX10_undo_4 rfl (by decide) ?_ ?_
  · refine g_aload_n (q := 10) ok dX10_undo_9 rfl 0 rfl rfl ?_
    refine g_aload_n (q := 11) ok dX10_undo_10 rfl 0 rfl rfl ?_
    refine g_getI (q := 14) (N := 0) ok dX10_undo_11 rfl fl_X10_420 sM_0 rfl ?_
    refine g_put (q := 17) ok dX10_undo_14 rfl fp_X10_154 sM_0 rfl rfl rfl ?_
    refine g_letw (fun w1 => ?_)
    refine g_aload_n (q := 18) ok dX10_undo_17 rfl 0 rfl rfl ?_
    refine g_aload_n (q := 19) ok dX10_undo_18 rfl 0 rfl rfl ?_
    refine g_getI (q := 22) (N := 0) ok dX10_undo_19 rfl fl_X10_423 sM_0 rfl ?_
    refine g_put (q := 25) ok dX10_undo_22 rfl fp_X10_158 sM_0 rfl rfl rfl ?_
    refine g_letw (fun w2 => ?_)
    refine g_aload_n (q := 26) ok dX10_undo_25 rfl 0 rfl rfl ?_
    refine g_aload_n (q := 27) ok dX10_undo_26 rfl 0 rfl rfl ?_
    refine g_getI (q := 30) (N := 0) ok dX10_undo_27 rfl fl_X10_426 sM_0 rfl ?_
    refine g_put (q := 33) ok dX10_undo_30 rfl fp_X10_182 sM_0 rfl rfl rfl ?_
    refine g_letw (fun w3 => ?_)
    refine g_aload_n (q := 34) ok dX10_undo_33 rfl 0 rfl rfl ?_
    refine g_aload_n (q := 35) ok dX10_undo_34 rfl 0 rfl rfl ?_
    refine g_getI (q := 38) (N := 0) ok dX10_undo_35 rfl fl_X10_429 sM_0 rfl ?_
    refine g_put (q := 41) ok dX10_undo_38 rfl fp_X10_161 sM_0 rfl rfl rfl ?_
    refine g_letw (fun w4 => ?_)
    refine g_aload_n (q := 42) ok dX10_undo_41 rfl 0 rfl rfl ?_
    refine g_aload_n (q := 43) ok dX10_undo_42 rfl 0 rfl rfl ?_
    refine g_getI (q := 46) (N := 0) ok dX10_undo_43 rfl fl_X10_432 sM_0 rfl ?_
    refine g_put (q := 49) ok dX10_undo_46 rfl fp_X10_168 sM_0 rfl rfl rfl ?_
    refine g_letw (fun w5 => ?_)
    refine g_aload_n (q := 50) ok dX10_undo_49 rfl 0 rfl rfl ?_
    refine g_getR (q := 53) ok dX10_undo_50 rfl fl_X10_130 sM_0 rfl ?_
    refine g_aload_n (q := 54) ok dX10_undo_53 rfl 0 rfl rfl ?_
    refine g_getR (q := 57) ok dX10_undo_54 rfl fl_X10_7 sM_0 rfl ?_
    refine g_bipush (v := (nI 12)) (q := 59) ok dX10_undo_57 rfl (by decide) ?_
    refine g_callSv (q := 62) (As := [.ref 40, .ref 1, .int (nI 12)]) (st := []) ok tbl_good dX10_undo_59 rfl (kX10_copies_40_1 N _ _) cf_X10_435 ⟨rfl, rfl, Nat.le_of_ble_eq_true rfl, Nat.le_of_ble_eq_true rfl⟩ rfl rfl (fun _ => Nat.le_of_ble_eq_true rfl) (fun w6 => ?_)
    refine g_aload_n (q := 63) ok dX10_undo_62 rfl 0 rfl rfl ?_
    refine g_getR (q := 66) ok dX10_undo_63 rfl fl_X10_133 sM_0 rfl ?_
    refine g_aload_n (q := 67) ok dX10_undo_66 rfl 0 rfl rfl ?_
    refine g_getR (q := 70) ok dX10_undo_67 rfl fl_X10_13 sM_0 rfl ?_
    refine g_bipush (v := (nI 10)) (q := 72) ok dX10_undo_70 rfl (by decide) ?_
    refine g_callSv (q := 75) (As := [.ref 41, .ref 2, .int (nI 10)]) (st := []) ok tbl_good dX10_undo_72 rfl (kX10_copies_41_2 N _ _) cf_X10_435 ⟨rfl, rfl, Nat.le_of_ble_eq_true rfl, Nat.le_of_ble_eq_true rfl⟩ rfl rfl (fun _ => Nat.le_of_ble_eq_true rfl) (fun w7 => ?_)
    refine g_aload_n (q := 76) ok dX10_undo_75 rfl 0 rfl rfl ?_
    refine g_getR (q := 79) ok dX10_undo_76 rfl fl_X10_136 sM_0 rfl ?_
    refine g_aload_n (q := 80) ok dX10_undo_79 rfl 0 rfl rfl ?_
    refine g_getR (q := 83) ok dX10_undo_80 rfl fl_X10_16 sM_0 rfl ?_
    refine g_bipush (v := (nI 70)) (q := 85) ok dX10_undo_83 rfl (by decide) ?_
    refine g_callSv (q := 88) (As := [.ref 42, .ref 3, .int (nI 70)]) (st := []) ok tbl_good dX10_undo_85 rfl (kX10_copies_42_3 N _ _) cf_X10_435 ⟨rfl, rfl, Nat.le_of_ble_eq_true rfl, Nat.le_of_ble_eq_true rfl⟩ rfl rfl (fun _ => Nat.le_of_ble_eq_true rfl) (fun w8 => ?_)
    refine g_aload_n (q := 89) ok dX10_undo_88 rfl 0 rfl rfl ?_
    refine g_getR (q := 92) ok dX10_undo_89 rfl fl_X10_139 sM_0 rfl ?_
    refine g_aload_n (q := 93) ok dX10_undo_92 rfl 0 rfl rfl ?_
    refine g_getR (q := 96) ok dX10_undo_93 rfl fl_X10_19 sM_0 rfl ?_
    refine g_bipush (v := (nI 10)) (q := 98) ok dX10_undo_96 rfl (by decide) ?_
    refine g_callSv (q := 101) (As := [.ref 43, .ref 4, .int (nI 10)]) (st := []) ok tbl_good dX10_undo_98 rfl (kX10_copies_43_4 N _ _) cf_X10_435 ⟨rfl, rfl, Nat.le_of_ble_eq_true rfl, Nat.le_of_ble_eq_true rfl⟩ rfl rfl (fun _ => Nat.le_of_ble_eq_true rfl) (fun w9 => ?_)
    refine g_aload_n (q := 102) ok dX10_undo_101 rfl 0 rfl rfl ?_
    refine g_getR (q := 105) ok dX10_undo_102 rfl fl_X10_142 sM_0 rfl ?_
    refine g_aload_n (q := 106) ok dX10_undo_105 rfl 0 rfl rfl ?_
    refine g_getR (q := 109) ok dX10_undo_106 rfl fl_X10_22 sM_0 rfl ?_
    refine g_bipush (v := (nI 10)) (q := 111) ok dX10_undo_109 rfl (by decide) ?_
    refine g_callSv (q := 114) (As := [.ref 44, .ref 5, .int (nI 10)]) (st := []) ok tbl_good dX10_undo_111 rfl (kX10_copies_44_5 N _ _) cf_X10_435 ⟨rfl, rfl, Nat.le_of_ble_eq_true rfl, Nat.le_of_ble_eq_true rfl⟩ rfl rfl (fun _ => Nat.le_of_ble_eq_true rfl) (fun w10 => ?_)
    refine g_aload_n (q := 115) ok dX10_undo_114 rfl 0 rfl rfl ?_
    refine g_getR (q := 118) ok dX10_undo_115 rfl fl_X10_145 sM_0 rfl ?_
    refine g_aload_n (q := 119) ok dX10_undo_118 rfl 0 rfl rfl ?_
    refine g_getR (q := 122) ok dX10_undo_119 rfl fl_X10_25 sM_0 rfl ?_
    refine g_bipush (v := (nI 10)) (q := 124) ok dX10_undo_122 rfl (by decide) ?_
    refine g_callSv (q := 127) (As := [.ref 45, .ref 6, .int (nI 10)]) (st := []) ok tbl_good dX10_undo_124 rfl (kX10_copies_45_6 N _ _) cf_X10_435 ⟨rfl, rfl, Nat.le_of_ble_eq_true rfl, Nat.le_of_ble_eq_true rfl⟩ rfl rfl (fun _ => Nat.le_of_ble_eq_true rfl) (fun w11 => ?_)
    refine g_aload_n (q := 128) ok dX10_undo_127 rfl 0 rfl rfl ?_
    refine g_getR (q := 131) ok dX10_undo_128 rfl fl_X10_148 sM_0 rfl ?_
    refine g_aload_n (q := 132) ok dX10_undo_131 rfl 0 rfl rfl ?_
    refine g_getR (q := 135) ok dX10_undo_132 rfl fl_X10_28 sM_0 rfl ?_
    refine g_bipush (v := (nI 10)) (q := 137) ok dX10_undo_135 rfl (by decide) ?_
    refine g_callSv (q := 140) (As := [.ref 46, .ref 7, .int (nI 10)]) (st := []) ok tbl_good dX10_undo_137 rfl (kX10_copies_46_7 N _ _) cf_X10_435 ⟨rfl, rfl, Nat.le_of_ble_eq_true rfl, Nat.le_of_ble_eq_true rfl⟩ rfl rfl (fun _ => Nat.le_of_ble_eq_true rfl) (fun w12 => ?_)
    refine g_aload_n (q := 141) ok dX10_undo_140 rfl 0 rfl rfl ?_
    refine g_getR (q := 144) ok dX10_undo_141 rfl fl_X10_151 sM_0 rfl ?_
    refine g_aload_n (q := 145) ok dX10_undo_144 rfl 0 rfl rfl ?_
    refine g_getR (q := 148) ok dX10_undo_145 rfl fl_X10_31 sM_0 rfl ?_
    refine g_bipush (v := (nI 47)) (q := 150) ok dX10_undo_148 rfl (by decide) ?_
    refine g_callSv (q := 153) (As := [.ref 47, .ref 8, .int (nI 47)]) (st := []) ok tbl_good dX10_undo_150 rfl (kX10_copies_47_8 N _ _) cf_X10_435 ⟨rfl, rfl, Nat.le_of_ble_eq_true rfl, Nat.le_of_ble_eq_true rfl⟩ rfl rfl (fun _ => Nat.le_of_ble_eq_true rfl) (fun w13 => ?_)
    refine g_iconst (v := (nI 1)) (q := 154) ok dX10_undo_153 rfl (by decide) ?_
    exact g_zret ok dX10_undo_154 rfl
  · refine g_iconst (v := (nI 0)) (q := 8) ok dX10_undo_7 rfl (by decide) ?_
    exact g_zret ok dX10_undo_8 rfl
