set_option maxRecDepth 20000 in
theorem kX10_endsPiece (N : Nat) (w : gT) : gM S2 cl2 gTs yX10_endsPiece cX10_endsPiece 1 none rmX10_endsPiece gv [.ref 0] w (xX10_endsPiece N w) := by
  refine gM_of (own := RX10) [(0, .ref 0)] rfl (by decide) (fun _ => rfl) (fun _ => Nat.le_of_ble_eq_true rfl) (fun κ ok => ?_)
  unfold xX10_endsPiece
  refine g_loop0 (Lf := [(0, .ref 0)]) (fun go1 hgo1 w2 => ?_) N _
  unfold xX10_endsPiece_b0
  refine g_aload_n (q := 1) ok dX10_endsPiece_0 rfl 0 rfl rfl ?_
  refine g_callVi (q := 4) (As := []) (st := []) ok tbl_good dX10_endsPiece_1 rfl (kX10_waitTop _) cf_X10_252 ⟨rfl, rfl, Nat.le_of_ble_eq_true rfl, Nat.le_of_ble_eq_true rfl⟩ sM_0 rfl rfl rfl (fun _ => Nat.le_of_ble_eq_true rfl) (fun v3 w4 => ?_)
  refine g_bipush (v := (nI 10)) (q := 6) ok dX10_endsPiece_4 rfl (by decide) ?_
  refine g_icmp_ne (q := 9) (g := 39) ok dX10_endsPiece_6 rfl (by decide) ?_ ?_
  · exact g_vret ok dX10_endsPiece_39
  · refine g_aload_n (q := 10) ok dX10_endsPiece_9 rfl 0 rfl rfl ?_
    refine g_bipush (v := (nI 10)) (q := 12) ok dX10_endsPiece_10 rfl (by decide) ?_
    refine g_iconst (v := (nI 0)) (q := 13) ok dX10_endsPiece_12 rfl (by decide) ?_
    refine g_callVv (q := 16) (As := [.int (nI 10), .int (nI 0)]) (st := []) ok tbl_good dX10_endsPiece_13 rfl (kX10_notes _ _ _) cf_X10_255 ⟨rfl, rfl, Nat.le_of_ble_eq_true rfl, Nat.le_of_ble_eq_true rfl⟩ sM_0 rfl rfl rfl (fun _ => Nat.le_of_ble_eq_true rfl) (fun w5 => ?_)
    refine g_aload_n (q := 17) ok dX10_endsPiece_16 rfl 0 rfl rfl ?_
    refine g_aload_n (q := 18) ok dX10_endsPiece_17 rfl 0 rfl rfl ?_
    refine g_getI (q := 21) (N := 0) ok dX10_endsPiece_18 rfl fl_X10_249 sM_0 rfl ?_
    refine g_iconst (v := (nI 1)) (q := 22) ok dX10_endsPiece_21 rfl (by decide) ?_
    refine g_isub (q := 23) ok dX10_endsPiece_22 rfl ?_
    refine g_put (q := 26) ok dX10_endsPiece_23 rfl fp_X10_249 sM_0 rfl rfl rfl ?_
    refine g_letw (fun w6 => ?_)
    refine g_aload_n (q := 27) ok dX10_endsPiece_26 rfl 0 rfl rfl ?_
    refine g_aload_n (q := 28) ok dX10_endsPiece_27 rfl 0 rfl rfl ?_
    refine g_getI (q := 31) (N := 0) ok dX10_endsPiece_28 rfl fl_X10_246 sM_0 rfl ?_
    refine g_iconst (v := (nI 1)) (q := 32) ok dX10_endsPiece_31 rfl (by decide) ?_
    refine g_isub (q := 33) ok dX10_endsPiece_32 rfl ?_
    refine g_put (q := 36) ok dX10_endsPiece_33 rfl fp_X10_246 sM_0 rfl rfl rfl ?_
    refine g_letw (fun w7 => ?_)
    refine g_goto (q := 0) ok dX10_endsPiece_36 (by decide) ?_
    exact hgo1 _
set_option maxRecDepth 20000 in
theorem kX10_readsCompared (N : Nat) (w : gT) : gM S2 cl2 gTs yX10_readsCompared cX10_readsCompared 2 (some .boolean) rmX10_readsCompared gi [.ref 0] w (xX10_readsCompared N w) := by
  refine gM_of (own := RX10) [(0, .ref 0)] rfl (by decide) (fun _ => rfl) (fun _ => Nat.le_of_ble_eq_true rfl) (fun κ ok => ?_)
  unfold xX10_readsCompared
  refine g_aload_n (q := 1) ok dX10_readsCompared_0 rfl 0 rfl rfl ?_
  refine g_callVi (q := 4) (As := []) (st := []) ok tbl_good dX10_readsCompared_1 rfl (kX10_readsSum N _) cf_X10_282 ⟨rfl, rfl, Nat.le_of_ble_eq_true rfl, Nat.le_of_ble_eq_true rfl⟩ sM_0 rfl rfl rfl (fun _ => Nat.le_of_ble_eq_true rfl) (fun v1 w2 => ?_)
  refine g_if_ne (q := 7) (g := 9) ok dX10_readsCompared_4 rfl (by decide) ?_ ?_
  · refine g_join (P := fun k3 => ∀ (v4 : Int32) (w5 : gT), gJ S2 cl2 rmX10_readsCompared 2 gi κ 52 [(0, .ref 0)] [.int v4] w5 (k3 v4 w5)) (fun v4 w5 => ?_) (fun k3 hk3 => ?_)
    · refine g_istore_n (q := 53) (L' := [(1, .int v4), (0, .ref 0)]) ok dX10_readsCompared_52 rfl rfl (by decide) rfl rfl ?_
      refine g_iload_n (q := 54) ok dX10_readsCompared_53 rfl 0 rfl rfl ?_
      refine g_iconst (v := (-1)) (q := 55) ok dX10_readsCompared_54 rfl (by decide) ?_
      refine g_icmp_ne (q := 58) (g := 68) ok dX10_readsCompared_55 rfl (by decide) ?_ ?_
      · refine g_aload_n (q := 69) ok dX10_readsCompared_68 rfl 1 rfl rfl ?_
        refine g_aload_n (q := 70) ok dX10_readsCompared_69 rfl 1 rfl rfl ?_
        refine g_getI (q := 73) (N := 0) ok dX10_readsCompared_70 rfl fl_X10_203 sM_0 rfl ?_
        refine g_iconst (v := (nI 1)) (q := 74) ok dX10_readsCompared_73 rfl (by decide) ?_
        refine g_iadd (q := 75) ok dX10_readsCompared_74 rfl ?_
        refine g_put (q := 78) ok dX10_readsCompared_75 rfl fp_X10_203 sM_0 rfl rfl rfl ?_
        refine g_letw (fun w6 => ?_)
        refine g_aload_n (q := 79) ok dX10_readsCompared_78 rfl 1 rfl rfl ?_
        refine g_callVi (q := 82) (As := []) (st := []) ok tbl_good dX10_readsCompared_79 rfl (kX10_readsSum N _) cf_X10_282 ⟨rfl, rfl, Nat.le_of_ble_eq_true rfl, Nat.le_of_ble_eq_true rfl⟩ sM_0 rfl rfl rfl (fun _ => Nat.le_of_ble_eq_true rfl) (fun v7 w8 => ?_)
        refine g_if_ne (q := 85) (g := 87) ok dX10_readsCompared_82 rfl (by decide) ?_ ?_
        · refine g_aload_n (q := 88) ok dX10_readsCompared_87 rfl 1 rfl rfl ?_
          refine g_iload_n (q := 89) ok dX10_readsCompared_88 rfl 0 rfl rfl ?_
          refine g_iconst (v := (nI 0)) (q := 90) ok dX10_readsCompared_89 rfl (by decide) ?_
          refine g_callVv (q := 93) (As := [.int v4, .int (nI 0)]) (st := []) ok tbl_good dX10_readsCompared_90 rfl (kX10_notes _ _ _) cf_X10_255 ⟨rfl, rfl, Nat.le_of_ble_eq_true rfl, Nat.le_of_ble_eq_true rfl⟩ sM_0 rfl rfl rfl (fun _ => Nat.le_of_ble_eq_true rfl) (fun w9 => ?_)
          refine g_aload_n (q := 94) ok dX10_readsCompared_93 rfl 1 rfl rfl ?_
          refine g_callVv (q := 97) (As := []) (st := []) ok tbl_good dX10_readsCompared_94 rfl (kX10_endsPiece N _) cf_X10_285 ⟨rfl, rfl, Nat.le_of_ble_eq_true rfl, Nat.le_of_ble_eq_true rfl⟩ sM_0 rfl rfl rfl (fun _ => Nat.le_of_ble_eq_true rfl) (fun w10 => ?_)
          refine g_iconst (v := (nI 1)) (q := 98) ok dX10_readsCompared_97 rfl (by decide) ?_
          exact g_zret ok dX10_readsCompared_98 rfl
        · refine g_iconst (v := (nI 0)) (q := 86) ok dX10_readsCompared_85 rfl (by decide) ?_
          exact g_zret ok dX10_readsCompared_86 rfl
      · refine g_aload_n (q := 59) ok dX10_readsCompared_58 rfl 1 rfl rfl ?_
        refine g_iconst (v := (nI 1)) (q := 60) ok dX10_readsCompared_59 rfl (by decide) ?_
        refine g_aload_n (q := 61) ok dX10_readsCompared_60 rfl 1 rfl rfl ?_
        refine g_getI (q := 64) (N := 0) ok dX10_readsCompared_61 rfl fl_X10_203 sM_0 rfl ?_
        refine g_callVi (q := 67) (As := [.int (nI 1), .int (w5.1 0 15)]) (st := []) ok tbl_good dX10_readsCompared_64 rfl (kX10_wrongAt _ _ _) cf_X10_206 ⟨rfl, rfl, Nat.le_of_ble_eq_true rfl, Nat.le_of_ble_eq_true rfl⟩ sM_0 rfl rfl rfl (fun _ => Nat.le_of_ble_eq_true rfl) (fun v11 w12 => ?_)
        exact g_zretv ok dX10_readsCompared_67
    · refine g_aload_n (q := 10) ok dX10_readsCompared_9 rfl 0 rfl rfl ?_
      refine g_callVi (q := 13) (As := []) (st := []) ok tbl_good dX10_readsCompared_10 rfl (kX10_here _) cf_X10_199 ⟨rfl, rfl, Nat.le_of_ble_eq_true rfl, Nat.le_of_ble_eq_true rfl⟩ sM_0 rfl rfl rfl (fun _ => Nat.le_of_ble_eq_true rfl) (fun v13 w14 => ?_)
      refine g_bipush (v := (nI 60)) (q := 15) ok dX10_readsCompared_13 rfl (by decide) ?_
      refine g_icmp_ne (q := 18) (g := 23) ok dX10_readsCompared_15 rfl (by decide) ?_ ?_
      · refine g_aload_n (q := 24) ok dX10_readsCompared_23 rfl 0 rfl rfl ?_
        refine g_callVi (q := 27) (As := []) (st := []) ok tbl_good dX10_readsCompared_24 rfl (kX10_here _) cf_X10_199 ⟨rfl, rfl, Nat.le_of_ble_eq_true rfl, Nat.le_of_ble_eq_true rfl⟩ sM_0 rfl rfl rfl (fun _ => Nat.le_of_ble_eq_true rfl) (fun v15 w16 => ?_)
        refine g_bipush (v := (nI 62)) (q := 29) ok dX10_readsCompared_27 rfl (by decide) ?_
        refine g_icmp_ne (q := 32) (g := 37) ok dX10_readsCompared_29 rfl (by decide) ?_ ?_
        · refine g_aload_n (q := 38) ok dX10_readsCompared_37 rfl 0 rfl rfl ?_
          refine g_callVi (q := 41) (As := []) (st := []) ok tbl_good dX10_readsCompared_38 rfl (kX10_here _) cf_X10_199 ⟨rfl, rfl, Nat.le_of_ble_eq_true rfl, Nat.le_of_ble_eq_true rfl⟩ sM_0 rfl rfl rfl (fun _ => Nat.le_of_ble_eq_true rfl) (fun v17 w18 => ?_)
          refine g_bipush (v := (nI 61)) (q := 43) ok dX10_readsCompared_41 rfl (by decide) ?_
          refine g_icmp_ne (q := 46) (g := 51) ok dX10_readsCompared_43 rfl (by decide) ?_ ?_
          · refine g_iconst (v := (-1)) (q := 52) ok dX10_readsCompared_51 rfl (by decide) ?_
            exact hk3 _ _
          · refine g_bipush (v := (nI 9)) (q := 48) ok dX10_readsCompared_46 rfl (by decide) ?_
            refine g_goto (q := 52) ok dX10_readsCompared_48 (by decide) ?_
            exact hk3 _ _
        · refine g_bipush (v := (nI 8)) (q := 34) ok dX10_readsCompared_32 rfl (by decide) ?_
          refine g_goto (q := 52) ok dX10_readsCompared_34 (by decide) ?_
          exact hk3 _ _
      · refine g_bipush (v := (nI 7)) (q := 20) ok dX10_readsCompared_18 rfl (by decide) ?_
        refine g_goto (q := 52) ok dX10_readsCompared_20 (by decide) ?_
        exact hk3 _ _
  · refine g_iconst (v := (nI 0)) (q := 8) ok dX10_readsCompared_7 rfl (by decide) ?_
    exact g_zret ok dX10_readsCompared_8 rfl
set_option maxRecDepth 20000 in
theorem kX10_jumps (a1 : Int32) (w : gT) : gM S2 cl2 gTs yX10_jumps cX10_jumps 2 none rmX10_jumps gv [.ref 0, .int a1] w (xX10_jumps a1 w) := by
  refine gM_of (own := RX10) [(0, .ref 0), (1, .int a1)] rfl (by decide) (fun _ => rfl) (fun _ => Nat.le_of_ble_eq_true rfl) (fun κ ok => ?_)
  unfold xX10_jumps
  refine g_aload_n (q := 1) ok dX10_jumps_0 rfl 0 rfl rfl ?_
  refine g_getR (q := 4) ok dX10_jumps_1 rfl fl_X10_66 sM_0 rfl ?_
  refine g_aload_n (q := 5) ok dX10_jumps_4 rfl 0 rfl rfl ?_
  refine g_getI (q := 8) (N := 0) ok dX10_jumps_5 rfl fl_X10_249 sM_0 rfl ?_
  refine g_ldc (q := 10) ok dX10_jumps_8 rfl tw_1364 ?_
  refine g_iload_n (q := 11) ok dX10_jumps_10 rfl 1 rfl rfl ?_
  refine g_imul (q := 12) ok dX10_jumps_11 rfl ?_
  refine g_aload_n (q := 13) ok dX10_jumps_12 rfl 0 rfl rfl ?_
  refine g_getI (q := 16) (N := 0) ok dX10_jumps_13 rfl fl_X10_242 sM_0 rfl ?_
  refine g_iadd (q := 17) ok dX10_jumps_16 rfl ?_
  refine g_iast (q := 18) ok dX10_jumps_17 rfl sM_19 ?_
  refine g_letw (fun w1 => ?_)
  refine g_aload_n (q := 19) ok dX10_jumps_18 rfl 0 rfl rfl ?_
  refine g_aload_n (q := 20) ok dX10_jumps_19 rfl 0 rfl rfl ?_
  refine g_getI (q := 23) (N := 0) ok dX10_jumps_20 rfl fl_X10_249 sM_0 rfl ?_
  refine g_iconst (v := (nI 1)) (q := 24) ok dX10_jumps_23 rfl (by decide) ?_
  refine g_iadd (q := 25) ok dX10_jumps_24 rfl ?_
  refine g_put (q := 28) ok dX10_jumps_25 rfl fp_X10_249 sM_0 rfl rfl rfl ?_
  refine g_letw (fun w2 => ?_)
  refine g_aload_n (q := 29) ok dX10_jumps_28 rfl 0 rfl rfl ?_
  refine g_iload_n (q := 30) ok dX10_jumps_29 rfl 1 rfl rfl ?_
  refine g_iconst (v := (nI 0)) (q := 31) ok dX10_jumps_30 rfl (by decide) ?_
  refine g_callVv (q := 34) (As := [.int a1, .int (nI 0)]) (st := []) ok tbl_good dX10_jumps_31 rfl (kX10_notes _ _ _) cf_X10_255 ⟨rfl, rfl, Nat.le_of_ble_eq_true rfl, Nat.le_of_ble_eq_true rfl⟩ sM_0 rfl rfl rfl (fun _ => Nat.le_of_ble_eq_true rfl) (fun w3 => ?_)
  refine g_aload_n (q := 35) ok dX10_jumps_34 rfl 0 rfl rfl ?_
  refine g_aload_n (q := 36) ok dX10_jumps_35 rfl 0 rfl rfl ?_
  refine g_getI (q := 39) (N := 0) ok dX10_jumps_36 rfl fl_X10_203 sM_0 rfl ?_
  refine g_iconst (v := (nI 1)) (q := 40) ok dX10_jumps_39 rfl (by decide) ?_
  refine g_iadd (q := 41) ok dX10_jumps_40 rfl ?_
  refine g_put (q := 44) ok dX10_jumps_41 rfl fp_X10_203 sM_0 rfl rfl rfl ?_
  refine g_letw (fun w4 => ?_)
  exact g_vret ok dX10_jumps_44
set_option maxRecDepth 20000 in
theorem kX10_lands (N : Nat) (a1 : Int32) (w : gT) : gM S2 cl2 gTs yX10_lands cX10_lands 3 none rmX10_lands gv [.ref 0, .int a1] w (xX10_lands N a1 w) := by
  refine gM_of (own := RX10) [(0, .ref 0), (1, .int a1)] rfl (by decide) (fun _ => rfl) (fun _ => Nat.le_of_ble_eq_true rfl) (fun κ ok => ?_)
  unfold xX10_lands
  refine g_loop0 (Lf := [(0, .ref 0), (1, .int a1)]) (fun go1 hgo1 w2 => ?_) N _
  unfold xX10_lands_b0
  refine g_join (P := fun k3 => ∀ (w4 : gT), gJ S2 cl2 rmX10_lands 3 gv κ 22 [(0, .ref 0), (1, .int a1)] [] w4 (k3 w4)) (fun w4 => ?_) (fun k3 hk3 => ?_)
  · refine g_aload_n (q := 23) ok dX10_lands_22 rfl 0 rfl rfl ?_
    refine g_getR (q := 26) ok dX10_lands_23 rfl fl_X10_66 sM_0 rfl ?_
    refine g_aload_n (q := 27) ok dX10_lands_26 rfl 0 rfl rfl ?_
    refine g_getI (q := 30) (N := 0) ok dX10_lands_27 rfl fl_X10_249 sM_0 rfl ?_
    refine g_iconst (v := (nI 1)) (q := 31) ok dX10_lands_30 rfl (by decide) ?_
    refine g_isub (q := 32) ok dX10_lands_31 rfl ?_
    refine g_iald (q := 33) ok dX10_lands_32 rfl sM_19 ?_
    refine g_ldc (q := 35) ok dX10_lands_33 rfl tw_1364 ?_
    refine g_iremC (q := 36) ok dX10_lands_35 rfl (by decide) ?_
    refine g_leti (fun v5 => ?_)
    refine g_istore_n (q := 37) (L' := [(2, .int v5), (0, .ref 0), (1, .int a1)]) ok dX10_lands_36 rfl rfl (by decide) rfl rfl ?_
    refine g_aload_n (q := 38) ok dX10_lands_37 rfl 1 rfl rfl ?_
    refine g_getR (q := 41) ok dX10_lands_38 rfl fl_X10_63 sM_0 rfl ?_
    refine g_iload_n (q := 42) ok dX10_lands_41 rfl 0 rfl rfl ?_
    refine g_ldc (q := 44) ok dX10_lands_42 rfl tw_1364 ?_
    refine g_aload_n (q := 45) ok dX10_lands_44 rfl 1 rfl rfl ?_
    refine g_getR (q := 48) ok dX10_lands_45 rfl fl_X10_63 sM_0 rfl ?_
    refine g_iload_n (q := 49) ok dX10_lands_48 rfl 0 rfl rfl ?_
    refine g_iald (q := 50) ok dX10_lands_49 rfl sM_18 ?_
    refine g_ldc (q := 52) ok dX10_lands_50 rfl tw_1364 ?_
    refine g_idivC (q := 53) ok dX10_lands_52 rfl (by decide) ?_
    refine g_imul (q := 54) ok dX10_lands_53 rfl ?_
    refine g_aload_n (q := 55) ok dX10_lands_54 rfl 1 rfl rfl ?_
    refine g_getI (q := 58) (N := 0) ok dX10_lands_55 rfl fl_X10_242 sM_0 rfl ?_
    refine g_iadd (q := 59) ok dX10_lands_58 rfl ?_
    refine g_iast (q := 60) ok dX10_lands_59 rfl sM_18 ?_
    refine g_letw (fun w6 => ?_)
    refine g_aload_n (q := 61) ok dX10_lands_60 rfl 1 rfl rfl ?_
    refine g_aload_n (q := 62) ok dX10_lands_61 rfl 1 rfl rfl ?_
    refine g_getI (q := 65) (N := 0) ok dX10_lands_62 rfl fl_X10_249 sM_0 rfl ?_
    refine g_iconst (v := (nI 1)) (q := 66) ok dX10_lands_65 rfl (by decide) ?_
    refine g_isub (q := 67) ok dX10_lands_66 rfl ?_
    refine g_put (q := 70) ok dX10_lands_67 rfl fp_X10_249 sM_0 rfl rfl rfl ?_
    refine g_letw (fun w7 => ?_)
    refine g_goto (q := 0) ok dX10_lands_70 (by decide) ?_
    refine g_to (L' := [(0, .ref 0), (1, .int a1)]) ?_ [1, 2] rfl
    exact hgo1 _
  · refine g_aload_n (q := 1) ok dX10_lands_0 rfl 0 rfl rfl ?_
    refine g_callVi (q := 4) (As := []) (st := []) ok tbl_good dX10_lands_1 rfl (kX10_waitTop _) cf_X10_252 ⟨rfl, rfl, Nat.le_of_ble_eq_true rfl, Nat.le_of_ble_eq_true rfl⟩ sM_0 rfl rfl rfl (fun _ => Nat.le_of_ble_eq_true rfl) (fun v8 w9 => ?_)
    refine g_bipush (v := (nI 11)) (q := 6) ok dX10_lands_4 rfl (by decide) ?_
    refine g_icmp_eq (q := 9) (g := 22) ok dX10_lands_6 rfl (by decide) ?_ ?_
    · exact hk3 _
    · refine g_iload_n (q := 10) ok dX10_lands_9 rfl 1 rfl rfl ?_
      refine g_if_eq (q := 13) (g := 73) ok dX10_lands_10 rfl (by decide) ?_ ?_
      · exact g_vret ok dX10_lands_73
      · refine g_aload_n (q := 14) ok dX10_lands_13 rfl 0 rfl rfl ?_
        refine g_callVi (q := 17) (As := []) (st := []) ok tbl_good dX10_lands_14 rfl (kX10_waitTop _) cf_X10_252 ⟨rfl, rfl, Nat.le_of_ble_eq_true rfl, Nat.le_of_ble_eq_true rfl⟩ sM_0 rfl rfl rfl (fun _ => Nat.le_of_ble_eq_true rfl) (fun v10 w11 => ?_)
        refine g_bipush (v := (nI 12)) (q := 19) ok dX10_lands_17 rfl (by decide) ?_
        refine g_icmp_ne (q := 22) (g := 73) ok dX10_lands_19 rfl (by decide) ?_ ?_
        · exact g_vret ok dX10_lands_73
        · exact hk3 _
set_option maxRecDepth 20000 in
theorem kX10_readsCondition (N : Nat) (w : gT) : gM S2 cl2 gTs yX10_readsCondition cX10_readsCondition 1 (some .boolean) rmX10_readsCondition gi [.ref 0] w (xX10_readsCondition N w) := by
  refine gM_of (own := RX10) [(0, .ref 0)] rfl (by decide) (fun _ => rfl) (fun _ => Nat.le_of_ble_eq_true rfl) (fun κ ok => ?_)
  unfold xX10_readsCondition
  refine g_aload_n (q := 1) ok dX10_readsCondition_0 rfl 0 rfl rfl ?_
  refine g_callVi (q := 4) (As := []) (st := []) ok tbl_good dX10_readsCondition_1 rfl (kX10_here _) cf_X10_199 ⟨rfl, rfl, Nat.le_of_ble_eq_true rfl, Nat.le_of_ble_eq_true rfl⟩ sM_0 rfl rfl rfl (fun _ => Nat.le_of_ble_eq_true rfl) (fun v1 w2 => ?_)
  refine g_bipush (v := (nI 40)) (q := 6) ok dX10_readsCondition_4 rfl (by decide) ?_
  refine g_icmp_eq (q := 9) (g := 19) ok dX10_readsCondition_6 rfl (by decide) ?_ ?_
  · refine g_aload_n (q := 20) ok dX10_readsCondition_19 rfl 0 rfl rfl ?_
    refine g_iconst (v := (nI 0)) (q := 21) ok dX10_readsCondition_20 rfl (by decide) ?_
    refine g_put (q := 24) ok dX10_readsCondition_21 rfl fp_X10_246 sM_0 rfl rfl rfl ?_
    refine g_letw (fun w3 => ?_)
    refine g_aload_n (q := 25) ok dX10_readsCondition_24 rfl 0 rfl rfl ?_
    refine g_iconst (v := (nI 0)) (q := 26) ok dX10_readsCondition_25 rfl (by decide) ?_
    refine g_put (q := 29) ok dX10_readsCondition_26 rfl fp_X10_249 sM_0 rfl rfl rfl ?_
    refine g_letw (fun w4 => ?_)
    refine g_aload_n (q := 30) ok dX10_readsCondition_29 rfl 0 rfl rfl ?_
    refine g_bipush (v := (nI 13)) (q := 32) ok dX10_readsCondition_30 rfl (by decide) ?_
    refine g_callVi (q := 35) (As := [.int (nI 13)]) (st := []) ok tbl_good dX10_readsCondition_32 rfl (kX10_opens _ _) cf_X10_259 ⟨rfl, rfl, Nat.le_of_ble_eq_true rfl, Nat.le_of_ble_eq_true rfl⟩ sM_0 rfl rfl rfl (fun _ => Nat.le_of_ble_eq_true rfl) (fun v5 w6 => ?_)
    refine g_if_ne (q := 38) (g := 40) ok dX10_readsCondition_35 rfl (by decide) ?_ ?_
    · refine g_join (P := fun k7 => ∀ (w8 : gT), gJ S2 cl2 rmX10_readsCondition 1 gi κ 170 [(0, .ref 0)] [] w8 (k7 w8)) (fun w8 => ?_) (fun k7 hk7 => ?_)
      · refine g_aload_n (q := 171) ok dX10_readsCondition_170 rfl 0 rfl rfl ?_
        refine g_iconst (v := (nI 1)) (q := 172) ok dX10_readsCondition_171 rfl (by decide) ?_
        refine g_aload_n (q := 173) ok dX10_readsCondition_172 rfl 0 rfl rfl ?_
        refine g_getI (q := 176) (N := 0) ok dX10_readsCondition_173 rfl fl_X10_203 sM_0 rfl ?_
        refine g_callVi (q := 179) (As := [.int (nI 1), .int (w8.1 0 15)]) (st := []) ok tbl_good dX10_readsCondition_176 rfl (kX10_wrongAt _ _ _) cf_X10_206 ⟨rfl, rfl, Nat.le_of_ble_eq_true rfl, Nat.le_of_ble_eq_true rfl⟩ sM_0 rfl rfl rfl (fun _ => Nat.le_of_ble_eq_true rfl) (fun v9 w10 => ?_)
        exact g_zretv ok dX10_readsCondition_179
      · refine g_loop0 (Lf := [(0, .ref 0)]) (fun go11 hgo11 w12 => ?_) N _
        unfold xX10_readsCondition_b40
        refine g_join (P := fun k13 => ∀ (w14 : gT), gJ S2 cl2 rmX10_readsCondition 1 gi κ 58 [(0, .ref 0)] [] w14 (k13 w14)) (fun w14 => ?_) (fun k13 hk13 => ?_)
        · refine g_join (P := fun k15 => ∀ (v16 : Int32) (w17 : gT), gJ S2 cl2 rmX10_readsCondition 1 gi κ 75 [(0, .ref 0)] [.int v16, .ref 0] w17 (k15 v16 w17)) (fun v16 w17 => ?_) (fun k15 hk15 => ?_)
          · refine g_callVi (q := 78) (As := [.int v16]) (st := []) ok tbl_good dX10_readsCondition_75 rfl (kX10_opens _ _) cf_X10_259 ⟨rfl, rfl, Nat.le_of_ble_eq_true rfl, Nat.le_of_ble_eq_true rfl⟩ sM_0 rfl rfl rfl (fun _ => Nat.le_of_ble_eq_true rfl) (fun v18 w19 => ?_)
            refine g_if_ne (q := 81) (g := 40) ok dX10_readsCondition_78 rfl (by decide) ?_ ?_
            · exact hgo11 _
            · refine g_iconst (v := (nI 0)) (q := 82) ok dX10_readsCondition_81 rfl (by decide) ?_
              exact g_zret ok dX10_readsCondition_82 rfl
          · refine g_aload_n (q := 59) ok dX10_readsCondition_58 rfl 0 rfl rfl ?_
            refine g_aload_n (q := 60) ok dX10_readsCondition_59 rfl 0 rfl rfl ?_
            refine g_callVi (q := 63) (As := []) (st := [.ref 0]) ok tbl_good dX10_readsCondition_60 rfl (kX10_here _) cf_X10_199 ⟨rfl, rfl, Nat.le_of_ble_eq_true rfl, Nat.le_of_ble_eq_true rfl⟩ sM_0 rfl rfl rfl (fun _ => Nat.le_of_ble_eq_true rfl) (fun v20 w21 => ?_)
            refine g_bipush (v := (nI 33)) (q := 65) ok dX10_readsCondition_63 rfl (by decide) ?_
            refine g_icmp_ne (q := 68) (g := 73) ok dX10_readsCondition_65 rfl (by decide) ?_ ?_
            · refine g_bipush (v := (nI 13)) (q := 75) ok dX10_readsCondition_73 rfl (by decide) ?_
              exact hk15 _ _
            · refine g_bipush (v := (nI 10)) (q := 70) ok dX10_readsCondition_68 rfl (by decide) ?_
              refine g_goto (q := 75) ok dX10_readsCondition_70 (by decide) ?_
              exact hk15 _ _
        · refine g_aload_n (q := 41) ok dX10_readsCondition_40 rfl 0 rfl rfl ?_
          refine g_callVi (q := 44) (As := []) (st := []) ok tbl_good dX10_readsCondition_41 rfl (kX10_here _) cf_X10_199 ⟨rfl, rfl, Nat.le_of_ble_eq_true rfl, Nat.le_of_ble_eq_true rfl⟩ sM_0 rfl rfl rfl (fun _ => Nat.le_of_ble_eq_true rfl) (fun v22 w23 => ?_)
          refine g_bipush (v := (nI 33)) (q := 46) ok dX10_readsCondition_44 rfl (by decide) ?_
          refine g_icmp_eq (q := 49) (g := 58) ok dX10_readsCondition_46 rfl (by decide) ?_ ?_
          · exact hk13 _
          · refine g_aload_n (q := 50) ok dX10_readsCondition_49 rfl 0 rfl rfl ?_
            refine g_callVi (q := 53) (As := []) (st := []) ok tbl_good dX10_readsCondition_50 rfl (kX10_here _) cf_X10_199 ⟨rfl, rfl, Nat.le_of_ble_eq_true rfl, Nat.le_of_ble_eq_true rfl⟩ sM_0 rfl rfl rfl (fun _ => Nat.le_of_ble_eq_true rfl) (fun v24 w25 => ?_)
            refine g_bipush (v := (nI 40)) (q := 55) ok dX10_readsCondition_53 rfl (by decide) ?_
            refine g_icmp_ne (q := 58) (g := 83) ok dX10_readsCondition_55 rfl (by decide) ?_ ?_
            · refine g_aload_n (q := 84) ok dX10_readsCondition_83 rfl 0 rfl rfl ?_
              refine g_callVi (q := 87) (As := []) (st := []) ok tbl_good dX10_readsCondition_84 rfl (kX10_readsCompared N _) cf_X10_288 ⟨rfl, rfl, Nat.le_of_ble_eq_true rfl, Nat.le_of_ble_eq_true rfl⟩ sM_0 rfl rfl rfl (fun _ => Nat.le_of_ble_eq_true rfl) (fun v26 w27 => ?_)
              refine g_if_ne (q := 90) (g := 92) ok dX10_readsCondition_87 rfl (by decide) ?_ ?_
              · refine g_join (P := fun k28 => ∀ (w29 : gT), gJ S2 cl2 rmX10_readsCondition 1 gi κ 152 [(0, .ref 0)] [] w29 (k28 w29)) (fun w29 => ?_) (fun k28 hk28 => ?_)
                · refine g_join (P := fun k30 => ∀ (w31 : gT), gJ S2 cl2 rmX10_readsCondition 1 gi κ 180 [(0, .ref 0)] [] w31 (k30 w31)) (fun w31 => ?_) (fun k30 hk30 => ?_)
                  · refine g_join (P := fun k32 => ∀ (v33 : Int32) (w34 : gT), gJ S2 cl2 rmX10_readsCondition 1 gi κ 195 [(0, .ref 0)] [.int v33, .ref 0] w34 (k32 v33 w34)) (fun v33 w34 => ?_) (fun k32 hk32 => ?_)
                    · refine g_join (P := fun k35 => ∀ (v36 : Int32) (w37 : gT), gJ S2 cl2 rmX10_readsCondition 1 gi κ 215 [(0, .ref 0)] [.int v36, .ref 0] w37 (k35 v36 w37)) (fun v36 w37 => ?_) (fun k35 hk35 => ?_)
                      · refine g_callVv (q := 218) (As := [.int v36]) (st := []) ok tbl_good dX10_readsCondition_215 rfl (kX10_jumps _ _) cf_X10_294 ⟨rfl, rfl, Nat.le_of_ble_eq_true rfl, Nat.le_of_ble_eq_true rfl⟩ sM_0 rfl rfl rfl (fun _ => Nat.le_of_ble_eq_true rfl) (fun w38 => ?_)
                        refine g_goto (q := 40) ok dX10_readsCondition_218 (by decide) ?_
                        exact hgo11 _
                      · refine g_callVv (q := 198) (As := [.int v33]) (st := []) ok tbl_good dX10_readsCondition_195 rfl (kX10_lands N _ _) cf_X10_291 ⟨rfl, rfl, Nat.le_of_ble_eq_true rfl, Nat.le_of_ble_eq_true rfl⟩ sM_0 rfl rfl rfl (fun _ => Nat.le_of_ble_eq_true rfl) (fun w39 => ?_)
                        refine g_aload_n (q := 199) ok dX10_readsCondition_198 rfl 0 rfl rfl ?_
                        refine g_aload_n (q := 200) ok dX10_readsCondition_199 rfl 0 rfl rfl ?_
                        refine g_callVi (q := 203) (As := []) (st := [.ref 0]) ok tbl_good dX10_readsCondition_200 rfl (kX10_here _) cf_X10_199 ⟨rfl, rfl, Nat.le_of_ble_eq_true rfl, Nat.le_of_ble_eq_true rfl⟩ sM_0 rfl rfl rfl (fun _ => Nat.le_of_ble_eq_true rfl) (fun v40 w41 => ?_)
                        refine g_bipush (v := (nI 38)) (q := 205) ok dX10_readsCondition_203 rfl (by decide) ?_
                        refine g_icmp_ne (q := 208) (g := 213) ok dX10_readsCondition_205 rfl (by decide) ?_ ?_
                        · refine g_bipush (v := (nI 12)) (q := 215) ok dX10_readsCondition_213 rfl (by decide) ?_
                          exact hk35 _ _
                        · refine g_bipush (v := (nI 11)) (q := 210) ok dX10_readsCondition_208 rfl (by decide) ?_
                          refine g_goto (q := 215) ok dX10_readsCondition_210 (by decide) ?_
                          exact hk35 _ _
                    · refine g_aload_n (q := 181) ok dX10_readsCondition_180 rfl 0 rfl rfl ?_
                      refine g_aload_n (q := 182) ok dX10_readsCondition_181 rfl 0 rfl rfl ?_
                      refine g_callVi (q := 185) (As := []) (st := [.ref 0]) ok tbl_good dX10_readsCondition_182 rfl (kX10_here _) cf_X10_199 ⟨rfl, rfl, Nat.le_of_ble_eq_true rfl, Nat.le_of_ble_eq_true rfl⟩ sM_0 rfl rfl rfl (fun _ => Nat.le_of_ble_eq_true rfl) (fun v42 w43 => ?_)
                      refine g_bipush (v := (nI 124)) (q := 187) ok dX10_readsCondition_185 rfl (by decide) ?_
                      refine g_icmp_ne (q := 190) (g := 194) ok dX10_readsCondition_187 rfl (by decide) ?_ ?_
                      · refine g_iconst (v := (nI 0)) (q := 195) ok dX10_readsCondition_194 rfl (by decide) ?_
                        exact hk32 _ _
                      · refine g_iconst (v := (nI 1)) (q := 191) ok dX10_readsCondition_190 rfl (by decide) ?_
                        refine g_goto (q := 195) ok dX10_readsCondition_191 (by decide) ?_
                        exact hk32 _ _
                  · refine g_aload_n (q := 153) ok dX10_readsCondition_152 rfl 0 rfl rfl ?_
                    refine g_callVi (q := 156) (As := []) (st := []) ok tbl_good dX10_readsCondition_153 rfl (kX10_here _) cf_X10_199 ⟨rfl, rfl, Nat.le_of_ble_eq_true rfl, Nat.le_of_ble_eq_true rfl⟩ sM_0 rfl rfl rfl (fun _ => Nat.le_of_ble_eq_true rfl) (fun v44 w45 => ?_)
                    refine g_bipush (v := (nI 38)) (q := 158) ok dX10_readsCondition_156 rfl (by decide) ?_
                    refine g_icmp_eq (q := 161) (g := 180) ok dX10_readsCondition_158 rfl (by decide) ?_ ?_
                    · exact hk30 _
                    · refine g_aload_n (q := 162) ok dX10_readsCondition_161 rfl 0 rfl rfl ?_
                      refine g_callVi (q := 165) (As := []) (st := []) ok tbl_good dX10_readsCondition_162 rfl (kX10_here _) cf_X10_199 ⟨rfl, rfl, Nat.le_of_ble_eq_true rfl, Nat.le_of_ble_eq_true rfl⟩ sM_0 rfl rfl rfl (fun _ => Nat.le_of_ble_eq_true rfl) (fun v46 w47 => ?_)
                      refine g_bipush (v := (nI 124)) (q := 167) ok dX10_readsCondition_165 rfl (by decide) ?_
                      refine g_icmp_eq (q := 170) (g := 180) ok dX10_readsCondition_167 rfl (by decide) ?_ ?_
                      · exact hk30 _
                      · exact hk7 _
                · refine g_loop0 (Lf := [(0, .ref 0)]) (fun go48 hgo48 w49 => ?_) N _
                  unfold xX10_readsCondition_b92
                  refine g_aload_n (q := 93) ok dX10_readsCondition_92 rfl 0 rfl rfl ?_
                  refine g_callVi (q := 96) (As := []) (st := []) ok tbl_good dX10_readsCondition_93 rfl (kX10_here _) cf_X10_199 ⟨rfl, rfl, Nat.le_of_ble_eq_true rfl, Nat.le_of_ble_eq_true rfl⟩ sM_0 rfl rfl rfl (fun _ => Nat.le_of_ble_eq_true rfl) (fun v50 w51 => ?_)
                  refine g_bipush (v := (nI 41)) (q := 98) ok dX10_readsCondition_96 rfl (by decide) ?_
                  refine g_icmp_ne (q := 101) (g := 152) ok dX10_readsCondition_98 rfl (by decide) ?_ ?_
                  · exact hk28 _
                  · refine g_aload_n (q := 102) ok dX10_readsCondition_101 rfl 0 rfl rfl ?_
                    refine g_iconst (v := (nI 1)) (q := 103) ok dX10_readsCondition_102 rfl (by decide) ?_
                    refine g_callVv (q := 106) (As := [.int (nI 1)]) (st := []) ok tbl_good dX10_readsCondition_103 rfl (kX10_lands N _ _) cf_X10_291 ⟨rfl, rfl, Nat.le_of_ble_eq_true rfl, Nat.le_of_ble_eq_true rfl⟩ sM_0 rfl rfl rfl (fun _ => Nat.le_of_ble_eq_true rfl) (fun w52 => ?_)
                    refine g_aload_n (q := 107) ok dX10_readsCondition_106 rfl 0 rfl rfl ?_
                    refine g_aload_n (q := 108) ok dX10_readsCondition_107 rfl 0 rfl rfl ?_
                    refine g_getI (q := 111) (N := 0) ok dX10_readsCondition_108 rfl fl_X10_249 sM_0 rfl ?_
                    refine g_iconst (v := (nI 1)) (q := 112) ok dX10_readsCondition_111 rfl (by decide) ?_
                    refine g_isub (q := 113) ok dX10_readsCondition_112 rfl ?_
                    refine g_put (q := 116) ok dX10_readsCondition_113 rfl fp_X10_249 sM_0 rfl rfl rfl ?_
                    refine g_letw (fun w53 => ?_)
                    refine g_aload_n (q := 117) ok dX10_readsCondition_116 rfl 0 rfl rfl ?_
                    refine g_aload_n (q := 118) ok dX10_readsCondition_117 rfl 0 rfl rfl ?_
                    refine g_getI (q := 121) (N := 0) ok dX10_readsCondition_118 rfl fl_X10_246 sM_0 rfl ?_
                    refine g_iconst (v := (nI 1)) (q := 122) ok dX10_readsCondition_121 rfl (by decide) ?_
                    refine g_isub (q := 123) ok dX10_readsCondition_122 rfl ?_
                    refine g_put (q := 126) ok dX10_readsCondition_123 rfl fp_X10_246 sM_0 rfl rfl rfl ?_
                    refine g_letw (fun w54 => ?_)
                    refine g_aload_n (q := 127) ok dX10_readsCondition_126 rfl 0 rfl rfl ?_
                    refine g_aload_n (q := 128) ok dX10_readsCondition_127 rfl 0 rfl rfl ?_
                    refine g_getI (q := 131) (N := 0) ok dX10_readsCondition_128 rfl fl_X10_203 sM_0 rfl ?_
                    refine g_iconst (v := (nI 1)) (q := 132) ok dX10_readsCondition_131 rfl (by decide) ?_
                    refine g_iadd (q := 133) ok dX10_readsCondition_132 rfl ?_
                    refine g_put (q := 136) ok dX10_readsCondition_133 rfl fp_X10_203 sM_0 rfl rfl rfl ?_
                    refine g_letw (fun w55 => ?_)
                    refine g_aload_n (q := 137) ok dX10_readsCondition_136 rfl 0 rfl rfl ?_
                    refine g_getI (q := 140) (N := 0) ok dX10_readsCondition_137 rfl fl_X10_249 sM_0 rfl ?_
                    refine g_if_ne (q := 143) (g := 145) ok dX10_readsCondition_140 rfl (by decide) ?_ ?_
                    · refine g_aload_n (q := 146) ok dX10_readsCondition_145 rfl 0 rfl rfl ?_
                      refine g_callVv (q := 149) (As := []) (st := []) ok tbl_good dX10_readsCondition_146 rfl (kX10_endsPiece N _) cf_X10_285 ⟨rfl, rfl, Nat.le_of_ble_eq_true rfl, Nat.le_of_ble_eq_true rfl⟩ sM_0 rfl rfl rfl (fun _ => Nat.le_of_ble_eq_true rfl) (fun w56 => ?_)
                      refine g_goto (q := 92) ok dX10_readsCondition_149 (by decide) ?_
                      exact hgo48 _
                    · refine g_iconst (v := (nI 1)) (q := 144) ok dX10_readsCondition_143 rfl (by decide) ?_
                      exact g_zret ok dX10_readsCondition_144 rfl
              · refine g_iconst (v := (nI 0)) (q := 91) ok dX10_readsCondition_90 rfl (by decide) ?_
                exact g_zret ok dX10_readsCondition_91 rfl
            · exact hk13 _
    · refine g_iconst (v := (nI 0)) (q := 39) ok dX10_readsCondition_38 rfl (by decide) ?_
      exact g_zret ok dX10_readsCondition_39 rfl
  · refine g_aload_n (q := 10) ok dX10_readsCondition_9 rfl 0 rfl rfl ?_
    refine g_iconst (v := (nI 1)) (q := 11) ok dX10_readsCondition_10 rfl (by decide) ?_
    refine g_aload_n (q := 12) ok dX10_readsCondition_11 rfl 0 rfl rfl ?_
    refine g_getI (q := 15) (N := 0) ok dX10_readsCondition_12 rfl fl_X10_203 sM_0 rfl ?_
    refine g_callVi (q := 18) (As := [.int (nI 1), .int (w2.1 0 15)]) (st := []) ok tbl_good dX10_readsCondition_15 rfl (kX10_wrongAt _ _ _) cf_X10_206 ⟨rfl, rfl, Nat.le_of_ble_eq_true rfl, Nat.le_of_ble_eq_true rfl⟩ sM_0 rfl rfl rfl (fun _ => Nat.le_of_ble_eq_true rfl) (fun v57 w58 => ?_)
    exact g_zretv ok dX10_readsCondition_18
set_option maxRecDepth 20000 in
theorem kX10_readsClause (N : Nat) (w : gT) : gM S2 cl2 gTs yX10_readsClause cX10_readsClause 2 (some .boolean) rmX10_readsClause gi [.ref 0] w (xX10_readsClause N w) := by
  refine gM_of (own := RX10) [(0, .ref 0)] rfl (by decide) (fun _ => rfl) (fun _ => Nat.le_of_ble_eq_true rfl) (fun κ ok => ?_)
  unfold xX10_readsClause
  refine g_aload_n (q := 1) ok dX10_readsClause_0 rfl 0 rfl rfl ?_
  refine g_callVi (q := 4) (As := []) (st := []) ok tbl_good dX10_readsClause_1 rfl (kX10_here _) cf_X10_199 ⟨rfl, rfl, Nat.le_of_ble_eq_true rfl, Nat.le_of_ble_eq_true rfl⟩ sM_0 rfl rfl rfl (fun _ => Nat.le_of_ble_eq_true rfl) (fun v1 w2 => ?_)
  refine g_istore_n (q := 5) (L' := [(1, .int v1), (0, .ref 0)]) ok dX10_readsClause_4 rfl rfl (by decide) rfl rfl ?_
  refine g_iload_n (q := 6) ok dX10_readsClause_5 rfl 0 rfl rfl ?_
  refine g_callSi (q := 9) (As := [.int v1]) (st := []) ok tbl_good dX10_readsClause_6 rfl (kX10_isClause _ _) cf_X10_297 ⟨rfl, rfl, Nat.le_of_ble_eq_true rfl, Nat.le_of_ble_eq_true rfl⟩ rfl rfl (fun _ => Nat.le_of_ble_eq_true rfl) (fun v3 w4 => ?_)
  refine g_if_ne (q := 12) (g := 22) ok dX10_readsClause_9 rfl (by decide) ?_ ?_
  · refine g_aload_n (q := 23) ok dX10_readsClause_22 rfl 1 rfl rfl ?_
    refine g_getI (q := 26) (N := 0) ok dX10_readsClause_23 rfl fl_X10_300 sM_0 rfl ?_
    refine g_bipush (v := (nI 14)) (q := 28) ok dX10_readsClause_26 rfl (by decide) ?_
    refine g_icmp_ne (q := 31) (g := 41) ok dX10_readsClause_28 rfl (by decide) ?_ ?_
    · refine g_join (P := fun k5 => ∀ (w6 : gT), gJ S2 cl2 rmX10_readsClause 2 gi κ 99 [(0, .ref 0)] [] w6 (k5 w6)) (fun w6 => ?_) (fun k5 hk5 => ?_)
      · refine g_aload_n (q := 100) ok dX10_readsClause_99 rfl 0 rfl rfl ?_
        refine g_getR (q := 103) ok dX10_readsClause_100 rfl fl_X10_75 sM_0 rfl ?_
        refine g_aload_n (q := 104) ok dX10_readsClause_103 rfl 0 rfl rfl ?_
        refine g_getI (q := 107) (N := 0) ok dX10_readsClause_104 rfl fl_X10_300 sM_0 rfl ?_
        refine g_aload_n (q := 108) ok dX10_readsClause_107 rfl 0 rfl rfl ?_
        refine g_getI (q := 111) (N := 0) ok dX10_readsClause_108 rfl fl_X10_242 sM_0 rfl ?_
        refine g_iast (q := 112) ok dX10_readsClause_111 rfl sM_22 ?_
        refine g_letw (fun w7 => ?_)
        refine g_aload_n (q := 113) ok dX10_readsClause_112 rfl 0 rfl rfl ?_
        refine g_callVi (q := 116) (As := []) (st := []) ok tbl_good dX10_readsClause_113 rfl (kX10_readsCondition N _) cf_X10_303 ⟨rfl, rfl, Nat.le_of_ble_eq_true rfl, Nat.le_of_ble_eq_true rfl⟩ sM_0 rfl rfl rfl (fun _ => Nat.le_of_ble_eq_true rfl) (fun v8 w9 => ?_)
        refine g_if_ne (q := 119) (g := 121) ok dX10_readsClause_116 rfl (by decide) ?_ ?_
        · refine g_aload_n (q := 122) ok dX10_readsClause_121 rfl 0 rfl rfl ?_
          refine g_getR (q := 125) ok dX10_readsClause_122 rfl fl_X10_78 sM_0 rfl ?_
          refine g_aload_n (q := 126) ok dX10_readsClause_125 rfl 0 rfl rfl ?_
          refine g_getI (q := 129) (N := 0) ok dX10_readsClause_126 rfl fl_X10_300 sM_0 rfl ?_
          refine g_aload_n (q := 130) ok dX10_readsClause_129 rfl 0 rfl rfl ?_
          refine g_getI (q := 133) (N := 0) ok dX10_readsClause_130 rfl fl_X10_242 sM_0 rfl ?_
          refine g_iast (q := 134) ok dX10_readsClause_133 rfl sM_23 ?_
          refine g_letw (fun w10 => ?_)
          refine g_aload_n (q := 135) ok dX10_readsClause_134 rfl 0 rfl rfl ?_
          refine g_aload_n (q := 136) ok dX10_readsClause_135 rfl 0 rfl rfl ?_
          refine g_getI (q := 139) (N := 0) ok dX10_readsClause_136 rfl fl_X10_300 sM_0 rfl ?_
          refine g_iconst (v := (nI 1)) (q := 140) ok dX10_readsClause_139 rfl (by decide) ?_
          refine g_iadd (q := 141) ok dX10_readsClause_140 rfl ?_
          refine g_put (q := 144) ok dX10_readsClause_141 rfl fp_X10_300 sM_0 rfl rfl rfl ?_
          refine g_letw (fun w11 => ?_)
          refine g_iconst (v := (nI 1)) (q := 145) ok dX10_readsClause_144 rfl (by decide) ?_
          exact g_zret ok dX10_readsClause_145 rfl
        · refine g_iconst (v := (nI 0)) (q := 120) ok dX10_readsClause_119 rfl (by decide) ?_
          exact g_zret ok dX10_readsClause_120 rfl
      · refine g_aload_n (q := 42) ok dX10_readsClause_41 rfl 1 rfl rfl ?_
        refine g_getR (q := 45) ok dX10_readsClause_42 rfl fl_X10_69 sM_0 rfl ?_
        refine g_aload_n (q := 46) ok dX10_readsClause_45 rfl 1 rfl rfl ?_
        refine g_getI (q := 49) (N := 0) ok dX10_readsClause_46 rfl fl_X10_300 sM_0 rfl ?_
        refine g_iload_n (q := 50) ok dX10_readsClause_49 rfl 0 rfl rfl ?_
        refine g_iast (q := 51) ok dX10_readsClause_50 rfl sM_20 ?_
        refine g_letw (fun w12 => ?_)
        refine g_aload_n (q := 52) ok dX10_readsClause_51 rfl 1 rfl rfl ?_
        refine g_aload_n (q := 53) ok dX10_readsClause_52 rfl 1 rfl rfl ?_
        refine g_getI (q := 56) (N := 0) ok dX10_readsClause_53 rfl fl_X10_203 sM_0 rfl ?_
        refine g_iconst (v := (nI 1)) (q := 57) ok dX10_readsClause_56 rfl (by decide) ?_
        refine g_iadd (q := 58) ok dX10_readsClause_57 rfl ?_
        refine g_put (q := 61) ok dX10_readsClause_58 rfl fp_X10_203 sM_0 rfl rfl rfl ?_
        refine g_letw (fun w13 => ?_)
        refine g_aload_n (q := 62) ok dX10_readsClause_61 rfl 1 rfl rfl ?_
        refine g_getR (q := 65) ok dX10_readsClause_62 rfl fl_X10_72 sM_0 rfl ?_
        refine g_aload_n (q := 66) ok dX10_readsClause_65 rfl 1 rfl rfl ?_
        refine g_getI (q := 69) (N := 0) ok dX10_readsClause_66 rfl fl_X10_300 sM_0 rfl ?_
        refine g_aload_n (q := 70) ok dX10_readsClause_69 rfl 1 rfl rfl ?_
        refine g_getI (q := 73) (N := 0) ok dX10_readsClause_70 rfl fl_X10_242 sM_0 rfl ?_
        refine g_iast (q := 74) ok dX10_readsClause_73 rfl sM_21 ?_
        refine g_letw (fun w14 => ?_)
        refine g_aload_n (q := 75) ok dX10_readsClause_74 rfl 1 rfl rfl ?_
        refine g_iconst (v := (nI 0)) (q := 76) ok dX10_readsClause_75 rfl (by decide) ?_
        refine g_put (q := 79) ok dX10_readsClause_76 rfl fp_X10_246 sM_0 rfl rfl rfl ?_
        refine g_letw (fun w15 => ?_)
        refine g_aload_n (q := 80) ok dX10_readsClause_79 rfl 1 rfl rfl ?_
        refine g_iconst (v := (nI 0)) (q := 81) ok dX10_readsClause_80 rfl (by decide) ?_
        refine g_put (q := 84) ok dX10_readsClause_81 rfl fp_X10_249 sM_0 rfl rfl rfl ?_
        refine g_letw (fun w16 => ?_)
        refine g_iload_n (q := 85) ok dX10_readsClause_84 rfl 0 rfl rfl ?_
        refine g_bipush (v := (nI 107)) (q := 87) ok dX10_readsClause_85 rfl (by decide) ?_
        refine g_icmp_eq (q := 90) (g := 99) ok dX10_readsClause_87 rfl (by decide) ?_ ?_
        · refine g_to (L' := [(0, .ref 0)]) ?_ [1] rfl
          exact hk5 _
        · refine g_aload_n (q := 91) ok dX10_readsClause_90 rfl 1 rfl rfl ?_
          refine g_callVi (q := 94) (As := []) (st := []) ok tbl_good dX10_readsClause_91 rfl (kX10_readsSum N _) cf_X10_282 ⟨rfl, rfl, Nat.le_of_ble_eq_true rfl, Nat.le_of_ble_eq_true rfl⟩ sM_0 rfl rfl rfl (fun _ => Nat.le_of_ble_eq_true rfl) (fun v17 w18 => ?_)
          refine g_if_ne (q := 97) (g := 99) ok dX10_readsClause_94 rfl (by decide) ?_ ?_
          · refine g_to (L' := [(0, .ref 0)]) ?_ [1] rfl
            exact hk5 _
          · refine g_iconst (v := (nI 0)) (q := 98) ok dX10_readsClause_97 rfl (by decide) ?_
            exact g_zret ok dX10_readsClause_98 rfl
    · refine g_aload_n (q := 32) ok dX10_readsClause_31 rfl 1 rfl rfl ?_
      refine g_iconst (v := (nI 4)) (q := 33) ok dX10_readsClause_32 rfl (by decide) ?_
      refine g_aload_n (q := 34) ok dX10_readsClause_33 rfl 1 rfl rfl ?_
      refine g_getI (q := 37) (N := 0) ok dX10_readsClause_34 rfl fl_X10_203 sM_0 rfl ?_
      refine g_callVi (q := 40) (As := [.int (nI 4), .int (w4.1 0 15)]) (st := []) ok tbl_good dX10_readsClause_37 rfl (kX10_wrongAt _ _ _) cf_X10_206 ⟨rfl, rfl, Nat.le_of_ble_eq_true rfl, Nat.le_of_ble_eq_true rfl⟩ sM_0 rfl rfl rfl (fun _ => Nat.le_of_ble_eq_true rfl) (fun v19 w20 => ?_)
      exact g_zretv ok dX10_readsClause_40
  · refine g_aload_n (q := 13) ok dX10_readsClause_12 rfl 1 rfl rfl ?_
    refine g_iconst (v := (nI 1)) (q := 14) ok dX10_readsClause_13 rfl (by decide) ?_
    refine g_aload_n (q := 15) ok dX10_readsClause_14 rfl 1 rfl rfl ?_
    refine g_getI (q := 18) (N := 0) ok dX10_readsClause_15 rfl fl_X10_203 sM_0 rfl ?_
    refine g_callVi (q := 21) (As := [.int (nI 1), .int (w4.1 0 15)]) (st := []) ok tbl_good dX10_readsClause_18 rfl (kX10_wrongAt _ _ _) cf_X10_206 ⟨rfl, rfl, Nat.le_of_ble_eq_true rfl, Nat.le_of_ble_eq_true rfl⟩ sM_0 rfl rfl rfl (fun _ => Nat.le_of_ble_eq_true rfl) (fun v21 w22 => ?_)
    exact g_zretv ok dX10_readsClause_21
set_option maxRecDepth 20000 in
theorem kX10_law (N : Nat) (a1 : Int32) (w : gT) : gM S2 cl2 gTs yX10_law cX10_law 4 (some .int) rmX10_law gi [.ref 0, .int a1] w (xX10_law N a1 w) := by
  refine gM_of (own := RX10) [(0, .ref 0), (1, .int a1)] rfl (by decide) (fun _ => rfl) (fun _ => Nat.le_of_ble_eq_true rfl) (fun κ ok => ?_)
  unfold xX10_law
  refine g_iload_n (q := 1) ok dX10_law_0 rfl 1 rfl rfl ?_
  refine g_iconst (v := (nI 1)) (q := 2) ok dX10_law_1 rfl (by decide) ?_
  refine g_sipush (v := (nI 200)) (q := 5) ok dX10_law_2 rfl (by decide) ?_
  refine g_callSi (q := 8) (As := [.int a1, .int (nI 1), .int (nI 200)]) (st := []) ok tbl_good dX10_law_5 rfl (kX10_in _ _ _ _) cf_X10_175 ⟨rfl, rfl, Nat.le_of_ble_eq_true rfl, Nat.le_of_ble_eq_true rfl⟩ rfl rfl (fun _ => Nat.le_of_ble_eq_true rfl) (fun v1 w2 => ?_)
  refine g_if_eq (q := 11) (g := 19) ok dX10_law_8 rfl (by decide) ?_ ?_
  · refine g_iconst (v := (-1)) (q := 20) ok dX10_law_19 rfl (by decide) ?_
    exact g_iret ok dX10_law_20
  · refine g_iload_n (q := 12) ok dX10_law_11 rfl 1 rfl rfl ?_
    refine g_aload_n (q := 13) ok dX10_law_12 rfl 0 rfl rfl ?_
    refine g_getI (q := 16) (N := 0) ok dX10_law_13 rfl fl_X10_188 sM_0 rfl ?_
    refine g_icmp_le (q := 19) (g := 21) ok dX10_law_16 rfl (by decide) ?_ ?_
    · refine g_aload_n (q := 22) ok dX10_law_21 rfl 0 rfl rfl ?_
      refine g_iconst (v := (nI 0)) (q := 23) ok dX10_law_22 rfl (by decide) ?_
      refine g_put (q := 26) ok dX10_law_23 rfl fp_X10_203 sM_0 rfl rfl rfl ?_
      refine g_letw (fun w3 => ?_)
      refine g_aload_n (q := 27) ok dX10_law_26 rfl 0 rfl rfl ?_
      refine g_iload_n (q := 28) ok dX10_law_27 rfl 1 rfl rfl ?_
      refine g_put (q := 31) ok dX10_law_28 rfl fp_X10_224 sM_0 rfl rfl rfl ?_
      refine g_letw (fun w4 => ?_)
      refine g_aload_n (q := 32) ok dX10_law_31 rfl 0 rfl rfl ?_
      refine g_iconst (v := (nI 0)) (q := 33) ok dX10_law_32 rfl (by decide) ?_
      refine g_put (q := 36) ok dX10_law_33 rfl fp_X10_242 sM_0 rfl rfl rfl ?_
      refine g_letw (fun w5 => ?_)
      refine g_aload_n (q := 37) ok dX10_law_36 rfl 0 rfl rfl ?_
      refine g_iconst (v := (nI 0)) (q := 38) ok dX10_law_37 rfl (by decide) ?_
      refine g_put (q := 41) ok dX10_law_38 rfl fp_X10_300 sM_0 rfl rfl rfl ?_
      refine g_letw (fun w6 => ?_)
      refine g_aload_n (q := 42) ok dX10_law_41 rfl 0 rfl rfl ?_
      refine g_callVi (q := 45) (As := []) (st := []) ok tbl_good dX10_law_42 rfl (kX10_readsClause N _) cf_X10_306 ⟨rfl, rfl, Nat.le_of_ble_eq_true rfl, Nat.le_of_ble_eq_true rfl⟩ sM_0 rfl rfl rfl (fun _ => Nat.le_of_ble_eq_true rfl) (fun v7 w8 => ?_)
      refine g_istore_n (q := 46) (L' := [(2, .int v7), (0, .ref 0), (1, .int a1)]) ok dX10_law_45 rfl rfl (by decide) rfl rfl ?_
      refine g_join (P := fun k9 => ∀ (v10 : Int32) (w11 : gT), gJ S2 cl2 rmX10_law 4 gi κ 86 [(0, .ref 0), (2, .int v10)] [] w11 (k9 v10 w11)) (fun v10 w11 => ?_) (fun k9 hk9 => ?_)
      · refine g_aload_n (q := 87) ok dX10_law_86 rfl 0 rfl rfl ?_
        refine g_iconst (v := (nI 0)) (q := 88) ok dX10_law_87 rfl (by decide) ?_
        refine g_put (q := 91) ok dX10_law_88 rfl fp_X10_188 sM_0 rfl rfl rfl ?_
        refine g_letw (fun w12 => ?_)
        refine g_iload_n (q := 92) ok dX10_law_91 rfl 1 rfl rfl ?_
        refine g_if_ne (q := 95) (g := 100) ok dX10_law_92 rfl (by decide) ?_ ?_
        · refine g_aload_n (q := 101) ok dX10_law_100 rfl 0 rfl rfl ?_
          refine g_aload_n (q := 102) ok dX10_law_101 rfl 0 rfl rfl ?_
          refine g_getI (q := 105) (N := 0) ok dX10_law_102 rfl fl_X10_300 sM_0 rfl ?_
          refine g_put (q := 108) ok dX10_law_105 rfl fp_X10_309 sM_0 rfl rfl rfl ?_
          refine g_letw (fun w13 => ?_)
          refine g_iconst (v := (nI 0)) (q := 109) ok dX10_law_108 rfl (by decide) ?_
          refine g_istore_n (q := 110) (L' := [(3, .int (nI 0)), (0, .ref 0), (2, .int v10)]) ok dX10_law_109 rfl rfl (by decide) rfl rfl ?_
          refine g_join (P := fun k14 => ∀ (w15 : gT), gJ S2 cl2 rmX10_law 4 gi κ 136 [(0, .ref 0)] [] w15 (k14 w15)) (fun w15 => ?_) (fun k14 hk14 => ?_)
          · refine g_iconst (v := (nI 0)) (q := 137) ok dX10_law_136 rfl (by decide) ?_
            refine g_istore_n (q := 138) (L' := [(3, .int (nI 0)), (0, .ref 0)]) ok dX10_law_137 rfl rfl (by decide) rfl rfl ?_
            refine g_to (L' := [(0, .ref 0), (3, .int (nI 0))]) ?_ [1, 0] rfl
            refine g_loop1 (Lf := fun v17 => [(0, .ref 0), (3, .int v17)]) (fun go16 hgo16 v17 w18 => ?_) N _ _
            unfold xX10_law_b138
            refine g_iload_n (q := 139) ok dX10_law_138 rfl 1 rfl rfl ?_
            refine g_aload_n (q := 140) ok dX10_law_139 rfl 0 rfl rfl ?_
            refine g_getI (q := 143) (N := 0) ok dX10_law_140 rfl fl_X10_300 sM_0 rfl ?_
            refine g_icmp_ge (q := 146) (g := 200) ok dX10_law_143 rfl (by decide) ?_ ?_
            · refine g_aload_n (q := 201) ok dX10_law_200 rfl 0 rfl rfl ?_
              refine g_getI (q := 204) (N := 0) ok dX10_law_201 rfl fl_X10_300 sM_0 rfl ?_
              exact g_iret ok dX10_law_204
            · refine g_aload_n (q := 147) ok dX10_law_146 rfl 0 rfl rfl ?_
              refine g_getR (q := 150) ok dX10_law_147 rfl fl_X10_84 sM_0 rfl ?_
              refine g_iload_n (q := 151) ok dX10_law_150 rfl 1 rfl rfl ?_
              refine g_aload_n (q := 152) ok dX10_law_151 rfl 0 rfl rfl ?_
              refine g_getR (q := 155) ok dX10_law_152 rfl fl_X10_69 sM_0 rfl ?_
              refine g_iload_n (q := 156) ok dX10_law_155 rfl 1 rfl rfl ?_
              refine g_iald (q := 157) ok dX10_law_156 rfl sM_20 ?_
              refine g_iast (q := 158) ok dX10_law_157 rfl sM_25 ?_
              refine g_letw (fun w19 => ?_)
              refine g_aload_n (q := 159) ok dX10_law_158 rfl 0 rfl rfl ?_
              refine g_getR (q := 162) ok dX10_law_159 rfl fl_X10_87 sM_0 rfl ?_
              refine g_iload_n (q := 163) ok dX10_law_162 rfl 1 rfl rfl ?_
              refine g_aload_n (q := 164) ok dX10_law_163 rfl 0 rfl rfl ?_
              refine g_getR (q := 167) ok dX10_law_164 rfl fl_X10_72 sM_0 rfl ?_
              refine g_iload_n (q := 168) ok dX10_law_167 rfl 1 rfl rfl ?_
              refine g_iald (q := 169) ok dX10_law_168 rfl sM_21 ?_
              refine g_iast (q := 170) ok dX10_law_169 rfl sM_26 ?_
              refine g_letw (fun w20 => ?_)
              refine g_aload_n (q := 171) ok dX10_law_170 rfl 0 rfl rfl ?_
              refine g_getR (q := 174) ok dX10_law_171 rfl fl_X10_90 sM_0 rfl ?_
              refine g_iload_n (q := 175) ok dX10_law_174 rfl 1 rfl rfl ?_
              refine g_aload_n (q := 176) ok dX10_law_175 rfl 0 rfl rfl ?_
              refine g_getR (q := 179) ok dX10_law_176 rfl fl_X10_75 sM_0 rfl ?_
              refine g_iload_n (q := 180) ok dX10_law_179 rfl 1 rfl rfl ?_
              refine g_iald (q := 181) ok dX10_law_180 rfl sM_22 ?_
              refine g_iast (q := 182) ok dX10_law_181 rfl sM_27 ?_
              refine g_letw (fun w21 => ?_)
              refine g_aload_n (q := 183) ok dX10_law_182 rfl 0 rfl rfl ?_
              refine g_getR (q := 186) ok dX10_law_183 rfl fl_X10_93 sM_0 rfl ?_
              refine g_iload_n (q := 187) ok dX10_law_186 rfl 1 rfl rfl ?_
              refine g_aload_n (q := 188) ok dX10_law_187 rfl 0 rfl rfl ?_
              refine g_getR (q := 191) ok dX10_law_188 rfl fl_X10_78 sM_0 rfl ?_
              refine g_iload_n (q := 192) ok dX10_law_191 rfl 1 rfl rfl ?_
              refine g_iald (q := 193) ok dX10_law_192 rfl sM_23 ?_
              refine g_iast (q := 194) ok dX10_law_193 rfl sM_28 ?_
              refine g_letw (fun w22 => ?_)
              refine g_iinc (v := v17 + (nI 1)) (q := 197) (L' := [(3, .int (v17 + (nI 1))), (0, .ref 0)]) ok dX10_law_194 rfl 1 rfl rfl (by decide) rfl rfl ?_
              refine g_goto (q := 138) ok dX10_law_197 (by decide) ?_
              refine g_to (L' := [(0, .ref 0), (3, .int (v17 + (nI 1)))]) ?_ [1, 0] rfl
              exact hgo16 _ _
          · refine g_to (L' := [(0, .ref 0), (3, .int (nI 0))]) ?_ [1, 0] rfl
            refine g_loop1 (Lf := fun v24 => [(0, .ref 0), (3, .int v24)]) (fun go23 hgo23 v24 w25 => ?_) N _ _
            unfold xX10_law_b110
            refine g_iload_n (q := 111) ok dX10_law_110 rfl 1 rfl rfl ?_
            refine g_aload_n (q := 112) ok dX10_law_111 rfl 0 rfl rfl ?_
            refine g_getI (q := 115) (N := 0) ok dX10_law_112 rfl fl_X10_242 sM_0 rfl ?_
            refine g_icmp_ge (q := 118) (g := 136) ok dX10_law_115 rfl (by decide) ?_ ?_
            · refine g_to (L' := [(0, .ref 0)]) ?_ [0] rfl
              exact hk14 _
            · refine g_aload_n (q := 119) ok dX10_law_118 rfl 0 rfl rfl ?_
              refine g_getR (q := 122) ok dX10_law_119 rfl fl_X10_81 sM_0 rfl ?_
              refine g_iload_n (q := 123) ok dX10_law_122 rfl 1 rfl rfl ?_
              refine g_aload_n (q := 124) ok dX10_law_123 rfl 0 rfl rfl ?_
              refine g_getR (q := 127) ok dX10_law_124 rfl fl_X10_63 sM_0 rfl ?_
              refine g_iload_n (q := 128) ok dX10_law_127 rfl 1 rfl rfl ?_
              refine g_iald (q := 129) ok dX10_law_128 rfl sM_18 ?_
              refine g_iast (q := 130) ok dX10_law_129 rfl sM_24 ?_
              refine g_letw (fun w26 => ?_)
              refine g_iinc (v := v24 + (nI 1)) (q := 133) (L' := [(3, .int (v24 + (nI 1))), (0, .ref 0)]) ok dX10_law_130 rfl 1 rfl rfl (by decide) rfl rfl ?_
              refine g_goto (q := 110) ok dX10_law_133 (by decide) ?_
              refine g_to (L' := [(0, .ref 0), (3, .int (v24 + (nI 1)))]) ?_ [1, 0] rfl
              exact hgo23 _ _
        · refine g_aload_n (q := 96) ok dX10_law_95 rfl 0 rfl rfl ?_
          refine g_getI (q := 99) (N := 0) ok dX10_law_96 rfl fl_X10_230 sM_0 rfl ?_
          exact g_iret ok dX10_law_99
      · refine g_to (L' := [(0, .ref 0), (2, .int v7)]) ?_ [1, 0] rfl
        refine g_loop1 (Lf := fun v28 => [(0, .ref 0), (2, .int v28)]) (fun go27 hgo27 v28 w29 => ?_) N _ _
        unfold xX10_law_b46
        refine g_iload_n (q := 47) ok dX10_law_46 rfl 1 rfl rfl ?_
        refine g_if_eq (q := 50) (g := 86) ok dX10_law_47 rfl (by decide) ?_ ?_
        · exact hk9 _ _
        · refine g_aload_n (q := 51) ok dX10_law_50 rfl 0 rfl rfl ?_
          refine g_getI (q := 54) (N := 0) ok dX10_law_51 rfl fl_X10_203 sM_0 rfl ?_
          refine g_aload_n (q := 55) ok dX10_law_54 rfl 0 rfl rfl ?_
          refine g_getI (q := 58) (N := 0) ok dX10_law_55 rfl fl_X10_224 sM_0 rfl ?_
          refine g_icmp_ge (q := 61) (g := 86) ok dX10_law_58 rfl (by decide) ?_ ?_
          · exact hk9 _ _
          · refine g_join (P := fun k30 => ∀ (v31 : Int32) (w32 : gT), gJ S2 cl2 rmX10_law 4 gi κ 82 [(0, .ref 0)] [.int v31] w32 (k30 v31 w32)) (fun v31 w32 => ?_) (fun k30 hk30 => ?_)
            · refine g_istore_n (q := 83) (L' := [(2, .int v31), (0, .ref 0)]) ok dX10_law_82 rfl rfl (by decide) rfl rfl ?_
              refine g_goto (q := 46) ok dX10_law_83 (by decide) ?_
              refine g_to (L' := [(0, .ref 0), (2, .int v31)]) ?_ [1, 0] rfl
              exact hgo27 _ _
            · refine g_join (P := fun k33 => ∀ (w34 : gT), gJ S2 cl2 rmX10_law 4 gi κ 81 [(0, .ref 0)] [] w34 (k33 w34)) (fun w34 => ?_) (fun k33 hk33 => ?_)
              · refine g_iconst (v := (nI 0)) (q := 82) ok dX10_law_81 rfl (by decide) ?_
                exact hk30 _ _
              · refine g_aload_n (q := 62) ok dX10_law_61 rfl 0 rfl rfl ?_
                refine g_bipush (v := (nI 59)) (q := 64) ok dX10_law_62 rfl (by decide) ?_
                refine g_callVi (q := 67) (As := [.int (nI 59)]) (st := []) ok tbl_good dX10_law_64 rfl (kX10_takes _ _) cf_X10_218 ⟨rfl, rfl, Nat.le_of_ble_eq_true rfl, Nat.le_of_ble_eq_true rfl⟩ sM_0 rfl rfl rfl (fun _ => Nat.le_of_ble_eq_true rfl) (fun v35 w36 => ?_)
                refine g_if_eq (q := 70) (g := 81) ok dX10_law_67 rfl (by decide) ?_ ?_
                · refine g_to (L' := [(0, .ref 0)]) ?_ [0] rfl
                  exact hk33 _
                · refine g_aload_n (q := 71) ok dX10_law_70 rfl 0 rfl rfl ?_
                  refine g_callVi (q := 74) (As := []) (st := []) ok tbl_good dX10_law_71 rfl (kX10_readsClause N _) cf_X10_306 ⟨rfl, rfl, Nat.le_of_ble_eq_true rfl, Nat.le_of_ble_eq_true rfl⟩ sM_0 rfl rfl rfl (fun _ => Nat.le_of_ble_eq_true rfl) (fun v37 w38 => ?_)
                  refine g_if_eq (q := 77) (g := 81) ok dX10_law_74 rfl (by decide) ?_ ?_
                  · refine g_to (L' := [(0, .ref 0)]) ?_ [0] rfl
                    exact hk33 _
                  · refine g_iconst (v := (nI 1)) (q := 78) ok dX10_law_77 rfl (by decide) ?_
                    refine g_goto (q := 82) ok dX10_law_78 (by decide) ?_
                    refine g_to (L' := [(0, .ref 0)]) ?_ [0] rfl
                    exact hk30 _ _
    · refine g_iconst (v := (-1)) (q := 20) ok dX10_law_19 rfl (by decide) ?_
      exact g_iret ok dX10_law_20
set_option maxRecDepth 20000 in
theorem kX10_feels (N : Nat) (a1 : Int32) (a2 : Int32) (a3 : Int32) (a4 : Int32) (w : gT) : gM S2 cl2 gTs yX10_feels cX10_feels 6 none rmX10_feels gv [.ref 0, .int a1, .int a2, .int a3, .int a4] w (xX10_feels N a1 a2 a3 a4 w) := by
  refine gM_of (own := RX10) [(0, .ref 0), (1, .int a1), (2, .int a2), (3, .int a3), (4, .int a4)] rfl (by decide) (fun _ => rfl) (fun _ => Nat.le_of_ble_eq_true rfl) (fun κ ok => ?_)
  unfold xX10_feels
  refine g_iconst (v := (nI 0)) (q := 1) ok dX10_feels_0 rfl (by decide) ?_
  refine g_istore (q := 3) (L' := [(5, .int (nI 0)), (0, .ref 0), (1, .int a1), (2, .int a2), (3, .int a3), (4, .int a4)]) ok dX10_feels_1 rfl (by decide) rfl rfl ?_
  refine g_join (P := fun k1 => ∀ (w2 : gT), gJ S2 cl2 rmX10_feels 6 gv κ 24 [(0, .ref 0), (1, .int a1), (2, .int a2), (3, .int a3), (4, .int a4)] [] w2 (k1 w2)) (fun w2 => ?_) (fun k1 hk1 => ?_)
  · refine g_join (P := fun k3 => ∀ (v4 : Int32) (v5 : Int32) (w6 : gT), gJ S2 cl2 rmX10_feels 6 gv κ 110 [(0, .ref 0)] [.int v5, .int v4, .ref 30] w6 (k3 v4 v5 w6)) (fun v4 v5 w6 => ?_) (fun k3 hk3 => ?_)
    · refine g_iast (q := 111) ok dX10_feels_110 rfl sM_30 ?_
      refine g_letw (fun w7 => ?_)
      exact g_vret ok dX10_feels_111
    · refine g_aload_n (q := 25) ok dX10_feels_24 rfl 0 rfl rfl ?_
      refine g_getR (q := 28) ok dX10_feels_25 rfl fl_X10_99 sM_0 rfl ?_
      refine g_iconst (v := (nI 0)) (q := 29) ok dX10_feels_28 rfl (by decide) ?_
      refine g_iload_n (q := 30) ok dX10_feels_29 rfl 3 rfl rfl ?_
      refine g_iastC (j := 0) (q := 31) ok dX10_feels_30 rfl sM_30 (by decide) (by decide) ?_
      refine g_letw (fun w8 => ?_)
      refine g_aload_n (q := 32) ok dX10_feels_31 rfl 0 rfl rfl ?_
      refine g_getR (q := 35) ok dX10_feels_32 rfl fl_X10_99 sM_0 rfl ?_
      refine g_iconst (v := (nI 1)) (q := 36) ok dX10_feels_35 rfl (by decide) ?_
      refine g_iload_n (q := 37) ok dX10_feels_36 rfl 2 rfl rfl ?_
      refine g_iastC (j := 1) (q := 38) ok dX10_feels_37 rfl sM_30 (by decide) (by decide) ?_
      refine g_letw (fun w9 => ?_)
      refine g_aload_n (q := 39) ok dX10_feels_38 rfl 0 rfl rfl ?_
      refine g_getR (q := 42) ok dX10_feels_39 rfl fl_X10_99 sM_0 rfl ?_
      refine g_iconst (v := (nI 2)) (q := 43) ok dX10_feels_42 rfl (by decide) ?_
      refine g_aload_n (q := 44) ok dX10_feels_43 rfl 0 rfl rfl ?_
      refine g_getR (q := 47) ok dX10_feels_44 rfl fl_X10_7 sM_0 rfl ?_
      refine g_iload_n (q := 48) ok dX10_feels_47 rfl 3 rfl rfl ?_
      refine g_iald (q := 49) ok dX10_feels_48 rfl sM_1 ?_
      refine g_iastC (j := 2) (q := 50) ok dX10_feels_49 rfl sM_30 (by decide) (by decide) ?_
      refine g_letw (fun w10 => ?_)
      refine g_aload_n (q := 51) ok dX10_feels_50 rfl 0 rfl rfl ?_
      refine g_getR (q := 54) ok dX10_feels_51 rfl fl_X10_99 sM_0 rfl ?_
      refine g_iconst (v := (nI 3)) (q := 55) ok dX10_feels_54 rfl (by decide) ?_
      refine g_iload_n (q := 56) ok dX10_feels_55 rfl 1 rfl rfl ?_
      refine g_iastC (j := 3) (q := 57) ok dX10_feels_56 rfl sM_30 (by decide) (by decide) ?_
      refine g_letw (fun w11 => ?_)
      refine g_aload_n (q := 58) ok dX10_feels_57 rfl 0 rfl rfl ?_
      refine g_getR (q := 61) ok dX10_feels_58 rfl fl_X10_99 sM_0 rfl ?_
      refine g_iconst (v := (nI 4)) (q := 62) ok dX10_feels_61 rfl (by decide) ?_
      refine g_aload_n (q := 63) ok dX10_feels_62 rfl 0 rfl rfl ?_
      refine g_getR (q := 66) ok dX10_feels_63 rfl fl_X10_22 sM_0 rfl ?_
      refine g_iload_n (q := 67) ok dX10_feels_66 rfl 1 rfl rfl ?_
      refine g_iald (q := 68) ok dX10_feels_67 rfl sM_5 ?_
      refine g_iastC (j := 4) (q := 69) ok dX10_feels_68 rfl sM_30 (by decide) (by decide) ?_
      refine g_letw (fun w12 => ?_)
      refine g_aload_n (q := 70) ok dX10_feels_69 rfl 0 rfl rfl ?_
      refine g_getR (q := 73) ok dX10_feels_70 rfl fl_X10_99 sM_0 rfl ?_
      refine g_iconst (v := (nI 5)) (q := 74) ok dX10_feels_73 rfl (by decide) ?_
      refine g_aload_n (q := 75) ok dX10_feels_74 rfl 0 rfl rfl ?_
      refine g_getR (q := 78) ok dX10_feels_75 rfl fl_X10_25 sM_0 rfl ?_
      refine g_iload_n (q := 79) ok dX10_feels_78 rfl 1 rfl rfl ?_
      refine g_iald (q := 80) ok dX10_feels_79 rfl sM_6 ?_
      refine g_iastC (j := 5) (q := 81) ok dX10_feels_80 rfl sM_30 (by decide) (by decide) ?_
      refine g_letw (fun w13 => ?_)
      refine g_aload_n (q := 82) ok dX10_feels_81 rfl 0 rfl rfl ?_
      refine g_getR (q := 85) ok dX10_feels_82 rfl fl_X10_99 sM_0 rfl ?_
      refine g_bipush (v := (nI 6)) (q := 87) ok dX10_feels_85 rfl (by decide) ?_
      refine g_aload_n (q := 88) ok dX10_feels_87 rfl 0 rfl rfl ?_
      refine g_getR (q := 91) ok dX10_feels_88 rfl fl_X10_28 sM_0 rfl ?_
      refine g_iload_n (q := 92) ok dX10_feels_91 rfl 1 rfl rfl ?_
      refine g_iald (q := 93) ok dX10_feels_92 rfl sM_7 ?_
      refine g_iastC (j := 6) (q := 94) ok dX10_feels_93 rfl sM_30 (by decide) (by decide) ?_
      refine g_letw (fun w14 => ?_)
      refine g_aload_n (q := 95) ok dX10_feels_94 rfl 0 rfl rfl ?_
      refine g_getR (q := 98) ok dX10_feels_95 rfl fl_X10_99 sM_0 rfl ?_
      refine g_bipush (v := (nI 7)) (q := 100) ok dX10_feels_98 rfl (by decide) ?_
      refine g_iload (q := 102) ok dX10_feels_100 rfl 4 rfl ?_
      refine g_if_eq (q := 105) (g := 109) ok dX10_feels_102 rfl (by decide) ?_ ?_
      · refine g_iconst (v := (nI 0)) (q := 110) ok dX10_feels_109 rfl (by decide) ?_
        refine g_to (L' := [(0, .ref 0)]) ?_ [0] rfl
        exact hk3 _ _ _
      · refine g_iconst (v := (nI 1)) (q := 106) ok dX10_feels_105 rfl (by decide) ?_
        refine g_goto (q := 110) ok dX10_feels_106 (by decide) ?_
        refine g_to (L' := [(0, .ref 0)]) ?_ [0] rfl
        exact hk3 _ _ _
  · refine g_to (L' := [(0, .ref 0), (1, .int a1), (2, .int a2), (3, .int a3), (4, .int a4), (5, .int (nI 0))]) ?_ [1, 2, 3, 4, 5, 0] rfl
    refine g_loop1 (Lf := fun v16 => [(0, .ref 0), (1, .int a1), (2, .int a2), (3, .int a3), (4, .int a4), (5, .int v16)]) (fun go15 hgo15 v16 w17 => ?_) N _ _
    unfold xX10_feels_b3
    refine g_iload (q := 5) ok dX10_feels_3 rfl 5 rfl ?_
    refine g_bipush (v := (nI 12)) (q := 7) ok dX10_feels_5 rfl (by decide) ?_
    refine g_icmp_ge (q := 10) (g := 24) ok dX10_feels_7 rfl (by decide) ?_ ?_
    · refine g_to (L' := [(0, .ref 0), (1, .int a1), (2, .int a2), (3, .int a3), (4, .int a4)]) ?_ [0, 1, 2, 3, 4] rfl
      exact hk1 _
    · refine g_aload_n (q := 11) ok dX10_feels_10 rfl 0 rfl rfl ?_
      refine g_getR (q := 14) ok dX10_feels_11 rfl fl_X10_99 sM_0 rfl ?_
      refine g_iload (q := 16) ok dX10_feels_14 rfl 5 rfl ?_
      refine g_iconst (v := (nI 0)) (q := 17) ok dX10_feels_16 rfl (by decide) ?_
      refine g_iast (q := 18) ok dX10_feels_17 rfl sM_30 ?_
      refine g_letw (fun w18 => ?_)
      refine g_iinc (v := v16 + (nI 1)) (q := 21) (L' := [(5, .int (v16 + (nI 1))), (0, .ref 0), (1, .int a1), (2, .int a2), (3, .int a3), (4, .int a4)]) ok dX10_feels_18 rfl 5 rfl rfl (by decide) rfl rfl ?_
      refine g_goto (q := 3) ok dX10_feels_21 (by decide) ?_
      refine g_to (L' := [(0, .ref 0), (1, .int a1), (2, .int a2), (3, .int a3), (4, .int a4), (5, .int (v16 + (nI 1)))]) ?_ [1, 2, 3, 4, 5, 0] rfl
      exact hgo15 _ _
set_option maxRecDepth 20000 in
theorem kX10_reckon (a0 : Int32) (a1 : Int32) (a2 : Int32) (w : gT) : gM S2 cl2 gTs yX10_reckon cX10_reckon 3 (some .int) rmX10_reckon gi [.int a0, .int a1, .int a2] w (xX10_reckon a0 a1 a2 w) := by
  refine gM_of (own := RX10) [(0, .int a0), (1, .int a1), (2, .int a2)] rfl (by decide) (fun _ => rfl) (fun _ => Nat.le_of_ble_eq_true rfl) (fun κ ok => ?_)
  unfold xX10_reckon
  refine g_iload_n (q := 1) ok dX10_reckon_0 rfl 0 rfl rfl ?_
  refine g_if (fun h0 => ?_) (fun h0 => ?_)
  · refine g_tsIn (v := (nI 2)) (g := 44) ok dX10_reckon_1 (by decide) (by decide) rfl (by decide) h0 ?_
    refine g_iload_n (q := 45) ok dX10_reckon_44 rfl 1 rfl rfl ?_
    refine g_iload_n (q := 46) ok dX10_reckon_45 rfl 2 rfl rfl ?_
    refine g_iadd (q := 47) ok dX10_reckon_46 rfl ?_
    exact g_iret ok dX10_reckon_47
  · refine g_if (fun h1 => ?_) (fun h1 => ?_)
    · refine g_tsIn (v := (nI 3)) (g := 48) ok dX10_reckon_1 (by decide) (by decide) rfl (by decide) h1 ?_
      refine g_iload_n (q := 49) ok dX10_reckon_48 rfl 1 rfl rfl ?_
      refine g_iload_n (q := 50) ok dX10_reckon_49 rfl 2 rfl rfl ?_
      refine g_isub (q := 51) ok dX10_reckon_50 rfl ?_
      exact g_iret ok dX10_reckon_51
    · refine g_if (fun h2 => ?_) (fun h2 => ?_)
      · refine g_tsIn (v := (nI 4)) (g := 52) ok dX10_reckon_1 (by decide) (by decide) rfl (by decide) h2 ?_
        refine g_iload_n (q := 53) ok dX10_reckon_52 rfl 1 rfl rfl ?_
        refine g_iload_n (q := 54) ok dX10_reckon_53 rfl 2 rfl rfl ?_
        refine g_imul (q := 55) ok dX10_reckon_54 rfl ?_
        exact g_iret ok dX10_reckon_55
      · refine g_if (fun h3 => ?_) (fun h3 => ?_)
        · refine g_tsIn (v := (nI 5)) (g := 56) ok dX10_reckon_1 (by decide) (by decide) rfl (by decide) h3 ?_
          refine g_iload_n (q := 57) ok dX10_reckon_56 rfl 1 rfl rfl ?_
          refine g_iload_n (q := 58) ok dX10_reckon_57 rfl 2 rfl rfl ?_
          refine g_idivV (q := 59) ok dX10_reckon_58 rfl ?_
          exact g_iret ok dX10_reckon_59
        · refine g_if (fun h4 => ?_) (fun h4 => ?_)
          · refine g_tsIn (v := (nI 6)) (g := 60) ok dX10_reckon_1 (by decide) (by decide) rfl (by decide) h4 ?_
            refine g_iload_n (q := 61) ok dX10_reckon_60 rfl 1 rfl rfl ?_
            refine g_iload_n (q := 62) ok dX10_reckon_61 rfl 2 rfl rfl ?_
            refine g_iremV (q := 63) ok dX10_reckon_62 rfl ?_
            exact g_iret ok dX10_reckon_63
          · refine g_if (fun h5 => ?_) (fun h5 => ?_)
            · refine g_tsIn (v := (nI 7)) (g := 64) ok dX10_reckon_1 (by decide) (by decide) rfl (by decide) h5 ?_
              refine g_iload_n (q := 65) ok dX10_reckon_64 rfl 1 rfl rfl ?_
              refine g_iload_n (q := 66) ok dX10_reckon_65 rfl 2 rfl rfl ?_
              refine g_icmp_ge (q := 69) (g := 73) ok dX10_reckon_66 rfl (by decide) ?_ ?_
              · refine g_iconst (v := (nI 0)) (q := 74) ok dX10_reckon_73 rfl (by decide) ?_
                exact g_iret ok dX10_reckon_74
              · refine g_iconst (v := (nI 1)) (q := 70) ok dX10_reckon_69 rfl (by decide) ?_
                refine g_goto (q := 74) ok dX10_reckon_70 (by decide) ?_
                exact g_iret ok dX10_reckon_74
            · refine g_if (fun h6 => ?_) (fun h6 => ?_)
              · refine g_tsIn (v := (nI 8)) (g := 75) ok dX10_reckon_1 (by decide) (by decide) rfl (by decide) h6 ?_
                refine g_iload_n (q := 76) ok dX10_reckon_75 rfl 1 rfl rfl ?_
                refine g_iload_n (q := 77) ok dX10_reckon_76 rfl 2 rfl rfl ?_
                refine g_icmp_le (q := 80) (g := 84) ok dX10_reckon_77 rfl (by decide) ?_ ?_
                · refine g_iconst (v := (nI 0)) (q := 85) ok dX10_reckon_84 rfl (by decide) ?_
                  exact g_iret ok dX10_reckon_85
                · refine g_iconst (v := (nI 1)) (q := 81) ok dX10_reckon_80 rfl (by decide) ?_
                  refine g_goto (q := 85) ok dX10_reckon_81 (by decide) ?_
                  exact g_iret ok dX10_reckon_85
              · refine g_tsOut (g := 86) ok dX10_reckon_1 (by have e0 := lv_neT h0 (k := (nI 2)) (a := 2) (by decide); have e1 := lv_neT h1 (k := (nI 3)) (a := 3) (by decide); have e2 := lv_neT h2 (k := (nI 4)) (a := 4) (by decide); have e3 := lv_neT h3 (k := (nI 5)) (a := 5) (by decide); have e4 := lv_neT h4 (k := (nI 6)) (a := 6) (by decide); have e5 := lv_neT h5 (k := (nI 7)) (a := 7) (by decide); have e6 := lv_neT h6 (k := (nI 8)) (a := 8) (by decide); omega) (by decide) ?_
                refine g_iload_n (q := 87) ok dX10_reckon_86 rfl 1 rfl rfl ?_
                refine g_iload_n (q := 88) ok dX10_reckon_87 rfl 2 rfl rfl ?_
                refine g_icmp_ne (q := 91) (g := 95) ok dX10_reckon_88 rfl (by decide) ?_ ?_
                · refine g_iconst (v := (nI 0)) (q := 96) ok dX10_reckon_95 rfl (by decide) ?_
                  exact g_iret ok dX10_reckon_96
                · refine g_iconst (v := (nI 1)) (q := 92) ok dX10_reckon_91 rfl (by decide) ?_
                  refine g_goto (q := 96) ok dX10_reckon_92 (by decide) ?_
                  exact g_iret ok dX10_reckon_96
set_option maxRecDepth 20000 in
theorem kX10_comesTo (N : Nat) (a1 : Int32) (a2 : Int32) (w : gT) : gM S2 cl2 gTs yX10_comesTo cX10_comesTo 8 (some .int) rmX10_comesTo gi [.ref 0, .int a1, .int a2] w (xX10_comesTo N a1 a2 w) := by
  refine gM_of (own := RX10) [(0, .ref 0), (1, .int a1), (2, .int a2)] rfl (by decide) (fun _ => rfl) (fun _ => Nat.le_of_ble_eq_true rfl) (fun κ ok => ?_)
  unfold xX10_comesTo
  refine g_iconst (v := (nI 0)) (q := 1) ok dX10_comesTo_0 rfl (by decide) ?_
  refine g_istore_n (q := 2) (L' := [(3, .int (nI 0)), (0, .ref 0), (1, .int a1), (2, .int a2)]) ok dX10_comesTo_1 rfl rfl (by decide) rfl rfl ?_
  refine g_sipush (v := (nI 220)) (q := 5) ok dX10_comesTo_2 rfl (by decide) ?_
  refine g_iload_n (q := 6) ok dX10_comesTo_5 rfl 2 rfl rfl ?_
  refine g_sipush (v := (nI 220)) (q := 9) ok dX10_comesTo_6 rfl (by decide) ?_
  refine g_idivC (q := 10) ok dX10_comesTo_9 rfl (by decide) ?_
  refine g_imul (q := 11) ok dX10_comesTo_10 rfl ?_
  refine g_leti (fun v1 => ?_)
  refine g_istore (q := 13) (L' := [(4, .int v1), (3, .int (nI 0)), (0, .ref 0), (1, .int a1), (2, .int a2)]) ok dX10_comesTo_11 rfl (by decide) rfl rfl ?_
  refine g_iload_n (q := 14) ok dX10_comesTo_13 rfl 3 rfl rfl ?_
  refine g_istore (q := 16) (L' := [(5, .int a1), (4, .int v1), (3, .int (nI 0)), (0, .ref 0), (1, .int a1), (2, .int a2)]) ok dX10_comesTo_14 rfl (by decide) rfl rfl ?_
  refine g_to (L' := [(0, .ref 0), (2, .int a2), (4, .int v1), (3, .int (nI 0)), (5, .int a1)]) ?_ [3, 5, 1, 2, 0] rfl
  refine g_loop2 (Lf := fun v3 v4 => [(0, .ref 0), (2, .int a2), (4, .int v1), (3, .int v3), (5, .int v4)]) (fun go2 hgo2 v3 v4 w5 => ?_) N _ _ _
  unfold xX10_comesTo_b16
  refine g_iload (q := 18) ok dX10_comesTo_16 rfl 4 rfl ?_
  refine g_iload_n (q := 19) ok dX10_comesTo_18 rfl 1 rfl rfl ?_
  refine g_icmp_ge (q := 22) (g := 233) ok dX10_comesTo_19 rfl (by decide) ?_ ?_
  · refine g_aload_n (q := 234) ok dX10_comesTo_233 rfl 0 rfl rfl ?_
    refine g_getR (q := 237) ok dX10_comesTo_234 rfl fl_X10_96 sM_0 rfl ?_
    refine g_iconst (v := (nI 0)) (q := 238) ok dX10_comesTo_237 rfl (by decide) ?_
    refine g_ialdC (j := 0) (q := 239) ok dX10_comesTo_238 rfl sM_29 (by decide) (by decide) ?_
    exact g_iret ok dX10_comesTo_239
  · refine g_join (P := fun k6 => ∀ (v7 : Int32) (v8 : Int32) (w9 : gT), gJ S2 cl2 rmX10_comesTo 8 gi κ 230 [(0, .ref 0), (2, .int a2), (4, .int v1), (3, .int v7), (5, .int v8)] [] w9 (k6 v7 v8 w9)) (fun v7 v8 w9 => ?_) (fun k6 hk6 => ?_)
    · refine g_goto (q := 16) ok dX10_comesTo_230 (by decide) ?_
      exact hgo2 _ _ _
    · refine g_join (P := fun k10 => ∀ (v11 : Int32) (v12 : Int32) (v13 : Int32) (w14 : gT), gJ S2 cl2 rmX10_comesTo 8 gi κ 63 [(0, .ref 0), (2, .int a2), (3, .int v3), (4, .int v1), (5, .int v11), (6, .int v12), (7, .int v13)] [] w14 (k10 v11 v12 v13 w14)) (fun v11 v12 v13 w14 => ?_) (fun k10 hk10 => ?_)
      · refine g_join (P := fun k15 => ∀ (v16 : Int32) (v17 : Int32) (w18 : gT), gJ S2 cl2 rmX10_comesTo 8 gi κ 85 [(0, .ref 0), (2, .int a2), (3, .int v3), (4, .int v1), (5, .int v11)] [.int v17, .int v16, .ref 29] w18 (k15 v16 v17 w18)) (fun v16 v17 w18 => ?_) (fun k15 hk15 => ?_)
        · refine g_iast (q := 86) ok dX10_comesTo_85 rfl sM_29 ?_
          refine g_letw (fun w19 => ?_)
          refine g_iload_n (q := 87) ok dX10_comesTo_86 rfl 2 rfl rfl ?_
          refine g_iconst (v := (nI 1)) (q := 88) ok dX10_comesTo_87 rfl (by decide) ?_
          refine g_iadd (q := 89) ok dX10_comesTo_88 rfl ?_
          refine g_leti (fun v20 => ?_)
          refine g_istore_n (q := 90) (L' := [(3, .int v20), (0, .ref 0), (2, .int a2), (4, .int v1), (5, .int v11)]) ok dX10_comesTo_89 rfl rfl (by decide) rfl rfl ?_
          refine g_goto (q := 230) ok dX10_comesTo_90 (by decide) ?_
          refine g_to (L' := [(0, .ref 0), (2, .int a2), (4, .int v1), (3, .int v20), (5, .int v11)]) ?_ [1, 2, 3, 0, 4] rfl
          exact hk6 _ _ _
        · refine g_aload_n (q := 64) ok dX10_comesTo_63 rfl 0 rfl rfl ?_
          refine g_getR (q := 67) ok dX10_comesTo_64 rfl fl_X10_96 sM_0 rfl ?_
          refine g_iload_n (q := 68) ok dX10_comesTo_67 rfl 2 rfl rfl ?_
          refine g_iload (q := 70) ok dX10_comesTo_68 rfl 5 rfl ?_
          refine g_if_ne (q := 73) (g := 78) ok dX10_comesTo_70 rfl (by decide) ?_ ?_
          · refine g_aload_n (q := 79) ok dX10_comesTo_78 rfl 0 rfl rfl ?_
            refine g_getR (q := 82) ok dX10_comesTo_79 rfl fl_X10_99 sM_0 rfl ?_
            refine g_iload (q := 84) ok dX10_comesTo_82 rfl 6 rfl ?_
            refine g_iald (q := 85) ok dX10_comesTo_84 rfl sM_30 ?_
            refine g_to (L' := [(0, .ref 0), (2, .int a2), (3, .int v3), (4, .int v1), (5, .int v11)]) ?_ [0, 1, 2, 3, 4] rfl
            exact hk15 _ _ _
          · refine g_iload (q := 75) ok dX10_comesTo_73 rfl 6 rfl ?_
            refine g_goto (q := 85) ok dX10_comesTo_75 (by decide) ?_
            refine g_to (L' := [(0, .ref 0), (2, .int a2), (3, .int v3), (4, .int v1), (5, .int v11)]) ?_ [0, 1, 2, 3, 4] rfl
            exact hk15 _ _ _
      · refine g_aload_n (q := 23) ok dX10_comesTo_22 rfl 0 rfl rfl ?_
        refine g_getR (q := 26) ok dX10_comesTo_23 rfl fl_X10_81 sM_0 rfl ?_
        refine g_iload (q := 28) ok dX10_comesTo_26 rfl 4 rfl ?_
        refine g_iald (q := 29) ok dX10_comesTo_28 rfl sM_24 ?_
        refine g_ldc (q := 31) ok dX10_comesTo_29 rfl tw_1364 ?_
        refine g_idivC (q := 32) ok dX10_comesTo_31 rfl (by decide) ?_
        refine g_leti (fun v21 => ?_)
        refine g_istore (q := 34) (L' := [(6, .int v21), (0, .ref 0), (2, .int a2), (4, .int v1), (3, .int v3), (5, .int v4)]) ok dX10_comesTo_32 rfl (by decide) rfl rfl ?_
        refine g_aload_n (q := 35) ok dX10_comesTo_34 rfl 1 rfl rfl ?_
        refine g_getR (q := 38) ok dX10_comesTo_35 rfl fl_X10_81 sM_0 rfl ?_
        refine g_iload (q := 40) ok dX10_comesTo_38 rfl 5 rfl ?_
        refine g_iald (q := 41) ok dX10_comesTo_40 rfl sM_24 ?_
        refine g_ldc (q := 43) ok dX10_comesTo_41 rfl tw_1364 ?_
        refine g_iremC (q := 44) ok dX10_comesTo_43 rfl (by decide) ?_
        refine g_leti (fun v22 => ?_)
        refine g_istore (q := 46) (L' := [(7, .int v22), (6, .int v21), (0, .ref 0), (2, .int a2), (4, .int v1), (3, .int v3), (5, .int v4)]) ok dX10_comesTo_44 rfl (by decide) rfl rfl ?_
        refine g_iload (q := 48) ok dX10_comesTo_46 rfl 6 rfl ?_
        refine g_iconst (v := (nI 1)) (q := 49) ok dX10_comesTo_48 rfl (by decide) ?_
        refine g_iadd (q := 50) ok dX10_comesTo_49 rfl ?_
        refine g_leti (fun v23 => ?_)
        refine g_istore (q := 52) (L' := [(5, .int v23), (7, .int v22), (6, .int v21), (0, .ref 0), (2, .int a2), (4, .int v1), (3, .int v3)]) ok dX10_comesTo_50 rfl (by decide) rfl rfl ?_
        refine g_iload (q := 54) ok dX10_comesTo_52 rfl 2 rfl ?_
        refine g_if_eq (q := 57) (g := 63) ok dX10_comesTo_54 rfl (by decide) ?_ ?_
        · refine g_to (L' := [(0, .ref 0), (2, .int a2), (3, .int v3), (4, .int v1), (5, .int v23), (6, .int v21), (7, .int v22)]) ?_ [3, 4, 6, 5, 0, 2, 1] rfl
          exact hk10 _ _ _ _
        · refine g_iload (q := 59) ok dX10_comesTo_57 rfl 2 rfl ?_
          refine g_iconst (v := (nI 1)) (q := 60) ok dX10_comesTo_59 rfl (by decide) ?_
          refine g_icmp_ne (q := 63) (g := 93) ok dX10_comesTo_60 rfl (by decide) ?_ ?_
          · refine g_iload (q := 95) ok dX10_comesTo_93 rfl 2 rfl ?_
            refine g_bipush (v := (nI 10)) (q := 97) ok dX10_comesTo_95 rfl (by decide) ?_
            refine g_icmp_ne (q := 100) (g := 121) ok dX10_comesTo_97 rfl (by decide) ?_ ?_
            · refine g_join (P := fun k24 => ∀ (w25 : gT), gJ S2 cl2 rmX10_comesTo 8 gi κ 135 [(0, .ref 0), (2, .int a2), (3, .int v3), (4, .int v1), (5, .int v23), (6, .int v21), (7, .int v22)] [] w25 (k24 w25)) (fun w25 => ?_) (fun k24 hk24 => ?_)
              · refine g_join (P := fun k26 => ∀ (v27 : Int32) (v28 : Int32) (w29 : gT), gJ S2 cl2 rmX10_comesTo 8 gi κ 155 [(0, .ref 0), (2, .int a2), (3, .int v3), (4, .int v1), (5, .int v23), (7, .int v22)] [.int v28, .int v27] w29 (k26 v27 v28 w29)) (fun v27 v28 w29 => ?_) (fun k26 hk26 => ?_)
                · refine g_icmp_ne (q := 158) (g := 168) ok dX10_comesTo_155 rfl (by decide) ?_ ?_
                  · refine g_iload_n (q := 169) ok dX10_comesTo_168 rfl 2 rfl rfl ?_
                    refine g_iconst (v := (nI 1)) (q := 170) ok dX10_comesTo_169 rfl (by decide) ?_
                    refine g_isub (q := 171) ok dX10_comesTo_170 rfl ?_
                    refine g_leti (fun v30 => ?_)
                    refine g_istore_n (q := 172) (L' := [(3, .int v30), (0, .ref 0), (2, .int a2), (4, .int v1), (5, .int v23), (7, .int v22)]) ok dX10_comesTo_171 rfl rfl (by decide) rfl rfl ?_
                    refine g_goto (q := 230) ok dX10_comesTo_172 (by decide) ?_
                    refine g_to (L' := [(0, .ref 0), (2, .int a2), (4, .int v1), (3, .int v30), (5, .int v23)]) ?_ [1, 2, 3, 0, 4] rfl
                    exact hk6 _ _ _
                  · refine g_iload (q := 160) ok dX10_comesTo_158 rfl 3 rfl ?_
                    refine g_iload (q := 162) ok dX10_comesTo_160 rfl 5 rfl ?_
                    refine g_iadd (q := 163) ok dX10_comesTo_162 rfl ?_
                    refine g_leti (fun v31 => ?_)
                    refine g_istore (q := 165) (L' := [(5, .int v31), (0, .ref 0), (2, .int a2), (3, .int v3), (4, .int v1), (7, .int v22)]) ok dX10_comesTo_163 rfl (by decide) rfl rfl ?_
                    refine g_goto (q := 230) ok dX10_comesTo_165 (by decide) ?_
                    refine g_to (L' := [(0, .ref 0), (2, .int a2), (4, .int v1), (3, .int v3), (5, .int v31)]) ?_ [1, 2, 4, 3, 0] rfl
                    exact hk6 _ _ _
                · refine g_aload_n (q := 136) ok dX10_comesTo_135 rfl 0 rfl rfl ?_
                  refine g_getR (q := 139) ok dX10_comesTo_136 rfl fl_X10_96 sM_0 rfl ?_
                  refine g_iload_n (q := 140) ok dX10_comesTo_139 rfl 2 rfl rfl ?_
                  refine g_iconst (v := (nI 1)) (q := 141) ok dX10_comesTo_140 rfl (by decide) ?_
                  refine g_isub (q := 142) ok dX10_comesTo_141 rfl ?_
                  refine g_iald (q := 143) ok dX10_comesTo_142 rfl sM_29 ?_
                  refine g_iload (q := 145) ok dX10_comesTo_143 rfl 5 rfl ?_
                  refine g_bipush (v := (nI 12)) (q := 147) ok dX10_comesTo_145 rfl (by decide) ?_
                  refine g_icmp_ne (q := 150) (g := 154) ok dX10_comesTo_147 rfl (by decide) ?_ ?_
                  · refine g_iconst (v := (nI 0)) (q := 155) ok dX10_comesTo_154 rfl (by decide) ?_
                    refine g_to (L' := [(0, .ref 0), (2, .int a2), (3, .int v3), (4, .int v1), (5, .int v23), (7, .int v22)]) ?_ [0, 1, 2, 3, 4, 6] rfl
                    exact hk26 _ _ _
                  · refine g_iconst (v := (nI 1)) (q := 151) ok dX10_comesTo_150 rfl (by decide) ?_
                    refine g_goto (q := 155) ok dX10_comesTo_151 (by decide) ?_
                    refine g_to (L' := [(0, .ref 0), (2, .int a2), (3, .int v3), (4, .int v1), (5, .int v23), (7, .int v22)]) ?_ [0, 1, 2, 3, 4, 6] rfl
                    exact hk26 _ _ _
              · refine g_iload (q := 123) ok dX10_comesTo_121 rfl 2 rfl ?_
                refine g_bipush (v := (nI 11)) (q := 125) ok dX10_comesTo_123 rfl (by decide) ?_
                refine g_icmp_eq (q := 128) (g := 135) ok dX10_comesTo_125 rfl (by decide) ?_ ?_
                · refine g_to (L' := [(0, .ref 0), (2, .int a2), (3, .int v3), (4, .int v1), (5, .int v23), (6, .int v21), (7, .int v22)]) ?_ [3, 4, 6, 5, 0, 2, 1] rfl
                  exact hk24 _
                · refine g_iload (q := 130) ok dX10_comesTo_128 rfl 2 rfl ?_
                  refine g_bipush (v := (nI 12)) (q := 132) ok dX10_comesTo_130 rfl (by decide) ?_
                  refine g_icmp_ne (q := 135) (g := 175) ok dX10_comesTo_132 rfl (by decide) ?_ ?_
                  · refine g_join (P := fun k32 => ∀ (v33 : Int32) (w34 : gT), gJ S2 cl2 rmX10_comesTo 8 gi κ 203 [(0, .ref 0), (2, .int a2), (4, .int v1), (5, .int v23), (6, .int v21), (3, .int v33)] [] w34 (k32 v33 w34)) (fun v33 w34 => ?_) (fun k32 hk32 => ?_)
                    · refine g_aload_n (q := 204) ok dX10_comesTo_203 rfl 0 rfl rfl ?_
                      refine g_getR (q := 207) ok dX10_comesTo_204 rfl fl_X10_96 sM_0 rfl ?_
                      refine g_iload_n (q := 208) ok dX10_comesTo_207 rfl 5 rfl rfl ?_
                      refine g_iconst (v := (nI 1)) (q := 209) ok dX10_comesTo_208 rfl (by decide) ?_
                      refine g_isub (q := 210) ok dX10_comesTo_209 rfl ?_
                      refine g_iload (q := 212) ok dX10_comesTo_210 rfl 4 rfl ?_
                      refine g_aload_n (q := 213) ok dX10_comesTo_212 rfl 0 rfl rfl ?_
                      refine g_getR (q := 216) ok dX10_comesTo_213 rfl fl_X10_96 sM_0 rfl ?_
                      refine g_iload_n (q := 217) ok dX10_comesTo_216 rfl 5 rfl rfl ?_
                      refine g_iconst (v := (nI 1)) (q := 218) ok dX10_comesTo_217 rfl (by decide) ?_
                      refine g_isub (q := 219) ok dX10_comesTo_218 rfl ?_
                      refine g_iald (q := 220) ok dX10_comesTo_219 rfl sM_29 ?_
                      refine g_aload_n (q := 221) ok dX10_comesTo_220 rfl 0 rfl rfl ?_
                      refine g_getR (q := 224) ok dX10_comesTo_221 rfl fl_X10_96 sM_0 rfl ?_
                      refine g_iload_n (q := 225) ok dX10_comesTo_224 rfl 5 rfl rfl ?_
                      refine g_iald (q := 226) ok dX10_comesTo_225 rfl sM_29 ?_
                      refine g_callSi (q := 229) (As := [.int v21, .int (w34.1 29 (v33 - (nI 1)).toNatClampNeg), .int (w34.1 29 v33.toNatClampNeg)]) (st := [.int (v33 - (nI 1)), .ref 29]) ok tbl_good dX10_comesTo_226 rfl (kX10_reckon _ _ _ _) cf_X10_312 ⟨rfl, rfl, Nat.le_of_ble_eq_true rfl, Nat.le_of_ble_eq_true rfl⟩ rfl rfl (fun _ => Nat.le_of_ble_eq_true rfl) (fun v35 w36 => ?_)
                      refine g_iast (q := 230) ok dX10_comesTo_229 rfl sM_29 ?_
                      refine g_letw (fun w37 => ?_)
                      refine g_to (L' := [(0, .ref 0), (2, .int a2), (4, .int v1), (3, .int v33), (5, .int v23)]) ?_ [0, 1, 2, 5, 3] rfl
                      exact hk6 _ _ _
                    · refine g_join (P := fun k38 => ∀ (v39 : Int32) (w40 : gT), gJ S2 cl2 rmX10_comesTo 8 gi κ 192 [(0, .ref 0), (2, .int a2), (4, .int v1), (5, .int v23), (6, .int v21), (3, .int v39)] [] w40 (k38 v39 w40)) (fun v39 w40 => ?_) (fun k38 hk38 => ?_)
                      · refine g_aload_n (q := 193) ok dX10_comesTo_192 rfl 0 rfl rfl ?_
                        refine g_getR (q := 196) ok dX10_comesTo_193 rfl fl_X10_96 sM_0 rfl ?_
                        refine g_iload_n (q := 197) ok dX10_comesTo_196 rfl 5 rfl rfl ?_
                        refine g_iald (q := 198) ok dX10_comesTo_197 rfl sM_29 ?_
                        refine g_if_ne (q := 201) (g := 203) ok dX10_comesTo_198 rfl (by decide) ?_ ?_
                        · exact hk32 _ _
                        · refine g_iconst (v := (nI 0)) (q := 202) ok dX10_comesTo_201 rfl (by decide) ?_
                          exact g_iret ok dX10_comesTo_202
                      · refine g_iload_n (q := 176) ok dX10_comesTo_175 rfl 6 rfl rfl ?_
                        refine g_iconst (v := (nI 1)) (q := 177) ok dX10_comesTo_176 rfl (by decide) ?_
                        refine g_isub (q := 178) ok dX10_comesTo_177 rfl ?_
                        refine g_leti (fun v41 => ?_)
                        refine g_istore_n (q := 179) (L' := [(3, .int v41), (5, .int v23), (7, .int v22), (6, .int v21), (0, .ref 0), (2, .int a2), (4, .int v1)]) ok dX10_comesTo_178 rfl rfl (by decide) rfl rfl ?_
                        refine g_iload (q := 181) ok dX10_comesTo_179 rfl 3 rfl ?_
                        refine g_iconst (v := (nI 5)) (q := 182) ok dX10_comesTo_181 rfl (by decide) ?_
                        refine g_icmp_eq (q := 185) (g := 192) ok dX10_comesTo_182 rfl (by decide) ?_ ?_
                        · refine g_to (L' := [(0, .ref 0), (2, .int a2), (4, .int v1), (5, .int v23), (6, .int v21), (3, .int v41)]) ?_ [4, 5, 6, 1, 3, 0] rfl
                          exact hk38 _ _
                        · refine g_iload (q := 187) ok dX10_comesTo_185 rfl 3 rfl ?_
                          refine g_bipush (v := (nI 6)) (q := 189) ok dX10_comesTo_187 rfl (by decide) ?_
                          refine g_icmp_ne (q := 192) (g := 203) ok dX10_comesTo_189 rfl (by decide) ?_ ?_
                          · refine g_to (L' := [(0, .ref 0), (2, .int a2), (4, .int v1), (5, .int v23), (6, .int v21), (3, .int v41)]) ?_ [4, 5, 6, 1, 3, 0] rfl
                            exact hk32 _ _
                          · refine g_to (L' := [(0, .ref 0), (2, .int a2), (4, .int v1), (5, .int v23), (6, .int v21), (3, .int v41)]) ?_ [4, 5, 6, 1, 3, 0] rfl
                            exact hk38 _ _
                  · refine g_to (L' := [(0, .ref 0), (2, .int a2), (3, .int v3), (4, .int v1), (5, .int v23), (6, .int v21), (7, .int v22)]) ?_ [3, 4, 6, 5, 0, 2, 1] rfl
                    exact hk24 _
            · refine g_aload_n (q := 101) ok dX10_comesTo_100 rfl 3 rfl rfl ?_
              refine g_getR (q := 104) ok dX10_comesTo_101 rfl fl_X10_96 sM_0 rfl ?_
              refine g_iload_n (q := 105) ok dX10_comesTo_104 rfl 6 rfl rfl ?_
              refine g_iconst (v := (nI 1)) (q := 106) ok dX10_comesTo_105 rfl (by decide) ?_
              refine g_isub (q := 107) ok dX10_comesTo_106 rfl ?_
              refine g_iconst (v := (nI 1)) (q := 108) ok dX10_comesTo_107 rfl (by decide) ?_
              refine g_aload_n (q := 109) ok dX10_comesTo_108 rfl 3 rfl rfl ?_
              refine g_getR (q := 112) ok dX10_comesTo_109 rfl fl_X10_96 sM_0 rfl ?_
              refine g_iload_n (q := 113) ok dX10_comesTo_112 rfl 6 rfl rfl ?_
              refine g_iconst (v := (nI 1)) (q := 114) ok dX10_comesTo_113 rfl (by decide) ?_
              refine g_isub (q := 115) ok dX10_comesTo_114 rfl ?_
              refine g_iald (q := 116) ok dX10_comesTo_115 rfl sM_29 ?_
              refine g_isub (q := 117) ok dX10_comesTo_116 rfl ?_
              refine g_iast (q := 118) ok dX10_comesTo_117 rfl sM_29 ?_
              refine g_letw (fun w42 => ?_)
              refine g_goto (q := 230) ok dX10_comesTo_118 (by decide) ?_
              refine g_to (L' := [(0, .ref 0), (2, .int a2), (4, .int v1), (3, .int v3), (5, .int v23)]) ?_ [3, 4, 5, 6, 0] rfl
              exact hk6 _ _ _
          · refine g_to (L' := [(0, .ref 0), (2, .int a2), (3, .int v3), (4, .int v1), (5, .int v23), (6, .int v21), (7, .int v22)]) ?_ [3, 4, 6, 5, 0, 2, 1] rfl
            exact hk10 _ _ _ _
set_option maxRecDepth 20000 in
theorem kX10_anyFright (N : Nat) (w : gT) : gM S2 cl2 gTs yX10_anyFright cX10_anyFright 2 (some .boolean) rmX10_anyFright gi [.ref 0] w (xX10_anyFright N w) := by
  refine gM_of (own := RX10) [(0, .ref 0)] rfl (by decide) (fun _ => rfl) (fun _ => Nat.le_of_ble_eq_true rfl) (fun κ ok => ?_)
  unfold xX10_anyFright
  refine g_iconst (v := (nI 0)) (q := 1) ok dX10_anyFright_0 rfl (by decide) ?_
  refine g_istore_n (q := 2) (L' := [(1, .int (nI 0)), (0, .ref 0)]) ok dX10_anyFright_1 rfl rfl (by decide) rfl rfl ?_
  refine g_to (L' := [(0, .ref 0), (1, .int (nI 0))]) ?_ [1, 0] rfl
  refine g_loop1 (Lf := fun v2 => [(0, .ref 0), (1, .int v2)]) (fun go1 hgo1 v2 w3 => ?_) N _ _
  unfold xX10_anyFright_b2
  refine g_iload_n (q := 3) ok dX10_anyFright_2 rfl 1 rfl rfl ?_
  refine g_aload_n (q := 4) ok dX10_anyFright_3 rfl 0 rfl rfl ?_
  refine g_getI (q := 7) (N := 0) ok dX10_anyFright_4 rfl fl_X10_309 sM_0 rfl ?_
  refine g_icmp_ge (q := 10) (g := 49) ok dX10_anyFright_7 rfl (by decide) ?_ ?_
  · refine g_iconst (v := (nI 0)) (q := 50) ok dX10_anyFright_49 rfl (by decide) ?_
    exact g_zret ok dX10_anyFright_50 rfl
  · refine g_join (P := fun k4 => ∀ (w5 : gT), gJ S2 cl2 rmX10_anyFright 2 gi κ 43 [(0, .ref 0), (1, .int v2)] [] w5 (k4 w5)) (fun w5 => ?_) (fun k4 hk4 => ?_)
    · refine g_iinc (v := v2 + (nI 1)) (q := 46) (L' := [(1, .int (v2 + (nI 1))), (0, .ref 0)]) ok dX10_anyFright_43 rfl 1 rfl rfl (by decide) rfl rfl ?_
      refine g_goto (q := 2) ok dX10_anyFright_46 (by decide) ?_
      refine g_to (L' := [(0, .ref 0), (1, .int (v2 + (nI 1)))]) ?_ [1, 0] rfl
      exact hgo1 _ _
    · refine g_aload_n (q := 11) ok dX10_anyFright_10 rfl 0 rfl rfl ?_
      refine g_getR (q := 14) ok dX10_anyFright_11 rfl fl_X10_84 sM_0 rfl ?_
      refine g_iload_n (q := 15) ok dX10_anyFright_14 rfl 1 rfl rfl ?_
      refine g_iald (q := 16) ok dX10_anyFright_15 rfl sM_25 ?_
      refine g_bipush (v := (nI 107)) (q := 18) ok dX10_anyFright_16 rfl (by decide) ?_
      refine g_icmp_ne (q := 21) (g := 43) ok dX10_anyFright_18 rfl (by decide) ?_ ?_
      · exact hk4 _
      · refine g_aload_n (q := 22) ok dX10_anyFright_21 rfl 0 rfl rfl ?_
        refine g_aload_n (q := 23) ok dX10_anyFright_22 rfl 0 rfl rfl ?_
        refine g_getR (q := 26) ok dX10_anyFright_23 rfl fl_X10_90 sM_0 rfl ?_
        refine g_iload_n (q := 27) ok dX10_anyFright_26 rfl 1 rfl rfl ?_
        refine g_iald (q := 28) ok dX10_anyFright_27 rfl sM_27 ?_
        refine g_aload_n (q := 29) ok dX10_anyFright_28 rfl 0 rfl rfl ?_
        refine g_getR (q := 32) ok dX10_anyFright_29 rfl fl_X10_93 sM_0 rfl ?_
        refine g_iload_n (q := 33) ok dX10_anyFright_32 rfl 1 rfl rfl ?_
        refine g_iald (q := 34) ok dX10_anyFright_33 rfl sM_28 ?_
        refine g_callVi (q := 37) (As := [.int (w3.1 27 v2.toNatClampNeg), .int (w3.1 28 v2.toNatClampNeg)]) (st := []) ok tbl_good dX10_anyFright_34 rfl (kX10_comesTo N _ _ _) cf_X10_316 ⟨rfl, rfl, Nat.le_of_ble_eq_true rfl, Nat.le_of_ble_eq_true rfl⟩ sM_0 rfl rfl rfl (fun _ => Nat.le_of_ble_eq_true rfl) (fun v6 w7 => ?_)
        refine g_iconst (v := (nI 1)) (q := 38) ok dX10_anyFright_37 rfl (by decide) ?_
        refine g_icmp_ne (q := 41) (g := 43) ok dX10_anyFright_38 rfl (by decide) ?_ ?_
        · exact hk4 _
        · refine g_iconst (v := (nI 1)) (q := 42) ok dX10_anyFright_41 rfl (by decide) ?_
          exact g_zret ok dX10_anyFright_42 rfl
set_option maxRecDepth 20000 in
theorem kX10_byLaw (N : Nat) (a1 : Int32) (a2 : Int32) (w : gT) : gM S2 cl2 gTs yX10_byLaw cX10_byLaw 5 (some .int) rmX10_byLaw gi [.ref 0, .int a1, .int a2] w (xX10_byLaw N a1 a2 w) := by
  refine gM_of (own := RX10) [(0, .ref 0), (1, .int a1), (2, .int a2)] rfl (by decide) (fun _ => rfl) (fun _ => Nat.le_of_ble_eq_true rfl) (fun κ ok => ?_)
  unfold xX10_byLaw
  refine g_iconst (v := (nI 0)) (q := 1) ok dX10_byLaw_0 rfl (by decide) ?_
  refine g_istore_n (q := 2) (L' := [(3, .int (nI 0)), (0, .ref 0), (1, .int a1), (2, .int a2)]) ok dX10_byLaw_1 rfl rfl (by decide) rfl rfl ?_
  refine g_join (P := fun k1 => ∀ (v2 : Int32) (w3 : gT), gJ S2 cl2 rmX10_byLaw 5 gi κ 43 [(0, .ref 0), (2, .int a2), (3, .int v2)] [] w3 (k1 v2 w3)) (fun v2 w3 => ?_) (fun k1 hk1 => ?_)
  · refine g_aload_n (q := 44) ok dX10_byLaw_43 rfl 0 rfl rfl ?_
    refine g_aload_n (q := 45) ok dX10_byLaw_44 rfl 0 rfl rfl ?_
    refine g_getR (q := 48) ok dX10_byLaw_45 rfl fl_X10_87 sM_0 rfl ?_
    refine g_iload_n (q := 49) ok dX10_byLaw_48 rfl 2 rfl rfl ?_
    refine g_iald (q := 50) ok dX10_byLaw_49 rfl sM_26 ?_
    refine g_aload_n (q := 51) ok dX10_byLaw_50 rfl 0 rfl rfl ?_
    refine g_getR (q := 54) ok dX10_byLaw_51 rfl fl_X10_90 sM_0 rfl ?_
    refine g_iload_n (q := 55) ok dX10_byLaw_54 rfl 2 rfl rfl ?_
    refine g_iald (q := 56) ok dX10_byLaw_55 rfl sM_27 ?_
    refine g_callVi (q := 59) (As := [.int (w3.1 26 v2.toNatClampNeg), .int (w3.1 27 v2.toNatClampNeg)]) (st := []) ok tbl_good dX10_byLaw_56 rfl (kX10_comesTo N _ _ _) cf_X10_316 ⟨rfl, rfl, Nat.le_of_ble_eq_true rfl, Nat.le_of_ble_eq_true rfl⟩ sM_0 rfl rfl rfl (fun _ => Nat.le_of_ble_eq_true rfl) (fun v4 w5 => ?_)
    refine g_istore (q := 61) (L' := [(4, .int v4), (0, .ref 0), (2, .int a2), (3, .int v2)]) ok dX10_byLaw_59 rfl (by decide) rfl rfl ?_
    refine g_iload (q := 63) ok dX10_byLaw_61 rfl 0 rfl ?_
    refine g_if_ge (q := 66) (g := 70) ok dX10_byLaw_63 rfl (by decide) ?_ ?_
    · refine g_iload (q := 72) ok dX10_byLaw_70 rfl 0 rfl ?_
      refine g_iload_n (q := 73) ok dX10_byLaw_72 rfl 2 rfl rfl ?_
      refine g_icmp_le (q := 76) (g := 80) ok dX10_byLaw_73 rfl (by decide) ?_ ?_
      · refine g_iload (q := 82) ok dX10_byLaw_80 rfl 0 rfl ?_
        exact g_iret ok dX10_byLaw_82
      · refine g_iload_n (q := 77) ok dX10_byLaw_76 rfl 2 rfl rfl ?_
        refine g_goto (q := 82) ok dX10_byLaw_77 (by decide) ?_
        exact g_iret ok dX10_byLaw_82
    · refine g_iconst (v := (nI 0)) (q := 67) ok dX10_byLaw_66 rfl (by decide) ?_
      refine g_goto (q := 82) ok dX10_byLaw_67 (by decide) ?_
      exact g_iret ok dX10_byLaw_82
  · refine g_to (L' := [(0, .ref 0), (1, .int a1), (2, .int a2), (3, .int (nI 0))]) ?_ [1, 2, 3, 0] rfl
    refine g_loop1 (Lf := fun v7 => [(0, .ref 0), (1, .int a1), (2, .int a2), (3, .int v7)]) (fun go6 hgo6 v7 w8 => ?_) N _ _
    unfold xX10_byLaw_b2
    refine g_iload_n (q := 3) ok dX10_byLaw_2 rfl 3 rfl rfl ?_
    refine g_aload_n (q := 4) ok dX10_byLaw_3 rfl 0 rfl rfl ?_
    refine g_getI (q := 7) (N := 0) ok dX10_byLaw_4 rfl fl_X10_309 sM_0 rfl ?_
    refine g_icmp_ge (q := 10) (g := 89) ok dX10_byLaw_7 rfl (by decide) ?_ ?_
    · refine g_iconst (v := (nI 0)) (q := 90) ok dX10_byLaw_89 rfl (by decide) ?_
      exact g_iret ok dX10_byLaw_90
    · refine g_join (P := fun k9 => ∀ (w10 : gT), gJ S2 cl2 rmX10_byLaw 5 gi κ 83 [(0, .ref 0), (1, .int a1), (2, .int a2), (3, .int v7)] [] w10 (k9 w10)) (fun w10 => ?_) (fun k9 hk9 => ?_)
      · refine g_iinc (v := v7 + (nI 1)) (q := 86) (L' := [(3, .int (v7 + (nI 1))), (0, .ref 0), (1, .int a1), (2, .int a2)]) ok dX10_byLaw_83 rfl 3 rfl rfl (by decide) rfl rfl ?_
        refine g_goto (q := 2) ok dX10_byLaw_86 (by decide) ?_
        refine g_to (L' := [(0, .ref 0), (1, .int a1), (2, .int a2), (3, .int (v7 + (nI 1)))]) ?_ [1, 2, 3, 0] rfl
        exact hgo6 _ _
      · refine g_aload_n (q := 11) ok dX10_byLaw_10 rfl 0 rfl rfl ?_
        refine g_getR (q := 14) ok dX10_byLaw_11 rfl fl_X10_84 sM_0 rfl ?_
        refine g_iload_n (q := 15) ok dX10_byLaw_14 rfl 3 rfl rfl ?_
        refine g_iald (q := 16) ok dX10_byLaw_15 rfl sM_25 ?_
        refine g_iload_n (q := 17) ok dX10_byLaw_16 rfl 1 rfl rfl ?_
        refine g_icmp_ne (q := 20) (g := 83) ok dX10_byLaw_17 rfl (by decide) ?_ ?_
        · exact hk9 _
        · refine g_aload_n (q := 21) ok dX10_byLaw_20 rfl 0 rfl rfl ?_
          refine g_aload_n (q := 22) ok dX10_byLaw_21 rfl 0 rfl rfl ?_
          refine g_getR (q := 25) ok dX10_byLaw_22 rfl fl_X10_90 sM_0 rfl ?_
          refine g_iload_n (q := 26) ok dX10_byLaw_25 rfl 3 rfl rfl ?_
          refine g_iald (q := 27) ok dX10_byLaw_26 rfl sM_27 ?_
          refine g_aload_n (q := 28) ok dX10_byLaw_27 rfl 0 rfl rfl ?_
          refine g_getR (q := 31) ok dX10_byLaw_28 rfl fl_X10_93 sM_0 rfl ?_
          refine g_iload_n (q := 32) ok dX10_byLaw_31 rfl 3 rfl rfl ?_
          refine g_iald (q := 33) ok dX10_byLaw_32 rfl sM_28 ?_
          refine g_callVi (q := 36) (As := [.int (w8.1 27 v7.toNatClampNeg), .int (w8.1 28 v7.toNatClampNeg)]) (st := []) ok tbl_good dX10_byLaw_33 rfl (kX10_comesTo N _ _ _) cf_X10_316 ⟨rfl, rfl, Nat.le_of_ble_eq_true rfl, Nat.le_of_ble_eq_true rfl⟩ sM_0 rfl rfl rfl (fun _ => Nat.le_of_ble_eq_true rfl) (fun v11 w12 => ?_)
          refine g_iconst (v := (nI 1)) (q := 37) ok dX10_byLaw_36 rfl (by decide) ?_
          refine g_icmp_eq (q := 40) (g := 43) ok dX10_byLaw_37 rfl (by decide) ?_ ?_
          · refine g_to (L' := [(0, .ref 0), (2, .int a2), (3, .int v7)]) ?_ [0, 2, 3] rfl
            exact hk1 _ _
          · refine g_goto (q := 83) ok dX10_byLaw_40 (by decide) ?_
            exact hk9 _
set_option maxRecDepth 20000 in
theorem kX10_sleepIn (N : Nat) (a1 : Int32) (a2 : Int32) (w : gT) : gM S2 cl2 gTs yX10_sleepIn cX10_sleepIn 5 (some .int) rmX10_sleepIn gi [.ref 0, .int a1, .int a2] w (xX10_sleepIn N a1 a2 w) := by
  refine gM_of (own := RX10) [(0, .ref 0), (1, .int a1), (2, .int a2)] rfl (by decide) (fun _ => rfl) (fun _ => Nat.le_of_ble_eq_true rfl) (fun κ ok => ?_)
  unfold xX10_sleepIn
  refine g_iconst (v := (nI 0)) (q := 1) ok dX10_sleepIn_0 rfl (by decide) ?_
  refine g_istore_n (q := 2) (L' := [(3, .int (nI 0)), (0, .ref 0), (1, .int a1), (2, .int a2)]) ok dX10_sleepIn_1 rfl rfl (by decide) rfl rfl ?_
  refine g_iconst (v := (nI 0)) (q := 3) ok dX10_sleepIn_2 rfl (by decide) ?_
  refine g_istore (q := 5) (L' := [(4, .int (nI 0)), (3, .int (nI 0)), (0, .ref 0), (1, .int a1), (2, .int a2)]) ok dX10_sleepIn_3 rfl (by decide) rfl rfl ?_
  refine g_to (L' := [(0, .ref 0), (1, .int a1), (2, .int a2), (3, .int (nI 0)), (4, .int (nI 0))]) ?_ [2, 3, 4, 1, 0] rfl
  refine g_loop2 (Lf := fun v2 v3 => [(0, .ref 0), (1, .int a1), (2, .int a2), (3, .int v2), (4, .int v3)]) (fun go1 hgo1 v2 v3 w4 => ?_) N _ _ _
  unfold xX10_sleepIn_b5
  refine g_iload (q := 7) ok dX10_sleepIn_5 rfl 4 rfl ?_
  refine g_bipush (v := (nI 10)) (q := 9) ok dX10_sleepIn_7 rfl (by decide) ?_
  refine g_icmp_ge (q := 12) (g := 51) ok dX10_sleepIn_9 rfl (by decide) ?_ ?_
  · refine g_iload_n (q := 52) ok dX10_sleepIn_51 rfl 3 rfl rfl ?_
    exact g_iret ok dX10_sleepIn_52
  · refine g_join (P := fun k5 => ∀ (v6 : Int32) (v7 : Int32) (w8 : gT), gJ S2 cl2 rmX10_sleepIn 5 gi κ 43 [(0, .ref 0), (1, .int a1), (2, .int a2), (4, .int v3)] [.int v7, .int v6] w8 (k5 v6 v7 w8)) (fun v6 v7 w8 => ?_) (fun k5 hk5 => ?_)
    · refine g_iadd (q := 44) ok dX10_sleepIn_43 rfl ?_
      refine g_leti (fun v9 => ?_)
      refine g_istore_n (q := 45) (L' := [(3, .int v9), (0, .ref 0), (1, .int a1), (2, .int a2), (4, .int v3)]) ok dX10_sleepIn_44 rfl rfl (by decide) rfl rfl ?_
      refine g_iinc (v := v3 + (nI 1)) (q := 48) (L' := [(4, .int (v3 + (nI 1))), (3, .int v9), (0, .ref 0), (1, .int a1), (2, .int a2)]) ok dX10_sleepIn_45 rfl 4 rfl rfl (by decide) rfl rfl ?_
      refine g_goto (q := 5) ok dX10_sleepIn_48 (by decide) ?_
      refine g_to (L' := [(0, .ref 0), (1, .int a1), (2, .int a2), (3, .int v9), (4, .int (v3 + (nI 1)))]) ?_ [2, 3, 4, 1, 0] rfl
      exact hgo1 _ _ _
    · refine g_join (P := fun k10 => ∀ (v11 : Int32) (w12 : gT), gJ S2 cl2 rmX10_sleepIn 5 gi κ 42 [(0, .ref 0), (1, .int a1), (2, .int a2), (4, .int v3)] [.int v11] w12 (k10 v11 w12)) (fun v11 w12 => ?_) (fun k10 hk10 => ?_)
      · refine g_iconst (v := (nI 0)) (q := 43) ok dX10_sleepIn_42 rfl (by decide) ?_
        exact hk5 _ _ _
      · refine g_iload_n (q := 13) ok dX10_sleepIn_12 rfl 3 rfl rfl ?_
        refine g_aload_n (q := 14) ok dX10_sleepIn_13 rfl 0 rfl rfl ?_
        refine g_iload (q := 16) ok dX10_sleepIn_14 rfl 4 rfl ?_
        refine g_callVi (q := 19) (As := [.int v3]) (st := [.int v2]) ok tbl_good dX10_sleepIn_16 rfl (kX10_isSleeper _ _) cf_X10_185 ⟨rfl, rfl, Nat.le_of_ble_eq_true rfl, Nat.le_of_ble_eq_true rfl⟩ sM_0 rfl rfl rfl (fun _ => Nat.le_of_ble_eq_true rfl) (fun v13 w14 => ?_)
        refine g_if_eq (q := 22) (g := 42) ok dX10_sleepIn_19 rfl (by decide) ?_ ?_
        · refine g_to (L' := [(0, .ref 0), (1, .int a1), (2, .int a2), (4, .int v3)]) ?_ [0, 1, 2, 4] rfl
          exact hk10 _ _
        · refine g_aload_n (q := 23) ok dX10_sleepIn_22 rfl 0 rfl rfl ?_
          refine g_getR (q := 26) ok dX10_sleepIn_23 rfl fl_X10_16 sM_0 rfl ?_
          refine g_bipush (v := (nI 10)) (q := 28) ok dX10_sleepIn_26 rfl (by decide) ?_
          refine g_iload_n (q := 29) ok dX10_sleepIn_28 rfl 1 rfl rfl ?_
          refine g_imul (q := 30) ok dX10_sleepIn_29 rfl ?_
          refine g_iload (q := 32) ok dX10_sleepIn_30 rfl 4 rfl ?_
          refine g_iadd (q := 33) ok dX10_sleepIn_32 rfl ?_
          refine g_iald (q := 34) ok dX10_sleepIn_33 rfl sM_3 ?_
          refine g_iload_n (q := 35) ok dX10_sleepIn_34 rfl 2 rfl rfl ?_
          refine g_icmp_ne (q := 38) (g := 42) ok dX10_sleepIn_35 rfl (by decide) ?_ ?_
          · refine g_to (L' := [(0, .ref 0), (1, .int a1), (2, .int a2), (4, .int v3)]) ?_ [0, 1, 2, 4] rfl
            exact hk10 _ _
          · refine g_iconst (v := (nI 1)) (q := 39) ok dX10_sleepIn_38 rfl (by decide) ?_
            refine g_goto (q := 43) ok dX10_sleepIn_39 (by decide) ?_
            refine g_to (L' := [(0, .ref 0), (1, .int a1), (2, .int a2), (4, .int v3)]) ?_ [0, 1, 2, 4] rfl
            exact hk5 _ _ _
set_option maxRecDepth 20000 in
theorem kX10_isNext (a0 : Int32) (a1 : Int32) (w : gT) : gM S2 cl2 gTs yX10_isNext cX10_isNext 2 (some .boolean) rmX10_isNext gi [.int a0, .int a1] w (xX10_isNext a0 a1 w) := by
  refine gM_of (own := RX10) [(0, .int a0), (1, .int a1)] rfl (by decide) (fun _ => rfl) (fun _ => Nat.le_of_ble_eq_true rfl) (fun κ ok => ?_)
  unfold xX10_isNext
  refine g_iload_n (q := 1) ok dX10_isNext_0 rfl 0 rfl rfl ?_
  refine g_iload_n (q := 2) ok dX10_isNext_1 rfl 1 rfl rfl ?_
  refine g_isub (q := 3) ok dX10_isNext_2 rfl ?_
  refine g_iconst (v := (nI 1)) (q := 4) ok dX10_isNext_3 rfl (by decide) ?_
  refine g_icmp_eq (q := 7) (g := 14) ok dX10_isNext_4 rfl (by decide) ?_ ?_
  · refine g_iconst (v := (nI 1)) (q := 15) ok dX10_isNext_14 rfl (by decide) ?_
    refine g_goto (q := 19) ok dX10_isNext_15 (by decide) ?_
    exact g_zret ok dX10_isNext_19 rfl
  · refine g_iload_n (q := 8) ok dX10_isNext_7 rfl 1 rfl rfl ?_
    refine g_iload_n (q := 9) ok dX10_isNext_8 rfl 0 rfl rfl ?_
    refine g_isub (q := 10) ok dX10_isNext_9 rfl ?_
    refine g_iconst (v := (nI 1)) (q := 11) ok dX10_isNext_10 rfl (by decide) ?_
    refine g_icmp_ne (q := 14) (g := 18) ok dX10_isNext_11 rfl (by decide) ?_ ?_
    · refine g_iconst (v := (nI 0)) (q := 19) ok dX10_isNext_18 rfl (by decide) ?_
      exact g_zret ok dX10_isNext_19 rfl
    · refine g_iconst (v := (nI 1)) (q := 15) ok dX10_isNext_14 rfl (by decide) ?_
      refine g_goto (q := 19) ok dX10_isNext_15 (by decide) ?_
      exact g_zret ok dX10_isNext_19 rfl
set_option maxRecDepth 20000 in
theorem kX10_frightOf (N : Nat) (a1 : Int32) (a2 : Int32) (a3 : Int32) (a4 : Int32) (a5 : Int32) (w : gT) : gM S2 cl2 gTs yX10_frightOf cX10_frightOf 8 (some .int) rmX10_frightOf gi [.ref 0, .int a1, .int a2, .int a3, .int a4, .int a5] w (xX10_frightOf N a1 a2 a3 a4 a5 w) := by
  refine gM_of (own := RX10) [(0, .ref 0), (1, .int a1), (2, .int a2), (3, .int a3), (4, .int a4), (5, .int a5)] rfl (by decide) (fun _ => rfl) (fun _ => Nat.le_of_ble_eq_true rfl) (fun κ ok => ?_)
  unfold xX10_frightOf
  refine g_aload_n (q := 1) ok dX10_frightOf_0 rfl 0 rfl rfl ?_
  refine g_getR (q := 4) ok dX10_frightOf_1 rfl fl_X10_16 sM_0 rfl ?_
  refine g_bipush (v := (nI 10)) (q := 6) ok dX10_frightOf_4 rfl (by decide) ?_
  refine g_iload_n (q := 7) ok dX10_frightOf_6 rfl 3 rfl rfl ?_
  refine g_imul (q := 8) ok dX10_frightOf_7 rfl ?_
  refine g_iload_n (q := 9) ok dX10_frightOf_8 rfl 2 rfl rfl ?_
  refine g_iadd (q := 10) ok dX10_frightOf_9 rfl ?_
  refine g_iald (q := 11) ok dX10_frightOf_10 rfl sM_3 ?_
  refine g_leti (fun v1 => ?_)
  refine g_istore (q := 13) (L' := [(6, .int v1), (0, .ref 0), (1, .int a1), (2, .int a2), (3, .int a3), (4, .int a4), (5, .int a5)]) ok dX10_frightOf_11 rfl (by decide) rfl rfl ?_
  refine g_iload (q := 15) ok dX10_frightOf_13 rfl 0 rfl ?_
  refine g_sipush (v := (nI 255)) (q := 18) ok dX10_frightOf_15 rfl (by decide) ?_
  refine g_icmp_eq (q := 21) (g := 48) ok dX10_frightOf_18 rfl (by decide) ?_ ?_
  · refine g_bipush (v := (-2)) (q := 50) ok dX10_frightOf_48 rfl (by decide) ?_
    exact g_iret ok dX10_frightOf_50
  · refine g_join (P := fun k2 => ∀ (w3 : gT), gJ S2 cl2 rmX10_frightOf 8 gi κ 51 [(0, .ref 0), (1, .int a1), (2, .int a2), (3, .int a3), (5, .int a5), (6, .int v1)] [] w3 (k2 w3)) (fun w3 => ?_) (fun k2 hk2 => ?_)
    · refine g_join (P := fun k4 => ∀ (v5 : Int32) (w6 : gT), gJ S2 cl2 rmX10_frightOf 8 gi κ 76 [(0, .ref 0), (1, .int a1), (2, .int a2), (3, .int a3), (5, .int a5), (6, .int v1), (7, .int v5)] [] w6 (k4 v5 w6)) (fun v5 w6 => ?_) (fun k4 hk4 => ?_)
      · refine g_aload_n (q := 77) ok dX10_frightOf_76 rfl 0 rfl rfl ?_
        refine g_getR (q := 80) ok dX10_frightOf_77 rfl fl_X10_19 sM_0 rfl ?_
        refine g_iload_n (q := 81) ok dX10_frightOf_80 rfl 1 rfl rfl ?_
        refine g_iald (q := 82) ok dX10_frightOf_81 rfl sM_4 ?_
        refine g_iconst (v := (nI 3)) (q := 83) ok dX10_frightOf_82 rfl (by decide) ?_
        refine g_icmp_eq (q := 86) (g := 101) ok dX10_frightOf_83 rfl (by decide) ?_ ?_
        · refine g_bipush (v := (-2)) (q := 103) ok dX10_frightOf_101 rfl (by decide) ?_
          exact g_iret ok dX10_frightOf_103
        · refine g_join (P := fun k7 => ∀ (w8 : gT), gJ S2 cl2 rmX10_frightOf 8 gi κ 104 [(0, .ref 0), (1, .int a1), (2, .int a2), (3, .int a3), (5, .int a5), (6, .int v1), (7, .int v5)] [] w8 (k7 w8)) (fun w8 => ?_) (fun k7 hk7 => ?_)
          · refine g_aload_n (q := 105) ok dX10_frightOf_104 rfl 0 rfl rfl ?_
            refine g_iload_n (q := 106) ok dX10_frightOf_105 rfl 1 rfl rfl ?_
            refine g_iload_n (q := 107) ok dX10_frightOf_106 rfl 3 rfl rfl ?_
            refine g_iload (q := 109) ok dX10_frightOf_107 rfl 5 rfl ?_
            refine g_iload (q := 111) ok dX10_frightOf_109 rfl 4 rfl ?_
            refine g_callVv (q := 114) (As := [.int a1, .int a3, .int v1, .int a5]) (st := []) ok tbl_good dX10_frightOf_111 rfl (kX10_feels N _ _ _ _ _) cf_X10_326 ⟨rfl, rfl, Nat.le_of_ble_eq_true rfl, Nat.le_of_ble_eq_true rfl⟩ sM_0 rfl rfl rfl (fun _ => Nat.le_of_ble_eq_true rfl) (fun w9 => ?_)
            refine g_aload_n (q := 115) ok dX10_frightOf_114 rfl 0 rfl rfl ?_
            refine g_getR (q := 118) ok dX10_frightOf_115 rfl fl_X10_99 sM_0 rfl ?_
            refine g_bipush (v := (nI 8)) (q := 120) ok dX10_frightOf_118 rfl (by decide) ?_
            refine g_iload_n (q := 121) ok dX10_frightOf_120 rfl 2 rfl rfl ?_
            refine g_iastC (j := 8) (q := 122) ok dX10_frightOf_121 rfl sM_30 (by decide) (by decide) ?_
            refine g_letw (fun w10 => ?_)
            refine g_aload_n (q := 123) ok dX10_frightOf_122 rfl 0 rfl rfl ?_
            refine g_getR (q := 126) ok dX10_frightOf_123 rfl fl_X10_99 sM_0 rfl ?_
            refine g_bipush (v := (nI 9)) (q := 128) ok dX10_frightOf_126 rfl (by decide) ?_
            refine g_aload_n (q := 129) ok dX10_frightOf_128 rfl 0 rfl rfl ?_
            refine g_getR (q := 132) ok dX10_frightOf_129 rfl fl_X10_13 sM_0 rfl ?_
            refine g_iload_n (q := 133) ok dX10_frightOf_132 rfl 2 rfl rfl ?_
            refine g_iald (q := 134) ok dX10_frightOf_133 rfl sM_2 ?_
            refine g_iastC (j := 9) (q := 135) ok dX10_frightOf_134 rfl sM_30 (by decide) (by decide) ?_
            refine g_letw (fun w11 => ?_)
            refine g_aload_n (q := 136) ok dX10_frightOf_135 rfl 0 rfl rfl ?_
            refine g_getR (q := 139) ok dX10_frightOf_136 rfl fl_X10_99 sM_0 rfl ?_
            refine g_bipush (v := (nI 10)) (q := 141) ok dX10_frightOf_139 rfl (by decide) ?_
            refine g_iload (q := 143) ok dX10_frightOf_141 rfl 6 rfl ?_
            refine g_iastC (j := 10) (q := 144) ok dX10_frightOf_143 rfl sM_30 (by decide) (by decide) ?_
            refine g_letw (fun w12 => ?_)
            refine g_aload_n (q := 145) ok dX10_frightOf_144 rfl 0 rfl rfl ?_
            refine g_callVi (q := 148) (As := []) (st := []) ok tbl_good dX10_frightOf_145 rfl (kX10_anyFright N _) cf_X10_330 ⟨rfl, rfl, Nat.le_of_ble_eq_true rfl, Nat.le_of_ble_eq_true rfl⟩ sM_0 rfl rfl rfl (fun _ => Nat.le_of_ble_eq_true rfl) (fun v13 w14 => ?_)
            refine g_if_eq (q := 151) (g := 162) ok dX10_frightOf_148 rfl (by decide) ?_ ?_
            · refine g_bipush (v := (-2)) (q := 164) ok dX10_frightOf_162 rfl (by decide) ?_
              exact g_iret ok dX10_frightOf_164
            · refine g_aload_n (q := 152) ok dX10_frightOf_151 rfl 0 rfl rfl ?_
              refine g_bipush (v := (nI 102)) (q := 154) ok dX10_frightOf_152 rfl (by decide) ?_
              refine g_bipush (v := (nI 99)) (q := 156) ok dX10_frightOf_154 rfl (by decide) ?_
              refine g_callVi (q := 159) (As := [.int (nI 102), .int (nI 99)]) (st := []) ok tbl_good dX10_frightOf_156 rfl (kX10_byLaw N _ _ _) cf_X10_333 ⟨rfl, rfl, Nat.le_of_ble_eq_true rfl, Nat.le_of_ble_eq_true rfl⟩ sM_0 rfl rfl rfl (fun _ => Nat.le_of_ble_eq_true rfl) (fun v15 w16 => ?_)
              refine g_goto (q := 164) ok dX10_frightOf_159 (by decide) ?_
              exact g_iret ok dX10_frightOf_164
          · refine g_aload_n (q := 87) ok dX10_frightOf_86 rfl 0 rfl rfl ?_
            refine g_getR (q := 90) ok dX10_frightOf_87 rfl fl_X10_19 sM_0 rfl ?_
            refine g_iload_n (q := 91) ok dX10_frightOf_90 rfl 1 rfl rfl ?_
            refine g_iald (q := 92) ok dX10_frightOf_91 rfl sM_4 ?_
            refine g_iconst (v := (nI 4)) (q := 93) ok dX10_frightOf_92 rfl (by decide) ?_
            refine g_icmp_ne (q := 96) (g := 104) ok dX10_frightOf_93 rfl (by decide) ?_ ?_
            · exact hk7 _
            · refine g_iload (q := 98) ok dX10_frightOf_96 rfl 4 rfl ?_
              refine g_if_ne (q := 101) (g := 104) ok dX10_frightOf_98 rfl (by decide) ?_ ?_
              · exact hk7 _
              · refine g_bipush (v := (-2)) (q := 103) ok dX10_frightOf_101 rfl (by decide) ?_
                exact g_iret ok dX10_frightOf_103
      · refine g_aload_n (q := 52) ok dX10_frightOf_51 rfl 0 rfl rfl ?_
        refine g_iload_n (q := 53) ok dX10_frightOf_52 rfl 3 rfl rfl ?_
        refine g_iload (q := 55) ok dX10_frightOf_53 rfl 5 rfl ?_
        refine g_callVi (q := 58) (As := [.int a3, .int v1]) (st := []) ok tbl_good dX10_frightOf_55 rfl (kX10_sleepIn N _ _ _) cf_X10_323 ⟨rfl, rfl, Nat.le_of_ble_eq_true rfl, Nat.le_of_ble_eq_true rfl⟩ sM_0 rfl rfl rfl (fun _ => Nat.le_of_ble_eq_true rfl) (fun v17 w18 => ?_)
        refine g_istore (q := 60) (L' := [(7, .int v17), (0, .ref 0), (1, .int a1), (2, .int a2), (3, .int a3), (5, .int a5), (6, .int v1)]) ok dX10_frightOf_58 rfl (by decide) rfl rfl ?_
        refine g_aload_n (q := 61) ok dX10_frightOf_60 rfl 1 rfl rfl ?_
        refine g_getR (q := 64) ok dX10_frightOf_61 rfl fl_X10_19 sM_0 rfl ?_
        refine g_iload_n (q := 65) ok dX10_frightOf_64 rfl 2 rfl rfl ?_
        refine g_iald (q := 66) ok dX10_frightOf_65 rfl sM_4 ?_
        refine g_iconst (v := (nI 1)) (q := 67) ok dX10_frightOf_66 rfl (by decide) ?_
        refine g_icmp_ne (q := 70) (g := 76) ok dX10_frightOf_67 rfl (by decide) ?_ ?_
        · refine g_to (L' := [(0, .ref 0), (1, .int a1), (2, .int a2), (3, .int a3), (5, .int a5), (6, .int v1), (7, .int v17)]) ?_ [1, 2, 3, 4, 5, 6, 0] rfl
          exact hk4 _ _
        · refine g_iload (q := 72) ok dX10_frightOf_70 rfl 0 rfl ?_
          refine g_iconst (v := (nI 1)) (q := 73) ok dX10_frightOf_72 rfl (by decide) ?_
          refine g_icmp_ne (q := 76) (g := 101) ok dX10_frightOf_73 rfl (by decide) ?_ ?_
          · refine g_bipush (v := (-2)) (q := 103) ok dX10_frightOf_101 rfl (by decide) ?_
            exact g_iret ok dX10_frightOf_103
          · refine g_to (L' := [(0, .ref 0), (1, .int a1), (2, .int a2), (3, .int a3), (5, .int a5), (6, .int v1), (7, .int v17)]) ?_ [1, 2, 3, 4, 5, 6, 0] rfl
            exact hk4 _ _
    · refine g_iload (q := 23) ok dX10_frightOf_21 rfl 0 rfl ?_
      refine g_iload (q := 25) ok dX10_frightOf_23 rfl 5 rfl ?_
      refine g_icmp_eq (q := 28) (g := 51) ok dX10_frightOf_25 rfl (by decide) ?_ ?_
      · refine g_to (L' := [(0, .ref 0), (1, .int a1), (2, .int a2), (3, .int a3), (5, .int a5), (6, .int v1)]) ?_ [1, 2, 3, 4, 6, 0] rfl
        exact hk2 _
      · refine g_aload_n (q := 29) ok dX10_frightOf_28 rfl 1 rfl rfl ?_
        refine g_getR (q := 32) ok dX10_frightOf_29 rfl fl_X10_19 sM_0 rfl ?_
        refine g_iload_n (q := 33) ok dX10_frightOf_32 rfl 2 rfl rfl ?_
        refine g_iald (q := 34) ok dX10_frightOf_33 rfl sM_4 ?_
        refine g_iconst (v := (nI 2)) (q := 35) ok dX10_frightOf_34 rfl (by decide) ?_
        refine g_icmp_ne (q := 38) (g := 48) ok dX10_frightOf_35 rfl (by decide) ?_ ?_
        · refine g_bipush (v := (-2)) (q := 50) ok dX10_frightOf_48 rfl (by decide) ?_
          exact g_iret ok dX10_frightOf_50
        · refine g_iload (q := 40) ok dX10_frightOf_38 rfl 0 rfl ?_
          refine g_iload (q := 42) ok dX10_frightOf_40 rfl 5 rfl ?_
          refine g_callSi (q := 45) (As := [.int v1, .int a4]) (st := []) ok tbl_good dX10_frightOf_42 rfl (kX10_isNext _ _ _) cf_X10_320 ⟨rfl, rfl, Nat.le_of_ble_eq_true rfl, Nat.le_of_ble_eq_true rfl⟩ rfl rfl (fun _ => Nat.le_of_ble_eq_true rfl) (fun v19 w20 => ?_)
          refine g_if_ne (q := 48) (g := 51) ok dX10_frightOf_45 rfl (by decide) ?_ ?_
          · refine g_to (L' := [(0, .ref 0), (1, .int a1), (2, .int a2), (3, .int a3), (5, .int a5), (6, .int v1)]) ?_ [1, 2, 3, 4, 6, 0] rfl
            exact hk2 _
          · refine g_bipush (v := (-2)) (q := 50) ok dX10_frightOf_48 rfl (by decide) ?_
            exact g_iret ok dX10_frightOf_50
set_option maxRecDepth 20000 in
theorem kX10_fright (N : Nat) (a1 : Int32) (a2 : Int32) (a3 : Int32) (a4 : Int32) (a5 : Int32) (w : gT) : gM S2 cl2 gTs yX10_fright cX10_fright 6 (some .int) rmX10_fright gi [.ref 0, .int a1, .int a2, .int a3, .int a4, .int a5] w (xX10_fright N a1 a2 a3 a4 a5 w) := by
  refine gM_of (own := RX10) [(0, .ref 0), (1, .int a1), (2, .int a2), (3, .int a3), (4, .int a4), (5, .int a5)] rfl (by decide) (fun _ => rfl) (fun _ => Nat.le_of_ble_eq_true rfl) (fun κ ok => ?_)
  unfold xX10_fright
  refine g_aload_n (q := 1) ok dX10_fright_0 rfl 0 rfl rfl ?_
  refine g_iload_n (q := 2) ok dX10_fright_1 rfl 1 rfl rfl ?_
  refine g_callVi (q := 5) (As := [.int a1]) (st := []) ok tbl_good dX10_fright_2 rfl (kX10_isGhost _ _) cf_X10_236 ⟨rfl, rfl, Nat.le_of_ble_eq_true rfl, Nat.le_of_ble_eq_true rfl⟩ sM_0 rfl rfl rfl (fun _ => Nat.le_of_ble_eq_true rfl) (fun v1 w2 => ?_)
  refine g_if_eq (q := 8) (g := 41) ok dX10_fright_5 rfl (by decide) ?_ ?_
  · refine g_iconst (v := (-1)) (q := 42) ok dX10_fright_41 rfl (by decide) ?_
    exact g_iret ok dX10_fright_42
  · refine g_aload_n (q := 9) ok dX10_fright_8 rfl 0 rfl rfl ?_
    refine g_iload_n (q := 10) ok dX10_fright_9 rfl 2 rfl rfl ?_
    refine g_callVi (q := 13) (As := [.int a2]) (st := []) ok tbl_good dX10_fright_10 rfl (kX10_isSleeper _ _) cf_X10_185 ⟨rfl, rfl, Nat.le_of_ble_eq_true rfl, Nat.le_of_ble_eq_true rfl⟩ sM_0 rfl rfl rfl (fun _ => Nat.le_of_ble_eq_true rfl) (fun v3 w4 => ?_)
    refine g_if_eq (q := 16) (g := 41) ok dX10_fright_13 rfl (by decide) ?_ ?_
    · refine g_iconst (v := (-1)) (q := 42) ok dX10_fright_41 rfl (by decide) ?_
      exact g_iret ok dX10_fright_42
    · refine g_iload_n (q := 17) ok dX10_fright_16 rfl 3 rfl rfl ?_
      refine g_callSi (q := 20) (As := [.int a3]) (st := []) ok tbl_good dX10_fright_17 rfl (kX10_isNight _ _) cf_X10_179 ⟨rfl, rfl, Nat.le_of_ble_eq_true rfl, Nat.le_of_ble_eq_true rfl⟩ rfl rfl (fun _ => Nat.le_of_ble_eq_true rfl) (fun v5 w6 => ?_)
      refine g_if_eq (q := 23) (g := 41) ok dX10_fright_20 rfl (by decide) ?_ ?_
      · refine g_iconst (v := (-1)) (q := 42) ok dX10_fright_41 rfl (by decide) ?_
        exact g_iret ok dX10_fright_42
      · refine g_iload (q := 25) ok dX10_fright_23 rfl 4 rfl ?_
        refine g_callSi (q := 28) (As := [.int a4]) (st := []) ok tbl_good dX10_fright_25 rfl (kX10_isRoom _ _) cf_X10_171 ⟨rfl, rfl, Nat.le_of_ble_eq_true rfl, Nat.le_of_ble_eq_true rfl⟩ rfl rfl (fun _ => Nat.le_of_ble_eq_true rfl) (fun v7 w8 => ?_)
        refine g_if_eq (q := 31) (g := 41) ok dX10_fright_28 rfl (by decide) ?_ ?_
        · refine g_iconst (v := (-1)) (q := 42) ok dX10_fright_41 rfl (by decide) ?_
          exact g_iret ok dX10_fright_42
        · refine g_iload (q := 33) ok dX10_fright_31 rfl 5 rfl ?_
          refine g_iconst (v := (nI 0)) (q := 34) ok dX10_fright_33 rfl (by decide) ?_
          refine g_iconst (v := (nI 1)) (q := 35) ok dX10_fright_34 rfl (by decide) ?_
          refine g_callSi (q := 38) (As := [.int a5, .int (nI 0), .int (nI 1)]) (st := []) ok tbl_good dX10_fright_35 rfl (kX10_in _ _ _ _) cf_X10_175 ⟨rfl, rfl, Nat.le_of_ble_eq_true rfl, Nat.le_of_ble_eq_true rfl⟩ rfl rfl (fun _ => Nat.le_of_ble_eq_true rfl) (fun v9 w10 => ?_)
          refine g_if_ne (q := 41) (g := 43) ok dX10_fright_38 rfl (by decide) ?_ ?_
          · refine g_join (P := fun k11 => ∀ (v12 : Int32) (v13 : Int32) (v14 : Int32) (v15 : Int32) (v16 : Int32) (w17 : gT), gJ S2 cl2 rmX10_fright 6 gi κ 60 [(0, .ref 0)] [.int v16, .int v15, .int v14, .int v13, .int v12, .ref 0] w17 (k11 v12 v13 v14 v15 v16 w17)) (fun v12 v13 v14 v15 v16 w17 => ?_) (fun k11 hk11 => ?_)
            · refine g_callVi (q := 63) (As := [.int v12, .int v13, .int v14, .int v15, .int v16]) (st := []) ok tbl_good dX10_fright_60 rfl (kX10_frightOf N _ _ _ _ _ _) cf_X10_336 ⟨rfl, rfl, Nat.le_of_ble_eq_true rfl, Nat.le_of_ble_eq_true rfl⟩ sM_0 rfl rfl rfl (fun _ => Nat.le_of_ble_eq_true rfl) (fun v18 w19 => ?_)
              exact g_iret ok dX10_fright_63
            · refine g_aload_n (q := 44) ok dX10_fright_43 rfl 0 rfl rfl ?_
              refine g_iload_n (q := 45) ok dX10_fright_44 rfl 1 rfl rfl ?_
              refine g_iload_n (q := 46) ok dX10_fright_45 rfl 2 rfl rfl ?_
              refine g_iload_n (q := 47) ok dX10_fright_46 rfl 3 rfl rfl ?_
              refine g_iload (q := 49) ok dX10_fright_47 rfl 4 rfl ?_
              refine g_iload (q := 51) ok dX10_fright_49 rfl 5 rfl ?_
              refine g_iconst (v := (nI 1)) (q := 52) ok dX10_fright_51 rfl (by decide) ?_
              refine g_icmp_ne (q := 55) (g := 59) ok dX10_fright_52 rfl (by decide) ?_ ?_
              · refine g_iconst (v := (nI 0)) (q := 60) ok dX10_fright_59 rfl (by decide) ?_
                refine g_to (L' := [(0, .ref 0)]) ?_ [0] rfl
                exact hk11 _ _ _ _ _ _
              · refine g_iconst (v := (nI 1)) (q := 56) ok dX10_fright_55 rfl (by decide) ?_
                refine g_goto (q := 60) ok dX10_fright_56 (by decide) ?_
                refine g_to (L' := [(0, .ref 0)]) ?_ [0] rfl
                exact hk11 _ _ _ _ _ _
          · refine g_iconst (v := (-1)) (q := 42) ok dX10_fright_41 rfl (by decide) ?_
            exact g_iret ok dX10_fright_42
set_option maxRecDepth 20000 in
theorem kX10_stands (N : Nat) (a1 : Int32) (w : gT) : gM S2 cl2 gTs yX10_stands cX10_stands 4 (some .boolean) rmX10_stands gi [.ref 0, .int a1] w (xX10_stands N a1 w) := by
  refine gM_of (own := RX10) [(0, .ref 0), (1, .int a1)] rfl (by decide) (fun _ => rfl) (fun _ => Nat.le_of_ble_eq_true rfl) (fun κ ok => ?_)
  unfold xX10_stands
  refine g_iconst (v := (nI 0)) (q := 1) ok dX10_stands_0 rfl (by decide) ?_
  refine g_istore_n (q := 2) (L' := [(2, .int (nI 0)), (0, .ref 0), (1, .int a1)]) ok dX10_stands_1 rfl rfl (by decide) rfl rfl ?_
  refine g_to (L' := [(0, .ref 0), (1, .int a1), (2, .int (nI 0))]) ?_ [1, 2, 0] rfl
  refine g_loop1 (Lf := fun v2 => [(0, .ref 0), (1, .int a1), (2, .int v2)]) (fun go1 hgo1 v2 w3 => ?_) N _ _
  unfold xX10_stands_b2
  refine g_iload_n (q := 3) ok dX10_stands_2 rfl 2 rfl rfl ?_
  refine g_aload_n (q := 4) ok dX10_stands_3 rfl 0 rfl rfl ?_
  refine g_getI (q := 7) (N := 0) ok dX10_stands_4 rfl fl_X10_233 sM_0 rfl ?_
  refine g_icmp_ge (q := 10) (g := 121) ok dX10_stands_7 rfl (by decide) ?_ ?_
  · refine g_iconst (v := (nI 0)) (q := 122) ok dX10_stands_121 rfl (by decide) ?_
    exact g_zret ok dX10_stands_122 rfl
  · refine g_join (P := fun k4 => ∀ (w5 : gT), gJ S2 cl2 rmX10_stands 4 gi κ 115 [(0, .ref 0), (1, .int a1), (2, .int v2)] [] w5 (k4 w5)) (fun w5 => ?_) (fun k4 hk4 => ?_)
    · refine g_iinc (v := v2 + (nI 1)) (q := 118) (L' := [(2, .int (v2 + (nI 1))), (0, .ref 0), (1, .int a1)]) ok dX10_stands_115 rfl 2 rfl rfl (by decide) rfl rfl ?_
      refine g_goto (q := 2) ok dX10_stands_118 (by decide) ?_
      refine g_to (L' := [(0, .ref 0), (1, .int a1), (2, .int (v2 + (nI 1)))]) ?_ [1, 2, 0] rfl
      exact hgo1 _ _
    · refine g_aload_n (q := 11) ok dX10_stands_10 rfl 0 rfl rfl ?_
      refine g_getR (q := 14) ok dX10_stands_11 rfl fl_X10_41 sM_0 rfl ?_
      refine g_iload_n (q := 15) ok dX10_stands_14 rfl 2 rfl rfl ?_
      refine g_iald (q := 16) ok dX10_stands_15 rfl sM_11 ?_
      refine g_aload_n (q := 17) ok dX10_stands_16 rfl 0 rfl rfl ?_
      refine g_getR (q := 20) ok dX10_stands_17 rfl fl_X10_41 sM_0 rfl ?_
      refine g_iload_n (q := 21) ok dX10_stands_20 rfl 1 rfl rfl ?_
      refine g_iald (q := 22) ok dX10_stands_21 rfl sM_11 ?_
      refine g_icmp_ne (q := 25) (g := 115) ok dX10_stands_22 rfl (by decide) ?_ ?_
      · exact hk4 _
      · refine g_aload_n (q := 26) ok dX10_stands_25 rfl 0 rfl rfl ?_
        refine g_getR (q := 29) ok dX10_stands_26 rfl fl_X10_44 sM_0 rfl ?_
        refine g_iload_n (q := 30) ok dX10_stands_29 rfl 2 rfl rfl ?_
        refine g_iald (q := 31) ok dX10_stands_30 rfl sM_12 ?_
        refine g_aload_n (q := 32) ok dX10_stands_31 rfl 0 rfl rfl ?_
        refine g_getR (q := 35) ok dX10_stands_32 rfl fl_X10_44 sM_0 rfl ?_
        refine g_iload_n (q := 36) ok dX10_stands_35 rfl 1 rfl rfl ?_
        refine g_iald (q := 37) ok dX10_stands_36 rfl sM_12 ?_
        refine g_icmp_ne (q := 40) (g := 115) ok dX10_stands_37 rfl (by decide) ?_ ?_
        · exact hk4 _
        · refine g_aload_n (q := 41) ok dX10_stands_40 rfl 0 rfl rfl ?_
          refine g_getR (q := 44) ok dX10_stands_41 rfl fl_X10_38 sM_0 rfl ?_
          refine g_iload_n (q := 45) ok dX10_stands_44 rfl 2 rfl rfl ?_
          refine g_iald (q := 46) ok dX10_stands_45 rfl sM_10 ?_
          refine g_aload_n (q := 47) ok dX10_stands_46 rfl 0 rfl rfl ?_
          refine g_getR (q := 50) ok dX10_stands_47 rfl fl_X10_38 sM_0 rfl ?_
          refine g_iload_n (q := 51) ok dX10_stands_50 rfl 1 rfl rfl ?_
          refine g_iald (q := 52) ok dX10_stands_51 rfl sM_10 ?_
          refine g_icmp_eq (q := 55) (g := 115) ok dX10_stands_52 rfl (by decide) ?_ ?_
          · exact hk4 _
          · refine g_aload_n (q := 56) ok dX10_stands_55 rfl 0 rfl rfl ?_
            refine g_iload_n (q := 57) ok dX10_stands_56 rfl 2 rfl rfl ?_
            refine g_callVi (q := 60) (As := [.int v2]) (st := []) ok tbl_good dX10_stands_57 rfl (kX10_counts N _ _) cf_X10_239 ⟨rfl, rfl, Nat.le_of_ble_eq_true rfl, Nat.le_of_ble_eq_true rfl⟩ sM_0 rfl rfl rfl (fun _ => Nat.le_of_ble_eq_true rfl) (fun v6 w7 => ?_)
            refine g_if_ne (q := 63) (g := 66) ok dX10_stands_60 rfl (by decide) ?_ ?_
            · refine g_aload_n (q := 67) ok dX10_stands_66 rfl 0 rfl rfl ?_
              refine g_getR (q := 70) ok dX10_stands_67 rfl fl_X10_28 sM_0 rfl ?_
              refine g_aload_n (q := 71) ok dX10_stands_70 rfl 0 rfl rfl ?_
              refine g_getR (q := 74) ok dX10_stands_71 rfl fl_X10_38 sM_0 rfl ?_
              refine g_iload_n (q := 75) ok dX10_stands_74 rfl 2 rfl rfl ?_
              refine g_iald (q := 76) ok dX10_stands_75 rfl sM_10 ?_
              refine g_iald (q := 77) ok dX10_stands_76 rfl sM_7 ?_
              refine g_aload_n (q := 78) ok dX10_stands_77 rfl 0 rfl rfl ?_
              refine g_getR (q := 81) ok dX10_stands_78 rfl fl_X10_28 sM_0 rfl ?_
              refine g_aload_n (q := 82) ok dX10_stands_81 rfl 0 rfl rfl ?_
              refine g_getR (q := 85) ok dX10_stands_82 rfl fl_X10_38 sM_0 rfl ?_
              refine g_iload_n (q := 86) ok dX10_stands_85 rfl 1 rfl rfl ?_
              refine g_iald (q := 87) ok dX10_stands_86 rfl sM_10 ?_
              refine g_iald (q := 88) ok dX10_stands_87 rfl sM_7 ?_
              refine g_isub (q := 89) ok dX10_stands_88 rfl ?_
              refine g_leti (fun v8 => ?_)
              refine g_istore_n (q := 90) (L' := [(3, .int v8), (0, .ref 0), (1, .int a1), (2, .int v2)]) ok dX10_stands_89 rfl rfl (by decide) rfl rfl ?_
              refine g_iload_n (q := 91) ok dX10_stands_90 rfl 0 rfl rfl ?_
              refine g_if_gt (q := 94) (g := 113) ok dX10_stands_91 rfl (by decide) ?_ ?_
              · refine g_iconst (v := (nI 1)) (q := 114) ok dX10_stands_113 rfl (by decide) ?_
                exact g_zret ok dX10_stands_114 rfl
              · refine g_iload_n (q := 95) ok dX10_stands_94 rfl 0 rfl rfl ?_
                refine g_if_ne (q := 98) (g := 115) ok dX10_stands_95 rfl (by decide) ?_ ?_
                · refine g_to (L' := [(0, .ref 0), (1, .int a1), (2, .int v2)]) ?_ [1, 2, 3] rfl
                  exact hk4 _
                · refine g_aload_n (q := 99) ok dX10_stands_98 rfl 1 rfl rfl ?_
                  refine g_getR (q := 102) ok dX10_stands_99 rfl fl_X10_38 sM_0 rfl ?_
                  refine g_iload_n (q := 103) ok dX10_stands_102 rfl 3 rfl rfl ?_
                  refine g_iald (q := 104) ok dX10_stands_103 rfl sM_10 ?_
                  refine g_aload_n (q := 105) ok dX10_stands_104 rfl 1 rfl rfl ?_
                  refine g_getR (q := 108) ok dX10_stands_105 rfl fl_X10_38 sM_0 rfl ?_
                  refine g_iload_n (q := 109) ok dX10_stands_108 rfl 2 rfl rfl ?_
                  refine g_iald (q := 110) ok dX10_stands_109 rfl sM_10 ?_
                  refine g_icmp_ge (q := 113) (g := 115) ok dX10_stands_110 rfl (by decide) ?_ ?_
                  · refine g_to (L' := [(0, .ref 0), (1, .int a1), (2, .int v2)]) ?_ [1, 2, 3] rfl
                    exact hk4 _
                  · refine g_iconst (v := (nI 1)) (q := 114) ok dX10_stands_113 rfl (by decide) ?_
                    exact g_zret ok dX10_stands_114 rfl
            · refine g_goto (q := 115) ok dX10_stands_63 (by decide) ?_
              exact hk4 _
set_option maxRecDepth 20000 in
theorem kX10_draws (w : gT) : gM S2 cl2 gTs yX10_draws cX10_draws 1 (some .int) rmX10_draws gi [.ref 0] w (xX10_draws w) := by
  refine gM_of (own := RX10) [(0, .ref 0)] rfl (by decide) (fun _ => rfl) (fun _ => Nat.le_of_ble_eq_true rfl) (fun κ ok => ?_)
  unfold xX10_draws
  refine g_aload_n (q := 1) ok dX10_draws_0 rfl 0 rfl rfl ?_
  refine g_sipush (v := (nI 25173)) (q := 4) ok dX10_draws_1 rfl (by decide) ?_
  refine g_aload_n (q := 5) ok dX10_draws_4 rfl 0 rfl rfl ?_
  refine g_getI (q := 8) (N := 0) ok dX10_draws_5 rfl fl_X10_154 sM_0 rfl ?_
  refine g_imul (q := 9) ok dX10_draws_8 rfl ?_
  refine g_sipush (v := (nI 13849)) (q := 12) ok dX10_draws_9 rfl (by decide) ?_
  refine g_iadd (q := 13) ok dX10_draws_12 rfl ?_
  refine g_ldcw (q := 16) ok dX10_draws_13 rfl tw_1473 ?_
  refine g_iremC (q := 17) ok dX10_draws_16 rfl (by decide) ?_
  refine g_put (q := 20) ok dX10_draws_17 rfl fp_X10_154 sM_0 rfl rfl rfl ?_
  refine g_letw (fun w1 => ?_)
  refine g_aload_n (q := 21) ok dX10_draws_20 rfl 0 rfl rfl ?_
  refine g_getI (q := 24) (N := 0) ok dX10_draws_21 rfl fl_X10_154 sM_0 rfl ?_
  refine g_bipush (v := (nI 10)) (q := 26) ok dX10_draws_24 rfl (by decide) ?_
  refine g_iremC (q := 27) ok dX10_draws_26 rfl (by decide) ?_
  exact g_iret ok dX10_draws_27
set_option maxRecDepth 20000 in
theorem kX10_frightens (N : Nat) (a1 : Int32) (a2 : Int32) (a3 : Int32) (a4 : Int32) (w : gT) : gM S2 cl2 gTs yX10_frightens cX10_frightens 7 none rmX10_frightens gv [.ref 0, .int a1, .int a2, .int a3, .int a4] w (xX10_frightens N a1 a2 a3 a4 w) := by
  refine gM_of (own := RX10) [(0, .ref 0), (1, .int a1), (2, .int a2), (3, .int a3), (4, .int a4)] rfl (by decide) (fun _ => rfl) (fun _ => Nat.le_of_ble_eq_true rfl) (fun κ ok => ?_)
  unfold xX10_frightens
  refine g_iconst (v := (nI 0)) (q := 1) ok dX10_frightens_0 rfl (by decide) ?_
  refine g_istore (q := 3) (L' := [(5, .int (nI 0)), (0, .ref 0), (1, .int a1), (2, .int a2), (3, .int a3), (4, .int a4)]) ok dX10_frightens_1 rfl (by decide) rfl rfl ?_
  refine g_to (L' := [(0, .ref 0), (1, .int a1), (2, .int a2), (3, .int a3), (4, .int a4), (5, .int (nI 0))]) ?_ [1, 2, 3, 4, 5, 0] rfl
  refine g_loop1 (Lf := fun v2 => [(0, .ref 0), (1, .int a1), (2, .int a2), (3, .int a3), (4, .int a4), (5, .int v2)]) (fun go1 hgo1 v2 w3 => ?_) N _ _
  unfold xX10_frightens_b3
  refine g_iload (q := 5) ok dX10_frightens_3 rfl 5 rfl ?_
  refine g_bipush (v := (nI 10)) (q := 7) ok dX10_frightens_5 rfl (by decide) ?_
  refine g_icmp_ge (q := 10) (g := 144) ok dX10_frightens_7 rfl (by decide) ?_ ?_
  · exact g_vret ok dX10_frightens_144
  · refine g_join (P := fun k4 => ∀ (v5 : Int32) (w6 : gT), gJ S2 cl2 rmX10_frightens 7 gv κ 35 [(0, .ref 0), (1, .int a1), (2, .int a2), (3, .int a3), (4, .int a4), (5, .int v2)] [.int v5] w6 (k4 v5 w6)) (fun v5 w6 => ?_) (fun k4 hk4 => ?_)
    · refine g_join (P := fun k7 => ∀ (w8 : gT), gJ S2 cl2 rmX10_frightens 7 gv κ 138 [(0, .ref 0), (1, .int a1), (2, .int a2), (3, .int a3), (4, .int a4), (5, .int v2)] [] w8 (k7 w8)) (fun w8 => ?_) (fun k7 hk7 => ?_)
      · refine g_iinc (v := v2 + (nI 1)) (q := 141) (L' := [(5, .int (v2 + (nI 1))), (0, .ref 0), (1, .int a1), (2, .int a2), (3, .int a3), (4, .int a4)]) ok dX10_frightens_138 rfl 5 rfl rfl (by decide) rfl rfl ?_
        refine g_goto (q := 3) ok dX10_frightens_141 (by decide) ?_
        refine g_to (L' := [(0, .ref 0), (1, .int a1), (2, .int a2), (3, .int a3), (4, .int a4), (5, .int (v2 + (nI 1)))]) ?_ [1, 2, 3, 4, 5, 0] rfl
        exact hgo1 _ _
      · refine g_istore (q := 37) (L' := [(6, .int v5), (0, .ref 0), (1, .int a1), (2, .int a2), (3, .int a3), (4, .int a4), (5, .int v2)]) ok dX10_frightens_35 rfl (by decide) rfl rfl ?_
        refine g_iload (q := 39) ok dX10_frightens_37 rfl 0 rfl ?_
        refine g_if_ge (q := 42) (g := 45) ok dX10_frightens_39 rfl (by decide) ?_ ?_
        · refine g_aload_n (q := 46) ok dX10_frightens_45 rfl 1 rfl rfl ?_
          refine g_getR (q := 49) ok dX10_frightens_46 rfl fl_X10_102 sM_0 rfl ?_
          refine g_iconst (v := (nI 0)) (q := 50) ok dX10_frightens_49 rfl (by decide) ?_
          refine g_aload_n (q := 51) ok dX10_frightens_50 rfl 1 rfl rfl ?_
          refine g_getR (q := 54) ok dX10_frightens_51 rfl fl_X10_102 sM_0 rfl ?_
          refine g_iconst (v := (nI 0)) (q := 55) ok dX10_frightens_54 rfl (by decide) ?_
          refine g_ialdC (j := 0) (q := 56) ok dX10_frightens_55 rfl sM_31 (by decide) (by decide) ?_
          refine g_iload (q := 58) ok dX10_frightens_56 rfl 0 rfl ?_
          refine g_iadd (q := 59) ok dX10_frightens_58 rfl ?_
          refine g_iastC (j := 0) (q := 60) ok dX10_frightens_59 rfl sM_31 (by decide) (by decide) ?_
          refine g_letw (fun w9 => ?_)
          refine g_aload_n (q := 61) ok dX10_frightens_60 rfl 1 rfl rfl ?_
          refine g_getR (q := 64) ok dX10_frightens_61 rfl fl_X10_102 sM_0 rfl ?_
          refine g_bipush (v := (nI 10)) (q := 66) ok dX10_frightens_64 rfl (by decide) ?_
          refine g_iload (q := 68) ok dX10_frightens_66 rfl 6 rfl ?_
          refine g_iadd (q := 69) ok dX10_frightens_68 rfl ?_
          refine g_aload_n (q := 70) ok dX10_frightens_69 rfl 1 rfl rfl ?_
          refine g_getR (q := 73) ok dX10_frightens_70 rfl fl_X10_102 sM_0 rfl ?_
          refine g_bipush (v := (nI 10)) (q := 75) ok dX10_frightens_73 rfl (by decide) ?_
          refine g_iload (q := 77) ok dX10_frightens_75 rfl 6 rfl ?_
          refine g_iadd (q := 78) ok dX10_frightens_77 rfl ?_
          refine g_iald (q := 79) ok dX10_frightens_78 rfl sM_31 ?_
          refine g_iload (q := 81) ok dX10_frightens_79 rfl 0 rfl ?_
          refine g_iadd (q := 82) ok dX10_frightens_81 rfl ?_
          refine g_iast (q := 83) ok dX10_frightens_82 rfl sM_31 ?_
          refine g_letw (fun w10 => ?_)
          refine g_aload_n (q := 84) ok dX10_frightens_83 rfl 1 rfl rfl ?_
          refine g_getR (q := 87) ok dX10_frightens_84 rfl fl_X10_102 sM_0 rfl ?_
          refine g_bipush (v := (nI 40)) (q := 89) ok dX10_frightens_87 rfl (by decide) ?_
          refine g_iload_n (q := 90) ok dX10_frightens_89 rfl 3 rfl rfl ?_
          refine g_iadd (q := 91) ok dX10_frightens_90 rfl ?_
          refine g_aload_n (q := 92) ok dX10_frightens_91 rfl 1 rfl rfl ?_
          refine g_getR (q := 95) ok dX10_frightens_92 rfl fl_X10_102 sM_0 rfl ?_
          refine g_bipush (v := (nI 40)) (q := 97) ok dX10_frightens_95 rfl (by decide) ?_
          refine g_iload_n (q := 98) ok dX10_frightens_97 rfl 3 rfl rfl ?_
          refine g_iadd (q := 99) ok dX10_frightens_98 rfl ?_
          refine g_iald (q := 100) ok dX10_frightens_99 rfl sM_31 ?_
          refine g_iload (q := 102) ok dX10_frightens_100 rfl 0 rfl ?_
          refine g_iadd (q := 103) ok dX10_frightens_102 rfl ?_
          refine g_iast (q := 104) ok dX10_frightens_103 rfl sM_31 ?_
          refine g_letw (fun w11 => ?_)
          refine g_aload_n (q := 105) ok dX10_frightens_104 rfl 1 rfl rfl ?_
          refine g_getR (q := 108) ok dX10_frightens_105 rfl fl_X10_102 sM_0 rfl ?_
          refine g_iconst (v := (nI 2)) (q := 109) ok dX10_frightens_108 rfl (by decide) ?_
          refine g_aload_n (q := 110) ok dX10_frightens_109 rfl 1 rfl rfl ?_
          refine g_getR (q := 113) ok dX10_frightens_110 rfl fl_X10_102 sM_0 rfl ?_
          refine g_iconst (v := (nI 2)) (q := 114) ok dX10_frightens_113 rfl (by decide) ?_
          refine g_ialdC (j := 2) (q := 115) ok dX10_frightens_114 rfl sM_31 (by decide) (by decide) ?_
          refine g_iconst (v := (nI 1)) (q := 116) ok dX10_frightens_115 rfl (by decide) ?_
          refine g_iadd (q := 117) ok dX10_frightens_116 rfl ?_
          refine g_iastC (j := 2) (q := 118) ok dX10_frightens_117 rfl sM_31 (by decide) (by decide) ?_
          refine g_letw (fun w12 => ?_)
          refine g_aload_n (q := 119) ok dX10_frightens_118 rfl 1 rfl rfl ?_
          refine g_getR (q := 122) ok dX10_frightens_119 rfl fl_X10_102 sM_0 rfl ?_
          refine g_bipush (v := (nI 20)) (q := 124) ok dX10_frightens_122 rfl (by decide) ?_
          refine g_iload_n (q := 125) ok dX10_frightens_124 rfl 2 rfl rfl ?_
          refine g_iadd (q := 126) ok dX10_frightens_125 rfl ?_
          refine g_aload_n (q := 127) ok dX10_frightens_126 rfl 1 rfl rfl ?_
          refine g_getR (q := 130) ok dX10_frightens_127 rfl fl_X10_102 sM_0 rfl ?_
          refine g_bipush (v := (nI 20)) (q := 132) ok dX10_frightens_130 rfl (by decide) ?_
          refine g_iload_n (q := 133) ok dX10_frightens_132 rfl 2 rfl rfl ?_
          refine g_iadd (q := 134) ok dX10_frightens_133 rfl ?_
          refine g_iald (q := 135) ok dX10_frightens_134 rfl sM_31 ?_
          refine g_iconst (v := (nI 1)) (q := 136) ok dX10_frightens_135 rfl (by decide) ?_
          refine g_iadd (q := 137) ok dX10_frightens_136 rfl ?_
          refine g_iast (q := 138) ok dX10_frightens_137 rfl sM_31 ?_
          refine g_letw (fun w13 => ?_)
          refine g_to (L' := [(0, .ref 0), (1, .int a1), (2, .int a2), (3, .int a3), (4, .int a4), (5, .int v2)]) ?_ [1, 2, 3, 4, 5, 6] rfl
          exact hk7 _
        · refine g_goto (q := 138) ok dX10_frightens_42 (by decide) ?_
          refine g_to (L' := [(0, .ref 0), (1, .int a1), (2, .int a2), (3, .int a3), (4, .int a4), (5, .int v2)]) ?_ [1, 2, 3, 4, 5, 6] rfl
          exact hk7 _
    · refine g_aload_n (q := 11) ok dX10_frightens_10 rfl 0 rfl rfl ?_
      refine g_iload (q := 13) ok dX10_frightens_11 rfl 5 rfl ?_
      refine g_callVi (q := 16) (As := [.int v2]) (st := []) ok tbl_good dX10_frightens_13 rfl (kX10_isSleeper _ _) cf_X10_185 ⟨rfl, rfl, Nat.le_of_ble_eq_true rfl, Nat.le_of_ble_eq_true rfl⟩ sM_0 rfl rfl rfl (fun _ => Nat.le_of_ble_eq_true rfl) (fun v14 w15 => ?_)
      refine g_if_eq (q := 19) (g := 33) ok dX10_frightens_16 rfl (by decide) ?_ ?_
      · refine g_bipush (v := (-2)) (q := 35) ok dX10_frightens_33 rfl (by decide) ?_
        exact hk4 _ _
      · refine g_aload_n (q := 20) ok dX10_frightens_19 rfl 0 rfl rfl ?_
        refine g_iload_n (q := 21) ok dX10_frightens_20 rfl 1 rfl rfl ?_
        refine g_iload (q := 23) ok dX10_frightens_21 rfl 5 rfl ?_
        refine g_iload_n (q := 24) ok dX10_frightens_23 rfl 2 rfl rfl ?_
        refine g_iload_n (q := 25) ok dX10_frightens_24 rfl 3 rfl rfl ?_
        refine g_iload (q := 27) ok dX10_frightens_25 rfl 4 rfl ?_
        refine g_callVi (q := 30) (As := [.int a1, .int v2, .int a2, .int a3, .int a4]) (st := []) ok tbl_good dX10_frightens_27 rfl (kX10_frightOf N _ _ _ _ _ _) cf_X10_336 ⟨rfl, rfl, Nat.le_of_ble_eq_true rfl, Nat.le_of_ble_eq_true rfl⟩ sM_0 rfl rfl rfl (fun _ => Nat.le_of_ble_eq_true rfl) (fun v16 w17 => ?_)
        refine g_goto (q := 35) ok dX10_frightens_30 (by decide) ?_
        exact hk4 _ _
