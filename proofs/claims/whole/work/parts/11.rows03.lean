set_option maxRecDepth 20000 in
theorem kX8_pass (N : Nat) (w : gT) : gM S1 cl1 gTs yX8_pass cX8_pass 3 none rmX8_pass gv [.ref 50] w (xX8_pass N w) := by
  refine gM_of (own := RX8) [(0, .ref 50)] rfl (by decide) (fun _ => rfl) (fun _ => Nat.le_of_ble_eq_true rfl) (fun κ ok => ?_)
  unfold xX8_pass
  refine g_aload_n (q := 1) ok dX8_pass_0 rfl 0 rfl rfl ?_
  refine g_getR (q := 4) ok dX8_pass_1 rfl fl_X8_9 sX_50 rfl ?_
  refine g_iconst (v := (nI 0)) (q := 5) ok dX8_pass_4 rfl (by decide) ?_
  refine g_callSv (q := 8) (As := [.ref 51, .int (nI 0)]) (st := []) ok tbl_good dX8_pass_5 rfl (kJ7_fill_53178_51 N _ _) cf_X8_27 ⟨rfl, rfl, Nat.le_of_ble_eq_true rfl, Nat.le_of_ble_eq_true rfl⟩ rfl rfl (fun _ => Nat.le_of_ble_eq_true rfl) (fun w1 => ?_)
  refine g_aload_n (q := 9) ok dX8_pass_8 rfl 0 rfl rfl ?_
  refine g_aload_n (q := 10) ok dX8_pass_9 rfl 0 rfl rfl ?_
  refine g_getR (q := 13) ok dX8_pass_10 rfl fl_X8_15 sX_50 rfl ?_
  refine g_getI (q := 16) (N := 0) ok dX8_pass_13 rfl fl_X8_33 sX_1 rfl ?_
  refine g_put (q := 19) ok dX8_pass_16 rfl fp_X8_39 sX_50 rfl rfl rfl ?_
  refine g_letw (fun w2 => ?_)
  refine g_iconst (v := (nI 0)) (q := 20) ok dX8_pass_19 rfl (by decide) ?_
  refine g_istore_n (q := 21) (L' := [(1, .int (nI 0)), (0, .ref 50)]) ok dX8_pass_20 rfl rfl (by decide) rfl rfl ?_
  refine g_to (L' := [(0, .ref 50), (1, .int (nI 0))]) ?_ [1, 0] rfl
  refine g_loop1 (Lf := fun v4 => [(0, .ref 50), (1, .int v4)]) (fun go3 hgo3 v4 w5 => ?_) N _ _
  unfold xX8_pass_b21
  refine g_iload_n (q := 22) ok dX8_pass_21 rfl 1 rfl rfl ?_
  refine g_bipush (v := (nI 7)) (q := 24) ok dX8_pass_22 rfl (by decide) ?_
  refine g_icmp_ge (q := 27) (g := 96) ok dX8_pass_24 rfl (by decide) ?_ ?_
  · exact g_vret ok dX8_pass_96
  · refine g_aload_n (q := 28) ok dX8_pass_27 rfl 0 rfl rfl ?_
    refine g_aload_n (q := 29) ok dX8_pass_28 rfl 0 rfl rfl ?_
    refine g_getR (q := 32) ok dX8_pass_29 rfl fl_X8_15 sX_50 rfl ?_
    refine g_getI (q := 35) (N := 0) ok dX8_pass_32 rfl fl_X8_40 sX_1 rfl ?_
    refine g_put (q := 38) ok dX8_pass_35 rfl fp_X8_43 sX_50 rfl rfl rfl ?_
    refine g_letw (fun w6 => ?_)
    refine g_iconst (v := (nI 0)) (q := 39) ok dX8_pass_38 rfl (by decide) ?_
    refine g_istore_n (q := 40) (L' := [(2, .int (nI 0)), (0, .ref 50), (1, .int v4)]) ok dX8_pass_39 rfl rfl (by decide) rfl rfl ?_
    refine g_join (P := fun k7 => ∀ (w8 : gT), gJ S1 cl1 rmX8_pass 3 gv κ 90 [(0, .ref 50), (1, .int v4)] [] w8 (k7 w8)) (fun w8 => ?_) (fun k7 hk7 => ?_)
    · refine g_iinc (v := v4 + (nI 1)) (q := 93) (L' := [(1, .int (v4 + (nI 1))), (0, .ref 50)]) ok dX8_pass_90 rfl 1 rfl rfl (by decide) rfl rfl ?_
      refine g_goto (q := 21) ok dX8_pass_93 (by decide) ?_
      refine g_to (L' := [(0, .ref 50), (1, .int (v4 + (nI 1)))]) ?_ [1, 0] rfl
      exact hgo3 _ _
    · refine g_to (L' := [(0, .ref 50), (1, .int v4), (2, .int (nI 0))]) ?_ [1, 2, 0] rfl
      refine g_loop1 (Lf := fun v10 => [(0, .ref 50), (1, .int v4), (2, .int v10)]) (fun go9 hgo9 v10 w11 => ?_) N _ _
      unfold xX8_pass_b40
      refine g_iload_n (q := 41) ok dX8_pass_40 rfl 2 rfl rfl ?_
      refine g_aload_n (q := 42) ok dX8_pass_41 rfl 0 rfl rfl ?_
      refine g_getR (q := 45) ok dX8_pass_42 rfl fl_X8_19 sX_50 rfl ?_
      refine g_getI (q := 48) (N := 0) ok dX8_pass_45 rfl fl_X8_46 sX_21 rfl ?_
      refine g_icmp_ge (q := 51) (g := 90) ok dX8_pass_48 rfl (by decide) ?_ ?_
      · refine g_to (L' := [(0, .ref 50), (1, .int v4)]) ?_ [0, 1] rfl
        exact hk7 _
      · refine g_join (P := fun k12 => ∀ (w13 : gT), gJ S1 cl1 rmX8_pass 3 gv κ 84 [(0, .ref 50), (1, .int v4), (2, .int v10)] [] w13 (k12 w13)) (fun w13 => ?_) (fun k12 hk12 => ?_)
        · refine g_iinc (v := v10 + (nI 1)) (q := 87) (L' := [(2, .int (v10 + (nI 1))), (0, .ref 50), (1, .int v4)]) ok dX8_pass_84 rfl 2 rfl rfl (by decide) rfl rfl ?_
          refine g_goto (q := 40) ok dX8_pass_87 (by decide) ?_
          refine g_to (L' := [(0, .ref 50), (1, .int v4), (2, .int (v10 + (nI 1)))]) ?_ [1, 2, 0] rfl
          exact hgo9 _ _
        · refine g_aload_n (q := 52) ok dX8_pass_51 rfl 0 rfl rfl ?_
          refine g_getR (q := 55) ok dX8_pass_52 rfl fl_X8_19 sX_50 rfl ?_
          refine g_getR (q := 58) ok dX8_pass_55 rfl fl_X8_51 sX_21 rfl ?_
          refine g_iload_n (q := 59) ok dX8_pass_58 rfl 2 rfl rfl ?_
          refine g_iald (q := 60) ok dX8_pass_59 rfl sX_23 ?_
          refine g_iload_n (q := 61) ok dX8_pass_60 rfl 1 rfl rfl ?_
          refine g_icmp_ne (q := 64) (g := 84) ok dX8_pass_61 rfl (by decide) ?_ ?_
          · exact hk12 _
          · refine g_aload_n (q := 65) ok dX8_pass_64 rfl 0 rfl rfl ?_
            refine g_getR (q := 68) ok dX8_pass_65 rfl fl_X8_19 sX_50 rfl ?_
            refine g_iload_n (q := 69) ok dX8_pass_68 rfl 2 rfl rfl ?_
            refine g_aload_n (q := 70) ok dX8_pass_69 rfl 0 rfl rfl ?_
            refine g_getR (q := 73) ok dX8_pass_70 rfl fl_X8_15 sX_50 rfl ?_
            refine g_callVi (q := 76) (As := [.int v10, .ref 1]) (st := []) ok tbl_good dX8_pass_73 rfl (kX7_isGone _ _) cf_X8_54 ⟨rfl, rfl, Nat.le_of_ble_eq_true rfl, Nat.le_of_ble_eq_true rfl⟩ sX_21 rfl rfl rfl (fun _ => Nat.le_of_ble_eq_true rfl) (fun v14 w15 => ?_)
            refine g_if_eq (q := 79) (g := 84) ok dX8_pass_76 rfl (by decide) ?_ ?_
            · exact hk12 _
            · refine g_aload_n (q := 80) ok dX8_pass_79 rfl 0 rfl rfl ?_
              refine g_iload_n (q := 81) ok dX8_pass_80 rfl 2 rfl rfl ?_
              refine g_callVv (q := 84) (As := [.int v10]) (st := []) ok tbl_good dX8_pass_81 rfl (kX8_goOut N _ _) cf_X8_58 ⟨rfl, rfl, Nat.le_of_ble_eq_true rfl, Nat.le_of_ble_eq_true rfl⟩ sX_50 rfl rfl rfl (fun _ => Nat.le_of_ble_eq_true rfl) (fun w16 => ?_)
              exact hk12 _
set_option maxRecDepth 20000 in
theorem kX9_week (N : Nat) (a1 : Int32) (w : gT) : gM S1 cl1 gTs yX9_week cX9_week 2 (some .int) rmX9_week gi [.ref 0, .int a1] w (xX9_week N a1 w) := by
  refine gM_of (own := RX9) [(0, .ref 0), (1, .int a1)] rfl (by decide) (fun _ => rfl) (fun _ => Nat.le_of_ble_eq_true rfl) (fun κ ok => ?_)
  unfold xX9_week
  refine g_aload_n (q := 1) ok dX9_week_0 rfl 0 rfl rfl ?_
  refine g_aload_n (q := 2) ok dX9_week_1 rfl 0 rfl rfl ?_
  refine g_getR (q := 5) ok dX9_week_2 rfl fl_X9_69 sX_0 rfl ?_
  refine g_getR (q := 8) ok dX9_week_5 rfl fl_X9_185 sX_50 rfl ?_
  refine g_iload_n (q := 9) ok dX9_week_8 rfl 1 rfl rfl ?_
  refine g_callVi (q := 12) (As := [.ref 51, .int a1]) (st := []) ok tbl_good dX9_week_9 rfl (kX9_isSum _ _) cf_X9_188 ⟨rfl, rfl, Nat.le_of_ble_eq_true rfl, Nat.le_of_ble_eq_true rfl⟩ sX_0 rfl rfl rfl (fun _ => Nat.le_of_ble_eq_true rfl) (fun v1 w2 => ?_)
  refine g_if_ne (q := 15) (g := 17) ok dX9_week_12 rfl (by decide) ?_ ?_
  · refine g_aload_n (q := 18) ok dX9_week_17 rfl 0 rfl rfl ?_
    refine g_getR (q := 21) ok dX9_week_18 rfl fl_X9_69 sX_0 rfl ?_
    refine g_callVv (q := 24) (As := []) (st := []) ok tbl_good dX9_week_21 rfl (kX8_pass N _) cf_X9_192 ⟨rfl, rfl, Nat.le_of_ble_eq_true rfl, Nat.le_of_ble_eq_true rfl⟩ sX_50 rfl rfl rfl (fun _ => Nat.le_of_ble_eq_true rfl) (fun w3 => ?_)
    refine g_aload_n (q := 25) ok dX9_week_24 rfl 0 rfl rfl ?_
    refine g_getR (q := 28) ok dX9_week_25 rfl fl_X9_69 sX_0 rfl ?_
    refine g_getR (q := 31) ok dX9_week_28 rfl fl_X9_185 sX_50 rfl ?_
    refine g_iload_n (q := 32) ok dX9_week_31 rfl 1 rfl rfl ?_
    refine g_iald (q := 33) ok dX9_week_32 rfl sX_51 ?_
    exact g_iret ok dX9_week_33
  · refine g_iconst (v := (-1)) (q := 16) ok dX9_week_15 rfl (by decide) ?_
    exact g_iret ok dX9_week_16
set_option maxRecDepth 20000 in
theorem kX9_live (N : Nat) (w : gT) : gM S1 cl1 gTs yX9_live cX9_live 2 (some .int) rmX9_live gi [.ref 0] w (xX9_live N w) := by
  refine gM_of (own := RX9) [(0, .ref 0)] rfl (by decide) (fun _ => rfl) (fun _ => Nat.le_of_ble_eq_true rfl) (fun κ ok => ?_)
  unfold xX9_live
  refine g_aload_n (q := 1) ok dX9_live_0 rfl 0 rfl rfl ?_
  refine g_getR (q := 4) ok dX9_live_1 rfl fl_X9_69 sX_0 rfl ?_
  refine g_callVv (q := 7) (As := []) (st := []) ok tbl_good dX9_live_4 rfl (kX8_pass N _) cf_X9_192 ⟨rfl, rfl, Nat.le_of_ble_eq_true rfl, Nat.le_of_ble_eq_true rfl⟩ sX_50 rfl rfl rfl (fun _ => Nat.le_of_ble_eq_true rfl) (fun w1 => ?_)
  refine g_iconst (v := (nI 0)) (q := 8) ok dX9_live_7 rfl (by decide) ?_
  refine g_istore_n (q := 9) (L' := [(1, .int (nI 0)), (0, .ref 0)]) ok dX9_live_8 rfl rfl (by decide) rfl rfl ?_
  refine g_join (P := fun k2 => ∀ (w3 : gT), gJ S1 cl1 rmX9_live 2 gi κ 48 [(0, .ref 0)] [] w3 (k2 w3)) (fun w3 => ?_) (fun k2 hk2 => ?_)
  · refine g_aload_n (q := 49) ok dX9_live_48 rfl 0 rfl rfl ?_
    refine g_getR (q := 52) ok dX9_live_49 rfl fl_X9_12 sX_0 rfl ?_
    refine g_dup (q := 53) ok dX9_live_52 rfl (fun _ => rfl) ?_
    refine g_getI (q := 56) (N := 0) ok dX9_live_53 rfl fl_X9_198 sX_1 rfl ?_
    refine g_iconst (v := (nI 1)) (q := 57) ok dX9_live_56 rfl (by decide) ?_
    refine g_iadd (q := 58) ok dX9_live_57 rfl ?_
    refine g_put (q := 61) ok dX9_live_58 rfl fp_X9_198 sX_1 rfl rfl rfl ?_
    refine g_letw (fun w4 => ?_)
    refine g_aload_n (q := 62) ok dX9_live_61 rfl 0 rfl rfl ?_
    refine g_getR (q := 65) ok dX9_live_62 rfl fl_X9_12 sX_0 rfl ?_
    refine g_aload_n (q := 66) ok dX9_live_65 rfl 0 rfl rfl ?_
    refine g_getR (q := 69) ok dX9_live_66 rfl fl_X9_69 sX_0 rfl ?_
    refine g_getI (q := 72) (N := 0) ok dX9_live_69 rfl fl_X9_201 sX_50 rfl ?_
    refine g_put (q := 75) ok dX9_live_72 rfl fp_X9_204 sX_1 rfl rfl rfl ?_
    refine g_letw (fun w5 => ?_)
    refine g_aload_n (q := 76) ok dX9_live_75 rfl 0 rfl rfl ?_
    refine g_getR (q := 79) ok dX9_live_76 rfl fl_X9_69 sX_0 rfl ?_
    refine g_getR (q := 82) ok dX9_live_79 rfl fl_X9_185 sX_50 rfl ?_
    refine g_iconst (v := (nI 0)) (q := 83) ok dX9_live_82 rfl (by decide) ?_
    refine g_ialdC (j := 0) (q := 84) ok dX9_live_83 rfl sX_51 (by decide) (by decide) ?_
    exact g_iret ok dX9_live_84
  · refine g_to (L' := [(0, .ref 0), (1, .int (nI 0))]) ?_ [1, 0] rfl
    refine g_loop1 (Lf := fun v7 => [(0, .ref 0), (1, .int v7)]) (fun go6 hgo6 v7 w8 => ?_) N _ _
    unfold xX9_live_b9
    refine g_iload_n (q := 10) ok dX9_live_9 rfl 1 rfl rfl ?_
    refine g_aload_n (q := 11) ok dX9_live_10 rfl 0 rfl rfl ?_
    refine g_getR (q := 14) ok dX9_live_11 rfl fl_X9_12 sX_0 rfl ?_
    refine g_getR (q := 17) ok dX9_live_14 rfl fl_X9_195 sX_1 rfl ?_
    refine g_alen (v := (nI 40)) (q := 18) ok dX9_live_17 rfl sX_9 rfl ?_
    refine g_icmp_ge (q := 21) (g := 48) ok dX9_live_18 rfl (by decide) ?_ ?_
    · refine g_to (L' := [(0, .ref 0)]) ?_ [0] rfl
      exact hk2 _
    · refine g_aload_n (q := 22) ok dX9_live_21 rfl 0 rfl rfl ?_
      refine g_getR (q := 25) ok dX9_live_22 rfl fl_X9_12 sX_0 rfl ?_
      refine g_getR (q := 28) ok dX9_live_25 rfl fl_X9_195 sX_1 rfl ?_
      refine g_iload_n (q := 29) ok dX9_live_28 rfl 1 rfl rfl ?_
      refine g_dup2 (q := 30) ok dX9_live_29 rfl (fun _ => ⟨rfl, rfl⟩) ?_
      refine g_iald (q := 31) ok dX9_live_30 rfl sX_9 ?_
      refine g_aload_n (q := 32) ok dX9_live_31 rfl 0 rfl rfl ?_
      refine g_getR (q := 35) ok dX9_live_32 rfl fl_X9_69 sX_0 rfl ?_
      refine g_getR (q := 38) ok dX9_live_35 rfl fl_X9_185 sX_50 rfl ?_
      refine g_iload_n (q := 39) ok dX9_live_38 rfl 1 rfl rfl ?_
      refine g_iald (q := 40) ok dX9_live_39 rfl sX_51 ?_
      refine g_iadd (q := 41) ok dX9_live_40 rfl ?_
      refine g_iast (q := 42) ok dX9_live_41 rfl sX_9 ?_
      refine g_letw (fun w9 => ?_)
      refine g_iinc (v := v7 + (nI 1)) (q := 45) (L' := [(1, .int (v7 + (nI 1))), (0, .ref 0)]) ok dX9_live_42 rfl 1 rfl rfl (by decide) rfl rfl ?_
      refine g_goto (q := 9) ok dX9_live_45 (by decide) ?_
      refine g_to (L' := [(0, .ref 0), (1, .int (v7 + (nI 1)))]) ?_ [1, 0] rfl
      exact hgo6 _ _
set_option maxRecDepth 20000 in
theorem kX9_isSum_0_9 (a2 : Int32) (w : gT) : gM S1 cl1 gTs yX9_isSum cX9_isSum 3 (some .boolean) rmX9_isSum_0_9 gi [.ref 0, .ref 9, .int a2] w (xX9_isSum_0_9 a2 w) := by
  refine gM_of (own := RX9) [(0, .ref 0), (1, .ref 9), (2, .int a2)] rfl (by decide) (fun _ => rfl) (fun _ => Nat.le_of_ble_eq_true rfl) (fun κ ok => ?_)
  unfold xX9_isSum_0_9
  refine g_iload_n (q := 1) ok dX9_isSum_0 rfl 2 rfl rfl ?_
  refine g_if_lt (q := 4) (g := 10) ok dX9_isSum_1 rfl (by decide) ?_ ?_
  · refine g_iconst (v := (nI 0)) (q := 11) ok dX9_isSum_10 rfl (by decide) ?_
    exact g_zret ok dX9_isSum_11 rfl
  · refine g_iload_n (q := 5) ok dX9_isSum_4 rfl 2 rfl rfl ?_
    refine g_aload_n (q := 6) ok dX9_isSum_5 rfl 1 rfl rfl ?_
    refine g_alen (v := (nI 40)) (q := 7) ok dX9_isSum_6 rfl sX_9 rfl ?_
    refine g_icmp_lt (q := 10) (g := 12) ok dX9_isSum_7 rfl (by decide) ?_ ?_
    · refine g_iload_n (q := 13) ok dX9_isSum_12 rfl 2 rfl rfl ?_
      refine g_bipush (v := (nI 10)) (q := 15) ok dX9_isSum_13 rfl (by decide) ?_
      refine g_icmp_ge (q := 18) (g := 29) ok dX9_isSum_15 rfl (by decide) ?_ ?_
      · refine g_iload_n (q := 30) ok dX9_isSum_29 rfl 2 rfl rfl ?_
        refine g_bipush (v := (nI 20)) (q := 32) ok dX9_isSum_30 rfl (by decide) ?_
        refine g_icmp_ge (q := 35) (g := 47) ok dX9_isSum_32 rfl (by decide) ?_ ?_
        · refine g_iload_n (q := 48) ok dX9_isSum_47 rfl 2 rfl rfl ?_
          refine g_bipush (v := (nI 40)) (q := 50) ok dX9_isSum_48 rfl (by decide) ?_
          refine g_icmp_ge (q := 53) (g := 67) ok dX9_isSum_50 rfl (by decide) ?_ ?_
          · refine g_iconst (v := (nI 1)) (q := 68) ok dX9_isSum_67 rfl (by decide) ?_
            refine g_goto (q := 72) ok dX9_isSum_68 (by decide) ?_
            exact g_zret ok dX9_isSum_72 rfl
          · refine g_aload_n (q := 54) ok dX9_isSum_53 rfl 0 rfl rfl ?_
            refine g_getR (q := 57) ok dX9_isSum_54 rfl fl_X9_12 sX_0 rfl ?_
            refine g_iload_n (q := 58) ok dX9_isSum_57 rfl 2 rfl rfl ?_
            refine g_bipush (v := (nI 10)) (q := 60) ok dX9_isSum_58 rfl (by decide) ?_
            refine g_iremC (q := 61) ok dX9_isSum_60 rfl (by decide) ?_
            refine g_callVi (q := 64) (As := [.int (gRem a2 (nI 10))]) (st := []) ok tbl_good dX9_isSum_61 rfl (kX2_hasGhost _ _) cf_X9_178 ⟨rfl, rfl, Nat.le_of_ble_eq_true rfl, Nat.le_of_ble_eq_true rfl⟩ sX_1 rfl rfl rfl (fun _ => Nat.le_of_ble_eq_true rfl) (fun v1 w2 => ?_)
            refine g_if_eq (q := 67) (g := 71) ok dX9_isSum_64 rfl (by decide) ?_ ?_
            · refine g_iconst (v := (nI 0)) (q := 72) ok dX9_isSum_71 rfl (by decide) ?_
              exact g_zret ok dX9_isSum_72 rfl
            · refine g_iconst (v := (nI 1)) (q := 68) ok dX9_isSum_67 rfl (by decide) ?_
              refine g_goto (q := 72) ok dX9_isSum_68 (by decide) ?_
              exact g_zret ok dX9_isSum_72 rfl
        · refine g_aload_n (q := 36) ok dX9_isSum_35 rfl 0 rfl rfl ?_
          refine g_getR (q := 39) ok dX9_isSum_36 rfl fl_X9_12 sX_0 rfl ?_
          refine g_iload_n (q := 40) ok dX9_isSum_39 rfl 2 rfl rfl ?_
          refine g_bipush (v := (nI 10)) (q := 42) ok dX9_isSum_40 rfl (by decide) ?_
          refine g_isub (q := 43) ok dX9_isSum_42 rfl ?_
          refine g_callVi (q := 46) (As := [.int (a2 - (nI 10))]) (st := []) ok tbl_good dX9_isSum_43 rfl (kX2_hasSleeper _ _) cf_X9_117 ⟨rfl, rfl, Nat.le_of_ble_eq_true rfl, Nat.le_of_ble_eq_true rfl⟩ sX_1 rfl rfl rfl (fun _ => Nat.le_of_ble_eq_true rfl) (fun v3 w4 => ?_)
          exact g_zretv ok dX9_isSum_46
      · refine g_iload_n (q := 19) ok dX9_isSum_18 rfl 2 rfl rfl ?_
        refine g_iconst (v := (nI 4)) (q := 20) ok dX9_isSum_19 rfl (by decide) ?_
        refine g_icmp_gt (q := 23) (g := 27) ok dX9_isSum_20 rfl (by decide) ?_ ?_
        · refine g_iconst (v := (nI 0)) (q := 28) ok dX9_isSum_27 rfl (by decide) ?_
          exact g_zret ok dX9_isSum_28 rfl
        · refine g_iconst (v := (nI 1)) (q := 24) ok dX9_isSum_23 rfl (by decide) ?_
          refine g_goto (q := 28) ok dX9_isSum_24 (by decide) ?_
          exact g_zret ok dX9_isSum_28 rfl
    · refine g_iconst (v := (nI 0)) (q := 11) ok dX9_isSum_10 rfl (by decide) ?_
      exact g_zret ok dX9_isSum_11 rfl
set_option maxRecDepth 20000 in
theorem kX9_soFar (a1 : Int32) (w : gT) : gM S1 cl1 gTs yX9_soFar cX9_soFar 2 (some .int) rmX9_soFar gi [.ref 0, .int a1] w (xX9_soFar a1 w) := by
  refine gM_of (own := RX9) [(0, .ref 0), (1, .int a1)] rfl (by decide) (fun _ => rfl) (fun _ => Nat.le_of_ble_eq_true rfl) (fun κ ok => ?_)
  unfold xX9_soFar
  refine g_iload_n (q := 1) ok dX9_soFar_0 rfl 1 rfl rfl ?_
  refine g_iconst (v := (nI 5)) (q := 2) ok dX9_soFar_1 rfl (by decide) ?_
  refine g_icmp_ne (q := 5) (g := 13) ok dX9_soFar_2 rfl (by decide) ?_ ?_
  · refine g_aload_n (q := 14) ok dX9_soFar_13 rfl 0 rfl rfl ?_
    refine g_aload_n (q := 15) ok dX9_soFar_14 rfl 0 rfl rfl ?_
    refine g_getR (q := 18) ok dX9_soFar_15 rfl fl_X9_12 sX_0 rfl ?_
    refine g_getR (q := 21) ok dX9_soFar_18 rfl fl_X9_195 sX_1 rfl ?_
    refine g_iload_n (q := 22) ok dX9_soFar_21 rfl 1 rfl rfl ?_
    refine g_callVi (q := 25) (As := [.ref 9, .int a1]) (st := []) ok tbl_good dX9_soFar_22 rfl (kX9_isSum_0_9 _ _) cf_X9_188 ⟨rfl, rfl, Nat.le_of_ble_eq_true rfl, Nat.le_of_ble_eq_true rfl⟩ sX_0 rfl rfl rfl (fun _ => Nat.le_of_ble_eq_true rfl) (fun v1 w2 => ?_)
    refine g_if_eq (q := 28) (g := 40) ok dX9_soFar_25 rfl (by decide) ?_ ?_
    · refine g_iconst (v := (-1)) (q := 41) ok dX9_soFar_40 rfl (by decide) ?_
      exact g_iret ok dX9_soFar_41
    · refine g_aload_n (q := 29) ok dX9_soFar_28 rfl 0 rfl rfl ?_
      refine g_getR (q := 32) ok dX9_soFar_29 rfl fl_X9_12 sX_0 rfl ?_
      refine g_getR (q := 35) ok dX9_soFar_32 rfl fl_X9_195 sX_1 rfl ?_
      refine g_iload_n (q := 36) ok dX9_soFar_35 rfl 1 rfl rfl ?_
      refine g_iald (q := 37) ok dX9_soFar_36 rfl sX_9 ?_
      refine g_goto (q := 41) ok dX9_soFar_37 (by decide) ?_
      exact g_iret ok dX9_soFar_41
  · refine g_aload_n (q := 6) ok dX9_soFar_5 rfl 0 rfl rfl ?_
    refine g_getR (q := 9) ok dX9_soFar_6 rfl fl_X9_12 sX_0 rfl ?_
    refine g_getI (q := 12) (N := 0) ok dX9_soFar_9 rfl fl_X9_198 sX_1 rfl ?_
    exact g_iret ok dX9_soFar_12
set_option maxRecDepth 20000 in
theorem kX9_areSleepers (a1 : Int32) (w : gT) : gM S1 cl1 gTs yX9_areSleepers cX9_areSleepers 2 (some .boolean) rmX9_areSleepers gi [.ref 0, .int a1] w (xX9_areSleepers a1 w) := by
  refine gM_of (own := RX9) [(0, .ref 0), (1, .int a1)] rfl (by decide) (fun _ => rfl) (fun _ => Nat.le_of_ble_eq_true rfl) (fun κ ok => ?_)
  unfold xX9_areSleepers
  refine g_iload_n (q := 1) ok dX9_areSleepers_0 rfl 1 rfl rfl ?_
  refine g_if_eq (q := 4) (g := 22) ok dX9_areSleepers_1 rfl (by decide) ?_ ?_
  · refine g_iconst (v := (nI 0)) (q := 23) ok dX9_areSleepers_22 rfl (by decide) ?_
    exact g_zret ok dX9_areSleepers_23 rfl
  · refine g_iload_n (q := 5) ok dX9_areSleepers_4 rfl 1 rfl rfl ?_
    refine g_aload_n (q := 6) ok dX9_areSleepers_5 rfl 0 rfl rfl ?_
    refine g_getR (q := 9) ok dX9_areSleepers_6 rfl fl_X9_12 sX_0 rfl ?_
    refine g_getI (q := 12) (N := 0) ok dX9_areSleepers_9 rfl fl_X9_229 sX_1 rfl ?_
    refine g_iconst (v := (-1)) (q := 13) ok dX9_areSleepers_12 rfl (by decide) ?_
    refine g_ixor (q := 14) ok dX9_areSleepers_13 rfl ?_
    refine g_iand (q := 15) ok dX9_areSleepers_14 rfl ?_
    refine g_if_ne (q := 18) (g := 22) ok dX9_areSleepers_15 rfl (by decide) ?_ ?_
    · refine g_iconst (v := (nI 0)) (q := 23) ok dX9_areSleepers_22 rfl (by decide) ?_
      exact g_zret ok dX9_areSleepers_23 rfl
    · refine g_iconst (v := (nI 1)) (q := 19) ok dX9_areSleepers_18 rfl (by decide) ?_
      refine g_goto (q := 23) ok dX9_areSleepers_19 (by decide) ?_
      exact g_zret ok dX9_areSleepers_23 rfl
set_option maxRecDepth 20000 in
theorem kX1_frightenedBy (N : Nat) (a1 : Int32) (a2 : Int32) (a3 : Int32) (w : gT) : gM S1 cl1 gTs yX1_frightenedBy cX1_frightenedBy 8 (some .int) rmX1_frightenedBy gi [.ref 48, .int a1, .int a2, .int a3] w (xX1_frightenedBy N a1 a2 a3 w) := by
  refine gM_of (own := RX1) [(0, .ref 48), (1, .int a1), (2, .int a2), (3, .int a3)] rfl (by decide) (fun _ => rfl) (fun _ => Nat.le_of_ble_eq_true rfl) (fun κ ok => ?_)
  unfold xX1_frightenedBy
  refine g_iconst (v := (nI 0)) (q := 1) ok dX1_frightenedBy_0 rfl (by decide) ?_
  refine g_istore (q := 3) (L' := [(4, .int (nI 0)), (0, .ref 48), (1, .int a1), (2, .int a2), (3, .int a3)]) ok dX1_frightenedBy_1 rfl (by decide) rfl rfl ?_
  refine g_iconst (v := (nI 0)) (q := 4) ok dX1_frightenedBy_3 rfl (by decide) ?_
  refine g_istore (q := 6) (L' := [(5, .int (nI 0)), (4, .int (nI 0)), (0, .ref 48), (1, .int a1), (2, .int a2), (3, .int a3)]) ok dX1_frightenedBy_4 rfl (by decide) rfl rfl ?_
  refine g_to (L' := [(0, .ref 48), (1, .int a1), (2, .int a2), (3, .int a3), (4, .int (nI 0)), (5, .int (nI 0))]) ?_ [2, 3, 4, 5, 1, 0] rfl
  refine g_loop2 (Lf := fun v2 v3 => [(0, .ref 48), (1, .int a1), (2, .int a2), (3, .int a3), (4, .int v2), (5, .int v3)]) (fun go1 hgo1 v2 v3 w4 => ?_) N _ _ _
  unfold xX1_frightenedBy_b6
  refine g_iload (q := 8) ok dX1_frightenedBy_6 rfl 5 rfl ?_
  refine g_bipush (v := (nI 10)) (q := 10) ok dX1_frightenedBy_8 rfl (by decide) ?_
  refine g_icmp_ge (q := 13) (g := 91) ok dX1_frightenedBy_10 rfl (by decide) ?_ ?_
  · refine g_iload (q := 93) ok dX1_frightenedBy_91 rfl 4 rfl ?_
    exact g_iret ok dX1_frightenedBy_93
  · refine g_join (P := fun k5 => ∀ (v6 : Int32) (v7 : Int32) (w8 : gT), gJ S1 cl1 rmX1_frightenedBy 8 gi κ 53 [(0, .ref 48), (1, .int a1), (2, .int a2), (3, .int a3), (4, .int v2), (5, .int v3), (6, .int v6)] [.int v7] w8 (k5 v6 v7 w8)) (fun v6 v7 w8 => ?_) (fun k5 hk5 => ?_)
    · refine g_join (P := fun k9 => ∀ (v10 : Int32) (w11 : gT), gJ S1 cl1 rmX1_frightenedBy 8 gi κ 85 [(0, .ref 48), (1, .int a1), (2, .int a2), (3, .int a3), (5, .int v3), (4, .int v10)] [] w11 (k9 v10 w11)) (fun v10 w11 => ?_) (fun k9 hk9 => ?_)
      · refine g_iinc (v := v3 + (nI 1)) (q := 88) (L' := [(5, .int (v3 + (nI 1))), (0, .ref 48), (1, .int a1), (2, .int a2), (3, .int a3), (4, .int v10)]) ok dX1_frightenedBy_85 rfl 4 rfl rfl (by decide) rfl rfl ?_
        refine g_goto (q := 6) ok dX1_frightenedBy_88 (by decide) ?_
        refine g_to (L' := [(0, .ref 48), (1, .int a1), (2, .int a2), (3, .int a3), (4, .int v10), (5, .int (v3 + (nI 1)))]) ?_ [1, 2, 3, 4, 5, 0] rfl
        exact hgo1 _ _ _
      · refine g_istore (q := 55) (L' := [(7, .int v7), (0, .ref 48), (1, .int a1), (2, .int a2), (3, .int a3), (4, .int v2), (5, .int v3), (6, .int v6)]) ok dX1_frightenedBy_53 rfl (by decide) rfl rfl ?_
        refine g_iload (q := 57) ok dX1_frightenedBy_55 rfl 0 rfl ?_
        refine g_if_eq (q := 60) (g := 85) ok dX1_frightenedBy_57 rfl (by decide) ?_ ?_
        · refine g_to (L' := [(0, .ref 48), (1, .int a1), (2, .int a2), (3, .int a3), (5, .int v3), (4, .int v2)]) ?_ [1, 2, 3, 4, 6, 5] rfl
          exact hk9 _ _
        · refine g_aload_n (q := 61) ok dX1_frightenedBy_60 rfl 1 rfl rfl ?_
          refine g_iload_n (q := 62) ok dX1_frightenedBy_61 rfl 2 rfl rfl ?_
          refine g_iload (q := 64) ok dX1_frightenedBy_62 rfl 6 rfl ?_
          refine g_iload_n (q := 65) ok dX1_frightenedBy_64 rfl 3 rfl rfl ?_
          refine g_iload (q := 67) ok dX1_frightenedBy_65 rfl 7 rfl ?_
          refine g_iconst (v := (nI 0)) (q := 68) ok dX1_frightenedBy_67 rfl (by decide) ?_
          refine g_callVi (q := 71) (As := [.int a1, .int v3, .int a2, .int v6, .int (nI 0)]) (st := []) ok tbl_good dX1_frightenedBy_68 rfl (kX1_frightOf N _ _ _ _ _ _) cf_X1_68 ⟨rfl, rfl, Nat.le_of_ble_eq_true rfl, Nat.le_of_ble_eq_true rfl⟩ sX_48 rfl rfl rfl (fun _ => Nat.le_of_ble_eq_true rfl) (fun v12 w13 => ?_)
          refine g_bipush (v := (-2)) (q := 73) ok dX1_frightenedBy_71 rfl (by decide) ?_
          refine g_icmp_eq (q := 76) (g := 85) ok dX1_frightenedBy_73 rfl (by decide) ?_ ?_
          · refine g_to (L' := [(0, .ref 48), (1, .int a1), (2, .int a2), (3, .int a3), (5, .int v3), (4, .int v2)]) ?_ [1, 2, 3, 4, 6, 5] rfl
            exact hk9 _ _
          · refine g_iload (q := 78) ok dX1_frightenedBy_76 rfl 5 rfl ?_
            refine g_iconst (v := (nI 1)) (q := 79) ok dX1_frightenedBy_78 rfl (by decide) ?_
            refine g_iload (q := 81) ok dX1_frightenedBy_79 rfl 6 rfl ?_
            refine g_ishl (q := 82) ok dX1_frightenedBy_81 rfl ?_
            refine g_ior (q := 83) ok dX1_frightenedBy_82 rfl ?_
            refine g_leti (fun v14 => ?_)
            refine g_istore (q := 85) (L' := [(4, .int v14), (7, .int v7), (0, .ref 48), (1, .int a1), (2, .int a2), (3, .int a3), (5, .int v3), (6, .int v6)]) ok dX1_frightenedBy_83 rfl (by decide) rfl rfl ?_
            refine g_to (L' := [(0, .ref 48), (1, .int a1), (2, .int a2), (3, .int a3), (5, .int v3), (4, .int v14)]) ?_ [2, 3, 4, 5, 6, 0] rfl
            exact hk9 _ _
    · refine g_join (P := fun k15 => ∀ (v16 : Int32) (w17 : gT), gJ S1 cl1 rmX1_frightenedBy 8 gi κ 52 [(0, .ref 48), (1, .int a1), (2, .int a2), (3, .int a3), (4, .int v2), (5, .int v3), (6, .int v16)] [] w17 (k15 v16 w17)) (fun v16 w17 => ?_) (fun k15 hk15 => ?_)
      · refine g_iconst (v := (nI 0)) (q := 53) ok dX1_frightenedBy_52 rfl (by decide) ?_
        exact hk5 _ _ _
      · refine g_aload_n (q := 14) ok dX1_frightenedBy_13 rfl 0 rfl rfl ?_
        refine g_getR (q := 17) ok dX1_frightenedBy_14 rfl fl_X1_17 sX_48 rfl ?_
        refine g_getR (q := 20) ok dX1_frightenedBy_17 rfl fl_X1_42 sX_1 rfl ?_
        refine g_iload_n (q := 21) ok dX1_frightenedBy_20 rfl 2 rfl rfl ?_
        refine g_bipush (v := (nI 10)) (q := 23) ok dX1_frightenedBy_21 rfl (by decide) ?_
        refine g_imul (q := 24) ok dX1_frightenedBy_23 rfl ?_
        refine g_iload (q := 26) ok dX1_frightenedBy_24 rfl 5 rfl ?_
        refine g_iadd (q := 27) ok dX1_frightenedBy_26 rfl ?_
        refine g_iald (q := 28) ok dX1_frightenedBy_27 rfl sX_3 ?_
        refine g_leti (fun v18 => ?_)
        refine g_istore (q := 30) (L' := [(6, .int v18), (0, .ref 48), (1, .int a1), (2, .int a2), (3, .int a3), (4, .int v2), (5, .int v3)]) ok dX1_frightenedBy_28 rfl (by decide) rfl rfl ?_
        refine g_iload_n (q := 31) ok dX1_frightenedBy_30 rfl 4 rfl rfl ?_
        refine g_iload (q := 33) ok dX1_frightenedBy_31 rfl 6 rfl ?_
        refine g_ishr (q := 34) ok dX1_frightenedBy_33 rfl ?_
        refine g_iconst (v := (nI 1)) (q := 35) ok dX1_frightenedBy_34 rfl (by decide) ?_
        refine g_iand (q := 36) ok dX1_frightenedBy_35 rfl ?_
        refine g_iconst (v := (nI 1)) (q := 37) ok dX1_frightenedBy_36 rfl (by decide) ?_
        refine g_icmp_ne (q := 40) (g := 52) ok dX1_frightenedBy_37 rfl (by decide) ?_ ?_
        · refine g_to (L' := [(0, .ref 48), (1, .int a1), (2, .int a2), (3, .int a3), (4, .int v2), (5, .int v3), (6, .int v18)]) ?_ [1, 2, 3, 4, 5, 6, 0] rfl
          exact hk15 _ _
        · refine g_iload (q := 42) ok dX1_frightenedBy_40 rfl 0 rfl ?_
          refine g_sipush (v := (nI 255)) (q := 45) ok dX1_frightenedBy_42 rfl (by decide) ?_
          refine g_icmp_eq (q := 48) (g := 52) ok dX1_frightenedBy_45 rfl (by decide) ?_ ?_
          · refine g_to (L' := [(0, .ref 48), (1, .int a1), (2, .int a2), (3, .int a3), (4, .int v2), (5, .int v3), (6, .int v18)]) ?_ [1, 2, 3, 4, 5, 6, 0] rfl
            exact hk15 _ _
          · refine g_iconst (v := (nI 1)) (q := 49) ok dX1_frightenedBy_48 rfl (by decide) ?_
            refine g_goto (q := 53) ok dX1_frightenedBy_49 (by decide) ?_
            refine g_to (L' := [(0, .ref 48), (1, .int a1), (2, .int a2), (3, .int a3), (4, .int v2), (5, .int v3), (6, .int v18)]) ?_ [1, 2, 3, 4, 5, 6, 0] rfl
            exact hk5 _ _ _
set_option maxRecDepth 20000 in
theorem kX1_within (N : Nat) (a1 : Int32) (a2 : Int32) (a3 : Int32) (a4 : Int32) (w : gT) : gM S1 cl1 gTs yX1_within cX1_within 7 (some .int) rmX1_within gi [.ref 48, .int a1, .int a2, .int a3, .int a4] w (xX1_within N a1 a2 a3 a4 w) := by
  refine gM_of (own := RX1) [(0, .ref 48), (1, .int a1), (2, .int a2), (3, .int a3), (4, .int a4)] rfl (by decide) (fun _ => rfl) (fun _ => Nat.le_of_ble_eq_true rfl) (fun κ ok => ?_)
  unfold xX1_within
  refine g_iconst (v := (nI 0)) (q := 1) ok dX1_within_0 rfl (by decide) ?_
  refine g_istore (q := 3) (L' := [(5, .int (nI 0)), (0, .ref 48), (1, .int a1), (2, .int a2), (3, .int a3), (4, .int a4)]) ok dX1_within_1 rfl (by decide) rfl rfl ?_
  refine g_iconst (v := (nI 0)) (q := 4) ok dX1_within_3 rfl (by decide) ?_
  refine g_istore (q := 6) (L' := [(6, .int (nI 0)), (5, .int (nI 0)), (0, .ref 48), (1, .int a1), (2, .int a2), (3, .int a3), (4, .int a4)]) ok dX1_within_4 rfl (by decide) rfl rfl ?_
  refine g_to (L' := [(0, .ref 48), (1, .int a1), (2, .int a2), (3, .int a3), (4, .int a4), (5, .int (nI 0)), (6, .int (nI 0))]) ?_ [2, 3, 4, 5, 6, 1, 0] rfl
  refine g_loop2 (Lf := fun v2 v3 => [(0, .ref 48), (1, .int a1), (2, .int a2), (3, .int a3), (4, .int a4), (5, .int v2), (6, .int v3)]) (fun go1 hgo1 v2 v3 w4 => ?_) N _ _ _
  unfold xX1_within_b6
  refine g_iload (q := 8) ok dX1_within_6 rfl 6 rfl ?_
  refine g_bipush (v := (nI 10)) (q := 10) ok dX1_within_8 rfl (by decide) ?_
  refine g_icmp_ge (q := 13) (g := 59) ok dX1_within_10 rfl (by decide) ?_ ?_
  · refine g_iload (q := 61) ok dX1_within_59 rfl 5 rfl ?_
    exact g_iret ok dX1_within_61
  · refine g_iload (q := 15) ok dX1_within_13 rfl 4 rfl ?_
    refine g_iload (q := 17) ok dX1_within_15 rfl 6 rfl ?_
    refine g_ishr (q := 18) ok dX1_within_17 rfl ?_
    refine g_if_eq (q := 21) (g := 59) ok dX1_within_18 rfl (by decide) ?_ ?_
    · refine g_iload (q := 61) ok dX1_within_59 rfl 5 rfl ?_
      exact g_iret ok dX1_within_61
    · refine g_join (P := fun k5 => ∀ (v6 : Int32) (w7 : gT), gJ S1 cl1 rmX1_within 7 gi κ 53 [(0, .ref 48), (1, .int a1), (2, .int a2), (3, .int a3), (4, .int a4), (6, .int v3), (5, .int v6)] [] w7 (k5 v6 w7)) (fun v6 w7 => ?_) (fun k5 hk5 => ?_)
      · refine g_iinc (v := v3 + (nI 1)) (q := 56) (L' := [(6, .int (v3 + (nI 1))), (0, .ref 48), (1, .int a1), (2, .int a2), (3, .int a3), (4, .int a4), (5, .int v6)]) ok dX1_within_53 rfl 5 rfl rfl (by decide) rfl rfl ?_
        refine g_goto (q := 6) ok dX1_within_56 (by decide) ?_
        refine g_to (L' := [(0, .ref 48), (1, .int a1), (2, .int a2), (3, .int a3), (4, .int a4), (5, .int v6), (6, .int (v3 + (nI 1)))]) ?_ [1, 2, 3, 4, 5, 6, 0] rfl
        exact hgo1 _ _ _
      · refine g_iload (q := 23) ok dX1_within_21 rfl 4 rfl ?_
        refine g_iload (q := 25) ok dX1_within_23 rfl 6 rfl ?_
        refine g_ishr (q := 26) ok dX1_within_25 rfl ?_
        refine g_iconst (v := (nI 1)) (q := 27) ok dX1_within_26 rfl (by decide) ?_
        refine g_iand (q := 28) ok dX1_within_27 rfl ?_
        refine g_iconst (v := (nI 1)) (q := 29) ok dX1_within_28 rfl (by decide) ?_
        refine g_icmp_ne (q := 32) (g := 53) ok dX1_within_29 rfl (by decide) ?_ ?_
        · refine g_to (L' := [(0, .ref 48), (1, .int a1), (2, .int a2), (3, .int a3), (4, .int a4), (6, .int v3), (5, .int v2)]) ?_ [0, 1, 2, 3, 4, 6, 5] rfl
          exact hk5 _ _
        · refine g_aload_n (q := 33) ok dX1_within_32 rfl 0 rfl rfl ?_
          refine g_iload_n (q := 34) ok dX1_within_33 rfl 1 rfl rfl ?_
          refine g_iload (q := 36) ok dX1_within_34 rfl 6 rfl ?_
          refine g_iload_n (q := 37) ok dX1_within_36 rfl 2 rfl rfl ?_
          refine g_iload_n (q := 38) ok dX1_within_37 rfl 3 rfl rfl ?_
          refine g_callVi (q := 41) (As := [.int a1, .int v3, .int a2, .int a3]) (st := []) ok tbl_good dX1_within_38 rfl (kX1_isNear _ _ _ _ _) cf_X1_25 ⟨rfl, rfl, Nat.le_of_ble_eq_true rfl, Nat.le_of_ble_eq_true rfl⟩ sX_48 rfl rfl rfl (fun _ => Nat.le_of_ble_eq_true rfl) (fun v8 w9 => ?_)
          refine g_if_eq (q := 44) (g := 53) ok dX1_within_41 rfl (by decide) ?_ ?_
          · refine g_to (L' := [(0, .ref 48), (1, .int a1), (2, .int a2), (3, .int a3), (4, .int a4), (6, .int v3), (5, .int v2)]) ?_ [0, 1, 2, 3, 4, 6, 5] rfl
            exact hk5 _ _
          · refine g_iload (q := 46) ok dX1_within_44 rfl 5 rfl ?_
            refine g_iconst (v := (nI 1)) (q := 47) ok dX1_within_46 rfl (by decide) ?_
            refine g_iload (q := 49) ok dX1_within_47 rfl 6 rfl ?_
            refine g_ishl (q := 50) ok dX1_within_49 rfl ?_
            refine g_ior (q := 51) ok dX1_within_50 rfl ?_
            refine g_leti (fun v10 => ?_)
            refine g_istore (q := 53) (L' := [(5, .int v10), (0, .ref 48), (1, .int a1), (2, .int a2), (3, .int a3), (4, .int a4), (6, .int v3)]) ok dX1_within_51 rfl (by decide) rfl rfl ?_
            refine g_to (L' := [(0, .ref 48), (1, .int a1), (2, .int a2), (3, .int a3), (4, .int a4), (6, .int v3), (5, .int v10)]) ?_ [1, 2, 3, 4, 5, 6, 0] rfl
            exact hk5 _ _
set_option maxRecDepth 20000 in
theorem kX0_fewest (a1 : Int32) (a2 : Int32) (w : gT) : gM S1 cl1 gTs yX0_fewest cX0_fewest 3 (some .int) rmX0_fewest gi [.ref 52, .int a1, .int a2] w (xX0_fewest a1 a2 w) := by
  refine gM_of (own := RX0) [(0, .ref 52), (1, .int a1), (2, .int a2)] rfl (by decide) (fun _ => rfl) (fun _ => Nat.le_of_ble_eq_true rfl) (fun κ ok => ?_)
  unfold xX0_fewest
  refine g_aload_n (q := 1) ok dX0_fewest_0 rfl 0 rfl rfl ?_
  refine g_getR (q := 4) ok dX0_fewest_1 rfl fl_X0_11 sX_52 rfl ?_
  refine g_iload_n (q := 5) ok dX0_fewest_4 rfl 2 rfl rfl ?_
  refine g_lald (q := 6) ok dX0_fewest_5 rfl sX_53 ?_
  refine g_iconst (v := (nI 4)) (q := 7) ok dX0_fewest_6 rfl (by decide) ?_
  refine g_iload_n (q := 8) ok dX0_fewest_7 rfl 1 rfl rfl ?_
  refine g_imul (q := 9) ok dX0_fewest_8 rfl ?_
  refine g_lshr (q := 10) ok dX0_fewest_9 rfl ?_
  refine g_l2i (q := 11) ok dX0_fewest_10 rfl ?_
  refine g_bipush (v := (nI 15)) (q := 13) ok dX0_fewest_11 rfl (by decide) ?_
  refine g_iand (q := 14) ok dX0_fewest_13 rfl ?_
  exact g_iret ok dX0_fewest_14
set_option maxRecDepth 20000 in
theorem kX0_useWalk (N : Nat) (a1 : Int32) (a2 : Int32) (w : gT) : gM S1 cl1 gTs yX0_useWalk cX0_useWalk 8 none rmX0_useWalk gv [.ref 52, .int a1, .int a2] w (xX0_useWalk N a1 a2 w) := by
  refine gM_of (own := RX0) [(0, .ref 52), (1, .int a1), (2, .int a2)] rfl (by decide) (fun _ => rfl) (fun _ => Nat.le_of_ble_eq_true rfl) (fun κ ok => ?_)
  unfold xX0_useWalk
  refine g_aload_n (q := 1) ok dX0_useWalk_0 rfl 0 rfl rfl ?_
  refine g_getI (q := 4) (N := 0) ok dX0_useWalk_1 rfl fl_X0_30 sX_52 rfl ?_
  refine g_iload_n (q := 5) ok dX0_useWalk_4 rfl 2 rfl rfl ?_
  refine g_iconst (v := (-1)) (q := 6) ok dX0_useWalk_5 rfl (by decide) ?_
  refine g_ixor (q := 7) ok dX0_useWalk_6 rfl ?_
  refine g_iand (q := 8) ok dX0_useWalk_7 rfl ?_
  refine g_leti (fun v1 => ?_)
  refine g_istore_n (q := 9) (L' := [(3, .int v1), (0, .ref 52), (1, .int a1), (2, .int a2)]) ok dX0_useWalk_8 rfl rfl (by decide) rfl rfl ?_
  refine g_iload_n (q := 10) ok dX0_useWalk_9 rfl 0 rfl rfl ?_
  refine g_istore (q := 12) (L' := [(4, .int v1), (3, .int v1), (0, .ref 52), (1, .int a1), (2, .int a2)]) ok dX0_useWalk_10 rfl (by decide) rfl rfl ?_
  refine g_iconst (v := (nI 0)) (q := 13) ok dX0_useWalk_12 rfl (by decide) ?_
  refine g_istore (q := 15) (L' := [(5, .int (nI 0)), (4, .int v1), (3, .int v1), (0, .ref 52), (1, .int a1), (2, .int a2)]) ok dX0_useWalk_13 rfl (by decide) rfl rfl ?_
  refine g_to (L' := [(0, .ref 52), (1, .int a1), (2, .int a2), (3, .int v1), (4, .int v1), (5, .int (nI 0))]) ?_ [3, 4, 5, 2, 1, 0] rfl
  refine g_loop2 (Lf := fun v3 v4 => [(0, .ref 52), (1, .int a1), (2, .int a2), (3, .int v1), (4, .int v3), (5, .int v4)]) (fun go2 hgo2 v3 v4 w5 => ?_) N _ _ _
  unfold xX0_useWalk_b15
  refine g_iload (q := 17) ok dX0_useWalk_15 rfl 5 rfl ?_
  refine g_sipush (v := (nI 1024)) (q := 20) ok dX0_useWalk_17 rfl (by decide) ?_
  refine g_icmp_ge (q := 23) (g := 98) ok dX0_useWalk_20 rfl (by decide) ?_ ?_
  · exact g_vret ok dX0_useWalk_98
  · refine g_join (P := fun k6 => ∀ (w7 : gT), gJ S1 cl1 rmX0_useWalk 8 gv κ 76 [(0, .ref 52), (1, .int a1), (2, .int a2), (3, .int v1), (4, .int v3), (5, .int v4)] [] w7 (k6 w7)) (fun w7 => ?_) (fun k6 hk6 => ?_)
    · refine g_iload (q := 78) ok dX0_useWalk_76 rfl 4 rfl ?_
      refine g_if_ne (q := 81) (g := 84) ok dX0_useWalk_78 rfl (by decide) ?_ ?_
      · refine g_iload (q := 86) ok dX0_useWalk_84 rfl 4 rfl ?_
        refine g_iconst (v := (nI 1)) (q := 87) ok dX0_useWalk_86 rfl (by decide) ?_
        refine g_isub (q := 88) ok dX0_useWalk_87 rfl ?_
        refine g_iload_n (q := 89) ok dX0_useWalk_88 rfl 3 rfl rfl ?_
        refine g_iand (q := 90) ok dX0_useWalk_89 rfl ?_
        refine g_leti (fun v8 => ?_)
        refine g_istore (q := 92) (L' := [(4, .int v8), (0, .ref 52), (1, .int a1), (2, .int a2), (3, .int v1), (5, .int v4)]) ok dX0_useWalk_90 rfl (by decide) rfl rfl ?_
        refine g_iinc (v := v4 + (nI 1)) (q := 95) (L' := [(5, .int (v4 + (nI 1))), (4, .int v8), (0, .ref 52), (1, .int a1), (2, .int a2), (3, .int v1)]) ok dX0_useWalk_92 rfl 5 rfl rfl (by decide) rfl rfl ?_
        refine g_goto (q := 15) ok dX0_useWalk_95 (by decide) ?_
        refine g_to (L' := [(0, .ref 52), (1, .int a1), (2, .int a2), (3, .int v1), (4, .int v8), (5, .int (v4 + (nI 1)))]) ?_ [2, 3, 4, 5, 1, 0] rfl
        exact hgo2 _ _ _
      · refine g_goto (q := 98) ok dX0_useWalk_81 (by decide) ?_
        exact g_vret ok dX0_useWalk_98
    · refine g_aload_n (q := 24) ok dX0_useWalk_23 rfl 0 rfl rfl ?_
      refine g_iload_n (q := 25) ok dX0_useWalk_24 rfl 1 rfl rfl ?_
      refine g_iconst (v := (nI 1)) (q := 26) ok dX0_useWalk_25 rfl (by decide) ?_
      refine g_iadd (q := 27) ok dX0_useWalk_26 rfl ?_
      refine g_iload (q := 29) ok dX0_useWalk_27 rfl 4 rfl ?_
      refine g_callVi (q := 32) (As := [.int (a1 + (nI 1)), .int v3]) (st := []) ok tbl_good dX0_useWalk_29 rfl (kX0_fewest _ _ _) cf_X0_34 ⟨rfl, rfl, Nat.le_of_ble_eq_true rfl, Nat.le_of_ble_eq_true rfl⟩ sX_52 rfl rfl rfl (fun _ => Nat.le_of_ble_eq_true rfl) (fun v9 w10 => ?_)
      refine g_iconst (v := (nI 1)) (q := 33) ok dX0_useWalk_32 rfl (by decide) ?_
      refine g_iadd (q := 34) ok dX0_useWalk_33 rfl ?_
      refine g_leti (fun v11 => ?_)
      refine g_istore (q := 36) (L' := [(6, .int v11), (0, .ref 52), (1, .int a1), (2, .int a2), (3, .int v1), (4, .int v3), (5, .int v4)]) ok dX0_useWalk_34 rfl (by decide) rfl rfl ?_
      refine g_aload_n (q := 37) ok dX0_useWalk_36 rfl 1 rfl rfl ?_
      refine g_iload_n (q := 38) ok dX0_useWalk_37 rfl 2 rfl rfl ?_
      refine g_iload (q := 40) ok dX0_useWalk_38 rfl 5 rfl ?_
      refine g_iload_n (q := 41) ok dX0_useWalk_40 rfl 3 rfl rfl ?_
      refine g_ior (q := 42) ok dX0_useWalk_41 rfl ?_
      refine g_callVi (q := 45) (As := [.int a1, .int (v3 ||| a2)]) (st := []) ok tbl_good dX0_useWalk_42 rfl (kX0_fewest _ _ _) cf_X0_34 ⟨rfl, rfl, Nat.le_of_ble_eq_true rfl, Nat.le_of_ble_eq_true rfl⟩ sX_52 rfl rfl rfl (fun _ => Nat.le_of_ble_eq_true rfl) (fun v12 w13 => ?_)
      refine g_istore (q := 47) (L' := [(7, .int v12), (6, .int v11), (0, .ref 52), (1, .int a1), (2, .int a2), (3, .int v1), (4, .int v3), (5, .int v4)]) ok dX0_useWalk_45 rfl (by decide) rfl rfl ?_
      refine g_iload (q := 49) ok dX0_useWalk_47 rfl 1 rfl ?_
      refine g_iload (q := 51) ok dX0_useWalk_49 rfl 0 rfl ?_
      refine g_icmp_ge (q := 54) (g := 76) ok dX0_useWalk_51 rfl (by decide) ?_ ?_
      · refine g_to (L' := [(0, .ref 52), (1, .int a1), (2, .int a2), (3, .int v1), (4, .int v3), (5, .int v4)]) ?_ [2, 3, 4, 5, 6, 7] rfl
        exact hk6 _
      · refine g_aload_n (q := 55) ok dX0_useWalk_54 rfl 2 rfl rfl ?_
        refine g_getR (q := 58) ok dX0_useWalk_55 rfl fl_X0_11 sX_52 rfl ?_
        refine g_iload (q := 60) ok dX0_useWalk_58 rfl 6 rfl ?_
        refine g_iload_n (q := 61) ok dX0_useWalk_60 rfl 4 rfl rfl ?_
        refine g_ior (q := 62) ok dX0_useWalk_61 rfl ?_
        refine g_leti (fun v14 => ?_)
        refine g_dup2 (q := 63) ok dX0_useWalk_62 rfl (fun _ => ⟨rfl, rfl⟩) ?_
        refine g_lald (q := 64) ok dX0_useWalk_63 rfl sX_53 ?_
        refine g_iload (q := 66) ok dX0_useWalk_64 rfl 0 rfl ?_
        refine g_iload (q := 68) ok dX0_useWalk_66 rfl 1 rfl ?_
        refine g_ixor (q := 69) ok dX0_useWalk_68 rfl ?_
        refine g_i2l (q := 70) ok dX0_useWalk_69 rfl ?_
        refine g_iconst (v := (nI 4)) (q := 71) ok dX0_useWalk_70 rfl (by decide) ?_
        refine g_iload_n (q := 72) ok dX0_useWalk_71 rfl 3 rfl rfl ?_
        refine g_imul (q := 73) ok dX0_useWalk_72 rfl ?_
        refine g_lshl (q := 74) ok dX0_useWalk_73 rfl ?_
        refine g_lxor (q := 75) ok dX0_useWalk_74 rfl ?_
        refine g_last (q := 76) ok dX0_useWalk_75 rfl sX_53 s1_long ?_
        refine g_letw (fun w15 => ?_)
        refine g_to (L' := [(0, .ref 52), (1, .int a1), (2, .int a2), (3, .int v1), (4, .int v3), (5, .int v4)]) ?_ [2, 3, 4, 5, 6, 7] rfl
        exact hk6 _
set_option maxRecDepth 20000 in
theorem kX0_useGhost (N : Nat) (a1 : Int32) (w : gT) : gM S1 cl1 gTs yX0_useGhost cX0_useGhost 6 none rmX0_useGhost gv [.ref 52, .int a1] w (xX0_useGhost N a1 w) := by
  refine gM_of (own := RX0) [(0, .ref 52), (1, .int a1)] rfl (by decide) (fun _ => rfl) (fun _ => Nat.le_of_ble_eq_true rfl) (fun κ ok => ?_)
  unfold xX0_useGhost
  refine g_iconst (v := (nI 0)) (q := 1) ok dX0_useGhost_0 rfl (by decide) ?_
  refine g_istore_n (q := 2) (L' := [(2, .int (nI 0)), (0, .ref 52), (1, .int a1)]) ok dX0_useGhost_1 rfl rfl (by decide) rfl rfl ?_
  refine g_to (L' := [(0, .ref 52), (1, .int a1), (2, .int (nI 0))]) ?_ [1, 2, 0] rfl
  refine g_loop1 (Lf := fun v2 => [(0, .ref 52), (1, .int a1), (2, .int v2)]) (fun go1 hgo1 v2 w3 => ?_) N _ _
  unfold xX0_useGhost_b2
  refine g_iload_n (q := 3) ok dX0_useGhost_2 rfl 2 rfl rfl ?_
  refine g_bipush (v := (nI 7)) (q := 5) ok dX0_useGhost_3 rfl (by decide) ?_
  refine g_icmp_ge (q := 8) (g := 114) ok dX0_useGhost_5 rfl (by decide) ?_ ?_
  · exact g_vret ok dX0_useGhost_114
  · refine g_aload_n (q := 9) ok dX0_useGhost_8 rfl 0 rfl rfl ?_
    refine g_getR (q := 12) ok dX0_useGhost_9 rfl fl_X0_26 sX_52 rfl ?_
    refine g_iload_n (q := 13) ok dX0_useGhost_12 rfl 1 rfl rfl ?_
    refine g_iload_n (q := 14) ok dX0_useGhost_13 rfl 2 rfl rfl ?_
    refine g_aload_n (q := 15) ok dX0_useGhost_14 rfl 0 rfl rfl ?_
    refine g_getI (q := 18) (N := 0) ok dX0_useGhost_15 rfl fl_X0_30 sX_52 rfl ?_
    refine g_callVi (q := 21) (As := [.int a1, .int v2, .int (w3.1 52 6)]) (st := []) ok tbl_good dX0_useGhost_18 rfl (kX1_frightenedBy N _ _ _ _) cf_X0_51 ⟨rfl, rfl, Nat.le_of_ble_eq_true rfl, Nat.le_of_ble_eq_true rfl⟩ sX_48 rfl rfl rfl (fun _ => Nat.le_of_ble_eq_true rfl) (fun v4 w5 => ?_)
    refine g_istore_n (q := 22) (L' := [(3, .int v4), (0, .ref 52), (1, .int a1), (2, .int v2)]) ok dX0_useGhost_21 rfl rfl (by decide) rfl rfl ?_
    refine g_iconst (v := (nI 0)) (q := 23) ok dX0_useGhost_22 rfl (by decide) ?_
    refine g_istore (q := 25) (L' := [(4, .int (nI 0)), (3, .int v4), (0, .ref 52), (1, .int a1), (2, .int v2)]) ok dX0_useGhost_23 rfl (by decide) rfl rfl ?_
    refine g_join (P := fun k6 => ∀ (w7 : gT), gJ S1 cl1 rmX0_useGhost 6 gv κ 108 [(0, .ref 52), (1, .int a1), (2, .int v2)] [] w7 (k6 w7)) (fun w7 => ?_) (fun k6 hk6 => ?_)
    · refine g_iinc (v := v2 + (nI 1)) (q := 111) (L' := [(2, .int (v2 + (nI 1))), (0, .ref 52), (1, .int a1)]) ok dX0_useGhost_108 rfl 2 rfl rfl (by decide) rfl rfl ?_
      refine g_goto (q := 2) ok dX0_useGhost_111 (by decide) ?_
      refine g_to (L' := [(0, .ref 52), (1, .int a1), (2, .int (v2 + (nI 1)))]) ?_ [1, 2, 0] rfl
      exact hgo1 _ _
    · refine g_to (L' := [(0, .ref 52), (1, .int a1), (2, .int v2), (3, .int v4), (4, .int (nI 0))]) ?_ [2, 3, 4, 1, 0] rfl
      refine g_loop1 (Lf := fun v9 => [(0, .ref 52), (1, .int a1), (2, .int v2), (3, .int v4), (4, .int v9)]) (fun go8 hgo8 v9 w10 => ?_) N _ _
      unfold xX0_useGhost_b25
      refine g_iload (q := 27) ok dX0_useGhost_25 rfl 4 rfl ?_
      refine g_bipush (v := (nI 12)) (q := 29) ok dX0_useGhost_27 rfl (by decide) ?_
      refine g_icmp_ge (q := 32) (g := 108) ok dX0_useGhost_29 rfl (by decide) ?_ ?_
      · refine g_to (L' := [(0, .ref 52), (1, .int a1), (2, .int v2)]) ?_ [0, 1, 2] rfl
        exact hk6 _
      · refine g_join (P := fun k11 => ∀ (w12 : gT), gJ S1 cl1 rmX0_useGhost 6 gv κ 102 [(0, .ref 52), (1, .int a1), (2, .int v2), (3, .int v4), (4, .int v9)] [] w12 (k11 w12)) (fun w12 => ?_) (fun k11 hk11 => ?_)
        · refine g_iinc (v := v9 + (nI 1)) (q := 105) (L' := [(4, .int (v9 + (nI 1))), (0, .ref 52), (1, .int a1), (2, .int v2), (3, .int v4)]) ok dX0_useGhost_102 rfl 4 rfl rfl (by decide) rfl rfl ?_
          refine g_goto (q := 25) ok dX0_useGhost_105 (by decide) ?_
          refine g_to (L' := [(0, .ref 52), (1, .int a1), (2, .int v2), (3, .int v4), (4, .int (v9 + (nI 1)))]) ?_ [1, 2, 3, 4, 0] rfl
          exact hgo8 _ _
        · refine g_aload_n (q := 33) ok dX0_useGhost_32 rfl 0 rfl rfl ?_
          refine g_getR (q := 36) ok dX0_useGhost_33 rfl fl_X0_26 sX_52 rfl ?_
          refine g_iload_n (q := 37) ok dX0_useGhost_36 rfl 1 rfl rfl ?_
          refine g_iload_n (q := 38) ok dX0_useGhost_37 rfl 2 rfl rfl ?_
          refine g_iload (q := 40) ok dX0_useGhost_38 rfl 4 rfl ?_
          refine g_iload_n (q := 41) ok dX0_useGhost_40 rfl 3 rfl rfl ?_
          refine g_callVi (q := 44) (As := [.int a1, .int v2, .int v9, .int v4]) (st := []) ok tbl_good dX0_useGhost_41 rfl (kX1_within N _ _ _ _ _) cf_X0_57 ⟨rfl, rfl, Nat.le_of_ble_eq_true rfl, Nat.le_of_ble_eq_true rfl⟩ sX_48 rfl rfl rfl (fun _ => Nat.le_of_ble_eq_true rfl) (fun v13 w14 => ?_)
          refine g_istore (q := 46) (L' := [(5, .int v13), (0, .ref 52), (1, .int a1), (2, .int v2), (3, .int v4), (4, .int v9)]) ok dX0_useGhost_44 rfl (by decide) rfl rfl ?_
          refine g_aload_n (q := 47) ok dX0_useGhost_46 rfl 1 rfl rfl ?_
          refine g_getR (q := 50) ok dX0_useGhost_47 rfl fl_X0_15 sX_52 rfl ?_
          refine g_iload_n (q := 51) ok dX0_useGhost_50 rfl 2 rfl rfl ?_
          refine g_bipush (v := (nI 7)) (q := 53) ok dX0_useGhost_51 rfl (by decide) ?_
          refine g_imul (q := 54) ok dX0_useGhost_53 rfl ?_
          refine g_iload_n (q := 55) ok dX0_useGhost_54 rfl 3 rfl rfl ?_
          refine g_iadd (q := 56) ok dX0_useGhost_55 rfl ?_
          refine g_bipush (v := (nI 12)) (q := 58) ok dX0_useGhost_56 rfl (by decide) ?_
          refine g_imul (q := 59) ok dX0_useGhost_58 rfl ?_
          refine g_iload (q := 61) ok dX0_useGhost_59 rfl 5 rfl ?_
          refine g_iadd (q := 62) ok dX0_useGhost_61 rfl ?_
          refine g_iload (q := 64) ok dX0_useGhost_62 rfl 0 rfl ?_
          refine g_iast (q := 65) ok dX0_useGhost_64 rfl sX_54 ?_
          refine g_letw (fun w15 => ?_)
          refine g_iload (q := 67) ok dX0_useGhost_65 rfl 0 rfl ?_
          refine g_if_eq (q := 70) (g := 102) ok dX0_useGhost_67 rfl (by decide) ?_ ?_
          · refine g_to (L' := [(0, .ref 52), (1, .int a1), (2, .int v2), (3, .int v4), (4, .int v9)]) ?_ [1, 2, 3, 4, 5] rfl
            exact hk11 _
          · refine g_aload_n (q := 71) ok dX0_useGhost_70 rfl 1 rfl rfl ?_
            refine g_getR (q := 74) ok dX0_useGhost_71 rfl fl_X0_19 sX_52 rfl ?_
            refine g_iload (q := 76) ok dX0_useGhost_74 rfl 0 rfl ?_
            refine g_iald (q := 77) ok dX0_useGhost_76 rfl sX_55 ?_
            refine g_aload_n (q := 78) ok dX0_useGhost_77 rfl 1 rfl rfl ?_
            refine g_getI (q := 81) (N := 0) ok dX0_useGhost_78 rfl fl_X0_44 sX_52 rfl ?_
            refine g_icmp_eq (q := 84) (g := 102) ok dX0_useGhost_81 rfl (by decide) ?_ ?_
            · refine g_to (L' := [(0, .ref 52), (1, .int a1), (2, .int v2), (3, .int v4), (4, .int v9)]) ?_ [1, 2, 3, 4, 5] rfl
              exact hk11 _
            · refine g_aload_n (q := 85) ok dX0_useGhost_84 rfl 1 rfl rfl ?_
              refine g_getR (q := 88) ok dX0_useGhost_85 rfl fl_X0_19 sX_52 rfl ?_
              refine g_iload (q := 90) ok dX0_useGhost_88 rfl 0 rfl ?_
              refine g_aload_n (q := 91) ok dX0_useGhost_90 rfl 1 rfl rfl ?_
              refine g_getI (q := 94) (N := 0) ok dX0_useGhost_91 rfl fl_X0_44 sX_52 rfl ?_
              refine g_iast (q := 95) ok dX0_useGhost_94 rfl sX_55 ?_
              refine g_letw (fun w16 => ?_)
              refine g_aload_n (q := 96) ok dX0_useGhost_95 rfl 1 rfl rfl ?_
              refine g_iload_n (q := 97) ok dX0_useGhost_96 rfl 2 rfl rfl ?_
              refine g_iload (q := 99) ok dX0_useGhost_97 rfl 0 rfl ?_
              refine g_callVv (q := 102) (As := [.int a1, .int v13]) (st := []) ok tbl_good dX0_useGhost_99 rfl (kX0_useWalk N _ _ _) cf_X0_61 ⟨rfl, rfl, Nat.le_of_ble_eq_true rfl, Nat.le_of_ble_eq_true rfl⟩ sX_52 rfl rfl rfl (fun _ => Nat.le_of_ble_eq_true rfl) (fun w17 => ?_)
              refine g_to (L' := [(0, .ref 52), (1, .int a1), (2, .int v2), (3, .int v4), (4, .int v9)]) ?_ [1, 2, 3, 4, 5] rfl
              exact hk11 _
set_option maxRecDepth 20000 in
theorem kX0_fill (N : Nat) (a1 : Int32) (w : gT) : gM S1 cl1 gTs yX0_fill cX0_fill 4 none rmX0_fill gv [.ref 52, .int a1] w (xX0_fill N a1 w) := by
  refine gM_of (own := RX0) [(0, .ref 52), (1, .int a1)] rfl (by decide) (fun _ => rfl) (fun _ => Nat.le_of_ble_eq_true rfl) (fun κ ok => ?_)
  unfold xX0_fill
  refine g_aload_n (q := 1) ok dX0_fill_0 rfl 0 rfl rfl ?_
  refine g_iload_n (q := 2) ok dX0_fill_1 rfl 1 rfl rfl ?_
  refine g_sipush (v := (nI 1023)) (q := 5) ok dX0_fill_2 rfl (by decide) ?_
  refine g_iand (q := 6) ok dX0_fill_5 rfl ?_
  refine g_put (q := 9) ok dX0_fill_6 rfl fp_X0_30 sX_52 rfl rfl rfl ?_
  refine g_letw (fun w1 => ?_)
  refine g_iconst (v := (nI 0)) (q := 10) ok dX0_fill_9 rfl (by decide) ?_
  refine g_istore_n (q := 11) (L' := [(2, .int (nI 0)), (0, .ref 52), (1, .int a1)]) ok dX0_fill_10 rfl rfl (by decide) rfl rfl ?_
  refine g_join (P := fun k2 => ∀ (w3 : gT), gJ S1 cl1 rmX0_fill 4 gv κ 44 [(0, .ref 52)] [] w3 (k2 w3)) (fun w3 => ?_) (fun k2 hk2 => ?_)
  · refine g_bipush (v := (nI 9)) (q := 46) ok dX0_fill_44 rfl (by decide) ?_
    refine g_istore_n (q := 47) (L' := [(2, .int (nI 9)), (0, .ref 52)]) ok dX0_fill_46 rfl rfl (by decide) rfl rfl ?_
    refine g_to (L' := [(0, .ref 52), (2, .int (nI 9))]) ?_ [1, 0] rfl
    refine g_loop1 (Lf := fun v5 => [(0, .ref 52), (2, .int v5)]) (fun go4 hgo4 v5 w6 => ?_) N _ _
    unfold xX0_fill_b47
    refine g_iload_n (q := 48) ok dX0_fill_47 rfl 1 rfl rfl ?_
    refine g_if_lt (q := 51) (g := 120) ok dX0_fill_48 rfl (by decide) ?_ ?_
    · exact g_vret ok dX0_fill_120
    · refine g_iconst (v := (nI 0)) (q := 52) ok dX0_fill_51 rfl (by decide) ?_
      refine g_istore_n (q := 53) (L' := [(3, .int (nI 0)), (0, .ref 52), (2, .int v5)]) ok dX0_fill_52 rfl rfl (by decide) rfl rfl ?_
      refine g_join (P := fun k7 => ∀ (w8 : gT), gJ S1 cl1 rmX0_fill 4 gv κ 88 [(0, .ref 52), (2, .int v5)] [] w8 (k7 w8)) (fun w8 => ?_) (fun k7 hk7 => ?_)
      · refine g_join (P := fun k9 => ∀ (w10 : gT), gJ S1 cl1 rmX0_fill 4 gv κ 114 [(0, .ref 52), (2, .int v5)] [] w10 (k9 w10)) (fun w10 => ?_) (fun k9 hk9 => ?_)
        · refine g_iinc (v := v5 + (-1)) (q := 117) (L' := [(2, .int (v5 + (-1))), (0, .ref 52)]) ok dX0_fill_114 rfl 1 rfl rfl (by decide) rfl rfl ?_
          refine g_goto (q := 47) ok dX0_fill_117 (by decide) ?_
          refine g_to (L' := [(0, .ref 52), (2, .int (v5 + (-1)))]) ?_ [1, 0] rfl
          exact hgo4 _ _
        · refine g_aload_n (q := 89) ok dX0_fill_88 rfl 0 rfl rfl ?_
          refine g_getR (q := 92) ok dX0_fill_89 rfl fl_X0_22 sX_52 rfl ?_
          refine g_iload_n (q := 93) ok dX0_fill_92 rfl 1 rfl rfl ?_
          refine g_callVi (q := 96) (As := [.int v5]) (st := []) ok tbl_good dX0_fill_93 rfl (kX2_hasGhost _ _) cf_X0_38 ⟨rfl, rfl, Nat.le_of_ble_eq_true rfl, Nat.le_of_ble_eq_true rfl⟩ sX_1 rfl rfl rfl (fun _ => Nat.le_of_ble_eq_true rfl) (fun v11 w12 => ?_)
          refine g_if_eq (q := 99) (g := 114) ok dX0_fill_96 rfl (by decide) ?_ ?_
          · exact hk9 _
          · refine g_aload_n (q := 100) ok dX0_fill_99 rfl 0 rfl rfl ?_
            refine g_dup (q := 101) ok dX0_fill_100 rfl (fun _ => rfl) ?_
            refine g_getI (q := 104) (N := 0) ok dX0_fill_101 rfl fl_X0_44 sX_52 rfl ?_
            refine g_iconst (v := (nI 1)) (q := 105) ok dX0_fill_104 rfl (by decide) ?_
            refine g_iadd (q := 106) ok dX0_fill_105 rfl ?_
            refine g_put (q := 109) ok dX0_fill_106 rfl fp_X0_44 sX_52 rfl rfl rfl ?_
            refine g_letw (fun w13 => ?_)
            refine g_aload_n (q := 110) ok dX0_fill_109 rfl 0 rfl rfl ?_
            refine g_iload_n (q := 111) ok dX0_fill_110 rfl 1 rfl rfl ?_
            refine g_callVv (q := 114) (As := [.int v5]) (st := []) ok tbl_good dX0_fill_111 rfl (kX0_useGhost N _ _) cf_X0_47 ⟨rfl, rfl, Nat.le_of_ble_eq_true rfl, Nat.le_of_ble_eq_true rfl⟩ sX_52 rfl rfl rfl (fun _ => Nat.le_of_ble_eq_true rfl) (fun w14 => ?_)
            exact hk9 _
      · refine g_to (L' := [(0, .ref 52), (2, .int v5), (3, .int (nI 0))]) ?_ [1, 2, 0] rfl
        refine g_loop1 (Lf := fun v16 => [(0, .ref 52), (2, .int v5), (3, .int v16)]) (fun go15 hgo15 v16 w17 => ?_) N _ _
        unfold xX0_fill_b53
        refine g_iload_n (q := 54) ok dX0_fill_53 rfl 2 rfl rfl ?_
        refine g_sipush (v := (nI 1024)) (q := 57) ok dX0_fill_54 rfl (by decide) ?_
        refine g_icmp_ge (q := 60) (g := 88) ok dX0_fill_57 rfl (by decide) ?_ ?_
        · refine g_to (L' := [(0, .ref 52), (2, .int v5)]) ?_ [0, 1] rfl
          exact hk7 _
        · refine g_aload_n (q := 61) ok dX0_fill_60 rfl 0 rfl rfl ?_
          refine g_getR (q := 64) ok dX0_fill_61 rfl fl_X0_11 sX_52 rfl ?_
          refine g_iload_n (q := 65) ok dX0_fill_64 rfl 2 rfl rfl ?_
          refine g_dup2 (q := 66) ok dX0_fill_65 rfl (fun _ => ⟨rfl, rfl⟩) ?_
          refine g_lald (q := 67) ok dX0_fill_66 rfl sX_53 ?_
          refine g_aload_n (q := 68) ok dX0_fill_67 rfl 0 rfl rfl ?_
          refine g_iload_n (q := 69) ok dX0_fill_68 rfl 1 rfl rfl ?_
          refine g_iconst (v := (nI 1)) (q := 70) ok dX0_fill_69 rfl (by decide) ?_
          refine g_iadd (q := 71) ok dX0_fill_70 rfl ?_
          refine g_iload_n (q := 72) ok dX0_fill_71 rfl 2 rfl rfl ?_
          refine g_callVi (q := 75) (As := [.int (v5 + (nI 1)), .int v16]) (st := [.long (w17.2 v16.toNatClampNeg), .int v16, .ref 53]) ok tbl_good dX0_fill_72 rfl (kX0_fewest _ _ _) cf_X0_34 ⟨rfl, rfl, Nat.le_of_ble_eq_true rfl, Nat.le_of_ble_eq_true rfl⟩ sX_52 rfl rfl rfl (fun _ => Nat.le_of_ble_eq_true rfl) (fun v18 w19 => ?_)
          refine g_i2l (q := 76) ok dX0_fill_75 rfl ?_
          refine g_iconst (v := (nI 4)) (q := 77) ok dX0_fill_76 rfl (by decide) ?_
          refine g_iload_n (q := 78) ok dX0_fill_77 rfl 1 rfl rfl ?_
          refine g_imul (q := 79) ok dX0_fill_78 rfl ?_
          refine g_lshl (q := 80) ok dX0_fill_79 rfl ?_
          refine g_lor (q := 81) ok dX0_fill_80 rfl ?_
          refine g_last (q := 82) ok dX0_fill_81 rfl sX_53 s1_long ?_
          refine g_letw (fun w20 => ?_)
          refine g_iinc (v := v16 + (nI 1)) (q := 85) (L' := [(3, .int (v16 + (nI 1))), (0, .ref 52), (2, .int v5)]) ok dX0_fill_82 rfl 2 rfl rfl (by decide) rfl rfl ?_
          refine g_goto (q := 53) ok dX0_fill_85 (by decide) ?_
          refine g_to (L' := [(0, .ref 52), (2, .int v5), (3, .int (v16 + (nI 1)))]) ?_ [1, 2, 0] rfl
          exact hgo15 _ _
  · refine g_to (L' := [(0, .ref 52), (2, .int (nI 0))]) ?_ [1, 0] rfl
    refine g_loop1 (Lf := fun v22 => [(0, .ref 52), (2, .int v22)]) (fun go21 hgo21 v22 w23 => ?_) N _ _
    unfold xX0_fill_b11
    refine g_iload_n (q := 12) ok dX0_fill_11 rfl 1 rfl rfl ?_
    refine g_sipush (v := (nI 1024)) (q := 15) ok dX0_fill_12 rfl (by decide) ?_
    refine g_icmp_ge (q := 18) (g := 44) ok dX0_fill_15 rfl (by decide) ?_ ?_
    · refine g_to (L' := [(0, .ref 52)]) ?_ [0] rfl
      exact hk2 _
    · refine g_join (P := fun k24 => ∀ (v25 : Int32) (v26 : Int32) (w27 : gT), gJ S1 cl1 rmX0_fill 4 gv κ 33 [(0, .ref 52), (2, .int v22)] [.int v26, .int v25, .ref 53] w27 (k24 v25 v26 w27)) (fun v25 v26 w27 => ?_) (fun k24 hk24 => ?_)
      · refine g_i2l (q := 34) ok dX0_fill_33 rfl ?_
        refine g_bipush (v := (nI 40)) (q := 36) ok dX0_fill_34 rfl (by decide) ?_
        refine g_lshl (q := 37) ok dX0_fill_36 rfl ?_
        refine g_last (q := 38) ok dX0_fill_37 rfl sX_53 s1_long ?_
        refine g_letw (fun w28 => ?_)
        refine g_iinc (v := v22 + (nI 1)) (q := 41) (L' := [(2, .int (v22 + (nI 1))), (0, .ref 52)]) ok dX0_fill_38 rfl 1 rfl rfl (by decide) rfl rfl ?_
        refine g_goto (q := 11) ok dX0_fill_41 (by decide) ?_
        refine g_to (L' := [(0, .ref 52), (2, .int (v22 + (nI 1)))]) ?_ [1, 0] rfl
        exact hgo21 _ _
      · refine g_aload_n (q := 19) ok dX0_fill_18 rfl 0 rfl rfl ?_
        refine g_getR (q := 22) ok dX0_fill_19 rfl fl_X0_11 sX_52 rfl ?_
        refine g_iload_n (q := 23) ok dX0_fill_22 rfl 1 rfl rfl ?_
        refine g_iload_n (q := 24) ok dX0_fill_23 rfl 1 rfl rfl ?_
        refine g_if_ne (q := 27) (g := 31) ok dX0_fill_24 rfl (by decide) ?_ ?_
        · refine g_bipush (v := (nI 15)) (q := 33) ok dX0_fill_31 rfl (by decide) ?_
          exact hk24 _ _ _
        · refine g_iconst (v := (nI 0)) (q := 28) ok dX0_fill_27 rfl (by decide) ?_
          refine g_goto (q := 33) ok dX0_fill_28 (by decide) ?_
          exact hk24 _ _ _
set_option maxRecDepth 20000 in
theorem kX0_isFound (w : gT) : gM S1 cl1 gTs yX0_isFound cX0_isFound 1 (some .boolean) rmX0_isFound gi [.ref 52] w (xX0_isFound w) := by
  refine gM_of (own := RX0) [(0, .ref 52)] rfl (by decide) (fun _ => rfl) (fun _ => Nat.le_of_ble_eq_true rfl) (fun κ ok => ?_)
  unfold xX0_isFound
  refine g_aload_n (q := 1) ok dX0_isFound_0 rfl 0 rfl rfl ?_
  refine g_iconst (v := (nI 0)) (q := 2) ok dX0_isFound_1 rfl (by decide) ?_
  refine g_aload_n (q := 3) ok dX0_isFound_2 rfl 0 rfl rfl ?_
  refine g_getI (q := 6) (N := 0) ok dX0_isFound_3 rfl fl_X0_30 sX_52 rfl ?_
  refine g_callVi (q := 9) (As := [.int (nI 0), .int (w.1 52 6)]) (st := []) ok tbl_good dX0_isFound_6 rfl (kX0_fewest _ _ _) cf_X0_34 ⟨rfl, rfl, Nat.le_of_ble_eq_true rfl, Nat.le_of_ble_eq_true rfl⟩ sX_52 rfl rfl rfl (fun _ => Nat.le_of_ble_eq_true rfl) (fun v1 w2 => ?_)
  refine g_bipush (v := (nI 15)) (q := 11) ok dX0_isFound_9 rfl (by decide) ?_
  refine g_icmp_eq (q := 14) (g := 18) ok dX0_isFound_11 rfl (by decide) ?_ ?_
  · refine g_iconst (v := (nI 0)) (q := 19) ok dX0_isFound_18 rfl (by decide) ?_
    exact g_zret ok dX0_isFound_19 rfl
  · refine g_iconst (v := (nI 1)) (q := 15) ok dX0_isFound_14 rfl (by decide) ?_
    refine g_goto (q := 19) ok dX0_isFound_15 (by decide) ?_
    exact g_zret ok dX0_isFound_19 rfl
set_option maxRecDepth 20000 in
theorem kX0_leastWalk (N : Nat) (a1 : Int32) (a2 : Int32) (w : gT) : gM S1 cl1 gTs yX0_leastWalk cX0_leastWalk 5 (some .int) rmX0_leastWalk gi [.ref 52, .int a1, .int a2] w (xX0_leastWalk N a1 a2 w) := by
  refine gM_of (own := RX0) [(0, .ref 52), (1, .int a1), (2, .int a2)] rfl (by decide) (fun _ => rfl) (fun _ => Nat.le_of_ble_eq_true rfl) (fun κ ok => ?_)
  unfold xX0_leastWalk
  refine g_iconst (v := (nI 0)) (q := 1) ok dX0_leastWalk_0 rfl (by decide) ?_
  refine g_istore_n (q := 2) (L' := [(3, .int (nI 0)), (0, .ref 52), (1, .int a1), (2, .int a2)]) ok dX0_leastWalk_1 rfl rfl (by decide) rfl rfl ?_
  refine g_to (L' := [(0, .ref 52), (1, .int a1), (2, .int a2), (3, .int (nI 0))]) ?_ [1, 2, 3, 0] rfl
  refine g_loop1 (Lf := fun v2 => [(0, .ref 52), (1, .int a1), (2, .int a2), (3, .int v2)]) (fun go1 hgo1 v2 w3 => ?_) N _ _
  unfold xX0_leastWalk_b2
  refine g_iload_n (q := 3) ok dX0_leastWalk_2 rfl 3 rfl rfl ?_
  refine g_bipush (v := (nI 84)) (q := 5) ok dX0_leastWalk_3 rfl (by decide) ?_
  refine g_icmp_ge (q := 8) (g := 65) ok dX0_leastWalk_5 rfl (by decide) ?_ ?_
  · refine g_bipush (v := (nI 84)) (q := 67) ok dX0_leastWalk_65 rfl (by decide) ?_
    exact g_iret ok dX0_leastWalk_67
  · refine g_join (P := fun k4 => ∀ (w5 : gT), gJ S1 cl1 rmX0_leastWalk 5 gi κ 59 [(0, .ref 52), (1, .int a1), (2, .int a2), (3, .int v2)] [] w5 (k4 w5)) (fun w5 => ?_) (fun k4 hk4 => ?_)
    · refine g_iinc (v := v2 + (nI 1)) (q := 62) (L' := [(3, .int (v2 + (nI 1))), (0, .ref 52), (1, .int a1), (2, .int a2)]) ok dX0_leastWalk_59 rfl 3 rfl rfl (by decide) rfl rfl ?_
      refine g_goto (q := 2) ok dX0_leastWalk_62 (by decide) ?_
      refine g_to (L' := [(0, .ref 52), (1, .int a1), (2, .int a2), (3, .int (v2 + (nI 1)))]) ?_ [1, 2, 3, 0] rfl
      exact hgo1 _ _
    · refine g_aload_n (q := 9) ok dX0_leastWalk_8 rfl 0 rfl rfl ?_
      refine g_getR (q := 12) ok dX0_leastWalk_9 rfl fl_X0_15 sX_52 rfl ?_
      refine g_iload_n (q := 13) ok dX0_leastWalk_12 rfl 1 rfl rfl ?_
      refine g_bipush (v := (nI 84)) (q := 15) ok dX0_leastWalk_13 rfl (by decide) ?_
      refine g_imul (q := 16) ok dX0_leastWalk_15 rfl ?_
      refine g_iload_n (q := 17) ok dX0_leastWalk_16 rfl 3 rfl rfl ?_
      refine g_iadd (q := 18) ok dX0_leastWalk_17 rfl ?_
      refine g_iald (q := 19) ok dX0_leastWalk_18 rfl sX_54 ?_
      refine g_leti (fun v6 => ?_)
      refine g_istore (q := 21) (L' := [(4, .int v6), (0, .ref 52), (1, .int a1), (2, .int a2), (3, .int v2)]) ok dX0_leastWalk_19 rfl (by decide) rfl rfl ?_
      refine g_iload (q := 23) ok dX0_leastWalk_21 rfl 0 rfl ?_
      refine g_if_eq (q := 26) (g := 59) ok dX0_leastWalk_23 rfl (by decide) ?_ ?_
      · refine g_to (L' := [(0, .ref 52), (1, .int a1), (2, .int a2), (3, .int v2)]) ?_ [1, 2, 3, 4] rfl
        exact hk4 _
      · refine g_iload (q := 28) ok dX0_leastWalk_26 rfl 0 rfl ?_
        refine g_iload_n (q := 29) ok dX0_leastWalk_28 rfl 3 rfl rfl ?_
        refine g_iconst (v := (-1)) (q := 30) ok dX0_leastWalk_29 rfl (by decide) ?_
        refine g_ixor (q := 31) ok dX0_leastWalk_30 rfl ?_
        refine g_iand (q := 32) ok dX0_leastWalk_31 rfl ?_
        refine g_if_ne (q := 35) (g := 59) ok dX0_leastWalk_32 rfl (by decide) ?_ ?_
        · refine g_to (L' := [(0, .ref 52), (1, .int a1), (2, .int a2), (3, .int v2)]) ?_ [1, 2, 3, 4] rfl
          exact hk4 _
        · refine g_aload_n (q := 36) ok dX0_leastWalk_35 rfl 1 rfl rfl ?_
          refine g_iload_n (q := 37) ok dX0_leastWalk_36 rfl 2 rfl rfl ?_
          refine g_iconst (v := (nI 1)) (q := 38) ok dX0_leastWalk_37 rfl (by decide) ?_
          refine g_iadd (q := 39) ok dX0_leastWalk_38 rfl ?_
          refine g_iload_n (q := 40) ok dX0_leastWalk_39 rfl 3 rfl rfl ?_
          refine g_iload (q := 42) ok dX0_leastWalk_40 rfl 0 rfl ?_
          refine g_ixor (q := 43) ok dX0_leastWalk_42 rfl ?_
          refine g_callVi (q := 46) (As := [.int (a1 + (nI 1)), .int (a2 ^^^ v6)]) (st := []) ok tbl_good dX0_leastWalk_43 rfl (kX0_fewest _ _ _) cf_X0_34 ⟨rfl, rfl, Nat.le_of_ble_eq_true rfl, Nat.le_of_ble_eq_true rfl⟩ sX_52 rfl rfl rfl (fun _ => Nat.le_of_ble_eq_true rfl) (fun v7 w8 => ?_)
          refine g_iconst (v := (nI 1)) (q := 47) ok dX0_leastWalk_46 rfl (by decide) ?_
          refine g_iadd (q := 48) ok dX0_leastWalk_47 rfl ?_
          refine g_aload_n (q := 49) ok dX0_leastWalk_48 rfl 1 rfl rfl ?_
          refine g_iload_n (q := 50) ok dX0_leastWalk_49 rfl 2 rfl rfl ?_
          refine g_iload_n (q := 51) ok dX0_leastWalk_50 rfl 3 rfl rfl ?_
          refine g_callVi (q := 54) (As := [.int a1, .int a2]) (st := [.int (v7 + (nI 1))]) ok tbl_good dX0_leastWalk_51 rfl (kX0_fewest _ _ _) cf_X0_34 ⟨rfl, rfl, Nat.le_of_ble_eq_true rfl, Nat.le_of_ble_eq_true rfl⟩ sX_52 rfl rfl rfl (fun _ => Nat.le_of_ble_eq_true rfl) (fun v9 w10 => ?_)
          refine g_icmp_ne (q := 57) (g := 59) ok dX0_leastWalk_54 rfl (by decide) ?_ ?_
          · refine g_to (L' := [(0, .ref 52), (1, .int a1), (2, .int a2), (3, .int v2)]) ?_ [1, 2, 3, 4] rfl
            exact hk4 _
          · refine g_iload_n (q := 58) ok dX0_leastWalk_57 rfl 4 rfl rfl ?_
            exact g_iret ok dX0_leastWalk_58
set_option maxRecDepth 20000 in
theorem kX0_walkOf (N : Nat) (a1 : Int32) (w : gT) : gM S1 cl1 gTs yX0_walkOf cX0_walkOf 5 (some .int) rmX0_walkOf gi [.ref 52, .int a1] w (xX0_walkOf N a1 w) := by
  refine gM_of (own := RX0) [(0, .ref 52), (1, .int a1)] rfl (by decide) (fun _ => rfl) (fun _ => Nat.le_of_ble_eq_true rfl) (fun κ ok => ?_)
  unfold xX0_walkOf
  refine g_aload_n (q := 1) ok dX0_walkOf_0 rfl 0 rfl rfl ?_
  refine g_getI (q := 4) (N := 0) ok dX0_walkOf_1 rfl fl_X0_30 sX_52 rfl ?_
  refine g_leti (fun v1 => ?_)
  refine g_istore_n (q := 5) (L' := [(2, .int v1), (0, .ref 52), (1, .int a1)]) ok dX0_walkOf_4 rfl rfl (by decide) rfl rfl ?_
  refine g_bipush (v := (nI 84)) (q := 7) ok dX0_walkOf_5 rfl (by decide) ?_
  refine g_istore_n (q := 8) (L' := [(3, .int (nI 84)), (2, .int v1), (0, .ref 52), (1, .int a1)]) ok dX0_walkOf_7 rfl rfl (by decide) rfl rfl ?_
  refine g_iconst (v := (nI 0)) (q := 9) ok dX0_walkOf_8 rfl (by decide) ?_
  refine g_istore (q := 11) (L' := [(4, .int (nI 0)), (3, .int (nI 84)), (2, .int v1), (0, .ref 52), (1, .int a1)]) ok dX0_walkOf_9 rfl (by decide) rfl rfl ?_
  refine g_to (L' := [(0, .ref 52), (1, .int a1), (2, .int v1), (3, .int (nI 84)), (4, .int (nI 0))]) ?_ [3, 4, 2, 1, 0] rfl
  refine g_loop3 (Lf := fun v3 v4 v5 => [(0, .ref 52), (1, .int a1), (2, .int v3), (3, .int v4), (4, .int v5)]) (fun go2 hgo2 v3 v4 v5 w6 => ?_) N _ _ _ _
  unfold xX0_walkOf_b11
  refine g_iload (q := 13) ok dX0_walkOf_11 rfl 4 rfl ?_
  refine g_iload_n (q := 14) ok dX0_walkOf_13 rfl 1 rfl rfl ?_
  refine g_icmp_gt (q := 17) (g := 76) ok dX0_walkOf_14 rfl (by decide) ?_ ?_
  · refine g_iload_n (q := 77) ok dX0_walkOf_76 rfl 3 rfl rfl ?_
    exact g_iret ok dX0_walkOf_77
  · refine g_iload (q := 19) ok dX0_walkOf_17 rfl 4 rfl ?_
    refine g_bipush (v := (nI 10)) (q := 21) ok dX0_walkOf_19 rfl (by decide) ?_
    refine g_icmp_ge (q := 24) (g := 76) ok dX0_walkOf_21 rfl (by decide) ?_ ?_
    · refine g_iload_n (q := 77) ok dX0_walkOf_76 rfl 3 rfl rfl ?_
      exact g_iret ok dX0_walkOf_77
    · refine g_join (P := fun k7 => ∀ (v8 : Int32) (w9 : gT), gJ S1 cl1 rmX0_walkOf 5 gi κ 48 [(0, .ref 52), (1, .int a1), (2, .int v3), (4, .int v5)] [.int v8] w9 (k7 v8 w9)) (fun v8 w9 => ?_) (fun k7 hk7 => ?_)
      · refine g_join (P := fun k10 => ∀ (v11 : Int32) (v12 : Int32) (w13 : gT), gJ S1 cl1 rmX0_walkOf 5 gi κ 70 [(0, .ref 52), (1, .int a1), (4, .int v5), (2, .int v11), (3, .int v12)] [] w13 (k10 v11 v12 w13)) (fun v11 v12 w13 => ?_) (fun k10 hk10 => ?_)
        · refine g_iinc (v := v5 + (nI 1)) (q := 73) (L' := [(4, .int (v5 + (nI 1))), (0, .ref 52), (1, .int a1), (2, .int v11), (3, .int v12)]) ok dX0_walkOf_70 rfl 2 rfl rfl (by decide) rfl rfl ?_
          refine g_goto (q := 11) ok dX0_walkOf_73 (by decide) ?_
          refine g_to (L' := [(0, .ref 52), (1, .int a1), (2, .int v11), (3, .int v12), (4, .int (v5 + (nI 1)))]) ?_ [1, 2, 3, 4, 0] rfl
          exact hgo2 _ _ _ _
        · refine g_istore_n (q := 49) (L' := [(3, .int v8), (0, .ref 52), (1, .int a1), (2, .int v3), (4, .int v5)]) ok dX0_walkOf_48 rfl rfl (by decide) rfl rfl ?_
          refine g_iload_n (q := 50) ok dX0_walkOf_49 rfl 0 rfl rfl ?_
          refine g_bipush (v := (nI 84)) (q := 52) ok dX0_walkOf_50 rfl (by decide) ?_
          refine g_icmp_ge (q := 55) (g := 70) ok dX0_walkOf_52 rfl (by decide) ?_ ?_
          · refine g_to (L' := [(0, .ref 52), (1, .int a1), (4, .int v5), (2, .int v3), (3, .int v8)]) ?_ [1, 2, 4, 3, 0] rfl
            exact hk10 _ _ _
          · refine g_iload_n (q := 56) ok dX0_walkOf_55 rfl 3 rfl rfl ?_
            refine g_aload_n (q := 57) ok dX0_walkOf_56 rfl 1 rfl rfl ?_
            refine g_getR (q := 60) ok dX0_walkOf_57 rfl fl_X0_15 sX_52 rfl ?_
            refine g_iload (q := 62) ok dX0_walkOf_60 rfl 4 rfl ?_
            refine g_bipush (v := (nI 84)) (q := 64) ok dX0_walkOf_62 rfl (by decide) ?_
            refine g_imul (q := 65) ok dX0_walkOf_64 rfl ?_
            refine g_iload_n (q := 66) ok dX0_walkOf_65 rfl 0 rfl rfl ?_
            refine g_iadd (q := 67) ok dX0_walkOf_66 rfl ?_
            refine g_iald (q := 68) ok dX0_walkOf_67 rfl sX_54 ?_
            refine g_ixor (q := 69) ok dX0_walkOf_68 rfl ?_
            refine g_leti (fun v14 => ?_)
            refine g_istore_n (q := 70) (L' := [(2, .int v14), (3, .int v8), (0, .ref 52), (1, .int a1), (4, .int v5)]) ok dX0_walkOf_69 rfl rfl (by decide) rfl rfl ?_
            refine g_to (L' := [(0, .ref 52), (1, .int a1), (4, .int v5), (2, .int v14), (3, .int v8)]) ?_ [2, 3, 4, 0, 1] rfl
            exact hk10 _ _ _
      · refine g_aload_n (q := 25) ok dX0_walkOf_24 rfl 0 rfl rfl ?_
        refine g_getR (q := 28) ok dX0_walkOf_25 rfl fl_X0_22 sX_52 rfl ?_
        refine g_iload (q := 30) ok dX0_walkOf_28 rfl 4 rfl ?_
        refine g_callVi (q := 33) (As := [.int v5]) (st := []) ok tbl_good dX0_walkOf_30 rfl (kX2_hasGhost _ _) cf_X0_38 ⟨rfl, rfl, Nat.le_of_ble_eq_true rfl, Nat.le_of_ble_eq_true rfl⟩ sX_1 rfl rfl rfl (fun _ => Nat.le_of_ble_eq_true rfl) (fun v15 w16 => ?_)
        refine g_if_eq (q := 36) (g := 46) ok dX0_walkOf_33 rfl (by decide) ?_ ?_
        · refine g_bipush (v := (nI 84)) (q := 48) ok dX0_walkOf_46 rfl (by decide) ?_
          refine g_to (L' := [(0, .ref 52), (1, .int a1), (2, .int v3), (4, .int v5)]) ?_ [0, 1, 2, 4] rfl
          exact hk7 _ _
        · refine g_aload_n (q := 37) ok dX0_walkOf_36 rfl 0 rfl rfl ?_
          refine g_iload (q := 39) ok dX0_walkOf_37 rfl 4 rfl ?_
          refine g_iload_n (q := 40) ok dX0_walkOf_39 rfl 2 rfl rfl ?_
          refine g_callVi (q := 43) (As := [.int v5, .int v3]) (st := []) ok tbl_good dX0_walkOf_40 rfl (kX0_leastWalk N _ _ _) cf_X0_65 ⟨rfl, rfl, Nat.le_of_ble_eq_true rfl, Nat.le_of_ble_eq_true rfl⟩ sX_52 rfl rfl rfl (fun _ => Nat.le_of_ble_eq_true rfl) (fun v17 w18 => ?_)
          refine g_goto (q := 48) ok dX0_walkOf_43 (by decide) ?_
          refine g_to (L' := [(0, .ref 52), (1, .int a1), (2, .int v3), (4, .int v5)]) ?_ [0, 1, 2, 4] rfl
          exact hk7 _ _
set_option maxRecDepth 20000 in
theorem kX9_once (N : Nat) (a1 : Int32) (a2 : Int32) (w : gT) : gM S1 cl1 gTs yX9_once cX9_once 3 (some .int) rmX9_once gi [.ref 0, .int a1, .int a2] w (xX9_once N a1 a2 w) := by
  refine gM_of (own := RX9) [(0, .ref 0), (1, .int a1), (2, .int a2)] rfl (by decide) (fun _ => rfl) (fun _ => Nat.le_of_ble_eq_true rfl) (fun κ ok => ?_)
  unfold xX9_once
  refine g_aload_n (q := 1) ok dX9_once_0 rfl 0 rfl rfl ?_
  refine g_iload_n (q := 2) ok dX9_once_1 rfl 1 rfl rfl ?_
  refine g_callVi (q := 5) (As := [.int a1]) (st := []) ok tbl_good dX9_once_2 rfl (kX9_areSleepers _ _) cf_X9_205 ⟨rfl, rfl, Nat.le_of_ble_eq_true rfl, Nat.le_of_ble_eq_true rfl⟩ sX_0 rfl rfl rfl (fun _ => Nat.le_of_ble_eq_true rfl) (fun v1 w2 => ?_)
  refine g_if_eq (q := 8) (g := 24) ok dX9_once_5 rfl (by decide) ?_ ?_
  · refine g_bipush (v := (-3)) (q := 26) ok dX9_once_24 rfl (by decide) ?_
    exact g_iret ok dX9_once_26
  · refine g_join (P := fun k3 => ∀ (w4 : gT), gJ S1 cl1 rmX9_once 3 gi κ 27 [(0, .ref 0), (1, .int a1), (2, .int a2)] [] w4 (k3 w4)) (fun w4 => ?_) (fun k3 hk3 => ?_)
    · refine g_aload_n (q := 28) ok dX9_once_27 rfl 0 rfl rfl ?_
      refine g_getR (q := 31) ok dX9_once_28 rfl fl_X9_78 sX_0 rfl ?_
      refine g_iload_n (q := 32) ok dX9_once_31 rfl 1 rfl rfl ?_
      refine g_callVv (q := 35) (As := [.int a1]) (st := []) ok tbl_good dX9_once_32 rfl (kX0_fill N _ _) cf_X9_208 ⟨rfl, rfl, Nat.le_of_ble_eq_true rfl, Nat.le_of_ble_eq_true rfl⟩ sX_52 rfl rfl rfl (fun _ => Nat.le_of_ble_eq_true rfl) (fun w5 => ?_)
      refine g_aload_n (q := 36) ok dX9_once_35 rfl 0 rfl rfl ?_
      refine g_getR (q := 39) ok dX9_once_36 rfl fl_X9_78 sX_0 rfl ?_
      refine g_callVi (q := 42) (As := []) (st := []) ok tbl_good dX9_once_39 rfl (kX0_isFound _) cf_X9_211 ⟨rfl, rfl, Nat.le_of_ble_eq_true rfl, Nat.le_of_ble_eq_true rfl⟩ sX_52 rfl rfl rfl (fun _ => Nat.le_of_ble_eq_true rfl) (fun v6 w7 => ?_)
      refine g_if_ne (q := 45) (g := 48) ok dX9_once_42 rfl (by decide) ?_ ?_
      · refine g_iload_n (q := 49) ok dX9_once_48 rfl 2 rfl rfl ?_
        refine g_iconst (v := (-1)) (q := 50) ok dX9_once_49 rfl (by decide) ?_
        refine g_icmp_ne (q := 53) (g := 65) ok dX9_once_50 rfl (by decide) ?_ ?_
        · refine g_aload_n (q := 66) ok dX9_once_65 rfl 0 rfl rfl ?_
          refine g_getR (q := 69) ok dX9_once_66 rfl fl_X9_78 sX_0 rfl ?_
          refine g_iload_n (q := 70) ok dX9_once_69 rfl 2 rfl rfl ?_
          refine g_callVi (q := 73) (As := [.int a2]) (st := []) ok tbl_good dX9_once_70 rfl (kX0_walkOf N _ _) cf_X9_218 ⟨rfl, rfl, Nat.le_of_ble_eq_true rfl, Nat.le_of_ble_eq_true rfl⟩ sX_52 rfl rfl rfl (fun _ => Nat.le_of_ble_eq_true rfl) (fun v8 w9 => ?_)
          exact g_iret ok dX9_once_73
        · refine g_aload_n (q := 54) ok dX9_once_53 rfl 0 rfl rfl ?_
          refine g_getR (q := 57) ok dX9_once_54 rfl fl_X9_78 sX_0 rfl ?_
          refine g_iconst (v := (nI 0)) (q := 58) ok dX9_once_57 rfl (by decide) ?_
          refine g_iload_n (q := 59) ok dX9_once_58 rfl 1 rfl rfl ?_
          refine g_callVi (q := 62) (As := [.int (nI 0), .int a1]) (st := []) ok tbl_good dX9_once_59 rfl (kX0_fewest _ _ _) cf_X9_214 ⟨rfl, rfl, Nat.le_of_ble_eq_true rfl, Nat.le_of_ble_eq_true rfl⟩ sX_52 rfl rfl rfl (fun _ => Nat.le_of_ble_eq_true rfl) (fun v10 w11 => ?_)
          refine g_goto (q := 73) ok dX9_once_62 (by decide) ?_
          exact g_iret ok dX9_once_73
      · refine g_bipush (v := (-2)) (q := 47) ok dX9_once_45 rfl (by decide) ?_
        exact g_iret ok dX9_once_47
    · refine g_iload_n (q := 9) ok dX9_once_8 rfl 2 rfl rfl ?_
      refine g_iconst (v := (-1)) (q := 10) ok dX9_once_9 rfl (by decide) ?_
      refine g_icmp_eq (q := 13) (g := 27) ok dX9_once_10 rfl (by decide) ?_ ?_
      · exact hk3 _
      · refine g_aload_n (q := 14) ok dX9_once_13 rfl 0 rfl rfl ?_
        refine g_getR (q := 17) ok dX9_once_14 rfl fl_X9_12 sX_0 rfl ?_
        refine g_iload_n (q := 18) ok dX9_once_17 rfl 2 rfl rfl ?_
        refine g_callVi (q := 21) (As := [.int a2]) (st := []) ok tbl_good dX9_once_18 rfl (kX2_hasGhost _ _) cf_X9_178 ⟨rfl, rfl, Nat.le_of_ble_eq_true rfl, Nat.le_of_ble_eq_true rfl⟩ sX_1 rfl rfl rfl (fun _ => Nat.le_of_ble_eq_true rfl) (fun v12 w13 => ?_)
        refine g_if_ne (q := 24) (g := 27) ok dX9_once_21 rfl (by decide) ?_ ?_
        · exact hk3 _
        · refine g_bipush (v := (-3)) (q := 26) ok dX9_once_24 rfl (by decide) ?_
          exact g_iret ok dX9_once_26
set_option maxRecDepth 20000 in
theorem kX7_isListed (N : Nat) (a1 : Int32) (w : gT) : gM S1 cl1 gTs yX7_isListed cX7_isListed 3 (some .boolean) rmX7_isListed gi [.ref 21, .int a1] w (xX7_isListed N a1 w) := by
  refine gM_of (own := RX7) [(0, .ref 21), (1, .int a1)] rfl (by decide) (fun _ => rfl) (fun _ => Nat.le_of_ble_eq_true rfl) (fun κ ok => ?_)
  unfold xX7_isListed
  refine g_iconst (v := (nI 0)) (q := 1) ok dX7_isListed_0 rfl (by decide) ?_
  refine g_istore_n (q := 2) (L' := [(2, .int (nI 0)), (0, .ref 21), (1, .int a1)]) ok dX7_isListed_1 rfl rfl (by decide) rfl rfl ?_
  refine g_to (L' := [(0, .ref 21), (1, .int a1), (2, .int (nI 0))]) ?_ [1, 2, 0] rfl
  refine g_loop1 (Lf := fun v2 => [(0, .ref 21), (1, .int a1), (2, .int v2)]) (fun go1 hgo1 v2 w3 => ?_) N _ _
  unfold xX7_isListed_b2
  refine g_iload_n (q := 3) ok dX7_isListed_2 rfl 2 rfl rfl ?_
  refine g_aload_n (q := 4) ok dX7_isListed_3 rfl 0 rfl rfl ?_
  refine g_getI (q := 7) (N := 0) ok dX7_isListed_4 rfl fl_X7_27 sX_21 rfl ?_
  refine g_icmp_ge (q := 10) (g := 28) ok dX7_isListed_7 rfl (by decide) ?_ ?_
  · refine g_iconst (v := (nI 0)) (q := 29) ok dX7_isListed_28 rfl (by decide) ?_
    exact g_zret ok dX7_isListed_29 rfl
  · refine g_aload_n (q := 11) ok dX7_isListed_10 rfl 0 rfl rfl ?_
    refine g_getR (q := 14) ok dX7_isListed_11 rfl fl_X7_11 sX_21 rfl ?_
    refine g_iload_n (q := 15) ok dX7_isListed_14 rfl 2 rfl rfl ?_
    refine g_iald (q := 16) ok dX7_isListed_15 rfl sX_22 ?_
    refine g_iload_n (q := 17) ok dX7_isListed_16 rfl 1 rfl rfl ?_
    refine g_icmp_ne (q := 20) (g := 22) ok dX7_isListed_17 rfl (by decide) ?_ ?_
    · refine g_iinc (v := v2 + (nI 1)) (q := 25) (L' := [(2, .int (v2 + (nI 1))), (0, .ref 21), (1, .int a1)]) ok dX7_isListed_22 rfl 2 rfl rfl (by decide) rfl rfl ?_
      refine g_goto (q := 2) ok dX7_isListed_25 (by decide) ?_
      refine g_to (L' := [(0, .ref 21), (1, .int a1), (2, .int (v2 + (nI 1)))]) ?_ [1, 2, 0] rfl
      exact hgo1 _ _
    · refine g_iconst (v := (nI 1)) (q := 21) ok dX7_isListed_20 rfl (by decide) ?_
      exact g_zret ok dX7_isListed_21 rfl
set_option maxRecDepth 20000 in
theorem kX1_frightOfAll (N : Nat) (a1 : Int32) (a2 : Int32) (a3 : Int32) (a4 : Int32) (w : gT) : gM S1 cl1 gTs yX1_frightOfAll cX1_frightOfAll 7 (some .int) rmX1_frightOfAll gi [.ref 48, .int a1, .int a2, .int a3, .int a4] w (xX1_frightOfAll N a1 a2 a3 a4 w) := by
  refine gM_of (own := RX1) [(0, .ref 48), (1, .int a1), (2, .int a2), (3, .int a3), (4, .int a4)] rfl (by decide) (fun _ => rfl) (fun _ => Nat.le_of_ble_eq_true rfl) (fun κ ok => ?_)
  unfold xX1_frightOfAll
  refine g_iconst (v := (nI 0)) (q := 1) ok dX1_frightOfAll_0 rfl (by decide) ?_
  refine g_istore (q := 3) (L' := [(5, .int (nI 0)), (0, .ref 48), (1, .int a1), (2, .int a2), (3, .int a3), (4, .int a4)]) ok dX1_frightOfAll_1 rfl (by decide) rfl rfl ?_
  refine g_iconst (v := (nI 0)) (q := 4) ok dX1_frightOfAll_3 rfl (by decide) ?_
  refine g_istore (q := 6) (L' := [(6, .int (nI 0)), (5, .int (nI 0)), (0, .ref 48), (1, .int a1), (2, .int a2), (3, .int a3), (4, .int a4)]) ok dX1_frightOfAll_4 rfl (by decide) rfl rfl ?_
  refine g_to (L' := [(0, .ref 48), (1, .int a1), (2, .int a2), (3, .int a3), (4, .int a4), (5, .int (nI 0)), (6, .int (nI 0))]) ?_ [2, 3, 4, 5, 6, 1, 0] rfl
  refine g_loop2 (Lf := fun v2 v3 => [(0, .ref 48), (1, .int a1), (2, .int a2), (3, .int a3), (4, .int a4), (5, .int v2), (6, .int v3)]) (fun go1 hgo1 v2 v3 w4 => ?_) N _ _ _
  unfold xX1_frightOfAll_b6
  refine g_iload (q := 8) ok dX1_frightOfAll_6 rfl 6 rfl ?_
  refine g_bipush (v := (nI 10)) (q := 10) ok dX1_frightOfAll_8 rfl (by decide) ?_
  refine g_icmp_ge (q := 13) (g := 51) ok dX1_frightOfAll_10 rfl (by decide) ?_ ?_
  · refine g_iload (q := 53) ok dX1_frightOfAll_51 rfl 5 rfl ?_
    exact g_iret ok dX1_frightOfAll_53
  · refine g_join (P := fun k5 => ∀ (v6 : Int32) (w7 : gT), gJ S1 cl1 rmX1_frightOfAll 7 gi κ 45 [(0, .ref 48), (1, .int a1), (2, .int a2), (3, .int a3), (4, .int a4), (6, .int v3), (5, .int v6)] [] w7 (k5 v6 w7)) (fun v6 w7 => ?_) (fun k5 hk5 => ?_)
    · refine g_iinc (v := v3 + (nI 1)) (q := 48) (L' := [(6, .int (v3 + (nI 1))), (0, .ref 48), (1, .int a1), (2, .int a2), (3, .int a3), (4, .int a4), (5, .int v6)]) ok dX1_frightOfAll_45 rfl 5 rfl rfl (by decide) rfl rfl ?_
      refine g_goto (q := 6) ok dX1_frightOfAll_48 (by decide) ?_
      refine g_to (L' := [(0, .ref 48), (1, .int a1), (2, .int a2), (3, .int a3), (4, .int a4), (5, .int v6), (6, .int (v3 + (nI 1)))]) ?_ [1, 2, 3, 4, 5, 6, 0] rfl
      exact hgo1 _ _ _
    · refine g_aload_n (q := 14) ok dX1_frightOfAll_13 rfl 0 rfl rfl ?_
      refine g_getR (q := 17) ok dX1_frightOfAll_14 rfl fl_X1_17 sX_48 rfl ?_
      refine g_iload (q := 19) ok dX1_frightOfAll_17 rfl 6 rfl ?_
      refine g_callVi (q := 22) (As := [.int v3]) (st := []) ok tbl_good dX1_frightOfAll_19 rfl (kX2_hasSleeper _ _) cf_X1_64 ⟨rfl, rfl, Nat.le_of_ble_eq_true rfl, Nat.le_of_ble_eq_true rfl⟩ sX_1 rfl rfl rfl (fun _ => Nat.le_of_ble_eq_true rfl) (fun v8 w9 => ?_)
      refine g_if_eq (q := 25) (g := 45) ok dX1_frightOfAll_22 rfl (by decide) ?_ ?_
      · refine g_to (L' := [(0, .ref 48), (1, .int a1), (2, .int a2), (3, .int a3), (4, .int a4), (6, .int v3), (5, .int v2)]) ?_ [0, 1, 2, 3, 4, 6, 5] rfl
        exact hk5 _ _
      · refine g_iload (q := 27) ok dX1_frightOfAll_25 rfl 5 rfl ?_
        refine g_iconst (v := (nI 0)) (q := 28) ok dX1_frightOfAll_27 rfl (by decide) ?_
        refine g_aload_n (q := 29) ok dX1_frightOfAll_28 rfl 0 rfl rfl ?_
        refine g_iload_n (q := 30) ok dX1_frightOfAll_29 rfl 1 rfl rfl ?_
        refine g_iload (q := 32) ok dX1_frightOfAll_30 rfl 6 rfl ?_
        refine g_iload_n (q := 33) ok dX1_frightOfAll_32 rfl 2 rfl rfl ?_
        refine g_iload_n (q := 34) ok dX1_frightOfAll_33 rfl 3 rfl rfl ?_
        refine g_iload (q := 36) ok dX1_frightOfAll_34 rfl 4 rfl ?_
        refine g_callVi (q := 39) (As := [.int a1, .int v3, .int a2, .int a3, .int a4]) (st := [.int (nI 0), .int v2]) ok tbl_good dX1_frightOfAll_36 rfl (kX1_frightOf N _ _ _ _ _ _) cf_X1_68 ⟨rfl, rfl, Nat.le_of_ble_eq_true rfl, Nat.le_of_ble_eq_true rfl⟩ sX_48 rfl rfl rfl (fun _ => Nat.le_of_ble_eq_true rfl) (fun v10 w11 => ?_)
        refine g_max (q := 42) (st := [.int v2]) ok dX1_frightOfAll_39 rfl tw_887 tw_619 tw_94 tw_620 ⟨Nat.le_of_ble_eq_true rfl, Nat.le_of_ble_eq_true rfl⟩ (fun _ => Nat.le_of_ble_eq_true rfl) ?_
        refine g_iadd (q := 43) ok dX1_frightOfAll_42 rfl ?_
        refine g_leti (fun v12 => ?_)
        refine g_istore (q := 45) (L' := [(5, .int v12), (0, .ref 48), (1, .int a1), (2, .int a2), (3, .int a3), (4, .int a4), (6, .int v3)]) ok dX1_frightOfAll_43 rfl (by decide) rfl rfl ?_
        refine g_to (L' := [(0, .ref 48), (1, .int a1), (2, .int a2), (3, .int a3), (4, .int a4), (6, .int v3), (5, .int v12)]) ?_ [1, 2, 3, 4, 5, 6, 0] rfl
        exact hk5 _ _
set_option maxRecDepth 20000 in
theorem kX9_bestWalk (N : Nat) (a1 : Int32) (a2 : Int32) (w : gT) : gM S1 cl1 gTs yX9_bestWalk cX9_bestWalk 7 (some .int) rmX9_bestWalk gi [.ref 0, .int a1, .int a2] w (xX9_bestWalk N a1 a2 w) := by
  refine gM_of (own := RX9) [(0, .ref 0), (1, .int a1), (2, .int a2)] rfl (by decide) (fun _ => rfl) (fun _ => Nat.le_of_ble_eq_true rfl) (fun κ ok => ?_)
  unfold xX9_bestWalk
  refine g_aload_n (q := 1) ok dX9_bestWalk_0 rfl 0 rfl rfl ?_
  refine g_getR (q := 4) ok dX9_bestWalk_1 rfl fl_X9_12 sX_0 rfl ?_
  refine g_iload_n (q := 5) ok dX9_bestWalk_4 rfl 1 rfl rfl ?_
  refine g_callVi (q := 8) (As := [.int a1]) (st := []) ok tbl_good dX9_bestWalk_5 rfl (kX2_hasGhost _ _) cf_X9_178 ⟨rfl, rfl, Nat.le_of_ble_eq_true rfl, Nat.le_of_ble_eq_true rfl⟩ sX_1 rfl rfl rfl (fun _ => Nat.le_of_ble_eq_true rfl) (fun v1 w2 => ?_)
  refine g_if_eq (q := 11) (g := 31) ok dX9_bestWalk_8 rfl (by decide) ?_ ?_
  · refine g_iconst (v := (-1)) (q := 32) ok dX9_bestWalk_31 rfl (by decide) ?_
    exact g_iret ok dX9_bestWalk_32
  · refine g_aload_n (q := 12) ok dX9_bestWalk_11 rfl 0 rfl rfl ?_
    refine g_getR (q := 15) ok dX9_bestWalk_12 rfl fl_X9_29 sX_0 rfl ?_
    refine g_iload_n (q := 16) ok dX9_bestWalk_15 rfl 1 rfl rfl ?_
    refine g_callVi (q := 19) (As := [.int a1]) (st := []) ok tbl_good dX9_bestWalk_16 rfl (kX7_isListed N _ _) cf_X9_222 ⟨rfl, rfl, Nat.le_of_ble_eq_true rfl, Nat.le_of_ble_eq_true rfl⟩ sX_21 rfl rfl rfl (fun _ => Nat.le_of_ble_eq_true rfl) (fun v3 w4 => ?_)
    refine g_if_ne (q := 22) (g := 31) ok dX9_bestWalk_19 rfl (by decide) ?_ ?_
    · refine g_iconst (v := (-1)) (q := 32) ok dX9_bestWalk_31 rfl (by decide) ?_
      exact g_iret ok dX9_bestWalk_32
    · refine g_iload_n (q := 23) ok dX9_bestWalk_22 rfl 2 rfl rfl ?_
      refine g_if_lt (q := 26) (g := 31) ok dX9_bestWalk_23 rfl (by decide) ?_ ?_
      · refine g_iconst (v := (-1)) (q := 32) ok dX9_bestWalk_31 rfl (by decide) ?_
        exact g_iret ok dX9_bestWalk_32
      · refine g_iload_n (q := 27) ok dX9_bestWalk_26 rfl 2 rfl rfl ?_
        refine g_iconst (v := (nI 2)) (q := 28) ok dX9_bestWalk_27 rfl (by decide) ?_
        refine g_icmp_le (q := 31) (g := 33) ok dX9_bestWalk_28 rfl (by decide) ?_ ?_
        · refine g_iconst (v := (-1)) (q := 34) ok dX9_bestWalk_33 rfl (by decide) ?_
          refine g_istore_n (q := 35) (L' := [(3, .int (-1)), (0, .ref 0), (1, .int a1), (2, .int a2)]) ok dX9_bestWalk_34 rfl rfl (by decide) rfl rfl ?_
          refine g_iconst (v := (-1)) (q := 36) ok dX9_bestWalk_35 rfl (by decide) ?_
          refine g_istore (q := 38) (L' := [(4, .int (-1)), (3, .int (-1)), (0, .ref 0), (1, .int a1), (2, .int a2)]) ok dX9_bestWalk_36 rfl (by decide) rfl rfl ?_
          refine g_iconst (v := (nI 0)) (q := 39) ok dX9_bestWalk_38 rfl (by decide) ?_
          refine g_istore (q := 41) (L' := [(5, .int (nI 0)), (4, .int (-1)), (3, .int (-1)), (0, .ref 0), (1, .int a1), (2, .int a2)]) ok dX9_bestWalk_39 rfl (by decide) rfl rfl ?_
          refine g_join (P := fun k5 => ∀ (v6 : Int32) (v7 : Int32) (w8 : gT), gJ S1 cl1 rmX9_bestWalk 7 gi κ 89 [(0, .ref 0), (2, .int a2), (3, .int v6), (4, .int v7)] [] w8 (k5 v6 v7 w8)) (fun v6 v7 w8 => ?_) (fun k5 hk5 => ?_)
          · refine g_iload_n (q := 90) ok dX9_bestWalk_89 rfl 1 rfl rfl ?_
            refine g_iconst (v := (nI 2)) (q := 91) ok dX9_bestWalk_90 rfl (by decide) ?_
            refine g_icmp_ne (q := 94) (g := 97) ok dX9_bestWalk_91 rfl (by decide) ?_ ?_
            · refine g_iload_n (q := 98) ok dX9_bestWalk_97 rfl 1 rfl rfl ?_
              refine g_if_ne (q := 101) (g := 108) ok dX9_bestWalk_98 rfl (by decide) ?_ ?_
              · refine g_iload_n (q := 109) ok dX9_bestWalk_108 rfl 2 rfl rfl ?_
                refine g_bipush (v := (nI 12)) (q := 111) ok dX9_bestWalk_109 rfl (by decide) ?_
                refine g_iremC (q := 112) ok dX9_bestWalk_111 rfl (by decide) ?_
                exact g_iret ok dX9_bestWalk_112
              · refine g_iload_n (q := 102) ok dX9_bestWalk_101 rfl 2 rfl rfl ?_
                refine g_bipush (v := (nI 12)) (q := 104) ok dX9_bestWalk_102 rfl (by decide) ?_
                refine g_idivC (q := 105) ok dX9_bestWalk_104 rfl (by decide) ?_
                refine g_goto (q := 112) ok dX9_bestWalk_105 (by decide) ?_
                exact g_iret ok dX9_bestWalk_112
            · refine g_iload (q := 96) ok dX9_bestWalk_94 rfl 3 rfl ?_
              exact g_iret ok dX9_bestWalk_96
          · refine g_to (L' := [(0, .ref 0), (1, .int a1), (2, .int a2), (3, .int (-1)), (4, .int (-1)), (5, .int (nI 0))]) ?_ [3, 4, 5, 2, 1, 0] rfl
            refine g_loop3 (Lf := fun v10 v11 v12 => [(0, .ref 0), (1, .int a1), (2, .int a2), (3, .int v10), (4, .int v11), (5, .int v12)]) (fun go9 hgo9 v10 v11 v12 w13 => ?_) N _ _ _ _
            unfold xX9_bestWalk_b41
            refine g_iload (q := 43) ok dX9_bestWalk_41 rfl 5 rfl ?_
            refine g_bipush (v := (nI 84)) (q := 45) ok dX9_bestWalk_43 rfl (by decide) ?_
            refine g_icmp_ge (q := 48) (g := 89) ok dX9_bestWalk_45 rfl (by decide) ?_ ?_
            · refine g_to (L' := [(0, .ref 0), (2, .int a2), (3, .int v10), (4, .int v11)]) ?_ [0, 2, 3, 4] rfl
              exact hk5 _ _ _
            · refine g_join (P := fun k14 => ∀ (v15 : Int32) (v16 : Int32) (w17 : gT), gJ S1 cl1 rmX9_bestWalk 7 gi κ 83 [(0, .ref 0), (1, .int a1), (2, .int a2), (5, .int v12), (3, .int v15), (4, .int v16)] [] w17 (k14 v15 v16 w17)) (fun v15 v16 w17 => ?_) (fun k14 hk14 => ?_)
              · refine g_iinc (v := v12 + (nI 1)) (q := 86) (L' := [(5, .int (v12 + (nI 1))), (0, .ref 0), (1, .int a1), (2, .int a2), (3, .int v15), (4, .int v16)]) ok dX9_bestWalk_83 rfl 3 rfl rfl (by decide) rfl rfl ?_
                refine g_goto (q := 41) ok dX9_bestWalk_86 (by decide) ?_
                refine g_to (L' := [(0, .ref 0), (1, .int a1), (2, .int a2), (3, .int v15), (4, .int v16), (5, .int (v12 + (nI 1)))]) ?_ [1, 2, 3, 4, 5, 0] rfl
                exact hgo9 _ _ _ _
              · refine g_aload_n (q := 49) ok dX9_bestWalk_48 rfl 0 rfl rfl ?_
                refine g_getR (q := 52) ok dX9_bestWalk_49 rfl fl_X9_60 sX_0 rfl ?_
                refine g_iload_n (q := 53) ok dX9_bestWalk_52 rfl 1 rfl rfl ?_
                refine g_iload (q := 55) ok dX9_bestWalk_53 rfl 5 rfl ?_
                refine g_bipush (v := (nI 12)) (q := 57) ok dX9_bestWalk_55 rfl (by decide) ?_
                refine g_idivC (q := 58) ok dX9_bestWalk_57 rfl (by decide) ?_
                refine g_iload (q := 60) ok dX9_bestWalk_58 rfl 5 rfl ?_
                refine g_bipush (v := (nI 12)) (q := 62) ok dX9_bestWalk_60 rfl (by decide) ?_
                refine g_iremC (q := 63) ok dX9_bestWalk_62 rfl (by decide) ?_
                refine g_iconst (v := (nI 0)) (q := 64) ok dX9_bestWalk_63 rfl (by decide) ?_
                refine g_callVi (q := 67) (As := [.int a1, .int (v12 / (nI 12)), .int (gRem v12 (nI 12)), .int (nI 0)]) (st := []) ok tbl_good dX9_bestWalk_64 rfl (kX1_frightOfAll N _ _ _ _ _) cf_X9_225 ⟨rfl, rfl, Nat.le_of_ble_eq_true rfl, Nat.le_of_ble_eq_true rfl⟩ sX_48 rfl rfl rfl (fun _ => Nat.le_of_ble_eq_true rfl) (fun v18 w19 => ?_)
                refine g_istore (q := 69) (L' := [(6, .int v18), (0, .ref 0), (1, .int a1), (2, .int a2), (3, .int v10), (4, .int v11), (5, .int v12)]) ok dX9_bestWalk_67 rfl (by decide) rfl rfl ?_
                refine g_iload (q := 71) ok dX9_bestWalk_69 rfl 0 rfl ?_
                refine g_iload (q := 73) ok dX9_bestWalk_71 rfl 5 rfl ?_
                refine g_icmp_le (q := 76) (g := 83) ok dX9_bestWalk_73 rfl (by decide) ?_ ?_
                · refine g_to (L' := [(0, .ref 0), (1, .int a1), (2, .int a2), (5, .int v12), (3, .int v10), (4, .int v11)]) ?_ [1, 2, 3, 6, 4, 5] rfl
                  exact hk14 _ _ _
                · refine g_iload (q := 78) ok dX9_bestWalk_76 rfl 0 rfl ?_
                  refine g_istore (q := 80) (L' := [(4, .int v18), (6, .int v18), (0, .ref 0), (1, .int a1), (2, .int a2), (3, .int v10), (5, .int v12)]) ok dX9_bestWalk_78 rfl (by decide) rfl rfl ?_
                  refine g_iload (q := 82) ok dX9_bestWalk_80 rfl 6 rfl ?_
                  refine g_istore_n (q := 83) (L' := [(3, .int v12), (4, .int v18), (6, .int v18), (0, .ref 0), (1, .int a1), (2, .int a2), (5, .int v12)]) ok dX9_bestWalk_82 rfl rfl (by decide) rfl rfl ?_
                  refine g_to (L' := [(0, .ref 0), (1, .int a1), (2, .int a2), (5, .int v12), (3, .int v12), (4, .int v18)]) ?_ [3, 4, 5, 6, 0, 1] rfl
                  exact hk14 _ _ _
        · refine g_iconst (v := (-1)) (q := 32) ok dX9_bestWalk_31 rfl (by decide) ?_
          exact g_iret ok dX9_bestWalk_32
set_option maxRecDepth 20000 in
theorem kX9_candle (N : Nat) (a1 : Int32) (a2 : Int32) (a3 : Int32) (w : gT) : gM S1 cl1 gTs yX9_candle cX9_candle 10 (some .int) rmX9_candle gi [.ref 0, .int a1, .int a2, .int a3] w (xX9_candle N a1 a2 a3 w) := by
  refine gM_of (own := RX9) [(0, .ref 0), (1, .int a1), (2, .int a2), (3, .int a3)] rfl (by decide) (fun _ => rfl) (fun _ => Nat.le_of_ble_eq_true rfl) (fun κ ok => ?_)
  unfold xX9_candle
  refine g_iload_n (q := 1) ok dX9_candle_0 rfl 1 rfl rfl ?_
  refine g_callSi (q := 4) (As := [.int a1]) (st := []) ok tbl_good dX9_candle_1 rfl (kX9_isNight _ _) cf_X9_103 ⟨rfl, rfl, Nat.le_of_ble_eq_true rfl, Nat.le_of_ble_eq_true rfl⟩ rfl rfl (fun _ => Nat.le_of_ble_eq_true rfl) (fun v1 w2 => ?_)
  refine g_if_eq (q := 7) (g := 24) ok dX9_candle_4 rfl (by decide) ?_ ?_
  · refine g_iconst (v := (-1)) (q := 25) ok dX9_candle_24 rfl (by decide) ?_
    exact g_iret ok dX9_candle_25
  · refine g_aload_n (q := 8) ok dX9_candle_7 rfl 0 rfl rfl ?_
    refine g_iload_n (q := 9) ok dX9_candle_8 rfl 2 rfl rfl ?_
    refine g_callVi (q := 12) (As := [.int a2]) (st := []) ok tbl_good dX9_candle_9 rfl (kX9_areSleepers _ _) cf_X9_205 ⟨rfl, rfl, Nat.le_of_ble_eq_true rfl, Nat.le_of_ble_eq_true rfl⟩ sX_0 rfl rfl rfl (fun _ => Nat.le_of_ble_eq_true rfl) (fun v3 w4 => ?_)
    refine g_if_eq (q := 15) (g := 24) ok dX9_candle_12 rfl (by decide) ?_ ?_
    · refine g_iconst (v := (-1)) (q := 25) ok dX9_candle_24 rfl (by decide) ?_
      exact g_iret ok dX9_candle_25
    · refine g_iload_n (q := 16) ok dX9_candle_15 rfl 3 rfl rfl ?_
      refine g_if_lt (q := 19) (g := 24) ok dX9_candle_16 rfl (by decide) ?_ ?_
      · refine g_iconst (v := (-1)) (q := 25) ok dX9_candle_24 rfl (by decide) ?_
        exact g_iret ok dX9_candle_25
      · refine g_iload_n (q := 20) ok dX9_candle_19 rfl 3 rfl rfl ?_
        refine g_iconst (v := (nI 3)) (q := 21) ok dX9_candle_20 rfl (by decide) ?_
        refine g_icmp_le (q := 24) (g := 26) ok dX9_candle_21 rfl (by decide) ?_ ?_
        · refine g_iconst (v := (nI 0)) (q := 27) ok dX9_candle_26 rfl (by decide) ?_
          refine g_istore (q := 29) (L' := [(4, .int (nI 0)), (0, .ref 0), (1, .int a1), (2, .int a2), (3, .int a3)]) ok dX9_candle_27 rfl (by decide) rfl rfl ?_
          refine g_iconst (v := (-1)) (q := 30) ok dX9_candle_29 rfl (by decide) ?_
          refine g_istore (q := 32) (L' := [(5, .int (-1)), (4, .int (nI 0)), (0, .ref 0), (1, .int a1), (2, .int a2), (3, .int a3)]) ok dX9_candle_30 rfl (by decide) rfl rfl ?_
          refine g_iconst (v := (nI 0)) (q := 33) ok dX9_candle_32 rfl (by decide) ?_
          refine g_istore (q := 35) (L' := [(6, .int (nI 0)), (5, .int (-1)), (4, .int (nI 0)), (0, .ref 0), (1, .int a1), (2, .int a2), (3, .int a3)]) ok dX9_candle_33 rfl (by decide) rfl rfl ?_
          refine g_iconst (v := (nI 0)) (q := 36) ok dX9_candle_35 rfl (by decide) ?_
          refine g_istore (q := 38) (L' := [(7, .int (nI 0)), (6, .int (nI 0)), (5, .int (-1)), (4, .int (nI 0)), (0, .ref 0), (1, .int a1), (2, .int a2), (3, .int a3)]) ok dX9_candle_36 rfl (by decide) rfl rfl ?_
          refine g_join (P := fun k5 => ∀ (v6 : Int32) (v7 : Int32) (v8 : Int32) (w9 : gT), gJ S1 cl1 rmX9_candle 10 gi κ 153 [(0, .ref 0), (3, .int a3), (4, .int v6), (5, .int v7), (6, .int v8)] [] w9 (k5 v6 v7 v8 w9)) (fun v6 v7 v8 w9 => ?_) (fun k5 hk5 => ?_)
          · refine g_join (P := fun k10 => ∀ (w11 : gT), gJ S1 cl1 rmX9_candle 10 gi κ 162 [(0, .ref 0), (3, .int a3), (4, .int v6), (6, .int v8)] [] w11 (k10 w11)) (fun w11 => ?_) (fun k10 hk10 => ?_)
            · refine g_iload_n (q := 163) ok dX9_candle_162 rfl 1 rfl rfl ?_
              refine g_if_ne (q := 166) (g := 171) ok dX9_candle_163 rfl (by decide) ?_ ?_
              · refine g_iload (q := 173) ok dX9_candle_171 rfl 3 rfl ?_
                exact g_iret ok dX9_candle_173
              · refine g_iload (q := 168) ok dX9_candle_166 rfl 2 rfl ?_
                refine g_goto (q := 173) ok dX9_candle_168 (by decide) ?_
                exact g_iret ok dX9_candle_173
            · refine g_iload_n (q := 154) ok dX9_candle_153 rfl 1 rfl rfl ?_
              refine g_if_eq (q := 157) (g := 162) ok dX9_candle_154 rfl (by decide) ?_ ?_
              · refine g_to (L' := [(0, .ref 0), (3, .int a3), (4, .int v6), (6, .int v8)]) ?_ [0, 1, 2, 4] rfl
                exact hk10 _
              · refine g_iload_n (q := 158) ok dX9_candle_157 rfl 1 rfl rfl ?_
                refine g_iconst (v := (nI 3)) (q := 159) ok dX9_candle_158 rfl (by decide) ?_
                refine g_icmp_ne (q := 162) (g := 174) ok dX9_candle_159 rfl (by decide) ?_ ?_
                · refine g_iload (q := 176) ok dX9_candle_174 rfl 3 rfl ?_
                  refine g_iconst (v := (-1)) (q := 177) ok dX9_candle_176 rfl (by decide) ?_
                  refine g_icmp_ne (q := 180) (g := 183) ok dX9_candle_177 rfl (by decide) ?_ ?_
                  · refine g_iload_n (q := 184) ok dX9_candle_183 rfl 1 rfl rfl ?_
                    refine g_iconst (v := (nI 1)) (q := 185) ok dX9_candle_184 rfl (by decide) ?_
                    refine g_icmp_ne (q := 188) (g := 196) ok dX9_candle_185 rfl (by decide) ?_ ?_
                    · refine g_iload (q := 198) ok dX9_candle_196 rfl 3 rfl ?_
                      refine g_bipush (v := (nI 12)) (q := 200) ok dX9_candle_198 rfl (by decide) ?_
                      refine g_iremC (q := 201) ok dX9_candle_200 rfl (by decide) ?_
                      exact g_iret ok dX9_candle_201
                    · refine g_iload (q := 190) ok dX9_candle_188 rfl 3 rfl ?_
                      refine g_bipush (v := (nI 12)) (q := 192) ok dX9_candle_190 rfl (by decide) ?_
                      refine g_idivC (q := 193) ok dX9_candle_192 rfl (by decide) ?_
                      refine g_goto (q := 201) ok dX9_candle_193 (by decide) ?_
                      exact g_iret ok dX9_candle_201
                  · refine g_bipush (v := (-2)) (q := 182) ok dX9_candle_180 rfl (by decide) ?_
                    exact g_iret ok dX9_candle_182
                · refine g_to (L' := [(0, .ref 0), (3, .int a3), (4, .int v6), (6, .int v8)]) ?_ [0, 1, 2, 4] rfl
                  exact hk10 _
          · refine g_to (L' := [(0, .ref 0), (1, .int a1), (2, .int a2), (3, .int a3), (4, .int (nI 0)), (5, .int (-1)), (6, .int (nI 0)), (7, .int (nI 0))]) ?_ [4, 5, 6, 7, 3, 2, 1, 0] rfl
            refine g_loop4 (Lf := fun v13 v14 v15 v16 => [(0, .ref 0), (1, .int a1), (2, .int a2), (3, .int a3), (4, .int v13), (5, .int v14), (6, .int v15), (7, .int v16)]) (fun go12 hgo12 v13 v14 v15 v16 w17 => ?_) N _ _ _ _ _
            unfold xX9_candle_b38
            refine g_iload (q := 40) ok dX9_candle_38 rfl 7 rfl ?_
            refine g_bipush (v := (nI 10)) (q := 42) ok dX9_candle_40 rfl (by decide) ?_
            refine g_icmp_ge (q := 45) (g := 153) ok dX9_candle_42 rfl (by decide) ?_ ?_
            · refine g_to (L' := [(0, .ref 0), (3, .int a3), (4, .int v13), (5, .int v14), (6, .int v15)]) ?_ [0, 3, 4, 5, 6] rfl
              exact hk5 _ _ _ _
            · refine g_join (P := fun k18 => ∀ (v19 : Int32) (w20 : gT), gJ S1 cl1 rmX9_candle 10 gi κ 78 [(0, .ref 0), (1, .int a1), (2, .int a2), (3, .int a3), (4, .int v13), (5, .int v14), (6, .int v15), (7, .int v16)] [.int v19] w20 (k18 v19 w20)) (fun v19 w20 => ?_) (fun k18 hk18 => ?_)
              · refine g_istore (q := 80) (L' := [(8, .int v19), (0, .ref 0), (1, .int a1), (2, .int a2), (3, .int a3), (4, .int v13), (5, .int v14), (6, .int v15), (7, .int v16)]) ok dX9_candle_78 rfl (by decide) rfl rfl ?_
                refine g_iconst (v := (nI 0)) (q := 81) ok dX9_candle_80 rfl (by decide) ?_
                refine g_istore (q := 83) (L' := [(9, .int (nI 0)), (8, .int v19), (0, .ref 0), (1, .int a1), (2, .int a2), (3, .int a3), (4, .int v13), (5, .int v14), (6, .int v15), (7, .int v16)]) ok dX9_candle_81 rfl (by decide) rfl rfl ?_
                refine g_join (P := fun k21 => ∀ (v22 : Int32) (v23 : Int32) (v24 : Int32) (w25 : gT), gJ S1 cl1 rmX9_candle 10 gi κ 147 [(0, .ref 0), (1, .int a1), (2, .int a2), (3, .int a3), (7, .int v16), (4, .int v22), (5, .int v23), (6, .int v24)] [] w25 (k21 v22 v23 v24 w25)) (fun v22 v23 v24 w25 => ?_) (fun k21 hk21 => ?_)
                · refine g_iinc (v := v16 + (nI 1)) (q := 150) (L' := [(7, .int (v16 + (nI 1))), (0, .ref 0), (1, .int a1), (2, .int a2), (3, .int a3), (4, .int v22), (5, .int v23), (6, .int v24)]) ok dX9_candle_147 rfl 4 rfl rfl (by decide) rfl rfl ?_
                  refine g_goto (q := 38) ok dX9_candle_150 (by decide) ?_
                  refine g_to (L' := [(0, .ref 0), (1, .int a1), (2, .int a2), (3, .int a3), (4, .int v22), (5, .int v23), (6, .int v24), (7, .int (v16 + (nI 1)))]) ?_ [1, 2, 3, 4, 5, 6, 7, 0] rfl
                  exact hgo12 _ _ _ _ _
                · refine g_to (L' := [(0, .ref 0), (1, .int a1), (2, .int a2), (3, .int a3), (7, .int v16), (8, .int v19), (4, .int v13), (5, .int v14), (6, .int v15), (9, .int (nI 0))]) ?_ [2, 3, 4, 5, 9, 1, 6, 7, 8, 0] rfl
                  refine g_loop4 (Lf := fun v27 v28 v29 v30 => [(0, .ref 0), (1, .int a1), (2, .int a2), (3, .int a3), (7, .int v16), (8, .int v19), (4, .int v27), (5, .int v28), (6, .int v29), (9, .int v30)]) (fun go26 hgo26 v27 v28 v29 v30 w31 => ?_) N _ _ _ _ _
                  unfold xX9_candle_b83
                  refine g_iload (q := 85) ok dX9_candle_83 rfl 9 rfl ?_
                  refine g_bipush (v := (nI 12)) (q := 87) ok dX9_candle_85 rfl (by decide) ?_
                  refine g_icmp_ge (q := 90) (g := 147) ok dX9_candle_87 rfl (by decide) ?_ ?_
                  · refine g_to (L' := [(0, .ref 0), (1, .int a1), (2, .int a2), (3, .int a3), (7, .int v16), (4, .int v27), (5, .int v28), (6, .int v29)]) ?_ [0, 1, 2, 3, 4, 6, 7, 8] rfl
                    exact hk21 _ _ _ _
                  · refine g_join (P := fun k32 => ∀ (v33 : Int32) (v34 : Int32) (v35 : Int32) (w36 : gT), gJ S1 cl1 rmX9_candle 10 gi κ 141 [(0, .ref 0), (1, .int a1), (2, .int a2), (3, .int a3), (7, .int v16), (8, .int v19), (9, .int v30), (4, .int v33), (5, .int v34), (6, .int v35)] [] w36 (k32 v33 v34 v35 w36)) (fun v33 v34 v35 w36 => ?_) (fun k32 hk32 => ?_)
                    · refine g_iinc (v := v30 + (nI 1)) (q := 144) (L' := [(9, .int (v30 + (nI 1))), (0, .ref 0), (1, .int a1), (2, .int a2), (3, .int a3), (7, .int v16), (8, .int v19), (4, .int v33), (5, .int v34), (6, .int v35)]) ok dX9_candle_141 rfl 6 rfl rfl (by decide) rfl rfl ?_
                      refine g_goto (q := 83) ok dX9_candle_144 (by decide) ?_
                      refine g_to (L' := [(0, .ref 0), (1, .int a1), (2, .int a2), (3, .int a3), (7, .int v16), (8, .int v19), (4, .int v33), (5, .int v34), (6, .int v35), (9, .int (v30 + (nI 1)))]) ?_ [1, 2, 3, 4, 5, 6, 7, 8, 9, 0] rfl
                      exact hgo26 _ _ _ _ _
                    · refine g_aload_n (q := 91) ok dX9_candle_90 rfl 0 rfl rfl ?_
                      refine g_getR (q := 94) ok dX9_candle_91 rfl fl_X9_60 sX_0 rfl ?_
                      refine g_iload (q := 96) ok dX9_candle_94 rfl 4 rfl ?_
                      refine g_iload_n (q := 97) ok dX9_candle_96 rfl 1 rfl rfl ?_
                      refine g_iload (q := 99) ok dX9_candle_97 rfl 9 rfl ?_
                      refine g_iload (q := 101) ok dX9_candle_99 rfl 5 rfl ?_
                      refine g_callVi (q := 104) (As := [.int v16, .int a1, .int v30, .int v19]) (st := []) ok tbl_good dX9_candle_101 rfl (kX1_within N _ _ _ _ _) cf_X9_236 ⟨rfl, rfl, Nat.le_of_ble_eq_true rfl, Nat.le_of_ble_eq_true rfl⟩ sX_48 rfl rfl rfl (fun _ => Nat.le_of_ble_eq_true rfl) (fun v37 w38 => ?_)
                      refine g_iload_n (q := 105) ok dX9_candle_104 rfl 2 rfl rfl ?_
                      refine g_icmp_ne (q := 108) (g := 141) ok dX9_candle_105 rfl (by decide) ?_ ?_
                      · refine g_to (L' := [(0, .ref 0), (1, .int a1), (2, .int a2), (3, .int a3), (7, .int v16), (8, .int v19), (9, .int v30), (4, .int v27), (5, .int v28), (6, .int v29)]) ?_ [0, 1, 2, 3, 4, 5, 9, 6, 7, 8] rfl
                        exact hk32 _ _ _ _
                      · refine g_join (P := fun k39 => ∀ (v40 : Int32) (v41 : Int32) (w42 : gT), gJ S1 cl1 rmX9_candle 10 gi κ 130 [(0, .ref 0), (1, .int a1), (2, .int a2), (3, .int a3), (6, .int v29), (7, .int v16), (8, .int v19), (9, .int v30), (4, .int v40)] [.int v41] w42 (k39 v40 v41 w42)) (fun v40 v41 w42 => ?_) (fun k39 hk39 => ?_)
                        · refine g_istore (q := 132) (L' := [(5, .int v41), (0, .ref 0), (1, .int a1), (2, .int a2), (3, .int a3), (6, .int v29), (7, .int v16), (8, .int v19), (9, .int v30), (4, .int v40)]) ok dX9_candle_130 rfl (by decide) rfl rfl ?_
                          refine g_iload (q := 134) ok dX9_candle_132 rfl 5 rfl ?_
                          refine g_iconst (v := (nI 1)) (q := 135) ok dX9_candle_134 rfl (by decide) ?_
                          refine g_iload (q := 137) ok dX9_candle_135 rfl 6 rfl ?_
                          refine g_ishl (q := 138) ok dX9_candle_137 rfl ?_
                          refine g_ior (q := 139) ok dX9_candle_138 rfl ?_
                          refine g_leti (fun v43 => ?_)
                          refine g_istore (q := 141) (L' := [(6, .int v43), (5, .int v41), (0, .ref 0), (1, .int a1), (2, .int a2), (3, .int a3), (7, .int v16), (8, .int v19), (9, .int v30), (4, .int v40)]) ok dX9_candle_139 rfl (by decide) rfl rfl ?_
                          refine g_to (L' := [(0, .ref 0), (1, .int a1), (2, .int a2), (3, .int a3), (7, .int v16), (8, .int v19), (9, .int v30), (4, .int v40), (5, .int v41), (6, .int v43)]) ?_ [2, 3, 4, 5, 6, 7, 8, 9, 1, 0] rfl
                          exact hk32 _ _ _ _
                        · refine g_iinc (v := v27 + (nI 1)) (q := 111) (L' := [(4, .int (v27 + (nI 1))), (0, .ref 0), (1, .int a1), (2, .int a2), (3, .int a3), (7, .int v16), (8, .int v19), (5, .int v28), (6, .int v29), (9, .int v30)]) ok dX9_candle_108 rfl 6 rfl rfl (by decide) rfl rfl ?_
                          refine g_iload (q := 113) ok dX9_candle_111 rfl 7 rfl ?_
                          refine g_iconst (v := (-1)) (q := 114) ok dX9_candle_113 rfl (by decide) ?_
                          refine g_icmp_ne (q := 117) (g := 128) ok dX9_candle_114 rfl (by decide) ?_ ?_
                          · refine g_iload (q := 130) ok dX9_candle_128 rfl 7 rfl ?_
                            refine g_to (L' := [(0, .ref 0), (1, .int a1), (2, .int a2), (3, .int a3), (6, .int v29), (7, .int v16), (8, .int v19), (9, .int v30), (4, .int (v27 + (nI 1)))]) ?_ [1, 2, 3, 4, 8, 5, 6, 9, 0] rfl
                            exact hk39 _ _ _
                          · refine g_iload (q := 119) ok dX9_candle_117 rfl 5 rfl ?_
                            refine g_bipush (v := (nI 12)) (q := 121) ok dX9_candle_119 rfl (by decide) ?_
                            refine g_imul (q := 122) ok dX9_candle_121 rfl ?_
                            refine g_iload (q := 124) ok dX9_candle_122 rfl 9 rfl ?_
                            refine g_iadd (q := 125) ok dX9_candle_124 rfl ?_
                            refine g_goto (q := 130) ok dX9_candle_125 (by decide) ?_
                            refine g_to (L' := [(0, .ref 0), (1, .int a1), (2, .int a2), (3, .int a3), (6, .int v29), (7, .int v16), (8, .int v19), (9, .int v30), (4, .int (v27 + (nI 1)))]) ?_ [1, 2, 3, 4, 8, 5, 6, 9, 0] rfl
                            exact hk39 _ _ _
              · refine g_aload_n (q := 46) ok dX9_candle_45 rfl 0 rfl rfl ?_
                refine g_getR (q := 49) ok dX9_candle_46 rfl fl_X9_12 sX_0 rfl ?_
                refine g_iload (q := 51) ok dX9_candle_49 rfl 7 rfl ?_
                refine g_callVi (q := 54) (As := [.int v16]) (st := []) ok tbl_good dX9_candle_51 rfl (kX2_hasGhost _ _) cf_X9_178 ⟨rfl, rfl, Nat.le_of_ble_eq_true rfl, Nat.le_of_ble_eq_true rfl⟩ sX_1 rfl rfl rfl (fun _ => Nat.le_of_ble_eq_true rfl) (fun v44 w45 => ?_)
                refine g_if_eq (q := 57) (g := 77) ok dX9_candle_54 rfl (by decide) ?_ ?_
                · refine g_iconst (v := (nI 0)) (q := 78) ok dX9_candle_77 rfl (by decide) ?_
                  exact hk18 _ _
                · refine g_aload_n (q := 58) ok dX9_candle_57 rfl 0 rfl rfl ?_
                  refine g_getR (q := 61) ok dX9_candle_58 rfl fl_X9_60 sX_0 rfl ?_
                  refine g_iload (q := 63) ok dX9_candle_61 rfl 7 rfl ?_
                  refine g_iload_n (q := 64) ok dX9_candle_63 rfl 1 rfl rfl ?_
                  refine g_aload_n (q := 65) ok dX9_candle_64 rfl 0 rfl rfl ?_
                  refine g_getR (q := 68) ok dX9_candle_65 rfl fl_X9_12 sX_0 rfl ?_
                  refine g_getI (q := 71) (N := 0) ok dX9_candle_68 rfl fl_X9_229 sX_1 rfl ?_
                  refine g_callVi (q := 74) (As := [.int v16, .int a1, .int (w45.1 1 9)]) (st := []) ok tbl_good dX9_candle_71 rfl (kX1_frightenedBy N _ _ _ _) cf_X9_232 ⟨rfl, rfl, Nat.le_of_ble_eq_true rfl, Nat.le_of_ble_eq_true rfl⟩ sX_48 rfl rfl rfl (fun _ => Nat.le_of_ble_eq_true rfl) (fun v46 w47 => ?_)
                  refine g_goto (q := 78) ok dX9_candle_74 (by decide) ?_
                  exact hk18 _ _
        · refine g_iconst (v := (-1)) (q := 25) ok dX9_candle_24 rfl (by decide) ?_
          exact g_iret ok dX9_candle_25
set_option maxRecDepth 20000 in
theorem kX9_draughts (N : Nat) (w : gT) : gM S1 cl1 gTs yX9_draughts cX9_draughts 4 (some .int) rmX9_draughts gi [.ref 0] w (xX9_draughts N w) := by
  refine gM_of (own := RX9) [(0, .ref 0)] rfl (by decide) (fun _ => rfl) (fun _ => Nat.le_of_ble_eq_true rfl) (fun κ ok => ?_)
  unfold xX9_draughts
  refine g_iconst (v := (nI 0)) (q := 1) ok dX9_draughts_0 rfl (by decide) ?_
  refine g_istore_n (q := 2) (L' := [(1, .int (nI 0)), (0, .ref 0)]) ok dX9_draughts_1 rfl rfl (by decide) rfl rfl ?_
  refine g_iconst (v := (nI 0)) (q := 3) ok dX9_draughts_2 rfl (by decide) ?_
  refine g_istore_n (q := 4) (L' := [(2, .int (nI 0)), (1, .int (nI 0)), (0, .ref 0)]) ok dX9_draughts_3 rfl rfl (by decide) rfl rfl ?_
  refine g_to (L' := [(0, .ref 0), (1, .int (nI 0)), (2, .int (nI 0))]) ?_ [2, 1, 0] rfl
  refine g_loop2 (Lf := fun v2 v3 => [(0, .ref 0), (1, .int v2), (2, .int v3)]) (fun go1 hgo1 v2 v3 w4 => ?_) N _ _ _
  unfold xX9_draughts_b4
  refine g_iload_n (q := 5) ok dX9_draughts_4 rfl 2 rfl rfl ?_
  refine g_bipush (v := (nI 10)) (q := 7) ok dX9_draughts_5 rfl (by decide) ?_
  refine g_icmp_ge (q := 10) (g := 73) ok dX9_draughts_7 rfl (by decide) ?_ ?_
  · refine g_iload_n (q := 74) ok dX9_draughts_73 rfl 1 rfl rfl ?_
    exact g_iret ok dX9_draughts_74
  · refine g_join (P := fun k5 => ∀ (v6 : Int32) (w7 : gT), gJ S1 cl1 rmX9_draughts 4 gi κ 30 [(0, .ref 0), (1, .int v2), (2, .int v3)] [.int v6] w7 (k5 v6 w7)) (fun v6 w7 => ?_) (fun k5 hk5 => ?_)
    · refine g_join (P := fun k8 => ∀ (v9 : Int32) (w10 : gT), gJ S1 cl1 rmX9_draughts 4 gi κ 67 [(0, .ref 0), (2, .int v3), (1, .int v9)] [] w10 (k8 v9 w10)) (fun v9 w10 => ?_) (fun k8 hk8 => ?_)
      · refine g_iinc (v := v3 + (nI 1)) (q := 70) (L' := [(2, .int (v3 + (nI 1))), (0, .ref 0), (1, .int v9)]) ok dX9_draughts_67 rfl 1 rfl rfl (by decide) rfl rfl ?_
        refine g_goto (q := 4) ok dX9_draughts_70 (by decide) ?_
        refine g_to (L' := [(0, .ref 0), (1, .int v9), (2, .int (v3 + (nI 1)))]) ?_ [1, 2, 0] rfl
        exact hgo1 _ _ _
      · refine g_istore_n (q := 31) (L' := [(3, .int v6), (0, .ref 0), (1, .int v2), (2, .int v3)]) ok dX9_draughts_30 rfl rfl (by decide) rfl rfl ?_
        refine g_aload_n (q := 32) ok dX9_draughts_31 rfl 1 rfl rfl ?_
        refine g_getR (q := 35) ok dX9_draughts_32 rfl fl_X9_12 sX_0 rfl ?_
        refine g_iload_n (q := 36) ok dX9_draughts_35 rfl 3 rfl rfl ?_
        refine g_callVi (q := 39) (As := [.int v3]) (st := []) ok tbl_good dX9_draughts_36 rfl (kX2_hasGhost _ _) cf_X9_178 ⟨rfl, rfl, Nat.le_of_ble_eq_true rfl, Nat.le_of_ble_eq_true rfl⟩ sX_1 rfl rfl rfl (fun _ => Nat.le_of_ble_eq_true rfl) (fun v11 w12 => ?_)
        refine g_if_eq (q := 42) (g := 67) ok dX9_draughts_39 rfl (by decide) ?_ ?_
        · refine g_to (L' := [(0, .ref 0), (2, .int v3), (1, .int v2)]) ?_ [1, 3, 2] rfl
          exact hk8 _ _
        · refine g_iload_n (q := 43) ok dX9_draughts_42 rfl 0 rfl rfl ?_
          refine g_if_eq (q := 46) (g := 67) ok dX9_draughts_43 rfl (by decide) ?_ ?_
          · refine g_to (L' := [(0, .ref 0), (2, .int v3), (1, .int v2)]) ?_ [1, 3, 2] rfl
            exact hk8 _ _
          · refine g_aload_n (q := 47) ok dX9_draughts_46 rfl 1 rfl rfl ?_
            refine g_getR (q := 50) ok dX9_draughts_47 rfl fl_X9_12 sX_0 rfl ?_
            refine g_getR (q := 53) ok dX9_draughts_50 rfl fl_X9_195 sX_1 rfl ?_
            refine g_bipush (v := (nI 20)) (q := 55) ok dX9_draughts_53 rfl (by decide) ?_
            refine g_iload_n (q := 56) ok dX9_draughts_55 rfl 3 rfl rfl ?_
            refine g_iadd (q := 57) ok dX9_draughts_56 rfl ?_
            refine g_iald (q := 58) ok dX9_draughts_57 rfl sX_9 ?_
            refine g_if_ne (q := 61) (g := 67) ok dX9_draughts_58 rfl (by decide) ?_ ?_
            · refine g_to (L' := [(0, .ref 0), (2, .int v3), (1, .int v2)]) ?_ [1, 3, 2] rfl
              exact hk8 _ _
            · refine g_iload_n (q := 62) ok dX9_draughts_61 rfl 2 rfl rfl ?_
              refine g_iconst (v := (nI 1)) (q := 63) ok dX9_draughts_62 rfl (by decide) ?_
              refine g_iload_n (q := 64) ok dX9_draughts_63 rfl 3 rfl rfl ?_
              refine g_ishl (q := 65) ok dX9_draughts_64 rfl ?_
              refine g_ior (q := 66) ok dX9_draughts_65 rfl ?_
              refine g_leti (fun v13 => ?_)
              refine g_istore_n (q := 67) (L' := [(1, .int v13), (3, .int v6), (0, .ref 0), (2, .int v3)]) ok dX9_draughts_66 rfl rfl (by decide) rfl rfl ?_
              refine g_to (L' := [(0, .ref 0), (2, .int v3), (1, .int v13)]) ?_ [2, 3, 0] rfl
              exact hk8 _ _
    · refine g_aload_n (q := 11) ok dX9_draughts_10 rfl 0 rfl rfl ?_
      refine g_getR (q := 14) ok dX9_draughts_11 rfl fl_X9_12 sX_0 rfl ?_
      refine g_getR (q := 17) ok dX9_draughts_14 rfl fl_X9_195 sX_1 rfl ?_
      refine g_bipush (v := (nI 30)) (q := 19) ok dX9_draughts_17 rfl (by decide) ?_
      refine g_iload_n (q := 20) ok dX9_draughts_19 rfl 2 rfl rfl ?_
      refine g_iadd (q := 21) ok dX9_draughts_20 rfl ?_
      refine g_iald (q := 22) ok dX9_draughts_21 rfl sX_9 ?_
      refine g_if_le (q := 25) (g := 29) ok dX9_draughts_22 rfl (by decide) ?_ ?_
      · refine g_iconst (v := (nI 0)) (q := 30) ok dX9_draughts_29 rfl (by decide) ?_
        exact hk5 _ _
      · refine g_iconst (v := (nI 1)) (q := 26) ok dX9_draughts_25 rfl (by decide) ?_
        refine g_goto (q := 30) ok dX9_draughts_26 (by decide) ?_
        exact hk5 _ _
set_option maxRecDepth 20000 in
theorem kX9_gainByMending (N : Nat) (a1 : Int32) (w : gT) : gM S1 cl1 gTs yX9_gainByMending cX9_gainByMending 4 (some .int) rmX9_gainByMending gi [.ref 0, .int a1] w (xX9_gainByMending N a1 w) := by
  refine gM_of (own := RX9) [(0, .ref 0), (1, .int a1)] rfl (by decide) (fun _ => rfl) (fun _ => Nat.le_of_ble_eq_true rfl) (fun κ ok => ?_)
  unfold xX9_gainByMending
  refine g_aload_n (q := 1) ok dX9_gainByMending_0 rfl 0 rfl rfl ?_
  refine g_getR (q := 4) ok dX9_gainByMending_1 rfl fl_X9_12 sX_0 rfl ?_
  refine g_getR (q := 7) ok dX9_gainByMending_4 rfl fl_X9_243 sX_1 rfl ?_
  refine g_iload_n (q := 8) ok dX9_gainByMending_7 rfl 1 rfl rfl ?_
  refine g_iald (q := 9) ok dX9_gainByMending_8 rfl sX_6 ?_
  refine g_leti (fun v1 => ?_)
  refine g_istore_n (q := 10) (L' := [(2, .int v1), (0, .ref 0), (1, .int a1)]) ok dX9_gainByMending_9 rfl rfl (by decide) rfl rfl ?_
  refine g_iload_n (q := 11) ok dX9_gainByMending_10 rfl 0 rfl rfl ?_
  refine g_bipush (v := (nI 9)) (q := 13) ok dX9_gainByMending_11 rfl (by decide) ?_
  refine g_icmp_lt (q := 16) (g := 18) ok dX9_gainByMending_13 rfl (by decide) ?_ ?_
  · refine g_aload_n (q := 19) ok dX9_gainByMending_18 rfl 1 rfl rfl ?_
    refine g_getR (q := 22) ok dX9_gainByMending_19 rfl fl_X9_69 sX_0 rfl ?_
    refine g_callVv (q := 25) (As := []) (st := []) ok tbl_good dX9_gainByMending_22 rfl (kX8_pass N _) cf_X9_192 ⟨rfl, rfl, Nat.le_of_ble_eq_true rfl, Nat.le_of_ble_eq_true rfl⟩ sX_50 rfl rfl rfl (fun _ => Nat.le_of_ble_eq_true rfl) (fun w2 => ?_)
    refine g_aload_n (q := 26) ok dX9_gainByMending_25 rfl 1 rfl rfl ?_
    refine g_getR (q := 29) ok dX9_gainByMending_26 rfl fl_X9_69 sX_0 rfl ?_
    refine g_getR (q := 32) ok dX9_gainByMending_29 rfl fl_X9_185 sX_50 rfl ?_
    refine g_iconst (v := (nI 0)) (q := 33) ok dX9_gainByMending_32 rfl (by decide) ?_
    refine g_ialdC (j := 0) (q := 34) ok dX9_gainByMending_33 rfl sX_51 (by decide) (by decide) ?_
    refine g_leti (fun v3 => ?_)
    refine g_istore_n (q := 35) (L' := [(3, .int v3), (2, .int v1), (0, .ref 0), (1, .int a1)]) ok dX9_gainByMending_34 rfl rfl (by decide) rfl rfl ?_
    refine g_aload_n (q := 36) ok dX9_gainByMending_35 rfl 2 rfl rfl ?_
    refine g_getR (q := 39) ok dX9_gainByMending_36 rfl fl_X9_12 sX_0 rfl ?_
    refine g_getR (q := 42) ok dX9_gainByMending_39 rfl fl_X9_243 sX_1 rfl ?_
    refine g_iload_n (q := 43) ok dX9_gainByMending_42 rfl 3 rfl rfl ?_
    refine g_iload_n (q := 44) ok dX9_gainByMending_43 rfl 1 rfl rfl ?_
    refine g_iconst (v := (nI 1)) (q := 45) ok dX9_gainByMending_44 rfl (by decide) ?_
    refine g_iadd (q := 46) ok dX9_gainByMending_45 rfl ?_
    refine g_iast (q := 47) ok dX9_gainByMending_46 rfl sX_6 ?_
    refine g_letw (fun w4 => ?_)
    refine g_aload_n (q := 48) ok dX9_gainByMending_47 rfl 2 rfl rfl ?_
    refine g_getR (q := 51) ok dX9_gainByMending_48 rfl fl_X9_69 sX_0 rfl ?_
    refine g_callVv (q := 54) (As := []) (st := []) ok tbl_good dX9_gainByMending_51 rfl (kX8_pass N _) cf_X9_192 ⟨rfl, rfl, Nat.le_of_ble_eq_true rfl, Nat.le_of_ble_eq_true rfl⟩ sX_50 rfl rfl rfl (fun _ => Nat.le_of_ble_eq_true rfl) (fun w5 => ?_)
    refine g_aload_n (q := 55) ok dX9_gainByMending_54 rfl 2 rfl rfl ?_
    refine g_getR (q := 58) ok dX9_gainByMending_55 rfl fl_X9_12 sX_0 rfl ?_
    refine g_getR (q := 61) ok dX9_gainByMending_58 rfl fl_X9_243 sX_1 rfl ?_
    refine g_iload_n (q := 62) ok dX9_gainByMending_61 rfl 3 rfl rfl ?_
    refine g_iload_n (q := 63) ok dX9_gainByMending_62 rfl 1 rfl rfl ?_
    refine g_iast (q := 64) ok dX9_gainByMending_63 rfl sX_6 ?_
    refine g_letw (fun w6 => ?_)
    refine g_aload_n (q := 65) ok dX9_gainByMending_64 rfl 2 rfl rfl ?_
    refine g_getR (q := 68) ok dX9_gainByMending_65 rfl fl_X9_69 sX_0 rfl ?_
    refine g_getR (q := 71) ok dX9_gainByMending_68 rfl fl_X9_185 sX_50 rfl ?_
    refine g_iconst (v := (nI 0)) (q := 72) ok dX9_gainByMending_71 rfl (by decide) ?_
    refine g_ialdC (j := 0) (q := 73) ok dX9_gainByMending_72 rfl sX_51 (by decide) (by decide) ?_
    refine g_iload_n (q := 74) ok dX9_gainByMending_73 rfl 0 rfl rfl ?_
    refine g_isub (q := 75) ok dX9_gainByMending_74 rfl ?_
    exact g_iret ok dX9_gainByMending_75
  · refine g_iconst (v := (nI 0)) (q := 17) ok dX9_gainByMending_16 rfl (by decide) ?_
    exact g_iret ok dX9_gainByMending_17
set_option maxRecDepth 20000 in
theorem kX9_mended (N : Nat) (a1 : Int32) (a2 : Int32) (w : gT) : gM S1 cl1 gTs yX9_mended cX9_mended 7 (some .int) rmX9_mended gi [.ref 0, .int a1, .int a2] w (xX9_mended N a1 a2 w) := by
  refine gM_of (own := RX9) [(0, .ref 0), (1, .int a1), (2, .int a2)] rfl (by decide) (fun _ => rfl) (fun _ => Nat.le_of_ble_eq_true rfl) (fun κ ok => ?_)
  unfold xX9_mended
  refine g_join (P := fun k1 => ∀ (w2 : gT), gJ S1 cl1 rmX9_mended 7 gi κ 21 [(0, .ref 0), (2, .int a2)] [] w2 (k1 w2)) (fun w2 => ?_) (fun k1 hk1 => ?_)
  · refine g_join (P := fun k3 => ∀ (w4 : gT), gJ S1 cl1 rmX9_mended 7 gi κ 34 [(0, .ref 0), (2, .int a2)] [] w4 (k3 w4)) (fun w4 => ?_) (fun k3 hk3 => ?_)
    · refine g_ldc (q := 36) ok dX9_mended_34 rfl tw_906 ?_
      refine g_istore_n (q := 37) (L' := [(3, .int (-100000)), (0, .ref 0), (2, .int a2)]) ok dX9_mended_36 rfl rfl (by decide) rfl rfl ?_
      refine g_ldc (q := 39) ok dX9_mended_37 rfl tw_906 ?_
      refine g_istore (q := 41) (L' := [(4, .int (-100000)), (3, .int (-100000)), (0, .ref 0), (2, .int a2)]) ok dX9_mended_39 rfl (by decide) rfl rfl ?_
      refine g_iconst (v := (nI 0)) (q := 42) ok dX9_mended_41 rfl (by decide) ?_
      refine g_istore (q := 44) (L' := [(5, .int (nI 0)), (4, .int (-100000)), (3, .int (-100000)), (0, .ref 0), (2, .int a2)]) ok dX9_mended_42 rfl (by decide) rfl rfl ?_
      refine g_to (L' := [(0, .ref 0), (2, .int a2), (3, .int (-100000)), (4, .int (-100000)), (5, .int (nI 0))]) ?_ [3, 4, 2, 1, 0] rfl
      refine g_loop3 (Lf := fun v6 v7 v8 => [(0, .ref 0), (2, .int a2), (3, .int v6), (4, .int v7), (5, .int v8)]) (fun go5 hgo5 v6 v7 v8 w9 => ?_) N _ _ _ _
      unfold xX9_mended_b44
      refine g_iload (q := 46) ok dX9_mended_44 rfl 4 rfl ?_
      refine g_bipush (v := (nI 10)) (q := 48) ok dX9_mended_46 rfl (by decide) ?_
      refine g_icmp_ge (q := 51) (g := 96) ok dX9_mended_48 rfl (by decide) ?_ ?_
      · refine g_iload_n (q := 97) ok dX9_mended_96 rfl 1 rfl rfl ?_
        refine g_iconst (v := (nI 1)) (q := 98) ok dX9_mended_97 rfl (by decide) ?_
        refine g_icmp_ne (q := 101) (g := 105) ok dX9_mended_98 rfl (by decide) ?_ ?_
        · refine g_iload (q := 107) ok dX9_mended_105 rfl 3 rfl ?_
          exact g_iret ok dX9_mended_107
        · refine g_iload_n (q := 102) ok dX9_mended_101 rfl 2 rfl rfl ?_
          refine g_goto (q := 107) ok dX9_mended_102 (by decide) ?_
          exact g_iret ok dX9_mended_107
      · refine g_join (P := fun k10 => ∀ (v11 : Int32) (w12 : gT), gJ S1 cl1 rmX9_mended 7 gi κ 74 [(0, .ref 0), (2, .int a2), (3, .int v6), (4, .int v7), (5, .int v8)] [.int v11] w12 (k10 v11 w12)) (fun v11 w12 => ?_) (fun k10 hk10 => ?_)
        · refine g_join (P := fun k13 => ∀ (v14 : Int32) (v15 : Int32) (w16 : gT), gJ S1 cl1 rmX9_mended 7 gi κ 90 [(0, .ref 0), (2, .int a2), (5, .int v8), (3, .int v14), (4, .int v15)] [] w16 (k13 v14 v15 w16)) (fun v14 v15 w16 => ?_) (fun k13 hk13 => ?_)
          · refine g_iinc (v := v8 + (nI 1)) (q := 93) (L' := [(5, .int (v8 + (nI 1))), (0, .ref 0), (2, .int a2), (3, .int v14), (4, .int v15)]) ok dX9_mended_90 rfl 2 rfl rfl (by decide) rfl rfl ?_
            refine g_goto (q := 44) ok dX9_mended_93 (by decide) ?_
            refine g_to (L' := [(0, .ref 0), (2, .int a2), (3, .int v14), (4, .int v15), (5, .int (v8 + (nI 1)))]) ?_ [1, 2, 3, 4, 0] rfl
            exact hgo5 _ _ _ _
          · refine g_istore (q := 76) (L' := [(6, .int v11), (0, .ref 0), (2, .int a2), (3, .int v6), (4, .int v7), (5, .int v8)]) ok dX9_mended_74 rfl (by decide) rfl rfl ?_
            refine g_iload (q := 78) ok dX9_mended_76 rfl 0 rfl ?_
            refine g_iload (q := 80) ok dX9_mended_78 rfl 4 rfl ?_
            refine g_icmp_le (q := 83) (g := 90) ok dX9_mended_80 rfl (by decide) ?_ ?_
            · refine g_to (L' := [(0, .ref 0), (2, .int a2), (5, .int v8), (3, .int v6), (4, .int v7)]) ?_ [1, 2, 5, 3, 4] rfl
              exact hk13 _ _ _
            · refine g_iload (q := 85) ok dX9_mended_83 rfl 0 rfl ?_
              refine g_istore (q := 87) (L' := [(4, .int v11), (6, .int v11), (0, .ref 0), (2, .int a2), (3, .int v6), (5, .int v8)]) ok dX9_mended_85 rfl (by decide) rfl rfl ?_
              refine g_iload (q := 89) ok dX9_mended_87 rfl 5 rfl ?_
              refine g_istore_n (q := 90) (L' := [(3, .int v8), (4, .int v11), (6, .int v11), (0, .ref 0), (2, .int a2), (5, .int v8)]) ok dX9_mended_89 rfl rfl (by decide) rfl rfl ?_
              refine g_to (L' := [(0, .ref 0), (2, .int a2), (5, .int v8), (3, .int v8), (4, .int v11)]) ?_ [3, 4, 5, 0, 1] rfl
              exact hk13 _ _ _
        · refine g_aload_n (q := 52) ok dX9_mended_51 rfl 0 rfl rfl ?_
          refine g_getR (q := 55) ok dX9_mended_52 rfl fl_X9_12 sX_0 rfl ?_
          refine g_iload (q := 57) ok dX9_mended_55 rfl 4 rfl ?_
          refine g_callVi (q := 60) (As := [.int v8]) (st := []) ok tbl_good dX9_mended_57 rfl (kX2_hasGhost _ _) cf_X9_178 ⟨rfl, rfl, Nat.le_of_ble_eq_true rfl, Nat.le_of_ble_eq_true rfl⟩ sX_1 rfl rfl rfl (fun _ => Nat.le_of_ble_eq_true rfl) (fun v17 w18 => ?_)
          refine g_if_eq (q := 63) (g := 72) ok dX9_mended_60 rfl (by decide) ?_ ?_
          · refine g_ldc (q := 74) ok dX9_mended_72 rfl tw_906 ?_
            exact hk10 _ _
          · refine g_aload_n (q := 64) ok dX9_mended_63 rfl 0 rfl rfl ?_
            refine g_iload (q := 66) ok dX9_mended_64 rfl 4 rfl ?_
            refine g_callVi (q := 69) (As := [.int v8]) (st := []) ok tbl_good dX9_mended_66 rfl (kX9_gainByMending N _ _) cf_X9_239 ⟨rfl, rfl, Nat.le_of_ble_eq_true rfl, Nat.le_of_ble_eq_true rfl⟩ sX_0 rfl rfl rfl (fun _ => Nat.le_of_ble_eq_true rfl) (fun v19 w20 => ?_)
            refine g_goto (q := 74) ok dX9_mended_69 (by decide) ?_
            exact hk10 _ _
    · refine g_iload_n (q := 22) ok dX9_mended_21 rfl 1 rfl rfl ?_
      refine g_iconst (v := (nI 1)) (q := 23) ok dX9_mended_22 rfl (by decide) ?_
      refine g_icmp_eq (q := 26) (g := 34) ok dX9_mended_23 rfl (by decide) ?_ ?_
      · exact hk3 _
      · refine g_iload_n (q := 27) ok dX9_mended_26 rfl 1 rfl rfl ?_
        refine g_iconst (v := (nI 2)) (q := 28) ok dX9_mended_27 rfl (by decide) ?_
        refine g_icmp_eq (q := 31) (g := 34) ok dX9_mended_28 rfl (by decide) ?_ ?_
        · exact hk3 _
        · refine g_ldc (q := 33) ok dX9_mended_31 rfl tw_906 ?_
          exact g_iret ok dX9_mended_33
  · refine g_iload_n (q := 1) ok dX9_mended_0 rfl 2 rfl rfl ?_
    refine g_if_ne (q := 4) (g := 21) ok dX9_mended_1 rfl (by decide) ?_ ?_
    · refine g_to (L' := [(0, .ref 0), (2, .int a2)]) ?_ [0, 2] rfl
      exact hk1 _
    · refine g_aload_n (q := 5) ok dX9_mended_4 rfl 0 rfl rfl ?_
      refine g_getR (q := 8) ok dX9_mended_5 rfl fl_X9_12 sX_0 rfl ?_
      refine g_iload_n (q := 9) ok dX9_mended_8 rfl 1 rfl rfl ?_
      refine g_callVi (q := 12) (As := [.int a1]) (st := []) ok tbl_good dX9_mended_9 rfl (kX2_hasGhost _ _) cf_X9_178 ⟨rfl, rfl, Nat.le_of_ble_eq_true rfl, Nat.le_of_ble_eq_true rfl⟩ sX_1 rfl rfl rfl (fun _ => Nat.le_of_ble_eq_true rfl) (fun v21 w22 => ?_)
      refine g_if_eq (q := 15) (g := 21) ok dX9_mended_12 rfl (by decide) ?_ ?_
      · refine g_to (L' := [(0, .ref 0), (2, .int a2)]) ?_ [0, 2] rfl
        exact hk1 _
      · refine g_aload_n (q := 16) ok dX9_mended_15 rfl 0 rfl rfl ?_
        refine g_iload_n (q := 17) ok dX9_mended_16 rfl 1 rfl rfl ?_
        refine g_callVi (q := 20) (As := [.int a1]) (st := []) ok tbl_good dX9_mended_17 rfl (kX9_gainByMending N _ _) cf_X9_239 ⟨rfl, rfl, Nat.le_of_ble_eq_true rfl, Nat.le_of_ble_eq_true rfl⟩ sX_0 rfl rfl rfl (fun _ => Nat.le_of_ble_eq_true rfl) (fun v23 w24 => ?_)
        exact g_iret ok dX9_mended_20
set_option maxRecDepth 20000 in
theorem kX9_mend (a1 : Int32) (w : gT) : gM S1 cl1 gTs yX9_mend cX9_mend 2 (some .int) rmX9_mend gi [.ref 0, .int a1] w (xX9_mend a1 w) := by
  refine gM_of (own := RX9) [(0, .ref 0), (1, .int a1)] rfl (by decide) (fun _ => rfl) (fun _ => Nat.le_of_ble_eq_true rfl) (fun κ ok => ?_)
  unfold xX9_mend
  refine g_aload_n (q := 1) ok dX9_mend_0 rfl 0 rfl rfl ?_
  refine g_getR (q := 4) ok dX9_mend_1 rfl fl_X9_12 sX_0 rfl ?_
  refine g_iload_n (q := 5) ok dX9_mend_4 rfl 1 rfl rfl ?_
  refine g_callVi (q := 8) (As := [.int a1]) (st := []) ok tbl_good dX9_mend_5 rfl (kX2_hasGhost _ _) cf_X9_178 ⟨rfl, rfl, Nat.le_of_ble_eq_true rfl, Nat.le_of_ble_eq_true rfl⟩ sX_1 rfl rfl rfl (fun _ => Nat.le_of_ble_eq_true rfl) (fun v1 w2 => ?_)
  refine g_if_eq (q := 11) (g := 25) ok dX9_mend_8 rfl (by decide) ?_ ?_
  · refine g_iconst (v := (-1)) (q := 26) ok dX9_mend_25 rfl (by decide) ?_
    exact g_iret ok dX9_mend_26
  · refine g_aload_n (q := 12) ok dX9_mend_11 rfl 0 rfl rfl ?_
    refine g_getR (q := 15) ok dX9_mend_12 rfl fl_X9_12 sX_0 rfl ?_
    refine g_getR (q := 18) ok dX9_mend_15 rfl fl_X9_243 sX_1 rfl ?_
    refine g_iload_n (q := 19) ok dX9_mend_18 rfl 1 rfl rfl ?_
    refine g_iald (q := 20) ok dX9_mend_19 rfl sX_6 ?_
    refine g_bipush (v := (nI 9)) (q := 22) ok dX9_mend_20 rfl (by decide) ?_
    refine g_icmp_lt (q := 25) (g := 27) ok dX9_mend_22 rfl (by decide) ?_ ?_
    · refine g_aload_n (q := 28) ok dX9_mend_27 rfl 0 rfl rfl ?_
      refine g_getR (q := 31) ok dX9_mend_28 rfl fl_X9_12 sX_0 rfl ?_
      refine g_getR (q := 34) ok dX9_mend_31 rfl fl_X9_243 sX_1 rfl ?_
      refine g_iload_n (q := 35) ok dX9_mend_34 rfl 1 rfl rfl ?_
      refine g_dup2 (q := 36) ok dX9_mend_35 rfl (fun _ => ⟨rfl, rfl⟩) ?_
      refine g_iald (q := 37) ok dX9_mend_36 rfl sX_6 ?_
      refine g_iconst (v := (nI 1)) (q := 38) ok dX9_mend_37 rfl (by decide) ?_
      refine g_iadd (q := 39) ok dX9_mend_38 rfl ?_
      refine g_iast (q := 40) ok dX9_mend_39 rfl sX_6 ?_
      refine g_letw (fun w3 => ?_)
      refine g_aload_n (q := 41) ok dX9_mend_40 rfl 0 rfl rfl ?_
      refine g_getR (q := 44) ok dX9_mend_41 rfl fl_X9_12 sX_0 rfl ?_
      refine g_getR (q := 47) ok dX9_mend_44 rfl fl_X9_243 sX_1 rfl ?_
      refine g_iload_n (q := 48) ok dX9_mend_47 rfl 1 rfl rfl ?_
      refine g_iald (q := 49) ok dX9_mend_48 rfl sX_6 ?_
      exact g_iret ok dX9_mend_49
    · refine g_iconst (v := (-1)) (q := 26) ok dX9_mend_25 rfl (by decide) ?_
      exact g_iret ok dX9_mend_26
set_option maxRecDepth 20000 in
theorem kJ7_fill_53178 (N : Nat) (a1 : Int32) (w : gT) : gM S1 cl1 gTs yJ7_fill_53178 cJ7_fill_53178 4 none rmJ7_fill_53178 gv [.ref 59, .int a1] w (xJ7_fill_53178 N a1 w) := by
  refine gM_of (own := RJ7) [(0, .ref 59), (1, .int a1)] rfl (by decide) (fun _ => rfl) (fun _ => Nat.le_of_ble_eq_true rfl) (fun κ ok => ?_)
  unfold xJ7_fill_53178
  refine g_iconst (v := (nI 0)) (q := 1) ok dJ7_fill_53178_0 rfl (by decide) ?_
  refine g_istore_n (q := 2) (L' := [(2, .int (nI 0)), (0, .ref 59), (1, .int a1)]) ok dJ7_fill_53178_1 rfl rfl (by decide) rfl rfl ?_
  refine g_aload_n (q := 3) ok dJ7_fill_53178_2 rfl 1 rfl rfl ?_
  refine g_alen (v := (nI 10)) (q := 4) ok dJ7_fill_53178_3 rfl sX_59 rfl ?_
  refine g_istore_n (q := 5) (L' := [(3, .int (nI 10)), (2, .int (nI 0)), (0, .ref 59), (1, .int a1)]) ok dJ7_fill_53178_4 rfl rfl (by decide) rfl rfl ?_
  refine g_to (L' := [(0, .ref 59), (1, .int a1), (3, .int (nI 10)), (2, .int (nI 0))]) ?_ [2, 3, 0, 1] rfl
  refine g_loop1 (Lf := fun v2 => [(0, .ref 59), (1, .int a1), (3, .int (nI 10)), (2, .int v2)]) (fun go1 hgo1 v2 w3 => ?_) N _ _
  unfold xJ7_fill_53178_b5
  refine g_iload_n (q := 6) ok dJ7_fill_53178_5 rfl 3 rfl rfl ?_
  refine g_iload_n (q := 7) ok dJ7_fill_53178_6 rfl 2 rfl rfl ?_
  refine g_icmp_ge (q := 10) (g := 20) ok dJ7_fill_53178_7 rfl (by decide) ?_ ?_
  · exact g_vret ok dJ7_fill_53178_20
  · refine g_aload_n (q := 11) ok dJ7_fill_53178_10 rfl 0 rfl rfl ?_
    refine g_iload_n (q := 12) ok dJ7_fill_53178_11 rfl 3 rfl rfl ?_
    refine g_iload_n (q := 13) ok dJ7_fill_53178_12 rfl 1 rfl rfl ?_
    refine g_iast (q := 14) ok dJ7_fill_53178_13 rfl sX_59 ?_
    refine g_letw (fun w4 => ?_)
    refine g_iinc (v := v2 + (nI 1)) (q := 17) (L' := [(2, .int (v2 + (nI 1))), (0, .ref 59), (1, .int a1), (3, .int (nI 10))]) ok dJ7_fill_53178_14 rfl 3 rfl rfl (by decide) rfl rfl ?_
    refine g_goto (q := 5) ok dJ7_fill_53178_17 (by decide) ?_
    refine g_to (L' := [(0, .ref 59), (1, .int a1), (3, .int (nI 10)), (2, .int (v2 + (nI 1)))]) ?_ [1, 2, 3, 0] rfl
    exact hgo1 _ _
set_option maxRecDepth 20000 in
theorem kX9_weighChains (N : Nat) (a1 : Int32) (w : gT) : gM S1 cl1 gTs yX9_weighChains cX9_weighChains 6 (some .int) rmX9_weighChains gi [.ref 0, .int a1] w (xX9_weighChains N a1 w) := by
  refine gM_of (own := RX9) [(0, .ref 0), (1, .int a1)] rfl (by decide) (fun _ => rfl) (fun _ => Nat.le_of_ble_eq_true rfl) (fun κ ok => ?_)
  unfold xX9_weighChains
  refine g_aload_n (q := 1) ok dX9_weighChains_0 rfl 0 rfl rfl ?_
  refine g_getR (q := 4) ok dX9_weighChains_1 rfl fl_X9_89 sX_0 rfl ?_
  refine g_iconst (v := (nI 0)) (q := 5) ok dX9_weighChains_4 rfl (by decide) ?_
  refine g_callSv (q := 8) (As := [.ref 59, .int (nI 0)]) (st := []) ok tbl_good dX9_weighChains_5 rfl (kJ7_fill_53178 N _ _) cf_X9_281 ⟨rfl, rfl, Nat.le_of_ble_eq_true rfl, Nat.le_of_ble_eq_true rfl⟩ rfl rfl (fun _ => Nat.le_of_ble_eq_true rfl) (fun w1 => ?_)
  refine g_iconst (v := (nI 0)) (q := 9) ok dX9_weighChains_8 rfl (by decide) ?_
  refine g_istore_n (q := 10) (L' := [(2, .int (nI 0)), (0, .ref 0), (1, .int a1)]) ok dX9_weighChains_9 rfl rfl (by decide) rfl rfl ?_
  refine g_iconst (v := (nI 0)) (q := 11) ok dX9_weighChains_10 rfl (by decide) ?_
  refine g_istore_n (q := 12) (L' := [(3, .int (nI 0)), (2, .int (nI 0)), (0, .ref 0), (1, .int a1)]) ok dX9_weighChains_11 rfl rfl (by decide) rfl rfl ?_
  refine g_to (L' := [(0, .ref 0), (1, .int a1), (2, .int (nI 0)), (3, .int (nI 0))]) ?_ [2, 3, 1, 0] rfl
  refine g_loop2 (Lf := fun v3 v4 => [(0, .ref 0), (1, .int a1), (2, .int v3), (3, .int v4)]) (fun go2 hgo2 v3 v4 w5 => ?_) N _ _ _
  unfold xX9_weighChains_b12
  refine g_iload_n (q := 13) ok dX9_weighChains_12 rfl 3 rfl rfl ?_
  refine g_aload_n (q := 14) ok dX9_weighChains_13 rfl 0 rfl rfl ?_
  refine g_getR (q := 17) ok dX9_weighChains_14 rfl fl_X9_29 sX_0 rfl ?_
  refine g_getI (q := 20) (N := 0) ok dX9_weighChains_17 rfl fl_X9_152 sX_21 rfl ?_
  refine g_icmp_ge (q := 23) (g := 125) ok dX9_weighChains_20 rfl (by decide) ?_ ?_
  · refine g_iload_n (q := 126) ok dX9_weighChains_125 rfl 2 rfl rfl ?_
    exact g_iret ok dX9_weighChains_126
  · refine g_join (P := fun k6 => ∀ (v7 : Int32) (w8 : gT), gJ S1 cl1 rmX9_weighChains 6 gi κ 119 [(0, .ref 0), (1, .int a1), (3, .int v4), (2, .int v7)] [] w8 (k6 v7 w8)) (fun v7 w8 => ?_) (fun k6 hk6 => ?_)
    · refine g_iinc (v := v4 + (nI 1)) (q := 122) (L' := [(3, .int (v4 + (nI 1))), (0, .ref 0), (1, .int a1), (2, .int v7)]) ok dX9_weighChains_119 rfl 2 rfl rfl (by decide) rfl rfl ?_
      refine g_goto (q := 12) ok dX9_weighChains_122 (by decide) ?_
      refine g_to (L' := [(0, .ref 0), (1, .int a1), (2, .int v7), (3, .int (v4 + (nI 1)))]) ?_ [1, 2, 3, 0] rfl
      exact hgo2 _ _ _
    · refine g_aload_n (q := 24) ok dX9_weighChains_23 rfl 0 rfl rfl ?_
      refine g_getR (q := 27) ok dX9_weighChains_24 rfl fl_X9_29 sX_0 rfl ?_
      refine g_getR (q := 30) ok dX9_weighChains_27 rfl fl_X9_165 sX_21 rfl ?_
      refine g_iload_n (q := 31) ok dX9_weighChains_30 rfl 3 rfl rfl ?_
      refine g_iald (q := 32) ok dX9_weighChains_31 rfl sX_23 ?_
      refine g_iload_n (q := 33) ok dX9_weighChains_32 rfl 1 rfl rfl ?_
      refine g_icmp_ne (q := 36) (g := 119) ok dX9_weighChains_33 rfl (by decide) ?_ ?_
      · refine g_to (L' := [(0, .ref 0), (1, .int a1), (3, .int v4), (2, .int v3)]) ?_ [0, 1, 3, 2] rfl
        exact hk6 _ _
      · refine g_aload_n (q := 37) ok dX9_weighChains_36 rfl 0 rfl rfl ?_
        refine g_getR (q := 40) ok dX9_weighChains_37 rfl fl_X9_29 sX_0 rfl ?_
        refine g_iload_n (q := 41) ok dX9_weighChains_40 rfl 3 rfl rfl ?_
        refine g_aload_n (q := 42) ok dX9_weighChains_41 rfl 0 rfl rfl ?_
        refine g_getR (q := 45) ok dX9_weighChains_42 rfl fl_X9_12 sX_0 rfl ?_
        refine g_callVi (q := 48) (As := [.int v4, .ref 1]) (st := []) ok tbl_good dX9_weighChains_45 rfl (kX7_isGone _ _) cf_X9_174 ⟨rfl, rfl, Nat.le_of_ble_eq_true rfl, Nat.le_of_ble_eq_true rfl⟩ sX_21 rfl rfl rfl (fun _ => Nat.le_of_ble_eq_true rfl) (fun v9 w10 => ?_)
        refine g_if_eq (q := 51) (g := 119) ok dX9_weighChains_48 rfl (by decide) ?_ ?_
        · refine g_to (L' := [(0, .ref 0), (1, .int a1), (3, .int v4), (2, .int v3)]) ?_ [0, 1, 3, 2] rfl
          exact hk6 _ _
        · refine g_aload_n (q := 52) ok dX9_weighChains_51 rfl 0 rfl rfl ?_
          refine g_getR (q := 55) ok dX9_weighChains_52 rfl fl_X9_29 sX_0 rfl ?_
          refine g_getR (q := 58) ok dX9_weighChains_55 rfl fl_X9_162 sX_21 rfl ?_
          refine g_iload_n (q := 59) ok dX9_weighChains_58 rfl 3 rfl rfl ?_
          refine g_iald (q := 60) ok dX9_weighChains_59 rfl sX_22 ?_
          refine g_leti (fun v11 => ?_)
          refine g_istore (q := 62) (L' := [(4, .int v11), (0, .ref 0), (1, .int a1), (2, .int v3), (3, .int v4)]) ok dX9_weighChains_60 rfl (by decide) rfl rfl ?_
          refine g_aload_n (q := 63) ok dX9_weighChains_62 rfl 1 rfl rfl ?_
          refine g_getR (q := 66) ok dX9_weighChains_63 rfl fl_X9_60 sX_0 rfl ?_
          refine g_iload (q := 68) ok dX9_weighChains_66 rfl 0 rfl ?_
          refine g_iload_n (q := 69) ok dX9_weighChains_68 rfl 2 rfl rfl ?_
          refine g_aload_n (q := 70) ok dX9_weighChains_69 rfl 1 rfl rfl ?_
          refine g_getR (q := 73) ok dX9_weighChains_70 rfl fl_X9_29 sX_0 rfl ?_
          refine g_getR (q := 76) ok dX9_weighChains_73 rfl fl_X9_168 sX_21 rfl ?_
          refine g_iload_n (q := 77) ok dX9_weighChains_76 rfl 4 rfl rfl ?_
          refine g_iald (q := 78) ok dX9_weighChains_77 rfl sX_24 ?_
          refine g_iconst (v := (nI 0)) (q := 79) ok dX9_weighChains_78 rfl (by decide) ?_
          refine g_callVi (q := 82) (As := [.int v11, .int a1, .int (w10.1 24 v4.toNatClampNeg), .int (nI 0)]) (st := []) ok tbl_good dX9_weighChains_79 rfl (kX1_frightOfAll N _ _ _ _ _) cf_X9_225 ⟨rfl, rfl, Nat.le_of_ble_eq_true rfl, Nat.le_of_ble_eq_true rfl⟩ sX_48 rfl rfl rfl (fun _ => Nat.le_of_ble_eq_true rfl) (fun v12 w13 => ?_)
          refine g_istore (q := 84) (L' := [(5, .int v12), (4, .int v11), (0, .ref 0), (1, .int a1), (2, .int v3), (3, .int v4)]) ok dX9_weighChains_82 rfl (by decide) rfl rfl ?_
          refine g_aload_n (q := 85) ok dX9_weighChains_84 rfl 2 rfl rfl ?_
          refine g_getR (q := 88) ok dX9_weighChains_85 rfl fl_X9_89 sX_0 rfl ?_
          refine g_iload (q := 90) ok dX9_weighChains_88 rfl 1 rfl ?_
          refine g_aload_n (q := 91) ok dX9_weighChains_90 rfl 2 rfl rfl ?_
          refine g_getR (q := 94) ok dX9_weighChains_91 rfl fl_X9_60 sX_0 rfl ?_
          refine g_iload (q := 96) ok dX9_weighChains_94 rfl 1 rfl ?_
          refine g_iload_n (q := 97) ok dX9_weighChains_96 rfl 3 rfl rfl ?_
          refine g_aload_n (q := 98) ok dX9_weighChains_97 rfl 2 rfl rfl ?_
          refine g_getR (q := 101) ok dX9_weighChains_98 rfl fl_X9_29 sX_0 rfl ?_
          refine g_getR (q := 104) ok dX9_weighChains_101 rfl fl_X9_168 sX_21 rfl ?_
          refine g_iload_n (q := 105) ok dX9_weighChains_104 rfl 5 rfl rfl ?_
          refine g_iald (q := 106) ok dX9_weighChains_105 rfl sX_24 ?_
          refine g_iconst (v := (nI 1)) (q := 107) ok dX9_weighChains_106 rfl (by decide) ?_
          refine g_callVi (q := 110) (As := [.int v11, .int a1, .int (w13.1 24 v4.toNatClampNeg), .int (nI 1)]) (st := [.int v11, .ref 59]) ok tbl_good dX9_weighChains_107 rfl (kX1_frightOfAll N _ _ _ _ _) cf_X9_225 ⟨rfl, rfl, Nat.le_of_ble_eq_true rfl, Nat.le_of_ble_eq_true rfl⟩ sX_48 rfl rfl rfl (fun _ => Nat.le_of_ble_eq_true rfl) (fun v14 w15 => ?_)
          refine g_iload (q := 112) ok dX9_weighChains_110 rfl 0 rfl ?_
          refine g_isub (q := 113) ok dX9_weighChains_112 rfl ?_
          refine g_iast (q := 114) ok dX9_weighChains_113 rfl sX_59 ?_
          refine g_letw (fun w16 => ?_)
          refine g_iload_n (q := 115) ok dX9_weighChains_114 rfl 4 rfl rfl ?_
          refine g_iload (q := 117) ok dX9_weighChains_115 rfl 0 rfl ?_
          refine g_iadd (q := 118) ok dX9_weighChains_117 rfl ?_
          refine g_leti (fun v17 => ?_)
          refine g_istore_n (q := 119) (L' := [(2, .int v17), (5, .int v12), (4, .int v11), (0, .ref 0), (1, .int a1), (3, .int v4)]) ok dX9_weighChains_118 rfl rfl (by decide) rfl rfl ?_
          refine g_to (L' := [(0, .ref 0), (1, .int a1), (3, .int v4), (2, .int v17)]) ?_ [3, 4, 5, 0] rfl
          exact hk6 _ _
set_option maxRecDepth 20000 in
theorem kX9_dearest (N : Nat) (w : gT) : gM S1 cl1 gTs yX9_dearest cX9_dearest 3 (some .int) rmX9_dearest gi [.ref 0] w (xX9_dearest N w) := by
  refine gM_of (own := RX9) [(0, .ref 0)] rfl (by decide) (fun _ => rfl) (fun _ => Nat.le_of_ble_eq_true rfl) (fun κ ok => ?_)
  unfold xX9_dearest
  refine g_iconst (v := (nI 0)) (q := 1) ok dX9_dearest_0 rfl (by decide) ?_
  refine g_istore_n (q := 2) (L' := [(1, .int (nI 0)), (0, .ref 0)]) ok dX9_dearest_1 rfl rfl (by decide) rfl rfl ?_
  refine g_iconst (v := (nI 1)) (q := 3) ok dX9_dearest_2 rfl (by decide) ?_
  refine g_istore_n (q := 4) (L' := [(2, .int (nI 1)), (1, .int (nI 0)), (0, .ref 0)]) ok dX9_dearest_3 rfl rfl (by decide) rfl rfl ?_
  refine g_to (L' := [(0, .ref 0), (1, .int (nI 0)), (2, .int (nI 1))]) ?_ [2, 1, 0] rfl
  refine g_loop2 (Lf := fun v2 v3 => [(0, .ref 0), (1, .int v2), (2, .int v3)]) (fun go1 hgo1 v2 v3 w4 => ?_) N _ _ _
  unfold xX9_dearest_b4
  refine g_iload_n (q := 5) ok dX9_dearest_4 rfl 2 rfl rfl ?_
  refine g_bipush (v := (nI 10)) (q := 7) ok dX9_dearest_5 rfl (by decide) ?_
  refine g_icmp_ge (q := 10) (g := 33) ok dX9_dearest_7 rfl (by decide) ?_ ?_
  · refine g_iload_n (q := 34) ok dX9_dearest_33 rfl 1 rfl rfl ?_
    exact g_iret ok dX9_dearest_34
  · refine g_join (P := fun k5 => ∀ (v6 : Int32) (w7 : gT), gJ S1 cl1 rmX9_dearest 3 gi κ 27 [(0, .ref 0), (2, .int v3), (1, .int v6)] [] w7 (k5 v6 w7)) (fun v6 w7 => ?_) (fun k5 hk5 => ?_)
    · refine g_iinc (v := v3 + (nI 1)) (q := 30) (L' := [(2, .int (v3 + (nI 1))), (0, .ref 0), (1, .int v6)]) ok dX9_dearest_27 rfl 1 rfl rfl (by decide) rfl rfl ?_
      refine g_goto (q := 4) ok dX9_dearest_30 (by decide) ?_
      refine g_to (L' := [(0, .ref 0), (1, .int v6), (2, .int (v3 + (nI 1)))]) ?_ [1, 2, 0] rfl
      exact hgo1 _ _ _
    · refine g_aload_n (q := 11) ok dX9_dearest_10 rfl 0 rfl rfl ?_
      refine g_getR (q := 14) ok dX9_dearest_11 rfl fl_X9_89 sX_0 rfl ?_
      refine g_iload_n (q := 15) ok dX9_dearest_14 rfl 2 rfl rfl ?_
      refine g_iald (q := 16) ok dX9_dearest_15 rfl sX_59 ?_
      refine g_aload_n (q := 17) ok dX9_dearest_16 rfl 0 rfl rfl ?_
      refine g_getR (q := 20) ok dX9_dearest_17 rfl fl_X9_89 sX_0 rfl ?_
      refine g_iload_n (q := 21) ok dX9_dearest_20 rfl 1 rfl rfl ?_
      refine g_iald (q := 22) ok dX9_dearest_21 rfl sX_59 ?_
      refine g_icmp_le (q := 25) (g := 27) ok dX9_dearest_22 rfl (by decide) ?_ ?_
      · refine g_to (L' := [(0, .ref 0), (2, .int v3), (1, .int v2)]) ?_ [0, 2, 1] rfl
        exact hk5 _ _
      · refine g_iload_n (q := 26) ok dX9_dearest_25 rfl 2 rfl rfl ?_
        refine g_istore_n (q := 27) (L' := [(1, .int v3), (0, .ref 0), (2, .int v3)]) ok dX9_dearest_26 rfl rfl (by decide) rfl rfl ?_
        refine g_to (L' := [(0, .ref 0), (2, .int v3), (1, .int v3)]) ?_ [1, 2, 0] rfl
        exact hk5 _ _
