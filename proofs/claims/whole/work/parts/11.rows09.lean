set_option maxRecDepth 20000 in
theorem kX10_tapeNumber (N : Nat) (a1 : Int32) (w : gT) : gM S2 cl2 gTs yX10_tapeNumber cX10_tapeNumber 4 (some .int) rmX10_tapeNumber gi [.ref 0, .int a1] w (xX10_tapeNumber N a1 w) := by
  refine gM_of (own := RX10) [(0, .ref 0), (1, .int a1)] rfl (by decide) (fun _ => rfl) (fun _ => Nat.le_of_ble_eq_true rfl) (fun κ ok => ?_)
  unfold xX10_tapeNumber
  refine g_iconst (v := (nI 0)) (q := 1) ok dX10_tapeNumber_0 rfl (by decide) ?_
  refine g_istore_n (q := 2) (L' := [(2, .int (nI 0)), (0, .ref 0), (1, .int a1)]) ok dX10_tapeNumber_1 rfl rfl (by decide) rfl rfl ?_
  refine g_iconst (v := (nI 4)) (q := 3) ok dX10_tapeNumber_2 rfl (by decide) ?_
  refine g_iload_n (q := 4) ok dX10_tapeNumber_3 rfl 2 rfl rfl ?_
  refine g_imul (q := 5) ok dX10_tapeNumber_4 rfl ?_
  refine g_leti (fun v1 => ?_)
  refine g_istore_n (q := 6) (L' := [(3, .int v1), (2, .int (nI 0)), (0, .ref 0), (1, .int a1)]) ok dX10_tapeNumber_5 rfl rfl (by decide) rfl rfl ?_
  refine g_to (L' := [(0, .ref 0), (1, .int a1), (2, .int (nI 0)), (3, .int v1)]) ?_ [2, 3, 1, 0] rfl
  refine g_loop2 (Lf := fun v3 v4 => [(0, .ref 0), (1, .int a1), (2, .int v3), (3, .int v4)]) (fun go2 hgo2 v3 v4 w5 => ?_) N _ _ _
  unfold xX10_tapeNumber_b6
  refine g_iload_n (q := 7) ok dX10_tapeNumber_6 rfl 3 rfl rfl ?_
  refine g_iconst (v := (nI 4)) (q := 8) ok dX10_tapeNumber_7 rfl (by decide) ?_
  refine g_iload_n (q := 9) ok dX10_tapeNumber_8 rfl 1 rfl rfl ?_
  refine g_imul (q := 10) ok dX10_tapeNumber_9 rfl ?_
  refine g_iconst (v := (nI 4)) (q := 11) ok dX10_tapeNumber_10 rfl (by decide) ?_
  refine g_iadd (q := 12) ok dX10_tapeNumber_11 rfl ?_
  refine g_icmp_ge (q := 15) (g := 37) ok dX10_tapeNumber_12 rfl (by decide) ?_ ?_
  · refine g_iload_n (q := 38) ok dX10_tapeNumber_37 rfl 2 rfl rfl ?_
    exact g_iret ok dX10_tapeNumber_38
  · refine g_iload_n (q := 16) ok dX10_tapeNumber_15 rfl 2 rfl rfl ?_
    refine g_bipush (v := (nI 8)) (q := 18) ok dX10_tapeNumber_16 rfl (by decide) ?_
    refine g_ishl (q := 19) ok dX10_tapeNumber_18 rfl ?_
    refine g_aload_n (q := 20) ok dX10_tapeNumber_19 rfl 0 rfl rfl ?_
    refine g_getR (q := 23) ok dX10_tapeNumber_20 rfl fl_X10_34 sM_0 rfl ?_
    refine g_iload_n (q := 24) ok dX10_tapeNumber_23 rfl 3 rfl rfl ?_
    refine g_bald (q := 25) ok dX10_tapeNumber_24 rfl sM_9 ?_
    refine g_sipush (v := (nI 255)) (q := 28) ok dX10_tapeNumber_25 rfl (by decide) ?_
    refine g_iand (q := 29) ok dX10_tapeNumber_28 rfl ?_
    refine g_ior (q := 30) ok dX10_tapeNumber_29 rfl ?_
    refine g_leti (fun v6 => ?_)
    refine g_istore_n (q := 31) (L' := [(2, .int v6), (0, .ref 0), (1, .int a1), (3, .int v4)]) ok dX10_tapeNumber_30 rfl rfl (by decide) rfl rfl ?_
    refine g_iinc (v := v4 + (nI 1)) (q := 34) (L' := [(3, .int (v4 + (nI 1))), (2, .int v6), (0, .ref 0), (1, .int a1)]) ok dX10_tapeNumber_31 rfl 3 rfl rfl (by decide) rfl rfl ?_
    refine g_goto (q := 6) ok dX10_tapeNumber_34 (by decide) ?_
    refine g_to (L' := [(0, .ref 0), (1, .int a1), (2, .int v6), (3, .int (v4 + (nI 1)))]) ?_ [2, 3, 1, 0] rfl
    exact hgo2 _ _ _
set_option maxRecDepth 20000 in
theorem kX10_check (N : Nat) (a1 : Int32) (w : gT) : gM S2 cl2 gTs yX10_check cX10_check 3 (some .int) rmX10_check gi [.ref 0, .int a1] w (xX10_check N a1 w) := by
  refine gM_of (own := RX10) [(0, .ref 0), (1, .int a1)] rfl (by decide) (fun _ => rfl) (fun _ => Nat.le_of_ble_eq_true rfl) (fun κ ok => ?_)
  unfold xX10_check
  refine g_iload_n (q := 1) ok dX10_check_0 rfl 1 rfl rfl ?_
  refine g_iconst (v := (nI 0)) (q := 2) ok dX10_check_1 rfl (by decide) ?_
  refine g_bipush (v := (nI 10)) (q := 4) ok dX10_check_2 rfl (by decide) ?_
  refine g_callSi (q := 7) (As := [.int a1, .int (nI 0), .int (nI 10)]) (st := []) ok tbl_good dX10_check_4 rfl (kX10_in _ _ _ _) cf_X10_175 ⟨rfl, rfl, Nat.le_of_ble_eq_true rfl, Nat.le_of_ble_eq_true rfl⟩ rfl rfl (fun _ => Nat.le_of_ble_eq_true rfl) (fun v1 w2 => ?_)
  refine g_if_eq (q := 10) (g := 20) ok dX10_check_7 rfl (by decide) ?_ ?_
  · refine g_bipush (v := (-2)) (q := 22) ok dX10_check_20 rfl (by decide) ?_
    exact g_iret ok dX10_check_22
  · refine g_iload_n (q := 11) ok dX10_check_10 rfl 1 rfl rfl ?_
    refine g_aload_n (q := 12) ok dX10_check_11 rfl 0 rfl rfl ?_
    refine g_getI (q := 15) (N := 0) ok dX10_check_12 rfl fl_X10_188 sM_0 rfl ?_
    refine g_iconst (v := (nI 4)) (q := 16) ok dX10_check_15 rfl (by decide) ?_
    refine g_idivC (q := 17) ok dX10_check_16 rfl (by decide) ?_
    refine g_icmp_le (q := 20) (g := 23) ok dX10_check_17 rfl (by decide) ?_ ?_
    · refine g_aload_n (q := 24) ok dX10_check_23 rfl 0 rfl rfl ?_
      refine g_iconst (v := (nI 0)) (q := 25) ok dX10_check_24 rfl (by decide) ?_
      refine g_put (q := 28) ok dX10_check_25 rfl fp_X10_188 sM_0 rfl rfl rfl ?_
      refine g_letw (fun w3 => ?_)
      refine g_iconst (v := (nI 0)) (q := 29) ok dX10_check_28 rfl (by decide) ?_
      refine g_istore_n (q := 30) (L' := [(2, .int (nI 0)), (0, .ref 0), (1, .int a1)]) ok dX10_check_29 rfl rfl (by decide) rfl rfl ?_
      refine g_to (L' := [(0, .ref 0), (1, .int a1), (2, .int (nI 0))]) ?_ [1, 2, 0] rfl
      refine g_loop1 (Lf := fun v5 => [(0, .ref 0), (1, .int a1), (2, .int v5)]) (fun go4 hgo4 v5 w6 => ?_) N _ _
      unfold xX10_check_b30
      refine g_iload_n (q := 31) ok dX10_check_30 rfl 2 rfl rfl ?_
      refine g_iload_n (q := 32) ok dX10_check_31 rfl 1 rfl rfl ?_
      refine g_icmp_ge (q := 35) (g := 72) ok dX10_check_32 rfl (by decide) ?_ ?_
      · refine g_iconst (v := (-1)) (q := 73) ok dX10_check_72 rfl (by decide) ?_
        exact g_iret ok dX10_check_73
      · refine g_join (P := fun k7 => ∀ (v8 : Int32) (v9 : Int32) (w10 : gT), gJ S2 cl2 rmX10_check 3 gi κ 61 [(0, .ref 0), (1, .int a1), (2, .int v5)] [.int v9, .int v8] w10 (k7 v8 v9 w10)) (fun v8 v9 w10 => ?_) (fun k7 hk7 => ?_)
        · refine g_icmp_eq (q := 64) (g := 66) ok dX10_check_61 rfl (by decide) ?_ ?_
          · refine g_iinc (v := v5 + (nI 1)) (q := 69) (L' := [(2, .int (v5 + (nI 1))), (0, .ref 0), (1, .int a1)]) ok dX10_check_66 rfl 2 rfl rfl (by decide) rfl rfl ?_
            refine g_goto (q := 30) ok dX10_check_69 (by decide) ?_
            refine g_to (L' := [(0, .ref 0), (1, .int a1), (2, .int (v5 + (nI 1)))]) ?_ [1, 2, 0] rfl
            exact hgo4 _ _
          · refine g_iload_n (q := 65) ok dX10_check_64 rfl 2 rfl rfl ?_
            exact g_iret ok dX10_check_65
        · refine g_aload_n (q := 36) ok dX10_check_35 rfl 0 rfl rfl ?_
          refine g_iload_n (q := 37) ok dX10_check_36 rfl 2 rfl rfl ?_
          refine g_callVi (q := 40) (As := [.int v5]) (st := []) ok tbl_good dX10_check_37 rfl (kX10_tapeNumber N _ _) cf_X10_439 ⟨rfl, rfl, Nat.le_of_ble_eq_true rfl, Nat.le_of_ble_eq_true rfl⟩ sM_0 rfl rfl rfl (fun _ => Nat.le_of_ble_eq_true rfl) (fun v11 w12 => ?_)
          refine g_aload_n (q := 41) ok dX10_check_40 rfl 0 rfl rfl ?_
          refine g_iload_n (q := 42) ok dX10_check_41 rfl 2 rfl rfl ?_
          refine g_callVi (q := 45) (As := [.int v5]) (st := [.int v11]) ok tbl_good dX10_check_42 rfl (kX10_isSleeper _ _) cf_X10_185 ⟨rfl, rfl, Nat.le_of_ble_eq_true rfl, Nat.le_of_ble_eq_true rfl⟩ sM_0 rfl rfl rfl (fun _ => Nat.le_of_ble_eq_true rfl) (fun v13 w14 => ?_)
          refine g_if_eq (q := 48) (g := 60) ok dX10_check_45 rfl (by decide) ?_ ?_
          · refine g_iconst (v := (nI 0)) (q := 61) ok dX10_check_60 rfl (by decide) ?_
            exact hk7 _ _ _
          · refine g_aload_n (q := 49) ok dX10_check_48 rfl 0 rfl rfl ?_
            refine g_getR (q := 52) ok dX10_check_49 rfl fl_X10_31 sM_0 rfl ?_
            refine g_bipush (v := (nI 10)) (q := 54) ok dX10_check_52 rfl (by decide) ?_
            refine g_iload_n (q := 55) ok dX10_check_54 rfl 2 rfl rfl ?_
            refine g_iadd (q := 56) ok dX10_check_55 rfl ?_
            refine g_iald (q := 57) ok dX10_check_56 rfl sM_8 ?_
            refine g_goto (q := 61) ok dX10_check_57 (by decide) ?_
            exact hk7 _ _ _
    · refine g_bipush (v := (-2)) (q := 22) ok dX10_check_20 rfl (by decide) ?_
      exact g_iret ok dX10_check_22
set_option maxRecDepth 20000 in
theorem kX10_count (a1 : Int32) (w : gT) : gM S2 cl2 gTs yX10_count cX10_count 2 (some .int) rmX10_count gi [.ref 0, .int a1] w (xX10_count a1 w) := by
  refine gM_of (own := RX10) [(0, .ref 0), (1, .int a1)] rfl (by decide) (fun _ => rfl) (fun _ => Nat.le_of_ble_eq_true rfl) (fun κ ok => ?_)
  unfold xX10_count
  refine g_iload_n (q := 1) ok dX10_count_0 rfl 1 rfl rfl ?_
  refine g_if (fun h0 => ?_) (fun h0 => ?_)
  · refine g_tsIn (v := (nI 0)) (g := 48) ok dX10_count_1 (by decide) (by decide) rfl (by decide) h0 ?_
    refine g_aload_n (q := 49) ok dX10_count_48 rfl 0 rfl rfl ?_
    refine g_getI (q := 52) (N := 0) ok dX10_count_49 rfl fl_X10_233 sM_0 rfl ?_
    exact g_iret ok dX10_count_52
  · refine g_if (fun h1 => ?_) (fun h1 => ?_)
    · refine g_tsIn (v := (nI 1)) (g := 53) ok dX10_count_1 (by decide) (by decide) rfl (by decide) h1 ?_
      refine g_aload_n (q := 54) ok dX10_count_53 rfl 0 rfl rfl ?_
      refine g_getI (q := 57) (N := 0) ok dX10_count_54 rfl fl_X10_309 sM_0 rfl ?_
      exact g_iret ok dX10_count_57
    · refine g_if (fun h2 => ?_) (fun h2 => ?_)
      · refine g_tsIn (v := (nI 2)) (g := 58) ok dX10_count_1 (by decide) (by decide) rfl (by decide) h2 ?_
        refine g_aload_n (q := 59) ok dX10_count_58 rfl 0 rfl rfl ?_
        refine g_getI (q := 62) (N := 0) ok dX10_count_59 rfl fl_X10_188 sM_0 rfl ?_
        exact g_iret ok dX10_count_62
      · refine g_if (fun h3 => ?_) (fun h3 => ?_)
        · refine g_tsIn (v := (nI 3)) (g := 63) ok dX10_count_1 (by decide) (by decide) rfl (by decide) h3 ?_
          refine g_aload_n (q := 64) ok dX10_count_63 rfl 0 rfl rfl ?_
          refine g_getI (q := 67) (N := 0) ok dX10_count_64 rfl fl_X10_154 sM_0 rfl ?_
          exact g_iret ok dX10_count_67
        · refine g_if (fun h4 => ?_) (fun h4 => ?_)
          · refine g_tsIn (v := (nI 4)) (g := 68) ok dX10_count_1 (by decide) (by decide) rfl (by decide) h4 ?_
            refine g_aload_n (q := 69) ok dX10_count_68 rfl 0 rfl rfl ?_
            refine g_getI (q := 72) (N := 0) ok dX10_count_69 rfl fl_X10_182 sM_0 rfl ?_
            exact g_iret ok dX10_count_72
          · refine g_if (fun h5 => ?_) (fun h5 => ?_)
            · refine g_tsIn (v := (nI 5)) (g := 73) ok dX10_count_1 (by decide) (by decide) rfl (by decide) h5 ?_
              refine g_aload_n (q := 74) ok dX10_count_73 rfl 0 rfl rfl ?_
              refine g_getI (q := 77) (N := 0) ok dX10_count_74 rfl fl_X10_158 sM_0 rfl ?_
              exact g_iret ok dX10_count_77
            · refine g_if (fun h6 => ?_) (fun h6 => ?_)
              · refine g_tsIn (v := (nI 6)) (g := 78) ok dX10_count_1 (by decide) (by decide) rfl (by decide) h6 ?_
                refine g_aload_n (q := 79) ok dX10_count_78 rfl 0 rfl rfl ?_
                refine g_getI (q := 82) (N := 0) ok dX10_count_79 rfl fl_X10_168 sM_0 rfl ?_
                exact g_iret ok dX10_count_82
              · refine g_if (fun h7 => ?_) (fun h7 => ?_)
                · refine g_tsIn (v := (nI 7)) (g := 83) ok dX10_count_1 (by decide) (by decide) rfl (by decide) h7 ?_
                  refine g_aload_n (q := 84) ok dX10_count_83 rfl 0 rfl rfl ?_
                  refine g_getI (q := 87) (N := 0) ok dX10_count_84 rfl fl_X10_161 sM_0 rfl ?_
                  exact g_iret ok dX10_count_87
                · refine g_tsOut (g := 88) ok dX10_count_1 (by have e0 := lv_neT h0 (k := (nI 0)) (a := 0) (by decide); have e1 := lv_neT h1 (k := (nI 1)) (a := 1) (by decide); have e2 := lv_neT h2 (k := (nI 2)) (a := 2) (by decide); have e3 := lv_neT h3 (k := (nI 3)) (a := 3) (by decide); have e4 := lv_neT h4 (k := (nI 4)) (a := 4) (by decide); have e5 := lv_neT h5 (k := (nI 5)) (a := 5) (by decide); have e6 := lv_neT h6 (k := (nI 6)) (a := 6) (by decide); have e7 := lv_neT h7 (k := (nI 7)) (a := 7) (by decide); omega) (by decide) ?_
                  refine g_iload_n (q := 89) ok dX10_count_88 rfl 1 rfl rfl ?_
                  refine g_bipush (v := (nI 10)) (q := 91) ok dX10_count_89 rfl (by decide) ?_
                  refine g_bipush (v := (nI 21)) (q := 93) ok dX10_count_91 rfl (by decide) ?_
                  refine g_callSi (q := 96) (As := [.int a1, .int (nI 10), .int (nI 21)]) (st := []) ok tbl_good dX10_count_93 rfl (kX10_in _ _ _ _) cf_X10_175 ⟨rfl, rfl, Nat.le_of_ble_eq_true rfl, Nat.le_of_ble_eq_true rfl⟩ rfl rfl (fun _ => Nat.le_of_ble_eq_true rfl) (fun v1 w2 => ?_)
                  refine g_if_eq (q := 99) (g := 109) ok dX10_count_96 rfl (by decide) ?_ ?_
                  · refine g_join (P := fun k3 => ∀ (w4 : gT), gJ S2 cl2 rmX10_count 2 gi κ 177 [(0, .ref 0), (1, .int a1)] [] w4 (k3 w4)) (fun w4 => ?_) (fun k3 hk3 => ?_)
                    · refine g_iload_n (q := 178) ok dX10_count_177 rfl 1 rfl rfl ?_
                      refine g_bipush (v := (nI 100)) (q := 180) ok dX10_count_178 rfl (by decide) ?_
                      refine g_sipush (v := (nI 169)) (q := 183) ok dX10_count_180 rfl (by decide) ?_
                      refine g_callSi (q := 186) (As := [.int a1, .int (nI 100), .int (nI 169)]) (st := []) ok tbl_good dX10_count_183 rfl (kX10_in _ _ _ _) cf_X10_175 ⟨rfl, rfl, Nat.le_of_ble_eq_true rfl, Nat.le_of_ble_eq_true rfl⟩ rfl rfl (fun _ => Nat.le_of_ble_eq_true rfl) (fun v5 w6 => ?_)
                      refine g_if_eq (q := 189) (g := 212) ok dX10_count_186 rfl (by decide) ?_ ?_
                      · refine g_iconst (v := (-1)) (q := 213) ok dX10_count_212 rfl (by decide) ?_
                        exact g_iret ok dX10_count_213
                      · refine g_aload_n (q := 190) ok dX10_count_189 rfl 0 rfl rfl ?_
                        refine g_iload_n (q := 191) ok dX10_count_190 rfl 1 rfl rfl ?_
                        refine g_bipush (v := (nI 10)) (q := 193) ok dX10_count_191 rfl (by decide) ?_
                        refine g_iremC (q := 194) ok dX10_count_193 rfl (by decide) ?_
                        refine g_callVi (q := 197) (As := [.int (gRem a1 (nI 10))]) (st := []) ok tbl_good dX10_count_194 rfl (kX10_isSleeper _ _) cf_X10_185 ⟨rfl, rfl, Nat.le_of_ble_eq_true rfl, Nat.le_of_ble_eq_true rfl⟩ sM_0 rfl rfl rfl (fun _ => Nat.le_of_ble_eq_true rfl) (fun v7 w8 => ?_)
                        refine g_if_eq (q := 200) (g := 212) ok dX10_count_197 rfl (by decide) ?_ ?_
                        · refine g_iconst (v := (-1)) (q := 213) ok dX10_count_212 rfl (by decide) ?_
                          exact g_iret ok dX10_count_213
                        · refine g_aload_n (q := 201) ok dX10_count_200 rfl 0 rfl rfl ?_
                          refine g_getR (q := 204) ok dX10_count_201 rfl fl_X10_16 sM_0 rfl ?_
                          refine g_iload_n (q := 205) ok dX10_count_204 rfl 1 rfl rfl ?_
                          refine g_bipush (v := (nI 100)) (q := 207) ok dX10_count_205 rfl (by decide) ?_
                          refine g_isub (q := 208) ok dX10_count_207 rfl ?_
                          refine g_iald (q := 209) ok dX10_count_208 rfl sM_3 ?_
                          refine g_goto (q := 213) ok dX10_count_209 (by decide) ?_
                          exact g_iret ok dX10_count_213
                    · refine g_iload_n (q := 110) ok dX10_count_109 rfl 1 rfl rfl ?_
                      refine g_bipush (v := (nI 30)) (q := 112) ok dX10_count_110 rfl (by decide) ?_
                      refine g_bipush (v := (nI 59)) (q := 114) ok dX10_count_112 rfl (by decide) ?_
                      refine g_callSi (q := 117) (As := [.int a1, .int (nI 30), .int (nI 59)]) (st := []) ok tbl_good dX10_count_114 rfl (kX10_in _ _ _ _) cf_X10_175 ⟨rfl, rfl, Nat.le_of_ble_eq_true rfl, Nat.le_of_ble_eq_true rfl⟩ rfl rfl (fun _ => Nat.le_of_ble_eq_true rfl) (fun v9 w10 => ?_)
                      refine g_if_eq (q := 120) (g := 177) ok dX10_count_117 rfl (by decide) ?_ ?_
                      · exact hk3 _
                      · refine g_aload_n (q := 121) ok dX10_count_120 rfl 0 rfl rfl ?_
                        refine g_iload_n (q := 122) ok dX10_count_121 rfl 1 rfl rfl ?_
                        refine g_bipush (v := (nI 10)) (q := 124) ok dX10_count_122 rfl (by decide) ?_
                        refine g_iremC (q := 125) ok dX10_count_124 rfl (by decide) ?_
                        refine g_callVi (q := 128) (As := [.int (gRem a1 (nI 10))]) (st := []) ok tbl_good dX10_count_125 rfl (kX10_isGhost _ _) cf_X10_236 ⟨rfl, rfl, Nat.le_of_ble_eq_true rfl, Nat.le_of_ble_eq_true rfl⟩ sM_0 rfl rfl rfl (fun _ => Nat.le_of_ble_eq_true rfl) (fun v11 w12 => ?_)
                        refine g_if_eq (q := 131) (g := 177) ok dX10_count_128 rfl (by decide) ?_ ?_
                        · exact hk3 _
                        · refine g_iload_n (q := 132) ok dX10_count_131 rfl 1 rfl rfl ?_
                          refine g_bipush (v := (nI 40)) (q := 134) ok dX10_count_132 rfl (by decide) ?_
                          refine g_icmp_ge (q := 137) (g := 149) ok dX10_count_134 rfl (by decide) ?_ ?_
                          · refine g_iload_n (q := 150) ok dX10_count_149 rfl 1 rfl rfl ?_
                            refine g_bipush (v := (nI 50)) (q := 152) ok dX10_count_150 rfl (by decide) ?_
                            refine g_icmp_ge (q := 155) (g := 167) ok dX10_count_152 rfl (by decide) ?_ ?_
                            · refine g_aload_n (q := 168) ok dX10_count_167 rfl 0 rfl rfl ?_
                              refine g_getR (q := 171) ok dX10_count_168 rfl fl_X10_28 sM_0 rfl ?_
                              refine g_iload_n (q := 172) ok dX10_count_171 rfl 1 rfl rfl ?_
                              refine g_bipush (v := (nI 50)) (q := 174) ok dX10_count_172 rfl (by decide) ?_
                              refine g_isub (q := 175) ok dX10_count_174 rfl ?_
                              refine g_iald (q := 176) ok dX10_count_175 rfl sM_7 ?_
                              exact g_iret ok dX10_count_176
                            · refine g_aload_n (q := 156) ok dX10_count_155 rfl 0 rfl rfl ?_
                              refine g_getR (q := 159) ok dX10_count_156 rfl fl_X10_19 sM_0 rfl ?_
                              refine g_iload_n (q := 160) ok dX10_count_159 rfl 1 rfl rfl ?_
                              refine g_bipush (v := (nI 40)) (q := 162) ok dX10_count_160 rfl (by decide) ?_
                              refine g_isub (q := 163) ok dX10_count_162 rfl ?_
                              refine g_iald (q := 164) ok dX10_count_163 rfl sM_4 ?_
                              refine g_goto (q := 176) ok dX10_count_164 (by decide) ?_
                              exact g_iret ok dX10_count_176
                          · refine g_aload_n (q := 138) ok dX10_count_137 rfl 0 rfl rfl ?_
                            refine g_getR (q := 141) ok dX10_count_138 rfl fl_X10_22 sM_0 rfl ?_
                            refine g_iload_n (q := 142) ok dX10_count_141 rfl 1 rfl rfl ?_
                            refine g_bipush (v := (nI 30)) (q := 144) ok dX10_count_142 rfl (by decide) ?_
                            refine g_isub (q := 145) ok dX10_count_144 rfl ?_
                            refine g_iald (q := 146) ok dX10_count_145 rfl sM_5 ?_
                            refine g_goto (q := 176) ok dX10_count_146 (by decide) ?_
                            exact g_iret ok dX10_count_176
                  · refine g_aload_n (q := 100) ok dX10_count_99 rfl 0 rfl rfl ?_
                    refine g_getR (q := 103) ok dX10_count_100 rfl fl_X10_7 sM_0 rfl ?_
                    refine g_iload_n (q := 104) ok dX10_count_103 rfl 1 rfl rfl ?_
                    refine g_bipush (v := (nI 10)) (q := 106) ok dX10_count_104 rfl (by decide) ?_
                    refine g_isub (q := 107) ok dX10_count_106 rfl ?_
                    refine g_iald (q := 108) ok dX10_count_107 rfl sM_1 ?_
                    exact g_iret ok dX10_count_108
