set_option maxRecDepth 20000 in
theorem kX9_count (a1 : Int32) (w : gT) : gM S1 cl1 gTs yX9_count cX9_count 2 (some .int) rmX9_count gi [.ref 0, .int a1] w (xX9_count a1 w) := by
  refine gM_of (own := RX9) [(0, .ref 0), (1, .int a1)] rfl (by decide) (fun _ => rfl) (fun _ => Nat.le_of_ble_eq_true rfl) (fun κ ok => ?_)
  unfold xX9_count
  refine g_iload_n (q := 1) ok dX9_count_0 rfl 1 rfl rfl ?_
  refine g_if (fun h0 => ?_) (fun h0 => ?_)
  · refine g_tsIn (v := (nI 0)) (g := 48) ok dX9_count_1 (by decide) (by decide) rfl (by decide) h0 ?_
    refine g_aload_n (q := 49) ok dX9_count_48 rfl 0 rfl rfl ?_
    refine g_getR (q := 52) ok dX9_count_49 rfl fl_X9_29 sX_0 rfl ?_
    refine g_getI (q := 55) (N := 0) ok dX9_count_52 rfl fl_X9_152 sX_21 rfl ?_
    exact g_iret ok dX9_count_55
  · refine g_if (fun h1 => ?_) (fun h1 => ?_)
    · refine g_tsIn (v := (nI 1)) (g := 56) ok dX9_count_1 (by decide) (by decide) rfl (by decide) h1 ?_
      refine g_aload_n (q := 57) ok dX9_count_56 rfl 0 rfl rfl ?_
      refine g_getR (q := 60) ok dX9_count_57 rfl fl_X9_39 sX_0 rfl ?_
      refine g_getI (q := 63) (N := 0) ok dX9_count_60 rfl fl_X9_159 sX_33 rfl ?_
      exact g_iret ok dX9_count_63
    · refine g_if (fun h2 => ?_) (fun h2 => ?_)
      · refine g_tsIn (v := (nI 2)) (g := 64) ok dX9_count_1 (by decide) (by decide) rfl (by decide) h2 ?_
        refine g_aload_n (q := 65) ok dX9_count_64 rfl 0 rfl rfl ?_
        refine g_getR (q := 68) ok dX9_count_65 rfl fl_X9_22 sX_0 rfl ?_
        refine g_getI (q := 71) (N := 0) ok dX9_count_68 rfl fl_X9_135 sX_19 rfl ?_
        exact g_iret ok dX9_count_71
      · refine g_if (fun h3 => ?_) (fun h3 => ?_)
        · refine g_tsIn (v := (nI 3)) (g := 72) ok dX9_count_1 (by decide) (by decide) rfl (by decide) h3 ?_
          refine g_aload_n (q := 73) ok dX9_count_72 rfl 0 rfl rfl ?_
          refine g_getR (q := 76) ok dX9_count_73 rfl fl_X9_12 sX_0 rfl ?_
          refine g_getI (q := 79) (N := 0) ok dX9_count_76 rfl fl_X9_204 sX_1 rfl ?_
          exact g_iret ok dX9_count_79
        · refine g_if (fun h4 => ?_) (fun h4 => ?_)
          · refine g_tsIn (v := (nI 4)) (g := 80) ok dX9_count_1 (by decide) (by decide) rfl (by decide) h4 ?_
            refine g_aload_n (q := 81) ok dX9_count_80 rfl 0 rfl rfl ?_
            refine g_getR (q := 84) ok dX9_count_81 rfl fl_X9_12 sX_0 rfl ?_
            refine g_getI (q := 87) (N := 0) ok dX9_count_84 rfl fl_X9_110 sX_1 rfl ?_
            exact g_iret ok dX9_count_87
          · refine g_if (fun h5 => ?_) (fun h5 => ?_)
            · refine g_tsIn (v := (nI 5)) (g := 88) ok dX9_count_1 (by decide) (by decide) rfl (by decide) h5 ?_
              refine g_aload_n (q := 89) ok dX9_count_88 rfl 0 rfl rfl ?_
              refine g_getR (q := 92) ok dX9_count_89 rfl fl_X9_12 sX_0 rfl ?_
              refine g_getI (q := 95) (N := 0) ok dX9_count_92 rfl fl_X9_106 sX_1 rfl ?_
              exact g_iret ok dX9_count_95
            · refine g_if (fun h6 => ?_) (fun h6 => ?_)
              · refine g_tsIn (v := (nI 6)) (g := 96) ok dX9_count_1 (by decide) (by decide) rfl (by decide) h6 ?_
                refine g_aload_n (q := 97) ok dX9_count_96 rfl 0 rfl rfl ?_
                refine g_getR (q := 100) ok dX9_count_97 rfl fl_X9_12 sX_0 rfl ?_
                refine g_getI (q := 103) (N := 0) ok dX9_count_100 rfl fl_X9_270 sX_1 rfl ?_
                exact g_iret ok dX9_count_103
              · refine g_if (fun h7 => ?_) (fun h7 => ?_)
                · refine g_tsIn (v := (nI 7)) (g := 104) ok dX9_count_1 (by decide) (by decide) rfl (by decide) h7 ?_
                  refine g_aload_n (q := 105) ok dX9_count_104 rfl 0 rfl rfl ?_
                  refine g_getR (q := 108) ok dX9_count_105 rfl fl_X9_12 sX_0 rfl ?_
                  refine g_getI (q := 111) (N := 0) ok dX9_count_108 rfl fl_X9_229 sX_1 rfl ?_
                  exact g_iret ok dX9_count_111
                · refine g_tsOut (g := 112) ok dX9_count_1 (by have e0 := lv_neT h0 (k := (nI 0)) (a := 0) (by decide); have e1 := lv_neT h1 (k := (nI 1)) (a := 1) (by decide); have e2 := lv_neT h2 (k := (nI 2)) (a := 2) (by decide); have e3 := lv_neT h3 (k := (nI 3)) (a := 3) (by decide); have e4 := lv_neT h4 (k := (nI 4)) (a := 4) (by decide); have e5 := lv_neT h5 (k := (nI 5)) (a := 5) (by decide); have e6 := lv_neT h6 (k := (nI 6)) (a := 6) (by decide); have e7 := lv_neT h7 (k := (nI 7)) (a := 7) (by decide); omega) (by decide) ?_
                  refine g_aload_n (q := 113) ok dX9_count_112 rfl 0 rfl rfl ?_
                  refine g_iload_n (q := 114) ok dX9_count_113 rfl 1 rfl rfl ?_
                  refine g_callVi (q := 117) (As := [.int a1]) (st := []) ok tbl_good dX9_count_114 rfl (kX9_countInHouse _ _) cf_X9_307 ⟨rfl, rfl, Nat.le_of_ble_eq_true rfl, Nat.le_of_ble_eq_true rfl⟩ sX_0 rfl rfl rfl (fun _ => Nat.le_of_ble_eq_true rfl) (fun v1 w2 => ?_)
                  exact g_iret ok dX9_count_117
set_option maxRecDepth 20000 in
theorem kX10_isRoom (a0 : Int32) (w : gT) : gM S2 cl2 gTs yX10_isRoom cX10_isRoom 1 (some .boolean) rmX10_isRoom gi [.int a0] w (xX10_isRoom a0 w) := by
  refine gM_of (own := RX10) [(0, .int a0)] rfl (by decide) (fun _ => rfl) (fun _ => Nat.le_of_ble_eq_true rfl) (fun κ ok => ?_)
  unfold xX10_isRoom
  refine g_iload_n (q := 1) ok dX10_isRoom_0 rfl 0 rfl rfl ?_
  refine g_if_lt (q := 4) (g := 14) ok dX10_isRoom_1 rfl (by decide) ?_ ?_
  · refine g_iconst (v := (nI 0)) (q := 15) ok dX10_isRoom_14 rfl (by decide) ?_
    exact g_zret ok dX10_isRoom_15 rfl
  · refine g_iload_n (q := 5) ok dX10_isRoom_4 rfl 0 rfl rfl ?_
    refine g_bipush (v := (nI 12)) (q := 7) ok dX10_isRoom_5 rfl (by decide) ?_
    refine g_icmp_ge (q := 10) (g := 14) ok dX10_isRoom_7 rfl (by decide) ?_ ?_
    · refine g_iconst (v := (nI 0)) (q := 15) ok dX10_isRoom_14 rfl (by decide) ?_
      exact g_zret ok dX10_isRoom_15 rfl
    · refine g_iconst (v := (nI 1)) (q := 11) ok dX10_isRoom_10 rfl (by decide) ?_
      refine g_goto (q := 15) ok dX10_isRoom_11 (by decide) ?_
      exact g_zret ok dX10_isRoom_15 rfl
set_option maxRecDepth 20000 in
theorem kX10_in (a0 : Int32) (a1 : Int32) (a2 : Int32) (w : gT) : gM S2 cl2 gTs yX10_in cX10_in 3 (some .boolean) rmX10_in gi [.int a0, .int a1, .int a2] w (xX10_in a0 a1 a2 w) := by
  refine gM_of (own := RX10) [(0, .int a0), (1, .int a1), (2, .int a2)] rfl (by decide) (fun _ => rfl) (fun _ => Nat.le_of_ble_eq_true rfl) (fun κ ok => ?_)
  unfold xX10_in
  refine g_iload_n (q := 1) ok dX10_in_0 rfl 0 rfl rfl ?_
  refine g_iload_n (q := 2) ok dX10_in_1 rfl 1 rfl rfl ?_
  refine g_icmp_lt (q := 5) (g := 14) ok dX10_in_2 rfl (by decide) ?_ ?_
  · refine g_iconst (v := (nI 0)) (q := 15) ok dX10_in_14 rfl (by decide) ?_
    exact g_zret ok dX10_in_15 rfl
  · refine g_iload_n (q := 6) ok dX10_in_5 rfl 0 rfl rfl ?_
    refine g_iload_n (q := 7) ok dX10_in_6 rfl 2 rfl rfl ?_
    refine g_icmp_gt (q := 10) (g := 14) ok dX10_in_7 rfl (by decide) ?_ ?_
    · refine g_iconst (v := (nI 0)) (q := 15) ok dX10_in_14 rfl (by decide) ?_
      exact g_zret ok dX10_in_15 rfl
    · refine g_iconst (v := (nI 1)) (q := 11) ok dX10_in_10 rfl (by decide) ?_
      refine g_goto (q := 15) ok dX10_in_11 (by decide) ?_
      exact g_zret ok dX10_in_15 rfl
set_option maxRecDepth 20000 in
theorem kX10_cats (a1 : Int32) (a2 : Int32) (w : gT) : gM S2 cl2 gTs yX10_cats cX10_cats 3 (some .boolean) rmX10_cats gi [.ref 0, .int a1, .int a2] w (xX10_cats a1 a2 w) := by
  refine gM_of (own := RX10) [(0, .ref 0), (1, .int a1), (2, .int a2)] rfl (by decide) (fun _ => rfl) (fun _ => Nat.le_of_ble_eq_true rfl) (fun κ ok => ?_)
  unfold xX10_cats
  refine g_iload_n (q := 1) ok dX10_cats_0 rfl 1 rfl rfl ?_
  refine g_callSi (q := 4) (As := [.int a1]) (st := []) ok tbl_good dX10_cats_1 rfl (kX10_isRoom _ _) cf_X10_171 ⟨rfl, rfl, Nat.le_of_ble_eq_true rfl, Nat.le_of_ble_eq_true rfl⟩ rfl rfl (fun _ => Nat.le_of_ble_eq_true rfl) (fun v1 w2 => ?_)
  refine g_if_eq (q := 7) (g := 17) ok dX10_cats_4 rfl (by decide) ?_ ?_
  · refine g_iconst (v := (nI 0)) (q := 18) ok dX10_cats_17 rfl (by decide) ?_
    exact g_zret ok dX10_cats_18 rfl
  · refine g_iload_n (q := 8) ok dX10_cats_7 rfl 2 rfl rfl ?_
    refine g_iconst (v := (nI 0)) (q := 9) ok dX10_cats_8 rfl (by decide) ?_
    refine g_bipush (v := (nI 9)) (q := 11) ok dX10_cats_9 rfl (by decide) ?_
    refine g_callSi (q := 14) (As := [.int a2, .int (nI 0), .int (nI 9)]) (st := []) ok tbl_good dX10_cats_11 rfl (kX10_in _ _ _ _) cf_X10_175 ⟨rfl, rfl, Nat.le_of_ble_eq_true rfl, Nat.le_of_ble_eq_true rfl⟩ rfl rfl (fun _ => Nat.le_of_ble_eq_true rfl) (fun v3 w4 => ?_)
    refine g_if_ne (q := 17) (g := 19) ok dX10_cats_14 rfl (by decide) ?_ ?_
    · refine g_aload_n (q := 20) ok dX10_cats_19 rfl 0 rfl rfl ?_
      refine g_getR (q := 23) ok dX10_cats_20 rfl fl_X10_7 sM_0 rfl ?_
      refine g_iload_n (q := 24) ok dX10_cats_23 rfl 1 rfl rfl ?_
      refine g_iload_n (q := 25) ok dX10_cats_24 rfl 2 rfl rfl ?_
      refine g_iast (q := 26) ok dX10_cats_25 rfl sM_1 ?_
      refine g_letw (fun w5 => ?_)
      refine g_iconst (v := (nI 1)) (q := 27) ok dX10_cats_26 rfl (by decide) ?_
      exact g_zret ok dX10_cats_27 rfl
    · refine g_iconst (v := (nI 0)) (q := 18) ok dX10_cats_17 rfl (by decide) ?_
      exact g_zret ok dX10_cats_18 rfl
set_option maxRecDepth 20000 in
theorem kX10_isNight (a0 : Int32) (w : gT) : gM S2 cl2 gTs yX10_isNight cX10_isNight 1 (some .boolean) rmX10_isNight gi [.int a0] w (xX10_isNight a0 w) := by
  refine gM_of (own := RX10) [(0, .int a0)] rfl (by decide) (fun _ => rfl) (fun _ => Nat.le_of_ble_eq_true rfl) (fun κ ok => ?_)
  unfold xX10_isNight
  refine g_iload_n (q := 1) ok dX10_isNight_0 rfl 0 rfl rfl ?_
  refine g_if_lt (q := 4) (g := 14) ok dX10_isNight_1 rfl (by decide) ?_ ?_
  · refine g_iconst (v := (nI 0)) (q := 15) ok dX10_isNight_14 rfl (by decide) ?_
    exact g_zret ok dX10_isNight_15 rfl
  · refine g_iload_n (q := 5) ok dX10_isNight_4 rfl 0 rfl rfl ?_
    refine g_bipush (v := (nI 7)) (q := 7) ok dX10_isNight_5 rfl (by decide) ?_
    refine g_icmp_ge (q := 10) (g := 14) ok dX10_isNight_7 rfl (by decide) ?_ ?_
    · refine g_iconst (v := (nI 0)) (q := 15) ok dX10_isNight_14 rfl (by decide) ?_
      exact g_zret ok dX10_isNight_15 rfl
    · refine g_iconst (v := (nI 1)) (q := 11) ok dX10_isNight_10 rfl (by decide) ?_
      refine g_goto (q := 15) ok dX10_isNight_11 (by decide) ?_
      exact g_zret ok dX10_isNight_15 rfl
set_option maxRecDepth 20000 in
theorem kX10_allSouls (a1 : Int32) (w : gT) : gM S2 cl2 gTs yX10_allSouls cX10_allSouls 2 (some .boolean) rmX10_allSouls gi [.ref 0, .int a1] w (xX10_allSouls a1 w) := by
  refine gM_of (own := RX10) [(0, .ref 0), (1, .int a1)] rfl (by decide) (fun _ => rfl) (fun _ => Nat.le_of_ble_eq_true rfl) (fun κ ok => ?_)
  unfold xX10_allSouls
  refine g_join (P := fun k1 => ∀ (w2 : gT), gJ S2 cl2 rmX10_allSouls 2 gi κ 14 [(0, .ref 0), (1, .int a1)] [] w2 (k1 w2)) (fun w2 => ?_) (fun k1 hk1 => ?_)
  · refine g_aload_n (q := 15) ok dX10_allSouls_14 rfl 0 rfl rfl ?_
    refine g_iload_n (q := 16) ok dX10_allSouls_15 rfl 1 rfl rfl ?_
    refine g_put (q := 19) ok dX10_allSouls_16 rfl fp_X10_158 sM_0 rfl rfl rfl ?_
    refine g_letw (fun w3 => ?_)
    refine g_iconst (v := (nI 1)) (q := 20) ok dX10_allSouls_19 rfl (by decide) ?_
    exact g_zret ok dX10_allSouls_20 rfl
  · refine g_iload_n (q := 1) ok dX10_allSouls_0 rfl 1 rfl rfl ?_
    refine g_iconst (v := (-1)) (q := 2) ok dX10_allSouls_1 rfl (by decide) ?_
    refine g_icmp_eq (q := 5) (g := 14) ok dX10_allSouls_2 rfl (by decide) ?_ ?_
    · exact hk1 _
    · refine g_iload_n (q := 6) ok dX10_allSouls_5 rfl 1 rfl rfl ?_
      refine g_callSi (q := 9) (As := [.int a1]) (st := []) ok tbl_good dX10_allSouls_6 rfl (kX10_isNight _ _) cf_X10_179 ⟨rfl, rfl, Nat.le_of_ble_eq_true rfl, Nat.le_of_ble_eq_true rfl⟩ rfl rfl (fun _ => Nat.le_of_ble_eq_true rfl) (fun v4 w5 => ?_)
      refine g_if_ne (q := 12) (g := 14) ok dX10_allSouls_9 rfl (by decide) ?_ ?_
      · exact hk1 _
      · refine g_iconst (v := (nI 0)) (q := 13) ok dX10_allSouls_12 rfl (by decide) ?_
        exact g_zret ok dX10_allSouls_13 rfl
set_option maxRecDepth 20000 in
theorem kX10_chains (a1 : Int32) (w : gT) : gM S2 cl2 gTs yX10_chains cX10_chains 2 (some .boolean) rmX10_chains gi [.ref 0, .int a1] w (xX10_chains a1 w) := by
  refine gM_of (own := RX10) [(0, .ref 0), (1, .int a1)] rfl (by decide) (fun _ => rfl) (fun _ => Nat.le_of_ble_eq_true rfl) (fun κ ok => ?_)
  unfold xX10_chains
  refine g_iload_n (q := 1) ok dX10_chains_0 rfl 1 rfl rfl ?_
  refine g_iconst (v := (nI 0)) (q := 2) ok dX10_chains_1 rfl (by decide) ?_
  refine g_bipush (v := (nI 9)) (q := 4) ok dX10_chains_2 rfl (by decide) ?_
  refine g_callSi (q := 7) (As := [.int a1, .int (nI 0), .int (nI 9)]) (st := []) ok tbl_good dX10_chains_4 rfl (kX10_in _ _ _ _) cf_X10_175 ⟨rfl, rfl, Nat.le_of_ble_eq_true rfl, Nat.le_of_ble_eq_true rfl⟩ rfl rfl (fun _ => Nat.le_of_ble_eq_true rfl) (fun v1 w2 => ?_)
  refine g_if_ne (q := 10) (g := 12) ok dX10_chains_7 rfl (by decide) ?_ ?_
  · refine g_aload_n (q := 13) ok dX10_chains_12 rfl 0 rfl rfl ?_
    refine g_iload_n (q := 14) ok dX10_chains_13 rfl 1 rfl rfl ?_
    refine g_put (q := 17) ok dX10_chains_14 rfl fp_X10_182 sM_0 rfl rfl rfl ?_
    refine g_letw (fun w3 => ?_)
    refine g_iconst (v := (nI 1)) (q := 18) ok dX10_chains_17 rfl (by decide) ?_
    exact g_zret ok dX10_chains_18 rfl
  · refine g_iconst (v := (nI 0)) (q := 11) ok dX10_chains_10 rfl (by decide) ?_
    exact g_zret ok dX10_chains_11 rfl
set_option maxRecDepth 20000 in
theorem kX10_sleeper (N : Nat) (a1 : Int32) (a2 : Int32) (w : gT) : gM S2 cl2 gTs yX10_sleeper cX10_sleeper 4 (some .boolean) rmX10_sleeper gi [.ref 0, .int a1, .int a2] w (xX10_sleeper N a1 a2 w) := by
  refine gM_of (own := RX10) [(0, .ref 0), (1, .int a1), (2, .int a2)] rfl (by decide) (fun _ => rfl) (fun _ => Nat.le_of_ble_eq_true rfl) (fun κ ok => ?_)
  unfold xX10_sleeper
  refine g_iload_n (q := 1) ok dX10_sleeper_0 rfl 1 rfl rfl ?_
  refine g_iconst (v := (nI 0)) (q := 2) ok dX10_sleeper_1 rfl (by decide) ?_
  refine g_bipush (v := (nI 9)) (q := 4) ok dX10_sleeper_2 rfl (by decide) ?_
  refine g_callSi (q := 7) (As := [.int a1, .int (nI 0), .int (nI 9)]) (st := []) ok tbl_good dX10_sleeper_4 rfl (kX10_in _ _ _ _) cf_X10_175 ⟨rfl, rfl, Nat.le_of_ble_eq_true rfl, Nat.le_of_ble_eq_true rfl⟩ rfl rfl (fun _ => Nat.le_of_ble_eq_true rfl) (fun v1 w2 => ?_)
  refine g_if_eq (q := 10) (g := 20) ok dX10_sleeper_7 rfl (by decide) ?_ ?_
  · refine g_iconst (v := (nI 0)) (q := 21) ok dX10_sleeper_20 rfl (by decide) ?_
    exact g_zret ok dX10_sleeper_21 rfl
  · refine g_iload_n (q := 11) ok dX10_sleeper_10 rfl 2 rfl rfl ?_
    refine g_iconst (v := (nI 0)) (q := 12) ok dX10_sleeper_11 rfl (by decide) ?_
    refine g_bipush (v := (nI 9)) (q := 14) ok dX10_sleeper_12 rfl (by decide) ?_
    refine g_callSi (q := 17) (As := [.int a2, .int (nI 0), .int (nI 9)]) (st := []) ok tbl_good dX10_sleeper_14 rfl (kX10_in _ _ _ _) cf_X10_175 ⟨rfl, rfl, Nat.le_of_ble_eq_true rfl, Nat.le_of_ble_eq_true rfl⟩ rfl rfl (fun _ => Nat.le_of_ble_eq_true rfl) (fun v3 w4 => ?_)
    refine g_if_ne (q := 20) (g := 22) ok dX10_sleeper_17 rfl (by decide) ?_ ?_
    · refine g_aload_n (q := 23) ok dX10_sleeper_22 rfl 0 rfl rfl ?_
      refine g_aload_n (q := 24) ok dX10_sleeper_23 rfl 0 rfl rfl ?_
      refine g_getI (q := 27) (N := 0) ok dX10_sleeper_24 rfl fl_X10_161 sM_0 rfl ?_
      refine g_iconst (v := (nI 1)) (q := 28) ok dX10_sleeper_27 rfl (by decide) ?_
      refine g_iload_n (q := 29) ok dX10_sleeper_28 rfl 1 rfl rfl ?_
      refine g_ishl (q := 30) ok dX10_sleeper_29 rfl ?_
      refine g_ior (q := 31) ok dX10_sleeper_30 rfl ?_
      refine g_put (q := 34) ok dX10_sleeper_31 rfl fp_X10_161 sM_0 rfl rfl rfl ?_
      refine g_letw (fun w5 => ?_)
      refine g_aload_n (q := 35) ok dX10_sleeper_34 rfl 0 rfl rfl ?_
      refine g_getR (q := 38) ok dX10_sleeper_35 rfl fl_X10_13 sM_0 rfl ?_
      refine g_iload_n (q := 39) ok dX10_sleeper_38 rfl 1 rfl rfl ?_
      refine g_iload_n (q := 40) ok dX10_sleeper_39 rfl 2 rfl rfl ?_
      refine g_iast (q := 41) ok dX10_sleeper_40 rfl sM_2 ?_
      refine g_letw (fun w6 => ?_)
      refine g_iconst (v := (nI 0)) (q := 42) ok dX10_sleeper_41 rfl (by decide) ?_
      refine g_istore_n (q := 43) (L' := [(3, .int (nI 0)), (0, .ref 0), (1, .int a1), (2, .int a2)]) ok dX10_sleeper_42 rfl rfl (by decide) rfl rfl ?_
      refine g_to (L' := [(0, .ref 0), (1, .int a1), (3, .int (nI 0))]) ?_ [1, 2, 0] rfl
      refine g_loop1 (Lf := fun v8 => [(0, .ref 0), (1, .int a1), (3, .int v8)]) (fun go7 hgo7 v8 w9 => ?_) N _ _
      unfold xX10_sleeper_b43
      refine g_iload_n (q := 44) ok dX10_sleeper_43 rfl 2 rfl rfl ?_
      refine g_bipush (v := (nI 7)) (q := 46) ok dX10_sleeper_44 rfl (by decide) ?_
      refine g_icmp_ge (q := 49) (g := 69) ok dX10_sleeper_46 rfl (by decide) ?_ ?_
      · refine g_aload_n (q := 70) ok dX10_sleeper_69 rfl 0 rfl rfl ?_
        refine g_getR (q := 73) ok dX10_sleeper_70 rfl fl_X10_31 sM_0 rfl ?_
        refine g_bipush (v := (nI 10)) (q := 75) ok dX10_sleeper_73 rfl (by decide) ?_
        refine g_iload_n (q := 76) ok dX10_sleeper_75 rfl 1 rfl rfl ?_
        refine g_iadd (q := 77) ok dX10_sleeper_76 rfl ?_
        refine g_iconst (v := (nI 0)) (q := 78) ok dX10_sleeper_77 rfl (by decide) ?_
        refine g_iast (q := 79) ok dX10_sleeper_78 rfl sM_8 ?_
        refine g_letw (fun w10 => ?_)
        refine g_iconst (v := (nI 1)) (q := 80) ok dX10_sleeper_79 rfl (by decide) ?_
        exact g_zret ok dX10_sleeper_80 rfl
      · refine g_aload_n (q := 50) ok dX10_sleeper_49 rfl 0 rfl rfl ?_
        refine g_getR (q := 53) ok dX10_sleeper_50 rfl fl_X10_16 sM_0 rfl ?_
        refine g_bipush (v := (nI 10)) (q := 55) ok dX10_sleeper_53 rfl (by decide) ?_
        refine g_iload_n (q := 56) ok dX10_sleeper_55 rfl 2 rfl rfl ?_
        refine g_imul (q := 57) ok dX10_sleeper_56 rfl ?_
        refine g_iload_n (q := 58) ok dX10_sleeper_57 rfl 1 rfl rfl ?_
        refine g_iadd (q := 59) ok dX10_sleeper_58 rfl ?_
        refine g_sipush (v := (nI 255)) (q := 62) ok dX10_sleeper_59 rfl (by decide) ?_
        refine g_iast (q := 63) ok dX10_sleeper_62 rfl sM_3 ?_
        refine g_letw (fun w11 => ?_)
        refine g_iinc (v := v8 + (nI 1)) (q := 66) (L' := [(3, .int (v8 + (nI 1))), (0, .ref 0), (1, .int a1)]) ok dX10_sleeper_63 rfl 2 rfl rfl (by decide) rfl rfl ?_
        refine g_goto (q := 43) ok dX10_sleeper_66 (by decide) ?_
        refine g_to (L' := [(0, .ref 0), (1, .int a1), (3, .int (v8 + (nI 1)))]) ?_ [1, 2, 0] rfl
        exact hgo7 _ _
    · refine g_iconst (v := (nI 0)) (q := 21) ok dX10_sleeper_20 rfl (by decide) ?_
      exact g_zret ok dX10_sleeper_21 rfl
set_option maxRecDepth 20000 in
theorem kX10_has (a0 : Int32) (a1 : Int32) (w : gT) : gM S2 cl2 gTs yX10_has cX10_has 2 (some .boolean) rmX10_has gi [.int a0, .int a1] w (xX10_has a0 a1 w) := by
  refine gM_of (own := RX10) [(0, .int a0), (1, .int a1)] rfl (by decide) (fun _ => rfl) (fun _ => Nat.le_of_ble_eq_true rfl) (fun κ ok => ?_)
  unfold xX10_has
  refine g_iload_n (q := 1) ok dX10_has_0 rfl 0 rfl rfl ?_
  refine g_iload_n (q := 2) ok dX10_has_1 rfl 1 rfl rfl ?_
  refine g_ishr (q := 3) ok dX10_has_2 rfl ?_
  refine g_iconst (v := (nI 1)) (q := 4) ok dX10_has_3 rfl (by decide) ?_
  refine g_iand (q := 5) ok dX10_has_4 rfl ?_
  refine g_iconst (v := (nI 1)) (q := 6) ok dX10_has_5 rfl (by decide) ?_
  refine g_icmp_ne (q := 9) (g := 13) ok dX10_has_6 rfl (by decide) ?_ ?_
  · refine g_iconst (v := (nI 0)) (q := 14) ok dX10_has_13 rfl (by decide) ?_
    exact g_zret ok dX10_has_14 rfl
  · refine g_iconst (v := (nI 1)) (q := 10) ok dX10_has_9 rfl (by decide) ?_
    refine g_goto (q := 14) ok dX10_has_10 (by decide) ?_
    exact g_zret ok dX10_has_14 rfl
set_option maxRecDepth 20000 in
theorem kX10_isSleeper (a1 : Int32) (w : gT) : gM S2 cl2 gTs yX10_isSleeper cX10_isSleeper 2 (some .boolean) rmX10_isSleeper gi [.ref 0, .int a1] w (xX10_isSleeper a1 w) := by
  refine gM_of (own := RX10) [(0, .ref 0), (1, .int a1)] rfl (by decide) (fun _ => rfl) (fun _ => Nat.le_of_ble_eq_true rfl) (fun κ ok => ?_)
  unfold xX10_isSleeper
  refine g_iload_n (q := 1) ok dX10_isSleeper_0 rfl 1 rfl rfl ?_
  refine g_if_lt (q := 4) (g := 25) ok dX10_isSleeper_1 rfl (by decide) ?_ ?_
  · refine g_iconst (v := (nI 0)) (q := 26) ok dX10_isSleeper_25 rfl (by decide) ?_
    exact g_zret ok dX10_isSleeper_26 rfl
  · refine g_iload_n (q := 5) ok dX10_isSleeper_4 rfl 1 rfl rfl ?_
    refine g_bipush (v := (nI 10)) (q := 7) ok dX10_isSleeper_5 rfl (by decide) ?_
    refine g_icmp_ge (q := 10) (g := 25) ok dX10_isSleeper_7 rfl (by decide) ?_ ?_
    · refine g_iconst (v := (nI 0)) (q := 26) ok dX10_isSleeper_25 rfl (by decide) ?_
      exact g_zret ok dX10_isSleeper_26 rfl
    · refine g_aload_n (q := 11) ok dX10_isSleeper_10 rfl 0 rfl rfl ?_
      refine g_getI (q := 14) (N := 0) ok dX10_isSleeper_11 rfl fl_X10_161 sM_0 rfl ?_
      refine g_iload_n (q := 15) ok dX10_isSleeper_14 rfl 1 rfl rfl ?_
      refine g_callSi (q := 18) (As := [.int (w.1 0 3), .int a1]) (st := []) ok tbl_good dX10_isSleeper_15 rfl (kX10_has _ _ _) cf_X10_164 ⟨rfl, rfl, Nat.le_of_ble_eq_true rfl, Nat.le_of_ble_eq_true rfl⟩ rfl rfl (fun _ => Nat.le_of_ble_eq_true rfl) (fun v1 w2 => ?_)
      refine g_if_eq (q := 21) (g := 25) ok dX10_isSleeper_18 rfl (by decide) ?_ ?_
      · refine g_iconst (v := (nI 0)) (q := 26) ok dX10_isSleeper_25 rfl (by decide) ?_
        exact g_zret ok dX10_isSleeper_26 rfl
      · refine g_iconst (v := (nI 1)) (q := 22) ok dX10_isSleeper_21 rfl (by decide) ?_
        refine g_goto (q := 26) ok dX10_isSleeper_22 (by decide) ?_
        exact g_zret ok dX10_isSleeper_26 rfl
set_option maxRecDepth 20000 in
theorem kX10_sleeps (N : Nat) (a1 : Int32) (a2 : Int32) (a3 : Int32) (a4 : Int32) (w : gT) : gM S2 cl2 gTs yX10_sleeps cX10_sleeps 6 (some .boolean) rmX10_sleeps gi [.ref 0, .int a1, .int a2, .int a3, .int a4] w (xX10_sleeps N a1 a2 a3 a4 w) := by
  refine gM_of (own := RX10) [(0, .ref 0), (1, .int a1), (2, .int a2), (3, .int a3), (4, .int a4)] rfl (by decide) (fun _ => rfl) (fun _ => Nat.le_of_ble_eq_true rfl) (fun κ ok => ?_)
  unfold xX10_sleeps
  refine g_aload_n (q := 1) ok dX10_sleeps_0 rfl 0 rfl rfl ?_
  refine g_iload_n (q := 2) ok dX10_sleeps_1 rfl 1 rfl rfl ?_
  refine g_callVi (q := 5) (As := [.int a1]) (st := []) ok tbl_good dX10_sleeps_2 rfl (kX10_isSleeper _ _) cf_X10_185 ⟨rfl, rfl, Nat.le_of_ble_eq_true rfl, Nat.le_of_ble_eq_true rfl⟩ sM_0 rfl rfl rfl (fun _ => Nat.le_of_ble_eq_true rfl) (fun v1 w2 => ?_)
  refine g_if_eq (q := 8) (g := 41) ok dX10_sleeps_5 rfl (by decide) ?_ ?_
  · refine g_iconst (v := (nI 0)) (q := 42) ok dX10_sleeps_41 rfl (by decide) ?_
    exact g_zret ok dX10_sleeps_42 rfl
  · refine g_iload_n (q := 9) ok dX10_sleeps_8 rfl 2 rfl rfl ?_
    refine g_callSi (q := 12) (As := [.int a2]) (st := []) ok tbl_good dX10_sleeps_9 rfl (kX10_isNight _ _) cf_X10_179 ⟨rfl, rfl, Nat.le_of_ble_eq_true rfl, Nat.le_of_ble_eq_true rfl⟩ rfl rfl (fun _ => Nat.le_of_ble_eq_true rfl) (fun v3 w4 => ?_)
    refine g_if_eq (q := 15) (g := 41) ok dX10_sleeps_12 rfl (by decide) ?_ ?_
    · refine g_iconst (v := (nI 0)) (q := 42) ok dX10_sleeps_41 rfl (by decide) ?_
      exact g_zret ok dX10_sleeps_42 rfl
    · refine g_iload_n (q := 16) ok dX10_sleeps_15 rfl 3 rfl rfl ?_
      refine g_iload_n (q := 17) ok dX10_sleeps_16 rfl 2 rfl rfl ?_
      refine g_iconst (v := (nI 1)) (q := 18) ok dX10_sleeps_17 rfl (by decide) ?_
      refine g_iadd (q := 19) ok dX10_sleeps_18 rfl ?_
      refine g_bipush (v := (nI 7)) (q := 21) ok dX10_sleeps_19 rfl (by decide) ?_
      refine g_callSi (q := 24) (As := [.int a3, .int (a2 + (nI 1)), .int (nI 7)]) (st := []) ok tbl_good dX10_sleeps_21 rfl (kX10_in _ _ _ _) cf_X10_175 ⟨rfl, rfl, Nat.le_of_ble_eq_true rfl, Nat.le_of_ble_eq_true rfl⟩ rfl rfl (fun _ => Nat.le_of_ble_eq_true rfl) (fun v5 w6 => ?_)
      refine g_if_eq (q := 27) (g := 41) ok dX10_sleeps_24 rfl (by decide) ?_ ?_
      · refine g_iconst (v := (nI 0)) (q := 42) ok dX10_sleeps_41 rfl (by decide) ?_
        exact g_zret ok dX10_sleeps_42 rfl
      · refine g_join (P := fun k7 => ∀ (w8 : gT), gJ S2 cl2 rmX10_sleeps 6 gi κ 43 [(0, .ref 0), (1, .int a1), (2, .int a2), (3, .int a3), (4, .int a4)] [] w8 (k7 w8)) (fun w8 => ?_) (fun k7 hk7 => ?_)
        · refine g_iload_n (q := 44) ok dX10_sleeps_43 rfl 2 rfl rfl ?_
          refine g_istore (q := 46) (L' := [(5, .int a2), (0, .ref 0), (1, .int a1), (2, .int a2), (3, .int a3), (4, .int a4)]) ok dX10_sleeps_44 rfl (by decide) rfl rfl ?_
          refine g_to (L' := [(0, .ref 0), (1, .int a1), (3, .int a3), (4, .int a4), (5, .int a2)]) ?_ [1, 2, 4, 5, 0] rfl
          refine g_loop1 (Lf := fun v10 => [(0, .ref 0), (1, .int a1), (3, .int a3), (4, .int a4), (5, .int v10)]) (fun go9 hgo9 v10 w11 => ?_) N _ _
          unfold xX10_sleeps_b46
          refine g_iload (q := 48) ok dX10_sleeps_46 rfl 4 rfl ?_
          refine g_iload_n (q := 49) ok dX10_sleeps_48 rfl 2 rfl rfl ?_
          refine g_icmp_ge (q := 52) (g := 84) ok dX10_sleeps_49 rfl (by decide) ?_ ?_
          · refine g_iconst (v := (nI 1)) (q := 85) ok dX10_sleeps_84 rfl (by decide) ?_
            exact g_zret ok dX10_sleeps_85 rfl
          · refine g_join (P := fun k12 => ∀ (v13 : Int32) (v14 : Int32) (w15 : gT), gJ S2 cl2 rmX10_sleeps 6 gi κ 77 [(0, .ref 0), (1, .int a1), (3, .int a3), (4, .int a4), (5, .int v10)] [.int v14, .int v13, .ref 3] w15 (k12 v13 v14 w15)) (fun v13 v14 w15 => ?_) (fun k12 hk12 => ?_)
            · refine g_iast (q := 78) ok dX10_sleeps_77 rfl sM_3 ?_
              refine g_letw (fun w16 => ?_)
              refine g_iinc (v := v10 + (nI 1)) (q := 81) (L' := [(5, .int (v10 + (nI 1))), (0, .ref 0), (1, .int a1), (3, .int a3), (4, .int a4)]) ok dX10_sleeps_78 rfl 4 rfl rfl (by decide) rfl rfl ?_
              refine g_goto (q := 46) ok dX10_sleeps_81 (by decide) ?_
              refine g_to (L' := [(0, .ref 0), (1, .int a1), (3, .int a3), (4, .int a4), (5, .int (v10 + (nI 1)))]) ?_ [1, 2, 3, 4, 0] rfl
              exact hgo9 _ _
            · refine g_aload_n (q := 53) ok dX10_sleeps_52 rfl 0 rfl rfl ?_
              refine g_getR (q := 56) ok dX10_sleeps_53 rfl fl_X10_16 sM_0 rfl ?_
              refine g_bipush (v := (nI 10)) (q := 58) ok dX10_sleeps_56 rfl (by decide) ?_
              refine g_iload (q := 60) ok dX10_sleeps_58 rfl 4 rfl ?_
              refine g_imul (q := 61) ok dX10_sleeps_60 rfl ?_
              refine g_iload_n (q := 62) ok dX10_sleeps_61 rfl 1 rfl rfl ?_
              refine g_iadd (q := 63) ok dX10_sleeps_62 rfl ?_
              refine g_iload (q := 65) ok dX10_sleeps_63 rfl 3 rfl ?_
              refine g_iconst (v := (-1)) (q := 66) ok dX10_sleeps_65 rfl (by decide) ?_
              refine g_icmp_ne (q := 69) (g := 75) ok dX10_sleeps_66 rfl (by decide) ?_ ?_
              · refine g_iload (q := 77) ok dX10_sleeps_75 rfl 3 rfl ?_
                exact hk12 _ _ _
              · refine g_sipush (v := (nI 255)) (q := 72) ok dX10_sleeps_69 rfl (by decide) ?_
                refine g_goto (q := 77) ok dX10_sleeps_72 (by decide) ?_
                exact hk12 _ _ _
        · refine g_iload (q := 29) ok dX10_sleeps_27 rfl 4 rfl ?_
          refine g_iconst (v := (-1)) (q := 30) ok dX10_sleeps_29 rfl (by decide) ?_
          refine g_icmp_eq (q := 33) (g := 43) ok dX10_sleeps_30 rfl (by decide) ?_ ?_
          · exact hk7 _
          · refine g_iload (q := 35) ok dX10_sleeps_33 rfl 4 rfl ?_
            refine g_callSi (q := 38) (As := [.int a4]) (st := []) ok tbl_good dX10_sleeps_35 rfl (kX10_isRoom _ _) cf_X10_171 ⟨rfl, rfl, Nat.le_of_ble_eq_true rfl, Nat.le_of_ble_eq_true rfl⟩ rfl rfl (fun _ => Nat.le_of_ble_eq_true rfl) (fun v17 w18 => ?_)
            refine g_if_ne (q := 41) (g := 43) ok dX10_sleeps_38 rfl (by decide) ?_ ?_
            · exact hk7 _
            · refine g_iconst (v := (nI 0)) (q := 42) ok dX10_sleeps_41 rfl (by decide) ?_
              exact g_zret ok dX10_sleeps_42 rfl
set_option maxRecDepth 20000 in
theorem kX10_ghost (a1 : Int32) (a2 : Int32) (a3 : Int32) (a4 : Int32) (a5 : Int32) (w : gT) : gM S2 cl2 gTs yX10_ghost cX10_ghost 6 (some .boolean) rmX10_ghost gi [.ref 0, .int a1, .int a2, .int a3, .int a4, .int a5] w (xX10_ghost a1 a2 a3 a4 a5 w) := by
  refine gM_of (own := RX10) [(0, .ref 0), (1, .int a1), (2, .int a2), (3, .int a3), (4, .int a4), (5, .int a5)] rfl (by decide) (fun _ => rfl) (fun _ => Nat.le_of_ble_eq_true rfl) (fun κ ok => ?_)
  unfold xX10_ghost
  refine g_iload_n (q := 1) ok dX10_ghost_0 rfl 1 rfl rfl ?_
  refine g_iconst (v := (nI 0)) (q := 2) ok dX10_ghost_1 rfl (by decide) ?_
  refine g_bipush (v := (nI 9)) (q := 4) ok dX10_ghost_2 rfl (by decide) ?_
  refine g_callSi (q := 7) (As := [.int a1, .int (nI 0), .int (nI 9)]) (st := []) ok tbl_good dX10_ghost_4 rfl (kX10_in _ _ _ _) cf_X10_175 ⟨rfl, rfl, Nat.le_of_ble_eq_true rfl, Nat.le_of_ble_eq_true rfl⟩ rfl rfl (fun _ => Nat.le_of_ble_eq_true rfl) (fun v1 w2 => ?_)
  refine g_if_eq (q := 10) (g := 52) ok dX10_ghost_7 rfl (by decide) ?_ ?_
  · refine g_iconst (v := (nI 0)) (q := 53) ok dX10_ghost_52 rfl (by decide) ?_
    exact g_zret ok dX10_ghost_53 rfl
  · refine g_iload_n (q := 11) ok dX10_ghost_10 rfl 2 rfl rfl ?_
    refine g_iconst (v := (nI 0)) (q := 12) ok dX10_ghost_11 rfl (by decide) ?_
    refine g_iconst (v := (nI 4)) (q := 13) ok dX10_ghost_12 rfl (by decide) ?_
    refine g_callSi (q := 16) (As := [.int a2, .int (nI 0), .int (nI 4)]) (st := []) ok tbl_good dX10_ghost_13 rfl (kX10_in _ _ _ _) cf_X10_175 ⟨rfl, rfl, Nat.le_of_ble_eq_true rfl, Nat.le_of_ble_eq_true rfl⟩ rfl rfl (fun _ => Nat.le_of_ble_eq_true rfl) (fun v3 w4 => ?_)
    refine g_if_eq (q := 19) (g := 52) ok dX10_ghost_16 rfl (by decide) ?_ ?_
    · refine g_iconst (v := (nI 0)) (q := 53) ok dX10_ghost_52 rfl (by decide) ?_
      exact g_zret ok dX10_ghost_53 rfl
    · refine g_iload_n (q := 20) ok dX10_ghost_19 rfl 3 rfl rfl ?_
      refine g_iconst (v := (nI 0)) (q := 21) ok dX10_ghost_20 rfl (by decide) ?_
      refine g_bipush (v := (nI 9)) (q := 23) ok dX10_ghost_21 rfl (by decide) ?_
      refine g_callSi (q := 26) (As := [.int a3, .int (nI 0), .int (nI 9)]) (st := []) ok tbl_good dX10_ghost_23 rfl (kX10_in _ _ _ _) cf_X10_175 ⟨rfl, rfl, Nat.le_of_ble_eq_true rfl, Nat.le_of_ble_eq_true rfl⟩ rfl rfl (fun _ => Nat.le_of_ble_eq_true rfl) (fun v5 w6 => ?_)
      refine g_if_eq (q := 29) (g := 52) ok dX10_ghost_26 rfl (by decide) ?_ ?_
      · refine g_iconst (v := (nI 0)) (q := 53) ok dX10_ghost_52 rfl (by decide) ?_
        exact g_zret ok dX10_ghost_53 rfl
      · refine g_iload (q := 31) ok dX10_ghost_29 rfl 4 rfl ?_
        refine g_iconst (v := (nI 0)) (q := 32) ok dX10_ghost_31 rfl (by decide) ?_
        refine g_bipush (v := (nI 9)) (q := 34) ok dX10_ghost_32 rfl (by decide) ?_
        refine g_callSi (q := 37) (As := [.int a4, .int (nI 0), .int (nI 9)]) (st := []) ok tbl_good dX10_ghost_34 rfl (kX10_in _ _ _ _) cf_X10_175 ⟨rfl, rfl, Nat.le_of_ble_eq_true rfl, Nat.le_of_ble_eq_true rfl⟩ rfl rfl (fun _ => Nat.le_of_ble_eq_true rfl) (fun v7 w8 => ?_)
        refine g_if_eq (q := 40) (g := 52) ok dX10_ghost_37 rfl (by decide) ?_ ?_
        · refine g_iconst (v := (nI 0)) (q := 53) ok dX10_ghost_52 rfl (by decide) ?_
          exact g_zret ok dX10_ghost_53 rfl
        · refine g_iload (q := 42) ok dX10_ghost_40 rfl 5 rfl ?_
          refine g_iconst (v := (nI 0)) (q := 43) ok dX10_ghost_42 rfl (by decide) ?_
          refine g_sipush (v := (nI 999)) (q := 46) ok dX10_ghost_43 rfl (by decide) ?_
          refine g_callSi (q := 49) (As := [.int a5, .int (nI 0), .int (nI 999)]) (st := []) ok tbl_good dX10_ghost_46 rfl (kX10_in _ _ _ _) cf_X10_175 ⟨rfl, rfl, Nat.le_of_ble_eq_true rfl, Nat.le_of_ble_eq_true rfl⟩ rfl rfl (fun _ => Nat.le_of_ble_eq_true rfl) (fun v9 w10 => ?_)
          refine g_if_ne (q := 52) (g := 54) ok dX10_ghost_49 rfl (by decide) ?_ ?_
          · refine g_aload_n (q := 55) ok dX10_ghost_54 rfl 0 rfl rfl ?_
            refine g_aload_n (q := 56) ok dX10_ghost_55 rfl 0 rfl rfl ?_
            refine g_getI (q := 59) (N := 0) ok dX10_ghost_56 rfl fl_X10_168 sM_0 rfl ?_
            refine g_iconst (v := (nI 1)) (q := 60) ok dX10_ghost_59 rfl (by decide) ?_
            refine g_iload_n (q := 61) ok dX10_ghost_60 rfl 1 rfl rfl ?_
            refine g_ishl (q := 62) ok dX10_ghost_61 rfl ?_
            refine g_ior (q := 63) ok dX10_ghost_62 rfl ?_
            refine g_put (q := 66) ok dX10_ghost_63 rfl fp_X10_168 sM_0 rfl rfl rfl ?_
            refine g_letw (fun w11 => ?_)
            refine g_aload_n (q := 67) ok dX10_ghost_66 rfl 0 rfl rfl ?_
            refine g_getR (q := 70) ok dX10_ghost_67 rfl fl_X10_19 sM_0 rfl ?_
            refine g_iload_n (q := 71) ok dX10_ghost_70 rfl 1 rfl rfl ?_
            refine g_iload_n (q := 72) ok dX10_ghost_71 rfl 2 rfl rfl ?_
            refine g_iast (q := 73) ok dX10_ghost_72 rfl sM_4 ?_
            refine g_letw (fun w12 => ?_)
            refine g_aload_n (q := 74) ok dX10_ghost_73 rfl 0 rfl rfl ?_
            refine g_getR (q := 77) ok dX10_ghost_74 rfl fl_X10_22 sM_0 rfl ?_
            refine g_iload_n (q := 78) ok dX10_ghost_77 rfl 1 rfl rfl ?_
            refine g_iload_n (q := 79) ok dX10_ghost_78 rfl 3 rfl rfl ?_
            refine g_iast (q := 80) ok dX10_ghost_79 rfl sM_5 ?_
            refine g_letw (fun w13 => ?_)
            refine g_aload_n (q := 81) ok dX10_ghost_80 rfl 0 rfl rfl ?_
            refine g_getR (q := 84) ok dX10_ghost_81 rfl fl_X10_25 sM_0 rfl ?_
            refine g_iload_n (q := 85) ok dX10_ghost_84 rfl 1 rfl rfl ?_
            refine g_iload (q := 87) ok dX10_ghost_85 rfl 4 rfl ?_
            refine g_iast (q := 88) ok dX10_ghost_87 rfl sM_6 ?_
            refine g_letw (fun w14 => ?_)
            refine g_aload_n (q := 89) ok dX10_ghost_88 rfl 0 rfl rfl ?_
            refine g_getR (q := 92) ok dX10_ghost_89 rfl fl_X10_28 sM_0 rfl ?_
            refine g_iload_n (q := 93) ok dX10_ghost_92 rfl 1 rfl rfl ?_
            refine g_iload (q := 95) ok dX10_ghost_93 rfl 5 rfl ?_
            refine g_iast (q := 96) ok dX10_ghost_95 rfl sM_7 ?_
            refine g_letw (fun w15 => ?_)
            refine g_aload_n (q := 97) ok dX10_ghost_96 rfl 0 rfl rfl ?_
            refine g_getR (q := 100) ok dX10_ghost_97 rfl fl_X10_31 sM_0 rfl ?_
            refine g_bipush (v := (nI 20)) (q := 102) ok dX10_ghost_100 rfl (by decide) ?_
            refine g_iload_n (q := 103) ok dX10_ghost_102 rfl 1 rfl rfl ?_
            refine g_iadd (q := 104) ok dX10_ghost_103 rfl ?_
            refine g_iconst (v := (nI 0)) (q := 105) ok dX10_ghost_104 rfl (by decide) ?_
            refine g_iast (q := 106) ok dX10_ghost_105 rfl sM_8 ?_
            refine g_letw (fun w16 => ?_)
            refine g_aload_n (q := 107) ok dX10_ghost_106 rfl 0 rfl rfl ?_
            refine g_getR (q := 110) ok dX10_ghost_107 rfl fl_X10_31 sM_0 rfl ?_
            refine g_bipush (v := (nI 30)) (q := 112) ok dX10_ghost_110 rfl (by decide) ?_
            refine g_iload_n (q := 113) ok dX10_ghost_112 rfl 1 rfl rfl ?_
            refine g_iadd (q := 114) ok dX10_ghost_113 rfl ?_
            refine g_iconst (v := (nI 0)) (q := 115) ok dX10_ghost_114 rfl (by decide) ?_
            refine g_iast (q := 116) ok dX10_ghost_115 rfl sM_8 ?_
            refine g_letw (fun w17 => ?_)
            refine g_iconst (v := (nI 1)) (q := 117) ok dX10_ghost_116 rfl (by decide) ?_
            exact g_zret ok dX10_ghost_117 rfl
          · refine g_iconst (v := (nI 0)) (q := 53) ok dX10_ghost_52 rfl (by decide) ?_
            exact g_zret ok dX10_ghost_53 rfl
set_option maxRecDepth 20000 in
theorem kX10_types (N : Nat) (a1 : Int32) (w : gT) : gM S2 cl2 gTs yX10_types cX10_types 3 none rmX10_types gv [.ref 0, .int a1] w (xX10_types N a1 w) := by
  refine gM_of (own := RX10) [(0, .ref 0), (1, .int a1)] rfl (by decide) (fun _ => rfl) (fun _ => Nat.le_of_ble_eq_true rfl) (fun κ ok => ?_)
  unfold xX10_types
  refine g_iconst (v := (nI 3)) (q := 1) ok dX10_types_0 rfl (by decide) ?_
  refine g_istore_n (q := 2) (L' := [(2, .int (nI 3)), (0, .ref 0), (1, .int a1)]) ok dX10_types_1 rfl rfl (by decide) rfl rfl ?_
  refine g_to (L' := [(0, .ref 0), (1, .int a1), (2, .int (nI 3))]) ?_ [1, 2, 0] rfl
  refine g_loop1 (Lf := fun v2 => [(0, .ref 0), (1, .int a1), (2, .int v2)]) (fun go1 hgo1 v2 w3 => ?_) N _ _
  unfold xX10_types_b2
  refine g_iload_n (q := 3) ok dX10_types_2 rfl 2 rfl rfl ?_
  refine g_if_lt (q := 6) (g := 38) ok dX10_types_3 rfl (by decide) ?_ ?_
  · exact g_vret ok dX10_types_38
  · refine g_aload_n (q := 7) ok dX10_types_6 rfl 0 rfl rfl ?_
    refine g_getR (q := 10) ok dX10_types_7 rfl fl_X10_34 sM_0 rfl ?_
    refine g_aload_n (q := 11) ok dX10_types_10 rfl 0 rfl rfl ?_
    refine g_getI (q := 14) (N := 0) ok dX10_types_11 rfl fl_X10_188 sM_0 rfl ?_
    refine g_iload_n (q := 15) ok dX10_types_14 rfl 1 rfl rfl ?_
    refine g_bipush (v := (nI 8)) (q := 17) ok dX10_types_15 rfl (by decide) ?_
    refine g_iload_n (q := 18) ok dX10_types_17 rfl 2 rfl rfl ?_
    refine g_imul (q := 19) ok dX10_types_18 rfl ?_
    refine g_ishr (q := 20) ok dX10_types_19 rfl ?_
    refine g_i2b (q := 21) ok dX10_types_20 rfl ?_
    refine g_bast (q := 22) ok dX10_types_21 rfl sM_9 ?_
    refine g_letw (fun w4 => ?_)
    refine g_aload_n (q := 23) ok dX10_types_22 rfl 0 rfl rfl ?_
    refine g_aload_n (q := 24) ok dX10_types_23 rfl 0 rfl rfl ?_
    refine g_getI (q := 27) (N := 0) ok dX10_types_24 rfl fl_X10_188 sM_0 rfl ?_
    refine g_iconst (v := (nI 1)) (q := 28) ok dX10_types_27 rfl (by decide) ?_
    refine g_iadd (q := 29) ok dX10_types_28 rfl ?_
    refine g_put (q := 32) ok dX10_types_29 rfl fp_X10_188 sM_0 rfl rfl rfl ?_
    refine g_letw (fun w5 => ?_)
    refine g_iinc (v := v2 + (-1)) (q := 35) (L' := [(2, .int (v2 + (-1))), (0, .ref 0), (1, .int a1)]) ok dX10_types_32 rfl 2 rfl rfl (by decide) rfl rfl ?_
    refine g_goto (q := 2) ok dX10_types_35 (by decide) ?_
    refine g_to (L' := [(0, .ref 0), (1, .int a1), (2, .int (v2 + (-1)))]) ?_ [1, 2, 0] rfl
    exact hgo1 _ _
set_option maxRecDepth 20000 in
theorem kX10_feed (N : Nat) (a1 : Int32) (a2 : Int32) (a3 : Int32) (a4 : Int32) (a5 : Int32) (w : gT) : gM S2 cl2 gTs yX10_feed cX10_feed 6 (some .int) rmX10_feed gi [.ref 0, .int a1, .int a2, .int a3, .int a4, .int a5] w (xX10_feed N a1 a2 a3 a4 a5 w) := by
  refine gM_of (own := RX10) [(0, .ref 0), (1, .int a1), (2, .int a2), (3, .int a3), (4, .int a4), (5, .int a5)] rfl (by decide) (fun _ => rfl) (fun _ => Nat.le_of_ble_eq_true rfl) (fun κ ok => ?_)
  unfold xX10_feed
  refine g_aload_n (q := 1) ok dX10_feed_0 rfl 0 rfl rfl ?_
  refine g_getI (q := 4) (N := 0) ok dX10_feed_1 rfl fl_X10_188 sM_0 rfl ?_
  refine g_bipush (v := (nI 20)) (q := 6) ok dX10_feed_4 rfl (by decide) ?_
  refine g_iadd (q := 7) ok dX10_feed_6 rfl ?_
  refine g_sipush (v := (nI 220)) (q := 10) ok dX10_feed_7 rfl (by decide) ?_
  refine g_icmp_le (q := 13) (g := 15) ok dX10_feed_10 rfl (by decide) ?_ ?_
  · refine g_aload_n (q := 16) ok dX10_feed_15 rfl 0 rfl rfl ?_
    refine g_iload_n (q := 17) ok dX10_feed_16 rfl 1 rfl rfl ?_
    refine g_callVv (q := 20) (As := [.int a1]) (st := []) ok tbl_good dX10_feed_17 rfl (kX10_types N _ _) cf_X10_191 ⟨rfl, rfl, Nat.le_of_ble_eq_true rfl, Nat.le_of_ble_eq_true rfl⟩ sM_0 rfl rfl rfl (fun _ => Nat.le_of_ble_eq_true rfl) (fun w1 => ?_)
    refine g_aload_n (q := 21) ok dX10_feed_20 rfl 0 rfl rfl ?_
    refine g_iload_n (q := 22) ok dX10_feed_21 rfl 2 rfl rfl ?_
    refine g_callVv (q := 25) (As := [.int a2]) (st := []) ok tbl_good dX10_feed_22 rfl (kX10_types N _ _) cf_X10_191 ⟨rfl, rfl, Nat.le_of_ble_eq_true rfl, Nat.le_of_ble_eq_true rfl⟩ sM_0 rfl rfl rfl (fun _ => Nat.le_of_ble_eq_true rfl) (fun w2 => ?_)
    refine g_aload_n (q := 26) ok dX10_feed_25 rfl 0 rfl rfl ?_
    refine g_iload_n (q := 27) ok dX10_feed_26 rfl 3 rfl rfl ?_
    refine g_callVv (q := 30) (As := [.int a3]) (st := []) ok tbl_good dX10_feed_27 rfl (kX10_types N _ _) cf_X10_191 ⟨rfl, rfl, Nat.le_of_ble_eq_true rfl, Nat.le_of_ble_eq_true rfl⟩ sM_0 rfl rfl rfl (fun _ => Nat.le_of_ble_eq_true rfl) (fun w3 => ?_)
    refine g_aload_n (q := 31) ok dX10_feed_30 rfl 0 rfl rfl ?_
    refine g_iload (q := 33) ok dX10_feed_31 rfl 4 rfl ?_
    refine g_callVv (q := 36) (As := [.int a4]) (st := []) ok tbl_good dX10_feed_33 rfl (kX10_types N _ _) cf_X10_191 ⟨rfl, rfl, Nat.le_of_ble_eq_true rfl, Nat.le_of_ble_eq_true rfl⟩ sM_0 rfl rfl rfl (fun _ => Nat.le_of_ble_eq_true rfl) (fun w4 => ?_)
    refine g_aload_n (q := 37) ok dX10_feed_36 rfl 0 rfl rfl ?_
    refine g_iload (q := 39) ok dX10_feed_37 rfl 5 rfl ?_
    refine g_callVv (q := 42) (As := [.int a5]) (st := []) ok tbl_good dX10_feed_39 rfl (kX10_types N _ _) cf_X10_191 ⟨rfl, rfl, Nat.le_of_ble_eq_true rfl, Nat.le_of_ble_eq_true rfl⟩ sM_0 rfl rfl rfl (fun _ => Nat.le_of_ble_eq_true rfl) (fun w5 => ?_)
    refine g_aload_n (q := 43) ok dX10_feed_42 rfl 0 rfl rfl ?_
    refine g_getI (q := 46) (N := 0) ok dX10_feed_43 rfl fl_X10_188 sM_0 rfl ?_
    exact g_iret ok dX10_feed_46
  · refine g_iconst (v := (-1)) (q := 14) ok dX10_feed_13 rfl (by decide) ?_
    exact g_iret ok dX10_feed_14
set_option maxRecDepth 20000 in
theorem kX10_here (w : gT) : gM S2 cl2 gTs yX10_here cX10_here 1 (some .int) rmX10_here gi [.ref 0] w (xX10_here w) := by
  refine gM_of (own := RX10) [(0, .ref 0)] rfl (by decide) (fun _ => rfl) (fun _ => Nat.le_of_ble_eq_true rfl) (fun κ ok => ?_)
  unfold xX10_here
  refine g_aload_n (q := 1) ok dX10_here_0 rfl 0 rfl rfl ?_
  refine g_getI (q := 4) (N := 0) ok dX10_here_1 rfl fl_X10_203 sM_0 rfl ?_
  refine g_aload_n (q := 5) ok dX10_here_4 rfl 0 rfl rfl ?_
  refine g_getI (q := 8) (N := 0) ok dX10_here_5 rfl fl_X10_224 sM_0 rfl ?_
  refine g_icmp_ge (q := 11) (g := 27) ok dX10_here_8 rfl (by decide) ?_ ?_
  · refine g_iconst (v := (-1)) (q := 28) ok dX10_here_27 rfl (by decide) ?_
    exact g_iret ok dX10_here_28
  · refine g_aload_n (q := 12) ok dX10_here_11 rfl 0 rfl rfl ?_
    refine g_getR (q := 15) ok dX10_here_12 rfl fl_X10_34 sM_0 rfl ?_
    refine g_aload_n (q := 16) ok dX10_here_15 rfl 0 rfl rfl ?_
    refine g_getI (q := 19) (N := 0) ok dX10_here_16 rfl fl_X10_203 sM_0 rfl ?_
    refine g_bald (q := 20) ok dX10_here_19 rfl sM_9 ?_
    refine g_sipush (v := (nI 255)) (q := 23) ok dX10_here_20 rfl (by decide) ?_
    refine g_iand (q := 24) ok dX10_here_23 rfl ?_
    refine g_goto (q := 28) ok dX10_here_24 (by decide) ?_
    exact g_iret ok dX10_here_28
set_option maxRecDepth 20000 in
theorem kX10_isDigit (w : gT) : gM S2 cl2 gTs yX10_isDigit cX10_isDigit 1 (some .boolean) rmX10_isDigit gi [.ref 0] w (xX10_isDigit w) := by
  refine gM_of (own := RX10) [(0, .ref 0)] rfl (by decide) (fun _ => rfl) (fun _ => Nat.le_of_ble_eq_true rfl) (fun κ ok => ?_)
  unfold xX10_isDigit
  refine g_aload_n (q := 1) ok dX10_isDigit_0 rfl 0 rfl rfl ?_
  refine g_callVi (q := 4) (As := []) (st := []) ok tbl_good dX10_isDigit_1 rfl (kX10_here _) cf_X10_199 ⟨rfl, rfl, Nat.le_of_ble_eq_true rfl, Nat.le_of_ble_eq_true rfl⟩ sM_0 rfl rfl rfl (fun _ => Nat.le_of_ble_eq_true rfl) (fun v1 w2 => ?_)
  refine g_bipush (v := (nI 48)) (q := 6) ok dX10_isDigit_4 rfl (by decide) ?_
  refine g_icmp_lt (q := 9) (g := 22) ok dX10_isDigit_6 rfl (by decide) ?_ ?_
  · refine g_iconst (v := (nI 0)) (q := 23) ok dX10_isDigit_22 rfl (by decide) ?_
    exact g_zret ok dX10_isDigit_23 rfl
  · refine g_aload_n (q := 10) ok dX10_isDigit_9 rfl 0 rfl rfl ?_
    refine g_callVi (q := 13) (As := []) (st := []) ok tbl_good dX10_isDigit_10 rfl (kX10_here _) cf_X10_199 ⟨rfl, rfl, Nat.le_of_ble_eq_true rfl, Nat.le_of_ble_eq_true rfl⟩ sM_0 rfl rfl rfl (fun _ => Nat.le_of_ble_eq_true rfl) (fun v3 w4 => ?_)
    refine g_bipush (v := (nI 57)) (q := 15) ok dX10_isDigit_13 rfl (by decide) ?_
    refine g_icmp_gt (q := 18) (g := 22) ok dX10_isDigit_15 rfl (by decide) ?_ ?_
    · refine g_iconst (v := (nI 0)) (q := 23) ok dX10_isDigit_22 rfl (by decide) ?_
      exact g_zret ok dX10_isDigit_23 rfl
    · refine g_iconst (v := (nI 1)) (q := 19) ok dX10_isDigit_18 rfl (by decide) ?_
      refine g_goto (q := 23) ok dX10_isDigit_19 (by decide) ?_
      exact g_zret ok dX10_isDigit_23 rfl
set_option maxRecDepth 20000 in
theorem kX10_wrongAt (a1 : Int32) (a2 : Int32) (w : gT) : gM S2 cl2 gTs yX10_wrongAt cX10_wrongAt 3 (some .boolean) rmX10_wrongAt gi [.ref 0, .int a1, .int a2] w (xX10_wrongAt a1 a2 w) := by
  refine gM_of (own := RX10) [(0, .ref 0), (1, .int a1), (2, .int a2)] rfl (by decide) (fun _ => rfl) (fun _ => Nat.le_of_ble_eq_true rfl) (fun κ ok => ?_)
  unfold xX10_wrongAt
  refine g_aload_n (q := 1) ok dX10_wrongAt_0 rfl 0 rfl rfl ?_
  refine g_sipush (v := (-1000)) (q := 4) ok dX10_wrongAt_1 rfl (by decide) ?_
  refine g_iload_n (q := 5) ok dX10_wrongAt_4 rfl 1 rfl rfl ?_
  refine g_imul (q := 6) ok dX10_wrongAt_5 rfl ?_
  refine g_iload_n (q := 7) ok dX10_wrongAt_6 rfl 2 rfl rfl ?_
  refine g_isub (q := 8) ok dX10_wrongAt_7 rfl ?_
  refine g_put (q := 11) ok dX10_wrongAt_8 rfl fp_X10_230 sM_0 rfl rfl rfl ?_
  refine g_letw (fun w1 => ?_)
  refine g_iconst (v := (nI 0)) (q := 12) ok dX10_wrongAt_11 rfl (by decide) ?_
  exact g_zret ok dX10_wrongAt_12 rfl
set_option maxRecDepth 20000 in
theorem kX10_readsOne (a1 : Int32) (w : gT) : gM S2 cl2 gTs yX10_readsOne cX10_readsOne 2 (some .boolean) rmX10_readsOne gi [.ref 0, .int a1] w (xX10_readsOne a1 w) := by
  refine gM_of (own := RX10) [(0, .ref 0), (1, .int a1)] rfl (by decide) (fun _ => rfl) (fun _ => Nat.le_of_ble_eq_true rfl) (fun κ ok => ?_)
  unfold xX10_readsOne
  refine g_join (P := fun k1 => ∀ (w2 : gT), gJ S2 cl2 rmX10_readsOne 2 gi κ 18 [(0, .ref 0)] [] w2 (k1 w2)) (fun w2 => ?_) (fun k1 hk1 => ?_)
  · refine g_aload_n (q := 19) ok dX10_readsOne_18 rfl 0 rfl rfl ?_
    refine g_iconst (v := (nI 1)) (q := 20) ok dX10_readsOne_19 rfl (by decide) ?_
    refine g_aload_n (q := 21) ok dX10_readsOne_20 rfl 0 rfl rfl ?_
    refine g_getI (q := 24) (N := 0) ok dX10_readsOne_21 rfl fl_X10_203 sM_0 rfl ?_
    refine g_callVi (q := 27) (As := [.int (nI 1), .int (w2.1 0 15)]) (st := []) ok tbl_good dX10_readsOne_24 rfl (kX10_wrongAt _ _ _) cf_X10_206 ⟨rfl, rfl, Nat.le_of_ble_eq_true rfl, Nat.le_of_ble_eq_true rfl⟩ sM_0 rfl rfl rfl (fun _ => Nat.le_of_ble_eq_true rfl) (fun v3 w4 => ?_)
    exact g_zretv ok dX10_readsOne_27
  · refine g_aload_n (q := 1) ok dX10_readsOne_0 rfl 0 rfl rfl ?_
    refine g_callVi (q := 4) (As := []) (st := []) ok tbl_good dX10_readsOne_1 rfl (kX10_isDigit _) cf_X10_195 ⟨rfl, rfl, Nat.le_of_ble_eq_true rfl, Nat.le_of_ble_eq_true rfl⟩ sM_0 rfl rfl rfl (fun _ => Nat.le_of_ble_eq_true rfl) (fun v5 w6 => ?_)
    refine g_if_eq (q := 7) (g := 18) ok dX10_readsOne_4 rfl (by decide) ?_ ?_
    · refine g_to (L' := [(0, .ref 0)]) ?_ [0] rfl
      exact hk1 _
    · refine g_aload_n (q := 8) ok dX10_readsOne_7 rfl 0 rfl rfl ?_
      refine g_callVi (q := 11) (As := []) (st := []) ok tbl_good dX10_readsOne_8 rfl (kX10_here _) cf_X10_199 ⟨rfl, rfl, Nat.le_of_ble_eq_true rfl, Nat.le_of_ble_eq_true rfl⟩ sM_0 rfl rfl rfl (fun _ => Nat.le_of_ble_eq_true rfl) (fun v7 w8 => ?_)
      refine g_bipush (v := (nI 48)) (q := 13) ok dX10_readsOne_11 rfl (by decide) ?_
      refine g_isub (q := 14) ok dX10_readsOne_13 rfl ?_
      refine g_iload_n (q := 15) ok dX10_readsOne_14 rfl 1 rfl rfl ?_
      refine g_icmp_le (q := 18) (g := 28) ok dX10_readsOne_15 rfl (by decide) ?_ ?_
      · refine g_aload_n (q := 29) ok dX10_readsOne_28 rfl 0 rfl rfl ?_
        refine g_aload_n (q := 30) ok dX10_readsOne_29 rfl 0 rfl rfl ?_
        refine g_callVi (q := 33) (As := []) (st := [.ref 0]) ok tbl_good dX10_readsOne_30 rfl (kX10_here _) cf_X10_199 ⟨rfl, rfl, Nat.le_of_ble_eq_true rfl, Nat.le_of_ble_eq_true rfl⟩ sM_0 rfl rfl rfl (fun _ => Nat.le_of_ble_eq_true rfl) (fun v9 w10 => ?_)
        refine g_bipush (v := (nI 48)) (q := 35) ok dX10_readsOne_33 rfl (by decide) ?_
        refine g_isub (q := 36) ok dX10_readsOne_35 rfl ?_
        refine g_put (q := 39) ok dX10_readsOne_36 rfl fp_X10_209 sM_0 rfl rfl rfl ?_
        refine g_letw (fun w11 => ?_)
        refine g_aload_n (q := 40) ok dX10_readsOne_39 rfl 0 rfl rfl ?_
        refine g_aload_n (q := 41) ok dX10_readsOne_40 rfl 0 rfl rfl ?_
        refine g_getI (q := 44) (N := 0) ok dX10_readsOne_41 rfl fl_X10_203 sM_0 rfl ?_
        refine g_iconst (v := (nI 1)) (q := 45) ok dX10_readsOne_44 rfl (by decide) ?_
        refine g_iadd (q := 46) ok dX10_readsOne_45 rfl ?_
        refine g_put (q := 49) ok dX10_readsOne_46 rfl fp_X10_203 sM_0 rfl rfl rfl ?_
        refine g_letw (fun w12 => ?_)
        refine g_iconst (v := (nI 1)) (q := 50) ok dX10_readsOne_49 rfl (by decide) ?_
        exact g_zret ok dX10_readsOne_50 rfl
      · refine g_to (L' := [(0, .ref 0)]) ?_ [0] rfl
        exact hk1 _
set_option maxRecDepth 20000 in
theorem kX10_takes (a1 : Int32) (w : gT) : gM S2 cl2 gTs yX10_takes cX10_takes 2 (some .boolean) rmX10_takes gi [.ref 0, .int a1] w (xX10_takes a1 w) := by
  refine gM_of (own := RX10) [(0, .ref 0), (1, .int a1)] rfl (by decide) (fun _ => rfl) (fun _ => Nat.le_of_ble_eq_true rfl) (fun κ ok => ?_)
  unfold xX10_takes
  refine g_aload_n (q := 1) ok dX10_takes_0 rfl 0 rfl rfl ?_
  refine g_callVi (q := 4) (As := []) (st := []) ok tbl_good dX10_takes_1 rfl (kX10_here _) cf_X10_199 ⟨rfl, rfl, Nat.le_of_ble_eq_true rfl, Nat.le_of_ble_eq_true rfl⟩ sM_0 rfl rfl rfl (fun _ => Nat.le_of_ble_eq_true rfl) (fun v1 w2 => ?_)
  refine g_iload_n (q := 5) ok dX10_takes_4 rfl 1 rfl rfl ?_
  refine g_icmp_eq (q := 8) (g := 18) ok dX10_takes_5 rfl (by decide) ?_ ?_
  · refine g_aload_n (q := 19) ok dX10_takes_18 rfl 0 rfl rfl ?_
    refine g_aload_n (q := 20) ok dX10_takes_19 rfl 0 rfl rfl ?_
    refine g_getI (q := 23) (N := 0) ok dX10_takes_20 rfl fl_X10_203 sM_0 rfl ?_
    refine g_iconst (v := (nI 1)) (q := 24) ok dX10_takes_23 rfl (by decide) ?_
    refine g_iadd (q := 25) ok dX10_takes_24 rfl ?_
    refine g_put (q := 28) ok dX10_takes_25 rfl fp_X10_203 sM_0 rfl rfl rfl ?_
    refine g_letw (fun w3 => ?_)
    refine g_iconst (v := (nI 1)) (q := 29) ok dX10_takes_28 rfl (by decide) ?_
    exact g_zret ok dX10_takes_29 rfl
  · refine g_aload_n (q := 9) ok dX10_takes_8 rfl 0 rfl rfl ?_
    refine g_iconst (v := (nI 1)) (q := 10) ok dX10_takes_9 rfl (by decide) ?_
    refine g_aload_n (q := 11) ok dX10_takes_10 rfl 0 rfl rfl ?_
    refine g_getI (q := 14) (N := 0) ok dX10_takes_11 rfl fl_X10_203 sM_0 rfl ?_
    refine g_callVi (q := 17) (As := [.int (nI 1), .int (w2.1 0 15)]) (st := []) ok tbl_good dX10_takes_14 rfl (kX10_wrongAt _ _ _) cf_X10_206 ⟨rfl, rfl, Nat.le_of_ble_eq_true rfl, Nat.le_of_ble_eq_true rfl⟩ sM_0 rfl rfl rfl (fun _ => Nat.le_of_ble_eq_true rfl) (fun v4 w5 => ?_)
    exact g_zretv ok dX10_takes_17
set_option maxRecDepth 20000 in
theorem kX10_readsRoom (N : Nat) (w : gT) : gM S2 cl2 gTs yX10_readsRoom cX10_readsRoom 2 (some .boolean) rmX10_readsRoom gi [.ref 0] w (xX10_readsRoom N w) := by
  refine gM_of (own := RX10) [(0, .ref 0)] rfl (by decide) (fun _ => rfl) (fun _ => Nat.le_of_ble_eq_true rfl) (fun κ ok => ?_)
  unfold xX10_readsRoom
  refine g_aload_n (q := 1) ok dX10_readsRoom_0 rfl 0 rfl rfl ?_
  refine g_getI (q := 4) (N := 0) ok dX10_readsRoom_1 rfl fl_X10_203 sM_0 rfl ?_
  refine g_leti (fun v1 => ?_)
  refine g_istore_n (q := 5) (L' := [(1, .int v1), (0, .ref 0)]) ok dX10_readsRoom_4 rfl rfl (by decide) rfl rfl ?_
  refine g_aload_n (q := 6) ok dX10_readsRoom_5 rfl 1 rfl rfl ?_
  refine g_iconst (v := (nI 0)) (q := 7) ok dX10_readsRoom_6 rfl (by decide) ?_
  refine g_put (q := 10) ok dX10_readsRoom_7 rfl fp_X10_209 sM_0 rfl rfl rfl ?_
  refine g_letw (fun w2 => ?_)
  refine g_join (P := fun k3 => ∀ (w4 : gT), gJ S2 cl2 rmX10_readsRoom 2 gi κ 59 [(0, .ref 0), (1, .int v1)] [] w4 (k3 w4)) (fun w4 => ?_) (fun k3 hk3 => ?_)
  · refine g_aload_n (q := 60) ok dX10_readsRoom_59 rfl 0 rfl rfl ?_
    refine g_getI (q := 63) (N := 0) ok dX10_readsRoom_60 rfl fl_X10_203 sM_0 rfl ?_
    refine g_iload_n (q := 64) ok dX10_readsRoom_63 rfl 1 rfl rfl ?_
    refine g_icmp_ne (q := 67) (g := 77) ok dX10_readsRoom_64 rfl (by decide) ?_ ?_
    · refine g_aload_n (q := 78) ok dX10_readsRoom_77 rfl 0 rfl rfl ?_
      refine g_getI (q := 81) (N := 0) ok dX10_readsRoom_78 rfl fl_X10_209 sM_0 rfl ?_
      refine g_callSi (q := 84) (As := [.int (w4.1 0 18)]) (st := []) ok tbl_good dX10_readsRoom_81 rfl (kX10_isRoom _ _) cf_X10_171 ⟨rfl, rfl, Nat.le_of_ble_eq_true rfl, Nat.le_of_ble_eq_true rfl⟩ rfl rfl (fun _ => Nat.le_of_ble_eq_true rfl) (fun v5 w6 => ?_)
      refine g_if_ne (q := 87) (g := 96) ok dX10_readsRoom_84 rfl (by decide) ?_ ?_
      · refine g_iconst (v := (nI 1)) (q := 97) ok dX10_readsRoom_96 rfl (by decide) ?_
        refine g_goto (q := 101) ok dX10_readsRoom_97 (by decide) ?_
        exact g_zret ok dX10_readsRoom_101 rfl
      · refine g_aload_n (q := 88) ok dX10_readsRoom_87 rfl 0 rfl rfl ?_
        refine g_iconst (v := (nI 3)) (q := 89) ok dX10_readsRoom_88 rfl (by decide) ?_
        refine g_iload_n (q := 90) ok dX10_readsRoom_89 rfl 1 rfl rfl ?_
        refine g_callVi (q := 93) (As := [.int (nI 3), .int v1]) (st := []) ok tbl_good dX10_readsRoom_90 rfl (kX10_wrongAt _ _ _) cf_X10_206 ⟨rfl, rfl, Nat.le_of_ble_eq_true rfl, Nat.le_of_ble_eq_true rfl⟩ sM_0 rfl rfl rfl (fun _ => Nat.le_of_ble_eq_true rfl) (fun v7 w8 => ?_)
        refine g_if_eq (q := 96) (g := 100) ok dX10_readsRoom_93 rfl (by decide) ?_ ?_
        · refine g_iconst (v := (nI 0)) (q := 101) ok dX10_readsRoom_100 rfl (by decide) ?_
          exact g_zret ok dX10_readsRoom_101 rfl
        · refine g_iconst (v := (nI 1)) (q := 97) ok dX10_readsRoom_96 rfl (by decide) ?_
          refine g_goto (q := 101) ok dX10_readsRoom_97 (by decide) ?_
          exact g_zret ok dX10_readsRoom_101 rfl
    · refine g_aload_n (q := 68) ok dX10_readsRoom_67 rfl 0 rfl rfl ?_
      refine g_iconst (v := (nI 1)) (q := 69) ok dX10_readsRoom_68 rfl (by decide) ?_
      refine g_aload_n (q := 70) ok dX10_readsRoom_69 rfl 0 rfl rfl ?_
      refine g_getI (q := 73) (N := 0) ok dX10_readsRoom_70 rfl fl_X10_203 sM_0 rfl ?_
      refine g_callVi (q := 76) (As := [.int (nI 1), .int (w4.1 0 15)]) (st := []) ok tbl_good dX10_readsRoom_73 rfl (kX10_wrongAt _ _ _) cf_X10_206 ⟨rfl, rfl, Nat.le_of_ble_eq_true rfl, Nat.le_of_ble_eq_true rfl⟩ sM_0 rfl rfl rfl (fun _ => Nat.le_of_ble_eq_true rfl) (fun v9 w10 => ?_)
      exact g_zretv ok dX10_readsRoom_76
  · refine g_to (L' := [(0, .ref 0), (1, .int v1)]) ?_ [1, 0] rfl
    refine g_loop0 (Lf := [(0, .ref 0), (1, .int v1)]) (fun go11 hgo11 w12 => ?_) N _
    unfold xX10_readsRoom_b10
    refine g_aload_n (q := 11) ok dX10_readsRoom_10 rfl 0 rfl rfl ?_
    refine g_callVi (q := 14) (As := []) (st := []) ok tbl_good dX10_readsRoom_11 rfl (kX10_isDigit _) cf_X10_195 ⟨rfl, rfl, Nat.le_of_ble_eq_true rfl, Nat.le_of_ble_eq_true rfl⟩ sM_0 rfl rfl rfl (fun _ => Nat.le_of_ble_eq_true rfl) (fun v13 w14 => ?_)
    refine g_if_eq (q := 17) (g := 59) ok dX10_readsRoom_14 rfl (by decide) ?_ ?_
    · exact hk3 _
    · refine g_aload_n (q := 18) ok dX10_readsRoom_17 rfl 0 rfl rfl ?_
      refine g_getI (q := 21) (N := 0) ok dX10_readsRoom_18 rfl fl_X10_203 sM_0 rfl ?_
      refine g_iload_n (q := 22) ok dX10_readsRoom_21 rfl 1 rfl rfl ?_
      refine g_iconst (v := (nI 2)) (q := 23) ok dX10_readsRoom_22 rfl (by decide) ?_
      refine g_iadd (q := 24) ok dX10_readsRoom_23 rfl ?_
      refine g_icmp_ge (q := 27) (g := 59) ok dX10_readsRoom_24 rfl (by decide) ?_ ?_
      · exact hk3 _
      · refine g_aload_n (q := 28) ok dX10_readsRoom_27 rfl 0 rfl rfl ?_
        refine g_bipush (v := (nI 10)) (q := 30) ok dX10_readsRoom_28 rfl (by decide) ?_
        refine g_aload_n (q := 31) ok dX10_readsRoom_30 rfl 0 rfl rfl ?_
        refine g_getI (q := 34) (N := 0) ok dX10_readsRoom_31 rfl fl_X10_209 sM_0 rfl ?_
        refine g_imul (q := 35) ok dX10_readsRoom_34 rfl ?_
        refine g_aload_n (q := 36) ok dX10_readsRoom_35 rfl 0 rfl rfl ?_
        refine g_callVi (q := 39) (As := []) (st := [.int ((nI 10) * (w14.1 0 18)), .ref 0]) ok tbl_good dX10_readsRoom_36 rfl (kX10_here _) cf_X10_199 ⟨rfl, rfl, Nat.le_of_ble_eq_true rfl, Nat.le_of_ble_eq_true rfl⟩ sM_0 rfl rfl rfl (fun _ => Nat.le_of_ble_eq_true rfl) (fun v15 w16 => ?_)
        refine g_iadd (q := 40) ok dX10_readsRoom_39 rfl ?_
        refine g_bipush (v := (nI 48)) (q := 42) ok dX10_readsRoom_40 rfl (by decide) ?_
        refine g_isub (q := 43) ok dX10_readsRoom_42 rfl ?_
        refine g_put (q := 46) ok dX10_readsRoom_43 rfl fp_X10_209 sM_0 rfl rfl rfl ?_
        refine g_letw (fun w17 => ?_)
        refine g_aload_n (q := 47) ok dX10_readsRoom_46 rfl 0 rfl rfl ?_
        refine g_aload_n (q := 48) ok dX10_readsRoom_47 rfl 0 rfl rfl ?_
        refine g_getI (q := 51) (N := 0) ok dX10_readsRoom_48 rfl fl_X10_203 sM_0 rfl ?_
        refine g_iconst (v := (nI 1)) (q := 52) ok dX10_readsRoom_51 rfl (by decide) ?_
        refine g_iadd (q := 53) ok dX10_readsRoom_52 rfl ?_
        refine g_put (q := 56) ok dX10_readsRoom_53 rfl fp_X10_203 sM_0 rfl rfl rfl ?_
        refine g_letw (fun w18 => ?_)
        refine g_goto (q := 10) ok dX10_readsRoom_56 (by decide) ?_
        exact hgo11 _
set_option maxRecDepth 20000 in
theorem kX10_readsWalk (N : Nat) (w : gT) : gM S2 cl2 gTs yX10_readsWalk cX10_readsWalk 1 (some .boolean) rmX10_readsWalk gi [.ref 0] w (xX10_readsWalk N w) := by
  refine gM_of (own := RX10) [(0, .ref 0)] rfl (by decide) (fun _ => rfl) (fun _ => Nat.le_of_ble_eq_true rfl) (fun κ ok => ?_)
  unfold xX10_readsWalk
  refine g_aload_n (q := 1) ok dX10_readsWalk_0 rfl 0 rfl rfl ?_
  refine g_callVi (q := 4) (As := []) (st := []) ok tbl_good dX10_readsWalk_1 rfl (kX10_isDigit _) cf_X10_195 ⟨rfl, rfl, Nat.le_of_ble_eq_true rfl, Nat.le_of_ble_eq_true rfl⟩ sM_0 rfl rfl rfl (fun _ => Nat.le_of_ble_eq_true rfl) (fun v1 w2 => ?_)
  refine g_if_ne (q := 7) (g := 17) ok dX10_readsWalk_4 rfl (by decide) ?_ ?_
  · refine g_aload_n (q := 18) ok dX10_readsWalk_17 rfl 0 rfl rfl ?_
    refine g_getI (q := 21) (N := 0) ok dX10_readsWalk_18 rfl fl_X10_212 sM_0 rfl ?_
    refine g_bipush (v := (nI 16)) (q := 23) ok dX10_readsWalk_21 rfl (by decide) ?_
    refine g_icmp_ne (q := 26) (g := 36) ok dX10_readsWalk_23 rfl (by decide) ?_ ?_
    · refine g_aload_n (q := 37) ok dX10_readsWalk_36 rfl 0 rfl rfl ?_
      refine g_bipush (v := (nI 9)) (q := 39) ok dX10_readsWalk_37 rfl (by decide) ?_
      refine g_callVi (q := 42) (As := [.int (nI 9)]) (st := []) ok tbl_good dX10_readsWalk_39 rfl (kX10_readsOne _ _) cf_X10_215 ⟨rfl, rfl, Nat.le_of_ble_eq_true rfl, Nat.le_of_ble_eq_true rfl⟩ sM_0 rfl rfl rfl (fun _ => Nat.le_of_ble_eq_true rfl) (fun v3 w4 => ?_)
      refine g_pop (q := 43) ok dX10_readsWalk_42 rfl (fun _ => rfl) ?_
      refine g_aload_n (q := 44) ok dX10_readsWalk_43 rfl 0 rfl rfl ?_
      refine g_getR (q := 47) ok dX10_readsWalk_44 rfl fl_X10_47 sM_0 rfl ?_
      refine g_aload_n (q := 48) ok dX10_readsWalk_47 rfl 0 rfl rfl ?_
      refine g_getI (q := 51) (N := 0) ok dX10_readsWalk_48 rfl fl_X10_212 sM_0 rfl ?_
      refine g_aload_n (q := 52) ok dX10_readsWalk_51 rfl 0 rfl rfl ?_
      refine g_getI (q := 55) (N := 0) ok dX10_readsWalk_52 rfl fl_X10_209 sM_0 rfl ?_
      refine g_iast (q := 56) ok dX10_readsWalk_55 rfl sM_13 ?_
      refine g_letw (fun w5 => ?_)
      refine g_aload_n (q := 57) ok dX10_readsWalk_56 rfl 0 rfl rfl ?_
      refine g_bipush (v := (nI 64)) (q := 59) ok dX10_readsWalk_57 rfl (by decide) ?_
      refine g_callVi (q := 62) (As := [.int (nI 64)]) (st := []) ok tbl_good dX10_readsWalk_59 rfl (kX10_takes _ _) cf_X10_218 ⟨rfl, rfl, Nat.le_of_ble_eq_true rfl, Nat.le_of_ble_eq_true rfl⟩ sM_0 rfl rfl rfl (fun _ => Nat.le_of_ble_eq_true rfl) (fun v6 w7 => ?_)
      refine g_if_eq (q := 65) (g := 74) ok dX10_readsWalk_62 rfl (by decide) ?_ ?_
      · refine g_iconst (v := (nI 0)) (q := 75) ok dX10_readsWalk_74 rfl (by decide) ?_
        exact g_zret ok dX10_readsWalk_75 rfl
      · refine g_aload_n (q := 66) ok dX10_readsWalk_65 rfl 0 rfl rfl ?_
        refine g_bipush (v := (nI 6)) (q := 68) ok dX10_readsWalk_66 rfl (by decide) ?_
        refine g_callVi (q := 71) (As := [.int (nI 6)]) (st := []) ok tbl_good dX10_readsWalk_68 rfl (kX10_readsOne _ _) cf_X10_215 ⟨rfl, rfl, Nat.le_of_ble_eq_true rfl, Nat.le_of_ble_eq_true rfl⟩ sM_0 rfl rfl rfl (fun _ => Nat.le_of_ble_eq_true rfl) (fun v8 w9 => ?_)
        refine g_if_ne (q := 74) (g := 76) ok dX10_readsWalk_71 rfl (by decide) ?_ ?_
        · refine g_aload_n (q := 77) ok dX10_readsWalk_76 rfl 0 rfl rfl ?_
          refine g_getR (q := 80) ok dX10_readsWalk_77 rfl fl_X10_50 sM_0 rfl ?_
          refine g_aload_n (q := 81) ok dX10_readsWalk_80 rfl 0 rfl rfl ?_
          refine g_getI (q := 84) (N := 0) ok dX10_readsWalk_81 rfl fl_X10_212 sM_0 rfl ?_
          refine g_aload_n (q := 85) ok dX10_readsWalk_84 rfl 0 rfl rfl ?_
          refine g_getI (q := 88) (N := 0) ok dX10_readsWalk_85 rfl fl_X10_209 sM_0 rfl ?_
          refine g_iast (q := 89) ok dX10_readsWalk_88 rfl sM_14 ?_
          refine g_letw (fun w10 => ?_)
          refine g_aload_n (q := 90) ok dX10_readsWalk_89 rfl 0 rfl rfl ?_
          refine g_bipush (v := (nI 45)) (q := 92) ok dX10_readsWalk_90 rfl (by decide) ?_
          refine g_callVi (q := 95) (As := [.int (nI 45)]) (st := []) ok tbl_good dX10_readsWalk_92 rfl (kX10_takes _ _) cf_X10_218 ⟨rfl, rfl, Nat.le_of_ble_eq_true rfl, Nat.le_of_ble_eq_true rfl⟩ sM_0 rfl rfl rfl (fun _ => Nat.le_of_ble_eq_true rfl) (fun v11 w12 => ?_)
          refine g_if_eq (q := 98) (g := 105) ok dX10_readsWalk_95 rfl (by decide) ?_ ?_
          · refine g_iconst (v := (nI 0)) (q := 106) ok dX10_readsWalk_105 rfl (by decide) ?_
            exact g_zret ok dX10_readsWalk_106 rfl
          · refine g_aload_n (q := 99) ok dX10_readsWalk_98 rfl 0 rfl rfl ?_
            refine g_callVi (q := 102) (As := []) (st := []) ok tbl_good dX10_readsWalk_99 rfl (kX10_readsRoom N _) cf_X10_221 ⟨rfl, rfl, Nat.le_of_ble_eq_true rfl, Nat.le_of_ble_eq_true rfl⟩ sM_0 rfl rfl rfl (fun _ => Nat.le_of_ble_eq_true rfl) (fun v13 w14 => ?_)
            refine g_if_ne (q := 105) (g := 107) ok dX10_readsWalk_102 rfl (by decide) ?_ ?_
            · refine g_join (P := fun k15 => ∀ (v16 : Int32) (v17 : Int32) (w18 : gT), gJ S2 cl2 rmX10_readsWalk 1 gi κ 142 [(0, .ref 0)] [.int v17, .int v16, .ref 17] w18 (k15 v16 v17 w18)) (fun v16 v17 w18 => ?_) (fun k15 hk15 => ?_)
              · refine g_join (P := fun k19 => ∀ (w20 : gT), gJ S2 cl2 rmX10_readsWalk 1 gi κ 162 [(0, .ref 0)] [] w20 (k19 w20)) (fun w20 => ?_) (fun k19 hk19 => ?_)
                · refine g_aload_n (q := 163) ok dX10_readsWalk_162 rfl 0 rfl rfl ?_
                  refine g_aload_n (q := 164) ok dX10_readsWalk_163 rfl 0 rfl rfl ?_
                  refine g_getI (q := 167) (N := 0) ok dX10_readsWalk_164 rfl fl_X10_212 sM_0 rfl ?_
                  refine g_iconst (v := (nI 1)) (q := 168) ok dX10_readsWalk_167 rfl (by decide) ?_
                  refine g_iadd (q := 169) ok dX10_readsWalk_168 rfl ?_
                  refine g_put (q := 172) ok dX10_readsWalk_169 rfl fp_X10_212 sM_0 rfl rfl rfl ?_
                  refine g_letw (fun w21 => ?_)
                  refine g_iconst (v := (nI 1)) (q := 173) ok dX10_readsWalk_172 rfl (by decide) ?_
                  exact g_zret ok dX10_readsWalk_173 rfl
                · refine g_zast (q := 143) ok dX10_readsWalk_142 rfl sM_17 ?_
                  refine g_letw (fun w22 => ?_)
                  refine g_aload_n (q := 144) ok dX10_readsWalk_143 rfl 0 rfl rfl ?_
                  refine g_callVi (q := 147) (As := []) (st := []) ok tbl_good dX10_readsWalk_144 rfl (kX10_here _) cf_X10_199 ⟨rfl, rfl, Nat.le_of_ble_eq_true rfl, Nat.le_of_ble_eq_true rfl⟩ sM_0 rfl rfl rfl (fun _ => Nat.le_of_ble_eq_true rfl) (fun v23 w24 => ?_)
                  refine g_bipush (v := (nI 43)) (q := 149) ok dX10_readsWalk_147 rfl (by decide) ?_
                  refine g_icmp_ne (q := 152) (g := 162) ok dX10_readsWalk_149 rfl (by decide) ?_ ?_
                  · exact hk19 _
                  · refine g_aload_n (q := 153) ok dX10_readsWalk_152 rfl 0 rfl rfl ?_
                    refine g_aload_n (q := 154) ok dX10_readsWalk_153 rfl 0 rfl rfl ?_
                    refine g_getI (q := 157) (N := 0) ok dX10_readsWalk_154 rfl fl_X10_203 sM_0 rfl ?_
                    refine g_iconst (v := (nI 1)) (q := 158) ok dX10_readsWalk_157 rfl (by decide) ?_
                    refine g_iadd (q := 159) ok dX10_readsWalk_158 rfl ?_
                    refine g_put (q := 162) ok dX10_readsWalk_159 rfl fp_X10_203 sM_0 rfl rfl rfl ?_
                    refine g_letw (fun w25 => ?_)
                    exact hk19 _
              · refine g_aload_n (q := 108) ok dX10_readsWalk_107 rfl 0 rfl rfl ?_
                refine g_getR (q := 111) ok dX10_readsWalk_108 rfl fl_X10_53 sM_0 rfl ?_
                refine g_aload_n (q := 112) ok dX10_readsWalk_111 rfl 0 rfl rfl ?_
                refine g_getI (q := 115) (N := 0) ok dX10_readsWalk_112 rfl fl_X10_212 sM_0 rfl ?_
                refine g_aload_n (q := 116) ok dX10_readsWalk_115 rfl 0 rfl rfl ?_
                refine g_getI (q := 119) (N := 0) ok dX10_readsWalk_116 rfl fl_X10_209 sM_0 rfl ?_
                refine g_iast (q := 120) ok dX10_readsWalk_119 rfl sM_15 ?_
                refine g_letw (fun w26 => ?_)
                refine g_aload_n (q := 121) ok dX10_readsWalk_120 rfl 0 rfl rfl ?_
                refine g_getR (q := 124) ok dX10_readsWalk_121 rfl fl_X10_60 sM_0 rfl ?_
                refine g_aload_n (q := 125) ok dX10_readsWalk_124 rfl 0 rfl rfl ?_
                refine g_getI (q := 128) (N := 0) ok dX10_readsWalk_125 rfl fl_X10_212 sM_0 rfl ?_
                refine g_aload_n (q := 129) ok dX10_readsWalk_128 rfl 0 rfl rfl ?_
                refine g_callVi (q := 132) (As := []) (st := [.int (w26.1 0 20), .ref 17]) ok tbl_good dX10_readsWalk_129 rfl (kX10_here _) cf_X10_199 ⟨rfl, rfl, Nat.le_of_ble_eq_true rfl, Nat.le_of_ble_eq_true rfl⟩ sM_0 rfl rfl rfl (fun _ => Nat.le_of_ble_eq_true rfl) (fun v27 w28 => ?_)
                refine g_bipush (v := (nI 43)) (q := 134) ok dX10_readsWalk_132 rfl (by decide) ?_
                refine g_icmp_ne (q := 137) (g := 141) ok dX10_readsWalk_134 rfl (by decide) ?_ ?_
                · refine g_iconst (v := (nI 0)) (q := 142) ok dX10_readsWalk_141 rfl (by decide) ?_
                  exact hk15 _ _ _
                · refine g_iconst (v := (nI 1)) (q := 138) ok dX10_readsWalk_137 rfl (by decide) ?_
                  refine g_goto (q := 142) ok dX10_readsWalk_138 (by decide) ?_
                  exact hk15 _ _ _
            · refine g_iconst (v := (nI 0)) (q := 106) ok dX10_readsWalk_105 rfl (by decide) ?_
              exact g_zret ok dX10_readsWalk_106 rfl
        · refine g_iconst (v := (nI 0)) (q := 75) ok dX10_readsWalk_74 rfl (by decide) ?_
          exact g_zret ok dX10_readsWalk_75 rfl
    · refine g_aload_n (q := 27) ok dX10_readsWalk_26 rfl 0 rfl rfl ?_
      refine g_iconst (v := (nI 4)) (q := 28) ok dX10_readsWalk_27 rfl (by decide) ?_
      refine g_aload_n (q := 29) ok dX10_readsWalk_28 rfl 0 rfl rfl ?_
      refine g_getI (q := 32) (N := 0) ok dX10_readsWalk_29 rfl fl_X10_203 sM_0 rfl ?_
      refine g_callVi (q := 35) (As := [.int (nI 4), .int (w2.1 0 15)]) (st := []) ok tbl_good dX10_readsWalk_32 rfl (kX10_wrongAt _ _ _) cf_X10_206 ⟨rfl, rfl, Nat.le_of_ble_eq_true rfl, Nat.le_of_ble_eq_true rfl⟩ sM_0 rfl rfl rfl (fun _ => Nat.le_of_ble_eq_true rfl) (fun v29 w30 => ?_)
      exact g_zretv ok dX10_readsWalk_35
  · refine g_aload_n (q := 8) ok dX10_readsWalk_7 rfl 0 rfl rfl ?_
    refine g_iconst (v := (nI 1)) (q := 9) ok dX10_readsWalk_8 rfl (by decide) ?_
    refine g_aload_n (q := 10) ok dX10_readsWalk_9 rfl 0 rfl rfl ?_
    refine g_getI (q := 13) (N := 0) ok dX10_readsWalk_10 rfl fl_X10_203 sM_0 rfl ?_
    refine g_callVi (q := 16) (As := [.int (nI 1), .int (w2.1 0 15)]) (st := []) ok tbl_good dX10_readsWalk_13 rfl (kX10_wrongAt _ _ _) cf_X10_206 ⟨rfl, rfl, Nat.le_of_ble_eq_true rfl, Nat.le_of_ble_eq_true rfl⟩ sM_0 rfl rfl rfl (fun _ => Nat.le_of_ble_eq_true rfl) (fun v31 w32 => ?_)
    exact g_zretv ok dX10_readsWalk_16
set_option maxRecDepth 20000 in
theorem kX10_rota (N : Nat) (a1 : Int32) (w : gT) : gM S2 cl2 gTs yX10_rota cX10_rota 4 (some .int) rmX10_rota gi [.ref 0, .int a1] w (xX10_rota N a1 w) := by
  refine gM_of (own := RX10) [(0, .ref 0), (1, .int a1)] rfl (by decide) (fun _ => rfl) (fun _ => Nat.le_of_ble_eq_true rfl) (fun κ ok => ?_)
  unfold xX10_rota
  refine g_iload_n (q := 1) ok dX10_rota_0 rfl 1 rfl rfl ?_
  refine g_iconst (v := (nI 1)) (q := 2) ok dX10_rota_1 rfl (by decide) ?_
  refine g_sipush (v := (nI 160)) (q := 5) ok dX10_rota_2 rfl (by decide) ?_
  refine g_callSi (q := 8) (As := [.int a1, .int (nI 1), .int (nI 160)]) (st := []) ok tbl_good dX10_rota_5 rfl (kX10_in _ _ _ _) cf_X10_175 ⟨rfl, rfl, Nat.le_of_ble_eq_true rfl, Nat.le_of_ble_eq_true rfl⟩ rfl rfl (fun _ => Nat.le_of_ble_eq_true rfl) (fun v1 w2 => ?_)
  refine g_if_eq (q := 11) (g := 19) ok dX10_rota_8 rfl (by decide) ?_ ?_
  · refine g_iconst (v := (-1)) (q := 20) ok dX10_rota_19 rfl (by decide) ?_
    exact g_iret ok dX10_rota_20
  · refine g_iload_n (q := 12) ok dX10_rota_11 rfl 1 rfl rfl ?_
    refine g_aload_n (q := 13) ok dX10_rota_12 rfl 0 rfl rfl ?_
    refine g_getI (q := 16) (N := 0) ok dX10_rota_13 rfl fl_X10_188 sM_0 rfl ?_
    refine g_icmp_le (q := 19) (g := 21) ok dX10_rota_16 rfl (by decide) ?_ ?_
    · refine g_aload_n (q := 22) ok dX10_rota_21 rfl 0 rfl rfl ?_
      refine g_iconst (v := (nI 0)) (q := 23) ok dX10_rota_22 rfl (by decide) ?_
      refine g_put (q := 26) ok dX10_rota_23 rfl fp_X10_203 sM_0 rfl rfl rfl ?_
      refine g_letw (fun w3 => ?_)
      refine g_aload_n (q := 27) ok dX10_rota_26 rfl 0 rfl rfl ?_
      refine g_iload_n (q := 28) ok dX10_rota_27 rfl 1 rfl rfl ?_
      refine g_put (q := 31) ok dX10_rota_28 rfl fp_X10_224 sM_0 rfl rfl rfl ?_
      refine g_letw (fun w4 => ?_)
      refine g_aload_n (q := 32) ok dX10_rota_31 rfl 0 rfl rfl ?_
      refine g_iconst (v := (nI 0)) (q := 33) ok dX10_rota_32 rfl (by decide) ?_
      refine g_put (q := 36) ok dX10_rota_33 rfl fp_X10_212 sM_0 rfl rfl rfl ?_
      refine g_letw (fun w5 => ?_)
      refine g_aload_n (q := 37) ok dX10_rota_36 rfl 0 rfl rfl ?_
      refine g_callVi (q := 40) (As := []) (st := []) ok tbl_good dX10_rota_37 rfl (kX10_readsWalk N _) cf_X10_227 ⟨rfl, rfl, Nat.le_of_ble_eq_true rfl, Nat.le_of_ble_eq_true rfl⟩ sM_0 rfl rfl rfl (fun _ => Nat.le_of_ble_eq_true rfl) (fun v6 w7 => ?_)
      refine g_istore_n (q := 41) (L' := [(2, .int v6), (0, .ref 0), (1, .int a1)]) ok dX10_rota_40 rfl rfl (by decide) rfl rfl ?_
      refine g_join (P := fun k8 => ∀ (v9 : Int32) (w10 : gT), gJ S2 cl2 rmX10_rota 4 gi κ 81 [(0, .ref 0), (2, .int v9)] [] w10 (k8 v9 w10)) (fun v9 w10 => ?_) (fun k8 hk8 => ?_)
      · refine g_aload_n (q := 82) ok dX10_rota_81 rfl 0 rfl rfl ?_
        refine g_iconst (v := (nI 0)) (q := 83) ok dX10_rota_82 rfl (by decide) ?_
        refine g_put (q := 86) ok dX10_rota_83 rfl fp_X10_188 sM_0 rfl rfl rfl ?_
        refine g_letw (fun w11 => ?_)
        refine g_iload_n (q := 87) ok dX10_rota_86 rfl 1 rfl rfl ?_
        refine g_if_ne (q := 90) (g := 95) ok dX10_rota_87 rfl (by decide) ?_ ?_
        · refine g_aload_n (q := 96) ok dX10_rota_95 rfl 0 rfl rfl ?_
          refine g_aload_n (q := 97) ok dX10_rota_96 rfl 0 rfl rfl ?_
          refine g_getI (q := 100) (N := 0) ok dX10_rota_97 rfl fl_X10_212 sM_0 rfl ?_
          refine g_put (q := 103) ok dX10_rota_100 rfl fp_X10_233 sM_0 rfl rfl rfl ?_
          refine g_letw (fun w12 => ?_)
          refine g_iconst (v := (nI 0)) (q := 104) ok dX10_rota_103 rfl (by decide) ?_
          refine g_istore_n (q := 105) (L' := [(3, .int (nI 0)), (0, .ref 0), (2, .int v9)]) ok dX10_rota_104 rfl rfl (by decide) rfl rfl ?_
          refine g_to (L' := [(0, .ref 0), (3, .int (nI 0))]) ?_ [1, 0] rfl
          refine g_loop1 (Lf := fun v14 => [(0, .ref 0), (3, .int v14)]) (fun go13 hgo13 v14 w15 => ?_) N _ _
          unfold xX10_rota_b105
          refine g_iload_n (q := 106) ok dX10_rota_105 rfl 1 rfl rfl ?_
          refine g_aload_n (q := 107) ok dX10_rota_106 rfl 0 rfl rfl ?_
          refine g_getI (q := 110) (N := 0) ok dX10_rota_107 rfl fl_X10_233 sM_0 rfl ?_
          refine g_icmp_ge (q := 113) (g := 167) ok dX10_rota_110 rfl (by decide) ?_ ?_
          · refine g_aload_n (q := 168) ok dX10_rota_167 rfl 0 rfl rfl ?_
            refine g_getI (q := 171) (N := 0) ok dX10_rota_168 rfl fl_X10_233 sM_0 rfl ?_
            exact g_iret ok dX10_rota_171
          · refine g_aload_n (q := 114) ok dX10_rota_113 rfl 0 rfl rfl ?_
            refine g_getR (q := 117) ok dX10_rota_114 rfl fl_X10_38 sM_0 rfl ?_
            refine g_iload_n (q := 118) ok dX10_rota_117 rfl 1 rfl rfl ?_
            refine g_aload_n (q := 119) ok dX10_rota_118 rfl 0 rfl rfl ?_
            refine g_getR (q := 122) ok dX10_rota_119 rfl fl_X10_47 sM_0 rfl ?_
            refine g_iload_n (q := 123) ok dX10_rota_122 rfl 1 rfl rfl ?_
            refine g_iald (q := 124) ok dX10_rota_123 rfl sM_13 ?_
            refine g_iast (q := 125) ok dX10_rota_124 rfl sM_10 ?_
            refine g_letw (fun w16 => ?_)
            refine g_aload_n (q := 126) ok dX10_rota_125 rfl 0 rfl rfl ?_
            refine g_getR (q := 129) ok dX10_rota_126 rfl fl_X10_41 sM_0 rfl ?_
            refine g_iload_n (q := 130) ok dX10_rota_129 rfl 1 rfl rfl ?_
            refine g_aload_n (q := 131) ok dX10_rota_130 rfl 0 rfl rfl ?_
            refine g_getR (q := 134) ok dX10_rota_131 rfl fl_X10_50 sM_0 rfl ?_
            refine g_iload_n (q := 135) ok dX10_rota_134 rfl 1 rfl rfl ?_
            refine g_iald (q := 136) ok dX10_rota_135 rfl sM_14 ?_
            refine g_iast (q := 137) ok dX10_rota_136 rfl sM_11 ?_
            refine g_letw (fun w17 => ?_)
            refine g_aload_n (q := 138) ok dX10_rota_137 rfl 0 rfl rfl ?_
            refine g_getR (q := 141) ok dX10_rota_138 rfl fl_X10_44 sM_0 rfl ?_
            refine g_iload_n (q := 142) ok dX10_rota_141 rfl 1 rfl rfl ?_
            refine g_aload_n (q := 143) ok dX10_rota_142 rfl 0 rfl rfl ?_
            refine g_getR (q := 146) ok dX10_rota_143 rfl fl_X10_53 sM_0 rfl ?_
            refine g_iload_n (q := 147) ok dX10_rota_146 rfl 1 rfl rfl ?_
            refine g_iald (q := 148) ok dX10_rota_147 rfl sM_15 ?_
            refine g_iast (q := 149) ok dX10_rota_148 rfl sM_12 ?_
            refine g_letw (fun w18 => ?_)
            refine g_aload_n (q := 150) ok dX10_rota_149 rfl 0 rfl rfl ?_
            refine g_getR (q := 153) ok dX10_rota_150 rfl fl_X10_56 sM_0 rfl ?_
            refine g_iload_n (q := 154) ok dX10_rota_153 rfl 1 rfl rfl ?_
            refine g_aload_n (q := 155) ok dX10_rota_154 rfl 0 rfl rfl ?_
            refine g_getR (q := 158) ok dX10_rota_155 rfl fl_X10_60 sM_0 rfl ?_
            refine g_iload_n (q := 159) ok dX10_rota_158 rfl 1 rfl rfl ?_
            refine g_zald (q := 160) ok dX10_rota_159 rfl sM_17 ?_
            refine g_zast (q := 161) ok dX10_rota_160 rfl sM_16 ?_
            refine g_letw (fun w19 => ?_)
            refine g_iinc (v := v14 + (nI 1)) (q := 164) (L' := [(3, .int (v14 + (nI 1))), (0, .ref 0)]) ok dX10_rota_161 rfl 1 rfl rfl (by decide) rfl rfl ?_
            refine g_goto (q := 105) ok dX10_rota_164 (by decide) ?_
            refine g_to (L' := [(0, .ref 0), (3, .int (v14 + (nI 1)))]) ?_ [1, 0] rfl
            exact hgo13 _ _
        · refine g_aload_n (q := 91) ok dX10_rota_90 rfl 0 rfl rfl ?_
          refine g_getI (q := 94) (N := 0) ok dX10_rota_91 rfl fl_X10_230 sM_0 rfl ?_
          exact g_iret ok dX10_rota_94
      · refine g_to (L' := [(0, .ref 0), (2, .int v6)]) ?_ [1, 0] rfl
        refine g_loop1 (Lf := fun v21 => [(0, .ref 0), (2, .int v21)]) (fun go20 hgo20 v21 w22 => ?_) N _ _
        unfold xX10_rota_b41
        refine g_iload_n (q := 42) ok dX10_rota_41 rfl 1 rfl rfl ?_
        refine g_if_eq (q := 45) (g := 81) ok dX10_rota_42 rfl (by decide) ?_ ?_
        · exact hk8 _ _
        · refine g_aload_n (q := 46) ok dX10_rota_45 rfl 0 rfl rfl ?_
          refine g_getI (q := 49) (N := 0) ok dX10_rota_46 rfl fl_X10_203 sM_0 rfl ?_
          refine g_aload_n (q := 50) ok dX10_rota_49 rfl 0 rfl rfl ?_
          refine g_getI (q := 53) (N := 0) ok dX10_rota_50 rfl fl_X10_224 sM_0 rfl ?_
          refine g_icmp_ge (q := 56) (g := 81) ok dX10_rota_53 rfl (by decide) ?_ ?_
          · exact hk8 _ _
          · refine g_join (P := fun k23 => ∀ (v24 : Int32) (w25 : gT), gJ S2 cl2 rmX10_rota 4 gi κ 77 [(0, .ref 0)] [.int v24] w25 (k23 v24 w25)) (fun v24 w25 => ?_) (fun k23 hk23 => ?_)
            · refine g_istore_n (q := 78) (L' := [(2, .int v24), (0, .ref 0)]) ok dX10_rota_77 rfl rfl (by decide) rfl rfl ?_
              refine g_goto (q := 41) ok dX10_rota_78 (by decide) ?_
              refine g_to (L' := [(0, .ref 0), (2, .int v24)]) ?_ [1, 0] rfl
              exact hgo20 _ _
            · refine g_join (P := fun k26 => ∀ (w27 : gT), gJ S2 cl2 rmX10_rota 4 gi κ 76 [(0, .ref 0)] [] w27 (k26 w27)) (fun w27 => ?_) (fun k26 hk26 => ?_)
              · refine g_iconst (v := (nI 0)) (q := 77) ok dX10_rota_76 rfl (by decide) ?_
                exact hk23 _ _
              · refine g_aload_n (q := 57) ok dX10_rota_56 rfl 0 rfl rfl ?_
                refine g_bipush (v := (nI 59)) (q := 59) ok dX10_rota_57 rfl (by decide) ?_
                refine g_callVi (q := 62) (As := [.int (nI 59)]) (st := []) ok tbl_good dX10_rota_59 rfl (kX10_takes _ _) cf_X10_218 ⟨rfl, rfl, Nat.le_of_ble_eq_true rfl, Nat.le_of_ble_eq_true rfl⟩ sM_0 rfl rfl rfl (fun _ => Nat.le_of_ble_eq_true rfl) (fun v28 w29 => ?_)
                refine g_if_eq (q := 65) (g := 76) ok dX10_rota_62 rfl (by decide) ?_ ?_
                · refine g_to (L' := [(0, .ref 0)]) ?_ [0] rfl
                  exact hk26 _
                · refine g_aload_n (q := 66) ok dX10_rota_65 rfl 0 rfl rfl ?_
                  refine g_callVi (q := 69) (As := []) (st := []) ok tbl_good dX10_rota_66 rfl (kX10_readsWalk N _) cf_X10_227 ⟨rfl, rfl, Nat.le_of_ble_eq_true rfl, Nat.le_of_ble_eq_true rfl⟩ sM_0 rfl rfl rfl (fun _ => Nat.le_of_ble_eq_true rfl) (fun v30 w31 => ?_)
                  refine g_if_eq (q := 72) (g := 76) ok dX10_rota_69 rfl (by decide) ?_ ?_
                  · refine g_to (L' := [(0, .ref 0)]) ?_ [0] rfl
                    exact hk26 _
                  · refine g_iconst (v := (nI 1)) (q := 73) ok dX10_rota_72 rfl (by decide) ?_
                    refine g_goto (q := 77) ok dX10_rota_73 (by decide) ?_
                    refine g_to (L' := [(0, .ref 0)]) ?_ [0] rfl
                    exact hk23 _ _
    · refine g_iconst (v := (-1)) (q := 20) ok dX10_rota_19 rfl (by decide) ?_
      exact g_iret ok dX10_rota_20
set_option maxRecDepth 20000 in
theorem kX10_isGhost (a1 : Int32) (w : gT) : gM S2 cl2 gTs yX10_isGhost cX10_isGhost 2 (some .boolean) rmX10_isGhost gi [.ref 0, .int a1] w (xX10_isGhost a1 w) := by
  refine gM_of (own := RX10) [(0, .ref 0), (1, .int a1)] rfl (by decide) (fun _ => rfl) (fun _ => Nat.le_of_ble_eq_true rfl) (fun κ ok => ?_)
  unfold xX10_isGhost
  refine g_iload_n (q := 1) ok dX10_isGhost_0 rfl 1 rfl rfl ?_
  refine g_if_lt (q := 4) (g := 25) ok dX10_isGhost_1 rfl (by decide) ?_ ?_
  · refine g_iconst (v := (nI 0)) (q := 26) ok dX10_isGhost_25 rfl (by decide) ?_
    exact g_zret ok dX10_isGhost_26 rfl
  · refine g_iload_n (q := 5) ok dX10_isGhost_4 rfl 1 rfl rfl ?_
    refine g_bipush (v := (nI 10)) (q := 7) ok dX10_isGhost_5 rfl (by decide) ?_
    refine g_icmp_ge (q := 10) (g := 25) ok dX10_isGhost_7 rfl (by decide) ?_ ?_
    · refine g_iconst (v := (nI 0)) (q := 26) ok dX10_isGhost_25 rfl (by decide) ?_
      exact g_zret ok dX10_isGhost_26 rfl
    · refine g_aload_n (q := 11) ok dX10_isGhost_10 rfl 0 rfl rfl ?_
      refine g_getI (q := 14) (N := 0) ok dX10_isGhost_11 rfl fl_X10_168 sM_0 rfl ?_
      refine g_iload_n (q := 15) ok dX10_isGhost_14 rfl 1 rfl rfl ?_
      refine g_callSi (q := 18) (As := [.int (w.1 0 4), .int a1]) (st := []) ok tbl_good dX10_isGhost_15 rfl (kX10_has _ _ _) cf_X10_164 ⟨rfl, rfl, Nat.le_of_ble_eq_true rfl, Nat.le_of_ble_eq_true rfl⟩ rfl rfl (fun _ => Nat.le_of_ble_eq_true rfl) (fun v1 w2 => ?_)
      refine g_if_eq (q := 21) (g := 25) ok dX10_isGhost_18 rfl (by decide) ?_ ?_
      · refine g_iconst (v := (nI 0)) (q := 26) ok dX10_isGhost_25 rfl (by decide) ?_
        exact g_zret ok dX10_isGhost_26 rfl
      · refine g_iconst (v := (nI 1)) (q := 22) ok dX10_isGhost_21 rfl (by decide) ?_
        refine g_goto (q := 26) ok dX10_isGhost_22 (by decide) ?_
        exact g_zret ok dX10_isGhost_26 rfl
set_option maxRecDepth 20000 in
theorem kX10_counts (N : Nat) (a1 : Int32) (w : gT) : gM S2 cl2 gTs yX10_counts cX10_counts 3 (some .boolean) rmX10_counts gi [.ref 0, .int a1] w (xX10_counts N a1 w) := by
  refine gM_of (own := RX10) [(0, .ref 0), (1, .int a1)] rfl (by decide) (fun _ => rfl) (fun _ => Nat.le_of_ble_eq_true rfl) (fun κ ok => ?_)
  unfold xX10_counts
  refine g_aload_n (q := 1) ok dX10_counts_0 rfl 0 rfl rfl ?_
  refine g_aload_n (q := 2) ok dX10_counts_1 rfl 0 rfl rfl ?_
  refine g_getR (q := 5) ok dX10_counts_2 rfl fl_X10_38 sM_0 rfl ?_
  refine g_iload_n (q := 6) ok dX10_counts_5 rfl 1 rfl rfl ?_
  refine g_iald (q := 7) ok dX10_counts_6 rfl sM_10 ?_
  refine g_callVi (q := 10) (As := [.int (w.1 10 a1.toNatClampNeg)]) (st := []) ok tbl_good dX10_counts_7 rfl (kX10_isGhost _ _) cf_X10_236 ⟨rfl, rfl, Nat.le_of_ble_eq_true rfl, Nat.le_of_ble_eq_true rfl⟩ sM_0 rfl rfl rfl (fun _ => Nat.le_of_ble_eq_true rfl) (fun v1 w2 => ?_)
  refine g_if_ne (q := 13) (g := 15) ok dX10_counts_10 rfl (by decide) ?_ ?_
  · refine g_iconst (v := (nI 0)) (q := 16) ok dX10_counts_15 rfl (by decide) ?_
    refine g_istore_n (q := 17) (L' := [(2, .int (nI 0)), (0, .ref 0), (1, .int a1)]) ok dX10_counts_16 rfl rfl (by decide) rfl rfl ?_
    refine g_to (L' := [(0, .ref 0), (1, .int a1), (2, .int (nI 0))]) ?_ [1, 2, 0] rfl
    refine g_loop1 (Lf := fun v4 => [(0, .ref 0), (1, .int a1), (2, .int v4)]) (fun go3 hgo3 v4 w5 => ?_) N _ _
    unfold xX10_counts_b17
    refine g_iload_n (q := 18) ok dX10_counts_17 rfl 2 rfl rfl ?_
    refine g_iload_n (q := 19) ok dX10_counts_18 rfl 1 rfl rfl ?_
    refine g_icmp_ge (q := 22) (g := 60) ok dX10_counts_19 rfl (by decide) ?_ ?_
    · refine g_iconst (v := (nI 1)) (q := 61) ok dX10_counts_60 rfl (by decide) ?_
      exact g_zret ok dX10_counts_61 rfl
    · refine g_join (P := fun k6 => ∀ (w7 : gT), gJ S2 cl2 rmX10_counts 3 gi κ 54 [(0, .ref 0), (1, .int a1), (2, .int v4)] [] w7 (k6 w7)) (fun w7 => ?_) (fun k6 hk6 => ?_)
      · refine g_iinc (v := v4 + (nI 1)) (q := 57) (L' := [(2, .int (v4 + (nI 1))), (0, .ref 0), (1, .int a1)]) ok dX10_counts_54 rfl 2 rfl rfl (by decide) rfl rfl ?_
        refine g_goto (q := 17) ok dX10_counts_57 (by decide) ?_
        refine g_to (L' := [(0, .ref 0), (1, .int a1), (2, .int (v4 + (nI 1)))]) ?_ [1, 2, 0] rfl
        exact hgo3 _ _
      · refine g_aload_n (q := 23) ok dX10_counts_22 rfl 0 rfl rfl ?_
        refine g_getR (q := 26) ok dX10_counts_23 rfl fl_X10_38 sM_0 rfl ?_
        refine g_iload_n (q := 27) ok dX10_counts_26 rfl 2 rfl rfl ?_
        refine g_iald (q := 28) ok dX10_counts_27 rfl sM_10 ?_
        refine g_aload_n (q := 29) ok dX10_counts_28 rfl 0 rfl rfl ?_
        refine g_getR (q := 32) ok dX10_counts_29 rfl fl_X10_38 sM_0 rfl ?_
        refine g_iload_n (q := 33) ok dX10_counts_32 rfl 1 rfl rfl ?_
        refine g_iald (q := 34) ok dX10_counts_33 rfl sM_10 ?_
        refine g_icmp_ne (q := 37) (g := 54) ok dX10_counts_34 rfl (by decide) ?_ ?_
        · exact hk6 _
        · refine g_aload_n (q := 38) ok dX10_counts_37 rfl 0 rfl rfl ?_
          refine g_getR (q := 41) ok dX10_counts_38 rfl fl_X10_41 sM_0 rfl ?_
          refine g_iload_n (q := 42) ok dX10_counts_41 rfl 2 rfl rfl ?_
          refine g_iald (q := 43) ok dX10_counts_42 rfl sM_11 ?_
          refine g_aload_n (q := 44) ok dX10_counts_43 rfl 0 rfl rfl ?_
          refine g_getR (q := 47) ok dX10_counts_44 rfl fl_X10_41 sM_0 rfl ?_
          refine g_iload_n (q := 48) ok dX10_counts_47 rfl 1 rfl rfl ?_
          refine g_iald (q := 49) ok dX10_counts_48 rfl sM_11 ?_
          refine g_icmp_ne (q := 52) (g := 54) ok dX10_counts_49 rfl (by decide) ?_ ?_
          · exact hk6 _
          · refine g_iconst (v := (nI 0)) (q := 53) ok dX10_counts_52 rfl (by decide) ?_
            exact g_zret ok dX10_counts_53 rfl
  · refine g_iconst (v := (nI 0)) (q := 14) ok dX10_counts_13 rfl (by decide) ?_
    exact g_zret ok dX10_counts_14 rfl
set_option maxRecDepth 20000 in
theorem kX10_walk (N : Nat) (a1 : Int32) (a2 : Int32) (w : gT) : gM S2 cl2 gTs yX10_walk cX10_walk 3 (some .int) rmX10_walk gi [.ref 0, .int a1, .int a2] w (xX10_walk N a1 a2 w) := by
  refine gM_of (own := RX10) [(0, .ref 0), (1, .int a1), (2, .int a2)] rfl (by decide) (fun _ => rfl) (fun _ => Nat.le_of_ble_eq_true rfl) (fun κ ok => ?_)
  unfold xX10_walk
  refine g_iload_n (q := 1) ok dX10_walk_0 rfl 1 rfl rfl ?_
  refine g_if_lt (q := 4) (g := 12) ok dX10_walk_1 rfl (by decide) ?_ ?_
  · refine g_iconst (v := (-1)) (q := 13) ok dX10_walk_12 rfl (by decide) ?_
    exact g_iret ok dX10_walk_13
  · refine g_iload_n (q := 5) ok dX10_walk_4 rfl 1 rfl rfl ?_
    refine g_aload_n (q := 6) ok dX10_walk_5 rfl 0 rfl rfl ?_
    refine g_getI (q := 9) (N := 0) ok dX10_walk_6 rfl fl_X10_233 sM_0 rfl ?_
    refine g_icmp_lt (q := 12) (g := 14) ok dX10_walk_9 rfl (by decide) ?_ ?_
    · refine g_iload_n (q := 15) ok dX10_walk_14 rfl 2 rfl rfl ?_
      refine g_if (fun h0 => ?_) (fun h0 => ?_)
      · refine g_tsIn (v := (nI 0)) (g := 48) ok dX10_walk_15 (by decide) (by decide) rfl (by decide) h0 ?_
        refine g_aload_n (q := 49) ok dX10_walk_48 rfl 0 rfl rfl ?_
        refine g_getR (q := 52) ok dX10_walk_49 rfl fl_X10_38 sM_0 rfl ?_
        refine g_iload_n (q := 53) ok dX10_walk_52 rfl 1 rfl rfl ?_
        refine g_iald (q := 54) ok dX10_walk_53 rfl sM_10 ?_
        exact g_iret ok dX10_walk_54
      · refine g_if (fun h1 => ?_) (fun h1 => ?_)
        · refine g_tsIn (v := (nI 1)) (g := 55) ok dX10_walk_15 (by decide) (by decide) rfl (by decide) h1 ?_
          refine g_aload_n (q := 56) ok dX10_walk_55 rfl 0 rfl rfl ?_
          refine g_getR (q := 59) ok dX10_walk_56 rfl fl_X10_41 sM_0 rfl ?_
          refine g_iload_n (q := 60) ok dX10_walk_59 rfl 1 rfl rfl ?_
          refine g_iald (q := 61) ok dX10_walk_60 rfl sM_11 ?_
          exact g_iret ok dX10_walk_61
        · refine g_if (fun h2 => ?_) (fun h2 => ?_)
          · refine g_tsIn (v := (nI 2)) (g := 62) ok dX10_walk_15 (by decide) (by decide) rfl (by decide) h2 ?_
            refine g_aload_n (q := 63) ok dX10_walk_62 rfl 0 rfl rfl ?_
            refine g_getR (q := 66) ok dX10_walk_63 rfl fl_X10_44 sM_0 rfl ?_
            refine g_iload_n (q := 67) ok dX10_walk_66 rfl 1 rfl rfl ?_
            refine g_iald (q := 68) ok dX10_walk_67 rfl sM_12 ?_
            exact g_iret ok dX10_walk_68
          · refine g_if (fun h3 => ?_) (fun h3 => ?_)
            · refine g_tsIn (v := (nI 3)) (g := 69) ok dX10_walk_15 (by decide) (by decide) rfl (by decide) h3 ?_
              refine g_aload_n (q := 70) ok dX10_walk_69 rfl 0 rfl rfl ?_
              refine g_getR (q := 73) ok dX10_walk_70 rfl fl_X10_56 sM_0 rfl ?_
              refine g_iload_n (q := 74) ok dX10_walk_73 rfl 1 rfl rfl ?_
              refine g_zald (q := 75) ok dX10_walk_74 rfl sM_16 ?_
              refine g_if_eq (q := 78) (g := 82) ok dX10_walk_75 rfl (by decide) ?_ ?_
              · refine g_iconst (v := (nI 0)) (q := 83) ok dX10_walk_82 rfl (by decide) ?_
                exact g_iret ok dX10_walk_83
              · refine g_iconst (v := (nI 1)) (q := 79) ok dX10_walk_78 rfl (by decide) ?_
                refine g_goto (q := 83) ok dX10_walk_79 (by decide) ?_
                exact g_iret ok dX10_walk_83
            · refine g_if (fun h4 => ?_) (fun h4 => ?_)
              · refine g_tsIn (v := (nI 4)) (g := 84) ok dX10_walk_15 (by decide) (by decide) rfl (by decide) h4 ?_
                refine g_aload_n (q := 85) ok dX10_walk_84 rfl 0 rfl rfl ?_
                refine g_iload_n (q := 86) ok dX10_walk_85 rfl 1 rfl rfl ?_
                refine g_callVi (q := 89) (As := [.int a1]) (st := []) ok tbl_good dX10_walk_86 rfl (kX10_counts N _ _) cf_X10_239 ⟨rfl, rfl, Nat.le_of_ble_eq_true rfl, Nat.le_of_ble_eq_true rfl⟩ sM_0 rfl rfl rfl (fun _ => Nat.le_of_ble_eq_true rfl) (fun v1 w2 => ?_)
                refine g_if_eq (q := 92) (g := 96) ok dX10_walk_89 rfl (by decide) ?_ ?_
                · refine g_iconst (v := (nI 0)) (q := 97) ok dX10_walk_96 rfl (by decide) ?_
                  exact g_iret ok dX10_walk_97
                · refine g_iconst (v := (nI 1)) (q := 93) ok dX10_walk_92 rfl (by decide) ?_
                  refine g_goto (q := 97) ok dX10_walk_93 (by decide) ?_
                  exact g_iret ok dX10_walk_97
              · refine g_tsOut (g := 98) ok dX10_walk_15 (by have e0 := lv_neT h0 (k := (nI 0)) (a := 0) (by decide); have e1 := lv_neT h1 (k := (nI 1)) (a := 1) (by decide); have e2 := lv_neT h2 (k := (nI 2)) (a := 2) (by decide); have e3 := lv_neT h3 (k := (nI 3)) (a := 3) (by decide); have e4 := lv_neT h4 (k := (nI 4)) (a := 4) (by decide); omega) (by decide) ?_
                refine g_iconst (v := (-1)) (q := 99) ok dX10_walk_98 rfl (by decide) ?_
                exact g_iret ok dX10_walk_99
    · refine g_iconst (v := (-1)) (q := 13) ok dX10_walk_12 rfl (by decide) ?_
      exact g_iret ok dX10_walk_13
set_option maxRecDepth 20000 in
theorem kX10_isClause (a0 : Int32) (w : gT) : gM S2 cl2 gTs yX10_isClause cX10_isClause 1 (some .boolean) rmX10_isClause gi [.int a0] w (xX10_isClause a0 w) := by
  refine gM_of (own := RX10) [(0, .int a0)] rfl (by decide) (fun _ => rfl) (fun _ => Nat.le_of_ble_eq_true rfl) (fun κ ok => ?_)
  unfold xX10_isClause
  refine g_iload_n (q := 1) ok dX10_isClause_0 rfl 0 rfl rfl ?_
  refine g_bipush (v := (nI 107)) (q := 3) ok dX10_isClause_1 rfl (by decide) ?_
  refine g_icmp_eq (q := 6) (g := 30) ok dX10_isClause_3 rfl (by decide) ?_ ?_
  · refine g_iconst (v := (nI 1)) (q := 31) ok dX10_isClause_30 rfl (by decide) ?_
    refine g_goto (q := 35) ok dX10_isClause_31 (by decide) ?_
    exact g_zret ok dX10_isClause_35 rfl
  · refine g_iload_n (q := 7) ok dX10_isClause_6 rfl 0 rfl rfl ?_
    refine g_bipush (v := (nI 102)) (q := 9) ok dX10_isClause_7 rfl (by decide) ?_
    refine g_icmp_eq (q := 12) (g := 30) ok dX10_isClause_9 rfl (by decide) ?_ ?_
    · refine g_iconst (v := (nI 1)) (q := 31) ok dX10_isClause_30 rfl (by decide) ?_
      refine g_goto (q := 35) ok dX10_isClause_31 (by decide) ?_
      exact g_zret ok dX10_isClause_35 rfl
    · refine g_iload_n (q := 13) ok dX10_isClause_12 rfl 0 rfl rfl ?_
      refine g_bipush (v := (nI 119)) (q := 15) ok dX10_isClause_13 rfl (by decide) ?_
      refine g_icmp_eq (q := 18) (g := 30) ok dX10_isClause_15 rfl (by decide) ?_ ?_
      · refine g_iconst (v := (nI 1)) (q := 31) ok dX10_isClause_30 rfl (by decide) ?_
        refine g_goto (q := 35) ok dX10_isClause_31 (by decide) ?_
        exact g_zret ok dX10_isClause_35 rfl
      · refine g_iload_n (q := 19) ok dX10_isClause_18 rfl 0 rfl rfl ?_
        refine g_bipush (v := (nI 122)) (q := 21) ok dX10_isClause_19 rfl (by decide) ?_
        refine g_icmp_eq (q := 24) (g := 30) ok dX10_isClause_21 rfl (by decide) ?_ ?_
        · refine g_iconst (v := (nI 1)) (q := 31) ok dX10_isClause_30 rfl (by decide) ?_
          refine g_goto (q := 35) ok dX10_isClause_31 (by decide) ?_
          exact g_zret ok dX10_isClause_35 rfl
        · refine g_iload_n (q := 25) ok dX10_isClause_24 rfl 0 rfl rfl ?_
          refine g_bipush (v := (nI 113)) (q := 27) ok dX10_isClause_25 rfl (by decide) ?_
          refine g_icmp_ne (q := 30) (g := 34) ok dX10_isClause_27 rfl (by decide) ?_ ?_
          · refine g_iconst (v := (nI 0)) (q := 35) ok dX10_isClause_34 rfl (by decide) ?_
            exact g_zret ok dX10_isClause_35 rfl
          · refine g_iconst (v := (nI 1)) (q := 31) ok dX10_isClause_30 rfl (by decide) ?_
            refine g_goto (q := 35) ok dX10_isClause_31 (by decide) ?_
            exact g_zret ok dX10_isClause_35 rfl
set_option maxRecDepth 20000 in
theorem kX10_opens (a1 : Int32) (w : gT) : gM S2 cl2 gTs yX10_opens cX10_opens 2 (some .boolean) rmX10_opens gi [.ref 0, .int a1] w (xX10_opens a1 w) := by
  refine gM_of (own := RX10) [(0, .ref 0), (1, .int a1)] rfl (by decide) (fun _ => rfl) (fun _ => Nat.le_of_ble_eq_true rfl) (fun κ ok => ?_)
  unfold xX10_opens
  refine g_aload_n (q := 1) ok dX10_opens_0 rfl 0 rfl rfl ?_
  refine g_getI (q := 4) (N := 0) ok dX10_opens_1 rfl fl_X10_246 sM_0 rfl ?_
  refine g_bipush (v := (nI 6)) (q := 6) ok dX10_opens_4 rfl (by decide) ?_
  refine g_icmp_ne (q := 9) (g := 19) ok dX10_opens_6 rfl (by decide) ?_ ?_
  · refine g_aload_n (q := 20) ok dX10_opens_19 rfl 0 rfl rfl ?_
    refine g_aload_n (q := 21) ok dX10_opens_20 rfl 0 rfl rfl ?_
    refine g_getI (q := 24) (N := 0) ok dX10_opens_21 rfl fl_X10_246 sM_0 rfl ?_
    refine g_iconst (v := (nI 1)) (q := 25) ok dX10_opens_24 rfl (by decide) ?_
    refine g_iadd (q := 26) ok dX10_opens_25 rfl ?_
    refine g_put (q := 29) ok dX10_opens_26 rfl fp_X10_246 sM_0 rfl rfl rfl ?_
    refine g_letw (fun w1 => ?_)
    refine g_aload_n (q := 30) ok dX10_opens_29 rfl 0 rfl rfl ?_
    refine g_getR (q := 33) ok dX10_opens_30 rfl fl_X10_66 sM_0 rfl ?_
    refine g_aload_n (q := 34) ok dX10_opens_33 rfl 0 rfl rfl ?_
    refine g_getI (q := 37) (N := 0) ok dX10_opens_34 rfl fl_X10_249 sM_0 rfl ?_
    refine g_ldc (q := 39) ok dX10_opens_37 rfl tw_1364 ?_
    refine g_iload_n (q := 40) ok dX10_opens_39 rfl 1 rfl rfl ?_
    refine g_imul (q := 41) ok dX10_opens_40 rfl ?_
    refine g_iast (q := 42) ok dX10_opens_41 rfl sM_19 ?_
    refine g_letw (fun w2 => ?_)
    refine g_aload_n (q := 43) ok dX10_opens_42 rfl 0 rfl rfl ?_
    refine g_aload_n (q := 44) ok dX10_opens_43 rfl 0 rfl rfl ?_
    refine g_getI (q := 47) (N := 0) ok dX10_opens_44 rfl fl_X10_249 sM_0 rfl ?_
    refine g_iconst (v := (nI 1)) (q := 48) ok dX10_opens_47 rfl (by decide) ?_
    refine g_iadd (q := 49) ok dX10_opens_48 rfl ?_
    refine g_put (q := 52) ok dX10_opens_49 rfl fp_X10_249 sM_0 rfl rfl rfl ?_
    refine g_letw (fun w3 => ?_)
    refine g_aload_n (q := 53) ok dX10_opens_52 rfl 0 rfl rfl ?_
    refine g_aload_n (q := 54) ok dX10_opens_53 rfl 0 rfl rfl ?_
    refine g_getI (q := 57) (N := 0) ok dX10_opens_54 rfl fl_X10_203 sM_0 rfl ?_
    refine g_iconst (v := (nI 1)) (q := 58) ok dX10_opens_57 rfl (by decide) ?_
    refine g_iadd (q := 59) ok dX10_opens_58 rfl ?_
    refine g_put (q := 62) ok dX10_opens_59 rfl fp_X10_203 sM_0 rfl rfl rfl ?_
    refine g_letw (fun w4 => ?_)
    refine g_iconst (v := (nI 1)) (q := 63) ok dX10_opens_62 rfl (by decide) ?_
    exact g_zret ok dX10_opens_63 rfl
  · refine g_aload_n (q := 10) ok dX10_opens_9 rfl 0 rfl rfl ?_
    refine g_iconst (v := (nI 5)) (q := 11) ok dX10_opens_10 rfl (by decide) ?_
    refine g_aload_n (q := 12) ok dX10_opens_11 rfl 0 rfl rfl ?_
    refine g_getI (q := 15) (N := 0) ok dX10_opens_12 rfl fl_X10_203 sM_0 rfl ?_
    refine g_callVi (q := 18) (As := [.int (nI 5), .int (w.1 0 15)]) (st := []) ok tbl_good dX10_opens_15 rfl (kX10_wrongAt _ _ _) cf_X10_206 ⟨rfl, rfl, Nat.le_of_ble_eq_true rfl, Nat.le_of_ble_eq_true rfl⟩ sM_0 rfl rfl rfl (fun _ => Nat.le_of_ble_eq_true rfl) (fun v5 w6 => ?_)
    exact g_zretv ok dX10_opens_18
set_option maxRecDepth 20000 in
theorem kX10_factOf (a0 : Int32) (w : gT) : gM S2 cl2 gTs yX10_factOf cX10_factOf 1 (some .int) rmX10_factOf gi [.int a0] w (xX10_factOf a0 w) := by
  refine gM_of (own := RX10) [(0, .int a0)] rfl (by decide) (fun _ => rfl) (fun _ => Nat.le_of_ble_eq_true rfl) (fun κ ok => ?_)
  unfold xX10_factOf
  refine g_iload_n (q := 1) ok dX10_factOf_0 rfl 0 rfl rfl ?_
  refine g_if (fun h0 => ?_) (fun h0 => ?_)
  · refine g_tsIn (v := (nI 99)) (g := 118) ok dX10_factOf_1 (by decide) (by decide) rfl (by decide) h0 ?_
    refine g_iconst (v := (nI 5)) (q := 119) ok dX10_factOf_118 rfl (by decide) ?_
    exact g_iret ok dX10_factOf_119
  · refine g_if (fun h1 => ?_) (fun h1 => ?_)
    · refine g_tsIn (v := (nI 100)) (g := 138) ok dX10_factOf_1 (by decide) (by decide) rfl (by decide) h1 ?_
      refine g_iconst (v := (-1)) (q := 139) ok dX10_factOf_138 rfl (by decide) ?_
      exact g_iret ok dX10_factOf_139
    · refine g_if (fun h2 => ?_) (fun h2 => ?_)
      · refine g_tsIn (v := (nI 101)) (g := 138) ok dX10_factOf_1 (by decide) (by decide) rfl (by decide) h2 ?_
        refine g_iconst (v := (-1)) (q := 139) ok dX10_factOf_138 rfl (by decide) ?_
        exact g_iret ok dX10_factOf_139
      · refine g_if (fun h3 => ?_) (fun h3 => ?_)
        · refine g_tsIn (v := (nI 102)) (g := 138) ok dX10_factOf_1 (by decide) (by decide) rfl (by decide) h3 ?_
          refine g_iconst (v := (-1)) (q := 139) ok dX10_factOf_138 rfl (by decide) ?_
          exact g_iret ok dX10_factOf_139
        · refine g_if (fun h4 => ?_) (fun h4 => ?_)
          · refine g_tsIn (v := (nI 103)) (g := 114) ok dX10_factOf_1 (by decide) (by decide) rfl (by decide) h4 ?_
            refine g_iconst (v := (nI 3)) (q := 115) ok dX10_factOf_114 rfl (by decide) ?_
            exact g_iret ok dX10_factOf_115
          · refine g_if (fun h5 => ?_) (fun h5 => ?_)
            · refine g_tsIn (v := (nI 104)) (g := 123) ok dX10_factOf_1 (by decide) (by decide) rfl (by decide) h5 ?_
              refine g_bipush (v := (nI 7)) (q := 125) ok dX10_factOf_123 rfl (by decide) ?_
              exact g_iret ok dX10_factOf_125
            · refine g_if (fun h6 => ?_) (fun h6 => ?_)
              · refine g_tsIn (v := (nI 105)) (g := 138) ok dX10_factOf_1 (by decide) (by decide) rfl (by decide) h6 ?_
                refine g_iconst (v := (-1)) (q := 139) ok dX10_factOf_138 rfl (by decide) ?_
                exact g_iret ok dX10_factOf_139
              · refine g_if (fun h7 => ?_) (fun h7 => ?_)
                · refine g_tsIn (v := (nI 106)) (g := 138) ok dX10_factOf_1 (by decide) (by decide) rfl (by decide) h7 ?_
                  refine g_iconst (v := (-1)) (q := 139) ok dX10_factOf_138 rfl (by decide) ?_
                  exact g_iret ok dX10_factOf_139
                · refine g_if (fun h8 => ?_) (fun h8 => ?_)
                  · refine g_tsIn (v := (nI 107)) (g := 138) ok dX10_factOf_1 (by decide) (by decide) rfl (by decide) h8 ?_
                    refine g_iconst (v := (-1)) (q := 139) ok dX10_factOf_138 rfl (by decide) ?_
                    exact g_iret ok dX10_factOf_139
                  · refine g_if (fun h9 => ?_) (fun h9 => ?_)
                    · refine g_tsIn (v := (nI 108)) (g := 135) ok dX10_factOf_1 (by decide) (by decide) rfl (by decide) h9 ?_
                      refine g_bipush (v := (nI 11)) (q := 137) ok dX10_factOf_135 rfl (by decide) ?_
                      exact g_iret ok dX10_factOf_137
                    · refine g_if (fun h10 => ?_) (fun h10 => ?_)
                      · refine g_tsIn (v := (nI 109)) (g := 116) ok dX10_factOf_1 (by decide) (by decide) rfl (by decide) h10 ?_
                        refine g_iconst (v := (nI 4)) (q := 117) ok dX10_factOf_116 rfl (by decide) ?_
                        exact g_iret ok dX10_factOf_117
                      · refine g_if (fun h11 => ?_) (fun h11 => ?_)
                        · refine g_tsIn (v := (nI 110)) (g := 110) ok dX10_factOf_1 (by decide) (by decide) rfl (by decide) h11 ?_
                          refine g_iconst (v := (nI 1)) (q := 111) ok dX10_factOf_110 rfl (by decide) ?_
                          exact g_iret ok dX10_factOf_111
                        · refine g_if (fun h12 => ?_) (fun h12 => ?_)
                          · refine g_tsIn (v := (nI 111)) (g := 132) ok dX10_factOf_1 (by decide) (by decide) rfl (by decide) h12 ?_
                            refine g_bipush (v := (nI 10)) (q := 134) ok dX10_factOf_132 rfl (by decide) ?_
                            exact g_iret ok dX10_factOf_134
                          · refine g_if (fun h13 => ?_) (fun h13 => ?_)
                            · refine g_tsIn (v := (nI 112)) (g := 126) ok dX10_factOf_1 (by decide) (by decide) rfl (by decide) h13 ?_
                              refine g_bipush (v := (nI 8)) (q := 128) ok dX10_factOf_126 rfl (by decide) ?_
                              exact g_iret ok dX10_factOf_128
                            · refine g_if (fun h14 => ?_) (fun h14 => ?_)
                              · refine g_tsIn (v := (nI 113)) (g := 138) ok dX10_factOf_1 (by decide) (by decide) rfl (by decide) h14 ?_
                                refine g_iconst (v := (-1)) (q := 139) ok dX10_factOf_138 rfl (by decide) ?_
                                exact g_iret ok dX10_factOf_139
                              · refine g_if (fun h15 => ?_) (fun h15 => ?_)
                                · refine g_tsIn (v := (nI 114)) (g := 108) ok dX10_factOf_1 (by decide) (by decide) rfl (by decide) h15 ?_
                                  refine g_iconst (v := (nI 0)) (q := 109) ok dX10_factOf_108 rfl (by decide) ?_
                                  exact g_iret ok dX10_factOf_109
                                · refine g_if (fun h16 => ?_) (fun h16 => ?_)
                                  · refine g_tsIn (v := (nI 115)) (g := 138) ok dX10_factOf_1 (by decide) (by decide) rfl (by decide) h16 ?_
                                    refine g_iconst (v := (-1)) (q := 139) ok dX10_factOf_138 rfl (by decide) ?_
                                    exact g_iret ok dX10_factOf_139
                                  · refine g_if (fun h17 => ?_) (fun h17 => ?_)
                                    · refine g_tsIn (v := (nI 116)) (g := 112) ok dX10_factOf_1 (by decide) (by decide) rfl (by decide) h17 ?_
                                      refine g_iconst (v := (nI 2)) (q := 113) ok dX10_factOf_112 rfl (by decide) ?_
                                      exact g_iret ok dX10_factOf_113
                                    · refine g_if (fun h18 => ?_) (fun h18 => ?_)
                                      · refine g_tsIn (v := (nI 117)) (g := 138) ok dX10_factOf_1 (by decide) (by decide) rfl (by decide) h18 ?_
                                        refine g_iconst (v := (-1)) (q := 139) ok dX10_factOf_138 rfl (by decide) ?_
                                        exact g_iret ok dX10_factOf_139
                                      · refine g_if (fun h19 => ?_) (fun h19 => ?_)
                                        · refine g_tsIn (v := (nI 118)) (g := 129) ok dX10_factOf_1 (by decide) (by decide) rfl (by decide) h19 ?_
                                          refine g_bipush (v := (nI 9)) (q := 131) ok dX10_factOf_129 rfl (by decide) ?_
                                          exact g_iret ok dX10_factOf_131
                                        · refine g_if (fun h20 => ?_) (fun h20 => ?_)
                                          · refine g_tsIn (v := (nI 119)) (g := 138) ok dX10_factOf_1 (by decide) (by decide) rfl (by decide) h20 ?_
                                            refine g_iconst (v := (-1)) (q := 139) ok dX10_factOf_138 rfl (by decide) ?_
                                            exact g_iret ok dX10_factOf_139
                                          · refine g_if (fun h21 => ?_) (fun h21 => ?_)
                                            · refine g_tsIn (v := (nI 120)) (g := 138) ok dX10_factOf_1 (by decide) (by decide) rfl (by decide) h21 ?_
                                              refine g_iconst (v := (-1)) (q := 139) ok dX10_factOf_138 rfl (by decide) ?_
                                              exact g_iret ok dX10_factOf_139
                                            · refine g_if (fun h22 => ?_) (fun h22 => ?_)
                                              · refine g_tsIn (v := (nI 121)) (g := 120) ok dX10_factOf_1 (by decide) (by decide) rfl (by decide) h22 ?_
                                                refine g_bipush (v := (nI 6)) (q := 122) ok dX10_factOf_120 rfl (by decide) ?_
                                                exact g_iret ok dX10_factOf_122
                                              · refine g_tsOut (g := 138) ok dX10_factOf_1 (by have e0 := lv_neT h0 (k := (nI 99)) (a := 99) (by decide); have e1 := lv_neT h1 (k := (nI 100)) (a := 100) (by decide); have e2 := lv_neT h2 (k := (nI 101)) (a := 101) (by decide); have e3 := lv_neT h3 (k := (nI 102)) (a := 102) (by decide); have e4 := lv_neT h4 (k := (nI 103)) (a := 103) (by decide); have e5 := lv_neT h5 (k := (nI 104)) (a := 104) (by decide); have e6 := lv_neT h6 (k := (nI 105)) (a := 105) (by decide); have e7 := lv_neT h7 (k := (nI 106)) (a := 106) (by decide); have e8 := lv_neT h8 (k := (nI 107)) (a := 107) (by decide); have e9 := lv_neT h9 (k := (nI 108)) (a := 108) (by decide); have e10 := lv_neT h10 (k := (nI 109)) (a := 109) (by decide); have e11 := lv_neT h11 (k := (nI 110)) (a := 110) (by decide); have e12 := lv_neT h12 (k := (nI 111)) (a := 111) (by decide); have e13 := lv_neT h13 (k := (nI 112)) (a := 112) (by decide); have e14 := lv_neT h14 (k := (nI 113)) (a := 113) (by decide); have e15 := lv_neT h15 (k := (nI 114)) (a := 114) (by decide); have e16 := lv_neT h16 (k := (nI 115)) (a := 115) (by decide); have e17 := lv_neT h17 (k := (nI 116)) (a := 116) (by decide); have e18 := lv_neT h18 (k := (nI 117)) (a := 117) (by decide); have e19 := lv_neT h19 (k := (nI 118)) (a := 118) (by decide); have e20 := lv_neT h20 (k := (nI 119)) (a := 119) (by decide); have e21 := lv_neT h21 (k := (nI 120)) (a := 120) (by decide); have e22 := lv_neT h22 (k := (nI 121)) (a := 121) (by decide); omega) (by decide) ?_
                                                refine g_iconst (v := (-1)) (q := 139) ok dX10_factOf_138 rfl (by decide) ?_
                                                exact g_iret ok dX10_factOf_139
set_option maxRecDepth 20000 in
theorem kX10_notes (a1 : Int32) (a2 : Int32) (w : gT) : gM S2 cl2 gTs yX10_notes cX10_notes 3 none rmX10_notes gv [.ref 0, .int a1, .int a2] w (xX10_notes a1 a2 w) := by
  refine gM_of (own := RX10) [(0, .ref 0), (1, .int a1), (2, .int a2)] rfl (by decide) (fun _ => rfl) (fun _ => Nat.le_of_ble_eq_true rfl) (fun κ ok => ?_)
  unfold xX10_notes
  refine g_aload_n (q := 1) ok dX10_notes_0 rfl 0 rfl rfl ?_
  refine g_getR (q := 4) ok dX10_notes_1 rfl fl_X10_63 sM_0 rfl ?_
  refine g_aload_n (q := 5) ok dX10_notes_4 rfl 0 rfl rfl ?_
  refine g_getI (q := 8) (N := 0) ok dX10_notes_5 rfl fl_X10_242 sM_0 rfl ?_
  refine g_ldc (q := 10) ok dX10_notes_8 rfl tw_1364 ?_
  refine g_iload_n (q := 11) ok dX10_notes_10 rfl 1 rfl rfl ?_
  refine g_imul (q := 12) ok dX10_notes_11 rfl ?_
  refine g_iload_n (q := 13) ok dX10_notes_12 rfl 2 rfl rfl ?_
  refine g_iadd (q := 14) ok dX10_notes_13 rfl ?_
  refine g_iast (q := 15) ok dX10_notes_14 rfl sM_18 ?_
  refine g_letw (fun w1 => ?_)
  refine g_aload_n (q := 16) ok dX10_notes_15 rfl 0 rfl rfl ?_
  refine g_aload_n (q := 17) ok dX10_notes_16 rfl 0 rfl rfl ?_
  refine g_getI (q := 20) (N := 0) ok dX10_notes_17 rfl fl_X10_242 sM_0 rfl ?_
  refine g_iconst (v := (nI 1)) (q := 21) ok dX10_notes_20 rfl (by decide) ?_
  refine g_iadd (q := 22) ok dX10_notes_21 rfl ?_
  refine g_put (q := 25) ok dX10_notes_22 rfl fp_X10_242 sM_0 rfl rfl rfl ?_
  refine g_letw (fun w2 => ?_)
  exact g_vret ok dX10_notes_25
set_option maxRecDepth 20000 in
theorem kX10_readsNumber (N : Nat) (w : gT) : gM S2 cl2 gTs yX10_readsNumber cX10_readsNumber 2 (some .boolean) rmX10_readsNumber gi [.ref 0] w (xX10_readsNumber N w) := by
  refine gM_of (own := RX10) [(0, .ref 0)] rfl (by decide) (fun _ => rfl) (fun _ => Nat.le_of_ble_eq_true rfl) (fun κ ok => ?_)
  unfold xX10_readsNumber
  refine g_aload_n (q := 1) ok dX10_readsNumber_0 rfl 0 rfl rfl ?_
  refine g_getI (q := 4) (N := 0) ok dX10_readsNumber_1 rfl fl_X10_203 sM_0 rfl ?_
  refine g_leti (fun v1 => ?_)
  refine g_istore_n (q := 5) (L' := [(1, .int v1), (0, .ref 0)]) ok dX10_readsNumber_4 rfl rfl (by decide) rfl rfl ?_
  refine g_aload_n (q := 6) ok dX10_readsNumber_5 rfl 1 rfl rfl ?_
  refine g_iconst (v := (nI 0)) (q := 7) ok dX10_readsNumber_6 rfl (by decide) ?_
  refine g_put (q := 10) ok dX10_readsNumber_7 rfl fp_X10_209 sM_0 rfl rfl rfl ?_
  refine g_letw (fun w2 => ?_)
  refine g_join (P := fun k3 => ∀ (w4 : gT), gJ S2 cl2 rmX10_readsNumber 2 gi κ 27 [(0, .ref 0)] [] w4 (k3 w4)) (fun w4 => ?_) (fun k3 hk3 => ?_)
  · refine g_aload_n (q := 28) ok dX10_readsNumber_27 rfl 0 rfl rfl ?_
    refine g_iconst (v := (nI 2)) (q := 29) ok dX10_readsNumber_28 rfl (by decide) ?_
    refine g_aload_n (q := 30) ok dX10_readsNumber_29 rfl 0 rfl rfl ?_
    refine g_getI (q := 33) (N := 0) ok dX10_readsNumber_30 rfl fl_X10_203 sM_0 rfl ?_
    refine g_callVi (q := 36) (As := [.int (nI 2), .int (w4.1 0 15)]) (st := []) ok tbl_good dX10_readsNumber_33 rfl (kX10_wrongAt _ _ _) cf_X10_206 ⟨rfl, rfl, Nat.le_of_ble_eq_true rfl, Nat.le_of_ble_eq_true rfl⟩ sM_0 rfl rfl rfl (fun _ => Nat.le_of_ble_eq_true rfl) (fun v5 w6 => ?_)
    exact g_zretv ok dX10_readsNumber_36
  · refine g_to (L' := [(0, .ref 0), (1, .int v1)]) ?_ [1, 0] rfl
    refine g_loop0 (Lf := [(0, .ref 0), (1, .int v1)]) (fun go7 hgo7 w8 => ?_) N _
    unfold xX10_readsNumber_b10
    refine g_aload_n (q := 11) ok dX10_readsNumber_10 rfl 0 rfl rfl ?_
    refine g_callVi (q := 14) (As := []) (st := []) ok tbl_good dX10_readsNumber_11 rfl (kX10_isDigit _) cf_X10_195 ⟨rfl, rfl, Nat.le_of_ble_eq_true rfl, Nat.le_of_ble_eq_true rfl⟩ sM_0 rfl rfl rfl (fun _ => Nat.le_of_ble_eq_true rfl) (fun v9 w10 => ?_)
    refine g_if_eq (q := 17) (g := 69) ok dX10_readsNumber_14 rfl (by decide) ?_ ?_
    · refine g_iconst (v := (nI 1)) (q := 70) ok dX10_readsNumber_69 rfl (by decide) ?_
      exact g_zret ok dX10_readsNumber_70 rfl
    · refine g_aload_n (q := 18) ok dX10_readsNumber_17 rfl 0 rfl rfl ?_
      refine g_getI (q := 21) (N := 0) ok dX10_readsNumber_18 rfl fl_X10_203 sM_0 rfl ?_
      refine g_iload_n (q := 22) ok dX10_readsNumber_21 rfl 1 rfl rfl ?_
      refine g_iconst (v := (nI 5)) (q := 23) ok dX10_readsNumber_22 rfl (by decide) ?_
      refine g_iadd (q := 24) ok dX10_readsNumber_23 rfl ?_
      refine g_icmp_ne (q := 27) (g := 37) ok dX10_readsNumber_24 rfl (by decide) ?_ ?_
      · refine g_aload_n (q := 38) ok dX10_readsNumber_37 rfl 0 rfl rfl ?_
        refine g_bipush (v := (nI 10)) (q := 40) ok dX10_readsNumber_38 rfl (by decide) ?_
        refine g_aload_n (q := 41) ok dX10_readsNumber_40 rfl 0 rfl rfl ?_
        refine g_getI (q := 44) (N := 0) ok dX10_readsNumber_41 rfl fl_X10_209 sM_0 rfl ?_
        refine g_imul (q := 45) ok dX10_readsNumber_44 rfl ?_
        refine g_aload_n (q := 46) ok dX10_readsNumber_45 rfl 0 rfl rfl ?_
        refine g_callVi (q := 49) (As := []) (st := [.int ((nI 10) * (w10.1 0 18)), .ref 0]) ok tbl_good dX10_readsNumber_46 rfl (kX10_here _) cf_X10_199 ⟨rfl, rfl, Nat.le_of_ble_eq_true rfl, Nat.le_of_ble_eq_true rfl⟩ sM_0 rfl rfl rfl (fun _ => Nat.le_of_ble_eq_true rfl) (fun v11 w12 => ?_)
        refine g_iadd (q := 50) ok dX10_readsNumber_49 rfl ?_
        refine g_bipush (v := (nI 48)) (q := 52) ok dX10_readsNumber_50 rfl (by decide) ?_
        refine g_isub (q := 53) ok dX10_readsNumber_52 rfl ?_
        refine g_put (q := 56) ok dX10_readsNumber_53 rfl fp_X10_209 sM_0 rfl rfl rfl ?_
        refine g_letw (fun w13 => ?_)
        refine g_aload_n (q := 57) ok dX10_readsNumber_56 rfl 0 rfl rfl ?_
        refine g_aload_n (q := 58) ok dX10_readsNumber_57 rfl 0 rfl rfl ?_
        refine g_getI (q := 61) (N := 0) ok dX10_readsNumber_58 rfl fl_X10_203 sM_0 rfl ?_
        refine g_iconst (v := (nI 1)) (q := 62) ok dX10_readsNumber_61 rfl (by decide) ?_
        refine g_iadd (q := 63) ok dX10_readsNumber_62 rfl ?_
        refine g_put (q := 66) ok dX10_readsNumber_63 rfl fp_X10_203 sM_0 rfl rfl rfl ?_
        refine g_letw (fun w14 => ?_)
        refine g_goto (q := 10) ok dX10_readsNumber_66 (by decide) ?_
        exact hgo7 _
      · refine g_to (L' := [(0, .ref 0)]) ?_ [0] rfl
        exact hk3 _
set_option maxRecDepth 20000 in
theorem kX10_readsFactor (N : Nat) (w : gT) : gM S2 cl2 gTs yX10_readsFactor cX10_readsFactor 2 (some .boolean) rmX10_readsFactor gi [.ref 0] w (xX10_readsFactor N w) := by
  refine gM_of (own := RX10) [(0, .ref 0)] rfl (by decide) (fun _ => rfl) (fun _ => Nat.le_of_ble_eq_true rfl) (fun κ ok => ?_)
  unfold xX10_readsFactor
  refine g_join (P := fun k1 => ∀ (w2 : gT), gJ S2 cl2 rmX10_readsFactor 2 gi κ 20 [(0, .ref 0)] [] w2 (k1 w2)) (fun w2 => ?_) (fun k1 hk1 => ?_)
  · refine g_aload_n (q := 21) ok dX10_readsFactor_20 rfl 0 rfl rfl ?_
    refine g_callVi (q := 24) (As := []) (st := []) ok tbl_good dX10_readsFactor_21 rfl (kX10_isDigit _) cf_X10_195 ⟨rfl, rfl, Nat.le_of_ble_eq_true rfl, Nat.le_of_ble_eq_true rfl⟩ sM_0 rfl rfl rfl (fun _ => Nat.le_of_ble_eq_true rfl) (fun v3 w4 => ?_)
    refine g_if_eq (q := 27) (g := 47) ok dX10_readsFactor_24 rfl (by decide) ?_ ?_
    · refine g_aload_n (q := 48) ok dX10_readsFactor_47 rfl 0 rfl rfl ?_
      refine g_callVi (q := 51) (As := []) (st := []) ok tbl_good dX10_readsFactor_48 rfl (kX10_here _) cf_X10_199 ⟨rfl, rfl, Nat.le_of_ble_eq_true rfl, Nat.le_of_ble_eq_true rfl⟩ sM_0 rfl rfl rfl (fun _ => Nat.le_of_ble_eq_true rfl) (fun v5 w6 => ?_)
      refine g_callSi (q := 54) (As := [.int v5]) (st := []) ok tbl_good dX10_readsFactor_51 rfl (kX10_factOf _ _) cf_X10_265 ⟨rfl, rfl, Nat.le_of_ble_eq_true rfl, Nat.le_of_ble_eq_true rfl⟩ rfl rfl (fun _ => Nat.le_of_ble_eq_true rfl) (fun v7 w8 => ?_)
      refine g_istore_n (q := 55) (L' := [(1, .int v7), (0, .ref 0)]) ok dX10_readsFactor_54 rfl rfl (by decide) rfl rfl ?_
      refine g_iload_n (q := 56) ok dX10_readsFactor_55 rfl 0 rfl rfl ?_
      refine g_iconst (v := (-1)) (q := 57) ok dX10_readsFactor_56 rfl (by decide) ?_
      refine g_icmp_ne (q := 60) (g := 70) ok dX10_readsFactor_57 rfl (by decide) ?_ ?_
      · refine g_aload_n (q := 71) ok dX10_readsFactor_70 rfl 1 rfl rfl ?_
        refine g_iconst (v := (nI 1)) (q := 72) ok dX10_readsFactor_71 rfl (by decide) ?_
        refine g_iload_n (q := 73) ok dX10_readsFactor_72 rfl 0 rfl rfl ?_
        refine g_callVv (q := 76) (As := [.int (nI 1), .int v7]) (st := []) ok tbl_good dX10_readsFactor_73 rfl (kX10_notes _ _ _) cf_X10_255 ⟨rfl, rfl, Nat.le_of_ble_eq_true rfl, Nat.le_of_ble_eq_true rfl⟩ sM_0 rfl rfl rfl (fun _ => Nat.le_of_ble_eq_true rfl) (fun w9 => ?_)
        refine g_aload_n (q := 77) ok dX10_readsFactor_76 rfl 1 rfl rfl ?_
        refine g_aload_n (q := 78) ok dX10_readsFactor_77 rfl 1 rfl rfl ?_
        refine g_getI (q := 81) (N := 0) ok dX10_readsFactor_78 rfl fl_X10_203 sM_0 rfl ?_
        refine g_iconst (v := (nI 1)) (q := 82) ok dX10_readsFactor_81 rfl (by decide) ?_
        refine g_iadd (q := 83) ok dX10_readsFactor_82 rfl ?_
        refine g_put (q := 86) ok dX10_readsFactor_83 rfl fp_X10_203 sM_0 rfl rfl rfl ?_
        refine g_letw (fun w10 => ?_)
        refine g_iconst (v := (nI 1)) (q := 87) ok dX10_readsFactor_86 rfl (by decide) ?_
        exact g_zret ok dX10_readsFactor_87 rfl
      · refine g_aload_n (q := 61) ok dX10_readsFactor_60 rfl 1 rfl rfl ?_
        refine g_iconst (v := (nI 1)) (q := 62) ok dX10_readsFactor_61 rfl (by decide) ?_
        refine g_aload_n (q := 63) ok dX10_readsFactor_62 rfl 1 rfl rfl ?_
        refine g_getI (q := 66) (N := 0) ok dX10_readsFactor_63 rfl fl_X10_203 sM_0 rfl ?_
        refine g_callVi (q := 69) (As := [.int (nI 1), .int (w8.1 0 15)]) (st := []) ok tbl_good dX10_readsFactor_66 rfl (kX10_wrongAt _ _ _) cf_X10_206 ⟨rfl, rfl, Nat.le_of_ble_eq_true rfl, Nat.le_of_ble_eq_true rfl⟩ sM_0 rfl rfl rfl (fun _ => Nat.le_of_ble_eq_true rfl) (fun v11 w12 => ?_)
        exact g_zretv ok dX10_readsFactor_69
    · refine g_aload_n (q := 28) ok dX10_readsFactor_27 rfl 0 rfl rfl ?_
      refine g_callVi (q := 31) (As := []) (st := []) ok tbl_good dX10_readsFactor_28 rfl (kX10_readsNumber N _) cf_X10_262 ⟨rfl, rfl, Nat.le_of_ble_eq_true rfl, Nat.le_of_ble_eq_true rfl⟩ sM_0 rfl rfl rfl (fun _ => Nat.le_of_ble_eq_true rfl) (fun v13 w14 => ?_)
      refine g_if_ne (q := 34) (g := 36) ok dX10_readsFactor_31 rfl (by decide) ?_ ?_
      · refine g_aload_n (q := 37) ok dX10_readsFactor_36 rfl 0 rfl rfl ?_
        refine g_iconst (v := (nI 0)) (q := 38) ok dX10_readsFactor_37 rfl (by decide) ?_
        refine g_aload_n (q := 39) ok dX10_readsFactor_38 rfl 0 rfl rfl ?_
        refine g_getI (q := 42) (N := 0) ok dX10_readsFactor_39 rfl fl_X10_209 sM_0 rfl ?_
        refine g_callVv (q := 45) (As := [.int (nI 0), .int (w14.1 0 18)]) (st := []) ok tbl_good dX10_readsFactor_42 rfl (kX10_notes _ _ _) cf_X10_255 ⟨rfl, rfl, Nat.le_of_ble_eq_true rfl, Nat.le_of_ble_eq_true rfl⟩ sM_0 rfl rfl rfl (fun _ => Nat.le_of_ble_eq_true rfl) (fun w15 => ?_)
        refine g_iconst (v := (nI 1)) (q := 46) ok dX10_readsFactor_45 rfl (by decide) ?_
        exact g_zret ok dX10_readsFactor_46 rfl
      · refine g_iconst (v := (nI 0)) (q := 35) ok dX10_readsFactor_34 rfl (by decide) ?_
        exact g_zret ok dX10_readsFactor_35 rfl
  · refine g_loop0 (Lf := [(0, .ref 0)]) (fun go16 hgo16 w17 => ?_) N _
    unfold xX10_readsFactor_b0
    refine g_aload_n (q := 1) ok dX10_readsFactor_0 rfl 0 rfl rfl ?_
    refine g_callVi (q := 4) (As := []) (st := []) ok tbl_good dX10_readsFactor_1 rfl (kX10_here _) cf_X10_199 ⟨rfl, rfl, Nat.le_of_ble_eq_true rfl, Nat.le_of_ble_eq_true rfl⟩ sM_0 rfl rfl rfl (fun _ => Nat.le_of_ble_eq_true rfl) (fun v18 w19 => ?_)
    refine g_bipush (v := (nI 91)) (q := 6) ok dX10_readsFactor_4 rfl (by decide) ?_
    refine g_icmp_ne (q := 9) (g := 20) ok dX10_readsFactor_6 rfl (by decide) ?_ ?_
    · exact hk1 _
    · refine g_aload_n (q := 10) ok dX10_readsFactor_9 rfl 0 rfl rfl ?_
      refine g_bipush (v := (nI 14)) (q := 12) ok dX10_readsFactor_10 rfl (by decide) ?_
      refine g_callVi (q := 15) (As := [.int (nI 14)]) (st := []) ok tbl_good dX10_readsFactor_12 rfl (kX10_opens _ _) cf_X10_259 ⟨rfl, rfl, Nat.le_of_ble_eq_true rfl, Nat.le_of_ble_eq_true rfl⟩ sM_0 rfl rfl rfl (fun _ => Nat.le_of_ble_eq_true rfl) (fun v20 w21 => ?_)
      refine g_if_ne (q := 18) (g := 0) ok dX10_readsFactor_15 rfl (by decide) ?_ ?_
      · exact hgo16 _
      · refine g_iconst (v := (nI 0)) (q := 19) ok dX10_readsFactor_18 rfl (by decide) ?_
        exact g_zret ok dX10_readsFactor_19 rfl
set_option maxRecDepth 20000 in
theorem kX10_hasOpenSum (N : Nat) (a1 : Int32) (w : gT) : gM S2 cl2 gTs yX10_hasOpenSum cX10_hasOpenSum 3 (some .boolean) rmX10_hasOpenSum gi [.ref 0, .int a1] w (xX10_hasOpenSum N a1 w) := by
  refine gM_of (own := RX10) [(0, .ref 0), (1, .int a1)] rfl (by decide) (fun _ => rfl) (fun _ => Nat.le_of_ble_eq_true rfl) (fun κ ok => ?_)
  unfold xX10_hasOpenSum
  refine g_iload_n (q := 1) ok dX10_hasOpenSum_0 rfl 1 rfl rfl ?_
  refine g_istore_n (q := 2) (L' := [(2, .int a1), (0, .ref 0), (1, .int a1)]) ok dX10_hasOpenSum_1 rfl rfl (by decide) rfl rfl ?_
  refine g_to (L' := [(0, .ref 0), (2, .int a1)]) ?_ [1, 0] rfl
  refine g_loop1 (Lf := fun v2 => [(0, .ref 0), (2, .int v2)]) (fun go1 hgo1 v2 w3 => ?_) N _ _
  unfold xX10_hasOpenSum_b2
  refine g_iload_n (q := 3) ok dX10_hasOpenSum_2 rfl 1 rfl rfl ?_
  refine g_aload_n (q := 4) ok dX10_hasOpenSum_3 rfl 0 rfl rfl ?_
  refine g_getI (q := 7) (N := 0) ok dX10_hasOpenSum_4 rfl fl_X10_249 sM_0 rfl ?_
  refine g_icmp_ge (q := 10) (g := 32) ok dX10_hasOpenSum_7 rfl (by decide) ?_ ?_
  · refine g_iconst (v := (nI 0)) (q := 33) ok dX10_hasOpenSum_32 rfl (by decide) ?_
    exact g_zret ok dX10_hasOpenSum_33 rfl
  · refine g_aload_n (q := 11) ok dX10_hasOpenSum_10 rfl 0 rfl rfl ?_
    refine g_getR (q := 14) ok dX10_hasOpenSum_11 rfl fl_X10_66 sM_0 rfl ?_
    refine g_iload_n (q := 15) ok dX10_hasOpenSum_14 rfl 1 rfl rfl ?_
    refine g_iald (q := 16) ok dX10_hasOpenSum_15 rfl sM_19 ?_
    refine g_ldc (q := 18) ok dX10_hasOpenSum_16 rfl tw_1364 ?_
    refine g_idivC (q := 19) ok dX10_hasOpenSum_18 rfl (by decide) ?_
    refine g_bipush (v := (nI 14)) (q := 21) ok dX10_hasOpenSum_19 rfl (by decide) ?_
    refine g_icmp_ne (q := 24) (g := 26) ok dX10_hasOpenSum_21 rfl (by decide) ?_ ?_
    · refine g_iinc (v := v2 + (nI 1)) (q := 29) (L' := [(2, .int (v2 + (nI 1))), (0, .ref 0)]) ok dX10_hasOpenSum_26 rfl 1 rfl rfl (by decide) rfl rfl ?_
      refine g_goto (q := 2) ok dX10_hasOpenSum_29 (by decide) ?_
      refine g_to (L' := [(0, .ref 0), (2, .int (v2 + (nI 1)))]) ?_ [1, 0] rfl
      exact hgo1 _ _
    · refine g_iconst (v := (nI 1)) (q := 25) ok dX10_hasOpenSum_24 rfl (by decide) ?_
      exact g_zret ok dX10_hasOpenSum_25 rfl
set_option maxRecDepth 20000 in
theorem kX10_waitTop (w : gT) : gM S2 cl2 gTs yX10_waitTop cX10_waitTop 1 (some .int) rmX10_waitTop gi [.ref 0] w (xX10_waitTop w) := by
  refine gM_of (own := RX10) [(0, .ref 0)] rfl (by decide) (fun _ => rfl) (fun _ => Nat.le_of_ble_eq_true rfl) (fun κ ok => ?_)
  unfold xX10_waitTop
  refine g_aload_n (q := 1) ok dX10_waitTop_0 rfl 0 rfl rfl ?_
  refine g_getI (q := 4) (N := 0) ok dX10_waitTop_1 rfl fl_X10_249 sM_0 rfl ?_
  refine g_if_ne (q := 7) (g := 11) ok dX10_waitTop_4 rfl (by decide) ?_ ?_
  · refine g_aload_n (q := 12) ok dX10_waitTop_11 rfl 0 rfl rfl ?_
    refine g_getR (q := 15) ok dX10_waitTop_12 rfl fl_X10_66 sM_0 rfl ?_
    refine g_aload_n (q := 16) ok dX10_waitTop_15 rfl 0 rfl rfl ?_
    refine g_getI (q := 19) (N := 0) ok dX10_waitTop_16 rfl fl_X10_249 sM_0 rfl ?_
    refine g_iconst (v := (nI 1)) (q := 20) ok dX10_waitTop_19 rfl (by decide) ?_
    refine g_isub (q := 21) ok dX10_waitTop_20 rfl ?_
    refine g_iald (q := 22) ok dX10_waitTop_21 rfl sM_19 ?_
    refine g_ldc (q := 24) ok dX10_waitTop_22 rfl tw_1364 ?_
    refine g_idivC (q := 25) ok dX10_waitTop_24 rfl (by decide) ?_
    exact g_iret ok dX10_waitTop_25
  · refine g_iconst (v := (-1)) (q := 8) ok dX10_waitTop_7 rfl (by decide) ?_
    refine g_goto (q := 25) ok dX10_waitTop_8 (by decide) ?_
    exact g_iret ok dX10_waitTop_25
set_option maxRecDepth 20000 in
theorem kX10_closesSums (N : Nat) (a1 : Int32) (w : gT) : gM S2 cl2 gTs yX10_closesSums cX10_closesSums 2 none rmX10_closesSums gv [.ref 0, .int a1] w (xX10_closesSums N a1 w) := by
  refine gM_of (own := RX10) [(0, .ref 0), (1, .int a1)] rfl (by decide) (fun _ => rfl) (fun _ => Nat.le_of_ble_eq_true rfl) (fun κ ok => ?_)
  unfold xX10_closesSums
  refine g_loop0 (Lf := [(0, .ref 0), (1, .int a1)]) (fun go1 hgo1 w2 => ?_) N _
  unfold xX10_closesSums_b0
  refine g_join (P := fun k3 => ∀ (w4 : gT), gJ S2 cl2 rmX10_closesSums 2 gv κ 37 [(0, .ref 0), (1, .int a1)] [] w4 (k3 w4)) (fun w4 => ?_) (fun k3 hk3 => ?_)
  · refine g_aload_n (q := 38) ok dX10_closesSums_37 rfl 0 rfl rfl ?_
    refine g_aload_n (q := 39) ok dX10_closesSums_38 rfl 0 rfl rfl ?_
    refine g_callVi (q := 42) (As := []) (st := [.ref 0]) ok tbl_good dX10_closesSums_39 rfl (kX10_waitTop _) cf_X10_252 ⟨rfl, rfl, Nat.le_of_ble_eq_true rfl, Nat.le_of_ble_eq_true rfl⟩ sM_0 rfl rfl rfl (fun _ => Nat.le_of_ble_eq_true rfl) (fun v5 w6 => ?_)
    refine g_iconst (v := (nI 0)) (q := 43) ok dX10_closesSums_42 rfl (by decide) ?_
    refine g_callVv (q := 46) (As := [.int v5, .int (nI 0)]) (st := []) ok tbl_good dX10_closesSums_43 rfl (kX10_notes _ _ _) cf_X10_255 ⟨rfl, rfl, Nat.le_of_ble_eq_true rfl, Nat.le_of_ble_eq_true rfl⟩ sM_0 rfl rfl rfl (fun _ => Nat.le_of_ble_eq_true rfl) (fun w7 => ?_)
    refine g_aload_n (q := 47) ok dX10_closesSums_46 rfl 0 rfl rfl ?_
    refine g_aload_n (q := 48) ok dX10_closesSums_47 rfl 0 rfl rfl ?_
    refine g_getI (q := 51) (N := 0) ok dX10_closesSums_48 rfl fl_X10_249 sM_0 rfl ?_
    refine g_iconst (v := (nI 1)) (q := 52) ok dX10_closesSums_51 rfl (by decide) ?_
    refine g_isub (q := 53) ok dX10_closesSums_52 rfl ?_
    refine g_put (q := 56) ok dX10_closesSums_53 rfl fp_X10_249 sM_0 rfl rfl rfl ?_
    refine g_letw (fun w8 => ?_)
    refine g_goto (q := 0) ok dX10_closesSums_56 (by decide) ?_
    exact hgo1 _
  · refine g_join (P := fun k9 => ∀ (w10 : gT), gJ S2 cl2 rmX10_closesSums 2 gv κ 17 [(0, .ref 0), (1, .int a1)] [] w10 (k9 w10)) (fun w10 => ?_) (fun k9 hk9 => ?_)
    · refine g_iload_n (q := 18) ok dX10_closesSums_17 rfl 1 rfl rfl ?_
      refine g_if_eq (q := 21) (g := 59) ok dX10_closesSums_18 rfl (by decide) ?_ ?_
      · exact g_vret ok dX10_closesSums_59
      · refine g_aload_n (q := 22) ok dX10_closesSums_21 rfl 0 rfl rfl ?_
        refine g_callVi (q := 25) (As := []) (st := []) ok tbl_good dX10_closesSums_22 rfl (kX10_waitTop _) cf_X10_252 ⟨rfl, rfl, Nat.le_of_ble_eq_true rfl, Nat.le_of_ble_eq_true rfl⟩ sM_0 rfl rfl rfl (fun _ => Nat.le_of_ble_eq_true rfl) (fun v11 w12 => ?_)
        refine g_iconst (v := (nI 2)) (q := 26) ok dX10_closesSums_25 rfl (by decide) ?_
        refine g_icmp_eq (q := 29) (g := 37) ok dX10_closesSums_26 rfl (by decide) ?_ ?_
        · exact hk3 _
        · refine g_aload_n (q := 30) ok dX10_closesSums_29 rfl 0 rfl rfl ?_
          refine g_callVi (q := 33) (As := []) (st := []) ok tbl_good dX10_closesSums_30 rfl (kX10_waitTop _) cf_X10_252 ⟨rfl, rfl, Nat.le_of_ble_eq_true rfl, Nat.le_of_ble_eq_true rfl⟩ sM_0 rfl rfl rfl (fun _ => Nat.le_of_ble_eq_true rfl) (fun v13 w14 => ?_)
          refine g_iconst (v := (nI 3)) (q := 34) ok dX10_closesSums_33 rfl (by decide) ?_
          refine g_icmp_ne (q := 37) (g := 59) ok dX10_closesSums_34 rfl (by decide) ?_ ?_
          · exact g_vret ok dX10_closesSums_59
          · exact hk3 _
    · refine g_aload_n (q := 1) ok dX10_closesSums_0 rfl 0 rfl rfl ?_
      refine g_callVi (q := 4) (As := []) (st := []) ok tbl_good dX10_closesSums_1 rfl (kX10_waitTop _) cf_X10_252 ⟨rfl, rfl, Nat.le_of_ble_eq_true rfl, Nat.le_of_ble_eq_true rfl⟩ sM_0 rfl rfl rfl (fun _ => Nat.le_of_ble_eq_true rfl) (fun v15 w16 => ?_)
      refine g_iconst (v := (nI 4)) (q := 5) ok dX10_closesSums_4 rfl (by decide) ?_
      refine g_icmp_lt (q := 8) (g := 17) ok dX10_closesSums_5 rfl (by decide) ?_ ?_
      · exact hk9 _
      · refine g_aload_n (q := 9) ok dX10_closesSums_8 rfl 0 rfl rfl ?_
        refine g_callVi (q := 12) (As := []) (st := []) ok tbl_good dX10_closesSums_9 rfl (kX10_waitTop _) cf_X10_252 ⟨rfl, rfl, Nat.le_of_ble_eq_true rfl, Nat.le_of_ble_eq_true rfl⟩ sM_0 rfl rfl rfl (fun _ => Nat.le_of_ble_eq_true rfl) (fun v17 w18 => ?_)
        refine g_bipush (v := (nI 6)) (q := 14) ok dX10_closesSums_12 rfl (by decide) ?_
        refine g_icmp_le (q := 17) (g := 37) ok dX10_closesSums_14 rfl (by decide) ?_ ?_
        · exact hk3 _
        · exact hk9 _
set_option maxRecDepth 20000 in
theorem kX10_sumSign (a0 : Int32) (w : gT) : gM S2 cl2 gTs yX10_sumSign cX10_sumSign 1 (some .int) rmX10_sumSign gi [.int a0] w (xX10_sumSign a0 w) := by
  refine gM_of (own := RX10) [(0, .int a0)] rfl (by decide) (fun _ => rfl) (fun _ => Nat.le_of_ble_eq_true rfl) (fun κ ok => ?_)
  unfold xX10_sumSign
  refine g_iload_n (q := 1) ok dX10_sumSign_0 rfl 0 rfl rfl ?_
  refine g_bipush (v := (nI 43)) (q := 3) ok dX10_sumSign_1 rfl (by decide) ?_
  refine g_icmp_ne (q := 6) (g := 10) ok dX10_sumSign_3 rfl (by decide) ?_ ?_
  · refine g_iload_n (q := 11) ok dX10_sumSign_10 rfl 0 rfl rfl ?_
    refine g_bipush (v := (nI 45)) (q := 13) ok dX10_sumSign_11 rfl (by decide) ?_
    refine g_icmp_ne (q := 16) (g := 20) ok dX10_sumSign_13 rfl (by decide) ?_ ?_
    · refine g_iload_n (q := 21) ok dX10_sumSign_20 rfl 0 rfl rfl ?_
      refine g_bipush (v := (nI 42)) (q := 23) ok dX10_sumSign_21 rfl (by decide) ?_
      refine g_icmp_ne (q := 26) (g := 30) ok dX10_sumSign_23 rfl (by decide) ?_ ?_
      · refine g_iload_n (q := 31) ok dX10_sumSign_30 rfl 0 rfl rfl ?_
        refine g_bipush (v := (nI 47)) (q := 33) ok dX10_sumSign_31 rfl (by decide) ?_
        refine g_icmp_ne (q := 36) (g := 40) ok dX10_sumSign_33 rfl (by decide) ?_ ?_
        · refine g_iload_n (q := 41) ok dX10_sumSign_40 rfl 0 rfl rfl ?_
          refine g_bipush (v := (nI 37)) (q := 43) ok dX10_sumSign_41 rfl (by decide) ?_
          refine g_icmp_ne (q := 46) (g := 51) ok dX10_sumSign_43 rfl (by decide) ?_ ?_
          · refine g_iconst (v := (-1)) (q := 52) ok dX10_sumSign_51 rfl (by decide) ?_
            exact g_iret ok dX10_sumSign_52
          · refine g_bipush (v := (nI 6)) (q := 48) ok dX10_sumSign_46 rfl (by decide) ?_
            refine g_goto (q := 52) ok dX10_sumSign_48 (by decide) ?_
            exact g_iret ok dX10_sumSign_52
        · refine g_iconst (v := (nI 5)) (q := 37) ok dX10_sumSign_36 rfl (by decide) ?_
          refine g_goto (q := 52) ok dX10_sumSign_37 (by decide) ?_
          exact g_iret ok dX10_sumSign_52
      · refine g_iconst (v := (nI 4)) (q := 27) ok dX10_sumSign_26 rfl (by decide) ?_
        refine g_goto (q := 52) ok dX10_sumSign_27 (by decide) ?_
        exact g_iret ok dX10_sumSign_52
    · refine g_iconst (v := (nI 3)) (q := 17) ok dX10_sumSign_16 rfl (by decide) ?_
      refine g_goto (q := 52) ok dX10_sumSign_17 (by decide) ?_
      exact g_iret ok dX10_sumSign_52
  · refine g_iconst (v := (nI 2)) (q := 7) ok dX10_sumSign_6 rfl (by decide) ?_
    refine g_goto (q := 52) ok dX10_sumSign_7 (by decide) ?_
    exact g_iret ok dX10_sumSign_52
set_option maxRecDepth 20000 in
theorem kX10_readsSum (N : Nat) (w : gT) : gM S2 cl2 gTs yX10_readsSum cX10_readsSum 3 (some .boolean) rmX10_readsSum gi [.ref 0] w (xX10_readsSum N w) := by
  refine gM_of (own := RX10) [(0, .ref 0)] rfl (by decide) (fun _ => rfl) (fun _ => Nat.le_of_ble_eq_true rfl) (fun κ ok => ?_)
  unfold xX10_readsSum
  refine g_aload_n (q := 1) ok dX10_readsSum_0 rfl 0 rfl rfl ?_
  refine g_getI (q := 4) (N := 0) ok dX10_readsSum_1 rfl fl_X10_249 sM_0 rfl ?_
  refine g_leti (fun v1 => ?_)
  refine g_istore_n (q := 5) (L' := [(1, .int v1), (0, .ref 0)]) ok dX10_readsSum_4 rfl rfl (by decide) rfl rfl ?_
  refine g_aload_n (q := 6) ok dX10_readsSum_5 rfl 1 rfl rfl ?_
  refine g_callVi (q := 9) (As := []) (st := []) ok tbl_good dX10_readsSum_6 rfl (kX10_readsFactor N _) cf_X10_269 ⟨rfl, rfl, Nat.le_of_ble_eq_true rfl, Nat.le_of_ble_eq_true rfl⟩ sM_0 rfl rfl rfl (fun _ => Nat.le_of_ble_eq_true rfl) (fun v2 w3 => ?_)
  refine g_if_ne (q := 12) (g := 14) ok dX10_readsSum_9 rfl (by decide) ?_ ?_
  · refine g_join (P := fun k4 => ∀ (w5 : gT), gJ S2 cl2 rmX10_readsSum 3 gi κ 138 [(0, .ref 0), (1, .int v1)] [] w5 (k4 w5)) (fun w5 => ?_) (fun k4 hk4 => ?_)
    · refine g_aload_n (q := 139) ok dX10_readsSum_138 rfl 0 rfl rfl ?_
      refine g_iload_n (q := 140) ok dX10_readsSum_139 rfl 1 rfl rfl ?_
      refine g_callVi (q := 143) (As := [.int v1]) (st := []) ok tbl_good dX10_readsSum_140 rfl (kX10_hasOpenSum N _ _) cf_X10_279 ⟨rfl, rfl, Nat.le_of_ble_eq_true rfl, Nat.le_of_ble_eq_true rfl⟩ sM_0 rfl rfl rfl (fun _ => Nat.le_of_ble_eq_true rfl) (fun v6 w7 => ?_)
      refine g_if_eq (q := 146) (g := 156) ok dX10_readsSum_143 rfl (by decide) ?_ ?_
      · refine g_aload_n (q := 157) ok dX10_readsSum_156 rfl 0 rfl rfl ?_
        refine g_iconst (v := (nI 1)) (q := 158) ok dX10_readsSum_157 rfl (by decide) ?_
        refine g_callVv (q := 161) (As := [.int (nI 1)]) (st := []) ok tbl_good dX10_readsSum_158 rfl (kX10_closesSums N _ _) cf_X10_275 ⟨rfl, rfl, Nat.le_of_ble_eq_true rfl, Nat.le_of_ble_eq_true rfl⟩ sM_0 rfl rfl rfl (fun _ => Nat.le_of_ble_eq_true rfl) (fun w8 => ?_)
        refine g_iconst (v := (nI 1)) (q := 162) ok dX10_readsSum_161 rfl (by decide) ?_
        exact g_zret ok dX10_readsSum_162 rfl
      · refine g_aload_n (q := 147) ok dX10_readsSum_146 rfl 0 rfl rfl ?_
        refine g_iconst (v := (nI 1)) (q := 148) ok dX10_readsSum_147 rfl (by decide) ?_
        refine g_aload_n (q := 149) ok dX10_readsSum_148 rfl 0 rfl rfl ?_
        refine g_getI (q := 152) (N := 0) ok dX10_readsSum_149 rfl fl_X10_203 sM_0 rfl ?_
        refine g_callVi (q := 155) (As := [.int (nI 1), .int (w7.1 0 15)]) (st := []) ok tbl_good dX10_readsSum_152 rfl (kX10_wrongAt _ _ _) cf_X10_206 ⟨rfl, rfl, Nat.le_of_ble_eq_true rfl, Nat.le_of_ble_eq_true rfl⟩ sM_0 rfl rfl rfl (fun _ => Nat.le_of_ble_eq_true rfl) (fun v9 w10 => ?_)
        exact g_zretv ok dX10_readsSum_155
    · refine g_to (L' := [(0, .ref 0), (1, .int v1)]) ?_ [1, 0] rfl
      refine g_loop0 (Lf := [(0, .ref 0), (1, .int v1)]) (fun go11 hgo11 w12 => ?_) N _
      unfold xX10_readsSum_b14
      refine g_join (P := fun k13 => ∀ (w14 : gT), gJ S2 cl2 rmX10_readsSum 3 gi κ 163 [(0, .ref 0), (1, .int v1)] [] w14 (k13 w14)) (fun w14 => ?_) (fun k13 hk13 => ?_)
      · refine g_goto (q := 14) ok dX10_readsSum_163 (by decide) ?_
        exact hgo11 _
      · refine g_aload_n (q := 15) ok dX10_readsSum_14 rfl 0 rfl rfl ?_
        refine g_callVi (q := 18) (As := []) (st := []) ok tbl_good dX10_readsSum_15 rfl (kX10_here _) cf_X10_199 ⟨rfl, rfl, Nat.le_of_ble_eq_true rfl, Nat.le_of_ble_eq_true rfl⟩ sM_0 rfl rfl rfl (fun _ => Nat.le_of_ble_eq_true rfl) (fun v15 w16 => ?_)
        refine g_callSi (q := 21) (As := [.int v15]) (st := []) ok tbl_good dX10_readsSum_18 rfl (kX10_sumSign _ _) cf_X10_272 ⟨rfl, rfl, Nat.le_of_ble_eq_true rfl, Nat.le_of_ble_eq_true rfl⟩ rfl rfl (fun _ => Nat.le_of_ble_eq_true rfl) (fun v17 w18 => ?_)
        refine g_istore_n (q := 22) (L' := [(2, .int v17), (0, .ref 0), (1, .int v1)]) ok dX10_readsSum_21 rfl rfl (by decide) rfl rfl ?_
        refine g_iload_n (q := 23) ok dX10_readsSum_22 rfl 0 rfl rfl ?_
        refine g_iconst (v := (-1)) (q := 24) ok dX10_readsSum_23 rfl (by decide) ?_
        refine g_icmp_eq (q := 27) (g := 83) ok dX10_readsSum_24 rfl (by decide) ?_ ?_
        · refine g_aload_n (q := 84) ok dX10_readsSum_83 rfl 1 rfl rfl ?_
          refine g_callVi (q := 87) (As := []) (st := []) ok tbl_good dX10_readsSum_84 rfl (kX10_here _) cf_X10_199 ⟨rfl, rfl, Nat.le_of_ble_eq_true rfl, Nat.le_of_ble_eq_true rfl⟩ sM_0 rfl rfl rfl (fun _ => Nat.le_of_ble_eq_true rfl) (fun v19 w20 => ?_)
          refine g_bipush (v := (nI 93)) (q := 89) ok dX10_readsSum_87 rfl (by decide) ?_
          refine g_icmp_ne (q := 92) (g := 138) ok dX10_readsSum_89 rfl (by decide) ?_ ?_
          · refine g_to (L' := [(0, .ref 0), (1, .int v1)]) ?_ [1, 2] rfl
            exact hk4 _
          · refine g_aload_n (q := 93) ok dX10_readsSum_92 rfl 1 rfl rfl ?_
            refine g_iload_n (q := 94) ok dX10_readsSum_93 rfl 2 rfl rfl ?_
            refine g_callVi (q := 97) (As := [.int v1]) (st := []) ok tbl_good dX10_readsSum_94 rfl (kX10_hasOpenSum N _ _) cf_X10_279 ⟨rfl, rfl, Nat.le_of_ble_eq_true rfl, Nat.le_of_ble_eq_true rfl⟩ sM_0 rfl rfl rfl (fun _ => Nat.le_of_ble_eq_true rfl) (fun v21 w22 => ?_)
            refine g_if_eq (q := 100) (g := 138) ok dX10_readsSum_97 rfl (by decide) ?_ ?_
            · refine g_to (L' := [(0, .ref 0), (1, .int v1)]) ?_ [1, 2] rfl
              exact hk4 _
            · refine g_aload_n (q := 101) ok dX10_readsSum_100 rfl 1 rfl rfl ?_
              refine g_iconst (v := (nI 1)) (q := 102) ok dX10_readsSum_101 rfl (by decide) ?_
              refine g_callVv (q := 105) (As := [.int (nI 1)]) (st := []) ok tbl_good dX10_readsSum_102 rfl (kX10_closesSums N _ _) cf_X10_275 ⟨rfl, rfl, Nat.le_of_ble_eq_true rfl, Nat.le_of_ble_eq_true rfl⟩ sM_0 rfl rfl rfl (fun _ => Nat.le_of_ble_eq_true rfl) (fun w23 => ?_)
              refine g_aload_n (q := 106) ok dX10_readsSum_105 rfl 1 rfl rfl ?_
              refine g_aload_n (q := 107) ok dX10_readsSum_106 rfl 1 rfl rfl ?_
              refine g_getI (q := 110) (N := 0) ok dX10_readsSum_107 rfl fl_X10_249 sM_0 rfl ?_
              refine g_iconst (v := (nI 1)) (q := 111) ok dX10_readsSum_110 rfl (by decide) ?_
              refine g_isub (q := 112) ok dX10_readsSum_111 rfl ?_
              refine g_put (q := 115) ok dX10_readsSum_112 rfl fp_X10_249 sM_0 rfl rfl rfl ?_
              refine g_letw (fun w24 => ?_)
              refine g_aload_n (q := 116) ok dX10_readsSum_115 rfl 1 rfl rfl ?_
              refine g_aload_n (q := 117) ok dX10_readsSum_116 rfl 1 rfl rfl ?_
              refine g_getI (q := 120) (N := 0) ok dX10_readsSum_117 rfl fl_X10_246 sM_0 rfl ?_
              refine g_iconst (v := (nI 1)) (q := 121) ok dX10_readsSum_120 rfl (by decide) ?_
              refine g_isub (q := 122) ok dX10_readsSum_121 rfl ?_
              refine g_put (q := 125) ok dX10_readsSum_122 rfl fp_X10_246 sM_0 rfl rfl rfl ?_
              refine g_letw (fun w25 => ?_)
              refine g_aload_n (q := 126) ok dX10_readsSum_125 rfl 1 rfl rfl ?_
              refine g_aload_n (q := 127) ok dX10_readsSum_126 rfl 1 rfl rfl ?_
              refine g_getI (q := 130) (N := 0) ok dX10_readsSum_127 rfl fl_X10_203 sM_0 rfl ?_
              refine g_iconst (v := (nI 1)) (q := 131) ok dX10_readsSum_130 rfl (by decide) ?_
              refine g_iadd (q := 132) ok dX10_readsSum_131 rfl ?_
              refine g_put (q := 135) ok dX10_readsSum_132 rfl fp_X10_203 sM_0 rfl rfl rfl ?_
              refine g_letw (fun w26 => ?_)
              refine g_goto (q := 163) ok dX10_readsSum_135 (by decide) ?_
              refine g_to (L' := [(0, .ref 0), (1, .int v1)]) ?_ [1, 2] rfl
              exact hk13 _
        · refine g_join (P := fun k27 => ∀ (v28 : Int32) (w29 : gT), gJ S2 cl2 rmX10_readsSum 3 gi κ 38 [(0, .ref 0), (1, .int v1), (2, .int v17)] [.int v28, .ref 0] w29 (k27 v28 w29)) (fun v28 w29 => ?_) (fun k27 hk27 => ?_)
          · refine g_callVv (q := 41) (As := [.int v28]) (st := []) ok tbl_good dX10_readsSum_38 rfl (kX10_closesSums N _ _) cf_X10_275 ⟨rfl, rfl, Nat.le_of_ble_eq_true rfl, Nat.le_of_ble_eq_true rfl⟩ sM_0 rfl rfl rfl (fun _ => Nat.le_of_ble_eq_true rfl) (fun w30 => ?_)
            refine g_aload_n (q := 42) ok dX10_readsSum_41 rfl 0 rfl rfl ?_
            refine g_getR (q := 45) ok dX10_readsSum_42 rfl fl_X10_66 sM_0 rfl ?_
            refine g_aload_n (q := 46) ok dX10_readsSum_45 rfl 0 rfl rfl ?_
            refine g_getI (q := 49) (N := 0) ok dX10_readsSum_46 rfl fl_X10_249 sM_0 rfl ?_
            refine g_ldc (q := 51) ok dX10_readsSum_49 rfl tw_1364 ?_
            refine g_iload_n (q := 52) ok dX10_readsSum_51 rfl 2 rfl rfl ?_
            refine g_imul (q := 53) ok dX10_readsSum_52 rfl ?_
            refine g_iast (q := 54) ok dX10_readsSum_53 rfl sM_19 ?_
            refine g_letw (fun w31 => ?_)
            refine g_aload_n (q := 55) ok dX10_readsSum_54 rfl 0 rfl rfl ?_
            refine g_aload_n (q := 56) ok dX10_readsSum_55 rfl 0 rfl rfl ?_
            refine g_getI (q := 59) (N := 0) ok dX10_readsSum_56 rfl fl_X10_249 sM_0 rfl ?_
            refine g_iconst (v := (nI 1)) (q := 60) ok dX10_readsSum_59 rfl (by decide) ?_
            refine g_iadd (q := 61) ok dX10_readsSum_60 rfl ?_
            refine g_put (q := 64) ok dX10_readsSum_61 rfl fp_X10_249 sM_0 rfl rfl rfl ?_
            refine g_letw (fun w32 => ?_)
            refine g_aload_n (q := 65) ok dX10_readsSum_64 rfl 0 rfl rfl ?_
            refine g_aload_n (q := 66) ok dX10_readsSum_65 rfl 0 rfl rfl ?_
            refine g_getI (q := 69) (N := 0) ok dX10_readsSum_66 rfl fl_X10_203 sM_0 rfl ?_
            refine g_iconst (v := (nI 1)) (q := 70) ok dX10_readsSum_69 rfl (by decide) ?_
            refine g_iadd (q := 71) ok dX10_readsSum_70 rfl ?_
            refine g_put (q := 74) ok dX10_readsSum_71 rfl fp_X10_203 sM_0 rfl rfl rfl ?_
            refine g_letw (fun w33 => ?_)
            refine g_aload_n (q := 75) ok dX10_readsSum_74 rfl 0 rfl rfl ?_
            refine g_callVi (q := 78) (As := []) (st := []) ok tbl_good dX10_readsSum_75 rfl (kX10_readsFactor N _) cf_X10_269 ⟨rfl, rfl, Nat.le_of_ble_eq_true rfl, Nat.le_of_ble_eq_true rfl⟩ sM_0 rfl rfl rfl (fun _ => Nat.le_of_ble_eq_true rfl) (fun v34 w35 => ?_)
            refine g_if_ne (q := 81) (g := 163) ok dX10_readsSum_78 rfl (by decide) ?_ ?_
            · refine g_to (L' := [(0, .ref 0), (1, .int v1)]) ?_ [0, 1] rfl
              exact hk13 _
            · refine g_iconst (v := (nI 0)) (q := 82) ok dX10_readsSum_81 rfl (by decide) ?_
              exact g_zret ok dX10_readsSum_82 rfl
          · refine g_aload_n (q := 28) ok dX10_readsSum_27 rfl 1 rfl rfl ?_
            refine g_iload_n (q := 29) ok dX10_readsSum_28 rfl 0 rfl rfl ?_
            refine g_iconst (v := (nI 4)) (q := 30) ok dX10_readsSum_29 rfl (by decide) ?_
            refine g_icmp_ge (q := 33) (g := 37) ok dX10_readsSum_30 rfl (by decide) ?_ ?_
            · refine g_iconst (v := (nI 0)) (q := 38) ok dX10_readsSum_37 rfl (by decide) ?_
              refine g_to (L' := [(0, .ref 0), (1, .int v1), (2, .int v17)]) ?_ [1, 2, 0] rfl
              exact hk27 _ _
            · refine g_iconst (v := (nI 1)) (q := 34) ok dX10_readsSum_33 rfl (by decide) ?_
              refine g_goto (q := 38) ok dX10_readsSum_34 (by decide) ?_
              refine g_to (L' := [(0, .ref 0), (1, .int v1), (2, .int v17)]) ?_ [1, 2, 0] rfl
              exact hk27 _ _
  · refine g_iconst (v := (nI 0)) (q := 13) ok dX10_readsSum_12 rfl (by decide) ?_
    exact g_zret ok dX10_readsSum_13 rfl
