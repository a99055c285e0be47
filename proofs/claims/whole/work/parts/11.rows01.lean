set_option maxRecDepth 20000 in
theorem kX9_isRoom (a0 : Int32) (w : gT) : gM S1 cl1 gTs yX9_isRoom cX9_isRoom 1 (some .boolean) rmX9_isRoom gi [.int a0] w (xX9_isRoom a0 w) := by
  refine gM_of (own := RX9) [(0, .int a0)] rfl (by decide) (fun _ => rfl) (fun _ => Nat.le_of_ble_eq_true rfl) (fun κ ok => ?_)
  unfold xX9_isRoom
  refine g_iload_n (q := 1) ok dX9_isRoom_0 rfl 0 rfl rfl ?_
  refine g_if_lt (q := 4) (g := 14) ok dX9_isRoom_1 rfl (by decide) ?_ ?_
  · refine g_iconst (v := (nI 0)) (q := 15) ok dX9_isRoom_14 rfl (by decide) ?_
    exact g_zret ok dX9_isRoom_15 rfl
  · refine g_iload_n (q := 5) ok dX9_isRoom_4 rfl 0 rfl rfl ?_
    refine g_bipush (v := (nI 12)) (q := 7) ok dX9_isRoom_5 rfl (by decide) ?_
    refine g_icmp_ge (q := 10) (g := 14) ok dX9_isRoom_7 rfl (by decide) ?_ ?_
    · refine g_iconst (v := (nI 0)) (q := 15) ok dX9_isRoom_14 rfl (by decide) ?_
      exact g_zret ok dX9_isRoom_15 rfl
    · refine g_iconst (v := (nI 1)) (q := 11) ok dX9_isRoom_10 rfl (by decide) ?_
      refine g_goto (q := 15) ok dX9_isRoom_11 (by decide) ?_
      exact g_zret ok dX9_isRoom_15 rfl
set_option maxRecDepth 20000 in
theorem kX9_isDigit (a0 : Int32) (w : gT) : gM S1 cl1 gTs yX9_isDigit cX9_isDigit 1 (some .boolean) rmX9_isDigit gi [.int a0] w (xX9_isDigit a0 w) := by
  refine gM_of (own := RX9) [(0, .int a0)] rfl (by decide) (fun _ => rfl) (fun _ => Nat.le_of_ble_eq_true rfl) (fun κ ok => ?_)
  unfold xX9_isDigit
  refine g_iload_n (q := 1) ok dX9_isDigit_0 rfl 0 rfl rfl ?_
  refine g_if_lt (q := 4) (g := 14) ok dX9_isDigit_1 rfl (by decide) ?_ ?_
  · refine g_iconst (v := (nI 0)) (q := 15) ok dX9_isDigit_14 rfl (by decide) ?_
    exact g_zret ok dX9_isDigit_15 rfl
  · refine g_iload_n (q := 5) ok dX9_isDigit_4 rfl 0 rfl rfl ?_
    refine g_bipush (v := (nI 9)) (q := 7) ok dX9_isDigit_5 rfl (by decide) ?_
    refine g_icmp_gt (q := 10) (g := 14) ok dX9_isDigit_7 rfl (by decide) ?_ ?_
    · refine g_iconst (v := (nI 0)) (q := 15) ok dX9_isDigit_14 rfl (by decide) ?_
      exact g_zret ok dX9_isDigit_15 rfl
    · refine g_iconst (v := (nI 1)) (q := 11) ok dX9_isDigit_10 rfl (by decide) ?_
      refine g_goto (q := 15) ok dX9_isDigit_11 (by decide) ?_
      exact g_zret ok dX9_isDigit_15 rfl
set_option maxRecDepth 20000 in
theorem kX9_cats (a1 : Int32) (a2 : Int32) (w : gT) : gM S1 cl1 gTs yX9_cats cX9_cats 3 (some .boolean) rmX9_cats gi [.ref 0, .int a1, .int a2] w (xX9_cats a1 a2 w) := by
  refine gM_of (own := RX9) [(0, .ref 0), (1, .int a1), (2, .int a2)] rfl (by decide) (fun _ => rfl) (fun _ => Nat.le_of_ble_eq_true rfl) (fun κ ok => ?_)
  unfold xX9_cats
  refine g_iload_n (q := 1) ok dX9_cats_0 rfl 1 rfl rfl ?_
  refine g_callSi (q := 4) (As := [.int a1]) (st := []) ok tbl_good dX9_cats_1 rfl (kX9_isRoom _ _) cf_X9_93 ⟨rfl, rfl, Nat.le_of_ble_eq_true rfl, Nat.le_of_ble_eq_true rfl⟩ rfl rfl (fun _ => Nat.le_of_ble_eq_true rfl) (fun v1 w2 => ?_)
  refine g_if_eq (q := 7) (g := 14) ok dX9_cats_4 rfl (by decide) ?_ ?_
  · refine g_iconst (v := (nI 0)) (q := 15) ok dX9_cats_14 rfl (by decide) ?_
    exact g_zret ok dX9_cats_15 rfl
  · refine g_iload_n (q := 8) ok dX9_cats_7 rfl 2 rfl rfl ?_
    refine g_callSi (q := 11) (As := [.int a2]) (st := []) ok tbl_good dX9_cats_8 rfl (kX9_isDigit _ _) cf_X9_97 ⟨rfl, rfl, Nat.le_of_ble_eq_true rfl, Nat.le_of_ble_eq_true rfl⟩ rfl rfl (fun _ => Nat.le_of_ble_eq_true rfl) (fun v3 w4 => ?_)
    refine g_if_ne (q := 14) (g := 16) ok dX9_cats_11 rfl (by decide) ?_ ?_
    · refine g_aload_n (q := 17) ok dX9_cats_16 rfl 0 rfl rfl ?_
      refine g_getR (q := 20) ok dX9_cats_17 rfl fl_X9_12 sX_0 rfl ?_
      refine g_getR (q := 23) ok dX9_cats_20 rfl fl_X9_100 sX_1 rfl ?_
      refine g_iload_n (q := 24) ok dX9_cats_23 rfl 1 rfl rfl ?_
      refine g_iload_n (q := 25) ok dX9_cats_24 rfl 2 rfl rfl ?_
      refine g_iast (q := 26) ok dX9_cats_25 rfl sX_2 ?_
      refine g_letw (fun w5 => ?_)
      refine g_iconst (v := (nI 1)) (q := 27) ok dX9_cats_26 rfl (by decide) ?_
      exact g_zret ok dX9_cats_27 rfl
    · refine g_iconst (v := (nI 0)) (q := 15) ok dX9_cats_14 rfl (by decide) ?_
      exact g_zret ok dX9_cats_15 rfl
set_option maxRecDepth 20000 in
theorem kX9_isNight (a0 : Int32) (w : gT) : gM S1 cl1 gTs yX9_isNight cX9_isNight 1 (some .boolean) rmX9_isNight gi [.int a0] w (xX9_isNight a0 w) := by
  refine gM_of (own := RX9) [(0, .int a0)] rfl (by decide) (fun _ => rfl) (fun _ => Nat.le_of_ble_eq_true rfl) (fun κ ok => ?_)
  unfold xX9_isNight
  refine g_iload_n (q := 1) ok dX9_isNight_0 rfl 0 rfl rfl ?_
  refine g_if_lt (q := 4) (g := 14) ok dX9_isNight_1 rfl (by decide) ?_ ?_
  · refine g_iconst (v := (nI 0)) (q := 15) ok dX9_isNight_14 rfl (by decide) ?_
    exact g_zret ok dX9_isNight_15 rfl
  · refine g_iload_n (q := 5) ok dX9_isNight_4 rfl 0 rfl rfl ?_
    refine g_bipush (v := (nI 7)) (q := 7) ok dX9_isNight_5 rfl (by decide) ?_
    refine g_icmp_ge (q := 10) (g := 14) ok dX9_isNight_7 rfl (by decide) ?_ ?_
    · refine g_iconst (v := (nI 0)) (q := 15) ok dX9_isNight_14 rfl (by decide) ?_
      exact g_zret ok dX9_isNight_15 rfl
    · refine g_iconst (v := (nI 1)) (q := 11) ok dX9_isNight_10 rfl (by decide) ?_
      refine g_goto (q := 15) ok dX9_isNight_11 (by decide) ?_
      exact g_zret ok dX9_isNight_15 rfl
set_option maxRecDepth 20000 in
theorem kX9_allSouls (a1 : Int32) (w : gT) : gM S1 cl1 gTs yX9_allSouls cX9_allSouls 2 (some .boolean) rmX9_allSouls gi [.ref 0, .int a1] w (xX9_allSouls a1 w) := by
  refine gM_of (own := RX9) [(0, .ref 0), (1, .int a1)] rfl (by decide) (fun _ => rfl) (fun _ => Nat.le_of_ble_eq_true rfl) (fun κ ok => ?_)
  unfold xX9_allSouls
  refine g_join (P := fun k1 => ∀ (w2 : gT), gJ S1 cl1 rmX9_allSouls 2 gi κ 14 [(0, .ref 0), (1, .int a1)] [] w2 (k1 w2)) (fun w2 => ?_) (fun k1 hk1 => ?_)
  · refine g_aload_n (q := 15) ok dX9_allSouls_14 rfl 0 rfl rfl ?_
    refine g_getR (q := 18) ok dX9_allSouls_15 rfl fl_X9_12 sX_0 rfl ?_
    refine g_iload_n (q := 19) ok dX9_allSouls_18 rfl 1 rfl rfl ?_
    refine g_put (q := 22) ok dX9_allSouls_19 rfl fp_X9_106 sX_1 rfl rfl rfl ?_
    refine g_letw (fun w3 => ?_)
    refine g_iconst (v := (nI 1)) (q := 23) ok dX9_allSouls_22 rfl (by decide) ?_
    exact g_zret ok dX9_allSouls_23 rfl
  · refine g_iload_n (q := 1) ok dX9_allSouls_0 rfl 1 rfl rfl ?_
    refine g_iconst (v := (-1)) (q := 2) ok dX9_allSouls_1 rfl (by decide) ?_
    refine g_icmp_eq (q := 5) (g := 14) ok dX9_allSouls_2 rfl (by decide) ?_ ?_
    · exact hk1 _
    · refine g_iload_n (q := 6) ok dX9_allSouls_5 rfl 1 rfl rfl ?_
      refine g_callSi (q := 9) (As := [.int a1]) (st := []) ok tbl_good dX9_allSouls_6 rfl (kX9_isNight _ _) cf_X9_103 ⟨rfl, rfl, Nat.le_of_ble_eq_true rfl, Nat.le_of_ble_eq_true rfl⟩ rfl rfl (fun _ => Nat.le_of_ble_eq_true rfl) (fun v4 w5 => ?_)
      refine g_if_ne (q := 12) (g := 14) ok dX9_allSouls_9 rfl (by decide) ?_ ?_
      · exact hk1 _
      · refine g_iconst (v := (nI 0)) (q := 13) ok dX9_allSouls_12 rfl (by decide) ?_
        exact g_zret ok dX9_allSouls_13 rfl
set_option maxRecDepth 20000 in
theorem kX9_chains (a1 : Int32) (w : gT) : gM S1 cl1 gTs yX9_chains cX9_chains 2 (some .boolean) rmX9_chains gi [.ref 0, .int a1] w (xX9_chains a1 w) := by
  refine gM_of (own := RX9) [(0, .ref 0), (1, .int a1)] rfl (by decide) (fun _ => rfl) (fun _ => Nat.le_of_ble_eq_true rfl) (fun κ ok => ?_)
  unfold xX9_chains
  refine g_iload_n (q := 1) ok dX9_chains_0 rfl 1 rfl rfl ?_
  refine g_callSi (q := 4) (As := [.int a1]) (st := []) ok tbl_good dX9_chains_1 rfl (kX9_isDigit _ _) cf_X9_97 ⟨rfl, rfl, Nat.le_of_ble_eq_true rfl, Nat.le_of_ble_eq_true rfl⟩ rfl rfl (fun _ => Nat.le_of_ble_eq_true rfl) (fun v1 w2 => ?_)
  refine g_if_ne (q := 7) (g := 9) ok dX9_chains_4 rfl (by decide) ?_ ?_
  · refine g_aload_n (q := 10) ok dX9_chains_9 rfl 0 rfl rfl ?_
    refine g_getR (q := 13) ok dX9_chains_10 rfl fl_X9_12 sX_0 rfl ?_
    refine g_iload_n (q := 14) ok dX9_chains_13 rfl 1 rfl rfl ?_
    refine g_put (q := 17) ok dX9_chains_14 rfl fp_X9_110 sX_1 rfl rfl rfl ?_
    refine g_letw (fun w3 => ?_)
    refine g_iconst (v := (nI 1)) (q := 18) ok dX9_chains_17 rfl (by decide) ?_
    exact g_zret ok dX9_chains_18 rfl
  · refine g_iconst (v := (nI 0)) (q := 8) ok dX9_chains_7 rfl (by decide) ?_
    exact g_zret ok dX9_chains_8 rfl
set_option maxRecDepth 20000 in
theorem kX2_tellSleeper (N : Nat) (a1 : Int32) (a2 : Int32) (w : gT) : gM S1 cl1 gTs yX2_tellSleeper cX2_tellSleeper 4 none rmX2_tellSleeper gv [.ref 1, .int a1, .int a2] w (xX2_tellSleeper N a1 a2 w) := by
  refine gM_of (own := RX2) [(0, .ref 1), (1, .int a1), (2, .int a2)] rfl (by decide) (fun _ => rfl) (fun _ => Nat.le_of_ble_eq_true rfl) (fun κ ok => ?_)
  unfold xX2_tellSleeper
  refine g_aload_n (q := 1) ok dX2_tellSleeper_0 rfl 0 rfl rfl ?_
  refine g_dup (q := 2) ok dX2_tellSleeper_1 rfl (fun _ => rfl) ?_
  refine g_getI (q := 5) (N := 0) ok dX2_tellSleeper_2 rfl fl_X2_46 sX_1 rfl ?_
  refine g_iconst (v := (nI 1)) (q := 6) ok dX2_tellSleeper_5 rfl (by decide) ?_
  refine g_iload_n (q := 7) ok dX2_tellSleeper_6 rfl 1 rfl rfl ?_
  refine g_ishl (q := 8) ok dX2_tellSleeper_7 rfl ?_
  refine g_ior (q := 9) ok dX2_tellSleeper_8 rfl ?_
  refine g_put (q := 12) ok dX2_tellSleeper_9 rfl fp_X2_46 sX_1 rfl rfl rfl ?_
  refine g_letw (fun w1 => ?_)
  refine g_aload_n (q := 13) ok dX2_tellSleeper_12 rfl 0 rfl rfl ?_
  refine g_getR (q := 16) ok dX2_tellSleeper_13 rfl fl_X2_18 sX_1 rfl ?_
  refine g_iload_n (q := 17) ok dX2_tellSleeper_16 rfl 1 rfl rfl ?_
  refine g_iload_n (q := 18) ok dX2_tellSleeper_17 rfl 2 rfl rfl ?_
  refine g_iast (q := 19) ok dX2_tellSleeper_18 rfl sX_4 ?_
  refine g_letw (fun w2 => ?_)
  refine g_aload_n (q := 20) ok dX2_tellSleeper_19 rfl 0 rfl rfl ?_
  refine g_getR (q := 23) ok dX2_tellSleeper_20 rfl fl_X2_33 sX_1 rfl ?_
  refine g_bipush (v := (nI 10)) (q := 25) ok dX2_tellSleeper_23 rfl (by decide) ?_
  refine g_iload_n (q := 26) ok dX2_tellSleeper_25 rfl 1 rfl rfl ?_
  refine g_iadd (q := 27) ok dX2_tellSleeper_26 rfl ?_
  refine g_iconst (v := (nI 0)) (q := 28) ok dX2_tellSleeper_27 rfl (by decide) ?_
  refine g_iast (q := 29) ok dX2_tellSleeper_28 rfl sX_9 ?_
  refine g_letw (fun w3 => ?_)
  refine g_iconst (v := (nI 0)) (q := 30) ok dX2_tellSleeper_29 rfl (by decide) ?_
  refine g_istore_n (q := 31) (L' := [(3, .int (nI 0)), (0, .ref 1), (1, .int a1), (2, .int a2)]) ok dX2_tellSleeper_30 rfl rfl (by decide) rfl rfl ?_
  refine g_to (L' := [(0, .ref 1), (1, .int a1), (3, .int (nI 0))]) ?_ [1, 2, 0] rfl
  refine g_loop1 (Lf := fun v5 => [(0, .ref 1), (1, .int a1), (3, .int v5)]) (fun go4 hgo4 v5 w6 => ?_) N _ _
  unfold xX2_tellSleeper_b31
  refine g_iload_n (q := 32) ok dX2_tellSleeper_31 rfl 2 rfl rfl ?_
  refine g_bipush (v := (nI 7)) (q := 34) ok dX2_tellSleeper_32 rfl (by decide) ?_
  refine g_icmp_ge (q := 37) (g := 57) ok dX2_tellSleeper_34 rfl (by decide) ?_ ?_
  · exact g_vret ok dX2_tellSleeper_57
  · refine g_aload_n (q := 38) ok dX2_tellSleeper_37 rfl 0 rfl rfl ?_
    refine g_getR (q := 41) ok dX2_tellSleeper_38 rfl fl_X2_15 sX_1 rfl ?_
    refine g_iload_n (q := 42) ok dX2_tellSleeper_41 rfl 2 rfl rfl ?_
    refine g_bipush (v := (nI 10)) (q := 44) ok dX2_tellSleeper_42 rfl (by decide) ?_
    refine g_imul (q := 45) ok dX2_tellSleeper_44 rfl ?_
    refine g_iload_n (q := 46) ok dX2_tellSleeper_45 rfl 1 rfl rfl ?_
    refine g_iadd (q := 47) ok dX2_tellSleeper_46 rfl ?_
    refine g_sipush (v := (nI 255)) (q := 50) ok dX2_tellSleeper_47 rfl (by decide) ?_
    refine g_iast (q := 51) ok dX2_tellSleeper_50 rfl sX_3 ?_
    refine g_letw (fun w7 => ?_)
    refine g_iinc (v := v5 + (nI 1)) (q := 54) (L' := [(3, .int (v5 + (nI 1))), (0, .ref 1), (1, .int a1)]) ok dX2_tellSleeper_51 rfl 2 rfl rfl (by decide) rfl rfl ?_
    refine g_goto (q := 31) ok dX2_tellSleeper_54 (by decide) ?_
    refine g_to (L' := [(0, .ref 1), (1, .int a1), (3, .int (v5 + (nI 1)))]) ?_ [1, 2, 0] rfl
    exact hgo4 _ _
set_option maxRecDepth 20000 in
theorem kX9_sleeper (N : Nat) (a1 : Int32) (a2 : Int32) (w : gT) : gM S1 cl1 gTs yX9_sleeper cX9_sleeper 3 (some .boolean) rmX9_sleeper gi [.ref 0, .int a1, .int a2] w (xX9_sleeper N a1 a2 w) := by
  refine gM_of (own := RX9) [(0, .ref 0), (1, .int a1), (2, .int a2)] rfl (by decide) (fun _ => rfl) (fun _ => Nat.le_of_ble_eq_true rfl) (fun κ ok => ?_)
  unfold xX9_sleeper
  refine g_iload_n (q := 1) ok dX9_sleeper_0 rfl 1 rfl rfl ?_
  refine g_if_lt (q := 4) (g := 17) ok dX9_sleeper_1 rfl (by decide) ?_ ?_
  · refine g_iconst (v := (nI 0)) (q := 18) ok dX9_sleeper_17 rfl (by decide) ?_
    exact g_zret ok dX9_sleeper_18 rfl
  · refine g_iload_n (q := 5) ok dX9_sleeper_4 rfl 1 rfl rfl ?_
    refine g_bipush (v := (nI 10)) (q := 7) ok dX9_sleeper_5 rfl (by decide) ?_
    refine g_icmp_ge (q := 10) (g := 17) ok dX9_sleeper_7 rfl (by decide) ?_ ?_
    · refine g_iconst (v := (nI 0)) (q := 18) ok dX9_sleeper_17 rfl (by decide) ?_
      exact g_zret ok dX9_sleeper_18 rfl
    · refine g_iload_n (q := 11) ok dX9_sleeper_10 rfl 2 rfl rfl ?_
      refine g_callSi (q := 14) (As := [.int a2]) (st := []) ok tbl_good dX9_sleeper_11 rfl (kX9_isDigit _ _) cf_X9_97 ⟨rfl, rfl, Nat.le_of_ble_eq_true rfl, Nat.le_of_ble_eq_true rfl⟩ rfl rfl (fun _ => Nat.le_of_ble_eq_true rfl) (fun v1 w2 => ?_)
      refine g_if_ne (q := 17) (g := 19) ok dX9_sleeper_14 rfl (by decide) ?_ ?_
      · refine g_aload_n (q := 20) ok dX9_sleeper_19 rfl 0 rfl rfl ?_
        refine g_getR (q := 23) ok dX9_sleeper_20 rfl fl_X9_12 sX_0 rfl ?_
        refine g_iload_n (q := 24) ok dX9_sleeper_23 rfl 1 rfl rfl ?_
        refine g_iload_n (q := 25) ok dX9_sleeper_24 rfl 2 rfl rfl ?_
        refine g_callVv (q := 28) (As := [.int a1, .int a2]) (st := []) ok tbl_good dX9_sleeper_25 rfl (kX2_tellSleeper N _ _ _) cf_X9_113 ⟨rfl, rfl, Nat.le_of_ble_eq_true rfl, Nat.le_of_ble_eq_true rfl⟩ sX_1 rfl rfl rfl (fun _ => Nat.le_of_ble_eq_true rfl) (fun w3 => ?_)
        refine g_iconst (v := (nI 1)) (q := 29) ok dX9_sleeper_28 rfl (by decide) ?_
        exact g_zret ok dX9_sleeper_29 rfl
      · refine g_iconst (v := (nI 0)) (q := 18) ok dX9_sleeper_17 rfl (by decide) ?_
        exact g_zret ok dX9_sleeper_18 rfl
set_option maxRecDepth 20000 in
theorem kX2_hasSleeper (a1 : Int32) (w : gT) : gM S1 cl1 gTs yX2_hasSleeper cX2_hasSleeper 2 (some .boolean) rmX2_hasSleeper gi [.ref 1, .int a1] w (xX2_hasSleeper a1 w) := by
  refine gM_of (own := RX2) [(0, .ref 1), (1, .int a1)] rfl (by decide) (fun _ => rfl) (fun _ => Nat.le_of_ble_eq_true rfl) (fun κ ok => ?_)
  unfold xX2_hasSleeper
  refine g_iload_n (q := 1) ok dX2_hasSleeper_0 rfl 1 rfl rfl ?_
  refine g_if_lt (q := 4) (g := 26) ok dX2_hasSleeper_1 rfl (by decide) ?_ ?_
  · refine g_iconst (v := (nI 0)) (q := 27) ok dX2_hasSleeper_26 rfl (by decide) ?_
    exact g_zret ok dX2_hasSleeper_27 rfl
  · refine g_iload_n (q := 5) ok dX2_hasSleeper_4 rfl 1 rfl rfl ?_
    refine g_bipush (v := (nI 10)) (q := 7) ok dX2_hasSleeper_5 rfl (by decide) ?_
    refine g_icmp_ge (q := 10) (g := 26) ok dX2_hasSleeper_7 rfl (by decide) ?_ ?_
    · refine g_iconst (v := (nI 0)) (q := 27) ok dX2_hasSleeper_26 rfl (by decide) ?_
      exact g_zret ok dX2_hasSleeper_27 rfl
    · refine g_aload_n (q := 11) ok dX2_hasSleeper_10 rfl 0 rfl rfl ?_
      refine g_getI (q := 14) (N := 0) ok dX2_hasSleeper_11 rfl fl_X2_46 sX_1 rfl ?_
      refine g_iload_n (q := 15) ok dX2_hasSleeper_14 rfl 1 rfl rfl ?_
      refine g_ishr (q := 16) ok dX2_hasSleeper_15 rfl ?_
      refine g_iconst (v := (nI 1)) (q := 17) ok dX2_hasSleeper_16 rfl (by decide) ?_
      refine g_iand (q := 18) ok dX2_hasSleeper_17 rfl ?_
      refine g_iconst (v := (nI 1)) (q := 19) ok dX2_hasSleeper_18 rfl (by decide) ?_
      refine g_icmp_ne (q := 22) (g := 26) ok dX2_hasSleeper_19 rfl (by decide) ?_ ?_
      · refine g_iconst (v := (nI 0)) (q := 27) ok dX2_hasSleeper_26 rfl (by decide) ?_
        exact g_zret ok dX2_hasSleeper_27 rfl
      · refine g_iconst (v := (nI 1)) (q := 23) ok dX2_hasSleeper_22 rfl (by decide) ?_
        refine g_goto (q := 27) ok dX2_hasSleeper_23 (by decide) ?_
        exact g_zret ok dX2_hasSleeper_27 rfl
set_option maxRecDepth 20000 in
theorem kX9_sleeps (N : Nat) (a1 : Int32) (a2 : Int32) (a3 : Int32) (a4 : Int32) (w : gT) : gM S1 cl1 gTs yX9_sleeps cX9_sleeps 6 (some .boolean) rmX9_sleeps gi [.ref 0, .int a1, .int a2, .int a3, .int a4] w (xX9_sleeps N a1 a2 a3 a4 w) := by
  refine gM_of (own := RX9) [(0, .ref 0), (1, .int a1), (2, .int a2), (3, .int a3), (4, .int a4)] rfl (by decide) (fun _ => rfl) (fun _ => Nat.le_of_ble_eq_true rfl) (fun κ ok => ?_)
  unfold xX9_sleeps
  refine g_aload_n (q := 1) ok dX9_sleeps_0 rfl 0 rfl rfl ?_
  refine g_getR (q := 4) ok dX9_sleeps_1 rfl fl_X9_12 sX_0 rfl ?_
  refine g_iload_n (q := 5) ok dX9_sleeps_4 rfl 1 rfl rfl ?_
  refine g_callVi (q := 8) (As := [.int a1]) (st := []) ok tbl_good dX9_sleeps_5 rfl (kX2_hasSleeper _ _) cf_X9_117 ⟨rfl, rfl, Nat.le_of_ble_eq_true rfl, Nat.le_of_ble_eq_true rfl⟩ sX_1 rfl rfl rfl (fun _ => Nat.le_of_ble_eq_true rfl) (fun v1 w2 => ?_)
  refine g_if_eq (q := 11) (g := 26) ok dX9_sleeps_8 rfl (by decide) ?_ ?_
  · refine g_iconst (v := (nI 0)) (q := 27) ok dX9_sleeps_26 rfl (by decide) ?_
    exact g_zret ok dX9_sleeps_27 rfl
  · refine g_iload_n (q := 12) ok dX9_sleeps_11 rfl 2 rfl rfl ?_
    refine g_if_lt (q := 15) (g := 26) ok dX9_sleeps_12 rfl (by decide) ?_ ?_
    · refine g_iconst (v := (nI 0)) (q := 27) ok dX9_sleeps_26 rfl (by decide) ?_
      exact g_zret ok dX9_sleeps_27 rfl
    · refine g_iload_n (q := 16) ok dX9_sleeps_15 rfl 3 rfl rfl ?_
      refine g_bipush (v := (nI 7)) (q := 18) ok dX9_sleeps_16 rfl (by decide) ?_
      refine g_icmp_gt (q := 21) (g := 26) ok dX9_sleeps_18 rfl (by decide) ?_ ?_
      · refine g_iconst (v := (nI 0)) (q := 27) ok dX9_sleeps_26 rfl (by decide) ?_
        exact g_zret ok dX9_sleeps_27 rfl
      · refine g_iload_n (q := 22) ok dX9_sleeps_21 rfl 2 rfl rfl ?_
        refine g_iload_n (q := 23) ok dX9_sleeps_22 rfl 3 rfl rfl ?_
        refine g_icmp_lt (q := 26) (g := 28) ok dX9_sleeps_23 rfl (by decide) ?_ ?_
        · refine g_join (P := fun k3 => ∀ (w4 : gT), gJ S1 cl1 rmX9_sleeps 6 gi κ 44 [(0, .ref 0), (1, .int a1), (2, .int a2), (3, .int a3), (4, .int a4)] [] w4 (k3 w4)) (fun w4 => ?_) (fun k3 hk3 => ?_)
          · refine g_iload_n (q := 45) ok dX9_sleeps_44 rfl 2 rfl rfl ?_
            refine g_istore (q := 47) (L' := [(5, .int a2), (0, .ref 0), (1, .int a1), (2, .int a2), (3, .int a3), (4, .int a4)]) ok dX9_sleeps_45 rfl (by decide) rfl rfl ?_
            refine g_to (L' := [(0, .ref 0), (1, .int a1), (3, .int a3), (4, .int a4), (5, .int a2)]) ?_ [1, 2, 4, 5, 0] rfl
            refine g_loop1 (Lf := fun v6 => [(0, .ref 0), (1, .int a1), (3, .int a3), (4, .int a4), (5, .int v6)]) (fun go5 hgo5 v6 w7 => ?_) N _ _
            unfold xX9_sleeps_b47
            refine g_iload (q := 49) ok dX9_sleeps_47 rfl 4 rfl ?_
            refine g_iload_n (q := 50) ok dX9_sleeps_49 rfl 2 rfl rfl ?_
            refine g_icmp_ge (q := 53) (g := 88) ok dX9_sleeps_50 rfl (by decide) ?_ ?_
            · refine g_iconst (v := (nI 1)) (q := 89) ok dX9_sleeps_88 rfl (by decide) ?_
              exact g_zret ok dX9_sleeps_89 rfl
            · refine g_join (P := fun k8 => ∀ (v9 : Int32) (v10 : Int32) (w11 : gT), gJ S1 cl1 rmX9_sleeps 6 gi κ 81 [(0, .ref 0), (1, .int a1), (3, .int a3), (4, .int a4), (5, .int v6)] [.int v10, .int v9, .ref 3] w11 (k8 v9 v10 w11)) (fun v9 v10 w11 => ?_) (fun k8 hk8 => ?_)
              · refine g_iast (q := 82) ok dX9_sleeps_81 rfl sX_3 ?_
                refine g_letw (fun w12 => ?_)
                refine g_iinc (v := v6 + (nI 1)) (q := 85) (L' := [(5, .int (v6 + (nI 1))), (0, .ref 0), (1, .int a1), (3, .int a3), (4, .int a4)]) ok dX9_sleeps_82 rfl 4 rfl rfl (by decide) rfl rfl ?_
                refine g_goto (q := 47) ok dX9_sleeps_85 (by decide) ?_
                refine g_to (L' := [(0, .ref 0), (1, .int a1), (3, .int a3), (4, .int a4), (5, .int (v6 + (nI 1)))]) ?_ [1, 2, 3, 4, 0] rfl
                exact hgo5 _ _
              · refine g_aload_n (q := 54) ok dX9_sleeps_53 rfl 0 rfl rfl ?_
                refine g_getR (q := 57) ok dX9_sleeps_54 rfl fl_X9_12 sX_0 rfl ?_
                refine g_getR (q := 60) ok dX9_sleeps_57 rfl fl_X9_120 sX_1 rfl ?_
                refine g_iload (q := 62) ok dX9_sleeps_60 rfl 4 rfl ?_
                refine g_bipush (v := (nI 10)) (q := 64) ok dX9_sleeps_62 rfl (by decide) ?_
                refine g_imul (q := 65) ok dX9_sleeps_64 rfl ?_
                refine g_iload_n (q := 66) ok dX9_sleeps_65 rfl 1 rfl rfl ?_
                refine g_iadd (q := 67) ok dX9_sleeps_66 rfl ?_
                refine g_iload (q := 69) ok dX9_sleeps_67 rfl 3 rfl ?_
                refine g_iconst (v := (-1)) (q := 70) ok dX9_sleeps_69 rfl (by decide) ?_
                refine g_icmp_ne (q := 73) (g := 79) ok dX9_sleeps_70 rfl (by decide) ?_ ?_
                · refine g_iload (q := 81) ok dX9_sleeps_79 rfl 3 rfl ?_
                  exact hk8 _ _ _
                · refine g_sipush (v := (nI 255)) (q := 76) ok dX9_sleeps_73 rfl (by decide) ?_
                  refine g_goto (q := 81) ok dX9_sleeps_76 (by decide) ?_
                  exact hk8 _ _ _
          · refine g_iload (q := 30) ok dX9_sleeps_28 rfl 4 rfl ?_
            refine g_iconst (v := (-1)) (q := 31) ok dX9_sleeps_30 rfl (by decide) ?_
            refine g_icmp_eq (q := 34) (g := 44) ok dX9_sleeps_31 rfl (by decide) ?_ ?_
            · exact hk3 _
            · refine g_iload (q := 36) ok dX9_sleeps_34 rfl 4 rfl ?_
              refine g_callSi (q := 39) (As := [.int a4]) (st := []) ok tbl_good dX9_sleeps_36 rfl (kX9_isRoom _ _) cf_X9_93 ⟨rfl, rfl, Nat.le_of_ble_eq_true rfl, Nat.le_of_ble_eq_true rfl⟩ rfl rfl (fun _ => Nat.le_of_ble_eq_true rfl) (fun v13 w14 => ?_)
              refine g_if_ne (q := 42) (g := 44) ok dX9_sleeps_39 rfl (by decide) ?_ ?_
              · exact hk3 _
              · refine g_iconst (v := (nI 0)) (q := 43) ok dX9_sleeps_42 rfl (by decide) ?_
                exact g_zret ok dX9_sleeps_43 rfl
        · refine g_iconst (v := (nI 0)) (q := 27) ok dX9_sleeps_26 rfl (by decide) ?_
          exact g_zret ok dX9_sleeps_27 rfl
set_option maxRecDepth 20000 in
theorem kX2_tellGhost (a1 : Int32) (a2 : Int32) (a3 : Int32) (a4 : Int32) (a5 : Int32) (w : gT) : gM S1 cl1 gTs yX2_tellGhost cX2_tellGhost 6 none rmX2_tellGhost gv [.ref 1, .int a1, .int a2, .int a3, .int a4, .int a5] w (xX2_tellGhost a1 a2 a3 a4 a5 w) := by
  refine gM_of (own := RX2) [(0, .ref 1), (1, .int a1), (2, .int a2), (3, .int a3), (4, .int a4), (5, .int a5)] rfl (by decide) (fun _ => rfl) (fun _ => Nat.le_of_ble_eq_true rfl) (fun κ ok => ?_)
  unfold xX2_tellGhost
  refine g_aload_n (q := 1) ok dX2_tellGhost_0 rfl 0 rfl rfl ?_
  refine g_dup (q := 2) ok dX2_tellGhost_1 rfl (fun _ => rfl) ?_
  refine g_getI (q := 5) (N := 0) ok dX2_tellGhost_2 rfl fl_X2_43 sX_1 rfl ?_
  refine g_iconst (v := (nI 1)) (q := 6) ok dX2_tellGhost_5 rfl (by decide) ?_
  refine g_iload_n (q := 7) ok dX2_tellGhost_6 rfl 1 rfl rfl ?_
  refine g_ishl (q := 8) ok dX2_tellGhost_7 rfl ?_
  refine g_ior (q := 9) ok dX2_tellGhost_8 rfl ?_
  refine g_put (q := 12) ok dX2_tellGhost_9 rfl fp_X2_43 sX_1 rfl rfl rfl ?_
  refine g_letw (fun w1 => ?_)
  refine g_aload_n (q := 13) ok dX2_tellGhost_12 rfl 0 rfl rfl ?_
  refine g_getR (q := 16) ok dX2_tellGhost_13 rfl fl_X2_21 sX_1 rfl ?_
  refine g_iload_n (q := 17) ok dX2_tellGhost_16 rfl 1 rfl rfl ?_
  refine g_iload_n (q := 18) ok dX2_tellGhost_17 rfl 2 rfl rfl ?_
  refine g_iast (q := 19) ok dX2_tellGhost_18 rfl sX_5 ?_
  refine g_letw (fun w2 => ?_)
  refine g_aload_n (q := 20) ok dX2_tellGhost_19 rfl 0 rfl rfl ?_
  refine g_getR (q := 23) ok dX2_tellGhost_20 rfl fl_X2_24 sX_1 rfl ?_
  refine g_iload_n (q := 24) ok dX2_tellGhost_23 rfl 1 rfl rfl ?_
  refine g_iload_n (q := 25) ok dX2_tellGhost_24 rfl 3 rfl rfl ?_
  refine g_iast (q := 26) ok dX2_tellGhost_25 rfl sX_6 ?_
  refine g_letw (fun w3 => ?_)
  refine g_aload_n (q := 27) ok dX2_tellGhost_26 rfl 0 rfl rfl ?_
  refine g_getR (q := 30) ok dX2_tellGhost_27 rfl fl_X2_27 sX_1 rfl ?_
  refine g_iload_n (q := 31) ok dX2_tellGhost_30 rfl 1 rfl rfl ?_
  refine g_iload (q := 33) ok dX2_tellGhost_31 rfl 4 rfl ?_
  refine g_iast (q := 34) ok dX2_tellGhost_33 rfl sX_7 ?_
  refine g_letw (fun w4 => ?_)
  refine g_aload_n (q := 35) ok dX2_tellGhost_34 rfl 0 rfl rfl ?_
  refine g_getR (q := 38) ok dX2_tellGhost_35 rfl fl_X2_30 sX_1 rfl ?_
  refine g_iload_n (q := 39) ok dX2_tellGhost_38 rfl 1 rfl rfl ?_
  refine g_iload (q := 41) ok dX2_tellGhost_39 rfl 5 rfl ?_
  refine g_iast (q := 42) ok dX2_tellGhost_41 rfl sX_8 ?_
  refine g_letw (fun w5 => ?_)
  refine g_aload_n (q := 43) ok dX2_tellGhost_42 rfl 0 rfl rfl ?_
  refine g_getR (q := 46) ok dX2_tellGhost_43 rfl fl_X2_33 sX_1 rfl ?_
  refine g_bipush (v := (nI 20)) (q := 48) ok dX2_tellGhost_46 rfl (by decide) ?_
  refine g_iload_n (q := 49) ok dX2_tellGhost_48 rfl 1 rfl rfl ?_
  refine g_iadd (q := 50) ok dX2_tellGhost_49 rfl ?_
  refine g_iconst (v := (nI 0)) (q := 51) ok dX2_tellGhost_50 rfl (by decide) ?_
  refine g_iast (q := 52) ok dX2_tellGhost_51 rfl sX_9 ?_
  refine g_letw (fun w6 => ?_)
  refine g_aload_n (q := 53) ok dX2_tellGhost_52 rfl 0 rfl rfl ?_
  refine g_getR (q := 56) ok dX2_tellGhost_53 rfl fl_X2_33 sX_1 rfl ?_
  refine g_bipush (v := (nI 30)) (q := 58) ok dX2_tellGhost_56 rfl (by decide) ?_
  refine g_iload_n (q := 59) ok dX2_tellGhost_58 rfl 1 rfl rfl ?_
  refine g_iadd (q := 60) ok dX2_tellGhost_59 rfl ?_
  refine g_iconst (v := (nI 0)) (q := 61) ok dX2_tellGhost_60 rfl (by decide) ?_
  refine g_iast (q := 62) ok dX2_tellGhost_61 rfl sX_9 ?_
  refine g_letw (fun w7 => ?_)
  exact g_vret ok dX2_tellGhost_62
set_option maxRecDepth 20000 in
theorem kX9_ghost (a1 : Int32) (a2 : Int32) (a3 : Int32) (a4 : Int32) (a5 : Int32) (w : gT) : gM S1 cl1 gTs yX9_ghost cX9_ghost 6 (some .boolean) rmX9_ghost gi [.ref 0, .int a1, .int a2, .int a3, .int a4, .int a5] w (xX9_ghost a1 a2 a3 a4 a5 w) := by
  refine gM_of (own := RX9) [(0, .ref 0), (1, .int a1), (2, .int a2), (3, .int a3), (4, .int a4), (5, .int a5)] rfl (by decide) (fun _ => rfl) (fun _ => Nat.le_of_ble_eq_true rfl) (fun κ ok => ?_)
  unfold xX9_ghost
  refine g_iload_n (q := 1) ok dX9_ghost_0 rfl 1 rfl rfl ?_
  refine g_if_lt (q := 4) (g := 19) ok dX9_ghost_1 rfl (by decide) ?_ ?_
  · refine g_iconst (v := (nI 0)) (q := 20) ok dX9_ghost_19 rfl (by decide) ?_
    exact g_zret ok dX9_ghost_20 rfl
  · refine g_iload_n (q := 5) ok dX9_ghost_4 rfl 1 rfl rfl ?_
    refine g_bipush (v := (nI 10)) (q := 7) ok dX9_ghost_5 rfl (by decide) ?_
    refine g_icmp_ge (q := 10) (g := 19) ok dX9_ghost_7 rfl (by decide) ?_ ?_
    · refine g_iconst (v := (nI 0)) (q := 20) ok dX9_ghost_19 rfl (by decide) ?_
      exact g_zret ok dX9_ghost_20 rfl
    · refine g_iload_n (q := 11) ok dX9_ghost_10 rfl 2 rfl rfl ?_
      refine g_if_lt (q := 14) (g := 19) ok dX9_ghost_11 rfl (by decide) ?_ ?_
      · refine g_iconst (v := (nI 0)) (q := 20) ok dX9_ghost_19 rfl (by decide) ?_
        exact g_zret ok dX9_ghost_20 rfl
      · refine g_iload_n (q := 15) ok dX9_ghost_14 rfl 2 rfl rfl ?_
        refine g_iconst (v := (nI 4)) (q := 16) ok dX9_ghost_15 rfl (by decide) ?_
        refine g_icmp_le (q := 19) (g := 21) ok dX9_ghost_16 rfl (by decide) ?_ ?_
        · refine g_iload_n (q := 22) ok dX9_ghost_21 rfl 3 rfl rfl ?_
          refine g_callSi (q := 25) (As := [.int a3]) (st := []) ok tbl_good dX9_ghost_22 rfl (kX9_isDigit _ _) cf_X9_97 ⟨rfl, rfl, Nat.le_of_ble_eq_true rfl, Nat.le_of_ble_eq_true rfl⟩ rfl rfl (fun _ => Nat.le_of_ble_eq_true rfl) (fun v1 w2 => ?_)
          refine g_if_eq (q := 28) (g := 49) ok dX9_ghost_25 rfl (by decide) ?_ ?_
          · refine g_iconst (v := (nI 0)) (q := 50) ok dX9_ghost_49 rfl (by decide) ?_
            exact g_zret ok dX9_ghost_50 rfl
          · refine g_iload (q := 30) ok dX9_ghost_28 rfl 4 rfl ?_
            refine g_callSi (q := 33) (As := [.int a4]) (st := []) ok tbl_good dX9_ghost_30 rfl (kX9_isDigit _ _) cf_X9_97 ⟨rfl, rfl, Nat.le_of_ble_eq_true rfl, Nat.le_of_ble_eq_true rfl⟩ rfl rfl (fun _ => Nat.le_of_ble_eq_true rfl) (fun v3 w4 => ?_)
            refine g_if_eq (q := 36) (g := 49) ok dX9_ghost_33 rfl (by decide) ?_ ?_
            · refine g_iconst (v := (nI 0)) (q := 50) ok dX9_ghost_49 rfl (by decide) ?_
              exact g_zret ok dX9_ghost_50 rfl
            · refine g_iload (q := 38) ok dX9_ghost_36 rfl 5 rfl ?_
              refine g_if_lt (q := 41) (g := 49) ok dX9_ghost_38 rfl (by decide) ?_ ?_
              · refine g_iconst (v := (nI 0)) (q := 50) ok dX9_ghost_49 rfl (by decide) ?_
                exact g_zret ok dX9_ghost_50 rfl
              · refine g_iload (q := 43) ok dX9_ghost_41 rfl 5 rfl ?_
                refine g_sipush (v := (nI 999)) (q := 46) ok dX9_ghost_43 rfl (by decide) ?_
                refine g_icmp_le (q := 49) (g := 51) ok dX9_ghost_46 rfl (by decide) ?_ ?_
                · refine g_aload_n (q := 52) ok dX9_ghost_51 rfl 0 rfl rfl ?_
                  refine g_getR (q := 55) ok dX9_ghost_52 rfl fl_X9_12 sX_0 rfl ?_
                  refine g_iload_n (q := 56) ok dX9_ghost_55 rfl 1 rfl rfl ?_
                  refine g_iload_n (q := 57) ok dX9_ghost_56 rfl 2 rfl rfl ?_
                  refine g_iload_n (q := 58) ok dX9_ghost_57 rfl 3 rfl rfl ?_
                  refine g_iload (q := 60) ok dX9_ghost_58 rfl 4 rfl ?_
                  refine g_iload (q := 62) ok dX9_ghost_60 rfl 5 rfl ?_
                  refine g_callVv (q := 65) (As := [.int a1, .int a2, .int a3, .int a4, .int a5]) (st := []) ok tbl_good dX9_ghost_62 rfl (kX2_tellGhost _ _ _ _ _ _) cf_X9_123 ⟨rfl, rfl, Nat.le_of_ble_eq_true rfl, Nat.le_of_ble_eq_true rfl⟩ sX_1 rfl rfl rfl (fun _ => Nat.le_of_ble_eq_true rfl) (fun w5 => ?_)
                  refine g_iconst (v := (nI 1)) (q := 66) ok dX9_ghost_65 rfl (by decide) ?_
                  exact g_zret ok dX9_ghost_66 rfl
                · refine g_iconst (v := (nI 0)) (q := 50) ok dX9_ghost_49 rfl (by decide) ?_
                  exact g_zret ok dX9_ghost_50 rfl
        · refine g_iconst (v := (nI 0)) (q := 20) ok dX9_ghost_19 rfl (by decide) ?_
          exact g_zret ok dX9_ghost_20 rfl
set_option maxRecDepth 20000 in
theorem kX6_hasSpace (w : gT) : gM S1 cl1 gTs yX6_hasSpace cX6_hasSpace 1 (some .boolean) rmX6_hasSpace gi [.ref 19] w (xX6_hasSpace w) := by
  refine gM_of (own := RX6) [(0, .ref 19)] rfl (by decide) (fun _ => rfl) (fun _ => Nat.le_of_ble_eq_true rfl) (fun κ ok => ?_)
  unfold xX6_hasSpace
  refine g_aload_n (q := 1) ok dX6_hasSpace_0 rfl 0 rfl rfl ?_
  refine g_getI (q := 4) (N := 0) ok dX6_hasSpace_1 rfl fl_X6_13 sX_19 rfl ?_
  refine g_bipush (v := (nI 20)) (q := 6) ok dX6_hasSpace_4 rfl (by decide) ?_
  refine g_iadd (q := 7) ok dX6_hasSpace_6 rfl ?_
  refine g_sipush (v := (nI 220)) (q := 10) ok dX6_hasSpace_7 rfl (by decide) ?_
  refine g_icmp_gt (q := 13) (g := 17) ok dX6_hasSpace_10 rfl (by decide) ?_ ?_
  · refine g_iconst (v := (nI 0)) (q := 18) ok dX6_hasSpace_17 rfl (by decide) ?_
    exact g_zret ok dX6_hasSpace_18 rfl
  · refine g_iconst (v := (nI 1)) (q := 14) ok dX6_hasSpace_13 rfl (by decide) ?_
    refine g_goto (q := 18) ok dX6_hasSpace_14 (by decide) ?_
    exact g_zret ok dX6_hasSpace_18 rfl
set_option maxRecDepth 20000 in
theorem kX6_push (N : Nat) (a1 : Int32) (w : gT) : gM S1 cl1 gTs yX6_push cX6_push 3 none rmX6_push gv [.ref 19, .int a1] w (xX6_push N a1 w) := by
  refine gM_of (own := RX6) [(0, .ref 19), (1, .int a1)] rfl (by decide) (fun _ => rfl) (fun _ => Nat.le_of_ble_eq_true rfl) (fun κ ok => ?_)
  unfold xX6_push
  refine g_bipush (v := (nI 24)) (q := 2) ok dX6_push_0 rfl (by decide) ?_
  refine g_istore_n (q := 3) (L' := [(2, .int (nI 24)), (0, .ref 19), (1, .int a1)]) ok dX6_push_2 rfl rfl (by decide) rfl rfl ?_
  refine g_to (L' := [(0, .ref 19), (1, .int a1), (2, .int (nI 24))]) ?_ [1, 2, 0] rfl
  refine g_loop1 (Lf := fun v2 => [(0, .ref 19), (1, .int a1), (2, .int v2)]) (fun go1 hgo1 v2 w3 => ?_) N _ _
  unfold xX6_push_b3
  refine g_iload_n (q := 4) ok dX6_push_3 rfl 2 rfl rfl ?_
  refine g_if_lt (q := 7) (g := 49) ok dX6_push_4 rfl (by decide) ?_ ?_
  · exact g_vret ok dX6_push_49
  · refine g_aload_n (q := 8) ok dX6_push_7 rfl 0 rfl rfl ?_
    refine g_getI (q := 11) (N := 0) ok dX6_push_8 rfl fl_X6_13 sX_19 rfl ?_
    refine g_sipush (v := (nI 220)) (q := 14) ok dX6_push_11 rfl (by decide) ?_
    refine g_icmp_ge (q := 17) (g := 49) ok dX6_push_14 rfl (by decide) ?_ ?_
    · exact g_vret ok dX6_push_49
    · refine g_aload_n (q := 18) ok dX6_push_17 rfl 0 rfl rfl ?_
      refine g_getR (q := 21) ok dX6_push_18 rfl fl_X6_9 sX_19 rfl ?_
      refine g_aload_n (q := 22) ok dX6_push_21 rfl 0 rfl rfl ?_
      refine g_getI (q := 25) (N := 0) ok dX6_push_22 rfl fl_X6_13 sX_19 rfl ?_
      refine g_iload_n (q := 26) ok dX6_push_25 rfl 1 rfl rfl ?_
      refine g_iload_n (q := 27) ok dX6_push_26 rfl 2 rfl rfl ?_
      refine g_ishr (q := 28) ok dX6_push_27 rfl ?_
      refine g_sipush (v := (nI 255)) (q := 31) ok dX6_push_28 rfl (by decide) ?_
      refine g_iand (q := 32) ok dX6_push_31 rfl ?_
      refine g_iast (q := 33) ok dX6_push_32 rfl sX_20 ?_
      refine g_letw (fun w4 => ?_)
      refine g_aload_n (q := 34) ok dX6_push_33 rfl 0 rfl rfl ?_
      refine g_dup (q := 35) ok dX6_push_34 rfl (fun _ => rfl) ?_
      refine g_getI (q := 38) (N := 0) ok dX6_push_35 rfl fl_X6_13 sX_19 rfl ?_
      refine g_iconst (v := (nI 1)) (q := 39) ok dX6_push_38 rfl (by decide) ?_
      refine g_iadd (q := 40) ok dX6_push_39 rfl ?_
      refine g_put (q := 43) ok dX6_push_40 rfl fp_X6_13 sX_19 rfl rfl rfl ?_
      refine g_letw (fun w5 => ?_)
      refine g_iinc (v := v2 + (-8)) (q := 46) (L' := [(2, .int (v2 + (-8))), (0, .ref 19), (1, .int a1)]) ok dX6_push_43 rfl 2 rfl rfl (by decide) rfl rfl ?_
      refine g_goto (q := 3) ok dX6_push_46 (by decide) ?_
      refine g_to (L' := [(0, .ref 19), (1, .int a1), (2, .int (v2 + (-8)))]) ?_ [1, 2, 0] rfl
      exact hgo1 _ _
set_option maxRecDepth 20000 in
theorem kX9_feed (N : Nat) (a1 : Int32) (a2 : Int32) (a3 : Int32) (a4 : Int32) (a5 : Int32) (w : gT) : gM S1 cl1 gTs yX9_feed cX9_feed 6 (some .int) rmX9_feed gi [.ref 0, .int a1, .int a2, .int a3, .int a4, .int a5] w (xX9_feed N a1 a2 a3 a4 a5 w) := by
  refine gM_of (own := RX9) [(0, .ref 0), (1, .int a1), (2, .int a2), (3, .int a3), (4, .int a4), (5, .int a5)] rfl (by decide) (fun _ => rfl) (fun _ => Nat.le_of_ble_eq_true rfl) (fun κ ok => ?_)
  unfold xX9_feed
  refine g_aload_n (q := 1) ok dX9_feed_0 rfl 0 rfl rfl ?_
  refine g_getR (q := 4) ok dX9_feed_1 rfl fl_X9_22 sX_0 rfl ?_
  refine g_callVi (q := 7) (As := []) (st := []) ok tbl_good dX9_feed_4 rfl (kX6_hasSpace _) cf_X9_127 ⟨rfl, rfl, Nat.le_of_ble_eq_true rfl, Nat.le_of_ble_eq_true rfl⟩ sX_19 rfl rfl rfl (fun _ => Nat.le_of_ble_eq_true rfl) (fun v1 w2 => ?_)
  refine g_if_ne (q := 10) (g := 12) ok dX9_feed_7 rfl (by decide) ?_ ?_
  · refine g_aload_n (q := 13) ok dX9_feed_12 rfl 0 rfl rfl ?_
    refine g_getR (q := 16) ok dX9_feed_13 rfl fl_X9_22 sX_0 rfl ?_
    refine g_iload_n (q := 17) ok dX9_feed_16 rfl 1 rfl rfl ?_
    refine g_callVv (q := 20) (As := [.int a1]) (st := []) ok tbl_good dX9_feed_17 rfl (kX6_push N _ _) cf_X9_131 ⟨rfl, rfl, Nat.le_of_ble_eq_true rfl, Nat.le_of_ble_eq_true rfl⟩ sX_19 rfl rfl rfl (fun _ => Nat.le_of_ble_eq_true rfl) (fun w3 => ?_)
    refine g_aload_n (q := 21) ok dX9_feed_20 rfl 0 rfl rfl ?_
    refine g_getR (q := 24) ok dX9_feed_21 rfl fl_X9_22 sX_0 rfl ?_
    refine g_iload_n (q := 25) ok dX9_feed_24 rfl 2 rfl rfl ?_
    refine g_callVv (q := 28) (As := [.int a2]) (st := []) ok tbl_good dX9_feed_25 rfl (kX6_push N _ _) cf_X9_131 ⟨rfl, rfl, Nat.le_of_ble_eq_true rfl, Nat.le_of_ble_eq_true rfl⟩ sX_19 rfl rfl rfl (fun _ => Nat.le_of_ble_eq_true rfl) (fun w4 => ?_)
    refine g_aload_n (q := 29) ok dX9_feed_28 rfl 0 rfl rfl ?_
    refine g_getR (q := 32) ok dX9_feed_29 rfl fl_X9_22 sX_0 rfl ?_
    refine g_iload_n (q := 33) ok dX9_feed_32 rfl 3 rfl rfl ?_
    refine g_callVv (q := 36) (As := [.int a3]) (st := []) ok tbl_good dX9_feed_33 rfl (kX6_push N _ _) cf_X9_131 ⟨rfl, rfl, Nat.le_of_ble_eq_true rfl, Nat.le_of_ble_eq_true rfl⟩ sX_19 rfl rfl rfl (fun _ => Nat.le_of_ble_eq_true rfl) (fun w5 => ?_)
    refine g_aload_n (q := 37) ok dX9_feed_36 rfl 0 rfl rfl ?_
    refine g_getR (q := 40) ok dX9_feed_37 rfl fl_X9_22 sX_0 rfl ?_
    refine g_iload (q := 42) ok dX9_feed_40 rfl 4 rfl ?_
    refine g_callVv (q := 45) (As := [.int a4]) (st := []) ok tbl_good dX9_feed_42 rfl (kX6_push N _ _) cf_X9_131 ⟨rfl, rfl, Nat.le_of_ble_eq_true rfl, Nat.le_of_ble_eq_true rfl⟩ sX_19 rfl rfl rfl (fun _ => Nat.le_of_ble_eq_true rfl) (fun w6 => ?_)
    refine g_aload_n (q := 46) ok dX9_feed_45 rfl 0 rfl rfl ?_
    refine g_getR (q := 49) ok dX9_feed_46 rfl fl_X9_22 sX_0 rfl ?_
    refine g_iload (q := 51) ok dX9_feed_49 rfl 5 rfl ?_
    refine g_callVv (q := 54) (As := [.int a5]) (st := []) ok tbl_good dX9_feed_51 rfl (kX6_push N _ _) cf_X9_131 ⟨rfl, rfl, Nat.le_of_ble_eq_true rfl, Nat.le_of_ble_eq_true rfl⟩ sX_19 rfl rfl rfl (fun _ => Nat.le_of_ble_eq_true rfl) (fun w7 => ?_)
    refine g_aload_n (q := 55) ok dX9_feed_54 rfl 0 rfl rfl ?_
    refine g_getR (q := 58) ok dX9_feed_55 rfl fl_X9_22 sX_0 rfl ?_
    refine g_getI (q := 61) (N := 0) ok dX9_feed_58 rfl fl_X9_135 sX_19 rfl ?_
    exact g_iret ok dX9_feed_61
  · refine g_iconst (v := (-1)) (q := 11) ok dX9_feed_10 rfl (by decide) ?_
    exact g_iret ok dX9_feed_11
set_option maxRecDepth 20000 in
theorem kX6_open (a1 : Int32) (w : gT) : gM S1 cl1 gTs yX6_open cX6_open 2 none rmX6_open gv [.ref 19, .int a1] w (xX6_open a1 w) := by
  refine gM_of (own := RX6) [(0, .ref 19), (1, .int a1)] rfl (by decide) (fun _ => rfl) (fun _ => Nat.le_of_ble_eq_true rfl) (fun κ ok => ?_)
  unfold xX6_open
  refine g_aload_n (q := 1) ok dX6_open_0 rfl 0 rfl rfl ?_
  refine g_iload_n (q := 2) ok dX6_open_1 rfl 1 rfl rfl ?_
  refine g_put (q := 5) ok dX6_open_2 rfl fp_X6_17 sX_19 rfl rfl rfl ?_
  refine g_letw (fun w1 => ?_)
  refine g_aload_n (q := 6) ok dX6_open_5 rfl 0 rfl rfl ?_
  refine g_iconst (v := (nI 0)) (q := 7) ok dX6_open_6 rfl (by decide) ?_
  refine g_put (q := 10) ok dX6_open_7 rfl fp_X6_13 sX_19 rfl rfl rfl ?_
  refine g_letw (fun w2 => ?_)
  refine g_aload_n (q := 11) ok dX6_open_10 rfl 0 rfl rfl ?_
  refine g_iconst (v := (nI 0)) (q := 12) ok dX6_open_11 rfl (by decide) ?_
  refine g_put (q := 15) ok dX6_open_12 rfl fp_X6_20 sX_19 rfl rfl rfl ?_
  refine g_letw (fun w3 => ?_)
  refine g_aload_n (q := 16) ok dX6_open_15 rfl 0 rfl rfl ?_
  refine g_iconst (v := (nI 0)) (q := 17) ok dX6_open_16 rfl (by decide) ?_
  refine g_put (q := 20) ok dX6_open_17 rfl fp_X6_23 sX_19 rfl rfl rfl ?_
  refine g_letw (fun w4 => ?_)
  exact g_vret ok dX6_open_20
set_option maxRecDepth 20000 in
theorem kX7_add (N : Nat) (a1 : Int32) (a2 : Int32) (a3 : Int32) (a4 : Int32) (w : gT) : gM S1 cl1 gTs yX7_add cX7_add 6 none rmX7_add gv [.ref 27, .int a1, .int a2, .int a3, .int a4] w (xX7_add N a1 a2 a3 a4 w) := by
  refine gM_of (own := RX7) [(0, .ref 27), (1, .int a1), (2, .int a2), (3, .int a3), (4, .int a4)] rfl (by decide) (fun _ => rfl) (fun _ => Nat.le_of_ble_eq_true rfl) (fun κ ok => ?_)
  unfold xX7_add
  refine g_aload_n (q := 1) ok dX7_add_0 rfl 0 rfl rfl ?_
  refine g_getI (q := 4) (N := 0) ok dX7_add_1 rfl fl_X7_27 sX_27 rfl ?_
  refine g_bipush (v := (nI 16)) (q := 6) ok dX7_add_4 rfl (by decide) ?_
  refine g_icmp_lt (q := 9) (g := 10) ok dX7_add_6 rfl (by decide) ?_ ?_
  · refine g_join (P := fun k1 => ∀ (v2 : Int32) (v3 : Int32) (w4 : gT), gJ S1 cl1 rmX7_add 6 gv κ 58 [(0, .ref 27), (1, .int a1), (2, .int a2)] [.int v3, .int v2, .ref 31] w4 (k1 v2 v3 w4)) (fun v2 v3 w4 => ?_) (fun k1 hk1 => ?_)
    · refine g_iast (q := 59) ok dX7_add_58 rfl sX_31 ?_
      refine g_letw (fun w5 => ?_)
      refine g_aload_n (q := 60) ok dX7_add_59 rfl 0 rfl rfl ?_
      refine g_getR (q := 63) ok dX7_add_60 rfl fl_X7_24 sX_27 rfl ?_
      refine g_aload_n (q := 64) ok dX7_add_63 rfl 0 rfl rfl ?_
      refine g_getI (q := 67) (N := 0) ok dX7_add_64 rfl fl_X7_27 sX_27 rfl ?_
      refine g_iconst (v := (nI 1)) (q := 68) ok dX7_add_67 rfl (by decide) ?_
      refine g_iast (q := 69) ok dX7_add_68 rfl sX_32 ?_
      refine g_letw (fun w6 => ?_)
      refine g_iconst (v := (nI 0)) (q := 70) ok dX7_add_69 rfl (by decide) ?_
      refine g_istore (q := 72) (L' := [(5, .int (nI 0)), (0, .ref 27), (1, .int a1), (2, .int a2)]) ok dX7_add_70 rfl (by decide) rfl rfl ?_
      refine g_to (L' := [(0, .ref 27), (1, .int a1), (2, .int a2), (5, .int (nI 0))]) ?_ [1, 2, 3, 0] rfl
      refine g_loop1 (Lf := fun v8 => [(0, .ref 27), (1, .int a1), (2, .int a2), (5, .int v8)]) (fun go7 hgo7 v8 w9 => ?_) N _ _
      unfold xX7_add_b72
      refine g_iload (q := 74) ok dX7_add_72 rfl 3 rfl ?_
      refine g_aload_n (q := 75) ok dX7_add_74 rfl 0 rfl rfl ?_
      refine g_getI (q := 78) (N := 0) ok dX7_add_75 rfl fl_X7_27 sX_27 rfl ?_
      refine g_icmp_ge (q := 81) (g := 119) ok dX7_add_78 rfl (by decide) ?_ ?_
      · refine g_aload_n (q := 120) ok dX7_add_119 rfl 0 rfl rfl ?_
        refine g_dup (q := 121) ok dX7_add_120 rfl (fun _ => rfl) ?_
        refine g_getI (q := 124) (N := 0) ok dX7_add_121 rfl fl_X7_27 sX_27 rfl ?_
        refine g_iconst (v := (nI 1)) (q := 125) ok dX7_add_124 rfl (by decide) ?_
        refine g_iadd (q := 126) ok dX7_add_125 rfl ?_
        refine g_put (q := 129) ok dX7_add_126 rfl fp_X7_27 sX_27 rfl rfl rfl ?_
        refine g_letw (fun w10 => ?_)
        exact g_vret ok dX7_add_129
      · refine g_join (P := fun k11 => ∀ (w12 : gT), gJ S1 cl1 rmX7_add 6 gv κ 113 [(0, .ref 27), (1, .int a1), (2, .int a2), (5, .int v8)] [] w12 (k11 w12)) (fun w12 => ?_) (fun k11 hk11 => ?_)
        · refine g_iinc (v := v8 + (nI 1)) (q := 116) (L' := [(5, .int (v8 + (nI 1))), (0, .ref 27), (1, .int a1), (2, .int a2)]) ok dX7_add_113 rfl 3 rfl rfl (by decide) rfl rfl ?_
          refine g_goto (q := 72) ok dX7_add_116 (by decide) ?_
          refine g_to (L' := [(0, .ref 27), (1, .int a1), (2, .int a2), (5, .int (v8 + (nI 1)))]) ?_ [1, 2, 3, 0] rfl
          exact hgo7 _ _
        · refine g_aload_n (q := 82) ok dX7_add_81 rfl 0 rfl rfl ?_
          refine g_getR (q := 85) ok dX7_add_82 rfl fl_X7_11 sX_27 rfl ?_
          refine g_iload (q := 87) ok dX7_add_85 rfl 3 rfl ?_
          refine g_iald (q := 88) ok dX7_add_87 rfl sX_28 ?_
          refine g_iload_n (q := 89) ok dX7_add_88 rfl 1 rfl rfl ?_
          refine g_icmp_ne (q := 92) (g := 113) ok dX7_add_89 rfl (by decide) ?_ ?_
          · exact hk11 _
          · refine g_aload_n (q := 93) ok dX7_add_92 rfl 0 rfl rfl ?_
            refine g_getR (q := 96) ok dX7_add_93 rfl fl_X7_15 sX_27 rfl ?_
            refine g_iload (q := 98) ok dX7_add_96 rfl 3 rfl ?_
            refine g_iald (q := 99) ok dX7_add_98 rfl sX_29 ?_
            refine g_iload_n (q := 100) ok dX7_add_99 rfl 2 rfl rfl ?_
            refine g_icmp_ne (q := 103) (g := 113) ok dX7_add_100 rfl (by decide) ?_ ?_
            · exact hk11 _
            · refine g_aload_n (q := 104) ok dX7_add_103 rfl 0 rfl rfl ?_
              refine g_getR (q := 107) ok dX7_add_104 rfl fl_X7_24 sX_27 rfl ?_
              refine g_aload_n (q := 108) ok dX7_add_107 rfl 0 rfl rfl ?_
              refine g_getI (q := 111) (N := 0) ok dX7_add_108 rfl fl_X7_27 sX_27 rfl ?_
              refine g_iconst (v := (nI 0)) (q := 112) ok dX7_add_111 rfl (by decide) ?_
              refine g_iast (q := 113) ok dX7_add_112 rfl sX_32 ?_
              refine g_letw (fun w13 => ?_)
              exact hk11 _
    · refine g_aload_n (q := 11) ok dX7_add_10 rfl 0 rfl rfl ?_
      refine g_getR (q := 14) ok dX7_add_11 rfl fl_X7_11 sX_27 rfl ?_
      refine g_aload_n (q := 15) ok dX7_add_14 rfl 0 rfl rfl ?_
      refine g_getI (q := 18) (N := 0) ok dX7_add_15 rfl fl_X7_27 sX_27 rfl ?_
      refine g_iload_n (q := 19) ok dX7_add_18 rfl 1 rfl rfl ?_
      refine g_iast (q := 20) ok dX7_add_19 rfl sX_28 ?_
      refine g_letw (fun w14 => ?_)
      refine g_aload_n (q := 21) ok dX7_add_20 rfl 0 rfl rfl ?_
      refine g_getR (q := 24) ok dX7_add_21 rfl fl_X7_15 sX_27 rfl ?_
      refine g_aload_n (q := 25) ok dX7_add_24 rfl 0 rfl rfl ?_
      refine g_getI (q := 28) (N := 0) ok dX7_add_25 rfl fl_X7_27 sX_27 rfl ?_
      refine g_iload_n (q := 29) ok dX7_add_28 rfl 2 rfl rfl ?_
      refine g_iast (q := 30) ok dX7_add_29 rfl sX_29 ?_
      refine g_letw (fun w15 => ?_)
      refine g_aload_n (q := 31) ok dX7_add_30 rfl 0 rfl rfl ?_
      refine g_getR (q := 34) ok dX7_add_31 rfl fl_X7_18 sX_27 rfl ?_
      refine g_aload_n (q := 35) ok dX7_add_34 rfl 0 rfl rfl ?_
      refine g_getI (q := 38) (N := 0) ok dX7_add_35 rfl fl_X7_27 sX_27 rfl ?_
      refine g_iload_n (q := 39) ok dX7_add_38 rfl 3 rfl rfl ?_
      refine g_iast (q := 40) ok dX7_add_39 rfl sX_30 ?_
      refine g_letw (fun w16 => ?_)
      refine g_aload_n (q := 41) ok dX7_add_40 rfl 0 rfl rfl ?_
      refine g_getR (q := 44) ok dX7_add_41 rfl fl_X7_21 sX_27 rfl ?_
      refine g_aload_n (q := 45) ok dX7_add_44 rfl 0 rfl rfl ?_
      refine g_getI (q := 48) (N := 0) ok dX7_add_45 rfl fl_X7_27 sX_27 rfl ?_
      refine g_iload (q := 50) ok dX7_add_48 rfl 4 rfl ?_
      refine g_if_eq (q := 53) (g := 57) ok dX7_add_50 rfl (by decide) ?_ ?_
      · refine g_iconst (v := (nI 0)) (q := 58) ok dX7_add_57 rfl (by decide) ?_
        refine g_to (L' := [(0, .ref 27), (1, .int a1), (2, .int a2)]) ?_ [0, 1, 2] rfl
        exact hk1 _ _ _
      · refine g_iconst (v := (nI 1)) (q := 54) ok dX7_add_53 rfl (by decide) ?_
        refine g_goto (q := 58) ok dX7_add_54 (by decide) ?_
        refine g_to (L' := [(0, .ref 27), (1, .int a1), (2, .int a2)]) ?_ [0, 1, 2] rfl
        exact hk1 _ _ _
  · exact g_vret ok dX7_add_9
set_option maxRecDepth 20000 in
theorem kX6_peek (w : gT) : gM S1 cl1 gTs yX6_peek cX6_peek 1 (some .int) rmX6_peek gi [.ref 19] w (xX6_peek w) := by
  refine gM_of (own := RX6) [(0, .ref 19)] rfl (by decide) (fun _ => rfl) (fun _ => Nat.le_of_ble_eq_true rfl) (fun κ ok => ?_)
  unfold xX6_peek
  refine g_aload_n (q := 1) ok dX6_peek_0 rfl 0 rfl rfl ?_
  refine g_getI (q := 4) (N := 0) ok dX6_peek_1 rfl fl_X6_23 sX_19 rfl ?_
  refine g_if_ne (q := 7) (g := 47) ok dX6_peek_4 rfl (by decide) ?_ ?_
  · refine g_iconst (v := (-1)) (q := 48) ok dX6_peek_47 rfl (by decide) ?_
    exact g_iret ok dX6_peek_48
  · refine g_aload_n (q := 8) ok dX6_peek_7 rfl 0 rfl rfl ?_
    refine g_getI (q := 11) (N := 0) ok dX6_peek_8 rfl fl_X6_20 sX_19 rfl ?_
    refine g_if_lt (q := 14) (g := 47) ok dX6_peek_11 rfl (by decide) ?_ ?_
    · refine g_iconst (v := (-1)) (q := 48) ok dX6_peek_47 rfl (by decide) ?_
      exact g_iret ok dX6_peek_48
    · refine g_aload_n (q := 15) ok dX6_peek_14 rfl 0 rfl rfl ?_
      refine g_getI (q := 18) (N := 0) ok dX6_peek_15 rfl fl_X6_20 sX_19 rfl ?_
      refine g_aload_n (q := 19) ok dX6_peek_18 rfl 0 rfl rfl ?_
      refine g_getI (q := 22) (N := 0) ok dX6_peek_19 rfl fl_X6_17 sX_19 rfl ?_
      refine g_icmp_ge (q := 25) (g := 47) ok dX6_peek_22 rfl (by decide) ?_ ?_
      · refine g_iconst (v := (-1)) (q := 48) ok dX6_peek_47 rfl (by decide) ?_
        exact g_iret ok dX6_peek_48
      · refine g_aload_n (q := 26) ok dX6_peek_25 rfl 0 rfl rfl ?_
        refine g_getI (q := 29) (N := 0) ok dX6_peek_26 rfl fl_X6_20 sX_19 rfl ?_
        refine g_sipush (v := (nI 220)) (q := 32) ok dX6_peek_29 rfl (by decide) ?_
        refine g_icmp_ge (q := 35) (g := 47) ok dX6_peek_32 rfl (by decide) ?_ ?_
        · refine g_iconst (v := (-1)) (q := 48) ok dX6_peek_47 rfl (by decide) ?_
          exact g_iret ok dX6_peek_48
        · refine g_aload_n (q := 36) ok dX6_peek_35 rfl 0 rfl rfl ?_
          refine g_getR (q := 39) ok dX6_peek_36 rfl fl_X6_9 sX_19 rfl ?_
          refine g_aload_n (q := 40) ok dX6_peek_39 rfl 0 rfl rfl ?_
          refine g_getI (q := 43) (N := 0) ok dX6_peek_40 rfl fl_X6_20 sX_19 rfl ?_
          refine g_iald (q := 44) ok dX6_peek_43 rfl sX_20 ?_
          refine g_goto (q := 48) ok dX6_peek_44 (by decide) ?_
          exact g_iret ok dX6_peek_48
set_option maxRecDepth 20000 in
theorem kX6_failAt (a1 : Int32) (a2 : Int32) (w : gT) : gM S1 cl1 gTs yX6_failAt cX6_failAt 3 none rmX6_failAt gv [.ref 19, .int a1, .int a2] w (xX6_failAt a1 a2 w) := by
  refine gM_of (own := RX6) [(0, .ref 19), (1, .int a1), (2, .int a2)] rfl (by decide) (fun _ => rfl) (fun _ => Nat.le_of_ble_eq_true rfl) (fun κ ok => ?_)
  unfold xX6_failAt
  refine g_aload_n (q := 1) ok dX6_failAt_0 rfl 0 rfl rfl ?_
  refine g_getI (q := 4) (N := 0) ok dX6_failAt_1 rfl fl_X6_23 sX_19 rfl ?_
  refine g_if_ne (q := 7) (g := 18) ok dX6_failAt_4 rfl (by decide) ?_ ?_
  · exact g_vret ok dX6_failAt_18
  · refine g_aload_n (q := 8) ok dX6_failAt_7 rfl 0 rfl rfl ?_
    refine g_sipush (v := (-1000)) (q := 11) ok dX6_failAt_8 rfl (by decide) ?_
    refine g_iload_n (q := 12) ok dX6_failAt_11 rfl 1 rfl rfl ?_
    refine g_imul (q := 13) ok dX6_failAt_12 rfl ?_
    refine g_iload_n (q := 14) ok dX6_failAt_13 rfl 2 rfl rfl ?_
    refine g_isub (q := 15) ok dX6_failAt_14 rfl ?_
    refine g_put (q := 18) ok dX6_failAt_15 rfl fp_X6_23 sX_19 rfl rfl rfl ?_
    refine g_letw (fun w1 => ?_)
    exact g_vret ok dX6_failAt_18
set_option maxRecDepth 20000 in
theorem kX6_fail (a1 : Int32) (w : gT) : gM S1 cl1 gTs yX6_fail cX6_fail 2 none rmX6_fail gv [.ref 19, .int a1] w (xX6_fail a1 w) := by
  refine gM_of (own := RX6) [(0, .ref 19), (1, .int a1)] rfl (by decide) (fun _ => rfl) (fun _ => Nat.le_of_ble_eq_true rfl) (fun κ ok => ?_)
  unfold xX6_fail
  refine g_aload_n (q := 1) ok dX6_fail_0 rfl 0 rfl rfl ?_
  refine g_iload_n (q := 2) ok dX6_fail_1 rfl 1 rfl rfl ?_
  refine g_aload_n (q := 3) ok dX6_fail_2 rfl 0 rfl rfl ?_
  refine g_getI (q := 6) (N := 0) ok dX6_fail_3 rfl fl_X6_20 sX_19 rfl ?_
  refine g_callVv (q := 9) (As := [.int a1, .int (w.1 19 3)]) (st := []) ok tbl_good dX6_fail_6 rfl (kX6_failAt _ _ _) cf_X6_30 ⟨rfl, rfl, Nat.le_of_ble_eq_true rfl, Nat.le_of_ble_eq_true rfl⟩ sX_19 rfl rfl rfl (fun _ => Nat.le_of_ble_eq_true rfl) (fun w1 => ?_)
  exact g_vret ok dX6_fail_9
set_option maxRecDepth 20000 in
theorem kX6_takeSign (a1 : Int32) (w : gT) : gM S1 cl1 gTs yX6_takeSign cX6_takeSign 2 none rmX6_takeSign gv [.ref 19, .int a1] w (xX6_takeSign a1 w) := by
  refine gM_of (own := RX6) [(0, .ref 19), (1, .int a1)] rfl (by decide) (fun _ => rfl) (fun _ => Nat.le_of_ble_eq_true rfl) (fun κ ok => ?_)
  unfold xX6_takeSign
  refine g_aload_n (q := 1) ok dX6_takeSign_0 rfl 0 rfl rfl ?_
  refine g_callVi (q := 4) (As := []) (st := []) ok tbl_good dX6_takeSign_1 rfl (kX6_peek _) cf_X6_26 ⟨rfl, rfl, Nat.le_of_ble_eq_true rfl, Nat.le_of_ble_eq_true rfl⟩ sX_19 rfl rfl rfl (fun _ => Nat.le_of_ble_eq_true rfl) (fun v1 w2 => ?_)
  refine g_iload_n (q := 5) ok dX6_takeSign_4 rfl 1 rfl rfl ?_
  refine g_icmp_ne (q := 8) (g := 21) ok dX6_takeSign_5 rfl (by decide) ?_ ?_
  · refine g_aload_n (q := 22) ok dX6_takeSign_21 rfl 0 rfl rfl ?_
    refine g_iconst (v := (nI 1)) (q := 23) ok dX6_takeSign_22 rfl (by decide) ?_
    refine g_callVv (q := 26) (As := [.int (nI 1)]) (st := []) ok tbl_good dX6_takeSign_23 rfl (kX6_fail _ _) cf_X6_34 ⟨rfl, rfl, Nat.le_of_ble_eq_true rfl, Nat.le_of_ble_eq_true rfl⟩ sX_19 rfl rfl rfl (fun _ => Nat.le_of_ble_eq_true rfl) (fun w3 => ?_)
    exact g_vret ok dX6_takeSign_26
  · refine g_aload_n (q := 9) ok dX6_takeSign_8 rfl 0 rfl rfl ?_
    refine g_dup (q := 10) ok dX6_takeSign_9 rfl (fun _ => rfl) ?_
    refine g_getI (q := 13) (N := 0) ok dX6_takeSign_10 rfl fl_X6_20 sX_19 rfl ?_
    refine g_iconst (v := (nI 1)) (q := 14) ok dX6_takeSign_13 rfl (by decide) ?_
    refine g_iadd (q := 15) ok dX6_takeSign_14 rfl ?_
    refine g_put (q := 18) ok dX6_takeSign_15 rfl fp_X6_20 sX_19 rfl rfl rfl ?_
    refine g_letw (fun w4 => ?_)
    refine g_goto (q := 26) ok dX6_takeSign_18 (by decide) ?_
    exact g_vret ok dX6_takeSign_26
set_option maxRecDepth 20000 in
theorem kX6_takeDigit (a1 : Int32) (w : gT) : gM S1 cl1 gTs yX6_takeDigit cX6_takeDigit 3 (some .int) rmX6_takeDigit gi [.ref 19, .int a1] w (xX6_takeDigit a1 w) := by
  refine gM_of (own := RX6) [(0, .ref 19), (1, .int a1)] rfl (by decide) (fun _ => rfl) (fun _ => Nat.le_of_ble_eq_true rfl) (fun κ ok => ?_)
  unfold xX6_takeDigit
  refine g_join (P := fun k1 => ∀ (w2 : gT), gJ S1 cl1 rmX6_takeDigit 3 gi κ 17 [(0, .ref 19)] [] w2 (k1 w2)) (fun w2 => ?_) (fun k1 hk1 => ?_)
  · refine g_aload_n (q := 18) ok dX6_takeDigit_17 rfl 0 rfl rfl ?_
    refine g_iconst (v := (nI 1)) (q := 19) ok dX6_takeDigit_18 rfl (by decide) ?_
    refine g_callVv (q := 22) (As := [.int (nI 1)]) (st := []) ok tbl_good dX6_takeDigit_19 rfl (kX6_fail _ _) cf_X6_34 ⟨rfl, rfl, Nat.le_of_ble_eq_true rfl, Nat.le_of_ble_eq_true rfl⟩ sX_19 rfl rfl rfl (fun _ => Nat.le_of_ble_eq_true rfl) (fun w3 => ?_)
    refine g_iconst (v := (nI 0)) (q := 23) ok dX6_takeDigit_22 rfl (by decide) ?_
    exact g_iret ok dX6_takeDigit_23
  · refine g_aload_n (q := 1) ok dX6_takeDigit_0 rfl 0 rfl rfl ?_
    refine g_callVi (q := 4) (As := []) (st := []) ok tbl_good dX6_takeDigit_1 rfl (kX6_peek _) cf_X6_26 ⟨rfl, rfl, Nat.le_of_ble_eq_true rfl, Nat.le_of_ble_eq_true rfl⟩ sX_19 rfl rfl rfl (fun _ => Nat.le_of_ble_eq_true rfl) (fun v4 w5 => ?_)
    refine g_bipush (v := (nI 48)) (q := 6) ok dX6_takeDigit_4 rfl (by decide) ?_
    refine g_isub (q := 7) ok dX6_takeDigit_6 rfl ?_
    refine g_leti (fun v6 => ?_)
    refine g_istore_n (q := 8) (L' := [(2, .int v6), (0, .ref 19), (1, .int a1)]) ok dX6_takeDigit_7 rfl rfl (by decide) rfl rfl ?_
    refine g_iload_n (q := 9) ok dX6_takeDigit_8 rfl 0 rfl rfl ?_
    refine g_if_lt (q := 12) (g := 17) ok dX6_takeDigit_9 rfl (by decide) ?_ ?_
    · refine g_to (L' := [(0, .ref 19)]) ?_ [1] rfl
      exact hk1 _
    · refine g_iload_n (q := 13) ok dX6_takeDigit_12 rfl 0 rfl rfl ?_
      refine g_iload_n (q := 14) ok dX6_takeDigit_13 rfl 2 rfl rfl ?_
      refine g_icmp_le (q := 17) (g := 24) ok dX6_takeDigit_14 rfl (by decide) ?_ ?_
      · refine g_aload_n (q := 25) ok dX6_takeDigit_24 rfl 1 rfl rfl ?_
        refine g_dup (q := 26) ok dX6_takeDigit_25 rfl (fun _ => rfl) ?_
        refine g_getI (q := 29) (N := 0) ok dX6_takeDigit_26 rfl fl_X6_20 sX_19 rfl ?_
        refine g_iconst (v := (nI 1)) (q := 30) ok dX6_takeDigit_29 rfl (by decide) ?_
        refine g_iadd (q := 31) ok dX6_takeDigit_30 rfl ?_
        refine g_put (q := 34) ok dX6_takeDigit_31 rfl fp_X6_20 sX_19 rfl rfl rfl ?_
        refine g_letw (fun w7 => ?_)
        refine g_iload_n (q := 35) ok dX6_takeDigit_34 rfl 0 rfl rfl ?_
        exact g_iret ok dX6_takeDigit_35
      · refine g_to (L' := [(0, .ref 19)]) ?_ [1] rfl
        exact hk1 _
set_option maxRecDepth 20000 in
theorem kX6_isAtDigit (w : gT) : gM S1 cl1 gTs yX6_isAtDigit cX6_isAtDigit 1 (some .boolean) rmX6_isAtDigit gi [.ref 19] w (xX6_isAtDigit w) := by
  refine gM_of (own := RX6) [(0, .ref 19)] rfl (by decide) (fun _ => rfl) (fun _ => Nat.le_of_ble_eq_true rfl) (fun κ ok => ?_)
  unfold xX6_isAtDigit
  refine g_aload_n (q := 1) ok dX6_isAtDigit_0 rfl 0 rfl rfl ?_
  refine g_callVi (q := 4) (As := []) (st := []) ok tbl_good dX6_isAtDigit_1 rfl (kX6_peek _) cf_X6_26 ⟨rfl, rfl, Nat.le_of_ble_eq_true rfl, Nat.le_of_ble_eq_true rfl⟩ sX_19 rfl rfl rfl (fun _ => Nat.le_of_ble_eq_true rfl) (fun v1 w2 => ?_)
  refine g_bipush (v := (nI 48)) (q := 6) ok dX6_isAtDigit_4 rfl (by decide) ?_
  refine g_icmp_lt (q := 9) (g := 22) ok dX6_isAtDigit_6 rfl (by decide) ?_ ?_
  · refine g_iconst (v := (nI 0)) (q := 23) ok dX6_isAtDigit_22 rfl (by decide) ?_
    exact g_zret ok dX6_isAtDigit_23 rfl
  · refine g_aload_n (q := 10) ok dX6_isAtDigit_9 rfl 0 rfl rfl ?_
    refine g_callVi (q := 13) (As := []) (st := []) ok tbl_good dX6_isAtDigit_10 rfl (kX6_peek _) cf_X6_26 ⟨rfl, rfl, Nat.le_of_ble_eq_true rfl, Nat.le_of_ble_eq_true rfl⟩ sX_19 rfl rfl rfl (fun _ => Nat.le_of_ble_eq_true rfl) (fun v3 w4 => ?_)
    refine g_bipush (v := (nI 57)) (q := 15) ok dX6_isAtDigit_13 rfl (by decide) ?_
    refine g_icmp_gt (q := 18) (g := 22) ok dX6_isAtDigit_15 rfl (by decide) ?_ ?_
    · refine g_iconst (v := (nI 0)) (q := 23) ok dX6_isAtDigit_22 rfl (by decide) ?_
      exact g_zret ok dX6_isAtDigit_23 rfl
    · refine g_iconst (v := (nI 1)) (q := 19) ok dX6_isAtDigit_18 rfl (by decide) ?_
      refine g_goto (q := 23) ok dX6_isAtDigit_19 (by decide) ?_
      exact g_zret ok dX6_isAtDigit_23 rfl
set_option maxRecDepth 20000 in
theorem kX7_readRoom (w : gT) : gM S1 cl1 gTs yX7_readRoom cX7_readRoom 3 (some .int) rmX7_readRoom gi [.ref 19] w (xX7_readRoom w) := by
  refine gM_of (own := RX7) [(0, .ref 19)] rfl (by decide) (fun _ => rfl) (fun _ => Nat.le_of_ble_eq_true rfl) (fun κ ok => ?_)
  unfold xX7_readRoom
  refine g_join (P := fun k1 => ∀ (v2 : Int32) (v3 : Int32) (w4 : gT), gJ S1 cl1 rmX7_readRoom 3 gi κ 31 [(0, .ref 19), (1, .int v2), (2, .int v3)] [] w4 (k1 v2 v3 w4)) (fun v2 v3 w4 => ?_) (fun k1 hk1 => ?_)
  · refine g_iload_n (q := 32) ok dX7_readRoom_31 rfl 2 rfl rfl ?_
    refine g_bipush (v := (nI 12)) (q := 34) ok dX7_readRoom_32 rfl (by decide) ?_
    refine g_icmp_lt (q := 37) (g := 43) ok dX7_readRoom_34 rfl (by decide) ?_ ?_
    · refine g_iload_n (q := 44) ok dX7_readRoom_43 rfl 2 rfl rfl ?_
      exact g_iret ok dX7_readRoom_44
    · refine g_aload_n (q := 38) ok dX7_readRoom_37 rfl 0 rfl rfl ?_
      refine g_iconst (v := (nI 3)) (q := 39) ok dX7_readRoom_38 rfl (by decide) ?_
      refine g_iload_n (q := 40) ok dX7_readRoom_39 rfl 1 rfl rfl ?_
      refine g_callVv (q := 43) (As := [.int (nI 3), .int v2]) (st := []) ok tbl_good dX7_readRoom_40 rfl (kX6_failAt _ _ _) cf_X7_73 ⟨rfl, rfl, Nat.le_of_ble_eq_true rfl, Nat.le_of_ble_eq_true rfl⟩ sX_19 rfl rfl rfl (fun _ => Nat.le_of_ble_eq_true rfl) (fun w5 => ?_)
      refine g_iload_n (q := 44) ok dX7_readRoom_43 rfl 2 rfl rfl ?_
      exact g_iret ok dX7_readRoom_44
  · refine g_aload_n (q := 1) ok dX7_readRoom_0 rfl 0 rfl rfl ?_
    refine g_getI (q := 4) (N := 0) ok dX7_readRoom_1 rfl fl_X7_70 sX_19 rfl ?_
    refine g_leti (fun v6 => ?_)
    refine g_istore_n (q := 5) (L' := [(1, .int v6), (0, .ref 19)]) ok dX7_readRoom_4 rfl rfl (by decide) rfl rfl ?_
    refine g_aload_n (q := 6) ok dX7_readRoom_5 rfl 1 rfl rfl ?_
    refine g_bipush (v := (nI 9)) (q := 8) ok dX7_readRoom_6 rfl (by decide) ?_
    refine g_callVi (q := 11) (As := [.int (nI 9)]) (st := []) ok tbl_good dX7_readRoom_8 rfl (kX6_takeDigit _ _) cf_X7_55 ⟨rfl, rfl, Nat.le_of_ble_eq_true rfl, Nat.le_of_ble_eq_true rfl⟩ sX_19 rfl rfl rfl (fun _ => Nat.le_of_ble_eq_true rfl) (fun v7 w8 => ?_)
    refine g_istore_n (q := 12) (L' := [(2, .int v7), (1, .int v6), (0, .ref 19)]) ok dX7_readRoom_11 rfl rfl (by decide) rfl rfl ?_
    refine g_aload_n (q := 13) ok dX7_readRoom_12 rfl 2 rfl rfl ?_
    refine g_callVi (q := 16) (As := []) (st := []) ok tbl_good dX7_readRoom_13 rfl (kX6_isAtDigit _) cf_X7_48 ⟨rfl, rfl, Nat.le_of_ble_eq_true rfl, Nat.le_of_ble_eq_true rfl⟩ sX_19 rfl rfl rfl (fun _ => Nat.le_of_ble_eq_true rfl) (fun v9 w10 => ?_)
    refine g_if_eq (q := 19) (g := 31) ok dX7_readRoom_16 rfl (by decide) ?_ ?_
    · refine g_to (L' := [(0, .ref 19), (1, .int v6), (2, .int v7)]) ?_ [2, 1, 0] rfl
      exact hk1 _ _ _
    · refine g_bipush (v := (nI 10)) (q := 21) ok dX7_readRoom_19 rfl (by decide) ?_
      refine g_iload_n (q := 22) ok dX7_readRoom_21 rfl 0 rfl rfl ?_
      refine g_imul (q := 23) ok dX7_readRoom_22 rfl ?_
      refine g_aload_n (q := 24) ok dX7_readRoom_23 rfl 2 rfl rfl ?_
      refine g_bipush (v := (nI 9)) (q := 26) ok dX7_readRoom_24 rfl (by decide) ?_
      refine g_callVi (q := 29) (As := [.int (nI 9)]) (st := [.int ((nI 10) * v7)]) ok tbl_good dX7_readRoom_26 rfl (kX6_takeDigit _ _) cf_X7_55 ⟨rfl, rfl, Nat.le_of_ble_eq_true rfl, Nat.le_of_ble_eq_true rfl⟩ sX_19 rfl rfl rfl (fun _ => Nat.le_of_ble_eq_true rfl) (fun v11 w12 => ?_)
      refine g_iadd (q := 30) ok dX7_readRoom_29 rfl ?_
      refine g_leti (fun v13 => ?_)
      refine g_istore_n (q := 31) (L' := [(2, .int v13), (1, .int v6), (0, .ref 19)]) ok dX7_readRoom_30 rfl rfl (by decide) rfl rfl ?_
      refine g_to (L' := [(0, .ref 19), (1, .int v6), (2, .int v13)]) ?_ [2, 1, 0] rfl
      exact hk1 _ _ _
set_option maxRecDepth 20000 in
theorem kX7_readWalk (N : Nat) (w : gT) : gM S1 cl1 gTs yX7_readWalk cX7_readWalk 6 none rmX7_readWalk gv [.ref 27, .ref 19] w (xX7_readWalk N w) := by
  refine gM_of (own := RX7) [(0, .ref 27), (1, .ref 19)] rfl (by decide) (fun _ => rfl) (fun _ => Nat.le_of_ble_eq_true rfl) (fun κ ok => ?_)
  unfold xX7_readWalk
  refine g_join (P := fun k1 => ∀ (w2 : gT), gJ S1 cl1 rmX7_readWalk 6 gv κ 21 [(0, .ref 27), (1, .ref 19)] [] w2 (k1 w2)) (fun w2 => ?_) (fun k1 hk1 => ?_)
  · refine g_join (P := fun k3 => ∀ (v4 : Int32) (v5 : Int32) (v6 : Int32) (v7 : Int32) (w8 : gT), gJ S1 cl1 rmX7_readWalk 6 gv κ 67 [(0, .ref 27), (1, .ref 19), (2, .int v4), (3, .int v5), (4, .int v6)] [.int v7] w8 (k3 v4 v5 v6 v7 w8)) (fun v4 v5 v6 v7 w8 => ?_) (fun k3 hk3 => ?_)
    · refine g_join (P := fun k9 => ∀ (v10 : Int32) (w11 : gT), gJ S1 cl1 rmX7_readWalk 6 gv κ 80 [(0, .ref 27), (1, .ref 19), (2, .int v4), (3, .int v5), (4, .int v6), (5, .int v10)] [] w11 (k9 v10 w11)) (fun v10 w11 => ?_) (fun k9 hk9 => ?_)
      · refine g_aload_n (q := 81) ok dX7_readWalk_80 rfl 1 rfl rfl ?_
        refine g_getI (q := 84) (N := 0) ok dX7_readWalk_81 rfl fl_X7_63 sX_19 rfl ?_
        refine g_if_ne (q := 87) (g := 97) ok dX7_readWalk_84 rfl (by decide) ?_ ?_
        · exact g_vret ok dX7_readWalk_97
        · refine g_aload_n (q := 88) ok dX7_readWalk_87 rfl 0 rfl rfl ?_
          refine g_iload_n (q := 89) ok dX7_readWalk_88 rfl 2 rfl rfl ?_
          refine g_iload_n (q := 90) ok dX7_readWalk_89 rfl 3 rfl rfl ?_
          refine g_iload (q := 92) ok dX7_readWalk_90 rfl 4 rfl ?_
          refine g_iload (q := 94) ok dX7_readWalk_92 rfl 5 rfl ?_
          refine g_callVv (q := 97) (As := [.int v4, .int v5, .int v6, .int v10]) (st := []) ok tbl_good dX7_readWalk_94 rfl (kX7_add N _ _ _ _ _) cf_X7_66 ⟨rfl, rfl, Nat.le_of_ble_eq_true rfl, Nat.le_of_ble_eq_true rfl⟩ sX_27 rfl rfl rfl (fun _ => Nat.le_of_ble_eq_true rfl) (fun w12 => ?_)
          exact g_vret ok dX7_readWalk_97
      · refine g_istore (q := 69) (L' := [(5, .int v7), (0, .ref 27), (1, .ref 19), (2, .int v4), (3, .int v5), (4, .int v6)]) ok dX7_readWalk_67 rfl (by decide) rfl rfl ?_
        refine g_iload (q := 71) ok dX7_readWalk_69 rfl 0 rfl ?_
        refine g_if_eq (q := 74) (g := 80) ok dX7_readWalk_71 rfl (by decide) ?_ ?_
        · refine g_to (L' := [(0, .ref 27), (1, .ref 19), (2, .int v4), (3, .int v5), (4, .int v6), (5, .int v7)]) ?_ [1, 2, 3, 4, 5, 0] rfl
          exact hk9 _ _
        · refine g_aload_n (q := 75) ok dX7_readWalk_74 rfl 2 rfl rfl ?_
          refine g_bipush (v := (nI 43)) (q := 77) ok dX7_readWalk_75 rfl (by decide) ?_
          refine g_callVv (q := 80) (As := [.int (nI 43)]) (st := []) ok tbl_good dX7_readWalk_77 rfl (kX6_takeSign _ _) cf_X7_41 ⟨rfl, rfl, Nat.le_of_ble_eq_true rfl, Nat.le_of_ble_eq_true rfl⟩ sX_19 rfl rfl rfl (fun _ => Nat.le_of_ble_eq_true rfl) (fun w13 => ?_)
          refine g_to (L' := [(0, .ref 27), (1, .ref 19), (2, .int v4), (3, .int v5), (4, .int v6), (5, .int v7)]) ?_ [1, 2, 3, 4, 5, 0] rfl
          exact hk9 _ _
    · refine g_aload_n (q := 22) ok dX7_readWalk_21 rfl 1 rfl rfl ?_
      refine g_bipush (v := (nI 9)) (q := 24) ok dX7_readWalk_22 rfl (by decide) ?_
      refine g_callVi (q := 27) (As := [.int (nI 9)]) (st := []) ok tbl_good dX7_readWalk_24 rfl (kX6_takeDigit _ _) cf_X7_55 ⟨rfl, rfl, Nat.le_of_ble_eq_true rfl, Nat.le_of_ble_eq_true rfl⟩ sX_19 rfl rfl rfl (fun _ => Nat.le_of_ble_eq_true rfl) (fun v14 w15 => ?_)
      refine g_istore_n (q := 28) (L' := [(2, .int v14), (0, .ref 27), (1, .ref 19)]) ok dX7_readWalk_27 rfl rfl (by decide) rfl rfl ?_
      refine g_aload_n (q := 29) ok dX7_readWalk_28 rfl 2 rfl rfl ?_
      refine g_bipush (v := (nI 64)) (q := 31) ok dX7_readWalk_29 rfl (by decide) ?_
      refine g_callVv (q := 34) (As := [.int (nI 64)]) (st := []) ok tbl_good dX7_readWalk_31 rfl (kX6_takeSign _ _) cf_X7_41 ⟨rfl, rfl, Nat.le_of_ble_eq_true rfl, Nat.le_of_ble_eq_true rfl⟩ sX_19 rfl rfl rfl (fun _ => Nat.le_of_ble_eq_true rfl) (fun w16 => ?_)
      refine g_aload_n (q := 35) ok dX7_readWalk_34 rfl 2 rfl rfl ?_
      refine g_bipush (v := (nI 6)) (q := 37) ok dX7_readWalk_35 rfl (by decide) ?_
      refine g_callVi (q := 40) (As := [.int (nI 6)]) (st := []) ok tbl_good dX7_readWalk_37 rfl (kX6_takeDigit _ _) cf_X7_55 ⟨rfl, rfl, Nat.le_of_ble_eq_true rfl, Nat.le_of_ble_eq_true rfl⟩ sX_19 rfl rfl rfl (fun _ => Nat.le_of_ble_eq_true rfl) (fun v17 w18 => ?_)
      refine g_istore_n (q := 41) (L' := [(3, .int v17), (2, .int v14), (0, .ref 27), (1, .ref 19)]) ok dX7_readWalk_40 rfl rfl (by decide) rfl rfl ?_
      refine g_aload_n (q := 42) ok dX7_readWalk_41 rfl 3 rfl rfl ?_
      refine g_bipush (v := (nI 45)) (q := 44) ok dX7_readWalk_42 rfl (by decide) ?_
      refine g_callVv (q := 47) (As := [.int (nI 45)]) (st := []) ok tbl_good dX7_readWalk_44 rfl (kX6_takeSign _ _) cf_X7_41 ⟨rfl, rfl, Nat.le_of_ble_eq_true rfl, Nat.le_of_ble_eq_true rfl⟩ sX_19 rfl rfl rfl (fun _ => Nat.le_of_ble_eq_true rfl) (fun w19 => ?_)
      refine g_aload_n (q := 48) ok dX7_readWalk_47 rfl 3 rfl rfl ?_
      refine g_callSi (q := 51) (As := [.ref 19]) (st := []) ok tbl_good dX7_readWalk_48 rfl (kX7_readRoom _) cf_X7_59 ⟨rfl, rfl, Nat.le_of_ble_eq_true rfl, Nat.le_of_ble_eq_true rfl⟩ rfl rfl (fun _ => Nat.le_of_ble_eq_true rfl) (fun v20 w21 => ?_)
      refine g_istore (q := 53) (L' := [(4, .int v20), (3, .int v17), (2, .int v14), (0, .ref 27), (1, .ref 19)]) ok dX7_readWalk_51 rfl (by decide) rfl rfl ?_
      refine g_aload_n (q := 54) ok dX7_readWalk_53 rfl 4 rfl rfl ?_
      refine g_callVi (q := 57) (As := []) (st := []) ok tbl_good dX7_readWalk_54 rfl (kX6_peek _) cf_X7_35 ⟨rfl, rfl, Nat.le_of_ble_eq_true rfl, Nat.le_of_ble_eq_true rfl⟩ sX_19 rfl rfl rfl (fun _ => Nat.le_of_ble_eq_true rfl) (fun v22 w23 => ?_)
      refine g_bipush (v := (nI 43)) (q := 59) ok dX7_readWalk_57 rfl (by decide) ?_
      refine g_icmp_ne (q := 62) (g := 66) ok dX7_readWalk_59 rfl (by decide) ?_ ?_
      · refine g_iconst (v := (nI 0)) (q := 67) ok dX7_readWalk_66 rfl (by decide) ?_
        refine g_to (L' := [(0, .ref 27), (1, .ref 19), (2, .int v14), (3, .int v17), (4, .int v20)]) ?_ [3, 4, 2, 1, 0] rfl
        exact hk3 _ _ _ _ _
      · refine g_iconst (v := (nI 1)) (q := 63) ok dX7_readWalk_62 rfl (by decide) ?_
        refine g_goto (q := 67) ok dX7_readWalk_63 (by decide) ?_
        refine g_to (L' := [(0, .ref 27), (1, .ref 19), (2, .int v14), (3, .int v17), (4, .int v20)]) ?_ [3, 4, 2, 1, 0] rfl
        exact hk3 _ _ _ _ _
  · refine g_aload_n (q := 1) ok dX7_readWalk_0 rfl 0 rfl rfl ?_
    refine g_getI (q := 4) (N := 0) ok dX7_readWalk_1 rfl fl_X7_27 sX_27 rfl ?_
    refine g_bipush (v := (nI 16)) (q := 6) ok dX7_readWalk_4 rfl (by decide) ?_
    refine g_icmp_ne (q := 9) (g := 21) ok dX7_readWalk_6 rfl (by decide) ?_ ?_
    · exact hk1 _
    · refine g_aload_n (q := 10) ok dX7_readWalk_9 rfl 1 rfl rfl ?_
      refine g_callVi (q := 13) (As := []) (st := []) ok tbl_good dX7_readWalk_10 rfl (kX6_isAtDigit _) cf_X7_48 ⟨rfl, rfl, Nat.le_of_ble_eq_true rfl, Nat.le_of_ble_eq_true rfl⟩ sX_19 rfl rfl rfl (fun _ => Nat.le_of_ble_eq_true rfl) (fun v24 w25 => ?_)
      refine g_if_eq (q := 16) (g := 21) ok dX7_readWalk_13 rfl (by decide) ?_ ?_
      · exact hk1 _
      · refine g_aload_n (q := 17) ok dX7_readWalk_16 rfl 1 rfl rfl ?_
        refine g_iconst (v := (nI 4)) (q := 18) ok dX7_readWalk_17 rfl (by decide) ?_
        refine g_callVv (q := 21) (As := [.int (nI 4)]) (st := []) ok tbl_good dX7_readWalk_18 rfl (kX6_fail _ _) cf_X7_52 ⟨rfl, rfl, Nat.le_of_ble_eq_true rfl, Nat.le_of_ble_eq_true rfl⟩ sX_19 rfl rfl rfl (fun _ => Nat.le_of_ble_eq_true rfl) (fun w26 => ?_)
        exact hk1 _
set_option maxRecDepth 20000 in
theorem kX6_takeEnd (w : gT) : gM S1 cl1 gTs yX6_takeEnd cX6_takeEnd 1 none rmX6_takeEnd gv [.ref 19] w (xX6_takeEnd w) := by
  refine gM_of (own := RX6) [(0, .ref 19)] rfl (by decide) (fun _ => rfl) (fun _ => Nat.le_of_ble_eq_true rfl) (fun κ ok => ?_)
  unfold xX6_takeEnd
  refine g_aload_n (q := 1) ok dX6_takeEnd_0 rfl 0 rfl rfl ?_
  refine g_callVi (q := 4) (As := []) (st := []) ok tbl_good dX6_takeEnd_1 rfl (kX6_peek _) cf_X6_26 ⟨rfl, rfl, Nat.le_of_ble_eq_true rfl, Nat.le_of_ble_eq_true rfl⟩ sX_19 rfl rfl rfl (fun _ => Nat.le_of_ble_eq_true rfl) (fun v1 w2 => ?_)
  refine g_iconst (v := (-1)) (q := 5) ok dX6_takeEnd_4 rfl (by decide) ?_
  refine g_icmp_eq (q := 8) (g := 13) ok dX6_takeEnd_5 rfl (by decide) ?_ ?_
  · exact g_vret ok dX6_takeEnd_13
  · refine g_aload_n (q := 9) ok dX6_takeEnd_8 rfl 0 rfl rfl ?_
    refine g_iconst (v := (nI 1)) (q := 10) ok dX6_takeEnd_9 rfl (by decide) ?_
    refine g_callVv (q := 13) (As := [.int (nI 1)]) (st := []) ok tbl_good dX6_takeEnd_10 rfl (kX6_fail _ _) cf_X6_34 ⟨rfl, rfl, Nat.le_of_ble_eq_true rfl, Nat.le_of_ble_eq_true rfl⟩ sX_19 rfl rfl rfl (fun _ => Nat.le_of_ble_eq_true rfl) (fun w3 => ?_)
    exact g_vret ok dX6_takeEnd_13
set_option maxRecDepth 20000 in
theorem kX7_readFrom (N : Nat) (w : gT) : gM S1 cl1 gTs yX7_readFrom cX7_readFrom 3 none rmX7_readFrom gv [.ref 27, .ref 19] w (xX7_readFrom N w) := by
  refine gM_of (own := RX7) [(0, .ref 27), (1, .ref 19)] rfl (by decide) (fun _ => rfl) (fun _ => Nat.le_of_ble_eq_true rfl) (fun κ ok => ?_)
  unfold xX7_readFrom
  refine g_aload_n (q := 1) ok dX7_readFrom_0 rfl 0 rfl rfl ?_
  refine g_iconst (v := (nI 0)) (q := 2) ok dX7_readFrom_1 rfl (by decide) ?_
  refine g_put (q := 5) ok dX7_readFrom_2 rfl fp_X7_27 sX_27 rfl rfl rfl ?_
  refine g_letw (fun w1 => ?_)
  refine g_aload_n (q := 6) ok dX7_readFrom_5 rfl 0 rfl rfl ?_
  refine g_aload_n (q := 7) ok dX7_readFrom_6 rfl 1 rfl rfl ?_
  refine g_callVv (q := 10) (As := [.ref 19]) (st := []) ok tbl_good dX7_readFrom_7 rfl (kX7_readWalk N _) cf_X7_31 ⟨rfl, rfl, Nat.le_of_ble_eq_true rfl, Nat.le_of_ble_eq_true rfl⟩ sX_27 rfl rfl rfl (fun _ => Nat.le_of_ble_eq_true rfl) (fun w2 => ?_)
  refine g_iconst (v := (nI 0)) (q := 11) ok dX7_readFrom_10 rfl (by decide) ?_
  refine g_istore_n (q := 12) (L' := [(2, .int (nI 0)), (0, .ref 27), (1, .ref 19)]) ok dX7_readFrom_11 rfl rfl (by decide) rfl rfl ?_
  refine g_join (P := fun k3 => ∀ (w4 : gT), gJ S1 cl1 rmX7_readFrom 3 gv κ 45 [(0, .ref 27), (1, .ref 19)] [] w4 (k3 w4)) (fun w4 => ?_) (fun k3 hk3 => ?_)
  · refine g_aload_n (q := 46) ok dX7_readFrom_45 rfl 1 rfl rfl ?_
    refine g_callVv (q := 49) (As := []) (st := []) ok tbl_good dX7_readFrom_46 rfl (kX6_takeEnd _) cf_X7_45 ⟨rfl, rfl, Nat.le_of_ble_eq_true rfl, Nat.le_of_ble_eq_true rfl⟩ sX_19 rfl rfl rfl (fun _ => Nat.le_of_ble_eq_true rfl) (fun w5 => ?_)
    exact g_vret ok dX7_readFrom_49
  · refine g_to (L' := [(0, .ref 27), (1, .ref 19), (2, .int (nI 0))]) ?_ [1, 2, 0] rfl
    refine g_loop1 (Lf := fun v7 => [(0, .ref 27), (1, .ref 19), (2, .int v7)]) (fun go6 hgo6 v7 w8 => ?_) N _ _
    unfold xX7_readFrom_b12
    refine g_iload_n (q := 13) ok dX7_readFrom_12 rfl 2 rfl rfl ?_
    refine g_sipush (v := (nI 160)) (q := 16) ok dX7_readFrom_13 rfl (by decide) ?_
    refine g_icmp_ge (q := 19) (g := 45) ok dX7_readFrom_16 rfl (by decide) ?_ ?_
    · refine g_to (L' := [(0, .ref 27), (1, .ref 19)]) ?_ [0, 1] rfl
      exact hk3 _
    · refine g_aload_n (q := 20) ok dX7_readFrom_19 rfl 1 rfl rfl ?_
      refine g_callVi (q := 23) (As := []) (st := []) ok tbl_good dX7_readFrom_20 rfl (kX6_peek _) cf_X7_35 ⟨rfl, rfl, Nat.le_of_ble_eq_true rfl, Nat.le_of_ble_eq_true rfl⟩ sX_19 rfl rfl rfl (fun _ => Nat.le_of_ble_eq_true rfl) (fun v9 w10 => ?_)
      refine g_bipush (v := (nI 59)) (q := 25) ok dX7_readFrom_23 rfl (by decide) ?_
      refine g_icmp_ne (q := 28) (g := 45) ok dX7_readFrom_25 rfl (by decide) ?_ ?_
      · refine g_to (L' := [(0, .ref 27), (1, .ref 19)]) ?_ [0, 1] rfl
        exact hk3 _
      · refine g_aload_n (q := 29) ok dX7_readFrom_28 rfl 1 rfl rfl ?_
        refine g_bipush (v := (nI 59)) (q := 31) ok dX7_readFrom_29 rfl (by decide) ?_
        refine g_callVv (q := 34) (As := [.int (nI 59)]) (st := []) ok tbl_good dX7_readFrom_31 rfl (kX6_takeSign _ _) cf_X7_41 ⟨rfl, rfl, Nat.le_of_ble_eq_true rfl, Nat.le_of_ble_eq_true rfl⟩ sX_19 rfl rfl rfl (fun _ => Nat.le_of_ble_eq_true rfl) (fun w11 => ?_)
        refine g_aload_n (q := 35) ok dX7_readFrom_34 rfl 0 rfl rfl ?_
        refine g_aload_n (q := 36) ok dX7_readFrom_35 rfl 1 rfl rfl ?_
        refine g_callVv (q := 39) (As := [.ref 19]) (st := []) ok tbl_good dX7_readFrom_36 rfl (kX7_readWalk N _) cf_X7_31 ⟨rfl, rfl, Nat.le_of_ble_eq_true rfl, Nat.le_of_ble_eq_true rfl⟩ sX_27 rfl rfl rfl (fun _ => Nat.le_of_ble_eq_true rfl) (fun w12 => ?_)
        refine g_iinc (v := v7 + (nI 1)) (q := 42) (L' := [(2, .int (v7 + (nI 1))), (0, .ref 27), (1, .ref 19)]) ok dX7_readFrom_39 rfl 2 rfl rfl (by decide) rfl rfl ?_
        refine g_goto (q := 12) ok dX7_readFrom_42 (by decide) ?_
        refine g_to (L' := [(0, .ref 27), (1, .ref 19), (2, .int (v7 + (nI 1)))]) ?_ [1, 2, 0] rfl
        exact hgo6 _ _
set_option maxRecDepth 20000 in
theorem kX7_copy (w : gT) : gM S1 cl1 gTs yX7_copy cX7_copy 2 none rmX7_copy gv [.ref 21, .ref 27] w (xX7_copy w) := by
  refine gM_of (own := RX7) [(0, .ref 21), (1, .ref 27)] rfl (by decide) (fun _ => rfl) (fun _ => Nat.le_of_ble_eq_true rfl) (fun κ ok => ?_)
  unfold xX7_copy
  refine g_aload_n (q := 1) ok dX7_copy_0 rfl 1 rfl rfl ?_
  refine g_getR (q := 4) ok dX7_copy_1 rfl fl_X7_11 sX_27 rfl ?_
  refine g_iconst (v := (nI 0)) (q := 5) ok dX7_copy_4 rfl (by decide) ?_
  refine g_aload_n (q := 6) ok dX7_copy_5 rfl 0 rfl rfl ?_
  refine g_getR (q := 9) ok dX7_copy_6 rfl fl_X7_11 sX_21 rfl ?_
  refine g_iconst (v := (nI 0)) (q := 10) ok dX7_copy_9 rfl (by decide) ?_
  refine g_bipush (v := (nI 16)) (q := 12) ok dX7_copy_10 rfl (by decide) ?_
  refine g_copy (N := 16) (q := 15) (st := []) ok dX7_copy_12 rfl tw_539 tw_541 tw_540 tw_91 sX_28 sX_22 (by decide) (by decide) ⟨by decide, by decide⟩ ⟨Nat.le_of_ble_eq_true rfl, by decide +kernel⟩ (fun _ => Nat.le_of_ble_eq_true rfl) ?_
  refine g_letw (fun w1 => ?_)
  refine g_aload_n (q := 16) ok dX7_copy_15 rfl 1 rfl rfl ?_
  refine g_getR (q := 19) ok dX7_copy_16 rfl fl_X7_15 sX_27 rfl ?_
  refine g_iconst (v := (nI 0)) (q := 20) ok dX7_copy_19 rfl (by decide) ?_
  refine g_aload_n (q := 21) ok dX7_copy_20 rfl 0 rfl rfl ?_
  refine g_getR (q := 24) ok dX7_copy_21 rfl fl_X7_15 sX_21 rfl ?_
  refine g_iconst (v := (nI 0)) (q := 25) ok dX7_copy_24 rfl (by decide) ?_
  refine g_bipush (v := (nI 16)) (q := 27) ok dX7_copy_25 rfl (by decide) ?_
  refine g_copy (N := 16) (q := 30) (st := []) ok dX7_copy_27 rfl tw_539 tw_541 tw_540 tw_91 sX_29 sX_23 (by decide) (by decide) ⟨by decide, by decide⟩ ⟨Nat.le_of_ble_eq_true rfl, by decide +kernel⟩ (fun _ => Nat.le_of_ble_eq_true rfl) ?_
  refine g_letw (fun w2 => ?_)
  refine g_aload_n (q := 31) ok dX7_copy_30 rfl 1 rfl rfl ?_
  refine g_getR (q := 34) ok dX7_copy_31 rfl fl_X7_18 sX_27 rfl ?_
  refine g_iconst (v := (nI 0)) (q := 35) ok dX7_copy_34 rfl (by decide) ?_
  refine g_aload_n (q := 36) ok dX7_copy_35 rfl 0 rfl rfl ?_
  refine g_getR (q := 39) ok dX7_copy_36 rfl fl_X7_18 sX_21 rfl ?_
  refine g_iconst (v := (nI 0)) (q := 40) ok dX7_copy_39 rfl (by decide) ?_
  refine g_bipush (v := (nI 16)) (q := 42) ok dX7_copy_40 rfl (by decide) ?_
  refine g_copy (N := 16) (q := 45) (st := []) ok dX7_copy_42 rfl tw_539 tw_541 tw_540 tw_91 sX_30 sX_24 (by decide) (by decide) ⟨by decide, by decide⟩ ⟨Nat.le_of_ble_eq_true rfl, by decide +kernel⟩ (fun _ => Nat.le_of_ble_eq_true rfl) ?_
  refine g_letw (fun w3 => ?_)
  refine g_aload_n (q := 46) ok dX7_copy_45 rfl 1 rfl rfl ?_
  refine g_getR (q := 49) ok dX7_copy_46 rfl fl_X7_21 sX_27 rfl ?_
  refine g_iconst (v := (nI 0)) (q := 50) ok dX7_copy_49 rfl (by decide) ?_
  refine g_aload_n (q := 51) ok dX7_copy_50 rfl 0 rfl rfl ?_
  refine g_getR (q := 54) ok dX7_copy_51 rfl fl_X7_21 sX_21 rfl ?_
  refine g_iconst (v := (nI 0)) (q := 55) ok dX7_copy_54 rfl (by decide) ?_
  refine g_bipush (v := (nI 16)) (q := 57) ok dX7_copy_55 rfl (by decide) ?_
  refine g_copy (N := 16) (q := 60) (st := []) ok dX7_copy_57 rfl tw_539 tw_541 tw_540 tw_91 sX_31 sX_25 (by decide) (by decide) ⟨by decide, by decide⟩ ⟨Nat.le_of_ble_eq_true rfl, by decide +kernel⟩ (fun _ => Nat.le_of_ble_eq_true rfl) ?_
  refine g_letw (fun w4 => ?_)
  refine g_aload_n (q := 61) ok dX7_copy_60 rfl 1 rfl rfl ?_
  refine g_getR (q := 64) ok dX7_copy_61 rfl fl_X7_24 sX_27 rfl ?_
  refine g_iconst (v := (nI 0)) (q := 65) ok dX7_copy_64 rfl (by decide) ?_
  refine g_aload_n (q := 66) ok dX7_copy_65 rfl 0 rfl rfl ?_
  refine g_getR (q := 69) ok dX7_copy_66 rfl fl_X7_24 sX_21 rfl ?_
  refine g_iconst (v := (nI 0)) (q := 70) ok dX7_copy_69 rfl (by decide) ?_
  refine g_bipush (v := (nI 16)) (q := 72) ok dX7_copy_70 rfl (by decide) ?_
  refine g_copy (N := 16) (q := 75) (st := []) ok dX7_copy_72 rfl tw_539 tw_541 tw_540 tw_91 sX_32 sX_26 (by decide) (by decide) ⟨by decide, by decide⟩ ⟨Nat.le_of_ble_eq_true rfl, by decide +kernel⟩ (fun _ => Nat.le_of_ble_eq_true rfl) ?_
  refine g_letw (fun w5 => ?_)
  refine g_aload_n (q := 76) ok dX7_copy_75 rfl 0 rfl rfl ?_
  refine g_aload_n (q := 77) ok dX7_copy_76 rfl 1 rfl rfl ?_
  refine g_getI (q := 80) (N := 0) ok dX7_copy_77 rfl fl_X7_27 sX_27 rfl ?_
  refine g_put (q := 83) ok dX7_copy_80 rfl fp_X7_27 sX_21 rfl rfl rfl ?_
  refine g_letw (fun w6 => ?_)
  exact g_vret ok dX7_copy_83
set_option maxRecDepth 20000 in
theorem kX9_rota (N : Nat) (a1 : Int32) (w : gT) : gM S1 cl1 gTs yX9_rota cX9_rota 2 (some .int) rmX9_rota gi [.ref 0, .int a1] w (xX9_rota N a1 w) := by
  refine gM_of (own := RX9) [(0, .ref 0), (1, .int a1)] rfl (by decide) (fun _ => rfl) (fun _ => Nat.le_of_ble_eq_true rfl) (fun κ ok => ?_)
  unfold xX9_rota
  refine g_iload_n (q := 1) ok dX9_rota_0 rfl 1 rfl rfl ?_
  refine g_iconst (v := (nI 1)) (q := 2) ok dX9_rota_1 rfl (by decide) ?_
  refine g_icmp_lt (q := 5) (g := 23) ok dX9_rota_2 rfl (by decide) ?_ ?_
  · refine g_iconst (v := (-1)) (q := 24) ok dX9_rota_23 rfl (by decide) ?_
    exact g_iret ok dX9_rota_24
  · refine g_iload_n (q := 6) ok dX9_rota_5 rfl 1 rfl rfl ?_
    refine g_sipush (v := (nI 160)) (q := 9) ok dX9_rota_6 rfl (by decide) ?_
    refine g_icmp_gt (q := 12) (g := 23) ok dX9_rota_9 rfl (by decide) ?_ ?_
    · refine g_iconst (v := (-1)) (q := 24) ok dX9_rota_23 rfl (by decide) ?_
      exact g_iret ok dX9_rota_24
    · refine g_iload_n (q := 13) ok dX9_rota_12 rfl 1 rfl rfl ?_
      refine g_aload_n (q := 14) ok dX9_rota_13 rfl 0 rfl rfl ?_
      refine g_getR (q := 17) ok dX9_rota_14 rfl fl_X9_22 sX_0 rfl ?_
      refine g_getI (q := 20) (N := 0) ok dX9_rota_17 rfl fl_X9_135 sX_19 rfl ?_
      refine g_icmp_le (q := 23) (g := 25) ok dX9_rota_20 rfl (by decide) ?_ ?_
      · refine g_aload_n (q := 26) ok dX9_rota_25 rfl 0 rfl rfl ?_
        refine g_getR (q := 29) ok dX9_rota_26 rfl fl_X9_22 sX_0 rfl ?_
        refine g_iload_n (q := 30) ok dX9_rota_29 rfl 1 rfl rfl ?_
        refine g_callVv (q := 33) (As := [.int a1]) (st := []) ok tbl_good dX9_rota_30 rfl (kX6_open _ _) cf_X9_138 ⟨rfl, rfl, Nat.le_of_ble_eq_true rfl, Nat.le_of_ble_eq_true rfl⟩ sX_19 rfl rfl rfl (fun _ => Nat.le_of_ble_eq_true rfl) (fun w1 => ?_)
        refine g_aload_n (q := 34) ok dX9_rota_33 rfl 0 rfl rfl ?_
        refine g_getR (q := 37) ok dX9_rota_34 rfl fl_X9_33 sX_0 rfl ?_
        refine g_aload_n (q := 38) ok dX9_rota_37 rfl 0 rfl rfl ?_
        refine g_getR (q := 41) ok dX9_rota_38 rfl fl_X9_22 sX_0 rfl ?_
        refine g_callVv (q := 44) (As := [.ref 19]) (st := []) ok tbl_good dX9_rota_41 rfl (kX7_readFrom N _) cf_X9_141 ⟨rfl, rfl, Nat.le_of_ble_eq_true rfl, Nat.le_of_ble_eq_true rfl⟩ sX_27 rfl rfl rfl (fun _ => Nat.le_of_ble_eq_true rfl) (fun w2 => ?_)
        refine g_aload_n (q := 45) ok dX9_rota_44 rfl 0 rfl rfl ?_
        refine g_getR (q := 48) ok dX9_rota_45 rfl fl_X9_22 sX_0 rfl ?_
        refine g_getI (q := 51) (N := 0) ok dX9_rota_48 rfl fl_X9_145 sX_19 rfl ?_
        refine g_if_eq (q := 54) (g := 62) ok dX9_rota_51 rfl (by decide) ?_ ?_
        · refine g_aload_n (q := 63) ok dX9_rota_62 rfl 0 rfl rfl ?_
          refine g_getR (q := 66) ok dX9_rota_63 rfl fl_X9_29 sX_0 rfl ?_
          refine g_aload_n (q := 67) ok dX9_rota_66 rfl 0 rfl rfl ?_
          refine g_getR (q := 70) ok dX9_rota_67 rfl fl_X9_33 sX_0 rfl ?_
          refine g_callVv (q := 73) (As := [.ref 27]) (st := []) ok tbl_good dX9_rota_70 rfl (kX7_copy _) cf_X9_148 ⟨rfl, rfl, Nat.le_of_ble_eq_true rfl, Nat.le_of_ble_eq_true rfl⟩ sX_21 rfl rfl rfl (fun _ => Nat.le_of_ble_eq_true rfl) (fun w3 => ?_)
          refine g_aload_n (q := 74) ok dX9_rota_73 rfl 0 rfl rfl ?_
          refine g_getR (q := 77) ok dX9_rota_74 rfl fl_X9_29 sX_0 rfl ?_
          refine g_getI (q := 80) (N := 0) ok dX9_rota_77 rfl fl_X9_152 sX_21 rfl ?_
          exact g_iret ok dX9_rota_80
        · refine g_aload_n (q := 55) ok dX9_rota_54 rfl 0 rfl rfl ?_
          refine g_getR (q := 58) ok dX9_rota_55 rfl fl_X9_22 sX_0 rfl ?_
          refine g_getI (q := 61) (N := 0) ok dX9_rota_58 rfl fl_X9_145 sX_19 rfl ?_
          exact g_iret ok dX9_rota_61
      · refine g_iconst (v := (-1)) (q := 24) ok dX9_rota_23 rfl (by decide) ?_
        exact g_iret ok dX9_rota_24
set_option maxRecDepth 20000 in
theorem kX3_clear (w : gT) : gM S1 cl1 gTs yX3_clear cX3_clear 1 none rmX3_clear gv [.ref 40] w (xX3_clear w) := by
  refine gM_of (own := RX3) [(0, .ref 40)] rfl (by decide) (fun _ => rfl) (fun _ => Nat.le_of_ble_eq_true rfl) (fun κ ok => ?_)
  unfold xX3_clear
  refine g_aload_n (q := 1) ok dX3_clear_0 rfl 0 rfl rfl ?_
  refine g_iconst (v := (nI 0)) (q := 2) ok dX3_clear_1 rfl (by decide) ?_
  refine g_put (q := 5) ok dX3_clear_2 rfl fp_X3_28 sX_40 rfl rfl rfl ?_
  refine g_letw (fun w1 => ?_)
  refine g_aload_n (q := 6) ok dX3_clear_5 rfl 0 rfl rfl ?_
  refine g_iconst (v := (nI 0)) (q := 7) ok dX3_clear_6 rfl (by decide) ?_
  refine g_put (q := 10) ok dX3_clear_7 rfl fp_X3_32 sX_40 rfl rfl rfl ?_
  refine g_letw (fun w2 => ?_)
  exact g_vret ok dX3_clear_10
set_option maxRecDepth 20000 in
theorem kX3_aim (a1 : Int32) (a2 : Int32) (w : gT) : gM S1 cl1 gTs yX3_aim cX3_aim 3 none rmX3_aim gv [.ref 40, .int a1, .int a2] w (xX3_aim a1 a2 w) := by
  refine gM_of (own := RX3) [(0, .ref 40), (1, .int a1), (2, .int a2)] rfl (by decide) (fun _ => rfl) (fun _ => Nat.le_of_ble_eq_true rfl) (fun κ ok => ?_)
  unfold xX3_aim
  refine g_iload_n (q := 1) ok dX3_aim_0 rfl 1 rfl rfl ?_
  refine g_if_lt (q := 4) (g := 19) ok dX3_aim_1 rfl (by decide) ?_ ?_
  · exact g_vret ok dX3_aim_19
  · refine g_iload_n (q := 5) ok dX3_aim_4 rfl 1 rfl rfl ?_
    refine g_aload_n (q := 6) ok dX3_aim_5 rfl 0 rfl rfl ?_
    refine g_getI (q := 9) (N := 0) ok dX3_aim_6 rfl fl_X3_32 sX_40 rfl ?_
    refine g_icmp_ge (q := 12) (g := 19) ok dX3_aim_9 rfl (by decide) ?_ ?_
    · exact g_vret ok dX3_aim_19
    · refine g_aload_n (q := 13) ok dX3_aim_12 rfl 0 rfl rfl ?_
      refine g_getR (q := 16) ok dX3_aim_13 rfl fl_X3_22 sX_40 rfl ?_
      refine g_iload_n (q := 17) ok dX3_aim_16 rfl 1 rfl rfl ?_
      refine g_iload_n (q := 18) ok dX3_aim_17 rfl 2 rfl rfl ?_
      refine g_iast (q := 19) ok dX3_aim_18 rfl sX_45 ?_
      refine g_letw (fun w1 => ?_)
      exact g_vret ok dX3_aim_19
set_option maxRecDepth 20000 in
theorem kX3_addStep (a1 : Int32) (a2 : Int32) (w : gT) : gM S1 cl1 gTs yX3_addStep cX3_addStep 3 none rmX3_addStep gv [.ref 40, .int a1, .int a2] w (xX3_addStep a1 a2 w) := by
  refine gM_of (own := RX3) [(0, .ref 40), (1, .int a1), (2, .int a2)] rfl (by decide) (fun _ => rfl) (fun _ => Nat.le_of_ble_eq_true rfl) (fun κ ok => ?_)
  unfold xX3_addStep
  refine g_aload_n (q := 1) ok dX3_addStep_0 rfl 0 rfl rfl ?_
  refine g_getI (q := 4) (N := 0) ok dX3_addStep_1 rfl fl_X3_32 sX_40 rfl ?_
  refine g_sipush (v := (nI 256)) (q := 7) ok dX3_addStep_4 rfl (by decide) ?_
  refine g_icmp_ge (q := 10) (g := 40) ok dX3_addStep_7 rfl (by decide) ?_ ?_
  · exact g_vret ok dX3_addStep_40
  · refine g_aload_n (q := 11) ok dX3_addStep_10 rfl 0 rfl rfl ?_
    refine g_getR (q := 14) ok dX3_addStep_11 rfl fl_X3_19 sX_40 rfl ?_
    refine g_aload_n (q := 15) ok dX3_addStep_14 rfl 0 rfl rfl ?_
    refine g_getI (q := 18) (N := 0) ok dX3_addStep_15 rfl fl_X3_32 sX_40 rfl ?_
    refine g_iload_n (q := 19) ok dX3_addStep_18 rfl 1 rfl rfl ?_
    refine g_iast (q := 20) ok dX3_addStep_19 rfl sX_44 ?_
    refine g_letw (fun w1 => ?_)
    refine g_aload_n (q := 21) ok dX3_addStep_20 rfl 0 rfl rfl ?_
    refine g_getR (q := 24) ok dX3_addStep_21 rfl fl_X3_22 sX_40 rfl ?_
    refine g_aload_n (q := 25) ok dX3_addStep_24 rfl 0 rfl rfl ?_
    refine g_getI (q := 28) (N := 0) ok dX3_addStep_25 rfl fl_X3_32 sX_40 rfl ?_
    refine g_iload_n (q := 29) ok dX3_addStep_28 rfl 2 rfl rfl ?_
    refine g_iast (q := 30) ok dX3_addStep_29 rfl sX_45 ?_
    refine g_letw (fun w2 => ?_)
    refine g_aload_n (q := 31) ok dX3_addStep_30 rfl 0 rfl rfl ?_
    refine g_dup (q := 32) ok dX3_addStep_31 rfl (fun _ => rfl) ?_
    refine g_getI (q := 35) (N := 0) ok dX3_addStep_32 rfl fl_X3_32 sX_40 rfl ?_
    refine g_iconst (v := (nI 1)) (q := 36) ok dX3_addStep_35 rfl (by decide) ?_
    refine g_iadd (q := 37) ok dX3_addStep_36 rfl ?_
    refine g_put (q := 40) ok dX3_addStep_37 rfl fp_X3_32 sX_40 rfl rfl rfl ?_
    refine g_letw (fun w3 => ?_)
    exact g_vret ok dX3_addStep_40
set_option maxRecDepth 20000 in
theorem kX4_addJump (a1 : Int32) (a2 : Int32) (a3 : Int32) (w : gT) : gM S1 cl1 gTs yX4_addJump cX4_addJump 5 (some .int) rmX4_addJump gi [.ref 47, .int a1, .int a2, .int a3] w (xX4_addJump a1 a2 a3 w) := by
  refine gM_of (own := RX4) [(0, .ref 47), (1, .int a1), (2, .int a2), (3, .int a3)] rfl (by decide) (fun _ => rfl) (fun _ => Nat.le_of_ble_eq_true rfl) (fun κ ok => ?_)
  unfold xX4_addJump
  refine g_aload_n (q := 1) ok dX4_addJump_0 rfl 0 rfl rfl ?_
  refine g_getR (q := 4) ok dX4_addJump_1 rfl fl_X4_9 sX_47 rfl ?_
  refine g_iload_n (q := 5) ok dX4_addJump_4 rfl 2 rfl rfl ?_
  refine g_callVv (q := 8) (As := [.int a2]) (st := []) ok tbl_good dX4_addJump_5 rfl (kX6_takeSign _ _) cf_X4_33 ⟨rfl, rfl, Nat.le_of_ble_eq_true rfl, Nat.le_of_ble_eq_true rfl⟩ sX_19 rfl rfl rfl (fun _ => Nat.le_of_ble_eq_true rfl) (fun w1 => ?_)
  refine g_aload_n (q := 9) ok dX4_addJump_8 rfl 0 rfl rfl ?_
  refine g_getR (q := 12) ok dX4_addJump_9 rfl fl_X4_15 sX_47 rfl ?_
  refine g_getI (q := 15) (N := 0) ok dX4_addJump_12 rfl fl_X4_53 sX_40 rfl ?_
  refine g_leti (fun v2 => ?_)
  refine g_istore (q := 17) (L' := [(4, .int v2), (0, .ref 47), (1, .int a1), (2, .int a2), (3, .int a3)]) ok dX4_addJump_15 rfl (by decide) rfl rfl ?_
  refine g_aload_n (q := 18) ok dX4_addJump_17 rfl 1 rfl rfl ?_
  refine g_getR (q := 21) ok dX4_addJump_18 rfl fl_X4_15 sX_47 rfl ?_
  refine g_iload_n (q := 22) ok dX4_addJump_21 rfl 4 rfl rfl ?_
  refine g_iload (q := 24) ok dX4_addJump_22 rfl 0 rfl ?_
  refine g_callVv (q := 27) (As := [.int a3, .int v2]) (st := []) ok tbl_good dX4_addJump_24 rfl (kX3_aim _ _ _) cf_X4_77 ⟨rfl, rfl, Nat.le_of_ble_eq_true rfl, Nat.le_of_ble_eq_true rfl⟩ sX_40 rfl rfl rfl (fun _ => Nat.le_of_ble_eq_true rfl) (fun w3 => ?_)
  refine g_aload_n (q := 28) ok dX4_addJump_27 rfl 1 rfl rfl ?_
  refine g_getR (q := 31) ok dX4_addJump_28 rfl fl_X4_15 sX_47 rfl ?_
  refine g_iload_n (q := 32) ok dX4_addJump_31 rfl 2 rfl rfl ?_
  refine g_iload (q := 34) ok dX4_addJump_32 rfl 0 rfl ?_
  refine g_iconst (v := (nI 1)) (q := 35) ok dX4_addJump_34 rfl (by decide) ?_
  refine g_iadd (q := 36) ok dX4_addJump_35 rfl ?_
  refine g_callVv (q := 39) (As := [.int a1, .int (v2 + (nI 1))]) (st := []) ok tbl_good dX4_addJump_36 rfl (kX3_addStep _ _ _) cf_X4_59 ⟨rfl, rfl, Nat.le_of_ble_eq_true rfl, Nat.le_of_ble_eq_true rfl⟩ sX_40 rfl rfl rfl (fun _ => Nat.le_of_ble_eq_true rfl) (fun w4 => ?_)
  refine g_iload (q := 41) ok dX4_addJump_39 rfl 0 rfl ?_
  exact g_iret ok dX4_addJump_41
set_option maxRecDepth 20000 in
theorem kX4_readPieces (N : Nat) (d : Nat) (rc : Int32 → gT → Option gT) (hrc : ∀ (a : Int32) (w : gT), gM S1 cl1 gTs yX4_readPiece cX4_readPiece 3 none (rmX4_readPiece d) gv [.ref 47, .int a] w (rc a w)) (a1 : Int32) (w : gT) : gM S1 cl1 gTs yX4_readPieces cX4_readPieces 4 none (rmX4_readPieces d) gv [.ref 47, .int a1] w (xX4_readPieces N rc a1 w) := by
  refine gM_of (own := RX4) [(0, .ref 47), (1, .int a1)] rfl (by decide) (fun _ => rfl) (fun _ => Nat.le_of_ble_eq_true rfl) (fun κ ok => ?_)
  unfold xX4_readPieces
  refine g_aload_n (q := 1) ok dX4_readPieces_0 rfl 0 rfl rfl ?_
  refine g_iload_n (q := 2) ok dX4_readPieces_1 rfl 1 rfl rfl ?_
  refine g_callVv (q := 5) (As := [.int a1]) (st := []) ok tbl_good dX4_readPieces_2 rfl (hrc _ _) cf_X4_80 ⟨rfl, rfl, by simp only [rmX4_readPiece, rmX4_readPieces]; omega, by simp only [rmX4_readPiece, rmX4_readPieces]; omega⟩ sX_47 rfl rfl rfl (fun _ => Nat.le_of_ble_eq_true rfl) (fun w1 => ?_)
  refine g_iconst (v := (-1)) (q := 6) ok dX4_readPieces_5 rfl (by decide) ?_
  refine g_istore_n (q := 7) (L' := [(2, .int (-1)), (0, .ref 47), (1, .int a1)]) ok dX4_readPieces_6 rfl rfl (by decide) rfl rfl ?_
  refine g_iconst (v := (nI 0)) (q := 8) ok dX4_readPieces_7 rfl (by decide) ?_
  refine g_istore_n (q := 9) (L' := [(3, .int (nI 0)), (2, .int (-1)), (0, .ref 47), (1, .int a1)]) ok dX4_readPieces_8 rfl rfl (by decide) rfl rfl ?_
  refine g_join (P := fun k2 => ∀ (v3 : Int32) (w4 : gT), gJ S1 cl1 (rmX4_readPieces d) 4 gv κ 48 [(0, .ref 47), (2, .int v3)] [] w4 (k2 v3 w4)) (fun v3 w4 => ?_) (fun k2 hk2 => ?_)
  · refine g_aload_n (q := 49) ok dX4_readPieces_48 rfl 0 rfl rfl ?_
    refine g_getR (q := 52) ok dX4_readPieces_49 rfl fl_X4_15 sX_47 rfl ?_
    refine g_iload_n (q := 53) ok dX4_readPieces_52 rfl 1 rfl rfl ?_
    refine g_aload_n (q := 54) ok dX4_readPieces_53 rfl 0 rfl rfl ?_
    refine g_getR (q := 57) ok dX4_readPieces_54 rfl fl_X4_15 sX_47 rfl ?_
    refine g_getI (q := 60) (N := 0) ok dX4_readPieces_57 rfl fl_X4_53 sX_40 rfl ?_
    refine g_callVv (q := 63) (As := [.int v3, .int (w4.1 40 6)]) (st := []) ok tbl_good dX4_readPieces_60 rfl (kX3_aim _ _ _) cf_X4_77 ⟨rfl, rfl, by simp only [rmX3_aim, rmX4_readPieces]; omega, by simp only [rmX3_aim, rmX4_readPieces]; omega⟩ sX_40 rfl rfl rfl (fun _ => Nat.le_of_ble_eq_true rfl) (fun w5 => ?_)
    exact g_vret ok dX4_readPieces_63
  · refine g_to (L' := [(0, .ref 47), (1, .int a1), (2, .int (-1)), (3, .int (nI 0))]) ?_ [2, 3, 1, 0] rfl
    refine g_loop2 (Lf := fun v7 v8 => [(0, .ref 47), (1, .int a1), (2, .int v7), (3, .int v8)]) (fun go6 hgo6 v7 v8 w9 => ?_) N _ _ _
    unfold xX4_readPieces_b9
    refine g_iload_n (q := 10) ok dX4_readPieces_9 rfl 3 rfl rfl ?_
    refine g_sipush (v := (nI 200)) (q := 13) ok dX4_readPieces_10 rfl (by decide) ?_
    refine g_icmp_ge (q := 16) (g := 48) ok dX4_readPieces_13 rfl (by decide) ?_ ?_
    · refine g_to (L' := [(0, .ref 47), (2, .int v7)]) ?_ [0, 2] rfl
      exact hk2 _ _
    · refine g_aload_n (q := 17) ok dX4_readPieces_16 rfl 0 rfl rfl ?_
      refine g_getR (q := 20) ok dX4_readPieces_17 rfl fl_X4_9 sX_47 rfl ?_
      refine g_callVi (q := 23) (As := []) (st := []) ok tbl_good dX4_readPieces_20 rfl (kX6_peek _) cf_X4_27 ⟨rfl, rfl, by simp only [rmX6_peek, rmX4_readPieces]; omega, by simp only [rmX6_peek, rmX4_readPieces]; omega⟩ sX_19 rfl rfl rfl (fun _ => Nat.le_of_ble_eq_true rfl) (fun v10 w11 => ?_)
      refine g_bipush (v := (nI 38)) (q := 25) ok dX4_readPieces_23 rfl (by decide) ?_
      refine g_icmp_ne (q := 28) (g := 48) ok dX4_readPieces_25 rfl (by decide) ?_ ?_
      · refine g_to (L' := [(0, .ref 47), (2, .int v7)]) ?_ [0, 2] rfl
        exact hk2 _ _
      · refine g_aload_n (q := 29) ok dX4_readPieces_28 rfl 0 rfl rfl ?_
        refine g_iconst (v := (nI 4)) (q := 30) ok dX4_readPieces_29 rfl (by decide) ?_
        refine g_bipush (v := (nI 38)) (q := 32) ok dX4_readPieces_30 rfl (by decide) ?_
        refine g_iload_n (q := 33) ok dX4_readPieces_32 rfl 2 rfl rfl ?_
        refine g_callVi (q := 36) (As := [.int (nI 4), .int (nI 38), .int v7]) (st := []) ok tbl_good dX4_readPieces_33 rfl (kX4_addJump _ _ _ _) cf_X4_73 ⟨rfl, rfl, by simp only [rmX4_addJump, rmX4_readPieces]; omega, by simp only [rmX4_addJump, rmX4_readPieces]; omega⟩ sX_47 rfl rfl rfl (fun _ => Nat.le_of_ble_eq_true rfl) (fun v12 w13 => ?_)
        refine g_istore_n (q := 37) (L' := [(2, .int v12), (0, .ref 47), (1, .int a1), (3, .int v8)]) ok dX4_readPieces_36 rfl rfl (by decide) rfl rfl ?_
        refine g_aload_n (q := 38) ok dX4_readPieces_37 rfl 1 rfl rfl ?_
        refine g_iload_n (q := 39) ok dX4_readPieces_38 rfl 2 rfl rfl ?_
        refine g_callVv (q := 42) (As := [.int a1]) (st := []) ok tbl_good dX4_readPieces_39 rfl (hrc _ _) cf_X4_80 ⟨rfl, rfl, by simp only [rmX4_readPiece, rmX4_readPieces]; omega, by simp only [rmX4_readPiece, rmX4_readPieces]; omega⟩ sX_47 rfl rfl rfl (fun _ => Nat.le_of_ble_eq_true rfl) (fun w14 => ?_)
        refine g_iinc (v := v8 + (nI 1)) (q := 45) (L' := [(3, .int (v8 + (nI 1))), (2, .int v12), (0, .ref 47), (1, .int a1)]) ok dX4_readPieces_42 rfl 3 rfl rfl (by decide) rfl rfl ?_
        refine g_goto (q := 9) ok dX4_readPieces_45 (by decide) ?_
        refine g_to (L' := [(0, .ref 47), (1, .int a1), (2, .int v12), (3, .int (v8 + (nI 1)))]) ?_ [2, 3, 1, 0] rfl
        exact hgo6 _ _ _
set_option maxRecDepth 20000 in
theorem kX4_readParts (N : Nat) (d : Nat) (rc : Int32 → gT → Option gT) (hrc : ∀ (a : Int32) (w : gT), gM S1 cl1 gTs yX4_readPiece cX4_readPiece 3 none (rmX4_readPiece d) gv [.ref 47, .int a] w (rc a w)) (a1 : Int32) (w : gT) : gM S1 cl1 gTs yX4_readParts cX4_readParts 4 none (rmX4_readParts d) gv [.ref 47, .int a1] w (xX4_readParts N rc a1 w) := by
  refine gM_of (own := RX4) [(0, .ref 47), (1, .int a1)] rfl (by decide) (fun _ => rfl) (fun _ => Nat.le_of_ble_eq_true rfl) (fun κ ok => ?_)
  unfold xX4_readParts
  refine g_aload_n (q := 1) ok dX4_readParts_0 rfl 0 rfl rfl ?_
  refine g_iload_n (q := 2) ok dX4_readParts_1 rfl 1 rfl rfl ?_
  refine g_callVv (q := 5) (As := [.int a1]) (st := []) ok tbl_good dX4_readParts_2 rfl (kX4_readPieces N d rc hrc _ _) cf_X4_70 ⟨rfl, rfl, by simp only [rmX4_readPieces, rmX4_readParts]; omega, by simp only [rmX4_readPieces, rmX4_readParts]; omega⟩ sX_47 rfl rfl rfl (fun _ => Nat.le_of_ble_eq_true rfl) (fun w1 => ?_)
  refine g_iconst (v := (-1)) (q := 6) ok dX4_readParts_5 rfl (by decide) ?_
  refine g_istore_n (q := 7) (L' := [(2, .int (-1)), (0, .ref 47), (1, .int a1)]) ok dX4_readParts_6 rfl rfl (by decide) rfl rfl ?_
  refine g_iconst (v := (nI 0)) (q := 8) ok dX4_readParts_7 rfl (by decide) ?_
  refine g_istore_n (q := 9) (L' := [(3, .int (nI 0)), (2, .int (-1)), (0, .ref 47), (1, .int a1)]) ok dX4_readParts_8 rfl rfl (by decide) rfl rfl ?_
  refine g_join (P := fun k2 => ∀ (v3 : Int32) (w4 : gT), gJ S1 cl1 (rmX4_readParts d) 4 gv κ 48 [(0, .ref 47), (2, .int v3)] [] w4 (k2 v3 w4)) (fun v3 w4 => ?_) (fun k2 hk2 => ?_)
  · refine g_aload_n (q := 49) ok dX4_readParts_48 rfl 0 rfl rfl ?_
    refine g_getR (q := 52) ok dX4_readParts_49 rfl fl_X4_15 sX_47 rfl ?_
    refine g_iload_n (q := 53) ok dX4_readParts_52 rfl 1 rfl rfl ?_
    refine g_aload_n (q := 54) ok dX4_readParts_53 rfl 0 rfl rfl ?_
    refine g_getR (q := 57) ok dX4_readParts_54 rfl fl_X4_15 sX_47 rfl ?_
    refine g_getI (q := 60) (N := 0) ok dX4_readParts_57 rfl fl_X4_53 sX_40 rfl ?_
    refine g_callVv (q := 63) (As := [.int v3, .int (w4.1 40 6)]) (st := []) ok tbl_good dX4_readParts_60 rfl (kX3_aim _ _ _) cf_X4_77 ⟨rfl, rfl, by simp only [rmX3_aim, rmX4_readParts]; omega, by simp only [rmX3_aim, rmX4_readParts]; omega⟩ sX_40 rfl rfl rfl (fun _ => Nat.le_of_ble_eq_true rfl) (fun w5 => ?_)
    exact g_vret ok dX4_readParts_63
  · refine g_to (L' := [(0, .ref 47), (1, .int a1), (2, .int (-1)), (3, .int (nI 0))]) ?_ [2, 3, 1, 0] rfl
    refine g_loop2 (Lf := fun v7 v8 => [(0, .ref 47), (1, .int a1), (2, .int v7), (3, .int v8)]) (fun go6 hgo6 v7 v8 w9 => ?_) N _ _ _
    unfold xX4_readParts_b9
    refine g_iload_n (q := 10) ok dX4_readParts_9 rfl 3 rfl rfl ?_
    refine g_sipush (v := (nI 200)) (q := 13) ok dX4_readParts_10 rfl (by decide) ?_
    refine g_icmp_ge (q := 16) (g := 48) ok dX4_readParts_13 rfl (by decide) ?_ ?_
    · refine g_to (L' := [(0, .ref 47), (2, .int v7)]) ?_ [0, 2] rfl
      exact hk2 _ _
    · refine g_aload_n (q := 17) ok dX4_readParts_16 rfl 0 rfl rfl ?_
      refine g_getR (q := 20) ok dX4_readParts_17 rfl fl_X4_9 sX_47 rfl ?_
      refine g_callVi (q := 23) (As := []) (st := []) ok tbl_good dX4_readParts_20 rfl (kX6_peek _) cf_X4_27 ⟨rfl, rfl, by simp only [rmX6_peek, rmX4_readParts]; omega, by simp only [rmX6_peek, rmX4_readParts]; omega⟩ sX_19 rfl rfl rfl (fun _ => Nat.le_of_ble_eq_true rfl) (fun v10 w11 => ?_)
      refine g_bipush (v := (nI 124)) (q := 25) ok dX4_readParts_23 rfl (by decide) ?_
      refine g_icmp_ne (q := 28) (g := 48) ok dX4_readParts_25 rfl (by decide) ?_ ?_
      · refine g_to (L' := [(0, .ref 47), (2, .int v7)]) ?_ [0, 2] rfl
        exact hk2 _ _
      · refine g_aload_n (q := 29) ok dX4_readParts_28 rfl 0 rfl rfl ?_
        refine g_iconst (v := (nI 5)) (q := 30) ok dX4_readParts_29 rfl (by decide) ?_
        refine g_bipush (v := (nI 124)) (q := 32) ok dX4_readParts_30 rfl (by decide) ?_
        refine g_iload_n (q := 33) ok dX4_readParts_32 rfl 2 rfl rfl ?_
        refine g_callVi (q := 36) (As := [.int (nI 5), .int (nI 124), .int v7]) (st := []) ok tbl_good dX4_readParts_33 rfl (kX4_addJump _ _ _ _) cf_X4_73 ⟨rfl, rfl, by simp only [rmX4_addJump, rmX4_readParts]; omega, by simp only [rmX4_addJump, rmX4_readParts]; omega⟩ sX_47 rfl rfl rfl (fun _ => Nat.le_of_ble_eq_true rfl) (fun v12 w13 => ?_)
        refine g_istore_n (q := 37) (L' := [(2, .int v12), (0, .ref 47), (1, .int a1), (3, .int v8)]) ok dX4_readParts_36 rfl rfl (by decide) rfl rfl ?_
        refine g_aload_n (q := 38) ok dX4_readParts_37 rfl 1 rfl rfl ?_
        refine g_iload_n (q := 39) ok dX4_readParts_38 rfl 2 rfl rfl ?_
        refine g_callVv (q := 42) (As := [.int a1]) (st := []) ok tbl_good dX4_readParts_39 rfl (kX4_readPieces N d rc hrc _ _) cf_X4_70 ⟨rfl, rfl, by simp only [rmX4_readPieces, rmX4_readParts]; omega, by simp only [rmX4_readPieces, rmX4_readParts]; omega⟩ sX_47 rfl rfl rfl (fun _ => Nat.le_of_ble_eq_true rfl) (fun w14 => ?_)
        refine g_iinc (v := v8 + (nI 1)) (q := 45) (L' := [(3, .int (v8 + (nI 1))), (2, .int v12), (0, .ref 47), (1, .int a1)]) ok dX4_readParts_42 rfl 3 rfl rfl (by decide) rfl rfl ?_
        refine g_goto (q := 9) ok dX4_readParts_45 (by decide) ?_
        refine g_to (L' := [(0, .ref 47), (1, .int a1), (2, .int v12), (3, .int (v8 + (nI 1)))]) ?_ [2, 3, 1, 0] rfl
        exact hgo6 _ _ _
theorem kX4_isLetter (a0 : Int32) (w : gT) : gM S1 cl1 gTs yX4_isLetter cX4_isLetter 1 (some .boolean) rmX4_isLetter gi [.int a0] w (xX4_isLetter a0 w) := zk_isLetter a0 w
set_option maxRecDepth 20000 in
theorem kX4_readNumber (N : Nat) (w : gT) : gM S1 cl1 gTs yX4_readNumber cX4_readNumber 3 none rmX4_readNumber gv [.ref 47] w (xX4_readNumber N w) := by
  refine gM_of (own := RX4) [(0, .ref 47)] rfl (by decide) (fun _ => rfl) (fun _ => Nat.le_of_ble_eq_true rfl) (fun κ ok => ?_)
  unfold xX4_readNumber
  refine g_iconst (v := (nI 0)) (q := 1) ok dX4_readNumber_0 rfl (by decide) ?_
  refine g_istore_n (q := 2) (L' := [(1, .int (nI 0)), (0, .ref 47)]) ok dX4_readNumber_1 rfl rfl (by decide) rfl rfl ?_
  refine g_iconst (v := (nI 0)) (q := 3) ok dX4_readNumber_2 rfl (by decide) ?_
  refine g_istore_n (q := 4) (L' := [(2, .int (nI 0)), (1, .int (nI 0)), (0, .ref 47)]) ok dX4_readNumber_3 rfl rfl (by decide) rfl rfl ?_
  refine g_join (P := fun k1 => ∀ (v2 : Int32) (w3 : gT), gJ S1 cl1 rmX4_readNumber 3 gv κ 54 [(0, .ref 47), (1, .int v2)] [] w3 (k1 v2 w3)) (fun v2 w3 => ?_) (fun k1 hk1 => ?_)
  · refine g_join (P := fun k4 => ∀ (w5 : gT), gJ S1 cl1 rmX4_readNumber 3 gv κ 72 [(0, .ref 47), (1, .int v2)] [] w5 (k4 w5)) (fun w5 => ?_) (fun k4 hk4 => ?_)
    · refine g_aload_n (q := 73) ok dX4_readNumber_72 rfl 0 rfl rfl ?_
      refine g_getR (q := 76) ok dX4_readNumber_73 rfl fl_X4_15 sX_47 rfl ?_
      refine g_iconst (v := (nI 0)) (q := 77) ok dX4_readNumber_76 rfl (by decide) ?_
      refine g_iload_n (q := 78) ok dX4_readNumber_77 rfl 1 rfl rfl ?_
      refine g_callVv (q := 81) (As := [.int (nI 0), .int v2]) (st := []) ok tbl_good dX4_readNumber_78 rfl (kX3_addStep _ _ _) cf_X4_59 ⟨rfl, rfl, Nat.le_of_ble_eq_true rfl, Nat.le_of_ble_eq_true rfl⟩ sX_40 rfl rfl rfl (fun _ => Nat.le_of_ble_eq_true rfl) (fun w6 => ?_)
      exact g_vret ok dX4_readNumber_81
    · refine g_aload_n (q := 55) ok dX4_readNumber_54 rfl 0 rfl rfl ?_
      refine g_getR (q := 58) ok dX4_readNumber_55 rfl fl_X4_9 sX_47 rfl ?_
      refine g_callVi (q := 61) (As := []) (st := []) ok tbl_good dX4_readNumber_58 rfl (kX6_isAtDigit _) cf_X4_100 ⟨rfl, rfl, Nat.le_of_ble_eq_true rfl, Nat.le_of_ble_eq_true rfl⟩ sX_19 rfl rfl rfl (fun _ => Nat.le_of_ble_eq_true rfl) (fun v7 w8 => ?_)
      refine g_if_eq (q := 64) (g := 72) ok dX4_readNumber_61 rfl (by decide) ?_ ?_
      · exact hk4 _
      · refine g_aload_n (q := 65) ok dX4_readNumber_64 rfl 0 rfl rfl ?_
        refine g_getR (q := 68) ok dX4_readNumber_65 rfl fl_X4_9 sX_47 rfl ?_
        refine g_iconst (v := (nI 2)) (q := 69) ok dX4_readNumber_68 rfl (by decide) ?_
        refine g_callVv (q := 72) (As := [.int (nI 2)]) (st := []) ok tbl_good dX4_readNumber_69 rfl (kX6_fail _ _) cf_X4_40 ⟨rfl, rfl, Nat.le_of_ble_eq_true rfl, Nat.le_of_ble_eq_true rfl⟩ sX_19 rfl rfl rfl (fun _ => Nat.le_of_ble_eq_true rfl) (fun w9 => ?_)
        exact hk4 _
  · refine g_to (L' := [(0, .ref 47), (1, .int (nI 0)), (2, .int (nI 0))]) ?_ [2, 1, 0] rfl
    refine g_loop2 (Lf := fun v11 v12 => [(0, .ref 47), (1, .int v11), (2, .int v12)]) (fun go10 hgo10 v11 v12 w13 => ?_) N _ _ _
    unfold xX4_readNumber_b4
    refine g_iload_n (q := 5) ok dX4_readNumber_4 rfl 2 rfl rfl ?_
    refine g_iconst (v := (nI 5)) (q := 6) ok dX4_readNumber_5 rfl (by decide) ?_
    refine g_icmp_ge (q := 9) (g := 54) ok dX4_readNumber_6 rfl (by decide) ?_ ?_
    · refine g_to (L' := [(0, .ref 47), (1, .int v11)]) ?_ [0, 1] rfl
      exact hk1 _ _
    · refine g_aload_n (q := 10) ok dX4_readNumber_9 rfl 0 rfl rfl ?_
      refine g_getR (q := 13) ok dX4_readNumber_10 rfl fl_X4_9 sX_47 rfl ?_
      refine g_callVi (q := 16) (As := []) (st := []) ok tbl_good dX4_readNumber_13 rfl (kX6_isAtDigit _) cf_X4_100 ⟨rfl, rfl, Nat.le_of_ble_eq_true rfl, Nat.le_of_ble_eq_true rfl⟩ sX_19 rfl rfl rfl (fun _ => Nat.le_of_ble_eq_true rfl) (fun v14 w15 => ?_)
      refine g_if_eq (q := 19) (g := 54) ok dX4_readNumber_16 rfl (by decide) ?_ ?_
      · refine g_to (L' := [(0, .ref 47), (1, .int v11)]) ?_ [0, 1] rfl
        exact hk1 _ _
      · refine g_bipush (v := (nI 10)) (q := 21) ok dX4_readNumber_19 rfl (by decide) ?_
        refine g_iload_n (q := 22) ok dX4_readNumber_21 rfl 1 rfl rfl ?_
        refine g_imul (q := 23) ok dX4_readNumber_22 rfl ?_
        refine g_aload_n (q := 24) ok dX4_readNumber_23 rfl 0 rfl rfl ?_
        refine g_getR (q := 27) ok dX4_readNumber_24 rfl fl_X4_9 sX_47 rfl ?_
        refine g_callVi (q := 30) (As := []) (st := [.int ((nI 10) * v11)]) ok tbl_good dX4_readNumber_27 rfl (kX6_peek _) cf_X4_27 ⟨rfl, rfl, Nat.le_of_ble_eq_true rfl, Nat.le_of_ble_eq_true rfl⟩ sX_19 rfl rfl rfl (fun _ => Nat.le_of_ble_eq_true rfl) (fun v16 w17 => ?_)
        refine g_iadd (q := 31) ok dX4_readNumber_30 rfl ?_
        refine g_bipush (v := (nI 48)) (q := 33) ok dX4_readNumber_31 rfl (by decide) ?_
        refine g_isub (q := 34) ok dX4_readNumber_33 rfl ?_
        refine g_leti (fun v18 => ?_)
        refine g_istore_n (q := 35) (L' := [(1, .int v18), (0, .ref 47), (2, .int v12)]) ok dX4_readNumber_34 rfl rfl (by decide) rfl rfl ?_
        refine g_aload_n (q := 36) ok dX4_readNumber_35 rfl 1 rfl rfl ?_
        refine g_getR (q := 39) ok dX4_readNumber_36 rfl fl_X4_9 sX_47 rfl ?_
        refine g_dup (q := 40) ok dX4_readNumber_39 rfl (fun _ => rfl) ?_
        refine g_getI (q := 43) (N := 0) ok dX4_readNumber_40 rfl fl_X4_50 sX_19 rfl ?_
        refine g_iconst (v := (nI 1)) (q := 44) ok dX4_readNumber_43 rfl (by decide) ?_
        refine g_iadd (q := 45) ok dX4_readNumber_44 rfl ?_
        refine g_put (q := 48) ok dX4_readNumber_45 rfl fp_X4_50 sX_19 rfl rfl rfl ?_
        refine g_letw (fun w19 => ?_)
        refine g_iinc (v := v12 + (nI 1)) (q := 51) (L' := [(2, .int (v12 + (nI 1))), (1, .int v18), (0, .ref 47)]) ok dX4_readNumber_48 rfl 2 rfl rfl (by decide) rfl rfl ?_
        refine g_goto (q := 4) ok dX4_readNumber_51 (by decide) ?_
        refine g_to (L' := [(0, .ref 47), (1, .int v18), (2, .int (v12 + (nI 1)))]) ?_ [2, 1, 0] rfl
        exact hgo10 _ _ _
set_option maxRecDepth 20000 in
theorem kX4_goesDeeper (a1 : Int32) (w : gT) : gM S1 cl1 gTs yX4_goesDeeper cX4_goesDeeper 2 (some .boolean) rmX4_goesDeeper gi [.ref 47, .int a1] w (xX4_goesDeeper a1 w) := by
  refine gM_of (own := RX4) [(0, .ref 47), (1, .int a1)] rfl (by decide) (fun _ => rfl) (fun _ => Nat.le_of_ble_eq_true rfl) (fun κ ok => ?_)
  unfold xX4_goesDeeper
  refine g_iload_n (q := 1) ok dX4_goesDeeper_0 rfl 1 rfl rfl ?_
  refine g_bipush (v := (nI 6)) (q := 3) ok dX4_goesDeeper_1 rfl (by decide) ?_
  refine g_icmp_lt (q := 6) (g := 16) ok dX4_goesDeeper_3 rfl (by decide) ?_ ?_
  · refine g_aload_n (q := 17) ok dX4_goesDeeper_16 rfl 0 rfl rfl ?_
    refine g_getR (q := 20) ok dX4_goesDeeper_17 rfl fl_X4_9 sX_47 rfl ?_
    refine g_dup (q := 21) ok dX4_goesDeeper_20 rfl (fun _ => rfl) ?_
    refine g_getI (q := 24) (N := 0) ok dX4_goesDeeper_21 rfl fl_X4_50 sX_19 rfl ?_
    refine g_iconst (v := (nI 1)) (q := 25) ok dX4_goesDeeper_24 rfl (by decide) ?_
    refine g_iadd (q := 26) ok dX4_goesDeeper_25 rfl ?_
    refine g_put (q := 29) ok dX4_goesDeeper_26 rfl fp_X4_50 sX_19 rfl rfl rfl ?_
    refine g_letw (fun w1 => ?_)
    refine g_iconst (v := (nI 1)) (q := 30) ok dX4_goesDeeper_29 rfl (by decide) ?_
    exact g_zret ok dX4_goesDeeper_30 rfl
  · refine g_aload_n (q := 7) ok dX4_goesDeeper_6 rfl 0 rfl rfl ?_
    refine g_getR (q := 10) ok dX4_goesDeeper_7 rfl fl_X4_9 sX_47 rfl ?_
    refine g_iconst (v := (nI 5)) (q := 11) ok dX4_goesDeeper_10 rfl (by decide) ?_
    refine g_callVv (q := 14) (As := [.int (nI 5)]) (st := []) ok tbl_good dX4_goesDeeper_11 rfl (kX6_fail _ _) cf_X4_40 ⟨rfl, rfl, Nat.le_of_ble_eq_true rfl, Nat.le_of_ble_eq_true rfl⟩ sX_19 rfl rfl rfl (fun _ => Nat.le_of_ble_eq_true rfl) (fun w2 => ?_)
    refine g_iconst (v := (nI 0)) (q := 15) ok dX4_goesDeeper_14 rfl (by decide) ?_
    exact g_zret ok dX4_goesDeeper_15 rfl
set_option maxRecDepth 20000 in
theorem kX4_readFactor (N : Nat) (d : Nat) (rc : Int32 → gT → Option gT) (hrc : ∀ (a : Int32) (w : gT), gM S1 cl1 gTs yX4_readSum cX4_readSum 4 none (rmX4_readSum d) gv [.ref 47, .int a] w (rc a w)) (a1 : Int32) (w : gT) : gM S1 cl1 gTs yX4_readFactor cX4_readFactor 3 none (rmX4_readFactor d) gv [.ref 47, .int a1] w (xX4_readFactor N rc a1 w) := by
  refine gM_of (own := RX4) [(0, .ref 47), (1, .int a1)] rfl (by decide) (fun _ => rfl) (fun _ => Nat.le_of_ble_eq_true rfl) (fun κ ok => ?_)
  unfold xX4_readFactor
  refine g_aload_n (q := 1) ok dX4_readFactor_0 rfl 0 rfl rfl ?_
  refine g_getR (q := 4) ok dX4_readFactor_1 rfl fl_X4_9 sX_47 rfl ?_
  refine g_callVi (q := 7) (As := []) (st := []) ok tbl_good dX4_readFactor_4 rfl (kX6_peek _) cf_X4_27 ⟨rfl, rfl, by simp only [rmX6_peek, rmX4_readFactor]; omega, by simp only [rmX6_peek, rmX4_readFactor]; omega⟩ sX_19 rfl rfl rfl (fun _ => Nat.le_of_ble_eq_true rfl) (fun v1 w2 => ?_)
  refine g_istore_n (q := 8) (L' := [(2, .int v1), (0, .ref 47), (1, .int a1)]) ok dX4_readFactor_7 rfl rfl (by decide) rfl rfl ?_
  refine g_iload_n (q := 9) ok dX4_readFactor_8 rfl 0 rfl rfl ?_
  refine g_bipush (v := (nI 91)) (q := 11) ok dX4_readFactor_9 rfl (by decide) ?_
  refine g_icmp_ne (q := 14) (g := 41) ok dX4_readFactor_11 rfl (by decide) ?_ ?_
  · refine g_aload_n (q := 42) ok dX4_readFactor_41 rfl 1 rfl rfl ?_
    refine g_getR (q := 45) ok dX4_readFactor_42 rfl fl_X4_9 sX_47 rfl ?_
    refine g_callVi (q := 48) (As := []) (st := []) ok tbl_good dX4_readFactor_45 rfl (kX6_isAtDigit _) cf_X4_100 ⟨rfl, rfl, by simp only [rmX6_isAtDigit, rmX4_readFactor]; omega, by simp only [rmX6_isAtDigit, rmX4_readFactor]; omega⟩ sX_19 rfl rfl rfl (fun _ => Nat.le_of_ble_eq_true rfl) (fun v3 w4 => ?_)
    refine g_if_eq (q := 51) (g := 58) ok dX4_readFactor_48 rfl (by decide) ?_ ?_
    · refine g_iload_n (q := 59) ok dX4_readFactor_58 rfl 0 rfl rfl ?_
      refine g_callSi (q := 62) (As := [.int v1]) (st := []) ok tbl_good dX4_readFactor_59 rfl (kX4_isLetter _ _) cf_X4_107 ⟨rfl, rfl, by simp only [rmX4_isLetter, rmX4_readFactor]; omega, by simp only [rmX4_isLetter, rmX4_readFactor]; omega⟩ rfl rfl (fun _ => Nat.le_of_ble_eq_true rfl) (fun v5 w6 => ?_)
      refine g_if_eq (q := 65) (g := 93) ok dX4_readFactor_62 rfl (by decide) ?_ ?_
      · refine g_aload_n (q := 94) ok dX4_readFactor_93 rfl 1 rfl rfl ?_
        refine g_getR (q := 97) ok dX4_readFactor_94 rfl fl_X4_9 sX_47 rfl ?_
        refine g_iconst (v := (nI 1)) (q := 98) ok dX4_readFactor_97 rfl (by decide) ?_
        refine g_callVv (q := 101) (As := [.int (nI 1)]) (st := []) ok tbl_good dX4_readFactor_98 rfl (kX6_fail _ _) cf_X4_40 ⟨rfl, rfl, by simp only [rmX6_fail, rmX4_readFactor]; omega, by simp only [rmX6_fail, rmX4_readFactor]; omega⟩ sX_19 rfl rfl rfl (fun _ => Nat.le_of_ble_eq_true rfl) (fun w7 => ?_)
        exact g_vret ok dX4_readFactor_101
      · refine g_aload_n (q := 66) ok dX4_readFactor_65 rfl 1 rfl rfl ?_
        refine g_getR (q := 69) ok dX4_readFactor_66 rfl fl_X4_9 sX_47 rfl ?_
        refine g_dup (q := 70) ok dX4_readFactor_69 rfl (fun _ => rfl) ?_
        refine g_getI (q := 73) (N := 0) ok dX4_readFactor_70 rfl fl_X4_50 sX_19 rfl ?_
        refine g_iconst (v := (nI 1)) (q := 74) ok dX4_readFactor_73 rfl (by decide) ?_
        refine g_iadd (q := 75) ok dX4_readFactor_74 rfl ?_
        refine g_put (q := 78) ok dX4_readFactor_75 rfl fp_X4_50 sX_19 rfl rfl rfl ?_
        refine g_letw (fun w8 => ?_)
        refine g_aload_n (q := 79) ok dX4_readFactor_78 rfl 1 rfl rfl ?_
        refine g_getR (q := 82) ok dX4_readFactor_79 rfl fl_X4_15 sX_47 rfl ?_
        refine g_iconst (v := (nI 1)) (q := 83) ok dX4_readFactor_82 rfl (by decide) ?_
        refine g_iload_n (q := 84) ok dX4_readFactor_83 rfl 0 rfl rfl ?_
        refine g_bipush (v := (nI 97)) (q := 86) ok dX4_readFactor_84 rfl (by decide) ?_
        refine g_isub (q := 87) ok dX4_readFactor_86 rfl ?_
        refine g_callVv (q := 90) (As := [.int (nI 1), .int (v1 - (nI 97))]) (st := []) ok tbl_good dX4_readFactor_87 rfl (kX3_addStep _ _ _) cf_X4_59 ⟨rfl, rfl, by simp only [rmX3_addStep, rmX4_readFactor]; omega, by simp only [rmX3_addStep, rmX4_readFactor]; omega⟩ sX_40 rfl rfl rfl (fun _ => Nat.le_of_ble_eq_true rfl) (fun w9 => ?_)
        refine g_goto (q := 101) ok dX4_readFactor_90 (by decide) ?_
        exact g_vret ok dX4_readFactor_101
    · refine g_aload_n (q := 52) ok dX4_readFactor_51 rfl 1 rfl rfl ?_
      refine g_callVv (q := 55) (As := []) (st := []) ok tbl_good dX4_readFactor_52 rfl (kX4_readNumber N _) cf_X4_104 ⟨rfl, rfl, by simp only [rmX4_readNumber, rmX4_readFactor]; omega, by simp only [rmX4_readNumber, rmX4_readFactor]; omega⟩ sX_47 rfl rfl rfl (fun _ => Nat.le_of_ble_eq_true rfl) (fun w10 => ?_)
      refine g_goto (q := 101) ok dX4_readFactor_55 (by decide) ?_
      exact g_vret ok dX4_readFactor_101
  · refine g_aload_n (q := 15) ok dX4_readFactor_14 rfl 1 rfl rfl ?_
    refine g_iload_n (q := 16) ok dX4_readFactor_15 rfl 2 rfl rfl ?_
    refine g_callVi (q := 19) (As := [.int a1]) (st := []) ok tbl_good dX4_readFactor_16 rfl (kX4_goesDeeper _ _) cf_X4_83 ⟨rfl, rfl, by simp only [rmX4_goesDeeper, rmX4_readFactor]; omega, by simp only [rmX4_goesDeeper, rmX4_readFactor]; omega⟩ sX_47 rfl rfl rfl (fun _ => Nat.le_of_ble_eq_true rfl) (fun v11 w12 => ?_)
    refine g_if_eq (q := 22) (g := 101) ok dX4_readFactor_19 rfl (by decide) ?_ ?_
    · exact g_vret ok dX4_readFactor_101
    · refine g_aload_n (q := 23) ok dX4_readFactor_22 rfl 1 rfl rfl ?_
      refine g_iload_n (q := 24) ok dX4_readFactor_23 rfl 2 rfl rfl ?_
      refine g_iconst (v := (nI 1)) (q := 25) ok dX4_readFactor_24 rfl (by decide) ?_
      refine g_iadd (q := 26) ok dX4_readFactor_25 rfl ?_
      refine g_callVv (q := 29) (As := [.int (a1 + (nI 1))]) (st := []) ok tbl_good dX4_readFactor_26 rfl (hrc _ _) cf_X4_56 ⟨rfl, rfl, by simp only [rmX4_readSum, rmX4_readFactor]; omega, by simp only [rmX4_readSum, rmX4_readFactor]; omega⟩ sX_47 rfl rfl rfl (fun _ => Nat.le_of_ble_eq_true rfl) (fun w13 => ?_)
      refine g_aload_n (q := 30) ok dX4_readFactor_29 rfl 1 rfl rfl ?_
      refine g_getR (q := 33) ok dX4_readFactor_30 rfl fl_X4_9 sX_47 rfl ?_
      refine g_bipush (v := (nI 93)) (q := 35) ok dX4_readFactor_33 rfl (by decide) ?_
      refine g_callVv (q := 38) (As := [.int (nI 93)]) (st := []) ok tbl_good dX4_readFactor_35 rfl (kX6_takeSign _ _) cf_X4_33 ⟨rfl, rfl, by simp only [rmX6_takeSign, rmX4_readFactor]; omega, by simp only [rmX6_takeSign, rmX4_readFactor]; omega⟩ sX_19 rfl rfl rfl (fun _ => Nat.le_of_ble_eq_true rfl) (fun w14 => ?_)
      refine g_goto (q := 101) ok dX4_readFactor_38 (by decide) ?_
      exact g_vret ok dX4_readFactor_101
set_option maxRecDepth 20000 in
theorem kX4_timesAt (a0 : Int32) (w : gT) : gM S1 cl1 gTs yX4_timesAt cX4_timesAt 1 (some .int) rmX4_timesAt gi [.int a0] w (xX4_timesAt a0 w) := by
  refine gM_of (own := RX4) [(0, .int a0)] rfl (by decide) (fun _ => rfl) (fun _ => Nat.le_of_ble_eq_true rfl) (fun κ ok => ?_)
  unfold xX4_timesAt
  refine g_iload_n (q := 1) ok dX4_timesAt_0 rfl 0 rfl rfl ?_
  refine g_bipush (v := (nI 42)) (q := 3) ok dX4_timesAt_1 rfl (by decide) ?_
  refine g_icmp_ne (q := 6) (g := 9) ok dX4_timesAt_3 rfl (by decide) ?_ ?_
  · refine g_iload_n (q := 10) ok dX4_timesAt_9 rfl 0 rfl rfl ?_
    refine g_bipush (v := (nI 47)) (q := 12) ok dX4_timesAt_10 rfl (by decide) ?_
    refine g_icmp_ne (q := 15) (g := 18) ok dX4_timesAt_12 rfl (by decide) ?_ ?_
    · refine g_iload_n (q := 19) ok dX4_timesAt_18 rfl 0 rfl rfl ?_
      refine g_bipush (v := (nI 37)) (q := 21) ok dX4_timesAt_19 rfl (by decide) ?_
      refine g_icmp_ne (q := 24) (g := 29) ok dX4_timesAt_21 rfl (by decide) ?_ ?_
      · refine g_iconst (v := (-1)) (q := 30) ok dX4_timesAt_29 rfl (by decide) ?_
        exact g_iret ok dX4_timesAt_30
      · refine g_bipush (v := (nI 10)) (q := 26) ok dX4_timesAt_24 rfl (by decide) ?_
        refine g_goto (q := 30) ok dX4_timesAt_26 (by decide) ?_
        exact g_iret ok dX4_timesAt_30
    · refine g_bipush (v := (nI 9)) (q := 17) ok dX4_timesAt_15 rfl (by decide) ?_
      exact g_iret ok dX4_timesAt_17
  · refine g_bipush (v := (nI 8)) (q := 8) ok dX4_timesAt_6 rfl (by decide) ?_
    exact g_iret ok dX4_timesAt_8
set_option maxRecDepth 20000 in
theorem kX4_readProduct (N : Nat) (d : Nat) (rc : Int32 → gT → Option gT) (hrc : ∀ (a : Int32) (w : gT), gM S1 cl1 gTs yX4_readSum cX4_readSum 4 none (rmX4_readSum d) gv [.ref 47, .int a] w (rc a w)) (a1 : Int32) (w : gT) : gM S1 cl1 gTs yX4_readProduct cX4_readProduct 4 none (rmX4_readProduct d) gv [.ref 47, .int a1] w (xX4_readProduct N rc a1 w) := by
  refine gM_of (own := RX4) [(0, .ref 47), (1, .int a1)] rfl (by decide) (fun _ => rfl) (fun _ => Nat.le_of_ble_eq_true rfl) (fun κ ok => ?_)
  unfold xX4_readProduct
  refine g_aload_n (q := 1) ok dX4_readProduct_0 rfl 0 rfl rfl ?_
  refine g_iload_n (q := 2) ok dX4_readProduct_1 rfl 1 rfl rfl ?_
  refine g_callVv (q := 5) (As := [.int a1]) (st := []) ok tbl_good dX4_readProduct_2 rfl (kX4_readFactor N d rc hrc _ _) cf_X4_94 ⟨rfl, rfl, by simp only [rmX4_readFactor, rmX4_readProduct]; omega, by simp only [rmX4_readFactor, rmX4_readProduct]; omega⟩ sX_47 rfl rfl rfl (fun _ => Nat.le_of_ble_eq_true rfl) (fun w1 => ?_)
  refine g_iconst (v := (nI 0)) (q := 6) ok dX4_readProduct_5 rfl (by decide) ?_
  refine g_istore_n (q := 7) (L' := [(2, .int (nI 0)), (0, .ref 47), (1, .int a1)]) ok dX4_readProduct_6 rfl rfl (by decide) rfl rfl ?_
  refine g_to (L' := [(0, .ref 47), (1, .int a1), (2, .int (nI 0))]) ?_ [1, 2, 0] rfl
  refine g_loop1 (Lf := fun v3 => [(0, .ref 47), (1, .int a1), (2, .int v3)]) (fun go2 hgo2 v3 w4 => ?_) N _ _
  unfold xX4_readProduct_b7
  refine g_iload_n (q := 8) ok dX4_readProduct_7 rfl 2 rfl rfl ?_
  refine g_sipush (v := (nI 200)) (q := 11) ok dX4_readProduct_8 rfl (by decide) ?_
  refine g_icmp_ge (q := 14) (g := 72) ok dX4_readProduct_11 rfl (by decide) ?_ ?_
  · exact g_vret ok dX4_readProduct_72
  · refine g_aload_n (q := 15) ok dX4_readProduct_14 rfl 0 rfl rfl ?_
    refine g_getR (q := 18) ok dX4_readProduct_15 rfl fl_X4_9 sX_47 rfl ?_
    refine g_callVi (q := 21) (As := []) (st := []) ok tbl_good dX4_readProduct_18 rfl (kX6_peek _) cf_X4_27 ⟨rfl, rfl, by simp only [rmX6_peek, rmX4_readProduct]; omega, by simp only [rmX6_peek, rmX4_readProduct]; omega⟩ sX_19 rfl rfl rfl (fun _ => Nat.le_of_ble_eq_true rfl) (fun v5 w6 => ?_)
    refine g_callSi (q := 24) (As := [.int v5]) (st := []) ok tbl_good dX4_readProduct_21 rfl (kX4_timesAt _ _) cf_X4_97 ⟨rfl, rfl, by simp only [rmX4_timesAt, rmX4_readProduct]; omega, by simp only [rmX4_timesAt, rmX4_readProduct]; omega⟩ rfl rfl (fun _ => Nat.le_of_ble_eq_true rfl) (fun v7 w8 => ?_)
    refine g_iconst (v := (-1)) (q := 25) ok dX4_readProduct_24 rfl (by decide) ?_
    refine g_icmp_eq (q := 28) (g := 72) ok dX4_readProduct_25 rfl (by decide) ?_ ?_
    · exact g_vret ok dX4_readProduct_72
    · refine g_aload_n (q := 29) ok dX4_readProduct_28 rfl 0 rfl rfl ?_
      refine g_getR (q := 32) ok dX4_readProduct_29 rfl fl_X4_9 sX_47 rfl ?_
      refine g_callVi (q := 35) (As := []) (st := []) ok tbl_good dX4_readProduct_32 rfl (kX6_peek _) cf_X4_27 ⟨rfl, rfl, by simp only [rmX6_peek, rmX4_readProduct]; omega, by simp only [rmX6_peek, rmX4_readProduct]; omega⟩ sX_19 rfl rfl rfl (fun _ => Nat.le_of_ble_eq_true rfl) (fun v9 w10 => ?_)
      refine g_callSi (q := 38) (As := [.int v9]) (st := []) ok tbl_good dX4_readProduct_35 rfl (kX4_timesAt _ _) cf_X4_97 ⟨rfl, rfl, by simp only [rmX4_timesAt, rmX4_readProduct]; omega, by simp only [rmX4_timesAt, rmX4_readProduct]; omega⟩ rfl rfl (fun _ => Nat.le_of_ble_eq_true rfl) (fun v11 w12 => ?_)
      refine g_istore_n (q := 39) (L' := [(3, .int v11), (0, .ref 47), (1, .int a1), (2, .int v3)]) ok dX4_readProduct_38 rfl rfl (by decide) rfl rfl ?_
      refine g_aload_n (q := 40) ok dX4_readProduct_39 rfl 1 rfl rfl ?_
      refine g_getR (q := 43) ok dX4_readProduct_40 rfl fl_X4_9 sX_47 rfl ?_
      refine g_dup (q := 44) ok dX4_readProduct_43 rfl (fun _ => rfl) ?_
      refine g_getI (q := 47) (N := 0) ok dX4_readProduct_44 rfl fl_X4_50 sX_19 rfl ?_
      refine g_iconst (v := (nI 1)) (q := 48) ok dX4_readProduct_47 rfl (by decide) ?_
      refine g_iadd (q := 49) ok dX4_readProduct_48 rfl ?_
      refine g_put (q := 52) ok dX4_readProduct_49 rfl fp_X4_50 sX_19 rfl rfl rfl ?_
      refine g_letw (fun w13 => ?_)
      refine g_aload_n (q := 53) ok dX4_readProduct_52 rfl 1 rfl rfl ?_
      refine g_iload_n (q := 54) ok dX4_readProduct_53 rfl 2 rfl rfl ?_
      refine g_callVv (q := 57) (As := [.int a1]) (st := []) ok tbl_good dX4_readProduct_54 rfl (kX4_readFactor N d rc hrc _ _) cf_X4_94 ⟨rfl, rfl, by simp only [rmX4_readFactor, rmX4_readProduct]; omega, by simp only [rmX4_readFactor, rmX4_readProduct]; omega⟩ sX_47 rfl rfl rfl (fun _ => Nat.le_of_ble_eq_true rfl) (fun w14 => ?_)
      refine g_aload_n (q := 58) ok dX4_readProduct_57 rfl 1 rfl rfl ?_
      refine g_getR (q := 61) ok dX4_readProduct_58 rfl fl_X4_15 sX_47 rfl ?_
      refine g_iload_n (q := 62) ok dX4_readProduct_61 rfl 0 rfl rfl ?_
      refine g_iconst (v := (nI 0)) (q := 63) ok dX4_readProduct_62 rfl (by decide) ?_
      refine g_callVv (q := 66) (As := [.int v11, .int (nI 0)]) (st := []) ok tbl_good dX4_readProduct_63 rfl (kX3_addStep _ _ _) cf_X4_59 ⟨rfl, rfl, by simp only [rmX3_addStep, rmX4_readProduct]; omega, by simp only [rmX3_addStep, rmX4_readProduct]; omega⟩ sX_40 rfl rfl rfl (fun _ => Nat.le_of_ble_eq_true rfl) (fun w15 => ?_)
      refine g_iinc (v := v3 + (nI 1)) (q := 69) (L' := [(2, .int (v3 + (nI 1))), (3, .int v11), (0, .ref 47), (1, .int a1)]) ok dX4_readProduct_66 rfl 3 rfl rfl (by decide) rfl rfl ?_
      refine g_goto (q := 7) ok dX4_readProduct_69 (by decide) ?_
      refine g_to (L' := [(0, .ref 47), (1, .int a1), (2, .int (v3 + (nI 1)))]) ?_ [2, 3, 0] rfl
      exact hgo2 _ _
set_option maxRecDepth 20000 in
theorem kX4_readSumB (N : Nat) (d : Nat) (rc : Int32 → gT → Option gT) (hrc : ∀ (a : Int32) (w : gT), gM S1 cl1 gTs yX4_readSum cX4_readSum 4 none (rmX4_readSum d) gv [.ref 47, .int a] w (rc a w)) (a1 : Int32) (w : gT) : gM S1 cl1 gTs yX4_readSum cX4_readSum 4 none (rmX4_readSum (d + 1)) gv [.ref 47, .int a1] w (xX4_readSumB N rc a1 w) := by
  refine gM_of (own := RX4) [(0, .ref 47), (1, .int a1)] rfl (by decide) (fun _ => rfl) (fun _ => Nat.le_of_ble_eq_true rfl) (fun κ ok => ?_)
  unfold xX4_readSumB
  refine g_aload_n (q := 1) ok dX4_readSum_0 rfl 0 rfl rfl ?_
  refine g_iload_n (q := 2) ok dX4_readSum_1 rfl 1 rfl rfl ?_
  refine g_callVv (q := 5) (As := [.int a1]) (st := []) ok tbl_good dX4_readSum_2 rfl (kX4_readProduct N d rc hrc _ _) cf_X4_91 ⟨rfl, rfl, by simp only [rmX4_readProduct, rmX4_readSum]; omega, by simp only [rmX4_readProduct, rmX4_readSum]; omega⟩ sX_47 rfl rfl rfl (fun _ => Nat.le_of_ble_eq_true rfl) (fun w1 => ?_)
  refine g_iconst (v := (nI 0)) (q := 6) ok dX4_readSum_5 rfl (by decide) ?_
  refine g_istore_n (q := 7) (L' := [(2, .int (nI 0)), (0, .ref 47), (1, .int a1)]) ok dX4_readSum_6 rfl rfl (by decide) rfl rfl ?_
  refine g_to (L' := [(0, .ref 47), (1, .int a1), (2, .int (nI 0))]) ?_ [1, 2, 0] rfl
  refine g_loop1 (Lf := fun v3 => [(0, .ref 47), (1, .int a1), (2, .int v3)]) (fun go2 hgo2 v3 w4 => ?_) N _ _
  unfold xX4_readSum_b7
  refine g_iload_n (q := 8) ok dX4_readSum_7 rfl 2 rfl rfl ?_
  refine g_sipush (v := (nI 200)) (q := 11) ok dX4_readSum_8 rfl (by decide) ?_
  refine g_icmp_ge (q := 14) (g := 91) ok dX4_readSum_11 rfl (by decide) ?_ ?_
  · exact g_vret ok dX4_readSum_91
  · refine g_join (P := fun k5 => ∀ (w6 : gT), gJ S1 cl1 (rmX4_readSum (d + 1)) 4 gv κ 38 [(0, .ref 47), (1, .int a1), (2, .int v3)] [] w6 (k5 w6)) (fun w6 => ?_) (fun k5 hk5 => ?_)
    · refine g_join (P := fun k7 => ∀ (v8 : Int32) (w9 : gT), gJ S1 cl1 (rmX4_readSum (d + 1)) 4 gv κ 57 [(0, .ref 47), (1, .int a1), (2, .int v3)] [.int v8] w9 (k7 v8 w9)) (fun v8 w9 => ?_) (fun k7 hk7 => ?_)
      · refine g_istore_n (q := 58) (L' := [(3, .int v8), (0, .ref 47), (1, .int a1), (2, .int v3)]) ok dX4_readSum_57 rfl rfl (by decide) rfl rfl ?_
        refine g_aload_n (q := 59) ok dX4_readSum_58 rfl 1 rfl rfl ?_
        refine g_getR (q := 62) ok dX4_readSum_59 rfl fl_X4_9 sX_47 rfl ?_
        refine g_dup (q := 63) ok dX4_readSum_62 rfl (fun _ => rfl) ?_
        refine g_getI (q := 66) (N := 0) ok dX4_readSum_63 rfl fl_X4_50 sX_19 rfl ?_
        refine g_iconst (v := (nI 1)) (q := 67) ok dX4_readSum_66 rfl (by decide) ?_
        refine g_iadd (q := 68) ok dX4_readSum_67 rfl ?_
        refine g_put (q := 71) ok dX4_readSum_68 rfl fp_X4_50 sX_19 rfl rfl rfl ?_
        refine g_letw (fun w10 => ?_)
        refine g_aload_n (q := 72) ok dX4_readSum_71 rfl 1 rfl rfl ?_
        refine g_iload_n (q := 73) ok dX4_readSum_72 rfl 2 rfl rfl ?_
        refine g_callVv (q := 76) (As := [.int a1]) (st := []) ok tbl_good dX4_readSum_73 rfl (kX4_readProduct N d rc hrc _ _) cf_X4_91 ⟨rfl, rfl, by simp only [rmX4_readProduct, rmX4_readSum]; omega, by simp only [rmX4_readProduct, rmX4_readSum]; omega⟩ sX_47 rfl rfl rfl (fun _ => Nat.le_of_ble_eq_true rfl) (fun w11 => ?_)
        refine g_aload_n (q := 77) ok dX4_readSum_76 rfl 1 rfl rfl ?_
        refine g_getR (q := 80) ok dX4_readSum_77 rfl fl_X4_15 sX_47 rfl ?_
        refine g_iload_n (q := 81) ok dX4_readSum_80 rfl 0 rfl rfl ?_
        refine g_iconst (v := (nI 0)) (q := 82) ok dX4_readSum_81 rfl (by decide) ?_
        refine g_callVv (q := 85) (As := [.int v8, .int (nI 0)]) (st := []) ok tbl_good dX4_readSum_82 rfl (kX3_addStep _ _ _) cf_X4_59 ⟨rfl, rfl, by simp only [rmX3_addStep, rmX4_readSum]; omega, by simp only [rmX3_addStep, rmX4_readSum]; omega⟩ sX_40 rfl rfl rfl (fun _ => Nat.le_of_ble_eq_true rfl) (fun w12 => ?_)
        refine g_iinc (v := v3 + (nI 1)) (q := 88) (L' := [(2, .int (v3 + (nI 1))), (3, .int v8), (0, .ref 47), (1, .int a1)]) ok dX4_readSum_85 rfl 3 rfl rfl (by decide) rfl rfl ?_
        refine g_goto (q := 7) ok dX4_readSum_88 (by decide) ?_
        refine g_to (L' := [(0, .ref 47), (1, .int a1), (2, .int (v3 + (nI 1)))]) ?_ [2, 3, 0] rfl
        exact hgo2 _ _
      · refine g_aload_n (q := 39) ok dX4_readSum_38 rfl 0 rfl rfl ?_
        refine g_getR (q := 42) ok dX4_readSum_39 rfl fl_X4_9 sX_47 rfl ?_
        refine g_callVi (q := 45) (As := []) (st := []) ok tbl_good dX4_readSum_42 rfl (kX6_peek _) cf_X4_27 ⟨rfl, rfl, by simp only [rmX6_peek, rmX4_readSum]; omega, by simp only [rmX6_peek, rmX4_readSum]; omega⟩ sX_19 rfl rfl rfl (fun _ => Nat.le_of_ble_eq_true rfl) (fun v13 w14 => ?_)
        refine g_bipush (v := (nI 43)) (q := 47) ok dX4_readSum_45 rfl (by decide) ?_
        refine g_icmp_ne (q := 50) (g := 55) ok dX4_readSum_47 rfl (by decide) ?_ ?_
        · refine g_bipush (v := (nI 7)) (q := 57) ok dX4_readSum_55 rfl (by decide) ?_
          exact hk7 _ _
        · refine g_bipush (v := (nI 6)) (q := 52) ok dX4_readSum_50 rfl (by decide) ?_
          refine g_goto (q := 57) ok dX4_readSum_52 (by decide) ?_
          exact hk7 _ _
    · refine g_aload_n (q := 15) ok dX4_readSum_14 rfl 0 rfl rfl ?_
      refine g_getR (q := 18) ok dX4_readSum_15 rfl fl_X4_9 sX_47 rfl ?_
      refine g_callVi (q := 21) (As := []) (st := []) ok tbl_good dX4_readSum_18 rfl (kX6_peek _) cf_X4_27 ⟨rfl, rfl, by simp only [rmX6_peek, rmX4_readSum]; omega, by simp only [rmX6_peek, rmX4_readSum]; omega⟩ sX_19 rfl rfl rfl (fun _ => Nat.le_of_ble_eq_true rfl) (fun v15 w16 => ?_)
      refine g_bipush (v := (nI 43)) (q := 23) ok dX4_readSum_21 rfl (by decide) ?_
      refine g_icmp_eq (q := 26) (g := 38) ok dX4_readSum_23 rfl (by decide) ?_ ?_
      · exact hk5 _
      · refine g_aload_n (q := 27) ok dX4_readSum_26 rfl 0 rfl rfl ?_
        refine g_getR (q := 30) ok dX4_readSum_27 rfl fl_X4_9 sX_47 rfl ?_
        refine g_callVi (q := 33) (As := []) (st := []) ok tbl_good dX4_readSum_30 rfl (kX6_peek _) cf_X4_27 ⟨rfl, rfl, by simp only [rmX6_peek, rmX4_readSum]; omega, by simp only [rmX6_peek, rmX4_readSum]; omega⟩ sX_19 rfl rfl rfl (fun _ => Nat.le_of_ble_eq_true rfl) (fun v17 w18 => ?_)
        refine g_bipush (v := (nI 45)) (q := 35) ok dX4_readSum_33 rfl (by decide) ?_
        refine g_icmp_ne (q := 38) (g := 91) ok dX4_readSum_35 rfl (by decide) ?_ ?_
        · exact g_vret ok dX4_readSum_91
        · exact hk5 _
theorem kX4_readSum (N : Nat) : ∀ (d : Nat) (a1 : Int32) (w : gT), gM S1 cl1 gTs yX4_readSum cX4_readSum 4 none (rmX4_readSum d) gv [.ref 47, .int a1] w (xX4_readSum N d a1 w)
  | 0, _, _ => gM_none
  | d + 1, a1, w => kX4_readSumB N d _ (kX4_readSum N d) a1 w
set_option maxRecDepth 20000 in
theorem kX4_comparisonAt (a1 : Int32) (w : gT) : gM S1 cl1 gTs yX4_comparisonAt cX4_comparisonAt 2 (some .int) rmX4_comparisonAt gi [.ref 47, .int a1] w (xX4_comparisonAt a1 w) := by
  refine gM_of (own := RX4) [(0, .ref 47), (1, .int a1)] rfl (by decide) (fun _ => rfl) (fun _ => Nat.le_of_ble_eq_true rfl) (fun κ ok => ?_)
  unfold xX4_comparisonAt
  refine g_join (P := fun k1 => ∀ (w2 : gT), gJ S1 cl1 rmX4_comparisonAt 2 gi κ 26 [(0, .ref 47), (1, .int a1)] [] w2 (k1 w2)) (fun w2 => ?_) (fun k1 hk1 => ?_)
  · refine g_iload_n (q := 27) ok dX4_comparisonAt_26 rfl 1 rfl rfl ?_
    refine g_bipush (v := (nI 60)) (q := 29) ok dX4_comparisonAt_27 rfl (by decide) ?_
    refine g_icmp_ne (q := 32) (g := 35) ok dX4_comparisonAt_29 rfl (by decide) ?_ ?_
    · refine g_iload_n (q := 36) ok dX4_comparisonAt_35 rfl 1 rfl rfl ?_
      refine g_bipush (v := (nI 62)) (q := 38) ok dX4_comparisonAt_36 rfl (by decide) ?_
      refine g_icmp_ne (q := 41) (g := 46) ok dX4_comparisonAt_38 rfl (by decide) ?_ ?_
      · refine g_bipush (v := (nI 13)) (q := 48) ok dX4_comparisonAt_46 rfl (by decide) ?_
        exact g_iret ok dX4_comparisonAt_48
      · refine g_bipush (v := (nI 12)) (q := 43) ok dX4_comparisonAt_41 rfl (by decide) ?_
        refine g_goto (q := 48) ok dX4_comparisonAt_43 (by decide) ?_
        exact g_iret ok dX4_comparisonAt_48
    · refine g_bipush (v := (nI 11)) (q := 34) ok dX4_comparisonAt_32 rfl (by decide) ?_
      exact g_iret ok dX4_comparisonAt_34
  · refine g_iload_n (q := 1) ok dX4_comparisonAt_0 rfl 1 rfl rfl ?_
    refine g_bipush (v := (nI 60)) (q := 3) ok dX4_comparisonAt_1 rfl (by decide) ?_
    refine g_icmp_eq (q := 6) (g := 26) ok dX4_comparisonAt_3 rfl (by decide) ?_ ?_
    · exact hk1 _
    · refine g_iload_n (q := 7) ok dX4_comparisonAt_6 rfl 1 rfl rfl ?_
      refine g_bipush (v := (nI 62)) (q := 9) ok dX4_comparisonAt_7 rfl (by decide) ?_
      refine g_icmp_eq (q := 12) (g := 26) ok dX4_comparisonAt_9 rfl (by decide) ?_ ?_
      · exact hk1 _
      · refine g_iload_n (q := 13) ok dX4_comparisonAt_12 rfl 1 rfl rfl ?_
        refine g_bipush (v := (nI 61)) (q := 15) ok dX4_comparisonAt_13 rfl (by decide) ?_
        refine g_icmp_eq (q := 18) (g := 26) ok dX4_comparisonAt_15 rfl (by decide) ?_ ?_
        · exact hk1 _
        · refine g_aload_n (q := 19) ok dX4_comparisonAt_18 rfl 0 rfl rfl ?_
          refine g_getR (q := 22) ok dX4_comparisonAt_19 rfl fl_X4_9 sX_47 rfl ?_
          refine g_iconst (v := (nI 1)) (q := 23) ok dX4_comparisonAt_22 rfl (by decide) ?_
          refine g_callVv (q := 26) (As := [.int (nI 1)]) (st := []) ok tbl_good dX4_comparisonAt_23 rfl (kX6_fail _ _) cf_X4_40 ⟨rfl, rfl, Nat.le_of_ble_eq_true rfl, Nat.le_of_ble_eq_true rfl⟩ sX_19 rfl rfl rfl (fun _ => Nat.le_of_ble_eq_true rfl) (fun w3 => ?_)
          exact hk1 _
set_option maxRecDepth 20000 in
theorem kX4_readPieceB (N : Nat) (d : Nat) (rc : Int32 → gT → Option gT) (hrc : ∀ (a : Int32) (w : gT), gM S1 cl1 gTs yX4_readPiece cX4_readPiece 3 none (rmX4_readPiece d) gv [.ref 47, .int a] w (rc a w)) (a1 : Int32) (w : gT) : gM S1 cl1 gTs yX4_readPiece cX4_readPiece 3 none (rmX4_readPiece (d + 1)) gv [.ref 47, .int a1] w (xX4_readPieceB N rc a1 w) := by
  refine gM_of (own := RX4) [(0, .ref 47), (1, .int a1)] rfl (by decide) (fun _ => rfl) (fun _ => Nat.le_of_ble_eq_true rfl) (fun κ ok => ?_)
  unfold xX4_readPieceB
  refine g_aload_n (q := 1) ok dX4_readPiece_0 rfl 0 rfl rfl ?_
  refine g_getR (q := 4) ok dX4_readPiece_1 rfl fl_X4_9 sX_47 rfl ?_
  refine g_callVi (q := 7) (As := []) (st := []) ok tbl_good dX4_readPiece_4 rfl (kX6_peek _) cf_X4_27 ⟨rfl, rfl, by simp only [rmX6_peek, rmX4_readPiece]; omega, by simp only [rmX6_peek, rmX4_readPiece]; omega⟩ sX_19 rfl rfl rfl (fun _ => Nat.le_of_ble_eq_true rfl) (fun v1 w2 => ?_)
  refine g_bipush (v := (nI 33)) (q := 9) ok dX4_readPiece_7 rfl (by decide) ?_
  refine g_icmp_ne (q := 12) (g := 39) ok dX4_readPiece_9 rfl (by decide) ?_ ?_
  · refine g_aload_n (q := 40) ok dX4_readPiece_39 rfl 0 rfl rfl ?_
    refine g_getR (q := 43) ok dX4_readPiece_40 rfl fl_X4_9 sX_47 rfl ?_
    refine g_callVi (q := 46) (As := []) (st := []) ok tbl_good dX4_readPiece_43 rfl (kX6_peek _) cf_X4_27 ⟨rfl, rfl, by simp only [rmX6_peek, rmX4_readPiece]; omega, by simp only [rmX6_peek, rmX4_readPiece]; omega⟩ sX_19 rfl rfl rfl (fun _ => Nat.le_of_ble_eq_true rfl) (fun v3 w4 => ?_)
    refine g_bipush (v := (nI 40)) (q := 48) ok dX4_readPiece_46 rfl (by decide) ?_
    refine g_icmp_ne (q := 51) (g := 78) ok dX4_readPiece_48 rfl (by decide) ?_ ?_
    · refine g_aload_n (q := 79) ok dX4_readPiece_78 rfl 0 rfl rfl ?_
      refine g_iload_n (q := 80) ok dX4_readPiece_79 rfl 1 rfl rfl ?_
      refine g_callVv (q := 83) (As := [.int a1]) (st := []) ok tbl_good dX4_readPiece_80 rfl (kX4_readSum N 9 _ _) cf_X4_56 ⟨rfl, rfl, by simp only [rmX4_readSum, rmX4_readPiece]; omega, by simp only [rmX4_readSum, rmX4_readPiece]; omega⟩ sX_47 rfl rfl rfl (fun _ => Nat.le_of_ble_eq_true rfl) (fun w5 => ?_)
      refine g_aload_n (q := 84) ok dX4_readPiece_83 rfl 0 rfl rfl ?_
      refine g_aload_n (q := 85) ok dX4_readPiece_84 rfl 0 rfl rfl ?_
      refine g_getR (q := 88) ok dX4_readPiece_85 rfl fl_X4_9 sX_47 rfl ?_
      refine g_callVi (q := 91) (As := []) (st := [.ref 47]) ok tbl_good dX4_readPiece_88 rfl (kX6_peek _) cf_X4_27 ⟨rfl, rfl, by simp only [rmX6_peek, rmX4_readPiece]; omega, by simp only [rmX6_peek, rmX4_readPiece]; omega⟩ sX_19 rfl rfl rfl (fun _ => Nat.le_of_ble_eq_true rfl) (fun v6 w7 => ?_)
      refine g_callVi (q := 94) (As := [.int v6]) (st := []) ok tbl_good dX4_readPiece_91 rfl (kX4_comparisonAt _ _) cf_X4_87 ⟨rfl, rfl, by simp only [rmX4_comparisonAt, rmX4_readPiece]; omega, by simp only [rmX4_comparisonAt, rmX4_readPiece]; omega⟩ sX_47 rfl rfl rfl (fun _ => Nat.le_of_ble_eq_true rfl) (fun v8 w9 => ?_)
      refine g_istore_n (q := 95) (L' := [(2, .int v8), (0, .ref 47), (1, .int a1)]) ok dX4_readPiece_94 rfl rfl (by decide) rfl rfl ?_
      refine g_aload_n (q := 96) ok dX4_readPiece_95 rfl 1 rfl rfl ?_
      refine g_getR (q := 99) ok dX4_readPiece_96 rfl fl_X4_9 sX_47 rfl ?_
      refine g_dup (q := 100) ok dX4_readPiece_99 rfl (fun _ => rfl) ?_
      refine g_getI (q := 103) (N := 0) ok dX4_readPiece_100 rfl fl_X4_50 sX_19 rfl ?_
      refine g_iconst (v := (nI 1)) (q := 104) ok dX4_readPiece_103 rfl (by decide) ?_
      refine g_iadd (q := 105) ok dX4_readPiece_104 rfl ?_
      refine g_put (q := 108) ok dX4_readPiece_105 rfl fp_X4_50 sX_19 rfl rfl rfl ?_
      refine g_letw (fun w10 => ?_)
      refine g_aload_n (q := 109) ok dX4_readPiece_108 rfl 1 rfl rfl ?_
      refine g_iload_n (q := 110) ok dX4_readPiece_109 rfl 2 rfl rfl ?_
      refine g_callVv (q := 113) (As := [.int a1]) (st := []) ok tbl_good dX4_readPiece_110 rfl (kX4_readSum N 9 _ _) cf_X4_56 ⟨rfl, rfl, by simp only [rmX4_readSum, rmX4_readPiece]; omega, by simp only [rmX4_readSum, rmX4_readPiece]; omega⟩ sX_47 rfl rfl rfl (fun _ => Nat.le_of_ble_eq_true rfl) (fun w11 => ?_)
      refine g_aload_n (q := 114) ok dX4_readPiece_113 rfl 1 rfl rfl ?_
      refine g_getR (q := 117) ok dX4_readPiece_114 rfl fl_X4_15 sX_47 rfl ?_
      refine g_iload_n (q := 118) ok dX4_readPiece_117 rfl 0 rfl rfl ?_
      refine g_iconst (v := (nI 0)) (q := 119) ok dX4_readPiece_118 rfl (by decide) ?_
      refine g_callVv (q := 122) (As := [.int v8, .int (nI 0)]) (st := []) ok tbl_good dX4_readPiece_119 rfl (kX3_addStep _ _ _) cf_X4_59 ⟨rfl, rfl, by simp only [rmX3_addStep, rmX4_readPiece]; omega, by simp only [rmX3_addStep, rmX4_readPiece]; omega⟩ sX_40 rfl rfl rfl (fun _ => Nat.le_of_ble_eq_true rfl) (fun w12 => ?_)
      exact g_vret ok dX4_readPiece_122
    · refine g_aload_n (q := 52) ok dX4_readPiece_51 rfl 0 rfl rfl ?_
      refine g_iload_n (q := 53) ok dX4_readPiece_52 rfl 1 rfl rfl ?_
      refine g_callVi (q := 56) (As := [.int a1]) (st := []) ok tbl_good dX4_readPiece_53 rfl (kX4_goesDeeper _ _) cf_X4_83 ⟨rfl, rfl, by simp only [rmX4_goesDeeper, rmX4_readPiece]; omega, by simp only [rmX4_goesDeeper, rmX4_readPiece]; omega⟩ sX_47 rfl rfl rfl (fun _ => Nat.le_of_ble_eq_true rfl) (fun v13 w14 => ?_)
      refine g_if_eq (q := 59) (g := 122) ok dX4_readPiece_56 rfl (by decide) ?_ ?_
      · exact g_vret ok dX4_readPiece_122
      · refine g_aload_n (q := 60) ok dX4_readPiece_59 rfl 0 rfl rfl ?_
        refine g_iload_n (q := 61) ok dX4_readPiece_60 rfl 1 rfl rfl ?_
        refine g_iconst (v := (nI 1)) (q := 62) ok dX4_readPiece_61 rfl (by decide) ?_
        refine g_iadd (q := 63) ok dX4_readPiece_62 rfl ?_
        refine g_callVv (q := 66) (As := [.int (a1 + (nI 1))]) (st := []) ok tbl_good dX4_readPiece_63 rfl (kX4_readParts N d rc hrc _ _) cf_X4_63 ⟨rfl, rfl, by simp only [rmX4_readParts, rmX4_readPiece]; omega, by simp only [rmX4_readParts, rmX4_readPiece]; omega⟩ sX_47 rfl rfl rfl (fun _ => Nat.le_of_ble_eq_true rfl) (fun w15 => ?_)
        refine g_aload_n (q := 67) ok dX4_readPiece_66 rfl 0 rfl rfl ?_
        refine g_getR (q := 70) ok dX4_readPiece_67 rfl fl_X4_9 sX_47 rfl ?_
        refine g_bipush (v := (nI 41)) (q := 72) ok dX4_readPiece_70 rfl (by decide) ?_
        refine g_callVv (q := 75) (As := [.int (nI 41)]) (st := []) ok tbl_good dX4_readPiece_72 rfl (kX6_takeSign _ _) cf_X4_33 ⟨rfl, rfl, by simp only [rmX6_takeSign, rmX4_readPiece]; omega, by simp only [rmX6_takeSign, rmX4_readPiece]; omega⟩ sX_19 rfl rfl rfl (fun _ => Nat.le_of_ble_eq_true rfl) (fun w16 => ?_)
        refine g_goto (q := 122) ok dX4_readPiece_75 (by decide) ?_
        exact g_vret ok dX4_readPiece_122
  · refine g_aload_n (q := 13) ok dX4_readPiece_12 rfl 0 rfl rfl ?_
    refine g_iload_n (q := 14) ok dX4_readPiece_13 rfl 1 rfl rfl ?_
    refine g_callVi (q := 17) (As := [.int a1]) (st := []) ok tbl_good dX4_readPiece_14 rfl (kX4_goesDeeper _ _) cf_X4_83 ⟨rfl, rfl, by simp only [rmX4_goesDeeper, rmX4_readPiece]; omega, by simp only [rmX4_goesDeeper, rmX4_readPiece]; omega⟩ sX_47 rfl rfl rfl (fun _ => Nat.le_of_ble_eq_true rfl) (fun v17 w18 => ?_)
    refine g_if_eq (q := 20) (g := 122) ok dX4_readPiece_17 rfl (by decide) ?_ ?_
    · exact g_vret ok dX4_readPiece_122
    · refine g_aload_n (q := 21) ok dX4_readPiece_20 rfl 0 rfl rfl ?_
      refine g_iload_n (q := 22) ok dX4_readPiece_21 rfl 1 rfl rfl ?_
      refine g_iconst (v := (nI 1)) (q := 23) ok dX4_readPiece_22 rfl (by decide) ?_
      refine g_iadd (q := 24) ok dX4_readPiece_23 rfl ?_
      refine g_callVv (q := 27) (As := [.int (a1 + (nI 1))]) (st := []) ok tbl_good dX4_readPiece_24 rfl (hrc _ _) cf_X4_80 ⟨rfl, rfl, by simp only [rmX4_readPiece, rmX4_readPiece]; omega, by simp only [rmX4_readPiece, rmX4_readPiece]; omega⟩ sX_47 rfl rfl rfl (fun _ => Nat.le_of_ble_eq_true rfl) (fun w19 => ?_)
      refine g_aload_n (q := 28) ok dX4_readPiece_27 rfl 0 rfl rfl ?_
      refine g_getR (q := 31) ok dX4_readPiece_28 rfl fl_X4_15 sX_47 rfl ?_
      refine g_iconst (v := (nI 3)) (q := 32) ok dX4_readPiece_31 rfl (by decide) ?_
      refine g_iconst (v := (nI 0)) (q := 33) ok dX4_readPiece_32 rfl (by decide) ?_
      refine g_callVv (q := 36) (As := [.int (nI 3), .int (nI 0)]) (st := []) ok tbl_good dX4_readPiece_33 rfl (kX3_addStep _ _ _) cf_X4_59 ⟨rfl, rfl, by simp only [rmX3_addStep, rmX4_readPiece]; omega, by simp only [rmX3_addStep, rmX4_readPiece]; omega⟩ sX_40 rfl rfl rfl (fun _ => Nat.le_of_ble_eq_true rfl) (fun w20 => ?_)
      refine g_goto (q := 122) ok dX4_readPiece_36 (by decide) ?_
      exact g_vret ok dX4_readPiece_122
theorem kX4_readPiece (N : Nat) : ∀ (d : Nat) (a1 : Int32) (w : gT), gM S1 cl1 gTs yX4_readPiece cX4_readPiece 3 none (rmX4_readPiece d) gv [.ref 47, .int a1] w (xX4_readPiece N d a1 w)
  | 0, _, _ => gM_none
  | d + 1, a1, w => kX4_readPieceB N d _ (kX4_readPiece N d) a1 w
