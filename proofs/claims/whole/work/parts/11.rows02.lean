set_option maxRecDepth 20000 in
theorem kX3_addClause (a1 : Int32) (a2 : Int32) (a3 : Int32) (w : gT) : gM S1 cl1 gTs yX3_addClause cX3_addClause 4 none rmX3_addClause gv [.ref 40, .int a1, .int a2, .int a3] w (xX3_addClause a1 a2 a3 w) := by
  refine gM_of (own := RX3) [(0, .ref 40), (1, .int a1), (2, .int a2), (3, .int a3)] rfl (by decide) (fun _ => rfl) (fun _ => Nat.le_of_ble_eq_true rfl) (fun κ ok => ?_)
  unfold xX3_addClause
  refine g_aload_n (q := 1) ok dX3_addClause_0 rfl 0 rfl rfl ?_
  refine g_getI (q := 4) (N := 0) ok dX3_addClause_1 rfl fl_X3_28 sX_40 rfl ?_
  refine g_bipush (v := (nI 14)) (q := 6) ok dX3_addClause_4 rfl (by decide) ?_
  refine g_icmp_ge (q := 9) (g := 49) ok dX3_addClause_6 rfl (by decide) ?_ ?_
  · exact g_vret ok dX3_addClause_49
  · refine g_aload_n (q := 10) ok dX3_addClause_9 rfl 0 rfl rfl ?_
    refine g_getR (q := 13) ok dX3_addClause_10 rfl fl_X3_9 sX_40 rfl ?_
    refine g_aload_n (q := 14) ok dX3_addClause_13 rfl 0 rfl rfl ?_
    refine g_getI (q := 17) (N := 0) ok dX3_addClause_14 rfl fl_X3_28 sX_40 rfl ?_
    refine g_iload_n (q := 18) ok dX3_addClause_17 rfl 1 rfl rfl ?_
    refine g_iast (q := 19) ok dX3_addClause_18 rfl sX_41 ?_
    refine g_letw (fun w1 => ?_)
    refine g_aload_n (q := 20) ok dX3_addClause_19 rfl 0 rfl rfl ?_
    refine g_getR (q := 23) ok dX3_addClause_20 rfl fl_X3_13 sX_40 rfl ?_
    refine g_aload_n (q := 24) ok dX3_addClause_23 rfl 0 rfl rfl ?_
    refine g_getI (q := 27) (N := 0) ok dX3_addClause_24 rfl fl_X3_28 sX_40 rfl ?_
    refine g_iload_n (q := 28) ok dX3_addClause_27 rfl 2 rfl rfl ?_
    refine g_iast (q := 29) ok dX3_addClause_28 rfl sX_42 ?_
    refine g_letw (fun w2 => ?_)
    refine g_aload_n (q := 30) ok dX3_addClause_29 rfl 0 rfl rfl ?_
    refine g_getR (q := 33) ok dX3_addClause_30 rfl fl_X3_16 sX_40 rfl ?_
    refine g_aload_n (q := 34) ok dX3_addClause_33 rfl 0 rfl rfl ?_
    refine g_getI (q := 37) (N := 0) ok dX3_addClause_34 rfl fl_X3_28 sX_40 rfl ?_
    refine g_iload_n (q := 38) ok dX3_addClause_37 rfl 3 rfl rfl ?_
    refine g_iast (q := 39) ok dX3_addClause_38 rfl sX_43 ?_
    refine g_letw (fun w3 => ?_)
    refine g_aload_n (q := 40) ok dX3_addClause_39 rfl 0 rfl rfl ?_
    refine g_dup (q := 41) ok dX3_addClause_40 rfl (fun _ => rfl) ?_
    refine g_getI (q := 44) (N := 0) ok dX3_addClause_41 rfl fl_X3_28 sX_40 rfl ?_
    refine g_iconst (v := (nI 1)) (q := 45) ok dX3_addClause_44 rfl (by decide) ?_
    refine g_iadd (q := 46) ok dX3_addClause_45 rfl ?_
    refine g_put (q := 49) ok dX3_addClause_46 rfl fp_X3_28 sX_40 rfl rfl rfl ?_
    refine g_letw (fun w4 => ?_)
    exact g_vret ok dX3_addClause_49
set_option maxRecDepth 20000 in
theorem kX4_readClause (N : Nat) (w : gT) : gM S1 cl1 gTs yX4_readClause cX4_readClause 4 none rmX4_readClause gv [.ref 47] w (xX4_readClause N w) := by
  refine gM_of (own := RX4) [(0, .ref 47)] rfl (by decide) (fun _ => rfl) (fun _ => Nat.le_of_ble_eq_true rfl) (fun κ ok => ?_)
  unfold xX4_readClause
  refine g_join (P := fun k1 => ∀ (v2 : Int32) (w3 : gT), gJ S1 cl1 rmX4_readClause 4 gv κ 69 [(0, .ref 47), (1, .int v2)] [] w3 (k1 v2 w3)) (fun v2 w3 => ?_) (fun k1 hk1 => ?_)
  · refine g_aload_n (q := 70) ok dX4_readClause_69 rfl 0 rfl rfl ?_
    refine g_getR (q := 73) ok dX4_readClause_70 rfl fl_X4_9 sX_47 rfl ?_
    refine g_getI (q := 76) (N := 0) ok dX4_readClause_73 rfl fl_X4_47 sX_19 rfl ?_
    refine g_if_eq (q := 79) (g := 80) ok dX4_readClause_76 rfl (by decide) ?_ ?_
    · refine g_join (P := fun k4 => ∀ (v5 : Int32) (w6 : gT), gJ S1 cl1 rmX4_readClause 4 gv κ 121 [(0, .ref 47), (1, .int v2), (2, .int v5)] [] w6 (k4 v5 w6)) (fun v5 w6 => ?_) (fun k4 hk4 => ?_)
      · refine g_aload_n (q := 122) ok dX4_readClause_121 rfl 0 rfl rfl ?_
        refine g_getR (q := 125) ok dX4_readClause_122 rfl fl_X4_9 sX_47 rfl ?_
        refine g_bipush (v := (nI 40)) (q := 127) ok dX4_readClause_125 rfl (by decide) ?_
        refine g_callVv (q := 130) (As := [.int (nI 40)]) (st := []) ok tbl_good dX4_readClause_127 rfl (kX6_takeSign _ _) cf_X4_33 ⟨rfl, rfl, Nat.le_of_ble_eq_true rfl, Nat.le_of_ble_eq_true rfl⟩ sX_19 rfl rfl rfl (fun _ => Nat.le_of_ble_eq_true rfl) (fun w7 => ?_)
        refine g_aload_n (q := 131) ok dX4_readClause_130 rfl 0 rfl rfl ?_
        refine g_getR (q := 134) ok dX4_readClause_131 rfl fl_X4_15 sX_47 rfl ?_
        refine g_getI (q := 137) (N := 0) ok dX4_readClause_134 rfl fl_X4_53 sX_40 rfl ?_
        refine g_leti (fun v8 => ?_)
        refine g_istore_n (q := 138) (L' := [(3, .int v8), (0, .ref 47), (1, .int v2), (2, .int v5)]) ok dX4_readClause_137 rfl rfl (by decide) rfl rfl ?_
        refine g_aload_n (q := 139) ok dX4_readClause_138 rfl 1 rfl rfl ?_
        refine g_iconst (v := (nI 1)) (q := 140) ok dX4_readClause_139 rfl (by decide) ?_
        refine g_callVv (q := 143) (As := [.int (nI 1)]) (st := []) ok tbl_good dX4_readClause_140 rfl (kX4_readParts N 9 _ (kX4_readPiece N 9) _ _) cf_X4_63 ⟨rfl, rfl, Nat.le_of_ble_eq_true rfl, Nat.le_of_ble_eq_true rfl⟩ sX_47 rfl rfl rfl (fun _ => Nat.le_of_ble_eq_true rfl) (fun w9 => ?_)
        refine g_aload_n (q := 144) ok dX4_readClause_143 rfl 1 rfl rfl ?_
        refine g_getR (q := 147) ok dX4_readClause_144 rfl fl_X4_15 sX_47 rfl ?_
        refine g_iconst (v := (nI 2)) (q := 148) ok dX4_readClause_147 rfl (by decide) ?_
        refine g_iconst (v := (nI 0)) (q := 149) ok dX4_readClause_148 rfl (by decide) ?_
        refine g_callVv (q := 152) (As := [.int (nI 2), .int (nI 0)]) (st := []) ok tbl_good dX4_readClause_149 rfl (kX3_addStep _ _ _) cf_X4_59 ⟨rfl, rfl, Nat.le_of_ble_eq_true rfl, Nat.le_of_ble_eq_true rfl⟩ sX_40 rfl rfl rfl (fun _ => Nat.le_of_ble_eq_true rfl) (fun w10 => ?_)
        refine g_aload_n (q := 153) ok dX4_readClause_152 rfl 1 rfl rfl ?_
        refine g_getR (q := 156) ok dX4_readClause_153 rfl fl_X4_9 sX_47 rfl ?_
        refine g_bipush (v := (nI 41)) (q := 158) ok dX4_readClause_156 rfl (by decide) ?_
        refine g_callVv (q := 161) (As := [.int (nI 41)]) (st := []) ok tbl_good dX4_readClause_158 rfl (kX6_takeSign _ _) cf_X4_33 ⟨rfl, rfl, Nat.le_of_ble_eq_true rfl, Nat.le_of_ble_eq_true rfl⟩ sX_19 rfl rfl rfl (fun _ => Nat.le_of_ble_eq_true rfl) (fun w11 => ?_)
        refine g_aload_n (q := 162) ok dX4_readClause_161 rfl 1 rfl rfl ?_
        refine g_getR (q := 165) ok dX4_readClause_162 rfl fl_X4_15 sX_47 rfl ?_
        refine g_iload_n (q := 166) ok dX4_readClause_165 rfl 2 rfl rfl ?_
        refine g_iload_n (q := 167) ok dX4_readClause_166 rfl 3 rfl rfl ?_
        refine g_iload_n (q := 168) ok dX4_readClause_167 rfl 0 rfl rfl ?_
        refine g_callVv (q := 171) (As := [.int v2, .int v5, .int v8]) (st := []) ok tbl_good dX4_readClause_168 rfl (kX3_addClause _ _ _ _) cf_X4_66 ⟨rfl, rfl, Nat.le_of_ble_eq_true rfl, Nat.le_of_ble_eq_true rfl⟩ sX_40 rfl rfl rfl (fun _ => Nat.le_of_ble_eq_true rfl) (fun w12 => ?_)
        exact g_vret ok dX4_readClause_171
      · refine g_aload_n (q := 81) ok dX4_readClause_80 rfl 0 rfl rfl ?_
        refine g_getR (q := 84) ok dX4_readClause_81 rfl fl_X4_9 sX_47 rfl ?_
        refine g_dup (q := 85) ok dX4_readClause_84 rfl (fun _ => rfl) ?_
        refine g_getI (q := 88) (N := 0) ok dX4_readClause_85 rfl fl_X4_50 sX_19 rfl ?_
        refine g_iconst (v := (nI 1)) (q := 89) ok dX4_readClause_88 rfl (by decide) ?_
        refine g_iadd (q := 90) ok dX4_readClause_89 rfl ?_
        refine g_put (q := 93) ok dX4_readClause_90 rfl fp_X4_50 sX_19 rfl rfl rfl ?_
        refine g_letw (fun w13 => ?_)
        refine g_aload_n (q := 94) ok dX4_readClause_93 rfl 0 rfl rfl ?_
        refine g_getR (q := 97) ok dX4_readClause_94 rfl fl_X4_15 sX_47 rfl ?_
        refine g_getI (q := 100) (N := 0) ok dX4_readClause_97 rfl fl_X4_53 sX_40 rfl ?_
        refine g_leti (fun v14 => ?_)
        refine g_istore_n (q := 101) (L' := [(2, .int v14), (0, .ref 47), (1, .int v2)]) ok dX4_readClause_100 rfl rfl (by decide) rfl rfl ?_
        refine g_iload_n (q := 102) ok dX4_readClause_101 rfl 2 rfl rfl ?_
        refine g_bipush (v := (nI 107)) (q := 104) ok dX4_readClause_102 rfl (by decide) ?_
        refine g_icmp_eq (q := 107) (g := 121) ok dX4_readClause_104 rfl (by decide) ?_ ?_
        · refine g_to (L' := [(0, .ref 47), (1, .int v2), (2, .int v14)]) ?_ [1, 2, 0] rfl
          exact hk4 _ _
        · refine g_aload_n (q := 108) ok dX4_readClause_107 rfl 1 rfl rfl ?_
          refine g_iconst (v := (nI 0)) (q := 109) ok dX4_readClause_108 rfl (by decide) ?_
          refine g_callVv (q := 112) (As := [.int (nI 0)]) (st := []) ok tbl_good dX4_readClause_109 rfl (kX4_readSum N 9 _ _) cf_X4_56 ⟨rfl, rfl, Nat.le_of_ble_eq_true rfl, Nat.le_of_ble_eq_true rfl⟩ sX_47 rfl rfl rfl (fun _ => Nat.le_of_ble_eq_true rfl) (fun w15 => ?_)
          refine g_aload_n (q := 113) ok dX4_readClause_112 rfl 1 rfl rfl ?_
          refine g_getR (q := 116) ok dX4_readClause_113 rfl fl_X4_15 sX_47 rfl ?_
          refine g_iconst (v := (nI 2)) (q := 117) ok dX4_readClause_116 rfl (by decide) ?_
          refine g_iconst (v := (nI 0)) (q := 118) ok dX4_readClause_117 rfl (by decide) ?_
          refine g_callVv (q := 121) (As := [.int (nI 2), .int (nI 0)]) (st := []) ok tbl_good dX4_readClause_118 rfl (kX3_addStep _ _ _) cf_X4_59 ⟨rfl, rfl, Nat.le_of_ble_eq_true rfl, Nat.le_of_ble_eq_true rfl⟩ sX_40 rfl rfl rfl (fun _ => Nat.le_of_ble_eq_true rfl) (fun w16 => ?_)
          refine g_to (L' := [(0, .ref 47), (1, .int v2), (2, .int v14)]) ?_ [1, 2, 0] rfl
          exact hk4 _ _
    · exact g_vret ok dX4_readClause_79
  · refine g_join (P := fun k17 => ∀ (v18 : Int32) (w19 : gT), gJ S1 cl1 rmX4_readClause 4 gv κ 49 [(0, .ref 47), (1, .int v18)] [] w19 (k17 v18 w19)) (fun v18 w19 => ?_) (fun k17 hk17 => ?_)
    · refine g_aload_n (q := 50) ok dX4_readClause_49 rfl 0 rfl rfl ?_
      refine g_getR (q := 53) ok dX4_readClause_50 rfl fl_X4_15 sX_47 rfl ?_
      refine g_getI (q := 56) (N := 0) ok dX4_readClause_53 rfl fl_X4_43 sX_40 rfl ?_
      refine g_bipush (v := (nI 14)) (q := 58) ok dX4_readClause_56 rfl (by decide) ?_
      refine g_icmp_ne (q := 61) (g := 69) ok dX4_readClause_58 rfl (by decide) ?_ ?_
      · exact hk1 _ _
      · refine g_aload_n (q := 62) ok dX4_readClause_61 rfl 0 rfl rfl ?_
        refine g_getR (q := 65) ok dX4_readClause_62 rfl fl_X4_9 sX_47 rfl ?_
        refine g_iconst (v := (nI 4)) (q := 66) ok dX4_readClause_65 rfl (by decide) ?_
        refine g_callVv (q := 69) (As := [.int (nI 4)]) (st := []) ok tbl_good dX4_readClause_66 rfl (kX6_fail _ _) cf_X4_40 ⟨rfl, rfl, Nat.le_of_ble_eq_true rfl, Nat.le_of_ble_eq_true rfl⟩ sX_19 rfl rfl rfl (fun _ => Nat.le_of_ble_eq_true rfl) (fun w20 => ?_)
        exact hk1 _ _
    · refine g_aload_n (q := 1) ok dX4_readClause_0 rfl 0 rfl rfl ?_
      refine g_getR (q := 4) ok dX4_readClause_1 rfl fl_X4_9 sX_47 rfl ?_
      refine g_callVi (q := 7) (As := []) (st := []) ok tbl_good dX4_readClause_4 rfl (kX6_peek _) cf_X4_27 ⟨rfl, rfl, Nat.le_of_ble_eq_true rfl, Nat.le_of_ble_eq_true rfl⟩ sX_19 rfl rfl rfl (fun _ => Nat.le_of_ble_eq_true rfl) (fun v21 w22 => ?_)
      refine g_istore_n (q := 8) (L' := [(1, .int v21), (0, .ref 47)]) ok dX4_readClause_7 rfl rfl (by decide) rfl rfl ?_
      refine g_iload_n (q := 9) ok dX4_readClause_8 rfl 0 rfl rfl ?_
      refine g_bipush (v := (nI 107)) (q := 11) ok dX4_readClause_9 rfl (by decide) ?_
      refine g_icmp_eq (q := 14) (g := 49) ok dX4_readClause_11 rfl (by decide) ?_ ?_
      · refine g_to (L' := [(0, .ref 47), (1, .int v21)]) ?_ [1, 0] rfl
        exact hk17 _ _
      · refine g_iload_n (q := 15) ok dX4_readClause_14 rfl 0 rfl rfl ?_
        refine g_bipush (v := (nI 102)) (q := 17) ok dX4_readClause_15 rfl (by decide) ?_
        refine g_icmp_eq (q := 20) (g := 49) ok dX4_readClause_17 rfl (by decide) ?_ ?_
        · refine g_to (L' := [(0, .ref 47), (1, .int v21)]) ?_ [1, 0] rfl
          exact hk17 _ _
        · refine g_iload_n (q := 21) ok dX4_readClause_20 rfl 0 rfl rfl ?_
          refine g_bipush (v := (nI 119)) (q := 23) ok dX4_readClause_21 rfl (by decide) ?_
          refine g_icmp_eq (q := 26) (g := 49) ok dX4_readClause_23 rfl (by decide) ?_ ?_
          · refine g_to (L' := [(0, .ref 47), (1, .int v21)]) ?_ [1, 0] rfl
            exact hk17 _ _
          · refine g_iload_n (q := 27) ok dX4_readClause_26 rfl 0 rfl rfl ?_
            refine g_bipush (v := (nI 122)) (q := 29) ok dX4_readClause_27 rfl (by decide) ?_
            refine g_icmp_eq (q := 32) (g := 49) ok dX4_readClause_29 rfl (by decide) ?_ ?_
            · refine g_to (L' := [(0, .ref 47), (1, .int v21)]) ?_ [1, 0] rfl
              exact hk17 _ _
            · refine g_iload_n (q := 33) ok dX4_readClause_32 rfl 0 rfl rfl ?_
              refine g_bipush (v := (nI 113)) (q := 35) ok dX4_readClause_33 rfl (by decide) ?_
              refine g_icmp_eq (q := 38) (g := 49) ok dX4_readClause_35 rfl (by decide) ?_ ?_
              · refine g_to (L' := [(0, .ref 47), (1, .int v21)]) ?_ [1, 0] rfl
                exact hk17 _ _
              · refine g_aload_n (q := 39) ok dX4_readClause_38 rfl 1 rfl rfl ?_
                refine g_getR (q := 42) ok dX4_readClause_39 rfl fl_X4_9 sX_47 rfl ?_
                refine g_iconst (v := (nI 1)) (q := 43) ok dX4_readClause_42 rfl (by decide) ?_
                refine g_callVv (q := 46) (As := [.int (nI 1)]) (st := []) ok tbl_good dX4_readClause_43 rfl (kX6_fail _ _) cf_X4_40 ⟨rfl, rfl, Nat.le_of_ble_eq_true rfl, Nat.le_of_ble_eq_true rfl⟩ sX_19 rfl rfl rfl (fun _ => Nat.le_of_ble_eq_true rfl) (fun w23 => ?_)
                refine g_goto (q := 69) ok dX4_readClause_46 (by decide) ?_
                refine g_to (L' := [(0, .ref 47), (1, .int v21)]) ?_ [1, 0] rfl
                exact hk1 _ _
set_option maxRecDepth 20000 in
theorem kX4_readLaw (N : Nat) (w : gT) : gM S1 cl1 gTs yX4_readLaw cX4_readLaw 2 none rmX4_readLaw gv [.ref 47] w (xX4_readLaw N w) := by
  refine gM_of (own := RX4) [(0, .ref 47)] rfl (by decide) (fun _ => rfl) (fun _ => Nat.le_of_ble_eq_true rfl) (fun κ ok => ?_)
  unfold xX4_readLaw
  refine g_aload_n (q := 1) ok dX4_readLaw_0 rfl 0 rfl rfl ?_
  refine g_getR (q := 4) ok dX4_readLaw_1 rfl fl_X4_15 sX_47 rfl ?_
  refine g_callVv (q := 7) (As := []) (st := []) ok tbl_good dX4_readLaw_4 rfl (kX3_clear _) cf_X4_19 ⟨rfl, rfl, Nat.le_of_ble_eq_true rfl, Nat.le_of_ble_eq_true rfl⟩ sX_40 rfl rfl rfl (fun _ => Nat.le_of_ble_eq_true rfl) (fun w1 => ?_)
  refine g_aload_n (q := 8) ok dX4_readLaw_7 rfl 0 rfl rfl ?_
  refine g_callVv (q := 11) (As := []) (st := []) ok tbl_good dX4_readLaw_8 rfl (kX4_readClause N _) cf_X4_24 ⟨rfl, rfl, Nat.le_of_ble_eq_true rfl, Nat.le_of_ble_eq_true rfl⟩ sX_47 rfl rfl rfl (fun _ => Nat.le_of_ble_eq_true rfl) (fun w2 => ?_)
  refine g_iconst (v := (nI 0)) (q := 12) ok dX4_readLaw_11 rfl (by decide) ?_
  refine g_istore_n (q := 13) (L' := [(1, .int (nI 0)), (0, .ref 47)]) ok dX4_readLaw_12 rfl rfl (by decide) rfl rfl ?_
  refine g_join (P := fun k3 => ∀ (w4 : gT), gJ S1 cl1 rmX4_readLaw 2 gv κ 51 [(0, .ref 47)] [] w4 (k3 w4)) (fun w4 => ?_) (fun k3 hk3 => ?_)
  · refine g_aload_n (q := 52) ok dX4_readLaw_51 rfl 0 rfl rfl ?_
    refine g_getR (q := 55) ok dX4_readLaw_52 rfl fl_X4_9 sX_47 rfl ?_
    refine g_callVv (q := 58) (As := []) (st := []) ok tbl_good dX4_readLaw_55 rfl (kX6_takeEnd _) cf_X4_37 ⟨rfl, rfl, Nat.le_of_ble_eq_true rfl, Nat.le_of_ble_eq_true rfl⟩ sX_19 rfl rfl rfl (fun _ => Nat.le_of_ble_eq_true rfl) (fun w5 => ?_)
    exact g_vret ok dX4_readLaw_58
  · refine g_to (L' := [(0, .ref 47), (1, .int (nI 0))]) ?_ [1, 0] rfl
    refine g_loop1 (Lf := fun v7 => [(0, .ref 47), (1, .int v7)]) (fun go6 hgo6 v7 w8 => ?_) N _ _
    unfold xX4_readLaw_b13
    refine g_iload_n (q := 14) ok dX4_readLaw_13 rfl 1 rfl rfl ?_
    refine g_sipush (v := (nI 200)) (q := 17) ok dX4_readLaw_14 rfl (by decide) ?_
    refine g_icmp_ge (q := 20) (g := 51) ok dX4_readLaw_17 rfl (by decide) ?_ ?_
    · refine g_to (L' := [(0, .ref 47)]) ?_ [0] rfl
      exact hk3 _
    · refine g_aload_n (q := 21) ok dX4_readLaw_20 rfl 0 rfl rfl ?_
      refine g_getR (q := 24) ok dX4_readLaw_21 rfl fl_X4_9 sX_47 rfl ?_
      refine g_callVi (q := 27) (As := []) (st := []) ok tbl_good dX4_readLaw_24 rfl (kX6_peek _) cf_X4_27 ⟨rfl, rfl, Nat.le_of_ble_eq_true rfl, Nat.le_of_ble_eq_true rfl⟩ sX_19 rfl rfl rfl (fun _ => Nat.le_of_ble_eq_true rfl) (fun v9 w10 => ?_)
      refine g_bipush (v := (nI 59)) (q := 29) ok dX4_readLaw_27 rfl (by decide) ?_
      refine g_icmp_ne (q := 32) (g := 51) ok dX4_readLaw_29 rfl (by decide) ?_ ?_
      · refine g_to (L' := [(0, .ref 47)]) ?_ [0] rfl
        exact hk3 _
      · refine g_aload_n (q := 33) ok dX4_readLaw_32 rfl 0 rfl rfl ?_
        refine g_getR (q := 36) ok dX4_readLaw_33 rfl fl_X4_9 sX_47 rfl ?_
        refine g_bipush (v := (nI 59)) (q := 38) ok dX4_readLaw_36 rfl (by decide) ?_
        refine g_callVv (q := 41) (As := [.int (nI 59)]) (st := []) ok tbl_good dX4_readLaw_38 rfl (kX6_takeSign _ _) cf_X4_33 ⟨rfl, rfl, Nat.le_of_ble_eq_true rfl, Nat.le_of_ble_eq_true rfl⟩ sX_19 rfl rfl rfl (fun _ => Nat.le_of_ble_eq_true rfl) (fun w11 => ?_)
        refine g_aload_n (q := 42) ok dX4_readLaw_41 rfl 0 rfl rfl ?_
        refine g_callVv (q := 45) (As := []) (st := []) ok tbl_good dX4_readLaw_42 rfl (kX4_readClause N _) cf_X4_24 ⟨rfl, rfl, Nat.le_of_ble_eq_true rfl, Nat.le_of_ble_eq_true rfl⟩ sX_47 rfl rfl rfl (fun _ => Nat.le_of_ble_eq_true rfl) (fun w12 => ?_)
        refine g_iinc (v := v7 + (nI 1)) (q := 48) (L' := [(1, .int (v7 + (nI 1))), (0, .ref 47)]) ok dX4_readLaw_45 rfl 1 rfl rfl (by decide) rfl rfl ?_
        refine g_goto (q := 13) ok dX4_readLaw_48 (by decide) ?_
        refine g_to (L' := [(0, .ref 47), (1, .int (v7 + (nI 1)))]) ?_ [1, 0] rfl
        exact hgo6 _ _
set_option maxRecDepth 20000 in
theorem kX3_copy (w : gT) : gM S1 cl1 gTs yX3_copy cX3_copy 2 none rmX3_copy gv [.ref 33, .ref 40] w (xX3_copy w) := by
  refine gM_of (own := RX3) [(0, .ref 33), (1, .ref 40)] rfl (by decide) (fun _ => rfl) (fun _ => Nat.le_of_ble_eq_true rfl) (fun κ ok => ?_)
  unfold xX3_copy
  refine g_aload_n (q := 1) ok dX3_copy_0 rfl 1 rfl rfl ?_
  refine g_getR (q := 4) ok dX3_copy_1 rfl fl_X3_9 sX_40 rfl ?_
  refine g_iconst (v := (nI 0)) (q := 5) ok dX3_copy_4 rfl (by decide) ?_
  refine g_aload_n (q := 6) ok dX3_copy_5 rfl 0 rfl rfl ?_
  refine g_getR (q := 9) ok dX3_copy_6 rfl fl_X3_9 sX_33 rfl ?_
  refine g_iconst (v := (nI 0)) (q := 10) ok dX3_copy_9 rfl (by decide) ?_
  refine g_bipush (v := (nI 14)) (q := 12) ok dX3_copy_10 rfl (by decide) ?_
  refine g_copy (N := 14) (q := 15) (st := []) ok dX3_copy_12 rfl tw_712 tw_541 tw_540 tw_91 sX_41 sX_34 (by decide) (by decide) ⟨by decide, by decide⟩ ⟨Nat.le_of_ble_eq_true rfl, by decide +kernel⟩ (fun _ => Nat.le_of_ble_eq_true rfl) ?_
  refine g_letw (fun w1 => ?_)
  refine g_aload_n (q := 16) ok dX3_copy_15 rfl 1 rfl rfl ?_
  refine g_getR (q := 19) ok dX3_copy_16 rfl fl_X3_13 sX_40 rfl ?_
  refine g_iconst (v := (nI 0)) (q := 20) ok dX3_copy_19 rfl (by decide) ?_
  refine g_aload_n (q := 21) ok dX3_copy_20 rfl 0 rfl rfl ?_
  refine g_getR (q := 24) ok dX3_copy_21 rfl fl_X3_13 sX_33 rfl ?_
  refine g_iconst (v := (nI 0)) (q := 25) ok dX3_copy_24 rfl (by decide) ?_
  refine g_bipush (v := (nI 14)) (q := 27) ok dX3_copy_25 rfl (by decide) ?_
  refine g_copy (N := 14) (q := 30) (st := []) ok dX3_copy_27 rfl tw_712 tw_541 tw_540 tw_91 sX_42 sX_35 (by decide) (by decide) ⟨by decide, by decide⟩ ⟨Nat.le_of_ble_eq_true rfl, by decide +kernel⟩ (fun _ => Nat.le_of_ble_eq_true rfl) ?_
  refine g_letw (fun w2 => ?_)
  refine g_aload_n (q := 31) ok dX3_copy_30 rfl 1 rfl rfl ?_
  refine g_getR (q := 34) ok dX3_copy_31 rfl fl_X3_16 sX_40 rfl ?_
  refine g_iconst (v := (nI 0)) (q := 35) ok dX3_copy_34 rfl (by decide) ?_
  refine g_aload_n (q := 36) ok dX3_copy_35 rfl 0 rfl rfl ?_
  refine g_getR (q := 39) ok dX3_copy_36 rfl fl_X3_16 sX_33 rfl ?_
  refine g_iconst (v := (nI 0)) (q := 40) ok dX3_copy_39 rfl (by decide) ?_
  refine g_bipush (v := (nI 14)) (q := 42) ok dX3_copy_40 rfl (by decide) ?_
  refine g_copy (N := 14) (q := 45) (st := []) ok dX3_copy_42 rfl tw_712 tw_541 tw_540 tw_91 sX_43 sX_36 (by decide) (by decide) ⟨by decide, by decide⟩ ⟨Nat.le_of_ble_eq_true rfl, by decide +kernel⟩ (fun _ => Nat.le_of_ble_eq_true rfl) ?_
  refine g_letw (fun w3 => ?_)
  refine g_aload_n (q := 46) ok dX3_copy_45 rfl 1 rfl rfl ?_
  refine g_getR (q := 49) ok dX3_copy_46 rfl fl_X3_19 sX_40 rfl ?_
  refine g_iconst (v := (nI 0)) (q := 50) ok dX3_copy_49 rfl (by decide) ?_
  refine g_aload_n (q := 51) ok dX3_copy_50 rfl 0 rfl rfl ?_
  refine g_getR (q := 54) ok dX3_copy_51 rfl fl_X3_19 sX_33 rfl ?_
  refine g_iconst (v := (nI 0)) (q := 55) ok dX3_copy_54 rfl (by decide) ?_
  refine g_sipush (v := (nI 256)) (q := 58) ok dX3_copy_55 rfl (by decide) ?_
  refine g_copy (N := 256) (q := 61) (st := []) ok dX3_copy_58 rfl tw_712 tw_541 tw_540 tw_91 sX_44 sX_37 (by decide) (by decide) ⟨by decide, by decide⟩ ⟨Nat.le_of_ble_eq_true rfl, by decide +kernel⟩ (fun _ => Nat.le_of_ble_eq_true rfl) ?_
  refine g_letw (fun w4 => ?_)
  refine g_aload_n (q := 62) ok dX3_copy_61 rfl 1 rfl rfl ?_
  refine g_getR (q := 65) ok dX3_copy_62 rfl fl_X3_22 sX_40 rfl ?_
  refine g_iconst (v := (nI 0)) (q := 66) ok dX3_copy_65 rfl (by decide) ?_
  refine g_aload_n (q := 67) ok dX3_copy_66 rfl 0 rfl rfl ?_
  refine g_getR (q := 70) ok dX3_copy_67 rfl fl_X3_22 sX_33 rfl ?_
  refine g_iconst (v := (nI 0)) (q := 71) ok dX3_copy_70 rfl (by decide) ?_
  refine g_sipush (v := (nI 256)) (q := 74) ok dX3_copy_71 rfl (by decide) ?_
  refine g_copy (N := 256) (q := 77) (st := []) ok dX3_copy_74 rfl tw_712 tw_541 tw_540 tw_91 sX_45 sX_38 (by decide) (by decide) ⟨by decide, by decide⟩ ⟨Nat.le_of_ble_eq_true rfl, by decide +kernel⟩ (fun _ => Nat.le_of_ble_eq_true rfl) ?_
  refine g_letw (fun w5 => ?_)
  refine g_aload_n (q := 78) ok dX3_copy_77 rfl 0 rfl rfl ?_
  refine g_aload_n (q := 79) ok dX3_copy_78 rfl 1 rfl rfl ?_
  refine g_getI (q := 82) (N := 0) ok dX3_copy_79 rfl fl_X3_28 sX_40 rfl ?_
  refine g_put (q := 85) ok dX3_copy_82 rfl fp_X3_28 sX_33 rfl rfl rfl ?_
  refine g_letw (fun w6 => ?_)
  refine g_aload_n (q := 86) ok dX3_copy_85 rfl 0 rfl rfl ?_
  refine g_aload_n (q := 87) ok dX3_copy_86 rfl 1 rfl rfl ?_
  refine g_getI (q := 90) (N := 0) ok dX3_copy_87 rfl fl_X3_32 sX_40 rfl ?_
  refine g_put (q := 93) ok dX3_copy_90 rfl fp_X3_32 sX_33 rfl rfl rfl ?_
  refine g_letw (fun w7 => ?_)
  exact g_vret ok dX3_copy_93
set_option maxRecDepth 20000 in
theorem kX9_law (N : Nat) (a1 : Int32) (w : gT) : gM S1 cl1 gTs yX9_law cX9_law 2 (some .int) rmX9_law gi [.ref 0, .int a1] w (xX9_law N a1 w) := by
  refine gM_of (own := RX9) [(0, .ref 0), (1, .int a1)] rfl (by decide) (fun _ => rfl) (fun _ => Nat.le_of_ble_eq_true rfl) (fun κ ok => ?_)
  unfold xX9_law
  refine g_iload_n (q := 1) ok dX9_law_0 rfl 1 rfl rfl ?_
  refine g_iconst (v := (nI 1)) (q := 2) ok dX9_law_1 rfl (by decide) ?_
  refine g_icmp_lt (q := 5) (g := 23) ok dX9_law_2 rfl (by decide) ?_ ?_
  · refine g_iconst (v := (-1)) (q := 24) ok dX9_law_23 rfl (by decide) ?_
    exact g_iret ok dX9_law_24
  · refine g_iload_n (q := 6) ok dX9_law_5 rfl 1 rfl rfl ?_
    refine g_sipush (v := (nI 200)) (q := 9) ok dX9_law_6 rfl (by decide) ?_
    refine g_icmp_gt (q := 12) (g := 23) ok dX9_law_9 rfl (by decide) ?_ ?_
    · refine g_iconst (v := (-1)) (q := 24) ok dX9_law_23 rfl (by decide) ?_
      exact g_iret ok dX9_law_24
    · refine g_iload_n (q := 13) ok dX9_law_12 rfl 1 rfl rfl ?_
      refine g_aload_n (q := 14) ok dX9_law_13 rfl 0 rfl rfl ?_
      refine g_getR (q := 17) ok dX9_law_14 rfl fl_X9_22 sX_0 rfl ?_
      refine g_getI (q := 20) (N := 0) ok dX9_law_17 rfl fl_X9_135 sX_19 rfl ?_
      refine g_icmp_le (q := 23) (g := 25) ok dX9_law_20 rfl (by decide) ?_ ?_
      · refine g_aload_n (q := 26) ok dX9_law_25 rfl 0 rfl rfl ?_
        refine g_getR (q := 29) ok dX9_law_26 rfl fl_X9_22 sX_0 rfl ?_
        refine g_iload_n (q := 30) ok dX9_law_29 rfl 1 rfl rfl ?_
        refine g_callVv (q := 33) (As := [.int a1]) (st := []) ok tbl_good dX9_law_30 rfl (kX6_open _ _) cf_X9_138 ⟨rfl, rfl, Nat.le_of_ble_eq_true rfl, Nat.le_of_ble_eq_true rfl⟩ sX_19 rfl rfl rfl (fun _ => Nat.le_of_ble_eq_true rfl) (fun w1 => ?_)
        refine g_aload_n (q := 34) ok dX9_law_33 rfl 0 rfl rfl ?_
        refine g_getR (q := 37) ok dX9_law_34 rfl fl_X9_51 sX_0 rfl ?_
        refine g_callVv (q := 40) (As := []) (st := []) ok tbl_good dX9_law_37 rfl (kX4_readLaw N _) cf_X9_153 ⟨rfl, rfl, Nat.le_of_ble_eq_true rfl, Nat.le_of_ble_eq_true rfl⟩ sX_47 rfl rfl rfl (fun _ => Nat.le_of_ble_eq_true rfl) (fun w2 => ?_)
        refine g_aload_n (q := 41) ok dX9_law_40 rfl 0 rfl rfl ?_
        refine g_getR (q := 44) ok dX9_law_41 rfl fl_X9_22 sX_0 rfl ?_
        refine g_getI (q := 47) (N := 0) ok dX9_law_44 rfl fl_X9_145 sX_19 rfl ?_
        refine g_if_eq (q := 50) (g := 58) ok dX9_law_47 rfl (by decide) ?_ ?_
        · refine g_aload_n (q := 59) ok dX9_law_58 rfl 0 rfl rfl ?_
          refine g_getR (q := 62) ok dX9_law_59 rfl fl_X9_39 sX_0 rfl ?_
          refine g_aload_n (q := 63) ok dX9_law_62 rfl 0 rfl rfl ?_
          refine g_getR (q := 66) ok dX9_law_63 rfl fl_X9_43 sX_0 rfl ?_
          refine g_callVv (q := 69) (As := [.ref 40]) (st := []) ok tbl_good dX9_law_66 rfl (kX3_copy _) cf_X9_156 ⟨rfl, rfl, Nat.le_of_ble_eq_true rfl, Nat.le_of_ble_eq_true rfl⟩ sX_33 rfl rfl rfl (fun _ => Nat.le_of_ble_eq_true rfl) (fun w3 => ?_)
          refine g_aload_n (q := 70) ok dX9_law_69 rfl 0 rfl rfl ?_
          refine g_getR (q := 73) ok dX9_law_70 rfl fl_X9_39 sX_0 rfl ?_
          refine g_getI (q := 76) (N := 0) ok dX9_law_73 rfl fl_X9_159 sX_33 rfl ?_
          exact g_iret ok dX9_law_76
        · refine g_aload_n (q := 51) ok dX9_law_50 rfl 0 rfl rfl ?_
          refine g_getR (q := 54) ok dX9_law_51 rfl fl_X9_22 sX_0 rfl ?_
          refine g_getI (q := 57) (N := 0) ok dX9_law_54 rfl fl_X9_145 sX_19 rfl ?_
          exact g_iret ok dX9_law_57
      · refine g_iconst (v := (-1)) (q := 24) ok dX9_law_23 rfl (by decide) ?_
        exact g_iret ok dX9_law_24
set_option maxRecDepth 20000 in
theorem kX2_hasGhost (a1 : Int32) (w : gT) : gM S1 cl1 gTs yX2_hasGhost cX2_hasGhost 2 (some .boolean) rmX2_hasGhost gi [.ref 1, .int a1] w (xX2_hasGhost a1 w) := by
  refine gM_of (own := RX2) [(0, .ref 1), (1, .int a1)] rfl (by decide) (fun _ => rfl) (fun _ => Nat.le_of_ble_eq_true rfl) (fun κ ok => ?_)
  unfold xX2_hasGhost
  refine g_iload_n (q := 1) ok dX2_hasGhost_0 rfl 1 rfl rfl ?_
  refine g_if_lt (q := 4) (g := 26) ok dX2_hasGhost_1 rfl (by decide) ?_ ?_
  · refine g_iconst (v := (nI 0)) (q := 27) ok dX2_hasGhost_26 rfl (by decide) ?_
    exact g_zret ok dX2_hasGhost_27 rfl
  · refine g_iload_n (q := 5) ok dX2_hasGhost_4 rfl 1 rfl rfl ?_
    refine g_bipush (v := (nI 10)) (q := 7) ok dX2_hasGhost_5 rfl (by decide) ?_
    refine g_icmp_ge (q := 10) (g := 26) ok dX2_hasGhost_7 rfl (by decide) ?_ ?_
    · refine g_iconst (v := (nI 0)) (q := 27) ok dX2_hasGhost_26 rfl (by decide) ?_
      exact g_zret ok dX2_hasGhost_27 rfl
    · refine g_aload_n (q := 11) ok dX2_hasGhost_10 rfl 0 rfl rfl ?_
      refine g_getI (q := 14) (N := 0) ok dX2_hasGhost_11 rfl fl_X2_43 sX_1 rfl ?_
      refine g_iload_n (q := 15) ok dX2_hasGhost_14 rfl 1 rfl rfl ?_
      refine g_ishr (q := 16) ok dX2_hasGhost_15 rfl ?_
      refine g_iconst (v := (nI 1)) (q := 17) ok dX2_hasGhost_16 rfl (by decide) ?_
      refine g_iand (q := 18) ok dX2_hasGhost_17 rfl ?_
      refine g_iconst (v := (nI 1)) (q := 19) ok dX2_hasGhost_18 rfl (by decide) ?_
      refine g_icmp_ne (q := 22) (g := 26) ok dX2_hasGhost_19 rfl (by decide) ?_ ?_
      · refine g_iconst (v := (nI 0)) (q := 27) ok dX2_hasGhost_26 rfl (by decide) ?_
        exact g_zret ok dX2_hasGhost_27 rfl
      · refine g_iconst (v := (nI 1)) (q := 23) ok dX2_hasGhost_22 rfl (by decide) ?_
        refine g_goto (q := 27) ok dX2_hasGhost_23 (by decide) ?_
        exact g_zret ok dX2_hasGhost_27 rfl
set_option maxRecDepth 20000 in
theorem kX7_isGone (a1 : Int32) (w : gT) : gM S1 cl1 gTs yX7_isGone cX7_isGone 3 (some .boolean) rmX7_isGone gi [.ref 21, .int a1, .ref 1] w (xX7_isGone a1 w) := by
  refine gM_of (own := RX7) [(0, .ref 21), (1, .int a1), (2, .ref 1)] rfl (by decide) (fun _ => rfl) (fun _ => Nat.le_of_ble_eq_true rfl) (fun κ ok => ?_)
  unfold xX7_isGone
  refine g_aload_n (q := 1) ok dX7_isGone_0 rfl 0 rfl rfl ?_
  refine g_getR (q := 4) ok dX7_isGone_1 rfl fl_X7_24 sX_21 rfl ?_
  refine g_iload_n (q := 5) ok dX7_isGone_4 rfl 1 rfl rfl ?_
  refine g_iald (q := 6) ok dX7_isGone_5 rfl sX_26 ?_
  refine g_iconst (v := (nI 1)) (q := 7) ok dX7_isGone_6 rfl (by decide) ?_
  refine g_icmp_ne (q := 10) (g := 27) ok dX7_isGone_7 rfl (by decide) ?_ ?_
  · refine g_iconst (v := (nI 0)) (q := 28) ok dX7_isGone_27 rfl (by decide) ?_
    exact g_zret ok dX7_isGone_28 rfl
  · refine g_aload_n (q := 11) ok dX7_isGone_10 rfl 2 rfl rfl ?_
    refine g_aload_n (q := 12) ok dX7_isGone_11 rfl 0 rfl rfl ?_
    refine g_getR (q := 15) ok dX7_isGone_12 rfl fl_X7_11 sX_21 rfl ?_
    refine g_iload_n (q := 16) ok dX7_isGone_15 rfl 1 rfl rfl ?_
    refine g_iald (q := 17) ok dX7_isGone_16 rfl sX_22 ?_
    refine g_callVi (q := 20) (As := [.int (w.1 22 a1.toNatClampNeg)]) (st := []) ok tbl_good dX7_isGone_17 rfl (kX2_hasGhost _ _) cf_X7_77 ⟨rfl, rfl, Nat.le_of_ble_eq_true rfl, Nat.le_of_ble_eq_true rfl⟩ sX_1 rfl rfl rfl (fun _ => Nat.le_of_ble_eq_true rfl) (fun v1 w2 => ?_)
    refine g_if_eq (q := 23) (g := 27) ok dX7_isGone_20 rfl (by decide) ?_ ?_
    · refine g_iconst (v := (nI 0)) (q := 28) ok dX7_isGone_27 rfl (by decide) ?_
      exact g_zret ok dX7_isGone_28 rfl
    · refine g_iconst (v := (nI 1)) (q := 24) ok dX7_isGone_23 rfl (by decide) ?_
      refine g_goto (q := 28) ok dX7_isGone_24 (by decide) ?_
      exact g_zret ok dX7_isGone_28 rfl
set_option maxRecDepth 20000 in
theorem kX9_walk (a1 : Int32) (a2 : Int32) (w : gT) : gM S1 cl1 gTs yX9_walk cX9_walk 3 (some .int) rmX9_walk gi [.ref 0, .int a1, .int a2] w (xX9_walk a1 a2 w) := by
  refine gM_of (own := RX9) [(0, .ref 0), (1, .int a1), (2, .int a2)] rfl (by decide) (fun _ => rfl) (fun _ => Nat.le_of_ble_eq_true rfl) (fun κ ok => ?_)
  unfold xX9_walk
  refine g_iload_n (q := 1) ok dX9_walk_0 rfl 1 rfl rfl ?_
  refine g_if_lt (q := 4) (g := 15) ok dX9_walk_1 rfl (by decide) ?_ ?_
  · refine g_iconst (v := (-1)) (q := 16) ok dX9_walk_15 rfl (by decide) ?_
    exact g_iret ok dX9_walk_16
  · refine g_iload_n (q := 5) ok dX9_walk_4 rfl 1 rfl rfl ?_
    refine g_aload_n (q := 6) ok dX9_walk_5 rfl 0 rfl rfl ?_
    refine g_getR (q := 9) ok dX9_walk_6 rfl fl_X9_29 sX_0 rfl ?_
    refine g_getI (q := 12) (N := 0) ok dX9_walk_9 rfl fl_X9_152 sX_21 rfl ?_
    refine g_icmp_lt (q := 15) (g := 17) ok dX9_walk_12 rfl (by decide) ?_ ?_
    · refine g_iload_n (q := 18) ok dX9_walk_17 rfl 2 rfl rfl ?_
      refine g_if (fun h0 => ?_) (fun h0 => ?_)
      · refine g_tsIn (v := (nI 0)) (g := 52) ok dX9_walk_18 (by decide) (by decide) rfl (by decide) h0 ?_
        refine g_aload_n (q := 53) ok dX9_walk_52 rfl 0 rfl rfl ?_
        refine g_getR (q := 56) ok dX9_walk_53 rfl fl_X9_29 sX_0 rfl ?_
        refine g_getR (q := 59) ok dX9_walk_56 rfl fl_X9_162 sX_21 rfl ?_
        refine g_iload_n (q := 60) ok dX9_walk_59 rfl 1 rfl rfl ?_
        refine g_iald (q := 61) ok dX9_walk_60 rfl sX_22 ?_
        exact g_iret ok dX9_walk_61
      · refine g_if (fun h1 => ?_) (fun h1 => ?_)
        · refine g_tsIn (v := (nI 1)) (g := 62) ok dX9_walk_18 (by decide) (by decide) rfl (by decide) h1 ?_
          refine g_aload_n (q := 63) ok dX9_walk_62 rfl 0 rfl rfl ?_
          refine g_getR (q := 66) ok dX9_walk_63 rfl fl_X9_29 sX_0 rfl ?_
          refine g_getR (q := 69) ok dX9_walk_66 rfl fl_X9_165 sX_21 rfl ?_
          refine g_iload_n (q := 70) ok dX9_walk_69 rfl 1 rfl rfl ?_
          refine g_iald (q := 71) ok dX9_walk_70 rfl sX_23 ?_
          exact g_iret ok dX9_walk_71
        · refine g_if (fun h2 => ?_) (fun h2 => ?_)
          · refine g_tsIn (v := (nI 2)) (g := 72) ok dX9_walk_18 (by decide) (by decide) rfl (by decide) h2 ?_
            refine g_aload_n (q := 73) ok dX9_walk_72 rfl 0 rfl rfl ?_
            refine g_getR (q := 76) ok dX9_walk_73 rfl fl_X9_29 sX_0 rfl ?_
            refine g_getR (q := 79) ok dX9_walk_76 rfl fl_X9_168 sX_21 rfl ?_
            refine g_iload_n (q := 80) ok dX9_walk_79 rfl 1 rfl rfl ?_
            refine g_iald (q := 81) ok dX9_walk_80 rfl sX_24 ?_
            exact g_iret ok dX9_walk_81
          · refine g_if (fun h3 => ?_) (fun h3 => ?_)
            · refine g_tsIn (v := (nI 3)) (g := 82) ok dX9_walk_18 (by decide) (by decide) rfl (by decide) h3 ?_
              refine g_aload_n (q := 83) ok dX9_walk_82 rfl 0 rfl rfl ?_
              refine g_getR (q := 86) ok dX9_walk_83 rfl fl_X9_29 sX_0 rfl ?_
              refine g_getR (q := 89) ok dX9_walk_86 rfl fl_X9_171 sX_21 rfl ?_
              refine g_iload_n (q := 90) ok dX9_walk_89 rfl 1 rfl rfl ?_
              refine g_iald (q := 91) ok dX9_walk_90 rfl sX_25 ?_
              exact g_iret ok dX9_walk_91
            · refine g_if (fun h4 => ?_) (fun h4 => ?_)
              · refine g_tsIn (v := (nI 4)) (g := 92) ok dX9_walk_18 (by decide) (by decide) rfl (by decide) h4 ?_
                refine g_aload_n (q := 93) ok dX9_walk_92 rfl 0 rfl rfl ?_
                refine g_getR (q := 96) ok dX9_walk_93 rfl fl_X9_29 sX_0 rfl ?_
                refine g_iload_n (q := 97) ok dX9_walk_96 rfl 1 rfl rfl ?_
                refine g_aload_n (q := 98) ok dX9_walk_97 rfl 0 rfl rfl ?_
                refine g_getR (q := 101) ok dX9_walk_98 rfl fl_X9_12 sX_0 rfl ?_
                refine g_callVi (q := 104) (As := [.int a1, .ref 1]) (st := []) ok tbl_good dX9_walk_101 rfl (kX7_isGone _ _) cf_X9_174 ⟨rfl, rfl, Nat.le_of_ble_eq_true rfl, Nat.le_of_ble_eq_true rfl⟩ sX_21 rfl rfl rfl (fun _ => Nat.le_of_ble_eq_true rfl) (fun v1 w2 => ?_)
                refine g_if_eq (q := 107) (g := 111) ok dX9_walk_104 rfl (by decide) ?_ ?_
                · refine g_iconst (v := (nI 0)) (q := 112) ok dX9_walk_111 rfl (by decide) ?_
                  exact g_iret ok dX9_walk_112
                · refine g_iconst (v := (nI 1)) (q := 108) ok dX9_walk_107 rfl (by decide) ?_
                  refine g_goto (q := 112) ok dX9_walk_108 (by decide) ?_
                  exact g_iret ok dX9_walk_112
              · refine g_tsOut (g := 113) ok dX9_walk_18 (by have e0 := lv_neT h0 (k := (nI 0)) (a := 0) (by decide); have e1 := lv_neT h1 (k := (nI 1)) (a := 1) (by decide); have e2 := lv_neT h2 (k := (nI 2)) (a := 2) (by decide); have e3 := lv_neT h3 (k := (nI 3)) (a := 3) (by decide); have e4 := lv_neT h4 (k := (nI 4)) (a := 4) (by decide); omega) (by decide) ?_
                refine g_iconst (v := (-1)) (q := 114) ok dX9_walk_113 rfl (by decide) ?_
                exact g_iret ok dX9_walk_114
    · refine g_iconst (v := (-1)) (q := 16) ok dX9_walk_15 rfl (by decide) ?_
      exact g_iret ok dX9_walk_16
set_option maxRecDepth 20000 in
theorem kX1_isNear (a1 : Int32) (a2 : Int32) (a3 : Int32) (a4 : Int32) (w : gT) : gM S1 cl1 gTs yX1_isNear cX1_isNear 6 (some .boolean) rmX1_isNear gi [.ref 48, .int a1, .int a2, .int a3, .int a4] w (xX1_isNear a1 a2 a3 a4 w) := by
  refine gM_of (own := RX1) [(0, .ref 48), (1, .int a1), (2, .int a2), (3, .int a3), (4, .int a4)] rfl (by decide) (fun _ => rfl) (fun _ => Nat.le_of_ble_eq_true rfl) (fun κ ok => ?_)
  unfold xX1_isNear
  refine g_aload_n (q := 1) ok dX1_isNear_0 rfl 0 rfl rfl ?_
  refine g_getR (q := 4) ok dX1_isNear_1 rfl fl_X1_17 sX_48 rfl ?_
  refine g_getR (q := 7) ok dX1_isNear_4 rfl fl_X1_42 sX_1 rfl ?_
  refine g_iload_n (q := 8) ok dX1_isNear_7 rfl 3 rfl rfl ?_
  refine g_bipush (v := (nI 10)) (q := 10) ok dX1_isNear_8 rfl (by decide) ?_
  refine g_imul (q := 11) ok dX1_isNear_10 rfl ?_
  refine g_iload_n (q := 12) ok dX1_isNear_11 rfl 2 rfl rfl ?_
  refine g_iadd (q := 13) ok dX1_isNear_12 rfl ?_
  refine g_iald (q := 14) ok dX1_isNear_13 rfl sX_3 ?_
  refine g_leti (fun v1 => ?_)
  refine g_istore (q := 16) (L' := [(5, .int v1), (0, .ref 48), (1, .int a1), (2, .int a2), (3, .int a3), (4, .int a4)]) ok dX1_isNear_14 rfl (by decide) rfl rfl ?_
  refine g_iload (q := 18) ok dX1_isNear_16 rfl 5 rfl ?_
  refine g_iload (q := 20) ok dX1_isNear_18 rfl 0 rfl ?_
  refine g_icmp_eq (q := 23) (g := 54) ok dX1_isNear_20 rfl (by decide) ?_ ?_
  · refine g_iconst (v := (nI 1)) (q := 55) ok dX1_isNear_54 rfl (by decide) ?_
    refine g_goto (q := 59) ok dX1_isNear_55 (by decide) ?_
    exact g_zret ok dX1_isNear_59 rfl
  · refine g_aload_n (q := 24) ok dX1_isNear_23 rfl 1 rfl rfl ?_
    refine g_getR (q := 27) ok dX1_isNear_24 rfl fl_X1_17 sX_48 rfl ?_
    refine g_getR (q := 30) ok dX1_isNear_27 rfl fl_X1_35 sX_1 rfl ?_
    refine g_iload_n (q := 31) ok dX1_isNear_30 rfl 2 rfl rfl ?_
    refine g_iald (q := 32) ok dX1_isNear_31 rfl sX_5 ?_
    refine g_iconst (v := (nI 2)) (q := 33) ok dX1_isNear_32 rfl (by decide) ?_
    refine g_icmp_ne (q := 36) (g := 58) ok dX1_isNear_33 rfl (by decide) ?_ ?_
    · refine g_iconst (v := (nI 0)) (q := 59) ok dX1_isNear_58 rfl (by decide) ?_
      exact g_zret ok dX1_isNear_59 rfl
    · refine g_iload (q := 38) ok dX1_isNear_36 rfl 5 rfl ?_
      refine g_iload (q := 40) ok dX1_isNear_38 rfl 0 rfl ?_
      refine g_iconst (v := (nI 1)) (q := 41) ok dX1_isNear_40 rfl (by decide) ?_
      refine g_isub (q := 42) ok dX1_isNear_41 rfl ?_
      refine g_icmp_eq (q := 45) (g := 54) ok dX1_isNear_42 rfl (by decide) ?_ ?_
      · refine g_iconst (v := (nI 1)) (q := 55) ok dX1_isNear_54 rfl (by decide) ?_
        refine g_goto (q := 59) ok dX1_isNear_55 (by decide) ?_
        exact g_zret ok dX1_isNear_59 rfl
      · refine g_iload (q := 47) ok dX1_isNear_45 rfl 5 rfl ?_
        refine g_iload (q := 49) ok dX1_isNear_47 rfl 0 rfl ?_
        refine g_iconst (v := (nI 1)) (q := 50) ok dX1_isNear_49 rfl (by decide) ?_
        refine g_iadd (q := 51) ok dX1_isNear_50 rfl ?_
        refine g_icmp_ne (q := 54) (g := 58) ok dX1_isNear_51 rfl (by decide) ?_ ?_
        · refine g_iconst (v := (nI 0)) (q := 59) ok dX1_isNear_58 rfl (by decide) ?_
          exact g_zret ok dX1_isNear_59 rfl
        · refine g_iconst (v := (nI 1)) (q := 55) ok dX1_isNear_54 rfl (by decide) ?_
          refine g_goto (q := 59) ok dX1_isNear_55 (by decide) ?_
          exact g_zret ok dX1_isNear_59 rfl
set_option maxRecDepth 20000 in
theorem kX2_companyOf (N : Nat) (a1 : Int32) (a2 : Int32) (w : gT) : gM S1 cl1 gTs yX2_companyOf cX2_companyOf 6 (some .int) rmX2_companyOf gi [.ref 1, .int a1, .int a2] w (xX2_companyOf N a1 a2 w) := by
  refine gM_of (own := RX2) [(0, .ref 1), (1, .int a1), (2, .int a2)] rfl (by decide) (fun _ => rfl) (fun _ => Nat.le_of_ble_eq_true rfl) (fun κ ok => ?_)
  unfold xX2_companyOf
  refine g_aload_n (q := 1) ok dX2_companyOf_0 rfl 0 rfl rfl ?_
  refine g_getR (q := 4) ok dX2_companyOf_1 rfl fl_X2_15 sX_1 rfl ?_
  refine g_iload_n (q := 5) ok dX2_companyOf_4 rfl 2 rfl rfl ?_
  refine g_bipush (v := (nI 10)) (q := 7) ok dX2_companyOf_5 rfl (by decide) ?_
  refine g_imul (q := 8) ok dX2_companyOf_7 rfl ?_
  refine g_iload_n (q := 9) ok dX2_companyOf_8 rfl 1 rfl rfl ?_
  refine g_iadd (q := 10) ok dX2_companyOf_9 rfl ?_
  refine g_iald (q := 11) ok dX2_companyOf_10 rfl sX_3 ?_
  refine g_leti (fun v1 => ?_)
  refine g_istore_n (q := 12) (L' := [(3, .int v1), (0, .ref 1), (1, .int a1), (2, .int a2)]) ok dX2_companyOf_11 rfl rfl (by decide) rfl rfl ?_
  refine g_iconst (v := (nI 0)) (q := 13) ok dX2_companyOf_12 rfl (by decide) ?_
  refine g_istore (q := 15) (L' := [(4, .int (nI 0)), (3, .int v1), (0, .ref 1), (1, .int a1), (2, .int a2)]) ok dX2_companyOf_13 rfl (by decide) rfl rfl ?_
  refine g_iconst (v := (nI 0)) (q := 16) ok dX2_companyOf_15 rfl (by decide) ?_
  refine g_istore (q := 18) (L' := [(5, .int (nI 0)), (4, .int (nI 0)), (3, .int v1), (0, .ref 1), (1, .int a1), (2, .int a2)]) ok dX2_companyOf_16 rfl (by decide) rfl rfl ?_
  refine g_to (L' := [(0, .ref 1), (2, .int a2), (3, .int v1), (4, .int (nI 0)), (5, .int (nI 0))]) ?_ [3, 5, 2, 1, 0] rfl
  refine g_loop2 (Lf := fun v3 v4 => [(0, .ref 1), (2, .int a2), (3, .int v1), (4, .int v3), (5, .int v4)]) (fun go2 hgo2 v3 v4 w5 => ?_) N _ _ _
  unfold xX2_companyOf_b18
  refine g_iload (q := 20) ok dX2_companyOf_18 rfl 4 rfl ?_
  refine g_bipush (v := (nI 10)) (q := 22) ok dX2_companyOf_20 rfl (by decide) ?_
  refine g_icmp_ge (q := 25) (g := 59) ok dX2_companyOf_22 rfl (by decide) ?_ ?_
  · refine g_iload (q := 61) ok dX2_companyOf_59 rfl 3 rfl ?_
    exact g_iret ok dX2_companyOf_61
  · refine g_join (P := fun k6 => ∀ (v7 : Int32) (w8 : gT), gJ S1 cl1 rmX2_companyOf 6 gi κ 53 [(0, .ref 1), (2, .int a2), (3, .int v1), (5, .int v4), (4, .int v7)] [] w8 (k6 v7 w8)) (fun v7 w8 => ?_) (fun k6 hk6 => ?_)
    · refine g_iinc (v := v4 + (nI 1)) (q := 56) (L' := [(5, .int (v4 + (nI 1))), (0, .ref 1), (2, .int a2), (3, .int v1), (4, .int v7)]) ok dX2_companyOf_53 rfl 3 rfl rfl (by decide) rfl rfl ?_
      refine g_goto (q := 18) ok dX2_companyOf_56 (by decide) ?_
      refine g_to (L' := [(0, .ref 1), (2, .int a2), (3, .int v1), (4, .int v7), (5, .int (v4 + (nI 1)))]) ?_ [1, 2, 3, 4, 0] rfl
      exact hgo2 _ _ _
    · refine g_aload_n (q := 26) ok dX2_companyOf_25 rfl 0 rfl rfl ?_
      refine g_iload (q := 28) ok dX2_companyOf_26 rfl 4 rfl ?_
      refine g_callVi (q := 31) (As := [.int v4]) (st := []) ok tbl_good dX2_companyOf_28 rfl (kX2_hasSleeper _ _) cf_X2_55 ⟨rfl, rfl, Nat.le_of_ble_eq_true rfl, Nat.le_of_ble_eq_true rfl⟩ sX_1 rfl rfl rfl (fun _ => Nat.le_of_ble_eq_true rfl) (fun v9 w10 => ?_)
      refine g_if_eq (q := 34) (g := 53) ok dX2_companyOf_31 rfl (by decide) ?_ ?_
      · refine g_to (L' := [(0, .ref 1), (2, .int a2), (3, .int v1), (5, .int v4), (4, .int v3)]) ?_ [0, 1, 2, 4, 3] rfl
        exact hk6 _ _
      · refine g_aload_n (q := 35) ok dX2_companyOf_34 rfl 0 rfl rfl ?_
        refine g_getR (q := 38) ok dX2_companyOf_35 rfl fl_X2_15 sX_1 rfl ?_
        refine g_iload_n (q := 39) ok dX2_companyOf_38 rfl 1 rfl rfl ?_
        refine g_bipush (v := (nI 10)) (q := 41) ok dX2_companyOf_39 rfl (by decide) ?_
        refine g_imul (q := 42) ok dX2_companyOf_41 rfl ?_
        refine g_iload (q := 44) ok dX2_companyOf_42 rfl 4 rfl ?_
        refine g_iadd (q := 45) ok dX2_companyOf_44 rfl ?_
        refine g_iald (q := 46) ok dX2_companyOf_45 rfl sX_3 ?_
        refine g_iload_n (q := 47) ok dX2_companyOf_46 rfl 2 rfl rfl ?_
        refine g_icmp_ne (q := 50) (g := 53) ok dX2_companyOf_47 rfl (by decide) ?_ ?_
        · refine g_to (L' := [(0, .ref 1), (2, .int a2), (3, .int v1), (5, .int v4), (4, .int v3)]) ?_ [0, 1, 2, 4, 3] rfl
          exact hk6 _ _
        · refine g_iinc (v := v3 + (nI 1)) (q := 53) (L' := [(4, .int (v3 + (nI 1))), (0, .ref 1), (2, .int a2), (3, .int v1), (5, .int v4)]) ok dX2_companyOf_50 rfl 3 rfl rfl (by decide) rfl rfl ?_
          refine g_to (L' := [(0, .ref 1), (2, .int a2), (3, .int v1), (5, .int v4), (4, .int (v3 + (nI 1)))]) ?_ [1, 2, 3, 4, 0] rfl
          exact hk6 _ _
set_option maxRecDepth 20000 in
theorem kX1_isLet (a0 : Int32) (a1 : Int32) (a2 : Int32) (w : gT) : gM S1 cl1 gTs yX1_isLet cX1_isLet 3 (some .boolean) rmX1_isLet gi [.int a0, .int a1, .int a2] w (xX1_isLet a0 a1 a2 w) := by
  refine gM_of (own := RX1) [(0, .int a0), (1, .int a1), (2, .int a2)] rfl (by decide) (fun _ => rfl) (fun _ => Nat.le_of_ble_eq_true rfl) (fun κ ok => ?_)
  unfold xX1_isLet
  refine g_iload_n (q := 1) ok dX1_isLet_0 rfl 0 rfl rfl ?_
  refine g_iconst (v := (nI 3)) (q := 2) ok dX1_isLet_1 rfl (by decide) ?_
  refine g_icmp_ne (q := 5) (g := 7) ok dX1_isLet_2 rfl (by decide) ?_ ?_
  · refine g_join (P := fun k1 => ∀ (w2 : gT), gJ S1 cl1 rmX1_isLet 3 gi κ 17 [(0, .int a0), (2, .int a2)] [] w2 (k1 w2)) (fun w2 => ?_) (fun k1 hk1 => ?_)
    · refine g_iload_n (q := 18) ok dX1_isLet_17 rfl 0 rfl rfl ?_
      refine g_iconst (v := (nI 4)) (q := 19) ok dX1_isLet_18 rfl (by decide) ?_
      refine g_icmp_ne (q := 22) (g := 27) ok dX1_isLet_19 rfl (by decide) ?_ ?_
      · refine g_iconst (v := (nI 1)) (q := 28) ok dX1_isLet_27 rfl (by decide) ?_
        refine g_goto (q := 32) ok dX1_isLet_28 (by decide) ?_
        exact g_zret ok dX1_isLet_32 rfl
      · refine g_iload_n (q := 23) ok dX1_isLet_22 rfl 1 rfl rfl ?_
        refine g_iconst (v := (nI 1)) (q := 24) ok dX1_isLet_23 rfl (by decide) ?_
        refine g_icmp_ne (q := 27) (g := 31) ok dX1_isLet_24 rfl (by decide) ?_ ?_
        · refine g_iconst (v := (nI 0)) (q := 32) ok dX1_isLet_31 rfl (by decide) ?_
          exact g_zret ok dX1_isLet_32 rfl
        · refine g_iconst (v := (nI 1)) (q := 28) ok dX1_isLet_27 rfl (by decide) ?_
          refine g_goto (q := 32) ok dX1_isLet_28 (by decide) ?_
          exact g_zret ok dX1_isLet_32 rfl
    · refine g_iload_n (q := 8) ok dX1_isLet_7 rfl 0 rfl rfl ?_
      refine g_iconst (v := (nI 1)) (q := 9) ok dX1_isLet_8 rfl (by decide) ?_
      refine g_icmp_ne (q := 12) (g := 17) ok dX1_isLet_9 rfl (by decide) ?_ ?_
      · refine g_to (L' := [(0, .int a0), (2, .int a2)]) ?_ [0, 2] rfl
        exact hk1 _
      · refine g_iload_n (q := 13) ok dX1_isLet_12 rfl 1 rfl rfl ?_
        refine g_iconst (v := (nI 1)) (q := 14) ok dX1_isLet_13 rfl (by decide) ?_
        refine g_icmp_ne (q := 17) (g := 31) ok dX1_isLet_14 rfl (by decide) ?_ ?_
        · refine g_iconst (v := (nI 0)) (q := 32) ok dX1_isLet_31 rfl (by decide) ?_
          exact g_zret ok dX1_isLet_32 rfl
        · refine g_to (L' := [(0, .int a0), (2, .int a2)]) ?_ [0, 2] rfl
          exact hk1 _
  · refine g_iconst (v := (nI 0)) (q := 6) ok dX1_isLet_5 rfl (by decide) ?_
    exact g_zret ok dX1_isLet_6 rfl
set_option maxRecDepth 20000 in
theorem kJ7_fill_53178_49 (N : Nat) (a1 : Int32) (w : gT) : gM S1 cl1 gTs yJ7_fill_53178 cJ7_fill_53178 4 none rmJ7_fill_53178_49 gv [.ref 49, .int a1] w (xJ7_fill_53178_49 N a1 w) := by
  refine gM_of (own := RJ7) [(0, .ref 49), (1, .int a1)] rfl (by decide) (fun _ => rfl) (fun _ => Nat.le_of_ble_eq_true rfl) (fun κ ok => ?_)
  unfold xJ7_fill_53178_49
  refine g_iconst (v := (nI 0)) (q := 1) ok dJ7_fill_53178_0 rfl (by decide) ?_
  refine g_istore_n (q := 2) (L' := [(2, .int (nI 0)), (0, .ref 49), (1, .int a1)]) ok dJ7_fill_53178_1 rfl rfl (by decide) rfl rfl ?_
  refine g_aload_n (q := 3) ok dJ7_fill_53178_2 rfl 1 rfl rfl ?_
  refine g_alen (v := (nI 26)) (q := 4) ok dJ7_fill_53178_3 rfl sX_49 rfl ?_
  refine g_istore_n (q := 5) (L' := [(3, .int (nI 26)), (2, .int (nI 0)), (0, .ref 49), (1, .int a1)]) ok dJ7_fill_53178_4 rfl rfl (by decide) rfl rfl ?_
  refine g_to (L' := [(0, .ref 49), (1, .int a1), (3, .int (nI 26)), (2, .int (nI 0))]) ?_ [2, 3, 0, 1] rfl
  refine g_loop1 (Lf := fun v2 => [(0, .ref 49), (1, .int a1), (3, .int (nI 26)), (2, .int v2)]) (fun go1 hgo1 v2 w3 => ?_) N _ _
  unfold xJ7_fill_53178_49_b5
  refine g_iload_n (q := 6) ok dJ7_fill_53178_5 rfl 3 rfl rfl ?_
  refine g_iload_n (q := 7) ok dJ7_fill_53178_6 rfl 2 rfl rfl ?_
  refine g_icmp_ge (q := 10) (g := 20) ok dJ7_fill_53178_7 rfl (by decide) ?_ ?_
  · exact g_vret ok dJ7_fill_53178_20
  · refine g_aload_n (q := 11) ok dJ7_fill_53178_10 rfl 0 rfl rfl ?_
    refine g_iload_n (q := 12) ok dJ7_fill_53178_11 rfl 3 rfl rfl ?_
    refine g_iload_n (q := 13) ok dJ7_fill_53178_12 rfl 1 rfl rfl ?_
    refine g_iast (q := 14) ok dJ7_fill_53178_13 rfl sX_49 ?_
    refine g_letw (fun w4 => ?_)
    refine g_iinc (v := v2 + (nI 1)) (q := 17) (L' := [(2, .int (v2 + (nI 1))), (0, .ref 49), (1, .int a1), (3, .int (nI 26))]) ok dJ7_fill_53178_14 rfl 3 rfl rfl (by decide) rfl rfl ?_
    refine g_goto (q := 5) ok dJ7_fill_53178_17 (by decide) ?_
    refine g_to (L' := [(0, .ref 49), (1, .int a1), (3, .int (nI 26)), (2, .int (v2 + (nI 1)))]) ?_ [1, 2, 3, 0] rfl
    exact hgo1 _ _
set_option maxRecDepth 20000 in
theorem kX1_tellLetter (a1 : Int32) (a2 : Int32) (w : gT) : gM S1 cl1 gTs yX1_tellLetter cX1_tellLetter 3 none rmX1_tellLetter gv [.ref 48, .int a1, .int a2] w (xX1_tellLetter a1 a2 w) := by
  refine gM_of (own := RX1) [(0, .ref 48), (1, .int a1), (2, .int a2)] rfl (by decide) (fun _ => rfl) (fun _ => Nat.le_of_ble_eq_true rfl) (fun κ ok => ?_)
  unfold xX1_tellLetter
  refine g_aload_n (q := 1) ok dX1_tellLetter_0 rfl 0 rfl rfl ?_
  refine g_getR (q := 4) ok dX1_tellLetter_1 rfl fl_X1_11 sX_48 rfl ?_
  refine g_iload_n (q := 5) ok dX1_tellLetter_4 rfl 1 rfl rfl ?_
  refine g_bipush (v := (nI 97)) (q := 7) ok dX1_tellLetter_5 rfl (by decide) ?_
  refine g_isub (q := 8) ok dX1_tellLetter_7 rfl ?_
  refine g_iload_n (q := 9) ok dX1_tellLetter_8 rfl 2 rfl rfl ?_
  refine g_iast (q := 10) ok dX1_tellLetter_9 rfl sX_49 ?_
  refine g_letw (fun w1 => ?_)
  exact g_vret ok dX1_tellLetter_10
set_option maxRecDepth 20000 in
theorem kX1_tellWalk (N : Nat) (a1 : Int32) (a2 : Int32) (a3 : Int32) (a4 : Int32) (w : gT) : gM S1 cl1 gTs yX1_tellWalk cX1_tellWalk 5 none rmX1_tellWalk gv [.ref 48, .int a1, .int a2, .int a3, .int a4] w (xX1_tellWalk N a1 a2 a3 a4 w) := by
  refine gM_of (own := RX1) [(0, .ref 48), (1, .int a1), (2, .int a2), (3, .int a3), (4, .int a4)] rfl (by decide) (fun _ => rfl) (fun _ => Nat.le_of_ble_eq_true rfl) (fun κ ok => ?_)
  unfold xX1_tellWalk
  refine g_aload_n (q := 1) ok dX1_tellWalk_0 rfl 0 rfl rfl ?_
  refine g_getR (q := 4) ok dX1_tellWalk_1 rfl fl_X1_11 sX_48 rfl ?_
  refine g_iconst (v := (nI 0)) (q := 5) ok dX1_tellWalk_4 rfl (by decide) ?_
  refine g_callSv (q := 8) (As := [.ref 49, .int (nI 0)]) (st := []) ok tbl_good dX1_tellWalk_5 rfl (kJ7_fill_53178_49 N _ _) cf_X1_77 ⟨rfl, rfl, Nat.le_of_ble_eq_true rfl, Nat.le_of_ble_eq_true rfl⟩ rfl rfl (fun _ => Nat.le_of_ble_eq_true rfl) (fun w1 => ?_)
  refine g_aload_n (q := 9) ok dX1_tellWalk_8 rfl 0 rfl rfl ?_
  refine g_bipush (v := (nI 114)) (q := 11) ok dX1_tellWalk_9 rfl (by decide) ?_
  refine g_iload_n (q := 12) ok dX1_tellWalk_11 rfl 3 rfl rfl ?_
  refine g_callVv (q := 15) (As := [.int (nI 114), .int a3]) (st := []) ok tbl_good dX1_tellWalk_12 rfl (kX1_tellLetter _ _ _) cf_X1_49 ⟨rfl, rfl, Nat.le_of_ble_eq_true rfl, Nat.le_of_ble_eq_true rfl⟩ sX_48 rfl rfl rfl (fun _ => Nat.le_of_ble_eq_true rfl) (fun w2 => ?_)
  refine g_aload_n (q := 16) ok dX1_tellWalk_15 rfl 0 rfl rfl ?_
  refine g_bipush (v := (nI 110)) (q := 18) ok dX1_tellWalk_16 rfl (by decide) ?_
  refine g_iload_n (q := 19) ok dX1_tellWalk_18 rfl 2 rfl rfl ?_
  refine g_callVv (q := 22) (As := [.int (nI 110), .int a2]) (st := []) ok tbl_good dX1_tellWalk_19 rfl (kX1_tellLetter _ _ _) cf_X1_49 ⟨rfl, rfl, Nat.le_of_ble_eq_true rfl, Nat.le_of_ble_eq_true rfl⟩ sX_48 rfl rfl rfl (fun _ => Nat.le_of_ble_eq_true rfl) (fun w3 => ?_)
  refine g_aload_n (q := 23) ok dX1_tellWalk_22 rfl 0 rfl rfl ?_
  refine g_bipush (v := (nI 116)) (q := 25) ok dX1_tellWalk_23 rfl (by decide) ?_
  refine g_aload_n (q := 26) ok dX1_tellWalk_25 rfl 0 rfl rfl ?_
  refine g_getR (q := 29) ok dX1_tellWalk_26 rfl fl_X1_17 sX_48 rfl ?_
  refine g_getR (q := 32) ok dX1_tellWalk_29 rfl fl_X1_83 sX_1 rfl ?_
  refine g_iload_n (q := 33) ok dX1_tellWalk_32 rfl 3 rfl rfl ?_
  refine g_iald (q := 34) ok dX1_tellWalk_33 rfl sX_2 ?_
  refine g_callVv (q := 37) (As := [.int (nI 116), .int (w3.1 2 a3.toNatClampNeg)]) (st := []) ok tbl_good dX1_tellWalk_34 rfl (kX1_tellLetter _ _ _) cf_X1_49 ⟨rfl, rfl, Nat.le_of_ble_eq_true rfl, Nat.le_of_ble_eq_true rfl⟩ sX_48 rfl rfl rfl (fun _ => Nat.le_of_ble_eq_true rfl) (fun w4 => ?_)
  refine g_aload_n (q := 38) ok dX1_tellWalk_37 rfl 0 rfl rfl ?_
  refine g_bipush (v := (nI 103)) (q := 40) ok dX1_tellWalk_38 rfl (by decide) ?_
  refine g_iload_n (q := 41) ok dX1_tellWalk_40 rfl 1 rfl rfl ?_
  refine g_callVv (q := 44) (As := [.int (nI 103), .int a1]) (st := []) ok tbl_good dX1_tellWalk_41 rfl (kX1_tellLetter _ _ _) cf_X1_49 ⟨rfl, rfl, Nat.le_of_ble_eq_true rfl, Nat.le_of_ble_eq_true rfl⟩ sX_48 rfl rfl rfl (fun _ => Nat.le_of_ble_eq_true rfl) (fun w5 => ?_)
  refine g_aload_n (q := 45) ok dX1_tellWalk_44 rfl 0 rfl rfl ?_
  refine g_bipush (v := (nI 109)) (q := 47) ok dX1_tellWalk_45 rfl (by decide) ?_
  refine g_aload_n (q := 48) ok dX1_tellWalk_47 rfl 0 rfl rfl ?_
  refine g_getR (q := 51) ok dX1_tellWalk_48 rfl fl_X1_17 sX_48 rfl ?_
  refine g_getR (q := 54) ok dX1_tellWalk_51 rfl fl_X1_86 sX_1 rfl ?_
  refine g_iload_n (q := 55) ok dX1_tellWalk_54 rfl 1 rfl rfl ?_
  refine g_iald (q := 56) ok dX1_tellWalk_55 rfl sX_6 ?_
  refine g_callVv (q := 59) (As := [.int (nI 109), .int (w5.1 6 a1.toNatClampNeg)]) (st := []) ok tbl_good dX1_tellWalk_56 rfl (kX1_tellLetter _ _ _) cf_X1_49 ⟨rfl, rfl, Nat.le_of_ble_eq_true rfl, Nat.le_of_ble_eq_true rfl⟩ sX_48 rfl rfl rfl (fun _ => Nat.le_of_ble_eq_true rfl) (fun w6 => ?_)
  refine g_aload_n (q := 60) ok dX1_tellWalk_59 rfl 0 rfl rfl ?_
  refine g_bipush (v := (nI 99)) (q := 62) ok dX1_tellWalk_60 rfl (by decide) ?_
  refine g_aload_n (q := 63) ok dX1_tellWalk_62 rfl 0 rfl rfl ?_
  refine g_getR (q := 66) ok dX1_tellWalk_63 rfl fl_X1_17 sX_48 rfl ?_
  refine g_getR (q := 69) ok dX1_tellWalk_66 rfl fl_X1_89 sX_1 rfl ?_
  refine g_iload_n (q := 70) ok dX1_tellWalk_69 rfl 1 rfl rfl ?_
  refine g_iald (q := 71) ok dX1_tellWalk_70 rfl sX_7 ?_
  refine g_callVv (q := 74) (As := [.int (nI 99), .int (w6.1 7 a1.toNatClampNeg)]) (st := []) ok tbl_good dX1_tellWalk_71 rfl (kX1_tellLetter _ _ _) cf_X1_49 ⟨rfl, rfl, Nat.le_of_ble_eq_true rfl, Nat.le_of_ble_eq_true rfl⟩ sX_48 rfl rfl rfl (fun _ => Nat.le_of_ble_eq_true rfl) (fun w7 => ?_)
  refine g_aload_n (q := 75) ok dX1_tellWalk_74 rfl 0 rfl rfl ?_
  refine g_bipush (v := (nI 121)) (q := 77) ok dX1_tellWalk_75 rfl (by decide) ?_
  refine g_aload_n (q := 78) ok dX1_tellWalk_77 rfl 0 rfl rfl ?_
  refine g_getR (q := 81) ok dX1_tellWalk_78 rfl fl_X1_17 sX_48 rfl ?_
  refine g_getR (q := 84) ok dX1_tellWalk_81 rfl fl_X1_92 sX_1 rfl ?_
  refine g_iload_n (q := 85) ok dX1_tellWalk_84 rfl 1 rfl rfl ?_
  refine g_iald (q := 86) ok dX1_tellWalk_85 rfl sX_8 ?_
  refine g_callVv (q := 89) (As := [.int (nI 121), .int (w7.1 8 a1.toNatClampNeg)]) (st := []) ok tbl_good dX1_tellWalk_86 rfl (kX1_tellLetter _ _ _) cf_X1_49 ⟨rfl, rfl, Nat.le_of_ble_eq_true rfl, Nat.le_of_ble_eq_true rfl⟩ sX_48 rfl rfl rfl (fun _ => Nat.le_of_ble_eq_true rfl) (fun w8 => ?_)
  refine g_aload_n (q := 90) ok dX1_tellWalk_89 rfl 0 rfl rfl ?_
  refine g_bipush (v := (nI 104)) (q := 92) ok dX1_tellWalk_90 rfl (by decide) ?_
  refine g_iload (q := 94) ok dX1_tellWalk_92 rfl 4 rfl ?_
  refine g_callVv (q := 97) (As := [.int (nI 104), .int a4]) (st := []) ok tbl_good dX1_tellWalk_94 rfl (kX1_tellLetter _ _ _) cf_X1_49 ⟨rfl, rfl, Nat.le_of_ble_eq_true rfl, Nat.le_of_ble_eq_true rfl⟩ sX_48 rfl rfl rfl (fun _ => Nat.le_of_ble_eq_true rfl) (fun w9 => ?_)
  exact g_vret ok dX1_tellWalk_97
set_option maxRecDepth 20000 in
theorem kX3_letterAt (a0 : Int32) (w : gT) : gM S1 cl1 gTs yX3_letterAt cX3_letterAt 2 (some .int) rmX3_letterAt gi [.int a0, .ref 49] w (xX3_letterAt a0 w) := by
  refine gM_of (own := RX3) [(0, .int a0), (1, .ref 49)] rfl (by decide) (fun _ => rfl) (fun _ => Nat.le_of_ble_eq_true rfl) (fun κ ok => ?_)
  unfold xX3_letterAt
  refine g_iload_n (q := 1) ok dX3_letterAt_0 rfl 0 rfl rfl ?_
  refine g_if_lt (q := 4) (g := 16) ok dX3_letterAt_1 rfl (by decide) ?_ ?_
  · refine g_iconst (v := (nI 0)) (q := 17) ok dX3_letterAt_16 rfl (by decide) ?_
    exact g_iret ok dX3_letterAt_17
  · refine g_iload_n (q := 5) ok dX3_letterAt_4 rfl 0 rfl rfl ?_
    refine g_aload_n (q := 6) ok dX3_letterAt_5 rfl 1 rfl rfl ?_
    refine g_alen (v := (nI 26)) (q := 7) ok dX3_letterAt_6 rfl sX_49 rfl ?_
    refine g_icmp_ge (q := 10) (g := 16) ok dX3_letterAt_7 rfl (by decide) ?_ ?_
    · refine g_iconst (v := (nI 0)) (q := 17) ok dX3_letterAt_16 rfl (by decide) ?_
      exact g_iret ok dX3_letterAt_17
    · refine g_aload_n (q := 11) ok dX3_letterAt_10 rfl 1 rfl rfl ?_
      refine g_iload_n (q := 12) ok dX3_letterAt_11 rfl 0 rfl rfl ?_
      refine g_iald (q := 13) ok dX3_letterAt_12 rfl sX_49 ?_
      refine g_goto (q := 17) ok dX3_letterAt_13 (by decide) ?_
      exact g_iret ok dX3_letterAt_17
set_option maxRecDepth 20000 in
theorem kX3_joined (a0 : Int32) (a1 : Int32) (a2 : Int32) (w : gT) : gM S1 cl1 gTs yX3_joined cX3_joined 3 (some .int) rmX3_joined gi [.int a0, .int a1, .int a2] w (xX3_joined a0 a1 a2 w) := by
  refine gM_of (own := RX3) [(0, .int a0), (1, .int a1), (2, .int a2)] rfl (by decide) (fun _ => rfl) (fun _ => Nat.le_of_ble_eq_true rfl) (fun κ ok => ?_)
  unfold xX3_joined
  refine g_iload_n (q := 1) ok dX3_joined_0 rfl 0 rfl rfl ?_
  refine g_if (fun h0 => ?_) (fun h0 => ?_)
  · refine g_tsIn (v := (nI 6)) (g := 44) ok dX3_joined_1 (by decide) (by decide) rfl (by decide) h0 ?_
    refine g_iload_n (q := 45) ok dX3_joined_44 rfl 1 rfl rfl ?_
    refine g_iload_n (q := 46) ok dX3_joined_45 rfl 2 rfl rfl ?_
    refine g_iadd (q := 47) ok dX3_joined_46 rfl ?_
    exact g_iret ok dX3_joined_47
  · refine g_if (fun h1 => ?_) (fun h1 => ?_)
    · refine g_tsIn (v := (nI 7)) (g := 48) ok dX3_joined_1 (by decide) (by decide) rfl (by decide) h1 ?_
      refine g_iload_n (q := 49) ok dX3_joined_48 rfl 1 rfl rfl ?_
      refine g_iload_n (q := 50) ok dX3_joined_49 rfl 2 rfl rfl ?_
      refine g_isub (q := 51) ok dX3_joined_50 rfl ?_
      exact g_iret ok dX3_joined_51
    · refine g_if (fun h2 => ?_) (fun h2 => ?_)
      · refine g_tsIn (v := (nI 8)) (g := 52) ok dX3_joined_1 (by decide) (by decide) rfl (by decide) h2 ?_
        refine g_iload_n (q := 53) ok dX3_joined_52 rfl 1 rfl rfl ?_
        refine g_iload_n (q := 54) ok dX3_joined_53 rfl 2 rfl rfl ?_
        refine g_imul (q := 55) ok dX3_joined_54 rfl ?_
        exact g_iret ok dX3_joined_55
      · refine g_if (fun h3 => ?_) (fun h3 => ?_)
        · refine g_tsIn (v := (nI 9)) (g := 56) ok dX3_joined_1 (by decide) (by decide) rfl (by decide) h3 ?_
          refine g_iload_n (q := 57) ok dX3_joined_56 rfl 2 rfl rfl ?_
          refine g_if_ne (q := 60) (g := 64) ok dX3_joined_57 rfl (by decide) ?_ ?_
          · refine g_iload_n (q := 65) ok dX3_joined_64 rfl 1 rfl rfl ?_
            refine g_iload_n (q := 66) ok dX3_joined_65 rfl 2 rfl rfl ?_
            refine g_idivV (q := 67) ok dX3_joined_66 rfl ?_
            exact g_iret ok dX3_joined_67
          · refine g_iconst (v := (nI 0)) (q := 61) ok dX3_joined_60 rfl (by decide) ?_
            refine g_goto (q := 67) ok dX3_joined_61 (by decide) ?_
            exact g_iret ok dX3_joined_67
        · refine g_if (fun h4 => ?_) (fun h4 => ?_)
          · refine g_tsIn (v := (nI 10)) (g := 68) ok dX3_joined_1 (by decide) (by decide) rfl (by decide) h4 ?_
            refine g_iload_n (q := 69) ok dX3_joined_68 rfl 2 rfl rfl ?_
            refine g_if_ne (q := 72) (g := 76) ok dX3_joined_69 rfl (by decide) ?_ ?_
            · refine g_iload_n (q := 77) ok dX3_joined_76 rfl 1 rfl rfl ?_
              refine g_iload_n (q := 78) ok dX3_joined_77 rfl 2 rfl rfl ?_
              refine g_iremV (q := 79) ok dX3_joined_78 rfl ?_
              exact g_iret ok dX3_joined_79
            · refine g_iconst (v := (nI 0)) (q := 73) ok dX3_joined_72 rfl (by decide) ?_
              refine g_goto (q := 79) ok dX3_joined_73 (by decide) ?_
              exact g_iret ok dX3_joined_79
          · refine g_if (fun h5 => ?_) (fun h5 => ?_)
            · refine g_tsIn (v := (nI 11)) (g := 80) ok dX3_joined_1 (by decide) (by decide) rfl (by decide) h5 ?_
              refine g_iload_n (q := 81) ok dX3_joined_80 rfl 1 rfl rfl ?_
              refine g_iload_n (q := 82) ok dX3_joined_81 rfl 2 rfl rfl ?_
              refine g_icmp_ge (q := 85) (g := 89) ok dX3_joined_82 rfl (by decide) ?_ ?_
              · refine g_iconst (v := (nI 0)) (q := 90) ok dX3_joined_89 rfl (by decide) ?_
                exact g_iret ok dX3_joined_90
              · refine g_iconst (v := (nI 1)) (q := 86) ok dX3_joined_85 rfl (by decide) ?_
                refine g_goto (q := 90) ok dX3_joined_86 (by decide) ?_
                exact g_iret ok dX3_joined_90
            · refine g_if (fun h6 => ?_) (fun h6 => ?_)
              · refine g_tsIn (v := (nI 12)) (g := 91) ok dX3_joined_1 (by decide) (by decide) rfl (by decide) h6 ?_
                refine g_iload_n (q := 92) ok dX3_joined_91 rfl 1 rfl rfl ?_
                refine g_iload_n (q := 93) ok dX3_joined_92 rfl 2 rfl rfl ?_
                refine g_icmp_le (q := 96) (g := 100) ok dX3_joined_93 rfl (by decide) ?_ ?_
                · refine g_iconst (v := (nI 0)) (q := 101) ok dX3_joined_100 rfl (by decide) ?_
                  exact g_iret ok dX3_joined_101
                · refine g_iconst (v := (nI 1)) (q := 97) ok dX3_joined_96 rfl (by decide) ?_
                  refine g_goto (q := 101) ok dX3_joined_97 (by decide) ?_
                  exact g_iret ok dX3_joined_101
              · refine g_tsOut (g := 102) ok dX3_joined_1 (by have e0 := lv_neT h0 (k := (nI 6)) (a := 6) (by decide); have e1 := lv_neT h1 (k := (nI 7)) (a := 7) (by decide); have e2 := lv_neT h2 (k := (nI 8)) (a := 8) (by decide); have e3 := lv_neT h3 (k := (nI 9)) (a := 9) (by decide); have e4 := lv_neT h4 (k := (nI 10)) (a := 10) (by decide); have e5 := lv_neT h5 (k := (nI 11)) (a := 11) (by decide); have e6 := lv_neT h6 (k := (nI 12)) (a := 12) (by decide); omega) (by decide) ?_
                refine g_iload_n (q := 103) ok dX3_joined_102 rfl 1 rfl rfl ?_
                refine g_iload_n (q := 104) ok dX3_joined_103 rfl 2 rfl rfl ?_
                refine g_icmp_ne (q := 107) (g := 111) ok dX3_joined_104 rfl (by decide) ?_ ?_
                · refine g_iconst (v := (nI 0)) (q := 112) ok dX3_joined_111 rfl (by decide) ?_
                  exact g_iret ok dX3_joined_112
                · refine g_iconst (v := (nI 1)) (q := 108) ok dX3_joined_107 rfl (by decide) ?_
                  refine g_goto (q := 112) ok dX3_joined_108 (by decide) ?_
                  exact g_iret ok dX3_joined_112
set_option maxRecDepth 20000 in
theorem kX3_reckon (N : Nat) (a1 : Int32) (w : gT) : gM S1 cl1 gTs yX3_reckon cX3_reckon 7 (some .int) rmX3_reckon gi [.ref 33, .int a1, .ref 49] w (xX3_reckon N a1 w) := by
  refine gM_of (own := RX3) [(0, .ref 33), (1, .int a1), (2, .ref 49)] rfl (by decide) (fun _ => rfl) (fun _ => Nat.le_of_ble_eq_true rfl) (fun κ ok => ?_)
  unfold xX3_reckon
  refine g_iconst (v := (-1)) (q := 1) ok dX3_reckon_0 rfl (by decide) ?_
  refine g_istore_n (q := 2) (L' := [(3, .int (-1)), (0, .ref 33), (1, .int a1), (2, .ref 49)]) ok dX3_reckon_1 rfl rfl (by decide) rfl rfl ?_
  refine g_iload_n (q := 3) ok dX3_reckon_2 rfl 2 rfl rfl ?_
  refine g_istore (q := 5) (L' := [(4, .int a1), (3, .int (-1)), (0, .ref 33), (1, .int a1), (2, .ref 49)]) ok dX3_reckon_3 rfl (by decide) rfl rfl ?_
  refine g_to (L' := [(0, .ref 33), (2, .ref 49), (3, .int (-1)), (4, .int a1)]) ?_ [2, 4, 1, 0] rfl
  refine g_loop2 (Lf := fun v2 v3 => [(0, .ref 33), (2, .ref 49), (3, .int v2), (4, .int v3)]) (fun go1 hgo1 v2 v3 w4 => ?_) N _ _ _
  unfold xX3_reckon_b5
  refine g_iload (q := 7) ok dX3_reckon_5 rfl 3 rfl ?_
  refine g_if_lt (q := 10) (g := 255) ok dX3_reckon_7 rfl (by decide) ?_ ?_
  · refine g_iconst (v := (nI 0)) (q := 256) ok dX3_reckon_255 rfl (by decide) ?_
    exact g_iret ok dX3_reckon_256
  · refine g_iload (q := 12) ok dX3_reckon_10 rfl 3 rfl ?_
    refine g_aload_n (q := 13) ok dX3_reckon_12 rfl 0 rfl rfl ?_
    refine g_getI (q := 16) (N := 0) ok dX3_reckon_13 rfl fl_X3_32 sX_33 rfl ?_
    refine g_icmp_ge (q := 19) (g := 255) ok dX3_reckon_16 rfl (by decide) ?_ ?_
    · refine g_iconst (v := (nI 0)) (q := 256) ok dX3_reckon_255 rfl (by decide) ?_
      exact g_iret ok dX3_reckon_256
    · refine g_join (P := fun k5 => ∀ (v6 : Int32) (v7 : Int32) (w8 : gT), gJ S1 cl1 rmX3_reckon 7 gi κ 249 [(0, .ref 33), (2, .ref 49), (3, .int v6), (4, .int v7)] [] w8 (k5 v6 v7 w8)) (fun v6 v7 w8 => ?_) (fun k5 hk5 => ?_)
      · refine g_iinc (v := v7 + (nI 1)) (q := 252) (L' := [(4, .int (v7 + (nI 1))), (0, .ref 33), (2, .ref 49), (3, .int v6)]) ok dX3_reckon_249 rfl 3 rfl rfl (by decide) rfl rfl ?_
        refine g_goto (q := 5) ok dX3_reckon_252 (by decide) ?_
        refine g_to (L' := [(0, .ref 33), (2, .ref 49), (3, .int v6), (4, .int (v7 + (nI 1)))]) ?_ [1, 2, 3, 0] rfl
        exact hgo1 _ _ _
      · refine g_join (P := fun k9 => ∀ (v10 : Int32) (w11 : gT), gJ S1 cl1 rmX3_reckon 7 gi κ 39 [(0, .ref 33), (2, .ref 49), (3, .int v2), (4, .int v3), (5, .int v10)] [] w11 (k9 v10 w11)) (fun v10 w11 => ?_) (fun k9 hk9 => ?_)
        · refine g_iload_n (q := 40) ok dX3_reckon_39 rfl 2 rfl rfl ?_
          refine g_iconst (v := (nI 1)) (q := 41) ok dX3_reckon_40 rfl (by decide) ?_
          refine g_iadd (q := 42) ok dX3_reckon_41 rfl ?_
          refine g_bipush (v := (nI 32)) (q := 44) ok dX3_reckon_42 rfl (by decide) ?_
          refine g_icmp_lt (q := 47) (g := 49) ok dX3_reckon_44 rfl (by decide) ?_ ?_
          · refine g_join (P := fun k12 => ∀ (v13 : Int32) (v14 : Int32) (v15 : Int32) (w16 : gT), gJ S1 cl1 rmX3_reckon 7 gi κ 83 [(0, .ref 33), (2, .ref 49), (4, .int v3), (3, .int v13)] [.int v15, .int v14, .ref 39] w16 (k12 v13 v14 v15 w16)) (fun v13 v14 v15 w16 => ?_) (fun k12 hk12 => ?_)
            · refine g_iast (q := 84) ok dX3_reckon_83 rfl sX_39 ?_
              refine g_letw (fun w17 => ?_)
              refine g_goto (q := 249) ok dX3_reckon_84 (by decide) ?_
              refine g_to (L' := [(0, .ref 33), (2, .ref 49), (3, .int v13), (4, .int v3)]) ?_ [0, 1, 3, 2] rfl
              exact hk5 _ _ _
            · refine g_iinc (v := v2 + (nI 1)) (q := 52) (L' := [(3, .int (v2 + (nI 1))), (0, .ref 33), (2, .ref 49), (4, .int v3), (5, .int v10)]) ok dX3_reckon_49 rfl 2 rfl rfl (by decide) rfl rfl ?_
              refine g_aload_n (q := 53) ok dX3_reckon_52 rfl 1 rfl rfl ?_
              refine g_getR (q := 56) ok dX3_reckon_53 rfl fl_X3_25 sX_33 rfl ?_
              refine g_iload_n (q := 57) ok dX3_reckon_56 rfl 0 rfl rfl ?_
              refine g_iload (q := 59) ok dX3_reckon_57 rfl 4 rfl ?_
              refine g_if_ne (q := 62) (g := 72) ok dX3_reckon_59 rfl (by decide) ?_ ?_
              · refine g_aload_n (q := 73) ok dX3_reckon_72 rfl 1 rfl rfl ?_
                refine g_getR (q := 76) ok dX3_reckon_73 rfl fl_X3_22 sX_33 rfl ?_
                refine g_iload (q := 78) ok dX3_reckon_76 rfl 3 rfl ?_
                refine g_iald (q := 79) ok dX3_reckon_78 rfl sX_38 ?_
                refine g_aload_n (q := 80) ok dX3_reckon_79 rfl 2 rfl rfl ?_
                refine g_callSi (q := 83) (As := [.int (w11.1 38 v3.toNatClampNeg), .ref 49]) (st := [.int (v2 + (nI 1)), .ref 39]) ok tbl_good dX3_reckon_80 rfl (kX3_letterAt _ _) cf_X3_48 ⟨rfl, rfl, Nat.le_of_ble_eq_true rfl, Nat.le_of_ble_eq_true rfl⟩ rfl rfl (fun _ => Nat.le_of_ble_eq_true rfl) (fun v18 w19 => ?_)
                refine g_to (L' := [(0, .ref 33), (2, .ref 49), (4, .int v3), (3, .int (v2 + (nI 1)))]) ?_ [1, 2, 3, 0] rfl
                exact hk12 _ _ _ _
              · refine g_aload_n (q := 63) ok dX3_reckon_62 rfl 1 rfl rfl ?_
                refine g_getR (q := 66) ok dX3_reckon_63 rfl fl_X3_22 sX_33 rfl ?_
                refine g_iload (q := 68) ok dX3_reckon_66 rfl 3 rfl ?_
                refine g_iald (q := 69) ok dX3_reckon_68 rfl sX_38 ?_
                refine g_goto (q := 83) ok dX3_reckon_69 (by decide) ?_
                refine g_to (L' := [(0, .ref 33), (2, .ref 49), (4, .int v3), (3, .int (v2 + (nI 1)))]) ?_ [1, 2, 3, 0] rfl
                exact hk12 _ _ _ _
          · refine g_iconst (v := (nI 0)) (q := 48) ok dX3_reckon_47 rfl (by decide) ?_
            exact g_iret ok dX3_reckon_48
        · refine g_aload_n (q := 20) ok dX3_reckon_19 rfl 0 rfl rfl ?_
          refine g_getR (q := 23) ok dX3_reckon_20 rfl fl_X3_19 sX_33 rfl ?_
          refine g_iload (q := 25) ok dX3_reckon_23 rfl 3 rfl ?_
          refine g_iald (q := 26) ok dX3_reckon_25 rfl sX_37 ?_
          refine g_leti (fun v20 => ?_)
          refine g_istore (q := 28) (L' := [(5, .int v20), (0, .ref 33), (2, .ref 49), (3, .int v2), (4, .int v3)]) ok dX3_reckon_26 rfl (by decide) rfl rfl ?_
          refine g_iload (q := 30) ok dX3_reckon_28 rfl 0 rfl ?_
          refine g_if_eq (q := 33) (g := 39) ok dX3_reckon_30 rfl (by decide) ?_ ?_
          · refine g_to (L' := [(0, .ref 33), (2, .ref 49), (3, .int v2), (4, .int v3), (5, .int v20)]) ?_ [1, 2, 3, 4, 0] rfl
            exact hk9 _ _
          · refine g_iload (q := 35) ok dX3_reckon_33 rfl 0 rfl ?_
            refine g_iconst (v := (nI 1)) (q := 36) ok dX3_reckon_35 rfl (by decide) ?_
            refine g_icmp_ne (q := 39) (g := 87) ok dX3_reckon_36 rfl (by decide) ?_ ?_
            · refine g_iload_n (q := 88) ok dX3_reckon_87 rfl 3 rfl rfl ?_
              refine g_if_ge (q := 91) (g := 93) ok dX3_reckon_88 rfl (by decide) ?_ ?_
              · refine g_iload (q := 95) ok dX3_reckon_93 rfl 0 rfl ?_
                refine g_iconst (v := (nI 2)) (q := 96) ok dX3_reckon_95 rfl (by decide) ?_
                refine g_icmp_ne (q := 99) (g := 106) ok dX3_reckon_96 rfl (by decide) ?_ ?_
                · refine g_iload (q := 108) ok dX3_reckon_106 rfl 0 rfl ?_
                  refine g_iconst (v := (nI 3)) (q := 109) ok dX3_reckon_108 rfl (by decide) ?_
                  refine g_icmp_ne (q := 112) (g := 129) ok dX3_reckon_109 rfl (by decide) ?_ ?_
                  · refine g_join (P := fun k21 => ∀ (w22 : gT), gJ S1 cl1 rmX3_reckon 7 gi κ 141 [(0, .ref 33), (2, .ref 49), (3, .int v2), (4, .int v3), (5, .int v20)] [] w22 (k21 w22)) (fun w22 => ?_) (fun k21 hk21 => ?_)
                    · refine g_join (P := fun k23 => ∀ (v24 : Int32) (w25 : gT), gJ S1 cl1 rmX3_reckon 7 gi κ 155 [(0, .ref 33), (2, .ref 49), (3, .int v2), (4, .int v3), (5, .int v20)] [.int v24] w25 (k23 v24 w25)) (fun v24 w25 => ?_) (fun k23 hk23 => ?_)
                      · refine g_join (P := fun k26 => ∀ (v27 : Int32) (v28 : Int32) (w29 : gT), gJ S1 cl1 rmX3_reckon 7 gi κ 166 [(0, .ref 33), (2, .ref 49), (3, .int v2), (4, .int v3)] [.int v28, .int v27] w29 (k26 v27 v28 w29)) (fun v27 v28 w29 => ?_) (fun k26 hk26 => ?_)
                        · refine g_icmp_ne (q := 169) (g := 188) ok dX3_reckon_166 rfl (by decide) ?_ ?_
                          · refine g_iinc (v := v2 + (-1)) (q := 191) (L' := [(3, .int (v2 + (-1))), (0, .ref 33), (2, .ref 49), (4, .int v3)]) ok dX3_reckon_188 rfl 2 rfl rfl (by decide) rfl rfl ?_
                            refine g_goto (q := 249) ok dX3_reckon_191 (by decide) ?_
                            refine g_to (L' := [(0, .ref 33), (2, .ref 49), (3, .int (v2 + (-1))), (4, .int v3)]) ?_ [1, 2, 0, 3] rfl
                            exact hk5 _ _ _
                          · refine g_iload (q := 171) ok dX3_reckon_169 rfl 3 rfl ?_
                            refine g_aload_n (q := 172) ok dX3_reckon_171 rfl 0 rfl rfl ?_
                            refine g_getR (q := 175) ok dX3_reckon_172 rfl fl_X3_22 sX_33 rfl ?_
                            refine g_iload (q := 177) ok dX3_reckon_175 rfl 3 rfl ?_
                            refine g_iald (q := 178) ok dX3_reckon_177 rfl sX_38 ?_
                            refine g_iconst (v := (nI 1)) (q := 179) ok dX3_reckon_178 rfl (by decide) ?_
                            refine g_isub (q := 180) ok dX3_reckon_179 rfl ?_
                            refine g_max (q := 183) (st := []) ok dX3_reckon_180 rfl tw_769 tw_619 tw_94 tw_620 ⟨Nat.le_of_ble_eq_true rfl, Nat.le_of_ble_eq_true rfl⟩ (fun _ => Nat.le_of_ble_eq_true rfl) ?_
                            refine g_leti (fun v30 => ?_)
                            refine g_istore (q := 185) (L' := [(4, .int v30), (0, .ref 33), (2, .ref 49), (3, .int v2)]) ok dX3_reckon_183 rfl (by decide) rfl rfl ?_
                            refine g_goto (q := 249) ok dX3_reckon_185 (by decide) ?_
                            refine g_to (L' := [(0, .ref 33), (2, .ref 49), (3, .int v2), (4, .int v30)]) ?_ [1, 2, 3, 0] rfl
                            exact hk5 _ _ _
                        · refine g_iload (q := 157) ok dX3_reckon_155 rfl 4 rfl ?_
                          refine g_iconst (v := (nI 5)) (q := 158) ok dX3_reckon_157 rfl (by decide) ?_
                          refine g_icmp_ne (q := 161) (g := 165) ok dX3_reckon_158 rfl (by decide) ?_ ?_
                          · refine g_iconst (v := (nI 0)) (q := 166) ok dX3_reckon_165 rfl (by decide) ?_
                            refine g_to (L' := [(0, .ref 33), (2, .ref 49), (3, .int v2), (4, .int v3)]) ?_ [0, 1, 2, 3] rfl
                            exact hk26 _ _ _
                          · refine g_iconst (v := (nI 1)) (q := 162) ok dX3_reckon_161 rfl (by decide) ?_
                            refine g_goto (q := 166) ok dX3_reckon_162 (by decide) ?_
                            refine g_to (L' := [(0, .ref 33), (2, .ref 49), (3, .int v2), (4, .int v3)]) ?_ [0, 1, 2, 3] rfl
                            exact hk26 _ _ _
                      · refine g_aload_n (q := 142) ok dX3_reckon_141 rfl 0 rfl rfl ?_
                        refine g_getR (q := 145) ok dX3_reckon_142 rfl fl_X3_25 sX_33 rfl ?_
                        refine g_iload_n (q := 146) ok dX3_reckon_145 rfl 2 rfl rfl ?_
                        refine g_iald (q := 147) ok dX3_reckon_146 rfl sX_39 ?_
                        refine g_if_eq (q := 150) (g := 154) ok dX3_reckon_147 rfl (by decide) ?_ ?_
                        · refine g_iconst (v := (nI 0)) (q := 155) ok dX3_reckon_154 rfl (by decide) ?_
                          exact hk23 _ _
                        · refine g_iconst (v := (nI 1)) (q := 151) ok dX3_reckon_150 rfl (by decide) ?_
                          refine g_goto (q := 155) ok dX3_reckon_151 (by decide) ?_
                          exact hk23 _ _
                    · refine g_iload (q := 131) ok dX3_reckon_129 rfl 0 rfl ?_
                      refine g_iconst (v := (nI 4)) (q := 132) ok dX3_reckon_131 rfl (by decide) ?_
                      refine g_icmp_eq (q := 135) (g := 141) ok dX3_reckon_132 rfl (by decide) ?_ ?_
                      · refine g_to (L' := [(0, .ref 33), (2, .ref 49), (3, .int v2), (4, .int v3), (5, .int v20)]) ?_ [1, 2, 3, 4, 0] rfl
                        exact hk21 _
                      · refine g_iload (q := 137) ok dX3_reckon_135 rfl 0 rfl ?_
                        refine g_iconst (v := (nI 5)) (q := 138) ok dX3_reckon_137 rfl (by decide) ?_
                        refine g_icmp_ne (q := 141) (g := 194) ok dX3_reckon_138 rfl (by decide) ?_ ?_
                        · refine g_aload_n (q := 195) ok dX3_reckon_194 rfl 1 rfl rfl ?_
                          refine g_getR (q := 198) ok dX3_reckon_195 rfl fl_X3_25 sX_33 rfl ?_
                          refine g_iload_n (q := 199) ok dX3_reckon_198 rfl 3 rfl rfl ?_
                          refine g_iald (q := 200) ok dX3_reckon_199 rfl sX_39 ?_
                          refine g_leti (fun v31 => ?_)
                          refine g_istore (q := 202) (L' := [(6, .int v31), (5, .int v20), (0, .ref 33), (2, .ref 49), (3, .int v2), (4, .int v3)]) ok dX3_reckon_200 rfl (by decide) rfl rfl ?_
                          refine g_iinc (v := v2 + (-1)) (q := 205) (L' := [(3, .int (v2 + (-1))), (6, .int v31), (5, .int v20), (0, .ref 33), (2, .ref 49), (4, .int v3)]) ok dX3_reckon_202 rfl 4 rfl rfl (by decide) rfl rfl ?_
                          refine g_iload_n (q := 206) ok dX3_reckon_205 rfl 0 rfl rfl ?_
                          refine g_if_lt (q := 209) (g := 228) ok dX3_reckon_206 rfl (by decide) ?_ ?_
                          · refine g_iconst (v := (nI 0)) (q := 229) ok dX3_reckon_228 rfl (by decide) ?_
                            exact g_iret ok dX3_reckon_229
                          · refine g_join (P := fun k32 => ∀ (w33 : gT), gJ S1 cl1 rmX3_reckon 7 gi κ 230 [(0, .ref 33), (2, .ref 49), (3, .int (v2 + (-1))), (4, .int v3), (5, .int v20), (6, .int v31)] [] w33 (k32 w33)) (fun w33 => ?_) (fun k32 hk32 => ?_)
                            · refine g_aload_n (q := 231) ok dX3_reckon_230 rfl 0 rfl rfl ?_
                              refine g_getR (q := 234) ok dX3_reckon_231 rfl fl_X3_25 sX_33 rfl ?_
                              refine g_iload_n (q := 235) ok dX3_reckon_234 rfl 2 rfl rfl ?_
                              refine g_iload (q := 237) ok dX3_reckon_235 rfl 4 rfl ?_
                              refine g_aload_n (q := 238) ok dX3_reckon_237 rfl 0 rfl rfl ?_
                              refine g_getR (q := 241) ok dX3_reckon_238 rfl fl_X3_25 sX_33 rfl ?_
                              refine g_iload_n (q := 242) ok dX3_reckon_241 rfl 2 rfl rfl ?_
                              refine g_iald (q := 243) ok dX3_reckon_242 rfl sX_39 ?_
                              refine g_iload (q := 245) ok dX3_reckon_243 rfl 5 rfl ?_
                              refine g_callSi (q := 248) (As := [.int v20, .int (w33.1 39 (v2 + (-1)).toNatClampNeg), .int v31]) (st := [.int (v2 + (-1)), .ref 39]) ok tbl_good dX3_reckon_245 rfl (kX3_joined _ _ _ _) cf_X3_51 ⟨rfl, rfl, Nat.le_of_ble_eq_true rfl, Nat.le_of_ble_eq_true rfl⟩ rfl rfl (fun _ => Nat.le_of_ble_eq_true rfl) (fun v34 w35 => ?_)
                              refine g_iast (q := 249) ok dX3_reckon_248 rfl sX_39 ?_
                              refine g_letw (fun w36 => ?_)
                              refine g_to (L' := [(0, .ref 33), (2, .ref 49), (3, .int (v2 + (-1))), (4, .int v3)]) ?_ [0, 1, 2, 3] rfl
                              exact hk5 _ _ _
                            · refine g_iload (q := 211) ok dX3_reckon_209 rfl 1 rfl ?_
                              refine g_if_ne (q := 214) (g := 230) ok dX3_reckon_211 rfl (by decide) ?_ ?_
                              · refine g_to (L' := [(0, .ref 33), (2, .ref 49), (3, .int (v2 + (-1))), (4, .int v3), (5, .int v20), (6, .int v31)]) ?_ [3, 4, 0, 5, 2, 1] rfl
                                exact hk32 _
                              · refine g_iload (q := 216) ok dX3_reckon_214 rfl 2 rfl ?_
                                refine g_bipush (v := (nI 9)) (q := 218) ok dX3_reckon_216 rfl (by decide) ?_
                                refine g_icmp_eq (q := 221) (g := 228) ok dX3_reckon_218 rfl (by decide) ?_ ?_
                                · refine g_iconst (v := (nI 0)) (q := 229) ok dX3_reckon_228 rfl (by decide) ?_
                                  exact g_iret ok dX3_reckon_229
                                · refine g_iload (q := 223) ok dX3_reckon_221 rfl 2 rfl ?_
                                  refine g_bipush (v := (nI 10)) (q := 225) ok dX3_reckon_223 rfl (by decide) ?_
                                  refine g_icmp_ne (q := 228) (g := 230) ok dX3_reckon_225 rfl (by decide) ?_ ?_
                                  · refine g_to (L' := [(0, .ref 33), (2, .ref 49), (3, .int (v2 + (-1))), (4, .int v3), (5, .int v20), (6, .int v31)]) ?_ [3, 4, 0, 5, 2, 1] rfl
                                    exact hk32 _
                                  · refine g_iconst (v := (nI 0)) (q := 229) ok dX3_reckon_228 rfl (by decide) ?_
                                    exact g_iret ok dX3_reckon_229
                        · refine g_to (L' := [(0, .ref 33), (2, .ref 49), (3, .int v2), (4, .int v3), (5, .int v20)]) ?_ [1, 2, 3, 4, 0] rfl
                          exact hk21 _
                  · refine g_aload_n (q := 113) ok dX3_reckon_112 rfl 1 rfl rfl ?_
                    refine g_getR (q := 116) ok dX3_reckon_113 rfl fl_X3_25 sX_33 rfl ?_
                    refine g_iload_n (q := 117) ok dX3_reckon_116 rfl 3 rfl rfl ?_
                    refine g_iconst (v := (nI 1)) (q := 118) ok dX3_reckon_117 rfl (by decide) ?_
                    refine g_aload_n (q := 119) ok dX3_reckon_118 rfl 1 rfl rfl ?_
                    refine g_getR (q := 122) ok dX3_reckon_119 rfl fl_X3_25 sX_33 rfl ?_
                    refine g_iload_n (q := 123) ok dX3_reckon_122 rfl 3 rfl rfl ?_
                    refine g_iald (q := 124) ok dX3_reckon_123 rfl sX_39 ?_
                    refine g_isub (q := 125) ok dX3_reckon_124 rfl ?_
                    refine g_iast (q := 126) ok dX3_reckon_125 rfl sX_39 ?_
                    refine g_letw (fun w37 => ?_)
                    refine g_goto (q := 249) ok dX3_reckon_126 (by decide) ?_
                    refine g_to (L' := [(0, .ref 33), (2, .ref 49), (3, .int v2), (4, .int v3)]) ?_ [1, 2, 3, 4] rfl
                    exact hk5 _ _ _
                · refine g_aload_n (q := 100) ok dX3_reckon_99 rfl 1 rfl rfl ?_
                  refine g_getR (q := 103) ok dX3_reckon_100 rfl fl_X3_25 sX_33 rfl ?_
                  refine g_iload_n (q := 104) ok dX3_reckon_103 rfl 3 rfl rfl ?_
                  refine g_iald (q := 105) ok dX3_reckon_104 rfl sX_39 ?_
                  exact g_iret ok dX3_reckon_105
              · refine g_iconst (v := (nI 0)) (q := 92) ok dX3_reckon_91 rfl (by decide) ?_
                exact g_iret ok dX3_reckon_92
            · refine g_to (L' := [(0, .ref 33), (2, .ref 49), (3, .int v2), (4, .int v3), (5, .int v20)]) ?_ [1, 2, 3, 4, 0] rfl
              exact hk9 _ _
set_option maxRecDepth 20000 in
theorem kX3_holds (N : Nat) (a1 : Int32) (w : gT) : gM S1 cl1 gTs yX3_holds cX3_holds 4 (some .boolean) rmX3_holds gi [.ref 33, .int a1, .ref 49] w (xX3_holds N a1 w) := by
  refine gM_of (own := RX3) [(0, .ref 33), (1, .int a1), (2, .ref 49)] rfl (by decide) (fun _ => rfl) (fun _ => Nat.le_of_ble_eq_true rfl) (fun κ ok => ?_)
  unfold xX3_holds
  refine g_iconst (v := (nI 0)) (q := 1) ok dX3_holds_0 rfl (by decide) ?_
  refine g_istore_n (q := 2) (L' := [(3, .int (nI 0)), (0, .ref 33), (1, .int a1), (2, .ref 49)]) ok dX3_holds_1 rfl rfl (by decide) rfl rfl ?_
  refine g_to (L' := [(0, .ref 33), (2, .ref 49), (1, .int a1), (3, .int (nI 0))]) ?_ [1, 3, 2, 0] rfl
  refine g_loop1 (Lf := fun v2 => [(0, .ref 33), (2, .ref 49), (1, .int a1), (3, .int v2)]) (fun go1 hgo1 v2 w3 => ?_) N _ _
  unfold xX3_holds_b2
  refine g_iload_n (q := 3) ok dX3_holds_2 rfl 3 rfl rfl ?_
  refine g_aload_n (q := 4) ok dX3_holds_3 rfl 0 rfl rfl ?_
  refine g_getI (q := 7) (N := 0) ok dX3_holds_4 rfl fl_X3_28 sX_33 rfl ?_
  refine g_icmp_ge (q := 10) (g := 42) ok dX3_holds_7 rfl (by decide) ?_ ?_
  · refine g_iconst (v := (nI 0)) (q := 43) ok dX3_holds_42 rfl (by decide) ?_
    exact g_zret ok dX3_holds_43 rfl
  · refine g_join (P := fun k4 => ∀ (w5 : gT), gJ S1 cl1 rmX3_holds 4 gi κ 36 [(0, .ref 33), (2, .ref 49), (1, .int a1), (3, .int v2)] [] w5 (k4 w5)) (fun w5 => ?_) (fun k4 hk4 => ?_)
    · refine g_iinc (v := v2 + (nI 1)) (q := 39) (L' := [(3, .int (v2 + (nI 1))), (0, .ref 33), (2, .ref 49), (1, .int a1)]) ok dX3_holds_36 rfl 3 rfl rfl (by decide) rfl rfl ?_
      refine g_goto (q := 2) ok dX3_holds_39 (by decide) ?_
      refine g_to (L' := [(0, .ref 33), (2, .ref 49), (1, .int a1), (3, .int (v2 + (nI 1)))]) ?_ [1, 2, 3, 0] rfl
      exact hgo1 _ _
    · refine g_aload_n (q := 11) ok dX3_holds_10 rfl 0 rfl rfl ?_
      refine g_getR (q := 14) ok dX3_holds_11 rfl fl_X3_9 sX_33 rfl ?_
      refine g_iload_n (q := 15) ok dX3_holds_14 rfl 3 rfl rfl ?_
      refine g_iald (q := 16) ok dX3_holds_15 rfl sX_34 ?_
      refine g_iload_n (q := 17) ok dX3_holds_16 rfl 2 rfl rfl ?_
      refine g_icmp_ne (q := 20) (g := 36) ok dX3_holds_17 rfl (by decide) ?_ ?_
      · exact hk4 _
      · refine g_aload_n (q := 21) ok dX3_holds_20 rfl 0 rfl rfl ?_
        refine g_aload_n (q := 22) ok dX3_holds_21 rfl 0 rfl rfl ?_
        refine g_getR (q := 25) ok dX3_holds_22 rfl fl_X3_16 sX_33 rfl ?_
        refine g_iload_n (q := 26) ok dX3_holds_25 rfl 3 rfl rfl ?_
        refine g_iald (q := 27) ok dX3_holds_26 rfl sX_36 ?_
        refine g_aload_n (q := 28) ok dX3_holds_27 rfl 1 rfl rfl ?_
        refine g_callVi (q := 31) (As := [.int (w3.1 36 v2.toNatClampNeg), .ref 49]) (st := []) ok tbl_good dX3_holds_28 rfl (kX3_reckon N _ _) cf_X3_35 ⟨rfl, rfl, Nat.le_of_ble_eq_true rfl, Nat.le_of_ble_eq_true rfl⟩ sX_33 rfl rfl rfl (fun _ => Nat.le_of_ble_eq_true rfl) (fun v6 w7 => ?_)
        refine g_if_eq (q := 34) (g := 36) ok dX3_holds_31 rfl (by decide) ?_ ?_
        · exact hk4 _
        · refine g_iconst (v := (nI 1)) (q := 35) ok dX3_holds_34 rfl (by decide) ?_
          exact g_zret ok dX3_holds_35 rfl
set_option maxRecDepth 20000 in
theorem kX3_amountOf (N : Nat) (a1 : Int32) (a2 : Int32) (w : gT) : gM S1 cl1 gTs yX3_amountOf cX3_amountOf 5 (some .int) rmX3_amountOf gi [.ref 33, .int a1, .int a2, .ref 49] w (xX3_amountOf N a1 a2 w) := by
  refine gM_of (own := RX3) [(0, .ref 33), (1, .int a1), (2, .int a2), (3, .ref 49)] rfl (by decide) (fun _ => rfl) (fun _ => Nat.le_of_ble_eq_true rfl) (fun κ ok => ?_)
  unfold xX3_amountOf
  refine g_iconst (v := (nI 0)) (q := 1) ok dX3_amountOf_0 rfl (by decide) ?_
  refine g_istore (q := 3) (L' := [(4, .int (nI 0)), (0, .ref 33), (1, .int a1), (2, .int a2), (3, .ref 49)]) ok dX3_amountOf_1 rfl (by decide) rfl rfl ?_
  refine g_join (P := fun k1 => ∀ (v2 : Int32) (w3 : gT), gJ S1 cl1 rmX3_amountOf 5 gi κ 38 [(0, .ref 33), (3, .ref 49), (2, .int a2), (4, .int v2)] [] w3 (k1 v2 w3)) (fun v2 w3 => ?_) (fun k1 hk1 => ?_)
  · refine g_iconst (v := (nI 0)) (q := 39) ok dX3_amountOf_38 rfl (by decide) ?_
    refine g_iload_n (q := 40) ok dX3_amountOf_39 rfl 2 rfl rfl ?_
    refine g_aload_n (q := 41) ok dX3_amountOf_40 rfl 0 rfl rfl ?_
    refine g_aload_n (q := 42) ok dX3_amountOf_41 rfl 0 rfl rfl ?_
    refine g_getR (q := 45) ok dX3_amountOf_42 rfl fl_X3_13 sX_33 rfl ?_
    refine g_iload (q := 47) ok dX3_amountOf_45 rfl 3 rfl ?_
    refine g_iald (q := 48) ok dX3_amountOf_47 rfl sX_35 ?_
    refine g_aload_n (q := 49) ok dX3_amountOf_48 rfl 1 rfl rfl ?_
    refine g_callVi (q := 52) (As := [.int (w3.1 35 v2.toNatClampNeg), .ref 49]) (st := [.int a2, .int (nI 0)]) ok tbl_good dX3_amountOf_49 rfl (kX3_reckon N _ _) cf_X3_35 ⟨rfl, rfl, Nat.le_of_ble_eq_true rfl, Nat.le_of_ble_eq_true rfl⟩ sX_33 rfl rfl rfl (fun _ => Nat.le_of_ble_eq_true rfl) (fun v4 w5 => ?_)
    refine g_min (q := 55) (st := [.int (nI 0)]) ok dX3_amountOf_52 rfl tw_777 tw_622 tw_94 tw_623 ⟨Nat.le_of_ble_eq_true rfl, Nat.le_of_ble_eq_true rfl⟩ (fun _ => Nat.le_of_ble_eq_true rfl) ?_
    refine g_max (q := 58) (st := []) ok dX3_amountOf_55 rfl tw_769 tw_619 tw_94 tw_620 ⟨Nat.le_of_ble_eq_true rfl, Nat.le_of_ble_eq_true rfl⟩ (fun _ => Nat.le_of_ble_eq_true rfl) ?_
    exact g_iret ok dX3_amountOf_58
  · refine g_to (L' := [(0, .ref 33), (3, .ref 49), (1, .int a1), (2, .int a2), (4, .int (nI 0))]) ?_ [1, 4, 2, 3, 0] rfl
    refine g_loop1 (Lf := fun v7 => [(0, .ref 33), (3, .ref 49), (1, .int a1), (2, .int a2), (4, .int v7)]) (fun go6 hgo6 v7 w8 => ?_) N _ _
    unfold xX3_amountOf_b3
    refine g_iload (q := 5) ok dX3_amountOf_3 rfl 4 rfl ?_
    refine g_aload_n (q := 6) ok dX3_amountOf_5 rfl 0 rfl rfl ?_
    refine g_getI (q := 9) (N := 0) ok dX3_amountOf_6 rfl fl_X3_28 sX_33 rfl ?_
    refine g_icmp_ge (q := 12) (g := 65) ok dX3_amountOf_9 rfl (by decide) ?_ ?_
    · refine g_iconst (v := (nI 0)) (q := 66) ok dX3_amountOf_65 rfl (by decide) ?_
      exact g_iret ok dX3_amountOf_66
    · refine g_join (P := fun k9 => ∀ (w10 : gT), gJ S1 cl1 rmX3_amountOf 5 gi κ 59 [(0, .ref 33), (3, .ref 49), (1, .int a1), (2, .int a2), (4, .int v7)] [] w10 (k9 w10)) (fun w10 => ?_) (fun k9 hk9 => ?_)
      · refine g_iinc (v := v7 + (nI 1)) (q := 62) (L' := [(4, .int (v7 + (nI 1))), (0, .ref 33), (3, .ref 49), (1, .int a1), (2, .int a2)]) ok dX3_amountOf_59 rfl 4 rfl rfl (by decide) rfl rfl ?_
        refine g_goto (q := 3) ok dX3_amountOf_62 (by decide) ?_
        refine g_to (L' := [(0, .ref 33), (3, .ref 49), (1, .int a1), (2, .int a2), (4, .int (v7 + (nI 1)))]) ?_ [1, 2, 3, 4, 0] rfl
        exact hgo6 _ _
      · refine g_aload_n (q := 13) ok dX3_amountOf_12 rfl 0 rfl rfl ?_
        refine g_getR (q := 16) ok dX3_amountOf_13 rfl fl_X3_9 sX_33 rfl ?_
        refine g_iload (q := 18) ok dX3_amountOf_16 rfl 4 rfl ?_
        refine g_iald (q := 19) ok dX3_amountOf_18 rfl sX_34 ?_
        refine g_iload_n (q := 20) ok dX3_amountOf_19 rfl 2 rfl rfl ?_
        refine g_icmp_ne (q := 23) (g := 59) ok dX3_amountOf_20 rfl (by decide) ?_ ?_
        · exact hk9 _
        · refine g_aload_n (q := 24) ok dX3_amountOf_23 rfl 0 rfl rfl ?_
          refine g_aload_n (q := 25) ok dX3_amountOf_24 rfl 0 rfl rfl ?_
          refine g_getR (q := 28) ok dX3_amountOf_25 rfl fl_X3_16 sX_33 rfl ?_
          refine g_iload (q := 30) ok dX3_amountOf_28 rfl 4 rfl ?_
          refine g_iald (q := 31) ok dX3_amountOf_30 rfl sX_36 ?_
          refine g_aload_n (q := 32) ok dX3_amountOf_31 rfl 1 rfl rfl ?_
          refine g_callVi (q := 35) (As := [.int (w8.1 36 v7.toNatClampNeg), .ref 49]) (st := []) ok tbl_good dX3_amountOf_32 rfl (kX3_reckon N _ _) cf_X3_35 ⟨rfl, rfl, Nat.le_of_ble_eq_true rfl, Nat.le_of_ble_eq_true rfl⟩ sX_33 rfl rfl rfl (fun _ => Nat.le_of_ble_eq_true rfl) (fun v11 w12 => ?_)
          refine g_if_eq (q := 38) (g := 59) ok dX3_amountOf_35 rfl (by decide) ?_ ?_
          · exact hk9 _
          · refine g_to (L' := [(0, .ref 33), (3, .ref 49), (2, .int a2), (4, .int v7)]) ?_ [0, 1, 3, 4] rfl
            exact hk1 _ _
set_option maxRecDepth 20000 in
theorem kX1_frightOf (N : Nat) (a1 : Int32) (a2 : Int32) (a3 : Int32) (a4 : Int32) (a5 : Int32) (w : gT) : gM S1 cl1 gTs yX1_frightOf cX1_frightOf 7 (some .int) rmX1_frightOf gi [.ref 48, .int a1, .int a2, .int a3, .int a4, .int a5] w (xX1_frightOf N a1 a2 a3 a4 a5 w) := by
  refine gM_of (own := RX1) [(0, .ref 48), (1, .int a1), (2, .int a2), (3, .int a3), (4, .int a4), (5, .int a5)] rfl (by decide) (fun _ => rfl) (fun _ => Nat.le_of_ble_eq_true rfl) (fun κ ok => ?_)
  unfold xX1_frightOf
  refine g_aload_n (q := 1) ok dX1_frightOf_0 rfl 0 rfl rfl ?_
  refine g_iload_n (q := 2) ok dX1_frightOf_1 rfl 1 rfl rfl ?_
  refine g_iload_n (q := 3) ok dX1_frightOf_2 rfl 2 rfl rfl ?_
  refine g_iload_n (q := 4) ok dX1_frightOf_3 rfl 3 rfl rfl ?_
  refine g_iload (q := 6) ok dX1_frightOf_4 rfl 4 rfl ?_
  refine g_callVi (q := 9) (As := [.int a1, .int a2, .int a3, .int a4]) (st := []) ok tbl_good dX1_frightOf_6 rfl (kX1_isNear _ _ _ _ _) cf_X1_25 ⟨rfl, rfl, Nat.le_of_ble_eq_true rfl, Nat.le_of_ble_eq_true rfl⟩ sX_48 rfl rfl rfl (fun _ => Nat.le_of_ble_eq_true rfl) (fun v1 w2 => ?_)
  refine g_if_ne (q := 12) (g := 15) ok dX1_frightOf_9 rfl (by decide) ?_ ?_
  · refine g_aload_n (q := 16) ok dX1_frightOf_15 rfl 0 rfl rfl ?_
    refine g_getR (q := 19) ok dX1_frightOf_16 rfl fl_X1_17 sX_48 rfl ?_
    refine g_iload_n (q := 20) ok dX1_frightOf_19 rfl 2 rfl rfl ?_
    refine g_iload_n (q := 21) ok dX1_frightOf_20 rfl 3 rfl rfl ?_
    refine g_callVi (q := 24) (As := [.int a2, .int a3]) (st := []) ok tbl_good dX1_frightOf_21 rfl (kX2_companyOf N _ _ _) cf_X1_29 ⟨rfl, rfl, Nat.le_of_ble_eq_true rfl, Nat.le_of_ble_eq_true rfl⟩ sX_1 rfl rfl rfl (fun _ => Nat.le_of_ble_eq_true rfl) (fun v3 w4 => ?_)
    refine g_istore (q := 26) (L' := [(6, .int v3), (0, .ref 48), (1, .int a1), (2, .int a2), (3, .int a3), (4, .int a4), (5, .int a5)]) ok dX1_frightOf_24 rfl (by decide) rfl rfl ?_
    refine g_aload_n (q := 27) ok dX1_frightOf_26 rfl 1 rfl rfl ?_
    refine g_getR (q := 30) ok dX1_frightOf_27 rfl fl_X1_17 sX_48 rfl ?_
    refine g_getR (q := 33) ok dX1_frightOf_30 rfl fl_X1_35 sX_1 rfl ?_
    refine g_iload_n (q := 34) ok dX1_frightOf_33 rfl 2 rfl rfl ?_
    refine g_iald (q := 35) ok dX1_frightOf_34 rfl sX_5 ?_
    refine g_iload (q := 37) ok dX1_frightOf_35 rfl 0 rfl ?_
    refine g_iload (q := 39) ok dX1_frightOf_37 rfl 6 rfl ?_
    refine g_callSi (q := 42) (As := [.int (w4.1 5 a1.toNatClampNeg), .int v3, .int a5]) (st := []) ok tbl_good dX1_frightOf_39 rfl (kX1_isLet _ _ _ _) cf_X1_38 ⟨rfl, rfl, Nat.le_of_ble_eq_true rfl, Nat.le_of_ble_eq_true rfl⟩ rfl rfl (fun _ => Nat.le_of_ble_eq_true rfl) (fun v5 w6 => ?_)
    refine g_if_ne (q := 45) (g := 48) ok dX1_frightOf_42 rfl (by decide) ?_ ?_
    · refine g_aload_n (q := 49) ok dX1_frightOf_48 rfl 1 rfl rfl ?_
      refine g_iload_n (q := 50) ok dX1_frightOf_49 rfl 2 rfl rfl ?_
      refine g_iload_n (q := 51) ok dX1_frightOf_50 rfl 4 rfl rfl ?_
      refine g_aload_n (q := 52) ok dX1_frightOf_51 rfl 1 rfl rfl ?_
      refine g_getR (q := 55) ok dX1_frightOf_52 rfl fl_X1_17 sX_48 rfl ?_
      refine g_getR (q := 58) ok dX1_frightOf_55 rfl fl_X1_42 sX_1 rfl ?_
      refine g_iload_n (q := 59) ok dX1_frightOf_58 rfl 4 rfl rfl ?_
      refine g_bipush (v := (nI 10)) (q := 61) ok dX1_frightOf_59 rfl (by decide) ?_
      refine g_imul (q := 62) ok dX1_frightOf_61 rfl ?_
      refine g_iload_n (q := 63) ok dX1_frightOf_62 rfl 3 rfl rfl ?_
      refine g_iadd (q := 64) ok dX1_frightOf_63 rfl ?_
      refine g_iald (q := 65) ok dX1_frightOf_64 rfl sX_3 ?_
      refine g_iload (q := 67) ok dX1_frightOf_65 rfl 6 rfl ?_
      refine g_callVv (q := 70) (As := [.int a1, .int a3, .int (w6.1 3 ((a3 * (nI 10)) + a2).toNatClampNeg), .int a5]) (st := []) ok tbl_good dX1_frightOf_67 rfl (kX1_tellWalk N _ _ _ _ _) cf_X1_45 ⟨rfl, rfl, Nat.le_of_ble_eq_true rfl, Nat.le_of_ble_eq_true rfl⟩ sX_48 rfl rfl rfl (fun _ => Nat.le_of_ble_eq_true rfl) (fun w7 => ?_)
      refine g_aload_n (q := 71) ok dX1_frightOf_70 rfl 1 rfl rfl ?_
      refine g_bipush (v := (nI 112)) (q := 73) ok dX1_frightOf_71 rfl (by decide) ?_
      refine g_iload_n (q := 74) ok dX1_frightOf_73 rfl 3 rfl rfl ?_
      refine g_callVv (q := 77) (As := [.int (nI 112), .int a2]) (st := []) ok tbl_good dX1_frightOf_74 rfl (kX1_tellLetter _ _ _) cf_X1_49 ⟨rfl, rfl, Nat.le_of_ble_eq_true rfl, Nat.le_of_ble_eq_true rfl⟩ sX_48 rfl rfl rfl (fun _ => Nat.le_of_ble_eq_true rfl) (fun w8 => ?_)
      refine g_aload_n (q := 78) ok dX1_frightOf_77 rfl 1 rfl rfl ?_
      refine g_bipush (v := (nI 118)) (q := 80) ok dX1_frightOf_78 rfl (by decide) ?_
      refine g_aload_n (q := 81) ok dX1_frightOf_80 rfl 1 rfl rfl ?_
      refine g_getR (q := 84) ok dX1_frightOf_81 rfl fl_X1_17 sX_48 rfl ?_
      refine g_getR (q := 87) ok dX1_frightOf_84 rfl fl_X1_53 sX_1 rfl ?_
      refine g_iload_n (q := 88) ok dX1_frightOf_87 rfl 3 rfl rfl ?_
      refine g_iald (q := 89) ok dX1_frightOf_88 rfl sX_4 ?_
      refine g_callVv (q := 92) (As := [.int (nI 118), .int (w8.1 4 a2.toNatClampNeg)]) (st := []) ok tbl_good dX1_frightOf_89 rfl (kX1_tellLetter _ _ _) cf_X1_49 ⟨rfl, rfl, Nat.le_of_ble_eq_true rfl, Nat.le_of_ble_eq_true rfl⟩ sX_48 rfl rfl rfl (fun _ => Nat.le_of_ble_eq_true rfl) (fun w9 => ?_)
      refine g_aload_n (q := 93) ok dX1_frightOf_92 rfl 1 rfl rfl ?_
      refine g_bipush (v := (nI 111)) (q := 95) ok dX1_frightOf_93 rfl (by decide) ?_
      refine g_iload (q := 97) ok dX1_frightOf_95 rfl 0 rfl ?_
      refine g_callVv (q := 100) (As := [.int (nI 111), .int v3]) (st := []) ok tbl_good dX1_frightOf_97 rfl (kX1_tellLetter _ _ _) cf_X1_49 ⟨rfl, rfl, Nat.le_of_ble_eq_true rfl, Nat.le_of_ble_eq_true rfl⟩ sX_48 rfl rfl rfl (fun _ => Nat.le_of_ble_eq_true rfl) (fun w10 => ?_)
      refine g_aload_n (q := 101) ok dX1_frightOf_100 rfl 1 rfl rfl ?_
      refine g_getR (q := 104) ok dX1_frightOf_101 rfl fl_X1_21 sX_48 rfl ?_
      refine g_bipush (v := (nI 107)) (q := 106) ok dX1_frightOf_104 rfl (by decide) ?_
      refine g_aload_n (q := 107) ok dX1_frightOf_106 rfl 1 rfl rfl ?_
      refine g_getR (q := 110) ok dX1_frightOf_107 rfl fl_X1_11 sX_48 rfl ?_
      refine g_callVi (q := 113) (As := [.int (nI 107), .ref 49]) (st := []) ok tbl_good dX1_frightOf_110 rfl (kX3_holds N _ _) cf_X1_56 ⟨rfl, rfl, Nat.le_of_ble_eq_true rfl, Nat.le_of_ble_eq_true rfl⟩ sX_33 rfl rfl rfl (fun _ => Nat.le_of_ble_eq_true rfl) (fun v11 w12 => ?_)
      refine g_if_eq (q := 116) (g := 134) ok dX1_frightOf_113 rfl (by decide) ?_ ?_
      · refine g_bipush (v := (-2)) (q := 136) ok dX1_frightOf_134 rfl (by decide) ?_
        exact g_iret ok dX1_frightOf_136
      · refine g_aload_n (q := 117) ok dX1_frightOf_116 rfl 1 rfl rfl ?_
        refine g_getR (q := 120) ok dX1_frightOf_117 rfl fl_X1_21 sX_48 rfl ?_
        refine g_bipush (v := (nI 102)) (q := 122) ok dX1_frightOf_120 rfl (by decide) ?_
        refine g_bipush (v := (nI 99)) (q := 124) ok dX1_frightOf_122 rfl (by decide) ?_
        refine g_aload_n (q := 125) ok dX1_frightOf_124 rfl 1 rfl rfl ?_
        refine g_getR (q := 128) ok dX1_frightOf_125 rfl fl_X1_11 sX_48 rfl ?_
        refine g_callVi (q := 131) (As := [.int (nI 102), .int (nI 99), .ref 49]) (st := []) ok tbl_good dX1_frightOf_128 rfl (kX3_amountOf N _ _ _) cf_X1_60 ⟨rfl, rfl, Nat.le_of_ble_eq_true rfl, Nat.le_of_ble_eq_true rfl⟩ sX_33 rfl rfl rfl (fun _ => Nat.le_of_ble_eq_true rfl) (fun v13 w14 => ?_)
        refine g_goto (q := 136) ok dX1_frightOf_131 (by decide) ?_
        exact g_iret ok dX1_frightOf_136
    · refine g_bipush (v := (-2)) (q := 47) ok dX1_frightOf_45 rfl (by decide) ?_
      exact g_iret ok dX1_frightOf_47
  · refine g_bipush (v := (-2)) (q := 14) ok dX1_frightOf_12 rfl (by decide) ?_
    exact g_iret ok dX1_frightOf_14
set_option maxRecDepth 20000 in
theorem kX9_fright (N : Nat) (a1 : Int32) (a2 : Int32) (a3 : Int32) (a4 : Int32) (a5 : Int32) (w : gT) : gM S1 cl1 gTs yX9_fright cX9_fright 6 (some .int) rmX9_fright gi [.ref 0, .int a1, .int a2, .int a3, .int a4, .int a5] w (xX9_fright N a1 a2 a3 a4 a5 w) := by
  refine gM_of (own := RX9) [(0, .ref 0), (1, .int a1), (2, .int a2), (3, .int a3), (4, .int a4), (5, .int a5)] rfl (by decide) (fun _ => rfl) (fun _ => Nat.le_of_ble_eq_true rfl) (fun κ ok => ?_)
  unfold xX9_fright
  refine g_aload_n (q := 1) ok dX9_fright_0 rfl 0 rfl rfl ?_
  refine g_getR (q := 4) ok dX9_fright_1 rfl fl_X9_12 sX_0 rfl ?_
  refine g_iload_n (q := 5) ok dX9_fright_4 rfl 1 rfl rfl ?_
  refine g_callVi (q := 8) (As := [.int a1]) (st := []) ok tbl_good dX9_fright_5 rfl (kX2_hasGhost _ _) cf_X9_178 ⟨rfl, rfl, Nat.le_of_ble_eq_true rfl, Nat.le_of_ble_eq_true rfl⟩ sX_1 rfl rfl rfl (fun _ => Nat.le_of_ble_eq_true rfl) (fun v1 w2 => ?_)
  refine g_if_eq (q := 11) (g := 37) ok dX9_fright_8 rfl (by decide) ?_ ?_
  · refine g_iconst (v := (-1)) (q := 38) ok dX9_fright_37 rfl (by decide) ?_
    exact g_iret ok dX9_fright_38
  · refine g_aload_n (q := 12) ok dX9_fright_11 rfl 0 rfl rfl ?_
    refine g_getR (q := 15) ok dX9_fright_12 rfl fl_X9_12 sX_0 rfl ?_
    refine g_iload_n (q := 16) ok dX9_fright_15 rfl 2 rfl rfl ?_
    refine g_callVi (q := 19) (As := [.int a2]) (st := []) ok tbl_good dX9_fright_16 rfl (kX2_hasSleeper _ _) cf_X9_117 ⟨rfl, rfl, Nat.le_of_ble_eq_true rfl, Nat.le_of_ble_eq_true rfl⟩ sX_1 rfl rfl rfl (fun _ => Nat.le_of_ble_eq_true rfl) (fun v3 w4 => ?_)
    refine g_if_eq (q := 22) (g := 37) ok dX9_fright_19 rfl (by decide) ?_ ?_
    · refine g_iconst (v := (-1)) (q := 38) ok dX9_fright_37 rfl (by decide) ?_
      exact g_iret ok dX9_fright_38
    · refine g_iload_n (q := 23) ok dX9_fright_22 rfl 3 rfl rfl ?_
      refine g_callSi (q := 26) (As := [.int a3]) (st := []) ok tbl_good dX9_fright_23 rfl (kX9_isNight _ _) cf_X9_103 ⟨rfl, rfl, Nat.le_of_ble_eq_true rfl, Nat.le_of_ble_eq_true rfl⟩ rfl rfl (fun _ => Nat.le_of_ble_eq_true rfl) (fun v5 w6 => ?_)
      refine g_if_eq (q := 29) (g := 37) ok dX9_fright_26 rfl (by decide) ?_ ?_
      · refine g_iconst (v := (-1)) (q := 38) ok dX9_fright_37 rfl (by decide) ?_
        exact g_iret ok dX9_fright_38
      · refine g_iload (q := 31) ok dX9_fright_29 rfl 4 rfl ?_
        refine g_callSi (q := 34) (As := [.int a4]) (st := []) ok tbl_good dX9_fright_31 rfl (kX9_isRoom _ _) cf_X9_93 ⟨rfl, rfl, Nat.le_of_ble_eq_true rfl, Nat.le_of_ble_eq_true rfl⟩ rfl rfl (fun _ => Nat.le_of_ble_eq_true rfl) (fun v7 w8 => ?_)
        refine g_if_ne (q := 37) (g := 39) ok dX9_fright_34 rfl (by decide) ?_ ?_
        · refine g_join (P := fun k9 => ∀ (w10 : gT), gJ S1 cl1 rmX9_fright 6 gi κ 52 [(0, .ref 0), (1, .int a1), (2, .int a2), (3, .int a3), (4, .int a4), (5, .int a5)] [] w10 (k9 w10)) (fun w10 => ?_) (fun k9 hk9 => ?_)
          · refine g_aload_n (q := 53) ok dX9_fright_52 rfl 0 rfl rfl ?_
            refine g_getR (q := 56) ok dX9_fright_53 rfl fl_X9_60 sX_0 rfl ?_
            refine g_iload_n (q := 57) ok dX9_fright_56 rfl 1 rfl rfl ?_
            refine g_iload_n (q := 58) ok dX9_fright_57 rfl 2 rfl rfl ?_
            refine g_iload_n (q := 59) ok dX9_fright_58 rfl 3 rfl rfl ?_
            refine g_iload (q := 61) ok dX9_fright_59 rfl 4 rfl ?_
            refine g_iload (q := 63) ok dX9_fright_61 rfl 5 rfl ?_
            refine g_callVi (q := 66) (As := [.int a1, .int a2, .int a3, .int a4, .int a5]) (st := []) ok tbl_good dX9_fright_63 rfl (kX1_frightOf N _ _ _ _ _ _) cf_X9_181 ⟨rfl, rfl, Nat.le_of_ble_eq_true rfl, Nat.le_of_ble_eq_true rfl⟩ sX_48 rfl rfl rfl (fun _ => Nat.le_of_ble_eq_true rfl) (fun v11 w12 => ?_)
            exact g_iret ok dX9_fright_66
          · refine g_iload (q := 41) ok dX9_fright_39 rfl 5 rfl ?_
            refine g_if_eq (q := 44) (g := 52) ok dX9_fright_41 rfl (by decide) ?_ ?_
            · exact hk9 _
            · refine g_iload (q := 46) ok dX9_fright_44 rfl 5 rfl ?_
              refine g_iconst (v := (nI 1)) (q := 47) ok dX9_fright_46 rfl (by decide) ?_
              refine g_icmp_eq (q := 50) (g := 52) ok dX9_fright_47 rfl (by decide) ?_ ?_
              · exact hk9 _
              · refine g_iconst (v := (-1)) (q := 51) ok dX9_fright_50 rfl (by decide) ?_
                exact g_iret ok dX9_fright_51
        · refine g_iconst (v := (-1)) (q := 38) ok dX9_fright_37 rfl (by decide) ?_
          exact g_iret ok dX9_fright_38
set_option maxRecDepth 20000 in
theorem kX9_isSum (a2 : Int32) (w : gT) : gM S1 cl1 gTs yX9_isSum cX9_isSum 3 (some .boolean) rmX9_isSum gi [.ref 0, .ref 51, .int a2] w (xX9_isSum a2 w) := by
  refine gM_of (own := RX9) [(0, .ref 0), (1, .ref 51), (2, .int a2)] rfl (by decide) (fun _ => rfl) (fun _ => Nat.le_of_ble_eq_true rfl) (fun κ ok => ?_)
  unfold xX9_isSum
  refine g_iload_n (q := 1) ok dX9_isSum_0 rfl 2 rfl rfl ?_
  refine g_if_lt (q := 4) (g := 10) ok dX9_isSum_1 rfl (by decide) ?_ ?_
  · refine g_iconst (v := (nI 0)) (q := 11) ok dX9_isSum_10 rfl (by decide) ?_
    exact g_zret ok dX9_isSum_11 rfl
  · refine g_iload_n (q := 5) ok dX9_isSum_4 rfl 2 rfl rfl ?_
    refine g_aload_n (q := 6) ok dX9_isSum_5 rfl 1 rfl rfl ?_
    refine g_alen (v := (nI 47)) (q := 7) ok dX9_isSum_6 rfl sX_51 rfl ?_
    refine g_icmp_lt (q := 10) (g := 12) ok dX9_isSum_7 rfl (by decide) ?_ ?_
    · refine g_iload_n (q := 13) ok dX9_isSum_12 rfl 2 rfl rfl ?_
      refine g_bipush (v := (nI 10)) (q := 15) ok dX9_isSum_13 rfl (by decide) ?_
      refine g_icmp_ge (q := 18) (g := 29) ok dX9_isSum_15 rfl (by decide) ?_ ?_
      · refine g_iload_n (q := 30) ok dX9_isSum_29 rfl 2 rfl rfl ?_
        refine g_bipush (v := (nI 20)) (q := 32) ok dX9_isSum_30 rfl (by decide) ?_
        refine g_icmp_ge (q := 35) (g := 47) ok dX9_isSum_32 rfl (by decide) ?_ ?_
        · refine g_iload_n (q := 48) ok dX9_isSum_47 rfl 2 rfl rfl ?_
          refine g_bipush (v := (nI 40)) (q := 50) ok dX9_isSum_48 rfl (by decide) ?_
          refine g_icmp_ge (q := 53) (g := 67) ok dX9_isSum_50 rfl (by decide) ?_ ?_
          · refine g_iconst (v := (nI 1)) (q := 68) ok dX9_isSum_67 rfl (by decide) ?_
            refine g_goto (q := 72) ok dX9_isSum_68 (by decide) ?_
            exact g_zret ok dX9_isSum_72 rfl
          · refine g_aload_n (q := 54) ok dX9_isSum_53 rfl 0 rfl rfl ?_
            refine g_getR (q := 57) ok dX9_isSum_54 rfl fl_X9_12 sX_0 rfl ?_
            refine g_iload_n (q := 58) ok dX9_isSum_57 rfl 2 rfl rfl ?_
            refine g_bipush (v := (nI 10)) (q := 60) ok dX9_isSum_58 rfl (by decide) ?_
            refine g_iremC (q := 61) ok dX9_isSum_60 rfl (by decide) ?_
            refine g_callVi (q := 64) (As := [.int (gRem a2 (nI 10))]) (st := []) ok tbl_good dX9_isSum_61 rfl (kX2_hasGhost _ _) cf_X9_178 ⟨rfl, rfl, Nat.le_of_ble_eq_true rfl, Nat.le_of_ble_eq_true rfl⟩ sX_1 rfl rfl rfl (fun _ => Nat.le_of_ble_eq_true rfl) (fun v1 w2 => ?_)
            refine g_if_eq (q := 67) (g := 71) ok dX9_isSum_64 rfl (by decide) ?_ ?_
            · refine g_iconst (v := (nI 0)) (q := 72) ok dX9_isSum_71 rfl (by decide) ?_
              exact g_zret ok dX9_isSum_72 rfl
            · refine g_iconst (v := (nI 1)) (q := 68) ok dX9_isSum_67 rfl (by decide) ?_
              refine g_goto (q := 72) ok dX9_isSum_68 (by decide) ?_
              exact g_zret ok dX9_isSum_72 rfl
        · refine g_aload_n (q := 36) ok dX9_isSum_35 rfl 0 rfl rfl ?_
          refine g_getR (q := 39) ok dX9_isSum_36 rfl fl_X9_12 sX_0 rfl ?_
          refine g_iload_n (q := 40) ok dX9_isSum_39 rfl 2 rfl rfl ?_
          refine g_bipush (v := (nI 10)) (q := 42) ok dX9_isSum_40 rfl (by decide) ?_
          refine g_isub (q := 43) ok dX9_isSum_42 rfl ?_
          refine g_callVi (q := 46) (As := [.int (a2 - (nI 10))]) (st := []) ok tbl_good dX9_isSum_43 rfl (kX2_hasSleeper _ _) cf_X9_117 ⟨rfl, rfl, Nat.le_of_ble_eq_true rfl, Nat.le_of_ble_eq_true rfl⟩ sX_1 rfl rfl rfl (fun _ => Nat.le_of_ble_eq_true rfl) (fun v3 w4 => ?_)
          exact g_zretv ok dX9_isSum_46
      · refine g_iload_n (q := 19) ok dX9_isSum_18 rfl 2 rfl rfl ?_
        refine g_iconst (v := (nI 4)) (q := 20) ok dX9_isSum_19 rfl (by decide) ?_
        refine g_icmp_gt (q := 23) (g := 27) ok dX9_isSum_20 rfl (by decide) ?_ ?_
        · refine g_iconst (v := (nI 0)) (q := 28) ok dX9_isSum_27 rfl (by decide) ?_
          exact g_zret ok dX9_isSum_28 rfl
        · refine g_iconst (v := (nI 1)) (q := 24) ok dX9_isSum_23 rfl (by decide) ?_
          refine g_goto (q := 28) ok dX9_isSum_24 (by decide) ?_
          exact g_zret ok dX9_isSum_28 rfl
    · refine g_iconst (v := (nI 0)) (q := 11) ok dX9_isSum_10 rfl (by decide) ?_
      exact g_zret ok dX9_isSum_11 rfl
set_option maxRecDepth 20000 in
theorem kJ7_fill_53178_51 (N : Nat) (a1 : Int32) (w : gT) : gM S1 cl1 gTs yJ7_fill_53178 cJ7_fill_53178 4 none rmJ7_fill_53178_51 gv [.ref 51, .int a1] w (xJ7_fill_53178_51 N a1 w) := by
  refine gM_of (own := RJ7) [(0, .ref 51), (1, .int a1)] rfl (by decide) (fun _ => rfl) (fun _ => Nat.le_of_ble_eq_true rfl) (fun κ ok => ?_)
  unfold xJ7_fill_53178_51
  refine g_iconst (v := (nI 0)) (q := 1) ok dJ7_fill_53178_0 rfl (by decide) ?_
  refine g_istore_n (q := 2) (L' := [(2, .int (nI 0)), (0, .ref 51), (1, .int a1)]) ok dJ7_fill_53178_1 rfl rfl (by decide) rfl rfl ?_
  refine g_aload_n (q := 3) ok dJ7_fill_53178_2 rfl 1 rfl rfl ?_
  refine g_alen (v := (nI 47)) (q := 4) ok dJ7_fill_53178_3 rfl sX_51 rfl ?_
  refine g_istore_n (q := 5) (L' := [(3, .int (nI 47)), (2, .int (nI 0)), (0, .ref 51), (1, .int a1)]) ok dJ7_fill_53178_4 rfl rfl (by decide) rfl rfl ?_
  refine g_to (L' := [(0, .ref 51), (1, .int a1), (3, .int (nI 47)), (2, .int (nI 0))]) ?_ [2, 3, 0, 1] rfl
  refine g_loop1 (Lf := fun v2 => [(0, .ref 51), (1, .int a1), (3, .int (nI 47)), (2, .int v2)]) (fun go1 hgo1 v2 w3 => ?_) N _ _
  unfold xJ7_fill_53178_51_b5
  refine g_iload_n (q := 6) ok dJ7_fill_53178_5 rfl 3 rfl rfl ?_
  refine g_iload_n (q := 7) ok dJ7_fill_53178_6 rfl 2 rfl rfl ?_
  refine g_icmp_ge (q := 10) (g := 20) ok dJ7_fill_53178_7 rfl (by decide) ?_ ?_
  · exact g_vret ok dJ7_fill_53178_20
  · refine g_aload_n (q := 11) ok dJ7_fill_53178_10 rfl 0 rfl rfl ?_
    refine g_iload_n (q := 12) ok dJ7_fill_53178_11 rfl 3 rfl rfl ?_
    refine g_iload_n (q := 13) ok dJ7_fill_53178_12 rfl 1 rfl rfl ?_
    refine g_iast (q := 14) ok dJ7_fill_53178_13 rfl sX_51 ?_
    refine g_letw (fun w4 => ?_)
    refine g_iinc (v := v2 + (nI 1)) (q := 17) (L' := [(2, .int (v2 + (nI 1))), (0, .ref 51), (1, .int a1), (3, .int (nI 47))]) ok dJ7_fill_53178_14 rfl 3 rfl rfl (by decide) rfl rfl ?_
    refine g_goto (q := 5) ok dJ7_fill_53178_17 (by decide) ?_
    refine g_to (L' := [(0, .ref 51), (1, .int a1), (3, .int (nI 47)), (2, .int (v2 + (nI 1)))]) ?_ [1, 2, 3, 0] rfl
    exact hgo1 _ _
set_option maxRecDepth 20000 in
theorem kX8_chainFor (a1 : Int32) (w : gT) : gM S1 cl1 gTs yX8_chainFor cX8_chainFor 2 (some .int) rmX8_chainFor gi [.ref 50, .int a1] w (xX8_chainFor a1 w) := by
  refine gM_of (own := RX8) [(0, .ref 50), (1, .int a1)] rfl (by decide) (fun _ => rfl) (fun _ => Nat.le_of_ble_eq_true rfl) (fun κ ok => ?_)
  unfold xX8_chainFor
  refine g_aload_n (q := 1) ok dX8_chainFor_0 rfl 0 rfl rfl ?_
  refine g_getR (q := 4) ok dX8_chainFor_1 rfl fl_X8_19 sX_50 rfl ?_
  refine g_getR (q := 7) ok dX8_chainFor_4 rfl fl_X8_96 sX_21 rfl ?_
  refine g_iload_n (q := 8) ok dX8_chainFor_7 rfl 1 rfl rfl ?_
  refine g_iald (q := 9) ok dX8_chainFor_8 rfl sX_25 ?_
  refine g_if_eq (q := 12) (g := 19) ok dX8_chainFor_9 rfl (by decide) ?_ ?_
  · refine g_iconst (v := (nI 0)) (q := 20) ok dX8_chainFor_19 rfl (by decide) ?_
    exact g_iret ok dX8_chainFor_20
  · refine g_aload_n (q := 13) ok dX8_chainFor_12 rfl 0 rfl rfl ?_
    refine g_getI (q := 16) (N := 0) ok dX8_chainFor_13 rfl fl_X8_43 sX_50 rfl ?_
    refine g_if_ne (q := 19) (g := 21) ok dX8_chainFor_16 rfl (by decide) ?_ ?_
    · refine g_aload_n (q := 22) ok dX8_chainFor_21 rfl 0 rfl rfl ?_
      refine g_dup (q := 23) ok dX8_chainFor_22 rfl (fun _ => rfl) ?_
      refine g_getI (q := 26) (N := 0) ok dX8_chainFor_23 rfl fl_X8_43 sX_50 rfl ?_
      refine g_iconst (v := (nI 1)) (q := 27) ok dX8_chainFor_26 rfl (by decide) ?_
      refine g_isub (q := 28) ok dX8_chainFor_27 rfl ?_
      refine g_put (q := 31) ok dX8_chainFor_28 rfl fp_X8_43 sX_50 rfl rfl rfl ?_
      refine g_letw (fun w1 => ?_)
      refine g_iconst (v := (nI 1)) (q := 32) ok dX8_chainFor_31 rfl (by decide) ?_
      exact g_iret ok dX8_chainFor_32
    · refine g_iconst (v := (nI 0)) (q := 20) ok dX8_chainFor_19 rfl (by decide) ?_
      exact g_iret ok dX8_chainFor_20
set_option maxRecDepth 20000 in
theorem kX7_isElder (a0 : Int32) (a1 : Int32) (w : gT) : gM S1 cl1 gTs yX7_isElder cX7_isElder 3 (some .boolean) rmX7_isElder gi [.int a0, .int a1, .ref 1] w (xX7_isElder a0 a1 w) := by
  refine gM_of (own := RX7) [(0, .int a0), (1, .int a1), (2, .ref 1)] rfl (by decide) (fun _ => rfl) (fun _ => Nat.le_of_ble_eq_true rfl) (fun κ ok => ?_)
  unfold xX7_isElder
  refine g_aload_n (q := 1) ok dX7_isElder_0 rfl 2 rfl rfl ?_
  refine g_getR (q := 4) ok dX7_isElder_1 rfl fl_X7_91 sX_1 rfl ?_
  refine g_iload_n (q := 5) ok dX7_isElder_4 rfl 0 rfl rfl ?_
  refine g_iald (q := 6) ok dX7_isElder_5 rfl sX_8 ?_
  refine g_aload_n (q := 7) ok dX7_isElder_6 rfl 2 rfl rfl ?_
  refine g_getR (q := 10) ok dX7_isElder_7 rfl fl_X7_91 sX_1 rfl ?_
  refine g_iload_n (q := 11) ok dX7_isElder_10 rfl 1 rfl rfl ?_
  refine g_iald (q := 12) ok dX7_isElder_11 rfl sX_8 ?_
  refine g_icmp_gt (q := 15) (g := 35) ok dX7_isElder_12 rfl (by decide) ?_ ?_
  · refine g_iconst (v := (nI 1)) (q := 36) ok dX7_isElder_35 rfl (by decide) ?_
    refine g_goto (q := 40) ok dX7_isElder_36 (by decide) ?_
    exact g_zret ok dX7_isElder_40 rfl
  · refine g_aload_n (q := 16) ok dX7_isElder_15 rfl 2 rfl rfl ?_
    refine g_getR (q := 19) ok dX7_isElder_16 rfl fl_X7_91 sX_1 rfl ?_
    refine g_iload_n (q := 20) ok dX7_isElder_19 rfl 0 rfl rfl ?_
    refine g_iald (q := 21) ok dX7_isElder_20 rfl sX_8 ?_
    refine g_aload_n (q := 22) ok dX7_isElder_21 rfl 2 rfl rfl ?_
    refine g_getR (q := 25) ok dX7_isElder_22 rfl fl_X7_91 sX_1 rfl ?_
    refine g_iload_n (q := 26) ok dX7_isElder_25 rfl 1 rfl rfl ?_
    refine g_iald (q := 27) ok dX7_isElder_26 rfl sX_8 ?_
    refine g_icmp_ne (q := 30) (g := 39) ok dX7_isElder_27 rfl (by decide) ?_ ?_
    · refine g_iconst (v := (nI 0)) (q := 40) ok dX7_isElder_39 rfl (by decide) ?_
      exact g_zret ok dX7_isElder_40 rfl
    · refine g_iload_n (q := 31) ok dX7_isElder_30 rfl 0 rfl rfl ?_
      refine g_iload_n (q := 32) ok dX7_isElder_31 rfl 1 rfl rfl ?_
      refine g_icmp_ge (q := 35) (g := 39) ok dX7_isElder_32 rfl (by decide) ?_ ?_
      · refine g_iconst (v := (nI 0)) (q := 40) ok dX7_isElder_39 rfl (by decide) ?_
        exact g_zret ok dX7_isElder_40 rfl
      · refine g_iconst (v := (nI 1)) (q := 36) ok dX7_isElder_35 rfl (by decide) ?_
        refine g_goto (q := 40) ok dX7_isElder_36 (by decide) ?_
        exact g_zret ok dX7_isElder_40 rfl
set_option maxRecDepth 20000 in
theorem kX7_isClaimed (N : Nat) (a1 : Int32) (w : gT) : gM S1 cl1 gTs yX7_isClaimed cX7_isClaimed 6 (some .boolean) rmX7_isClaimed gi [.ref 21, .int a1, .ref 1] w (xX7_isClaimed N a1 w) := by
  refine gM_of (own := RX7) [(0, .ref 21), (1, .int a1), (2, .ref 1)] rfl (by decide) (fun _ => rfl) (fun _ => Nat.le_of_ble_eq_true rfl) (fun κ ok => ?_)
  unfold xX7_isClaimed
  refine g_aload_n (q := 1) ok dX7_isClaimed_0 rfl 0 rfl rfl ?_
  refine g_getR (q := 4) ok dX7_isClaimed_1 rfl fl_X7_11 sX_21 rfl ?_
  refine g_iload_n (q := 5) ok dX7_isClaimed_4 rfl 1 rfl rfl ?_
  refine g_iald (q := 6) ok dX7_isClaimed_5 rfl sX_22 ?_
  refine g_leti (fun v1 => ?_)
  refine g_istore_n (q := 7) (L' := [(3, .int v1), (0, .ref 21), (1, .int a1), (2, .ref 1)]) ok dX7_isClaimed_6 rfl rfl (by decide) rfl rfl ?_
  refine g_iconst (v := (nI 0)) (q := 8) ok dX7_isClaimed_7 rfl (by decide) ?_
  refine g_istore (q := 10) (L' := [(4, .int (nI 0)), (3, .int v1), (0, .ref 21), (1, .int a1), (2, .ref 1)]) ok dX7_isClaimed_8 rfl (by decide) rfl rfl ?_
  refine g_to (L' := [(0, .ref 21), (2, .ref 1), (1, .int a1), (3, .int v1), (4, .int (nI 0))]) ?_ [2, 4, 3, 1, 0] rfl
  refine g_loop1 (Lf := fun v3 => [(0, .ref 21), (2, .ref 1), (1, .int a1), (3, .int v1), (4, .int v3)]) (fun go2 hgo2 v3 w4 => ?_) N _ _
  unfold xX7_isClaimed_b10
  refine g_iload (q := 12) ok dX7_isClaimed_10 rfl 4 rfl ?_
  refine g_aload_n (q := 13) ok dX7_isClaimed_12 rfl 0 rfl rfl ?_
  refine g_getI (q := 16) (N := 0) ok dX7_isClaimed_13 rfl fl_X7_27 sX_21 rfl ?_
  refine g_icmp_ge (q := 19) (g := 107) ok dX7_isClaimed_16 rfl (by decide) ?_ ?_
  · refine g_iconst (v := (nI 0)) (q := 108) ok dX7_isClaimed_107 rfl (by decide) ?_
    exact g_zret ok dX7_isClaimed_108 rfl
  · refine g_join (P := fun k5 => ∀ (v6 : Int32) (w7 : gT), gJ S1 cl1 rmX7_isClaimed 6 gi κ 77 [(0, .ref 21), (2, .ref 1), (1, .int a1), (3, .int v1), (4, .int v3)] [.int v6] w7 (k5 v6 w7)) (fun v6 w7 => ?_) (fun k5 hk5 => ?_)
    · refine g_join (P := fun k8 => ∀ (w9 : gT), gJ S1 cl1 rmX7_isClaimed 6 gi κ 101 [(0, .ref 21), (2, .ref 1), (1, .int a1), (3, .int v1), (4, .int v3)] [] w9 (k8 w9)) (fun w9 => ?_) (fun k8 hk8 => ?_)
      · refine g_iinc (v := v3 + (nI 1)) (q := 104) (L' := [(4, .int (v3 + (nI 1))), (0, .ref 21), (2, .ref 1), (1, .int a1), (3, .int v1)]) ok dX7_isClaimed_101 rfl 4 rfl rfl (by decide) rfl rfl ?_
        refine g_goto (q := 10) ok dX7_isClaimed_104 (by decide) ?_
        refine g_to (L' := [(0, .ref 21), (2, .ref 1), (1, .int a1), (3, .int v1), (4, .int (v3 + (nI 1)))]) ?_ [1, 2, 3, 4, 0] rfl
        exact hgo2 _ _
      · refine g_istore (q := 79) (L' := [(5, .int v6), (0, .ref 21), (2, .ref 1), (1, .int a1), (3, .int v1), (4, .int v3)]) ok dX7_isClaimed_77 rfl (by decide) rfl rfl ?_
        refine g_iload (q := 81) ok dX7_isClaimed_79 rfl 0 rfl ?_
        refine g_if_eq (q := 84) (g := 101) ok dX7_isClaimed_81 rfl (by decide) ?_ ?_
        · refine g_to (L' := [(0, .ref 21), (2, .ref 1), (1, .int a1), (3, .int v1), (4, .int v3)]) ?_ [1, 2, 3, 4, 5] rfl
          exact hk8 _
        · refine g_aload_n (q := 85) ok dX7_isClaimed_84 rfl 1 rfl rfl ?_
          refine g_getR (q := 88) ok dX7_isClaimed_85 rfl fl_X7_11 sX_21 rfl ?_
          refine g_iload (q := 90) ok dX7_isClaimed_88 rfl 5 rfl ?_
          refine g_iald (q := 91) ok dX7_isClaimed_90 rfl sX_22 ?_
          refine g_iload_n (q := 92) ok dX7_isClaimed_91 rfl 4 rfl rfl ?_
          refine g_aload_n (q := 93) ok dX7_isClaimed_92 rfl 2 rfl rfl ?_
          refine g_callSi (q := 96) (As := [.int (w7.1 22 v3.toNatClampNeg), .int v1, .ref 1]) (st := []) ok tbl_good dX7_isClaimed_93 rfl (kX7_isElder _ _ _) cf_X7_87 ⟨rfl, rfl, Nat.le_of_ble_eq_true rfl, Nat.le_of_ble_eq_true rfl⟩ rfl rfl (fun _ => Nat.le_of_ble_eq_true rfl) (fun v10 w11 => ?_)
          refine g_if_eq (q := 99) (g := 101) ok dX7_isClaimed_96 rfl (by decide) ?_ ?_
          · refine g_to (L' := [(0, .ref 21), (2, .ref 1), (1, .int a1), (3, .int v1), (4, .int v3)]) ?_ [1, 2, 3, 4, 5] rfl
            exact hk8 _
          · refine g_iconst (v := (nI 1)) (q := 100) ok dX7_isClaimed_99 rfl (by decide) ?_
            exact g_zret ok dX7_isClaimed_100 rfl
    · refine g_join (P := fun k12 => ∀ (w13 : gT), gJ S1 cl1 rmX7_isClaimed 6 gi κ 76 [(0, .ref 21), (2, .ref 1), (1, .int a1), (3, .int v1), (4, .int v3)] [] w13 (k12 w13)) (fun w13 => ?_) (fun k12 hk12 => ?_)
      · refine g_iconst (v := (nI 0)) (q := 77) ok dX7_isClaimed_76 rfl (by decide) ?_
        exact hk5 _ _
      · refine g_aload_n (q := 20) ok dX7_isClaimed_19 rfl 0 rfl rfl ?_
        refine g_getR (q := 23) ok dX7_isClaimed_20 rfl fl_X7_15 sX_21 rfl ?_
        refine g_iload (q := 25) ok dX7_isClaimed_23 rfl 4 rfl ?_
        refine g_iald (q := 26) ok dX7_isClaimed_25 rfl sX_23 ?_
        refine g_aload_n (q := 27) ok dX7_isClaimed_26 rfl 0 rfl rfl ?_
        refine g_getR (q := 30) ok dX7_isClaimed_27 rfl fl_X7_15 sX_21 rfl ?_
        refine g_iload_n (q := 31) ok dX7_isClaimed_30 rfl 2 rfl rfl ?_
        refine g_iald (q := 32) ok dX7_isClaimed_31 rfl sX_23 ?_
        refine g_icmp_ne (q := 35) (g := 76) ok dX7_isClaimed_32 rfl (by decide) ?_ ?_
        · exact hk12 _
        · refine g_aload_n (q := 36) ok dX7_isClaimed_35 rfl 0 rfl rfl ?_
          refine g_getR (q := 39) ok dX7_isClaimed_36 rfl fl_X7_18 sX_21 rfl ?_
          refine g_iload (q := 41) ok dX7_isClaimed_39 rfl 4 rfl ?_
          refine g_iald (q := 42) ok dX7_isClaimed_41 rfl sX_24 ?_
          refine g_aload_n (q := 43) ok dX7_isClaimed_42 rfl 0 rfl rfl ?_
          refine g_getR (q := 46) ok dX7_isClaimed_43 rfl fl_X7_18 sX_21 rfl ?_
          refine g_iload_n (q := 47) ok dX7_isClaimed_46 rfl 2 rfl rfl ?_
          refine g_iald (q := 48) ok dX7_isClaimed_47 rfl sX_24 ?_
          refine g_icmp_ne (q := 51) (g := 76) ok dX7_isClaimed_48 rfl (by decide) ?_ ?_
          · exact hk12 _
          · refine g_aload_n (q := 52) ok dX7_isClaimed_51 rfl 0 rfl rfl ?_
            refine g_getR (q := 55) ok dX7_isClaimed_52 rfl fl_X7_11 sX_21 rfl ?_
            refine g_iload (q := 57) ok dX7_isClaimed_55 rfl 4 rfl ?_
            refine g_iald (q := 58) ok dX7_isClaimed_57 rfl sX_22 ?_
            refine g_iload_n (q := 59) ok dX7_isClaimed_58 rfl 3 rfl rfl ?_
            refine g_icmp_eq (q := 62) (g := 76) ok dX7_isClaimed_59 rfl (by decide) ?_ ?_
            · exact hk12 _
            · refine g_aload_n (q := 63) ok dX7_isClaimed_62 rfl 0 rfl rfl ?_
              refine g_iload (q := 65) ok dX7_isClaimed_63 rfl 4 rfl ?_
              refine g_aload_n (q := 66) ok dX7_isClaimed_65 rfl 1 rfl rfl ?_
              refine g_callVi (q := 69) (As := [.int v3, .ref 1]) (st := []) ok tbl_good dX7_isClaimed_66 rfl (kX7_isGone _ _) cf_X7_83 ⟨rfl, rfl, Nat.le_of_ble_eq_true rfl, Nat.le_of_ble_eq_true rfl⟩ sX_21 rfl rfl rfl (fun _ => Nat.le_of_ble_eq_true rfl) (fun v14 w15 => ?_)
              refine g_if_eq (q := 72) (g := 76) ok dX7_isClaimed_69 rfl (by decide) ?_ ?_
              · exact hk12 _
              · refine g_iconst (v := (nI 1)) (q := 73) ok dX7_isClaimed_72 rfl (by decide) ?_
                refine g_goto (q := 77) ok dX7_isClaimed_73 (by decide) ?_
                exact hk5 _ _
set_option maxRecDepth 20000 in
theorem kX1_tenthsOf (N : Nat) (a1 : Int32) (a2 : Int32) (a3 : Int32) (a4 : Int32) (w : gT) : gM S1 cl1 gTs yX1_tenthsOf cX1_tenthsOf 5 (some .int) rmX1_tenthsOf gi [.ref 48, .int a1, .int a2, .int a3, .int a4] w (xX1_tenthsOf N a1 a2 a3 a4 w) := by
  refine gM_of (own := RX1) [(0, .ref 48), (1, .int a1), (2, .int a2), (3, .int a3), (4, .int a4)] rfl (by decide) (fun _ => rfl) (fun _ => Nat.le_of_ble_eq_true rfl) (fun κ ok => ?_)
  unfold xX1_tenthsOf
  refine g_aload_n (q := 1) ok dX1_tenthsOf_0 rfl 0 rfl rfl ?_
  refine g_iload_n (q := 2) ok dX1_tenthsOf_1 rfl 1 rfl rfl ?_
  refine g_iload_n (q := 3) ok dX1_tenthsOf_2 rfl 2 rfl rfl ?_
  refine g_iload_n (q := 4) ok dX1_tenthsOf_3 rfl 3 rfl rfl ?_
  refine g_iload (q := 6) ok dX1_tenthsOf_4 rfl 4 rfl ?_
  refine g_callVv (q := 9) (As := [.int a1, .int a2, .int a3, .int a4]) (st := []) ok tbl_good dX1_tenthsOf_6 rfl (kX1_tellWalk N _ _ _ _ _) cf_X1_45 ⟨rfl, rfl, Nat.le_of_ble_eq_true rfl, Nat.le_of_ble_eq_true rfl⟩ sX_48 rfl rfl rfl (fun _ => Nat.le_of_ble_eq_true rfl) (fun w1 => ?_)
  refine g_aload_n (q := 10) ok dX1_tenthsOf_9 rfl 0 rfl rfl ?_
  refine g_getR (q := 13) ok dX1_tenthsOf_10 rfl fl_X1_21 sX_48 rfl ?_
  refine g_bipush (v := (nI 122)) (q := 15) ok dX1_tenthsOf_13 rfl (by decide) ?_
  refine g_bipush (v := (nI 10)) (q := 17) ok dX1_tenthsOf_15 rfl (by decide) ?_
  refine g_aload_n (q := 18) ok dX1_tenthsOf_17 rfl 0 rfl rfl ?_
  refine g_getR (q := 21) ok dX1_tenthsOf_18 rfl fl_X1_11 sX_48 rfl ?_
  refine g_callVi (q := 24) (As := [.int (nI 122), .int (nI 10), .ref 49]) (st := []) ok tbl_good dX1_tenthsOf_21 rfl (kX3_amountOf N _ _ _) cf_X1_60 ⟨rfl, rfl, Nat.le_of_ble_eq_true rfl, Nat.le_of_ble_eq_true rfl⟩ sX_33 rfl rfl rfl (fun _ => Nat.le_of_ble_eq_true rfl) (fun v2 w3 => ?_)
  exact g_iret ok dX1_tenthsOf_24
set_option maxRecDepth 20000 in
theorem kX1_wageOf (N : Nat) (a1 : Int32) (a2 : Int32) (a3 : Int32) (a4 : Int32) (w : gT) : gM S1 cl1 gTs yX1_wageOf cX1_wageOf 5 (some .int) rmX1_wageOf gi [.ref 48, .int a1, .int a2, .int a3, .int a4] w (xX1_wageOf N a1 a2 a3 a4 w) := by
  refine gM_of (own := RX1) [(0, .ref 48), (1, .int a1), (2, .int a2), (3, .int a3), (4, .int a4)] rfl (by decide) (fun _ => rfl) (fun _ => Nat.le_of_ble_eq_true rfl) (fun κ ok => ?_)
  unfold xX1_wageOf
  refine g_aload_n (q := 1) ok dX1_wageOf_0 rfl 0 rfl rfl ?_
  refine g_iload_n (q := 2) ok dX1_wageOf_1 rfl 1 rfl rfl ?_
  refine g_iload_n (q := 3) ok dX1_wageOf_2 rfl 2 rfl rfl ?_
  refine g_iload_n (q := 4) ok dX1_wageOf_3 rfl 3 rfl rfl ?_
  refine g_iload (q := 6) ok dX1_wageOf_4 rfl 4 rfl ?_
  refine g_callVv (q := 9) (As := [.int a1, .int a2, .int a3, .int a4]) (st := []) ok tbl_good dX1_wageOf_6 rfl (kX1_tellWalk N _ _ _ _ _) cf_X1_45 ⟨rfl, rfl, Nat.le_of_ble_eq_true rfl, Nat.le_of_ble_eq_true rfl⟩ sX_48 rfl rfl rfl (fun _ => Nat.le_of_ble_eq_true rfl) (fun w1 => ?_)
  refine g_aload_n (q := 10) ok dX1_wageOf_9 rfl 0 rfl rfl ?_
  refine g_getR (q := 13) ok dX1_wageOf_10 rfl fl_X1_21 sX_48 rfl ?_
  refine g_bipush (v := (nI 119)) (q := 15) ok dX1_wageOf_13 rfl (by decide) ?_
  refine g_sipush (v := (nI 999)) (q := 18) ok dX1_wageOf_15 rfl (by decide) ?_
  refine g_aload_n (q := 19) ok dX1_wageOf_18 rfl 0 rfl rfl ?_
  refine g_getR (q := 22) ok dX1_wageOf_19 rfl fl_X1_11 sX_48 rfl ?_
  refine g_callVi (q := 25) (As := [.int (nI 119), .int (nI 999), .ref 49]) (st := []) ok tbl_good dX1_wageOf_22 rfl (kX3_amountOf N _ _ _) cf_X1_60 ⟨rfl, rfl, Nat.le_of_ble_eq_true rfl, Nat.le_of_ble_eq_true rfl⟩ sX_33 rfl rfl rfl (fun _ => Nat.le_of_ble_eq_true rfl) (fun v2 w3 => ?_)
  exact g_iret ok dX1_wageOf_25
set_option maxRecDepth 20000 in
theorem kX8_goOut (N : Nat) (a1 : Int32) (w : gT) : gM S1 cl1 gTs yX8_goOut cX8_goOut 8 none rmX8_goOut gv [.ref 50, .int a1] w (xX8_goOut N a1 w) := by
  refine gM_of (own := RX8) [(0, .ref 50), (1, .int a1)] rfl (by decide) (fun _ => rfl) (fun _ => Nat.le_of_ble_eq_true rfl) (fun κ ok => ?_)
  unfold xX8_goOut
  refine g_aload_n (q := 1) ok dX8_goOut_0 rfl 0 rfl rfl ?_
  refine g_iload_n (q := 2) ok dX8_goOut_1 rfl 1 rfl rfl ?_
  refine g_callVi (q := 5) (As := [.int a1]) (st := []) ok tbl_good dX8_goOut_2 rfl (kX8_chainFor _ _) cf_X8_62 ⟨rfl, rfl, Nat.le_of_ble_eq_true rfl, Nat.le_of_ble_eq_true rfl⟩ sX_50 rfl rfl rfl (fun _ => Nat.le_of_ble_eq_true rfl) (fun v1 w2 => ?_)
  refine g_istore_n (q := 6) (L' := [(2, .int v1), (0, .ref 50), (1, .int a1)]) ok dX8_goOut_5 rfl rfl (by decide) rfl rfl ?_
  refine g_aload_n (q := 7) ok dX8_goOut_6 rfl 1 rfl rfl ?_
  refine g_getR (q := 10) ok dX8_goOut_7 rfl fl_X8_19 sX_50 rfl ?_
  refine g_iload_n (q := 11) ok dX8_goOut_10 rfl 2 rfl rfl ?_
  refine g_aload_n (q := 12) ok dX8_goOut_11 rfl 1 rfl rfl ?_
  refine g_getR (q := 15) ok dX8_goOut_12 rfl fl_X8_15 sX_50 rfl ?_
  refine g_callVi (q := 18) (As := [.int a1, .ref 1]) (st := []) ok tbl_good dX8_goOut_15 rfl (kX7_isClaimed N _ _) cf_X8_66 ⟨rfl, rfl, Nat.le_of_ble_eq_true rfl, Nat.le_of_ble_eq_true rfl⟩ sX_21 rfl rfl rfl (fun _ => Nat.le_of_ble_eq_true rfl) (fun v3 w4 => ?_)
  refine g_if_eq (q := 21) (g := 32) ok dX8_goOut_18 rfl (by decide) ?_ ?_
  · refine g_aload_n (q := 33) ok dX8_goOut_32 rfl 1 rfl rfl ?_
    refine g_getR (q := 36) ok dX8_goOut_33 rfl fl_X8_19 sX_50 rfl ?_
    refine g_getR (q := 39) ok dX8_goOut_36 rfl fl_X8_69 sX_21 rfl ?_
    refine g_iload_n (q := 40) ok dX8_goOut_39 rfl 2 rfl rfl ?_
    refine g_iald (q := 41) ok dX8_goOut_40 rfl sX_22 ?_
    refine g_leti (fun v5 => ?_)
    refine g_istore_n (q := 42) (L' := [(3, .int v5), (2, .int v1), (0, .ref 50), (1, .int a1)]) ok dX8_goOut_41 rfl rfl (by decide) rfl rfl ?_
    refine g_aload_n (q := 43) ok dX8_goOut_42 rfl 2 rfl rfl ?_
    refine g_getR (q := 46) ok dX8_goOut_43 rfl fl_X8_19 sX_50 rfl ?_
    refine g_getR (q := 49) ok dX8_goOut_46 rfl fl_X8_51 sX_21 rfl ?_
    refine g_iload_n (q := 50) ok dX8_goOut_49 rfl 3 rfl rfl ?_
    refine g_iald (q := 51) ok dX8_goOut_50 rfl sX_23 ?_
    refine g_leti (fun v6 => ?_)
    refine g_istore (q := 53) (L' := [(4, .int v6), (3, .int v5), (2, .int v1), (0, .ref 50), (1, .int a1)]) ok dX8_goOut_51 rfl (by decide) rfl rfl ?_
    refine g_aload_n (q := 54) ok dX8_goOut_53 rfl 3 rfl rfl ?_
    refine g_getR (q := 57) ok dX8_goOut_54 rfl fl_X8_19 sX_50 rfl ?_
    refine g_getR (q := 60) ok dX8_goOut_57 rfl fl_X8_72 sX_21 rfl ?_
    refine g_iload_n (q := 61) ok dX8_goOut_60 rfl 4 rfl rfl ?_
    refine g_iald (q := 62) ok dX8_goOut_61 rfl sX_24 ?_
    refine g_leti (fun v7 => ?_)
    refine g_istore (q := 64) (L' := [(5, .int v7), (4, .int v6), (3, .int v5), (2, .int v1), (0, .ref 50), (1, .int a1)]) ok dX8_goOut_62 rfl (by decide) rfl rfl ?_
    refine g_aload_n (q := 65) ok dX8_goOut_64 rfl 4 rfl rfl ?_
    refine g_sipush (v := (nI 25173)) (q := 68) ok dX8_goOut_65 rfl (by decide) ?_
    refine g_aload_n (q := 69) ok dX8_goOut_68 rfl 4 rfl rfl ?_
    refine g_getI (q := 72) (N := 0) ok dX8_goOut_69 rfl fl_X8_39 sX_50 rfl ?_
    refine g_imul (q := 73) ok dX8_goOut_72 rfl ?_
    refine g_sipush (v := (nI 13849)) (q := 76) ok dX8_goOut_73 rfl (by decide) ?_
    refine g_iadd (q := 77) ok dX8_goOut_76 rfl ?_
    refine g_ldc (q := 79) ok dX8_goOut_77 rfl tw_808 ?_
    refine g_iremC (q := 80) ok dX8_goOut_79 rfl (by decide) ?_
    refine g_put (q := 83) ok dX8_goOut_80 rfl fp_X8_39 sX_50 rfl rfl rfl ?_
    refine g_letw (fun w8 => ?_)
    refine g_aload_n (q := 84) ok dX8_goOut_83 rfl 4 rfl rfl ?_
    refine g_getI (q := 87) (N := 0) ok dX8_goOut_84 rfl fl_X8_39 sX_50 rfl ?_
    refine g_bipush (v := (nI 10)) (q := 89) ok dX8_goOut_87 rfl (by decide) ?_
    refine g_iremC (q := 90) ok dX8_goOut_89 rfl (by decide) ?_
    refine g_aload_n (q := 91) ok dX8_goOut_90 rfl 4 rfl rfl ?_
    refine g_getR (q := 94) ok dX8_goOut_91 rfl fl_X8_23 sX_50 rfl ?_
    refine g_iload_n (q := 95) ok dX8_goOut_94 rfl 2 rfl rfl ?_
    refine g_iload (q := 97) ok dX8_goOut_95 rfl 1 rfl ?_
    refine g_iload (q := 99) ok dX8_goOut_97 rfl 0 rfl ?_
    refine g_iload_n (q := 100) ok dX8_goOut_99 rfl 3 rfl rfl ?_
    refine g_callVi (q := 103) (As := [.int v5, .int v6, .int v7, .int v1]) (st := [.int (gRem (w8.1 50 4) (nI 10))]) ok tbl_good dX8_goOut_100 rfl (kX1_tenthsOf N _ _ _ _ _) cf_X8_76 ⟨rfl, rfl, Nat.le_of_ble_eq_true rfl, Nat.le_of_ble_eq_true rfl⟩ sX_48 rfl rfl rfl (fun _ => Nat.le_of_ble_eq_true rfl) (fun v9 w10 => ?_)
    refine g_icmp_ge (q := 106) (g := 117) ok dX8_goOut_103 rfl (by decide) ?_ ?_
    · refine g_iconst (v := (nI 0)) (q := 118) ok dX8_goOut_117 rfl (by decide) ?_
      refine g_istore (q := 120) (L' := [(6, .int (nI 0)), (5, .int v7), (4, .int v6), (3, .int v5), (2, .int v1), (0, .ref 50), (1, .int a1)]) ok dX8_goOut_118 rfl (by decide) rfl rfl ?_
      refine g_join (P := fun k11 => ∀ (w12 : gT), gJ S1 cl1 rmX8_goOut 8 gv κ 238 [(0, .ref 50), (2, .int v1), (3, .int v5), (4, .int v6), (5, .int v7)] [] w12 (k11 w12)) (fun w12 => ?_) (fun k11 hk11 => ?_)
      · refine g_join (P := fun k13 => ∀ (v14 : Int32) (v15 : Int32) (w16 : gT), gJ S1 cl1 rmX8_goOut 8 gv κ 268 [(0, .ref 50), (3, .int v5)] [.int v15, .int v14] w16 (k13 v14 v15 w16)) (fun v14 v15 w16 => ?_) (fun k13 hk13 => ?_)
        · refine g_imul (q := 269) ok dX8_goOut_268 rfl ?_
          refine g_leti (fun v17 => ?_)
          refine g_istore (q := 271) (L' := [(6, .int v17), (0, .ref 50), (3, .int v5)]) ok dX8_goOut_269 rfl (by decide) rfl rfl ?_
          refine g_aload_n (q := 272) ok dX8_goOut_271 rfl 1 rfl rfl ?_
          refine g_getR (q := 275) ok dX8_goOut_272 rfl fl_X8_9 sX_50 rfl ?_
          refine g_iconst (v := (nI 1)) (q := 276) ok dX8_goOut_275 rfl (by decide) ?_
          refine g_dup2 (q := 277) ok dX8_goOut_276 rfl (fun _ => ⟨rfl, rfl⟩) ?_
          refine g_ialdC (j := 1) (q := 278) ok dX8_goOut_277 rfl sX_51 (by decide) (by decide) ?_
          refine g_iload (q := 280) ok dX8_goOut_278 rfl 0 rfl ?_
          refine g_iadd (q := 281) ok dX8_goOut_280 rfl ?_
          refine g_iastC (j := 1) (q := 282) ok dX8_goOut_281 rfl sX_51 (by decide) (by decide) ?_
          refine g_letw (fun w18 => ?_)
          refine g_aload_n (q := 283) ok dX8_goOut_282 rfl 1 rfl rfl ?_
          refine g_getR (q := 286) ok dX8_goOut_283 rfl fl_X8_9 sX_50 rfl ?_
          refine g_bipush (v := (nI 30)) (q := 288) ok dX8_goOut_286 rfl (by decide) ?_
          refine g_iload_n (q := 289) ok dX8_goOut_288 rfl 2 rfl rfl ?_
          refine g_iadd (q := 290) ok dX8_goOut_289 rfl ?_
          refine g_leti (fun v19 => ?_)
          refine g_dup2 (q := 291) ok dX8_goOut_290 rfl (fun _ => ⟨rfl, rfl⟩) ?_
          refine g_iald (q := 292) ok dX8_goOut_291 rfl sX_51 ?_
          refine g_iload (q := 294) ok dX8_goOut_292 rfl 0 rfl ?_
          refine g_iadd (q := 295) ok dX8_goOut_294 rfl ?_
          refine g_iast (q := 296) ok dX8_goOut_295 rfl sX_51 ?_
          refine g_letw (fun w20 => ?_)
          exact g_vret ok dX8_goOut_296
        · refine g_aload_n (q := 239) ok dX8_goOut_238 rfl 0 rfl rfl ?_
          refine g_getR (q := 242) ok dX8_goOut_239 rfl fl_X8_23 sX_50 rfl ?_
          refine g_iload_n (q := 243) ok dX8_goOut_242 rfl 2 rfl rfl ?_
          refine g_iload (q := 245) ok dX8_goOut_243 rfl 3 rfl ?_
          refine g_iload (q := 247) ok dX8_goOut_245 rfl 4 rfl ?_
          refine g_iload_n (q := 248) ok dX8_goOut_247 rfl 1 rfl rfl ?_
          refine g_callVi (q := 251) (As := [.int v5, .int v6, .int v7, .int v1]) (st := []) ok tbl_good dX8_goOut_248 rfl (kX1_wageOf N _ _ _ _ _) cf_X8_90 ⟨rfl, rfl, Nat.le_of_ble_eq_true rfl, Nat.le_of_ble_eq_true rfl⟩ sX_48 rfl rfl rfl (fun _ => Nat.le_of_ble_eq_true rfl) (fun v21 w22 => ?_)
          refine g_iload (q := 253) ok dX8_goOut_251 rfl 3 rfl ?_
          refine g_aload_n (q := 254) ok dX8_goOut_253 rfl 0 rfl rfl ?_
          refine g_getR (q := 257) ok dX8_goOut_254 rfl fl_X8_15 sX_50 rfl ?_
          refine g_getI (q := 260) (N := 0) ok dX8_goOut_257 rfl fl_X8_93 sX_1 rfl ?_
          refine g_icmp_ne (q := 263) (g := 267) ok dX8_goOut_260 rfl (by decide) ?_ ?_
          · refine g_iconst (v := (nI 1)) (q := 268) ok dX8_goOut_267 rfl (by decide) ?_
            refine g_to (L' := [(0, .ref 50), (3, .int v5)]) ?_ [0, 2] rfl
            exact hk13 _ _ _
          · refine g_iconst (v := (nI 2)) (q := 264) ok dX8_goOut_263 rfl (by decide) ?_
            refine g_goto (q := 268) ok dX8_goOut_264 (by decide) ?_
            refine g_to (L' := [(0, .ref 50), (3, .int v5)]) ?_ [0, 2] rfl
            exact hk13 _ _ _
      · refine g_to (L' := [(0, .ref 50), (2, .int v1), (3, .int v5), (4, .int v6), (5, .int v7), (6, .int (nI 0))]) ?_ [5, 4, 3, 2, 1, 0] rfl
        refine g_loop1 (Lf := fun v24 => [(0, .ref 50), (2, .int v1), (3, .int v5), (4, .int v6), (5, .int v7), (6, .int v24)]) (fun go23 hgo23 v24 w25 => ?_) N _ _
        unfold xX8_goOut_b120
        refine g_iload (q := 122) ok dX8_goOut_120 rfl 5 rfl ?_
        refine g_bipush (v := (nI 10)) (q := 124) ok dX8_goOut_122 rfl (by decide) ?_
        refine g_icmp_ge (q := 127) (g := 238) ok dX8_goOut_124 rfl (by decide) ?_ ?_
        · refine g_to (L' := [(0, .ref 50), (2, .int v1), (3, .int v5), (4, .int v6), (5, .int v7)]) ?_ [0, 1, 2, 3, 4] rfl
          exact hk11 _
        · refine g_join (P := fun k26 => ∀ (v27 : Int32) (w28 : gT), gJ S1 cl1 rmX8_goOut 8 gv κ 159 [(0, .ref 50), (2, .int v1), (3, .int v5), (4, .int v6), (5, .int v7), (6, .int v24)] [.int v27] w28 (k26 v27 w28)) (fun v27 w28 => ?_) (fun k26 hk26 => ?_)
          · refine g_join (P := fun k29 => ∀ (w30 : gT), gJ S1 cl1 rmX8_goOut 8 gv κ 232 [(0, .ref 50), (2, .int v1), (3, .int v5), (4, .int v6), (5, .int v7), (6, .int v24)] [] w30 (k29 w30)) (fun w30 => ?_) (fun k29 hk29 => ?_)
            · refine g_iinc (v := v24 + (nI 1)) (q := 235) (L' := [(6, .int (v24 + (nI 1))), (0, .ref 50), (2, .int v1), (3, .int v5), (4, .int v6), (5, .int v7)]) ok dX8_goOut_232 rfl 5 rfl rfl (by decide) rfl rfl ?_
              refine g_goto (q := 120) ok dX8_goOut_235 (by decide) ?_
              refine g_to (L' := [(0, .ref 50), (2, .int v1), (3, .int v5), (4, .int v6), (5, .int v7), (6, .int (v24 + (nI 1)))]) ?_ [1, 2, 3, 4, 5, 0] rfl
              exact hgo23 _ _
            · refine g_istore (q := 161) (L' := [(7, .int v27), (0, .ref 50), (2, .int v1), (3, .int v5), (4, .int v6), (5, .int v7), (6, .int v24)]) ok dX8_goOut_159 rfl (by decide) rfl rfl ?_
              refine g_iload (q := 163) ok dX8_goOut_161 rfl 0 rfl ?_
              refine g_bipush (v := (-2)) (q := 165) ok dX8_goOut_163 rfl (by decide) ?_
              refine g_icmp_eq (q := 168) (g := 232) ok dX8_goOut_165 rfl (by decide) ?_ ?_
              · refine g_to (L' := [(0, .ref 50), (2, .int v1), (3, .int v5), (4, .int v6), (5, .int v7), (6, .int v24)]) ?_ [1, 2, 3, 4, 5, 6] rfl
                exact hk29 _
              · refine g_aload_n (q := 169) ok dX8_goOut_168 rfl 1 rfl rfl ?_
                refine g_getR (q := 172) ok dX8_goOut_169 rfl fl_X8_9 sX_50 rfl ?_
                refine g_iconst (v := (nI 0)) (q := 173) ok dX8_goOut_172 rfl (by decide) ?_
                refine g_dup2 (q := 174) ok dX8_goOut_173 rfl (fun _ => ⟨rfl, rfl⟩) ?_
                refine g_ialdC (j := 0) (q := 175) ok dX8_goOut_174 rfl sX_51 (by decide) (by decide) ?_
                refine g_iload (q := 177) ok dX8_goOut_175 rfl 0 rfl ?_
                refine g_iadd (q := 178) ok dX8_goOut_177 rfl ?_
                refine g_iastC (j := 0) (q := 179) ok dX8_goOut_178 rfl sX_51 (by decide) (by decide) ?_
                refine g_letw (fun w31 => ?_)
                refine g_aload_n (q := 180) ok dX8_goOut_179 rfl 1 rfl rfl ?_
                refine g_getR (q := 183) ok dX8_goOut_180 rfl fl_X8_9 sX_50 rfl ?_
                refine g_bipush (v := (nI 10)) (q := 185) ok dX8_goOut_183 rfl (by decide) ?_
                refine g_iload (q := 187) ok dX8_goOut_185 rfl 6 rfl ?_
                refine g_iadd (q := 188) ok dX8_goOut_187 rfl ?_
                refine g_leti (fun v32 => ?_)
                refine g_dup2 (q := 189) ok dX8_goOut_188 rfl (fun _ => ⟨rfl, rfl⟩) ?_
                refine g_iald (q := 190) ok dX8_goOut_189 rfl sX_51 ?_
                refine g_iload (q := 192) ok dX8_goOut_190 rfl 0 rfl ?_
                refine g_iadd (q := 193) ok dX8_goOut_192 rfl ?_
                refine g_iast (q := 194) ok dX8_goOut_193 rfl sX_51 ?_
                refine g_letw (fun w33 => ?_)
                refine g_aload_n (q := 195) ok dX8_goOut_194 rfl 1 rfl rfl ?_
                refine g_getR (q := 198) ok dX8_goOut_195 rfl fl_X8_9 sX_50 rfl ?_
                refine g_bipush (v := (nI 40)) (q := 200) ok dX8_goOut_198 rfl (by decide) ?_
                refine g_iload (q := 202) ok dX8_goOut_200 rfl 4 rfl ?_
                refine g_iadd (q := 203) ok dX8_goOut_202 rfl ?_
                refine g_leti (fun v34 => ?_)
                refine g_dup2 (q := 204) ok dX8_goOut_203 rfl (fun _ => ⟨rfl, rfl⟩) ?_
                refine g_iald (q := 205) ok dX8_goOut_204 rfl sX_51 ?_
                refine g_iload (q := 207) ok dX8_goOut_205 rfl 0 rfl ?_
                refine g_iadd (q := 208) ok dX8_goOut_207 rfl ?_
                refine g_iast (q := 209) ok dX8_goOut_208 rfl sX_51 ?_
                refine g_letw (fun w35 => ?_)
                refine g_aload_n (q := 210) ok dX8_goOut_209 rfl 1 rfl rfl ?_
                refine g_getR (q := 213) ok dX8_goOut_210 rfl fl_X8_9 sX_50 rfl ?_
                refine g_iconst (v := (nI 2)) (q := 214) ok dX8_goOut_213 rfl (by decide) ?_
                refine g_dup2 (q := 215) ok dX8_goOut_214 rfl (fun _ => ⟨rfl, rfl⟩) ?_
                refine g_ialdC (j := 2) (q := 216) ok dX8_goOut_215 rfl sX_51 (by decide) (by decide) ?_
                refine g_iconst (v := (nI 1)) (q := 217) ok dX8_goOut_216 rfl (by decide) ?_
                refine g_iadd (q := 218) ok dX8_goOut_217 rfl ?_
                refine g_iastC (j := 2) (q := 219) ok dX8_goOut_218 rfl sX_51 (by decide) (by decide) ?_
                refine g_letw (fun w36 => ?_)
                refine g_aload_n (q := 220) ok dX8_goOut_219 rfl 1 rfl rfl ?_
                refine g_getR (q := 223) ok dX8_goOut_220 rfl fl_X8_9 sX_50 rfl ?_
                refine g_bipush (v := (nI 20)) (q := 225) ok dX8_goOut_223 rfl (by decide) ?_
                refine g_iload_n (q := 226) ok dX8_goOut_225 rfl 3 rfl rfl ?_
                refine g_iadd (q := 227) ok dX8_goOut_226 rfl ?_
                refine g_leti (fun v37 => ?_)
                refine g_dup2 (q := 228) ok dX8_goOut_227 rfl (fun _ => ⟨rfl, rfl⟩) ?_
                refine g_iald (q := 229) ok dX8_goOut_228 rfl sX_51 ?_
                refine g_iconst (v := (nI 1)) (q := 230) ok dX8_goOut_229 rfl (by decide) ?_
                refine g_iadd (q := 231) ok dX8_goOut_230 rfl ?_
                refine g_iast (q := 232) ok dX8_goOut_231 rfl sX_51 ?_
                refine g_letw (fun w38 => ?_)
                refine g_to (L' := [(0, .ref 50), (2, .int v1), (3, .int v5), (4, .int v6), (5, .int v7), (6, .int v24)]) ?_ [1, 2, 3, 4, 5, 6] rfl
                exact hk29 _
          · refine g_aload_n (q := 128) ok dX8_goOut_127 rfl 0 rfl rfl ?_
            refine g_getR (q := 131) ok dX8_goOut_128 rfl fl_X8_15 sX_50 rfl ?_
            refine g_iload (q := 133) ok dX8_goOut_131 rfl 5 rfl ?_
            refine g_callVi (q := 136) (As := [.int v24]) (st := []) ok tbl_good dX8_goOut_133 rfl (kX2_hasSleeper _ _) cf_X8_82 ⟨rfl, rfl, Nat.le_of_ble_eq_true rfl, Nat.le_of_ble_eq_true rfl⟩ sX_1 rfl rfl rfl (fun _ => Nat.le_of_ble_eq_true rfl) (fun v39 w40 => ?_)
            refine g_if_eq (q := 139) (g := 157) ok dX8_goOut_136 rfl (by decide) ?_ ?_
            · refine g_bipush (v := (-2)) (q := 159) ok dX8_goOut_157 rfl (by decide) ?_
              exact hk26 _ _
            · refine g_aload_n (q := 140) ok dX8_goOut_139 rfl 0 rfl rfl ?_
              refine g_getR (q := 143) ok dX8_goOut_140 rfl fl_X8_23 sX_50 rfl ?_
              refine g_iload_n (q := 144) ok dX8_goOut_143 rfl 2 rfl rfl ?_
              refine g_iload (q := 146) ok dX8_goOut_144 rfl 5 rfl ?_
              refine g_iload (q := 148) ok dX8_goOut_146 rfl 3 rfl ?_
              refine g_iload (q := 150) ok dX8_goOut_148 rfl 4 rfl ?_
              refine g_iload_n (q := 151) ok dX8_goOut_150 rfl 1 rfl rfl ?_
              refine g_callVi (q := 154) (As := [.int v5, .int v24, .int v6, .int v7, .int v1]) (st := []) ok tbl_good dX8_goOut_151 rfl (kX1_frightOf N _ _ _ _ _ _) cf_X8_86 ⟨rfl, rfl, Nat.le_of_ble_eq_true rfl, Nat.le_of_ble_eq_true rfl⟩ sX_48 rfl rfl rfl (fun _ => Nat.le_of_ble_eq_true rfl) (fun v41 w42 => ?_)
              refine g_goto (q := 159) ok dX8_goOut_154 (by decide) ?_
              exact hk26 _ _
    · refine g_aload_n (q := 107) ok dX8_goOut_106 rfl 4 rfl rfl ?_
      refine g_getR (q := 110) ok dX8_goOut_107 rfl fl_X8_9 sX_50 rfl ?_
      refine g_iconst (v := (nI 3)) (q := 111) ok dX8_goOut_110 rfl (by decide) ?_
      refine g_dup2 (q := 112) ok dX8_goOut_111 rfl (fun _ => ⟨rfl, rfl⟩) ?_
      refine g_ialdC (j := 3) (q := 113) ok dX8_goOut_112 rfl sX_51 (by decide) (by decide) ?_
      refine g_iconst (v := (nI 1)) (q := 114) ok dX8_goOut_113 rfl (by decide) ?_
      refine g_iadd (q := 115) ok dX8_goOut_114 rfl ?_
      refine g_iastC (j := 3) (q := 116) ok dX8_goOut_115 rfl sX_51 (by decide) (by decide) ?_
      refine g_letw (fun w43 => ?_)
      exact g_vret ok dX8_goOut_116
  · refine g_aload_n (q := 22) ok dX8_goOut_21 rfl 1 rfl rfl ?_
    refine g_getR (q := 25) ok dX8_goOut_22 rfl fl_X8_9 sX_50 rfl ?_
    refine g_iconst (v := (nI 4)) (q := 26) ok dX8_goOut_25 rfl (by decide) ?_
    refine g_dup2 (q := 27) ok dX8_goOut_26 rfl (fun _ => ⟨rfl, rfl⟩) ?_
    refine g_ialdC (j := 4) (q := 28) ok dX8_goOut_27 rfl sX_51 (by decide) (by decide) ?_
    refine g_iconst (v := (nI 1)) (q := 29) ok dX8_goOut_28 rfl (by decide) ?_
    refine g_iadd (q := 30) ok dX8_goOut_29 rfl ?_
    refine g_iastC (j := 4) (q := 31) ok dX8_goOut_30 rfl sX_51 (by decide) (by decide) ?_
    refine g_letw (fun w44 => ?_)
    exact g_vret ok dX8_goOut_31
