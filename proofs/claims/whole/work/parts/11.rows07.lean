set_option maxRecDepth 20000 in
theorem kX10_goes (N : Nat) (a1 : Int32) (a2 : Int32) (w : gT) : gM S2 cl2 gTs yX10_goes cX10_goes 6 none rmX10_goes gv [.ref 0, .int a1, .int a2] w (xX10_goes N a1 a2 w) := by
  refine gM_of (own := RX10) [(0, .ref 0), (1, .int a1), (2, .int a2)] rfl (by decide) (fun _ => rfl) (fun _ => Nat.le_of_ble_eq_true rfl) (fun κ ok => ?_)
  unfold xX10_goes
  refine g_aload_n (q := 1) ok dX10_goes_0 rfl 0 rfl rfl ?_
  refine g_getR (q := 4) ok dX10_goes_1 rfl fl_X10_38 sM_0 rfl ?_
  refine g_iload_n (q := 5) ok dX10_goes_4 rfl 1 rfl rfl ?_
  refine g_iald (q := 6) ok dX10_goes_5 rfl sM_10 ?_
  refine g_leti (fun v1 => ?_)
  refine g_istore_n (q := 7) (L' := [(3, .int v1), (0, .ref 0), (1, .int a1), (2, .int a2)]) ok dX10_goes_6 rfl rfl (by decide) rfl rfl ?_
  refine g_aload_n (q := 8) ok dX10_goes_7 rfl 1 rfl rfl ?_
  refine g_iload_n (q := 9) ok dX10_goes_8 rfl 2 rfl rfl ?_
  refine g_callVi (q := 12) (As := [.int a1]) (st := []) ok tbl_good dX10_goes_9 rfl (kX10_stands N _ _) cf_X10_341 ⟨rfl, rfl, Nat.le_of_ble_eq_true rfl, Nat.le_of_ble_eq_true rfl⟩ sM_0 rfl rfl rfl (fun _ => Nat.le_of_ble_eq_true rfl) (fun v2 w3 => ?_)
  refine g_if_eq (q := 15) (g := 30) ok dX10_goes_12 rfl (by decide) ?_ ?_
  · refine g_aload_n (q := 31) ok dX10_goes_30 rfl 1 rfl rfl ?_
    refine g_callVi (q := 34) (As := []) (st := []) ok tbl_good dX10_goes_31 rfl (kX10_draws _) cf_X10_344 ⟨rfl, rfl, Nat.le_of_ble_eq_true rfl, Nat.le_of_ble_eq_true rfl⟩ sM_0 rfl rfl rfl (fun _ => Nat.le_of_ble_eq_true rfl) (fun v4 w5 => ?_)
    refine g_istore (q := 36) (L' := [(4, .int v4), (3, .int v1), (0, .ref 0), (1, .int a1), (2, .int a2)]) ok dX10_goes_34 rfl (by decide) rfl rfl ?_
    refine g_aload_n (q := 37) ok dX10_goes_36 rfl 2 rfl rfl ?_
    refine g_iload_n (q := 38) ok dX10_goes_37 rfl 1 rfl rfl ?_
    refine g_aload_n (q := 39) ok dX10_goes_38 rfl 2 rfl rfl ?_
    refine g_getR (q := 42) ok dX10_goes_39 rfl fl_X10_41 sM_0 rfl ?_
    refine g_iload_n (q := 43) ok dX10_goes_42 rfl 3 rfl rfl ?_
    refine g_iald (q := 44) ok dX10_goes_43 rfl sM_11 ?_
    refine g_aload_n (q := 45) ok dX10_goes_44 rfl 2 rfl rfl ?_
    refine g_getR (q := 48) ok dX10_goes_45 rfl fl_X10_44 sM_0 rfl ?_
    refine g_iload_n (q := 49) ok dX10_goes_48 rfl 3 rfl rfl ?_
    refine g_iald (q := 50) ok dX10_goes_49 rfl sM_12 ?_
    refine g_iload_n (q := 51) ok dX10_goes_50 rfl 4 rfl rfl ?_
    refine g_callVv (q := 54) (As := [.int v1, .int (w5.1 11 a1.toNatClampNeg), .int (w5.1 12 a1.toNatClampNeg), .int a2]) (st := []) ok tbl_good dX10_goes_51 rfl (kX10_feels N _ _ _ _ _) cf_X10_326 ⟨rfl, rfl, Nat.le_of_ble_eq_true rfl, Nat.le_of_ble_eq_true rfl⟩ sM_0 rfl rfl rfl (fun _ => Nat.le_of_ble_eq_true rfl) (fun w6 => ?_)
    refine g_iload (q := 56) ok dX10_goes_54 rfl 0 rfl ?_
    refine g_aload_n (q := 57) ok dX10_goes_56 rfl 2 rfl rfl ?_
    refine g_bipush (v := (nI 122)) (q := 59) ok dX10_goes_57 rfl (by decide) ?_
    refine g_bipush (v := (nI 10)) (q := 61) ok dX10_goes_59 rfl (by decide) ?_
    refine g_callVi (q := 64) (As := [.int (nI 122), .int (nI 10)]) (st := [.int v4]) ok tbl_good dX10_goes_61 rfl (kX10_byLaw N _ _ _) cf_X10_333 ⟨rfl, rfl, Nat.le_of_ble_eq_true rfl, Nat.le_of_ble_eq_true rfl⟩ sM_0 rfl rfl rfl (fun _ => Nat.le_of_ble_eq_true rfl) (fun v7 w8 => ?_)
    refine g_icmp_ge (q := 67) (g := 82) ok dX10_goes_64 rfl (by decide) ?_ ?_
    · refine g_join (P := fun k9 => ∀ (v10 : Int32) (v11 : Int32) (w12 : gT), gJ S2 cl2 rmX10_goes 6 gv κ 145 [(0, .ref 0), (3, .int v1)] [.int v11, .int v10] w12 (k9 v10 v11 w12)) (fun v10 v11 w12 => ?_) (fun k9 hk9 => ?_)
      · refine g_imul (q := 146) ok dX10_goes_145 rfl ?_
        refine g_leti (fun v13 => ?_)
        refine g_istore (q := 148) (L' := [(5, .int v13), (0, .ref 0), (3, .int v1)]) ok dX10_goes_146 rfl (by decide) rfl rfl ?_
        refine g_aload_n (q := 149) ok dX10_goes_148 rfl 1 rfl rfl ?_
        refine g_getR (q := 152) ok dX10_goes_149 rfl fl_X10_102 sM_0 rfl ?_
        refine g_iconst (v := (nI 1)) (q := 153) ok dX10_goes_152 rfl (by decide) ?_
        refine g_aload_n (q := 154) ok dX10_goes_153 rfl 1 rfl rfl ?_
        refine g_getR (q := 157) ok dX10_goes_154 rfl fl_X10_102 sM_0 rfl ?_
        refine g_iconst (v := (nI 1)) (q := 158) ok dX10_goes_157 rfl (by decide) ?_
        refine g_ialdC (j := 1) (q := 159) ok dX10_goes_158 rfl sM_31 (by decide) (by decide) ?_
        refine g_iload (q := 161) ok dX10_goes_159 rfl 0 rfl ?_
        refine g_iadd (q := 162) ok dX10_goes_161 rfl ?_
        refine g_iastC (j := 1) (q := 163) ok dX10_goes_162 rfl sM_31 (by decide) (by decide) ?_
        refine g_letw (fun w14 => ?_)
        refine g_aload_n (q := 164) ok dX10_goes_163 rfl 1 rfl rfl ?_
        refine g_getR (q := 167) ok dX10_goes_164 rfl fl_X10_102 sM_0 rfl ?_
        refine g_bipush (v := (nI 30)) (q := 169) ok dX10_goes_167 rfl (by decide) ?_
        refine g_iload_n (q := 170) ok dX10_goes_169 rfl 2 rfl rfl ?_
        refine g_iadd (q := 171) ok dX10_goes_170 rfl ?_
        refine g_aload_n (q := 172) ok dX10_goes_171 rfl 1 rfl rfl ?_
        refine g_getR (q := 175) ok dX10_goes_172 rfl fl_X10_102 sM_0 rfl ?_
        refine g_bipush (v := (nI 30)) (q := 177) ok dX10_goes_175 rfl (by decide) ?_
        refine g_iload_n (q := 178) ok dX10_goes_177 rfl 2 rfl rfl ?_
        refine g_iadd (q := 179) ok dX10_goes_178 rfl ?_
        refine g_iald (q := 180) ok dX10_goes_179 rfl sM_31 ?_
        refine g_iload (q := 182) ok dX10_goes_180 rfl 0 rfl ?_
        refine g_iadd (q := 183) ok dX10_goes_182 rfl ?_
        refine g_iast (q := 184) ok dX10_goes_183 rfl sM_31 ?_
        refine g_letw (fun w15 => ?_)
        exact g_vret ok dX10_goes_184
      · refine g_aload_n (q := 83) ok dX10_goes_82 rfl 2 rfl rfl ?_
        refine g_iload_n (q := 84) ok dX10_goes_83 rfl 1 rfl rfl ?_
        refine g_aload_n (q := 85) ok dX10_goes_84 rfl 2 rfl rfl ?_
        refine g_getR (q := 88) ok dX10_goes_85 rfl fl_X10_41 sM_0 rfl ?_
        refine g_iload_n (q := 89) ok dX10_goes_88 rfl 3 rfl rfl ?_
        refine g_iald (q := 90) ok dX10_goes_89 rfl sM_11 ?_
        refine g_aload_n (q := 91) ok dX10_goes_90 rfl 2 rfl rfl ?_
        refine g_getR (q := 94) ok dX10_goes_91 rfl fl_X10_44 sM_0 rfl ?_
        refine g_iload_n (q := 95) ok dX10_goes_94 rfl 3 rfl rfl ?_
        refine g_iald (q := 96) ok dX10_goes_95 rfl sM_12 ?_
        refine g_iload_n (q := 97) ok dX10_goes_96 rfl 4 rfl rfl ?_
        refine g_callVv (q := 100) (As := [.int v1, .int (w8.1 11 a1.toNatClampNeg), .int (w8.1 12 a1.toNatClampNeg), .int a2]) (st := []) ok tbl_good dX10_goes_97 rfl (kX10_frightens N _ _ _ _ _) cf_X10_347 ⟨rfl, rfl, Nat.le_of_ble_eq_true rfl, Nat.le_of_ble_eq_true rfl⟩ sM_0 rfl rfl rfl (fun _ => Nat.le_of_ble_eq_true rfl) (fun w16 => ?_)
        refine g_aload_n (q := 101) ok dX10_goes_100 rfl 2 rfl rfl ?_
        refine g_iload_n (q := 102) ok dX10_goes_101 rfl 1 rfl rfl ?_
        refine g_aload_n (q := 103) ok dX10_goes_102 rfl 2 rfl rfl ?_
        refine g_getR (q := 106) ok dX10_goes_103 rfl fl_X10_41 sM_0 rfl ?_
        refine g_iload_n (q := 107) ok dX10_goes_106 rfl 3 rfl rfl ?_
        refine g_iald (q := 108) ok dX10_goes_107 rfl sM_11 ?_
        refine g_aload_n (q := 109) ok dX10_goes_108 rfl 2 rfl rfl ?_
        refine g_getR (q := 112) ok dX10_goes_109 rfl fl_X10_44 sM_0 rfl ?_
        refine g_iload_n (q := 113) ok dX10_goes_112 rfl 3 rfl rfl ?_
        refine g_iald (q := 114) ok dX10_goes_113 rfl sM_12 ?_
        refine g_iload_n (q := 115) ok dX10_goes_114 rfl 4 rfl rfl ?_
        refine g_callVv (q := 118) (As := [.int v1, .int (w16.1 11 a1.toNatClampNeg), .int (w16.1 12 a1.toNatClampNeg), .int a2]) (st := []) ok tbl_good dX10_goes_115 rfl (kX10_feels N _ _ _ _ _) cf_X10_326 ⟨rfl, rfl, Nat.le_of_ble_eq_true rfl, Nat.le_of_ble_eq_true rfl⟩ sM_0 rfl rfl rfl (fun _ => Nat.le_of_ble_eq_true rfl) (fun w17 => ?_)
        refine g_aload_n (q := 119) ok dX10_goes_118 rfl 2 rfl rfl ?_
        refine g_bipush (v := (nI 119)) (q := 121) ok dX10_goes_119 rfl (by decide) ?_
        refine g_sipush (v := (nI 999)) (q := 124) ok dX10_goes_121 rfl (by decide) ?_
        refine g_callVi (q := 127) (As := [.int (nI 119), .int (nI 999)]) (st := []) ok tbl_good dX10_goes_124 rfl (kX10_byLaw N _ _ _) cf_X10_333 ⟨rfl, rfl, Nat.le_of_ble_eq_true rfl, Nat.le_of_ble_eq_true rfl⟩ sM_0 rfl rfl rfl (fun _ => Nat.le_of_ble_eq_true rfl) (fun v18 w19 => ?_)
        refine g_aload_n (q := 128) ok dX10_goes_127 rfl 2 rfl rfl ?_
        refine g_getR (q := 131) ok dX10_goes_128 rfl fl_X10_41 sM_0 rfl ?_
        refine g_iload_n (q := 132) ok dX10_goes_131 rfl 3 rfl rfl ?_
        refine g_iald (q := 133) ok dX10_goes_132 rfl sM_11 ?_
        refine g_aload_n (q := 134) ok dX10_goes_133 rfl 2 rfl rfl ?_
        refine g_getI (q := 137) (N := 0) ok dX10_goes_134 rfl fl_X10_158 sM_0 rfl ?_
        refine g_icmp_ne (q := 140) (g := 144) ok dX10_goes_137 rfl (by decide) ?_ ?_
        · refine g_iconst (v := (nI 1)) (q := 145) ok dX10_goes_144 rfl (by decide) ?_
          refine g_to (L' := [(0, .ref 0), (3, .int v1)]) ?_ [2, 1] rfl
          exact hk9 _ _ _
        · refine g_iconst (v := (nI 2)) (q := 141) ok dX10_goes_140 rfl (by decide) ?_
          refine g_goto (q := 145) ok dX10_goes_141 (by decide) ?_
          refine g_to (L' := [(0, .ref 0), (3, .int v1)]) ?_ [2, 1] rfl
          exact hk9 _ _ _
    · refine g_aload_n (q := 68) ok dX10_goes_67 rfl 2 rfl rfl ?_
      refine g_getR (q := 71) ok dX10_goes_68 rfl fl_X10_102 sM_0 rfl ?_
      refine g_iconst (v := (nI 3)) (q := 72) ok dX10_goes_71 rfl (by decide) ?_
      refine g_aload_n (q := 73) ok dX10_goes_72 rfl 2 rfl rfl ?_
      refine g_getR (q := 76) ok dX10_goes_73 rfl fl_X10_102 sM_0 rfl ?_
      refine g_iconst (v := (nI 3)) (q := 77) ok dX10_goes_76 rfl (by decide) ?_
      refine g_ialdC (j := 3) (q := 78) ok dX10_goes_77 rfl sM_31 (by decide) (by decide) ?_
      refine g_iconst (v := (nI 1)) (q := 79) ok dX10_goes_78 rfl (by decide) ?_
      refine g_iadd (q := 80) ok dX10_goes_79 rfl ?_
      refine g_iastC (j := 3) (q := 81) ok dX10_goes_80 rfl sM_31 (by decide) (by decide) ?_
      refine g_letw (fun w20 => ?_)
      exact g_vret ok dX10_goes_81
  · refine g_aload_n (q := 16) ok dX10_goes_15 rfl 1 rfl rfl ?_
    refine g_getR (q := 19) ok dX10_goes_16 rfl fl_X10_102 sM_0 rfl ?_
    refine g_iconst (v := (nI 4)) (q := 20) ok dX10_goes_19 rfl (by decide) ?_
    refine g_aload_n (q := 21) ok dX10_goes_20 rfl 1 rfl rfl ?_
    refine g_getR (q := 24) ok dX10_goes_21 rfl fl_X10_102 sM_0 rfl ?_
    refine g_iconst (v := (nI 4)) (q := 25) ok dX10_goes_24 rfl (by decide) ?_
    refine g_ialdC (j := 4) (q := 26) ok dX10_goes_25 rfl sM_31 (by decide) (by decide) ?_
    refine g_iconst (v := (nI 1)) (q := 27) ok dX10_goes_26 rfl (by decide) ?_
    refine g_iadd (q := 28) ok dX10_goes_27 rfl ?_
    refine g_iastC (j := 4) (q := 29) ok dX10_goes_28 rfl sM_31 (by decide) (by decide) ?_
    refine g_letw (fun w21 => ?_)
    exact g_vret ok dX10_goes_29
set_option maxRecDepth 20000 in
theorem kX10_goesThrough (N : Nat) (w : gT) : gM S2 cl2 gTs yX10_goesThrough cX10_goesThrough 5 none rmX10_goesThrough gv [.ref 0] w (xX10_goesThrough N w) := by
  refine gM_of (own := RX10) [(0, .ref 0)] rfl (by decide) (fun _ => rfl) (fun _ => Nat.le_of_ble_eq_true rfl) (fun κ ok => ?_)
  unfold xX10_goesThrough
  refine g_iconst (v := (nI 0)) (q := 1) ok dX10_goesThrough_0 rfl (by decide) ?_
  refine g_istore_n (q := 2) (L' := [(1, .int (nI 0)), (0, .ref 0)]) ok dX10_goesThrough_1 rfl rfl (by decide) rfl rfl ?_
  refine g_join (P := fun k1 => ∀ (w2 : gT), gJ S2 cl2 rmX10_goesThrough 5 gv κ 21 [(0, .ref 0)] [] w2 (k1 w2)) (fun w2 => ?_) (fun k1 hk1 => ?_)
  · refine g_iconst (v := (nI 0)) (q := 22) ok dX10_goesThrough_21 rfl (by decide) ?_
    refine g_istore_n (q := 23) (L' := [(1, .int (nI 0)), (0, .ref 0)]) ok dX10_goesThrough_22 rfl rfl (by decide) rfl rfl ?_
    refine g_to (L' := [(0, .ref 0), (1, .int (nI 0))]) ?_ [1, 0] rfl
    refine g_loop1 (Lf := fun v4 => [(0, .ref 0), (1, .int v4)]) (fun go3 hgo3 v4 w5 => ?_) N _ _
    unfold xX10_goesThrough_b23
    refine g_iload_n (q := 24) ok dX10_goesThrough_23 rfl 1 rfl rfl ?_
    refine g_bipush (v := (nI 7)) (q := 26) ok dX10_goesThrough_24 rfl (by decide) ?_
    refine g_icmp_ge (q := 29) (g := 117) ok dX10_goesThrough_26 rfl (by decide) ?_ ?_
    · exact g_vret ok dX10_goesThrough_117
    · refine g_aload_n (q := 30) ok dX10_goesThrough_29 rfl 0 rfl rfl ?_
      refine g_getI (q := 33) (N := 0) ok dX10_goesThrough_30 rfl fl_X10_182 sM_0 rfl ?_
      refine g_leti (fun v6 => ?_)
      refine g_istore_n (q := 34) (L' := [(2, .int v6), (0, .ref 0), (1, .int v4)]) ok dX10_goesThrough_33 rfl rfl (by decide) rfl rfl ?_
      refine g_iconst (v := (nI 0)) (q := 35) ok dX10_goesThrough_34 rfl (by decide) ?_
      refine g_istore_n (q := 36) (L' := [(3, .int (nI 0)), (2, .int v6), (0, .ref 0), (1, .int v4)]) ok dX10_goesThrough_35 rfl rfl (by decide) rfl rfl ?_
      refine g_join (P := fun k7 => ∀ (w8 : gT), gJ S2 cl2 rmX10_goesThrough 5 gv κ 111 [(0, .ref 0), (1, .int v4)] [] w8 (k7 w8)) (fun w8 => ?_) (fun k7 hk7 => ?_)
      · refine g_iinc (v := v4 + (nI 1)) (q := 114) (L' := [(1, .int (v4 + (nI 1))), (0, .ref 0)]) ok dX10_goesThrough_111 rfl 1 rfl rfl (by decide) rfl rfl ?_
        refine g_goto (q := 23) ok dX10_goesThrough_114 (by decide) ?_
        refine g_to (L' := [(0, .ref 0), (1, .int (v4 + (nI 1)))]) ?_ [1, 0] rfl
        exact hgo3 _ _
      · refine g_to (L' := [(0, .ref 0), (1, .int v4), (2, .int v6), (3, .int (nI 0))]) ?_ [2, 3, 1, 0] rfl
        refine g_loop2 (Lf := fun v10 v11 => [(0, .ref 0), (1, .int v4), (2, .int v10), (3, .int v11)]) (fun go9 hgo9 v10 v11 w12 => ?_) N _ _ _
        unfold xX10_goesThrough_b36
        refine g_iload_n (q := 37) ok dX10_goesThrough_36 rfl 3 rfl rfl ?_
        refine g_aload_n (q := 38) ok dX10_goesThrough_37 rfl 0 rfl rfl ?_
        refine g_getI (q := 41) (N := 0) ok dX10_goesThrough_38 rfl fl_X10_233 sM_0 rfl ?_
        refine g_icmp_ge (q := 44) (g := 111) ok dX10_goesThrough_41 rfl (by decide) ?_ ?_
        · refine g_to (L' := [(0, .ref 0), (1, .int v4)]) ?_ [0, 1] rfl
          exact hk7 _
        · refine g_join (P := fun k13 => ∀ (v14 : Int32) (w15 : gT), gJ S2 cl2 rmX10_goesThrough 5 gv κ 105 [(0, .ref 0), (1, .int v4), (3, .int v11), (2, .int v14)] [] w15 (k13 v14 w15)) (fun v14 w15 => ?_) (fun k13 hk13 => ?_)
          · refine g_iinc (v := v11 + (nI 1)) (q := 108) (L' := [(3, .int (v11 + (nI 1))), (0, .ref 0), (1, .int v4), (2, .int v14)]) ok dX10_goesThrough_105 rfl 2 rfl rfl (by decide) rfl rfl ?_
            refine g_goto (q := 36) ok dX10_goesThrough_108 (by decide) ?_
            refine g_to (L' := [(0, .ref 0), (1, .int v4), (2, .int v14), (3, .int (v11 + (nI 1)))]) ?_ [1, 2, 3, 0] rfl
            exact hgo9 _ _ _
          · refine g_aload_n (q := 45) ok dX10_goesThrough_44 rfl 0 rfl rfl ?_
            refine g_getR (q := 48) ok dX10_goesThrough_45 rfl fl_X10_41 sM_0 rfl ?_
            refine g_iload_n (q := 49) ok dX10_goesThrough_48 rfl 3 rfl rfl ?_
            refine g_iald (q := 50) ok dX10_goesThrough_49 rfl sM_11 ?_
            refine g_iload_n (q := 51) ok dX10_goesThrough_50 rfl 1 rfl rfl ?_
            refine g_icmp_ne (q := 54) (g := 105) ok dX10_goesThrough_51 rfl (by decide) ?_ ?_
            · refine g_to (L' := [(0, .ref 0), (1, .int v4), (3, .int v11), (2, .int v10)]) ?_ [0, 1, 3, 2] rfl
              exact hk13 _ _
            · refine g_aload_n (q := 55) ok dX10_goesThrough_54 rfl 0 rfl rfl ?_
              refine g_iload_n (q := 56) ok dX10_goesThrough_55 rfl 3 rfl rfl ?_
              refine g_callVi (q := 59) (As := [.int v11]) (st := []) ok tbl_good dX10_goesThrough_56 rfl (kX10_counts N _ _) cf_X10_239 ⟨rfl, rfl, Nat.le_of_ble_eq_true rfl, Nat.le_of_ble_eq_true rfl⟩ sM_0 rfl rfl rfl (fun _ => Nat.le_of_ble_eq_true rfl) (fun v16 w17 => ?_)
              refine g_if_ne (q := 62) (g := 65) ok dX10_goesThrough_59 rfl (by decide) ?_ ?_
              · refine g_join (P := fun k18 => ∀ (v19 : Int32) (w20 : gT), gJ S2 cl2 rmX10_goesThrough 5 gv κ 83 [(0, .ref 0), (1, .int v4), (2, .int v10), (3, .int v11)] [.int v19] w20 (k18 v19 w20)) (fun v19 w20 => ?_) (fun k18 hk18 => ?_)
                · refine g_join (P := fun k21 => ∀ (v22 : Int32) (v23 : Int32) (v24 : Int32) (w25 : gT), gJ S2 cl2 rmX10_goesThrough 5 gv κ 96 [(0, .ref 0), (1, .int v4), (3, .int v11), (4, .int v22)] [.int v24, .int v23] w25 (k21 v22 v23 v24 w25)) (fun v22 v23 v24 w25 => ?_) (fun k21 hk21 => ?_)
                  · refine g_isub (q := 97) ok dX10_goesThrough_96 rfl ?_
                    refine g_leti (fun v26 => ?_)
                    refine g_istore_n (q := 98) (L' := [(2, .int v26), (0, .ref 0), (1, .int v4), (3, .int v11), (4, .int v22)]) ok dX10_goesThrough_97 rfl rfl (by decide) rfl rfl ?_
                    refine g_aload_n (q := 99) ok dX10_goesThrough_98 rfl 1 rfl rfl ?_
                    refine g_iload_n (q := 100) ok dX10_goesThrough_99 rfl 3 rfl rfl ?_
                    refine g_iload (q := 102) ok dX10_goesThrough_100 rfl 4 rfl ?_
                    refine g_callVv (q := 105) (As := [.int v11, .int v22]) (st := []) ok tbl_good dX10_goesThrough_102 rfl (kX10_goes N _ _ _) cf_X10_350 ⟨rfl, rfl, Nat.le_of_ble_eq_true rfl, Nat.le_of_ble_eq_true rfl⟩ sM_0 rfl rfl rfl (fun _ => Nat.le_of_ble_eq_true rfl) (fun w27 => ?_)
                    refine g_to (L' := [(0, .ref 0), (1, .int v4), (3, .int v11), (2, .int v26)]) ?_ [1, 2, 3, 0] rfl
                    exact hk13 _ _
                  · refine g_istore (q := 85) (L' := [(4, .int v19), (0, .ref 0), (1, .int v4), (2, .int v10), (3, .int v11)]) ok dX10_goesThrough_83 rfl (by decide) rfl rfl ?_
                    refine g_iload_n (q := 86) ok dX10_goesThrough_85 rfl 3 rfl rfl ?_
                    refine g_iload (q := 88) ok dX10_goesThrough_86 rfl 0 rfl ?_
                    refine g_if_eq (q := 91) (g := 95) ok dX10_goesThrough_88 rfl (by decide) ?_ ?_
                    · refine g_iconst (v := (nI 0)) (q := 96) ok dX10_goesThrough_95 rfl (by decide) ?_
                      refine g_to (L' := [(0, .ref 0), (1, .int v4), (3, .int v11), (4, .int v19)]) ?_ [1, 2, 4, 0] rfl
                      exact hk21 _ _ _ _
                    · refine g_iconst (v := (nI 1)) (q := 92) ok dX10_goesThrough_91 rfl (by decide) ?_
                      refine g_goto (q := 96) ok dX10_goesThrough_92 (by decide) ?_
                      refine g_to (L' := [(0, .ref 0), (1, .int v4), (3, .int v11), (4, .int v19)]) ?_ [1, 2, 4, 0] rfl
                      exact hk21 _ _ _ _
                · refine g_join (P := fun k28 => ∀ (w29 : gT), gJ S2 cl2 rmX10_goesThrough 5 gv κ 82 [(0, .ref 0), (1, .int v4), (2, .int v10), (3, .int v11)] [] w29 (k28 w29)) (fun w29 => ?_) (fun k28 hk28 => ?_)
                  · refine g_iconst (v := (nI 0)) (q := 83) ok dX10_goesThrough_82 rfl (by decide) ?_
                    exact hk18 _ _
                  · refine g_aload_n (q := 66) ok dX10_goesThrough_65 rfl 0 rfl rfl ?_
                    refine g_getR (q := 69) ok dX10_goesThrough_66 rfl fl_X10_56 sM_0 rfl ?_
                    refine g_iload_n (q := 70) ok dX10_goesThrough_69 rfl 3 rfl rfl ?_
                    refine g_zald (q := 71) ok dX10_goesThrough_70 rfl sM_16 ?_
                    refine g_if_eq (q := 74) (g := 82) ok dX10_goesThrough_71 rfl (by decide) ?_ ?_
                    · exact hk28 _
                    · refine g_iload_n (q := 75) ok dX10_goesThrough_74 rfl 2 rfl rfl ?_
                      refine g_if_le (q := 78) (g := 82) ok dX10_goesThrough_75 rfl (by decide) ?_ ?_
                      · exact hk28 _
                      · refine g_iconst (v := (nI 1)) (q := 79) ok dX10_goesThrough_78 rfl (by decide) ?_
                        refine g_goto (q := 83) ok dX10_goesThrough_79 (by decide) ?_
                        exact hk18 _ _
              · refine g_goto (q := 105) ok dX10_goesThrough_62 (by decide) ?_
                refine g_to (L' := [(0, .ref 0), (1, .int v4), (3, .int v11), (2, .int v10)]) ?_ [0, 1, 3, 2] rfl
                exact hk13 _ _
  · refine g_to (L' := [(0, .ref 0), (1, .int (nI 0))]) ?_ [1, 0] rfl
    refine g_loop1 (Lf := fun v31 => [(0, .ref 0), (1, .int v31)]) (fun go30 hgo30 v31 w32 => ?_) N _ _
    unfold xX10_goesThrough_b2
    refine g_iload_n (q := 3) ok dX10_goesThrough_2 rfl 1 rfl rfl ?_
    refine g_bipush (v := (nI 47)) (q := 5) ok dX10_goesThrough_3 rfl (by decide) ?_
    refine g_icmp_ge (q := 8) (g := 21) ok dX10_goesThrough_5 rfl (by decide) ?_ ?_
    · refine g_to (L' := [(0, .ref 0)]) ?_ [0] rfl
      exact hk1 _
    · refine g_aload_n (q := 9) ok dX10_goesThrough_8 rfl 0 rfl rfl ?_
      refine g_getR (q := 12) ok dX10_goesThrough_9 rfl fl_X10_102 sM_0 rfl ?_
      refine g_iload_n (q := 13) ok dX10_goesThrough_12 rfl 1 rfl rfl ?_
      refine g_iconst (v := (nI 0)) (q := 14) ok dX10_goesThrough_13 rfl (by decide) ?_
      refine g_iast (q := 15) ok dX10_goesThrough_14 rfl sM_31 ?_
      refine g_letw (fun w33 => ?_)
      refine g_iinc (v := v31 + (nI 1)) (q := 18) (L' := [(1, .int (v31 + (nI 1))), (0, .ref 0)]) ok dX10_goesThrough_15 rfl 1 rfl rfl (by decide) rfl rfl ?_
      refine g_goto (q := 2) ok dX10_goesThrough_18 (by decide) ?_
      refine g_to (L' := [(0, .ref 0), (1, .int (v31 + (nI 1)))]) ?_ [1, 0] rfl
      exact hgo30 _ _
set_option maxRecDepth 20000 in
theorem kX10_laysWeek (N : Nat) (w : gT) : gM S2 cl2 gTs yX10_laysWeek cX10_laysWeek 2 none rmX10_laysWeek gv [.ref 0] w (xX10_laysWeek N w) := by
  refine gM_of (own := RX10) [(0, .ref 0)] rfl (by decide) (fun _ => rfl) (fun _ => Nat.le_of_ble_eq_true rfl) (fun κ ok => ?_)
  unfold xX10_laysWeek
  refine g_aload_n (q := 1) ok dX10_laysWeek_0 rfl 0 rfl rfl ?_
  refine g_getI (q := 4) (N := 0) ok dX10_laysWeek_1 rfl fl_X10_154 sM_0 rfl ?_
  refine g_leti (fun v1 => ?_)
  refine g_istore_n (q := 5) (L' := [(1, .int v1), (0, .ref 0)]) ok dX10_laysWeek_4 rfl rfl (by decide) rfl rfl ?_
  refine g_aload_n (q := 6) ok dX10_laysWeek_5 rfl 1 rfl rfl ?_
  refine g_callVv (q := 9) (As := []) (st := []) ok tbl_good dX10_laysWeek_6 rfl (kX10_goesThrough N _) cf_X10_354 ⟨rfl, rfl, Nat.le_of_ble_eq_true rfl, Nat.le_of_ble_eq_true rfl⟩ sM_0 rfl rfl rfl (fun _ => Nat.le_of_ble_eq_true rfl) (fun w2 => ?_)
  refine g_aload_n (q := 10) ok dX10_laysWeek_9 rfl 1 rfl rfl ?_
  refine g_iload_n (q := 11) ok dX10_laysWeek_10 rfl 0 rfl rfl ?_
  refine g_put (q := 14) ok dX10_laysWeek_11 rfl fp_X10_154 sM_0 rfl rfl rfl ?_
  refine g_letw (fun w3 => ?_)
  exact g_vret ok dX10_laysWeek_14
set_option maxRecDepth 20000 in
theorem kX10_isSum (a1 : Int32) (w : gT) : gM S2 cl2 gTs yX10_isSum cX10_isSum 2 (some .boolean) rmX10_isSum gi [.ref 0, .int a1] w (xX10_isSum a1 w) := by
  refine gM_of (own := RX10) [(0, .ref 0), (1, .int a1)] rfl (by decide) (fun _ => rfl) (fun _ => Nat.le_of_ble_eq_true rfl) (fun κ ok => ?_)
  unfold xX10_isSum
  refine g_iload_n (q := 1) ok dX10_isSum_0 rfl 1 rfl rfl ?_
  refine g_iconst (v := (nI 0)) (q := 2) ok dX10_isSum_1 rfl (by decide) ?_
  refine g_iconst (v := (nI 4)) (q := 3) ok dX10_isSum_2 rfl (by decide) ?_
  refine g_callSi (q := 6) (As := [.int a1, .int (nI 0), .int (nI 4)]) (st := []) ok tbl_good dX10_isSum_3 rfl (kX10_in _ _ _ _) cf_X10_175 ⟨rfl, rfl, Nat.le_of_ble_eq_true rfl, Nat.le_of_ble_eq_true rfl⟩ rfl rfl (fun _ => Nat.le_of_ble_eq_true rfl) (fun v1 w2 => ?_)
  refine g_if_ne (q := 9) (g := 53) ok dX10_isSum_6 rfl (by decide) ?_ ?_
  · refine g_iconst (v := (nI 1)) (q := 54) ok dX10_isSum_53 rfl (by decide) ?_
    refine g_goto (q := 58) ok dX10_isSum_54 (by decide) ?_
    exact g_zret ok dX10_isSum_58 rfl
  · refine g_join (P := fun k3 => ∀ (w4 : gT), gJ S2 cl2 rmX10_isSum 2 gi κ 31 [(0, .ref 0), (1, .int a1)] [] w4 (k3 w4)) (fun w4 => ?_) (fun k3 hk3 => ?_)
    · refine g_iload_n (q := 32) ok dX10_isSum_31 rfl 1 rfl rfl ?_
      refine g_bipush (v := (nI 20)) (q := 34) ok dX10_isSum_32 rfl (by decide) ?_
      refine g_bipush (v := (nI 39)) (q := 36) ok dX10_isSum_34 rfl (by decide) ?_
      refine g_callSi (q := 39) (As := [.int a1, .int (nI 20), .int (nI 39)]) (st := []) ok tbl_good dX10_isSum_36 rfl (kX10_in _ _ _ _) cf_X10_175 ⟨rfl, rfl, Nat.le_of_ble_eq_true rfl, Nat.le_of_ble_eq_true rfl⟩ rfl rfl (fun _ => Nat.le_of_ble_eq_true rfl) (fun v5 w6 => ?_)
      refine g_if_eq (q := 42) (g := 57) ok dX10_isSum_39 rfl (by decide) ?_ ?_
      · refine g_iconst (v := (nI 0)) (q := 58) ok dX10_isSum_57 rfl (by decide) ?_
        exact g_zret ok dX10_isSum_58 rfl
      · refine g_aload_n (q := 43) ok dX10_isSum_42 rfl 0 rfl rfl ?_
        refine g_iload_n (q := 44) ok dX10_isSum_43 rfl 1 rfl rfl ?_
        refine g_bipush (v := (nI 10)) (q := 46) ok dX10_isSum_44 rfl (by decide) ?_
        refine g_iremC (q := 47) ok dX10_isSum_46 rfl (by decide) ?_
        refine g_callVi (q := 50) (As := [.int (gRem a1 (nI 10))]) (st := []) ok tbl_good dX10_isSum_47 rfl (kX10_isGhost _ _) cf_X10_236 ⟨rfl, rfl, Nat.le_of_ble_eq_true rfl, Nat.le_of_ble_eq_true rfl⟩ sM_0 rfl rfl rfl (fun _ => Nat.le_of_ble_eq_true rfl) (fun v7 w8 => ?_)
        refine g_if_eq (q := 53) (g := 57) ok dX10_isSum_50 rfl (by decide) ?_ ?_
        · refine g_iconst (v := (nI 0)) (q := 58) ok dX10_isSum_57 rfl (by decide) ?_
          exact g_zret ok dX10_isSum_58 rfl
        · refine g_iconst (v := (nI 1)) (q := 54) ok dX10_isSum_53 rfl (by decide) ?_
          refine g_goto (q := 58) ok dX10_isSum_54 (by decide) ?_
          exact g_zret ok dX10_isSum_58 rfl
    · refine g_iload_n (q := 10) ok dX10_isSum_9 rfl 1 rfl rfl ?_
      refine g_bipush (v := (nI 10)) (q := 12) ok dX10_isSum_10 rfl (by decide) ?_
      refine g_bipush (v := (nI 19)) (q := 14) ok dX10_isSum_12 rfl (by decide) ?_
      refine g_callSi (q := 17) (As := [.int a1, .int (nI 10), .int (nI 19)]) (st := []) ok tbl_good dX10_isSum_14 rfl (kX10_in _ _ _ _) cf_X10_175 ⟨rfl, rfl, Nat.le_of_ble_eq_true rfl, Nat.le_of_ble_eq_true rfl⟩ rfl rfl (fun _ => Nat.le_of_ble_eq_true rfl) (fun v9 w10 => ?_)
      refine g_if_eq (q := 20) (g := 31) ok dX10_isSum_17 rfl (by decide) ?_ ?_
      · exact hk3 _
      · refine g_aload_n (q := 21) ok dX10_isSum_20 rfl 0 rfl rfl ?_
        refine g_iload_n (q := 22) ok dX10_isSum_21 rfl 1 rfl rfl ?_
        refine g_bipush (v := (nI 10)) (q := 24) ok dX10_isSum_22 rfl (by decide) ?_
        refine g_isub (q := 25) ok dX10_isSum_24 rfl ?_
        refine g_callVi (q := 28) (As := [.int (a1 - (nI 10))]) (st := []) ok tbl_good dX10_isSum_25 rfl (kX10_isSleeper _ _) cf_X10_185 ⟨rfl, rfl, Nat.le_of_ble_eq_true rfl, Nat.le_of_ble_eq_true rfl⟩ sM_0 rfl rfl rfl (fun _ => Nat.le_of_ble_eq_true rfl) (fun v11 w12 => ?_)
        refine g_if_ne (q := 31) (g := 53) ok dX10_isSum_28 rfl (by decide) ?_ ?_
        · refine g_iconst (v := (nI 1)) (q := 54) ok dX10_isSum_53 rfl (by decide) ?_
          refine g_goto (q := 58) ok dX10_isSum_54 (by decide) ?_
          exact g_zret ok dX10_isSum_58 rfl
        · exact hk3 _
set_option maxRecDepth 20000 in
theorem kX10_week (N : Nat) (a1 : Int32) (w : gT) : gM S2 cl2 gTs yX10_week cX10_week 2 (some .int) rmX10_week gi [.ref 0, .int a1] w (xX10_week N a1 w) := by
  refine gM_of (own := RX10) [(0, .ref 0), (1, .int a1)] rfl (by decide) (fun _ => rfl) (fun _ => Nat.le_of_ble_eq_true rfl) (fun κ ok => ?_)
  unfold xX10_week
  refine g_join (P := fun k1 => ∀ (w2 : gT), gJ S2 cl2 rmX10_week 2 gi κ 21 [(0, .ref 0), (1, .int a1)] [] w2 (k1 w2)) (fun w2 => ?_) (fun k1 hk1 => ?_)
  · refine g_aload_n (q := 22) ok dX10_week_21 rfl 0 rfl rfl ?_
    refine g_callVv (q := 25) (As := []) (st := []) ok tbl_good dX10_week_22 rfl (kX10_laysWeek N _) cf_X10_360 ⟨rfl, rfl, Nat.le_of_ble_eq_true rfl, Nat.le_of_ble_eq_true rfl⟩ sM_0 rfl rfl rfl (fun _ => Nat.le_of_ble_eq_true rfl) (fun w3 => ?_)
    refine g_aload_n (q := 26) ok dX10_week_25 rfl 0 rfl rfl ?_
    refine g_getR (q := 29) ok dX10_week_26 rfl fl_X10_102 sM_0 rfl ?_
    refine g_iload_n (q := 30) ok dX10_week_29 rfl 1 rfl rfl ?_
    refine g_iald (q := 31) ok dX10_week_30 rfl sM_31 ?_
    exact g_iret ok dX10_week_31
  · refine g_aload_n (q := 1) ok dX10_week_0 rfl 0 rfl rfl ?_
    refine g_iload_n (q := 2) ok dX10_week_1 rfl 1 rfl rfl ?_
    refine g_callVi (q := 5) (As := [.int a1]) (st := []) ok tbl_good dX10_week_2 rfl (kX10_isSum _ _) cf_X10_357 ⟨rfl, rfl, Nat.le_of_ble_eq_true rfl, Nat.le_of_ble_eq_true rfl⟩ sM_0 rfl rfl rfl (fun _ => Nat.le_of_ble_eq_true rfl) (fun v4 w5 => ?_)
    refine g_if_ne (q := 8) (g := 21) ok dX10_week_5 rfl (by decide) ?_ ?_
    · exact hk1 _
    · refine g_iload_n (q := 9) ok dX10_week_8 rfl 1 rfl rfl ?_
      refine g_bipush (v := (nI 40)) (q := 11) ok dX10_week_9 rfl (by decide) ?_
      refine g_bipush (v := (nI 46)) (q := 13) ok dX10_week_11 rfl (by decide) ?_
      refine g_callSi (q := 16) (As := [.int a1, .int (nI 40), .int (nI 46)]) (st := []) ok tbl_good dX10_week_13 rfl (kX10_in _ _ _ _) cf_X10_175 ⟨rfl, rfl, Nat.le_of_ble_eq_true rfl, Nat.le_of_ble_eq_true rfl⟩ rfl rfl (fun _ => Nat.le_of_ble_eq_true rfl) (fun v6 w7 => ?_)
      refine g_if_ne (q := 19) (g := 21) ok dX10_week_16 rfl (by decide) ?_ ?_
      · exact hk1 _
      · refine g_iconst (v := (-1)) (q := 20) ok dX10_week_19 rfl (by decide) ?_
        exact g_iret ok dX10_week_20
set_option maxRecDepth 20000 in
theorem kX10_live (N : Nat) (w : gT) : gM S2 cl2 gTs yX10_live cX10_live 2 (some .int) rmX10_live gi [.ref 0] w (xX10_live N w) := by
  refine gM_of (own := RX10) [(0, .ref 0)] rfl (by decide) (fun _ => rfl) (fun _ => Nat.le_of_ble_eq_true rfl) (fun κ ok => ?_)
  unfold xX10_live
  refine g_aload_n (q := 1) ok dX10_live_0 rfl 0 rfl rfl ?_
  refine g_callVv (q := 4) (As := []) (st := []) ok tbl_good dX10_live_1 rfl (kX10_goesThrough N _) cf_X10_354 ⟨rfl, rfl, Nat.le_of_ble_eq_true rfl, Nat.le_of_ble_eq_true rfl⟩ sM_0 rfl rfl rfl (fun _ => Nat.le_of_ble_eq_true rfl) (fun w1 => ?_)
  refine g_iconst (v := (nI 0)) (q := 5) ok dX10_live_4 rfl (by decide) ?_
  refine g_istore_n (q := 6) (L' := [(1, .int (nI 0)), (0, .ref 0)]) ok dX10_live_5 rfl rfl (by decide) rfl rfl ?_
  refine g_join (P := fun k2 => ∀ (w3 : gT), gJ S2 cl2 rmX10_live 2 gi κ 37 [(0, .ref 0)] [] w3 (k2 w3)) (fun w3 => ?_) (fun k2 hk2 => ?_)
  · refine g_aload_n (q := 38) ok dX10_live_37 rfl 0 rfl rfl ?_
    refine g_getR (q := 41) ok dX10_live_38 rfl fl_X10_31 sM_0 rfl ?_
    refine g_iconst (v := (nI 5)) (q := 42) ok dX10_live_41 rfl (by decide) ?_
    refine g_aload_n (q := 43) ok dX10_live_42 rfl 0 rfl rfl ?_
    refine g_getR (q := 46) ok dX10_live_43 rfl fl_X10_31 sM_0 rfl ?_
    refine g_iconst (v := (nI 5)) (q := 47) ok dX10_live_46 rfl (by decide) ?_
    refine g_ialdC (j := 5) (q := 48) ok dX10_live_47 rfl sM_8 (by decide) (by decide) ?_
    refine g_iconst (v := (nI 1)) (q := 49) ok dX10_live_48 rfl (by decide) ?_
    refine g_iadd (q := 50) ok dX10_live_49 rfl ?_
    refine g_iastC (j := 5) (q := 51) ok dX10_live_50 rfl sM_8 (by decide) (by decide) ?_
    refine g_letw (fun w4 => ?_)
    refine g_aload_n (q := 52) ok dX10_live_51 rfl 0 rfl rfl ?_
    refine g_getR (q := 55) ok dX10_live_52 rfl fl_X10_102 sM_0 rfl ?_
    refine g_iconst (v := (nI 0)) (q := 56) ok dX10_live_55 rfl (by decide) ?_
    refine g_ialdC (j := 0) (q := 57) ok dX10_live_56 rfl sM_31 (by decide) (by decide) ?_
    exact g_iret ok dX10_live_57
  · refine g_to (L' := [(0, .ref 0), (1, .int (nI 0))]) ?_ [1, 0] rfl
    refine g_loop1 (Lf := fun v6 => [(0, .ref 0), (1, .int v6)]) (fun go5 hgo5 v6 w7 => ?_) N _ _
    unfold xX10_live_b6
    refine g_iload_n (q := 7) ok dX10_live_6 rfl 1 rfl rfl ?_
    refine g_bipush (v := (nI 40)) (q := 9) ok dX10_live_7 rfl (by decide) ?_
    refine g_icmp_ge (q := 12) (g := 37) ok dX10_live_9 rfl (by decide) ?_ ?_
    · refine g_to (L' := [(0, .ref 0)]) ?_ [0] rfl
      exact hk2 _
    · refine g_aload_n (q := 13) ok dX10_live_12 rfl 0 rfl rfl ?_
      refine g_getR (q := 16) ok dX10_live_13 rfl fl_X10_31 sM_0 rfl ?_
      refine g_iload_n (q := 17) ok dX10_live_16 rfl 1 rfl rfl ?_
      refine g_aload_n (q := 18) ok dX10_live_17 rfl 0 rfl rfl ?_
      refine g_getR (q := 21) ok dX10_live_18 rfl fl_X10_31 sM_0 rfl ?_
      refine g_iload_n (q := 22) ok dX10_live_21 rfl 1 rfl rfl ?_
      refine g_iald (q := 23) ok dX10_live_22 rfl sM_8 ?_
      refine g_aload_n (q := 24) ok dX10_live_23 rfl 0 rfl rfl ?_
      refine g_getR (q := 27) ok dX10_live_24 rfl fl_X10_102 sM_0 rfl ?_
      refine g_iload_n (q := 28) ok dX10_live_27 rfl 1 rfl rfl ?_
      refine g_iald (q := 29) ok dX10_live_28 rfl sM_31 ?_
      refine g_iadd (q := 30) ok dX10_live_29 rfl ?_
      refine g_iast (q := 31) ok dX10_live_30 rfl sM_8 ?_
      refine g_letw (fun w8 => ?_)
      refine g_iinc (v := v6 + (nI 1)) (q := 34) (L' := [(1, .int (v6 + (nI 1))), (0, .ref 0)]) ok dX10_live_31 rfl 1 rfl rfl (by decide) rfl rfl ?_
      refine g_goto (q := 6) ok dX10_live_34 (by decide) ?_
      refine g_to (L' := [(0, .ref 0), (1, .int (v6 + (nI 1)))]) ?_ [1, 0] rfl
      exact hgo5 _ _
set_option maxRecDepth 20000 in
theorem kX10_soFar (a1 : Int32) (w : gT) : gM S2 cl2 gTs yX10_soFar cX10_soFar 2 (some .int) rmX10_soFar gi [.ref 0, .int a1] w (xX10_soFar a1 w) := by
  refine gM_of (own := RX10) [(0, .ref 0), (1, .int a1)] rfl (by decide) (fun _ => rfl) (fun _ => Nat.le_of_ble_eq_true rfl) (fun κ ok => ?_)
  unfold xX10_soFar
  refine g_aload_n (q := 1) ok dX10_soFar_0 rfl 0 rfl rfl ?_
  refine g_iload_n (q := 2) ok dX10_soFar_1 rfl 1 rfl rfl ?_
  refine g_callVi (q := 5) (As := [.int a1]) (st := []) ok tbl_good dX10_soFar_2 rfl (kX10_isSum _ _) cf_X10_357 ⟨rfl, rfl, Nat.le_of_ble_eq_true rfl, Nat.le_of_ble_eq_true rfl⟩ sM_0 rfl rfl rfl (fun _ => Nat.le_of_ble_eq_true rfl) (fun v1 w2 => ?_)
  refine g_if_ne (q := 8) (g := 13) ok dX10_soFar_5 rfl (by decide) ?_ ?_
  · refine g_aload_n (q := 14) ok dX10_soFar_13 rfl 0 rfl rfl ?_
    refine g_getR (q := 17) ok dX10_soFar_14 rfl fl_X10_31 sM_0 rfl ?_
    refine g_iload_n (q := 18) ok dX10_soFar_17 rfl 1 rfl rfl ?_
    refine g_iald (q := 19) ok dX10_soFar_18 rfl sM_8 ?_
    refine g_goto (q := 23) ok dX10_soFar_19 (by decide) ?_
    exact g_iret ok dX10_soFar_23
  · refine g_iload_n (q := 9) ok dX10_soFar_8 rfl 1 rfl rfl ?_
    refine g_iconst (v := (nI 5)) (q := 10) ok dX10_soFar_9 rfl (by decide) ?_
    refine g_icmp_ne (q := 13) (g := 22) ok dX10_soFar_10 rfl (by decide) ?_ ?_
    · refine g_iconst (v := (-1)) (q := 23) ok dX10_soFar_22 rfl (by decide) ?_
      exact g_iret ok dX10_soFar_23
    · refine g_aload_n (q := 14) ok dX10_soFar_13 rfl 0 rfl rfl ?_
      refine g_getR (q := 17) ok dX10_soFar_14 rfl fl_X10_31 sM_0 rfl ?_
      refine g_iload_n (q := 18) ok dX10_soFar_17 rfl 1 rfl rfl ?_
      refine g_iald (q := 19) ok dX10_soFar_18 rfl sM_8 ?_
      refine g_goto (q := 23) ok dX10_soFar_19 (by decide) ?_
      exact g_iret ok dX10_soFar_23
set_option maxRecDepth 20000 in
theorem kX10_onceBy (a1 : Int32) (a2 : Int32) (a3 : Int32) (w : gT) : gM S2 cl2 gTs yX10_onceBy cX10_onceBy 5 (some .int) rmX10_onceBy gi [.ref 0, .int a1, .int a2, .int a3] w (xX10_onceBy a1 a2 a3 w) := by
  refine gM_of (own := RX10) [(0, .ref 0), (1, .int a1), (2, .int a2), (3, .int a3)] rfl (by decide) (fun _ => rfl) (fun _ => Nat.le_of_ble_eq_true rfl) (fun κ ok => ?_)
  unfold xX10_onceBy
  refine g_iload_n (q := 1) ok dX10_onceBy_0 rfl 2 rfl rfl ?_
  refine g_bipush (v := (nI 84)) (q := 3) ok dX10_onceBy_1 rfl (by decide) ?_
  refine g_icmp_ne (q := 6) (g := 21) ok dX10_onceBy_3 rfl (by decide) ?_ ?_
  · refine g_aload_n (q := 22) ok dX10_onceBy_21 rfl 0 rfl rfl ?_
    refine g_getR (q := 25) ok dX10_onceBy_22 rfl fl_X10_105 sM_0 rfl ?_
    refine g_bipush (v := (nI 84)) (q := 27) ok dX10_onceBy_25 rfl (by decide) ?_
    refine g_iload_n (q := 28) ok dX10_onceBy_27 rfl 1 rfl rfl ?_
    refine g_imul (q := 29) ok dX10_onceBy_28 rfl ?_
    refine g_iload_n (q := 30) ok dX10_onceBy_29 rfl 2 rfl rfl ?_
    refine g_iadd (q := 31) ok dX10_onceBy_30 rfl ?_
    refine g_iald (q := 32) ok dX10_onceBy_31 rfl sM_32 ?_
    refine g_leti (fun v1 => ?_)
    refine g_istore (q := 34) (L' := [(4, .int v1), (0, .ref 0), (1, .int a1), (2, .int a2), (3, .int a3)]) ok dX10_onceBy_32 rfl (by decide) rfl rfl ?_
    refine g_iload (q := 36) ok dX10_onceBy_34 rfl 0 rfl ?_
    refine g_iload_n (q := 37) ok dX10_onceBy_36 rfl 4 rfl rfl ?_
    refine g_iand (q := 38) ok dX10_onceBy_37 rfl ?_
    refine g_if_eq (q := 41) (g := 47) ok dX10_onceBy_38 rfl (by decide) ?_ ?_
    · refine g_aload_n (q := 48) ok dX10_onceBy_47 rfl 1 rfl rfl ?_
      refine g_getR (q := 51) ok dX10_onceBy_48 rfl fl_X10_108 sM_0 rfl ?_
      refine g_sipush (v := (nI 1024)) (q := 54) ok dX10_onceBy_51 rfl (by decide) ?_
      refine g_iload_n (q := 55) ok dX10_onceBy_54 rfl 2 rfl rfl ?_
      refine g_iconst (v := (nI 1)) (q := 56) ok dX10_onceBy_55 rfl (by decide) ?_
      refine g_iadd (q := 57) ok dX10_onceBy_56 rfl ?_
      refine g_imul (q := 58) ok dX10_onceBy_57 rfl ?_
      refine g_iload_n (q := 59) ok dX10_onceBy_58 rfl 4 rfl rfl ?_
      refine g_iload (q := 61) ok dX10_onceBy_59 rfl 0 rfl ?_
      refine g_ior (q := 62) ok dX10_onceBy_61 rfl ?_
      refine g_iadd (q := 63) ok dX10_onceBy_62 rfl ?_
      refine g_iald (q := 64) ok dX10_onceBy_63 rfl sM_33 ?_
      refine g_iconst (v := (nI 1)) (q := 65) ok dX10_onceBy_64 rfl (by decide) ?_
      refine g_iadd (q := 66) ok dX10_onceBy_65 rfl ?_
      exact g_iret ok dX10_onceBy_66
    · refine g_ldcw (q := 44) ok dX10_onceBy_41 rfl tw_1498 ?_
      refine g_goto (q := 66) ok dX10_onceBy_44 (by decide) ?_
      exact g_iret ok dX10_onceBy_66
  · refine g_aload_n (q := 7) ok dX10_onceBy_6 rfl 0 rfl rfl ?_
    refine g_getR (q := 10) ok dX10_onceBy_7 rfl fl_X10_108 sM_0 rfl ?_
    refine g_sipush (v := (nI 1024)) (q := 13) ok dX10_onceBy_10 rfl (by decide) ?_
    refine g_iload_n (q := 14) ok dX10_onceBy_13 rfl 1 rfl rfl ?_
    refine g_iconst (v := (nI 1)) (q := 15) ok dX10_onceBy_14 rfl (by decide) ?_
    refine g_iadd (q := 16) ok dX10_onceBy_15 rfl ?_
    refine g_imul (q := 17) ok dX10_onceBy_16 rfl ?_
    refine g_iload_n (q := 18) ok dX10_onceBy_17 rfl 3 rfl rfl ?_
    refine g_iadd (q := 19) ok dX10_onceBy_18 rfl ?_
    refine g_iald (q := 20) ok dX10_onceBy_19 rfl sM_33 ?_
    exact g_iret ok dX10_onceBy_20
set_option maxRecDepth 20000 in
theorem kX10_min (a0 : Int32) (a1 : Int32) (w : gT) : gM S2 cl2 gTs yX10_min cX10_min 2 (some .int) rmX10_min gi [.int a0, .int a1] w (xX10_min a0 a1 w) := by
  refine gM_of (own := RX10) [(0, .int a0), (1, .int a1)] rfl (by decide) (fun _ => rfl) (fun _ => Nat.le_of_ble_eq_true rfl) (fun κ ok => ?_)
  unfold xX10_min
  refine g_iload_n (q := 1) ok dX10_min_0 rfl 0 rfl rfl ?_
  refine g_iload_n (q := 2) ok dX10_min_1 rfl 1 rfl rfl ?_
  refine g_icmp_ge (q := 5) (g := 9) ok dX10_min_2 rfl (by decide) ?_ ?_
  · refine g_iload_n (q := 10) ok dX10_min_9 rfl 1 rfl rfl ?_
    exact g_iret ok dX10_min_10
  · refine g_iload_n (q := 6) ok dX10_min_5 rfl 0 rfl rfl ?_
    refine g_goto (q := 10) ok dX10_min_6 (by decide) ?_
    exact g_iret ok dX10_min_10
set_option maxRecDepth 20000 in
theorem kX10_frightened (N : Nat) (a1 : Int32) (a2 : Int32) (a3 : Int32) (w : gT) : gM S2 cl2 gTs yX10_frightened cX10_frightened 6 (some .int) rmX10_frightened gi [.ref 0, .int a1, .int a2, .int a3] w (xX10_frightened N a1 a2 a3 w) := by
  refine gM_of (own := RX10) [(0, .ref 0), (1, .int a1), (2, .int a2), (3, .int a3)] rfl (by decide) (fun _ => rfl) (fun _ => Nat.le_of_ble_eq_true rfl) (fun κ ok => ?_)
  unfold xX10_frightened
  refine g_iconst (v := (nI 0)) (q := 1) ok dX10_frightened_0 rfl (by decide) ?_
  refine g_istore (q := 3) (L' := [(4, .int (nI 0)), (0, .ref 0), (1, .int a1), (2, .int a2), (3, .int a3)]) ok dX10_frightened_1 rfl (by decide) rfl rfl ?_
  refine g_iconst (v := (nI 0)) (q := 4) ok dX10_frightened_3 rfl (by decide) ?_
  refine g_istore (q := 6) (L' := [(5, .int (nI 0)), (4, .int (nI 0)), (0, .ref 0), (1, .int a1), (2, .int a2), (3, .int a3)]) ok dX10_frightened_4 rfl (by decide) rfl rfl ?_
  refine g_to (L' := [(0, .ref 0), (1, .int a1), (2, .int a2), (3, .int a3), (4, .int (nI 0)), (5, .int (nI 0))]) ?_ [2, 3, 4, 5, 1, 0] rfl
  refine g_loop2 (Lf := fun v2 v3 => [(0, .ref 0), (1, .int a1), (2, .int a2), (3, .int a3), (4, .int v2), (5, .int v3)]) (fun go1 hgo1 v2 v3 w4 => ?_) N _ _ _
  unfold xX10_frightened_b6
  refine g_iload (q := 8) ok dX10_frightened_6 rfl 5 rfl ?_
  refine g_bipush (v := (nI 10)) (q := 10) ok dX10_frightened_8 rfl (by decide) ?_
  refine g_icmp_ge (q := 13) (g := 52) ok dX10_frightened_10 rfl (by decide) ?_ ?_
  · refine g_iload (q := 54) ok dX10_frightened_52 rfl 4 rfl ?_
    exact g_iret ok dX10_frightened_54
  · refine g_join (P := fun k5 => ∀ (v6 : Int32) (w7 : gT), gJ S2 cl2 rmX10_frightened 6 gi κ 46 [(0, .ref 0), (1, .int a1), (2, .int a2), (3, .int a3), (5, .int v3), (4, .int v6)] [] w7 (k5 v6 w7)) (fun v6 w7 => ?_) (fun k5 hk5 => ?_)
    · refine g_iinc (v := v3 + (nI 1)) (q := 49) (L' := [(5, .int (v3 + (nI 1))), (0, .ref 0), (1, .int a1), (2, .int a2), (3, .int a3), (4, .int v6)]) ok dX10_frightened_46 rfl 4 rfl rfl (by decide) rfl rfl ?_
      refine g_goto (q := 6) ok dX10_frightened_49 (by decide) ?_
      refine g_to (L' := [(0, .ref 0), (1, .int a1), (2, .int a2), (3, .int a3), (4, .int v6), (5, .int (v3 + (nI 1)))]) ?_ [1, 2, 3, 4, 5, 0] rfl
      exact hgo1 _ _ _
    · refine g_aload_n (q := 14) ok dX10_frightened_13 rfl 0 rfl rfl ?_
      refine g_iload (q := 16) ok dX10_frightened_14 rfl 5 rfl ?_
      refine g_callVi (q := 19) (As := [.int v3]) (st := []) ok tbl_good dX10_frightened_16 rfl (kX10_isSleeper _ _) cf_X10_185 ⟨rfl, rfl, Nat.le_of_ble_eq_true rfl, Nat.le_of_ble_eq_true rfl⟩ sM_0 rfl rfl rfl (fun _ => Nat.le_of_ble_eq_true rfl) (fun v8 w9 => ?_)
      refine g_if_eq (q := 22) (g := 46) ok dX10_frightened_19 rfl (by decide) ?_ ?_
      · refine g_to (L' := [(0, .ref 0), (1, .int a1), (2, .int a2), (3, .int a3), (5, .int v3), (4, .int v2)]) ?_ [0, 1, 2, 3, 5, 4] rfl
        exact hk5 _ _
      · refine g_aload_n (q := 23) ok dX10_frightened_22 rfl 0 rfl rfl ?_
        refine g_iload_n (q := 24) ok dX10_frightened_23 rfl 1 rfl rfl ?_
        refine g_iload (q := 26) ok dX10_frightened_24 rfl 5 rfl ?_
        refine g_iload_n (q := 27) ok dX10_frightened_26 rfl 2 rfl rfl ?_
        refine g_iload_n (q := 28) ok dX10_frightened_27 rfl 3 rfl rfl ?_
        refine g_iconst (v := (nI 0)) (q := 29) ok dX10_frightened_28 rfl (by decide) ?_
        refine g_callVi (q := 32) (As := [.int a1, .int v3, .int a2, .int a3, .int (nI 0)]) (st := []) ok tbl_good dX10_frightened_29 rfl (kX10_frightOf N _ _ _ _ _ _) cf_X10_336 ⟨rfl, rfl, Nat.le_of_ble_eq_true rfl, Nat.le_of_ble_eq_true rfl⟩ sM_0 rfl rfl rfl (fun _ => Nat.le_of_ble_eq_true rfl) (fun v10 w11 => ?_)
        refine g_bipush (v := (-2)) (q := 34) ok dX10_frightened_32 rfl (by decide) ?_
        refine g_icmp_eq (q := 37) (g := 46) ok dX10_frightened_34 rfl (by decide) ?_ ?_
        · refine g_to (L' := [(0, .ref 0), (1, .int a1), (2, .int a2), (3, .int a3), (5, .int v3), (4, .int v2)]) ?_ [0, 1, 2, 3, 5, 4] rfl
          exact hk5 _ _
        · refine g_iload (q := 39) ok dX10_frightened_37 rfl 4 rfl ?_
          refine g_iconst (v := (nI 1)) (q := 40) ok dX10_frightened_39 rfl (by decide) ?_
          refine g_iload (q := 42) ok dX10_frightened_40 rfl 5 rfl ?_
          refine g_ishl (q := 43) ok dX10_frightened_42 rfl ?_
          refine g_ior (q := 44) ok dX10_frightened_43 rfl ?_
          refine g_leti (fun v12 => ?_)
          refine g_istore (q := 46) (L' := [(4, .int v12), (0, .ref 0), (1, .int a1), (2, .int a2), (3, .int a3), (5, .int v3)]) ok dX10_frightened_44 rfl (by decide) rfl rfl ?_
          refine g_to (L' := [(0, .ref 0), (1, .int a1), (2, .int a2), (3, .int a3), (5, .int v3), (4, .int v12)]) ?_ [1, 2, 3, 4, 5, 0] rfl
          exact hk5 _ _
set_option maxRecDepth 20000 in
theorem kX10_laysOnce (N : Nat) (a1 : Int32) (w : gT) : gM S2 cl2 gTs yX10_laysOnce cX10_laysOnce 6 none rmX10_laysOnce gv [.ref 0, .int a1] w (xX10_laysOnce N a1 w) := by
  refine gM_of (own := RX10) [(0, .ref 0), (1, .int a1)] rfl (by decide) (fun _ => rfl) (fun _ => Nat.le_of_ble_eq_true rfl) (fun κ ok => ?_)
  unfold xX10_laysOnce
  refine g_iconst (v := (nI 0)) (q := 1) ok dX10_laysOnce_0 rfl (by decide) ?_
  refine g_istore_n (q := 2) (L' := [(2, .int (nI 0)), (0, .ref 0), (1, .int a1)]) ok dX10_laysOnce_1 rfl rfl (by decide) rfl rfl ?_
  refine g_join (P := fun k1 => ∀ (w2 : gT), gJ S2 cl2 rmX10_laysOnce 6 gv κ 62 [(0, .ref 0), (1, .int a1)] [] w2 (k1 w2)) (fun w2 => ?_) (fun k1 hk1 => ?_)
  · refine g_iconst (v := (nI 0)) (q := 63) ok dX10_laysOnce_62 rfl (by decide) ?_
    refine g_istore_n (q := 64) (L' := [(2, .int (nI 0)), (0, .ref 0), (1, .int a1)]) ok dX10_laysOnce_63 rfl rfl (by decide) rfl rfl ?_
    refine g_join (P := fun k3 => ∀ (w4 : gT), gJ S2 cl2 rmX10_laysOnce 6 gv κ 99 [(0, .ref 0), (1, .int a1)] [] w4 (k3 w4)) (fun w4 => ?_) (fun k3 hk3 => ?_)
    · refine g_bipush (v := (nI 9)) (q := 101) ok dX10_laysOnce_99 rfl (by decide) ?_
      refine g_istore_n (q := 102) (L' := [(2, .int (nI 9)), (0, .ref 0), (1, .int a1)]) ok dX10_laysOnce_101 rfl rfl (by decide) rfl rfl ?_
      refine g_to (L' := [(0, .ref 0), (1, .int a1), (2, .int (nI 9))]) ?_ [1, 2, 0] rfl
      refine g_loop1 (Lf := fun v6 => [(0, .ref 0), (1, .int a1), (2, .int v6)]) (fun go5 hgo5 v6 w7 => ?_) N _ _
      unfold xX10_laysOnce_b102
      refine g_iload_n (q := 103) ok dX10_laysOnce_102 rfl 2 rfl rfl ?_
      refine g_if_lt (q := 106) (g := 198) ok dX10_laysOnce_103 rfl (by decide) ?_ ?_
      · exact g_vret ok dX10_laysOnce_198
      · refine g_iconst (v := (nI 0)) (q := 107) ok dX10_laysOnce_106 rfl (by decide) ?_
        refine g_istore_n (q := 108) (L' := [(3, .int (nI 0)), (0, .ref 0), (1, .int a1), (2, .int v6)]) ok dX10_laysOnce_107 rfl rfl (by decide) rfl rfl ?_
        refine g_join (P := fun k8 => ∀ (w9 : gT), gJ S2 cl2 rmX10_laysOnce 6 gv κ 192 [(0, .ref 0), (1, .int a1), (2, .int v6)] [] w9 (k8 w9)) (fun w9 => ?_) (fun k8 hk8 => ?_)
        · refine g_iinc (v := v6 + (-1)) (q := 195) (L' := [(2, .int (v6 + (-1))), (0, .ref 0), (1, .int a1)]) ok dX10_laysOnce_192 rfl 2 rfl rfl (by decide) rfl rfl ?_
          refine g_goto (q := 102) ok dX10_laysOnce_195 (by decide) ?_
          refine g_to (L' := [(0, .ref 0), (1, .int a1), (2, .int (v6 + (-1)))]) ?_ [1, 2, 0] rfl
          exact hgo5 _ _
        · refine g_to (L' := [(0, .ref 0), (1, .int a1), (2, .int v6), (3, .int (nI 0))]) ?_ [1, 2, 3, 0] rfl
          refine g_loop1 (Lf := fun v11 => [(0, .ref 0), (1, .int a1), (2, .int v6), (3, .int v11)]) (fun go10 hgo10 v11 w12 => ?_) N _ _
          unfold xX10_laysOnce_b108
          refine g_iload_n (q := 109) ok dX10_laysOnce_108 rfl 3 rfl rfl ?_
          refine g_sipush (v := (nI 1024)) (q := 112) ok dX10_laysOnce_109 rfl (by decide) ?_
          refine g_icmp_ge (q := 115) (g := 192) ok dX10_laysOnce_112 rfl (by decide) ?_ ?_
          · refine g_to (L' := [(0, .ref 0), (1, .int a1), (2, .int v6)]) ?_ [0, 1, 2] rfl
            exact hk8 _
          · refine g_aload_n (q := 116) ok dX10_laysOnce_115 rfl 0 rfl rfl ?_
            refine g_iload_n (q := 117) ok dX10_laysOnce_116 rfl 2 rfl rfl ?_
            refine g_bipush (v := (nI 84)) (q := 119) ok dX10_laysOnce_117 rfl (by decide) ?_
            refine g_iload_n (q := 120) ok dX10_laysOnce_119 rfl 3 rfl rfl ?_
            refine g_callVi (q := 123) (As := [.int v6, .int (nI 84), .int v11]) (st := []) ok tbl_good dX10_laysOnce_120 rfl (kX10_onceBy _ _ _ _) cf_X10_367 ⟨rfl, rfl, Nat.le_of_ble_eq_true rfl, Nat.le_of_ble_eq_true rfl⟩ sM_0 rfl rfl rfl (fun _ => Nat.le_of_ble_eq_true rfl) (fun v13 w14 => ?_)
            refine g_istore (q := 125) (L' := [(4, .int v13), (0, .ref 0), (1, .int a1), (2, .int v6), (3, .int v11)]) ok dX10_laysOnce_123 rfl (by decide) rfl rfl ?_
            refine g_iconst (v := (nI 0)) (q := 126) ok dX10_laysOnce_125 rfl (by decide) ?_
            refine g_istore (q := 128) (L' := [(5, .int (nI 0)), (4, .int v13), (0, .ref 0), (1, .int a1), (2, .int v6), (3, .int v11)]) ok dX10_laysOnce_126 rfl (by decide) rfl rfl ?_
            refine g_join (P := fun k15 => ∀ (v16 : Int32) (w17 : gT), gJ S2 cl2 rmX10_laysOnce 6 gv κ 172 [(0, .ref 0), (1, .int a1), (2, .int v6), (3, .int v11), (4, .int v16)] [] w17 (k15 v16 w17)) (fun v16 w17 => ?_) (fun k15 hk15 => ?_)
            · refine g_aload_n (q := 173) ok dX10_laysOnce_172 rfl 0 rfl rfl ?_
              refine g_getR (q := 176) ok dX10_laysOnce_173 rfl fl_X10_108 sM_0 rfl ?_
              refine g_sipush (v := (nI 1024)) (q := 179) ok dX10_laysOnce_176 rfl (by decide) ?_
              refine g_iload_n (q := 180) ok dX10_laysOnce_179 rfl 2 rfl rfl ?_
              refine g_imul (q := 181) ok dX10_laysOnce_180 rfl ?_
              refine g_iload_n (q := 182) ok dX10_laysOnce_181 rfl 3 rfl rfl ?_
              refine g_iadd (q := 183) ok dX10_laysOnce_182 rfl ?_
              refine g_iload (q := 185) ok dX10_laysOnce_183 rfl 4 rfl ?_
              refine g_iast (q := 186) ok dX10_laysOnce_185 rfl sM_33 ?_
              refine g_letw (fun w18 => ?_)
              refine g_iinc (v := v11 + (nI 1)) (q := 189) (L' := [(3, .int (v11 + (nI 1))), (0, .ref 0), (1, .int a1), (2, .int v6), (4, .int v16)]) ok dX10_laysOnce_186 rfl 3 rfl rfl (by decide) rfl rfl ?_
              refine g_goto (q := 108) ok dX10_laysOnce_189 (by decide) ?_
              refine g_to (L' := [(0, .ref 0), (1, .int a1), (2, .int v6), (3, .int (v11 + (nI 1)))]) ?_ [1, 2, 3, 0] rfl
              exact hgo10 _ _
            · refine g_to (L' := [(0, .ref 0), (1, .int a1), (2, .int v6), (3, .int v11), (4, .int v13), (5, .int (nI 0))]) ?_ [2, 3, 4, 5, 1, 0] rfl
              refine g_loop2 (Lf := fun v20 v21 => [(0, .ref 0), (1, .int a1), (2, .int v6), (3, .int v11), (4, .int v20), (5, .int v21)]) (fun go19 hgo19 v20 v21 w22 => ?_) N _ _ _
              unfold xX10_laysOnce_b128
              refine g_iload (q := 130) ok dX10_laysOnce_128 rfl 5 rfl ?_
              refine g_bipush (v := (nI 84)) (q := 132) ok dX10_laysOnce_130 rfl (by decide) ?_
              refine g_icmp_ge (q := 135) (g := 172) ok dX10_laysOnce_132 rfl (by decide) ?_ ?_
              · refine g_to (L' := [(0, .ref 0), (1, .int a1), (2, .int v6), (3, .int v11), (4, .int v20)]) ?_ [0, 1, 2, 3, 4] rfl
                exact hk15 _ _
              · refine g_aload_n (q := 136) ok dX10_laysOnce_135 rfl 0 rfl rfl ?_
                refine g_iload_n (q := 137) ok dX10_laysOnce_136 rfl 2 rfl rfl ?_
                refine g_callVi (q := 140) (As := [.int v6]) (st := []) ok tbl_good dX10_laysOnce_137 rfl (kX10_isGhost _ _) cf_X10_236 ⟨rfl, rfl, Nat.le_of_ble_eq_true rfl, Nat.le_of_ble_eq_true rfl⟩ sM_0 rfl rfl rfl (fun _ => Nat.le_of_ble_eq_true rfl) (fun v23 w24 => ?_)
                refine g_if_eq (q := 143) (g := 172) ok dX10_laysOnce_140 rfl (by decide) ?_ ?_
                · refine g_to (L' := [(0, .ref 0), (1, .int a1), (2, .int v6), (3, .int v11), (4, .int v20)]) ?_ [0, 1, 2, 3, 4] rfl
                  exact hk15 _ _
                · refine g_iload_n (q := 144) ok dX10_laysOnce_143 rfl 3 rfl rfl ?_
                  refine g_iload_n (q := 145) ok dX10_laysOnce_144 rfl 1 rfl rfl ?_
                  refine g_iconst (v := (-1)) (q := 146) ok dX10_laysOnce_145 rfl (by decide) ?_
                  refine g_ixor (q := 147) ok dX10_laysOnce_146 rfl ?_
                  refine g_iand (q := 148) ok dX10_laysOnce_147 rfl ?_
                  refine g_if_ne (q := 151) (g := 172) ok dX10_laysOnce_148 rfl (by decide) ?_ ?_
                  · refine g_to (L' := [(0, .ref 0), (1, .int a1), (2, .int v6), (3, .int v11), (4, .int v20)]) ?_ [0, 1, 2, 3, 4] rfl
                    exact hk15 _ _
                  · refine g_iload (q := 153) ok dX10_laysOnce_151 rfl 4 rfl ?_
                    refine g_aload_n (q := 154) ok dX10_laysOnce_153 rfl 0 rfl rfl ?_
                    refine g_iload_n (q := 155) ok dX10_laysOnce_154 rfl 2 rfl rfl ?_
                    refine g_iload (q := 157) ok dX10_laysOnce_155 rfl 5 rfl ?_
                    refine g_iload_n (q := 158) ok dX10_laysOnce_157 rfl 3 rfl rfl ?_
                    refine g_callVi (q := 161) (As := [.int v6, .int v21, .int v11]) (st := [.int v20]) ok tbl_good dX10_laysOnce_158 rfl (kX10_onceBy _ _ _ _) cf_X10_367 ⟨rfl, rfl, Nat.le_of_ble_eq_true rfl, Nat.le_of_ble_eq_true rfl⟩ sM_0 rfl rfl rfl (fun _ => Nat.le_of_ble_eq_true rfl) (fun v25 w26 => ?_)
                    refine g_callSi (q := 164) (As := [.int v20, .int v25]) (st := []) ok tbl_good dX10_laysOnce_161 rfl (kX10_min _ _ _) cf_X10_370 ⟨rfl, rfl, Nat.le_of_ble_eq_true rfl, Nat.le_of_ble_eq_true rfl⟩ rfl rfl (fun _ => Nat.le_of_ble_eq_true rfl) (fun v27 w28 => ?_)
                    refine g_istore (q := 166) (L' := [(4, .int v27), (0, .ref 0), (1, .int a1), (2, .int v6), (3, .int v11), (5, .int v21)]) ok dX10_laysOnce_164 rfl (by decide) rfl rfl ?_
                    refine g_iinc (v := v21 + (nI 1)) (q := 169) (L' := [(5, .int (v21 + (nI 1))), (4, .int v27), (0, .ref 0), (1, .int a1), (2, .int v6), (3, .int v11)]) ok dX10_laysOnce_166 rfl 5 rfl rfl (by decide) rfl rfl ?_
                    refine g_goto (q := 128) ok dX10_laysOnce_169 (by decide) ?_
                    refine g_to (L' := [(0, .ref 0), (1, .int a1), (2, .int v6), (3, .int v11), (4, .int v27), (5, .int (v21 + (nI 1)))]) ?_ [2, 3, 4, 5, 1, 0] rfl
                    exact hgo19 _ _ _
    · refine g_to (L' := [(0, .ref 0), (1, .int a1), (2, .int (nI 0))]) ?_ [1, 2, 0] rfl
      refine g_loop1 (Lf := fun v30 => [(0, .ref 0), (1, .int a1), (2, .int v30)]) (fun go29 hgo29 v30 w31 => ?_) N _ _
      unfold xX10_laysOnce_b64
      refine g_iload_n (q := 65) ok dX10_laysOnce_64 rfl 2 rfl rfl ?_
      refine g_sipush (v := (nI 1024)) (q := 68) ok dX10_laysOnce_65 rfl (by decide) ?_
      refine g_icmp_ge (q := 71) (g := 99) ok dX10_laysOnce_68 rfl (by decide) ?_ ?_
      · refine g_to (L' := [(0, .ref 0), (1, .int a1)]) ?_ [0, 1] rfl
        exact hk3 _
      · refine g_join (P := fun k32 => ∀ (v33 : Int32) (v34 : Int32) (w35 : gT), gJ S2 cl2 rmX10_laysOnce 6 gv κ 92 [(0, .ref 0), (1, .int a1), (2, .int v30)] [.int v34, .int v33, .ref 33] w35 (k32 v33 v34 w35)) (fun v33 v34 w35 => ?_) (fun k32 hk32 => ?_)
        · refine g_iast (q := 93) ok dX10_laysOnce_92 rfl sM_33 ?_
          refine g_letw (fun w36 => ?_)
          refine g_iinc (v := v30 + (nI 1)) (q := 96) (L' := [(2, .int (v30 + (nI 1))), (0, .ref 0), (1, .int a1)]) ok dX10_laysOnce_93 rfl 2 rfl rfl (by decide) rfl rfl ?_
          refine g_goto (q := 64) ok dX10_laysOnce_96 (by decide) ?_
          refine g_to (L' := [(0, .ref 0), (1, .int a1), (2, .int (v30 + (nI 1)))]) ?_ [1, 2, 0] rfl
          exact hgo29 _ _
        · refine g_aload_n (q := 72) ok dX10_laysOnce_71 rfl 0 rfl rfl ?_
          refine g_getR (q := 75) ok dX10_laysOnce_72 rfl fl_X10_108 sM_0 rfl ?_
          refine g_sipush (v := (nI 10240)) (q := 78) ok dX10_laysOnce_75 rfl (by decide) ?_
          refine g_iload_n (q := 79) ok dX10_laysOnce_78 rfl 2 rfl rfl ?_
          refine g_iadd (q := 80) ok dX10_laysOnce_79 rfl ?_
          refine g_iload_n (q := 81) ok dX10_laysOnce_80 rfl 2 rfl rfl ?_
          refine g_iload_n (q := 82) ok dX10_laysOnce_81 rfl 1 rfl rfl ?_
          refine g_icmp_ne (q := 85) (g := 89) ok dX10_laysOnce_82 rfl (by decide) ?_ ?_
          · refine g_ldcw (q := 92) ok dX10_laysOnce_89 rfl tw_1498 ?_
            exact hk32 _ _ _
          · refine g_iconst (v := (nI 0)) (q := 86) ok dX10_laysOnce_85 rfl (by decide) ?_
            refine g_goto (q := 92) ok dX10_laysOnce_86 (by decide) ?_
            exact hk32 _ _ _
  · refine g_to (L' := [(0, .ref 0), (1, .int a1), (2, .int (nI 0))]) ?_ [1, 2, 0] rfl
    refine g_loop1 (Lf := fun v38 => [(0, .ref 0), (1, .int a1), (2, .int v38)]) (fun go37 hgo37 v38 w39 => ?_) N _ _
    unfold xX10_laysOnce_b2
    refine g_iload_n (q := 3) ok dX10_laysOnce_2 rfl 2 rfl rfl ?_
    refine g_bipush (v := (nI 10)) (q := 5) ok dX10_laysOnce_3 rfl (by decide) ?_
    refine g_icmp_ge (q := 8) (g := 62) ok dX10_laysOnce_5 rfl (by decide) ?_ ?_
    · refine g_to (L' := [(0, .ref 0), (1, .int a1)]) ?_ [0, 1] rfl
      exact hk1 _
    · refine g_iconst (v := (nI 0)) (q := 9) ok dX10_laysOnce_8 rfl (by decide) ?_
      refine g_istore_n (q := 10) (L' := [(3, .int (nI 0)), (0, .ref 0), (1, .int a1), (2, .int v38)]) ok dX10_laysOnce_9 rfl rfl (by decide) rfl rfl ?_
      refine g_join (P := fun k40 => ∀ (w41 : gT), gJ S2 cl2 rmX10_laysOnce 6 gv κ 56 [(0, .ref 0), (1, .int a1), (2, .int v38)] [] w41 (k40 w41)) (fun w41 => ?_) (fun k40 hk40 => ?_)
      · refine g_iinc (v := v38 + (nI 1)) (q := 59) (L' := [(2, .int (v38 + (nI 1))), (0, .ref 0), (1, .int a1)]) ok dX10_laysOnce_56 rfl 2 rfl rfl (by decide) rfl rfl ?_
        refine g_goto (q := 2) ok dX10_laysOnce_59 (by decide) ?_
        refine g_to (L' := [(0, .ref 0), (1, .int a1), (2, .int (v38 + (nI 1)))]) ?_ [1, 2, 0] rfl
        exact hgo37 _ _
      · refine g_to (L' := [(0, .ref 0), (1, .int a1), (2, .int v38), (3, .int (nI 0))]) ?_ [1, 2, 3, 0] rfl
        refine g_loop1 (Lf := fun v43 => [(0, .ref 0), (1, .int a1), (2, .int v38), (3, .int v43)]) (fun go42 hgo42 v43 w44 => ?_) N _ _
        unfold xX10_laysOnce_b10
        refine g_iload_n (q := 11) ok dX10_laysOnce_10 rfl 3 rfl rfl ?_
        refine g_bipush (v := (nI 84)) (q := 13) ok dX10_laysOnce_11 rfl (by decide) ?_
        refine g_icmp_ge (q := 16) (g := 56) ok dX10_laysOnce_13 rfl (by decide) ?_ ?_
        · refine g_to (L' := [(0, .ref 0), (1, .int a1), (2, .int v38)]) ?_ [0, 1, 2] rfl
          exact hk40 _
        · refine g_aload_n (q := 17) ok dX10_laysOnce_16 rfl 0 rfl rfl ?_
          refine g_iload_n (q := 18) ok dX10_laysOnce_17 rfl 2 rfl rfl ?_
          refine g_callVi (q := 21) (As := [.int v38]) (st := []) ok tbl_good dX10_laysOnce_18 rfl (kX10_isGhost _ _) cf_X10_236 ⟨rfl, rfl, Nat.le_of_ble_eq_true rfl, Nat.le_of_ble_eq_true rfl⟩ sM_0 rfl rfl rfl (fun _ => Nat.le_of_ble_eq_true rfl) (fun v45 w46 => ?_)
          refine g_if_eq (q := 24) (g := 56) ok dX10_laysOnce_21 rfl (by decide) ?_ ?_
          · refine g_to (L' := [(0, .ref 0), (1, .int a1), (2, .int v38)]) ?_ [0, 1, 2] rfl
            exact hk40 _
          · refine g_aload_n (q := 25) ok dX10_laysOnce_24 rfl 0 rfl rfl ?_
            refine g_getR (q := 28) ok dX10_laysOnce_25 rfl fl_X10_105 sM_0 rfl ?_
            refine g_bipush (v := (nI 84)) (q := 30) ok dX10_laysOnce_28 rfl (by decide) ?_
            refine g_iload_n (q := 31) ok dX10_laysOnce_30 rfl 2 rfl rfl ?_
            refine g_imul (q := 32) ok dX10_laysOnce_31 rfl ?_
            refine g_iload_n (q := 33) ok dX10_laysOnce_32 rfl 3 rfl rfl ?_
            refine g_iadd (q := 34) ok dX10_laysOnce_33 rfl ?_
            refine g_aload_n (q := 35) ok dX10_laysOnce_34 rfl 0 rfl rfl ?_
            refine g_iload_n (q := 36) ok dX10_laysOnce_35 rfl 2 rfl rfl ?_
            refine g_iload_n (q := 37) ok dX10_laysOnce_36 rfl 3 rfl rfl ?_
            refine g_bipush (v := (nI 12)) (q := 39) ok dX10_laysOnce_37 rfl (by decide) ?_
            refine g_idivC (q := 40) ok dX10_laysOnce_39 rfl (by decide) ?_
            refine g_iload_n (q := 41) ok dX10_laysOnce_40 rfl 3 rfl rfl ?_
            refine g_bipush (v := (nI 12)) (q := 43) ok dX10_laysOnce_41 rfl (by decide) ?_
            refine g_iremC (q := 44) ok dX10_laysOnce_43 rfl (by decide) ?_
            refine g_callVi (q := 47) (As := [.int v38, .int (v43 / (nI 12)), .int (gRem v43 (nI 12))]) (st := [.int (((nI 84) * v38) + v43), .ref 32]) ok tbl_good dX10_laysOnce_44 rfl (kX10_frightened N _ _ _ _) cf_X10_364 ⟨rfl, rfl, Nat.le_of_ble_eq_true rfl, Nat.le_of_ble_eq_true rfl⟩ sM_0 rfl rfl rfl (fun _ => Nat.le_of_ble_eq_true rfl) (fun v47 w48 => ?_)
            refine g_iload_n (q := 48) ok dX10_laysOnce_47 rfl 1 rfl rfl ?_
            refine g_iand (q := 49) ok dX10_laysOnce_48 rfl ?_
            refine g_iast (q := 50) ok dX10_laysOnce_49 rfl sM_32 ?_
            refine g_letw (fun w49 => ?_)
            refine g_iinc (v := v43 + (nI 1)) (q := 53) (L' := [(3, .int (v43 + (nI 1))), (0, .ref 0), (1, .int a1), (2, .int v38)]) ok dX10_laysOnce_50 rfl 3 rfl rfl (by decide) rfl rfl ?_
            refine g_goto (q := 10) ok dX10_laysOnce_53 (by decide) ?_
            refine g_to (L' := [(0, .ref 0), (1, .int a1), (2, .int v38), (3, .int (v43 + (nI 1)))]) ?_ [1, 2, 3, 0] rfl
            exact hgo42 _ _
set_option maxRecDepth 20000 in
theorem kX10_leastCode (N : Nat) (a1 : Int32) (a2 : Int32) (w : gT) : gM S2 cl2 gTs yX10_leastCode cX10_leastCode 4 (some .int) rmX10_leastCode gi [.ref 0, .int a1, .int a2] w (xX10_leastCode N a1 a2 w) := by
  refine gM_of (own := RX10) [(0, .ref 0), (1, .int a1), (2, .int a2)] rfl (by decide) (fun _ => rfl) (fun _ => Nat.le_of_ble_eq_true rfl) (fun κ ok => ?_)
  unfold xX10_leastCode
  refine g_join (P := fun k1 => ∀ (v2 : Int32) (w3 : gT), gJ S2 cl2 rmX10_leastCode 4 gi κ 14 [(0, .ref 0), (1, .int a1), (2, .int a2)] [.int v2] w3 (k1 v2 w3)) (fun v2 w3 => ?_) (fun k1 hk1 => ?_)
  · refine g_istore_n (q := 15) (L' := [(3, .int v2), (0, .ref 0), (1, .int a1), (2, .int a2)]) ok dX10_leastCode_14 rfl rfl (by decide) rfl rfl ?_
    refine g_to (L' := [(0, .ref 0), (1, .int a1), (2, .int a2), (3, .int v2)]) ?_ [1, 2, 3, 0] rfl
    refine g_loop1 (Lf := fun v5 => [(0, .ref 0), (1, .int a1), (2, .int a2), (3, .int v5)]) (fun go4 hgo4 v5 w6 => ?_) N _ _
    unfold xX10_leastCode_b15
    refine g_aload_n (q := 16) ok dX10_leastCode_15 rfl 0 rfl rfl ?_
    refine g_iload_n (q := 17) ok dX10_leastCode_16 rfl 1 rfl rfl ?_
    refine g_iload_n (q := 18) ok dX10_leastCode_17 rfl 3 rfl rfl ?_
    refine g_iload_n (q := 19) ok dX10_leastCode_18 rfl 2 rfl rfl ?_
    refine g_callVi (q := 22) (As := [.int a1, .int v5, .int a2]) (st := []) ok tbl_good dX10_leastCode_19 rfl (kX10_onceBy _ _ _ _) cf_X10_367 ⟨rfl, rfl, Nat.le_of_ble_eq_true rfl, Nat.le_of_ble_eq_true rfl⟩ sM_0 rfl rfl rfl (fun _ => Nat.le_of_ble_eq_true rfl) (fun v7 w8 => ?_)
    refine g_aload_n (q := 23) ok dX10_leastCode_22 rfl 0 rfl rfl ?_
    refine g_getR (q := 26) ok dX10_leastCode_23 rfl fl_X10_108 sM_0 rfl ?_
    refine g_sipush (v := (nI 1024)) (q := 29) ok dX10_leastCode_26 rfl (by decide) ?_
    refine g_iload_n (q := 30) ok dX10_leastCode_29 rfl 1 rfl rfl ?_
    refine g_imul (q := 31) ok dX10_leastCode_30 rfl ?_
    refine g_iload_n (q := 32) ok dX10_leastCode_31 rfl 2 rfl rfl ?_
    refine g_iadd (q := 33) ok dX10_leastCode_32 rfl ?_
    refine g_iald (q := 34) ok dX10_leastCode_33 rfl sM_33 ?_
    refine g_icmp_eq (q := 37) (g := 44) ok dX10_leastCode_34 rfl (by decide) ?_ ?_
    · refine g_iload_n (q := 45) ok dX10_leastCode_44 rfl 3 rfl rfl ?_
      exact g_iret ok dX10_leastCode_45
    · refine g_iload_n (q := 38) ok dX10_leastCode_37 rfl 3 rfl rfl ?_
      refine g_iconst (v := (nI 1)) (q := 39) ok dX10_leastCode_38 rfl (by decide) ?_
      refine g_iadd (q := 40) ok dX10_leastCode_39 rfl ?_
      refine g_leti (fun v9 => ?_)
      refine g_istore_n (q := 41) (L' := [(3, .int v9), (0, .ref 0), (1, .int a1), (2, .int a2)]) ok dX10_leastCode_40 rfl rfl (by decide) rfl rfl ?_
      refine g_goto (q := 15) ok dX10_leastCode_41 (by decide) ?_
      refine g_to (L' := [(0, .ref 0), (1, .int a1), (2, .int a2), (3, .int v9)]) ?_ [1, 2, 3, 0] rfl
      exact hgo4 _ _
  · refine g_aload_n (q := 1) ok dX10_leastCode_0 rfl 0 rfl rfl ?_
    refine g_iload_n (q := 2) ok dX10_leastCode_1 rfl 1 rfl rfl ?_
    refine g_callVi (q := 5) (As := [.int a1]) (st := []) ok tbl_good dX10_leastCode_2 rfl (kX10_isGhost _ _) cf_X10_236 ⟨rfl, rfl, Nat.le_of_ble_eq_true rfl, Nat.le_of_ble_eq_true rfl⟩ sM_0 rfl rfl rfl (fun _ => Nat.le_of_ble_eq_true rfl) (fun v10 w11 => ?_)
    refine g_if_eq (q := 8) (g := 12) ok dX10_leastCode_5 rfl (by decide) ?_ ?_
    · refine g_bipush (v := (nI 84)) (q := 14) ok dX10_leastCode_12 rfl (by decide) ?_
      exact hk1 _ _
    · refine g_iconst (v := (nI 0)) (q := 9) ok dX10_leastCode_8 rfl (by decide) ?_
      refine g_goto (q := 14) ok dX10_leastCode_9 (by decide) ?_
      exact hk1 _ _
set_option maxRecDepth 20000 in
theorem kX10_once (N : Nat) (a1 : Int32) (a2 : Int32) (w : gT) : gM S2 cl2 gTs yX10_once cX10_once 6 (some .int) rmX10_once gi [.ref 0, .int a1, .int a2] w (xX10_once N a1 a2 w) := by
  refine gM_of (own := RX10) [(0, .ref 0), (1, .int a1), (2, .int a2)] rfl (by decide) (fun _ => rfl) (fun _ => Nat.le_of_ble_eq_true rfl) (fun κ ok => ?_)
  unfold xX10_once
  refine g_iload_n (q := 1) ok dX10_once_0 rfl 1 rfl rfl ?_
  refine g_iconst (v := (nI 1)) (q := 2) ok dX10_once_1 rfl (by decide) ?_
  refine g_icmp_lt (q := 5) (g := 29) ok dX10_once_2 rfl (by decide) ?_ ?_
  · refine g_bipush (v := (-3)) (q := 31) ok dX10_once_29 rfl (by decide) ?_
    exact g_iret ok dX10_once_31
  · refine g_iload_n (q := 6) ok dX10_once_5 rfl 1 rfl rfl ?_
    refine g_aload_n (q := 7) ok dX10_once_6 rfl 0 rfl rfl ?_
    refine g_getI (q := 10) (N := 0) ok dX10_once_7 rfl fl_X10_161 sM_0 rfl ?_
    refine g_iconst (v := (-1)) (q := 11) ok dX10_once_10 rfl (by decide) ?_
    refine g_ixor (q := 12) ok dX10_once_11 rfl ?_
    refine g_iand (q := 13) ok dX10_once_12 rfl ?_
    refine g_if_ne (q := 16) (g := 29) ok dX10_once_13 rfl (by decide) ?_ ?_
    · refine g_bipush (v := (-3)) (q := 31) ok dX10_once_29 rfl (by decide) ?_
      exact g_iret ok dX10_once_31
    · refine g_join (P := fun k1 => ∀ (w2 : gT), gJ S2 cl2 rmX10_once 6 gi κ 32 [(0, .ref 0), (1, .int a1), (2, .int a2)] [] w2 (k1 w2)) (fun w2 => ?_) (fun k1 hk1 => ?_)
      · refine g_aload_n (q := 33) ok dX10_once_32 rfl 0 rfl rfl ?_
        refine g_iload_n (q := 34) ok dX10_once_33 rfl 1 rfl rfl ?_
        refine g_callVv (q := 37) (As := [.int a1]) (st := []) ok tbl_good dX10_once_34 rfl (kX10_laysOnce N _ _) cf_X10_373 ⟨rfl, rfl, Nat.le_of_ble_eq_true rfl, Nat.le_of_ble_eq_true rfl⟩ sM_0 rfl rfl rfl (fun _ => Nat.le_of_ble_eq_true rfl) (fun w3 => ?_)
        refine g_aload_n (q := 38) ok dX10_once_37 rfl 0 rfl rfl ?_
        refine g_getR (q := 41) ok dX10_once_38 rfl fl_X10_108 sM_0 rfl ?_
        refine g_iconst (v := (nI 0)) (q := 42) ok dX10_once_41 rfl (by decide) ?_
        refine g_ialdC (j := 0) (q := 43) ok dX10_once_42 rfl sM_33 (by decide) (by decide) ?_
        refine g_ldcw (q := 46) ok dX10_once_43 rfl tw_1498 ?_
        refine g_icmp_lt (q := 49) (g := 52) ok dX10_once_46 rfl (by decide) ?_ ?_
        · refine g_iload_n (q := 53) ok dX10_once_52 rfl 2 rfl rfl ?_
          refine g_iconst (v := (-1)) (q := 54) ok dX10_once_53 rfl (by decide) ?_
          refine g_icmp_ne (q := 57) (g := 64) ok dX10_once_54 rfl (by decide) ?_ ?_
          · refine g_iconst (v := (nI 0)) (q := 65) ok dX10_once_64 rfl (by decide) ?_
            refine g_istore_n (q := 66) (L' := [(3, .int (nI 0)), (0, .ref 0), (1, .int a1), (2, .int a2)]) ok dX10_once_65 rfl rfl (by decide) rfl rfl ?_
            refine g_iconst (v := (nI 0)) (q := 67) ok dX10_once_66 rfl (by decide) ?_
            refine g_istore (q := 69) (L' := [(4, .int (nI 0)), (3, .int (nI 0)), (0, .ref 0), (1, .int a1), (2, .int a2)]) ok dX10_once_67 rfl (by decide) rfl rfl ?_
            refine g_join (P := fun k4 => ∀ (v5 : Int32) (w6 : gT), gJ S2 cl2 rmX10_once 6 gi κ 117 [(0, .ref 0), (2, .int a2), (3, .int v5)] [] w6 (k4 v5 w6)) (fun v5 w6 => ?_) (fun k4 hk4 => ?_)
            · refine g_aload_n (q := 118) ok dX10_once_117 rfl 0 rfl rfl ?_
              refine g_iload_n (q := 119) ok dX10_once_118 rfl 1 rfl rfl ?_
              refine g_iload_n (q := 120) ok dX10_once_119 rfl 2 rfl rfl ?_
              refine g_callVi (q := 123) (As := [.int a2, .int v5]) (st := []) ok tbl_good dX10_once_120 rfl (kX10_leastCode N _ _ _) cf_X10_376 ⟨rfl, rfl, Nat.le_of_ble_eq_true rfl, Nat.le_of_ble_eq_true rfl⟩ sM_0 rfl rfl rfl (fun _ => Nat.le_of_ble_eq_true rfl) (fun v7 w8 => ?_)
              exact g_iret ok dX10_once_123
            · refine g_to (L' := [(0, .ref 0), (2, .int a2), (3, .int (nI 0)), (4, .int (nI 0))]) ?_ [2, 4, 1, 0] rfl
              refine g_loop2 (Lf := fun v10 v11 => [(0, .ref 0), (2, .int a2), (3, .int v10), (4, .int v11)]) (fun go9 hgo9 v10 v11 w12 => ?_) N _ _ _
              unfold xX10_once_b69
              refine g_iload (q := 71) ok dX10_once_69 rfl 3 rfl ?_
              refine g_iload_n (q := 72) ok dX10_once_71 rfl 1 rfl rfl ?_
              refine g_icmp_ge (q := 75) (g := 117) ok dX10_once_72 rfl (by decide) ?_ ?_
              · refine g_to (L' := [(0, .ref 0), (2, .int a2), (3, .int v10)]) ?_ [0, 1, 2] rfl
                exact hk4 _ _
              · refine g_join (P := fun k13 => ∀ (v14 : Int32) (w15 : gT), gJ S2 cl2 rmX10_once 6 gi κ 110 [(0, .ref 0), (2, .int a2), (4, .int v11)] [.int v14] w15 (k13 v14 w15)) (fun v14 w15 => ?_) (fun k13 hk13 => ?_)
                · refine g_istore_n (q := 111) (L' := [(3, .int v14), (0, .ref 0), (2, .int a2), (4, .int v11)]) ok dX10_once_110 rfl rfl (by decide) rfl rfl ?_
                  refine g_iinc (v := v11 + (nI 1)) (q := 114) (L' := [(4, .int (v11 + (nI 1))), (3, .int v14), (0, .ref 0), (2, .int a2)]) ok dX10_once_111 rfl 3 rfl rfl (by decide) rfl rfl ?_
                  refine g_goto (q := 69) ok dX10_once_114 (by decide) ?_
                  refine g_to (L' := [(0, .ref 0), (2, .int a2), (3, .int v14), (4, .int (v11 + (nI 1)))]) ?_ [2, 3, 1, 0] rfl
                  exact hgo9 _ _ _
                · refine g_aload_n (q := 76) ok dX10_once_75 rfl 0 rfl rfl ?_
                  refine g_iload (q := 78) ok dX10_once_76 rfl 3 rfl ?_
                  refine g_iload_n (q := 79) ok dX10_once_78 rfl 2 rfl rfl ?_
                  refine g_callVi (q := 82) (As := [.int v11, .int v10]) (st := []) ok tbl_good dX10_once_79 rfl (kX10_leastCode N _ _ _) cf_X10_376 ⟨rfl, rfl, Nat.le_of_ble_eq_true rfl, Nat.le_of_ble_eq_true rfl⟩ sM_0 rfl rfl rfl (fun _ => Nat.le_of_ble_eq_true rfl) (fun v16 w17 => ?_)
                  refine g_istore (q := 84) (L' := [(5, .int v16), (0, .ref 0), (2, .int a2), (3, .int v10), (4, .int v11)]) ok dX10_once_82 rfl (by decide) rfl rfl ?_
                  refine g_iload (q := 86) ok dX10_once_84 rfl 0 rfl ?_
                  refine g_bipush (v := (nI 84)) (q := 88) ok dX10_once_86 rfl (by decide) ?_
                  refine g_icmp_ne (q := 91) (g := 95) ok dX10_once_88 rfl (by decide) ?_ ?_
                  · refine g_iload_n (q := 96) ok dX10_once_95 rfl 3 rfl rfl ?_
                    refine g_aload_n (q := 97) ok dX10_once_96 rfl 1 rfl rfl ?_
                    refine g_getR (q := 100) ok dX10_once_97 rfl fl_X10_105 sM_0 rfl ?_
                    refine g_bipush (v := (nI 84)) (q := 102) ok dX10_once_100 rfl (by decide) ?_
                    refine g_iload (q := 104) ok dX10_once_102 rfl 4 rfl ?_
                    refine g_imul (q := 105) ok dX10_once_104 rfl ?_
                    refine g_iload (q := 107) ok dX10_once_105 rfl 0 rfl ?_
                    refine g_iadd (q := 108) ok dX10_once_107 rfl ?_
                    refine g_iald (q := 109) ok dX10_once_108 rfl sM_32 ?_
                    refine g_ior (q := 110) ok dX10_once_109 rfl ?_
                    refine g_to (L' := [(0, .ref 0), (2, .int a2), (4, .int v11)]) ?_ [1, 2, 4] rfl
                    exact hk13 _ _
                  · refine g_iload_n (q := 92) ok dX10_once_91 rfl 3 rfl rfl ?_
                    refine g_goto (q := 110) ok dX10_once_92 (by decide) ?_
                    refine g_to (L' := [(0, .ref 0), (2, .int a2), (4, .int v11)]) ?_ [1, 2, 4] rfl
                    exact hk13 _ _
          · refine g_aload_n (q := 58) ok dX10_once_57 rfl 0 rfl rfl ?_
            refine g_getR (q := 61) ok dX10_once_58 rfl fl_X10_108 sM_0 rfl ?_
            refine g_iconst (v := (nI 0)) (q := 62) ok dX10_once_61 rfl (by decide) ?_
            refine g_ialdC (j := 0) (q := 63) ok dX10_once_62 rfl sM_33 (by decide) (by decide) ?_
            exact g_iret ok dX10_once_63
        · refine g_bipush (v := (-2)) (q := 51) ok dX10_once_49 rfl (by decide) ?_
          exact g_iret ok dX10_once_51
      · refine g_iload_n (q := 17) ok dX10_once_16 rfl 2 rfl rfl ?_
        refine g_iconst (v := (-1)) (q := 18) ok dX10_once_17 rfl (by decide) ?_
        refine g_icmp_eq (q := 21) (g := 32) ok dX10_once_18 rfl (by decide) ?_ ?_
        · exact hk1 _
        · refine g_aload_n (q := 22) ok dX10_once_21 rfl 0 rfl rfl ?_
          refine g_iload_n (q := 23) ok dX10_once_22 rfl 2 rfl rfl ?_
          refine g_callVi (q := 26) (As := [.int a2]) (st := []) ok tbl_good dX10_once_23 rfl (kX10_isGhost _ _) cf_X10_236 ⟨rfl, rfl, Nat.le_of_ble_eq_true rfl, Nat.le_of_ble_eq_true rfl⟩ sM_0 rfl rfl rfl (fun _ => Nat.le_of_ble_eq_true rfl) (fun v18 w19 => ?_)
          refine g_if_ne (q := 29) (g := 32) ok dX10_once_26 rfl (by decide) ?_ ?_
          · exact hk1 _
          · refine g_bipush (v := (-3)) (q := 31) ok dX10_once_29 rfl (by decide) ?_
            exact g_iret ok dX10_once_31
set_option maxRecDepth 20000 in
theorem kX10_frightBy (N : Nat) (a1 : Int32) (a2 : Int32) (a3 : Int32) (a4 : Int32) (w : gT) : gM S2 cl2 gTs yX10_frightBy cX10_frightBy 8 (some .int) rmX10_frightBy gi [.ref 0, .int a1, .int a2, .int a3, .int a4] w (xX10_frightBy N a1 a2 a3 a4 w) := by
  refine gM_of (own := RX10) [(0, .ref 0), (1, .int a1), (2, .int a2), (3, .int a3), (4, .int a4)] rfl (by decide) (fun _ => rfl) (fun _ => Nat.le_of_ble_eq_true rfl) (fun κ ok => ?_)
  unfold xX10_frightBy
  refine g_iconst (v := (nI 0)) (q := 1) ok dX10_frightBy_0 rfl (by decide) ?_
  refine g_istore (q := 3) (L' := [(5, .int (nI 0)), (0, .ref 0), (1, .int a1), (2, .int a2), (3, .int a3), (4, .int a4)]) ok dX10_frightBy_1 rfl (by decide) rfl rfl ?_
  refine g_iconst (v := (nI 0)) (q := 4) ok dX10_frightBy_3 rfl (by decide) ?_
  refine g_istore (q := 6) (L' := [(6, .int (nI 0)), (5, .int (nI 0)), (0, .ref 0), (1, .int a1), (2, .int a2), (3, .int a3), (4, .int a4)]) ok dX10_frightBy_4 rfl (by decide) rfl rfl ?_
  refine g_to (L' := [(0, .ref 0), (1, .int a1), (2, .int a2), (3, .int a3), (4, .int a4), (5, .int (nI 0)), (6, .int (nI 0))]) ?_ [2, 3, 4, 5, 6, 1, 0] rfl
  refine g_loop2 (Lf := fun v2 v3 => [(0, .ref 0), (1, .int a1), (2, .int a2), (3, .int a3), (4, .int a4), (5, .int v2), (6, .int v3)]) (fun go1 hgo1 v2 v3 w4 => ?_) N _ _ _
  unfold xX10_frightBy_b6
  refine g_iload (q := 8) ok dX10_frightBy_6 rfl 6 rfl ?_
  refine g_bipush (v := (nI 10)) (q := 10) ok dX10_frightBy_8 rfl (by decide) ?_
  refine g_icmp_ge (q := 13) (g := 62) ok dX10_frightBy_10 rfl (by decide) ?_ ?_
  · refine g_iload (q := 64) ok dX10_frightBy_62 rfl 5 rfl ?_
    exact g_iret ok dX10_frightBy_64
  · refine g_join (P := fun k5 => ∀ (v6 : Int32) (w7 : gT), gJ S2 cl2 rmX10_frightBy 8 gi κ 38 [(0, .ref 0), (1, .int a1), (2, .int a2), (3, .int a3), (4, .int a4), (5, .int v2), (6, .int v3)] [.int v6] w7 (k5 v6 w7)) (fun v6 w7 => ?_) (fun k5 hk5 => ?_)
    · refine g_join (P := fun k8 => ∀ (v9 : Int32) (v10 : Int32) (w11 : gT), gJ S2 cl2 rmX10_frightBy 8 gi κ 53 [(0, .ref 0), (1, .int a1), (2, .int a2), (3, .int a3), (4, .int a4), (6, .int v3)] [.int v10, .int v9] w11 (k8 v9 v10 w11)) (fun v9 v10 w11 => ?_) (fun k8 hk8 => ?_)
      · refine g_iadd (q := 54) ok dX10_frightBy_53 rfl ?_
        refine g_leti (fun v12 => ?_)
        refine g_istore (q := 56) (L' := [(5, .int v12), (0, .ref 0), (1, .int a1), (2, .int a2), (3, .int a3), (4, .int a4), (6, .int v3)]) ok dX10_frightBy_54 rfl (by decide) rfl rfl ?_
        refine g_iinc (v := v3 + (nI 1)) (q := 59) (L' := [(6, .int (v3 + (nI 1))), (5, .int v12), (0, .ref 0), (1, .int a1), (2, .int a2), (3, .int a3), (4, .int a4)]) ok dX10_frightBy_56 rfl 6 rfl rfl (by decide) rfl rfl ?_
        refine g_goto (q := 6) ok dX10_frightBy_59 (by decide) ?_
        refine g_to (L' := [(0, .ref 0), (1, .int a1), (2, .int a2), (3, .int a3), (4, .int a4), (5, .int v12), (6, .int (v3 + (nI 1)))]) ?_ [2, 3, 4, 5, 6, 1, 0] rfl
        exact hgo1 _ _ _
      · refine g_istore (q := 40) (L' := [(7, .int v6), (0, .ref 0), (1, .int a1), (2, .int a2), (3, .int a3), (4, .int a4), (5, .int v2), (6, .int v3)]) ok dX10_frightBy_38 rfl (by decide) rfl rfl ?_
        refine g_iload (q := 42) ok dX10_frightBy_40 rfl 6 rfl ?_
        refine g_iload (q := 44) ok dX10_frightBy_42 rfl 0 rfl ?_
        refine g_if_le (q := 47) (g := 52) ok dX10_frightBy_44 rfl (by decide) ?_ ?_
        · refine g_iconst (v := (nI 0)) (q := 53) ok dX10_frightBy_52 rfl (by decide) ?_
          refine g_to (L' := [(0, .ref 0), (1, .int a1), (2, .int a2), (3, .int a3), (4, .int a4), (6, .int v3)]) ?_ [1, 2, 3, 4, 5, 7] rfl
          exact hk8 _ _ _
        · refine g_iload (q := 49) ok dX10_frightBy_47 rfl 0 rfl ?_
          refine g_goto (q := 53) ok dX10_frightBy_49 (by decide) ?_
          refine g_to (L' := [(0, .ref 0), (1, .int a1), (2, .int a2), (3, .int a3), (4, .int a4), (6, .int v3)]) ?_ [1, 2, 3, 4, 5, 7] rfl
          exact hk8 _ _ _
    · refine g_aload_n (q := 14) ok dX10_frightBy_13 rfl 0 rfl rfl ?_
      refine g_iload (q := 16) ok dX10_frightBy_14 rfl 6 rfl ?_
      refine g_callVi (q := 19) (As := [.int v3]) (st := []) ok tbl_good dX10_frightBy_16 rfl (kX10_isSleeper _ _) cf_X10_185 ⟨rfl, rfl, Nat.le_of_ble_eq_true rfl, Nat.le_of_ble_eq_true rfl⟩ sM_0 rfl rfl rfl (fun _ => Nat.le_of_ble_eq_true rfl) (fun v13 w14 => ?_)
      refine g_if_eq (q := 22) (g := 36) ok dX10_frightBy_19 rfl (by decide) ?_ ?_
      · refine g_bipush (v := (-2)) (q := 38) ok dX10_frightBy_36 rfl (by decide) ?_
        exact hk5 _ _
      · refine g_aload_n (q := 23) ok dX10_frightBy_22 rfl 0 rfl rfl ?_
        refine g_iload_n (q := 24) ok dX10_frightBy_23 rfl 1 rfl rfl ?_
        refine g_iload (q := 26) ok dX10_frightBy_24 rfl 6 rfl ?_
        refine g_iload_n (q := 27) ok dX10_frightBy_26 rfl 2 rfl rfl ?_
        refine g_iload_n (q := 28) ok dX10_frightBy_27 rfl 3 rfl rfl ?_
        refine g_iload (q := 30) ok dX10_frightBy_28 rfl 4 rfl ?_
        refine g_callVi (q := 33) (As := [.int a1, .int v3, .int a2, .int a3, .int a4]) (st := []) ok tbl_good dX10_frightBy_30 rfl (kX10_frightOf N _ _ _ _ _ _) cf_X10_336 ⟨rfl, rfl, Nat.le_of_ble_eq_true rfl, Nat.le_of_ble_eq_true rfl⟩ sM_0 rfl rfl rfl (fun _ => Nat.le_of_ble_eq_true rfl) (fun v15 w16 => ?_)
        refine g_goto (q := 38) ok dX10_frightBy_33 (by decide) ?_
        exact hk5 _ _
set_option maxRecDepth 20000 in
theorem kX10_bestWalk (N : Nat) (a1 : Int32) (a2 : Int32) (w : gT) : gM S2 cl2 gTs yX10_bestWalk cX10_bestWalk 7 (some .int) rmX10_bestWalk gi [.ref 0, .int a1, .int a2] w (xX10_bestWalk N a1 a2 w) := by
  refine gM_of (own := RX10) [(0, .ref 0), (1, .int a1), (2, .int a2)] rfl (by decide) (fun _ => rfl) (fun _ => Nat.le_of_ble_eq_true rfl) (fun κ ok => ?_)
  unfold xX10_bestWalk
  refine g_aload_n (q := 1) ok dX10_bestWalk_0 rfl 0 rfl rfl ?_
  refine g_iload_n (q := 2) ok dX10_bestWalk_1 rfl 1 rfl rfl ?_
  refine g_callVi (q := 5) (As := [.int a1]) (st := []) ok tbl_good dX10_bestWalk_2 rfl (kX10_isGhost _ _) cf_X10_236 ⟨rfl, rfl, Nat.le_of_ble_eq_true rfl, Nat.le_of_ble_eq_true rfl⟩ sM_0 rfl rfl rfl (fun _ => Nat.le_of_ble_eq_true rfl) (fun v1 w2 => ?_)
  refine g_if_eq (q := 8) (g := 17) ok dX10_bestWalk_5 rfl (by decide) ?_ ?_
  · refine g_iconst (v := (-1)) (q := 18) ok dX10_bestWalk_17 rfl (by decide) ?_
    exact g_iret ok dX10_bestWalk_18
  · refine g_iload_n (q := 9) ok dX10_bestWalk_8 rfl 2 rfl rfl ?_
    refine g_iconst (v := (nI 0)) (q := 10) ok dX10_bestWalk_9 rfl (by decide) ?_
    refine g_iconst (v := (nI 2)) (q := 11) ok dX10_bestWalk_10 rfl (by decide) ?_
    refine g_callSi (q := 14) (As := [.int a2, .int (nI 0), .int (nI 2)]) (st := []) ok tbl_good dX10_bestWalk_11 rfl (kX10_in _ _ _ _) cf_X10_175 ⟨rfl, rfl, Nat.le_of_ble_eq_true rfl, Nat.le_of_ble_eq_true rfl⟩ rfl rfl (fun _ => Nat.le_of_ble_eq_true rfl) (fun v3 w4 => ?_)
    refine g_if_ne (q := 17) (g := 19) ok dX10_bestWalk_14 rfl (by decide) ?_ ?_
    · refine g_iconst (v := (nI 0)) (q := 20) ok dX10_bestWalk_19 rfl (by decide) ?_
      refine g_istore_n (q := 21) (L' := [(3, .int (nI 0)), (0, .ref 0), (1, .int a1), (2, .int a2)]) ok dX10_bestWalk_20 rfl rfl (by decide) rfl rfl ?_
      refine g_join (P := fun k5 => ∀ (w6 : gT), gJ S2 cl2 rmX10_bestWalk 7 gi κ 47 [(0, .ref 0), (1, .int a1), (2, .int a2)] [] w6 (k5 w6)) (fun w6 => ?_) (fun k5 hk5 => ?_)
      · refine g_iconst (v := (nI 0)) (q := 48) ok dX10_bestWalk_47 rfl (by decide) ?_
        refine g_istore_n (q := 49) (L' := [(3, .int (nI 0)), (0, .ref 0), (1, .int a1), (2, .int a2)]) ok dX10_bestWalk_48 rfl rfl (by decide) rfl rfl ?_
        refine g_iconst (v := (-1)) (q := 50) ok dX10_bestWalk_49 rfl (by decide) ?_
        refine g_istore (q := 52) (L' := [(4, .int (-1)), (3, .int (nI 0)), (0, .ref 0), (1, .int a1), (2, .int a2)]) ok dX10_bestWalk_50 rfl (by decide) rfl rfl ?_
        refine g_iconst (v := (nI 0)) (q := 53) ok dX10_bestWalk_52 rfl (by decide) ?_
        refine g_istore (q := 55) (L' := [(5, .int (nI 0)), (4, .int (-1)), (3, .int (nI 0)), (0, .ref 0), (1, .int a1), (2, .int a2)]) ok dX10_bestWalk_53 rfl (by decide) rfl rfl ?_
        refine g_join (P := fun k7 => ∀ (v8 : Int32) (v9 : Int32) (w10 : gT), gJ S2 cl2 rmX10_bestWalk 7 gi κ 103 [(0, .ref 0), (2, .int a2), (3, .int v8), (4, .int v9)] [] w10 (k7 v8 v9 w10)) (fun v8 v9 w10 => ?_) (fun k7 hk7 => ?_)
        · refine g_iload_n (q := 104) ok dX10_bestWalk_103 rfl 1 rfl rfl ?_
          refine g_if_ne (q := 107) (g := 114) ok dX10_bestWalk_104 rfl (by decide) ?_ ?_
          · refine g_iload_n (q := 115) ok dX10_bestWalk_114 rfl 1 rfl rfl ?_
            refine g_iconst (v := (nI 1)) (q := 116) ok dX10_bestWalk_115 rfl (by decide) ?_
            refine g_icmp_ne (q := 119) (g := 126) ok dX10_bestWalk_116 rfl (by decide) ?_ ?_
            · refine g_iload (q := 128) ok dX10_bestWalk_126 rfl 3 rfl ?_
              exact g_iret ok dX10_bestWalk_128
            · refine g_iload_n (q := 120) ok dX10_bestWalk_119 rfl 2 rfl rfl ?_
              refine g_bipush (v := (nI 12)) (q := 122) ok dX10_bestWalk_120 rfl (by decide) ?_
              refine g_iremC (q := 123) ok dX10_bestWalk_122 rfl (by decide) ?_
              refine g_goto (q := 128) ok dX10_bestWalk_123 (by decide) ?_
              exact g_iret ok dX10_bestWalk_128
          · refine g_iload_n (q := 108) ok dX10_bestWalk_107 rfl 2 rfl rfl ?_
            refine g_bipush (v := (nI 12)) (q := 110) ok dX10_bestWalk_108 rfl (by decide) ?_
            refine g_idivC (q := 111) ok dX10_bestWalk_110 rfl (by decide) ?_
            refine g_goto (q := 128) ok dX10_bestWalk_111 (by decide) ?_
            exact g_iret ok dX10_bestWalk_128
        · refine g_to (L' := [(0, .ref 0), (1, .int a1), (2, .int a2), (3, .int (nI 0)), (4, .int (-1)), (5, .int (nI 0))]) ?_ [3, 4, 5, 2, 1, 0] rfl
          refine g_loop3 (Lf := fun v12 v13 v14 => [(0, .ref 0), (1, .int a1), (2, .int a2), (3, .int v12), (4, .int v13), (5, .int v14)]) (fun go11 hgo11 v12 v13 v14 w15 => ?_) N _ _ _ _
          unfold xX10_bestWalk_b55
          refine g_iload (q := 57) ok dX10_bestWalk_55 rfl 5 rfl ?_
          refine g_bipush (v := (nI 84)) (q := 59) ok dX10_bestWalk_57 rfl (by decide) ?_
          refine g_icmp_ge (q := 62) (g := 103) ok dX10_bestWalk_59 rfl (by decide) ?_ ?_
          · refine g_to (L' := [(0, .ref 0), (2, .int a2), (3, .int v12), (4, .int v13)]) ?_ [0, 2, 3, 4] rfl
            exact hk7 _ _ _
          · refine g_join (P := fun k16 => ∀ (v17 : Int32) (v18 : Int32) (w19 : gT), gJ S2 cl2 rmX10_bestWalk 7 gi κ 97 [(0, .ref 0), (1, .int a1), (2, .int a2), (5, .int v14), (3, .int v17), (4, .int v18)] [] w19 (k16 v17 v18 w19)) (fun v17 v18 w19 => ?_) (fun k16 hk16 => ?_)
            · refine g_iinc (v := v14 + (nI 1)) (q := 100) (L' := [(5, .int (v14 + (nI 1))), (0, .ref 0), (1, .int a1), (2, .int a2), (3, .int v17), (4, .int v18)]) ok dX10_bestWalk_97 rfl 3 rfl rfl (by decide) rfl rfl ?_
              refine g_goto (q := 55) ok dX10_bestWalk_100 (by decide) ?_
              refine g_to (L' := [(0, .ref 0), (1, .int a1), (2, .int a2), (3, .int v17), (4, .int v18), (5, .int (v14 + (nI 1)))]) ?_ [1, 2, 3, 4, 5, 0] rfl
              exact hgo11 _ _ _ _
            · refine g_aload_n (q := 63) ok dX10_bestWalk_62 rfl 0 rfl rfl ?_
              refine g_iload_n (q := 64) ok dX10_bestWalk_63 rfl 1 rfl rfl ?_
              refine g_iload (q := 66) ok dX10_bestWalk_64 rfl 5 rfl ?_
              refine g_bipush (v := (nI 12)) (q := 68) ok dX10_bestWalk_66 rfl (by decide) ?_
              refine g_idivC (q := 69) ok dX10_bestWalk_68 rfl (by decide) ?_
              refine g_iload (q := 71) ok dX10_bestWalk_69 rfl 5 rfl ?_
              refine g_bipush (v := (nI 12)) (q := 73) ok dX10_bestWalk_71 rfl (by decide) ?_
              refine g_iremC (q := 74) ok dX10_bestWalk_73 rfl (by decide) ?_
              refine g_iconst (v := (nI 0)) (q := 75) ok dX10_bestWalk_74 rfl (by decide) ?_
              refine g_callVi (q := 78) (As := [.int a1, .int (v14 / (nI 12)), .int (gRem v14 (nI 12)), .int (nI 0)]) (st := []) ok tbl_good dX10_bestWalk_75 rfl (kX10_frightBy N _ _ _ _ _) cf_X10_379 ⟨rfl, rfl, Nat.le_of_ble_eq_true rfl, Nat.le_of_ble_eq_true rfl⟩ sM_0 rfl rfl rfl (fun _ => Nat.le_of_ble_eq_true rfl) (fun v20 w21 => ?_)
              refine g_istore (q := 80) (L' := [(6, .int v20), (0, .ref 0), (1, .int a1), (2, .int a2), (3, .int v12), (4, .int v13), (5, .int v14)]) ok dX10_bestWalk_78 rfl (by decide) rfl rfl ?_
              refine g_iload (q := 82) ok dX10_bestWalk_80 rfl 0 rfl ?_
              refine g_iload (q := 84) ok dX10_bestWalk_82 rfl 5 rfl ?_
              refine g_icmp_gt (q := 87) (g := 90) ok dX10_bestWalk_84 rfl (by decide) ?_ ?_
              · refine g_iload (q := 92) ok dX10_bestWalk_90 rfl 0 rfl ?_
                refine g_istore (q := 94) (L' := [(4, .int v20), (6, .int v20), (0, .ref 0), (1, .int a1), (2, .int a2), (3, .int v12), (5, .int v14)]) ok dX10_bestWalk_92 rfl (by decide) rfl rfl ?_
                refine g_iload (q := 96) ok dX10_bestWalk_94 rfl 6 rfl ?_
                refine g_istore_n (q := 97) (L' := [(3, .int v14), (4, .int v20), (6, .int v20), (0, .ref 0), (1, .int a1), (2, .int a2), (5, .int v14)]) ok dX10_bestWalk_96 rfl rfl (by decide) rfl rfl ?_
                refine g_to (L' := [(0, .ref 0), (1, .int a1), (2, .int a2), (5, .int v14), (3, .int v14), (4, .int v20)]) ?_ [3, 4, 5, 6, 0, 1] rfl
                exact hk16 _ _ _
              · refine g_goto (q := 97) ok dX10_bestWalk_87 (by decide) ?_
                refine g_to (L' := [(0, .ref 0), (1, .int a1), (2, .int a2), (5, .int v14), (3, .int v12), (4, .int v13)]) ?_ [1, 2, 3, 6, 4, 5] rfl
                exact hk16 _ _ _
      · refine g_to (L' := [(0, .ref 0), (1, .int a1), (2, .int a2), (3, .int (nI 0))]) ?_ [1, 2, 3, 0] rfl
        refine g_loop1 (Lf := fun v23 => [(0, .ref 0), (1, .int a1), (2, .int a2), (3, .int v23)]) (fun go22 hgo22 v23 w24 => ?_) N _ _
        unfold xX10_bestWalk_b21
        refine g_iload_n (q := 22) ok dX10_bestWalk_21 rfl 3 rfl rfl ?_
        refine g_aload_n (q := 23) ok dX10_bestWalk_22 rfl 0 rfl rfl ?_
        refine g_getI (q := 26) (N := 0) ok dX10_bestWalk_23 rfl fl_X10_233 sM_0 rfl ?_
        refine g_icmp_ge (q := 29) (g := 47) ok dX10_bestWalk_26 rfl (by decide) ?_ ?_
        · refine g_to (L' := [(0, .ref 0), (1, .int a1), (2, .int a2)]) ?_ [0, 1, 2] rfl
          exact hk5 _
        · refine g_aload_n (q := 30) ok dX10_bestWalk_29 rfl 0 rfl rfl ?_
          refine g_getR (q := 33) ok dX10_bestWalk_30 rfl fl_X10_38 sM_0 rfl ?_
          refine g_iload_n (q := 34) ok dX10_bestWalk_33 rfl 3 rfl rfl ?_
          refine g_iald (q := 35) ok dX10_bestWalk_34 rfl sM_10 ?_
          refine g_iload_n (q := 36) ok dX10_bestWalk_35 rfl 1 rfl rfl ?_
          refine g_icmp_ne (q := 39) (g := 41) ok dX10_bestWalk_36 rfl (by decide) ?_ ?_
          · refine g_iinc (v := v23 + (nI 1)) (q := 44) (L' := [(3, .int (v23 + (nI 1))), (0, .ref 0), (1, .int a1), (2, .int a2)]) ok dX10_bestWalk_41 rfl 3 rfl rfl (by decide) rfl rfl ?_
            refine g_goto (q := 21) ok dX10_bestWalk_44 (by decide) ?_
            refine g_to (L' := [(0, .ref 0), (1, .int a1), (2, .int a2), (3, .int (v23 + (nI 1)))]) ?_ [1, 2, 3, 0] rfl
            exact hgo22 _ _
          · refine g_iconst (v := (-1)) (q := 40) ok dX10_bestWalk_39 rfl (by decide) ?_
            exact g_iret ok dX10_bestWalk_40
    · refine g_iconst (v := (-1)) (q := 18) ok dX10_bestWalk_17 rfl (by decide) ?_
      exact g_iret ok dX10_bestWalk_18
set_option maxRecDepth 20000 in
theorem kX10_candle (N : Nat) (a1 : Int32) (a2 : Int32) (a3 : Int32) (w : gT) : gM S2 cl2 gTs yX10_candle cX10_candle 9 (some .int) rmX10_candle gi [.ref 0, .int a1, .int a2, .int a3] w (xX10_candle N a1 a2 a3 w) := by
  refine gM_of (own := RX10) [(0, .ref 0), (1, .int a1), (2, .int a2), (3, .int a3)] rfl (by decide) (fun _ => rfl) (fun _ => Nat.le_of_ble_eq_true rfl) (fun κ ok => ?_)
  unfold xX10_candle
  refine g_iload_n (q := 1) ok dX10_candle_0 rfl 1 rfl rfl ?_
  refine g_callSi (q := 4) (As := [.int a1]) (st := []) ok tbl_good dX10_candle_1 rfl (kX10_isNight _ _) cf_X10_179 ⟨rfl, rfl, Nat.le_of_ble_eq_true rfl, Nat.le_of_ble_eq_true rfl⟩ rfl rfl (fun _ => Nat.le_of_ble_eq_true rfl) (fun v1 w2 => ?_)
  refine g_if_eq (q := 7) (g := 32) ok dX10_candle_4 rfl (by decide) ?_ ?_
  · refine g_iconst (v := (-1)) (q := 33) ok dX10_candle_32 rfl (by decide) ?_
    exact g_iret ok dX10_candle_33
  · refine g_iload_n (q := 8) ok dX10_candle_7 rfl 2 rfl rfl ?_
    refine g_iconst (v := (nI 1)) (q := 9) ok dX10_candle_8 rfl (by decide) ?_
    refine g_icmp_lt (q := 12) (g := 32) ok dX10_candle_9 rfl (by decide) ?_ ?_
    · refine g_iconst (v := (-1)) (q := 33) ok dX10_candle_32 rfl (by decide) ?_
      exact g_iret ok dX10_candle_33
    · refine g_iload_n (q := 13) ok dX10_candle_12 rfl 2 rfl rfl ?_
      refine g_aload_n (q := 14) ok dX10_candle_13 rfl 0 rfl rfl ?_
      refine g_getI (q := 17) (N := 0) ok dX10_candle_14 rfl fl_X10_161 sM_0 rfl ?_
      refine g_iconst (v := (-1)) (q := 18) ok dX10_candle_17 rfl (by decide) ?_
      refine g_ixor (q := 19) ok dX10_candle_18 rfl ?_
      refine g_iand (q := 20) ok dX10_candle_19 rfl ?_
      refine g_if_ne (q := 23) (g := 32) ok dX10_candle_20 rfl (by decide) ?_ ?_
      · refine g_iconst (v := (-1)) (q := 33) ok dX10_candle_32 rfl (by decide) ?_
        exact g_iret ok dX10_candle_33
      · refine g_iload_n (q := 24) ok dX10_candle_23 rfl 3 rfl rfl ?_
        refine g_iconst (v := (nI 0)) (q := 25) ok dX10_candle_24 rfl (by decide) ?_
        refine g_iconst (v := (nI 3)) (q := 26) ok dX10_candle_25 rfl (by decide) ?_
        refine g_callSi (q := 29) (As := [.int a3, .int (nI 0), .int (nI 3)]) (st := []) ok tbl_good dX10_candle_26 rfl (kX10_in _ _ _ _) cf_X10_175 ⟨rfl, rfl, Nat.le_of_ble_eq_true rfl, Nat.le_of_ble_eq_true rfl⟩ rfl rfl (fun _ => Nat.le_of_ble_eq_true rfl) (fun v3 w4 => ?_)
        refine g_if_ne (q := 32) (g := 34) ok dX10_candle_29 rfl (by decide) ?_ ?_
        · refine g_iconst (v := (nI 0)) (q := 35) ok dX10_candle_34 rfl (by decide) ?_
          refine g_istore (q := 37) (L' := [(4, .int (nI 0)), (0, .ref 0), (1, .int a1), (2, .int a2), (3, .int a3)]) ok dX10_candle_35 rfl (by decide) rfl rfl ?_
          refine g_iconst (v := (-1)) (q := 38) ok dX10_candle_37 rfl (by decide) ?_
          refine g_istore (q := 40) (L' := [(5, .int (-1)), (4, .int (nI 0)), (0, .ref 0), (1, .int a1), (2, .int a2), (3, .int a3)]) ok dX10_candle_38 rfl (by decide) rfl rfl ?_
          refine g_iconst (v := (nI 0)) (q := 41) ok dX10_candle_40 rfl (by decide) ?_
          refine g_istore (q := 43) (L' := [(6, .int (nI 0)), (5, .int (-1)), (4, .int (nI 0)), (0, .ref 0), (1, .int a1), (2, .int a2), (3, .int a3)]) ok dX10_candle_41 rfl (by decide) rfl rfl ?_
          refine g_iconst (v := (nI 0)) (q := 44) ok dX10_candle_43 rfl (by decide) ?_
          refine g_istore (q := 46) (L' := [(7, .int (nI 0)), (6, .int (nI 0)), (5, .int (-1)), (4, .int (nI 0)), (0, .ref 0), (1, .int a1), (2, .int a2), (3, .int a3)]) ok dX10_candle_44 rfl (by decide) rfl rfl ?_
          refine g_join (P := fun k5 => ∀ (v6 : Int32) (v7 : Int32) (v8 : Int32) (w9 : gT), gJ S2 cl2 rmX10_candle 9 gi κ 124 [(0, .ref 0), (3, .int a3), (4, .int v6), (5, .int v7), (6, .int v8)] [] w9 (k5 v6 v7 v8 w9)) (fun v6 v7 v8 w9 => ?_) (fun k5 hk5 => ?_)
          · refine g_join (P := fun k10 => ∀ (w11 : gT), gJ S2 cl2 rmX10_candle 9 gi κ 133 [(0, .ref 0), (3, .int a3), (4, .int v6), (6, .int v8)] [] w11 (k10 w11)) (fun w11 => ?_) (fun k10 hk10 => ?_)
            · refine g_iload_n (q := 134) ok dX10_candle_133 rfl 1 rfl rfl ?_
              refine g_if_ne (q := 137) (g := 142) ok dX10_candle_134 rfl (by decide) ?_ ?_
              · refine g_iload (q := 144) ok dX10_candle_142 rfl 3 rfl ?_
                exact g_iret ok dX10_candle_144
              · refine g_iload (q := 139) ok dX10_candle_137 rfl 2 rfl ?_
                refine g_goto (q := 144) ok dX10_candle_139 (by decide) ?_
                exact g_iret ok dX10_candle_144
            · refine g_iload_n (q := 125) ok dX10_candle_124 rfl 1 rfl rfl ?_
              refine g_if_eq (q := 128) (g := 133) ok dX10_candle_125 rfl (by decide) ?_ ?_
              · refine g_to (L' := [(0, .ref 0), (3, .int a3), (4, .int v6), (6, .int v8)]) ?_ [0, 1, 2, 4] rfl
                exact hk10 _
              · refine g_iload_n (q := 129) ok dX10_candle_128 rfl 1 rfl rfl ?_
                refine g_iconst (v := (nI 3)) (q := 130) ok dX10_candle_129 rfl (by decide) ?_
                refine g_icmp_ne (q := 133) (g := 145) ok dX10_candle_130 rfl (by decide) ?_ ?_
                · refine g_iload (q := 147) ok dX10_candle_145 rfl 3 rfl ?_
                  refine g_iconst (v := (-1)) (q := 148) ok dX10_candle_147 rfl (by decide) ?_
                  refine g_icmp_ne (q := 151) (g := 156) ok dX10_candle_148 rfl (by decide) ?_ ?_
                  · refine g_iload_n (q := 157) ok dX10_candle_156 rfl 1 rfl rfl ?_
                    refine g_iconst (v := (nI 1)) (q := 158) ok dX10_candle_157 rfl (by decide) ?_
                    refine g_icmp_ne (q := 161) (g := 169) ok dX10_candle_158 rfl (by decide) ?_ ?_
                    · refine g_iload (q := 171) ok dX10_candle_169 rfl 3 rfl ?_
                      refine g_bipush (v := (nI 12)) (q := 173) ok dX10_candle_171 rfl (by decide) ?_
                      refine g_iremC (q := 174) ok dX10_candle_173 rfl (by decide) ?_
                      exact g_iret ok dX10_candle_174
                    · refine g_iload (q := 163) ok dX10_candle_161 rfl 3 rfl ?_
                      refine g_bipush (v := (nI 12)) (q := 165) ok dX10_candle_163 rfl (by decide) ?_
                      refine g_idivC (q := 166) ok dX10_candle_165 rfl (by decide) ?_
                      refine g_goto (q := 174) ok dX10_candle_166 (by decide) ?_
                      exact g_iret ok dX10_candle_174
                  · refine g_bipush (v := (-2)) (q := 153) ok dX10_candle_151 rfl (by decide) ?_
                    refine g_goto (q := 174) ok dX10_candle_153 (by decide) ?_
                    exact g_iret ok dX10_candle_174
                · refine g_to (L' := [(0, .ref 0), (3, .int a3), (4, .int v6), (6, .int v8)]) ?_ [0, 1, 2, 4] rfl
                  exact hk10 _
          · refine g_to (L' := [(0, .ref 0), (1, .int a1), (2, .int a2), (3, .int a3), (4, .int (nI 0)), (5, .int (-1)), (6, .int (nI 0)), (7, .int (nI 0))]) ?_ [4, 5, 6, 7, 3, 2, 1, 0] rfl
            refine g_loop4 (Lf := fun v13 v14 v15 v16 => [(0, .ref 0), (1, .int a1), (2, .int a2), (3, .int a3), (4, .int v13), (5, .int v14), (6, .int v15), (7, .int v16)]) (fun go12 hgo12 v13 v14 v15 v16 w17 => ?_) N _ _ _ _ _
            unfold xX10_candle_b46
            refine g_iload (q := 48) ok dX10_candle_46 rfl 7 rfl ?_
            refine g_bipush (v := (nI 120)) (q := 50) ok dX10_candle_48 rfl (by decide) ?_
            refine g_icmp_ge (q := 53) (g := 124) ok dX10_candle_50 rfl (by decide) ?_ ?_
            · refine g_to (L' := [(0, .ref 0), (3, .int a3), (4, .int v13), (5, .int v14), (6, .int v15)]) ?_ [0, 3, 4, 5, 6] rfl
              exact hk5 _ _ _ _
            · refine g_join (P := fun k18 => ∀ (v19 : Int32) (v20 : Int32) (v21 : Int32) (w22 : gT), gJ S2 cl2 rmX10_candle 9 gi κ 118 [(0, .ref 0), (1, .int a1), (2, .int a2), (3, .int a3), (7, .int v16), (4, .int v19), (5, .int v20), (6, .int v21)] [] w22 (k18 v19 v20 v21 w22)) (fun v19 v20 v21 w22 => ?_) (fun k18 hk18 => ?_)
              · refine g_iinc (v := v16 + (nI 1)) (q := 121) (L' := [(7, .int (v16 + (nI 1))), (0, .ref 0), (1, .int a1), (2, .int a2), (3, .int a3), (4, .int v19), (5, .int v20), (6, .int v21)]) ok dX10_candle_118 rfl 4 rfl rfl (by decide) rfl rfl ?_
                refine g_goto (q := 46) ok dX10_candle_121 (by decide) ?_
                refine g_to (L' := [(0, .ref 0), (1, .int a1), (2, .int a2), (3, .int a3), (4, .int v19), (5, .int v20), (6, .int v21), (7, .int (v16 + (nI 1)))]) ?_ [1, 2, 3, 4, 5, 6, 7, 0] rfl
                exact hgo12 _ _ _ _ _
              · refine g_iload (q := 55) ok dX10_candle_53 rfl 7 rfl ?_
                refine g_bipush (v := (nI 12)) (q := 57) ok dX10_candle_55 rfl (by decide) ?_
                refine g_idivC (q := 58) ok dX10_candle_57 rfl (by decide) ?_
                refine g_leti (fun v23 => ?_)
                refine g_istore (q := 60) (L' := [(8, .int v23), (0, .ref 0), (1, .int a1), (2, .int a2), (3, .int a3), (4, .int v13), (5, .int v14), (6, .int v15), (7, .int v16)]) ok dX10_candle_58 rfl (by decide) rfl rfl ?_
                refine g_aload_n (q := 61) ok dX10_candle_60 rfl 1 rfl rfl ?_
                refine g_iload (q := 63) ok dX10_candle_61 rfl 0 rfl ?_
                refine g_callVi (q := 66) (As := [.int v23]) (st := []) ok tbl_good dX10_candle_63 rfl (kX10_isGhost _ _) cf_X10_236 ⟨rfl, rfl, Nat.le_of_ble_eq_true rfl, Nat.le_of_ble_eq_true rfl⟩ sM_0 rfl rfl rfl (fun _ => Nat.le_of_ble_eq_true rfl) (fun v24 w25 => ?_)
                refine g_if_eq (q := 69) (g := 118) ok dX10_candle_66 rfl (by decide) ?_ ?_
                · refine g_to (L' := [(0, .ref 0), (1, .int a1), (2, .int a2), (3, .int a3), (7, .int v16), (4, .int v13), (5, .int v14), (6, .int v15)]) ?_ [1, 2, 3, 4, 8, 5, 6, 7] rfl
                  exact hk18 _ _ _ _
                · refine g_aload_n (q := 70) ok dX10_candle_69 rfl 1 rfl rfl ?_
                  refine g_iload (q := 72) ok dX10_candle_70 rfl 0 rfl ?_
                  refine g_iload_n (q := 73) ok dX10_candle_72 rfl 2 rfl rfl ?_
                  refine g_iload (q := 75) ok dX10_candle_73 rfl 8 rfl ?_
                  refine g_bipush (v := (nI 12)) (q := 77) ok dX10_candle_75 rfl (by decide) ?_
                  refine g_iremC (q := 78) ok dX10_candle_77 rfl (by decide) ?_
                  refine g_callVi (q := 81) (As := [.int v23, .int a1, .int (gRem v16 (nI 12))]) (st := []) ok tbl_good dX10_candle_78 rfl (kX10_frightened N _ _ _ _) cf_X10_364 ⟨rfl, rfl, Nat.le_of_ble_eq_true rfl, Nat.le_of_ble_eq_true rfl⟩ sM_0 rfl rfl rfl (fun _ => Nat.le_of_ble_eq_true rfl) (fun v26 w27 => ?_)
                  refine g_iload_n (q := 82) ok dX10_candle_81 rfl 3 rfl rfl ?_
                  refine g_icmp_eq (q := 85) (g := 88) ok dX10_candle_82 rfl (by decide) ?_ ?_
                  · refine g_join (P := fun k28 => ∀ (v29 : Int32) (w30 : gT), gJ S2 cl2 rmX10_candle 9 gi κ 101 [(0, .ref 0), (1, .int a1), (2, .int a2), (3, .int a3), (4, .int v13), (6, .int v15), (7, .int v16), (8, .int v23)] [.int v29] w30 (k28 v29 w30)) (fun v29 w30 => ?_) (fun k28 hk28 => ?_)
                    · refine g_istore (q := 103) (L' := [(5, .int v29), (0, .ref 0), (1, .int a1), (2, .int a2), (3, .int a3), (4, .int v13), (6, .int v15), (7, .int v16), (8, .int v23)]) ok dX10_candle_101 rfl (by decide) rfl rfl ?_
                      refine g_iload (q := 105) ok dX10_candle_103 rfl 6 rfl ?_
                      refine g_iconst (v := (nI 1)) (q := 106) ok dX10_candle_105 rfl (by decide) ?_
                      refine g_iload (q := 108) ok dX10_candle_106 rfl 8 rfl ?_
                      refine g_ishl (q := 109) ok dX10_candle_108 rfl ?_
                      refine g_ior (q := 110) ok dX10_candle_109 rfl ?_
                      refine g_leti (fun v31 => ?_)
                      refine g_istore (q := 112) (L' := [(6, .int v31), (5, .int v29), (0, .ref 0), (1, .int a1), (2, .int a2), (3, .int a3), (4, .int v13), (7, .int v16), (8, .int v23)]) ok dX10_candle_110 rfl (by decide) rfl rfl ?_
                      refine g_iload (q := 114) ok dX10_candle_112 rfl 6 rfl ?_
                      refine g_iconst (v := (nI 1)) (q := 115) ok dX10_candle_114 rfl (by decide) ?_
                      refine g_iadd (q := 116) ok dX10_candle_115 rfl ?_
                      refine g_leti (fun v32 => ?_)
                      refine g_istore (q := 118) (L' := [(4, .int v32), (6, .int v31), (5, .int v29), (0, .ref 0), (1, .int a1), (2, .int a2), (3, .int a3), (7, .int v16), (8, .int v23)]) ok dX10_candle_116 rfl (by decide) rfl rfl ?_
                      refine g_to (L' := [(0, .ref 0), (1, .int a1), (2, .int a2), (3, .int a3), (7, .int v16), (4, .int v32), (5, .int v29), (6, .int v31)]) ?_ [3, 4, 5, 6, 7, 0, 2, 1] rfl
                      exact hk18 _ _ _ _
                    · refine g_iload (q := 90) ok dX10_candle_88 rfl 6 rfl ?_
                      refine g_iconst (v := (-1)) (q := 91) ok dX10_candle_90 rfl (by decide) ?_
                      refine g_icmp_ne (q := 94) (g := 99) ok dX10_candle_91 rfl (by decide) ?_ ?_
                      · refine g_iload (q := 101) ok dX10_candle_99 rfl 6 rfl ?_
                        refine g_to (L' := [(0, .ref 0), (1, .int a1), (2, .int a2), (3, .int a3), (4, .int v13), (6, .int v15), (7, .int v16), (8, .int v23)]) ?_ [1, 2, 3, 4, 5, 7, 8, 0] rfl
                        exact hk28 _ _
                      · refine g_iload (q := 96) ok dX10_candle_94 rfl 8 rfl ?_
                        refine g_goto (q := 101) ok dX10_candle_96 (by decide) ?_
                        refine g_to (L' := [(0, .ref 0), (1, .int a1), (2, .int a2), (3, .int a3), (4, .int v13), (6, .int v15), (7, .int v16), (8, .int v23)]) ?_ [1, 2, 3, 4, 5, 7, 8, 0] rfl
                        exact hk28 _ _
                  · refine g_goto (q := 118) ok dX10_candle_85 (by decide) ?_
                    refine g_to (L' := [(0, .ref 0), (1, .int a1), (2, .int a2), (3, .int a3), (7, .int v16), (4, .int v13), (5, .int v14), (6, .int v15)]) ?_ [1, 2, 3, 4, 8, 5, 6, 7] rfl
                    exact hk18 _ _ _ _
        · refine g_iconst (v := (-1)) (q := 33) ok dX10_candle_32 rfl (by decide) ?_
          exact g_iret ok dX10_candle_33
set_option maxRecDepth 20000 in
theorem kX10_draughts (N : Nat) (w : gT) : gM S2 cl2 gTs yX10_draughts cX10_draughts 3 (some .int) rmX10_draughts gi [.ref 0] w (xX10_draughts N w) := by
  refine gM_of (own := RX10) [(0, .ref 0)] rfl (by decide) (fun _ => rfl) (fun _ => Nat.le_of_ble_eq_true rfl) (fun κ ok => ?_)
  unfold xX10_draughts
  refine g_iconst (v := (nI 0)) (q := 1) ok dX10_draughts_0 rfl (by decide) ?_
  refine g_istore_n (q := 2) (L' := [(1, .int (nI 0)), (0, .ref 0)]) ok dX10_draughts_1 rfl rfl (by decide) rfl rfl ?_
  refine g_iconst (v := (nI 0)) (q := 3) ok dX10_draughts_2 rfl (by decide) ?_
  refine g_istore_n (q := 4) (L' := [(2, .int (nI 0)), (1, .int (nI 0)), (0, .ref 0)]) ok dX10_draughts_3 rfl rfl (by decide) rfl rfl ?_
  refine g_to (L' := [(0, .ref 0), (1, .int (nI 0)), (2, .int (nI 0))]) ?_ [2, 1, 0] rfl
  refine g_loop2 (Lf := fun v2 v3 => [(0, .ref 0), (1, .int v2), (2, .int v3)]) (fun go1 hgo1 v2 v3 w4 => ?_) N _ _ _
  unfold xX10_draughts_b4
  refine g_iload_n (q := 5) ok dX10_draughts_4 rfl 2 rfl rfl ?_
  refine g_bipush (v := (nI 10)) (q := 7) ok dX10_draughts_5 rfl (by decide) ?_
  refine g_icmp_ge (q := 10) (g := 54) ok dX10_draughts_7 rfl (by decide) ?_ ?_
  · refine g_iload_n (q := 55) ok dX10_draughts_54 rfl 1 rfl rfl ?_
    exact g_iret ok dX10_draughts_55
  · refine g_join (P := fun k5 => ∀ (v6 : Int32) (w7 : gT), gJ S2 cl2 rmX10_draughts 3 gi κ 48 [(0, .ref 0), (2, .int v3), (1, .int v6)] [] w7 (k5 v6 w7)) (fun v6 w7 => ?_) (fun k5 hk5 => ?_)
    · refine g_iinc (v := v3 + (nI 1)) (q := 51) (L' := [(2, .int (v3 + (nI 1))), (0, .ref 0), (1, .int v6)]) ok dX10_draughts_48 rfl 1 rfl rfl (by decide) rfl rfl ?_
      refine g_goto (q := 4) ok dX10_draughts_51 (by decide) ?_
      refine g_to (L' := [(0, .ref 0), (1, .int v6), (2, .int (v3 + (nI 1)))]) ?_ [1, 2, 0] rfl
      exact hgo1 _ _ _
    · refine g_aload_n (q := 11) ok dX10_draughts_10 rfl 0 rfl rfl ?_
      refine g_iload_n (q := 12) ok dX10_draughts_11 rfl 2 rfl rfl ?_
      refine g_callVi (q := 15) (As := [.int v3]) (st := []) ok tbl_good dX10_draughts_12 rfl (kX10_isGhost _ _) cf_X10_236 ⟨rfl, rfl, Nat.le_of_ble_eq_true rfl, Nat.le_of_ble_eq_true rfl⟩ sM_0 rfl rfl rfl (fun _ => Nat.le_of_ble_eq_true rfl) (fun v8 w9 => ?_)
      refine g_if_eq (q := 18) (g := 48) ok dX10_draughts_15 rfl (by decide) ?_ ?_
      · refine g_to (L' := [(0, .ref 0), (2, .int v3), (1, .int v2)]) ?_ [0, 2, 1] rfl
        exact hk5 _ _
      · refine g_aload_n (q := 19) ok dX10_draughts_18 rfl 0 rfl rfl ?_
        refine g_getR (q := 22) ok dX10_draughts_19 rfl fl_X10_31 sM_0 rfl ?_
        refine g_bipush (v := (nI 30)) (q := 24) ok dX10_draughts_22 rfl (by decide) ?_
        refine g_iload_n (q := 25) ok dX10_draughts_24 rfl 2 rfl rfl ?_
        refine g_iadd (q := 26) ok dX10_draughts_25 rfl ?_
        refine g_iald (q := 27) ok dX10_draughts_26 rfl sM_8 ?_
        refine g_if_le (q := 30) (g := 48) ok dX10_draughts_27 rfl (by decide) ?_ ?_
        · refine g_to (L' := [(0, .ref 0), (2, .int v3), (1, .int v2)]) ?_ [0, 2, 1] rfl
          exact hk5 _ _
        · refine g_aload_n (q := 31) ok dX10_draughts_30 rfl 0 rfl rfl ?_
          refine g_getR (q := 34) ok dX10_draughts_31 rfl fl_X10_31 sM_0 rfl ?_
          refine g_bipush (v := (nI 20)) (q := 36) ok dX10_draughts_34 rfl (by decide) ?_
          refine g_iload_n (q := 37) ok dX10_draughts_36 rfl 2 rfl rfl ?_
          refine g_iadd (q := 38) ok dX10_draughts_37 rfl ?_
          refine g_iald (q := 39) ok dX10_draughts_38 rfl sM_8 ?_
          refine g_if_ne (q := 42) (g := 48) ok dX10_draughts_39 rfl (by decide) ?_ ?_
          · refine g_to (L' := [(0, .ref 0), (2, .int v3), (1, .int v2)]) ?_ [0, 2, 1] rfl
            exact hk5 _ _
          · refine g_iload_n (q := 43) ok dX10_draughts_42 rfl 1 rfl rfl ?_
            refine g_iconst (v := (nI 1)) (q := 44) ok dX10_draughts_43 rfl (by decide) ?_
            refine g_iload_n (q := 45) ok dX10_draughts_44 rfl 2 rfl rfl ?_
            refine g_ishl (q := 46) ok dX10_draughts_45 rfl ?_
            refine g_ior (q := 47) ok dX10_draughts_46 rfl ?_
            refine g_leti (fun v10 => ?_)
            refine g_istore_n (q := 48) (L' := [(1, .int v10), (0, .ref 0), (2, .int v3)]) ok dX10_draughts_47 rfl rfl (by decide) rfl rfl ?_
            refine g_to (L' := [(0, .ref 0), (2, .int v3), (1, .int v10)]) ?_ [1, 2, 0] rfl
            exact hk5 _ _
set_option maxRecDepth 20000 in
theorem kX10_mendedBy (N : Nat) (a1 : Int32) (w : gT) : gM S2 cl2 gTs yX10_mendedBy cX10_mendedBy 3 (some .int) rmX10_mendedBy gi [.ref 0, .int a1] w (xX10_mendedBy N a1 w) := by
  refine gM_of (own := RX10) [(0, .ref 0), (1, .int a1)] rfl (by decide) (fun _ => rfl) (fun _ => Nat.le_of_ble_eq_true rfl) (fun κ ok => ?_)
  unfold xX10_mendedBy
  refine g_aload_n (q := 1) ok dX10_mendedBy_0 rfl 0 rfl rfl ?_
  refine g_getR (q := 4) ok dX10_mendedBy_1 rfl fl_X10_22 sM_0 rfl ?_
  refine g_iload_n (q := 5) ok dX10_mendedBy_4 rfl 1 rfl rfl ?_
  refine g_iald (q := 6) ok dX10_mendedBy_5 rfl sM_5 ?_
  refine g_bipush (v := (nI 9)) (q := 8) ok dX10_mendedBy_6 rfl (by decide) ?_
  refine g_icmp_ne (q := 11) (g := 13) ok dX10_mendedBy_8 rfl (by decide) ?_ ?_
  · refine g_aload_n (q := 14) ok dX10_mendedBy_13 rfl 0 rfl rfl ?_
    refine g_callVv (q := 17) (As := []) (st := []) ok tbl_good dX10_mendedBy_14 rfl (kX10_laysWeek N _) cf_X10_360 ⟨rfl, rfl, Nat.le_of_ble_eq_true rfl, Nat.le_of_ble_eq_true rfl⟩ sM_0 rfl rfl rfl (fun _ => Nat.le_of_ble_eq_true rfl) (fun w1 => ?_)
    refine g_aload_n (q := 18) ok dX10_mendedBy_17 rfl 0 rfl rfl ?_
    refine g_getR (q := 21) ok dX10_mendedBy_18 rfl fl_X10_102 sM_0 rfl ?_
    refine g_iconst (v := (nI 0)) (q := 22) ok dX10_mendedBy_21 rfl (by decide) ?_
    refine g_ialdC (j := 0) (q := 23) ok dX10_mendedBy_22 rfl sM_31 (by decide) (by decide) ?_
    refine g_leti (fun v2 => ?_)
    refine g_istore_n (q := 24) (L' := [(2, .int v2), (0, .ref 0), (1, .int a1)]) ok dX10_mendedBy_23 rfl rfl (by decide) rfl rfl ?_
    refine g_aload_n (q := 25) ok dX10_mendedBy_24 rfl 1 rfl rfl ?_
    refine g_getR (q := 28) ok dX10_mendedBy_25 rfl fl_X10_22 sM_0 rfl ?_
    refine g_iload_n (q := 29) ok dX10_mendedBy_28 rfl 2 rfl rfl ?_
    refine g_aload_n (q := 30) ok dX10_mendedBy_29 rfl 1 rfl rfl ?_
    refine g_getR (q := 33) ok dX10_mendedBy_30 rfl fl_X10_22 sM_0 rfl ?_
    refine g_iload_n (q := 34) ok dX10_mendedBy_33 rfl 2 rfl rfl ?_
    refine g_iald (q := 35) ok dX10_mendedBy_34 rfl sM_5 ?_
    refine g_iconst (v := (nI 1)) (q := 36) ok dX10_mendedBy_35 rfl (by decide) ?_
    refine g_iadd (q := 37) ok dX10_mendedBy_36 rfl ?_
    refine g_iast (q := 38) ok dX10_mendedBy_37 rfl sM_5 ?_
    refine g_letw (fun w3 => ?_)
    refine g_aload_n (q := 39) ok dX10_mendedBy_38 rfl 1 rfl rfl ?_
    refine g_callVv (q := 42) (As := []) (st := []) ok tbl_good dX10_mendedBy_39 rfl (kX10_laysWeek N _) cf_X10_360 ⟨rfl, rfl, Nat.le_of_ble_eq_true rfl, Nat.le_of_ble_eq_true rfl⟩ sM_0 rfl rfl rfl (fun _ => Nat.le_of_ble_eq_true rfl) (fun w4 => ?_)
    refine g_aload_n (q := 43) ok dX10_mendedBy_42 rfl 1 rfl rfl ?_
    refine g_getR (q := 46) ok dX10_mendedBy_43 rfl fl_X10_22 sM_0 rfl ?_
    refine g_iload_n (q := 47) ok dX10_mendedBy_46 rfl 2 rfl rfl ?_
    refine g_aload_n (q := 48) ok dX10_mendedBy_47 rfl 1 rfl rfl ?_
    refine g_getR (q := 51) ok dX10_mendedBy_48 rfl fl_X10_22 sM_0 rfl ?_
    refine g_iload_n (q := 52) ok dX10_mendedBy_51 rfl 2 rfl rfl ?_
    refine g_iald (q := 53) ok dX10_mendedBy_52 rfl sM_5 ?_
    refine g_iconst (v := (nI 1)) (q := 54) ok dX10_mendedBy_53 rfl (by decide) ?_
    refine g_isub (q := 55) ok dX10_mendedBy_54 rfl ?_
    refine g_iast (q := 56) ok dX10_mendedBy_55 rfl sM_5 ?_
    refine g_letw (fun w5 => ?_)
    refine g_aload_n (q := 57) ok dX10_mendedBy_56 rfl 1 rfl rfl ?_
    refine g_getR (q := 60) ok dX10_mendedBy_57 rfl fl_X10_102 sM_0 rfl ?_
    refine g_iconst (v := (nI 0)) (q := 61) ok dX10_mendedBy_60 rfl (by decide) ?_
    refine g_ialdC (j := 0) (q := 62) ok dX10_mendedBy_61 rfl sM_31 (by decide) (by decide) ?_
    refine g_iload_n (q := 63) ok dX10_mendedBy_62 rfl 0 rfl rfl ?_
    refine g_isub (q := 64) ok dX10_mendedBy_63 rfl ?_
    exact g_iret ok dX10_mendedBy_64
  · refine g_iconst (v := (nI 0)) (q := 12) ok dX10_mendedBy_11 rfl (by decide) ?_
    exact g_iret ok dX10_mendedBy_12
set_option maxRecDepth 20000 in
theorem kX10_mended (N : Nat) (a1 : Int32) (a2 : Int32) (w : gT) : gM S2 cl2 gTs yX10_mended cX10_mended 7 (some .int) rmX10_mended gi [.ref 0, .int a1, .int a2] w (xX10_mended N a1 a2 w) := by
  refine gM_of (own := RX10) [(0, .ref 0), (1, .int a1), (2, .int a2)] rfl (by decide) (fun _ => rfl) (fun _ => Nat.le_of_ble_eq_true rfl) (fun κ ok => ?_)
  unfold xX10_mended
  refine g_iload_n (q := 1) ok dX10_mended_0 rfl 2 rfl rfl ?_
  refine g_if_ne (q := 4) (g := 24) ok dX10_mended_1 rfl (by decide) ?_ ?_
  · refine g_iload_n (q := 25) ok dX10_mended_24 rfl 2 rfl rfl ?_
    refine g_iconst (v := (nI 1)) (q := 26) ok dX10_mended_25 rfl (by decide) ?_
    refine g_iconst (v := (nI 2)) (q := 27) ok dX10_mended_26 rfl (by decide) ?_
    refine g_callSi (q := 30) (As := [.int a2, .int (nI 1), .int (nI 2)]) (st := []) ok tbl_good dX10_mended_27 rfl (kX10_in _ _ _ _) cf_X10_175 ⟨rfl, rfl, Nat.le_of_ble_eq_true rfl, Nat.le_of_ble_eq_true rfl⟩ rfl rfl (fun _ => Nat.le_of_ble_eq_true rfl) (fun v1 w2 => ?_)
    refine g_if_eq (q := 33) (g := 40) ok dX10_mended_30 rfl (by decide) ?_ ?_
    · refine g_ldcw (q := 43) ok dX10_mended_40 rfl tw_1534 ?_
      exact g_iret ok dX10_mended_43
    · refine g_aload_n (q := 34) ok dX10_mended_33 rfl 0 rfl rfl ?_
      refine g_getI (q := 37) (N := 0) ok dX10_mended_34 rfl fl_X10_168 sM_0 rfl ?_
      refine g_if_ne (q := 40) (g := 44) ok dX10_mended_37 rfl (by decide) ?_ ?_
      · refine g_iconst (v := (-1)) (q := 45) ok dX10_mended_44 rfl (by decide) ?_
        refine g_istore_n (q := 46) (L' := [(3, .int (-1)), (0, .ref 0), (1, .int a1), (2, .int a2)]) ok dX10_mended_45 rfl rfl (by decide) rfl rfl ?_
        refine g_iconst (v := (nI 0)) (q := 47) ok dX10_mended_46 rfl (by decide) ?_
        refine g_istore (q := 49) (L' := [(4, .int (nI 0)), (3, .int (-1)), (0, .ref 0), (1, .int a1), (2, .int a2)]) ok dX10_mended_47 rfl (by decide) rfl rfl ?_
        refine g_iconst (v := (nI 0)) (q := 50) ok dX10_mended_49 rfl (by decide) ?_
        refine g_istore (q := 52) (L' := [(5, .int (nI 0)), (4, .int (nI 0)), (3, .int (-1)), (0, .ref 0), (1, .int a1), (2, .int a2)]) ok dX10_mended_50 rfl (by decide) rfl rfl ?_
        refine g_to (L' := [(0, .ref 0), (2, .int a2), (3, .int (-1)), (4, .int (nI 0)), (5, .int (nI 0))]) ?_ [3, 5, 2, 1, 0] rfl
        refine g_loop3 (Lf := fun v4 v5 v6 => [(0, .ref 0), (2, .int a2), (3, .int v4), (4, .int v5), (5, .int v6)]) (fun go3 hgo3 v4 v5 v6 w7 => ?_) N _ _ _ _
        unfold xX10_mended_b52
        refine g_iload (q := 54) ok dX10_mended_52 rfl 4 rfl ?_
        refine g_bipush (v := (nI 10)) (q := 56) ok dX10_mended_54 rfl (by decide) ?_
        refine g_icmp_ge (q := 59) (g := 107) ok dX10_mended_56 rfl (by decide) ?_ ?_
        · refine g_iload_n (q := 108) ok dX10_mended_107 rfl 1 rfl rfl ?_
          refine g_iconst (v := (nI 1)) (q := 109) ok dX10_mended_108 rfl (by decide) ?_
          refine g_icmp_ne (q := 112) (g := 116) ok dX10_mended_109 rfl (by decide) ?_ ?_
          · refine g_iload (q := 118) ok dX10_mended_116 rfl 3 rfl ?_
            exact g_iret ok dX10_mended_118
          · refine g_iload_n (q := 113) ok dX10_mended_112 rfl 2 rfl rfl ?_
            refine g_goto (q := 118) ok dX10_mended_113 (by decide) ?_
            exact g_iret ok dX10_mended_118
        · refine g_join (P := fun k8 => ∀ (v9 : Int32) (v10 : Int32) (w11 : gT), gJ S2 cl2 rmX10_mended 7 gi κ 101 [(0, .ref 0), (2, .int a2), (5, .int v6), (3, .int v9), (4, .int v10)] [] w11 (k8 v9 v10 w11)) (fun v9 v10 w11 => ?_) (fun k8 hk8 => ?_)
          · refine g_iinc (v := v6 + (nI 1)) (q := 104) (L' := [(5, .int (v6 + (nI 1))), (0, .ref 0), (2, .int a2), (3, .int v9), (4, .int v10)]) ok dX10_mended_101 rfl 2 rfl rfl (by decide) rfl rfl ?_
            refine g_goto (q := 52) ok dX10_mended_104 (by decide) ?_
            refine g_to (L' := [(0, .ref 0), (2, .int a2), (3, .int v9), (4, .int v10), (5, .int (v6 + (nI 1)))]) ?_ [1, 2, 3, 4, 0] rfl
            exact hgo3 _ _ _ _
          · refine g_aload_n (q := 60) ok dX10_mended_59 rfl 0 rfl rfl ?_
            refine g_iload (q := 62) ok dX10_mended_60 rfl 4 rfl ?_
            refine g_callVi (q := 65) (As := [.int v6]) (st := []) ok tbl_good dX10_mended_62 rfl (kX10_isGhost _ _) cf_X10_236 ⟨rfl, rfl, Nat.le_of_ble_eq_true rfl, Nat.le_of_ble_eq_true rfl⟩ sM_0 rfl rfl rfl (fun _ => Nat.le_of_ble_eq_true rfl) (fun v12 w13 => ?_)
            refine g_if_ne (q := 68) (g := 71) ok dX10_mended_65 rfl (by decide) ?_ ?_
            · refine g_join (P := fun k14 => ∀ (v15 : Int32) (w16 : gT), gJ S2 cl2 rmX10_mended 7 gi κ 94 [(0, .ref 0), (2, .int a2), (5, .int v6), (6, .int v15)] [] w16 (k14 v15 w16)) (fun v15 w16 => ?_) (fun k14 hk14 => ?_)
              · refine g_iload (q := 96) ok dX10_mended_94 rfl 2 rfl ?_
                refine g_istore_n (q := 97) (L' := [(3, .int v6), (0, .ref 0), (2, .int a2), (5, .int v6), (6, .int v15)]) ok dX10_mended_96 rfl rfl (by decide) rfl rfl ?_
                refine g_iload (q := 99) ok dX10_mended_97 rfl 4 rfl ?_
                refine g_istore (q := 101) (L' := [(4, .int v15), (3, .int v6), (0, .ref 0), (2, .int a2), (5, .int v6), (6, .int v15)]) ok dX10_mended_99 rfl (by decide) rfl rfl ?_
                refine g_to (L' := [(0, .ref 0), (2, .int a2), (5, .int v6), (3, .int v6), (4, .int v15)]) ?_ [2, 3, 4, 1, 0] rfl
                exact hk8 _ _ _
              · refine g_aload_n (q := 72) ok dX10_mended_71 rfl 0 rfl rfl ?_
                refine g_iload (q := 74) ok dX10_mended_72 rfl 4 rfl ?_
                refine g_callVi (q := 77) (As := [.int v6]) (st := []) ok tbl_good dX10_mended_74 rfl (kX10_mendedBy N _ _) cf_X10_383 ⟨rfl, rfl, Nat.le_of_ble_eq_true rfl, Nat.le_of_ble_eq_true rfl⟩ sM_0 rfl rfl rfl (fun _ => Nat.le_of_ble_eq_true rfl) (fun v17 w18 => ?_)
                refine g_istore (q := 79) (L' := [(6, .int v17), (0, .ref 0), (2, .int a2), (3, .int v4), (4, .int v5), (5, .int v6)]) ok dX10_mended_77 rfl (by decide) rfl rfl ?_
                refine g_iload_n (q := 80) ok dX10_mended_79 rfl 3 rfl rfl ?_
                refine g_iconst (v := (-1)) (q := 81) ok dX10_mended_80 rfl (by decide) ?_
                refine g_icmp_eq (q := 84) (g := 94) ok dX10_mended_81 rfl (by decide) ?_ ?_
                · refine g_to (L' := [(0, .ref 0), (2, .int a2), (5, .int v6), (6, .int v17)]) ?_ [1, 2, 5, 0] rfl
                  exact hk14 _ _
                · refine g_iload (q := 86) ok dX10_mended_84 rfl 0 rfl ?_
                  refine g_iload (q := 88) ok dX10_mended_86 rfl 4 rfl ?_
                  refine g_icmp_gt (q := 91) (g := 94) ok dX10_mended_88 rfl (by decide) ?_ ?_
                  · refine g_to (L' := [(0, .ref 0), (2, .int a2), (5, .int v6), (6, .int v17)]) ?_ [1, 2, 5, 0] rfl
                    exact hk14 _ _
                  · refine g_goto (q := 101) ok dX10_mended_91 (by decide) ?_
                    refine g_to (L' := [(0, .ref 0), (2, .int a2), (5, .int v6), (3, .int v4), (4, .int v5)]) ?_ [1, 2, 5, 3, 4] rfl
                    exact hk8 _ _ _
            · refine g_goto (q := 101) ok dX10_mended_68 (by decide) ?_
              refine g_to (L' := [(0, .ref 0), (2, .int a2), (5, .int v6), (3, .int v4), (4, .int v5)]) ?_ [0, 1, 4, 2, 3] rfl
              exact hk8 _ _ _
      · refine g_ldcw (q := 43) ok dX10_mended_40 rfl tw_1534 ?_
        exact g_iret ok dX10_mended_43
  · refine g_aload_n (q := 5) ok dX10_mended_4 rfl 0 rfl rfl ?_
    refine g_iload_n (q := 6) ok dX10_mended_5 rfl 1 rfl rfl ?_
    refine g_callVi (q := 9) (As := [.int a1]) (st := []) ok tbl_good dX10_mended_6 rfl (kX10_isGhost _ _) cf_X10_236 ⟨rfl, rfl, Nat.le_of_ble_eq_true rfl, Nat.le_of_ble_eq_true rfl⟩ sM_0 rfl rfl rfl (fun _ => Nat.le_of_ble_eq_true rfl) (fun v19 w20 => ?_)
    refine g_if_eq (q := 12) (g := 20) ok dX10_mended_9 rfl (by decide) ?_ ?_
    · refine g_ldcw (q := 23) ok dX10_mended_20 rfl tw_1534 ?_
      exact g_iret ok dX10_mended_23
    · refine g_aload_n (q := 13) ok dX10_mended_12 rfl 0 rfl rfl ?_
      refine g_iload_n (q := 14) ok dX10_mended_13 rfl 1 rfl rfl ?_
      refine g_callVi (q := 17) (As := [.int a1]) (st := []) ok tbl_good dX10_mended_14 rfl (kX10_mendedBy N _ _) cf_X10_383 ⟨rfl, rfl, Nat.le_of_ble_eq_true rfl, Nat.le_of_ble_eq_true rfl⟩ sM_0 rfl rfl rfl (fun _ => Nat.le_of_ble_eq_true rfl) (fun v21 w22 => ?_)
      refine g_goto (q := 23) ok dX10_mended_17 (by decide) ?_
      exact g_iret ok dX10_mended_23
set_option maxRecDepth 20000 in
theorem kX10_mend (a1 : Int32) (w : gT) : gM S2 cl2 gTs yX10_mend cX10_mend 2 (some .int) rmX10_mend gi [.ref 0, .int a1] w (xX10_mend a1 w) := by
  refine gM_of (own := RX10) [(0, .ref 0), (1, .int a1)] rfl (by decide) (fun _ => rfl) (fun _ => Nat.le_of_ble_eq_true rfl) (fun κ ok => ?_)
  unfold xX10_mend
  refine g_aload_n (q := 1) ok dX10_mend_0 rfl 0 rfl rfl ?_
  refine g_iload_n (q := 2) ok dX10_mend_1 rfl 1 rfl rfl ?_
  refine g_callVi (q := 5) (As := [.int a1]) (st := []) ok tbl_good dX10_mend_2 rfl (kX10_isGhost _ _) cf_X10_236 ⟨rfl, rfl, Nat.le_of_ble_eq_true rfl, Nat.le_of_ble_eq_true rfl⟩ sM_0 rfl rfl rfl (fun _ => Nat.le_of_ble_eq_true rfl) (fun v1 w2 => ?_)
  refine g_if_eq (q := 8) (g := 19) ok dX10_mend_5 rfl (by decide) ?_ ?_
  · refine g_iconst (v := (-1)) (q := 20) ok dX10_mend_19 rfl (by decide) ?_
    exact g_iret ok dX10_mend_20
  · refine g_aload_n (q := 9) ok dX10_mend_8 rfl 0 rfl rfl ?_
    refine g_getR (q := 12) ok dX10_mend_9 rfl fl_X10_22 sM_0 rfl ?_
    refine g_iload_n (q := 13) ok dX10_mend_12 rfl 1 rfl rfl ?_
    refine g_iald (q := 14) ok dX10_mend_13 rfl sM_5 ?_
    refine g_bipush (v := (nI 9)) (q := 16) ok dX10_mend_14 rfl (by decide) ?_
    refine g_icmp_ne (q := 19) (g := 21) ok dX10_mend_16 rfl (by decide) ?_ ?_
    · refine g_aload_n (q := 22) ok dX10_mend_21 rfl 0 rfl rfl ?_
      refine g_getR (q := 25) ok dX10_mend_22 rfl fl_X10_22 sM_0 rfl ?_
      refine g_iload_n (q := 26) ok dX10_mend_25 rfl 1 rfl rfl ?_
      refine g_aload_n (q := 27) ok dX10_mend_26 rfl 0 rfl rfl ?_
      refine g_getR (q := 30) ok dX10_mend_27 rfl fl_X10_22 sM_0 rfl ?_
      refine g_iload_n (q := 31) ok dX10_mend_30 rfl 1 rfl rfl ?_
      refine g_iald (q := 32) ok dX10_mend_31 rfl sM_5 ?_
      refine g_iconst (v := (nI 1)) (q := 33) ok dX10_mend_32 rfl (by decide) ?_
      refine g_iadd (q := 34) ok dX10_mend_33 rfl ?_
      refine g_iast (q := 35) ok dX10_mend_34 rfl sM_5 ?_
      refine g_letw (fun w3 => ?_)
      refine g_aload_n (q := 36) ok dX10_mend_35 rfl 0 rfl rfl ?_
      refine g_getR (q := 39) ok dX10_mend_36 rfl fl_X10_22 sM_0 rfl ?_
      refine g_iload_n (q := 40) ok dX10_mend_39 rfl 1 rfl rfl ?_
      refine g_iald (q := 41) ok dX10_mend_40 rfl sM_5 ?_
      exact g_iret ok dX10_mend_41
    · refine g_iconst (v := (-1)) (q := 20) ok dX10_mend_19 rfl (by decide) ?_
      exact g_iret ok dX10_mend_20
set_option maxRecDepth 20000 in
theorem kX10_bits (N : Nat) (a0 : Int32) (w : gT) : gM S2 cl2 gTs yX10_bits cX10_bits 3 (some .int) rmX10_bits gi [.int a0] w (xX10_bits N a0 w) := by
  refine gM_of (own := RX10) [(0, .int a0)] rfl (by decide) (fun _ => rfl) (fun _ => Nat.le_of_ble_eq_true rfl) (fun κ ok => ?_)
  unfold xX10_bits
  refine g_iconst (v := (nI 0)) (q := 1) ok dX10_bits_0 rfl (by decide) ?_
  refine g_istore_n (q := 2) (L' := [(1, .int (nI 0)), (0, .int a0)]) ok dX10_bits_1 rfl rfl (by decide) rfl rfl ?_
  refine g_iconst (v := (nI 0)) (q := 3) ok dX10_bits_2 rfl (by decide) ?_
  refine g_istore_n (q := 4) (L' := [(2, .int (nI 0)), (1, .int (nI 0)), (0, .int a0)]) ok dX10_bits_3 rfl rfl (by decide) rfl rfl ?_
  refine g_to (L' := [(0, .int a0), (1, .int (nI 0)), (2, .int (nI 0))]) ?_ [2, 1, 0] rfl
  refine g_loop2 (Lf := fun v2 v3 => [(0, .int a0), (1, .int v2), (2, .int v3)]) (fun go1 hgo1 v2 v3 w4 => ?_) N _ _ _
  unfold xX10_bits_b4
  refine g_iload_n (q := 5) ok dX10_bits_4 rfl 2 rfl rfl ?_
  refine g_bipush (v := (nI 12)) (q := 7) ok dX10_bits_5 rfl (by decide) ?_
  refine g_icmp_ge (q := 10) (g := 24) ok dX10_bits_7 rfl (by decide) ?_ ?_
  · refine g_iload_n (q := 25) ok dX10_bits_24 rfl 1 rfl rfl ?_
    exact g_iret ok dX10_bits_25
  · refine g_iload_n (q := 11) ok dX10_bits_10 rfl 1 rfl rfl ?_
    refine g_iload_n (q := 12) ok dX10_bits_11 rfl 0 rfl rfl ?_
    refine g_iload_n (q := 13) ok dX10_bits_12 rfl 2 rfl rfl ?_
    refine g_ishr (q := 14) ok dX10_bits_13 rfl ?_
    refine g_iconst (v := (nI 1)) (q := 15) ok dX10_bits_14 rfl (by decide) ?_
    refine g_iand (q := 16) ok dX10_bits_15 rfl ?_
    refine g_iadd (q := 17) ok dX10_bits_16 rfl ?_
    refine g_leti (fun v5 => ?_)
    refine g_istore_n (q := 18) (L' := [(1, .int v5), (0, .int a0), (2, .int v3)]) ok dX10_bits_17 rfl rfl (by decide) rfl rfl ?_
    refine g_iinc (v := v3 + (nI 1)) (q := 21) (L' := [(2, .int (v3 + (nI 1))), (1, .int v5), (0, .int a0)]) ok dX10_bits_18 rfl 2 rfl rfl (by decide) rfl rfl ?_
    refine g_goto (q := 4) ok dX10_bits_21 (by decide) ?_
    refine g_to (L' := [(0, .int a0), (1, .int v5), (2, .int (v3 + (nI 1)))]) ?_ [2, 1, 0] rfl
    exact hgo1 _ _ _
set_option maxRecDepth 20000 in
theorem kX10_shared (N : Nat) (a1 : Int32) (a2 : Int32) (w : gT) : gM S2 cl2 gTs yX10_shared cX10_shared 9 (some .int) rmX10_shared gi [.ref 0, .int a1, .int a2] w (xX10_shared N a1 a2 w) := by
  refine gM_of (own := RX10) [(0, .ref 0), (1, .int a1), (2, .int a2)] rfl (by decide) (fun _ => rfl) (fun _ => Nat.le_of_ble_eq_true rfl) (fun κ ok => ?_)
  unfold xX10_shared
  refine g_iload_n (q := 1) ok dX10_shared_0 rfl 1 rfl rfl ?_
  refine g_callSi (q := 4) (As := [.int a1]) (st := []) ok tbl_good dX10_shared_1 rfl (kX10_isNight _ _) cf_X10_179 ⟨rfl, rfl, Nat.le_of_ble_eq_true rfl, Nat.le_of_ble_eq_true rfl⟩ rfl rfl (fun _ => Nat.le_of_ble_eq_true rfl) (fun v1 w2 => ?_)
  refine g_if_eq (q := 7) (g := 16) ok dX10_shared_4 rfl (by decide) ?_ ?_
  · refine g_iconst (v := (-1)) (q := 17) ok dX10_shared_16 rfl (by decide) ?_
    exact g_iret ok dX10_shared_17
  · refine g_iload_n (q := 8) ok dX10_shared_7 rfl 2 rfl rfl ?_
    refine g_iconst (v := (nI 0)) (q := 9) ok dX10_shared_8 rfl (by decide) ?_
    refine g_iconst (v := (nI 1)) (q := 10) ok dX10_shared_9 rfl (by decide) ?_
    refine g_callSi (q := 13) (As := [.int a2, .int (nI 0), .int (nI 1)]) (st := []) ok tbl_good dX10_shared_10 rfl (kX10_in _ _ _ _) cf_X10_175 ⟨rfl, rfl, Nat.le_of_ble_eq_true rfl, Nat.le_of_ble_eq_true rfl⟩ rfl rfl (fun _ => Nat.le_of_ble_eq_true rfl) (fun v3 w4 => ?_)
    refine g_if_ne (q := 16) (g := 18) ok dX10_shared_13 rfl (by decide) ?_ ?_
    · refine g_iconst (v := (nI 0)) (q := 19) ok dX10_shared_18 rfl (by decide) ?_
      refine g_istore_n (q := 20) (L' := [(3, .int (nI 0)), (0, .ref 0), (1, .int a1), (2, .int a2)]) ok dX10_shared_19 rfl rfl (by decide) rfl rfl ?_
      refine g_iconst (v := (nI 0)) (q := 21) ok dX10_shared_20 rfl (by decide) ?_
      refine g_istore (q := 23) (L' := [(4, .int (nI 0)), (3, .int (nI 0)), (0, .ref 0), (1, .int a1), (2, .int a2)]) ok dX10_shared_21 rfl (by decide) rfl rfl ?_
      refine g_join (P := fun k5 => ∀ (v6 : Int32) (w7 : gT), gJ S2 cl2 rmX10_shared 9 gi κ 121 [(0, .ref 0), (2, .int a2), (3, .int v6)] [] w7 (k5 v6 w7)) (fun v6 w7 => ?_) (fun k5 hk5 => ?_)
      · refine g_iconst (v := (nI 0)) (q := 122) ok dX10_shared_121 rfl (by decide) ?_
        refine g_istore (q := 124) (L' := [(4, .int (nI 0)), (0, .ref 0), (2, .int a2), (3, .int v6)]) ok dX10_shared_122 rfl (by decide) rfl rfl ?_
        refine g_iconst (v := (-1)) (q := 125) ok dX10_shared_124 rfl (by decide) ?_
        refine g_istore (q := 127) (L' := [(5, .int (-1)), (4, .int (nI 0)), (0, .ref 0), (2, .int a2), (3, .int v6)]) ok dX10_shared_125 rfl (by decide) rfl rfl ?_
        refine g_iconst (v := (nI 0)) (q := 128) ok dX10_shared_127 rfl (by decide) ?_
        refine g_istore (q := 130) (L' := [(6, .int (nI 0)), (5, .int (-1)), (4, .int (nI 0)), (0, .ref 0), (2, .int a2), (3, .int v6)]) ok dX10_shared_128 rfl (by decide) rfl rfl ?_
        refine g_to (L' := [(0, .ref 0), (2, .int a2), (3, .int v6), (4, .int (nI 0)), (5, .int (-1)), (6, .int (nI 0))]) ?_ [3, 4, 5, 2, 1, 0] rfl
        refine g_loop3 (Lf := fun v9 v10 v11 => [(0, .ref 0), (2, .int a2), (3, .int v6), (4, .int v9), (5, .int v10), (6, .int v11)]) (fun go8 hgo8 v9 v10 v11 w12 => ?_) N _ _ _ _
        unfold xX10_shared_b130
        refine g_iload (q := 132) ok dX10_shared_130 rfl 5 rfl ?_
        refine g_sipush (v := (nI 1024)) (q := 135) ok dX10_shared_132 rfl (by decide) ?_
        refine g_icmp_ge (q := 138) (g := 270) ok dX10_shared_135 rfl (by decide) ?_ ?_
        · refine g_iload_n (q := 271) ok dX10_shared_270 rfl 1 rfl rfl ?_
          refine g_if_ne (q := 274) (g := 279) ok dX10_shared_271 rfl (by decide) ?_ ?_
          · refine g_iload (q := 281) ok dX10_shared_279 rfl 4 rfl ?_
            exact g_iret ok dX10_shared_281
          · refine g_iload (q := 276) ok dX10_shared_274 rfl 3 rfl ?_
            refine g_goto (q := 281) ok dX10_shared_276 (by decide) ?_
            exact g_iret ok dX10_shared_281
        · refine g_join (P := fun k13 => ∀ (v14 : Int32) (v15 : Int32) (w16 : gT), gJ S2 cl2 rmX10_shared 9 gi κ 264 [(0, .ref 0), (2, .int a2), (3, .int v6), (6, .int v11), (4, .int v14), (5, .int v15)] [] w16 (k13 v14 v15 w16)) (fun v14 v15 w16 => ?_) (fun k13 hk13 => ?_)
          · refine g_iinc (v := v11 + (nI 1)) (q := 267) (L' := [(6, .int (v11 + (nI 1))), (0, .ref 0), (2, .int a2), (3, .int v6), (4, .int v14), (5, .int v15)]) ok dX10_shared_264 rfl 3 rfl rfl (by decide) rfl rfl ?_
            refine g_goto (q := 130) ok dX10_shared_267 (by decide) ?_
            refine g_to (L' := [(0, .ref 0), (2, .int a2), (3, .int v6), (4, .int v14), (5, .int v15), (6, .int (v11 + (nI 1)))]) ?_ [1, 2, 3, 4, 5, 0] rfl
            exact hgo8 _ _ _ _
          · refine g_iload (q := 140) ok dX10_shared_138 rfl 5 rfl ?_
            refine g_iload_n (q := 141) ok dX10_shared_140 rfl 2 rfl rfl ?_
            refine g_iconst (v := (-1)) (q := 142) ok dX10_shared_141 rfl (by decide) ?_
            refine g_ixor (q := 143) ok dX10_shared_142 rfl ?_
            refine g_iand (q := 144) ok dX10_shared_143 rfl ?_
            refine g_if_ne (q := 147) (g := 264) ok dX10_shared_144 rfl (by decide) ?_ ?_
            · refine g_to (L' := [(0, .ref 0), (2, .int a2), (3, .int v6), (6, .int v11), (4, .int v9), (5, .int v10)]) ?_ [0, 1, 2, 5, 3, 4] rfl
              exact hk13 _ _ _
            · refine g_iload (q := 149) ok dX10_shared_147 rfl 5 rfl ?_
              refine g_callSi (q := 152) (As := [.int v11]) (st := []) ok tbl_good dX10_shared_149 rfl (kX10_bits N _ _) cf_X10_387 ⟨rfl, rfl, Nat.le_of_ble_eq_true rfl, Nat.le_of_ble_eq_true rfl⟩ rfl rfl (fun _ => Nat.le_of_ble_eq_true rfl) (fun v17 w18 => ?_)
              refine g_aload_n (q := 153) ok dX10_shared_152 rfl 0 rfl rfl ?_
              refine g_getI (q := 156) (N := 0) ok dX10_shared_153 rfl fl_X10_182 sM_0 rfl ?_
              refine g_icmp_le (q := 159) (g := 162) ok dX10_shared_156 rfl (by decide) ?_ ?_
              · refine g_iconst (v := (nI 0)) (q := 163) ok dX10_shared_162 rfl (by decide) ?_
                refine g_istore (q := 165) (L' := [(7, .int (nI 0)), (0, .ref 0), (2, .int a2), (3, .int v6), (4, .int v9), (5, .int v10), (6, .int v11)]) ok dX10_shared_163 rfl (by decide) rfl rfl ?_
                refine g_iconst (v := (nI 0)) (q := 166) ok dX10_shared_165 rfl (by decide) ?_
                refine g_istore (q := 168) (L' := [(8, .int (nI 0)), (7, .int (nI 0)), (0, .ref 0), (2, .int a2), (3, .int v6), (4, .int v9), (5, .int v10), (6, .int v11)]) ok dX10_shared_166 rfl (by decide) rfl rfl ?_
                refine g_join (P := fun k19 => ∀ (v20 : Int32) (w21 : gT), gJ S2 cl2 rmX10_shared 9 gi κ 226 [(0, .ref 0), (2, .int a2), (3, .int v6), (4, .int v9), (5, .int v10), (6, .int v11), (7, .int v20)] [] w21 (k19 v20 w21)) (fun v20 w21 => ?_) (fun k19 hk19 => ?_)
                · refine g_iload (q := 228) ok dX10_shared_226 rfl 6 rfl ?_
                  refine g_iload (q := 230) ok dX10_shared_228 rfl 4 rfl ?_
                  refine g_icmp_lt (q := 233) (g := 264) ok dX10_shared_230 rfl (by decide) ?_ ?_
                  · refine g_to (L' := [(0, .ref 0), (2, .int a2), (3, .int v6), (6, .int v11), (4, .int v9), (5, .int v10)]) ?_ [0, 1, 2, 5, 3, 4] rfl
                    exact hk13 _ _ _
                  · refine g_join (P := fun k22 => ∀ (w23 : gT), gJ S2 cl2 rmX10_shared 9 gi κ 256 [(0, .ref 0), (2, .int a2), (3, .int v6), (6, .int v11), (7, .int v20)] [] w23 (k22 w23)) (fun w23 => ?_) (fun k22 hk22 => ?_)
                    · refine g_iload (q := 258) ok dX10_shared_256 rfl 4 rfl ?_
                      refine g_istore (q := 260) (L' := [(5, .int v20), (0, .ref 0), (2, .int a2), (3, .int v6), (6, .int v11), (7, .int v20)]) ok dX10_shared_258 rfl (by decide) rfl rfl ?_
                      refine g_iload (q := 262) ok dX10_shared_260 rfl 4 rfl ?_
                      refine g_istore (q := 264) (L' := [(4, .int v11), (5, .int v20), (0, .ref 0), (2, .int a2), (3, .int v6), (6, .int v11), (7, .int v20)]) ok dX10_shared_262 rfl (by decide) rfl rfl ?_
                      refine g_to (L' := [(0, .ref 0), (2, .int a2), (3, .int v6), (6, .int v11), (4, .int v11), (5, .int v20)]) ?_ [2, 3, 4, 5, 0, 1] rfl
                      exact hk13 _ _ _
                    · refine g_iload (q := 235) ok dX10_shared_233 rfl 6 rfl ?_
                      refine g_iload (q := 237) ok dX10_shared_235 rfl 4 rfl ?_
                      refine g_icmp_ne (q := 240) (g := 256) ok dX10_shared_237 rfl (by decide) ?_ ?_
                      · refine g_to (L' := [(0, .ref 0), (2, .int a2), (3, .int v6), (6, .int v11), (7, .int v20)]) ?_ [0, 1, 2, 5, 6] rfl
                        exact hk22 _
                      · refine g_iload (q := 242) ok dX10_shared_240 rfl 5 rfl ?_
                        refine g_callSi (q := 245) (As := [.int v11]) (st := []) ok tbl_good dX10_shared_242 rfl (kX10_bits N _ _) cf_X10_387 ⟨rfl, rfl, Nat.le_of_ble_eq_true rfl, Nat.le_of_ble_eq_true rfl⟩ rfl rfl (fun _ => Nat.le_of_ble_eq_true rfl) (fun v24 w25 => ?_)
                        refine g_iload (q := 247) ok dX10_shared_245 rfl 3 rfl ?_
                        refine g_callSi (q := 250) (As := [.int v9]) (st := [.int v24]) ok tbl_good dX10_shared_247 rfl (kX10_bits N _ _) cf_X10_387 ⟨rfl, rfl, Nat.le_of_ble_eq_true rfl, Nat.le_of_ble_eq_true rfl⟩ rfl rfl (fun _ => Nat.le_of_ble_eq_true rfl) (fun v26 w27 => ?_)
                        refine g_icmp_lt (q := 253) (g := 256) ok dX10_shared_250 rfl (by decide) ?_ ?_
                        · refine g_to (L' := [(0, .ref 0), (2, .int a2), (3, .int v6), (6, .int v11), (7, .int v20)]) ?_ [0, 1, 2, 5, 6] rfl
                          exact hk22 _
                        · refine g_goto (q := 264) ok dX10_shared_253 (by decide) ?_
                          refine g_to (L' := [(0, .ref 0), (2, .int a2), (3, .int v6), (6, .int v11), (4, .int v9), (5, .int v10)]) ?_ [0, 1, 2, 5, 3, 4] rfl
                          exact hk13 _ _ _
                · refine g_to (L' := [(0, .ref 0), (2, .int a2), (3, .int v6), (4, .int v9), (5, .int v10), (6, .int v11), (7, .int (nI 0)), (8, .int (nI 0))]) ?_ [2, 3, 4, 5, 6, 7, 1, 0] rfl
                  refine g_loop2 (Lf := fun v29 v30 => [(0, .ref 0), (2, .int a2), (3, .int v6), (4, .int v9), (5, .int v10), (6, .int v11), (7, .int v29), (8, .int v30)]) (fun go28 hgo28 v29 v30 w31 => ?_) N _ _ _
                  unfold xX10_shared_b168
                  refine g_iload (q := 170) ok dX10_shared_168 rfl 7 rfl ?_
                  refine g_bipush (v := (nI 10)) (q := 172) ok dX10_shared_170 rfl (by decide) ?_
                  refine g_icmp_ge (q := 175) (g := 226) ok dX10_shared_172 rfl (by decide) ?_ ?_
                  · refine g_to (L' := [(0, .ref 0), (2, .int a2), (3, .int v6), (4, .int v9), (5, .int v10), (6, .int v11), (7, .int v29)]) ?_ [0, 1, 2, 3, 4, 5, 6] rfl
                    exact hk19 _ _
                  · refine g_join (P := fun k32 => ∀ (v33 : Int32) (v34 : Int32) (w35 : gT), gJ S2 cl2 rmX10_shared 9 gi κ 217 [(0, .ref 0), (2, .int a2), (3, .int v6), (4, .int v9), (5, .int v10), (6, .int v11), (8, .int v30)] [.int v34, .int v33] w35 (k32 v33 v34 w35)) (fun v33 v34 w35 => ?_) (fun k32 hk32 => ?_)
                    · refine g_iadd (q := 218) ok dX10_shared_217 rfl ?_
                      refine g_leti (fun v36 => ?_)
                      refine g_istore (q := 220) (L' := [(7, .int v36), (0, .ref 0), (2, .int a2), (3, .int v6), (4, .int v9), (5, .int v10), (6, .int v11), (8, .int v30)]) ok dX10_shared_218 rfl (by decide) rfl rfl ?_
                      refine g_iinc (v := v30 + (nI 1)) (q := 223) (L' := [(8, .int (v30 + (nI 1))), (7, .int v36), (0, .ref 0), (2, .int a2), (3, .int v6), (4, .int v9), (5, .int v10), (6, .int v11)]) ok dX10_shared_220 rfl 7 rfl rfl (by decide) rfl rfl ?_
                      refine g_goto (q := 168) ok dX10_shared_223 (by decide) ?_
                      refine g_to (L' := [(0, .ref 0), (2, .int a2), (3, .int v6), (4, .int v9), (5, .int v10), (6, .int v11), (7, .int v36), (8, .int (v30 + (nI 1)))]) ?_ [2, 3, 4, 5, 6, 7, 1, 0] rfl
                      exact hgo28 _ _ _
                    · refine g_iload (q := 177) ok dX10_shared_175 rfl 6 rfl ?_
                      refine g_iload_n (q := 178) ok dX10_shared_177 rfl 2 rfl rfl ?_
                      refine g_iload (q := 180) ok dX10_shared_178 rfl 7 rfl ?_
                      refine g_callSi (q := 183) (As := [.int v6, .int v30]) (st := [.int v29]) ok tbl_good dX10_shared_180 rfl (kX10_has _ _ _) cf_X10_164 ⟨rfl, rfl, Nat.le_of_ble_eq_true rfl, Nat.le_of_ble_eq_true rfl⟩ rfl rfl (fun _ => Nat.le_of_ble_eq_true rfl) (fun v37 w38 => ?_)
                      refine g_if_ne (q := 186) (g := 190) ok dX10_shared_183 rfl (by decide) ?_ ?_
                      · refine g_iload (q := 192) ok dX10_shared_190 rfl 5 rfl ?_
                        refine g_iload (q := 194) ok dX10_shared_192 rfl 7 rfl ?_
                        refine g_callSi (q := 197) (As := [.int v11, .int v30]) (st := [.int v29]) ok tbl_good dX10_shared_194 rfl (kX10_has _ _ _) cf_X10_164 ⟨rfl, rfl, Nat.le_of_ble_eq_true rfl, Nat.le_of_ble_eq_true rfl⟩ rfl rfl (fun _ => Nat.le_of_ble_eq_true rfl) (fun v39 w40 => ?_)
                        refine g_if_eq (q := 200) (g := 210) ok dX10_shared_197 rfl (by decide) ?_ ?_
                        · refine g_aload_n (q := 211) ok dX10_shared_210 rfl 0 rfl rfl ?_
                          refine g_getR (q := 214) ok dX10_shared_211 rfl fl_X10_111 sM_0 rfl ?_
                          refine g_iload (q := 216) ok dX10_shared_214 rfl 7 rfl ?_
                          refine g_iald (q := 217) ok dX10_shared_216 rfl sM_34 ?_
                          refine g_to (L' := [(0, .ref 0), (2, .int a2), (3, .int v6), (4, .int v9), (5, .int v10), (6, .int v11), (8, .int v30)]) ?_ [0, 1, 2, 3, 4, 5, 7] rfl
                          exact hk32 _ _ _
                        · refine g_aload_n (q := 201) ok dX10_shared_200 rfl 0 rfl rfl ?_
                          refine g_getR (q := 204) ok dX10_shared_201 rfl fl_X10_114 sM_0 rfl ?_
                          refine g_iload (q := 206) ok dX10_shared_204 rfl 7 rfl ?_
                          refine g_iald (q := 207) ok dX10_shared_206 rfl sM_35 ?_
                          refine g_goto (q := 217) ok dX10_shared_207 (by decide) ?_
                          refine g_to (L' := [(0, .ref 0), (2, .int a2), (3, .int v6), (4, .int v9), (5, .int v10), (6, .int v11), (8, .int v30)]) ?_ [0, 1, 2, 3, 4, 5, 7] rfl
                          exact hk32 _ _ _
                      · refine g_iconst (v := (nI 0)) (q := 187) ok dX10_shared_186 rfl (by decide) ?_
                        refine g_goto (q := 217) ok dX10_shared_187 (by decide) ?_
                        refine g_to (L' := [(0, .ref 0), (2, .int a2), (3, .int v6), (4, .int v9), (5, .int v10), (6, .int v11), (8, .int v30)]) ?_ [0, 1, 2, 3, 4, 5, 7] rfl
                        exact hk32 _ _ _
              · refine g_goto (q := 264) ok dX10_shared_159 (by decide) ?_
                refine g_to (L' := [(0, .ref 0), (2, .int a2), (3, .int v6), (6, .int v11), (4, .int v9), (5, .int v10)]) ?_ [0, 1, 2, 5, 3, 4] rfl
                exact hk13 _ _ _
      · refine g_to (L' := [(0, .ref 0), (1, .int a1), (2, .int a2), (3, .int (nI 0)), (4, .int (nI 0))]) ?_ [2, 3, 4, 1, 0] rfl
        refine g_loop2 (Lf := fun v42 v43 => [(0, .ref 0), (1, .int a1), (2, .int a2), (3, .int v42), (4, .int v43)]) (fun go41 hgo41 v42 v43 w44 => ?_) N _ _ _
        unfold xX10_shared_b23
        refine g_iload (q := 25) ok dX10_shared_23 rfl 4 rfl ?_
        refine g_aload_n (q := 26) ok dX10_shared_25 rfl 0 rfl rfl ?_
        refine g_getI (q := 29) (N := 0) ok dX10_shared_26 rfl fl_X10_233 sM_0 rfl ?_
        refine g_icmp_ge (q := 32) (g := 121) ok dX10_shared_29 rfl (by decide) ?_ ?_
        · refine g_to (L' := [(0, .ref 0), (2, .int a2), (3, .int v42)]) ?_ [0, 2, 3] rfl
          exact hk5 _ _
        · refine g_join (P := fun k45 => ∀ (v46 : Int32) (w47 : gT), gJ S2 cl2 rmX10_shared 9 gi κ 115 [(0, .ref 0), (1, .int a1), (2, .int a2), (4, .int v43), (3, .int v46)] [] w47 (k45 v46 w47)) (fun v46 w47 => ?_) (fun k45 hk45 => ?_)
          · refine g_iinc (v := v43 + (nI 1)) (q := 118) (L' := [(4, .int (v43 + (nI 1))), (0, .ref 0), (1, .int a1), (2, .int a2), (3, .int v46)]) ok dX10_shared_115 rfl 3 rfl rfl (by decide) rfl rfl ?_
            refine g_goto (q := 23) ok dX10_shared_118 (by decide) ?_
            refine g_to (L' := [(0, .ref 0), (1, .int a1), (2, .int a2), (3, .int v46), (4, .int (v43 + (nI 1)))]) ?_ [1, 2, 3, 4, 0] rfl
            exact hgo41 _ _ _
          · refine g_aload_n (q := 33) ok dX10_shared_32 rfl 0 rfl rfl ?_
            refine g_getR (q := 36) ok dX10_shared_33 rfl fl_X10_41 sM_0 rfl ?_
            refine g_iload (q := 38) ok dX10_shared_36 rfl 4 rfl ?_
            refine g_iald (q := 39) ok dX10_shared_38 rfl sM_11 ?_
            refine g_iload_n (q := 40) ok dX10_shared_39 rfl 1 rfl rfl ?_
            refine g_icmp_ne (q := 43) (g := 115) ok dX10_shared_40 rfl (by decide) ?_ ?_
            · refine g_to (L' := [(0, .ref 0), (1, .int a1), (2, .int a2), (4, .int v43), (3, .int v42)]) ?_ [0, 1, 2, 4, 3] rfl
              exact hk45 _ _
            · refine g_aload_n (q := 44) ok dX10_shared_43 rfl 0 rfl rfl ?_
              refine g_iload (q := 46) ok dX10_shared_44 rfl 4 rfl ?_
              refine g_callVi (q := 49) (As := [.int v43]) (st := []) ok tbl_good dX10_shared_46 rfl (kX10_counts N _ _) cf_X10_239 ⟨rfl, rfl, Nat.le_of_ble_eq_true rfl, Nat.le_of_ble_eq_true rfl⟩ sM_0 rfl rfl rfl (fun _ => Nat.le_of_ble_eq_true rfl) (fun v48 w49 => ?_)
              refine g_if_ne (q := 52) (g := 55) ok dX10_shared_49 rfl (by decide) ?_ ?_
              · refine g_aload_n (q := 56) ok dX10_shared_55 rfl 0 rfl rfl ?_
                refine g_getR (q := 59) ok dX10_shared_56 rfl fl_X10_38 sM_0 rfl ?_
                refine g_iload (q := 61) ok dX10_shared_59 rfl 4 rfl ?_
                refine g_iald (q := 62) ok dX10_shared_61 rfl sM_10 ?_
                refine g_leti (fun v50 => ?_)
                refine g_istore (q := 64) (L' := [(5, .int v50), (0, .ref 0), (1, .int a1), (2, .int a2), (3, .int v42), (4, .int v43)]) ok dX10_shared_62 rfl (by decide) rfl rfl ?_
                refine g_iload_n (q := 65) ok dX10_shared_64 rfl 4 rfl rfl ?_
                refine g_iconst (v := (nI 1)) (q := 66) ok dX10_shared_65 rfl (by decide) ?_
                refine g_iload (q := 68) ok dX10_shared_66 rfl 0 rfl ?_
                refine g_ishl (q := 69) ok dX10_shared_68 rfl ?_
                refine g_ior (q := 70) ok dX10_shared_69 rfl ?_
                refine g_leti (fun v51 => ?_)
                refine g_istore_n (q := 71) (L' := [(3, .int v51), (5, .int v50), (0, .ref 0), (1, .int a1), (2, .int a2), (4, .int v43)]) ok dX10_shared_70 rfl rfl (by decide) rfl rfl ?_
                refine g_aload_n (q := 72) ok dX10_shared_71 rfl 2 rfl rfl ?_
                refine g_getR (q := 75) ok dX10_shared_72 rfl fl_X10_111 sM_0 rfl ?_
                refine g_iload (q := 77) ok dX10_shared_75 rfl 1 rfl ?_
                refine g_aload_n (q := 78) ok dX10_shared_77 rfl 2 rfl rfl ?_
                refine g_iload (q := 80) ok dX10_shared_78 rfl 1 rfl ?_
                refine g_iload_n (q := 81) ok dX10_shared_80 rfl 3 rfl rfl ?_
                refine g_aload_n (q := 82) ok dX10_shared_81 rfl 2 rfl rfl ?_
                refine g_getR (q := 85) ok dX10_shared_82 rfl fl_X10_44 sM_0 rfl ?_
                refine g_iload (q := 87) ok dX10_shared_85 rfl 5 rfl ?_
                refine g_iald (q := 88) ok dX10_shared_87 rfl sM_12 ?_
                refine g_iconst (v := (nI 0)) (q := 89) ok dX10_shared_88 rfl (by decide) ?_
                refine g_callVi (q := 92) (As := [.int v50, .int a1, .int (w49.1 12 v43.toNatClampNeg), .int (nI 0)]) (st := [.int v50, .ref 34]) ok tbl_good dX10_shared_89 rfl (kX10_frightBy N _ _ _ _ _) cf_X10_379 ⟨rfl, rfl, Nat.le_of_ble_eq_true rfl, Nat.le_of_ble_eq_true rfl⟩ sM_0 rfl rfl rfl (fun _ => Nat.le_of_ble_eq_true rfl) (fun v52 w53 => ?_)
                refine g_iast (q := 93) ok dX10_shared_92 rfl sM_34 ?_
                refine g_letw (fun w54 => ?_)
                refine g_aload_n (q := 94) ok dX10_shared_93 rfl 2 rfl rfl ?_
                refine g_getR (q := 97) ok dX10_shared_94 rfl fl_X10_114 sM_0 rfl ?_
                refine g_iload (q := 99) ok dX10_shared_97 rfl 1 rfl ?_
                refine g_aload_n (q := 100) ok dX10_shared_99 rfl 2 rfl rfl ?_
                refine g_iload (q := 102) ok dX10_shared_100 rfl 1 rfl ?_
                refine g_iload_n (q := 103) ok dX10_shared_102 rfl 3 rfl rfl ?_
                refine g_aload_n (q := 104) ok dX10_shared_103 rfl 2 rfl rfl ?_
                refine g_getR (q := 107) ok dX10_shared_104 rfl fl_X10_44 sM_0 rfl ?_
                refine g_iload (q := 109) ok dX10_shared_107 rfl 5 rfl ?_
                refine g_iald (q := 110) ok dX10_shared_109 rfl sM_12 ?_
                refine g_iconst (v := (nI 1)) (q := 111) ok dX10_shared_110 rfl (by decide) ?_
                refine g_callVi (q := 114) (As := [.int v50, .int a1, .int (w54.1 12 v43.toNatClampNeg), .int (nI 1)]) (st := [.int v50, .ref 35]) ok tbl_good dX10_shared_111 rfl (kX10_frightBy N _ _ _ _ _) cf_X10_379 ⟨rfl, rfl, Nat.le_of_ble_eq_true rfl, Nat.le_of_ble_eq_true rfl⟩ sM_0 rfl rfl rfl (fun _ => Nat.le_of_ble_eq_true rfl) (fun v55 w56 => ?_)
                refine g_iast (q := 115) ok dX10_shared_114 rfl sM_35 ?_
                refine g_letw (fun w57 => ?_)
                refine g_to (L' := [(0, .ref 0), (1, .int a1), (2, .int a2), (4, .int v43), (3, .int v51)]) ?_ [2, 3, 4, 5, 0] rfl
                exact hk45 _ _
              · refine g_goto (q := 115) ok dX10_shared_52 (by decide) ?_
                refine g_to (L' := [(0, .ref 0), (1, .int a1), (2, .int a2), (4, .int v43), (3, .int v42)]) ?_ [0, 1, 2, 4, 3] rfl
                exact hk45 _ _
    · refine g_iconst (v := (-1)) (q := 17) ok dX10_shared_16 rfl (by decide) ?_
      exact g_iret ok dX10_shared_17
