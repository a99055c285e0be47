def S1 : gS := [.inr (9, [some 1, some 10, none, some 19, some 21, some 27, some 33, some 40, some 47, some 48, some 50, some 52, some 56, some 59]), .inr (2, [some 2, some 3, some 4, some 5, some 6, some 7, some 8, some 9, none, none, none, none, none, none]), .inl (.int, 12), .inl (.int, 70), .inl (.int, 10), .inl (.int, 10), .inl (.int, 10), .inl (.int, 10), .inl (.int, 10), .inl (.int, 40), .inr (2, [some 11, some 12, some 13, some 14, some 15, some 16, some 17, some 18, none, none, none, none, none, none]), .inl (.int, 12), .inl (.int, 70), .inl (.int, 10), .inl (.int, 10), .inl (.int, 10), .inl (.int, 10), .inl (.int, 10), .inl (.int, 40), .inr (6, [some 20, none, none, none, none]), .inl (.int, 220), .inr (7, [some 22, some 23, some 24, some 25, some 26, none]), .inl (.int, 16), .inl (.int, 16), .inl (.int, 16), .inl (.int, 16), .inl (.int, 16), .inr (7, [some 28, some 29, some 30, some 31, some 32, none]), .inl (.int, 16), .inl (.int, 16), .inl (.int, 16), .inl (.int, 16), .inl (.int, 16), .inr (3, [some 34, some 35, some 36, none, some 37, some 38, none, some 39]), .inl (.int, 14), .inl (.int, 14), .inl (.int, 14), .inl (.int, 256), .inl (.int, 256), .inl (.int, 32), .inr (3, [some 41, some 42, some 43, none, some 44, some 45, none, some 46]), .inl (.int, 14), .inl (.int, 14), .inl (.int, 14), .inl (.int, 256), .inl (.int, 256), .inl (.int, 32), .inr (4, [some 19, some 40]), .inr (1, [some 1, some 33, some 49]), .inl (.int, 26), .inr (8, [some 1, some 21, some 48, some 51, none, none]), .inl (.int, 47), .inr (0, [some 1, some 48, some 53, some 54, some 55, none, none]), .inl (.long, 1024), .inl (.int, 840), .inl (.int, 1024), .inr (5, [some 57, some 58, none]), .inl (.int, 96), .inl (.int, 4096), .inl (.int, 10)]
def S2 : gS := [.inr (0, [none, none, none, none, none, some 1, some 2, some 3, some 4, some 5, some 6, some 7, some 8, some 9, none, none, none, none, none, none, none, some 10, some 11, some 12, some 13, some 14, some 15, some 16, some 17, none, none, none, none, none, some 18, some 19, some 20, some 21, some 22, some 23, some 24, some 25, some 26, some 27, some 28, some 29, some 30, some 31, some 32, some 33, some 34, some 35, some 36, some 37, some 38, some 39, none, none, none, none, none, none, some 40, some 41, some 42, some 43, some 44, some 45, some 46, some 47]), .inl (.int, 12), .inl (.int, 10), .inl (.int, 70), .inl (.int, 10), .inl (.int, 10), .inl (.int, 10), .inl (.int, 10), .inl (.int, 47), .inl (.byte, 220), .inl (.int, 16), .inl (.int, 16), .inl (.int, 16), .inl (.int, 16), .inl (.int, 16), .inl (.int, 16), .inl (.boolean, 16), .inl (.boolean, 16), .inl (.int, 220), .inl (.int, 220), .inl (.int, 14), .inl (.int, 14), .inl (.int, 14), .inl (.int, 14), .inl (.int, 220), .inl (.int, 14), .inl (.int, 14), .inl (.int, 14), .inl (.int, 14), .inl (.int, 220), .inl (.int, 12), .inl (.int, 47), .inl (.int, 840), .inl (.int, 11264), .inl (.int, 10), .inl (.int, 10), .inl (.int, 96), .inl (.int, 36864), .inl (.int, 10), .inl (.int, 10), .inl (.int, 12), .inl (.int, 10), .inl (.int, 70), .inl (.int, 10), .inl (.int, 10), .inl (.int, 10), .inl (.int, 10), .inl (.int, 47)]
abbrev cl1 : List vw_C := [(RX0, TX0, 7), (RX1, TX1, 3), (RX2, TX2, 14), (RX3, TX3, 8), (RX4, TX4, 2), (RX5, TX5, 3), (RX6, TX6, 5), (RX7, TX7, 6), (RX8, TX8, 6), (RX9, TX9, 14)]
abbrev cl2 : List vw_C := [(RX10, TX10, 70)]
theorem sX_0 : S1[0]? = some (.inr (9, [some 1, some 10, none, some 19, some 21, some 27, some 33, some 40, some 47, some 48, some 50, some 52, some 56, some 59])) := rfl
theorem sX_1 : S1[1]? = some (.inr (2, [some 2, some 3, some 4, some 5, some 6, some 7, some 8, some 9, none, none, none, none, none, none])) := rfl
theorem sX_2 : S1[2]? = some (.inl (.int, 12)) := rfl
theorem sX_3 : S1[3]? = some (.inl (.int, 70)) := rfl
theorem sX_4 : S1[4]? = some (.inl (.int, 10)) := rfl
theorem sX_5 : S1[5]? = some (.inl (.int, 10)) := rfl
theorem sX_6 : S1[6]? = some (.inl (.int, 10)) := rfl
theorem sX_7 : S1[7]? = some (.inl (.int, 10)) := rfl
theorem sX_8 : S1[8]? = some (.inl (.int, 10)) := rfl
theorem sX_9 : S1[9]? = some (.inl (.int, 40)) := rfl
theorem sX_10 : S1[10]? = some (.inr (2, [some 11, some 12, some 13, some 14, some 15, some 16, some 17, some 18, none, none, none, none, none, none])) := rfl
theorem sX_11 : S1[11]? = some (.inl (.int, 12)) := rfl
theorem sX_12 : S1[12]? = some (.inl (.int, 70)) := rfl
theorem sX_13 : S1[13]? = some (.inl (.int, 10)) := rfl
theorem sX_14 : S1[14]? = some (.inl (.int, 10)) := rfl
theorem sX_15 : S1[15]? = some (.inl (.int, 10)) := rfl
theorem sX_16 : S1[16]? = some (.inl (.int, 10)) := rfl
theorem sX_17 : S1[17]? = some (.inl (.int, 10)) := rfl
theorem sX_18 : S1[18]? = some (.inl (.int, 40)) := rfl
theorem sX_19 : S1[19]? = some (.inr (6, [some 20, none, none, none, none])) := rfl
theorem sX_20 : S1[20]? = some (.inl (.int, 220)) := rfl
theorem sX_21 : S1[21]? = some (.inr (7, [some 22, some 23, some 24, some 25, some 26, none])) := rfl
theorem sX_22 : S1[22]? = some (.inl (.int, 16)) := rfl
theorem sX_23 : S1[23]? = some (.inl (.int, 16)) := rfl
theorem sX_24 : S1[24]? = some (.inl (.int, 16)) := rfl
theorem sX_25 : S1[25]? = some (.inl (.int, 16)) := rfl
theorem sX_26 : S1[26]? = some (.inl (.int, 16)) := rfl
theorem sX_27 : S1[27]? = some (.inr (7, [some 28, some 29, some 30, some 31, some 32, none])) := rfl
theorem sX_28 : S1[28]? = some (.inl (.int, 16)) := rfl
theorem sX_29 : S1[29]? = some (.inl (.int, 16)) := rfl
theorem sX_30 : S1[30]? = some (.inl (.int, 16)) := rfl
theorem sX_31 : S1[31]? = some (.inl (.int, 16)) := rfl
theorem sX_32 : S1[32]? = some (.inl (.int, 16)) := rfl
theorem sX_33 : S1[33]? = some (.inr (3, [some 34, some 35, some 36, none, some 37, some 38, none, some 39])) := rfl
theorem sX_34 : S1[34]? = some (.inl (.int, 14)) := rfl
theorem sX_35 : S1[35]? = some (.inl (.int, 14)) := rfl
theorem sX_36 : S1[36]? = some (.inl (.int, 14)) := rfl
theorem sX_37 : S1[37]? = some (.inl (.int, 256)) := rfl
theorem sX_38 : S1[38]? = some (.inl (.int, 256)) := rfl
theorem sX_39 : S1[39]? = some (.inl (.int, 32)) := rfl
theorem sX_40 : S1[40]? = some (.inr (3, [some 41, some 42, some 43, none, some 44, some 45, none, some 46])) := rfl
theorem sX_41 : S1[41]? = some (.inl (.int, 14)) := rfl
theorem sX_42 : S1[42]? = some (.inl (.int, 14)) := rfl
theorem sX_43 : S1[43]? = some (.inl (.int, 14)) := rfl
theorem sX_44 : S1[44]? = some (.inl (.int, 256)) := rfl
theorem sX_45 : S1[45]? = some (.inl (.int, 256)) := rfl
theorem sX_46 : S1[46]? = some (.inl (.int, 32)) := rfl
theorem sX_47 : S1[47]? = some (.inr (4, [some 19, some 40])) := rfl
theorem sX_48 : S1[48]? = some (.inr (1, [some 1, some 33, some 49])) := rfl
theorem sX_49 : S1[49]? = some (.inl (.int, 26)) := rfl
theorem sX_50 : S1[50]? = some (.inr (8, [some 1, some 21, some 48, some 51, none, none])) := rfl
theorem sX_51 : S1[51]? = some (.inl (.int, 47)) := rfl
theorem sX_52 : S1[52]? = some (.inr (0, [some 1, some 48, some 53, some 54, some 55, none, none])) := rfl
theorem sX_53 : S1[53]? = some (.inl (.long, 1024)) := rfl
theorem sX_54 : S1[54]? = some (.inl (.int, 840)) := rfl
theorem sX_55 : S1[55]? = some (.inl (.int, 1024)) := rfl
theorem sX_56 : S1[56]? = some (.inr (5, [some 57, some 58, none])) := rfl
theorem sX_57 : S1[57]? = some (.inl (.int, 96)) := rfl
theorem sX_58 : S1[58]? = some (.inl (.int, 4096)) := rfl
theorem sX_59 : S1[59]? = some (.inl (.int, 10)) := rfl
theorem sM_0 : S2[0]? = some (.inr (0, [none, none, none, none, none, some 1, some 2, some 3, some 4, some 5, some 6, some 7, some 8, some 9, none, none, none, none, none, none, none, some 10, some 11, some 12, some 13, some 14, some 15, some 16, some 17, none, none, none, none, none, some 18, some 19, some 20, some 21, some 22, some 23, some 24, some 25, some 26, some 27, some 28, some 29, some 30, some 31, some 32, some 33, some 34, some 35, some 36, some 37, some 38, some 39, none, none, none, none, none, none, some 40, some 41, some 42, some 43, some 44, some 45, some 46, some 47])) := rfl
theorem sM_1 : S2[1]? = some (.inl (.int, 12)) := rfl
theorem sM_2 : S2[2]? = some (.inl (.int, 10)) := rfl
theorem sM_3 : S2[3]? = some (.inl (.int, 70)) := rfl
theorem sM_4 : S2[4]? = some (.inl (.int, 10)) := rfl
theorem sM_5 : S2[5]? = some (.inl (.int, 10)) := rfl
theorem sM_6 : S2[6]? = some (.inl (.int, 10)) := rfl
theorem sM_7 : S2[7]? = some (.inl (.int, 10)) := rfl
theorem sM_8 : S2[8]? = some (.inl (.int, 47)) := rfl
theorem sM_9 : S2[9]? = some (.inl (.byte, 220)) := rfl
theorem sM_10 : S2[10]? = some (.inl (.int, 16)) := rfl
theorem sM_11 : S2[11]? = some (.inl (.int, 16)) := rfl
theorem sM_12 : S2[12]? = some (.inl (.int, 16)) := rfl
theorem sM_13 : S2[13]? = some (.inl (.int, 16)) := rfl
theorem sM_14 : S2[14]? = some (.inl (.int, 16)) := rfl
theorem sM_15 : S2[15]? = some (.inl (.int, 16)) := rfl
theorem sM_16 : S2[16]? = some (.inl (.boolean, 16)) := rfl
theorem sM_17 : S2[17]? = some (.inl (.boolean, 16)) := rfl
theorem sM_18 : S2[18]? = some (.inl (.int, 220)) := rfl
theorem sM_19 : S2[19]? = some (.inl (.int, 220)) := rfl
theorem sM_20 : S2[20]? = some (.inl (.int, 14)) := rfl
theorem sM_21 : S2[21]? = some (.inl (.int, 14)) := rfl
theorem sM_22 : S2[22]? = some (.inl (.int, 14)) := rfl
theorem sM_23 : S2[23]? = some (.inl (.int, 14)) := rfl
theorem sM_24 : S2[24]? = some (.inl (.int, 220)) := rfl
theorem sM_25 : S2[25]? = some (.inl (.int, 14)) := rfl
theorem sM_26 : S2[26]? = some (.inl (.int, 14)) := rfl
theorem sM_27 : S2[27]? = some (.inl (.int, 14)) := rfl
theorem sM_28 : S2[28]? = some (.inl (.int, 14)) := rfl
theorem sM_29 : S2[29]? = some (.inl (.int, 220)) := rfl
theorem sM_30 : S2[30]? = some (.inl (.int, 12)) := rfl
theorem sM_31 : S2[31]? = some (.inl (.int, 47)) := rfl
theorem sM_32 : S2[32]? = some (.inl (.int, 840)) := rfl
theorem sM_33 : S2[33]? = some (.inl (.int, 11264)) := rfl
theorem sM_34 : S2[34]? = some (.inl (.int, 10)) := rfl
theorem sM_35 : S2[35]? = some (.inl (.int, 10)) := rfl
theorem sM_36 : S2[36]? = some (.inl (.int, 96)) := rfl
theorem sM_37 : S2[37]? = some (.inl (.int, 36864)) := rfl
theorem sM_38 : S2[38]? = some (.inl (.int, 10)) := rfl
theorem sM_39 : S2[39]? = some (.inl (.int, 10)) := rfl
theorem sM_40 : S2[40]? = some (.inl (.int, 12)) := rfl
theorem sM_41 : S2[41]? = some (.inl (.int, 10)) := rfl
theorem sM_42 : S2[42]? = some (.inl (.int, 70)) := rfl
theorem sM_43 : S2[43]? = some (.inl (.int, 10)) := rfl
theorem sM_44 : S2[44]? = some (.inl (.int, 10)) := rfl
theorem sM_45 : S2[45]? = some (.inl (.int, 10)) := rfl
theorem sM_46 : S2[46]? = some (.inl (.int, 10)) := rfl
theorem sM_47 : S2[47]? = some (.inl (.int, 47)) := rfl
theorem s1_long : ∀ (j n : Nat), S1[j]? = some (.inl (.long, n)) → j = 53 := by
  intro j n h
  have hj : j < 60 := g_lt h
  have hd : ∀ i : Fin 60, (match S1[i.val]? with | some (.inl (.long, _)) => decide (i.val = 53) | _ => true) = true := by decide
  have h2 := hd ⟨j, hj⟩
  simp only [h, decide_eq_true_eq] at h2
  exact h2
/-- the tables' words that stay true -/
def gTs : List Cond := lw_tbl.filter goodWord
theorem tbl_good : ∀ w ∈ gTs, goodWord w = true := fun w hw => (List.mem_filter.mp hw).2
theorem g_word {i : Nat} {w : Cond} (h : lw_tbl[i]? = some w) (hg : goodWord w = true) : w ∈ gTs := List.mem_filter.mpr ⟨List.mem_of_getElem? h, hg⟩
theorem g_inwt {C : String} {T : u_T} {N : Nat} (is : List Nat) (h : (List.range N).all (fun k => decide (lw_tbl[is.getD k 0]? = some (u_lay C T k)) && goodWord (u_lay C T k)) = true) : ∀ w ∈ u_ws C T N, w ∈ gTs := by
  intro w hw
  obtain ⟨k, hk, rfl⟩ := List.mem_map.mp hw
  have h1 := List.all_eq_true.mp h k hk
  simp only [Bool.and_eq_true, decide_eq_true_eq] at h1
  exact g_word h1.1 h1.2
set_option maxRecDepth 100000 in
theorem inw_X0 : ∀ w ∈ u_ws RX0 TX0 7, w ∈ gTs := g_inwt [348, 350, 352, 354, 356, 358, 360] (by decide +kernel)
set_option maxRecDepth 100000 in
theorem inw_X1 : ∀ w ∈ u_ws RX1 TX1 3, w ∈ gTs := g_inwt [301, 303, 305] (by decide +kernel)
set_option maxRecDepth 100000 in
theorem inw_X2 : ∀ w ∈ u_ws RX2 TX2 14, w ∈ gTs := g_inwt [152, 154, 156, 158, 160, 162, 164, 166, 168, 170, 172, 174, 176, 178] (by decide +kernel)
set_option maxRecDepth 100000 in
theorem inw_X3 : ∀ w ∈ u_ws RX3 TX3 8, w ∈ gTs := g_inwt [262, 264, 266, 268, 270, 272, 274, 276] (by decide +kernel)
set_option maxRecDepth 100000 in
theorem inw_X4 : ∀ w ∈ u_ws RX4 TX4 2, w ∈ gTs := g_inwt [287, 289] (by decide +kernel)
set_option maxRecDepth 100000 in
theorem inw_X5 : ∀ w ∈ u_ws RX5 TX5 3, w ∈ gTs := g_inwt [374, 376, 378] (by decide +kernel)
set_option maxRecDepth 100000 in
theorem inw_X6 : ∀ w ∈ u_ws RX6 TX6 5, w ∈ gTs := g_inwt [199, 201, 203, 205, 207] (by decide +kernel)
set_option maxRecDepth 100000 in
theorem inw_X7 : ∀ w ∈ u_ws RX7 TX7 6, w ∈ gTs := g_inwt [232, 234, 236, 238, 240, 242] (by decide +kernel)
set_option maxRecDepth 100000 in
theorem inw_X8 : ∀ w ∈ u_ws RX8 TX8 6, w ∈ gTs := g_inwt [322, 324, 326, 328, 330, 332] (by decide +kernel)
set_option maxRecDepth 100000 in
theorem inw_X9 : ∀ w ∈ u_ws RX9 TX9 14, w ∈ gTs := g_inwt [395, 397, 399, 401, 403, 405, 407, 409, 411, 413, 415, 417, 419, 421] (by decide +kernel)
set_option maxRecDepth 100000 in
theorem inw_X10 : ∀ w ∈ u_ws RX10 TX10 70, w ∈ gTs := g_inwt [1107, 1109, 1111, 1113, 1115, 1117, 1119, 1121, 1123, 1125, 1127, 1129, 1131, 1133, 1135, 1137, 1139, 1141, 1143, 1145, 1147, 1149, 1151, 1153, 1155, 1157, 1159, 1161, 1163, 1165, 1167, 1169, 1171, 1173, 1175, 1177, 1179, 1181, 1183, 1185, 1187, 1189, 1191, 1193, 1195, 1197, 1199, 1201, 1203, 1205, 1207, 1209, 1211, 1213, 1215, 1217, 1219, 1221, 1223, 1225, 1227, 1229, 1231, 1233, 1235, 1237, 1239, 1241, 1243, 1245] (by decide +kernel)
