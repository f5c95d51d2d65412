theorem in_X0 : ∀ w ∈ u_ws RX0 TX0 4, w ∈ lw_tbl := by
  have e : u_ws RX0 TX0 4 = ([205, 207, 209, 211] : List Nat).filterMap (fun i => lw_tbl[i]?) := by decide +kernel
  intro w hw
  rw [e] at hw
  obtain ⟨i, -, hi⟩ := List.mem_filterMap.mp hw
  exact List.mem_of_getElem? hi
theorem cl_X0 : az_cls 0 RX0 TX0 4 tyX0 := ⟨rfl, in_X0, tyX0_ok, nmX0⟩
theorem in_X1 : ∀ w ∈ u_ws RX1 TX1 5, w ∈ lw_tbl := by
  have e : u_ws RX1 TX1 5 = ([661, 663, 665, 667, 669] : List Nat).filterMap (fun i => lw_tbl[i]?) := by decide +kernel
  intro w hw
  rw [e] at hw
  obtain ⟨i, -, hi⟩ := List.mem_filterMap.mp hw
  exact List.mem_of_getElem? hi
theorem cl_X1 : az_cls 1 RX1 TX1 5 tyX1 := ⟨rfl, in_X1, tyX1_ok, nmX1⟩
theorem in_X2 : ∀ w ∈ u_ws RX2 TX2 4, w ∈ lw_tbl := by
  have e : u_ws RX2 TX2 4 = ([319, 321, 323, 325] : List Nat).filterMap (fun i => lw_tbl[i]?) := by decide +kernel
  intro w hw
  rw [e] at hw
  obtain ⟨i, -, hi⟩ := List.mem_filterMap.mp hw
  exact List.mem_of_getElem? hi
theorem cl_X2 : az_cls 2 RX2 TX2 4 tyX2 := ⟨rfl, in_X2, tyX2_ok, nmX2⟩
theorem in_X3 : ∀ w ∈ u_ws RX3 TX3 6, w ∈ lw_tbl := by
  have e : u_ws RX3 TX3 6 = ([254, 256, 258, 260, 262, 264] : List Nat).filterMap (fun i => lw_tbl[i]?) := by decide +kernel
  intro w hw
  rw [e] at hw
  obtain ⟨i, -, hi⟩ := List.mem_filterMap.mp hw
  exact List.mem_of_getElem? hi
theorem cl_X3 : az_cls 3 RX3 TX3 6 tyX3 := ⟨rfl, in_X3, tyX3_ok, nmX3⟩
theorem in_X4 : ∀ w ∈ u_ws RX4 TX4 6, w ∈ lw_tbl := by
  have e : u_ws RX4 TX4 6 = ([222, 224, 226, 228, 230, 232] : List Nat).filterMap (fun i => lw_tbl[i]?) := by decide +kernel
  intro w hw
  rw [e] at hw
  obtain ⟨i, -, hi⟩ := List.mem_filterMap.mp hw
  exact List.mem_of_getElem? hi
theorem cl_X4 : az_cls 4 RX4 TX4 6 tyX4 := ⟨rfl, in_X4, tyX4_ok, nmX4⟩
theorem in_X5 : ∀ w ∈ u_ws RX5 TX5 7, w ∈ lw_tbl := by
  have e : u_ws RX5 TX5 7 = ([140, 142, 144, 146, 148, 150, 152] : List Nat).filterMap (fun i => lw_tbl[i]?) := by decide +kernel
  intro w hw
  rw [e] at hw
  obtain ⟨i, -, hi⟩ := List.mem_filterMap.mp hw
  exact List.mem_of_getElem? hi
theorem cl_X5 : az_cls 5 RX5 TX5 7 tyX5 := ⟨rfl, in_X5, tyX5_ok, nmX5⟩
theorem in_X6 : ∀ w ∈ u_ws RX6 TX6 4, w ∈ lw_tbl := by
  have e : u_ws RX6 TX6 4 = ([306, 308, 310, 312] : List Nat).filterMap (fun i => lw_tbl[i]?) := by decide +kernel
  intro w hw
  rw [e] at hw
  obtain ⟨i, -, hi⟩ := List.mem_filterMap.mp hw
  exact List.mem_of_getElem? hi
theorem cl_X6 : az_cls 6 RX6 TX6 4 tyX6 := ⟨rfl, in_X6, tyX6_ok, nmX6⟩
theorem in_X7 : ∀ w ∈ u_ws RX7 TX7 6, w ∈ lw_tbl := by
  have e : u_ws RX7 TX7 6 = ([274, 276, 278, 280, 282, 284] : List Nat).filterMap (fun i => lw_tbl[i]?) := by decide +kernel
  intro w hw
  rw [e] at hw
  obtain ⟨i, -, hi⟩ := List.mem_filterMap.mp hw
  exact List.mem_of_getElem? hi
theorem cl_X7 : az_cls 7 RX7 TX7 6 tyX7 := ⟨rfl, in_X7, tyX7_ok, nmX7⟩
theorem in_X8 : ∀ w ∈ u_ws RX8 TX8 6, w ∈ lw_tbl := by
  have e : u_ws RX8 TX8 6 = ([113, 115, 117, 119, 121, 123] : List Nat).filterMap (fun i => lw_tbl[i]?) := by decide +kernel
  intro w hw
  rw [e] at hw
  obtain ⟨i, -, hi⟩ := List.mem_filterMap.mp hw
  exact List.mem_of_getElem? hi
theorem cl_X8 : az_cls 8 RX8 TX8 6 tyX8 := ⟨rfl, in_X8, tyX8_ok, nmX8⟩
theorem in_X9 : ∀ w ∈ u_ws RX9 TX9 6, w ∈ lw_tbl := by
  have e : u_ws RX9 TX9 6 = ([172, 174, 176, 178, 180, 182] : List Nat).filterMap (fun i => lw_tbl[i]?) := by decide +kernel
  intro w hw
  rw [e] at hw
  obtain ⟨i, -, hi⟩ := List.mem_filterMap.mp hw
  exact List.mem_of_getElem? hi
theorem cl_X9 : az_cls 9 RX9 TX9 6 tyX9 := ⟨rfl, in_X9, tyX9_ok, nmX9⟩
theorem in_X10 : ∀ w ∈ u_ws RX10 TX10 12, w ∈ lw_tbl := by
  have e : u_ws RX10 TX10 12 = ([343, 345, 347, 349, 351, 353, 355, 357, 359, 361, 363, 365] : List Nat).filterMap (fun i => lw_tbl[i]?) := by decide +kernel
  intro w hw
  rw [e] at hw
  obtain ⟨i, -, hi⟩ := List.mem_filterMap.mp hw
  exact List.mem_of_getElem? hi
theorem cl_X10 : az_cls 10 RX10 TX10 12 tyX10 := ⟨rfl, in_X10, tyX10_ok, nmX10⟩
theorem in_X11 : ∀ w ∈ u_ws RX11 TX11 59, w ∈ lw_tbl := by
  have e : u_ws RX11 TX11 59 = ([1119, 1121, 1123, 1125, 1127, 1129, 1131, 1133, 1135, 1137, 1139, 1141, 1143, 1145, 1147, 1149, 1151, 1153, 1155, 1157, 1159, 1161, 1163, 1165, 1167, 1169, 1171, 1173, 1175, 1177, 1179, 1181, 1183, 1185, 1187, 1189, 1191, 1193, 1195, 1197, 1199, 1201, 1203, 1205, 1207, 1209, 1211, 1213, 1215, 1217, 1219, 1221, 1223, 1225, 1227, 1229, 1231, 1233, 1235] : List Nat).filterMap (fun i => lw_tbl[i]?) := by decide +kernel
  intro w hw
  rw [e] at hw
  obtain ⟨i, -, hi⟩ := List.mem_filterMap.mp hw
  exact List.mem_of_getElem? hi
theorem cl_X11 : az_cls 11 RX11 TX11 59 tyX11 := ⟨rfl, in_X11, tyX11_ok, nmX11⟩
theorem fl_X8_11 : az_fl RX8 11 8 0 (.array (.byte)) true := ⟨_, _, _, _, cl_X8, by decide, k_107, rfl, rfl, fun _ => rfl⟩
theorem fl_X8_15 : az_fl RX8 15 8 1 (.int) false := ⟨_, _, _, _, cl_X8, by decide, k_108, rfl, rfl, by decide⟩
theorem fl_X8_25 : az_fl RX8 25 8 2 (.int) false := ⟨_, _, _, _, cl_X8, by decide, k_109, rfl, rfl, by decide⟩
theorem fl_X8_34 : az_fl RX8 34 8 3 (.int) false := ⟨_, _, _, _, cl_X8, by decide, k_110, rfl, rfl, by decide⟩
theorem fl_X8_28 : az_fl RX8 28 8 4 (.int) false := ⟨_, _, _, _, cl_X8, by decide, k_111, rfl, rfl, by decide⟩
theorem fl_X8_31 : az_fl RX8 31 8 5 (.int) false := ⟨_, _, _, _, cl_X8, by decide, k_112, rfl, rfl, by decide⟩
theorem fl_X5_20 : az_fl RX5 20 5 0 (.object "InvariantSearch$Text") true := ⟨_, _, _, _, cl_X5, by decide, k_133, rfl, rfl, fun _ => rfl⟩
theorem fl_X5_11 : az_fl RX5 11 5 1 (.array (.int)) true := ⟨_, _, _, _, cl_X5, by decide, k_134, rfl, rfl, fun _ => rfl⟩
theorem fl_X5_17 : az_fl RX5 17 5 2 (.array (.int)) true := ⟨_, _, _, _, cl_X5, by decide, k_135, rfl, rfl, fun _ => rfl⟩
theorem fl_X5_47 : az_fl RX5 47 5 3 (.int) false := ⟨_, _, _, _, cl_X5, by decide, k_136, rfl, rfl, by decide⟩
theorem fl_X5_51 : az_fl RX5 51 5 4 (.int) false := ⟨_, _, _, _, cl_X5, by decide, k_137, rfl, rfl, by decide⟩
theorem fl_X5_54 : az_fl RX5 54 5 5 (.int) false := ⟨_, _, _, _, cl_X5, by decide, k_138, rfl, rfl, by decide⟩
theorem fl_X5_43 : az_fl RX5 43 5 6 (.boolean) false := ⟨_, _, _, _, cl_X5, by decide, k_139, rfl, rfl, by decide⟩
theorem fl_X9_11 : az_fl RX9 11 9 0 (.array (.object "InvariantSearch$Code")) true := ⟨_, _, _, _, cl_X9, by decide, k_166, rfl, rfl, fun _ => rfl⟩
theorem fl_X9_17 : az_fl RX9 17 9 1 (.array (.int)) true := ⟨_, _, _, _, cl_X9, by decide, k_167, rfl, rfl, fun _ => rfl⟩
theorem fl_X9_21 : az_fl RX9 21 9 2 (.array (.int)) true := ⟨_, _, _, _, cl_X9, by decide, k_168, rfl, rfl, fun _ => rfl⟩
theorem fl_X9_26 : az_fl RX9 26 9 3 (.array (.object "InvariantSearch$Call")) true := ⟨_, _, _, _, cl_X9, by decide, k_169, rfl, rfl, fun _ => rfl⟩
theorem fl_X9_38 : az_fl RX9 38 9 4 (.boolean) false := ⟨_, _, _, _, cl_X9, by decide, k_170, rfl, rfl, by decide⟩
theorem fl_X9_42 : az_fl RX9 42 9 5 (.boolean) false := ⟨_, _, _, _, cl_X9, by decide, k_171, rfl, rfl, by decide⟩
theorem fl_X0_7 : az_fl RX0 7 0 0 (.int) true := ⟨_, _, _, _, cl_X0, by decide, k_197, rfl, rfl, fun _ => rfl⟩
theorem fr_X4_75 : az_fr RX4 75 0 0 := ⟨_, _, _, _, cl_X0, by decide, k_198⟩
theorem fl_X0_13 : az_fl RX0 13 0 1 (.int) true := ⟨_, _, _, _, cl_X0, by decide, k_199, rfl, rfl, fun _ => rfl⟩
theorem fr_X4_67 : az_fr RX4 67 0 1 := ⟨_, _, _, _, cl_X0, by decide, k_200⟩
theorem fl_X0_16 : az_fl RX0 16 0 2 (.int) true := ⟨_, _, _, _, cl_X0, by decide, k_201, rfl, rfl, fun _ => rfl⟩
theorem fr_X4_131 : az_fr RX4 131 0 2 := ⟨_, _, _, _, cl_X0, by decide, k_202⟩
theorem fl_X0_19 : az_fl RX0 19 0 3 (.int) true := ⟨_, _, _, _, cl_X0, by decide, k_203, rfl, rfl, fun _ => rfl⟩
theorem fr_X4_81 : az_fr RX4 81 0 3 := ⟨_, _, _, _, cl_X0, by decide, k_204⟩
theorem fl_X4_33 : az_fl RX4 33 4 0 (.object "InvariantSearch$World") true := ⟨_, _, _, _, cl_X4, by decide, k_216, rfl, rfl, fun _ => rfl⟩
theorem fl_X4_16 : az_fl RX4 16 4 1 (.object "InvariantSearch$Call") true := ⟨_, _, _, _, cl_X4, by decide, k_217, rfl, rfl, fun _ => rfl⟩
theorem fl_X4_20 : az_fl RX4 20 4 2 (.array (.int)) true := ⟨_, _, _, _, cl_X4, by decide, k_218, rfl, rfl, fun _ => rfl⟩
theorem fl_X4_26 : az_fl RX4 26 4 3 (.array (.array (.int))) true := ⟨_, _, _, _, cl_X4, by decide, k_219, rfl, rfl, fun _ => rfl⟩
theorem fl_X4_29 : az_fl RX4 29 4 4 (.array (.long)) true := ⟨_, _, _, _, cl_X4, by decide, k_220, rfl, rfl, fun _ => rfl⟩
theorem fl_X4_88 : az_fl RX4 88 4 5 (.int) false := ⟨_, _, _, _, cl_X4, by decide, k_221, rfl, rfl, by decide⟩
theorem fl_X3_11 : az_fl RX3 11 3 0 (.array (.int)) true := ⟨_, _, _, _, cl_X3, by decide, k_248, rfl, rfl, fun _ => rfl⟩
theorem fl_X3_15 : az_fl RX3 15 3 1 (.array (.int)) true := ⟨_, _, _, _, cl_X3, by decide, k_249, rfl, rfl, fun _ => rfl⟩
theorem fl_X3_18 : az_fl RX3 18 3 2 (.array (.int)) true := ⟨_, _, _, _, cl_X3, by decide, k_250, rfl, rfl, fun _ => rfl⟩
theorem fl_X3_21 : az_fl RX3 21 3 3 (.array (.int)) true := ⟨_, _, _, _, cl_X3, by decide, k_251, rfl, rfl, fun _ => rfl⟩
theorem fl_X3_24 : az_fl RX3 24 3 4 (.array (.int)) true := ⟨_, _, _, _, cl_X3, by decide, k_252, rfl, rfl, fun _ => rfl⟩
theorem fl_X3_27 : az_fl RX3 27 3 5 (.int) false := ⟨_, _, _, _, cl_X3, by decide, k_253, rfl, rfl, by decide⟩
theorem fl_X7_28 : az_fl RX7 28 7 0 (.object "InvariantSearch$Machine") true := ⟨_, _, _, _, cl_X7, by decide, k_268, rfl, rfl, fun _ => rfl⟩
theorem fl_X7_12 : az_fl RX7 12 7 1 (.object "InvariantSearch$Known") true := ⟨_, _, _, _, cl_X7, by decide, k_269, rfl, rfl, fun _ => rfl⟩
theorem fl_X7_20 : az_fl RX7 20 7 2 (.array (.object "InvariantSearch$Call")) true := ⟨_, _, _, _, cl_X7, by decide, k_270, rfl, rfl, fun _ => rfl⟩
theorem fl_X7_24 : az_fl RX7 24 7 3 (.array (.int)) true := ⟨_, _, _, _, cl_X7, by decide, k_271, rfl, rfl, fun _ => rfl⟩
theorem fl_X7_32 : az_fl RX7 32 7 4 (.int) false := ⟨_, _, _, _, cl_X7, by decide, k_272, rfl, rfl, by decide⟩
theorem fl_X7_36 : az_fl RX7 36 7 5 (.int) false := ⟨_, _, _, _, cl_X7, by decide, k_273, rfl, rfl, by decide⟩
theorem fl_X6_15 : az_fl RX6 15 6 0 (.int) true := ⟨_, _, _, _, cl_X6, by decide, k_302, rfl, rfl, fun _ => rfl⟩
theorem fl_X6_21 : az_fl RX6 21 6 1 (.array (.int)) true := ⟨_, _, _, _, cl_X6, by decide, k_303, rfl, rfl, fun _ => rfl⟩
theorem fl_X6_25 : az_fl RX6 25 6 2 (.array (.int)) true := ⟨_, _, _, _, cl_X6, by decide, k_304, rfl, rfl, fun _ => rfl⟩
theorem fl_X6_28 : az_fl RX6 28 6 3 (.int) false := ⟨_, _, _, _, cl_X6, by decide, k_305, rfl, rfl, by decide⟩
theorem fl_X2_20 : az_fl RX2 20 2 0 (.object "InvariantSearch$Runner") true := ⟨_, _, _, _, cl_X2, by decide, k_315, rfl, rfl, fun _ => rfl⟩
theorem fl_X2_24 : az_fl RX2 24 2 1 (.object "InvariantSearch$World") true := ⟨_, _, _, _, cl_X2, by decide, k_316, rfl, rfl, fun _ => rfl⟩
theorem fl_X2_14 : az_fl RX2 14 2 2 (.object "InvariantSearch$Rows") true := ⟨_, _, _, _, cl_X2, by decide, k_317, rfl, rfl, fun _ => rfl⟩
theorem fl_X2_44 : az_fl RX2 44 2 3 (.int) false := ⟨_, _, _, _, cl_X2, by decide, k_318, rfl, rfl, by decide⟩
theorem fl_X10_10 : az_fl RX10 10 10 0 (.object "InvariantSearch$Text") true := ⟨_, _, _, _, cl_X10, by decide, k_331, rfl, rfl, fun _ => rfl⟩
theorem fl_X10_21 : az_fl RX10 21 10 1 (.object "InvariantSearch$Parser") true := ⟨_, _, _, _, cl_X10, by decide, k_332, rfl, rfl, fun _ => rfl⟩
theorem fl_X10_28 : az_fl RX10 28 10 2 (.object "InvariantSearch$World") true := ⟨_, _, _, _, cl_X10, by decide, k_333, rfl, rfl, fun _ => rfl⟩
theorem fl_X10_37 : az_fl RX10 37 10 3 (.object "InvariantSearch$Machine") true := ⟨_, _, _, _, cl_X10, by decide, k_334, rfl, rfl, fun _ => rfl⟩
theorem fl_X10_46 : az_fl RX10 46 10 4 (.object "InvariantSearch$Runner") true := ⟨_, _, _, _, cl_X10, by decide, k_335, rfl, rfl, fun _ => rfl⟩
theorem fl_X10_55 : az_fl RX10 55 10 5 (.object "InvariantSearch$Drawer") true := ⟨_, _, _, _, cl_X10, by decide, k_336, rfl, rfl, fun _ => rfl⟩
theorem fl_X10_64 : az_fl RX10 64 10 6 (.object "InvariantSearch$Rows") true := ⟨_, _, _, _, cl_X10, by decide, k_337, rfl, rfl, fun _ => rfl⟩
theorem fl_X10_70 : az_fl RX10 70 10 7 (.array (.object "InvariantSearch$Code")) true := ⟨_, _, _, _, cl_X10, by decide, k_338, rfl, rfl, fun _ => rfl⟩
theorem fl_X10_74 : az_fl RX10 74 10 8 (.array (.int)) true := ⟨_, _, _, _, cl_X10, by decide, k_339, rfl, rfl, fun _ => rfl⟩
theorem fl_X10_78 : az_fl RX10 78 10 9 (.array (.int)) true := ⟨_, _, _, _, cl_X10, by decide, k_340, rfl, rfl, fun _ => rfl⟩
theorem fl_X10_81 : az_fl RX10 81 10 10 (.int) false := ⟨_, _, _, _, cl_X10, by decide, k_341, rfl, rfl, by decide⟩
theorem fl_X10_85 : az_fl RX10 85 10 11 (.int) false := ⟨_, _, _, _, cl_X10, by decide, k_342, rfl, rfl, by decide⟩
theorem fl_X1_35 : az_fl RX1 35 1 0 (.int) true := ⟨_, _, _, _, cl_X1, by decide, k_653, rfl, rfl, fun _ => rfl⟩
theorem fr_X10_120 : az_fr RX10 120 1 0 := ⟨_, _, _, _, cl_X1, by decide, k_654⟩
theorem fl_X1_38 : az_fl RX1 38 1 1 (.int) true := ⟨_, _, _, _, cl_X1, by decide, k_655, rfl, rfl, fun _ => rfl⟩
theorem fr_X9_34 : az_fr RX9 34 1 1 := ⟨_, _, _, _, cl_X1, by decide, k_656⟩
theorem fl_X1_16 : az_fl RX1 16 1 2 (.int) true := ⟨_, _, _, _, cl_X1, by decide, k_657, rfl, rfl, fun _ => rfl⟩
theorem fr_X4_91 : az_fr RX4 91 1 2 := ⟨_, _, _, _, cl_X1, by decide, k_658⟩
theorem fl_X1_28 : az_fl RX1 28 1 3 (.array (.int)) true := ⟨_, _, _, _, cl_X1, by decide, k_659, rfl, rfl, fun _ => rfl⟩
theorem fl_X1_32 : az_fl RX1 32 1 4 (.array (.int)) true := ⟨_, _, _, _, cl_X1, by decide, k_660, rfl, rfl, fun _ => rfl⟩
theorem fl_X11_7 : az_fl RX11 7 11 0 (.array (.int)) true := ⟨_, _, _, _, cl_X11, by decide, k_1060, rfl, rfl, fun _ => rfl⟩
theorem fl_X11_125 : az_fl RX11 125 11 1 (.int) false := ⟨_, _, _, _, cl_X11, by decide, k_1061, rfl, rfl, by decide⟩
theorem fl_X11_151 : az_fl RX11 151 11 2 (.int) false := ⟨_, _, _, _, cl_X11, by decide, k_1062, rfl, rfl, by decide⟩
theorem fl_X11_148 : az_fl RX11 148 11 3 (.int) false := ⟨_, _, _, _, cl_X11, by decide, k_1063, rfl, rfl, by decide⟩
theorem fl_X11_141 : az_fl RX11 141 11 4 (.int) false := ⟨_, _, _, _, cl_X11, by decide, k_1064, rfl, rfl, by decide⟩
theorem fl_X11_160 : az_fl RX11 160 11 5 (.int) false := ⟨_, _, _, _, cl_X11, by decide, k_1065, rfl, rfl, by decide⟩
theorem fl_X11_163 : az_fl RX11 163 11 6 (.int) false := ⟨_, _, _, _, cl_X11, by decide, k_1066, rfl, rfl, by decide⟩
theorem fl_X11_13 : az_fl RX11 13 11 7 (.array (.int)) true := ⟨_, _, _, _, cl_X11, by decide, k_1067, rfl, rfl, fun _ => rfl⟩
theorem fl_X11_16 : az_fl RX11 16 11 8 (.array (.int)) true := ⟨_, _, _, _, cl_X11, by decide, k_1068, rfl, rfl, fun _ => rfl⟩
theorem fl_X11_19 : az_fl RX11 19 11 9 (.array (.int)) true := ⟨_, _, _, _, cl_X11, by decide, k_1069, rfl, rfl, fun _ => rfl⟩
theorem fl_X11_22 : az_fl RX11 22 11 10 (.array (.int)) true := ⟨_, _, _, _, cl_X11, by decide, k_1070, rfl, rfl, fun _ => rfl⟩
theorem fl_X11_25 : az_fl RX11 25 11 11 (.array (.int)) true := ⟨_, _, _, _, cl_X11, by decide, k_1071, rfl, rfl, fun _ => rfl⟩
theorem fl_X11_28 : az_fl RX11 28 11 12 (.array (.boolean)) true := ⟨_, _, _, _, cl_X11, by decide, k_1072, rfl, rfl, fun _ => rfl⟩
theorem fl_X11_245 : az_fl RX11 245 11 13 (.int) false := ⟨_, _, _, _, cl_X11, by decide, k_1073, rfl, rfl, by decide⟩
theorem fl_X11_166 : az_fl RX11 166 11 14 (.boolean) false := ⟨_, _, _, _, cl_X11, by decide, k_1074, rfl, rfl, by decide⟩
theorem fl_X11_175 : az_fl RX11 175 11 15 (.int) false := ⟨_, _, _, _, cl_X11, by decide, k_1075, rfl, rfl, by decide⟩
theorem fl_X11_32 : az_fl RX11 32 11 16 (.array (.int)) true := ⟨_, _, _, _, cl_X11, by decide, k_1076, rfl, rfl, fun _ => rfl⟩
theorem fl_X11_199 : az_fl RX11 199 11 17 (.int) false := ⟨_, _, _, _, cl_X11, by decide, k_1077, rfl, rfl, by decide⟩
theorem fl_X11_213 : az_fl RX11 213 11 18 (.int) false := ⟨_, _, _, _, cl_X11, by decide, k_1078, rfl, rfl, by decide⟩
theorem fl_X11_228 : az_fl RX11 228 11 19 (.int) false := ⟨_, _, _, _, cl_X11, by decide, k_1079, rfl, rfl, by decide⟩
theorem fl_X11_35 : az_fl RX11 35 11 20 (.array (.int)) true := ⟨_, _, _, _, cl_X11, by decide, k_1080, rfl, rfl, fun _ => rfl⟩
theorem fl_X11_222 : az_fl RX11 222 11 21 (.int) false := ⟨_, _, _, _, cl_X11, by decide, k_1081, rfl, rfl, by decide⟩
theorem fl_X11_38 : az_fl RX11 38 11 22 (.array (.int)) true := ⟨_, _, _, _, cl_X11, by decide, k_1082, rfl, rfl, fun _ => rfl⟩
theorem fl_X11_41 : az_fl RX11 41 11 23 (.array (.int)) true := ⟨_, _, _, _, cl_X11, by decide, k_1083, rfl, rfl, fun _ => rfl⟩
theorem fl_X11_44 : az_fl RX11 44 11 24 (.array (.int)) true := ⟨_, _, _, _, cl_X11, by decide, k_1084, rfl, rfl, fun _ => rfl⟩
theorem fl_X11_47 : az_fl RX11 47 11 25 (.array (.int)) true := ⟨_, _, _, _, cl_X11, by decide, k_1085, rfl, rfl, fun _ => rfl⟩
theorem fl_X11_50 : az_fl RX11 50 11 26 (.array (.int)) true := ⟨_, _, _, _, cl_X11, by decide, k_1086, rfl, rfl, fun _ => rfl⟩
theorem fl_X11_320 : az_fl RX11 320 11 27 (.int) false := ⟨_, _, _, _, cl_X11, by decide, k_1087, rfl, rfl, by decide⟩
theorem fl_X11_53 : az_fl RX11 53 11 28 (.array (.boolean)) true := ⟨_, _, _, _, cl_X11, by decide, k_1088, rfl, rfl, fun _ => rfl⟩
theorem fl_X11_283 : az_fl RX11 283 11 29 (.boolean) false := ⟨_, _, _, _, cl_X11, by decide, k_1089, rfl, rfl, by decide⟩
theorem fl_X11_286 : az_fl RX11 286 11 30 (.boolean) false := ⟨_, _, _, _, cl_X11, by decide, k_1090, rfl, rfl, by decide⟩
theorem fl_X11_56 : az_fl RX11 56 11 31 (.array (.int)) true := ⟨_, _, _, _, cl_X11, by decide, k_1091, rfl, rfl, fun _ => rfl⟩
theorem fl_X11_259 : az_fl RX11 259 11 32 (.int) false := ⟨_, _, _, _, cl_X11, by decide, k_1092, rfl, rfl, by decide⟩
theorem fl_X11_252 : az_fl RX11 252 11 33 (.boolean) false := ⟨_, _, _, _, cl_X11, by decide, k_1093, rfl, rfl, by decide⟩
theorem fl_X11_273 : az_fl RX11 273 11 34 (.int) false := ⟨_, _, _, _, cl_X11, by decide, k_1094, rfl, rfl, by decide⟩
theorem fl_X11_59 : az_fl RX11 59 11 35 (.array (.int)) true := ⟨_, _, _, _, cl_X11, by decide, k_1095, rfl, rfl, fun _ => rfl⟩
theorem fl_X11_62 : az_fl RX11 62 11 36 (.array (.int)) true := ⟨_, _, _, _, cl_X11, by decide, k_1096, rfl, rfl, fun _ => rfl⟩
theorem fl_X11_65 : az_fl RX11 65 11 37 (.array (.int)) true := ⟨_, _, _, _, cl_X11, by decide, k_1097, rfl, rfl, fun _ => rfl⟩
theorem fl_X11_68 : az_fl RX11 68 11 38 (.array (.int)) true := ⟨_, _, _, _, cl_X11, by decide, k_1098, rfl, rfl, fun _ => rfl⟩
theorem fl_X11_71 : az_fl RX11 71 11 39 (.array (.int)) true := ⟨_, _, _, _, cl_X11, by decide, k_1099, rfl, rfl, fun _ => rfl⟩
theorem fl_X11_337 : az_fl RX11 337 11 40 (.int) false := ⟨_, _, _, _, cl_X11, by decide, k_1100, rfl, rfl, by decide⟩
theorem fl_X11_74 : az_fl RX11 74 11 41 (.array (.int)) true := ⟨_, _, _, _, cl_X11, by decide, k_1101, rfl, rfl, fun _ => rfl⟩
theorem fl_X11_77 : az_fl RX11 77 11 42 (.array (.int)) true := ⟨_, _, _, _, cl_X11, by decide, k_1102, rfl, rfl, fun _ => rfl⟩
theorem fl_X11_80 : az_fl RX11 80 11 43 (.array (.int)) true := ⟨_, _, _, _, cl_X11, by decide, k_1103, rfl, rfl, fun _ => rfl⟩
theorem fl_X11_83 : az_fl RX11 83 11 44 (.array (.int)) true := ⟨_, _, _, _, cl_X11, by decide, k_1104, rfl, rfl, fun _ => rfl⟩
theorem fl_X11_340 : az_fl RX11 340 11 45 (.int) false := ⟨_, _, _, _, cl_X11, by decide, k_1105, rfl, rfl, by decide⟩
theorem fl_X11_86 : az_fl RX11 86 11 46 (.array (.int)) true := ⟨_, _, _, _, cl_X11, by decide, k_1106, rfl, rfl, fun _ => rfl⟩
theorem fl_X11_89 : az_fl RX11 89 11 47 (.array (.int)) true := ⟨_, _, _, _, cl_X11, by decide, k_1107, rfl, rfl, fun _ => rfl⟩
theorem fl_X11_346 : az_fl RX11 346 11 48 (.int) false := ⟨_, _, _, _, cl_X11, by decide, k_1108, rfl, rfl, by decide⟩
theorem fl_X11_92 : az_fl RX11 92 11 49 (.array (.int)) true := ⟨_, _, _, _, cl_X11, by decide, k_1109, rfl, rfl, fun _ => rfl⟩
theorem fl_X11_343 : az_fl RX11 343 11 50 (.int) false := ⟨_, _, _, _, cl_X11, by decide, k_1110, rfl, rfl, by decide⟩
theorem fl_X11_95 : az_fl RX11 95 11 51 (.array (.int)) true := ⟨_, _, _, _, cl_X11, by decide, k_1111, rfl, rfl, fun _ => rfl⟩
theorem fl_X11_98 : az_fl RX11 98 11 52 (.array (.int)) true := ⟨_, _, _, _, cl_X11, by decide, k_1112, rfl, rfl, fun _ => rfl⟩
theorem fl_X11_358 : az_fl RX11 358 11 53 (.int) false := ⟨_, _, _, _, cl_X11, by decide, k_1113, rfl, rfl, by decide⟩
theorem fl_X11_101 : az_fl RX11 101 11 54 (.array (.int)) true := ⟨_, _, _, _, cl_X11, by decide, k_1114, rfl, rfl, fun _ => rfl⟩
theorem fl_X11_104 : az_fl RX11 104 11 55 (.array (.int)) true := ⟨_, _, _, _, cl_X11, by decide, k_1115, rfl, rfl, fun _ => rfl⟩
theorem fl_X11_107 : az_fl RX11 107 11 56 (.array (.int)) true := ⟨_, _, _, _, cl_X11, by decide, k_1116, rfl, rfl, fun _ => rfl⟩
theorem fl_X11_110 : az_fl RX11 110 11 57 (.array (.int)) true := ⟨_, _, _, _, cl_X11, by decide, k_1117, rfl, rfl, fun _ => rfl⟩
theorem fl_X11_370 : az_fl RX11 370 11 58 (.int) false := ⟨_, _, _, _, cl_X11, by decide, k_1118, rfl, rfl, by decide⟩
theorem nw_L_7 : az_nw RL 7 10 [vn, vn, vn, vn, vn, vn, vn, vn, vn, vn, vi 0, vi 0] := ⟨_, _, _, _, cl_X10, k_93, k_94, k_73, rfl, by decide⟩
theorem nw_X10_7 : az_nw RX10 7 8 [vn, vi 0, vi 0, vi 0, vi 0, vi 0] := ⟨_, _, _, _, cl_X8, k_101, k_102, k_74, rfl, by decide⟩
theorem nw_X10_16 : az_nw RX10 16 5 [vn, vn, vn, vi 0, vi 0, vi 0, vi 0] := ⟨_, _, _, _, cl_X5, k_127, k_128, k_75, rfl, by decide⟩
theorem nw_X10_25 : az_nw RX10 25 9 [vn, vn, vn, vn, vi 0, vi 0] := ⟨_, _, _, _, cl_X9, k_156, k_157, k_76, rfl, by decide⟩
theorem nw_X9_9 : az_nw RX9 9 1 [vi 0, vi 0, vi 0, vn, vn] := ⟨_, _, _, _, cl_X1, k_162, k_632, k_90, rfl, by decide⟩
theorem nw_X9_24 : az_nw RX9 24 0 [vi 0, vi 0, vi 0, vi 0] := ⟨_, _, _, _, cl_X0, k_164, k_192, k_78, rfl, by decide⟩
theorem nw_X10_32 : az_nw RX10 32 4 [vn, vn, vn, vn, vn, vi 0] := ⟨_, _, _, _, cl_X4, k_185, k_186, k_77, rfl, by decide⟩
theorem nw_X4_11 : az_nw RX4 11 0 [vi 0, vi 0, vi 0, vi 0] := ⟨_, _, _, _, cl_X0, k_191, k_192, k_78, rfl, by decide⟩
theorem nw_X10_41 : az_nw RX10 41 7 [vn, vn, vn, vn, vi 0, vi 0] := ⟨_, _, _, _, cl_X7, k_236, k_237, k_79, rfl, by decide⟩
theorem nw_X7_9 : az_nw RX7 9 3 [vn, vn, vn, vn, vn, vi 0] := ⟨_, _, _, _, cl_X3, k_242, k_243, k_80, rfl, by decide⟩
theorem nw_X7_18 : az_nw RX7 18 0 [vi 0, vi 0, vi 0, vi 0] := ⟨_, _, _, _, cl_X0, k_267, k_192, k_78, rfl, by decide⟩
theorem nw_X10_50 : az_nw RX10 50 2 [vn, vn, vn, vi 0] := ⟨_, _, _, _, cl_X2, k_287, k_288, k_81, rfl, by decide⟩
theorem nw_X2_9 : az_nw RX2 9 6 [vi 0, vn, vn, vi 0] := ⟨_, _, _, _, cl_X6, k_293, k_294, k_82, rfl, by decide⟩
theorem nw_X10_59 : az_nw RX10 59 6 [vi 0, vn, vn, vi 0] := ⟨_, _, _, _, cl_X6, k_328, k_294, k_82, rfl, by decide⟩
theorem nw_X10_68 : az_nw RX10 68 1 [vi 0, vi 0, vi 0, vn, vn] := ⟨_, _, _, _, cl_X1, k_330, k_632, k_90, rfl, by decide⟩
theorem nw_X5_60 : az_nw RX5 60 1 [vi 0, vi 0, vi 0, vn, vn] := ⟨_, _, _, _, cl_X1, k_631, k_632, k_90, rfl, by decide⟩
theorem nw_X10_135 : az_nw RX10 135 0 [vi 0, vi 0, vi 0, vi 0] := ⟨_, _, _, _, cl_X0, k_701, k_192, k_78, rfl, by decide⟩
theorem nw_L_10 : az_nw RL 10 11 [vn, vi 0, vi 0, vi 0, vi 0, vi 0, vi 0, vn, vn, vn, vn, vn, vn, vi 0, vi 0, vi 0, vn, vi 0, vi 0, vi 0, vn, vi 0, vn, vn, vn, vn, vn, vi 0, vn, vi 0, vi 0, vn, vi 0, vi 0, vi 0, vn, vn, vn, vn, vn, vi 0, vn, vn, vn, vn, vi 0, vn, vn, vi 0, vn, vi 0, vn, vn, vi 0, vn, vn, vn, vn, vi 0] := ⟨_, _, _, _, cl_X11, k_1054, k_1055, k_84, rfl, by decide⟩
theorem cI_L_9 : az_cI RL 9 mX10_init 0 := ⟨⟨k_95, k_73, k_97, ⟨by decide, by decide, by decide +kernel⟩, by decide⟩, rfl, rfl, k_96⟩
theorem cI_X10_18 : az_cI RX10 18 mX5_init 1 := ⟨⟨k_129, k_75, k_131, ⟨by decide, by decide, by decide +kernel⟩, by decide⟩, rfl, rfl, k_130⟩
theorem cI_X10_34 : az_cI RX10 34 mX4_init 1 := ⟨⟨k_187, k_77, k_189, ⟨by decide, by decide, by decide +kernel⟩, by decide⟩, rfl, rfl, k_188⟩
theorem cI_X4_13 : az_cI RX4 13 mX0_init 4 := ⟨⟨k_193, k_78, k_195, ⟨by decide, by decide, by decide +kernel⟩, by decide⟩, rfl, rfl, k_194⟩
theorem cI_X10_43 : az_cI RX10 43 mX7_init 1 := ⟨⟨k_238, k_79, k_240, ⟨by decide, by decide, by decide +kernel⟩, by decide⟩, rfl, rfl, k_239⟩
theorem cI_X10_52 : az_cI RX10 52 mX2_init 2 := ⟨⟨k_289, k_81, k_291, ⟨by decide, by decide, by decide +kernel⟩, by decide⟩, rfl, rfl, k_290⟩
theorem cI_X2_11 : az_cI RX2 11 mX6_init 1 := ⟨⟨k_295, k_82, k_297, ⟨by decide, by decide, by decide +kernel⟩, by decide⟩, rfl, rfl, k_296⟩
theorem cS_X6_9 : az_cS RX6 9 mJ9_max_7cf53 2 := ⟨⟨k_299, k_83, k_301, ⟨by decide, by decide, by decide +kernel⟩, by decide⟩, k_300⟩
theorem cI_X10_61 : az_cI RX10 61 mX6_init 1 := ⟨⟨k_329, k_82, k_297, ⟨by decide, by decide, by decide +kernel⟩, by decide⟩, rfl, rfl, k_296⟩
theorem cV_L_13 : az_cV RL 13 mX10_feed 4 := ⟨⟨k_368, k_73, k_371, ⟨by decide, by decide, by decide +kernel⟩, by decide⟩, k_369, k_370⟩
theorem cS_X10_88 : az_cS RX10 88 mX8_isPlain 1 := ⟨⟨k_372, k_74, k_374, ⟨by decide, by decide, by decide +kernel⟩, by decide⟩, k_373⟩
theorem cV_X10_92 : az_cV RX10 92 mX8_hasRoomFor 1 := ⟨⟨k_375, k_74, k_378, ⟨by decide, by decide, by decide +kernel⟩, by decide⟩, k_376, k_377⟩
theorem cV_X10_95 : az_cV RX10 95 mX8_append 1 := ⟨⟨k_379, k_74, k_382, ⟨by decide, by decide, by decide +kernel⟩, by decide⟩, k_380, k_381⟩
theorem cV_X10_98 : az_cV RX10 98 mX8_length 0 := ⟨⟨k_383, k_74, k_386, ⟨by decide, by decide, by decide +kernel⟩, by decide⟩, k_384, k_385⟩
theorem cV_L_18 : az_cV RL 18 mX10_cut 1 := ⟨⟨k_387, k_73, k_390, ⟨by decide, by decide, by decide +kernel⟩, by decide⟩, k_388, k_389⟩
theorem cV_X10_102 : az_cV RX10 102 mX8_drop 1 := ⟨⟨k_391, k_74, k_394, ⟨by decide, by decide, by decide +kernel⟩, by decide⟩, k_392, k_393⟩
theorem cS_X8_19 : az_cS RX8 19 mJ9_max_7cf53 2 := ⟨⟨k_395, k_83, k_301, ⟨by decide, by decide, by decide +kernel⟩, by decide⟩, k_300⟩
theorem cV_L_23 : az_cV RL 23 mX10_method 1 := ⟨⟨k_396, k_73, k_399, ⟨by decide, by decide, by decide +kernel⟩, by decide⟩, k_397, k_398⟩
theorem cS_X10_105 : az_cS RX10 105 mX10_isWithin 3 := ⟨⟨k_400, k_73, k_402, ⟨by decide, by decide, by decide +kernel⟩, by decide⟩, k_401⟩
theorem cV_X10_109 : az_cV RX10 109 mX5_readMethod 0 := ⟨⟨k_403, k_75, k_406, ⟨by decide, by decide, by decide +kernel⟩, by decide⟩, k_404, k_405⟩
theorem cV_X5_24 : az_cV RX5 24 mX5_begin 1 := ⟨⟨k_407, k_75, k_410, ⟨by decide, by decide, by decide +kernel⟩, by decide⟩, k_409, k_0⟩
theorem cV_X5_57 : az_cV RX5 57 mX8_open 0 := ⟨⟨k_411, k_74, k_414, ⟨by decide, by decide, by decide +kernel⟩, by decide⟩, k_412, k_413⟩
theorem cV_X8_37 : az_cV RX8 37 mX8_next 0 := ⟨⟨k_415, k_74, k_418, ⟨by decide, by decide, by decide +kernel⟩, by decide⟩, k_416, k_417⟩
theorem cS_X8_40 : az_cS RX8 40 mX8_isLetter 1 := ⟨⟨k_419, k_74, k_421, ⟨by decide, by decide, by decide +kernel⟩, by decide⟩, k_420⟩
theorem cV_X8_44 : az_cV RX8 44 mX8_readWord 0 := ⟨⟨k_422, k_74, k_425, ⟨by decide, by decide, by decide +kernel⟩, by decide⟩, k_424, k_1⟩
theorem cS_X8_47 : az_cS RX8 47 mX8_isFigure 1 := ⟨⟨k_426, k_74, k_428, ⟨by decide, by decide, by decide +kernel⟩, by decide⟩, k_427⟩
theorem cV_X8_63 : az_cV RX8 63 mX8_isSpelled 1 := ⟨⟨k_430, k_74, k_433, ⟨by decide, by decide, by decide +kernel⟩, by decide⟩, k_432, k_2⟩
theorem cV_X8_75 : az_cV RX8 75 mJ0_length_8abf5 0 := ⟨⟨k_434, k_85, k_437, ⟨by decide, by decide, by decide +kernel⟩, by decide⟩, k_435, k_436⟩
theorem cV_J0_335 : az_cV RJ0 335 mJ0_coder_7d493 0 := ⟨⟨k_438, k_85, k_441, ⟨by decide, by decide, by decide +kernel⟩, by decide⟩, k_439, k_440⟩
theorem cV_X8_77 : az_cV RX8 77 mJ0_charAt_5068e 1 := ⟨⟨k_444, k_85, k_447, ⟨by decide, by decide, by decide +kernel⟩, by decide⟩, k_445, k_446⟩
theorem cV_J0_492 : az_cV RJ0 492 mJ0_isLatin1_aae02 0 := ⟨⟨k_448, k_85, k_451, ⟨by decide, by decide, by decide +kernel⟩, by decide⟩, k_449, k_450⟩
theorem cS_J0_495 : az_cS RJ0 495 mJ1_charAt_3b067 2 := ⟨⟨k_452, k_86, k_454, ⟨by decide, by decide, by decide +kernel⟩, by decide⟩, k_453⟩
theorem cS_J1_9 : az_cS RJ1 9 mJ0_checkIndex_df160 2 := ⟨⟨k_455, k_85, k_457, ⟨by decide, by decide, by decide +kernel⟩, by decide⟩, k_456⟩
theorem cS_J0_1059 : az_cS RJ0 1059 mJ3_checkIndex_8e157 3 := ⟨⟨k_460, k_87, k_462, ⟨by decide, by decide, by decide +kernel⟩, by decide⟩, k_461⟩
theorem cS_J0_498 : az_cS RJ0 498 mJ2_charAt_3b067 2 := ⟨⟨k_463, k_88, k_465, ⟨by decide, by decide, by decide +kernel⟩, by decide⟩, k_464⟩
theorem cS_J2_67 : az_cS RJ2 67 mJ2_checkIndex_2214a 2 := ⟨⟨k_466, k_88, k_468, ⟨by decide, by decide, by decide +kernel⟩, by decide⟩, k_467⟩
theorem cS_J2_48 : az_cS RJ2 48 mJ2_length_9d52b 1 := ⟨⟨k_469, k_88, k_471, ⟨by decide, by decide, by decide +kernel⟩, by decide⟩, k_470⟩
theorem cS_J2_414 : az_cS RJ2 414 mJ0_checkIndex_df160 2 := ⟨⟨k_472, k_85, k_457, ⟨by decide, by decide, by decide +kernel⟩, by decide⟩, k_456⟩
theorem cS_J2_71 : az_cS RJ2 71 mJ2_getChar_3b067 2 := ⟨⟨k_473, k_88, k_475, ⟨by decide, by decide, by decide +kernel⟩, by decide⟩, k_474⟩
theorem cV_X8_71 : az_cV RX8 71 mX8_moneyWord 0 := ⟨⟨k_484, k_74, k_487, ⟨by decide, by decide, by decide +kernel⟩, by decide⟩, k_486, k_3⟩
theorem cV_X8_50 : az_cV RX8 50 mX8_readNumber 0 := ⟨⟨k_488, k_74, k_491, ⟨by decide, by decide, by decide +kernel⟩, by decide⟩, k_490, k_4⟩
theorem cV_X8_55 : az_cV RX8 55 mJ0_indexOf_0f7a4 1 := ⟨⟨k_493, k_85, k_496, ⟨by decide, by decide, by decide +kernel⟩, by decide⟩, k_494, k_495⟩
theorem cV_J0_633 : az_cV RJ0 633 mJ0_indexOf_7cf53 2 := ⟨⟨k_497, k_85, k_500, ⟨by decide, by decide, by decide +kernel⟩, by decide⟩, k_498, k_499⟩
theorem cV_J0_505 : az_cV RJ0 505 mJ0_length_8abf5 0 := ⟨⟨k_501, k_85, k_437, ⟨by decide, by decide, by decide +kernel⟩, by decide⟩, k_435, k_436⟩
theorem cS_J0_637 : az_cS RJ0 637 mJ1_indexOf_4cfef 4 := ⟨⟨k_502, k_86, k_504, ⟨by decide, by decide, by decide +kernel⟩, by decide⟩, k_503⟩
theorem cS_J1_88 : az_cS RJ1 88 mJ1_canEncode_9a6ad 1 := ⟨⟨k_505, k_86, k_507, ⟨by decide, by decide, by decide +kernel⟩, by decide⟩, k_506⟩
theorem cS_J1_92 : az_cS RJ1 92 mJ9_max_7cf53 2 := ⟨⟨k_508, k_83, k_301, ⟨by decide, by decide, by decide +kernel⟩, by decide⟩, k_300⟩
theorem cS_J1_38 : az_cS RJ1 38 mJ9_min_7cf53 2 := ⟨⟨k_509, k_83, k_511, ⟨by decide, by decide, by decide +kernel⟩, by decide⟩, k_510⟩
theorem cS_J1_95 : az_cS RJ1 95 mJ1_indexOfChar_4cfef 4 := ⟨⟨k_512, k_86, k_514, ⟨by decide, by decide, by decide +kernel⟩, by decide⟩, k_513⟩
theorem cS_J0_640 : az_cS RJ0 640 mJ2_indexOf_4cfef 4 := ⟨⟨k_515, k_88, k_517, ⟨by decide, by decide, by decide +kernel⟩, by decide⟩, k_516⟩
theorem cS_J2_224 : az_cS RJ2 224 mJ9_max_7cf53 2 := ⟨⟨k_518, k_83, k_301, ⟨by decide, by decide, by decide +kernel⟩, by decide⟩, k_300⟩
theorem cS_J2_183 : az_cS RJ2 183 mJ9_min_7cf53 2 := ⟨⟨k_519, k_83, k_511, ⟨by decide, by decide, by decide +kernel⟩, by decide⟩, k_510⟩
theorem cS_J2_228 : az_cS RJ2 228 mJ2_indexOfChar_4cfef 4 := ⟨⟨k_521, k_88, k_523, ⟨by decide, by decide, by decide +kernel⟩, by decide⟩, k_522⟩
theorem cS_J2_96 : az_cS RJ2 96 mJ2_checkBoundsBeginEnd_d044e 3 := ⟨⟨k_524, k_88, k_526, ⟨by decide, by decide, by decide +kernel⟩, by decide⟩, k_525⟩
theorem cS_J2_241 : az_cS RJ2 241 mJ0_checkBoundsBeginEnd_23922 3 := ⟨⟨k_527, k_85, k_529, ⟨by decide, by decide, by decide +kernel⟩, by decide⟩, k_528⟩
theorem cS_J0_1062 : az_cS RJ0 1062 mJ3_checkFromToIndex_8c36e 4 := ⟨⟨k_530, k_87, k_532, ⟨by decide, by decide, by decide +kernel⟩, by decide⟩, k_531⟩
theorem cS_J2_244 : az_cS RJ2 244 mJ2_indexOfCharUnsafe_4cfef 4 := ⟨⟨k_533, k_88, k_535, ⟨by decide, by decide, by decide +kernel⟩, by decide⟩, k_534⟩
theorem cS_J2_232 : az_cS RJ2 232 mJ2_indexOfSupplementary_4cfef 4 := ⟨⟨k_536, k_88, k_538, ⟨by decide, by decide, by decide +kernel⟩, by decide⟩, k_537⟩
theorem cS_J2_164 : az_cS RJ2 164 mJ11_isValidCodePoint_9a6ad 1 := ⟨⟨k_539, k_89, k_541, ⟨by decide, by decide, by decide +kernel⟩, by decide⟩, k_540⟩
theorem cS_J2_157 : az_cS RJ2 157 mJ11_highSurrogate_5068e 1 := ⟨⟨k_542, k_89, k_544, ⟨by decide, by decide, by decide +kernel⟩, by decide⟩, k_543⟩
theorem cS_J2_161 : az_cS RJ2 161 mJ11_lowSurrogate_5068e 1 := ⟨⟨k_546, k_89, k_548, ⟨by decide, by decide, by decide +kernel⟩, by decide⟩, k_547⟩
theorem cV_X5_28 : az_cV RX5 28 mX5_readStatements 1 := ⟨⟨k_550, k_75, k_553, ⟨by decide, by decide, by decide +kernel⟩, by decide⟩, k_552, k_5⟩
theorem cV_X5_32 : az_cV RX5 32 mX8_token 0 := ⟨⟨k_554, k_74, k_557, ⟨by decide, by decide, by decide +kernel⟩, by decide⟩, k_555, k_556⟩
theorem cV_X5_65 : az_cV RX5 65 mX5_readStatement 1 := ⟨⟨k_558, k_75, k_561, ⟨by decide, by decide, by decide +kernel⟩, by decide⟩, k_560, k_6⟩
theorem cS_X5_68 : az_cS RX5 68 mX5_cellOf 1 := ⟨⟨k_562, k_75, k_564, ⟨by decide, by decide, by decide +kernel⟩, by decide⟩, k_563⟩
theorem cS_X5_81 : az_cS RX5 81 mX5_isOwn 1 := ⟨⟨k_565, k_75, k_567, ⟨by decide, by decide, by decide +kernel⟩, by decide⟩, k_566⟩
theorem cV_X5_72 : az_cV RX5 72 mX8_next 0 := ⟨⟨k_568, k_74, k_418, ⟨by decide, by decide, by decide +kernel⟩, by decide⟩, k_416, k_417⟩
theorem cV_X5_75 : az_cV RX5 75 mX5_readIf 1 := ⟨⟨k_569, k_75, k_572, ⟨by decide, by decide, by decide +kernel⟩, by decide⟩, k_571, k_7⟩
theorem cV_X5_40 : az_cV RX5 40 mX5_readExpression 1 := ⟨⟨k_573, k_75, k_576, ⟨by decide, by decide, by decide +kernel⟩, by decide⟩, k_575, k_8⟩
theorem cV_X5_91 : az_cV RX5 91 mX5_readSum 1 := ⟨⟨k_577, k_75, k_580, ⟨by decide, by decide, by decide +kernel⟩, by decide⟩, k_579, k_9⟩
theorem cV_X5_94 : az_cV RX5 94 mX5_readProduct 1 := ⟨⟨k_581, k_75, k_584, ⟨by decide, by decide, by decide +kernel⟩, by decide⟩, k_583, k_10⟩
theorem cV_X5_100 : az_cV RX5 100 mX5_readFactor 1 := ⟨⟨k_585, k_75, k_588, ⟨by decide, by decide, by decide +kernel⟩, by decide⟩, k_587, k_11⟩
theorem cV_X5_106 : az_cV RX5 106 mX5_readParenthesis 1 := ⟨⟨k_589, k_75, k_592, ⟨by decide, by decide, by decide +kernel⟩, by decide⟩, k_591, k_12⟩
theorem cV_X5_78 : az_cV RX5 78 mX5_pass 1 := ⟨⟨k_593, k_75, k_596, ⟨by decide, by decide, by decide +kernel⟩, by decide⟩, k_595, k_13⟩
theorem cV_X5_109 : az_cV RX5 109 mX5_readOperand 0 := ⟨⟨k_597, k_75, k_600, ⟨by decide, by decide, by decide +kernel⟩, by decide⟩, k_599, k_14⟩
theorem cV_X5_113 : az_cV RX5 113 mX8_number 0 := ⟨⟨k_601, k_74, k_604, ⟨by decide, by decide, by decide +kernel⟩, by decide⟩, k_602, k_603⟩
theorem cV_X5_84 : az_cV RX5 84 mX5_add 2 := ⟨⟨k_605, k_75, k_608, ⟨by decide, by decide, by decide +kernel⟩, by decide⟩, k_607, k_15⟩
theorem cV_X5_116 : az_cV RX5 116 mX5_addMoney 1 := ⟨⟨k_609, k_75, k_612, ⟨by decide, by decide, by decide +kernel⟩, by decide⟩, k_611, k_16⟩
theorem cV_X5_119 : az_cV RX5 119 mX5_addOfCall 1 := ⟨⟨k_613, k_75, k_616, ⟨by decide, by decide, by decide +kernel⟩, by decide⟩, k_615, k_17⟩
theorem cS_X5_103 : az_cS RX5 103 mX5_productOp 1 := ⟨⟨k_617, k_75, k_619, ⟨by decide, by decide, by decide +kernel⟩, by decide⟩, k_618⟩
theorem cS_X5_97 : az_cS RX5 97 mX5_sumOp 1 := ⟨⟨k_620, k_75, k_622, ⟨by decide, by decide, by decide +kernel⟩, by decide⟩, k_621⟩
theorem cV_X5_88 : az_cV RX5 88 mX5_addLeaves 0 := ⟨⟨k_623, k_75, k_626, ⟨by decide, by decide, by decide +kernel⟩, by decide⟩, k_625, k_18⟩
theorem cV_X5_36 : az_cV RX5 36 mX5_finished 0 := ⟨⟨k_627, k_75, k_630, ⟨by decide, by decide, by decide +kernel⟩, by decide⟩, k_629, k_19⟩
theorem cI_X5_62 : az_cI RX5 62 mX1_init 5 := ⟨⟨k_633, k_90, k_635, ⟨by decide, by decide, by decide +kernel⟩, by decide⟩, rfl, rfl, k_634⟩
theorem cS_X1_7 : az_cS RX1 7 mJ9_min_7cf53 2 := ⟨⟨k_637, k_83, k_511, ⟨by decide, by decide, by decide +kernel⟩, by decide⟩, k_510⟩
theorem cS_X1_13 : az_cS RX1 13 mJ9_max_7cf53 2 := ⟨⟨k_638, k_83, k_301, ⟨by decide, by decide, by decide +kernel⟩, by decide⟩, k_300⟩
theorem cS_X1_22 : az_cS RX1 22 mJ7_copyOf_59c91 2 := ⟨⟨k_639, k_91, k_641, ⟨by decide, by decide, by decide +kernel⟩, by decide⟩, k_640⟩
theorem cS_J7_304 : az_cS RJ7 304 mJ9_min_7cf53 2 := ⟨⟨k_649, k_83, k_511, ⟨by decide, by decide, by decide +kernel⟩, by decide⟩, k_510⟩
theorem cV_X10_113 : az_cV RX10 113 mX8_place 0 := ⟨⟨k_672, k_74, k_675, ⟨by decide, by decide, by decide +kernel⟩, by decide⟩, k_673, k_674⟩
theorem cV_X10_116 : az_cV RX10 116 mX9_setMethod 2 := ⟨⟨k_676, k_76, k_679, ⟨by decide, by decide, by decide +kernel⟩, by decide⟩, k_677, k_678⟩
theorem cV_L_27 : az_cV RL 27 mX10_rule 0 := ⟨⟨k_680, k_73, k_683, ⟨by decide, by decide, by decide +kernel⟩, by decide⟩, k_681, k_682⟩
theorem cV_X10_123 : az_cV RX10 123 mX5_readRule 0 := ⟨⟨k_684, k_75, k_687, ⟨by decide, by decide, by decide +kernel⟩, by decide⟩, k_685, k_686⟩
theorem cV_L_32 : az_cV RL 32 mX10_actor 4 := ⟨⟨k_688, k_73, k_691, ⟨by decide, by decide, by decide +kernel⟩, by decide⟩, k_689, k_690⟩
theorem cV_X10_127 : az_cV RX10 127 mX9_setActor 3 := ⟨⟨k_693, k_76, k_696, ⟨by decide, by decide, by decide +kernel⟩, by decide⟩, k_694, k_695⟩
theorem cS_X10_131 : az_cS RX10 131 mX10_isCall 4 := ⟨⟨k_697, k_73, k_699, ⟨by decide, by decide, by decide +kernel⟩, by decide⟩, k_698⟩
theorem cI_X10_137 : az_cI RX10 137 mX0_init 4 := ⟨⟨k_702, k_78, k_195, ⟨by decide, by decide, by decide +kernel⟩, by decide⟩, rfl, rfl, k_194⟩
theorem cV_X10_140 : az_cV RX10 140 mX10_showStart 0 := ⟨⟨k_703, k_73, k_706, ⟨by decide, by decide, by decide +kernel⟩, by decide⟩, k_705, k_20⟩
theorem cV_X10_241 : az_cV RX10 241 mX4_toStart 0 := ⟨⟨k_707, k_77, k_710, ⟨by decide, by decide, by decide +kernel⟩, by decide⟩, k_708, k_709⟩
theorem cS_X4_37 : az_cS RX4 37 mJ7_fill_53178 2 := ⟨⟨k_711, k_91, k_713, ⟨by decide, by decide, by decide +kernel⟩, by decide⟩, k_712⟩
theorem cV_X4_43 : az_cV RX4 43 mX9_moneyAtStart 1 := ⟨⟨k_714, k_76, k_717, ⟨by decide, by decide, by decide +kernel⟩, by decide⟩, k_715, k_716⟩
theorem cV_X10_151 : az_cV RX10 151 mX4_save 2 := ⟨⟨k_718, k_77, k_721, ⟨by decide, by decide, by decide +kernel⟩, by decide⟩, k_719, k_720⟩
theorem cV_L_36 : az_cV RL 36 mX10_call 4 := ⟨⟨k_723, k_73, k_726, ⟨by decide, by decide, by decide +kernel⟩, by decide⟩, k_724, k_725⟩
theorem cV_X10_143 : az_cV RX10 143 mX4_load 2 := ⟨⟨k_727, k_77, k_730, ⟨by decide, by decide, by decide +kernel⟩, by decide⟩, k_728, k_729⟩
theorem cV_X10_147 : az_cV RX10 147 mX4_attempt 1 := ⟨⟨k_731, k_77, k_734, ⟨by decide, by decide, by decide +kernel⟩, by decide⟩, k_732, k_733⟩
theorem cV_X4_55 : az_cV RX4 55 mX4_perform 2 := ⟨⟨k_735, k_77, k_738, ⟨by decide, by decide, by decide +kernel⟩, by decide⟩, k_737, k_21⟩
theorem cV_X4_71 : az_cV RX4 71 mX9_codeOf 1 := ⟨⟨k_739, k_76, k_742, ⟨by decide, by decide, by decide +kernel⟩, by decide⟩, k_740, k_741⟩
theorem cV_X4_78 : az_cV RX4 78 mX4_cell 1 := ⟨⟨k_743, k_77, k_746, ⟨by decide, by decide, by decide +kernel⟩, by decide⟩, k_744, k_745⟩
theorem cV_X4_84 : az_cV RX4 84 mX4_put 2 := ⟨⟨k_747, k_77, k_750, ⟨by decide, by decide, by decide +kernel⟩, by decide⟩, k_749, k_22⟩
theorem cV_X4_59 : az_cV RX4 59 mX4_run 3 := ⟨⟨k_751, k_77, k_754, ⟨by decide, by decide, by decide +kernel⟩, by decide⟩, k_753, k_23⟩
theorem cV_X4_96 : az_cV RX4 96 mX1_op 1 := ⟨⟨k_755, k_90, k_758, ⟨by decide, by decide, by decide +kernel⟩, by decide⟩, k_756, k_757⟩
theorem cV_X4_99 : az_cV RX4 99 mX1_arg 1 := ⟨⟨k_759, k_90, k_762, ⟨by decide, by decide, by decide +kernel⟩, by decide⟩, k_760, k_761⟩
theorem cV_X4_102 : az_cV RX4 102 mX4_isZeroOnTop 0 := ⟨⟨k_763, k_77, k_766, ⟨by decide, by decide, by decide +kernel⟩, by decide⟩, k_765, k_24⟩
theorem cV_X4_106 : az_cV RX4 106 mX9_meet 2 := ⟨⟨k_767, k_76, k_770, ⟨by decide, by decide, by decide +kernel⟩, by decide⟩, k_768, k_769⟩
theorem cV_X9_45 : az_cV RX9 45 mX9_hasMet 2 := ⟨⟨k_771, k_76, k_774, ⟨by decide, by decide, by decide +kernel⟩, by decide⟩, k_772, k_773⟩
theorem cV_X4_63 : az_cV RX4 63 mX4_pop 0 := ⟨⟨k_775, k_77, k_778, ⟨by decide, by decide, by decide +kernel⟩, by decide⟩, k_777, k_25⟩
theorem cS_X4_109 : az_cS RX4 109 mJ9_max_7cf53 2 := ⟨⟨k_779, k_83, k_301, ⟨by decide, by decide, by decide +kernel⟩, by decide⟩, k_300⟩
theorem cV_X4_115 : az_cV RX4 115 mX4_pay 3 := ⟨⟨k_780, k_77, k_783, ⟨by decide, by decide, by decide +kernel⟩, by decide⟩, k_782, k_26⟩
theorem cV_X4_127 : az_cV RX4 127 mX9_hookOf 1 := ⟨⟨k_784, k_76, k_787, ⟨by decide, by decide, by decide +kernel⟩, by decide⟩, k_785, k_786⟩
theorem cV_X4_119 : az_cV RX4 119 mX4_reckon 3 := ⟨⟨k_788, k_77, k_791, ⟨by decide, by decide, by decide +kernel⟩, by decide⟩, k_790, k_27⟩
theorem cS_X4_134 : az_cS RX4 134 mX4_operate 3 := ⟨⟨k_792, k_77, k_794, ⟨by decide, by decide, by decide +kernel⟩, by decide⟩, k_793⟩
theorem cV_X4_123 : az_cV RX4 123 mX4_push 1 := ⟨⟨k_796, k_77, k_799, ⟨by decide, by decide, by decide +kernel⟩, by decide⟩, k_798, k_28⟩
theorem cV_L_40 : az_cV RL 40 mX10_start 0 := ⟨⟨k_802, k_73, k_805, ⟨by decide, by decide, by decide +kernel⟩, by decide⟩, k_803, k_804⟩
theorem cV_L_44 : az_cV RL 44 mX10_state 1 := ⟨⟨k_806, k_73, k_809, ⟨by decide, by decide, by decide +kernel⟩, by decide⟩, k_807, k_808⟩
theorem cV_L_48 : az_cV RL 48 mX10_holds 1 := ⟨⟨k_810, k_73, k_813, ⟨by decide, by decide, by decide +kernel⟩, by decide⟩, k_811, k_812⟩
theorem cV_X10_154 : az_cV RX10 154 mX10_isRule 1 := ⟨⟨k_814, k_73, k_817, ⟨by decide, by decide, by decide +kernel⟩, by decide⟩, k_816, k_29⟩
theorem cV_X10_157 : az_cV RX10 157 mX4_keeps 1 := ⟨⟨k_818, k_77, k_821, ⟨by decide, by decide, by decide +kernel⟩, by decide⟩, k_819, k_820⟩
theorem cV_L_52 : az_cV RL 52 mX10_choice 4 := ⟨⟨k_822, k_73, k_825, ⟨by decide, by decide, by decide +kernel⟩, by decide⟩, k_823, k_824⟩
theorem cV_X10_161 : az_cV RX10 161 mX7_choiceCount 0 := ⟨⟨k_826, k_79, k_829, ⟨by decide, by decide, by decide +kernel⟩, by decide⟩, k_827, k_828⟩
theorem cV_X10_164 : az_cV RX10 164 mX7_addChoice 1 := ⟨⟨k_830, k_79, k_833, ⟨by decide, by decide, by decide +kernel⟩, by decide⟩, k_831, k_832⟩
theorem cV_L_56 : az_cV RL 56 mX10_fresh 0 := ⟨⟨k_834, k_73, k_837, ⟨by decide, by decide, by decide +kernel⟩, by decide⟩, k_835, k_836⟩
theorem cV_X10_168 : az_cV RX10 168 mX7_dropChoices 0 := ⟨⟨k_838, k_79, k_841, ⟨by decide, by decide, by decide +kernel⟩, by decide⟩, k_839, k_840⟩
theorem cV_X10_171 : az_cV RX10 171 mX6_clear 0 := ⟨⟨k_842, k_82, k_845, ⟨by decide, by decide, by decide +kernel⟩, by decide⟩, k_843, k_844⟩
theorem cV_X10_174 : az_cV RX10 174 mX2_forget 0 := ⟨⟨k_846, k_81, k_849, ⟨by decide, by decide, by decide +kernel⟩, by decide⟩, k_847, k_848⟩
theorem cV_X2_36 : az_cV RX2 36 mX6_clear 0 := ⟨⟨k_850, k_82, k_845, ⟨by decide, by decide, by decide +kernel⟩, by decide⟩, k_843, k_844⟩
theorem cV_X2_39 : az_cV RX2 39 mX9_unmeetAll 0 := ⟨⟨k_851, k_76, k_854, ⟨by decide, by decide, by decide +kernel⟩, by decide⟩, k_852, k_853⟩
theorem cS_X9_49 : az_cS RX9 49 mJ7_fill_53178 2 := ⟨⟨k_855, k_91, k_713, ⟨by decide, by decide, by decide +kernel⟩, by decide⟩, k_712⟩
theorem cV_L_60 : az_cV RL 60 mX10_every 2 := ⟨⟨k_856, k_73, k_859, ⟨by decide, by decide, by decide +kernel⟩, by decide⟩, k_857, k_858⟩
theorem cV_X10_177 : az_cV RX10 177 mX6_isFull 0 := ⟨⟨k_860, k_82, k_863, ⟨by decide, by decide, by decide +kernel⟩, by decide⟩, k_861, k_862⟩
theorem cV_X10_181 : az_cV RX10 181 mX7_seek 3 := ⟨⟨k_864, k_79, k_867, ⟨by decide, by decide, by decide +kernel⟩, by decide⟩, k_865, k_866⟩
theorem cV_X7_76 : az_cV RX7 76 mX3_clear 0 := ⟨⟨k_868, k_80, k_871, ⟨by decide, by decide, by decide +kernel⟩, by decide⟩, k_869, k_870⟩
theorem cS_X3_31 : az_cS RX3 31 mJ7_fill_53178 2 := ⟨⟨k_872, k_91, k_713, ⟨by decide, by decide, by decide +kernel⟩, by decide⟩, k_712⟩
theorem cV_X7_39 : az_cV RX7 39 mX4_toStart 0 := ⟨⟨k_873, k_77, k_710, ⟨by decide, by decide, by decide +kernel⟩, by decide⟩, k_708, k_709⟩
theorem cV_X7_79 : az_cV RX7 79 mX3_slotFor 1 := ⟨⟨k_874, k_80, k_877, ⟨by decide, by decide, by decide +kernel⟩, by decide⟩, k_875, k_876⟩
theorem cV_X3_42 : az_cV RX3 42 mX4_hash 0 := ⟨⟨k_878, k_77, k_881, ⟨by decide, by decide, by decide +kernel⟩, by decide⟩, k_879, k_880⟩
theorem cV_X3_46 : az_cV RX3 46 mX4_isAt 2 := ⟨⟨k_882, k_77, k_885, ⟨by decide, by decide, by decide +kernel⟩, by decide⟩, k_883, k_884⟩
theorem cV_X7_83 : az_cV RX7 83 mX3_add 4 := ⟨⟨k_886, k_80, k_889, ⟨by decide, by decide, by decide +kernel⟩, by decide⟩, k_887, k_888⟩
theorem cV_X3_50 : az_cV RX3 50 mX3_isFull 0 := ⟨⟨k_890, k_80, k_893, ⟨by decide, by decide, by decide +kernel⟩, by decide⟩, k_891, k_892⟩
theorem cV_X3_54 : az_cV RX3 54 mX4_save 2 := ⟨⟨k_894, k_77, k_721, ⟨by decide, by decide, by decide +kernel⟩, by decide⟩, k_719, k_720⟩
theorem cV_X3_57 : az_cV RX3 57 mX3_depth 1 := ⟨⟨k_895, k_80, k_898, ⟨by decide, by decide, by decide +kernel⟩, by decide⟩, k_896, k_897⟩
theorem cV_X7_87 : az_cV RX7 87 mX3_size 0 := ⟨⟨k_899, k_80, k_902, ⟨by decide, by decide, by decide +kernel⟩, by decide⟩, k_900, k_901⟩
theorem cV_X7_91 : az_cV RX7 91 mX3_depth 1 := ⟨⟨k_903, k_80, k_898, ⟨by decide, by decide, by decide +kernel⟩, by decide⟩, k_896, k_897⟩
theorem cV_X7_95 : az_cV RX7 95 mX3_enter 2 := ⟨⟨k_904, k_80, k_907, ⟨by decide, by decide, by decide +kernel⟩, by decide⟩, k_905, k_906⟩
theorem cV_X3_37 : az_cV RX3 37 mX4_load 2 := ⟨⟨k_908, k_77, k_730, ⟨by decide, by decide, by decide +kernel⟩, by decide⟩, k_728, k_729⟩
theorem cV_X7_44 : az_cV RX7 44 mX7_choiceAt 1 := ⟨⟨k_909, k_79, k_912, ⟨by decide, by decide, by decide +kernel⟩, by decide⟩, k_911, k_30⟩
theorem cV_X7_48 : az_cV RX7 48 mX4_attempt 1 := ⟨⟨k_913, k_77, k_734, ⟨by decide, by decide, by decide +kernel⟩, by decide⟩, k_732, k_733⟩
theorem cV_X7_52 : az_cV RX7 52 mX4_keeps 1 := ⟨⟨k_914, k_77, k_821, ⟨by decide, by decide, by decide +kernel⟩, by decide⟩, k_819, k_820⟩
theorem cV_X7_99 : az_cV RX7 99 mX3_rowThrough 3 := ⟨⟨k_915, k_80, k_918, ⟨by decide, by decide, by decide +kernel⟩, by decide⟩, k_916, k_917⟩
theorem cS_X3_61 : az_cS RX3 61 mJ9_min_7cf53 2 := ⟨⟨k_919, k_83, k_511, ⟨by decide, by decide, by decide +kernel⟩, by decide⟩, k_510⟩
theorem cV_X7_103 : az_cV RX7 103 mX3_isFull 0 := ⟨⟨k_920, k_80, k_893, ⟨by decide, by decide, by decide +kernel⟩, by decide⟩, k_891, k_892⟩
theorem cV_X10_185 : az_cV RX10 185 mX6_add 2 := ⟨⟨k_921, k_82, k_924, ⟨by decide, by decide, by decide +kernel⟩, by decide⟩, k_922, k_923⟩
theorem cV_X6_31 : az_cV RX6 31 mX6_isFull 0 := ⟨⟨k_925, k_82, k_863, ⟨by decide, by decide, by decide +kernel⟩, by decide⟩, k_861, k_862⟩
theorem cS_X6_35 : az_cS RX6 35 mJ9_min_7cf53 2 := ⟨⟨k_926, k_83, k_511, ⟨by decide, by decide, by decide +kernel⟩, by decide⟩, k_510⟩
theorem cV_L_65 : az_cV RL 65 mX10_states 0 := ⟨⟨k_928, k_73, k_931, ⟨by decide, by decide, by decide +kernel⟩, by decide⟩, k_929, k_930⟩
theorem cV_X10_189 : az_cV RX10 189 mX7_statesSeen 0 := ⟨⟨k_932, k_79, k_935, ⟨by decide, by decide, by decide +kernel⟩, by decide⟩, k_933, k_934⟩
theorem cV_L_69 : az_cV RL 69 mX10_draw 3 := ⟨⟨k_936, k_73, k_939, ⟨by decide, by decide, by decide +kernel⟩, by decide⟩, k_937, k_938⟩
theorem cV_X10_192 : az_cV RX10 192 mX2_drawUntilBroken 4 := ⟨⟨k_940, k_81, k_943, ⟨by decide, by decide, by decide +kernel⟩, by decide⟩, k_941, k_942⟩
theorem cV_X2_48 : az_cV RX2 48 mX2_drawInto 1 := ⟨⟨k_944, k_81, k_947, ⟨by decide, by decide, by decide +kernel⟩, by decide⟩, k_946, k_31⟩
theorem cV_X2_72 : az_cV RX2 72 mX7_choiceCount 0 := ⟨⟨k_948, k_79, k_829, ⟨by decide, by decide, by decide +kernel⟩, by decide⟩, k_827, k_828⟩
theorem cV_X2_75 : az_cV RX2 75 mX2_drawNumber 0 := ⟨⟨k_949, k_81, k_952, ⟨by decide, by decide, by decide +kernel⟩, by decide⟩, k_951, k_32⟩
theorem cV_X2_28 : az_cV RX2 28 mX6_size 0 := ⟨⟨k_954, k_82, k_957, ⟨by decide, by decide, by decide +kernel⟩, by decide⟩, k_955, k_956⟩
theorem cV_X2_78 : az_cV RX2 78 mX6_copy 2 := ⟨⟨k_958, k_82, k_961, ⟨by decide, by decide, by decide +kernel⟩, by decide⟩, k_959, k_960⟩
theorem cV_X6_44 : az_cV RX6 44 mX6_has 1 := ⟨⟨k_962, k_82, k_965, ⟨by decide, by decide, by decide +kernel⟩, by decide⟩, k_963, k_964⟩
theorem cS_X2_82 : az_cS RX2 82 mJ9_min_7cf53 2 := ⟨⟨k_966, k_83, k_511, ⟨by decide, by decide, by decide +kernel⟩, by decide⟩, k_510⟩
theorem cV_X2_52 : az_cV RX2 52 mX9_watch 0 := ⟨⟨k_967, k_76, k_970, ⟨by decide, by decide, by decide +kernel⟩, by decide⟩, k_968, k_969⟩
theorem cV_X2_55 : az_cV RX2 55 mX7_breaksAt 3 := ⟨⟨k_971, k_79, k_974, ⟨by decide, by decide, by decide +kernel⟩, by decide⟩, k_972, k_973⟩
theorem cV_X2_61 : az_cV RX2 61 mX9_stopWatching 0 := ⟨⟨k_975, k_76, k_978, ⟨by decide, by decide, by decide +kernel⟩, by decide⟩, k_976, k_977⟩
theorem cV_X2_65 : az_cV RX2 65 mX6_isFull 0 := ⟨⟨k_979, k_82, k_863, ⟨by decide, by decide, by decide +kernel⟩, by decide⟩, k_861, k_862⟩
theorem cV_X2_68 : az_cV RX2 68 mX6_add 2 := ⟨⟨k_980, k_82, k_924, ⟨by decide, by decide, by decide +kernel⟩, by decide⟩, k_922, k_923⟩
theorem cV_X10_196 : az_cV RX10 196 mX7_makeLeast 3 := ⟨⟨k_981, k_79, k_984, ⟨by decide, by decide, by decide +kernel⟩, by decide⟩, k_982, k_983⟩
theorem cS_X7_56 : az_cS RX7 56 mJ9_min_7cf53 2 := ⟨⟨k_985, k_83, k_511, ⟨by decide, by decide, by decide +kernel⟩, by decide⟩, k_510⟩
theorem cV_X7_62 : az_cV RX7 62 mX7_tryWithout 3 := ⟨⟨k_986, k_79, k_989, ⟨by decide, by decide, by decide +kernel⟩, by decide⟩, k_988, k_33⟩
theorem cV_X7_66 : az_cV RX7 66 mX7_breaksAt 3 := ⟨⟨k_991, k_79, k_974, ⟨by decide, by decide, by decide +kernel⟩, by decide⟩, k_972, k_973⟩
theorem cV_L_76 : az_cV RL 76 mX10_row 2 := ⟨⟨k_992, k_73, k_995, ⟨by decide, by decide, by decide +kernel⟩, by decide⟩, k_993, k_994⟩
theorem cV_L_81 : az_cV RL 81 mX10_least 2 := ⟨⟨k_996, k_73, k_999, ⟨by decide, by decide, by decide +kernel⟩, by decide⟩, k_997, k_998⟩
theorem cV_X10_200 : az_cV RX10 200 mX6_has 1 := ⟨⟨k_1000, k_82, k_965, ⟨by decide, by decide, by decide +kernel⟩, by decide⟩, k_963, k_964⟩
theorem cV_X10_203 : az_cV RX10 203 mX6_copy 2 := ⟨⟨k_1001, k_82, k_961, ⟨by decide, by decide, by decide +kernel⟩, by decide⟩, k_959, k_960⟩
theorem cV_X10_207 : az_cV RX10 207 mX7_breaksAt 3 := ⟨⟨k_1002, k_79, k_974, ⟨by decide, by decide, by decide +kernel⟩, by decide⟩, k_972, k_973⟩
theorem cV_L_85 : az_cV RL 85 mX10_at 2 := ⟨⟨k_1003, k_73, k_1006, ⟨by decide, by decide, by decide +kernel⟩, by decide⟩, k_1004, k_1005⟩
theorem cV_X10_210 : az_cV RX10 210 mX6_tell 2 := ⟨⟨k_1007, k_82, k_1010, ⟨by decide, by decide, by decide +kernel⟩, by decide⟩, k_1008, k_1009⟩
theorem cV_L_89 : az_cV RL 89 mX10_breaks 2 := ⟨⟨k_1011, k_73, k_1014, ⟨by decide, by decide, by decide +kernel⟩, by decide⟩, k_1012, k_1013⟩
theorem cV_L_93 : az_cV RL 93 mX10_profit 2 := ⟨⟨k_1015, k_73, k_1018, ⟨by decide, by decide, by decide +kernel⟩, by decide⟩, k_1016, k_1017⟩
theorem cV_X10_215 : az_cV RX10 215 mX7_doAll 2 := ⟨⟨k_1020, k_79, k_1023, ⟨by decide, by decide, by decide +kernel⟩, by decide⟩, k_1021, k_1022⟩
theorem cV_X10_218 : az_cV RX10 218 mX4_cell 1 := ⟨⟨k_1024, k_77, k_746, ⟨by decide, by decide, by decide +kernel⟩, by decide⟩, k_744, k_745⟩
theorem cV_X10_222 : az_cV RX10 222 mX9_moneyAtStart 1 := ⟨⟨k_1025, k_76, k_717, ⟨by decide, by decide, by decide +kernel⟩, by decide⟩, k_715, k_716⟩
theorem cV_L_97 : az_cV RL 97 mX10_met 2 := ⟨⟨k_1026, k_73, k_1029, ⟨by decide, by decide, by decide +kernel⟩, by decide⟩, k_1027, k_1028⟩
theorem cV_X10_225 : az_cV RX10 225 mX9_leavesOf 1 := ⟨⟨k_1030, k_76, k_1033, ⟨by decide, by decide, by decide +kernel⟩, by decide⟩, k_1031, k_1032⟩
theorem cV_X9_30 : az_cV RX9 30 mX9_codeOf 1 := ⟨⟨k_1034, k_76, k_742, ⟨by decide, by decide, by decide +kernel⟩, by decide⟩, k_740, k_741⟩
theorem cV_X10_228 : az_cV RX10 228 mX9_hasMet 2 := ⟨⟨k_1035, k_76, k_774, ⟨by decide, by decide, by decide +kernel⟩, by decide⟩, k_772, k_773⟩
theorem cV_L_101 : az_cV RL 101 mX10_kept 2 := ⟨⟨k_1036, k_73, k_1039, ⟨by decide, by decide, by decide +kernel⟩, by decide⟩, k_1037, k_1038⟩
theorem cV_X10_232 : az_cV RX10 232 mX2_tellKept 2 := ⟨⟨k_1040, k_81, k_1043, ⟨by decide, by decide, by decide +kernel⟩, by decide⟩, k_1041, k_1042⟩
theorem cV_X2_32 : az_cV RX2 32 mX6_tell 2 := ⟨⟨k_1044, k_82, k_1010, ⟨by decide, by decide, by decide +kernel⟩, by decide⟩, k_1008, k_1009⟩
theorem cV_L_105 : az_cV RL 105 mX10_told 1 := ⟨⟨k_1045, k_73, k_1048, ⟨by decide, by decide, by decide +kernel⟩, by decide⟩, k_1046, k_1047⟩
theorem cV_X10_235 : az_cV RX10 235 mX6_size 0 := ⟨⟨k_1049, k_82, k_957, ⟨by decide, by decide, by decide +kernel⟩, by decide⟩, k_955, k_956⟩
theorem cV_X10_238 : az_cV RX10 238 mX2_keptCount 0 := ⟨⟨k_1050, k_81, k_1053, ⟨by decide, by decide, by decide +kernel⟩, by decide⟩, k_1051, k_1052⟩
theorem cI_L_12 : az_cI RL 12 mX11_init 0 := ⟨⟨k_1056, k_84, k_1058, ⟨by decide, by decide, by decide +kernel⟩, by decide⟩, rfl, rfl, k_1057⟩
theorem cV_L_17 : az_cV RL 17 mX11_feed 4 := ⟨⟨k_1239, k_84, k_1242, ⟨by decide, by decide, by decide +kernel⟩, by decide⟩, k_1240, k_1241⟩
theorem cS_X11_121 : az_cS RX11 121 mX11_isText 1 := ⟨⟨k_1243, k_84, k_1245, ⟨by decide, by decide, by decide +kernel⟩, by decide⟩, k_1244⟩
theorem cS_X11_117 : az_cS RX11 117 mX11_in 3 := ⟨⟨k_1248, k_84, k_1250, ⟨by decide, by decide, by decide +kernel⟩, by decide⟩, k_1249⟩
theorem cV_L_22 : az_cV RL 22 mX11_cut 1 := ⟨⟨k_1251, k_84, k_1254, ⟨by decide, by decide, by decide +kernel⟩, by decide⟩, k_1252, k_1253⟩
theorem cV_L_26 : az_cV RL 26 mX11_method 1 := ⟨⟨k_1255, k_84, k_1258, ⟨by decide, by decide, by decide +kernel⟩, by decide⟩, k_1256, k_1257⟩
theorem cV_X11_233 : az_cV RX11 233 mX11_begin 0 := ⟨⟨k_1260, k_84, k_1263, ⟨by decide, by decide, by decide +kernel⟩, by decide⟩, k_1262, k_34⟩
theorem cV_X11_170 : az_cV RX11 170 mX11_next 0 := ⟨⟨k_1264, k_84, k_1267, ⟨by decide, by decide, by decide +kernel⟩, by decide⟩, k_1266, k_35⟩
theorem cV_X11_144 : az_cV RX11 144 mX11_at 1 := ⟨⟨k_1268, k_84, k_1271, ⟨by decide, by decide, by decide +kernel⟩, by decide⟩, k_1270, k_36⟩
theorem cS_X11_154 : az_cS RX11 154 mX11_isLetter 1 := ⟨⟨k_1272, k_84, k_1274, ⟨by decide, by decide, by decide +kernel⟩, by decide⟩, k_1273⟩
theorem cS_X11_157 : az_cS RX11 157 mX11_isFigure 1 := ⟨⟨k_1279, k_84, k_1281, ⟨by decide, by decide, by decide +kernel⟩, by decide⟩, k_1280⟩
theorem cV_X11_236 : az_cV RX11 236 mX11_statement 0 := ⟨⟨k_1284, k_84, k_1287, ⟨by decide, by decide, by decide +kernel⟩, by decide⟩, k_1286, k_37⟩
theorem cS_X11_192 : az_cS RX11 192 mX11_cellOf 1 := ⟨⟨k_1288, k_84, k_1290, ⟨by decide, by decide, by decide +kernel⟩, by decide⟩, k_1289⟩
theorem cV_X11_218 : az_cV RX11 218 mX11_expression 1 := ⟨⟨k_1294, k_84, k_1297, ⟨by decide, by decide, by decide +kernel⟩, by decide⟩, k_1296, k_38⟩
theorem cV_X11_188 : az_cV RX11 188 mX11_step 2 := ⟨⟨k_1298, k_84, k_1301, ⟨by decide, by decide, by decide +kernel⟩, by decide⟩, k_1300, k_39⟩
theorem cV_X11_202 : az_cV RX11 202 mX11_isOperand 1 := ⟨⟨k_1302, k_84, k_1305, ⟨by decide, by decide, by decide +kernel⟩, by decide⟩, k_1304, k_40⟩
theorem cV_X11_206 : az_cV RX11 206 mX11_complete 0 := ⟨⟨k_1308, k_84, k_1311, ⟨by decide, by decide, by decide +kernel⟩, by decide⟩, k_1310, k_41⟩
theorem cV_X11_178 : az_cV RX11 178 mX11_top 0 := ⟨⟨k_1312, k_84, k_1315, ⟨by decide, by decide, by decide +kernel⟩, by decide⟩, k_1314, k_42⟩
theorem cS_X11_182 : az_cS RX11 182 mX11_strength 1 := ⟨⟨k_1316, k_84, k_1318, ⟨by decide, by decide, by decide +kernel⟩, by decide⟩, k_1317⟩
theorem cV_X11_209 : az_cV RX11 209 mX11_reduce 1 := ⟨⟨k_1319, k_84, k_1322, ⟨by decide, by decide, by decide +kernel⟩, by decide⟩, k_1321, k_43⟩
theorem cS_X11_185 : az_cS RX11 185 mX11_stepOf 1 := ⟨⟨k_1323, k_84, k_1325, ⟨by decide, by decide, by decide +kernel⟩, by decide⟩, k_1324⟩
theorem cV_X11_225 : az_cV RX11 225 mX11_need 1 := ⟨⟨k_1326, k_84, k_1329, ⟨by decide, by decide, by decide +kernel⟩, by decide⟩, k_1328, k_44⟩
theorem cV_X11_239 : az_cV RX11 239 mX11_end 0 := ⟨⟨k_1330, k_84, k_1333, ⟨by decide, by decide, by decide +kernel⟩, by decide⟩, k_1332, k_45⟩
theorem cV_X11_242 : az_cV RX11 242 mX11_keep 1 := ⟨⟨k_1334, k_84, k_1337, ⟨by decide, by decide, by decide +kernel⟩, by decide⟩, k_1336, k_46⟩
theorem cV_L_31 : az_cV RL 31 mX11_rule 0 := ⟨⟨k_1338, k_84, k_1341, ⟨by decide, by decide, by decide +kernel⟩, by decide⟩, k_1339, k_1340⟩
theorem cV_L_35 : az_cV RL 35 mX11_actor 4 := ⟨⟨k_1342, k_84, k_1345, ⟨by decide, by decide, by decide +kernel⟩, by decide⟩, k_1343, k_1344⟩
theorem cV_X11_314 : az_cV RX11 314 mX11_begins 0 := ⟨⟨k_1350, k_84, k_1353, ⟨by decide, by decide, by decide +kernel⟩, by decide⟩, k_1352, k_47⟩
theorem cV_X11_317 : az_cV RX11 317 mX11_toStart 0 := ⟨⟨k_1354, k_84, k_1357, ⟨by decide, by decide, by decide +kernel⟩, by decide⟩, k_1356, k_48⟩
theorem cV_X11_276 : az_cV RX11 276 mX11_save 2 := ⟨⟨k_1360, k_84, k_1363, ⟨by decide, by decide, by decide +kernel⟩, by decide⟩, k_1362, k_49⟩
theorem cV_L_39 : az_cV RL 39 mX11_call 4 := ⟨⟨k_1364, k_84, k_1367, ⟨by decide, by decide, by decide +kernel⟩, by decide⟩, k_1365, k_1366⟩
theorem cS_X11_323 : az_cS RX11 323 mX11_isCall 4 := ⟨⟨k_1368, k_84, k_1370, ⟨by decide, by decide, by decide +kernel⟩, by decide⟩, k_1369⟩
theorem cV_X11_280 : az_cV RX11 280 mX11_load 2 := ⟨⟨k_1371, k_84, k_1374, ⟨by decide, by decide, by decide +kernel⟩, by decide⟩, k_1373, k_50⟩
theorem cV_X11_326 : az_cV RX11 326 mX11_run 4 := ⟨⟨k_1375, k_84, k_1378, ⟨by decide, by decide, by decide +kernel⟩, by decide⟩, k_1377, k_51⟩
theorem cV_X11_289 : az_cV RX11 289 mX11_enter 4 := ⟨⟨k_1379, k_84, k_1382, ⟨by decide, by decide, by decide +kernel⟩, by decide⟩, k_1381, k_52⟩
theorem cV_X11_293 : az_cV RX11 293 mX11_reckon 5 := ⟨⟨k_1383, k_84, k_1386, ⟨by decide, by decide, by decide +kernel⟩, by decide⟩, k_1385, k_53⟩
theorem cV_X11_262 : az_cV RX11 262 mX11_push 1 := ⟨⟨k_1387, k_84, k_1390, ⟨by decide, by decide, by decide +kernel⟩, by decide⟩, k_1389, k_54⟩
theorem cV_X11_266 : az_cV RX11 266 mX11_pop 0 := ⟨⟨k_1393, k_84, k_1396, ⟨by decide, by decide, by decide +kernel⟩, by decide⟩, k_1395, k_55⟩
theorem cV_X11_269 : az_cV RX11 269 mX11_two 3 := ⟨⟨k_1397, k_84, k_1400, ⟨by decide, by decide, by decide +kernel⟩, by decide⟩, k_1399, k_56⟩
theorem cV_X11_297 : az_cV RX11 297 mX11_fail 0 := ⟨⟨k_1401, k_84, k_1404, ⟨by decide, by decide, by decide +kernel⟩, by decide⟩, k_1403, k_57⟩
theorem cV_X11_300 : az_cV RX11 300 mX11_act 4 := ⟨⟨k_1405, k_84, k_1408, ⟨by decide, by decide, by decide +kernel⟩, by decide⟩, k_1407, k_58⟩
theorem cV_X11_303 : az_cV RX11 303 mX11_meet 2 := ⟨⟨k_1409, k_84, k_1412, ⟨by decide, by decide, by decide +kernel⟩, by decide⟩, k_1411, k_59⟩
theorem cV_L_43 : az_cV RL 43 mX11_start 0 := ⟨⟨k_1413, k_84, k_1416, ⟨by decide, by decide, by decide +kernel⟩, by decide⟩, k_1414, k_1415⟩
theorem cV_L_47 : az_cV RL 47 mX11_state 1 := ⟨⟨k_1417, k_84, k_1420, ⟨by decide, by decide, by decide +kernel⟩, by decide⟩, k_1418, k_1419⟩
theorem cV_L_51 : az_cV RL 51 mX11_holds 1 := ⟨⟨k_1422, k_84, k_1425, ⟨by decide, by decide, by decide +kernel⟩, by decide⟩, k_1423, k_1424⟩
theorem cV_X11_331 : az_cV RX11 331 mX11_isRule 1 := ⟨⟨k_1426, k_84, k_1429, ⟨by decide, by decide, by decide +kernel⟩, by decide⟩, k_1428, k_60⟩
theorem cV_X11_334 : az_cV RX11 334 mX11_isBroken 1 := ⟨⟨k_1430, k_84, k_1433, ⟨by decide, by decide, by decide +kernel⟩, by decide⟩, k_1432, k_61⟩
theorem cV_L_55 : az_cV RL 55 mX11_choice 4 := ⟨⟨k_1434, k_84, k_1437, ⟨by decide, by decide, by decide +kernel⟩, by decide⟩, k_1435, k_1436⟩
theorem cV_L_59 : az_cV RL 59 mX11_fresh 0 := ⟨⟨k_1438, k_84, k_1441, ⟨by decide, by decide, by decide +kernel⟩, by decide⟩, k_1439, k_1440⟩
theorem cV_L_64 : az_cV RL 64 mX11_every 2 := ⟨⟨k_1442, k_84, k_1445, ⟨by decide, by decide, by decide +kernel⟩, by decide⟩, k_1443, k_1444⟩
theorem cV_X11_349 : az_cV RX11 349 mX11_choose 1 := ⟨⟨k_1447, k_84, k_1450, ⟨by decide, by decide, by decide +kernel⟩, by decide⟩, k_1449, k_62⟩
theorem cV_X11_361 : az_cV RX11 361 mX11_rowTo 2 := ⟨⟨k_1451, k_84, k_1454, ⟨by decide, by decide, by decide +kernel⟩, by decide⟩, k_1453, k_63⟩
theorem cV_X11_367 : az_cV RX11 367 mX11_keepRow 0 := ⟨⟨k_1455, k_84, k_1458, ⟨by decide, by decide, by decide +kernel⟩, by decide⟩, k_1457, k_64⟩
theorem cV_X11_364 : az_cV RX11 364 mX11_isThere 1 := ⟨⟨k_1459, k_84, k_1462, ⟨by decide, by decide, by decide +kernel⟩, by decide⟩, k_1461, k_65⟩
theorem cV_L_68 : az_cV RL 68 mX11_states 0 := ⟨⟨k_1463, k_84, k_1466, ⟨by decide, by decide, by decide +kernel⟩, by decide⟩, k_1464, k_1465⟩
theorem cV_L_73 : az_cV RL 73 mX11_draw 3 := ⟨⟨k_1467, k_84, k_1470, ⟨by decide, by decide, by decide +kernel⟩, by decide⟩, k_1468, k_1469⟩
theorem cV_X11_379 : az_cV RX11 379 mX11_drawRow 0 := ⟨⟨k_1472, k_84, k_1475, ⟨by decide, by decide, by decide +kernel⟩, by decide⟩, k_1474, k_66⟩
theorem cV_X11_374 : az_cV RX11 374 mX11_drawn 0 := ⟨⟨k_1476, k_84, k_1479, ⟨by decide, by decide, by decide +kernel⟩, by decide⟩, k_1478, k_67⟩
theorem cV_X11_352 : az_cV RX11 352 mX11_breaksAt 2 := ⟨⟨k_1481, k_84, k_1484, ⟨by decide, by decide, by decide +kernel⟩, by decide⟩, k_1483, k_68⟩
theorem cV_X11_382 : az_cV RX11 382 mX11_makeLeast 1 := ⟨⟨k_1485, k_84, k_1488, ⟨by decide, by decide, by decide +kernel⟩, by decide⟩, k_1487, k_69⟩
theorem cV_L_80 : az_cV RL 80 mX11_row 2 := ⟨⟨k_1489, k_84, k_1492, ⟨by decide, by decide, by decide +kernel⟩, by decide⟩, k_1490, k_1491⟩
theorem cV_L_84 : az_cV RL 84 mX11_least 2 := ⟨⟨k_1494, k_84, k_1497, ⟨by decide, by decide, by decide +kernel⟩, by decide⟩, k_1495, k_1496⟩
theorem cV_X11_387 : az_cV RX11 387 mX11_isRow 1 := ⟨⟨k_1498, k_84, k_1501, ⟨by decide, by decide, by decide +kernel⟩, by decide⟩, k_1500, k_70⟩
theorem cV_X11_390 : az_cV RX11 390 mX11_take 1 := ⟨⟨k_1502, k_84, k_1505, ⟨by decide, by decide, by decide +kernel⟩, by decide⟩, k_1504, k_71⟩
theorem cV_L_88 : az_cV RL 88 mX11_at_ 2 := ⟨⟨k_1506, k_84, k_1509, ⟨by decide, by decide, by decide +kernel⟩, by decide⟩, k_1507, k_1508⟩
theorem cV_L_92 : az_cV RL 92 mX11_breaks 2 := ⟨⟨k_1510, k_84, k_1513, ⟨by decide, by decide, by decide +kernel⟩, by decide⟩, k_1511, k_1512⟩
theorem cV_L_96 : az_cV RL 96 mX11_profit 2 := ⟨⟨k_1514, k_84, k_1517, ⟨by decide, by decide, by decide +kernel⟩, by decide⟩, k_1515, k_1516⟩
theorem cV_L_100 : az_cV RL 100 mX11_met 2 := ⟨⟨k_1519, k_84, k_1522, ⟨by decide, by decide, by decide +kernel⟩, by decide⟩, k_1520, k_1521⟩
theorem cV_L_104 : az_cV RL 104 mX11_kept 2 := ⟨⟨k_1523, k_84, k_1526, ⟨by decide, by decide, by decide +kernel⟩, by decide⟩, k_1524, k_1525⟩
theorem cV_L_108 : az_cV RL 108 mX11_told 1 := ⟨⟨k_1527, k_84, k_1530, ⟨by decide, by decide, by decide +kernel⟩, by decide⟩, k_1528, k_1529⟩
theorem cN_X10_9 : az_cN RX10 9 mX8_init 0 "InvariantSearch" := ⟨by decide +kernel, k_74, k_105, ⟨by decide, by decide, by decide +kernel⟩, by decide, rfl, rfl, k_104⟩
theorem cN_X10_27 : az_cN RX10 27 mX9_init 0 "InvariantSearch" := ⟨by decide +kernel, k_76, k_160, ⟨by decide, by decide, by decide +kernel⟩, by decide, rfl, rfl, k_159⟩
theorem cN_X7_11 : az_cN RX7 11 mX3_init 0 "InvariantSearch" := ⟨by decide +kernel, k_80, k_246, ⟨by decide, by decide, by decide +kernel⟩, by decide, rfl, rfl, k_245⟩
