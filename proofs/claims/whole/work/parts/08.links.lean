/-! what the pools' entries are -/
theorem bw_t {t : List Cond} (ht : ∀ w ∈ t, w ∈ tables_1) {w : Cond} (i : Nat) (h : t[i]? = some w) (g : goodWord w = true) : w ∈ BW := List.mem_filter.mpr ⟨List.mem_append_right _ (ht _ (List.mem_of_getElem? h)), g⟩
theorem nw_t {t : List Cond} (ht : ∀ w ∈ t, w ∈ tables_1) {w : Cond} (i : Nat) (h : t[i]? = some w) (g : isNest w = true) : w ∈ NW := List.mem_filter.mpr ⟨List.mem_append_right _ (ht _ (List.mem_of_getElem? h)), g⟩
theorem tt_1 : ∀ w ∈ tables_1_1, w ∈ tables_1 := fun w h => List.mem_append_left _ h
theorem tt_2 : ∀ w ∈ tables_1_2, w ∈ tables_1 := fun w h => List.mem_append_right _ (List.mem_append_left _ h)
theorem tt_3 : ∀ w ∈ tables_1_3, w ∈ tables_1 := fun w h => List.mem_append_right _ (List.mem_append_right _ (List.mem_append_left _ h))
theorem tt_4 : ∀ w ∈ tables_1_4, w ∈ tables_1 := fun w h => List.mem_append_right _ (List.mem_append_right _ (List.mem_append_right _ (List.mem_append_left _ h)))
theorem tt_5 : ∀ w ∈ tables_1_5, w ∈ tables_1 := fun w h => List.mem_append_right _ (List.mem_append_right _ (List.mem_append_right _ (List.mem_append_right _ (List.mem_append_left _ h))))
theorem tt_6 : ∀ w ∈ tables_1_6, w ∈ tables_1 := fun w h => List.mem_append_right _ (List.mem_append_right _ (List.mem_append_right _ (List.mem_append_right _ (List.mem_append_right _ (List.mem_append_left _ h)))))
theorem tt_7 : ∀ w ∈ tables_1_7, w ∈ tables_1 := fun w h => List.mem_append_right _ (List.mem_append_right _ (List.mem_append_right _ (List.mem_append_right _ (List.mem_append_right _ (List.mem_append_right _ (List.mem_append_left _ h))))))
theorem tt_8 : ∀ w ∈ tables_1_8, w ∈ tables_1 := fun w h => List.mem_append_right _ (List.mem_append_right _ (List.mem_append_right _ (List.mem_append_right _ (List.mem_append_right _ (List.mem_append_right _ (List.mem_append_right _ (h)))))))
theorem lp_1 : ∀ q ∈ lw_privs_1, q ∈ lw_privs := fun q h => List.mem_append_left _ h
theorem lp_2 : ∀ q ∈ lw_privs_2, q ∈ lw_privs := fun q h => List.mem_append_right _ (List.mem_append_left _ h)
theorem lp_3 : ∀ q ∈ lw_privs_3, q ∈ lw_privs := fun q h => List.mem_append_right _ (List.mem_append_right _ (List.mem_append_left _ h))
theorem lp_4 : ∀ q ∈ lw_privs_4, q ∈ lw_privs := fun q h => List.mem_append_right _ (List.mem_append_right _ (List.mem_append_right _ (List.mem_append_left _ h)))
theorem lp_5 : ∀ q ∈ lw_privs_5, q ∈ lw_privs := fun q h => List.mem_append_right _ (List.mem_append_right _ (List.mem_append_right _ (List.mem_append_right _ (List.mem_append_left _ h))))
theorem lp_6 : ∀ q ∈ lw_privs_6, q ∈ lw_privs := fun q h => List.mem_append_right _ (List.mem_append_right _ (List.mem_append_right _ (List.mem_append_right _ (List.mem_append_right _ (List.mem_append_left _ h)))))
theorem lp_7 : ∀ q ∈ lw_privs_7, q ∈ lw_privs := fun q h => List.mem_append_right _ (List.mem_append_right _ (List.mem_append_right _ (List.mem_append_right _ (List.mem_append_right _ (List.mem_append_right _ (List.mem_append_left _ h))))))
theorem lp_8 : ∀ q ∈ lw_privs_8, q ∈ lw_privs := fun q h => List.mem_append_right _ (List.mem_append_right _ (List.mem_append_right _ (List.mem_append_right _ (List.mem_append_right _ (List.mem_append_right _ (List.mem_append_right _ (List.mem_append_left _ h)))))))
theorem lp_9 : ∀ q ∈ lw_privs_9, q ∈ lw_privs := fun q h => List.mem_append_right _ (List.mem_append_right _ (List.mem_append_right _ (List.mem_append_right _ (List.mem_append_right _ (List.mem_append_right _ (List.mem_append_right _ (List.mem_append_right _ (List.mem_append_left _ h))))))))
theorem lp_10 : ∀ q ∈ lw_privs_10, q ∈ lw_privs := fun q h => List.mem_append_right _ (List.mem_append_right _ (List.mem_append_right _ (List.mem_append_right _ (List.mem_append_right _ (List.mem_append_right _ (List.mem_append_right _ (List.mem_append_right _ (List.mem_append_right _ (List.mem_append_left _ h)))))))))
theorem lp_11 : ∀ q ∈ lw_privs_11, q ∈ lw_privs := fun q h => List.mem_append_right _ (List.mem_append_right _ (List.mem_append_right _ (List.mem_append_right _ (List.mem_append_right _ (List.mem_append_right _ (List.mem_append_right _ (List.mem_append_right _ (List.mem_append_right _ (List.mem_append_right _ (h))))))))))
theorem sel_in {t : List (MethodName × Nat)} (ht : ∀ q ∈ t, q ∈ lw_privs) {q : MethodName × Nat} (i : Nat) (h : t[i]? = some q) (g : goodWord (.selects q.1.cls q.1 q.1) = true) : Cond.selects q.1.cls q.1 q.1 ∈ BW := List.mem_filter.mpr ⟨List.mem_append_left _ (List.mem_map.mpr ⟨q, ht _ (List.mem_of_getElem? h), rfl⟩), g⟩
def cfp0 : List Nat := [196, 198]
theorem cfw0 : (List.range 2).all (fun k => decide (tables_1[cfp0.getD k 0]? = some (u_lay RX0 TX0 k)) && goodWord (u_lay RX0 TX0 k)) = true := by decide +kernel
theorem cf0 : ∀ w ∈ u_ws RX0 TX0 2, w ∈ BW := by
  intro w hw
  obtain ⟨k, hk, rfl⟩ := List.mem_map.mp hw
  have h := List.all_eq_true.mp cfw0 k hk
  rw [Bool.and_eq_true] at h
  exact bw_in _ (of_decide_eq_true h.1) h.2
def cfp1 : List Nat := [224, 226, 228, 230, 232, 234, 236, 238, 240]
theorem cfw1 : (List.range 9).all (fun k => decide (tables_1[cfp1.getD k 0]? = some (u_lay RX1 TX1 k)) && goodWord (u_lay RX1 TX1 k)) = true := by decide +kernel
theorem cf1 : ∀ w ∈ u_ws RX1 TX1 9, w ∈ BW := by
  intro w hw
  obtain ⟨k, hk, rfl⟩ := List.mem_map.mp hw
  have h := List.all_eq_true.mp cfw1 k hk
  rw [Bool.and_eq_true] at h
  exact bw_in _ (of_decide_eq_true h.1) h.2
def cfp2 : List Nat := [339, 341, 343, 345, 347, 349, 351, 353, 355]
theorem cfw2 : (List.range 9).all (fun k => decide (tables_1[cfp2.getD k 0]? = some (u_lay RX2 TX2 k)) && goodWord (u_lay RX2 TX2 k)) = true := by decide +kernel
theorem cf2 : ∀ w ∈ u_ws RX2 TX2 9, w ∈ BW := by
  intro w hw
  obtain ⟨k, hk, rfl⟩ := List.mem_map.mp hw
  have h := List.all_eq_true.mp cfw2 k hk
  rw [Bool.and_eq_true] at h
  exact bw_in _ (of_decide_eq_true h.1) h.2
def cfp3 : List Nat := [42, 44, 46]
theorem cfw3 : (List.range 3).all (fun k => decide (tables_1[cfp3.getD k 0]? = some (u_lay RX3 TX3 k)) && goodWord (u_lay RX3 TX3 k)) = true := by decide +kernel
theorem cf3 : ∀ w ∈ u_ws RX3 TX3 3, w ∈ BW := by
  intro w hw
  obtain ⟨k, hk, rfl⟩ := List.mem_map.mp hw
  have h := List.all_eq_true.mp cfw3 k hk
  rw [Bool.and_eq_true] at h
  exact bw_in _ (of_decide_eq_true h.1) h.2
def cfp4 : List Nat := [277, 279, 281, 283, 285, 287, 289, 291, 293, 295, 297, 299, 301, 303, 305, 307, 309, 311, 313]
theorem cfw4 : (List.range 19).all (fun k => decide (tables_1[cfp4.getD k 0]? = some (u_lay RX4 TX4 k)) && goodWord (u_lay RX4 TX4 k)) = true := by decide +kernel
theorem cf4 : ∀ w ∈ u_ws RX4 TX4 19, w ∈ BW := by
  intro w hw
  obtain ⟨k, hk, rfl⟩ := List.mem_map.mp hw
  have h := List.all_eq_true.mp cfw4 k hk
  rw [Bool.and_eq_true] at h
  exact bw_in _ (of_decide_eq_true h.1) h.2
def cfp5 : List Nat := [163, 165, 167, 169, 171, 173, 175, 177, 179, 181, 183, 185]
theorem cfw5 : (List.range 12).all (fun k => decide (tables_1[cfp5.getD k 0]? = some (u_lay RX5 TX5 k)) && goodWord (u_lay RX5 TX5 k)) = true := by decide +kernel
theorem cf5 : ∀ w ∈ u_ws RX5 TX5 12, w ∈ BW := by
  intro w hw
  obtain ⟨k, hk, rfl⟩ := List.mem_map.mp hw
  have h := List.all_eq_true.mp cfw5 k hk
  rw [Bool.and_eq_true] at h
  exact bw_in _ (of_decide_eq_true h.1) h.2
def cfp6 : List Nat := [107, 109, 111, 113, 115, 117, 119, 121, 123, 125, 127, 129, 131, 133, 135, 137]
theorem cfw6 : (List.range 16).all (fun k => decide (tables_1[cfp6.getD k 0]? = some (u_lay RX6 TX6 k)) && goodWord (u_lay RX6 TX6 k)) = true := by decide +kernel
theorem cf6 : ∀ w ∈ u_ws RX6 TX6 16, w ∈ BW := by
  intro w hw
  obtain ⟨k, hk, rfl⟩ := List.mem_map.mp hw
  have h := List.all_eq_true.mp cfw6 k hk
  rw [Bool.and_eq_true] at h
  exact bw_in _ (of_decide_eq_true h.1) h.2
def cfp7 : List Nat := [381, 383, 385, 387, 389, 391, 393, 395, 397, 399, 401, 403, 405, 407]
theorem cfw7 : (List.range 14).all (fun k => decide (tables_1[cfp7.getD k 0]? = some (u_lay RX7 TX7 k)) && goodWord (u_lay RX7 TX7 k)) = true := by decide +kernel
theorem cf7 : ∀ w ∈ u_ws RX7 TX7 14, w ∈ BW := by
  intro w hw
  obtain ⟨k, hk, rfl⟩ := List.mem_map.mp hw
  have h := List.all_eq_true.mp cfw7 k hk
  rw [Bool.and_eq_true] at h
  exact bw_in _ (of_decide_eq_true h.1) h.2
def cfp8 : List Nat := [1104, 1106, 1108, 1110, 1112, 1114, 1116, 1118, 1120, 1122, 1124, 1126, 1128, 1130, 1132, 1134, 1136, 1138, 1140, 1142, 1144, 1146, 1148, 1150, 1152, 1154, 1156, 1158, 1160, 1162, 1164, 1166, 1168, 1170, 1172, 1174, 1176, 1178, 1180, 1182, 1184, 1186, 1188, 1190, 1192, 1194, 1196, 1198, 1200, 1202, 1204, 1206, 1208, 1210, 1212, 1214, 1216, 1218, 1220, 1222, 1224, 1226, 1228, 1230, 1232, 1234, 1236, 1238, 1240, 1242, 1244, 1246, 1248, 1250, 1252, 1254, 1256, 1258, 1260, 1262, 1264, 1266, 1268, 1270, 1272, 1274, 1276, 1278, 1280, 1282, 1284, 1286, 1288, 1290, 1292, 1294, 1296, 1298, 1300, 1302, 1304, 1306, 1308, 1310, 1312, 1314, 1316, 1318, 1320, 1322, 1324, 1326, 1328, 1330, 1332, 1334, 1336, 1338, 1340, 1342, 1344, 1346, 1348]
theorem cfw8 : (List.range 123).all (fun k => decide (tables_1[cfp8.getD k 0]? = some (u_lay RX8 TX8 k)) && goodWord (u_lay RX8 TX8 k)) = true := by decide +kernel
theorem cf8 : ∀ w ∈ u_ws RX8 TX8 123, w ∈ BW := by
  intro w hw
  obtain ⟨k, hk, rfl⟩ := List.mem_map.mp hw
  have h := List.all_eq_true.mp cfw8 k hk
  rw [Bool.and_eq_true] at h
  exact bw_in _ (of_decide_eq_true h.1) h.2
set_option maxRecDepth 20000 in
theorem fl_X7_9 : FL RX7 9 7 0 := ⟨(RX7, TX7, 14), rfl, Nat.le_of_ble_eq_true rfl, cf7, Nat.le_of_ble_eq_true rfl, Or.inl (bw_t tt_2 127 rfl rfl)⟩
set_option maxRecDepth 20000 in
theorem lk_X7_15 : LK RX7 15 yX6_init := Or.inr ⟨"BelowThread", nw_t tt_1 26 rfl rfl⟩
set_option maxRecDepth 20000 in
theorem fl_X7_16 : FL RX7 16 7 2 := ⟨(RX7, TX7, 14), rfl, Nat.le_of_ble_eq_true rfl, cf7, Nat.le_of_ble_eq_true rfl, Or.inl (bw_t tt_2 129 rfl rfl)⟩
set_option maxRecDepth 20000 in
theorem fl_X7_20 : FL RX7 20 7 3 := ⟨(RX7, TX7, 14), rfl, Nat.le_of_ble_eq_true rfl, cf7, Nat.le_of_ble_eq_true rfl, Or.inl (bw_t tt_2 130 rfl rfl)⟩
set_option maxRecDepth 20000 in
theorem lk_X7_25 : LK RX7 25 yX5_init := Or.inr ⟨"BelowThread", nw_t tt_1 142 rfl rfl⟩
set_option maxRecDepth 20000 in
theorem fl_X7_26 : FL RX7 26 7 4 := ⟨(RX7, TX7, 14), rfl, Nat.le_of_ble_eq_true rfl, cf7, Nat.le_of_ble_eq_true rfl, Or.inl (bw_t tt_2 131 rfl rfl)⟩
set_option maxRecDepth 20000 in
theorem lk_X7_32 : LK RX7 32 yX0_init := Or.inr ⟨"BelowThread", nw_t tt_1 190 rfl rfl⟩
set_option maxRecDepth 20000 in
theorem fl_X7_33 : FL RX7 33 7 5 := ⟨(RX7, TX7, 14), rfl, Nat.le_of_ble_eq_true rfl, cf7, Nat.le_of_ble_eq_true rfl, Or.inl (bw_t tt_2 132 rfl rfl)⟩
set_option maxRecDepth 20000 in
theorem lk_X7_39 : LK RX7 39 yX1_init := Or.inr ⟨"BelowThread", nw_t tt_1 204 rfl rfl⟩
set_option maxRecDepth 20000 in
theorem fl_X7_40 : FL RX7 40 7 6 := ⟨(RX7, TX7, 14), rfl, Nat.le_of_ble_eq_true rfl, cf7, Nat.le_of_ble_eq_true rfl, Or.inl (bw_t tt_2 133 rfl rfl)⟩
set_option maxRecDepth 20000 in
theorem lk_X7_46 : LK RX7 46 yX4_init := Or.inr ⟨"BelowThread", nw_t tt_2 5 rfl rfl⟩
set_option maxRecDepth 20000 in
theorem fl_X7_47 : FL RX7 47 7 7 := ⟨(RX7, TX7, 14), rfl, Nat.le_of_ble_eq_true rfl, cf7, Nat.le_of_ble_eq_true rfl, Or.inl (bw_t tt_2 134 rfl rfl)⟩
set_option maxRecDepth 20000 in
theorem lk_X7_53 : LK RX7 53 yX2_init := Or.inr ⟨"BelowThread", nw_t tt_2 78 rfl rfl⟩
set_option maxRecDepth 20000 in
theorem fl_X7_54 : FL RX7 54 7 8 := ⟨(RX7, TX7, 14), rfl, Nat.le_of_ble_eq_true rfl, cf7, Nat.le_of_ble_eq_true rfl, Or.inl (bw_t tt_2 135 rfl rfl)⟩
set_option maxRecDepth 20000 in
theorem fl_X7_58 : FL RX7 58 7 9 := ⟨(RX7, TX7, 14), rfl, Nat.le_of_ble_eq_true rfl, cf7, Nat.le_of_ble_eq_true rfl, Or.inl (bw_t tt_2 136 rfl rfl)⟩
set_option maxRecDepth 20000 in
theorem fl_X7_61 : FL RX7 61 7 11 := ⟨(RX7, TX7, 14), rfl, Nat.le_of_ble_eq_true rfl, cf7, Nat.le_of_ble_eq_true rfl, Or.inl (bw_t tt_2 138 rfl rfl)⟩
set_option maxRecDepth 20000 in
theorem fl_X7_64 : FL RX7 64 7 13 := ⟨(RX7, TX7, 14), rfl, Nat.le_of_ble_eq_true rfl, cf7, Nat.le_of_ble_eq_true rfl, Or.inl (bw_t tt_2 140 rfl rfl)⟩
set_option maxRecDepth 20000 in
theorem lk_X7_67 : LK RX7 67 yX6_clear := Or.inr ⟨"BelowThread", nw_t tt_2 118 rfl rfl⟩
set_option maxRecDepth 20000 in
theorem fl_X7_70 : FL RX7 70 7 1 := ⟨(RX7, TX7, 14), rfl, Nat.le_of_ble_eq_true rfl, cf7, Nat.le_of_ble_eq_true rfl, Or.inl (bw_t tt_2 128 rfl rfl)⟩
set_option maxRecDepth 20000 in
theorem lk_X7_74 : LK RX7 74 yX7_refuse := Or.inl (bw_t tt_2 174 rfl rfl)
set_option maxRecDepth 20000 in
theorem lk_X7_78 : LK RX7 78 yX7_append := Or.inl (bw_t tt_2 178 rfl rfl)
set_option maxRecDepth 20000 in
theorem lk_X7_82 : LK RX7 82 yX5_readRoom := Or.inr ⟨"BelowThread", nw_t tt_2 190 rfl rfl⟩
set_option maxRecDepth 20000 in
theorem fl_X7_86 : FL RX7 86 5 7 := ⟨(RX5, TX5, 12), rfl, Nat.le_of_ble_eq_true rfl, cf5, Nat.le_of_ble_eq_true rfl, Or.inr ⟨"BelowThread", nw_t tt_1 156 rfl rfl⟩⟩
set_option maxRecDepth 20000 in
theorem lk_X7_89 : LK RX7 89 yX0_forget := Or.inr ⟨"BelowThread", nw_t tt_3 135 rfl rfl⟩
set_option maxRecDepth 20000 in
theorem lk_X7_92 : LK RX7 92 yX4_forget := Or.inr ⟨"BelowThread", nw_t tt_3 139 rfl rfl⟩
set_option maxRecDepth 20000 in
theorem lk_X7_93 : LK RX7 93 yX2_enter := Or.inr ⟨"BelowThread", nw_t tt_3 143 rfl rfl⟩
set_option maxRecDepth 20000 in
theorem fl_X7_97 : FL RX7 97 7 10 := ⟨(RX7, TX7, 14), rfl, Nat.le_of_ble_eq_true rfl, cf7, Nat.le_of_ble_eq_true rfl, Or.inl (bw_t tt_2 137 rfl rfl)⟩
set_option maxRecDepth 20000 in
theorem fl_X7_100 : FL RX7 100 6 15 := ⟨(RX6, TX6, 16), rfl, Nat.le_of_ble_eq_true rfl, cf6, Nat.le_of_ble_eq_true rfl, Or.inr ⟨"BelowThread", nw_t tt_1 105 rfl rfl⟩⟩
set_option maxRecDepth 20000 in
theorem fl_X7_103 : FL RX7 103 5 8 := ⟨(RX5, TX5, 12), rfl, Nat.le_of_ble_eq_true rfl, cf5, Nat.le_of_ble_eq_true rfl, Or.inr ⟨"BelowThread", nw_t tt_1 158 rfl rfl⟩⟩
set_option maxRecDepth 20000 in
theorem fl_X7_106 : FL RX7 106 6 13 := ⟨(RX6, TX6, 16), rfl, Nat.le_of_ble_eq_true rfl, cf6, Nat.le_of_ble_eq_true rfl, Or.inr ⟨"BelowThread", nw_t tt_1 100 rfl rfl⟩⟩
set_option maxRecDepth 20000 in
theorem fl_X7_109 : FL RX7 109 6 2 := ⟨(RX6, TX6, 16), rfl, Nat.le_of_ble_eq_true rfl, cf6, Nat.le_of_ble_eq_true rfl, Or.inr ⟨"BelowThread", nw_t tt_1 56 rfl rfl⟩⟩
set_option maxRecDepth 20000 in
theorem fl_X7_112 : FL RX7 112 6 8 := ⟨(RX6, TX6, 16), rfl, Nat.le_of_ble_eq_true rfl, cf6, Nat.le_of_ble_eq_true rfl, Or.inr ⟨"BelowThread", nw_t tt_1 85 rfl rfl⟩⟩
set_option maxRecDepth 20000 in
theorem fl_X7_115 : FL RX7 115 6 11 := ⟨(RX6, TX6, 16), rfl, Nat.le_of_ble_eq_true rfl, cf6, Nat.le_of_ble_eq_true rfl, Or.inr ⟨"BelowThread", nw_t tt_1 91 rfl rfl⟩⟩
set_option maxRecDepth 20000 in
theorem fl_X7_118 : FL RX7 118 6 7 := ⟨(RX6, TX6, 16), rfl, Nat.le_of_ble_eq_true rfl, cf6, Nat.le_of_ble_eq_true rfl, Or.inr ⟨"BelowThread", nw_t tt_1 78 rfl rfl⟩⟩
set_option maxRecDepth 20000 in
theorem fl_X7_121 : FL RX7 121 2 8 := ⟨(RX2, TX2, 9), rfl, Nat.le_of_ble_eq_true rfl, cf2, Nat.le_of_ble_eq_true rfl, Or.inr ⟨"BelowThread", nw_t tt_2 98 rfl rfl⟩⟩
set_option maxRecDepth 20000 in
theorem fl_X7_124 : FL RX7 124 6 12 := ⟨(RX6, TX6, 16), rfl, Nat.le_of_ble_eq_true rfl, cf6, Nat.le_of_ble_eq_true rfl, Or.inr ⟨"BelowThread", nw_t tt_1 94 rfl rfl⟩⟩
set_option maxRecDepth 20000 in
theorem fl_X7_127 : FL RX7 127 6 0 := ⟨(RX6, TX6, 16), rfl, Nat.le_of_ble_eq_true rfl, cf6, Nat.le_of_ble_eq_true rfl, Or.inr ⟨"BelowThread", nw_t tt_1 52 rfl rfl⟩⟩
set_option maxRecDepth 20000 in
theorem fl_X7_130 : FL RX7 130 6 1 := ⟨(RX6, TX6, 16), rfl, Nat.le_of_ble_eq_true rfl, cf6, Nat.le_of_ble_eq_true rfl, Or.inr ⟨"BelowThread", nw_t tt_1 54 rfl rfl⟩⟩
set_option maxRecDepth 20000 in
theorem fl_X7_133 : FL RX7 133 6 3 := ⟨(RX6, TX6, 16), rfl, Nat.le_of_ble_eq_true rfl, cf6, Nat.le_of_ble_eq_true rfl, Or.inr ⟨"BelowThread", nw_t tt_1 63 rfl rfl⟩⟩
set_option maxRecDepth 20000 in
theorem fl_X7_136 : FL RX7 136 6 4 := ⟨(RX6, TX6, 16), rfl, Nat.le_of_ble_eq_true rfl, cf6, Nat.le_of_ble_eq_true rfl, Or.inr ⟨"BelowThread", nw_t tt_1 67 rfl rfl⟩⟩
set_option maxRecDepth 20000 in
theorem fl_X7_139 : FL RX7 139 6 6 := ⟨(RX6, TX6, 16), rfl, Nat.le_of_ble_eq_true rfl, cf6, Nat.le_of_ble_eq_true rfl, Or.inr ⟨"BelowThread", nw_t tt_1 73 rfl rfl⟩⟩
set_option maxRecDepth 20000 in
theorem fl_X7_142 : FL RX7 142 6 5 := ⟨(RX6, TX6, 16), rfl, Nat.le_of_ble_eq_true rfl, cf6, Nat.le_of_ble_eq_true rfl, Or.inr ⟨"BelowThread", nw_t tt_1 69 rfl rfl⟩⟩
set_option maxRecDepth 20000 in
theorem lk_X7_145 : LK RX7 145 yX7_follow := Or.inl (bw_t tt_3 176 rfl rfl)
set_option maxRecDepth 20000 in
theorem fl_X7_149 : FL RX7 149 1 0 := ⟨(RX1, TX1, 9), rfl, Nat.le_of_ble_eq_true rfl, cf1, Nat.le_of_ble_eq_true rfl, Or.inr ⟨"BelowThread", nw_t tt_1 209 rfl rfl⟩⟩
set_option maxRecDepth 20000 in
theorem fl_X7_152 : FL RX7 152 1 1 := ⟨(RX1, TX1, 9), rfl, Nat.le_of_ble_eq_true rfl, cf1, Nat.le_of_ble_eq_true rfl, Or.inr ⟨"BelowThread", nw_t tt_1 211 rfl rfl⟩⟩
set_option maxRecDepth 20000 in
theorem fl_X7_155 : FL RX7 155 1 2 := ⟨(RX1, TX1, 9), rfl, Nat.le_of_ble_eq_true rfl, cf1, Nat.le_of_ble_eq_true rfl, Or.inr ⟨"BelowThread", nw_t tt_1 213 rfl rfl⟩⟩
set_option maxRecDepth 20000 in
theorem fl_X7_158 : FL RX7 158 1 5 := ⟨(RX1, TX1, 9), rfl, Nat.le_of_ble_eq_true rfl, cf1, Nat.le_of_ble_eq_true rfl, Or.inr ⟨"BelowThread", nw_t tt_1 217 rfl rfl⟩⟩
set_option maxRecDepth 20000 in
theorem fl_X7_161 : FL RX7 161 1 6 := ⟨(RX1, TX1, 9), rfl, Nat.le_of_ble_eq_true rfl, cf1, Nat.le_of_ble_eq_true rfl, Or.inr ⟨"BelowThread", nw_t tt_1 219 rfl rfl⟩⟩
set_option maxRecDepth 20000 in
theorem fl_X7_164 : FL RX7 164 1 7 := ⟨(RX1, TX1, 9), rfl, Nat.le_of_ble_eq_true rfl, cf1, Nat.le_of_ble_eq_true rfl, Or.inr ⟨"BelowThread", nw_t tt_1 221 rfl rfl⟩⟩
set_option maxRecDepth 20000 in
theorem fl_X7_167 : FL RX7 167 1 8 := ⟨(RX1, TX1, 9), rfl, Nat.le_of_ble_eq_true rfl, cf1, Nat.le_of_ble_eq_true rfl, Or.inr ⟨"BelowThread", nw_t tt_1 223 rfl rfl⟩⟩
set_option maxRecDepth 20000 in
theorem lk_X7_170 : LK RX7 170 yX6_knows := Or.inr ⟨"BelowThread", nw_t tt_3 180 rfl rfl⟩
set_option maxRecDepth 20000 in
theorem lk_X7_174 : LK RX7 174 yX7_isLength := Or.inl (bw_t tt_3 184 rfl rfl)
set_option maxRecDepth 20000 in
theorem lk_X7_177 : LK RX7 177 yX0_prepare := Or.inr ⟨"BelowThread", nw_t tt_3 187 rfl rfl⟩
set_option maxRecDepth 20000 in
theorem lk_X7_181 : LK RX7 181 yX1_run := Or.inr ⟨"BelowThread", nw_t tt_4 8 rfl rfl⟩
set_option maxRecDepth 20000 in
theorem lk_X7_185 : LK RX7 185 yX7_weighs := Or.inl (bw_t tt_4 32 rfl rfl)
set_option maxRecDepth 20000 in
theorem lk_X7_189 : LK RX7 189 yX0_expect := Or.inr ⟨"BelowThread", nw_t tt_4 36 rfl rfl⟩
set_option maxRecDepth 20000 in
theorem lk_X7_193 : LK RX7 193 yX0_thousandths := Or.inr ⟨"BelowThread", nw_t tt_4 41 rfl rfl⟩
set_option maxRecDepth 20000 in
theorem lk_X7_197 : LK RX7 197 yX0_turns := Or.inr ⟨"BelowThread", nw_t tt_4 49 rfl rfl⟩
set_option maxRecDepth 20000 in
theorem lk_X7_201 : LK RX7 201 yX7_canPlan := Or.inl (bw_t tt_4 62 rfl rfl)
set_option maxRecDepth 20000 in
theorem lk_X7_204 : LK RX7 204 yX4_inOrder := Or.inr ⟨"BelowThread", nw_t tt_4 70 rfl rfl⟩
set_option maxRecDepth 20000 in
theorem fl_X7_207 : FL RX7 207 4 1 := ⟨(RX4, TX4, 19), rfl, Nat.le_of_ble_eq_true rfl, cf4, Nat.le_of_ble_eq_true rfl, Or.inr ⟨"BelowThread", nw_t tt_2 12 rfl rfl⟩⟩
set_option maxRecDepth 20000 in
theorem fl_X7_210 : FL RX7 210 4 0 := ⟨(RX4, TX4, 19), rfl, Nat.le_of_ble_eq_true rfl, cf4, Nat.le_of_ble_eq_true rfl, Or.inr ⟨"BelowThread", nw_t tt_2 10 rfl rfl⟩⟩
set_option maxRecDepth 20000 in
theorem lk_X7_213 : LK RX7 213 yX4_anyOrder := Or.inr ⟨"BelowThread", nw_t tt_4 78 rfl rfl⟩
set_option maxRecDepth 20000 in
theorem fl_X7_216 : FL RX7 216 4 4 := ⟨(RX4, TX4, 19), rfl, Nat.le_of_ble_eq_true rfl, cf4, Nat.le_of_ble_eq_true rfl, Or.inr ⟨"BelowThread", nw_t tt_2 17 rfl rfl⟩⟩
set_option maxRecDepth 20000 in
theorem fl_X7_219 : FL RX7 219 4 2 := ⟨(RX4, TX4, 19), rfl, Nat.le_of_ble_eq_true rfl, cf4, Nat.le_of_ble_eq_true rfl, Or.inr ⟨"BelowThread", nw_t tt_2 14 rfl rfl⟩⟩
set_option maxRecDepth 20000 in
theorem lk_X7_222 : LK RX7 222 yX4_hide := Or.inr ⟨"BelowThread", nw_t tt_4 95 rfl rfl⟩
set_option maxRecDepth 20000 in
theorem fl_X7_225 : FL RX7 225 4 17 := ⟨(RX4, TX4, 19), rfl, Nat.le_of_ble_eq_true rfl, cf4, Nat.le_of_ble_eq_true rfl, Or.inr ⟨"BelowThread", nw_t tt_2 34 rfl rfl⟩⟩
set_option maxRecDepth 20000 in
theorem fl_X7_228 : FL RX7 228 4 18 := ⟨(RX4, TX4, 19), rfl, Nat.le_of_ble_eq_true rfl, cf4, Nat.le_of_ble_eq_true rfl, Or.inr ⟨"BelowThread", nw_t tt_2 36 rfl rfl⟩⟩
set_option maxRecDepth 20000 in
theorem fl_X7_231 : FL RX7 231 4 16 := ⟨(RX4, TX4, 19), rfl, Nat.le_of_ble_eq_true rfl, cf4, Nat.le_of_ble_eq_true rfl, Or.inr ⟨"BelowThread", nw_t tt_2 32 rfl rfl⟩⟩
set_option maxRecDepth 20000 in
theorem lk_X7_234 : LK RX7 234 yX4_share := Or.inr ⟨"BelowThread", nw_t tt_4 116 rfl rfl⟩
set_option maxRecDepth 20000 in
theorem fl_X7_237 : FL RX7 237 4 10 := ⟨(RX4, TX4, 19), rfl, Nat.le_of_ble_eq_true rfl, cf4, Nat.le_of_ble_eq_true rfl, Or.inr ⟨"BelowThread", nw_t tt_2 25 rfl rfl⟩⟩
set_option maxRecDepth 20000 in
theorem fl_X7_240 : FL RX7 240 4 6 := ⟨(RX4, TX4, 19), rfl, Nat.le_of_ble_eq_true rfl, cf4, Nat.le_of_ble_eq_true rfl, Or.inr ⟨"BelowThread", nw_t tt_2 20 rfl rfl⟩⟩
set_option maxRecDepth 20000 in
theorem lk_X7_243 : LK RX7 243 yX6_longest := Or.inr ⟨"BelowThread", nw_t tt_4 66 rfl rfl⟩
set_option maxRecDepth 20000 in
theorem lk_X7_247 : LK RX7 247 yJ9_max_7cf53 := Or.inl (bw_t tt_4 129 rfl rfl)
set_option maxRecDepth 20000 in
theorem lk_X7_253 : LK RX7 253 yJ9_min_7cf53 := Or.inl (bw_t tt_4 130 rfl rfl)
set_option maxRecDepth 20000 in
theorem fl_X7_256 : FL RX7 256 2 0 := ⟨(RX2, TX2, 9), rfl, Nat.le_of_ble_eq_true rfl, cf2, Nat.le_of_ble_eq_true rfl, Or.inr ⟨"BelowThread", nw_t tt_2 83 rfl rfl⟩⟩
set_option maxRecDepth 20000 in
theorem fl_X7_259 : FL RX7 259 2 1 := ⟨(RX2, TX2, 9), rfl, Nat.le_of_ble_eq_true rfl, cf2, Nat.le_of_ble_eq_true rfl, Or.inr ⟨"BelowThread", nw_t tt_2 85 rfl rfl⟩⟩
set_option maxRecDepth 20000 in
theorem fl_X7_261 : FL RX7 261 2 3 := ⟨(RX2, TX2, 9), rfl, Nat.le_of_ble_eq_true rfl, cf2, Nat.le_of_ble_eq_true rfl, Or.inr ⟨"BelowThread", nw_t tt_2 89 rfl rfl⟩⟩
set_option maxRecDepth 20000 in
theorem fl_X7_262 : FL RX7 262 2 4 := ⟨(RX2, TX2, 9), rfl, Nat.le_of_ble_eq_true rfl, cf2, Nat.le_of_ble_eq_true rfl, Or.inr ⟨"BelowThread", nw_t tt_2 91 rfl rfl⟩⟩
set_option maxRecDepth 20000 in
theorem fl_X7_263 : FL RX7 263 2 5 := ⟨(RX2, TX2, 9), rfl, Nat.le_of_ble_eq_true rfl, cf2, Nat.le_of_ble_eq_true rfl, Or.inr ⟨"BelowThread", nw_t tt_2 93 rfl rfl⟩⟩
set_option maxRecDepth 20000 in
theorem lk_X7_264 : LK RX7 264 yX2_keep := Or.inr ⟨"BelowThread", nw_t tt_4 139 rfl rfl⟩
set_option maxRecDepth 20000 in
theorem lk_X7_267 : LK RX7 267 yX2_stitch := Or.inr ⟨"BelowThread", nw_t tt_4 144 rfl rfl⟩
set_option maxRecDepth 20000 in
theorem lk_X7_271 : LK RX7 271 yX2_pay := Or.inr ⟨"BelowThread", nw_t tt_4 159 rfl rfl⟩
set_option maxRecDepth 20000 in
theorem fl_X7_274 : FL RX7 274 2 2 := ⟨(RX2, TX2, 9), rfl, Nat.le_of_ble_eq_true rfl, cf2, Nat.le_of_ble_eq_true rfl, Or.inr ⟨"BelowThread", nw_t tt_2 87 rfl rfl⟩⟩
set_option maxRecDepth 20000 in
theorem lk_X7_277 : LK RX7 277 yX6_lookCost := Or.inr ⟨"BelowThread", nw_t tt_4 172 rfl rfl⟩
set_option maxRecDepth 20000 in
theorem lk_X7_280 : LK RX7 280 yX2_draw := Or.inr ⟨"BelowThread", nw_t tt_4 177 rfl rfl⟩
set_option maxRecDepth 20000 in
theorem lk_X7_284 : LK RX7 284 yX2_restart := Or.inr ⟨"BelowThread", nw_t tt_4 178 rfl rfl⟩
set_option maxRecDepth 20000 in
theorem lk_X7_287 : LK RX7 287 yX2_back := Or.inr ⟨"BelowThread", nw_t tt_4 183 rfl rfl⟩
set_option maxRecDepth 20000 in
theorem fl_X7_290 : FL RX7 290 2 6 := ⟨(RX2, TX2, 9), rfl, Nat.le_of_ble_eq_true rfl, cf2, Nat.le_of_ble_eq_true rfl, Or.inr ⟨"BelowThread", nw_t tt_2 95 rfl rfl⟩⟩
set_option maxRecDepth 20000 in
theorem lk_X7_293 : LK RX7 293 yX7_tellsRows := Or.inl (bw_t tt_4 195 rfl rfl)
set_option maxRecDepth 20000 in
theorem ac_X7_296 : AC RX7 296 := bw_t tt_4 199 rfl rfl
set_option maxRecDepth 20000 in
theorem lk_X7_302 : LK RX7 302 yX7_agrees := Or.inl (bw_t tt_4 204 rfl rfl)
set_option maxRecDepth 20000 in
theorem kc_X7_305 : Cond.constantLong RX7 305 (-1000000000000000) ∈ BW := bw_t tt_4 212 rfl rfl
set_option maxRecDepth 20000 in
theorem lk_X7_307 : LK RX7 307 yX5_readQuestion := Or.inr ⟨"BelowThread", nw_t tt_4 213 rfl rfl⟩
set_option maxRecDepth 20000 in
theorem kc_X7_311 : Cond.constantLong RX7 311 (-1) ∈ BW := bw_t tt_4 217 rfl rfl
set_option maxRecDepth 20000 in
theorem fl_X7_313 : FL RX7 313 5 10 := ⟨(RX5, TX5, 12), rfl, Nat.le_of_ble_eq_true rfl, cf5, Nat.le_of_ble_eq_true rfl, Or.inr ⟨"BelowThread", nw_t tt_1 161 rfl rfl⟩⟩
set_option maxRecDepth 20000 in
theorem fl_X7_317 : FL RX7 317 3 2 := ⟨(RX3, TX3, 3), rfl, Nat.le_of_ble_eq_true rfl, cf3, Nat.le_of_ble_eq_true rfl, Or.inr ⟨"BelowThread", nw_t tt_1 41 rfl rfl⟩⟩
set_option maxRecDepth 20000 in
theorem lk_X7_322 : LK RX7 322 yX1_partsOf := Or.inr ⟨"BelowThread", nw_t tt_4 218 rfl rfl⟩
set_option maxRecDepth 20000 in
theorem lk_X7_326 : LK RX7 326 yX3_worth := Or.inr ⟨"BelowThread", nw_t tt_4 222 rfl rfl⟩
set_option maxRecDepth 20000 in
theorem lk_X7_330 : LK RX7 330 yX7_counted := Or.inl (bw_t tt_4 223 rfl rfl)
set_option maxRecDepth 20000 in
theorem lk_X7_334 : LK RX7 334 yX7_gathered := Or.inl (bw_t tt_4 226 rfl rfl)
set_option maxRecDepth 20000 in
theorem lk_X7_337 : LK RX7 337 yJ9_max_f86c9 := Or.inl (bw_t tt_4 229 rfl rfl)
set_option maxRecDepth 20000 in
theorem lk_X7_340 : LK RX7 340 yJ9_min_f86c9 := Or.inl (bw_t tt_4 230 rfl rfl)
set_option maxRecDepth 20000 in
theorem lk_X7_342 : LK RX7 342 yX7_checkOf := Or.inl (bw_t tt_4 235 rfl rfl)
set_option maxRecDepth 20000 in
theorem fl_X7_346 : FL RX7 346 7 12 := ⟨(RX7, TX7, 14), rfl, Nat.le_of_ble_eq_true rfl, cf7, Nat.le_of_ble_eq_true rfl, Or.inl (bw_t tt_2 139 rfl rfl)⟩
set_option maxRecDepth 20000 in
theorem lk_X7_349 : LK RX7 349 yX7_tellsDay := Or.inl (bw_t tt_5 6 rfl rfl)
set_option maxRecDepth 20000 in
theorem lk_X7_352 : LK RX7 352 yX6_hasLength := Or.inr ⟨"BelowThread", nw_t tt_5 10 rfl rfl⟩
set_option maxRecDepth 20000 in
theorem fl_X0_9 : FL RX0 9 0 0 := ⟨(RX0, TX0, 2), rfl, Nat.le_of_ble_eq_true rfl, cf0, Nat.le_of_ble_eq_true rfl, Or.inl (bw_t tt_1 194 rfl rfl)⟩
set_option maxRecDepth 20000 in
theorem fl_X0_15 : FL RX0 15 0 1 := ⟨(RX0, TX0, 2), rfl, Nat.le_of_ble_eq_true rfl, cf0, Nat.le_of_ble_eq_true rfl, Or.inl (bw_t tt_1 195 rfl rfl)⟩
set_option maxRecDepth 20000 in
theorem kc_X0_19 : Cond.constantLong RX0 19 (1000000000) ∈ BW := bw_t tt_4 44 rfl rfl
set_option maxRecDepth 20000 in
theorem lk_X0_21 : LK RX0 21 yX0_prepare := Or.inl (bw_t tt_4 40 rfl rfl)
set_option maxRecDepth 20000 in
theorem fl_X0_25 : FL RX0 25 6 8 := ⟨(RX6, TX6, 16), rfl, Nat.le_of_ble_eq_true rfl, cf6, Nat.le_of_ble_eq_true rfl, Or.inr ⟨"BelowThread", nw_t tt_1 83 rfl rfl⟩⟩
set_option maxRecDepth 20000 in
theorem lk_X0_30 : LK RX0 30 yX0_weigh := Or.inl (bw_t tt_3 191 rfl rfl)
set_option maxRecDepth 20000 in
theorem kc_X0_34 : Cond.constantLong RX0 34 (100) ∈ BW := bw_t tt_4 7 rfl rfl
set_option maxRecDepth 20000 in
theorem fl_X0_36 : FL RX0 36 6 7 := ⟨(RX6, TX6, 16), rfl, Nat.le_of_ble_eq_true rfl, cf6, Nat.le_of_ble_eq_true rfl, Or.inr ⟨"BelowThread", nw_t tt_1 77 rfl rfl⟩⟩
set_option maxRecDepth 20000 in
theorem lk_X0_40 : LK RX0 40 yX6_oddsOf := Or.inr ⟨"BelowThread", nw_t tt_3 195 rfl rfl⟩
set_option maxRecDepth 20000 in
theorem fl_X0_44 : FL RX0 44 6 3 := ⟨(RX6, TX6, 16), rfl, Nat.le_of_ble_eq_true rfl, cf6, Nat.le_of_ble_eq_true rfl, Or.inr ⟨"BelowThread", nw_t tt_1 61 rfl rfl⟩⟩
set_option maxRecDepth 20000 in
theorem lk_X0_47 : LK RX0 47 yX0_mended := Or.inl (bw_t tt_3 199 rfl rfl)
set_option maxRecDepth 20000 in
theorem lk_X0_51 : LK RX0 51 yX0_changed := Or.inl (bw_t tt_3 204 rfl rfl)
set_option maxRecDepth 20000 in
theorem fl_X0_54 : FL RX0 54 6 13 := ⟨(RX6, TX6, 16), rfl, Nat.le_of_ble_eq_true rfl, cf6, Nat.le_of_ble_eq_true rfl, Or.inr ⟨"BelowThread", nw_t tt_1 99 rfl rfl⟩⟩
set_option maxRecDepth 20000 in
theorem kc_X0_57 : Cond.constantLong RX0 57 (1000000000000) ∈ BW := bw_t tt_3 203 rfl rfl
set_option maxRecDepth 20000 in
theorem lk_X0_59 : LK RX0 59 yJ9_min_f86c9 := Or.inl (bw_t tt_3 208 rfl rfl)
set_option maxRecDepth 20000 in
theorem lk_X0_65 : LK RX0 65 yX6_wants := Or.inr ⟨"BelowThread", nw_t tt_3 211 rfl rfl⟩
set_option maxRecDepth 20000 in
theorem fl_X1_9 : FL RX1 9 1 0 := ⟨(RX1, TX1, 9), rfl, Nat.le_of_ble_eq_true rfl, cf1, Nat.le_of_ble_eq_true rfl, Or.inl (bw_t tt_1 208 rfl rfl)⟩
set_option maxRecDepth 20000 in
theorem fl_X1_15 : FL RX1 15 1 1 := ⟨(RX1, TX1, 9), rfl, Nat.le_of_ble_eq_true rfl, cf1, Nat.le_of_ble_eq_true rfl, Or.inl (bw_t tt_1 210 rfl rfl)⟩
set_option maxRecDepth 20000 in
theorem fl_X1_18 : FL RX1 18 1 2 := ⟨(RX1, TX1, 9), rfl, Nat.le_of_ble_eq_true rfl, cf1, Nat.le_of_ble_eq_true rfl, Or.inl (bw_t tt_1 212 rfl rfl)⟩
set_option maxRecDepth 20000 in
theorem fl_X1_21 : FL RX1 21 1 3 := ⟨(RX1, TX1, 9), rfl, Nat.le_of_ble_eq_true rfl, cf1, Nat.le_of_ble_eq_true rfl, Or.inl (bw_t tt_1 214 rfl rfl)⟩
set_option maxRecDepth 20000 in
theorem fl_X1_24 : FL RX1 24 1 4 := ⟨(RX1, TX1, 9), rfl, Nat.le_of_ble_eq_true rfl, cf1, Nat.le_of_ble_eq_true rfl, Or.inl (bw_t tt_1 215 rfl rfl)⟩
set_option maxRecDepth 20000 in
theorem fl_X1_28 : FL RX1 28 1 5 := ⟨(RX1, TX1, 9), rfl, Nat.le_of_ble_eq_true rfl, cf1, Nat.le_of_ble_eq_true rfl, Or.inl (bw_t tt_1 216 rfl rfl)⟩
set_option maxRecDepth 20000 in
theorem fl_X1_31 : FL RX1 31 1 6 := ⟨(RX1, TX1, 9), rfl, Nat.le_of_ble_eq_true rfl, cf1, Nat.le_of_ble_eq_true rfl, Or.inl (bw_t tt_1 218 rfl rfl)⟩
set_option maxRecDepth 20000 in
theorem fl_X1_34 : FL RX1 34 1 7 := ⟨(RX1, TX1, 9), rfl, Nat.le_of_ble_eq_true rfl, cf1, Nat.le_of_ble_eq_true rfl, Or.inl (bw_t tt_1 220 rfl rfl)⟩
set_option maxRecDepth 20000 in
theorem fl_X1_37 : FL RX1 37 1 8 := ⟨(RX1, TX1, 9), rfl, Nat.le_of_ble_eq_true rfl, cf1, Nat.le_of_ble_eq_true rfl, Or.inl (bw_t tt_1 222 rfl rfl)⟩
set_option maxRecDepth 20000 in
theorem fl_X1_40 : FL RX1 40 6 8 := ⟨(RX6, TX6, 16), rfl, Nat.le_of_ble_eq_true rfl, cf6, Nat.le_of_ble_eq_true rfl, Or.inr ⟨"BelowThread", nw_t tt_1 80 rfl rfl⟩⟩
set_option maxRecDepth 20000 in
theorem lk_X1_45 : LK RX1 45 yX6_lookCost := Or.inr ⟨"BelowThread", nw_t tt_4 12 rfl rfl⟩
set_option maxRecDepth 20000 in
theorem lk_X1_49 : LK RX1 49 yX0_turns := Or.inr ⟨"BelowThread", nw_t tt_4 16 rfl rfl⟩
set_option maxRecDepth 20000 in
theorem fl_X1_55 : FL RX1 55 6 3 := ⟨(RX6, TX6, 16), rfl, Nat.le_of_ble_eq_true rfl, cf6, Nat.le_of_ble_eq_true rfl, Or.inr ⟨"BelowThread", nw_t tt_1 58 rfl rfl⟩⟩
set_option maxRecDepth 20000 in
theorem lk_X1_58 : LK RX1 58 yX1_note := Or.inl (bw_t tt_4 20 rfl rfl)
set_option maxRecDepth 20000 in
theorem fl_X1_62 : FL RX1 62 6 13 := ⟨(RX6, TX6, 16), rfl, Nat.le_of_ble_eq_true rfl, cf6, Nat.le_of_ble_eq_true rfl, Or.inr ⟨"BelowThread", nw_t tt_1 97 rfl rfl⟩⟩
set_option maxRecDepth 20000 in
theorem fl_X1_65 : FL RX1 65 6 4 := ⟨(RX6, TX6, 16), rfl, Nat.le_of_ble_eq_true rfl, cf6, Nat.le_of_ble_eq_true rfl, Or.inr ⟨"BelowThread", nw_t tt_1 65 rfl rfl⟩⟩
set_option maxRecDepth 20000 in
theorem fl_X2_9 : FL RX2 9 2 6 := ⟨(RX2, TX2, 9), rfl, Nat.le_of_ble_eq_true rfl, cf2, Nat.le_of_ble_eq_true rfl, Or.inl (bw_t tt_2 94 rfl rfl)⟩
set_option maxRecDepth 20000 in
theorem fl_X2_15 : FL RX2 15 2 7 := ⟨(RX2, TX2, 9), rfl, Nat.le_of_ble_eq_true rfl, cf2, Nat.le_of_ble_eq_true rfl, Or.inl (bw_t tt_2 96 rfl rfl)⟩
set_option maxRecDepth 20000 in
theorem fl_X2_19 : FL RX2 19 6 0 := ⟨(RX6, TX6, 16), rfl, Nat.le_of_ble_eq_true rfl, cf6, Nat.le_of_ble_eq_true rfl, Or.inr ⟨"BelowThread", nw_t tt_1 51 rfl rfl⟩⟩
set_option maxRecDepth 20000 in
theorem lk_X2_24 : LK RX2 24 yX2_restart := Or.inl (bw_t tt_3 147 rfl rfl)
set_option maxRecDepth 20000 in
theorem fl_X2_28 : FL RX2 28 2 8 := ⟨(RX2, TX2, 9), rfl, Nat.le_of_ble_eq_true rfl, cf2, Nat.le_of_ble_eq_true rfl, Or.inl (bw_t tt_2 97 rfl rfl)⟩
set_option maxRecDepth 20000 in
theorem fl_X2_31 : FL RX2 31 2 0 := ⟨(RX2, TX2, 9), rfl, Nat.le_of_ble_eq_true rfl, cf2, Nat.le_of_ble_eq_true rfl, Or.inl (bw_t tt_2 82 rfl rfl)⟩
set_option maxRecDepth 20000 in
theorem fl_X2_34 : FL RX2 34 2 1 := ⟨(RX2, TX2, 9), rfl, Nat.le_of_ble_eq_true rfl, cf2, Nat.le_of_ble_eq_true rfl, Or.inl (bw_t tt_2 84 rfl rfl)⟩
set_option maxRecDepth 20000 in
theorem fl_X2_37 : FL RX2 37 2 2 := ⟨(RX2, TX2, 9), rfl, Nat.le_of_ble_eq_true rfl, cf2, Nat.le_of_ble_eq_true rfl, Or.inl (bw_t tt_2 86 rfl rfl)⟩
set_option maxRecDepth 20000 in
theorem fl_X2_40 : FL RX2 40 2 3 := ⟨(RX2, TX2, 9), rfl, Nat.le_of_ble_eq_true rfl, cf2, Nat.le_of_ble_eq_true rfl, Or.inl (bw_t tt_2 88 rfl rfl)⟩
set_option maxRecDepth 20000 in
theorem fl_X2_43 : FL RX2 43 2 4 := ⟨(RX2, TX2, 9), rfl, Nat.le_of_ble_eq_true rfl, cf2, Nat.le_of_ble_eq_true rfl, Or.inl (bw_t tt_2 90 rfl rfl)⟩
set_option maxRecDepth 20000 in
theorem fl_X2_46 : FL RX2 46 2 5 := ⟨(RX2, TX2, 9), rfl, Nat.le_of_ble_eq_true rfl, cf2, Nat.le_of_ble_eq_true rfl, Or.inl (bw_t tt_2 92 rfl rfl)⟩
set_option maxRecDepth 20000 in
theorem kc_X2_49 : Cond.constantLong RX2 49 (1103515245) ∈ BW := bw_t tt_4 152 rfl rfl
set_option maxRecDepth 20000 in
theorem kc_X2_51 : Cond.constantLong RX2 51 (12345) ∈ BW := bw_t tt_4 153 rfl rfl
set_option maxRecDepth 20000 in
theorem kc_X2_53 : Cond.constantLong RX2 53 (2147483647) ∈ BW := bw_t tt_4 154 rfl rfl
set_option maxRecDepth 20000 in
theorem lk_X2_55 : LK RX2 55 yX6_lengthBy := Or.inr ⟨"BelowThread", nw_t tt_4 155 rfl rfl⟩
set_option maxRecDepth 20000 in
theorem lk_X2_59 : LK RX2 59 yJ9_min_7cf53 := Or.inl (bw_t tt_4 163 rfl rfl)
set_option maxRecDepth 20000 in
theorem fl_X2_65 : FL RX2 65 6 8 := ⟨(RX6, TX6, 16), rfl, Nat.le_of_ble_eq_true rfl, cf6, Nat.le_of_ble_eq_true rfl, Or.inr ⟨"BelowThread", nw_t tt_1 84 rfl rfl⟩⟩
set_option maxRecDepth 20000 in
theorem fl_X2_68 : FL RX2 68 6 13 := ⟨(RX6, TX6, 16), rfl, Nat.le_of_ble_eq_true rfl, cf6, Nat.le_of_ble_eq_true rfl, Or.inr ⟨"BelowThread", nw_t tt_1 98 rfl rfl⟩⟩
set_option maxRecDepth 20000 in
theorem lk_X2_71 : LK RX2 71 yX2_draw := Or.inl (bw_t tt_4 148 rfl rfl)
set_option maxRecDepth 20000 in
theorem fl_X2_75 : FL RX2 75 6 3 := ⟨(RX6, TX6, 16), rfl, Nat.le_of_ble_eq_true rfl, cf6, Nat.le_of_ble_eq_true rfl, Or.inr ⟨"BelowThread", nw_t tt_1 62 rfl rfl⟩⟩
set_option maxRecDepth 20000 in
theorem ac_X2_78 : AC RX2 78 := bw_t tt_4 143 rfl rfl
set_option maxRecDepth 20000 in
theorem fl_X3_9 : FL RX3 9 3 0 := ⟨(RX3, TX3, 3), rfl, Nat.le_of_ble_eq_true rfl, cf3, Nat.le_of_ble_eq_true rfl, Or.inl (bw_t tt_1 36 rfl rfl)⟩
set_option maxRecDepth 20000 in
theorem fl_X3_15 : FL RX3 15 3 1 := ⟨(RX3, TX3, 3), rfl, Nat.le_of_ble_eq_true rfl, cf3, Nat.le_of_ble_eq_true rfl, Or.inl (bw_t tt_1 37 rfl rfl)⟩
set_option maxRecDepth 20000 in
theorem fl_X3_18 : FL RX3 18 3 2 := ⟨(RX3, TX3, 3), rfl, Nat.le_of_ble_eq_true rfl, cf3, Nat.le_of_ble_eq_true rfl, Or.inl (bw_t tt_1 38 rfl rfl)⟩
set_option maxRecDepth 20000 in
theorem lk_X3_22 : LK RX3 22 yJ9_max_7cf53 := Or.inl (bw_t tt_3 231 rfl rfl)
set_option maxRecDepth 20000 in
theorem lk_X3_28 : LK RX3 28 yX3_joined := Or.inl (bw_t tt_3 232 rfl rfl)
set_option maxRecDepth 20000 in
theorem kc_X3_32 : Cond.constantLong RX3 32 (-1000000) ∈ BW := bw_t tt_4 2 rfl rfl
set_option maxRecDepth 20000 in
theorem kc_X3_34 : Cond.constantLong RX3 34 (1000000) ∈ BW := bw_t tt_4 3 rfl rfl
set_option maxRecDepth 20000 in
theorem lk_X3_36 : LK RX3 36 yJ9_min_f86c9 := Or.inl (bw_t tt_3 238 rfl rfl)
set_option maxRecDepth 20000 in
theorem lk_X3_40 : LK RX3 40 yJ9_max_f86c9 := Or.inl (bw_t tt_3 239 rfl rfl)
set_option maxRecDepth 20000 in
theorem lk_X3_42 : LK RX3 42 yX3_turned := Or.inl (bw_t tt_4 4 rfl rfl)
set_option maxRecDepth 20000 in
theorem fl_X3_46 : FL RX3 46 6 8 := ⟨(RX6, TX6, 16), rfl, Nat.le_of_ble_eq_true rfl, cf6, Nat.le_of_ble_eq_true rfl, Or.inr ⟨"BelowThread", nw_t tt_1 82 rfl rfl⟩⟩
set_option maxRecDepth 20000 in
theorem fl_X3_51 : FL RX3 51 6 3 := ⟨(RX6, TX6, 16), rfl, Nat.le_of_ble_eq_true rfl, cf6, Nat.le_of_ble_eq_true rfl, Or.inr ⟨"BelowThread", nw_t tt_1 60 rfl rfl⟩⟩
set_option maxRecDepth 20000 in
theorem lk_X3_54 : LK RX3 54 yJ9_floorDiv_f86c9 := Or.inl (bw_t tt_3 235 rfl rfl)
set_option maxRecDepth 20000 in
theorem fl_X4_9 : FL RX4 9 4 0 := ⟨(RX4, TX4, 19), rfl, Nat.le_of_ble_eq_true rfl, cf4, Nat.le_of_ble_eq_true rfl, Or.inl (bw_t tt_2 9 rfl rfl)⟩
set_option maxRecDepth 20000 in
theorem fl_X4_15 : FL RX4 15 4 2 := ⟨(RX4, TX4, 19), rfl, Nat.le_of_ble_eq_true rfl, cf4, Nat.le_of_ble_eq_true rfl, Or.inl (bw_t tt_2 13 rfl rfl)⟩
set_option maxRecDepth 20000 in
theorem fl_X4_18 : FL RX4 18 4 3 := ⟨(RX4, TX4, 19), rfl, Nat.le_of_ble_eq_true rfl, cf4, Nat.le_of_ble_eq_true rfl, Or.inl (bw_t tt_2 15 rfl rfl)⟩
set_option maxRecDepth 20000 in
theorem fl_X4_21 : FL RX4 21 4 6 := ⟨(RX4, TX4, 19), rfl, Nat.le_of_ble_eq_true rfl, cf4, Nat.le_of_ble_eq_true rfl, Or.inl (bw_t tt_2 19 rfl rfl)⟩
set_option maxRecDepth 20000 in
theorem fl_X4_24 : FL RX4 24 4 7 := ⟨(RX4, TX4, 19), rfl, Nat.le_of_ble_eq_true rfl, cf4, Nat.le_of_ble_eq_true rfl, Or.inl (bw_t tt_2 21 rfl rfl)⟩
set_option maxRecDepth 20000 in
theorem fl_X4_27 : FL RX4 27 4 8 := ⟨(RX4, TX4, 19), rfl, Nat.le_of_ble_eq_true rfl, cf4, Nat.le_of_ble_eq_true rfl, Or.inl (bw_t tt_2 22 rfl rfl)⟩
set_option maxRecDepth 20000 in
theorem fl_X4_30 : FL RX4 30 4 9 := ⟨(RX4, TX4, 19), rfl, Nat.le_of_ble_eq_true rfl, cf4, Nat.le_of_ble_eq_true rfl, Or.inl (bw_t tt_2 23 rfl rfl)⟩
set_option maxRecDepth 20000 in
theorem fl_X4_33 : FL RX4 33 4 12 := ⟨(RX4, TX4, 19), rfl, Nat.le_of_ble_eq_true rfl, cf4, Nat.le_of_ble_eq_true rfl, Or.inl (bw_t tt_2 27 rfl rfl)⟩
set_option maxRecDepth 20000 in
theorem fl_X4_36 : FL RX4 36 4 13 := ⟨(RX4, TX4, 19), rfl, Nat.le_of_ble_eq_true rfl, cf4, Nat.le_of_ble_eq_true rfl, Or.inl (bw_t tt_2 28 rfl rfl)⟩
set_option maxRecDepth 20000 in
theorem fl_X4_39 : FL RX4 39 4 14 := ⟨(RX4, TX4, 19), rfl, Nat.le_of_ble_eq_true rfl, cf4, Nat.le_of_ble_eq_true rfl, Or.inl (bw_t tt_2 29 rfl rfl)⟩
set_option maxRecDepth 20000 in
theorem fl_X4_42 : FL RX4 42 4 15 := ⟨(RX4, TX4, 19), rfl, Nat.le_of_ble_eq_true rfl, cf4, Nat.le_of_ble_eq_true rfl, Or.inl (bw_t tt_2 30 rfl rfl)⟩
set_option maxRecDepth 20000 in
theorem fl_X4_45 : FL RX4 45 4 16 := ⟨(RX4, TX4, 19), rfl, Nat.le_of_ble_eq_true rfl, cf4, Nat.le_of_ble_eq_true rfl, Or.inl (bw_t tt_2 31 rfl rfl)⟩
set_option maxRecDepth 20000 in
theorem fl_X4_48 : FL RX4 48 4 5 := ⟨(RX4, TX4, 19), rfl, Nat.le_of_ble_eq_true rfl, cf4, Nat.le_of_ble_eq_true rfl, Or.inl (bw_t tt_2 18 rfl rfl)⟩
set_option maxRecDepth 20000 in
theorem fl_X4_52 : FL RX4 52 4 11 := ⟨(RX4, TX4, 19), rfl, Nat.le_of_ble_eq_true rfl, cf4, Nat.le_of_ble_eq_true rfl, Or.inl (bw_t tt_2 26 rfl rfl)⟩
set_option maxRecDepth 20000 in
theorem fl_X4_55 : FL RX4 55 4 1 := ⟨(RX4, TX4, 19), rfl, Nat.le_of_ble_eq_true rfl, cf4, Nat.le_of_ble_eq_true rfl, Or.inl (bw_t tt_2 11 rfl rfl)⟩
set_option maxRecDepth 20000 in
theorem fl_X4_58 : FL RX4 58 6 8 := ⟨(RX6, TX6, 16), rfl, Nat.le_of_ble_eq_true rfl, cf6, Nat.le_of_ble_eq_true rfl, Or.inr ⟨"BelowThread", nw_t tt_1 81 rfl rfl⟩⟩
set_option maxRecDepth 20000 in
theorem fl_X4_63 : FL RX4 63 6 3 := ⟨(RX6, TX6, 16), rfl, Nat.le_of_ble_eq_true rfl, cf6, Nat.le_of_ble_eq_true rfl, Or.inr ⟨"BelowThread", nw_t tt_1 59 rfl rfl⟩⟩
set_option maxRecDepth 20000 in
theorem fl_X4_66 : FL RX4 66 6 7 := ⟨(RX6, TX6, 16), rfl, Nat.le_of_ble_eq_true rfl, cf6, Nat.le_of_ble_eq_true rfl, Or.inr ⟨"BelowThread", nw_t tt_1 76 rfl rfl⟩⟩
set_option maxRecDepth 20000 in
theorem lk_X4_69 : LK RX4 69 yJ9_max_7cf53 := Or.inl (bw_t tt_4 82 rfl rfl)
set_option maxRecDepth 20000 in
theorem fl_X4_75 : FL RX4 75 4 4 := ⟨(RX4, TX4, 19), rfl, Nat.le_of_ble_eq_true rfl, cf4, Nat.le_of_ble_eq_true rfl, Or.inl (bw_t tt_2 16 rfl rfl)⟩
set_option maxRecDepth 20000 in
theorem lk_X4_78 : LK RX4 78 yX4_packs := Or.inl (bw_t tt_4 83 rfl rfl)
set_option maxRecDepth 20000 in
theorem lk_X4_82 : LK RX4 82 yX4_isLoadAhead := Or.inl (bw_t tt_4 87 rfl rfl)
set_option maxRecDepth 20000 in
theorem kc_X4_88 : Cond.constant RX4 88 (2147483647) ∈ BW := bw_t tt_4 103 rfl rfl
set_option maxRecDepth 20000 in
theorem fl_X4_89 : FL RX4 89 4 10 := ⟨(RX4, TX4, 19), rfl, Nat.le_of_ble_eq_true rfl, cf4, Nat.le_of_ble_eq_true rfl, Or.inl (bw_t tt_2 24 rfl rfl)⟩
set_option maxRecDepth 20000 in
theorem lk_X4_92 : LK RX4 92 yX4_giveOut := Or.inl (bw_t tt_4 120 rfl rfl)
set_option maxRecDepth 20000 in
theorem ac_X4_96 : AC RX4 96 := bw_t tt_4 124 rfl rfl
set_option maxRecDepth 20000 in
theorem fl_X4_102 : FL RX4 102 6 13 := ⟨(RX6, TX6, 16), rfl, Nat.le_of_ble_eq_true rfl, cf6, Nat.le_of_ble_eq_true rfl, Or.inr ⟨"BelowThread", nw_t tt_1 101 rfl rfl⟩⟩
set_option maxRecDepth 20000 in
theorem lk_X4_105 : LK RX4 105 yX4_listSpots := Or.inl (bw_t tt_4 99 rfl rfl)
set_option maxRecDepth 20000 in
theorem lk_X4_109 : LK RX4 109 yX4_costOf := Or.inl (bw_t tt_4 104 rfl rfl)
set_option maxRecDepth 20000 in
theorem fl_X4_113 : FL RX4 113 4 17 := ⟨(RX4, TX4, 19), rfl, Nat.le_of_ble_eq_true rfl, cf4, Nat.le_of_ble_eq_true rfl, Or.inl (bw_t tt_2 33 rfl rfl)⟩
set_option maxRecDepth 20000 in
theorem fl_X4_116 : FL RX4 116 4 18 := ⟨(RX4, TX4, 19), rfl, Nat.le_of_ble_eq_true rfl, cf4, Nat.le_of_ble_eq_true rfl, Or.inl (bw_t tt_2 35 rfl rfl)⟩
set_option maxRecDepth 20000 in
theorem lk_X4_119 : LK RX4 119 yX4_listStarts := Or.inl (bw_t tt_4 108 rfl rfl)
set_option maxRecDepth 20000 in
theorem fl_X4_123 : FL RX4 123 6 4 := ⟨(RX6, TX6, 16), rfl, Nat.le_of_ble_eq_true rfl, cf6, Nat.le_of_ble_eq_true rfl, Or.inr ⟨"BelowThread", nw_t tt_1 66 rfl rfl⟩⟩
set_option maxRecDepth 20000 in
theorem fl_X4_126 : FL RX4 126 6 6 := ⟨(RX6, TX6, 16), rfl, Nat.le_of_ble_eq_true rfl, cf6, Nat.le_of_ble_eq_true rfl, Or.inr ⟨"BelowThread", nw_t tt_1 74 rfl rfl⟩⟩
set_option maxRecDepth 20000 in
theorem fl_X4_129 : FL RX4 129 6 5 := ⟨(RX6, TX6, 16), rfl, Nat.le_of_ble_eq_true rfl, cf6, Nat.le_of_ble_eq_true rfl, Or.inr ⟨"BelowThread", nw_t tt_1 70 rfl rfl⟩⟩
set_option maxRecDepth 20000 in
theorem fl_X5_9 : FL RX5 9 5 0 := ⟨(RX5, TX5, 12), rfl, Nat.le_of_ble_eq_true rfl, cf5, Nat.le_of_ble_eq_true rfl, Or.inl (bw_t tt_1 148 rfl rfl)⟩
set_option maxRecDepth 20000 in
theorem fl_X5_15 : FL RX5 15 5 8 := ⟨(RX5, TX5, 12), rfl, Nat.le_of_ble_eq_true rfl, cf5, Nat.le_of_ble_eq_true rfl, Or.inl (bw_t tt_1 157 rfl rfl)⟩
set_option maxRecDepth 20000 in
theorem lk_X5_21 : LK RX5 21 yX3_init := Or.inr ⟨"BelowThread", nw_t tt_1 147 rfl rfl⟩
set_option maxRecDepth 20000 in
theorem fl_X5_22 : FL RX5 22 5 10 := ⟨(RX5, TX5, 12), rfl, Nat.le_of_ble_eq_true rfl, cf5, Nat.le_of_ble_eq_true rfl, Or.inl (bw_t tt_1 160 rfl rfl)⟩
set_option maxRecDepth 20000 in
theorem fl_X5_26 : FL RX5 26 5 11 := ⟨(RX5, TX5, 12), rfl, Nat.le_of_ble_eq_true rfl, cf5, Nat.le_of_ble_eq_true rfl, Or.inl (bw_t tt_1 162 rfl rfl)⟩
set_option maxRecDepth 20000 in
theorem lk_X5_29 : LK RX5 29 yJ9_min_7cf53 := Or.inl (bw_t tt_2 199 rfl rfl)
set_option maxRecDepth 20000 in
theorem fl_X5_35 : FL RX5 35 5 1 := ⟨(RX5, TX5, 12), rfl, Nat.le_of_ble_eq_true rfl, cf5, Nat.le_of_ble_eq_true rfl, Or.inl (bw_t tt_1 149 rfl rfl)⟩
set_option maxRecDepth 20000 in
theorem fl_X5_38 : FL RX5 38 5 2 := ⟨(RX5, TX5, 12), rfl, Nat.le_of_ble_eq_true rfl, cf5, Nat.le_of_ble_eq_true rfl, Or.inl (bw_t tt_1 150 rfl rfl)⟩
set_option maxRecDepth 20000 in
theorem fl_X5_41 : FL RX5 41 5 4 := ⟨(RX5, TX5, 12), rfl, Nat.le_of_ble_eq_true rfl, cf5, Nat.le_of_ble_eq_true rfl, Or.inl (bw_t tt_1 152 rfl rfl)⟩
set_option maxRecDepth 20000 in
theorem fl_X5_44 : FL RX5 44 5 7 := ⟨(RX5, TX5, 12), rfl, Nat.le_of_ble_eq_true rfl, cf5, Nat.le_of_ble_eq_true rfl, Or.inl (bw_t tt_1 155 rfl rfl)⟩
set_option maxRecDepth 20000 in
theorem fl_X5_47 : FL RX5 47 5 9 := ⟨(RX5, TX5, 12), rfl, Nat.le_of_ble_eq_true rfl, cf5, Nat.le_of_ble_eq_true rfl, Or.inl (bw_t tt_1 159 rfl rfl)⟩
set_option maxRecDepth 20000 in
theorem fl_X5_51 : FL RX5 51 3 2 := ⟨(RX3, TX3, 3), rfl, Nat.le_of_ble_eq_true rfl, cf3, Nat.le_of_ble_eq_true rfl, Or.inr ⟨"BelowThread", nw_t tt_1 40 rfl rfl⟩⟩
set_option maxRecDepth 20000 in
theorem lk_X5_54 : LK RX5 54 yX5_advance := Or.inl (bw_t tt_2 202 rfl rfl)
set_option maxRecDepth 20000 in
theorem fl_X5_57 : FL RX5 57 5 3 := ⟨(RX5, TX5, 12), rfl, Nat.le_of_ble_eq_true rfl, cf5, Nat.le_of_ble_eq_true rfl, Or.inl (bw_t tt_1 151 rfl rfl)⟩
set_option maxRecDepth 20000 in
theorem fl_X5_60 : FL RX5 60 5 5 := ⟨(RX5, TX5, 12), rfl, Nat.le_of_ble_eq_true rfl, cf5, Nat.le_of_ble_eq_true rfl, Or.inl (bw_t tt_1 153 rfl rfl)⟩
set_option maxRecDepth 20000 in
theorem lk_X5_63 : LK RX5 63 yX5_wordBetween := Or.inl (bw_t tt_2 206 rfl rfl)
set_option maxRecDepth 20000 in
theorem fl_X5_66 : FL RX5 66 5 6 := ⟨(RX5, TX5, 12), rfl, Nat.le_of_ble_eq_true rfl, cf5, Nat.le_of_ble_eq_true rfl, Or.inl (bw_t tt_1 154 rfl rfl)⟩
set_option maxRecDepth 20000 in
theorem lk_X5_71 : LK RX5 71 yJ0_length_8abf5 := Or.inl (bw_t tt_2 211 rfl rfl)
set_option maxRecDepth 20000 in
theorem lk_X5_76 : LK RX5 76 yJ0_charAt_5068e := Or.inl (bw_t tt_2 221 rfl rfl)
set_option maxRecDepth 20000 in
theorem lk_X5_80 : LK RX5 80 yX5_isWord := Or.inl (bw_t tt_3 27 rfl rfl)
set_option maxRecDepth 20000 in
theorem lk_X5_84 : LK RX5 84 yX5_fail := Or.inl (bw_t tt_3 19 rfl rfl)
set_option maxRecDepth 20000 in
theorem lk_X5_88 : LK RX5 88 yX6_clear := Or.inr ⟨"BelowThread", nw_t tt_2 194 rfl rfl⟩
set_option maxRecDepth 20000 in
theorem fl_X5_93 : FL RX5 93 6 9 := ⟨(RX6, TX6, 16), rfl, Nat.le_of_ble_eq_true rfl, cf6, Nat.le_of_ble_eq_true rfl, Or.inr ⟨"BelowThread", nw_t tt_1 88 rfl rfl⟩⟩
set_option maxRecDepth 20000 in
theorem lk_X5_96 : LK RX5 96 yX5_begin := Or.inl (bw_t tt_2 195 rfl rfl)
set_option maxRecDepth 20000 in
theorem lk_X5_100 : LK RX5 100 yX5_tellLengths := Or.inl (bw_t tt_3 23 rfl rfl)
set_option maxRecDepth 20000 in
theorem lk_X5_104 : LK RX5 104 yX5_tellSeam := Or.inl (bw_t tt_3 47 rfl rfl)
set_option maxRecDepth 20000 in
theorem lk_X5_107 : LK RX5 107 yX5_tellRule := Or.inl (bw_t tt_3 71 rfl rfl)
set_option maxRecDepth 20000 in
theorem lk_X5_110 : LK RX5 110 yX5_tellMinutes := Or.inl (bw_t tt_3 127 rfl rfl)
set_option maxRecDepth 20000 in
theorem lk_X5_114 : LK RX5 114 yX5_expectSign := Or.inl (bw_t tt_3 95 rfl rfl)
set_option maxRecDepth 20000 in
theorem fl_X5_118 : FL RX5 118 6 15 := ⟨(RX6, TX6, 16), rfl, Nat.le_of_ble_eq_true rfl, cf6, Nat.le_of_ble_eq_true rfl, Or.inr ⟨"BelowThread", nw_t tt_1 106 rfl rfl⟩⟩
set_option maxRecDepth 20000 in
theorem fl_X5_121 : FL RX5 121 6 13 := ⟨(RX6, TX6, 16), rfl, Nat.le_of_ble_eq_true rfl, cf6, Nat.le_of_ble_eq_true rfl, Or.inr ⟨"BelowThread", nw_t tt_1 102 rfl rfl⟩⟩
set_option maxRecDepth 20000 in
theorem zl_X5_124 : (Cond.fieldLink RX5 124 RX7 "LOWEST" "[I" ∈ BW) ∨ ∃ h, Cond.fieldLinkNest RX5 124 RX7 "LOWEST" "[I" h ∈ NW := Or.inr ⟨"BelowThread", nw_t tt_3 131 rfl rfl⟩
set_option maxRecDepth 20000 in
theorem zl_X5_127 : (Cond.fieldLink RX5 127 RX7 "HIGHEST" "[I" ∈ BW) ∨ ∃ h, Cond.fieldLinkNest RX5 127 RX7 "HIGHEST" "[I" h ∈ NW := Or.inr ⟨"BelowThread", nw_t tt_3 133 rfl rfl⟩
set_option maxRecDepth 20000 in
theorem lk_X5_130 : LK RX5 130 yX5_number := Or.inl (bw_t tt_3 35 rfl rfl)
set_option maxRecDepth 20000 in
theorem lk_X5_133 : LK RX5 133 yX5_expect := Or.inl (bw_t tt_3 31 rfl rfl)
set_option maxRecDepth 20000 in
theorem lk_X5_136 : LK RX5 136 yX6_hasLength := Or.inr ⟨"BelowThread", nw_t tt_3 39 rfl rfl⟩
set_option maxRecDepth 20000 in
theorem lk_X5_139 : LK RX5 139 yX6_addLength := Or.inr ⟨"BelowThread", nw_t tt_3 43 rfl rfl⟩
set_option maxRecDepth 20000 in
theorem fl_X5_142 : FL RX5 142 6 8 := ⟨(RX6, TX6, 16), rfl, Nat.le_of_ble_eq_true rfl, cf6, Nat.le_of_ble_eq_true rfl, Or.inr ⟨"BelowThread", nw_t tt_1 86 rfl rfl⟩⟩
set_option maxRecDepth 20000 in
theorem lk_X5_145 : LK RX5 145 yX5_name := Or.inl (bw_t tt_3 51 rfl rfl)
set_option maxRecDepth 20000 in
theorem lk_X5_148 : LK RX5 148 yX5_tellPlaces := Or.inl (bw_t tt_3 63 rfl rfl)
set_option maxRecDepth 20000 in
theorem lk_X5_152 : LK RX5 152 yX6_addSeam := Or.inr ⟨"BelowThread", nw_t tt_3 67 rfl rfl⟩
set_option maxRecDepth 20000 in
theorem fl_X5_156 : FL RX5 156 6 5 := ⟨(RX6, TX6, 16), rfl, Nat.le_of_ble_eq_true rfl, cf6, Nat.le_of_ble_eq_true rfl, Or.inr ⟨"BelowThread", nw_t tt_1 71 rfl rfl⟩⟩
set_option maxRecDepth 20000 in
theorem fl_X5_159 : FL RX5 159 6 11 := ⟨(RX6, TX6, 16), rfl, Nat.le_of_ble_eq_true rfl, cf6, Nat.le_of_ble_eq_true rfl, Or.inr ⟨"BelowThread", nw_t tt_1 92 rfl rfl⟩⟩
set_option maxRecDepth 20000 in
theorem lk_X5_162 : LK RX5 162 yX5_test := Or.inl (bw_t tt_3 75 rfl rfl)
set_option maxRecDepth 20000 in
theorem lk_X5_165 : LK RX5 165 yX6_addRule := Or.inr ⟨"BelowThread", nw_t tt_3 123 rfl rfl⟩
set_option maxRecDepth 20000 in
theorem fl_X5_168 : FL RX5 168 6 12 := ⟨(RX6, TX6, 16), rfl, Nat.le_of_ble_eq_true rfl, cf6, Nat.le_of_ble_eq_true rfl, Or.inr ⟨"BelowThread", nw_t tt_1 95 rfl rfl⟩⟩
set_option maxRecDepth 20000 in
theorem lk_X5_171 : LK RX5 171 yX6_isNamed := Or.inr ⟨"BelowThread", nw_t tt_3 55 rfl rfl⟩
set_option maxRecDepth 20000 in
theorem lk_X5_174 : LK RX5 174 yX5_sum := Or.inl (bw_t tt_3 99 rfl rfl)
set_option maxRecDepth 20000 in
theorem lk_X5_177 : LK RX5 177 yX5_both := Or.inl (bw_t tt_3 79 rfl rfl)
set_option maxRecDepth 20000 in
theorem lk_X5_180 : LK RX5 180 yX3_put := Or.inr ⟨"BelowThread", nw_t tt_3 91 rfl rfl⟩
set_option maxRecDepth 20000 in
theorem lk_X5_183 : LK RX5 183 yX5_fact := Or.inl (bw_t tt_3 83 rfl rfl)
set_option maxRecDepth 20000 in
theorem lk_X5_186 : LK RX5 186 yX5_enter := Or.inl (bw_t tt_3 87 rfl rfl)
set_option maxRecDepth 20000 in
theorem lk_X5_189 : LK RX5 189 yX5_product := Or.inl (bw_t tt_3 103 rfl rfl)
set_option maxRecDepth 20000 in
theorem lk_X5_192 : LK RX5 192 yX5_part := Or.inl (bw_t tt_3 107 rfl rfl)
set_option maxRecDepth 20000 in
theorem kc_X5_195 : Cond.constant RX5 195 (1000000) ∈ BW := bw_t tt_3 111 rfl rfl
set_option maxRecDepth 20000 in
theorem lk_X5_196 : LK RX5 196 yX5_pair := Or.inl (bw_t tt_3 112 rfl rfl)
set_option maxRecDepth 20000 in
theorem lk_X5_199 : LK RX5 199 yX5_namedPart := Or.inl (bw_t tt_3 116 rfl rfl)
set_option maxRecDepth 20000 in
theorem lk_X5_202 : LK RX5 202 yX5_stepOf := Or.inl (bw_t tt_3 120 rfl rfl)
set_option maxRecDepth 20000 in
theorem fl_X6_9 : FL RX6 9 6 0 := ⟨(RX6, TX6, 16), rfl, Nat.le_of_ble_eq_true rfl, cf6, Nat.le_of_ble_eq_true rfl, Or.inl (bw_t tt_1 50 rfl rfl)⟩
set_option maxRecDepth 20000 in
theorem fl_X6_15 : FL RX6 15 6 1 := ⟨(RX6, TX6, 16), rfl, Nat.le_of_ble_eq_true rfl, cf6, Nat.le_of_ble_eq_true rfl, Or.inl (bw_t tt_1 53 rfl rfl)⟩
set_option maxRecDepth 20000 in
theorem fl_X6_18 : FL RX6 18 6 3 := ⟨(RX6, TX6, 16), rfl, Nat.le_of_ble_eq_true rfl, cf6, Nat.le_of_ble_eq_true rfl, Or.inl (bw_t tt_1 57 rfl rfl)⟩
set_option maxRecDepth 20000 in
theorem fl_X6_21 : FL RX6 21 6 4 := ⟨(RX6, TX6, 16), rfl, Nat.le_of_ble_eq_true rfl, cf6, Nat.le_of_ble_eq_true rfl, Or.inl (bw_t tt_1 64 rfl rfl)⟩
set_option maxRecDepth 20000 in
theorem fl_X6_24 : FL RX6 24 6 5 := ⟨(RX6, TX6, 16), rfl, Nat.le_of_ble_eq_true rfl, cf6, Nat.le_of_ble_eq_true rfl, Or.inl (bw_t tt_1 68 rfl rfl)⟩
set_option maxRecDepth 20000 in
theorem fl_X6_27 : FL RX6 27 6 6 := ⟨(RX6, TX6, 16), rfl, Nat.le_of_ble_eq_true rfl, cf6, Nat.le_of_ble_eq_true rfl, Or.inl (bw_t tt_1 72 rfl rfl)⟩
set_option maxRecDepth 20000 in
theorem fl_X6_30 : FL RX6 30 6 7 := ⟨(RX6, TX6, 16), rfl, Nat.le_of_ble_eq_true rfl, cf6, Nat.le_of_ble_eq_true rfl, Or.inl (bw_t tt_1 75 rfl rfl)⟩
set_option maxRecDepth 20000 in
theorem lk_X6_35 : LK RX6 35 yX3_init := Or.inr ⟨"BelowThread", nw_t tt_1 32 rfl rfl⟩
set_option maxRecDepth 20000 in
theorem fl_X6_36 : FL RX6 36 6 9 := ⟨(RX6, TX6, 16), rfl, Nat.le_of_ble_eq_true rfl, cf6, Nat.le_of_ble_eq_true rfl, Or.inl (bw_t tt_1 87 rfl rfl)⟩
set_option maxRecDepth 20000 in
theorem fl_X6_40 : FL RX6 40 6 10 := ⟨(RX6, TX6, 16), rfl, Nat.le_of_ble_eq_true rfl, cf6, Nat.le_of_ble_eq_true rfl, Or.inl (bw_t tt_1 89 rfl rfl)⟩
set_option maxRecDepth 20000 in
theorem fl_X6_43 : FL RX6 43 6 12 := ⟨(RX6, TX6, 16), rfl, Nat.le_of_ble_eq_true rfl, cf6, Nat.le_of_ble_eq_true rfl, Or.inl (bw_t tt_1 93 rfl rfl)⟩
set_option maxRecDepth 20000 in
theorem fl_X6_46 : FL RX6 46 6 13 := ⟨(RX6, TX6, 16), rfl, Nat.le_of_ble_eq_true rfl, cf6, Nat.le_of_ble_eq_true rfl, Or.inl (bw_t tt_1 96 rfl rfl)⟩
set_option maxRecDepth 20000 in
theorem fl_X6_49 : FL RX6 49 6 14 := ⟨(RX6, TX6, 16), rfl, Nat.le_of_ble_eq_true rfl, cf6, Nat.le_of_ble_eq_true rfl, Or.inl (bw_t tt_1 103 rfl rfl)⟩
set_option maxRecDepth 20000 in
theorem fl_X6_52 : FL RX6 52 6 2 := ⟨(RX6, TX6, 16), rfl, Nat.le_of_ble_eq_true rfl, cf6, Nat.le_of_ble_eq_true rfl, Or.inl (bw_t tt_1 55 rfl rfl)⟩
set_option maxRecDepth 20000 in
theorem fl_X6_56 : FL RX6 56 6 8 := ⟨(RX6, TX6, 16), rfl, Nat.le_of_ble_eq_true rfl, cf6, Nat.le_of_ble_eq_true rfl, Or.inl (bw_t tt_1 79 rfl rfl)⟩
set_option maxRecDepth 20000 in
theorem fl_X6_59 : FL RX6 59 6 11 := ⟨(RX6, TX6, 16), rfl, Nat.le_of_ble_eq_true rfl, cf6, Nat.le_of_ble_eq_true rfl, Or.inl (bw_t tt_1 90 rfl rfl)⟩
set_option maxRecDepth 20000 in
theorem fl_X6_62 : FL RX6 62 6 15 := ⟨(RX6, TX6, 16), rfl, Nat.le_of_ble_eq_true rfl, cf6, Nat.le_of_ble_eq_true rfl, Or.inl (bw_t tt_1 104 rfl rfl)⟩
set_option maxRecDepth 20000 in
theorem fl_X6_65 : FL RX6 65 3 2 := ⟨(RX3, TX3, 3), rfl, Nat.le_of_ble_eq_true rfl, cf3, Nat.le_of_ble_eq_true rfl, Or.inr ⟨"BelowThread", nw_t tt_1 39 rfl rfl⟩⟩
set_option maxRecDepth 20000 in
theorem zl_X6_68 : (Cond.fieldLink RX6 68 RX7 "WITHOUT" "[I" ∈ BW) ∨ ∃ h, Cond.fieldLinkNest RX6 68 RX7 "WITHOUT" "[I" h ∈ NW := Or.inr ⟨"BelowThread", nw_t tt_2 122 rfl rfl⟩
set_option maxRecDepth 20000 in
theorem ac_X6_71 : AC RX6 71 := bw_t tt_2 124 rfl rfl
set_option maxRecDepth 20000 in
theorem lk_X6_77 : LK RX6 77 yX6_sameLetters := Or.inl (bw_t tt_3 59 rfl rfl)
set_option maxRecDepth 20000 in
theorem lk_X6_81 : LK RX6 81 yJ9_max_7cf53 := Or.inl (bw_t tt_3 224 rfl rfl)
set_option maxRecDepth 20000 in
theorem lk_X6_87 : LK RX6 87 yJ9_min_7cf53 := Or.inl (bw_t tt_3 219 rfl rfl)
set_option maxRecDepth 20000 in
theorem lk_X6_90 : LK RX6 90 yX6_leastLength := Or.inl (bw_t tt_3 215 rfl rfl)
set_option maxRecDepth 20000 in
theorem lk_X6_94 : LK RX6 94 yX6_greatestLength := Or.inl (bw_t tt_3 220 rfl rfl)
set_option maxRecDepth 20000 in
theorem lk_X6_97 : LK RX6 97 yX3_worth := Or.inr ⟨"BelowThread", nw_t tt_3 227 rfl rfl⟩
set_option maxRecDepth 20000 in
theorem lk_L_9 : LK RL 9 yX7_init := Or.inl (bw_t tt_1 18 rfl rfl)
set_option maxRecDepth 20000 in
theorem lk_L_12 : LK RL 12 yX8_init := Or.inl (bw_t tt_5 17 rfl rfl)
set_option maxRecDepth 20000 in
theorem lk_L_13 : LK RL 13 yX7_feed := Or.inl (bw_t tt_2 170 rfl rfl)
set_option maxRecDepth 20000 in
theorem lk_L_17 : LK RL 17 yX8_feed := Or.inl (bw_t tt_6 152 rfl rfl)
set_option maxRecDepth 20000 in
theorem lk_L_18 : LK RL 18 yX7_end := Or.inl (bw_t tt_2 182 rfl rfl)
set_option maxRecDepth 20000 in
theorem lk_L_22 : LK RL 22 yX8_end := Or.inl (bw_t tt_6 156 rfl rfl)
set_option maxRecDepth 20000 in
theorem lk_L_23 : LK RL 23 yX7_room := Or.inl (bw_t tt_2 186 rfl rfl)
set_option maxRecDepth 20000 in
theorem lk_L_27 : LK RL 27 yX8_room := Or.inl (bw_t tt_6 160 rfl rfl)
set_option maxRecDepth 20000 in
theorem lk_L_28 : LK RL 28 yX7_fault := Or.inl (bw_t tt_3 152 rfl rfl)
set_option maxRecDepth 20000 in
theorem lk_L_32 : LK RL 32 yX8_fault := Or.inl (bw_t tt_7 94 rfl rfl)
set_option maxRecDepth 20000 in
theorem lk_L_33 : LK RL 33 yX7_has := Or.inl (bw_t tt_3 156 rfl rfl)
set_option maxRecDepth 20000 in
theorem lk_L_36 : LK RL 36 yX8_has := Or.inl (bw_t tt_8 8 rfl rfl)
set_option maxRecDepth 20000 in
theorem lk_L_37 : LK RL 37 yX7_letter := Or.inl (bw_t tt_3 160 rfl rfl)
set_option maxRecDepth 20000 in
theorem lk_L_41 : LK RL 41 yX8_letter := Or.inl (bw_t tt_8 12 rfl rfl)
set_option maxRecDepth 20000 in
theorem lk_L_42 : LK RL 42 yX7_bobbin := Or.inl (bw_t tt_3 164 rfl rfl)
set_option maxRecDepth 20000 in
theorem lk_L_46 : LK RL 46 yX8_bobbin := Or.inl (bw_t tt_8 17 rfl rfl)
set_option maxRecDepth 20000 in
theorem lk_L_47 : LK RL 47 yX7_seam := Or.inl (bw_t tt_3 168 rfl rfl)
set_option maxRecDepth 20000 in
theorem lk_L_50 : LK RL 50 yX8_seam := Or.inl (bw_t tt_8 21 rfl rfl)
set_option maxRecDepth 20000 in
theorem lk_L_51 : LK RL 51 yX7_row := Or.inl (bw_t tt_3 172 rfl rfl)
set_option maxRecDepth 20000 in
theorem lk_L_55 : LK RL 55 yX8_row := Or.inl (bw_t tt_7 225 rfl rfl)
set_option maxRecDepth 20000 in
theorem lk_L_56 : LK RL 56 yX7_judge := Or.inl (bw_t tt_4 24 rfl rfl)
set_option maxRecDepth 20000 in
theorem lk_L_59 : LK RL 59 yX8_judge := Or.inl (bw_t tt_7 238 rfl rfl)
set_option maxRecDepth 20000 in
theorem lk_L_60 : LK RL 60 yX7_mean := Or.inl (bw_t tt_4 28 rfl rfl)
set_option maxRecDepth 20000 in
theorem lk_L_63 : LK RL 63 yX8_mean := Or.inl (bw_t tt_7 98 rfl rfl)
set_option maxRecDepth 20000 in
theorem lk_L_64 : LK RL 64 yX7_when := Or.inl (bw_t tt_4 45 rfl rfl)
set_option maxRecDepth 20000 in
theorem lk_L_67 : LK RL 67 yX8_when := Or.inl (bw_t tt_7 208 rfl rfl)
set_option maxRecDepth 20000 in
theorem lk_L_68 : LK RL 68 yX7_looks := Or.inl (bw_t tt_4 50 rfl rfl)
set_option maxRecDepth 20000 in
theorem lk_L_71 : LK RL 71 yX8_looks := Or.inl (bw_t tt_7 217 rfl rfl)
set_option maxRecDepth 20000 in
theorem lk_L_72 : LK RL 72 yX7_rule := Or.inl (bw_t tt_4 54 rfl rfl)
set_option maxRecDepth 20000 in
theorem lk_L_75 : LK RL 75 yX8_rule := Or.inl (bw_t tt_7 221 rfl rfl)
set_option maxRecDepth 20000 in
theorem lk_L_76 : LK RL 76 yX7_fewest := Or.inl (bw_t tt_4 58 rfl rfl)
set_option maxRecDepth 20000 in
theorem lk_L_79 : LK RL 79 yX8_fewest := Or.inl (bw_t tt_8 34 rfl rfl)
set_option maxRecDepth 20000 in
theorem lk_L_80 : LK RL 80 yX7_free := Or.inl (bw_t tt_4 74 rfl rfl)
set_option maxRecDepth 20000 in
theorem lk_L_83 : LK RL 83 yX8_free := Or.inl (bw_t tt_8 46 rfl rfl)
set_option maxRecDepth 20000 in
theorem lk_L_84 : LK RL 84 yX7_hidden := Or.inl (bw_t tt_4 91 rfl rfl)
set_option maxRecDepth 20000 in
theorem lk_L_87 : LK RL 87 yX8_hidden := Or.inl (bw_t tt_8 58 rfl rfl)
set_option maxRecDepth 20000 in
theorem lk_L_88 : LK RL 88 yX7_several := Or.inl (bw_t tt_4 112 rfl rfl)
set_option maxRecDepth 20000 in
theorem lk_L_91 : LK RL 91 yX8_several := Or.inl (bw_t tt_8 74 rfl rfl)
set_option maxRecDepth 20000 in
theorem lk_L_92 : LK RL 92 yX7_wound := Or.inl (bw_t tt_4 125 rfl rfl)
set_option maxRecDepth 20000 in
theorem lk_L_95 : LK RL 95 yX8_wound := Or.inl (bw_t tt_8 82 rfl rfl)
set_option maxRecDepth 20000 in
theorem lk_L_96 : LK RL 96 yX7_day := Or.inl (bw_t tt_4 131 rfl rfl)
set_option maxRecDepth 20000 in
theorem lk_L_99 : LK RL 99 yX8_day := Or.inl (bw_t tt_8 94 rfl rfl)
set_option maxRecDepth 20000 in
theorem lk_L_100 : LK RL 100 yX7_sew := Or.inl (bw_t tt_4 135 rfl rfl)
set_option maxRecDepth 20000 in
theorem lk_L_104 : LK RL 104 yX8_sew := Or.inl (bw_t tt_8 102 rfl rfl)
set_option maxRecDepth 20000 in
theorem lk_L_105 : LK RL 105 yX7_glance := Or.inl (bw_t tt_4 164 rfl rfl)
set_option maxRecDepth 20000 in
theorem lk_L_108 : LK RL 108 yX8_glance := Or.inl (bw_t tt_8 138 rfl rfl)
set_option maxRecDepth 20000 in
theorem lk_L_109 : LK RL 109 yX7_sews := Or.inl (bw_t tt_4 168 rfl rfl)
set_option maxRecDepth 20000 in
theorem lk_L_112 : LK RL 112 yX8_sews := Or.inl (bw_t tt_8 142 rfl rfl)
set_option maxRecDepth 20000 in
theorem lk_L_113 : LK RL 113 yX7_anew := Or.inl (bw_t tt_4 173 rfl rfl)
set_option maxRecDepth 20000 in
theorem lk_L_116 : LK RL 116 yX8_anew := Or.inl (bw_t tt_8 146 rfl rfl)
set_option maxRecDepth 20000 in
theorem lk_L_117 : LK RL 117 yX7_undo := Or.inl (bw_t tt_4 179 rfl rfl)
set_option maxRecDepth 20000 in
theorem lk_L_121 : LK RL 121 yX8_undo := Or.inl (bw_t tt_8 86 rfl rfl)
set_option maxRecDepth 20000 in
theorem lk_L_122 : LK RL 122 yX7_seed := Or.inl (bw_t tt_4 187 rfl rfl)
set_option maxRecDepth 20000 in
theorem lk_L_125 : LK RL 125 yX8_seed := Or.inl (bw_t tt_8 90 rfl rfl)
set_option maxRecDepth 20000 in
theorem lk_L_126 : LK RL 126 yX7_see := Or.inl (bw_t tt_4 191 rfl rfl)
set_option maxRecDepth 20000 in
theorem lk_L_129 : LK RL 129 yX8_see := Or.inl (bw_t tt_8 150 rfl rfl)
set_option maxRecDepth 20000 in
theorem lk_L_130 : LK RL 130 yX7_fits := Or.inl (bw_t tt_4 200 rfl rfl)
set_option maxRecDepth 20000 in
theorem lk_L_133 : LK RL 133 yX8_fits := Or.inl (bw_t tt_8 154 rfl rfl)
set_option maxRecDepth 20000 in
theorem lk_L_134 : LK RL 134 yX7_ask := Or.inl (bw_t tt_4 208 rfl rfl)
set_option maxRecDepth 20000 in
theorem lk_L_138 : LK RL 138 yX8_ask := Or.inl (bw_t tt_8 162 rfl rfl)
set_option maxRecDepth 20000 in
theorem lk_L_139 : LK RL 139 yX7_image := Or.inl (bw_t tt_4 231 rfl rfl)
set_option maxRecDepth 20000 in
theorem lk_L_142 : LK RL 142 yX8_image := Or.inl (bw_t tt_8 184 rfl rfl)
set_option maxRecDepth 20000 in
theorem lk_L_143 : LK RL 143 yX7_octet := Or.inl (bw_t tt_4 238 rfl rfl)
set_option maxRecDepth 20000 in
theorem lk_L_146 : LK RL 146 yX8_octet := Or.inl (bw_t tt_8 191 rfl rfl)
set_option maxRecDepth 20000 in
theorem lk_L_147 : LK RL 147 yX7_on := Or.inl (bw_t tt_5 2 rfl rfl)
set_option maxRecDepth 20000 in
theorem lk_L_150 : LK RL 150 yX8_on := Or.inl (bw_t tt_8 195 rfl rfl)
set_option maxRecDepth 20000 in
theorem lk_L_151 : LK RL 151 yX7_status := Or.inl (bw_t tt_5 11 rfl rfl)
set_option maxRecDepth 20000 in
theorem lk_L_154 : LK RL 154 yX8_status := Or.inl (bw_t tt_8 203 rfl rfl)
set_option maxRecDepth 20000 in
theorem fl_X8_7 : FL RX8 7 8 0 := ⟨(RX8, TX8, 123), rfl, Nat.le_of_ble_eq_true rfl, cf8, Nat.le_of_ble_eq_true rfl, Or.inl (bw_t tt_5 21 rfl rfl)⟩
set_option maxRecDepth 20000 in
theorem fl_X8_13 : FL RX8 13 8 8 := ⟨(RX8, TX8, 123), rfl, Nat.le_of_ble_eq_true rfl, cf8, Nat.le_of_ble_eq_true rfl, Or.inl (bw_t tt_5 29 rfl rfl)⟩
set_option maxRecDepth 20000 in
theorem fl_X8_17 : FL RX8 17 8 9 := ⟨(RX8, TX8, 123), rfl, Nat.le_of_ble_eq_true rfl, cf8, Nat.le_of_ble_eq_true rfl, Or.inl (bw_t tt_5 30 rfl rfl)⟩
set_option maxRecDepth 20000 in
theorem fl_X8_20 : FL RX8 20 8 11 := ⟨(RX8, TX8, 123), rfl, Nat.le_of_ble_eq_true rfl, cf8, Nat.le_of_ble_eq_true rfl, Or.inl (bw_t tt_5 32 rfl rfl)⟩
set_option maxRecDepth 20000 in
theorem fl_X8_24 : FL RX8 24 8 12 := ⟨(RX8, TX8, 123), rfl, Nat.le_of_ble_eq_true rfl, cf8, Nat.le_of_ble_eq_true rfl, Or.inl (bw_t tt_5 33 rfl rfl)⟩
set_option maxRecDepth 20000 in
theorem fl_X8_27 : FL RX8 27 8 13 := ⟨(RX8, TX8, 123), rfl, Nat.le_of_ble_eq_true rfl, cf8, Nat.le_of_ble_eq_true rfl, Or.inl (bw_t tt_5 34 rfl rfl)⟩
set_option maxRecDepth 20000 in
theorem fl_X8_30 : FL RX8 30 8 14 := ⟨(RX8, TX8, 123), rfl, Nat.le_of_ble_eq_true rfl, cf8, Nat.le_of_ble_eq_true rfl, Or.inl (bw_t tt_5 35 rfl rfl)⟩
set_option maxRecDepth 20000 in
theorem fl_X8_33 : FL RX8 33 8 15 := ⟨(RX8, TX8, 123), rfl, Nat.le_of_ble_eq_true rfl, cf8, Nat.le_of_ble_eq_true rfl, Or.inl (bw_t tt_5 36 rfl rfl)⟩
set_option maxRecDepth 20000 in
theorem fl_X8_36 : FL RX8 36 8 16 := ⟨(RX8, TX8, 123), rfl, Nat.le_of_ble_eq_true rfl, cf8, Nat.le_of_ble_eq_true rfl, Or.inl (bw_t tt_5 37 rfl rfl)⟩
set_option maxRecDepth 20000 in
theorem fl_X8_39 : FL RX8 39 8 17 := ⟨(RX8, TX8, 123), rfl, Nat.le_of_ble_eq_true rfl, cf8, Nat.le_of_ble_eq_true rfl, Or.inl (bw_t tt_5 38 rfl rfl)⟩
set_option maxRecDepth 20000 in
theorem fl_X8_42 : FL RX8 42 8 18 := ⟨(RX8, TX8, 123), rfl, Nat.le_of_ble_eq_true rfl, cf8, Nat.le_of_ble_eq_true rfl, Or.inl (bw_t tt_5 39 rfl rfl)⟩
set_option maxRecDepth 20000 in
theorem fl_X8_45 : FL RX8 45 8 19 := ⟨(RX8, TX8, 123), rfl, Nat.le_of_ble_eq_true rfl, cf8, Nat.le_of_ble_eq_true rfl, Or.inl (bw_t tt_5 40 rfl rfl)⟩
set_option maxRecDepth 20000 in
theorem fl_X8_48 : FL RX8 48 8 20 := ⟨(RX8, TX8, 123), rfl, Nat.le_of_ble_eq_true rfl, cf8, Nat.le_of_ble_eq_true rfl, Or.inl (bw_t tt_5 41 rfl rfl)⟩
set_option maxRecDepth 20000 in
theorem fl_X8_51 : FL RX8 51 8 21 := ⟨(RX8, TX8, 123), rfl, Nat.le_of_ble_eq_true rfl, cf8, Nat.le_of_ble_eq_true rfl, Or.inl (bw_t tt_5 42 rfl rfl)⟩
set_option maxRecDepth 20000 in
theorem fl_X8_54 : FL RX8 54 8 22 := ⟨(RX8, TX8, 123), rfl, Nat.le_of_ble_eq_true rfl, cf8, Nat.le_of_ble_eq_true rfl, Or.inl (bw_t tt_5 43 rfl rfl)⟩
set_option maxRecDepth 20000 in
theorem fl_X8_57 : FL RX8 57 8 23 := ⟨(RX8, TX8, 123), rfl, Nat.le_of_ble_eq_true rfl, cf8, Nat.le_of_ble_eq_true rfl, Or.inl (bw_t tt_5 44 rfl rfl)⟩
set_option maxRecDepth 20000 in
theorem fl_X8_60 : FL RX8 60 8 24 := ⟨(RX8, TX8, 123), rfl, Nat.le_of_ble_eq_true rfl, cf8, Nat.le_of_ble_eq_true rfl, Or.inl (bw_t tt_5 45 rfl rfl)⟩
set_option maxRecDepth 20000 in
theorem fl_X8_63 : FL RX8 63 8 25 := ⟨(RX8, TX8, 123), rfl, Nat.le_of_ble_eq_true rfl, cf8, Nat.le_of_ble_eq_true rfl, Or.inl (bw_t tt_5 46 rfl rfl)⟩
set_option maxRecDepth 20000 in
theorem fl_X8_66 : FL RX8 66 8 26 := ⟨(RX8, TX8, 123), rfl, Nat.le_of_ble_eq_true rfl, cf8, Nat.le_of_ble_eq_true rfl, Or.inl (bw_t tt_5 47 rfl rfl)⟩
set_option maxRecDepth 20000 in
theorem fl_X8_69 : FL RX8 69 8 27 := ⟨(RX8, TX8, 123), rfl, Nat.le_of_ble_eq_true rfl, cf8, Nat.le_of_ble_eq_true rfl, Or.inl (bw_t tt_5 48 rfl rfl)⟩
set_option maxRecDepth 20000 in
theorem fl_X8_72 : FL RX8 72 8 28 := ⟨(RX8, TX8, 123), rfl, Nat.le_of_ble_eq_true rfl, cf8, Nat.le_of_ble_eq_true rfl, Or.inl (bw_t tt_5 49 rfl rfl)⟩
set_option maxRecDepth 20000 in
theorem fl_X8_75 : FL RX8 75 8 29 := ⟨(RX8, TX8, 123), rfl, Nat.le_of_ble_eq_true rfl, cf8, Nat.le_of_ble_eq_true rfl, Or.inl (bw_t tt_5 50 rfl rfl)⟩
set_option maxRecDepth 20000 in
theorem fl_X8_78 : FL RX8 78 8 30 := ⟨(RX8, TX8, 123), rfl, Nat.le_of_ble_eq_true rfl, cf8, Nat.le_of_ble_eq_true rfl, Or.inl (bw_t tt_5 51 rfl rfl)⟩
set_option maxRecDepth 20000 in
theorem fl_X8_81 : FL RX8 81 8 31 := ⟨(RX8, TX8, 123), rfl, Nat.le_of_ble_eq_true rfl, cf8, Nat.le_of_ble_eq_true rfl, Or.inl (bw_t tt_5 52 rfl rfl)⟩
set_option maxRecDepth 20000 in
theorem fl_X8_84 : FL RX8 84 8 32 := ⟨(RX8, TX8, 123), rfl, Nat.le_of_ble_eq_true rfl, cf8, Nat.le_of_ble_eq_true rfl, Or.inl (bw_t tt_5 53 rfl rfl)⟩
set_option maxRecDepth 20000 in
theorem fl_X8_87 : FL RX8 87 8 33 := ⟨(RX8, TX8, 123), rfl, Nat.le_of_ble_eq_true rfl, cf8, Nat.le_of_ble_eq_true rfl, Or.inl (bw_t tt_5 54 rfl rfl)⟩
set_option maxRecDepth 20000 in
theorem fl_X8_90 : FL RX8 90 8 34 := ⟨(RX8, TX8, 123), rfl, Nat.le_of_ble_eq_true rfl, cf8, Nat.le_of_ble_eq_true rfl, Or.inl (bw_t tt_5 55 rfl rfl)⟩
set_option maxRecDepth 20000 in
theorem fl_X8_93 : FL RX8 93 8 35 := ⟨(RX8, TX8, 123), rfl, Nat.le_of_ble_eq_true rfl, cf8, Nat.le_of_ble_eq_true rfl, Or.inl (bw_t tt_5 56 rfl rfl)⟩
set_option maxRecDepth 20000 in
theorem fl_X8_96 : FL RX8 96 8 36 := ⟨(RX8, TX8, 123), rfl, Nat.le_of_ble_eq_true rfl, cf8, Nat.le_of_ble_eq_true rfl, Or.inl (bw_t tt_5 57 rfl rfl)⟩
set_option maxRecDepth 20000 in
theorem fl_X8_99 : FL RX8 99 8 37 := ⟨(RX8, TX8, 123), rfl, Nat.le_of_ble_eq_true rfl, cf8, Nat.le_of_ble_eq_true rfl, Or.inl (bw_t tt_5 58 rfl rfl)⟩
set_option maxRecDepth 20000 in
theorem fl_X8_102 : FL RX8 102 8 38 := ⟨(RX8, TX8, 123), rfl, Nat.le_of_ble_eq_true rfl, cf8, Nat.le_of_ble_eq_true rfl, Or.inl (bw_t tt_5 59 rfl rfl)⟩
set_option maxRecDepth 20000 in
theorem fl_X8_105 : FL RX8 105 8 39 := ⟨(RX8, TX8, 123), rfl, Nat.le_of_ble_eq_true rfl, cf8, Nat.le_of_ble_eq_true rfl, Or.inl (bw_t tt_5 60 rfl rfl)⟩
set_option maxRecDepth 20000 in
theorem fl_X8_108 : FL RX8 108 8 40 := ⟨(RX8, TX8, 123), rfl, Nat.le_of_ble_eq_true rfl, cf8, Nat.le_of_ble_eq_true rfl, Or.inl (bw_t tt_5 61 rfl rfl)⟩
set_option maxRecDepth 20000 in
theorem fl_X8_111 : FL RX8 111 8 42 := ⟨(RX8, TX8, 123), rfl, Nat.le_of_ble_eq_true rfl, cf8, Nat.le_of_ble_eq_true rfl, Or.inl (bw_t tt_5 63 rfl rfl)⟩
set_option maxRecDepth 20000 in
theorem fl_X8_114 : FL RX8 114 8 43 := ⟨(RX8, TX8, 123), rfl, Nat.le_of_ble_eq_true rfl, cf8, Nat.le_of_ble_eq_true rfl, Or.inl (bw_t tt_5 64 rfl rfl)⟩
set_option maxRecDepth 20000 in
theorem fl_X8_118 : FL RX8 118 8 44 := ⟨(RX8, TX8, 123), rfl, Nat.le_of_ble_eq_true rfl, cf8, Nat.le_of_ble_eq_true rfl, Or.inl (bw_t tt_5 65 rfl rfl)⟩
set_option maxRecDepth 20000 in
theorem fl_X8_121 : FL RX8 121 8 45 := ⟨(RX8, TX8, 123), rfl, Nat.le_of_ble_eq_true rfl, cf8, Nat.le_of_ble_eq_true rfl, Or.inl (bw_t tt_5 66 rfl rfl)⟩
set_option maxRecDepth 20000 in
theorem fl_X8_124 : FL RX8 124 8 46 := ⟨(RX8, TX8, 123), rfl, Nat.le_of_ble_eq_true rfl, cf8, Nat.le_of_ble_eq_true rfl, Or.inl (bw_t tt_5 67 rfl rfl)⟩
set_option maxRecDepth 20000 in
theorem fl_X8_127 : FL RX8 127 8 47 := ⟨(RX8, TX8, 123), rfl, Nat.le_of_ble_eq_true rfl, cf8, Nat.le_of_ble_eq_true rfl, Or.inl (bw_t tt_5 68 rfl rfl)⟩
set_option maxRecDepth 20000 in
theorem fl_X8_130 : FL RX8 130 8 48 := ⟨(RX8, TX8, 123), rfl, Nat.le_of_ble_eq_true rfl, cf8, Nat.le_of_ble_eq_true rfl, Or.inl (bw_t tt_5 69 rfl rfl)⟩
set_option maxRecDepth 20000 in
theorem fl_X8_133 : FL RX8 133 8 49 := ⟨(RX8, TX8, 123), rfl, Nat.le_of_ble_eq_true rfl, cf8, Nat.le_of_ble_eq_true rfl, Or.inl (bw_t tt_5 70 rfl rfl)⟩
set_option maxRecDepth 20000 in
theorem fl_X8_136 : FL RX8 136 8 50 := ⟨(RX8, TX8, 123), rfl, Nat.le_of_ble_eq_true rfl, cf8, Nat.le_of_ble_eq_true rfl, Or.inl (bw_t tt_5 71 rfl rfl)⟩
set_option maxRecDepth 20000 in
theorem fl_X8_139 : FL RX8 139 8 58 := ⟨(RX8, TX8, 123), rfl, Nat.le_of_ble_eq_true rfl, cf8, Nat.le_of_ble_eq_true rfl, Or.inl (bw_t tt_5 79 rfl rfl)⟩
set_option maxRecDepth 20000 in
theorem fl_X8_142 : FL RX8 142 8 59 := ⟨(RX8, TX8, 123), rfl, Nat.le_of_ble_eq_true rfl, cf8, Nat.le_of_ble_eq_true rfl, Or.inl (bw_t tt_5 80 rfl rfl)⟩
set_option maxRecDepth 20000 in
theorem fl_X8_145 : FL RX8 145 8 60 := ⟨(RX8, TX8, 123), rfl, Nat.le_of_ble_eq_true rfl, cf8, Nat.le_of_ble_eq_true rfl, Or.inl (bw_t tt_5 81 rfl rfl)⟩
set_option maxRecDepth 20000 in
theorem fl_X8_148 : FL RX8 148 8 61 := ⟨(RX8, TX8, 123), rfl, Nat.le_of_ble_eq_true rfl, cf8, Nat.le_of_ble_eq_true rfl, Or.inl (bw_t tt_5 82 rfl rfl)⟩
set_option maxRecDepth 20000 in
theorem fl_X8_151 : FL RX8 151 8 62 := ⟨(RX8, TX8, 123), rfl, Nat.le_of_ble_eq_true rfl, cf8, Nat.le_of_ble_eq_true rfl, Or.inl (bw_t tt_5 83 rfl rfl)⟩
set_option maxRecDepth 20000 in
theorem fl_X8_154 : FL RX8 154 8 63 := ⟨(RX8, TX8, 123), rfl, Nat.le_of_ble_eq_true rfl, cf8, Nat.le_of_ble_eq_true rfl, Or.inl (bw_t tt_5 84 rfl rfl)⟩
set_option maxRecDepth 20000 in
theorem fl_X8_157 : FL RX8 157 8 65 := ⟨(RX8, TX8, 123), rfl, Nat.le_of_ble_eq_true rfl, cf8, Nat.le_of_ble_eq_true rfl, Or.inl (bw_t tt_5 86 rfl rfl)⟩
set_option maxRecDepth 20000 in
theorem fl_X8_160 : FL RX8 160 8 67 := ⟨(RX8, TX8, 123), rfl, Nat.le_of_ble_eq_true rfl, cf8, Nat.le_of_ble_eq_true rfl, Or.inl (bw_t tt_5 88 rfl rfl)⟩
set_option maxRecDepth 20000 in
theorem fl_X8_163 : FL RX8 163 8 68 := ⟨(RX8, TX8, 123), rfl, Nat.le_of_ble_eq_true rfl, cf8, Nat.le_of_ble_eq_true rfl, Or.inl (bw_t tt_5 89 rfl rfl)⟩
set_option maxRecDepth 20000 in
theorem fl_X8_166 : FL RX8 166 8 69 := ⟨(RX8, TX8, 123), rfl, Nat.le_of_ble_eq_true rfl, cf8, Nat.le_of_ble_eq_true rfl, Or.inl (bw_t tt_5 90 rfl rfl)⟩
set_option maxRecDepth 20000 in
theorem fl_X8_169 : FL RX8 169 8 70 := ⟨(RX8, TX8, 123), rfl, Nat.le_of_ble_eq_true rfl, cf8, Nat.le_of_ble_eq_true rfl, Or.inl (bw_t tt_5 91 rfl rfl)⟩
set_option maxRecDepth 20000 in
theorem fl_X8_172 : FL RX8 172 8 71 := ⟨(RX8, TX8, 123), rfl, Nat.le_of_ble_eq_true rfl, cf8, Nat.le_of_ble_eq_true rfl, Or.inl (bw_t tt_5 92 rfl rfl)⟩
set_option maxRecDepth 20000 in
theorem fl_X8_175 : FL RX8 175 8 72 := ⟨(RX8, TX8, 123), rfl, Nat.le_of_ble_eq_true rfl, cf8, Nat.le_of_ble_eq_true rfl, Or.inl (bw_t tt_5 93 rfl rfl)⟩
set_option maxRecDepth 20000 in
theorem fl_X8_178 : FL RX8 178 8 73 := ⟨(RX8, TX8, 123), rfl, Nat.le_of_ble_eq_true rfl, cf8, Nat.le_of_ble_eq_true rfl, Or.inl (bw_t tt_5 94 rfl rfl)⟩
set_option maxRecDepth 20000 in
theorem fl_X8_181 : FL RX8 181 8 74 := ⟨(RX8, TX8, 123), rfl, Nat.le_of_ble_eq_true rfl, cf8, Nat.le_of_ble_eq_true rfl, Or.inl (bw_t tt_5 95 rfl rfl)⟩
set_option maxRecDepth 20000 in
theorem fl_X8_184 : FL RX8 184 8 76 := ⟨(RX8, TX8, 123), rfl, Nat.le_of_ble_eq_true rfl, cf8, Nat.le_of_ble_eq_true rfl, Or.inl (bw_t tt_5 97 rfl rfl)⟩
set_option maxRecDepth 20000 in
theorem fl_X8_187 : FL RX8 187 8 77 := ⟨(RX8, TX8, 123), rfl, Nat.le_of_ble_eq_true rfl, cf8, Nat.le_of_ble_eq_true rfl, Or.inl (bw_t tt_5 98 rfl rfl)⟩
set_option maxRecDepth 20000 in
theorem fl_X8_190 : FL RX8 190 8 78 := ⟨(RX8, TX8, 123), rfl, Nat.le_of_ble_eq_true rfl, cf8, Nat.le_of_ble_eq_true rfl, Or.inl (bw_t tt_5 99 rfl rfl)⟩
set_option maxRecDepth 20000 in
theorem fl_X8_193 : FL RX8 193 8 79 := ⟨(RX8, TX8, 123), rfl, Nat.le_of_ble_eq_true rfl, cf8, Nat.le_of_ble_eq_true rfl, Or.inl (bw_t tt_5 100 rfl rfl)⟩
set_option maxRecDepth 20000 in
theorem fl_X8_196 : FL RX8 196 8 80 := ⟨(RX8, TX8, 123), rfl, Nat.le_of_ble_eq_true rfl, cf8, Nat.le_of_ble_eq_true rfl, Or.inl (bw_t tt_5 101 rfl rfl)⟩
set_option maxRecDepth 20000 in
theorem fl_X8_199 : FL RX8 199 8 81 := ⟨(RX8, TX8, 123), rfl, Nat.le_of_ble_eq_true rfl, cf8, Nat.le_of_ble_eq_true rfl, Or.inl (bw_t tt_5 102 rfl rfl)⟩
set_option maxRecDepth 20000 in
theorem fl_X8_202 : FL RX8 202 8 82 := ⟨(RX8, TX8, 123), rfl, Nat.le_of_ble_eq_true rfl, cf8, Nat.le_of_ble_eq_true rfl, Or.inl (bw_t tt_5 103 rfl rfl)⟩
set_option maxRecDepth 20000 in
theorem fl_X8_205 : FL RX8 205 8 85 := ⟨(RX8, TX8, 123), rfl, Nat.le_of_ble_eq_true rfl, cf8, Nat.le_of_ble_eq_true rfl, Or.inl (bw_t tt_5 106 rfl rfl)⟩
set_option maxRecDepth 20000 in
theorem fl_X8_209 : FL RX8 209 8 89 := ⟨(RX8, TX8, 123), rfl, Nat.le_of_ble_eq_true rfl, cf8, Nat.le_of_ble_eq_true rfl, Or.inl (bw_t tt_5 110 rfl rfl)⟩
set_option maxRecDepth 20000 in
theorem fl_X8_212 : FL RX8 212 8 90 := ⟨(RX8, TX8, 123), rfl, Nat.le_of_ble_eq_true rfl, cf8, Nat.le_of_ble_eq_true rfl, Or.inl (bw_t tt_5 111 rfl rfl)⟩
set_option maxRecDepth 20000 in
theorem fl_X8_215 : FL RX8 215 8 91 := ⟨(RX8, TX8, 123), rfl, Nat.le_of_ble_eq_true rfl, cf8, Nat.le_of_ble_eq_true rfl, Or.inl (bw_t tt_5 112 rfl rfl)⟩
set_option maxRecDepth 20000 in
theorem fl_X8_218 : FL RX8 218 8 92 := ⟨(RX8, TX8, 123), rfl, Nat.le_of_ble_eq_true rfl, cf8, Nat.le_of_ble_eq_true rfl, Or.inl (bw_t tt_5 113 rfl rfl)⟩
set_option maxRecDepth 20000 in
theorem fl_X8_221 : FL RX8 221 8 93 := ⟨(RX8, TX8, 123), rfl, Nat.le_of_ble_eq_true rfl, cf8, Nat.le_of_ble_eq_true rfl, Or.inl (bw_t tt_5 114 rfl rfl)⟩
set_option maxRecDepth 20000 in
theorem fl_X8_224 : FL RX8 224 8 94 := ⟨(RX8, TX8, 123), rfl, Nat.le_of_ble_eq_true rfl, cf8, Nat.le_of_ble_eq_true rfl, Or.inl (bw_t tt_5 115 rfl rfl)⟩
set_option maxRecDepth 20000 in
theorem fl_X8_227 : FL RX8 227 8 95 := ⟨(RX8, TX8, 123), rfl, Nat.le_of_ble_eq_true rfl, cf8, Nat.le_of_ble_eq_true rfl, Or.inl (bw_t tt_5 116 rfl rfl)⟩
set_option maxRecDepth 20000 in
theorem fl_X8_230 : FL RX8 230 8 96 := ⟨(RX8, TX8, 123), rfl, Nat.le_of_ble_eq_true rfl, cf8, Nat.le_of_ble_eq_true rfl, Or.inl (bw_t tt_5 117 rfl rfl)⟩
set_option maxRecDepth 20000 in
theorem fl_X8_233 : FL RX8 233 8 97 := ⟨(RX8, TX8, 123), rfl, Nat.le_of_ble_eq_true rfl, cf8, Nat.le_of_ble_eq_true rfl, Or.inl (bw_t tt_5 118 rfl rfl)⟩
set_option maxRecDepth 20000 in
theorem fl_X8_236 : FL RX8 236 8 98 := ⟨(RX8, TX8, 123), rfl, Nat.le_of_ble_eq_true rfl, cf8, Nat.le_of_ble_eq_true rfl, Or.inl (bw_t tt_5 119 rfl rfl)⟩
set_option maxRecDepth 20000 in
theorem fl_X8_239 : FL RX8 239 8 99 := ⟨(RX8, TX8, 123), rfl, Nat.le_of_ble_eq_true rfl, cf8, Nat.le_of_ble_eq_true rfl, Or.inl (bw_t tt_5 120 rfl rfl)⟩
set_option maxRecDepth 20000 in
theorem fl_X8_242 : FL RX8 242 8 100 := ⟨(RX8, TX8, 123), rfl, Nat.le_of_ble_eq_true rfl, cf8, Nat.le_of_ble_eq_true rfl, Or.inl (bw_t tt_5 121 rfl rfl)⟩
set_option maxRecDepth 20000 in
theorem fl_X8_245 : FL RX8 245 8 101 := ⟨(RX8, TX8, 123), rfl, Nat.le_of_ble_eq_true rfl, cf8, Nat.le_of_ble_eq_true rfl, Or.inl (bw_t tt_5 122 rfl rfl)⟩
set_option maxRecDepth 20000 in
theorem fl_X8_248 : FL RX8 248 8 102 := ⟨(RX8, TX8, 123), rfl, Nat.le_of_ble_eq_true rfl, cf8, Nat.le_of_ble_eq_true rfl, Or.inl (bw_t tt_5 123 rfl rfl)⟩
set_option maxRecDepth 20000 in
theorem fl_X8_251 : FL RX8 251 8 103 := ⟨(RX8, TX8, 123), rfl, Nat.le_of_ble_eq_true rfl, cf8, Nat.le_of_ble_eq_true rfl, Or.inl (bw_t tt_5 124 rfl rfl)⟩
set_option maxRecDepth 20000 in
theorem fl_X8_254 : FL RX8 254 8 104 := ⟨(RX8, TX8, 123), rfl, Nat.le_of_ble_eq_true rfl, cf8, Nat.le_of_ble_eq_true rfl, Or.inl (bw_t tt_5 125 rfl rfl)⟩
set_option maxRecDepth 20000 in
theorem fl_X8_257 : FL RX8 257 8 105 := ⟨(RX8, TX8, 123), rfl, Nat.le_of_ble_eq_true rfl, cf8, Nat.le_of_ble_eq_true rfl, Or.inl (bw_t tt_5 126 rfl rfl)⟩
set_option maxRecDepth 20000 in
theorem fl_X8_260 : FL RX8 260 8 106 := ⟨(RX8, TX8, 123), rfl, Nat.le_of_ble_eq_true rfl, cf8, Nat.le_of_ble_eq_true rfl, Or.inl (bw_t tt_5 127 rfl rfl)⟩
set_option maxRecDepth 20000 in
theorem fl_X8_263 : FL RX8 263 8 107 := ⟨(RX8, TX8, 123), rfl, Nat.le_of_ble_eq_true rfl, cf8, Nat.le_of_ble_eq_true rfl, Or.inl (bw_t tt_5 128 rfl rfl)⟩
set_option maxRecDepth 20000 in
theorem fl_X8_266 : FL RX8 266 8 108 := ⟨(RX8, TX8, 123), rfl, Nat.le_of_ble_eq_true rfl, cf8, Nat.le_of_ble_eq_true rfl, Or.inl (bw_t tt_5 129 rfl rfl)⟩
set_option maxRecDepth 20000 in
theorem fl_X8_269 : FL RX8 269 8 109 := ⟨(RX8, TX8, 123), rfl, Nat.le_of_ble_eq_true rfl, cf8, Nat.le_of_ble_eq_true rfl, Or.inl (bw_t tt_5 130 rfl rfl)⟩
set_option maxRecDepth 20000 in
theorem fl_X8_272 : FL RX8 272 8 110 := ⟨(RX8, TX8, 123), rfl, Nat.le_of_ble_eq_true rfl, cf8, Nat.le_of_ble_eq_true rfl, Or.inl (bw_t tt_5 131 rfl rfl)⟩
set_option maxRecDepth 20000 in
theorem fl_X8_275 : FL RX8 275 8 111 := ⟨(RX8, TX8, 123), rfl, Nat.le_of_ble_eq_true rfl, cf8, Nat.le_of_ble_eq_true rfl, Or.inl (bw_t tt_5 132 rfl rfl)⟩
set_option maxRecDepth 20000 in
theorem fl_X8_278 : FL RX8 278 8 113 := ⟨(RX8, TX8, 123), rfl, Nat.le_of_ble_eq_true rfl, cf8, Nat.le_of_ble_eq_true rfl, Or.inl (bw_t tt_5 134 rfl rfl)⟩
set_option maxRecDepth 20000 in
theorem fl_X8_281 : FL RX8 281 8 117 := ⟨(RX8, TX8, 123), rfl, Nat.le_of_ble_eq_true rfl, cf8, Nat.le_of_ble_eq_true rfl, Or.inl (bw_t tt_5 138 rfl rfl)⟩
set_option maxRecDepth 20000 in
theorem fl_X8_284 : FL RX8 284 8 121 := ⟨(RX8, TX8, 123), rfl, Nat.le_of_ble_eq_true rfl, cf8, Nat.le_of_ble_eq_true rfl, Or.inl (bw_t tt_5 142 rfl rfl)⟩
set_option maxRecDepth 20000 in
theorem fl_X8_287 : FL RX8 287 8 1 := ⟨(RX8, TX8, 123), rfl, Nat.le_of_ble_eq_true rfl, cf8, Nat.le_of_ble_eq_true rfl, Or.inl (bw_t tt_5 22 rfl rfl)⟩
set_option maxRecDepth 20000 in
theorem fl_X8_290 : FL RX8 290 8 5 := ⟨(RX8, TX8, 123), rfl, Nat.le_of_ble_eq_true rfl, cf8, Nat.le_of_ble_eq_true rfl, Or.inl (bw_t tt_5 26 rfl rfl)⟩
set_option maxRecDepth 20000 in
theorem fl_X8_293 : FL RX8 293 8 6 := ⟨(RX8, TX8, 123), rfl, Nat.le_of_ble_eq_true rfl, cf8, Nat.le_of_ble_eq_true rfl, Or.inl (bw_t tt_5 27 rfl rfl)⟩
set_option maxRecDepth 20000 in
theorem fl_X8_296 : FL RX8 296 8 2 := ⟨(RX8, TX8, 123), rfl, Nat.le_of_ble_eq_true rfl, cf8, Nat.le_of_ble_eq_true rfl, Or.inl (bw_t tt_5 23 rfl rfl)⟩
set_option maxRecDepth 20000 in
theorem fl_X8_299 : FL RX8 299 8 3 := ⟨(RX8, TX8, 123), rfl, Nat.le_of_ble_eq_true rfl, cf8, Nat.le_of_ble_eq_true rfl, Or.inl (bw_t tt_5 24 rfl rfl)⟩
set_option maxRecDepth 20000 in
theorem lk_X8_302 : LK RX8 302 yX8_look := Or.inl (bw_t tt_6 180 rfl rfl)
set_option maxRecDepth 20000 in
theorem lk_X8_306 : LK RX8 306 yX8_isLetter := Or.inl (bw_t tt_6 184 rfl rfl)
set_option maxRecDepth 20000 in
theorem fl_X8_310 : FL RX8 310 8 4 := ⟨(RX8, TX8, 123), rfl, Nat.le_of_ble_eq_true rfl, cf8, Nat.le_of_ble_eq_true rfl, Or.inl (bw_t tt_5 25 rfl rfl)⟩
set_option maxRecDepth 20000 in
theorem lk_X8_313 : LK RX8 313 yX8_isHere := Or.inl (bw_t tt_6 176 rfl rfl)
set_option maxRecDepth 20000 in
theorem lk_X8_317 : LK RX8 317 yX8_takes := Or.inl (bw_t tt_6 172 rfl rfl)
set_option maxRecDepth 20000 in
theorem lk_X8_320 : LK RX8 320 yX8_fail := Or.inl (bw_t tt_6 187 rfl rfl)
set_option maxRecDepth 20000 in
theorem lk_X8_324 : LK RX8 324 yX8_takesSign := Or.inl (bw_t tt_6 217 rfl rfl)
set_option maxRecDepth 20000 in
theorem lk_X8_327 : LK RX8 327 yX8_isDigit := Or.inl (bw_t tt_6 199 rfl rfl)
set_option maxRecDepth 20000 in
theorem fl_X8_330 : FL RX8 330 8 10 := ⟨(RX8, TX8, 123), rfl, Nat.le_of_ble_eq_true rfl, cf8, Nat.le_of_ble_eq_true rfl, Or.inl (bw_t tt_5 31 rfl rfl)⟩
set_option maxRecDepth 20000 in
theorem lk_X8_333 : LK RX8 333 yX8_isIn := Or.inl (bw_t tt_6 202 rfl rfl)
set_option maxRecDepth 20000 in
theorem lk_X8_337 : LK RX8 337 yX8_isOwnHere := Or.inl (bw_t tt_6 237 rfl rfl)
set_option maxRecDepth 20000 in
theorem fl_X8_341 : FL RX8 341 8 41 := ⟨(RX8, TX8, 123), rfl, Nat.le_of_ble_eq_true rfl, cf8, Nat.le_of_ble_eq_true rfl, Or.inl (bw_t tt_5 62 rfl rfl)⟩
set_option maxRecDepth 20000 in
theorem kc_X8_344 : Cond.constantLong RX8 344 (27) ∈ BW := bw_t tt_7 1 rfl rfl
set_option maxRecDepth 20000 in
theorem kc_X8_346 : Cond.constantLong RX8 346 (97) ∈ BW := bw_t tt_7 2 rfl rfl
set_option maxRecDepth 20000 in
theorem fl_X8_348 : FL RX8 348 8 54 := ⟨(RX8, TX8, 123), rfl, Nat.le_of_ble_eq_true rfl, cf8, Nat.le_of_ble_eq_true rfl, Or.inl (bw_t tt_5 75 rfl rfl)⟩
set_option maxRecDepth 20000 in
theorem lk_X8_352 : LK RX8 352 yX8_name := Or.inl (bw_t tt_6 233 rfl rfl)
set_option maxRecDepth 20000 in
theorem lk_X8_356 : LK RX8 356 yX8_asks := Or.inl (bw_t tt_6 168 rfl rfl)
set_option maxRecDepth 20000 in
theorem lk_X8_360 : LK RX8 360 yX8_number := Or.inl (bw_t tt_6 195 rfl rfl)
set_option maxRecDepth 20000 in
theorem lk_X8_364 : LK RX8 364 yX8_allOdds := Or.inl (bw_t tt_6 205 rfl rfl)
set_option maxRecDepth 20000 in
theorem lk_X8_367 : LK RX8 367 yX8_lengthTold := Or.inl (bw_t tt_6 191 rfl rfl)
set_option maxRecDepth 20000 in
theorem lk_X8_370 : LK RX8 370 yX8_isWordHere := Or.inl (bw_t tt_6 209 rfl rfl)
set_option maxRecDepth 20000 in
theorem lk_X8_373 : LK RX8 373 yX8_asksSign := Or.inl (bw_t tt_6 213 rfl rfl)
set_option maxRecDepth 20000 in
theorem lk_X8_377 : LK RX8 377 yX8_newName := Or.inl (bw_t tt_6 229 rfl rfl)
set_option maxRecDepth 20000 in
theorem lk_X8_380 : LK RX8 380 yX8_placeTold := Or.inl (bw_t tt_7 3 rfl rfl)
set_option maxRecDepth 20000 in
theorem fl_X8_383 : FL RX8 383 8 112 := ⟨(RX8, TX8, 123), rfl, Nat.le_of_ble_eq_true rfl, cf8, Nat.le_of_ble_eq_true rfl, Or.inl (bw_t tt_5 133 rfl rfl)⟩
set_option maxRecDepth 20000 in
theorem fl_X8_386 : FL RX8 386 8 114 := ⟨(RX8, TX8, 123), rfl, Nat.le_of_ble_eq_true rfl, cf8, Nat.le_of_ble_eq_true rfl, Or.inl (bw_t tt_5 135 rfl rfl)⟩
set_option maxRecDepth 20000 in
theorem fl_X8_389 : FL RX8 389 8 115 := ⟨(RX8, TX8, 123), rfl, Nat.le_of_ble_eq_true rfl, cf8, Nat.le_of_ble_eq_true rfl, Or.inl (bw_t tt_5 136 rfl rfl)⟩
set_option maxRecDepth 20000 in
theorem fl_X8_392 : FL RX8 392 8 116 := ⟨(RX8, TX8, 123), rfl, Nat.le_of_ble_eq_true rfl, cf8, Nat.le_of_ble_eq_true rfl, Or.inl (bw_t tt_5 137 rfl rfl)⟩
set_option maxRecDepth 20000 in
theorem lk_X8_395 : LK RX8 395 yX8_qTest := Or.inl (bw_t tt_7 11 rfl rfl)
set_option maxRecDepth 20000 in
theorem fl_X8_398 : FL RX8 398 8 51 := ⟨(RX8, TX8, 123), rfl, Nat.le_of_ble_eq_true rfl, cf8, Nat.le_of_ble_eq_true rfl, Or.inl (bw_t tt_5 72 rfl rfl)⟩
set_option maxRecDepth 20000 in
theorem fl_X8_401 : FL RX8 401 8 52 := ⟨(RX8, TX8, 123), rfl, Nat.le_of_ble_eq_true rfl, cf8, Nat.le_of_ble_eq_true rfl, Or.inl (bw_t tt_5 73 rfl rfl)⟩
set_option maxRecDepth 20000 in
theorem lk_X8_404 : LK RX8 404 yX8_seamTold := Or.inl (bw_t tt_6 225 rfl rfl)
set_option maxRecDepth 20000 in
theorem lk_X8_407 : LK RX8 407 yX8_ruleTold := Or.inl (bw_t tt_7 7 rfl rfl)
set_option maxRecDepth 20000 in
theorem lk_X8_410 : LK RX8 410 yX8_bobbinTold := Or.inl (bw_t tt_6 164 rfl rfl)
set_option maxRecDepth 20000 in
theorem lk_X8_413 : LK RX8 413 yX8_statementTold := Or.inl (bw_t tt_6 221 rfl rfl)
set_option maxRecDepth 20000 in
theorem fl_X8_416 : FL RX8 416 8 7 := ⟨(RX8, TX8, 123), rfl, Nat.le_of_ble_eq_true rfl, cf8, Nat.le_of_ble_eq_true rfl, Or.inl (bw_t tt_5 28 rfl rfl)⟩
set_option maxRecDepth 20000 in
theorem lk_X8_419 : LK RX8 419 yX8_stands := Or.inl (bw_t tt_7 90 rfl rfl)
set_option maxRecDepth 20000 in
theorem fl_X8_422 : FL RX8 422 8 53 := ⟨(RX8, TX8, 123), rfl, Nat.le_of_ble_eq_true rfl, cf8, Nat.le_of_ble_eq_true rfl, Or.inl (bw_t tt_5 74 rfl rfl)⟩
set_option maxRecDepth 20000 in
theorem fl_X8_425 : FL RX8 425 8 83 := ⟨(RX8, TX8, 123), rfl, Nat.le_of_ble_eq_true rfl, cf8, Nat.le_of_ble_eq_true rfl, Or.inl (bw_t tt_5 104 rfl rfl)⟩
set_option maxRecDepth 20000 in
theorem fl_X8_428 : FL RX8 428 8 88 := ⟨(RX8, TX8, 123), rfl, Nat.le_of_ble_eq_true rfl, cf8, Nat.le_of_ble_eq_true rfl, Or.inl (bw_t tt_5 109 rfl rfl)⟩
set_option maxRecDepth 20000 in
theorem lk_X8_431 : LK RX8 431 yX8_seamMany := Or.inl (bw_t tt_7 106 rfl rfl)
set_option maxRecDepth 20000 in
theorem lk_X8_434 : LK RX8 434 yX8_takesOf := Or.inl (bw_t tt_7 123 rfl rfl)
set_option maxRecDepth 20000 in
theorem lk_X8_438 : LK RX8 438 yX8_lengthMany := Or.inl (bw_t tt_7 135 rfl rfl)
set_option maxRecDepth 20000 in
theorem fl_X8_441 : FL RX8 441 8 55 := ⟨(RX8, TX8, 123), rfl, Nat.le_of_ble_eq_true rfl, cf8, Nat.le_of_ble_eq_true rfl, Or.inl (bw_t tt_5 76 rfl rfl)⟩
set_option maxRecDepth 20000 in
theorem fl_X8_444 : FL RX8 444 8 56 := ⟨(RX8, TX8, 123), rfl, Nat.le_of_ble_eq_true rfl, cf8, Nat.le_of_ble_eq_true rfl, Or.inl (bw_t tt_5 77 rfl rfl)⟩
set_option maxRecDepth 20000 in
theorem fl_X8_447 : FL RX8 447 8 118 := ⟨(RX8, TX8, 123), rfl, Nat.le_of_ble_eq_true rfl, cf8, Nat.le_of_ble_eq_true rfl, Or.inl (bw_t tt_5 139 rfl rfl)⟩
set_option maxRecDepth 20000 in
theorem lk_X8_450 : LK RX8 450 yX8_qPuts := Or.inl (bw_t tt_7 175 rfl rfl)
set_option maxRecDepth 20000 in
theorem lk_X8_454 : LK RX8 454 yX8_qPartOf := Or.inl (bw_t tt_7 179 rfl rfl)
set_option maxRecDepth 20000 in
theorem lk_X8_458 : LK RX8 458 yX8_qJoins := Or.inl (bw_t tt_7 195 rfl rfl)
set_option maxRecDepth 20000 in
theorem lk_X8_461 : LK RX8 461 yX8_settingOf := Or.inl (bw_t tt_7 143 rfl rfl)
set_option maxRecDepth 20000 in
theorem kc_X8_464 : Cond.constantLong RX8 464 (100) ∈ BW := bw_t tt_7 122 rfl rfl
set_option maxRecDepth 20000 in
theorem lk_X8_466 : LK RX8 466 yX8_meantAt := Or.inl (bw_t tt_7 127 rfl rfl)
set_option maxRecDepth 20000 in
theorem lk_X8_469 : LK RX8 469 yX8_oddsFrom := Or.inl (bw_t tt_7 131 rfl rfl)
set_option maxRecDepth 20000 in
theorem lk_X8_472 : LK RX8 472 yX8_behindMended := Or.inl (bw_t tt_7 139 rfl rfl)
set_option maxRecDepth 20000 in
theorem lk_X8_476 : LK RX8 476 yX8_changed := Or.inl (bw_t tt_7 155 rfl rfl)
set_option maxRecDepth 20000 in
theorem lk_X8_479 : LK RX8 479 yX8_unchanged := Or.inl (bw_t tt_7 151 rfl rfl)
set_option maxRecDepth 20000 in
theorem lk_X8_482 : LK RX8 482 yX8_looked := Or.inl (bw_t tt_7 159 rfl rfl)
set_option maxRecDepth 20000 in
theorem lk_X8_485 : LK RX8 485 yX8_isChange := Or.inl (bw_t tt_7 163 rfl rfl)
set_option maxRecDepth 20000 in
theorem lk_X8_489 : LK RX8 489 yX8_leastLength := Or.inl (bw_t tt_7 167 rfl rfl)
set_option maxRecDepth 20000 in
theorem lk_X8_492 : LK RX8 492 yX8_isTold := Or.inl (bw_t tt_7 171 rfl rfl)
set_option maxRecDepth 20000 in
theorem lk_X8_495 : LK RX8 495 yX8_chosen := Or.inl (bw_t tt_7 147 rfl rfl)
set_option maxRecDepth 20000 in
theorem lk_X8_499 : LK RX8 499 yX8_ruleMany := Or.inl (bw_t tt_7 114 rfl rfl)
set_option maxRecDepth 20000 in
theorem lk_X8_502 : LK RX8 502 yX8_areFew := Or.inl (bw_t tt_7 102 rfl rfl)
set_option maxRecDepth 20000 in
theorem lk_X8_505 : LK RX8 505 yX8_isSewer := Or.inl (bw_t tt_7 110 rfl rfl)
set_option maxRecDepth 20000 in
theorem lk_X8_508 : LK RX8 508 yX8_means := Or.inl (bw_t tt_7 118 rfl rfl)
set_option maxRecDepth 20000 in
theorem kc_X8_511 : Cond.constantLong RX8 511 (1000) ∈ BW := bw_t tt_7 207 rfl rfl
set_option maxRecDepth 20000 in
theorem kc_X8_513 : Cond.constantLong RX8 513 (99) ∈ BW := bw_t tt_7 212 rfl rfl
set_option maxRecDepth 20000 in
theorem lk_X8_515 : LK RX8 515 yX8_isChance := Or.inl (bw_t tt_7 213 rfl rfl)
set_option maxRecDepth 20000 in
theorem fl_X8_519 : FL RX8 519 8 64 := ⟨(RX8, TX8, 123), rfl, Nat.le_of_ble_eq_true rfl, cf8, Nat.le_of_ble_eq_true rfl, Or.inl (bw_t tt_5 85 rfl rfl)⟩
set_option maxRecDepth 20000 in
theorem lk_X8_522 : LK RX8 522 yX8_changesAt := Or.inl (bw_t tt_7 234 rfl rfl)
set_option maxRecDepth 20000 in
theorem kc_X8_526 : Cond.constantLong RX8 526 (2) ∈ BW := bw_t tt_7 229 rfl rfl
set_option maxRecDepth 20000 in
theorem lk_X8_528 : LK RX8 528 yX8_laysRow := Or.inl (bw_t tt_7 230 rfl rfl)
set_option maxRecDepth 20000 in
theorem lk_X8_531 : LK RX8 531 yX8_firstOf := Or.inl (bw_t tt_8 2 rfl rfl)
set_option maxRecDepth 20000 in
theorem lk_X8_535 : LK RX8 535 yX8_sumOf := Or.inl (bw_t tt_8 5 rfl rfl)
set_option maxRecDepth 20000 in
theorem lk_X8_538 : LK RX8 538 yX8_restOf := Or.inl (bw_t tt_7 187 rfl rfl)
set_option maxRecDepth 20000 in
theorem kc_X8_541 : Cond.constantLong RX8 541 (5) ∈ BW := bw_t tt_8 16 rfl rfl
set_option maxRecDepth 20000 in
theorem kc_X8_543 : Cond.constantLong RX8 543 (10) ∈ BW := bw_t tt_8 25 rfl rfl
set_option maxRecDepth 20000 in
theorem lk_X8_545 : LK RX8 545 yX8_placeMany := Or.inl (bw_t tt_8 26 rfl rfl)
set_option maxRecDepth 20000 in
theorem lk_X8_548 : LK RX8 548 yX8_placeOf := Or.inl (bw_t tt_8 30 rfl rfl)
set_option maxRecDepth 20000 in
theorem fl_X8_551 : FL RX8 551 8 66 := ⟨(RX8, TX8, 123), rfl, Nat.le_of_ble_eq_true rfl, cf8, Nat.le_of_ble_eq_true rfl, Or.inl (bw_t tt_5 87 rfl rfl)⟩
set_option maxRecDepth 20000 in
theorem lk_X8_554 : LK RX8 554 yX8_isAsked := Or.inl (bw_t tt_8 38 rfl rfl)
set_option maxRecDepth 20000 in
theorem lk_X8_557 : LK RX8 557 yX8_packs := Or.inl (bw_t tt_8 42 rfl rfl)
set_option maxRecDepth 20000 in
theorem lk_X8_560 : LK RX8 560 yX8_binsAhead := Or.inl (bw_t tt_8 54 rfl rfl)
set_option maxRecDepth 20000 in
theorem lk_X8_563 : LK RX8 563 yX8_fills := Or.inl (bw_t tt_8 50 rfl rfl)
set_option maxRecDepth 20000 in
theorem fl_X8_566 : FL RX8 566 8 75 := ⟨(RX8, TX8, 123), rfl, Nat.le_of_ble_eq_true rfl, cf8, Nat.le_of_ble_eq_true rfl, Or.inl (bw_t tt_5 96 rfl rfl)⟩
set_option maxRecDepth 20000 in
theorem lk_X8_569 : LK RX8 569 yX8_mayStart := Or.inl (bw_t tt_8 66 rfl rfl)
set_option maxRecDepth 20000 in
theorem lk_X8_573 : LK RX8 573 yX8_isShown := Or.inl (bw_t tt_7 183 rfl rfl)
set_option maxRecDepth 20000 in
theorem lk_X8_576 : LK RX8 576 yX8_laysStarts := Or.inl (bw_t tt_8 62 rfl rfl)
set_option maxRecDepth 20000 in
theorem lk_X8_579 : LK RX8 579 yX8_startsFrom := Or.inl (bw_t tt_8 70 rfl rfl)
set_option maxRecDepth 20000 in
theorem lk_X8_582 : LK RX8 582 yX8_lastDone := Or.inl (bw_t tt_8 78 rfl rfl)
set_option maxRecDepth 20000 in
theorem fl_X8_586 : FL RX8 586 8 84 := ⟨(RX8, TX8, 123), rfl, Nat.le_of_ble_eq_true rfl, cf8, Nat.le_of_ble_eq_true rfl, Or.inl (bw_t tt_5 105 rfl rfl)⟩
set_option maxRecDepth 20000 in
theorem kc_X8_589 : Cond.constantLong RX8 589 (1103515245) ∈ BW := bw_t tt_8 130 rfl rfl
set_option maxRecDepth 20000 in
theorem kc_X8_591 : Cond.constantLong RX8 591 (12345) ∈ BW := bw_t tt_8 131 rfl rfl
set_option maxRecDepth 20000 in
theorem kc_X8_593 : Cond.constantLong RX8 593 (2147483648) ∈ BW := bw_t tt_8 132 rfl rfl
set_option maxRecDepth 20000 in
theorem kc_X8_595 : Cond.constantLong RX8 595 (64) ∈ BW := bw_t tt_8 133 rfl rfl
set_option maxRecDepth 20000 in
theorem lk_X8_597 : LK RX8 597 yX8_drawOf := Or.inl (bw_t tt_8 126 rfl rfl)
set_option maxRecDepth 20000 in
theorem fl_X8_600 : FL RX8 600 8 86 := ⟨(RX8, TX8, 123), rfl, Nat.le_of_ble_eq_true rfl, cf8, Nat.le_of_ble_eq_true rfl, Or.inl (bw_t tt_5 107 rfl rfl)⟩
set_option maxRecDepth 20000 in
theorem lk_X8_603 : LK RX8 603 yX8_costs := Or.inl (bw_t tt_8 118 rfl rfl)
set_option maxRecDepth 20000 in
theorem lk_X8_606 : LK RX8 606 yX8_isFresh := Or.inl (bw_t tt_8 122 rfl rfl)
set_option maxRecDepth 20000 in
theorem lk_X8_609 : LK RX8 609 yX8_wouldLast := Or.inl (bw_t tt_8 134 rfl rfl)
set_option maxRecDepth 20000 in
theorem lk_X8_612 : LK RX8 612 yX8_isLeft := Or.inl (bw_t tt_8 98 rfl rfl)
set_option maxRecDepth 20000 in
theorem lk_X8_615 : LK RX8 615 yX8_refuses := Or.inl (bw_t tt_8 106 rfl rfl)
set_option maxRecDepth 20000 in
theorem lk_X8_618 : LK RX8 618 yX8_keeps := Or.inl (bw_t tt_8 110 rfl rfl)
set_option maxRecDepth 20000 in
theorem lk_X8_621 : LK RX8 621 yX8_isSewn := Or.inl (bw_t tt_8 114 rfl rfl)
set_option maxRecDepth 20000 in
theorem fl_X8_625 : FL RX8 625 8 87 := ⟨(RX8, TX8, 123), rfl, Nat.le_of_ble_eq_true rfl, cf8, Nat.le_of_ble_eq_true rfl, Or.inl (bw_t tt_5 108 rfl rfl)⟩
set_option maxRecDepth 20000 in
theorem lk_X8_628 : LK RX8 628 yX8_isFitting := Or.inl (bw_t tt_8 158 rfl rfl)
set_option maxRecDepth 20000 in
theorem lk_X8_631 : LK RX8 631 yX8_qCode := Or.inl (bw_t tt_7 23 rfl rfl)
set_option maxRecDepth 20000 in
theorem lk_X8_634 : LK RX8 634 yX8_qIsBracket := Or.inl (bw_t tt_7 67 rfl rfl)
set_option maxRecDepth 20000 in
theorem lk_X8_637 : LK RX8 637 yX8_qDrops := Or.inl (bw_t tt_7 55 rfl rfl)
set_option maxRecDepth 20000 in
theorem lk_X8_640 : LK RX8 640 yX8_qWordHere := Or.inl (bw_t tt_7 39 rfl rfl)
set_option maxRecDepth 20000 in
theorem lk_X8_643 : LK RX8 643 yX8_isAllowed := Or.inl (bw_t tt_7 43 rfl rfl)
set_option maxRecDepth 20000 in
theorem lk_X8_646 : LK RX8 646 yX8_qWordOf := Or.inl (bw_t tt_7 35 rfl rfl)
set_option maxRecDepth 20000 in
theorem lk_X8_649 : LK RX8 649 yX8_qOpens := Or.inl (bw_t tt_7 15 rfl rfl)
set_option maxRecDepth 20000 in
theorem lk_X8_652 : LK RX8 652 yX8_qAsksWord := Or.inl (bw_t tt_7 47 rfl rfl)
set_option maxRecDepth 20000 in
theorem lk_X8_655 : LK RX8 655 yX8_qEndsPart := Or.inl (bw_t tt_7 51 rfl rfl)
set_option maxRecDepth 20000 in
theorem lk_X8_658 : LK RX8 658 yX8_qBracket := Or.inl (bw_t tt_7 63 rfl rfl)
set_option maxRecDepth 20000 in
theorem lk_X8_661 : LK RX8 661 yX8_qDropsToBracket := Or.inl (bw_t tt_7 70 rfl rfl)
set_option maxRecDepth 20000 in
theorem lk_X8_664 : LK RX8 664 yX8_qIsOn := Or.inl (bw_t tt_7 74 rfl rfl)
set_option maxRecDepth 20000 in
theorem lk_X8_667 : LK RX8 667 yX8_qPartTold := Or.inl (bw_t tt_7 31 rfl rfl)
set_option maxRecDepth 20000 in
theorem lk_X8_670 : LK RX8 670 yX8_qGoesOn := Or.inl (bw_t tt_7 59 rfl rfl)
set_option maxRecDepth 20000 in
theorem lk_X8_673 : LK RX8 673 yX8_qSums := Or.inl (bw_t tt_7 27 rfl rfl)
set_option maxRecDepth 20000 in
theorem lk_X8_676 : LK RX8 676 yX8_qFact := Or.inl (bw_t tt_7 19 rfl rfl)
set_option maxRecDepth 20000 in
theorem lk_X8_679 : LK RX8 679 yX8_qDropsNots := Or.inl (bw_t tt_7 78 rfl rfl)
set_option maxRecDepth 20000 in
theorem lk_X8_682 : LK RX8 682 yX8_qGoesOnTest := Or.inl (bw_t tt_7 82 rfl rfl)
set_option maxRecDepth 20000 in
theorem lk_X8_685 : LK RX8 685 yX8_qHasSquare := Or.inl (bw_t tt_7 86 rfl rfl)
set_option maxRecDepth 20000 in
theorem kc_X8_688 : Cond.constantLong RX8 688 (1000000) ∈ BW := bw_t tt_7 202 rfl rfl
set_option maxRecDepth 20000 in
theorem kc_X8_690 : Cond.constantLong RX8 690 (-1000000) ∈ BW := bw_t tt_7 203 rfl rfl
set_option maxRecDepth 20000 in
theorem lk_X8_692 : LK RX8 692 yX8_qClip := Or.inl (bw_t tt_7 199 rfl rfl)
set_option maxRecDepth 20000 in
theorem lk_X8_696 : LK RX8 696 yX8_qFloor := Or.inl (bw_t tt_7 204 rfl rfl)
set_option maxRecDepth 20000 in
theorem lk_X8_700 : LK RX8 700 yX8_mostLength := Or.inl (bw_t tt_7 191 rfl rfl)
set_option maxRecDepth 20000 in
theorem fl_X8_703 : FL RX8 703 8 57 := ⟨(RX8, TX8, 123), rfl, Nat.le_of_ble_eq_true rfl, cf8, Nat.le_of_ble_eq_true rfl, Or.inl (bw_t tt_5 78 rfl rfl)⟩
set_option maxRecDepth 20000 in
theorem lk_X8_706 : LK RX8 706 yX8_qOf := Or.inl (bw_t tt_8 176 rfl rfl)
set_option maxRecDepth 20000 in
theorem fl_X8_710 : FL RX8 710 8 119 := ⟨(RX8, TX8, 123), rfl, Nat.le_of_ble_eq_true rfl, cf8, Nat.le_of_ble_eq_true rfl, Or.inl (bw_t tt_5 140 rfl rfl)⟩
set_option maxRecDepth 20000 in
theorem kc_X8_713 : Cond.constantLong RX8 713 (-1) ∈ BW := bw_t tt_8 171 rfl rfl
set_option maxRecDepth 20000 in
theorem fl_X8_715 : FL RX8 715 8 120 := ⟨(RX8, TX8, 123), rfl, Nat.le_of_ble_eq_true rfl, cf8, Nat.le_of_ble_eq_true rfl, Or.inl (bw_t tt_5 141 rfl rfl)⟩
set_option maxRecDepth 20000 in
theorem kc_X8_718 : Cond.constantLong RX8 718 (-1000000000000000) ∈ BW := bw_t tt_8 166 rfl rfl
set_option maxRecDepth 20000 in
theorem lk_X8_720 : LK RX8 720 yX8_qKind := Or.inl (bw_t tt_8 167 rfl rfl)
set_option maxRecDepth 20000 in
theorem lk_X8_723 : LK RX8 723 yX8_qTold := Or.inl (bw_t tt_8 172 rfl rfl)
set_option maxRecDepth 20000 in
theorem lk_X8_726 : LK RX8 726 yX8_qTakes := Or.inl (bw_t tt_8 180 rfl rfl)
set_option maxRecDepth 20000 in
theorem lk_X8_730 : LK RX8 730 yX8_checked := Or.inl (bw_t tt_8 188 rfl rfl)
set_option maxRecDepth 20000 in
theorem fl_X8_733 : FL RX8 733 8 122 := ⟨(RX8, TX8, 123), rfl, Nat.le_of_ble_eq_true rfl, cf8, Nat.le_of_ble_eq_true rfl, Or.inl (bw_t tt_5 143 rfl rfl)⟩
set_option maxRecDepth 20000 in
theorem lk_X8_736 : LK RX8 736 yX8_isLength := Or.inl (bw_t tt_8 199 rfl rfl)
set_option maxRecDepth 20000 in
theorem sl_J0_9 : Cond.fieldLink RJ0 9 RJ0 "value" "[B" ∈ BW := bw_in 1887 (by decide +kernel) rfl
set_option maxRecDepth 20000 in
theorem sl_J0_15 : Cond.fieldLink RJ0 15 RJ0 "coder" "B" ∈ BW := bw_in 1888 (by decide +kernel) rfl
set_option maxRecDepth 20000 in
theorem sl_J0_38 : Cond.fieldLink RJ0 38 RJ0 "COMPACT_STRINGS" "Z" ∈ BW := bw_in 459 (by decide +kernel) rfl
set_option maxRecDepth 20000 in
theorem lk_J0_335 : LK RJ0 335 yJ0_coder_7d493 := Or.inl (bw_t tt_2 215 rfl rfl)
set_option maxRecDepth 20000 in
theorem lk_J0_492 : LK RJ0 492 yJ0_isLatin1_aae02 := Or.inl (bw_t tt_2 225 rfl rfl)
set_option maxRecDepth 20000 in
theorem lk_J0_495 : LK RJ0 495 yJ1_charAt_3b067 := Or.inl (bw_t tt_2 229 rfl rfl)
set_option maxRecDepth 20000 in
theorem lk_J0_498 : LK RJ0 498 yJ2_charAt_3b067 := Or.inl (bw_t tt_3 0 rfl rfl)
set_option maxRecDepth 20000 in
theorem sl_J0_1053 : Cond.fieldLink RJ0 1053 RJ3 "SIOOBE_FORMATTER" "Ljava/util/function/BiFunction;" ∈ BW := bw_in 475 (by decide +kernel) rfl
set_option maxRecDepth 20000 in
theorem lk_J0_1059 : LK RJ0 1059 yJ3_checkIndex_8e157 := Or.inl (bw_t tt_2 237 rfl rfl)
set_option maxRecDepth 20000 in
theorem lk_J1_9 : LK RJ1 9 yJ0_checkIndex_df160 := Or.inl (bw_t tt_2 232 rfl rfl)
set_option maxRecDepth 20000 in
theorem sl_J2_44 : Cond.fieldLink RJ2 44 RJ2 "$assertionsDisabled" "Z" ∈ BW := bw_in 493 (by decide +kernel) rfl
set_option maxRecDepth 20000 in
theorem lk_J2_48 : LK RJ2 48 yJ2_length_9d52b := Or.inl (bw_t tt_3 6 rfl rfl)
set_option maxRecDepth 20000 in
theorem sl_J2_59 : Cond.fieldLink RJ2 59 RJ2 "HI_BYTE_SHIFT" "I" ∈ BW := bw_in 495 (by decide +kernel) rfl
set_option maxRecDepth 20000 in
theorem sl_J2_63 : Cond.fieldLink RJ2 63 RJ2 "LO_BYTE_SHIFT" "I" ∈ BW := bw_in 497 (by decide +kernel) rfl
set_option maxRecDepth 20000 in
theorem lk_J2_67 : LK RJ2 67 yJ2_checkIndex_2214a := Or.inl (bw_t tt_3 3 rfl rfl)
set_option maxRecDepth 20000 in
theorem lk_J2_71 : LK RJ2 71 yJ2_getChar_3b067 := Or.inl (bw_t tt_3 10 rfl rfl)
set_option maxRecDepth 20000 in
theorem lk_J2_414 : LK RJ2 414 yJ0_checkIndex_df160 := Or.inl (bw_t tt_3 9 rfl rfl)
set_option maxRecDepth 20000 in
theorem acw : ACW := ⟨bw_t tt_2 126 rfl rfl, bw_t tt_2 125 rfl rfl, bw_t tt_1 9 rfl rfl⟩
set_option maxRecDepth 20000 in
theorem mk_X0_init : MK yX0_init cX0_init 1 none 0 := ⟨bw_t tt_1 192 rfl rfl, bw_t tt_1 5 rfl rfl, ⟨by decide +kernel, by decide +kernel⟩, by decide +kernel, Nat.le_of_ble_eq_true rfl⟩
set_option maxRecDepth 20000 in
theorem mk_X0_forget : MK yX0_forget cX0_forget 1 none 0 := ⟨bw_t tt_3 138 rfl rfl, bw_t tt_1 5 rfl rfl, ⟨by decide +kernel, by decide +kernel⟩, by decide +kernel, Nat.le_of_ble_eq_true rfl⟩
set_option maxRecDepth 20000 in
theorem mv_X0_forget : MV yX0_forget := ⟨bw_t tt_3 137 rfl rfl, sel_in (q := (yX0_forget, 2)) lp_3 2 rfl rfl⟩
set_option maxRecDepth 20000 in
theorem mk_X0_thousandths : MK yX0_thousandths cX0_thousandths 2 (some .int) 1 := ⟨bw_t tt_4 43 rfl rfl, bw_t tt_1 5 rfl rfl, ⟨by decide +kernel, by decide +kernel⟩, by decide +kernel, Nat.le_of_ble_eq_true rfl⟩
set_option maxRecDepth 20000 in
theorem ms_X0_thousandths : MS yX0_thousandths := bw_t tt_4 42 rfl rfl
set_option maxRecDepth 20000 in
theorem mk_X0_expect : MK yX0_expect cX0_expect 3 (some .long) 2 := ⟨bw_t tt_4 39 rfl rfl, bw_t tt_1 5 rfl rfl, ⟨by decide +kernel, by decide +kernel⟩, by decide +kernel, Nat.le_of_ble_eq_true rfl⟩
set_option maxRecDepth 20000 in
theorem mv_X0_expect : MV yX0_expect := ⟨bw_t tt_4 38 rfl rfl, sel_in (q := (yX0_expect, 2)) lp_4 6 rfl rfl⟩
set_option maxRecDepth 20000 in
theorem mk_X0_prepare : MK yX0_prepare cX0_prepare 5 none 2 := ⟨bw_t tt_3 190 rfl rfl, bw_t tt_1 5 rfl rfl, ⟨by decide +kernel, by decide +kernel⟩, by decide +kernel, Nat.le_of_ble_eq_true rfl⟩
set_option maxRecDepth 20000 in
theorem mv_X0_prepare : MV yX0_prepare := ⟨bw_t tt_3 189 rfl rfl, sel_in (q := (yX0_prepare, 2)) lp_3 8 rfl rfl⟩
set_option maxRecDepth 20000 in
theorem mk_X0_weigh : MK yX0_weigh cX0_weigh 19 (some .long) 4 := ⟨bw_t tt_3 194 rfl rfl, bw_t tt_1 5 rfl rfl, ⟨by decide +kernel, by decide +kernel⟩, by decide +kernel, Nat.le_of_ble_eq_true rfl⟩
set_option maxRecDepth 20000 in
theorem mv_X0_weigh : MV yX0_weigh := ⟨bw_t tt_3 193 rfl rfl, sel_in (q := (yX0_weigh, 2)) lp_3 9 rfl rfl⟩
set_option maxRecDepth 20000 in
theorem mk_X0_mended : MK yX0_mended cX0_mended 3 (some .long) 2 := ⟨bw_t tt_3 202 rfl rfl, bw_t tt_1 5 rfl rfl, ⟨by decide +kernel, by decide +kernel⟩, by decide +kernel, Nat.le_of_ble_eq_true rfl⟩
set_option maxRecDepth 20000 in
theorem mv_X0_mended : MV yX0_mended := ⟨bw_t tt_3 201 rfl rfl, sel_in (q := (yX0_mended, 2)) lp_3 11 rfl rfl⟩
set_option maxRecDepth 20000 in
theorem mk_X0_changed : MK yX0_changed cX0_changed 3 (some .long) 2 := ⟨bw_t tt_3 207 rfl rfl, bw_t tt_1 5 rfl rfl, ⟨by decide +kernel, by decide +kernel⟩, by decide +kernel, Nat.le_of_ble_eq_true rfl⟩
set_option maxRecDepth 20000 in
theorem mv_X0_changed : MV yX0_changed := ⟨bw_t tt_3 206 rfl rfl, sel_in (q := (yX0_changed, 2)) lp_3 12 rfl rfl⟩
set_option maxRecDepth 20000 in
theorem mk_X0_turns : MK yX0_turns cX0_turns 13 (some .boolean) 5 := ⟨bw_t tt_4 19 rfl rfl, bw_t tt_1 5 rfl rfl, ⟨by decide +kernel, by decide +kernel⟩, by decide +kernel, Nat.le_of_ble_eq_true rfl⟩
set_option maxRecDepth 20000 in
theorem mv_X0_turns : MV yX0_turns := ⟨bw_t tt_4 18 rfl rfl, sel_in (q := (yX0_turns, 2)) lp_4 3 rfl rfl⟩
set_option maxRecDepth 20000 in
theorem mk_X1_init : MK yX1_init cX1_init 1 none 0 := ⟨bw_t tt_1 206 rfl rfl, bw_t tt_1 6 rfl rfl, ⟨by decide +kernel, by decide +kernel⟩, by decide +kernel, Nat.le_of_ble_eq_true rfl⟩
set_option maxRecDepth 20000 in
theorem mk_X1_run : MK yX1_run cX1_run 9 none 4 := ⟨bw_t tt_4 11 rfl rfl, bw_t tt_1 6 rfl rfl, ⟨by decide +kernel, by decide +kernel⟩, by decide +kernel, Nat.le_of_ble_eq_true rfl⟩
set_option maxRecDepth 20000 in
theorem mv_X1_run : MV yX1_run := ⟨bw_t tt_4 10 rfl rfl, sel_in (q := (yX1_run, 9)) lp_4 1 rfl rfl⟩
set_option maxRecDepth 20000 in
theorem mk_X1_note : MK yX1_note cX1_note 5 none 4 := ⟨bw_t tt_4 23 rfl rfl, bw_t tt_1 6 rfl rfl, ⟨by decide +kernel, by decide +kernel⟩, by decide +kernel, Nat.le_of_ble_eq_true rfl⟩
set_option maxRecDepth 20000 in
theorem mv_X1_note : MV yX1_note := ⟨bw_t tt_4 22 rfl rfl, sel_in (q := (yX1_note, 9)) lp_4 4 rfl rfl⟩
set_option maxRecDepth 20000 in
theorem mk_X1_partsOf : MK yX1_partsOf cX1_partsOf 3 (some (.array .int)) 2 := ⟨bw_t tt_4 221 rfl rfl, bw_t tt_1 6 rfl rfl, ⟨by decide +kernel, by decide +kernel⟩, by decide +kernel, Nat.le_of_ble_eq_true rfl⟩
set_option maxRecDepth 20000 in
theorem mv_X1_partsOf : MV yX1_partsOf := ⟨bw_t tt_4 220 rfl rfl, sel_in (q := (yX1_partsOf, 9)) lp_5 12 rfl rfl⟩
set_option maxRecDepth 20000 in
theorem mk_X2_init : MK yX2_init cX2_init 1 none 0 := ⟨bw_t tt_2 80 rfl rfl, bw_t tt_1 8 rfl rfl, ⟨by decide +kernel, by decide +kernel⟩, by decide +kernel, Nat.le_of_ble_eq_true rfl⟩
set_option maxRecDepth 20000 in
theorem mk_X2_enter : MK yX2_enter cX2_enter 2 none 1 := ⟨bw_t tt_3 146 rfl rfl, bw_t tt_1 8 rfl rfl, ⟨by decide +kernel, by decide +kernel⟩, by decide +kernel, Nat.le_of_ble_eq_true rfl⟩
set_option maxRecDepth 20000 in
theorem mv_X2_enter : MV yX2_enter := ⟨bw_t tt_3 145 rfl rfl, sel_in (q := (yX2_enter, 9)) lp_3 4 rfl rfl⟩
set_option maxRecDepth 20000 in
theorem mk_X2_restart : MK yX2_restart cX2_restart 2 none 1 := ⟨bw_t tt_3 150 rfl rfl, bw_t tt_1 8 rfl rfl, ⟨by decide +kernel, by decide +kernel⟩, by decide +kernel, Nat.le_of_ble_eq_true rfl⟩
set_option maxRecDepth 20000 in
theorem mv_X2_restart : MV yX2_restart := ⟨bw_t tt_3 149 rfl rfl, sel_in (q := (yX2_restart, 9)) lp_3 5 rfl rfl⟩
set_option maxRecDepth 20000 in
theorem mk_X2_draw : MK yX2_draw cX2_draw 2 (some .int) 1 := ⟨bw_t tt_4 151 rfl rfl, bw_t tt_1 8 rfl rfl, ⟨by decide +kernel, by decide +kernel⟩, by decide +kernel, Nat.le_of_ble_eq_true rfl⟩
set_option maxRecDepth 20000 in
theorem mv_X2_draw : MV yX2_draw := ⟨bw_t tt_4 150 rfl rfl, sel_in (q := (yX2_draw, 9)) lp_5 5 rfl rfl⟩
set_option maxRecDepth 20000 in
theorem mk_X2_pay : MK yX2_pay cX2_pay 2 none 1 := ⟨bw_t tt_4 162 rfl rfl, bw_t tt_1 8 rfl rfl, ⟨by decide +kernel, by decide +kernel⟩, by decide +kernel, Nat.le_of_ble_eq_true rfl⟩
set_option maxRecDepth 20000 in
theorem mv_X2_pay : MV yX2_pay := ⟨bw_t tt_4 161 rfl rfl, sel_in (q := (yX2_pay, 9)) lp_5 7 rfl rfl⟩
set_option maxRecDepth 20000 in
theorem mk_X2_stitch : MK yX2_stitch cX2_stitch 4 (some .int) 2 := ⟨bw_t tt_4 147 rfl rfl, bw_t tt_1 8 rfl rfl, ⟨by decide +kernel, by decide +kernel⟩, by decide +kernel, Nat.le_of_ble_eq_true rfl⟩
set_option maxRecDepth 20000 in
theorem mv_X2_stitch : MV yX2_stitch := ⟨bw_t tt_4 146 rfl rfl, sel_in (q := (yX2_stitch, 9)) lp_5 4 rfl rfl⟩
set_option maxRecDepth 20000 in
theorem mk_X2_keep : MK yX2_keep cX2_keep 2 none 0 := ⟨bw_t tt_4 142 rfl rfl, bw_t tt_1 8 rfl rfl, ⟨by decide +kernel, by decide +kernel⟩, by decide +kernel, Nat.le_of_ble_eq_true rfl⟩
set_option maxRecDepth 20000 in
theorem mv_X2_keep : MV yX2_keep := ⟨bw_t tt_4 141 rfl rfl, sel_in (q := (yX2_keep, 9)) lp_5 3 rfl rfl⟩
set_option maxRecDepth 20000 in
theorem mk_X2_back : MK yX2_back cX2_back 2 none 0 := ⟨bw_t tt_4 186 rfl rfl, bw_t tt_1 8 rfl rfl, ⟨by decide +kernel, by decide +kernel⟩, by decide +kernel, Nat.le_of_ble_eq_true rfl⟩
set_option maxRecDepth 20000 in
theorem mv_X2_back : MV yX2_back := ⟨bw_t tt_4 185 rfl rfl, sel_in (q := (yX2_back, 9)) lp_5 8 rfl rfl⟩
set_option maxRecDepth 20000 in
theorem mk_X3_init : MK yX3_init cX3_init 1 none 0 := ⟨bw_t tt_1 34 rfl rfl, bw_t tt_1 3 rfl rfl, ⟨by decide +kernel, by decide +kernel⟩, by decide +kernel, Nat.le_of_ble_eq_true rfl⟩
set_option maxRecDepth 20000 in
theorem mk_X3_put : MK yX3_put cX3_put 2 none 1 := ⟨bw_t tt_3 94 rfl rfl, bw_t tt_1 3 rfl rfl, ⟨by decide +kernel, by decide +kernel⟩, by decide +kernel, Nat.le_of_ble_eq_true rfl⟩
set_option maxRecDepth 20000 in
theorem mv_X3_put : MV yX3_put := ⟨bw_t tt_3 93 rfl rfl, sel_in (q := (yX3_put, 3)) lp_2 9 rfl rfl⟩
set_option maxRecDepth 20000 in
theorem mk_X3_worth : MK yX3_worth cX3_worth 14 (some .int) 4 := ⟨bw_t tt_3 230 rfl rfl, bw_t tt_1 3 rfl rfl, ⟨by decide +kernel, by decide +kernel⟩, by decide +kernel, Nat.le_of_ble_eq_true rfl⟩
set_option maxRecDepth 20000 in
theorem mv_X3_worth : MV yX3_worth := ⟨bw_t tt_3 229 rfl rfl, sel_in (q := (yX3_worth, 3)) lp_4 0 rfl rfl⟩
set_option maxRecDepth 20000 in
theorem mk_X3_turned : MK yX3_turned cX3_turned 3 (some .int) 3 := ⟨bw_t tt_4 6 rfl rfl, bw_t tt_1 3 rfl rfl, ⟨by decide +kernel, by decide +kernel⟩, by decide +kernel, Nat.le_of_ble_eq_true rfl⟩
set_option maxRecDepth 20000 in
theorem ms_X3_turned : MS yX3_turned := bw_t tt_4 5 rfl rfl
set_option maxRecDepth 20000 in
theorem mk_X3_joined : MK yX3_joined cX3_joined 5 (some .long) 3 := ⟨bw_t tt_3 234 rfl rfl, bw_t tt_1 3 rfl rfl, ⟨by decide +kernel, by decide +kernel⟩, by decide +kernel, Nat.le_of_ble_eq_true rfl⟩
set_option maxRecDepth 20000 in
theorem ms_X3_joined : MS yX3_joined := bw_t tt_3 233 rfl rfl
set_option maxRecDepth 20000 in
theorem mk_X4_init : MK yX4_init cX4_init 1 none 0 := ⟨bw_t tt_2 7 rfl rfl, bw_t tt_1 7 rfl rfl, ⟨by decide +kernel, by decide +kernel⟩, by decide +kernel, Nat.le_of_ble_eq_true rfl⟩
set_option maxRecDepth 20000 in
theorem mk_X4_forget : MK yX4_forget cX4_forget 1 none 0 := ⟨bw_t tt_3 142 rfl rfl, bw_t tt_1 7 rfl rfl, ⟨by decide +kernel, by decide +kernel⟩, by decide +kernel, Nat.le_of_ble_eq_true rfl⟩
set_option maxRecDepth 20000 in
theorem mv_X4_forget : MV yX4_forget := ⟨bw_t tt_3 141 rfl rfl, sel_in (q := (yX4_forget, 19)) lp_3 3 rfl rfl⟩
set_option maxRecDepth 20000 in
theorem mk_X4_inOrder : MK yX4_inOrder cX4_inOrder 5 none 2 := ⟨bw_t tt_4 73 rfl rfl, bw_t tt_1 7 rfl rfl, ⟨by decide +kernel, by decide +kernel⟩, by decide +kernel, Nat.le_of_ble_eq_true rfl⟩
set_option maxRecDepth 20000 in
theorem mv_X4_inOrder : MV yX4_inOrder := ⟨bw_t tt_4 72 rfl rfl, sel_in (q := (yX4_inOrder, 19)) lp_4 9 rfl rfl⟩
set_option maxRecDepth 20000 in
theorem mk_X4_anyOrder : MK yX4_anyOrder cX4_anyOrder 5 none 2 := ⟨bw_t tt_4 81 rfl rfl, bw_t tt_1 7 rfl rfl, ⟨by decide +kernel, by decide +kernel⟩, by decide +kernel, Nat.le_of_ble_eq_true rfl⟩
set_option maxRecDepth 20000 in
theorem mv_X4_anyOrder : MV yX4_anyOrder := ⟨bw_t tt_4 80 rfl rfl, sel_in (q := (yX4_anyOrder, 19)) lp_4 10 rfl rfl⟩
set_option maxRecDepth 20000 in
theorem mk_X4_packs : MK yX4_packs cX4_packs 6 (some .boolean) 3 := ⟨bw_t tt_4 86 rfl rfl, bw_t tt_1 7 rfl rfl, ⟨by decide +kernel, by decide +kernel⟩, by decide +kernel, Nat.le_of_ble_eq_true rfl⟩
set_option maxRecDepth 20000 in
theorem mv_X4_packs : MV yX4_packs := ⟨bw_t tt_4 85 rfl rfl, sel_in (q := (yX4_packs, 19)) lp_4 11 rfl rfl⟩
set_option maxRecDepth 20000 in
theorem mk_X4_isLoadAhead : MK yX4_isLoadAhead cX4_isLoadAhead 3 (some .boolean) 1 := ⟨bw_t tt_4 90 rfl rfl, bw_t tt_1 7 rfl rfl, ⟨by decide +kernel, by decide +kernel⟩, by decide +kernel, Nat.le_of_ble_eq_true rfl⟩
set_option maxRecDepth 20000 in
theorem mv_X4_isLoadAhead : MV yX4_isLoadAhead := ⟨bw_t tt_4 89 rfl rfl, sel_in (q := (yX4_isLoadAhead, 19)) lp_4 12 rfl rfl⟩
set_option maxRecDepth 20000 in
theorem mk_X4_share : MK yX4_share cX4_share 3 none 2 := ⟨bw_t tt_4 119 rfl rfl, bw_t tt_1 7 rfl rfl, ⟨by decide +kernel, by decide +kernel⟩, by decide +kernel, Nat.le_of_ble_eq_true rfl⟩
set_option maxRecDepth 20000 in
theorem mv_X4_share : MV yX4_share := ⟨bw_t tt_4 118 rfl rfl, sel_in (q := (yX4_share, 19)) lp_5 1 rfl rfl⟩
set_option maxRecDepth 20000 in
theorem mk_X4_giveOut : MK yX4_giveOut cX4_giveOut 10 none 4 := ⟨bw_t tt_4 123 rfl rfl, bw_t tt_1 7 rfl rfl, ⟨by decide +kernel, by decide +kernel⟩, by decide +kernel, Nat.le_of_ble_eq_true rfl⟩
set_option maxRecDepth 20000 in
theorem mv_X4_giveOut : MV yX4_giveOut := ⟨bw_t tt_4 122 rfl rfl, sel_in (q := (yX4_giveOut, 19)) lp_5 2 rfl rfl⟩
set_option maxRecDepth 20000 in
theorem mk_X4_hide : MK yX4_hide cX4_hide 9 none 2 := ⟨bw_t tt_4 98 rfl rfl, bw_t tt_1 7 rfl rfl, ⟨by decide +kernel, by decide +kernel⟩, by decide +kernel, Nat.le_of_ble_eq_true rfl⟩
set_option maxRecDepth 20000 in
theorem mv_X4_hide : MV yX4_hide := ⟨bw_t tt_4 97 rfl rfl, sel_in (q := (yX4_hide, 19)) lp_4 13 rfl rfl⟩
set_option maxRecDepth 20000 in
theorem mk_X4_listStarts : MK yX4_listStarts cX4_listStarts 4 none 1 := ⟨bw_t tt_4 111 rfl rfl, bw_t tt_1 7 rfl rfl, ⟨by decide +kernel, by decide +kernel⟩, by decide +kernel, Nat.le_of_ble_eq_true rfl⟩
set_option maxRecDepth 20000 in
theorem mv_X4_listStarts : MV yX4_listStarts := ⟨bw_t tt_4 110 rfl rfl, sel_in (q := (yX4_listStarts, 19)) lp_5 0 rfl rfl⟩
set_option maxRecDepth 20000 in
theorem mk_X4_costOf : MK yX4_costOf cX4_costOf 6 (some .int) 2 := ⟨bw_t tt_4 107 rfl rfl, bw_t tt_1 7 rfl rfl, ⟨by decide +kernel, by decide +kernel⟩, by decide +kernel, Nat.le_of_ble_eq_true rfl⟩
set_option maxRecDepth 20000 in
theorem mv_X4_costOf : MV yX4_costOf := ⟨bw_t tt_4 106 rfl rfl, sel_in (q := (yX4_costOf, 19)) lp_4 15 rfl rfl⟩
set_option maxRecDepth 20000 in
theorem mk_X4_listSpots : MK yX4_listSpots cX4_listSpots 6 (some .int) 1 := ⟨bw_t tt_4 102 rfl rfl, bw_t tt_1 7 rfl rfl, ⟨by decide +kernel, by decide +kernel⟩, by decide +kernel, Nat.le_of_ble_eq_true rfl⟩
set_option maxRecDepth 20000 in
theorem mv_X4_listSpots : MV yX4_listSpots := ⟨bw_t tt_4 101 rfl rfl, sel_in (q := (yX4_listSpots, 19)) lp_4 14 rfl rfl⟩
set_option maxRecDepth 20000 in
theorem mk_X5_init : MK yX5_init cX5_init 1 none 0 := ⟨bw_t tt_1 144 rfl rfl, bw_t tt_1 4 rfl rfl, ⟨by decide +kernel, by decide +kernel⟩, by decide +kernel, Nat.le_of_ble_eq_true rfl⟩
set_option maxRecDepth 20000 in
theorem mk_X5_begin : MK yX5_begin cX5_begin 4 none 3 := ⟨bw_t tt_2 198 rfl rfl, bw_t tt_1 4 rfl rfl, ⟨by decide +kernel, by decide +kernel⟩, by decide +kernel, Nat.le_of_ble_eq_true rfl⟩
set_option maxRecDepth 20000 in
theorem mv_X5_begin : MV yX5_begin := ⟨bw_t tt_2 197 rfl rfl, sel_in (q := (yX5_begin, 12)) lp_1 4 rfl rfl⟩
set_option maxRecDepth 20000 in
theorem mk_X5_fail : MK yX5_fail cX5_fail 3 none 2 := ⟨bw_t tt_3 22 rfl rfl, bw_t tt_1 4 rfl rfl, ⟨by decide +kernel, by decide +kernel⟩, by decide +kernel, Nat.le_of_ble_eq_true rfl⟩
set_option maxRecDepth 20000 in
theorem mv_X5_fail : MV yX5_fail := ⟨bw_t tt_3 21 rfl rfl, sel_in (q := (yX5_fail, 12)) lp_1 7 rfl rfl⟩
set_option maxRecDepth 20000 in
theorem mk_X5_advance : MK yX5_advance cX5_advance 3 none 0 := ⟨bw_t tt_2 205 rfl rfl, bw_t tt_1 4 rfl rfl, ⟨by decide +kernel, by decide +kernel⟩, by decide +kernel, Nat.le_of_ble_eq_true rfl⟩
set_option maxRecDepth 20000 in
theorem mv_X5_advance : MV yX5_advance := ⟨bw_t tt_2 204 rfl rfl, sel_in (q := (yX5_advance, 12)) lp_1 5 rfl rfl⟩
set_option maxRecDepth 20000 in
theorem mk_X5_wordBetween : MK yX5_wordBetween cX5_wordBetween 8 (some .int) 2 := ⟨bw_t tt_2 209 rfl rfl, bw_t tt_1 4 rfl rfl, ⟨by decide +kernel, by decide +kernel⟩, by decide +kernel, Nat.le_of_ble_eq_true rfl⟩
set_option maxRecDepth 20000 in
theorem mv_X5_wordBetween : MV yX5_wordBetween := ⟨bw_t tt_2 208 rfl rfl, sel_in (q := (yX5_wordBetween, 12)) lp_1 6 rfl rfl⟩
set_option maxRecDepth 20000 in
theorem mk_X5_isWord : MK yX5_isWord cX5_isWord 2 (some .boolean) 1 := ⟨bw_t tt_3 30 rfl rfl, bw_t tt_1 4 rfl rfl, ⟨by decide +kernel, by decide +kernel⟩, by decide +kernel, Nat.le_of_ble_eq_true rfl⟩
set_option maxRecDepth 20000 in
theorem mv_X5_isWord : MV yX5_isWord := ⟨bw_t tt_3 29 rfl rfl, sel_in (q := (yX5_isWord, 12)) lp_1 9 rfl rfl⟩
set_option maxRecDepth 20000 in
theorem mk_X5_expect : MK yX5_expect cX5_expect 2 none 1 := ⟨bw_t tt_3 34 rfl rfl, bw_t tt_1 4 rfl rfl, ⟨by decide +kernel, by decide +kernel⟩, by decide +kernel, Nat.le_of_ble_eq_true rfl⟩
set_option maxRecDepth 20000 in
theorem mv_X5_expect : MV yX5_expect := ⟨bw_t tt_3 33 rfl rfl, sel_in (q := (yX5_expect, 12)) lp_1 10 rfl rfl⟩
set_option maxRecDepth 20000 in
theorem mk_X5_expectSign : MK yX5_expectSign cX5_expectSign 2 none 1 := ⟨bw_t tt_3 98 rfl rfl, bw_t tt_1 4 rfl rfl, ⟨by decide +kernel, by decide +kernel⟩, by decide +kernel, Nat.le_of_ble_eq_true rfl⟩
set_option maxRecDepth 20000 in
theorem mv_X5_expectSign : MV yX5_expectSign := ⟨bw_t tt_3 97 rfl rfl, sel_in (q := (yX5_expectSign, 12)) lp_2 10 rfl rfl⟩
set_option maxRecDepth 20000 in
theorem mk_X5_number : MK yX5_number cX5_number 4 (some .int) 2 := ⟨bw_t tt_3 38 rfl rfl, bw_t tt_1 4 rfl rfl, ⟨by decide +kernel, by decide +kernel⟩, by decide +kernel, Nat.le_of_ble_eq_true rfl⟩
set_option maxRecDepth 20000 in
theorem mv_X5_number : MV yX5_number := ⟨bw_t tt_3 37 rfl rfl, sel_in (q := (yX5_number, 12)) lp_1 11 rfl rfl⟩
set_option maxRecDepth 20000 in
theorem mk_X5_readRoom : MK yX5_readRoom cX5_readRoom 6 none 3 := ⟨bw_t tt_2 193 rfl rfl, bw_t tt_1 4 rfl rfl, ⟨by decide +kernel, by decide +kernel⟩, by decide +kernel, Nat.le_of_ble_eq_true rfl⟩
set_option maxRecDepth 20000 in
theorem mv_X5_readRoom : MV yX5_readRoom := ⟨bw_t tt_2 192 rfl rfl, sel_in (q := (yX5_readRoom, 12)) lp_1 3 rfl rfl⟩
set_option maxRecDepth 20000 in
theorem mk_X5_tellMinutes : MK yX5_tellMinutes cX5_tellMinutes 4 none 2 := ⟨bw_t tt_3 130 rfl rfl, bw_t tt_1 4 rfl rfl, ⟨by decide +kernel, by decide +kernel⟩, by decide +kernel, Nat.le_of_ble_eq_true rfl⟩
set_option maxRecDepth 20000 in
theorem mv_X5_tellMinutes : MV yX5_tellMinutes := ⟨bw_t tt_3 129 rfl rfl, sel_in (q := (yX5_tellMinutes, 12)) lp_3 1 rfl rfl⟩
set_option maxRecDepth 20000 in
theorem mk_X5_tellLengths : MK yX5_tellLengths cX5_tellLengths 8 none 1 := ⟨bw_t tt_3 26 rfl rfl, bw_t tt_1 4 rfl rfl, ⟨by decide +kernel, by decide +kernel⟩, by decide +kernel, Nat.le_of_ble_eq_true rfl⟩
set_option maxRecDepth 20000 in
theorem mv_X5_tellLengths : MV yX5_tellLengths := ⟨bw_t tt_3 25 rfl rfl, sel_in (q := (yX5_tellLengths, 12)) lp_1 8 rfl rfl⟩
set_option maxRecDepth 20000 in
theorem mk_X5_tellSeam : MK yX5_tellSeam cX5_tellSeam 5 none 1 := ⟨bw_t tt_3 50 rfl rfl, bw_t tt_1 4 rfl rfl, ⟨by decide +kernel, by decide +kernel⟩, by decide +kernel, Nat.le_of_ble_eq_true rfl⟩
set_option maxRecDepth 20000 in
theorem mv_X5_tellSeam : MV yX5_tellSeam := ⟨bw_t tt_3 49 rfl rfl, sel_in (q := (yX5_tellSeam, 12)) lp_1 14 rfl rfl⟩
set_option maxRecDepth 20000 in
theorem mk_X5_tellPlaces : MK yX5_tellPlaces cX5_tellPlaces 6 (some .int) 2 := ⟨bw_t tt_3 66 rfl rfl, bw_t tt_1 4 rfl rfl, ⟨by decide +kernel, by decide +kernel⟩, by decide +kernel, Nat.le_of_ble_eq_true rfl⟩
set_option maxRecDepth 20000 in
theorem mv_X5_tellPlaces : MV yX5_tellPlaces := ⟨bw_t tt_3 65 rfl rfl, sel_in (q := (yX5_tellPlaces, 12)) lp_2 2 rfl rfl⟩
set_option maxRecDepth 20000 in
theorem mk_X5_tellRule : MK yX5_tellRule cX5_tellRule 2 none 1 := ⟨bw_t tt_3 74 rfl rfl, bw_t tt_1 4 rfl rfl, ⟨by decide +kernel, by decide +kernel⟩, by decide +kernel, Nat.le_of_ble_eq_true rfl⟩
set_option maxRecDepth 20000 in
theorem mv_X5_tellRule : MV yX5_tellRule := ⟨bw_t tt_3 73 rfl rfl, sel_in (q := (yX5_tellRule, 12)) lp_2 4 rfl rfl⟩
set_option maxRecDepth 20000 in
theorem mk_X5_name : MK yX5_name cX5_name 4 none 2 := ⟨bw_t tt_3 54 rfl rfl, bw_t tt_1 4 rfl rfl, ⟨by decide +kernel, by decide +kernel⟩, by decide +kernel, Nat.le_of_ble_eq_true rfl⟩
set_option maxRecDepth 20000 in
theorem mv_X5_name : MV yX5_name := ⟨bw_t tt_3 53 rfl rfl, sel_in (q := (yX5_name, 12)) lp_1 15 rfl rfl⟩
set_option maxRecDepth 20000 in
theorem mk_X5_readQuestion : MK yX5_readQuestion cX5_readQuestion 4 (some .int) 2 := ⟨bw_t tt_4 216 rfl rfl, bw_t tt_1 4 rfl rfl, ⟨by decide +kernel, by decide +kernel⟩, by decide +kernel, Nat.le_of_ble_eq_true rfl⟩
set_option maxRecDepth 20000 in
theorem mv_X5_readQuestion : MV yX5_readQuestion := ⟨bw_t tt_4 215 rfl rfl, sel_in (q := (yX5_readQuestion, 12)) lp_5 11 rfl rfl⟩
set_option maxRecDepth 20000 in
theorem mk_X5_test : MK yX5_test cX5_test 3 none 1 := ⟨bw_t tt_3 78 rfl rfl, bw_t tt_1 4 rfl rfl, ⟨by decide +kernel, by decide +kernel⟩, by decide +kernel, Nat.le_of_ble_eq_true rfl⟩
set_option maxRecDepth 20000 in
theorem mv_X5_test : MV yX5_test := ⟨bw_t tt_3 77 rfl rfl, sel_in (q := (yX5_test, 12)) lp_2 5 rfl rfl⟩
set_option maxRecDepth 20000 in
theorem mk_X5_both : MK yX5_both cX5_both 3 none 1 := ⟨bw_t tt_3 82 rfl rfl, bw_t tt_1 4 rfl rfl, ⟨by decide +kernel, by decide +kernel⟩, by decide +kernel, Nat.le_of_ble_eq_true rfl⟩
set_option maxRecDepth 20000 in
theorem mv_X5_both : MV yX5_both := ⟨bw_t tt_3 81 rfl rfl, sel_in (q := (yX5_both, 12)) lp_2 6 rfl rfl⟩
set_option maxRecDepth 20000 in
theorem mk_X5_fact : MK yX5_fact cX5_fact 3 none 1 := ⟨bw_t tt_3 86 rfl rfl, bw_t tt_1 4 rfl rfl, ⟨by decide +kernel, by decide +kernel⟩, by decide +kernel, Nat.le_of_ble_eq_true rfl⟩
set_option maxRecDepth 20000 in
theorem mv_X5_fact : MV yX5_fact := ⟨bw_t tt_3 85 rfl rfl, sel_in (q := (yX5_fact, 12)) lp_2 7 rfl rfl⟩
set_option maxRecDepth 20000 in
theorem mk_X5_enter : MK yX5_enter cX5_enter 2 none 1 := ⟨bw_t tt_3 90 rfl rfl, bw_t tt_1 4 rfl rfl, ⟨by decide +kernel, by decide +kernel⟩, by decide +kernel, Nat.le_of_ble_eq_true rfl⟩
set_option maxRecDepth 20000 in
theorem mv_X5_enter : MV yX5_enter := ⟨bw_t tt_3 89 rfl rfl, sel_in (q := (yX5_enter, 12)) lp_2 8 rfl rfl⟩
set_option maxRecDepth 20000 in
theorem mk_X5_sum : MK yX5_sum cX5_sum 4 none 1 := ⟨bw_t tt_3 102 rfl rfl, bw_t tt_1 4 rfl rfl, ⟨by decide +kernel, by decide +kernel⟩, by decide +kernel, Nat.le_of_ble_eq_true rfl⟩
set_option maxRecDepth 20000 in
theorem mv_X5_sum : MV yX5_sum := ⟨bw_t tt_3 101 rfl rfl, sel_in (q := (yX5_sum, 12)) lp_2 11 rfl rfl⟩
set_option maxRecDepth 20000 in
theorem mk_X5_product : MK yX5_product cX5_product 4 none 1 := ⟨bw_t tt_3 106 rfl rfl, bw_t tt_1 4 rfl rfl, ⟨by decide +kernel, by decide +kernel⟩, by decide +kernel, Nat.le_of_ble_eq_true rfl⟩
set_option maxRecDepth 20000 in
theorem mv_X5_product : MV yX5_product := ⟨bw_t tt_3 105 rfl rfl, sel_in (q := (yX5_product, 12)) lp_2 12 rfl rfl⟩
set_option maxRecDepth 20000 in
theorem mk_X5_part : MK yX5_part cX5_part 2 none 1 := ⟨bw_t tt_3 110 rfl rfl, bw_t tt_1 4 rfl rfl, ⟨by decide +kernel, by decide +kernel⟩, by decide +kernel, Nat.le_of_ble_eq_true rfl⟩
set_option maxRecDepth 20000 in
theorem mv_X5_part : MV yX5_part := ⟨bw_t tt_3 109 rfl rfl, sel_in (q := (yX5_part, 12)) lp_2 13 rfl rfl⟩
set_option maxRecDepth 20000 in
theorem mk_X5_pair : MK yX5_pair cX5_pair 3 none 2 := ⟨bw_t tt_3 115 rfl rfl, bw_t tt_1 4 rfl rfl, ⟨by decide +kernel, by decide +kernel⟩, by decide +kernel, Nat.le_of_ble_eq_true rfl⟩
set_option maxRecDepth 20000 in
theorem mv_X5_pair : MV yX5_pair := ⟨bw_t tt_3 114 rfl rfl, sel_in (q := (yX5_pair, 12)) lp_2 14 rfl rfl⟩
set_option maxRecDepth 20000 in
theorem mk_X5_namedPart : MK yX5_namedPart cX5_namedPart 2 none 0 := ⟨bw_t tt_3 119 rfl rfl, bw_t tt_1 4 rfl rfl, ⟨by decide +kernel, by decide +kernel⟩, by decide +kernel, Nat.le_of_ble_eq_true rfl⟩
set_option maxRecDepth 20000 in
theorem mv_X5_namedPart : MV yX5_namedPart := ⟨bw_t tt_3 118 rfl rfl, sel_in (q := (yX5_namedPart, 12)) lp_2 15 rfl rfl⟩
set_option maxRecDepth 20000 in
theorem mk_X5_stepOf : MK yX5_stepOf cX5_stepOf 2 (some .int) 2 := ⟨bw_t tt_3 122 rfl rfl, bw_t tt_1 4 rfl rfl, ⟨by decide +kernel, by decide +kernel⟩, by decide +kernel, Nat.le_of_ble_eq_true rfl⟩
set_option maxRecDepth 20000 in
theorem ms_X5_stepOf : MS yX5_stepOf := bw_t tt_3 121 rfl rfl
set_option maxRecDepth 20000 in
theorem mk_X6_init : MK yX6_init cX6_init 1 none 0 := ⟨bw_t tt_1 28 rfl rfl, bw_t tt_1 2 rfl rfl, ⟨by decide +kernel, by decide +kernel⟩, by decide +kernel, Nat.le_of_ble_eq_true rfl⟩
set_option maxRecDepth 20000 in
theorem mk_X6_clear : MK yX6_clear cX6_clear 1 none 0 := ⟨bw_t tt_2 121 rfl rfl, bw_t tt_1 2 rfl rfl, ⟨by decide +kernel, by decide +kernel⟩, by decide +kernel, Nat.le_of_ble_eq_true rfl⟩
set_option maxRecDepth 20000 in
theorem mv_X6_clear : MV yX6_clear := ⟨bw_t tt_2 120 rfl rfl, sel_in (q := (yX6_clear, 16)) lp_1 0 rfl rfl⟩
set_option maxRecDepth 20000 in
theorem mk_X6_addLength : MK yX6_addLength cX6_addLength 3 none 2 := ⟨bw_t tt_3 46 rfl rfl, bw_t tt_1 2 rfl rfl, ⟨by decide +kernel, by decide +kernel⟩, by decide +kernel, Nat.le_of_ble_eq_true rfl⟩
set_option maxRecDepth 20000 in
theorem mv_X6_addLength : MV yX6_addLength := ⟨bw_t tt_3 45 rfl rfl, sel_in (q := (yX6_addLength, 16)) lp_1 13 rfl rfl⟩
set_option maxRecDepth 20000 in
theorem mk_X6_addSeam : MK yX6_addSeam cX6_addSeam 4 none 3 := ⟨bw_t tt_3 70 rfl rfl, bw_t tt_1 2 rfl rfl, ⟨by decide +kernel, by decide +kernel⟩, by decide +kernel, Nat.le_of_ble_eq_true rfl⟩
set_option maxRecDepth 20000 in
theorem mv_X6_addSeam : MV yX6_addSeam := ⟨bw_t tt_3 69 rfl rfl, sel_in (q := (yX6_addSeam, 16)) lp_2 3 rfl rfl⟩
set_option maxRecDepth 20000 in
theorem mk_X6_addRule : MK yX6_addRule cX6_addRule 1 none 0 := ⟨bw_t tt_3 126 rfl rfl, bw_t tt_1 2 rfl rfl, ⟨by decide +kernel, by decide +kernel⟩, by decide +kernel, Nat.le_of_ble_eq_true rfl⟩
set_option maxRecDepth 20000 in
theorem mv_X6_addRule : MV yX6_addRule := ⟨bw_t tt_3 125 rfl rfl, sel_in (q := (yX6_addRule, 16)) lp_3 0 rfl rfl⟩
set_option maxRecDepth 20000 in
theorem mk_X6_isNamed : MK yX6_isNamed cX6_isNamed 4 (some .boolean) 1 := ⟨bw_t tt_3 58 rfl rfl, bw_t tt_1 2 rfl rfl, ⟨by decide +kernel, by decide +kernel⟩, by decide +kernel, Nat.le_of_ble_eq_true rfl⟩
set_option maxRecDepth 20000 in
theorem mv_X6_isNamed : MV yX6_isNamed := ⟨bw_t tt_3 57 rfl rfl, sel_in (q := (yX6_isNamed, 16)) lp_2 0 rfl rfl⟩
set_option maxRecDepth 20000 in
theorem mk_X6_sameLetters : MK yX6_sameLetters cX6_sameLetters 4 (some .boolean) 2 := ⟨bw_t tt_3 62 rfl rfl, bw_t tt_1 2 rfl rfl, ⟨by decide +kernel, by decide +kernel⟩, by decide +kernel, Nat.le_of_ble_eq_true rfl⟩
set_option maxRecDepth 20000 in
theorem mv_X6_sameLetters : MV yX6_sameLetters := ⟨bw_t tt_3 61 rfl rfl, sel_in (q := (yX6_sameLetters, 16)) lp_2 1 rfl rfl⟩
set_option maxRecDepth 20000 in
theorem mk_X6_hasLength : MK yX6_hasLength cX6_hasLength 3 (some .boolean) 1 := ⟨bw_t tt_3 42 rfl rfl, bw_t tt_1 2 rfl rfl, ⟨by decide +kernel, by decide +kernel⟩, by decide +kernel, Nat.le_of_ble_eq_true rfl⟩
set_option maxRecDepth 20000 in
theorem mv_X6_hasLength : MV yX6_hasLength := ⟨bw_t tt_3 41 rfl rfl, sel_in (q := (yX6_hasLength, 16)) lp_1 12 rfl rfl⟩
set_option maxRecDepth 20000 in
theorem mk_X6_knows : MK yX6_knows cX6_knows 2 (some .boolean) 1 := ⟨bw_t tt_3 183 rfl rfl, bw_t tt_1 2 rfl rfl, ⟨by decide +kernel, by decide +kernel⟩, by decide +kernel, Nat.le_of_ble_eq_true rfl⟩
set_option maxRecDepth 20000 in
theorem mv_X6_knows : MV yX6_knows := ⟨bw_t tt_3 182 rfl rfl, sel_in (q := (yX6_knows, 16)) lp_3 7 rfl rfl⟩
set_option maxRecDepth 20000 in
theorem mk_X6_longest : MK yX6_longest cX6_longest 3 (some .int) 0 := ⟨bw_t tt_4 69 rfl rfl, bw_t tt_1 2 rfl rfl, ⟨by decide +kernel, by decide +kernel⟩, by decide +kernel, Nat.le_of_ble_eq_true rfl⟩
set_option maxRecDepth 20000 in
theorem mv_X6_longest : MV yX6_longest := ⟨bw_t tt_4 68 rfl rfl, sel_in (q := (yX6_longest, 16)) lp_4 8 rfl rfl⟩
set_option maxRecDepth 20000 in
theorem mk_X6_leastLength : MK yX6_leastLength cX6_leastLength 3 (some .int) 0 := ⟨bw_t tt_3 218 rfl rfl, bw_t tt_1 2 rfl rfl, ⟨by decide +kernel, by decide +kernel⟩, by decide +kernel, Nat.le_of_ble_eq_true rfl⟩
set_option maxRecDepth 20000 in
theorem mv_X6_leastLength : MV yX6_leastLength := ⟨bw_t tt_3 217 rfl rfl, sel_in (q := (yX6_leastLength, 16)) lp_3 14 rfl rfl⟩
set_option maxRecDepth 20000 in
theorem mk_X6_greatestLength : MK yX6_greatestLength cX6_greatestLength 3 (some .int) 0 := ⟨bw_t tt_3 223 rfl rfl, bw_t tt_1 2 rfl rfl, ⟨by decide +kernel, by decide +kernel⟩, by decide +kernel, Nat.le_of_ble_eq_true rfl⟩
set_option maxRecDepth 20000 in
theorem mv_X6_greatestLength : MV yX6_greatestLength := ⟨bw_t tt_3 222 rfl rfl, sel_in (q := (yX6_greatestLength, 16)) lp_3 15 rfl rfl⟩
set_option maxRecDepth 20000 in
theorem mk_X6_oddsOf : MK yX6_oddsOf cX6_oddsOf 4 (some .int) 1 := ⟨bw_t tt_3 198 rfl rfl, bw_t tt_1 2 rfl rfl, ⟨by decide +kernel, by decide +kernel⟩, by decide +kernel, Nat.le_of_ble_eq_true rfl⟩
set_option maxRecDepth 20000 in
theorem mv_X6_oddsOf : MV yX6_oddsOf := ⟨bw_t tt_3 197 rfl rfl, sel_in (q := (yX6_oddsOf, 16)) lp_3 10 rfl rfl⟩
set_option maxRecDepth 20000 in
theorem mk_X6_lengthBy : MK yX6_lengthBy cX6_lengthBy 4 (some .int) 1 := ⟨bw_t tt_4 158 rfl rfl, bw_t tt_1 2 rfl rfl, ⟨by decide +kernel, by decide +kernel⟩, by decide +kernel, Nat.le_of_ble_eq_true rfl⟩
set_option maxRecDepth 20000 in
theorem mv_X6_lengthBy : MV yX6_lengthBy := ⟨bw_t tt_4 157 rfl rfl, sel_in (q := (yX6_lengthBy, 16)) lp_5 6 rfl rfl⟩
set_option maxRecDepth 20000 in
theorem mk_X6_lookCost : MK yX6_lookCost cX6_lookCost 3 (some .int) 2 := ⟨bw_t tt_4 15 rfl rfl, bw_t tt_1 2 rfl rfl, ⟨by decide +kernel, by decide +kernel⟩, by decide +kernel, Nat.le_of_ble_eq_true rfl⟩
set_option maxRecDepth 20000 in
theorem mv_X6_lookCost : MV yX6_lookCost := ⟨bw_t tt_4 14 rfl rfl, sel_in (q := (yX6_lookCost, 16)) lp_4 2 rfl rfl⟩
set_option maxRecDepth 20000 in
theorem mk_X6_wants : MK yX6_wants cX6_wants 5 (some .boolean) 3 := ⟨bw_t tt_3 214 rfl rfl, bw_t tt_1 2 rfl rfl, ⟨by decide +kernel, by decide +kernel⟩, by decide +kernel, Nat.le_of_ble_eq_true rfl⟩
set_option maxRecDepth 20000 in
theorem mv_X6_wants : MV yX6_wants := ⟨bw_t tt_3 213 rfl rfl, sel_in (q := (yX6_wants, 16)) lp_3 13 rfl rfl⟩
set_option maxRecDepth 20000 in
theorem mk_X7_init : MK yX7_init cX7_init 1 none 0 := ⟨bw_t tt_1 20 rfl rfl, bw_t tt_1 1 rfl rfl, ⟨by decide +kernel, by decide +kernel⟩, by decide +kernel, Nat.le_of_ble_eq_true rfl⟩
set_option maxRecDepth 20000 in
theorem mk_X7_feed : MK yX7_feed cX7_feed 6 (some .int) 5 := ⟨bw_t tt_2 173 rfl rfl, bw_t tt_1 1 rfl rfl, ⟨by decide +kernel, by decide +kernel⟩, by decide +kernel, Nat.le_of_ble_eq_true rfl⟩
set_option maxRecDepth 20000 in
theorem mv_X7_feed : MV yX7_feed := ⟨bw_t tt_2 171 rfl rfl, bw_t tt_2 172 rfl rfl⟩
set_option maxRecDepth 20000 in
theorem mk_X7_append : MK yX7_append cX7_append 3 none 1 := ⟨bw_t tt_2 181 rfl rfl, bw_t tt_1 1 rfl rfl, ⟨by decide +kernel, by decide +kernel⟩, by decide +kernel, Nat.le_of_ble_eq_true rfl⟩
set_option maxRecDepth 20000 in
theorem mv_X7_append : MV yX7_append := ⟨bw_t tt_2 180 rfl rfl, sel_in (q := (yX7_append, 14)) lp_1 2 rfl rfl⟩
set_option maxRecDepth 20000 in
theorem mk_X7_refuse : MK yX7_refuse cX7_refuse 2 (some .int) 1 := ⟨bw_t tt_2 177 rfl rfl, bw_t tt_1 1 rfl rfl, ⟨by decide +kernel, by decide +kernel⟩, by decide +kernel, Nat.le_of_ble_eq_true rfl⟩
set_option maxRecDepth 20000 in
theorem mv_X7_refuse : MV yX7_refuse := ⟨bw_t tt_2 176 rfl rfl, sel_in (q := (yX7_refuse, 14)) lp_1 1 rfl rfl⟩
set_option maxRecDepth 20000 in
theorem mk_X7_end : MK yX7_end cX7_end 2 (some .boolean) 1 := ⟨bw_t tt_2 185 rfl rfl, bw_t tt_1 1 rfl rfl, ⟨by decide +kernel, by decide +kernel⟩, by decide +kernel, Nat.le_of_ble_eq_true rfl⟩
set_option maxRecDepth 20000 in
theorem mv_X7_end : MV yX7_end := ⟨bw_t tt_2 183 rfl rfl, bw_t tt_2 184 rfl rfl⟩
set_option maxRecDepth 20000 in
theorem mk_X7_room : MK yX7_room cX7_room 2 (some .int) 0 := ⟨bw_t tt_2 189 rfl rfl, bw_t tt_1 1 rfl rfl, ⟨by decide +kernel, by decide +kernel⟩, by decide +kernel, Nat.le_of_ble_eq_true rfl⟩
set_option maxRecDepth 20000 in
theorem mv_X7_room : MV yX7_room := ⟨bw_t tt_2 187 rfl rfl, bw_t tt_2 188 rfl rfl⟩
set_option maxRecDepth 20000 in
theorem mk_X7_fault : MK yX7_fault cX7_fault 2 (some .int) 1 := ⟨bw_t tt_3 155 rfl rfl, bw_t tt_1 1 rfl rfl, ⟨by decide +kernel, by decide +kernel⟩, by decide +kernel, Nat.le_of_ble_eq_true rfl⟩
set_option maxRecDepth 20000 in
theorem mv_X7_fault : MV yX7_fault := ⟨bw_t tt_3 153 rfl rfl, bw_t tt_3 154 rfl rfl⟩
set_option maxRecDepth 20000 in
theorem mk_X7_has : MK yX7_has cX7_has 2 (some .int) 1 := ⟨bw_t tt_3 159 rfl rfl, bw_t tt_1 1 rfl rfl, ⟨by decide +kernel, by decide +kernel⟩, by decide +kernel, Nat.le_of_ble_eq_true rfl⟩
set_option maxRecDepth 20000 in
theorem mv_X7_has : MV yX7_has := ⟨bw_t tt_3 157 rfl rfl, bw_t tt_3 158 rfl rfl⟩
set_option maxRecDepth 20000 in
theorem mk_X7_letter : MK yX7_letter cX7_letter 4 (some .int) 3 := ⟨bw_t tt_3 163 rfl rfl, bw_t tt_1 1 rfl rfl, ⟨by decide +kernel, by decide +kernel⟩, by decide +kernel, Nat.le_of_ble_eq_true rfl⟩
set_option maxRecDepth 20000 in
theorem mv_X7_letter : MV yX7_letter := ⟨bw_t tt_3 161 rfl rfl, bw_t tt_3 162 rfl rfl⟩
set_option maxRecDepth 20000 in
theorem mk_X7_bobbin : MK yX7_bobbin cX7_bobbin 3 (some .int) 2 := ⟨bw_t tt_3 167 rfl rfl, bw_t tt_1 1 rfl rfl, ⟨by decide +kernel, by decide +kernel⟩, by decide +kernel, Nat.le_of_ble_eq_true rfl⟩
set_option maxRecDepth 20000 in
theorem mv_X7_bobbin : MV yX7_bobbin := ⟨bw_t tt_3 165 rfl rfl, bw_t tt_3 166 rfl rfl⟩
set_option maxRecDepth 20000 in
theorem mk_X7_seam : MK yX7_seam cX7_seam 3 (some .int) 2 := ⟨bw_t tt_3 171 rfl rfl, bw_t tt_1 1 rfl rfl, ⟨by decide +kernel, by decide +kernel⟩, by decide +kernel, Nat.le_of_ble_eq_true rfl⟩
set_option maxRecDepth 20000 in
theorem mv_X7_seam : MV yX7_seam := ⟨bw_t tt_3 169 rfl rfl, bw_t tt_3 170 rfl rfl⟩
set_option maxRecDepth 20000 in
theorem mk_X7_row : MK yX7_row cX7_row 5 (some .int) 4 := ⟨bw_t tt_3 175 rfl rfl, bw_t tt_1 1 rfl rfl, ⟨by decide +kernel, by decide +kernel⟩, by decide +kernel, Nat.le_of_ble_eq_true rfl⟩
set_option maxRecDepth 20000 in
theorem mv_X7_row : MV yX7_row := ⟨bw_t tt_3 173 rfl rfl, bw_t tt_3 174 rfl rfl⟩
set_option maxRecDepth 20000 in
theorem mk_X7_judge : MK yX7_judge cX7_judge 4 (some .int) 3 := ⟨bw_t tt_4 27 rfl rfl, bw_t tt_1 1 rfl rfl, ⟨by decide +kernel, by decide +kernel⟩, by decide +kernel, Nat.le_of_ble_eq_true rfl⟩
set_option maxRecDepth 20000 in
theorem mv_X7_judge : MV yX7_judge := ⟨bw_t tt_4 25 rfl rfl, bw_t tt_4 26 rfl rfl⟩
set_option maxRecDepth 20000 in
theorem mk_X7_follow : MK yX7_follow cX7_follow 3 (some .boolean) 2 := ⟨bw_t tt_3 179 rfl rfl, bw_t tt_1 1 rfl rfl, ⟨by decide +kernel, by decide +kernel⟩, by decide +kernel, Nat.le_of_ble_eq_true rfl⟩
set_option maxRecDepth 20000 in
theorem mv_X7_follow : MV yX7_follow := ⟨bw_t tt_3 178 rfl rfl, sel_in (q := (yX7_follow, 14)) lp_3 6 rfl rfl⟩
set_option maxRecDepth 20000 in
theorem mk_X7_isLength : MK yX7_isLength cX7_isLength 1 (some .boolean) 1 := ⟨bw_t tt_3 186 rfl rfl, bw_t tt_1 1 rfl rfl, ⟨by decide +kernel, by decide +kernel⟩, by decide +kernel, Nat.le_of_ble_eq_true rfl⟩
set_option maxRecDepth 20000 in
theorem ms_X7_isLength : MS yX7_isLength := bw_t tt_3 185 rfl rfl
set_option maxRecDepth 20000 in
theorem mk_X7_weighs : MK yX7_weighs cX7_weighs 1 (some .boolean) 0 := ⟨bw_t tt_4 35 rfl rfl, bw_t tt_1 1 rfl rfl, ⟨by decide +kernel, by decide +kernel⟩, by decide +kernel, Nat.le_of_ble_eq_true rfl⟩
set_option maxRecDepth 20000 in
theorem mv_X7_weighs : MV yX7_weighs := ⟨bw_t tt_4 34 rfl rfl, sel_in (q := (yX7_weighs, 14)) lp_4 5 rfl rfl⟩
set_option maxRecDepth 20000 in
theorem mk_X7_mean : MK yX7_mean cX7_mean 2 (some .int) 1 := ⟨bw_t tt_4 31 rfl rfl, bw_t tt_1 1 rfl rfl, ⟨by decide +kernel, by decide +kernel⟩, by decide +kernel, Nat.le_of_ble_eq_true rfl⟩
set_option maxRecDepth 20000 in
theorem mv_X7_mean : MV yX7_mean := ⟨bw_t tt_4 29 rfl rfl, bw_t tt_4 30 rfl rfl⟩
set_option maxRecDepth 20000 in
theorem mk_X7_when : MK yX7_when cX7_when 3 (some .int) 2 := ⟨bw_t tt_4 48 rfl rfl, bw_t tt_1 1 rfl rfl, ⟨by decide +kernel, by decide +kernel⟩, by decide +kernel, Nat.le_of_ble_eq_true rfl⟩
set_option maxRecDepth 20000 in
theorem mv_X7_when : MV yX7_when := ⟨bw_t tt_4 46 rfl rfl, bw_t tt_4 47 rfl rfl⟩
set_option maxRecDepth 20000 in
theorem mk_X7_looks : MK yX7_looks cX7_looks 4 (some .int) 1 := ⟨bw_t tt_4 53 rfl rfl, bw_t tt_1 1 rfl rfl, ⟨by decide +kernel, by decide +kernel⟩, by decide +kernel, Nat.le_of_ble_eq_true rfl⟩
set_option maxRecDepth 20000 in
theorem mv_X7_looks : MV yX7_looks := ⟨bw_t tt_4 51 rfl rfl, bw_t tt_4 52 rfl rfl⟩
set_option maxRecDepth 20000 in
theorem mk_X7_rule : MK yX7_rule cX7_rule 7 (some .int) 0 := ⟨bw_t tt_4 57 rfl rfl, bw_t tt_1 1 rfl rfl, ⟨by decide +kernel, by decide +kernel⟩, by decide +kernel, Nat.le_of_ble_eq_true rfl⟩
set_option maxRecDepth 20000 in
theorem mv_X7_rule : MV yX7_rule := ⟨bw_t tt_4 55 rfl rfl, bw_t tt_4 56 rfl rfl⟩
set_option maxRecDepth 20000 in
theorem mk_X7_fewest : MK yX7_fewest cX7_fewest 3 (some .int) 2 := ⟨bw_t tt_4 61 rfl rfl, bw_t tt_1 1 rfl rfl, ⟨by decide +kernel, by decide +kernel⟩, by decide +kernel, Nat.le_of_ble_eq_true rfl⟩
set_option maxRecDepth 20000 in
theorem mv_X7_fewest : MV yX7_fewest := ⟨bw_t tt_4 59 rfl rfl, bw_t tt_4 60 rfl rfl⟩
set_option maxRecDepth 20000 in
theorem mk_X7_free : MK yX7_free cX7_free 3 (some .int) 2 := ⟨bw_t tt_4 77 rfl rfl, bw_t tt_1 1 rfl rfl, ⟨by decide +kernel, by decide +kernel⟩, by decide +kernel, Nat.le_of_ble_eq_true rfl⟩
set_option maxRecDepth 20000 in
theorem mv_X7_free : MV yX7_free := ⟨bw_t tt_4 75 rfl rfl, bw_t tt_4 76 rfl rfl⟩
set_option maxRecDepth 20000 in
theorem mk_X7_hidden : MK yX7_hidden cX7_hidden 3 (some .int) 2 := ⟨bw_t tt_4 94 rfl rfl, bw_t tt_1 1 rfl rfl, ⟨by decide +kernel, by decide +kernel⟩, by decide +kernel, Nat.le_of_ble_eq_true rfl⟩
set_option maxRecDepth 20000 in
theorem mv_X7_hidden : MV yX7_hidden := ⟨bw_t tt_4 92 rfl rfl, bw_t tt_4 93 rfl rfl⟩
set_option maxRecDepth 20000 in
theorem mk_X7_several : MK yX7_several cX7_several 3 (some .int) 2 := ⟨bw_t tt_4 115 rfl rfl, bw_t tt_1 1 rfl rfl, ⟨by decide +kernel, by decide +kernel⟩, by decide +kernel, Nat.le_of_ble_eq_true rfl⟩
set_option maxRecDepth 20000 in
theorem mv_X7_several : MV yX7_several := ⟨bw_t tt_4 113 rfl rfl, bw_t tt_4 114 rfl rfl⟩
set_option maxRecDepth 20000 in
theorem mk_X7_canPlan : MK yX7_canPlan cX7_canPlan 3 (some .boolean) 2 := ⟨bw_t tt_4 65 rfl rfl, bw_t tt_1 1 rfl rfl, ⟨by decide +kernel, by decide +kernel⟩, by decide +kernel, Nat.le_of_ble_eq_true rfl⟩
set_option maxRecDepth 20000 in
theorem mv_X7_canPlan : MV yX7_canPlan := ⟨bw_t tt_4 64 rfl rfl, sel_in (q := (yX7_canPlan, 14)) lp_4 7 rfl rfl⟩
set_option maxRecDepth 20000 in
theorem mk_X7_wound : MK yX7_wound cX7_wound 7 (some .int) 1 := ⟨bw_t tt_4 128 rfl rfl, bw_t tt_1 1 rfl rfl, ⟨by decide +kernel, by decide +kernel⟩, by decide +kernel, Nat.le_of_ble_eq_true rfl⟩
set_option maxRecDepth 20000 in
theorem mv_X7_wound : MV yX7_wound := ⟨bw_t tt_4 126 rfl rfl, bw_t tt_4 127 rfl rfl⟩
set_option maxRecDepth 20000 in
theorem mk_X7_day : MK yX7_day cX7_day 2 (some .int) 1 := ⟨bw_t tt_4 134 rfl rfl, bw_t tt_1 1 rfl rfl, ⟨by decide +kernel, by decide +kernel⟩, by decide +kernel, Nat.le_of_ble_eq_true rfl⟩
set_option maxRecDepth 20000 in
theorem mv_X7_day : MV yX7_day := ⟨bw_t tt_4 132 rfl rfl, bw_t tt_4 133 rfl rfl⟩
set_option maxRecDepth 20000 in
theorem mk_X7_sew : MK yX7_sew cX7_sew 3 (some .int) 1 := ⟨bw_t tt_4 138 rfl rfl, bw_t tt_1 1 rfl rfl, ⟨by decide +kernel, by decide +kernel⟩, by decide +kernel, Nat.le_of_ble_eq_true rfl⟩
set_option maxRecDepth 20000 in
theorem mv_X7_sew : MV yX7_sew := ⟨bw_t tt_4 136 rfl rfl, bw_t tt_4 137 rfl rfl⟩
set_option maxRecDepth 20000 in
theorem mk_X7_glance : MK yX7_glance cX7_glance 1 (some .int) 0 := ⟨bw_t tt_4 167 rfl rfl, bw_t tt_1 1 rfl rfl, ⟨by decide +kernel, by decide +kernel⟩, by decide +kernel, Nat.le_of_ble_eq_true rfl⟩
set_option maxRecDepth 20000 in
theorem mv_X7_glance : MV yX7_glance := ⟨bw_t tt_4 165 rfl rfl, bw_t tt_4 166 rfl rfl⟩
set_option maxRecDepth 20000 in
theorem mk_X7_sews : MK yX7_sews cX7_sews 5 (some .int) 1 := ⟨bw_t tt_4 171 rfl rfl, bw_t tt_1 1 rfl rfl, ⟨by decide +kernel, by decide +kernel⟩, by decide +kernel, Nat.le_of_ble_eq_true rfl⟩
set_option maxRecDepth 20000 in
theorem mv_X7_sews : MV yX7_sews := ⟨bw_t tt_4 169 rfl rfl, bw_t tt_4 170 rfl rfl⟩
set_option maxRecDepth 20000 in
theorem mk_X7_anew : MK yX7_anew cX7_anew 1 (some .int) 0 := ⟨bw_t tt_4 176 rfl rfl, bw_t tt_1 1 rfl rfl, ⟨by decide +kernel, by decide +kernel⟩, by decide +kernel, Nat.le_of_ble_eq_true rfl⟩
set_option maxRecDepth 20000 in
theorem mv_X7_anew : MV yX7_anew := ⟨bw_t tt_4 174 rfl rfl, bw_t tt_4 175 rfl rfl⟩
set_option maxRecDepth 20000 in
theorem mk_X7_undo : MK yX7_undo cX7_undo 1 (some .boolean) 0 := ⟨bw_t tt_4 182 rfl rfl, bw_t tt_1 1 rfl rfl, ⟨by decide +kernel, by decide +kernel⟩, by decide +kernel, Nat.le_of_ble_eq_true rfl⟩
set_option maxRecDepth 20000 in
theorem mv_X7_undo : MV yX7_undo := ⟨bw_t tt_4 180 rfl rfl, bw_t tt_4 181 rfl rfl⟩
set_option maxRecDepth 20000 in
theorem mk_X7_seed : MK yX7_seed cX7_seed 2 (some .boolean) 1 := ⟨bw_t tt_4 190 rfl rfl, bw_t tt_1 1 rfl rfl, ⟨by decide +kernel, by decide +kernel⟩, by decide +kernel, Nat.le_of_ble_eq_true rfl⟩
set_option maxRecDepth 20000 in
theorem mv_X7_seed : MV yX7_seed := ⟨bw_t tt_4 188 rfl rfl, bw_t tt_4 189 rfl rfl⟩
set_option maxRecDepth 20000 in
theorem mk_X7_see : MK yX7_see cX7_see 2 (some .int) 0 := ⟨bw_t tt_4 194 rfl rfl, bw_t tt_1 1 rfl rfl, ⟨by decide +kernel, by decide +kernel⟩, by decide +kernel, Nat.le_of_ble_eq_true rfl⟩
set_option maxRecDepth 20000 in
theorem mv_X7_see : MV yX7_see := ⟨bw_t tt_4 192 rfl rfl, bw_t tt_4 193 rfl rfl⟩
set_option maxRecDepth 20000 in
theorem mk_X7_tellsRows : MK yX7_tellsRows cX7_tellsRows 3 (some .boolean) 1 := ⟨bw_t tt_4 198 rfl rfl, bw_t tt_1 1 rfl rfl, ⟨by decide +kernel, by decide +kernel⟩, by decide +kernel, Nat.le_of_ble_eq_true rfl⟩
set_option maxRecDepth 20000 in
theorem mv_X7_tellsRows : MV yX7_tellsRows := ⟨bw_t tt_4 197 rfl rfl, sel_in (q := (yX7_tellsRows, 14)) lp_5 9 rfl rfl⟩
set_option maxRecDepth 20000 in
theorem mk_X7_fits : MK yX7_fits cX7_fits 6 (some .int) 1 := ⟨bw_t tt_4 203 rfl rfl, bw_t tt_1 1 rfl rfl, ⟨by decide +kernel, by decide +kernel⟩, by decide +kernel, Nat.le_of_ble_eq_true rfl⟩
set_option maxRecDepth 20000 in
theorem mv_X7_fits : MV yX7_fits := ⟨bw_t tt_4 201 rfl rfl, bw_t tt_4 202 rfl rfl⟩
set_option maxRecDepth 20000 in
theorem mk_X7_agrees : MK yX7_agrees cX7_agrees 3 (some .boolean) 1 := ⟨bw_t tt_4 207 rfl rfl, bw_t tt_1 1 rfl rfl, ⟨by decide +kernel, by decide +kernel⟩, by decide +kernel, Nat.le_of_ble_eq_true rfl⟩
set_option maxRecDepth 20000 in
theorem mv_X7_agrees : MV yX7_agrees := ⟨bw_t tt_4 206 rfl rfl, sel_in (q := (yX7_agrees, 14)) lp_5 10 rfl rfl⟩
set_option maxRecDepth 20000 in
theorem mk_X7_ask : MK yX7_ask cX7_ask 10 (some .long) 2 := ⟨bw_t tt_4 211 rfl rfl, bw_t tt_1 1 rfl rfl, ⟨by decide +kernel, by decide +kernel⟩, by decide +kernel, Nat.le_of_ble_eq_true rfl⟩
set_option maxRecDepth 20000 in
theorem mv_X7_ask : MV yX7_ask := ⟨bw_t tt_4 209 rfl rfl, bw_t tt_4 210 rfl rfl⟩
set_option maxRecDepth 20000 in
theorem mk_X7_counted : MK yX7_counted cX7_counted 4 (some .long) 3 := ⟨bw_t tt_4 225 rfl rfl, bw_t tt_1 1 rfl rfl, ⟨by decide +kernel, by decide +kernel⟩, by decide +kernel, Nat.le_of_ble_eq_true rfl⟩
set_option maxRecDepth 20000 in
theorem ms_X7_counted : MS yX7_counted := bw_t tt_4 224 rfl rfl
set_option maxRecDepth 20000 in
theorem mk_X7_gathered : MK yX7_gathered cX7_gathered 4 (some .long) 3 := ⟨bw_t tt_4 228 rfl rfl, bw_t tt_1 1 rfl rfl, ⟨by decide +kernel, by decide +kernel⟩, by decide +kernel, Nat.le_of_ble_eq_true rfl⟩
set_option maxRecDepth 20000 in
theorem ms_X7_gathered : MS yX7_gathered := bw_t tt_4 227 rfl rfl
set_option maxRecDepth 20000 in
theorem mk_X7_image : MK yX7_image cX7_image 1 (some .int) 0 := ⟨bw_t tt_4 234 rfl rfl, bw_t tt_1 1 rfl rfl, ⟨by decide +kernel, by decide +kernel⟩, by decide +kernel, Nat.le_of_ble_eq_true rfl⟩
set_option maxRecDepth 20000 in
theorem mv_X7_image : MV yX7_image := ⟨bw_t tt_4 232 rfl rfl, bw_t tt_4 233 rfl rfl⟩
set_option maxRecDepth 20000 in
theorem mk_X7_checkOf : MK yX7_checkOf cX7_checkOf 3 (some .int) 1 := ⟨bw_t tt_4 237 rfl rfl, bw_t tt_1 1 rfl rfl, ⟨by decide +kernel, by decide +kernel⟩, by decide +kernel, Nat.le_of_ble_eq_true rfl⟩
set_option maxRecDepth 20000 in
theorem ms_X7_checkOf : MS yX7_checkOf := bw_t tt_4 236 rfl rfl
set_option maxRecDepth 20000 in
theorem mk_X7_octet : MK yX7_octet cX7_octet 2 (some .int) 1 := ⟨bw_t tt_5 1 rfl rfl, bw_t tt_1 1 rfl rfl, ⟨by decide +kernel, by decide +kernel⟩, by decide +kernel, Nat.le_of_ble_eq_true rfl⟩
set_option maxRecDepth 20000 in
theorem mv_X7_octet : MV yX7_octet := ⟨bw_t tt_4 239 rfl rfl, bw_t tt_5 0 rfl rfl⟩
set_option maxRecDepth 20000 in
theorem mk_X7_on : MK yX7_on cX7_on 2 (some .boolean) 0 := ⟨bw_t tt_5 5 rfl rfl, bw_t tt_1 1 rfl rfl, ⟨by decide +kernel, by decide +kernel⟩, by decide +kernel, Nat.le_of_ble_eq_true rfl⟩
set_option maxRecDepth 20000 in
theorem mv_X7_on : MV yX7_on := ⟨bw_t tt_5 3 rfl rfl, bw_t tt_5 4 rfl rfl⟩
set_option maxRecDepth 20000 in
theorem mk_X7_tellsDay : MK yX7_tellsDay cX7_tellsDay 1 (some .boolean) 0 := ⟨bw_t tt_5 9 rfl rfl, bw_t tt_1 1 rfl rfl, ⟨by decide +kernel, by decide +kernel⟩, by decide +kernel, Nat.le_of_ble_eq_true rfl⟩
set_option maxRecDepth 20000 in
theorem mv_X7_tellsDay : MV yX7_tellsDay := ⟨bw_t tt_5 8 rfl rfl, sel_in (q := (yX7_tellsDay, 14)) lp_5 13 rfl rfl⟩
set_option maxRecDepth 20000 in
theorem mk_X7_status : MK yX7_status cX7_status 2 (some .int) 1 := ⟨bw_t tt_5 14 rfl rfl, bw_t tt_1 1 rfl rfl, ⟨by decide +kernel, by decide +kernel⟩, by decide +kernel, Nat.le_of_ble_eq_true rfl⟩
set_option maxRecDepth 20000 in
theorem mv_X7_status : MV yX7_status := ⟨bw_t tt_5 12 rfl rfl, bw_t tt_5 13 rfl rfl⟩
set_option maxRecDepth 20000 in
theorem mk_X8_init : MK yX8_init cX8_init 1 none 0 := ⟨bw_t tt_5 19 rfl rfl, bw_t tt_1 10 rfl rfl, ⟨by decide +kernel, by decide +kernel⟩, by decide +kernel, Nat.le_of_ble_eq_true rfl⟩
set_option maxRecDepth 20000 in
theorem mk_X8_isIn : MK yX8_isIn cX8_isIn 6 (some .boolean) 3 := ⟨bw_t tt_6 204 rfl rfl, bw_t tt_1 10 rfl rfl, ⟨by decide +kernel, by decide +kernel⟩, by decide +kernel, Nat.le_of_ble_eq_true rfl⟩
set_option maxRecDepth 20000 in
theorem ms_X8_isIn : MS yX8_isIn := bw_t tt_6 203 rfl rfl
set_option maxRecDepth 20000 in
theorem mk_X8_feed : MK yX8_feed cX8_feed 8 (some .int) 5 := ⟨bw_t tt_6 155 rfl rfl, bw_t tt_1 10 rfl rfl, ⟨by decide +kernel, by decide +kernel⟩, by decide +kernel, Nat.le_of_ble_eq_true rfl⟩
set_option maxRecDepth 20000 in
theorem mv_X8_feed : MV yX8_feed := ⟨bw_t tt_6 153 rfl rfl, bw_t tt_6 154 rfl rfl⟩
set_option maxRecDepth 20000 in
theorem mk_X8_end : MK yX8_end cX8_end 2 (some .boolean) 1 := ⟨bw_t tt_6 159 rfl rfl, bw_t tt_1 10 rfl rfl, ⟨by decide +kernel, by decide +kernel⟩, by decide +kernel, Nat.le_of_ble_eq_true rfl⟩
set_option maxRecDepth 20000 in
theorem mv_X8_end : MV yX8_end := ⟨bw_t tt_6 157 rfl rfl, bw_t tt_6 158 rfl rfl⟩
set_option maxRecDepth 20000 in
theorem mk_X8_fail : MK yX8_fail cX8_fail 3 none 2 := ⟨bw_t tt_6 190 rfl rfl, bw_t tt_1 10 rfl rfl, ⟨by decide +kernel, by decide +kernel⟩, by decide +kernel, Nat.le_of_ble_eq_true rfl⟩
set_option maxRecDepth 20000 in
theorem mv_X8_fail : MV yX8_fail := ⟨bw_t tt_6 189 rfl rfl, sel_in (q := (yX8_fail, 123)) lp_6 3 rfl rfl⟩
set_option maxRecDepth 20000 in
theorem mk_X8_isLetter : MK yX8_isLetter cX8_isLetter 1 (some .boolean) 1 := ⟨bw_t tt_6 186 rfl rfl, bw_t tt_1 10 rfl rfl, ⟨by decide +kernel, by decide +kernel⟩, by decide +kernel, Nat.le_of_ble_eq_true rfl⟩
set_option maxRecDepth 20000 in
theorem ms_X8_isLetter : MS yX8_isLetter := bw_t tt_6 185 rfl rfl
set_option maxRecDepth 20000 in
theorem mk_X8_isDigit : MK yX8_isDigit cX8_isDigit 1 (some .boolean) 1 := ⟨bw_t tt_6 201 rfl rfl, bw_t tt_1 10 rfl rfl, ⟨by decide +kernel, by decide +kernel⟩, by decide +kernel, Nat.le_of_ble_eq_true rfl⟩
set_option maxRecDepth 20000 in
theorem ms_X8_isDigit : MS yX8_isDigit := bw_t tt_6 200 rfl rfl
set_option maxRecDepth 20000 in
theorem mk_X8_look : MK yX8_look cX8_look 1 (some .int) 0 := ⟨bw_t tt_6 183 rfl rfl, bw_t tt_1 10 rfl rfl, ⟨by decide +kernel, by decide +kernel⟩, by decide +kernel, Nat.le_of_ble_eq_true rfl⟩
set_option maxRecDepth 20000 in
theorem mv_X8_look : MV yX8_look := ⟨bw_t tt_6 182 rfl rfl, sel_in (q := (yX8_look, 123)) lp_6 2 rfl rfl⟩
set_option maxRecDepth 20000 in
theorem mk_X8_isHere : MK yX8_isHere cX8_isHere 4 (some .boolean) 1 := ⟨bw_t tt_6 179 rfl rfl, bw_t tt_1 10 rfl rfl, ⟨by decide +kernel, by decide +kernel⟩, by decide +kernel, Nat.le_of_ble_eq_true rfl⟩
set_option maxRecDepth 20000 in
theorem mv_X8_isHere : MV yX8_isHere := ⟨bw_t tt_6 178 rfl rfl, sel_in (q := (yX8_isHere, 123)) lp_6 1 rfl rfl⟩
set_option maxRecDepth 20000 in
theorem mk_X8_takes : MK yX8_takes cX8_takes 2 (some .boolean) 1 := ⟨bw_t tt_6 175 rfl rfl, bw_t tt_1 10 rfl rfl, ⟨by decide +kernel, by decide +kernel⟩, by decide +kernel, Nat.le_of_ble_eq_true rfl⟩
set_option maxRecDepth 20000 in
theorem mv_X8_takes : MV yX8_takes := ⟨bw_t tt_6 174 rfl rfl, sel_in (q := (yX8_takes, 123)) lp_6 0 rfl rfl⟩
set_option maxRecDepth 20000 in
theorem mk_X8_asks : MK yX8_asks cX8_asks 2 none 1 := ⟨bw_t tt_6 171 rfl rfl, bw_t tt_1 10 rfl rfl, ⟨by decide +kernel, by decide +kernel⟩, by decide +kernel, Nat.le_of_ble_eq_true rfl⟩
set_option maxRecDepth 20000 in
theorem mv_X8_asks : MV yX8_asks := ⟨bw_t tt_6 170 rfl rfl, sel_in (q := (yX8_asks, 123)) lp_5 15 rfl rfl⟩
set_option maxRecDepth 20000 in
theorem mk_X8_takesSign : MK yX8_takesSign cX8_takesSign 2 (some .boolean) 1 := ⟨bw_t tt_6 220 rfl rfl, bw_t tt_1 10 rfl rfl, ⟨by decide +kernel, by decide +kernel⟩, by decide +kernel, Nat.le_of_ble_eq_true rfl⟩
set_option maxRecDepth 20000 in
theorem mv_X8_takesSign : MV yX8_takesSign := ⟨bw_t tt_6 219 rfl rfl, sel_in (q := (yX8_takesSign, 123)) lp_6 9 rfl rfl⟩
set_option maxRecDepth 20000 in
theorem mk_X8_asksSign : MK yX8_asksSign cX8_asksSign 2 none 1 := ⟨bw_t tt_6 216 rfl rfl, bw_t tt_1 10 rfl rfl, ⟨by decide +kernel, by decide +kernel⟩, by decide +kernel, Nat.le_of_ble_eq_true rfl⟩
set_option maxRecDepth 20000 in
theorem mv_X8_asksSign : MV yX8_asksSign := ⟨bw_t tt_6 215 rfl rfl, sel_in (q := (yX8_asksSign, 123)) lp_6 8 rfl rfl⟩
set_option maxRecDepth 20000 in
theorem mk_X8_number : MK yX8_number cX8_number 5 (some .int) 2 := ⟨bw_t tt_6 198 rfl rfl, bw_t tt_1 10 rfl rfl, ⟨by decide +kernel, by decide +kernel⟩, by decide +kernel, Nat.le_of_ble_eq_true rfl⟩
set_option maxRecDepth 20000 in
theorem mv_X8_number : MV yX8_number := ⟨bw_t tt_6 197 rfl rfl, sel_in (q := (yX8_number, 123)) lp_6 5 rfl rfl⟩
set_option maxRecDepth 20000 in
theorem mk_X8_isOwnHere : MK yX8_isOwnHere cX8_isOwnHere 2 (some .boolean) 0 := ⟨bw_t tt_7 0 rfl rfl, bw_t tt_1 10 rfl rfl, ⟨by decide +kernel, by decide +kernel⟩, by decide +kernel, Nat.le_of_ble_eq_true rfl⟩
set_option maxRecDepth 20000 in
theorem mv_X8_isOwnHere : MV yX8_isOwnHere := ⟨bw_t tt_6 239 rfl rfl, sel_in (q := (yX8_isOwnHere, 123)) lp_6 14 rfl rfl⟩
set_option maxRecDepth 20000 in
theorem mk_X8_name : MK yX8_name cX8_name 3 (some .long) 0 := ⟨bw_t tt_6 236 rfl rfl, bw_t tt_1 10 rfl rfl, ⟨by decide +kernel, by decide +kernel⟩, by decide +kernel, Nat.le_of_ble_eq_true rfl⟩
set_option maxRecDepth 20000 in
theorem mv_X8_name : MV yX8_name := ⟨bw_t tt_6 235 rfl rfl, sel_in (q := (yX8_name, 123)) lp_6 13 rfl rfl⟩
set_option maxRecDepth 20000 in
theorem mk_X8_isAllowed : MK yX8_isAllowed cX8_isAllowed 2 (some .boolean) 1 := ⟨bw_t tt_7 46 rfl rfl, bw_t tt_1 10 rfl rfl, ⟨by decide +kernel, by decide +kernel⟩, by decide +kernel, Nat.le_of_ble_eq_true rfl⟩
set_option maxRecDepth 20000 in
theorem mv_X8_isAllowed : MV yX8_isAllowed := ⟨bw_t tt_7 45 rfl rfl, sel_in (q := (yX8_isAllowed, 123)) lp_7 9 rfl rfl⟩
set_option maxRecDepth 20000 in
theorem mk_X8_newName : MK yX8_newName cX8_newName 5 (some .long) 0 := ⟨bw_t tt_6 232 rfl rfl, bw_t tt_1 10 rfl rfl, ⟨by decide +kernel, by decide +kernel⟩, by decide +kernel, Nat.le_of_ble_eq_true rfl⟩
set_option maxRecDepth 20000 in
theorem mv_X8_newName : MV yX8_newName := ⟨bw_t tt_6 231 rfl rfl, sel_in (q := (yX8_newName, 123)) lp_6 12 rfl rfl⟩
set_option maxRecDepth 20000 in
theorem mk_X8_lengthTold : MK yX8_lengthTold cX8_lengthTold 3 none 0 := ⟨bw_t tt_6 194 rfl rfl, bw_t tt_1 10 rfl rfl, ⟨by decide +kernel, by decide +kernel⟩, by decide +kernel, Nat.le_of_ble_eq_true rfl⟩
set_option maxRecDepth 20000 in
theorem mv_X8_lengthTold : MV yX8_lengthTold := ⟨bw_t tt_6 193 rfl rfl, sel_in (q := (yX8_lengthTold, 123)) lp_6 4 rfl rfl⟩
set_option maxRecDepth 20000 in
theorem mk_X8_allOdds : MK yX8_allOdds cX8_allOdds 3 (some .int) 0 := ⟨bw_t tt_6 208 rfl rfl, bw_t tt_1 10 rfl rfl, ⟨by decide +kernel, by decide +kernel⟩, by decide +kernel, Nat.le_of_ble_eq_true rfl⟩
set_option maxRecDepth 20000 in
theorem mv_X8_allOdds : MV yX8_allOdds := ⟨bw_t tt_6 207 rfl rfl, sel_in (q := (yX8_allOdds, 123)) lp_6 6 rfl rfl⟩
set_option maxRecDepth 20000 in
theorem mk_X8_bobbinTold : MK yX8_bobbinTold cX8_bobbinTold 1 none 0 := ⟨bw_t tt_6 167 rfl rfl, bw_t tt_1 10 rfl rfl, ⟨by decide +kernel, by decide +kernel⟩, by decide +kernel, Nat.le_of_ble_eq_true rfl⟩
set_option maxRecDepth 20000 in
theorem mv_X8_bobbinTold : MV yX8_bobbinTold := ⟨bw_t tt_6 166 rfl rfl, sel_in (q := (yX8_bobbinTold, 123)) lp_5 14 rfl rfl⟩
set_option maxRecDepth 20000 in
theorem mk_X8_isWordHere : MK yX8_isWordHere cX8_isWordHere 1 (some .boolean) 0 := ⟨bw_t tt_6 212 rfl rfl, bw_t tt_1 10 rfl rfl, ⟨by decide +kernel, by decide +kernel⟩, by decide +kernel, Nat.le_of_ble_eq_true rfl⟩
set_option maxRecDepth 20000 in
theorem mv_X8_isWordHere : MV yX8_isWordHere := ⟨bw_t tt_6 211 rfl rfl, sel_in (q := (yX8_isWordHere, 123)) lp_6 7 rfl rfl⟩
set_option maxRecDepth 20000 in
theorem mk_X8_placeTold : MK yX8_placeTold cX8_placeTold 4 none 1 := ⟨bw_t tt_7 6 rfl rfl, bw_t tt_1 10 rfl rfl, ⟨by decide +kernel, by decide +kernel⟩, by decide +kernel, Nat.le_of_ble_eq_true rfl⟩
set_option maxRecDepth 20000 in
theorem mv_X8_placeTold : MV yX8_placeTold := ⟨bw_t tt_7 5 rfl rfl, sel_in (q := (yX8_placeTold, 123)) lp_6 15 rfl rfl⟩
set_option maxRecDepth 20000 in
theorem mk_X8_seamTold : MK yX8_seamTold cX8_seamTold 5 none 1 := ⟨bw_t tt_6 228 rfl rfl, bw_t tt_1 10 rfl rfl, ⟨by decide +kernel, by decide +kernel⟩, by decide +kernel, Nat.le_of_ble_eq_true rfl⟩
set_option maxRecDepth 20000 in
theorem mv_X8_seamTold : MV yX8_seamTold := ⟨bw_t tt_6 227 rfl rfl, sel_in (q := (yX8_seamTold, 123)) lp_6 11 rfl rfl⟩
set_option maxRecDepth 20000 in
theorem mk_X8_ruleTold : MK yX8_ruleTold cX8_ruleTold 5 none 1 := ⟨bw_t tt_7 10 rfl rfl, bw_t tt_1 10 rfl rfl, ⟨by decide +kernel, by decide +kernel⟩, by decide +kernel, Nat.le_of_ble_eq_true rfl⟩
set_option maxRecDepth 20000 in
theorem mv_X8_ruleTold : MV yX8_ruleTold := ⟨bw_t tt_7 9 rfl rfl, sel_in (q := (yX8_ruleTold, 123)) lp_7 0 rfl rfl⟩
set_option maxRecDepth 20000 in
theorem mk_X8_statementTold : MK yX8_statementTold cX8_statementTold 2 none 0 := ⟨bw_t tt_6 224 rfl rfl, bw_t tt_1 10 rfl rfl, ⟨by decide +kernel, by decide +kernel⟩, by decide +kernel, Nat.le_of_ble_eq_true rfl⟩
set_option maxRecDepth 20000 in
theorem mv_X8_statementTold : MV yX8_statementTold := ⟨bw_t tt_6 223 rfl rfl, sel_in (q := (yX8_statementTold, 123)) lp_6 10 rfl rfl⟩
set_option maxRecDepth 20000 in
theorem mk_X8_room : MK yX8_room cX8_room 2 (some .int) 0 := ⟨bw_t tt_6 163 rfl rfl, bw_t tt_1 10 rfl rfl, ⟨by decide +kernel, by decide +kernel⟩, by decide +kernel, Nat.le_of_ble_eq_true rfl⟩
set_option maxRecDepth 20000 in
theorem mv_X8_room : MV yX8_room := ⟨bw_t tt_6 161 rfl rfl, bw_t tt_6 162 rfl rfl⟩
set_option maxRecDepth 20000 in
theorem mk_X8_stands : MK yX8_stands cX8_stands 2 none 0 := ⟨bw_t tt_7 93 rfl rfl, bw_t tt_1 10 rfl rfl, ⟨by decide +kernel, by decide +kernel⟩, by decide +kernel, Nat.le_of_ble_eq_true rfl⟩
set_option maxRecDepth 20000 in
theorem mv_X8_stands : MV yX8_stands := ⟨bw_t tt_7 92 rfl rfl, sel_in (q := (yX8_stands, 123)) lp_8 4 rfl rfl⟩
set_option maxRecDepth 20000 in
theorem mk_X8_fault : MK yX8_fault cX8_fault 2 (some .int) 1 := ⟨bw_t tt_7 97 rfl rfl, bw_t tt_1 10 rfl rfl, ⟨by decide +kernel, by decide +kernel⟩, by decide +kernel, Nat.le_of_ble_eq_true rfl⟩
set_option maxRecDepth 20000 in
theorem mv_X8_fault : MV yX8_fault := ⟨bw_t tt_7 95 rfl rfl, bw_t tt_7 96 rfl rfl⟩
set_option maxRecDepth 20000 in
theorem mk_X8_lengthMany : MK yX8_lengthMany cX8_lengthMany 1 (some .int) 0 := ⟨bw_t tt_7 138 rfl rfl, bw_t tt_1 10 rfl rfl, ⟨by decide +kernel, by decide +kernel⟩, by decide +kernel, Nat.le_of_ble_eq_true rfl⟩
set_option maxRecDepth 20000 in
theorem mv_X8_lengthMany : MV yX8_lengthMany := ⟨bw_t tt_7 137 rfl rfl, sel_in (q := (yX8_lengthMany, 123)) lp_8 13 rfl rfl⟩
set_option maxRecDepth 20000 in
theorem mk_X8_seamMany : MK yX8_seamMany cX8_seamMany 1 (some .int) 0 := ⟨bw_t tt_7 109 rfl rfl, bw_t tt_1 10 rfl rfl, ⟨by decide +kernel, by decide +kernel⟩, by decide +kernel, Nat.le_of_ble_eq_true rfl⟩
set_option maxRecDepth 20000 in
theorem mv_X8_seamMany : MV yX8_seamMany := ⟨bw_t tt_7 108 rfl rfl, sel_in (q := (yX8_seamMany, 123)) lp_8 6 rfl rfl⟩
set_option maxRecDepth 20000 in
theorem mk_X8_ruleMany : MK yX8_ruleMany cX8_ruleMany 1 (some .int) 0 := ⟨bw_t tt_7 117 rfl rfl, bw_t tt_1 10 rfl rfl, ⟨by decide +kernel, by decide +kernel⟩, by decide +kernel, Nat.le_of_ble_eq_true rfl⟩
set_option maxRecDepth 20000 in
theorem mv_X8_ruleMany : MV yX8_ruleMany := ⟨bw_t tt_7 116 rfl rfl, sel_in (q := (yX8_ruleMany, 123)) lp_8 8 rfl rfl⟩
set_option maxRecDepth 20000 in
theorem mk_X8_settingOf : MK yX8_settingOf cX8_settingOf 2 (some .int) 1 := ⟨bw_t tt_7 146 rfl rfl, bw_t tt_1 10 rfl rfl, ⟨by decide +kernel, by decide +kernel⟩, by decide +kernel, Nat.le_of_ble_eq_true rfl⟩
set_option maxRecDepth 20000 in
theorem mv_X8_settingOf : MV yX8_settingOf := ⟨bw_t tt_7 145 rfl rfl, sel_in (q := (yX8_settingOf, 123)) lp_8 15 rfl rfl⟩
set_option maxRecDepth 20000 in
theorem mk_X8_takesOf : MK yX8_takesOf cX8_takesOf 2 (some .int) 1 := ⟨bw_t tt_7 126 rfl rfl, bw_t tt_1 10 rfl rfl, ⟨by decide +kernel, by decide +kernel⟩, by decide +kernel, Nat.le_of_ble_eq_true rfl⟩
set_option maxRecDepth 20000 in
theorem mv_X8_takesOf : MV yX8_takesOf := ⟨bw_t tt_7 125 rfl rfl, sel_in (q := (yX8_takesOf, 123)) lp_8 10 rfl rfl⟩
set_option maxRecDepth 20000 in
theorem mk_X8_isShown : MK yX8_isShown cX8_isShown 2 (some .boolean) 1 := ⟨bw_t tt_7 186 rfl rfl, bw_t tt_1 10 rfl rfl, ⟨by decide +kernel, by decide +kernel⟩, by decide +kernel, Nat.le_of_ble_eq_true rfl⟩
set_option maxRecDepth 20000 in
theorem mv_X8_isShown : MV yX8_isShown := ⟨bw_t tt_7 185 rfl rfl, sel_in (q := (yX8_isShown, 123)) lp_9 9 rfl rfl⟩
set_option maxRecDepth 20000 in
theorem mk_X8_placeMany : MK yX8_placeMany cX8_placeMany 2 (some .int) 1 := ⟨bw_t tt_8 29 rfl rfl, bw_t tt_1 10 rfl rfl, ⟨by decide +kernel, by decide +kernel⟩, by decide +kernel, Nat.le_of_ble_eq_true rfl⟩
set_option maxRecDepth 20000 in
theorem mv_X8_placeMany : MV yX8_placeMany := ⟨bw_t tt_8 28 rfl rfl, sel_in (q := (yX8_placeMany, 123)) lp_10 0 rfl rfl⟩
set_option maxRecDepth 20000 in
theorem mk_X8_placeOf : MK yX8_placeOf cX8_placeOf 3 (some .int) 2 := ⟨bw_t tt_8 33 rfl rfl, bw_t tt_1 10 rfl rfl, ⟨by decide +kernel, by decide +kernel⟩, by decide +kernel, Nat.le_of_ble_eq_true rfl⟩
set_option maxRecDepth 20000 in
theorem mv_X8_placeOf : MV yX8_placeOf := ⟨bw_t tt_8 32 rfl rfl, sel_in (q := (yX8_placeOf, 123)) lp_10 1 rfl rfl⟩
set_option maxRecDepth 20000 in
theorem mk_X8_restOf : MK yX8_restOf cX8_restOf 4 (some .int) 1 := ⟨bw_t tt_7 190 rfl rfl, bw_t tt_1 10 rfl rfl, ⟨by decide +kernel, by decide +kernel⟩, by decide +kernel, Nat.le_of_ble_eq_true rfl⟩
set_option maxRecDepth 20000 in
theorem mv_X8_restOf : MV yX8_restOf := ⟨bw_t tt_7 189 rfl rfl, sel_in (q := (yX8_restOf, 123)) lp_9 10 rfl rfl⟩
set_option maxRecDepth 20000 in
theorem mk_X8_leastLength : MK yX8_leastLength cX8_leastLength 3 (some .int) 0 := ⟨bw_t tt_7 170 rfl rfl, bw_t tt_1 10 rfl rfl, ⟨by decide +kernel, by decide +kernel⟩, by decide +kernel, Nat.le_of_ble_eq_true rfl⟩
set_option maxRecDepth 20000 in
theorem mv_X8_leastLength : MV yX8_leastLength := ⟨bw_t tt_7 169 rfl rfl, sel_in (q := (yX8_leastLength, 123)) lp_9 5 rfl rfl⟩
set_option maxRecDepth 20000 in
theorem mk_X8_mostLength : MK yX8_mostLength cX8_mostLength 3 (some .int) 0 := ⟨bw_t tt_7 194 rfl rfl, bw_t tt_1 10 rfl rfl, ⟨by decide +kernel, by decide +kernel⟩, by decide +kernel, Nat.le_of_ble_eq_true rfl⟩
set_option maxRecDepth 20000 in
theorem mv_X8_mostLength : MV yX8_mostLength := ⟨bw_t tt_7 193 rfl rfl, sel_in (q := (yX8_mostLength, 123)) lp_9 11 rfl rfl⟩
set_option maxRecDepth 20000 in
theorem mk_X8_oddsFrom : MK yX8_oddsFrom cX8_oddsFrom 4 (some .int) 1 := ⟨bw_t tt_7 134 rfl rfl, bw_t tt_1 10 rfl rfl, ⟨by decide +kernel, by decide +kernel⟩, by decide +kernel, Nat.le_of_ble_eq_true rfl⟩
set_option maxRecDepth 20000 in
theorem mv_X8_oddsFrom : MV yX8_oddsFrom := ⟨bw_t tt_7 133 rfl rfl, sel_in (q := (yX8_oddsFrom, 123)) lp_8 12 rfl rfl⟩
set_option maxRecDepth 20000 in
theorem mk_X8_isTold : MK yX8_isTold cX8_isTold 6 (some .boolean) 3 := ⟨bw_t tt_7 174 rfl rfl, bw_t tt_1 10 rfl rfl, ⟨by decide +kernel, by decide +kernel⟩, by decide +kernel, Nat.le_of_ble_eq_true rfl⟩
set_option maxRecDepth 20000 in
theorem mv_X8_isTold : MV yX8_isTold := ⟨bw_t tt_7 173 rfl rfl, sel_in (q := (yX8_isTold, 123)) lp_9 6 rfl rfl⟩
set_option maxRecDepth 20000 in
theorem mk_X8_meantAt : MK yX8_meantAt cX8_meantAt 3 (some .long) 2 := ⟨bw_t tt_7 130 rfl rfl, bw_t tt_1 10 rfl rfl, ⟨by decide +kernel, by decide +kernel⟩, by decide +kernel, Nat.le_of_ble_eq_true rfl⟩
set_option maxRecDepth 20000 in
theorem mv_X8_meantAt : MV yX8_meantAt := ⟨bw_t tt_7 129 rfl rfl, sel_in (q := (yX8_meantAt, 123)) lp_8 11 rfl rfl⟩
set_option maxRecDepth 20000 in
theorem mk_X8_behindMended : MK yX8_behindMended cX8_behindMended 2 (some .long) 1 := ⟨bw_t tt_7 142 rfl rfl, bw_t tt_1 10 rfl rfl, ⟨by decide +kernel, by decide +kernel⟩, by decide +kernel, Nat.le_of_ble_eq_true rfl⟩
set_option maxRecDepth 20000 in
theorem mv_X8_behindMended : MV yX8_behindMended := ⟨bw_t tt_7 141 rfl rfl, sel_in (q := (yX8_behindMended, 123)) lp_8 14 rfl rfl⟩
set_option maxRecDepth 20000 in
theorem mk_X8_unchanged : MK yX8_unchanged cX8_unchanged 4 (some .long) 2 := ⟨bw_t tt_7 154 rfl rfl, bw_t tt_1 10 rfl rfl, ⟨by decide +kernel, by decide +kernel⟩, by decide +kernel, Nat.le_of_ble_eq_true rfl⟩
set_option maxRecDepth 20000 in
theorem mv_X8_unchanged : MV yX8_unchanged := ⟨bw_t tt_7 153 rfl rfl, sel_in (q := (yX8_unchanged, 123)) lp_9 1 rfl rfl⟩
set_option maxRecDepth 20000 in
theorem mk_X8_changed : MK yX8_changed cX8_changed 2 (some .long) 1 := ⟨bw_t tt_7 158 rfl rfl, bw_t tt_1 10 rfl rfl, ⟨by decide +kernel, by decide +kernel⟩, by decide +kernel, Nat.le_of_ble_eq_true rfl⟩
set_option maxRecDepth 20000 in
theorem mv_X8_changed : MV yX8_changed := ⟨bw_t tt_7 157 rfl rfl, sel_in (q := (yX8_changed, 123)) lp_9 2 rfl rfl⟩
set_option maxRecDepth 20000 in
theorem mk_X8_looked : MK yX8_looked cX8_looked 4 (some .long) 2 := ⟨bw_t tt_7 162 rfl rfl, bw_t tt_1 10 rfl rfl, ⟨by decide +kernel, by decide +kernel⟩, by decide +kernel, Nat.le_of_ble_eq_true rfl⟩
set_option maxRecDepth 20000 in
theorem mv_X8_looked : MV yX8_looked := ⟨bw_t tt_7 161 rfl rfl, sel_in (q := (yX8_looked, 123)) lp_9 3 rfl rfl⟩
set_option maxRecDepth 20000 in
theorem mk_X8_chosen : MK yX8_chosen cX8_chosen 10 (some .long) 3 := ⟨bw_t tt_7 150 rfl rfl, bw_t tt_1 10 rfl rfl, ⟨by decide +kernel, by decide +kernel⟩, by decide +kernel, Nat.le_of_ble_eq_true rfl⟩
set_option maxRecDepth 20000 in
theorem mv_X8_chosen : MV yX8_chosen := ⟨bw_t tt_7 149 rfl rfl, sel_in (q := (yX8_chosen, 123)) lp_9 0 rfl rfl⟩
set_option maxRecDepth 20000 in
theorem mk_X8_isChange : MK yX8_isChange cX8_isChange 4 (some .boolean) 3 := ⟨bw_t tt_7 166 rfl rfl, bw_t tt_1 10 rfl rfl, ⟨by decide +kernel, by decide +kernel⟩, by decide +kernel, Nat.le_of_ble_eq_true rfl⟩
set_option maxRecDepth 20000 in
theorem mv_X8_isChange : MV yX8_isChange := ⟨bw_t tt_7 165 rfl rfl, sel_in (q := (yX8_isChange, 123)) lp_9 4 rfl rfl⟩
set_option maxRecDepth 20000 in
theorem mk_X8_means : MK yX8_means cX8_means 6 none 1 := ⟨bw_t tt_7 121 rfl rfl, bw_t tt_1 10 rfl rfl, ⟨by decide +kernel, by decide +kernel⟩, by decide +kernel, Nat.le_of_ble_eq_true rfl⟩
set_option maxRecDepth 20000 in
theorem mv_X8_means : MV yX8_means := ⟨bw_t tt_7 120 rfl rfl, sel_in (q := (yX8_means, 123)) lp_8 9 rfl rfl⟩
set_option maxRecDepth 20000 in
theorem mk_X8_areFew : MK yX8_areFew cX8_areFew 1 (some .boolean) 0 := ⟨bw_t tt_7 105 rfl rfl, bw_t tt_1 10 rfl rfl, ⟨by decide +kernel, by decide +kernel⟩, by decide +kernel, Nat.le_of_ble_eq_true rfl⟩
set_option maxRecDepth 20000 in
theorem mv_X8_areFew : MV yX8_areFew := ⟨bw_t tt_7 104 rfl rfl, sel_in (q := (yX8_areFew, 123)) lp_8 5 rfl rfl⟩
set_option maxRecDepth 20000 in
theorem mk_X8_isSewer : MK yX8_isSewer cX8_isSewer 2 (some .boolean) 1 := ⟨bw_t tt_7 113 rfl rfl, bw_t tt_1 10 rfl rfl, ⟨by decide +kernel, by decide +kernel⟩, by decide +kernel, Nat.le_of_ble_eq_true rfl⟩
set_option maxRecDepth 20000 in
theorem mv_X8_isSewer : MV yX8_isSewer := ⟨bw_t tt_7 112 rfl rfl, sel_in (q := (yX8_isSewer, 123)) lp_8 7 rfl rfl⟩
set_option maxRecDepth 20000 in
theorem mk_X8_mean : MK yX8_mean cX8_mean 2 (some .int) 1 := ⟨bw_t tt_7 101 rfl rfl, bw_t tt_1 10 rfl rfl, ⟨by decide +kernel, by decide +kernel⟩, by decide +kernel, Nat.le_of_ble_eq_true rfl⟩
set_option maxRecDepth 20000 in
theorem mv_X8_mean : MV yX8_mean := ⟨bw_t tt_7 99 rfl rfl, bw_t tt_7 100 rfl rfl⟩
set_option maxRecDepth 20000 in
theorem mk_X8_isChance : MK yX8_isChance cX8_isChance 3 (some .boolean) 2 := ⟨bw_t tt_7 216 rfl rfl, bw_t tt_1 10 rfl rfl, ⟨by decide +kernel, by decide +kernel⟩, by decide +kernel, Nat.le_of_ble_eq_true rfl⟩
set_option maxRecDepth 20000 in
theorem mv_X8_isChance : MV yX8_isChance := ⟨bw_t tt_7 215 rfl rfl, sel_in (q := (yX8_isChance, 123)) lp_9 13 rfl rfl⟩
set_option maxRecDepth 20000 in
theorem mk_X8_when : MK yX8_when cX8_when 3 (some .int) 2 := ⟨bw_t tt_7 211 rfl rfl, bw_t tt_1 10 rfl rfl, ⟨by decide +kernel, by decide +kernel⟩, by decide +kernel, Nat.le_of_ble_eq_true rfl⟩
set_option maxRecDepth 20000 in
theorem mv_X8_when : MV yX8_when := ⟨bw_t tt_7 209 rfl rfl, bw_t tt_7 210 rfl rfl⟩
set_option maxRecDepth 20000 in
theorem mk_X8_looks : MK yX8_looks cX8_looks 4 (some .int) 1 := ⟨bw_t tt_7 220 rfl rfl, bw_t tt_1 10 rfl rfl, ⟨by decide +kernel, by decide +kernel⟩, by decide +kernel, Nat.le_of_ble_eq_true rfl⟩
set_option maxRecDepth 20000 in
theorem mv_X8_looks : MV yX8_looks := ⟨bw_t tt_7 218 rfl rfl, bw_t tt_7 219 rfl rfl⟩
set_option maxRecDepth 20000 in
theorem mk_X8_rule : MK yX8_rule cX8_rule 5 (some .int) 0 := ⟨bw_t tt_7 224 rfl rfl, bw_t tt_1 10 rfl rfl, ⟨by decide +kernel, by decide +kernel⟩, by decide +kernel, Nat.le_of_ble_eq_true rfl⟩
set_option maxRecDepth 20000 in
theorem mv_X8_rule : MV yX8_rule := ⟨bw_t tt_7 222 rfl rfl, bw_t tt_7 223 rfl rfl⟩
set_option maxRecDepth 20000 in
theorem mk_X8_changesAt : MK yX8_changesAt cX8_changesAt 5 (some .boolean) 4 := ⟨bw_t tt_7 237 rfl rfl, bw_t tt_1 10 rfl rfl, ⟨by decide +kernel, by decide +kernel⟩, by decide +kernel, Nat.le_of_ble_eq_true rfl⟩
set_option maxRecDepth 20000 in
theorem mv_X8_changesAt : MV yX8_changesAt := ⟨bw_t tt_7 236 rfl rfl, sel_in (q := (yX8_changesAt, 123)) lp_9 15 rfl rfl⟩
set_option maxRecDepth 20000 in
theorem mk_X8_laysRow : MK yX8_laysRow cX8_laysRow 7 none 2 := ⟨bw_t tt_7 233 rfl rfl, bw_t tt_1 10 rfl rfl, ⟨by decide +kernel, by decide +kernel⟩, by decide +kernel, Nat.le_of_ble_eq_true rfl⟩
set_option maxRecDepth 20000 in
theorem mv_X8_laysRow : MV yX8_laysRow := ⟨bw_t tt_7 232 rfl rfl, sel_in (q := (yX8_laysRow, 123)) lp_9 14 rfl rfl⟩
set_option maxRecDepth 20000 in
theorem mk_X8_row : MK yX8_row cX8_row 5 (some .int) 4 := ⟨bw_t tt_7 228 rfl rfl, bw_t tt_1 10 rfl rfl, ⟨by decide +kernel, by decide +kernel⟩, by decide +kernel, Nat.le_of_ble_eq_true rfl⟩
set_option maxRecDepth 20000 in
theorem mv_X8_row : MV yX8_row := ⟨bw_t tt_7 226 rfl rfl, bw_t tt_7 227 rfl rfl⟩
set_option maxRecDepth 20000 in
theorem mk_X8_firstOf : MK yX8_firstOf cX8_firstOf 3 (some .int) 2 := ⟨bw_t tt_8 4 rfl rfl, bw_t tt_1 10 rfl rfl, ⟨by decide +kernel, by decide +kernel⟩, by decide +kernel, Nat.le_of_ble_eq_true rfl⟩
set_option maxRecDepth 20000 in
theorem ms_X8_firstOf : MS yX8_firstOf := bw_t tt_8 3 rfl rfl
set_option maxRecDepth 20000 in
theorem mk_X8_sumOf : MK yX8_sumOf cX8_sumOf 4 (some .int) 2 := ⟨bw_t tt_8 7 rfl rfl, bw_t tt_1 10 rfl rfl, ⟨by decide +kernel, by decide +kernel⟩, by decide +kernel, Nat.le_of_ble_eq_true rfl⟩
set_option maxRecDepth 20000 in
theorem ms_X8_sumOf : MS yX8_sumOf := bw_t tt_8 6 rfl rfl
set_option maxRecDepth 20000 in
theorem mk_X8_judge : MK yX8_judge cX8_judge 4 (some .int) 3 := ⟨bw_t tt_8 1 rfl rfl, bw_t tt_1 10 rfl rfl, ⟨by decide +kernel, by decide +kernel⟩, by decide +kernel, Nat.le_of_ble_eq_true rfl⟩
set_option maxRecDepth 20000 in
theorem mv_X8_judge : MV yX8_judge := ⟨bw_t tt_7 239 rfl rfl, bw_t tt_8 0 rfl rfl⟩
set_option maxRecDepth 20000 in
theorem mk_X8_has : MK yX8_has cX8_has 2 (some .int) 1 := ⟨bw_t tt_8 11 rfl rfl, bw_t tt_1 10 rfl rfl, ⟨by decide +kernel, by decide +kernel⟩, by decide +kernel, Nat.le_of_ble_eq_true rfl⟩
set_option maxRecDepth 20000 in
theorem mv_X8_has : MV yX8_has := ⟨bw_t tt_8 9 rfl rfl, bw_t tt_8 10 rfl rfl⟩
set_option maxRecDepth 20000 in
theorem mk_X8_letter : MK yX8_letter cX8_letter 9 (some .int) 3 := ⟨bw_t tt_8 15 rfl rfl, bw_t tt_1 10 rfl rfl, ⟨by decide +kernel, by decide +kernel⟩, by decide +kernel, Nat.le_of_ble_eq_true rfl⟩
set_option maxRecDepth 20000 in
theorem mv_X8_letter : MV yX8_letter := ⟨bw_t tt_8 13 rfl rfl, bw_t tt_8 14 rfl rfl⟩
set_option maxRecDepth 20000 in
theorem mk_X8_bobbin : MK yX8_bobbin cX8_bobbin 3 (some .int) 2 := ⟨bw_t tt_8 20 rfl rfl, bw_t tt_1 10 rfl rfl, ⟨by decide +kernel, by decide +kernel⟩, by decide +kernel, Nat.le_of_ble_eq_true rfl⟩
set_option maxRecDepth 20000 in
theorem mv_X8_bobbin : MV yX8_bobbin := ⟨bw_t tt_8 18 rfl rfl, bw_t tt_8 19 rfl rfl⟩
set_option maxRecDepth 20000 in
theorem mk_X8_seam : MK yX8_seam cX8_seam 3 (some .int) 2 := ⟨bw_t tt_8 24 rfl rfl, bw_t tt_1 10 rfl rfl, ⟨by decide +kernel, by decide +kernel⟩, by decide +kernel, Nat.le_of_ble_eq_true rfl⟩
set_option maxRecDepth 20000 in
theorem mv_X8_seam : MV yX8_seam := ⟨bw_t tt_8 22 rfl rfl, bw_t tt_8 23 rfl rfl⟩
set_option maxRecDepth 20000 in
theorem mk_X8_packs : MK yX8_packs cX8_packs 5 (some .boolean) 1 := ⟨bw_t tt_8 45 rfl rfl, bw_t tt_1 10 rfl rfl, ⟨by decide +kernel, by decide +kernel⟩, by decide +kernel, Nat.le_of_ble_eq_true rfl⟩
set_option maxRecDepth 20000 in
theorem mv_X8_packs : MV yX8_packs := ⟨bw_t tt_8 44 rfl rfl, sel_in (q := (yX8_packs, 123)) lp_10 3 rfl rfl⟩
set_option maxRecDepth 20000 in
theorem mk_X8_isAsked : MK yX8_isAsked cX8_isAsked 3 (some .boolean) 2 := ⟨bw_t tt_8 41 rfl rfl, bw_t tt_1 10 rfl rfl, ⟨by decide +kernel, by decide +kernel⟩, by decide +kernel, Nat.le_of_ble_eq_true rfl⟩
set_option maxRecDepth 20000 in
theorem mv_X8_isAsked : MV yX8_isAsked := ⟨bw_t tt_8 40 rfl rfl, sel_in (q := (yX8_isAsked, 123)) lp_10 2 rfl rfl⟩
set_option maxRecDepth 20000 in
theorem mk_X8_fewest : MK yX8_fewest cX8_fewest 3 (some .int) 2 := ⟨bw_t tt_8 37 rfl rfl, bw_t tt_1 10 rfl rfl, ⟨by decide +kernel, by decide +kernel⟩, by decide +kernel, Nat.le_of_ble_eq_true rfl⟩
set_option maxRecDepth 20000 in
theorem mv_X8_fewest : MV yX8_fewest := ⟨bw_t tt_8 35 rfl rfl, bw_t tt_8 36 rfl rfl⟩
set_option maxRecDepth 20000 in
theorem mk_X8_binsAhead : MK yX8_binsAhead cX8_binsAhead 4 (some .int) 1 := ⟨bw_t tt_8 57 rfl rfl, bw_t tt_1 10 rfl rfl, ⟨by decide +kernel, by decide +kernel⟩, by decide +kernel, Nat.le_of_ble_eq_true rfl⟩
set_option maxRecDepth 20000 in
theorem mv_X8_binsAhead : MV yX8_binsAhead := ⟨bw_t tt_8 56 rfl rfl, sel_in (q := (yX8_binsAhead, 123)) lp_10 5 rfl rfl⟩
set_option maxRecDepth 20000 in
theorem mk_X8_fills : MK yX8_fills cX8_fills 6 (some .boolean) 2 := ⟨bw_t tt_8 53 rfl rfl, bw_t tt_1 10 rfl rfl, ⟨by decide +kernel, by decide +kernel⟩, by decide +kernel, Nat.le_of_ble_eq_true rfl⟩
set_option maxRecDepth 20000 in
theorem mv_X8_fills : MV yX8_fills := ⟨bw_t tt_8 52 rfl rfl, sel_in (q := (yX8_fills, 123)) lp_10 4 rfl rfl⟩
set_option maxRecDepth 20000 in
theorem mk_X8_free : MK yX8_free cX8_free 4 (some .int) 2 := ⟨bw_t tt_8 49 rfl rfl, bw_t tt_1 10 rfl rfl, ⟨by decide +kernel, by decide +kernel⟩, by decide +kernel, Nat.le_of_ble_eq_true rfl⟩
set_option maxRecDepth 20000 in
theorem mv_X8_free : MV yX8_free := ⟨bw_t tt_8 47 rfl rfl, bw_t tt_8 48 rfl rfl⟩
set_option maxRecDepth 20000 in
theorem mk_X8_mayStart : MK yX8_mayStart cX8_mayStart 4 none 3 := ⟨bw_t tt_8 69 rfl rfl, bw_t tt_1 10 rfl rfl, ⟨by decide +kernel, by decide +kernel⟩, by decide +kernel, Nat.le_of_ble_eq_true rfl⟩
set_option maxRecDepth 20000 in
theorem mv_X8_mayStart : MV yX8_mayStart := ⟨bw_t tt_8 68 rfl rfl, sel_in (q := (yX8_mayStart, 123)) lp_10 7 rfl rfl⟩
set_option maxRecDepth 20000 in
theorem mk_X8_laysStarts : MK yX8_laysStarts cX8_laysStarts 4 none 0 := ⟨bw_t tt_8 65 rfl rfl, bw_t tt_1 10 rfl rfl, ⟨by decide +kernel, by decide +kernel⟩, by decide +kernel, Nat.le_of_ble_eq_true rfl⟩
set_option maxRecDepth 20000 in
theorem mv_X8_laysStarts : MV yX8_laysStarts := ⟨bw_t tt_8 64 rfl rfl, sel_in (q := (yX8_laysStarts, 123)) lp_10 6 rfl rfl⟩
set_option maxRecDepth 20000 in
theorem mk_X8_startsFrom : MK yX8_startsFrom cX8_startsFrom 6 none 2 := ⟨bw_t tt_8 73 rfl rfl, bw_t tt_1 10 rfl rfl, ⟨by decide +kernel, by decide +kernel⟩, by decide +kernel, Nat.le_of_ble_eq_true rfl⟩
set_option maxRecDepth 20000 in
theorem mv_X8_startsFrom : MV yX8_startsFrom := ⟨bw_t tt_8 72 rfl rfl, sel_in (q := (yX8_startsFrom, 123)) lp_10 8 rfl rfl⟩
set_option maxRecDepth 20000 in
theorem mk_X8_hidden : MK yX8_hidden cX8_hidden 5 (some .int) 2 := ⟨bw_t tt_8 61 rfl rfl, bw_t tt_1 10 rfl rfl, ⟨by decide +kernel, by decide +kernel⟩, by decide +kernel, Nat.le_of_ble_eq_true rfl⟩
set_option maxRecDepth 20000 in
theorem mv_X8_hidden : MV yX8_hidden := ⟨bw_t tt_8 59 rfl rfl, bw_t tt_8 60 rfl rfl⟩
set_option maxRecDepth 20000 in
theorem mk_X8_lastDone : MK yX8_lastDone cX8_lastDone 8 (some .int) 3 := ⟨bw_t tt_8 81 rfl rfl, bw_t tt_1 10 rfl rfl, ⟨by decide +kernel, by decide +kernel⟩, by decide +kernel, Nat.le_of_ble_eq_true rfl⟩
set_option maxRecDepth 20000 in
theorem mv_X8_lastDone : MV yX8_lastDone := ⟨bw_t tt_8 80 rfl rfl, sel_in (q := (yX8_lastDone, 123)) lp_10 9 rfl rfl⟩
set_option maxRecDepth 20000 in
theorem mk_X8_several : MK yX8_several cX8_several 9 (some .int) 2 := ⟨bw_t tt_8 77 rfl rfl, bw_t tt_1 10 rfl rfl, ⟨by decide +kernel, by decide +kernel⟩, by decide +kernel, Nat.le_of_ble_eq_true rfl⟩
set_option maxRecDepth 20000 in
theorem mv_X8_several : MV yX8_several := ⟨bw_t tt_8 75 rfl rfl, bw_t tt_8 76 rfl rfl⟩
set_option maxRecDepth 20000 in
theorem mk_X8_wound : MK yX8_wound cX8_wound 5 (some .int) 1 := ⟨bw_t tt_8 85 rfl rfl, bw_t tt_1 10 rfl rfl, ⟨by decide +kernel, by decide +kernel⟩, by decide +kernel, Nat.le_of_ble_eq_true rfl⟩
set_option maxRecDepth 20000 in
theorem mv_X8_wound : MV yX8_wound := ⟨bw_t tt_8 83 rfl rfl, bw_t tt_8 84 rfl rfl⟩
set_option maxRecDepth 20000 in
theorem mk_X8_keeps : MK yX8_keeps cX8_keeps 2 none 0 := ⟨bw_t tt_8 113 rfl rfl, bw_t tt_1 10 rfl rfl, ⟨by decide +kernel, by decide +kernel⟩, by decide +kernel, Nat.le_of_ble_eq_true rfl⟩
set_option maxRecDepth 20000 in
theorem mv_X8_keeps : MV yX8_keeps := ⟨bw_t tt_8 112 rfl rfl, sel_in (q := (yX8_keeps, 123)) lp_10 12 rfl rfl⟩
set_option maxRecDepth 20000 in
theorem mk_X8_undo : MK yX8_undo cX8_undo 2 (some .boolean) 0 := ⟨bw_t tt_8 89 rfl rfl, bw_t tt_1 10 rfl rfl, ⟨by decide +kernel, by decide +kernel⟩, by decide +kernel, Nat.le_of_ble_eq_true rfl⟩
set_option maxRecDepth 20000 in
theorem mv_X8_undo : MV yX8_undo := ⟨bw_t tt_8 87 rfl rfl, bw_t tt_8 88 rfl rfl⟩
set_option maxRecDepth 20000 in
theorem mk_X8_seed : MK yX8_seed cX8_seed 2 (some .boolean) 1 := ⟨bw_t tt_8 93 rfl rfl, bw_t tt_1 10 rfl rfl, ⟨by decide +kernel, by decide +kernel⟩, by decide +kernel, Nat.le_of_ble_eq_true rfl⟩
set_option maxRecDepth 20000 in
theorem mv_X8_seed : MV yX8_seed := ⟨bw_t tt_8 91 rfl rfl, bw_t tt_8 92 rfl rfl⟩
set_option maxRecDepth 20000 in
theorem mk_X8_drawOf : MK yX8_drawOf cX8_drawOf 2 (some .int) 1 := ⟨bw_t tt_8 129 rfl rfl, bw_t tt_1 10 rfl rfl, ⟨by decide +kernel, by decide +kernel⟩, by decide +kernel, Nat.le_of_ble_eq_true rfl⟩
set_option maxRecDepth 20000 in
theorem mv_X8_drawOf : MV yX8_drawOf := ⟨bw_t tt_8 128 rfl rfl, sel_in (q := (yX8_drawOf, 123)) lp_11 0 rfl rfl⟩
set_option maxRecDepth 20000 in
theorem mk_X8_isFresh : MK yX8_isFresh cX8_isFresh 4 none 0 := ⟨bw_t tt_8 125 rfl rfl, bw_t tt_1 10 rfl rfl, ⟨by decide +kernel, by decide +kernel⟩, by decide +kernel, Nat.le_of_ble_eq_true rfl⟩
set_option maxRecDepth 20000 in
theorem mv_X8_isFresh : MV yX8_isFresh := ⟨bw_t tt_8 124 rfl rfl, sel_in (q := (yX8_isFresh, 123)) lp_10 15 rfl rfl⟩
set_option maxRecDepth 20000 in
theorem mk_X8_costs : MK yX8_costs cX8_costs 2 none 1 := ⟨bw_t tt_8 121 rfl rfl, bw_t tt_1 10 rfl rfl, ⟨by decide +kernel, by decide +kernel⟩, by decide +kernel, Nat.le_of_ble_eq_true rfl⟩
set_option maxRecDepth 20000 in
theorem mv_X8_costs : MV yX8_costs := ⟨bw_t tt_8 120 rfl rfl, sel_in (q := (yX8_costs, 123)) lp_10 14 rfl rfl⟩
set_option maxRecDepth 20000 in
theorem mk_X8_isLeft : MK yX8_isLeft cX8_isLeft 1 (some .boolean) 0 := ⟨bw_t tt_8 101 rfl rfl, bw_t tt_1 10 rfl rfl, ⟨by decide +kernel, by decide +kernel⟩, by decide +kernel, Nat.le_of_ble_eq_true rfl⟩
set_option maxRecDepth 20000 in
theorem mv_X8_isLeft : MV yX8_isLeft := ⟨bw_t tt_8 100 rfl rfl, sel_in (q := (yX8_isLeft, 123)) lp_10 10 rfl rfl⟩
set_option maxRecDepth 20000 in
theorem mk_X8_wouldLast : MK yX8_wouldLast cX8_wouldLast 1 (some .boolean) 0 := ⟨bw_t tt_8 137 rfl rfl, bw_t tt_1 10 rfl rfl, ⟨by decide +kernel, by decide +kernel⟩, by decide +kernel, Nat.le_of_ble_eq_true rfl⟩
set_option maxRecDepth 20000 in
theorem mv_X8_wouldLast : MV yX8_wouldLast := ⟨bw_t tt_8 136 rfl rfl, sel_in (q := (yX8_wouldLast, 123)) lp_11 1 rfl rfl⟩
set_option maxRecDepth 20000 in
theorem mk_X8_isSewn : MK yX8_isSewn cX8_isSewn 3 (some .boolean) 1 := ⟨bw_t tt_8 117 rfl rfl, bw_t tt_1 10 rfl rfl, ⟨by decide +kernel, by decide +kernel⟩, by decide +kernel, Nat.le_of_ble_eq_true rfl⟩
set_option maxRecDepth 20000 in
theorem mv_X8_isSewn : MV yX8_isSewn := ⟨bw_t tt_8 116 rfl rfl, sel_in (q := (yX8_isSewn, 123)) lp_10 13 rfl rfl⟩
set_option maxRecDepth 20000 in
theorem mk_X8_refuses : MK yX8_refuses cX8_refuses 1 (some .int) 0 := ⟨bw_t tt_8 109 rfl rfl, bw_t tt_1 10 rfl rfl, ⟨by decide +kernel, by decide +kernel⟩, by decide +kernel, Nat.le_of_ble_eq_true rfl⟩
set_option maxRecDepth 20000 in
theorem mv_X8_refuses : MV yX8_refuses := ⟨bw_t tt_8 108 rfl rfl, sel_in (q := (yX8_refuses, 123)) lp_10 11 rfl rfl⟩
set_option maxRecDepth 20000 in
theorem mk_X8_day : MK yX8_day cX8_day 2 (some .int) 1 := ⟨bw_t tt_8 97 rfl rfl, bw_t tt_1 10 rfl rfl, ⟨by decide +kernel, by decide +kernel⟩, by decide +kernel, Nat.le_of_ble_eq_true rfl⟩
set_option maxRecDepth 20000 in
theorem mv_X8_day : MV yX8_day := ⟨bw_t tt_8 95 rfl rfl, bw_t tt_8 96 rfl rfl⟩
set_option maxRecDepth 20000 in
theorem mk_X8_sew : MK yX8_sew cX8_sew 2 (some .int) 1 := ⟨bw_t tt_8 105 rfl rfl, bw_t tt_1 10 rfl rfl, ⟨by decide +kernel, by decide +kernel⟩, by decide +kernel, Nat.le_of_ble_eq_true rfl⟩
set_option maxRecDepth 20000 in
theorem mv_X8_sew : MV yX8_sew := ⟨bw_t tt_8 103 rfl rfl, bw_t tt_8 104 rfl rfl⟩
set_option maxRecDepth 20000 in
theorem mk_X8_glance : MK yX8_glance cX8_glance 1 (some .int) 0 := ⟨bw_t tt_8 141 rfl rfl, bw_t tt_1 10 rfl rfl, ⟨by decide +kernel, by decide +kernel⟩, by decide +kernel, Nat.le_of_ble_eq_true rfl⟩
set_option maxRecDepth 20000 in
theorem mv_X8_glance : MV yX8_glance := ⟨bw_t tt_8 139 rfl rfl, bw_t tt_8 140 rfl rfl⟩
set_option maxRecDepth 20000 in
theorem mk_X8_sews : MK yX8_sews cX8_sews 3 (some .int) 1 := ⟨bw_t tt_8 145 rfl rfl, bw_t tt_1 10 rfl rfl, ⟨by decide +kernel, by decide +kernel⟩, by decide +kernel, Nat.le_of_ble_eq_true rfl⟩
set_option maxRecDepth 20000 in
theorem mv_X8_sews : MV yX8_sews := ⟨bw_t tt_8 143 rfl rfl, bw_t tt_8 144 rfl rfl⟩
set_option maxRecDepth 20000 in
theorem mk_X8_anew : MK yX8_anew cX8_anew 2 (some .int) 0 := ⟨bw_t tt_8 149 rfl rfl, bw_t tt_1 10 rfl rfl, ⟨by decide +kernel, by decide +kernel⟩, by decide +kernel, Nat.le_of_ble_eq_true rfl⟩
set_option maxRecDepth 20000 in
theorem mv_X8_anew : MV yX8_anew := ⟨bw_t tt_8 147 rfl rfl, bw_t tt_8 148 rfl rfl⟩
set_option maxRecDepth 20000 in
theorem mk_X8_see : MK yX8_see cX8_see 4 (some .int) 0 := ⟨bw_t tt_8 153 rfl rfl, bw_t tt_1 10 rfl rfl, ⟨by decide +kernel, by decide +kernel⟩, by decide +kernel, Nat.le_of_ble_eq_true rfl⟩
set_option maxRecDepth 20000 in
theorem mv_X8_see : MV yX8_see := ⟨bw_t tt_8 151 rfl rfl, bw_t tt_8 152 rfl rfl⟩
set_option maxRecDepth 20000 in
theorem mk_X8_isFitting : MK yX8_isFitting cX8_isFitting 3 (some .boolean) 1 := ⟨bw_t tt_8 161 rfl rfl, bw_t tt_1 10 rfl rfl, ⟨by decide +kernel, by decide +kernel⟩, by decide +kernel, Nat.le_of_ble_eq_true rfl⟩
set_option maxRecDepth 20000 in
theorem mv_X8_isFitting : MV yX8_isFitting := ⟨bw_t tt_8 160 rfl rfl, sel_in (q := (yX8_isFitting, 123)) lp_11 2 rfl rfl⟩
set_option maxRecDepth 20000 in
theorem mk_X8_fits : MK yX8_fits cX8_fits 6 (some .int) 1 := ⟨bw_t tt_8 157 rfl rfl, bw_t tt_1 10 rfl rfl, ⟨by decide +kernel, by decide +kernel⟩, by decide +kernel, Nat.le_of_ble_eq_true rfl⟩
set_option maxRecDepth 20000 in
theorem mv_X8_fits : MV yX8_fits := ⟨bw_t tt_8 155 rfl rfl, bw_t tt_8 156 rfl rfl⟩
set_option maxRecDepth 20000 in
theorem mk_X8_qCode : MK yX8_qCode cX8_qCode 2 none 1 := ⟨bw_t tt_7 26 rfl rfl, bw_t tt_1 10 rfl rfl, ⟨by decide +kernel, by decide +kernel⟩, by decide +kernel, Nat.le_of_ble_eq_true rfl⟩
set_option maxRecDepth 20000 in
theorem mv_X8_qCode : MV yX8_qCode := ⟨bw_t tt_7 25 rfl rfl, sel_in (q := (yX8_qCode, 123)) lp_7 4 rfl rfl⟩
set_option maxRecDepth 20000 in
theorem mk_X8_qOpens : MK yX8_qOpens cX8_qOpens 3 none 2 := ⟨bw_t tt_7 18 rfl rfl, bw_t tt_1 10 rfl rfl, ⟨by decide +kernel, by decide +kernel⟩, by decide +kernel, Nat.le_of_ble_eq_true rfl⟩
set_option maxRecDepth 20000 in
theorem mv_X8_qOpens : MV yX8_qOpens := ⟨bw_t tt_7 17 rfl rfl, sel_in (q := (yX8_qOpens, 123)) lp_7 2 rfl rfl⟩
set_option maxRecDepth 20000 in
theorem mk_X8_qIsOn : MK yX8_qIsOn cX8_qIsOn 2 (some .boolean) 1 := ⟨bw_t tt_7 77 rfl rfl, bw_t tt_1 10 rfl rfl, ⟨by decide +kernel, by decide +kernel⟩, by decide +kernel, Nat.le_of_ble_eq_true rfl⟩
set_option maxRecDepth 20000 in
theorem mv_X8_qIsOn : MV yX8_qIsOn := ⟨bw_t tt_7 76 rfl rfl, sel_in (q := (yX8_qIsOn, 123)) lp_8 0 rfl rfl⟩
set_option maxRecDepth 20000 in
theorem mk_X8_qDrops : MK yX8_qDrops cX8_qDrops 1 none 0 := ⟨bw_t tt_7 58 rfl rfl, bw_t tt_1 10 rfl rfl, ⟨by decide +kernel, by decide +kernel⟩, by decide +kernel, Nat.le_of_ble_eq_true rfl⟩
set_option maxRecDepth 20000 in
theorem mv_X8_qDrops : MV yX8_qDrops := ⟨bw_t tt_7 57 rfl rfl, sel_in (q := (yX8_qDrops, 123)) lp_7 12 rfl rfl⟩
set_option maxRecDepth 20000 in
theorem mk_X8_qIsBracket : MK yX8_qIsBracket cX8_qIsBracket 1 (some .boolean) 1 := ⟨bw_t tt_7 69 rfl rfl, bw_t tt_1 10 rfl rfl, ⟨by decide +kernel, by decide +kernel⟩, by decide +kernel, Nat.le_of_ble_eq_true rfl⟩
set_option maxRecDepth 20000 in
theorem ms_X8_qIsBracket : MS yX8_qIsBracket := bw_t tt_7 68 rfl rfl
set_option maxRecDepth 20000 in
theorem mk_X8_qBracket : MK yX8_qBracket cX8_qBracket 2 (some .int) 0 := ⟨bw_t tt_7 66 rfl rfl, bw_t tt_1 10 rfl rfl, ⟨by decide +kernel, by decide +kernel⟩, by decide +kernel, Nat.le_of_ble_eq_true rfl⟩
set_option maxRecDepth 20000 in
theorem mv_X8_qBracket : MV yX8_qBracket := ⟨bw_t tt_7 65 rfl rfl, sel_in (q := (yX8_qBracket, 123)) lp_7 14 rfl rfl⟩
set_option maxRecDepth 20000 in
theorem mk_X8_qDropsToBracket : MK yX8_qDropsToBracket cX8_qDropsToBracket 1 none 0 := ⟨bw_t tt_7 73 rfl rfl, bw_t tt_1 10 rfl rfl, ⟨by decide +kernel, by decide +kernel⟩, by decide +kernel, Nat.le_of_ble_eq_true rfl⟩
set_option maxRecDepth 20000 in
theorem mv_X8_qDropsToBracket : MV yX8_qDropsToBracket := ⟨bw_t tt_7 72 rfl rfl, sel_in (q := (yX8_qDropsToBracket, 123)) lp_7 15 rfl rfl⟩
set_option maxRecDepth 20000 in
theorem mk_X8_qWordHere : MK yX8_qWordHere cX8_qWordHere 1 (some .int) 0 := ⟨bw_t tt_7 42 rfl rfl, bw_t tt_1 10 rfl rfl, ⟨by decide +kernel, by decide +kernel⟩, by decide +kernel, Nat.le_of_ble_eq_true rfl⟩
set_option maxRecDepth 20000 in
theorem mv_X8_qWordHere : MV yX8_qWordHere := ⟨bw_t tt_7 41 rfl rfl, sel_in (q := (yX8_qWordHere, 123)) lp_7 8 rfl rfl⟩
set_option maxRecDepth 20000 in
theorem mk_X8_qWordOf : MK yX8_qWordOf cX8_qWordOf 4 (some .int) 2 := ⟨bw_t tt_7 38 rfl rfl, bw_t tt_1 10 rfl rfl, ⟨by decide +kernel, by decide +kernel⟩, by decide +kernel, Nat.le_of_ble_eq_true rfl⟩
set_option maxRecDepth 20000 in
theorem mv_X8_qWordOf : MV yX8_qWordOf := ⟨bw_t tt_7 37 rfl rfl, sel_in (q := (yX8_qWordOf, 123)) lp_7 7 rfl rfl⟩
set_option maxRecDepth 20000 in
theorem mk_X8_qAsksWord : MK yX8_qAsksWord cX8_qAsksWord 2 none 1 := ⟨bw_t tt_7 50 rfl rfl, bw_t tt_1 10 rfl rfl, ⟨by decide +kernel, by decide +kernel⟩, by decide +kernel, Nat.le_of_ble_eq_true rfl⟩
set_option maxRecDepth 20000 in
theorem mv_X8_qAsksWord : MV yX8_qAsksWord := ⟨bw_t tt_7 49 rfl rfl, sel_in (q := (yX8_qAsksWord, 123)) lp_7 10 rfl rfl⟩
set_option maxRecDepth 20000 in
theorem mk_X8_qEndsPart : MK yX8_qEndsPart cX8_qEndsPart 1 none 0 := ⟨bw_t tt_7 54 rfl rfl, bw_t tt_1 10 rfl rfl, ⟨by decide +kernel, by decide +kernel⟩, by decide +kernel, Nat.le_of_ble_eq_true rfl⟩
set_option maxRecDepth 20000 in
theorem mv_X8_qEndsPart : MV yX8_qEndsPart := ⟨bw_t tt_7 53 rfl rfl, sel_in (q := (yX8_qEndsPart, 123)) lp_7 11 rfl rfl⟩
set_option maxRecDepth 20000 in
theorem mk_X8_qPartTold : MK yX8_qPartTold cX8_qPartTold 6 none 0 := ⟨bw_t tt_7 34 rfl rfl, bw_t tt_1 10 rfl rfl, ⟨by decide +kernel, by decide +kernel⟩, by decide +kernel, Nat.le_of_ble_eq_true rfl⟩
set_option maxRecDepth 20000 in
theorem mv_X8_qPartTold : MV yX8_qPartTold := ⟨bw_t tt_7 33 rfl rfl, sel_in (q := (yX8_qPartTold, 123)) lp_7 6 rfl rfl⟩
set_option maxRecDepth 20000 in
theorem mk_X8_qGoesOn : MK yX8_qGoesOn cX8_qGoesOn 2 (some .boolean) 0 := ⟨bw_t tt_7 62 rfl rfl, bw_t tt_1 10 rfl rfl, ⟨by decide +kernel, by decide +kernel⟩, by decide +kernel, Nat.le_of_ble_eq_true rfl⟩
set_option maxRecDepth 20000 in
theorem mv_X8_qGoesOn : MV yX8_qGoesOn := ⟨bw_t tt_7 61 rfl rfl, sel_in (q := (yX8_qGoesOn, 123)) lp_7 13 rfl rfl⟩
set_option maxRecDepth 20000 in
theorem mk_X8_qSums : MK yX8_qSums cX8_qSums 3 none 0 := ⟨bw_t tt_7 30 rfl rfl, bw_t tt_1 10 rfl rfl, ⟨by decide +kernel, by decide +kernel⟩, by decide +kernel, Nat.le_of_ble_eq_true rfl⟩
set_option maxRecDepth 20000 in
theorem mv_X8_qSums : MV yX8_qSums := ⟨bw_t tt_7 29 rfl rfl, sel_in (q := (yX8_qSums, 123)) lp_7 5 rfl rfl⟩
set_option maxRecDepth 20000 in
theorem mk_X8_qFact : MK yX8_qFact cX8_qFact 2 none 0 := ⟨bw_t tt_7 22 rfl rfl, bw_t tt_1 10 rfl rfl, ⟨by decide +kernel, by decide +kernel⟩, by decide +kernel, Nat.le_of_ble_eq_true rfl⟩
set_option maxRecDepth 20000 in
theorem mv_X8_qFact : MV yX8_qFact := ⟨bw_t tt_7 21 rfl rfl, sel_in (q := (yX8_qFact, 123)) lp_7 3 rfl rfl⟩
set_option maxRecDepth 20000 in
theorem mk_X8_qHasSquare : MK yX8_qHasSquare cX8_qHasSquare 2 (some .boolean) 0 := ⟨bw_t tt_7 89 rfl rfl, bw_t tt_1 10 rfl rfl, ⟨by decide +kernel, by decide +kernel⟩, by decide +kernel, Nat.le_of_ble_eq_true rfl⟩
set_option maxRecDepth 20000 in
theorem mv_X8_qHasSquare : MV yX8_qHasSquare := ⟨bw_t tt_7 88 rfl rfl, sel_in (q := (yX8_qHasSquare, 123)) lp_8 3 rfl rfl⟩
set_option maxRecDepth 20000 in
theorem mk_X8_qDropsNots : MK yX8_qDropsNots cX8_qDropsNots 1 none 0 := ⟨bw_t tt_7 81 rfl rfl, bw_t tt_1 10 rfl rfl, ⟨by decide +kernel, by decide +kernel⟩, by decide +kernel, Nat.le_of_ble_eq_true rfl⟩
set_option maxRecDepth 20000 in
theorem mv_X8_qDropsNots : MV yX8_qDropsNots := ⟨bw_t tt_7 80 rfl rfl, sel_in (q := (yX8_qDropsNots, 123)) lp_8 1 rfl rfl⟩
set_option maxRecDepth 20000 in
theorem mk_X8_qTest : MK yX8_qTest cX8_qTest 3 none 0 := ⟨bw_t tt_7 14 rfl rfl, bw_t tt_1 10 rfl rfl, ⟨by decide +kernel, by decide +kernel⟩, by decide +kernel, Nat.le_of_ble_eq_true rfl⟩
set_option maxRecDepth 20000 in
theorem mv_X8_qTest : MV yX8_qTest := ⟨bw_t tt_7 13 rfl rfl, sel_in (q := (yX8_qTest, 123)) lp_7 1 rfl rfl⟩
set_option maxRecDepth 20000 in
theorem mk_X8_qGoesOnTest : MK yX8_qGoesOnTest cX8_qGoesOnTest 1 (some .boolean) 0 := ⟨bw_t tt_7 85 rfl rfl, bw_t tt_1 10 rfl rfl, ⟨by decide +kernel, by decide +kernel⟩, by decide +kernel, Nat.le_of_ble_eq_true rfl⟩
set_option maxRecDepth 20000 in
theorem mv_X8_qGoesOnTest : MV yX8_qGoesOnTest := ⟨bw_t tt_7 84 rfl rfl, sel_in (q := (yX8_qGoesOnTest, 123)) lp_8 2 rfl rfl⟩
set_option maxRecDepth 20000 in
theorem mk_X8_qClip : MK yX8_qClip cX8_qClip 2 (some .long) 1 := ⟨bw_t tt_7 201 rfl rfl, bw_t tt_1 10 rfl rfl, ⟨by decide +kernel, by decide +kernel⟩, by decide +kernel, Nat.le_of_ble_eq_true rfl⟩
set_option maxRecDepth 20000 in
theorem ms_X8_qClip : MS yX8_qClip := bw_t tt_7 200 rfl rfl
set_option maxRecDepth 20000 in
theorem mk_X8_qFloor : MK yX8_qFloor cX8_qFloor 6 (some .long) 2 := ⟨bw_t tt_7 206 rfl rfl, bw_t tt_1 10 rfl rfl, ⟨by decide +kernel, by decide +kernel⟩, by decide +kernel, Nat.le_of_ble_eq_true rfl⟩
set_option maxRecDepth 20000 in
theorem ms_X8_qFloor : MS yX8_qFloor := bw_t tt_7 205 rfl rfl
set_option maxRecDepth 20000 in
theorem mk_X8_qPuts : MK yX8_qPuts cX8_qPuts 3 none 1 := ⟨bw_t tt_7 178 rfl rfl, bw_t tt_1 10 rfl rfl, ⟨by decide +kernel, by decide +kernel⟩, by decide +kernel, Nat.le_of_ble_eq_true rfl⟩
set_option maxRecDepth 20000 in
theorem mv_X8_qPuts : MV yX8_qPuts := ⟨bw_t tt_7 177 rfl rfl, sel_in (q := (yX8_qPuts, 123)) lp_9 7 rfl rfl⟩
set_option maxRecDepth 20000 in
theorem mk_X8_qJoins : MK yX8_qJoins cX8_qJoins 6 none 1 := ⟨bw_t tt_7 198 rfl rfl, bw_t tt_1 10 rfl rfl, ⟨by decide +kernel, by decide +kernel⟩, by decide +kernel, Nat.le_of_ble_eq_true rfl⟩
set_option maxRecDepth 20000 in
theorem mv_X8_qJoins : MV yX8_qJoins := ⟨bw_t tt_7 197 rfl rfl, sel_in (q := (yX8_qJoins, 123)) lp_9 12 rfl rfl⟩
set_option maxRecDepth 20000 in
theorem mk_X8_qPartOf : MK yX8_qPartOf cX8_qPartOf 3 (some .long) 2 := ⟨bw_t tt_7 182 rfl rfl, bw_t tt_1 10 rfl rfl, ⟨by decide +kernel, by decide +kernel⟩, by decide +kernel, Nat.le_of_ble_eq_true rfl⟩
set_option maxRecDepth 20000 in
theorem mv_X8_qPartOf : MV yX8_qPartOf := ⟨bw_t tt_7 181 rfl rfl, sel_in (q := (yX8_qPartOf, 123)) lp_9 8 rfl rfl⟩
set_option maxRecDepth 20000 in
theorem mk_X8_qOf : MK yX8_qOf cX8_qOf 5 (some .long) 3 := ⟨bw_t tt_8 179 rfl rfl, bw_t tt_1 10 rfl rfl, ⟨by decide +kernel, by decide +kernel⟩, by decide +kernel, Nat.le_of_ble_eq_true rfl⟩
set_option maxRecDepth 20000 in
theorem mv_X8_qOf : MV yX8_qOf := ⟨bw_t tt_8 178 rfl rfl, sel_in (q := (yX8_qOf, 123)) lp_11 5 rfl rfl⟩
set_option maxRecDepth 20000 in
theorem mk_X8_qTold : MK yX8_qTold cX8_qTold 4 (some .long) 1 := ⟨bw_t tt_8 175 rfl rfl, bw_t tt_1 10 rfl rfl, ⟨by decide +kernel, by decide +kernel⟩, by decide +kernel, Nat.le_of_ble_eq_true rfl⟩
set_option maxRecDepth 20000 in
theorem mv_X8_qTold : MV yX8_qTold := ⟨bw_t tt_8 174 rfl rfl, sel_in (q := (yX8_qTold, 123)) lp_11 4 rfl rfl⟩
set_option maxRecDepth 20000 in
theorem mk_X8_qKind : MK yX8_qKind cX8_qKind 2 (some .int) 0 := ⟨bw_t tt_8 170 rfl rfl, bw_t tt_1 10 rfl rfl, ⟨by decide +kernel, by decide +kernel⟩, by decide +kernel, Nat.le_of_ble_eq_true rfl⟩
set_option maxRecDepth 20000 in
theorem mv_X8_qKind : MV yX8_qKind := ⟨bw_t tt_8 169 rfl rfl, sel_in (q := (yX8_qKind, 123)) lp_11 3 rfl rfl⟩
set_option maxRecDepth 20000 in
theorem mk_X8_qTakes : MK yX8_qTakes cX8_qTakes 6 none 3 := ⟨bw_t tt_8 183 rfl rfl, bw_t tt_1 10 rfl rfl, ⟨by decide +kernel, by decide +kernel⟩, by decide +kernel, Nat.le_of_ble_eq_true rfl⟩
set_option maxRecDepth 20000 in
theorem mv_X8_qTakes : MV yX8_qTakes := ⟨bw_t tt_8 182 rfl rfl, sel_in (q := (yX8_qTakes, 123)) lp_11 6 rfl rfl⟩
set_option maxRecDepth 20000 in
theorem mk_X8_ask : MK yX8_ask cX8_ask 5 (some .long) 2 := ⟨bw_t tt_8 165 rfl rfl, bw_t tt_1 10 rfl rfl, ⟨by decide +kernel, by decide +kernel⟩, by decide +kernel, Nat.le_of_ble_eq_true rfl⟩
set_option maxRecDepth 20000 in
theorem mv_X8_ask : MV yX8_ask := ⟨bw_t tt_8 163 rfl rfl, bw_t tt_8 164 rfl rfl⟩
set_option maxRecDepth 20000 in
theorem mk_X8_checked : MK yX8_checked cX8_checked 4 (some .int) 2 := ⟨bw_t tt_8 190 rfl rfl, bw_t tt_1 10 rfl rfl, ⟨by decide +kernel, by decide +kernel⟩, by decide +kernel, Nat.le_of_ble_eq_true rfl⟩
set_option maxRecDepth 20000 in
theorem ms_X8_checked : MS yX8_checked := bw_t tt_8 189 rfl rfl
set_option maxRecDepth 20000 in
theorem mk_X8_image : MK yX8_image cX8_image 2 (some .int) 0 := ⟨bw_t tt_8 187 rfl rfl, bw_t tt_1 10 rfl rfl, ⟨by decide +kernel, by decide +kernel⟩, by decide +kernel, Nat.le_of_ble_eq_true rfl⟩
set_option maxRecDepth 20000 in
theorem mv_X8_image : MV yX8_image := ⟨bw_t tt_8 185 rfl rfl, bw_t tt_8 186 rfl rfl⟩
set_option maxRecDepth 20000 in
theorem mk_X8_octet : MK yX8_octet cX8_octet 2 (some .int) 1 := ⟨bw_t tt_8 194 rfl rfl, bw_t tt_1 10 rfl rfl, ⟨by decide +kernel, by decide +kernel⟩, by decide +kernel, Nat.le_of_ble_eq_true rfl⟩
set_option maxRecDepth 20000 in
theorem mv_X8_octet : MV yX8_octet := ⟨bw_t tt_8 192 rfl rfl, bw_t tt_8 193 rfl rfl⟩
set_option maxRecDepth 20000 in
theorem mk_X8_isLength : MK yX8_isLength cX8_isLength 3 (some .boolean) 1 := ⟨bw_t tt_8 202 rfl rfl, bw_t tt_1 10 rfl rfl, ⟨by decide +kernel, by decide +kernel⟩, by decide +kernel, Nat.le_of_ble_eq_true rfl⟩
set_option maxRecDepth 20000 in
theorem mv_X8_isLength : MV yX8_isLength := ⟨bw_t tt_8 201 rfl rfl, sel_in (q := (yX8_isLength, 123)) lp_11 7 rfl rfl⟩
set_option maxRecDepth 20000 in
theorem mk_X8_on : MK yX8_on cX8_on 4 (some .boolean) 0 := ⟨bw_t tt_8 198 rfl rfl, bw_t tt_1 10 rfl rfl, ⟨by decide +kernel, by decide +kernel⟩, by decide +kernel, Nat.le_of_ble_eq_true rfl⟩
set_option maxRecDepth 20000 in
theorem mv_X8_on : MV yX8_on := ⟨bw_t tt_8 196 rfl rfl, bw_t tt_8 197 rfl rfl⟩
set_option maxRecDepth 20000 in
theorem mk_X8_status : MK yX8_status cX8_status 2 (some .int) 1 := ⟨bw_t tt_8 206 rfl rfl, bw_t tt_1 10 rfl rfl, ⟨by decide +kernel, by decide +kernel⟩, by decide +kernel, Nat.le_of_ble_eq_true rfl⟩
set_option maxRecDepth 20000 in
theorem mv_X8_status : MV yX8_status := ⟨bw_t tt_8 204 rfl rfl, bw_t tt_8 205 rfl rfl⟩
set_option maxRecDepth 20000 in
theorem mk_J9_floorDiv_f86c9 : MK yJ9_floorDiv_f86c9 cJ9_floorDiv_f86c9 6 (some .long) 2 := ⟨bw_t tt_3 237 rfl rfl, bw_t tt_1 11 rfl rfl, ⟨by decide +kernel, by decide +kernel⟩, by decide +kernel, Nat.le_of_ble_eq_true rfl⟩
set_option maxRecDepth 20000 in
theorem ms_J9_floorDiv_f86c9 : MS yJ9_floorDiv_f86c9 := bw_t tt_3 236 rfl rfl
set_option maxRecDepth 20000 in
theorem mk_J9_max_7cf53 : MK yJ9_max_7cf53 cJ9_max_7cf53 2 (some .int) 2 := ⟨bw_t tt_3 226 rfl rfl, bw_t tt_1 11 rfl rfl, ⟨by decide +kernel, by decide +kernel⟩, by decide +kernel, Nat.le_of_ble_eq_true rfl⟩
set_option maxRecDepth 20000 in
theorem ms_J9_max_7cf53 : MS yJ9_max_7cf53 := bw_t tt_3 225 rfl rfl
set_option maxRecDepth 20000 in
theorem mk_J9_max_f86c9 : MK yJ9_max_f86c9 cJ9_max_f86c9 4 (some .long) 2 := ⟨bw_t tt_4 1 rfl rfl, bw_t tt_1 11 rfl rfl, ⟨by decide +kernel, by decide +kernel⟩, by decide +kernel, Nat.le_of_ble_eq_true rfl⟩
set_option maxRecDepth 20000 in
theorem ms_J9_max_f86c9 : MS yJ9_max_f86c9 := bw_t tt_4 0 rfl rfl
set_option maxRecDepth 20000 in
theorem mk_J9_min_7cf53 : MK yJ9_min_7cf53 cJ9_min_7cf53 2 (some .int) 2 := ⟨bw_t tt_2 201 rfl rfl, bw_t tt_1 11 rfl rfl, ⟨by decide +kernel, by decide +kernel⟩, by decide +kernel, Nat.le_of_ble_eq_true rfl⟩
set_option maxRecDepth 20000 in
theorem ms_J9_min_7cf53 : MS yJ9_min_7cf53 := bw_t tt_2 200 rfl rfl
set_option maxRecDepth 20000 in
theorem mk_J9_min_f86c9 : MK yJ9_min_f86c9 cJ9_min_f86c9 4 (some .long) 2 := ⟨bw_t tt_3 210 rfl rfl, bw_t tt_1 11 rfl rfl, ⟨by decide +kernel, by decide +kernel⟩, by decide +kernel, Nat.le_of_ble_eq_true rfl⟩
set_option maxRecDepth 20000 in
theorem ms_J9_min_f86c9 : MS yJ9_min_f86c9 := bw_t tt_3 209 rfl rfl
set_option maxRecDepth 20000 in
theorem mk_J0_length_8abf5 : MK yJ0_length_8abf5 cJ0_length_8abf5 1 (some .int) 0 := ⟨bw_t tt_2 214 rfl rfl, bw_t tt_1 12 rfl rfl, ⟨by decide +kernel, by decide +kernel⟩, by decide +kernel, Nat.le_of_ble_eq_true rfl⟩
set_option maxRecDepth 20000 in
theorem mv_J0_length_8abf5 : MV yJ0_length_8abf5 := ⟨bw_t tt_2 212 rfl rfl, bw_t tt_2 213 rfl rfl⟩
set_option maxRecDepth 20000 in
theorem mk_J0_charAt_5068e : MK yJ0_charAt_5068e cJ0_charAt_5068e 2 (some .char) 1 := ⟨bw_t tt_2 224 rfl rfl, bw_t tt_1 12 rfl rfl, ⟨by decide +kernel, by decide +kernel⟩, by decide +kernel, Nat.le_of_ble_eq_true rfl⟩
set_option maxRecDepth 20000 in
theorem mv_J0_charAt_5068e : MV yJ0_charAt_5068e := ⟨bw_t tt_2 222 rfl rfl, bw_t tt_2 223 rfl rfl⟩
set_option maxRecDepth 20000 in
theorem mk_J0_coder_7d493 : MK yJ0_coder_7d493 cJ0_coder_7d493 1 (some .byte) 0 := ⟨bw_t tt_2 218 rfl rfl, bw_t tt_1 12 rfl rfl, ⟨by decide +kernel, by decide +kernel⟩, by decide +kernel, Nat.le_of_ble_eq_true rfl⟩
set_option maxRecDepth 20000 in
theorem mv_J0_coder_7d493 : MV yJ0_coder_7d493 := ⟨bw_t tt_2 216 rfl rfl, bw_t tt_2 217 rfl rfl⟩
set_option maxRecDepth 20000 in
theorem mk_J0_isLatin1_aae02 : MK yJ0_isLatin1_aae02 cJ0_isLatin1_aae02 1 (some .boolean) 0 := ⟨bw_t tt_2 228 rfl rfl, bw_t tt_1 12 rfl rfl, ⟨by decide +kernel, by decide +kernel⟩, by decide +kernel, Nat.le_of_ble_eq_true rfl⟩
set_option maxRecDepth 20000 in
theorem mv_J0_isLatin1_aae02 : MV yJ0_isLatin1_aae02 := ⟨bw_t tt_2 226 rfl rfl, bw_t tt_2 227 rfl rfl⟩
set_option maxRecDepth 20000 in
theorem mk_J0_checkIndex_df160 : MK yJ0_checkIndex_df160 cJ0_checkIndex_df160 2 none 2 := ⟨bw_t tt_2 234 rfl rfl, bw_t tt_1 12 rfl rfl, ⟨by decide +kernel, by decide +kernel⟩, by decide +kernel, Nat.le_of_ble_eq_true rfl⟩
set_option maxRecDepth 20000 in
theorem ms_J0_checkIndex_df160 : MS yJ0_checkIndex_df160 := bw_t tt_2 233 rfl rfl
set_option maxRecDepth 20000 in
theorem mk_J1_charAt_3b067 : MK yJ1_charAt_3b067 cJ1_charAt_3b067 2 (some .char) 2 := ⟨bw_t tt_2 231 rfl rfl, bw_t tt_1 13 rfl rfl, ⟨by decide +kernel, by decide +kernel⟩, by decide +kernel, Nat.le_of_ble_eq_true rfl⟩
set_option maxRecDepth 20000 in
theorem ms_J1_charAt_3b067 : MS yJ1_charAt_3b067 := bw_t tt_2 230 rfl rfl
set_option maxRecDepth 20000 in
theorem mk_J2_getChar_3b067 : MK yJ2_getChar_3b067 cJ2_getChar_3b067 2 (some .char) 2 := ⟨bw_t tt_3 12 rfl rfl, bw_t tt_1 15 rfl rfl, ⟨by decide +kernel, by decide +kernel⟩, by decide +kernel, Nat.le_of_ble_eq_true rfl⟩
set_option maxRecDepth 20000 in
theorem ms_J2_getChar_3b067 : MS yJ2_getChar_3b067 := bw_t tt_3 11 rfl rfl
set_option maxRecDepth 20000 in
theorem mk_J2_length_9d52b : MK yJ2_length_9d52b cJ2_length_9d52b 1 (some .int) 1 := ⟨bw_t tt_3 8 rfl rfl, bw_t tt_1 15 rfl rfl, ⟨by decide +kernel, by decide +kernel⟩, by decide +kernel, Nat.le_of_ble_eq_true rfl⟩
set_option maxRecDepth 20000 in
theorem ms_J2_length_9d52b : MS yJ2_length_9d52b := bw_t tt_3 7 rfl rfl
set_option maxRecDepth 20000 in
theorem mk_J2_charAt_3b067 : MK yJ2_charAt_3b067 cJ2_charAt_3b067 2 (some .char) 2 := ⟨bw_t tt_3 2 rfl rfl, bw_t tt_1 15 rfl rfl, ⟨by decide +kernel, by decide +kernel⟩, by decide +kernel, Nat.le_of_ble_eq_true rfl⟩
set_option maxRecDepth 20000 in
theorem ms_J2_charAt_3b067 : MS yJ2_charAt_3b067 := bw_t tt_3 1 rfl rfl
set_option maxRecDepth 20000 in
theorem mk_J2_checkIndex_2214a : MK yJ2_checkIndex_2214a cJ2_checkIndex_2214a 2 none 2 := ⟨bw_t tt_3 5 rfl rfl, bw_t tt_1 15 rfl rfl, ⟨by decide +kernel, by decide +kernel⟩, by decide +kernel, Nat.le_of_ble_eq_true rfl⟩
set_option maxRecDepth 20000 in
theorem ms_J2_checkIndex_2214a : MS yJ2_checkIndex_2214a := bw_t tt_3 4 rfl rfl
set_option maxRecDepth 20000 in
theorem mk_J3_checkIndex_8e157 : MK yJ3_checkIndex_8e157 cJ3_checkIndex_8e157 3 (some .int) 3 := ⟨bw_t tt_2 239 rfl rfl, bw_t tt_1 14 rfl rfl, ⟨by decide +kernel, by decide +kernel⟩, by decide +kernel, Nat.le_of_ble_eq_true rfl⟩
set_option maxRecDepth 20000 in
theorem ms_J3_checkIndex_8e157 : MS yJ3_checkIndex_8e157 := bw_t tt_2 238 rfl rfl
