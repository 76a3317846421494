set_option maxRecDepth 40000 in
set_option maxHeartbeats 4000000 in
theorem kc_12 (sc : List Int) : KCall sc 1 89 11745 yX8_init cX8_init 1 [aR 62] w_82 w_173 := by
  refine kcall_of (ini := true) (ls := [aR 62]) (by decide +kernel) rfl (fun _ => rfl) (Nat.le_of_ble_eq_true rfl) rfl (by decide +kernel) ?_
  refine k_aload (pc2 := 1) dX8_init_0 rfl rfl (by decide) ?_
  refine k_oinit (pc2 := 4) (bw_t tt_5 20 rfl rfl) (bw_t tt_1 22 rfl rfl) (bw_t tt_1 23 rfl rfl) dX8_init_1 rfl (by decide) (by decide) (Nat.le_of_ble_eq_true rfl) ?_
  refine k_aload (pc2 := 5) dX8_init_4 rfl rfl (by decide) ?_
  refine k_sipush (pc2 := 8) dX8_init_5 rfl rfl ?_
  refine k_newa2 (pc2 := 10) (a := 63) (cs2 := (w_82 ++ [(100, List.replicate 1600 0)])) (Or.inl ⟨rfl, rfl⟩) (bw_t tt_1 49 rfl rfl) (by decide) dX8_init_8 rfl (by decide +kernel) (by decide +kernel) (by decide +kernel) rfl rfl ?_
  refine k_put (pc2 := 13) (x := 63) (v := aR 63) (row := [-1, 0, 0, 0, 0, 0, 0, 0, 0, -1, 0, -1, -1, -1, -1, -1, -1, -1, -1, -1, -1, -1, -1, -1, -1, -1, -1, -1, -1, -1, -1, -1, -1, -1, -1, -1, -1, -1, -1, -1, -1, 0, -1, -1, -1, -1, -1, -1, -1, -1, -1, 0, 0, 0, 0, 0, 0, 0, -1, -1, -1, -1, -1, -1, 0, -1, 0, -1, -1, -1, -1, -1, -1, -1, -1, 0, -1, -1, -1, -1, -1, -1, -1, 0, 0, 0, 0, 0, 0, -1, -1, -1, -1, -1, -1, -1, -1, -1, -1, -1, -1, -1, -1, -1, -1, -1, -1, -1, -1, -1, -1, -1, 0, -1, 0, 0, 0, -1, 0, 0, 0, -1, 0]) (cs2 := w_83) (ty := tyX8) fl_X8_7 rfl tyX8_ok nmX8 (Or.inr ⟨rfl, rfl, rfl, bw_t tt_5 21 rfl rfl⟩) (by decide +kernel) rfl (by decide +kernel) (fun _ => rfl) (fun g => pn_a (x := 63) (by decide) _ g) rfl dX8_init_10 rfl ?_
  refine k_aload (pc2 := 14) dX8_init_13 rfl rfl (by decide) ?_
  refine k_iconst (pc2 := 15) dX8_init_14 rfl ?_
  refine k_put (pc2 := 18) (x := (-1)) (v := aI (-1)) (row := [63, 0, 0, 0, 0, 0, 0, 0, 0, -1, 0, -1, -1, -1, -1, -1, -1, -1, -1, -1, -1, -1, -1, -1, -1, -1, -1, -1, -1, -1, -1, -1, -1, -1, -1, -1, -1, -1, -1, -1, -1, 0, -1, -1, -1, -1, -1, -1, -1, -1, -1, 0, 0, 0, 0, 0, 0, 0, -1, -1, -1, -1, -1, -1, 0, -1, 0, -1, -1, -1, -1, -1, -1, -1, -1, 0, -1, -1, -1, -1, -1, -1, -1, 0, 0, 0, 0, 0, 0, -1, -1, -1, -1, -1, -1, -1, -1, -1, -1, -1, -1, -1, -1, -1, -1, -1, -1, -1, -1, -1, -1, -1, 0, -1, 0, 0, 0, -1, 0, 0, 0, -1, 0]) (cs2 := w_84) (ty := tyX8) fl_X8_13 rfl tyX8_ok nmX8 (Or.inl rfl) (by decide +kernel) rfl (by decide +kernel) (fun _ => rfl) (fun _ => ⟨rfl, rfl⟩) rfl dX8_init_15 rfl ?_
  refine k_aload (pc2 := 19) dX8_init_18 rfl rfl (by decide) ?_
  refine k_bipush (pc2 := 21) dX8_init_19 rfl rfl ?_
  refine k_newa2 (pc2 := 23) (a := 64) (cs2 := (w_84 ++ [(100, List.replicate 6 0)])) (Or.inl ⟨rfl, rfl⟩) (bw_t tt_1 49 rfl rfl) (by decide) dX8_init_21 rfl (by decide +kernel) (by decide +kernel) (by decide +kernel) rfl rfl ?_
  refine k_put (pc2 := 26) (x := 64) (v := aR 64) (row := [63, 0, 0, 0, 0, 0, 0, 0, -1, -1, 0, -1, -1, -1, -1, -1, -1, -1, -1, -1, -1, -1, -1, -1, -1, -1, -1, -1, -1, -1, -1, -1, -1, -1, -1, -1, -1, -1, -1, -1, -1, 0, -1, -1, -1, -1, -1, -1, -1, -1, -1, 0, 0, 0, 0, 0, 0, 0, -1, -1, -1, -1, -1, -1, 0, -1, 0, -1, -1, -1, -1, -1, -1, -1, -1, 0, -1, -1, -1, -1, -1, -1, -1, 0, 0, 0, 0, 0, 0, -1, -1, -1, -1, -1, -1, -1, -1, -1, -1, -1, -1, -1, -1, -1, -1, -1, -1, -1, -1, -1, -1, -1, 0, -1, 0, 0, 0, -1, 0, 0, 0, -1, 0]) (cs2 := w_85) (ty := tyX8) fl_X8_17 rfl tyX8_ok nmX8 (Or.inr ⟨rfl, rfl, rfl, bw_t tt_5 30 rfl rfl⟩) (by decide +kernel) rfl (by decide +kernel) (fun _ => rfl) (fun g => pn_a (x := 64) (by decide) _ g) rfl dX8_init_23 rfl ?_
  refine k_aload (pc2 := 27) dX8_init_26 rfl rfl (by decide) ?_
  refine k_bipush (pc2 := 29) dX8_init_27 rfl rfl ?_
  refine k_newa2 (pc2 := 31) (a := 65) (cs2 := (w_85 ++ [(102, List.replicate 6 0)])) (Or.inr (Or.inr ⟨rfl, rfl⟩)) (bw_t tt_6 151 rfl rfl) (by decide) dX8_init_29 rfl (by decide +kernel) (by decide +kernel) (by decide +kernel) rfl rfl ?_
  refine k_dup (pc2 := 32) dX8_init_31 rfl (by decide) ?_
  refine k_iconst (pc2 := 33) dX8_init_32 rfl ?_
  refine k_bipush (pc2 := 35) dX8_init_33 rfl rfl ?_
  refine k_ast (pc2 := 36) (row := List.replicate 6 0) (cs2 := (w_85 ++ [(102, [98, 0, 0, 0, 0, 0])])) (Or.inr ⟨dX8_init_35, rfl, rfl⟩) (by decide +kernel) rfl (by decide) rfl rfl ?_
  refine k_dup (pc2 := 37) dX8_init_36 rfl (by decide) ?_
  refine k_iconst (pc2 := 38) dX8_init_37 rfl ?_
  refine k_bipush (pc2 := 40) dX8_init_38 rfl rfl ?_
  refine k_ast (pc2 := 41) (row := [98, 0, 0, 0, 0, 0]) (cs2 := (w_85 ++ [(102, [98, 111, 0, 0, 0, 0])])) (Or.inr ⟨dX8_init_40, rfl, rfl⟩) (by decide +kernel) rfl (by decide) rfl rfl ?_
  refine k_dup (pc2 := 42) dX8_init_41 rfl (by decide) ?_
  refine k_iconst (pc2 := 43) dX8_init_42 rfl ?_
  refine k_bipush (pc2 := 45) dX8_init_43 rfl rfl ?_
  refine k_ast (pc2 := 46) (row := [98, 111, 0, 0, 0, 0]) (cs2 := (w_85 ++ [(102, [98, 111, 98, 0, 0, 0])])) (Or.inr ⟨dX8_init_45, rfl, rfl⟩) (by decide +kernel) rfl (by decide) rfl rfl ?_
  refine k_dup (pc2 := 47) dX8_init_46 rfl (by decide) ?_
  refine k_iconst (pc2 := 48) dX8_init_47 rfl ?_
  refine k_bipush (pc2 := 50) dX8_init_48 rfl rfl ?_
  refine k_ast (pc2 := 51) (row := [98, 111, 98, 0, 0, 0]) (cs2 := (w_85 ++ [(102, [98, 111, 98, 98, 0, 0])])) (Or.inr ⟨dX8_init_50, rfl, rfl⟩) (by decide +kernel) rfl (by decide) rfl rfl ?_
  refine k_dup (pc2 := 52) dX8_init_51 rfl (by decide) ?_
  refine k_iconst (pc2 := 53) dX8_init_52 rfl ?_
  refine k_bipush (pc2 := 55) dX8_init_53 rfl rfl ?_
  refine k_ast (pc2 := 56) (row := [98, 111, 98, 98, 0, 0]) (cs2 := (w_85 ++ [(102, [98, 111, 98, 98, 105, 0])])) (Or.inr ⟨dX8_init_55, rfl, rfl⟩) (by decide +kernel) rfl (by decide) rfl rfl ?_
  refine k_dup (pc2 := 57) dX8_init_56 rfl (by decide) ?_
  refine k_iconst (pc2 := 58) dX8_init_57 rfl ?_
  refine k_bipush (pc2 := 60) dX8_init_58 rfl rfl ?_
  refine k_ast (pc2 := 61) (row := [98, 111, 98, 98, 105, 0]) (cs2 := (w_85 ++ [(102, [98, 111, 98, 98, 105, 110])])) (Or.inr ⟨dX8_init_60, rfl, rfl⟩) (by decide +kernel) rfl (by decide) rfl rfl ?_
  refine k_put (pc2 := 64) (x := 65) (v := aR 65) (row := [63, 0, 0, 0, 0, 0, 0, 0, -1, 64, 0, -1, -1, -1, -1, -1, -1, -1, -1, -1, -1, -1, -1, -1, -1, -1, -1, -1, -1, -1, -1, -1, -1, -1, -1, -1, -1, -1, -1, -1, -1, 0, -1, -1, -1, -1, -1, -1, -1, -1, -1, 0, 0, 0, 0, 0, 0, 0, -1, -1, -1, -1, -1, -1, 0, -1, 0, -1, -1, -1, -1, -1, -1, -1, -1, 0, -1, -1, -1, -1, -1, -1, -1, 0, 0, 0, 0, 0, 0, -1, -1, -1, -1, -1, -1, -1, -1, -1, -1, -1, -1, -1, -1, -1, -1, -1, -1, -1, -1, -1, -1, -1, 0, -1, 0, 0, 0, -1, 0, 0, 0, -1, 0]) (cs2 := w_86) (ty := tyX8) fl_X8_20 rfl tyX8_ok nmX8 (Or.inr ⟨rfl, rfl, rfl, bw_t tt_5 32 rfl rfl⟩) (by decide +kernel) rfl (by decide +kernel) (fun _ => rfl) (fun g => pn_a (x := 65) (by decide) _ g) rfl dX8_init_61 rfl ?_
  refine k_aload (pc2 := 65) dX8_init_64 rfl rfl (by decide) ?_
  refine k_iconst (pc2 := 66) dX8_init_65 rfl ?_
  refine k_newa2 (pc2 := 68) (a := 66) (cs2 := (w_86 ++ [(102, List.replicate 5 0)])) (Or.inr (Or.inr ⟨rfl, rfl⟩)) (bw_t tt_6 151 rfl rfl) (by decide) dX8_init_66 rfl (by decide +kernel) (by decide +kernel) (by decide +kernel) rfl rfl ?_
  refine k_dup (pc2 := 69) dX8_init_68 rfl (by decide) ?_
  refine k_iconst (pc2 := 70) dX8_init_69 rfl ?_
  refine k_bipush (pc2 := 72) dX8_init_70 rfl rfl ?_
  refine k_ast (pc2 := 73) (row := List.replicate 5 0) (cs2 := (w_86 ++ [(102, [108, 0, 0, 0, 0])])) (Or.inr ⟨dX8_init_72, rfl, rfl⟩) (by decide +kernel) rfl (by decide) rfl rfl ?_
  refine k_dup (pc2 := 74) dX8_init_73 rfl (by decide) ?_
  refine k_iconst (pc2 := 75) dX8_init_74 rfl ?_
  refine k_bipush (pc2 := 77) dX8_init_75 rfl rfl ?_
  refine k_ast (pc2 := 78) (row := [108, 0, 0, 0, 0]) (cs2 := (w_86 ++ [(102, [108, 97, 0, 0, 0])])) (Or.inr ⟨dX8_init_77, rfl, rfl⟩) (by decide +kernel) rfl (by decide) rfl rfl ?_
  refine k_dup (pc2 := 79) dX8_init_78 rfl (by decide) ?_
  refine k_iconst (pc2 := 80) dX8_init_79 rfl ?_
  refine k_bipush (pc2 := 82) dX8_init_80 rfl rfl ?_
  refine k_ast (pc2 := 83) (row := [108, 97, 0, 0, 0]) (cs2 := (w_86 ++ [(102, [108, 97, 115, 0, 0])])) (Or.inr ⟨dX8_init_82, rfl, rfl⟩) (by decide +kernel) rfl (by decide) rfl rfl ?_
  refine k_dup (pc2 := 84) dX8_init_83 rfl (by decide) ?_
  refine k_iconst (pc2 := 85) dX8_init_84 rfl ?_
  refine k_bipush (pc2 := 87) dX8_init_85 rfl rfl ?_
  refine k_ast (pc2 := 88) (row := [108, 97, 115, 0, 0]) (cs2 := (w_86 ++ [(102, [108, 97, 115, 116, 0])])) (Or.inr ⟨dX8_init_87, rfl, rfl⟩) (by decide +kernel) rfl (by decide) rfl rfl ?_
  refine k_dup (pc2 := 89) dX8_init_88 rfl (by decide) ?_
  refine k_iconst (pc2 := 90) dX8_init_89 rfl ?_
  refine k_bipush (pc2 := 92) dX8_init_90 rfl rfl ?_
  refine k_ast (pc2 := 93) (row := [108, 97, 115, 116, 0]) (cs2 := (w_86 ++ [(102, [108, 97, 115, 116, 115])])) (Or.inr ⟨dX8_init_92, rfl, rfl⟩) (by decide +kernel) rfl (by decide) rfl rfl ?_
  refine k_put (pc2 := 96) (x := 66) (v := aR 66) (row := [63, 0, 0, 0, 0, 0, 0, 0, -1, 64, 0, 65, -1, -1, -1, -1, -1, -1, -1, -1, -1, -1, -1, -1, -1, -1, -1, -1, -1, -1, -1, -1, -1, -1, -1, -1, -1, -1, -1, -1, -1, 0, -1, -1, -1, -1, -1, -1, -1, -1, -1, 0, 0, 0, 0, 0, 0, 0, -1, -1, -1, -1, -1, -1, 0, -1, 0, -1, -1, -1, -1, -1, -1, -1, -1, 0, -1, -1, -1, -1, -1, -1, -1, 0, 0, 0, 0, 0, 0, -1, -1, -1, -1, -1, -1, -1, -1, -1, -1, -1, -1, -1, -1, -1, -1, -1, -1, -1, -1, -1, -1, -1, 0, -1, 0, 0, 0, -1, 0, 0, 0, -1, 0]) (cs2 := w_87) (ty := tyX8) fl_X8_24 rfl tyX8_ok nmX8 (Or.inr ⟨rfl, rfl, rfl, bw_t tt_5 33 rfl rfl⟩) (by decide +kernel) rfl (by decide +kernel) (fun _ => rfl) (fun g => pn_a (x := 66) (by decide) _ g) rfl dX8_init_93 rfl ?_
  refine k_aload (pc2 := 97) dX8_init_96 rfl rfl (by decide) ?_
  refine k_iconst (pc2 := 98) dX8_init_97 rfl ?_
  refine k_newa2 (pc2 := 100) (a := 67) (cs2 := (w_87 ++ [(102, List.replicate 4 0)])) (Or.inr (Or.inr ⟨rfl, rfl⟩)) (bw_t tt_6 151 rfl rfl) (by decide) dX8_init_98 rfl (by decide +kernel) (by decide +kernel) (by decide +kernel) rfl rfl ?_
  refine k_dup (pc2 := 101) dX8_init_100 rfl (by decide) ?_
  refine k_iconst (pc2 := 102) dX8_init_101 rfl ?_
  refine k_bipush (pc2 := 104) dX8_init_102 rfl rfl ?_
  refine k_ast (pc2 := 105) (row := List.replicate 4 0) (cs2 := (w_87 ++ [(102, [111, 0, 0, 0])])) (Or.inr ⟨dX8_init_104, rfl, rfl⟩) (by decide +kernel) rfl (by decide) rfl rfl ?_
  refine k_dup (pc2 := 106) dX8_init_105 rfl (by decide) ?_
  refine k_iconst (pc2 := 107) dX8_init_106 rfl ?_
  refine k_bipush (pc2 := 109) dX8_init_107 rfl rfl ?_
  refine k_ast (pc2 := 110) (row := [111, 0, 0, 0]) (cs2 := (w_87 ++ [(102, [111, 100, 0, 0])])) (Or.inr ⟨dX8_init_109, rfl, rfl⟩) (by decide +kernel) rfl (by decide) rfl rfl ?_
  refine k_dup (pc2 := 111) dX8_init_110 rfl (by decide) ?_
  refine k_iconst (pc2 := 112) dX8_init_111 rfl ?_
  refine k_bipush (pc2 := 114) dX8_init_112 rfl rfl ?_
  refine k_ast (pc2 := 115) (row := [111, 100, 0, 0]) (cs2 := (w_87 ++ [(102, [111, 100, 100, 0])])) (Or.inr ⟨dX8_init_114, rfl, rfl⟩) (by decide +kernel) rfl (by decide) rfl rfl ?_
  refine k_dup (pc2 := 116) dX8_init_115 rfl (by decide) ?_
  refine k_iconst (pc2 := 117) dX8_init_116 rfl ?_
  refine k_bipush (pc2 := 119) dX8_init_117 rfl rfl ?_
  refine k_ast (pc2 := 120) (row := [111, 100, 100, 0]) (cs2 := (w_87 ++ [(102, [111, 100, 100, 115])])) (Or.inr ⟨dX8_init_119, rfl, rfl⟩) (by decide +kernel) rfl (by decide) rfl rfl ?_
  refine k_put (pc2 := 123) (x := 67) (v := aR 67) (row := [63, 0, 0, 0, 0, 0, 0, 0, -1, 64, 0, 65, 66, -1, -1, -1, -1, -1, -1, -1, -1, -1, -1, -1, -1, -1, -1, -1, -1, -1, -1, -1, -1, -1, -1, -1, -1, -1, -1, -1, -1, 0, -1, -1, -1, -1, -1, -1, -1, -1, -1, 0, 0, 0, 0, 0, 0, 0, -1, -1, -1, -1, -1, -1, 0, -1, 0, -1, -1, -1, -1, -1, -1, -1, -1, 0, -1, -1, -1, -1, -1, -1, -1, 0, 0, 0, 0, 0, 0, -1, -1, -1, -1, -1, -1, -1, -1, -1, -1, -1, -1, -1, -1, -1, -1, -1, -1, -1, -1, -1, -1, -1, 0, -1, 0, 0, 0, -1, 0, 0, 0, -1, 0]) (cs2 := w_88) (ty := tyX8) fl_X8_27 rfl tyX8_ok nmX8 (Or.inr ⟨rfl, rfl, rfl, bw_t tt_5 34 rfl rfl⟩) (by decide +kernel) rfl (by decide +kernel) (fun _ => rfl) (fun g => pn_a (x := 67) (by decide) _ g) rfl dX8_init_120 rfl ?_
  refine k_aload (pc2 := 124) dX8_init_123 rfl rfl (by decide) ?_
  refine k_iconst (pc2 := 125) dX8_init_124 rfl ?_
  refine k_newa2 (pc2 := 127) (a := 68) (cs2 := (w_88 ++ [(102, List.replicate 4 0)])) (Or.inr (Or.inr ⟨rfl, rfl⟩)) (bw_t tt_6 151 rfl rfl) (by decide) dX8_init_125 rfl (by decide +kernel) (by decide +kernel) (by decide +kernel) rfl rfl ?_
  refine k_dup (pc2 := 128) dX8_init_127 rfl (by decide) ?_
  refine k_iconst (pc2 := 129) dX8_init_128 rfl ?_
  refine k_bipush (pc2 := 131) dX8_init_129 rfl rfl ?_
  refine k_ast (pc2 := 132) (row := List.replicate 4 0) (cs2 := (w_88 ++ [(102, [115, 0, 0, 0])])) (Or.inr ⟨dX8_init_131, rfl, rfl⟩) (by decide +kernel) rfl (by decide) rfl rfl ?_
  refine k_dup (pc2 := 133) dX8_init_132 rfl (by decide) ?_
  refine k_iconst (pc2 := 134) dX8_init_133 rfl ?_
  refine k_bipush (pc2 := 136) dX8_init_134 rfl rfl ?_
  refine k_ast (pc2 := 137) (row := [115, 0, 0, 0]) (cs2 := (w_88 ++ [(102, [115, 101, 0, 0])])) (Or.inr ⟨dX8_init_136, rfl, rfl⟩) (by decide +kernel) rfl (by decide) rfl rfl ?_
  refine k_dup (pc2 := 138) dX8_init_137 rfl (by decide) ?_
  refine k_iconst (pc2 := 139) dX8_init_138 rfl ?_
  refine k_bipush (pc2 := 141) dX8_init_139 rfl rfl ?_
  refine k_ast (pc2 := 142) (row := [115, 101, 0, 0]) (cs2 := (w_88 ++ [(102, [115, 101, 97, 0])])) (Or.inr ⟨dX8_init_141, rfl, rfl⟩) (by decide +kernel) rfl (by decide) rfl rfl ?_
  refine k_dup (pc2 := 143) dX8_init_142 rfl (by decide) ?_
  refine k_iconst (pc2 := 144) dX8_init_143 rfl ?_
  refine k_bipush (pc2 := 146) dX8_init_144 rfl rfl ?_
  refine k_ast (pc2 := 147) (row := [115, 101, 97, 0]) (cs2 := (w_88 ++ [(102, [115, 101, 97, 109])])) (Or.inr ⟨dX8_init_146, rfl, rfl⟩) (by decide +kernel) rfl (by decide) rfl rfl ?_
  refine k_put (pc2 := 150) (x := 68) (v := aR 68) (row := [63, 0, 0, 0, 0, 0, 0, 0, -1, 64, 0, 65, 66, 67, -1, -1, -1, -1, -1, -1, -1, -1, -1, -1, -1, -1, -1, -1, -1, -1, -1, -1, -1, -1, -1, -1, -1, -1, -1, -1, -1, 0, -1, -1, -1, -1, -1, -1, -1, -1, -1, 0, 0, 0, 0, 0, 0, 0, -1, -1, -1, -1, -1, -1, 0, -1, 0, -1, -1, -1, -1, -1, -1, -1, -1, 0, -1, -1, -1, -1, -1, -1, -1, 0, 0, 0, 0, 0, 0, -1, -1, -1, -1, -1, -1, -1, -1, -1, -1, -1, -1, -1, -1, -1, -1, -1, -1, -1, -1, -1, -1, -1, 0, -1, 0, 0, 0, -1, 0, 0, 0, -1, 0]) (cs2 := w_89) (ty := tyX8) fl_X8_30 rfl tyX8_ok nmX8 (Or.inr ⟨rfl, rfl, rfl, bw_t tt_5 35 rfl rfl⟩) (by decide +kernel) rfl (by decide +kernel) (fun _ => rfl) (fun g => pn_a (x := 68) (by decide) _ g) rfl dX8_init_147 rfl ?_
  refine k_aload (pc2 := 151) dX8_init_150 rfl rfl (by decide) ?_
  refine k_iconst (pc2 := 152) dX8_init_151 rfl ?_
  refine k_newa2 (pc2 := 154) (a := 69) (cs2 := (w_89 ++ [(102, List.replicate 5 0)])) (Or.inr (Or.inr ⟨rfl, rfl⟩)) (bw_t tt_6 151 rfl rfl) (by decide) dX8_init_152 rfl (by decide +kernel) (by decide +kernel) (by decide +kernel) rfl rfl ?_
  refine k_dup (pc2 := 155) dX8_init_154 rfl (by decide) ?_
  refine k_iconst (pc2 := 156) dX8_init_155 rfl ?_
  refine k_bipush (pc2 := 158) dX8_init_156 rfl rfl ?_
  refine k_ast (pc2 := 159) (row := List.replicate 5 0) (cs2 := (w_89 ++ [(102, [116, 0, 0, 0, 0])])) (Or.inr ⟨dX8_init_158, rfl, rfl⟩) (by decide +kernel) rfl (by decide) rfl rfl ?_
  refine k_dup (pc2 := 160) dX8_init_159 rfl (by decide) ?_
  refine k_iconst (pc2 := 161) dX8_init_160 rfl ?_
  refine k_bipush (pc2 := 163) dX8_init_161 rfl rfl ?_
  refine k_ast (pc2 := 164) (row := [116, 0, 0, 0, 0]) (cs2 := (w_89 ++ [(102, [116, 97, 0, 0, 0])])) (Or.inr ⟨dX8_init_163, rfl, rfl⟩) (by decide +kernel) rfl (by decide) rfl rfl ?_
  refine k_dup (pc2 := 165) dX8_init_164 rfl (by decide) ?_
  refine k_iconst (pc2 := 166) dX8_init_165 rfl ?_
  refine k_bipush (pc2 := 168) dX8_init_166 rfl rfl ?_
  refine k_ast (pc2 := 169) (row := [116, 97, 0, 0, 0]) (cs2 := (w_89 ++ [(102, [116, 97, 107, 0, 0])])) (Or.inr ⟨dX8_init_168, rfl, rfl⟩) (by decide +kernel) rfl (by decide) rfl rfl ?_
  refine k_dup (pc2 := 170) dX8_init_169 rfl (by decide) ?_
  refine k_iconst (pc2 := 171) dX8_init_170 rfl ?_
  refine k_bipush (pc2 := 173) dX8_init_171 rfl rfl ?_
  refine k_ast (pc2 := 174) (row := [116, 97, 107, 0, 0]) (cs2 := (w_89 ++ [(102, [116, 97, 107, 101, 0])])) (Or.inr ⟨dX8_init_173, rfl, rfl⟩) (by decide +kernel) rfl (by decide) rfl rfl ?_
  refine k_dup (pc2 := 175) dX8_init_174 rfl (by decide) ?_
  refine k_iconst (pc2 := 176) dX8_init_175 rfl ?_
  refine k_bipush (pc2 := 178) dX8_init_176 rfl rfl ?_
  refine k_ast (pc2 := 179) (row := [116, 97, 107, 101, 0]) (cs2 := (w_89 ++ [(102, [116, 97, 107, 101, 115])])) (Or.inr ⟨dX8_init_178, rfl, rfl⟩) (by decide +kernel) rfl (by decide) rfl rfl ?_
  refine k_put (pc2 := 182) (x := 69) (v := aR 69) (row := [63, 0, 0, 0, 0, 0, 0, 0, -1, 64, 0, 65, 66, 67, 68, -1, -1, -1, -1, -1, -1, -1, -1, -1, -1, -1, -1, -1, -1, -1, -1, -1, -1, -1, -1, -1, -1, -1, -1, -1, -1, 0, -1, -1, -1, -1, -1, -1, -1, -1, -1, 0, 0, 0, 0, 0, 0, 0, -1, -1, -1, -1, -1, -1, 0, -1, 0, -1, -1, -1, -1, -1, -1, -1, -1, 0, -1, -1, -1, -1, -1, -1, -1, 0, 0, 0, 0, 0, 0, -1, -1, -1, -1, -1, -1, -1, -1, -1, -1, -1, -1, -1, -1, -1, -1, -1, -1, -1, -1, -1, -1, -1, 0, -1, 0, 0, 0, -1, 0, 0, 0, -1, 0]) (cs2 := w_90) (ty := tyX8) fl_X8_33 rfl tyX8_ok nmX8 (Or.inr ⟨rfl, rfl, rfl, bw_t tt_5 36 rfl rfl⟩) (by decide +kernel) rfl (by decide +kernel) (fun _ => rfl) (fun g => pn_a (x := 69) (by decide) _ g) rfl dX8_init_179 rfl ?_
  refine k_aload (pc2 := 183) dX8_init_182 rfl rfl (by decide) ?_
  refine k_iconst (pc2 := 184) dX8_init_183 rfl ?_
  refine k_newa2 (pc2 := 186) (a := 70) (cs2 := (w_90 ++ [(102, List.replicate 5 0)])) (Or.inr (Or.inr ⟨rfl, rfl⟩)) (bw_t tt_6 151 rfl rfl) (by decide) dX8_init_184 rfl (by decide +kernel) (by decide +kernel) (by decide +kernel) rfl rfl ?_
  refine k_dup (pc2 := 187) dX8_init_186 rfl (by decide) ?_
  refine k_iconst (pc2 := 188) dX8_init_187 rfl ?_
  refine k_bipush (pc2 := 190) dX8_init_188 rfl rfl ?_
  refine k_ast (pc2 := 191) (row := List.replicate 5 0) (cs2 := (w_90 ++ [(102, [115, 0, 0, 0, 0])])) (Or.inr ⟨dX8_init_190, rfl, rfl⟩) (by decide +kernel) rfl (by decide) rfl rfl ?_
  refine k_dup (pc2 := 192) dX8_init_191 rfl (by decide) ?_
  refine k_iconst (pc2 := 193) dX8_init_192 rfl ?_
  refine k_bipush (pc2 := 195) dX8_init_193 rfl rfl ?_
  refine k_ast (pc2 := 196) (row := [115, 0, 0, 0, 0]) (cs2 := (w_90 ++ [(102, [115, 104, 0, 0, 0])])) (Or.inr ⟨dX8_init_195, rfl, rfl⟩) (by decide +kernel) rfl (by decide) rfl rfl ?_
  refine k_dup (pc2 := 197) dX8_init_196 rfl (by decide) ?_
  refine k_iconst (pc2 := 198) dX8_init_197 rfl ?_
  refine k_bipush (pc2 := 200) dX8_init_198 rfl rfl ?_
  refine k_ast (pc2 := 201) (row := [115, 104, 0, 0, 0]) (cs2 := (w_90 ++ [(102, [115, 104, 111, 0, 0])])) (Or.inr ⟨dX8_init_200, rfl, rfl⟩) (by decide +kernel) rfl (by decide) rfl rfl ?_
  refine k_dup (pc2 := 202) dX8_init_201 rfl (by decide) ?_
  refine k_iconst (pc2 := 203) dX8_init_202 rfl ?_
  refine k_bipush (pc2 := 205) dX8_init_203 rfl rfl ?_
  refine k_ast (pc2 := 206) (row := [115, 104, 111, 0, 0]) (cs2 := (w_90 ++ [(102, [115, 104, 111, 119, 0])])) (Or.inr ⟨dX8_init_205, rfl, rfl⟩) (by decide +kernel) rfl (by decide) rfl rfl ?_
  refine k_dup (pc2 := 207) dX8_init_206 rfl (by decide) ?_
  refine k_iconst (pc2 := 208) dX8_init_207 rfl ?_
  refine k_bipush (pc2 := 210) dX8_init_208 rfl rfl ?_
  refine k_ast (pc2 := 211) (row := [115, 104, 111, 119, 0]) (cs2 := (w_90 ++ [(102, [115, 104, 111, 119, 110])])) (Or.inr ⟨dX8_init_210, rfl, rfl⟩) (by decide +kernel) rfl (by decide) rfl rfl ?_
  refine k_put (pc2 := 214) (x := 70) (v := aR 70) (row := [63, 0, 0, 0, 0, 0, 0, 0, -1, 64, 0, 65, 66, 67, 68, 69, -1, -1, -1, -1, -1, -1, -1, -1, -1, -1, -1, -1, -1, -1, -1, -1, -1, -1, -1, -1, -1, -1, -1, -1, -1, 0, -1, -1, -1, -1, -1, -1, -1, -1, -1, 0, 0, 0, 0, 0, 0, 0, -1, -1, -1, -1, -1, -1, 0, -1, 0, -1, -1, -1, -1, -1, -1, -1, -1, 0, -1, -1, -1, -1, -1, -1, -1, 0, 0, 0, 0, 0, 0, -1, -1, -1, -1, -1, -1, -1, -1, -1, -1, -1, -1, -1, -1, -1, -1, -1, -1, -1, -1, -1, -1, -1, 0, -1, 0, 0, 0, -1, 0, 0, 0, -1, 0]) (cs2 := w_91) (ty := tyX8) fl_X8_36 rfl tyX8_ok nmX8 (Or.inr ⟨rfl, rfl, rfl, bw_t tt_5 37 rfl rfl⟩) (by decide +kernel) rfl (by decide +kernel) (fun _ => rfl) (fun g => pn_a (x := 70) (by decide) _ g) rfl dX8_init_211 rfl ?_
  refine k_aload (pc2 := 215) dX8_init_214 rfl rfl (by decide) ?_
  refine k_iconst (pc2 := 216) dX8_init_215 rfl ?_
  refine k_newa2 (pc2 := 218) (a := 71) (cs2 := (w_91 ++ [(102, List.replicate 4 0)])) (Or.inr (Or.inr ⟨rfl, rfl⟩)) (bw_t tt_6 151 rfl rfl) (by decide) dX8_init_216 rfl (by decide +kernel) (by decide +kernel) (by decide +kernel) rfl rfl ?_
  refine k_dup (pc2 := 219) dX8_init_218 rfl (by decide) ?_
  refine k_iconst (pc2 := 220) dX8_init_219 rfl ?_
  refine k_bipush (pc2 := 222) dX8_init_220 rfl rfl ?_
  refine k_ast (pc2 := 223) (row := List.replicate 4 0) (cs2 := (w_91 ++ [(102, [97, 0, 0, 0])])) (Or.inr ⟨dX8_init_222, rfl, rfl⟩) (by decide +kernel) rfl (by decide) rfl rfl ?_
  refine k_dup (pc2 := 224) dX8_init_223 rfl (by decide) ?_
  refine k_iconst (pc2 := 225) dX8_init_224 rfl ?_
  refine k_bipush (pc2 := 227) dX8_init_225 rfl rfl ?_
  refine k_ast (pc2 := 228) (row := [97, 0, 0, 0]) (cs2 := (w_91 ++ [(102, [97, 110, 0, 0])])) (Or.inr ⟨dX8_init_227, rfl, rfl⟩) (by decide +kernel) rfl (by decide) rfl rfl ?_
  refine k_dup (pc2 := 229) dX8_init_228 rfl (by decide) ?_
  refine k_iconst (pc2 := 230) dX8_init_229 rfl ?_
  refine k_bipush (pc2 := 232) dX8_init_230 rfl rfl ?_
  refine k_ast (pc2 := 233) (row := [97, 110, 0, 0]) (cs2 := (w_91 ++ [(102, [97, 110, 101, 0])])) (Or.inr ⟨dX8_init_232, rfl, rfl⟩) (by decide +kernel) rfl (by decide) rfl rfl ?_
  refine k_dup (pc2 := 234) dX8_init_233 rfl (by decide) ?_
  refine k_iconst (pc2 := 235) dX8_init_234 rfl ?_
  refine k_bipush (pc2 := 237) dX8_init_235 rfl rfl ?_
  refine k_ast (pc2 := 238) (row := [97, 110, 101, 0]) (cs2 := (w_91 ++ [(102, [97, 110, 101, 119])])) (Or.inr ⟨dX8_init_237, rfl, rfl⟩) (by decide +kernel) rfl (by decide) rfl rfl ?_
  refine k_put (pc2 := 241) (x := 71) (v := aR 71) (row := [63, 0, 0, 0, 0, 0, 0, 0, -1, 64, 0, 65, 66, 67, 68, 69, 70, -1, -1, -1, -1, -1, -1, -1, -1, -1, -1, -1, -1, -1, -1, -1, -1, -1, -1, -1, -1, -1, -1, -1, -1, 0, -1, -1, -1, -1, -1, -1, -1, -1, -1, 0, 0, 0, 0, 0, 0, 0, -1, -1, -1, -1, -1, -1, 0, -1, 0, -1, -1, -1, -1, -1, -1, -1, -1, 0, -1, -1, -1, -1, -1, -1, -1, 0, 0, 0, 0, 0, 0, -1, -1, -1, -1, -1, -1, -1, -1, -1, -1, -1, -1, -1, -1, -1, -1, -1, -1, -1, -1, -1, -1, -1, 0, -1, 0, 0, 0, -1, 0, 0, 0, -1, 0]) (cs2 := w_92) (ty := tyX8) fl_X8_39 rfl tyX8_ok nmX8 (Or.inr ⟨rfl, rfl, rfl, bw_t tt_5 38 rfl rfl⟩) (by decide +kernel) rfl (by decide +kernel) (fun _ => rfl) (fun g => pn_a (x := 71) (by decide) _ g) rfl dX8_init_238 rfl ?_
  refine k_aload (pc2 := 242) dX8_init_241 rfl rfl (by decide) ?_
  refine k_iconst (pc2 := 243) dX8_init_242 rfl ?_
  refine k_newa2 (pc2 := 245) (a := 72) (cs2 := (w_92 ++ [(102, List.replicate 4 0)])) (Or.inr (Or.inr ⟨rfl, rfl⟩)) (bw_t tt_6 151 rfl rfl) (by decide) dX8_init_243 rfl (by decide +kernel) (by decide +kernel) (by decide +kernel) rfl rfl ?_
  refine k_dup (pc2 := 246) dX8_init_245 rfl (by decide) ?_
  refine k_iconst (pc2 := 247) dX8_init_246 rfl ?_
  refine k_bipush (pc2 := 249) dX8_init_247 rfl rfl ?_
  refine k_ast (pc2 := 250) (row := List.replicate 4 0) (cs2 := (w_92 ++ [(102, [114, 0, 0, 0])])) (Or.inr ⟨dX8_init_249, rfl, rfl⟩) (by decide +kernel) rfl (by decide) rfl rfl ?_
  refine k_dup (pc2 := 251) dX8_init_250 rfl (by decide) ?_
  refine k_iconst (pc2 := 252) dX8_init_251 rfl ?_
  refine k_bipush (pc2 := 254) dX8_init_252 rfl rfl ?_
  refine k_ast (pc2 := 255) (row := [114, 0, 0, 0]) (cs2 := (w_92 ++ [(102, [114, 117, 0, 0])])) (Or.inr ⟨dX8_init_254, rfl, rfl⟩) (by decide +kernel) rfl (by decide) rfl rfl ?_
  refine k_dup (pc2 := 256) dX8_init_255 rfl (by decide) ?_
  refine k_iconst (pc2 := 257) dX8_init_256 rfl ?_
  refine k_bipush (pc2 := 259) dX8_init_257 rfl rfl ?_
  refine k_ast (pc2 := 260) (row := [114, 117, 0, 0]) (cs2 := (w_92 ++ [(102, [114, 117, 108, 0])])) (Or.inr ⟨dX8_init_259, rfl, rfl⟩) (by decide +kernel) rfl (by decide) rfl rfl ?_
  refine k_dup (pc2 := 261) dX8_init_260 rfl (by decide) ?_
  refine k_iconst (pc2 := 262) dX8_init_261 rfl ?_
  refine k_bipush (pc2 := 264) dX8_init_262 rfl rfl ?_
  refine k_ast (pc2 := 265) (row := [114, 117, 108, 0]) (cs2 := (w_92 ++ [(102, [114, 117, 108, 101])])) (Or.inr ⟨dX8_init_264, rfl, rfl⟩) (by decide +kernel) rfl (by decide) rfl rfl ?_
  refine k_put (pc2 := 268) (x := 72) (v := aR 72) (row := [63, 0, 0, 0, 0, 0, 0, 0, -1, 64, 0, 65, 66, 67, 68, 69, 70, 71, -1, -1, -1, -1, -1, -1, -1, -1, -1, -1, -1, -1, -1, -1, -1, -1, -1, -1, -1, -1, -1, -1, -1, 0, -1, -1, -1, -1, -1, -1, -1, -1, -1, 0, 0, 0, 0, 0, 0, 0, -1, -1, -1, -1, -1, -1, 0, -1, 0, -1, -1, -1, -1, -1, -1, -1, -1, 0, -1, -1, -1, -1, -1, -1, -1, 0, 0, 0, 0, 0, 0, -1, -1, -1, -1, -1, -1, -1, -1, -1, -1, -1, -1, -1, -1, -1, -1, -1, -1, -1, -1, -1, -1, -1, 0, -1, 0, 0, 0, -1, 0, 0, 0, -1, 0]) (cs2 := w_93) (ty := tyX8) fl_X8_42 rfl tyX8_ok nmX8 (Or.inr ⟨rfl, rfl, rfl, bw_t tt_5 39 rfl rfl⟩) (by decide +kernel) rfl (by decide +kernel) (fun _ => rfl) (fun g => pn_a (x := 72) (by decide) _ g) rfl dX8_init_265 rfl ?_
  refine k_aload (pc2 := 269) dX8_init_268 rfl rfl (by decide) ?_
  refine k_iconst (pc2 := 270) dX8_init_269 rfl ?_
  refine k_newa2 (pc2 := 272) (a := 73) (cs2 := (w_93 ++ [(102, List.replicate 4 0)])) (Or.inr (Or.inr ⟨rfl, rfl⟩)) (bw_t tt_6 151 rfl rfl) (by decide) dX8_init_270 rfl (by decide +kernel) (by decide +kernel) (by decide +kernel) rfl rfl ?_
  refine k_dup (pc2 := 273) dX8_init_272 rfl (by decide) ?_
  refine k_iconst (pc2 := 274) dX8_init_273 rfl ?_
  refine k_bipush (pc2 := 276) dX8_init_274 rfl rfl ?_
  refine k_ast (pc2 := 277) (row := List.replicate 4 0) (cs2 := (w_93 ++ [(102, [119, 0, 0, 0])])) (Or.inr ⟨dX8_init_276, rfl, rfl⟩) (by decide +kernel) rfl (by decide) rfl rfl ?_
  refine k_dup (pc2 := 278) dX8_init_277 rfl (by decide) ?_
  refine k_iconst (pc2 := 279) dX8_init_278 rfl ?_
  refine k_bipush (pc2 := 281) dX8_init_279 rfl rfl ?_
  refine k_ast (pc2 := 282) (row := [119, 0, 0, 0]) (cs2 := (w_93 ++ [(102, [119, 104, 0, 0])])) (Or.inr ⟨dX8_init_281, rfl, rfl⟩) (by decide +kernel) rfl (by decide) rfl rfl ?_
  refine k_dup (pc2 := 283) dX8_init_282 rfl (by decide) ?_
  refine k_iconst (pc2 := 284) dX8_init_283 rfl ?_
  refine k_bipush (pc2 := 286) dX8_init_284 rfl rfl ?_
  refine k_ast (pc2 := 287) (row := [119, 104, 0, 0]) (cs2 := (w_93 ++ [(102, [119, 104, 101, 0])])) (Or.inr ⟨dX8_init_286, rfl, rfl⟩) (by decide +kernel) rfl (by decide) rfl rfl ?_
  refine k_dup (pc2 := 288) dX8_init_287 rfl (by decide) ?_
  refine k_iconst (pc2 := 289) dX8_init_288 rfl ?_
  refine k_bipush (pc2 := 291) dX8_init_289 rfl rfl ?_
  refine k_ast (pc2 := 292) (row := [119, 104, 101, 0]) (cs2 := (w_93 ++ [(102, [119, 104, 101, 110])])) (Or.inr ⟨dX8_init_291, rfl, rfl⟩) (by decide +kernel) rfl (by decide) rfl rfl ?_
  refine k_put (pc2 := 295) (x := 73) (v := aR 73) (row := [63, 0, 0, 0, 0, 0, 0, 0, -1, 64, 0, 65, 66, 67, 68, 69, 70, 71, 72, -1, -1, -1, -1, -1, -1, -1, -1, -1, -1, -1, -1, -1, -1, -1, -1, -1, -1, -1, -1, -1, -1, 0, -1, -1, -1, -1, -1, -1, -1, -1, -1, 0, 0, 0, 0, 0, 0, 0, -1, -1, -1, -1, -1, -1, 0, -1, 0, -1, -1, -1, -1, -1, -1, -1, -1, 0, -1, -1, -1, -1, -1, -1, -1, 0, 0, 0, 0, 0, 0, -1, -1, -1, -1, -1, -1, -1, -1, -1, -1, -1, -1, -1, -1, -1, -1, -1, -1, -1, -1, -1, -1, -1, 0, -1, 0, 0, 0, -1, 0, 0, 0, -1, 0]) (cs2 := w_94) (ty := tyX8) fl_X8_45 rfl tyX8_ok nmX8 (Or.inr ⟨rfl, rfl, rfl, bw_t tt_5 40 rfl rfl⟩) (by decide +kernel) rfl (by decide +kernel) (fun _ => rfl) (fun g => pn_a (x := 73) (by decide) _ g) rfl dX8_init_292 rfl ?_
  refine k_aload (pc2 := 296) dX8_init_295 rfl rfl (by decide) ?_
  refine k_iconst (pc2 := 297) dX8_init_296 rfl ?_
  refine k_newa2 (pc2 := 299) (a := 74) (cs2 := (w_94 ++ [(102, List.replicate 4 0)])) (Or.inr (Or.inr ⟨rfl, rfl⟩)) (bw_t tt_6 151 rfl rfl) (by decide) dX8_init_297 rfl (by decide +kernel) (by decide +kernel) (by decide +kernel) rfl rfl ?_
  refine k_dup (pc2 := 300) dX8_init_299 rfl (by decide) ?_
  refine k_iconst (pc2 := 301) dX8_init_300 rfl ?_
  refine k_bipush (pc2 := 303) dX8_init_301 rfl rfl ?_
  refine k_ast (pc2 := 304) (row := List.replicate 4 0) (cs2 := (w_94 ++ [(102, [119, 0, 0, 0])])) (Or.inr ⟨dX8_init_303, rfl, rfl⟩) (by decide +kernel) rfl (by decide) rfl rfl ?_
  refine k_dup (pc2 := 305) dX8_init_304 rfl (by decide) ?_
  refine k_iconst (pc2 := 306) dX8_init_305 rfl ?_
  refine k_bipush (pc2 := 308) dX8_init_306 rfl rfl ?_
  refine k_ast (pc2 := 309) (row := [119, 0, 0, 0]) (cs2 := (w_94 ++ [(102, [119, 105, 0, 0])])) (Or.inr ⟨dX8_init_308, rfl, rfl⟩) (by decide +kernel) rfl (by decide) rfl rfl ?_
  refine k_dup (pc2 := 310) dX8_init_309 rfl (by decide) ?_
  refine k_iconst (pc2 := 311) dX8_init_310 rfl ?_
  refine k_bipush (pc2 := 313) dX8_init_311 rfl rfl ?_
  refine k_ast (pc2 := 314) (row := [119, 105, 0, 0]) (cs2 := (w_94 ++ [(102, [119, 105, 110, 0])])) (Or.inr ⟨dX8_init_313, rfl, rfl⟩) (by decide +kernel) rfl (by decide) rfl rfl ?_
  refine k_dup (pc2 := 315) dX8_init_314 rfl (by decide) ?_
  refine k_iconst (pc2 := 316) dX8_init_315 rfl ?_
  refine k_bipush (pc2 := 318) dX8_init_316 rfl rfl ?_
  refine k_ast (pc2 := 319) (row := [119, 105, 110, 0]) (cs2 := (w_94 ++ [(102, [119, 105, 110, 100])])) (Or.inr ⟨dX8_init_318, rfl, rfl⟩) (by decide +kernel) rfl (by decide) rfl rfl ?_
  refine k_put (pc2 := 322) (x := 74) (v := aR 74) (row := [63, 0, 0, 0, 0, 0, 0, 0, -1, 64, 0, 65, 66, 67, 68, 69, 70, 71, 72, 73, -1, -1, -1, -1, -1, -1, -1, -1, -1, -1, -1, -1, -1, -1, -1, -1, -1, -1, -1, -1, -1, 0, -1, -1, -1, -1, -1, -1, -1, -1, -1, 0, 0, 0, 0, 0, 0, 0, -1, -1, -1, -1, -1, -1, 0, -1, 0, -1, -1, -1, -1, -1, -1, -1, -1, 0, -1, -1, -1, -1, -1, -1, -1, 0, 0, 0, 0, 0, 0, -1, -1, -1, -1, -1, -1, -1, -1, -1, -1, -1, -1, -1, -1, -1, -1, -1, -1, -1, -1, -1, -1, -1, 0, -1, 0, 0, 0, -1, 0, 0, 0, -1, 0]) (cs2 := w_95) (ty := tyX8) fl_X8_48 rfl tyX8_ok nmX8 (Or.inr ⟨rfl, rfl, rfl, bw_t tt_5 41 rfl rfl⟩) (by decide +kernel) rfl (by decide +kernel) (fun _ => rfl) (fun g => pn_a (x := 74) (by decide) _ g) rfl dX8_init_319 rfl ?_
  refine k_aload (pc2 := 323) dX8_init_322 rfl rfl (by decide) ?_
  refine k_iconst (pc2 := 324) dX8_init_323 rfl ?_
  refine k_newa2 (pc2 := 326) (a := 75) (cs2 := (w_95 ++ [(102, List.replicate 4 0)])) (Or.inr (Or.inr ⟨rfl, rfl⟩)) (bw_t tt_6 151 rfl rfl) (by decide) dX8_init_324 rfl (by decide +kernel) (by decide +kernel) (by decide +kernel) rfl rfl ?_
  refine k_dup (pc2 := 327) dX8_init_326 rfl (by decide) ?_
  refine k_iconst (pc2 := 328) dX8_init_327 rfl ?_
  refine k_bipush (pc2 := 330) dX8_init_328 rfl rfl ?_
  refine k_ast (pc2 := 331) (row := List.replicate 4 0) (cs2 := (w_95 ++ [(102, [109, 0, 0, 0])])) (Or.inr ⟨dX8_init_330, rfl, rfl⟩) (by decide +kernel) rfl (by decide) rfl rfl ?_
  refine k_dup (pc2 := 332) dX8_init_331 rfl (by decide) ?_
  refine k_iconst (pc2 := 333) dX8_init_332 rfl ?_
  refine k_bipush (pc2 := 335) dX8_init_333 rfl rfl ?_
  refine k_ast (pc2 := 336) (row := [109, 0, 0, 0]) (cs2 := (w_95 ++ [(102, [109, 101, 0, 0])])) (Or.inr ⟨dX8_init_335, rfl, rfl⟩) (by decide +kernel) rfl (by decide) rfl rfl ?_
  refine k_dup (pc2 := 337) dX8_init_336 rfl (by decide) ?_
  refine k_iconst (pc2 := 338) dX8_init_337 rfl ?_
  refine k_bipush (pc2 := 340) dX8_init_338 rfl rfl ?_
  refine k_ast (pc2 := 341) (row := [109, 101, 0, 0]) (cs2 := (w_95 ++ [(102, [109, 101, 110, 0])])) (Or.inr ⟨dX8_init_340, rfl, rfl⟩) (by decide +kernel) rfl (by decide) rfl rfl ?_
  refine k_dup (pc2 := 342) dX8_init_341 rfl (by decide) ?_
  refine k_iconst (pc2 := 343) dX8_init_342 rfl ?_
  refine k_bipush (pc2 := 345) dX8_init_343 rfl rfl ?_
  refine k_ast (pc2 := 346) (row := [109, 101, 110, 0]) (cs2 := (w_95 ++ [(102, [109, 101, 110, 100])])) (Or.inr ⟨dX8_init_345, rfl, rfl⟩) (by decide +kernel) rfl (by decide) rfl rfl ?_
  refine k_put (pc2 := 349) (x := 75) (v := aR 75) (row := [63, 0, 0, 0, 0, 0, 0, 0, -1, 64, 0, 65, 66, 67, 68, 69, 70, 71, 72, 73, 74, -1, -1, -1, -1, -1, -1, -1, -1, -1, -1, -1, -1, -1, -1, -1, -1, -1, -1, -1, -1, 0, -1, -1, -1, -1, -1, -1, -1, -1, -1, 0, 0, 0, 0, 0, 0, 0, -1, -1, -1, -1, -1, -1, 0, -1, 0, -1, -1, -1, -1, -1, -1, -1, -1, 0, -1, -1, -1, -1, -1, -1, -1, 0, 0, 0, 0, 0, 0, -1, -1, -1, -1, -1, -1, -1, -1, -1, -1, -1, -1, -1, -1, -1, -1, -1, -1, -1, -1, -1, -1, -1, 0, -1, 0, 0, 0, -1, 0, 0, 0, -1, 0]) (cs2 := w_96) (ty := tyX8) fl_X8_51 rfl tyX8_ok nmX8 (Or.inr ⟨rfl, rfl, rfl, bw_t tt_5 42 rfl rfl⟩) (by decide +kernel) rfl (by decide +kernel) (fun _ => rfl) (fun g => pn_a (x := 75) (by decide) _ g) rfl dX8_init_346 rfl ?_
  refine k_aload (pc2 := 350) dX8_init_349 rfl rfl (by decide) ?_
  refine k_iconst (pc2 := 351) dX8_init_350 rfl ?_
  refine k_newa2 (pc2 := 353) (a := 76) (cs2 := (w_96 ++ [(102, List.replicate 4 0)])) (Or.inr (Or.inr ⟨rfl, rfl⟩)) (bw_t tt_6 151 rfl rfl) (by decide) dX8_init_351 rfl (by decide +kernel) (by decide +kernel) (by decide +kernel) rfl rfl ?_
  refine k_dup (pc2 := 354) dX8_init_353 rfl (by decide) ?_
  refine k_iconst (pc2 := 355) dX8_init_354 rfl ?_
  refine k_bipush (pc2 := 357) dX8_init_355 rfl rfl ?_
  refine k_ast (pc2 := 358) (row := List.replicate 4 0) (cs2 := (w_96 ++ [(102, [108, 0, 0, 0])])) (Or.inr ⟨dX8_init_357, rfl, rfl⟩) (by decide +kernel) rfl (by decide) rfl rfl ?_
  refine k_dup (pc2 := 359) dX8_init_358 rfl (by decide) ?_
  refine k_iconst (pc2 := 360) dX8_init_359 rfl ?_
  refine k_bipush (pc2 := 362) dX8_init_360 rfl rfl ?_
  refine k_ast (pc2 := 363) (row := [108, 0, 0, 0]) (cs2 := (w_96 ++ [(102, [108, 111, 0, 0])])) (Or.inr ⟨dX8_init_362, rfl, rfl⟩) (by decide +kernel) rfl (by decide) rfl rfl ?_
  refine k_dup (pc2 := 364) dX8_init_363 rfl (by decide) ?_
  refine k_iconst (pc2 := 365) dX8_init_364 rfl ?_
  refine k_bipush (pc2 := 367) dX8_init_365 rfl rfl ?_
  refine k_ast (pc2 := 368) (row := [108, 111, 0, 0]) (cs2 := (w_96 ++ [(102, [108, 111, 111, 0])])) (Or.inr ⟨dX8_init_367, rfl, rfl⟩) (by decide +kernel) rfl (by decide) rfl rfl ?_
  refine k_dup (pc2 := 369) dX8_init_368 rfl (by decide) ?_
  refine k_iconst (pc2 := 370) dX8_init_369 rfl ?_
  refine k_bipush (pc2 := 372) dX8_init_370 rfl rfl ?_
  refine k_ast (pc2 := 373) (row := [108, 111, 111, 0]) (cs2 := (w_96 ++ [(102, [108, 111, 111, 107])])) (Or.inr ⟨dX8_init_372, rfl, rfl⟩) (by decide +kernel) rfl (by decide) rfl rfl ?_
  refine k_put (pc2 := 376) (x := 76) (v := aR 76) (row := [63, 0, 0, 0, 0, 0, 0, 0, -1, 64, 0, 65, 66, 67, 68, 69, 70, 71, 72, 73, 74, 75, -1, -1, -1, -1, -1, -1, -1, -1, -1, -1, -1, -1, -1, -1, -1, -1, -1, -1, -1, 0, -1, -1, -1, -1, -1, -1, -1, -1, -1, 0, 0, 0, 0, 0, 0, 0, -1, -1, -1, -1, -1, -1, 0, -1, 0, -1, -1, -1, -1, -1, -1, -1, -1, 0, -1, -1, -1, -1, -1, -1, -1, 0, 0, 0, 0, 0, 0, -1, -1, -1, -1, -1, -1, -1, -1, -1, -1, -1, -1, -1, -1, -1, -1, -1, -1, -1, -1, -1, -1, -1, 0, -1, 0, 0, 0, -1, 0, 0, 0, -1, 0]) (cs2 := w_97) (ty := tyX8) fl_X8_54 rfl tyX8_ok nmX8 (Or.inr ⟨rfl, rfl, rfl, bw_t tt_5 43 rfl rfl⟩) (by decide +kernel) rfl (by decide +kernel) (fun _ => rfl) (fun g => pn_a (x := 76) (by decide) _ g) rfl dX8_init_373 rfl ?_
  refine k_aload (pc2 := 377) dX8_init_376 rfl rfl (by decide) ?_
  refine k_iconst (pc2 := 378) dX8_init_377 rfl ?_
  refine k_newa2 (pc2 := 380) (a := 77) (cs2 := (w_97 ++ [(102, List.replicate 5 0)])) (Or.inr (Or.inr ⟨rfl, rfl⟩)) (bw_t tt_6 151 rfl rfl) (by decide) dX8_init_378 rfl (by decide +kernel) (by decide +kernel) (by decide +kernel) rfl rfl ?_
  refine k_dup (pc2 := 381) dX8_init_380 rfl (by decide) ?_
  refine k_iconst (pc2 := 382) dX8_init_381 rfl ?_
  refine k_bipush (pc2 := 384) dX8_init_382 rfl rfl ?_
  refine k_ast (pc2 := 385) (row := List.replicate 5 0) (cs2 := (w_97 ++ [(102, [98, 0, 0, 0, 0])])) (Or.inr ⟨dX8_init_384, rfl, rfl⟩) (by decide +kernel) rfl (by decide) rfl rfl ?_
  refine k_dup (pc2 := 386) dX8_init_385 rfl (by decide) ?_
  refine k_iconst (pc2 := 387) dX8_init_386 rfl ?_
  refine k_bipush (pc2 := 389) dX8_init_387 rfl rfl ?_
  refine k_ast (pc2 := 390) (row := [98, 0, 0, 0, 0]) (cs2 := (w_97 ++ [(102, [98, 97, 0, 0, 0])])) (Or.inr ⟨dX8_init_389, rfl, rfl⟩) (by decide +kernel) rfl (by decide) rfl rfl ?_
  refine k_dup (pc2 := 391) dX8_init_390 rfl (by decide) ?_
  refine k_iconst (pc2 := 392) dX8_init_391 rfl ?_
  refine k_bipush (pc2 := 394) dX8_init_392 rfl rfl ?_
  refine k_ast (pc2 := 395) (row := [98, 97, 0, 0, 0]) (cs2 := (w_97 ++ [(102, [98, 97, 116, 0, 0])])) (Or.inr ⟨dX8_init_394, rfl, rfl⟩) (by decide +kernel) rfl (by decide) rfl rfl ?_
  refine k_dup (pc2 := 396) dX8_init_395 rfl (by decide) ?_
  refine k_iconst (pc2 := 397) dX8_init_396 rfl ?_
  refine k_bipush (pc2 := 399) dX8_init_397 rfl rfl ?_
  refine k_ast (pc2 := 400) (row := [98, 97, 116, 0, 0]) (cs2 := (w_97 ++ [(102, [98, 97, 116, 99, 0])])) (Or.inr ⟨dX8_init_399, rfl, rfl⟩) (by decide +kernel) rfl (by decide) rfl rfl ?_
  refine k_dup (pc2 := 401) dX8_init_400 rfl (by decide) ?_
  refine k_iconst (pc2 := 402) dX8_init_401 rfl ?_
  refine k_bipush (pc2 := 404) dX8_init_402 rfl rfl ?_
  refine k_ast (pc2 := 405) (row := [98, 97, 116, 99, 0]) (cs2 := (w_97 ++ [(102, [98, 97, 116, 99, 104])])) (Or.inr ⟨dX8_init_404, rfl, rfl⟩) (by decide +kernel) rfl (by decide) rfl rfl ?_
  refine k_put (pc2 := 408) (x := 77) (v := aR 77) (row := [63, 0, 0, 0, 0, 0, 0, 0, -1, 64, 0, 65, 66, 67, 68, 69, 70, 71, 72, 73, 74, 75, 76, -1, -1, -1, -1, -1, -1, -1, -1, -1, -1, -1, -1, -1, -1, -1, -1, -1, -1, 0, -1, -1, -1, -1, -1, -1, -1, -1, -1, 0, 0, 0, 0, 0, 0, 0, -1, -1, -1, -1, -1, -1, 0, -1, 0, -1, -1, -1, -1, -1, -1, -1, -1, 0, -1, -1, -1, -1, -1, -1, -1, 0, 0, 0, 0, 0, 0, -1, -1, -1, -1, -1, -1, -1, -1, -1, -1, -1, -1, -1, -1, -1, -1, -1, -1, -1, -1, -1, -1, -1, 0, -1, 0, 0, 0, -1, 0, 0, 0, -1, 0]) (cs2 := w_98) (ty := tyX8) fl_X8_57 rfl tyX8_ok nmX8 (Or.inr ⟨rfl, rfl, rfl, bw_t tt_5 44 rfl rfl⟩) (by decide +kernel) rfl (by decide +kernel) (fun _ => rfl) (fun g => pn_a (x := 77) (by decide) _ g) rfl dX8_init_405 rfl ?_
  refine k_aload (pc2 := 409) dX8_init_408 rfl rfl (by decide) ?_
  refine k_iconst (pc2 := 410) dX8_init_409 rfl ?_
  refine k_newa2 (pc2 := 412) (a := 78) (cs2 := (w_98 ++ [(102, List.replicate 5 0)])) (Or.inr (Or.inr ⟨rfl, rfl⟩)) (bw_t tt_6 151 rfl rfl) (by decide) dX8_init_410 rfl (by decide +kernel) (by decide +kernel) (by decide +kernel) rfl rfl ?_
  refine k_dup (pc2 := 413) dX8_init_412 rfl (by decide) ?_
  refine k_iconst (pc2 := 414) dX8_init_413 rfl ?_
  refine k_bipush (pc2 := 416) dX8_init_414 rfl rfl ?_
  refine k_ast (pc2 := 417) (row := List.replicate 5 0) (cs2 := (w_98 ++ [(102, [97, 0, 0, 0, 0])])) (Or.inr ⟨dX8_init_416, rfl, rfl⟩) (by decide +kernel) rfl (by decide) rfl rfl ?_
  refine k_dup (pc2 := 418) dX8_init_417 rfl (by decide) ?_
  refine k_iconst (pc2 := 419) dX8_init_418 rfl ?_
  refine k_bipush (pc2 := 421) dX8_init_419 rfl rfl ?_
  refine k_ast (pc2 := 422) (row := [97, 0, 0, 0, 0]) (cs2 := (w_98 ++ [(102, [97, 104, 0, 0, 0])])) (Or.inr ⟨dX8_init_421, rfl, rfl⟩) (by decide +kernel) rfl (by decide) rfl rfl ?_
  refine k_dup (pc2 := 423) dX8_init_422 rfl (by decide) ?_
  refine k_iconst (pc2 := 424) dX8_init_423 rfl ?_
  refine k_bipush (pc2 := 426) dX8_init_424 rfl rfl ?_
  refine k_ast (pc2 := 427) (row := [97, 104, 0, 0, 0]) (cs2 := (w_98 ++ [(102, [97, 104, 101, 0, 0])])) (Or.inr ⟨dX8_init_426, rfl, rfl⟩) (by decide +kernel) rfl (by decide) rfl rfl ?_
  refine k_dup (pc2 := 428) dX8_init_427 rfl (by decide) ?_
  refine k_iconst (pc2 := 429) dX8_init_428 rfl ?_
  refine k_bipush (pc2 := 431) dX8_init_429 rfl rfl ?_
  refine k_ast (pc2 := 432) (row := [97, 104, 101, 0, 0]) (cs2 := (w_98 ++ [(102, [97, 104, 101, 97, 0])])) (Or.inr ⟨dX8_init_431, rfl, rfl⟩) (by decide +kernel) rfl (by decide) rfl rfl ?_
  refine k_dup (pc2 := 433) dX8_init_432 rfl (by decide) ?_
  refine k_iconst (pc2 := 434) dX8_init_433 rfl ?_
  refine k_bipush (pc2 := 436) dX8_init_434 rfl rfl ?_
  refine k_ast (pc2 := 437) (row := [97, 104, 101, 97, 0]) (cs2 := (w_98 ++ [(102, [97, 104, 101, 97, 100])])) (Or.inr ⟨dX8_init_436, rfl, rfl⟩) (by decide +kernel) rfl (by decide) rfl rfl ?_
  refine k_put (pc2 := 440) (x := 78) (v := aR 78) (row := [63, 0, 0, 0, 0, 0, 0, 0, -1, 64, 0, 65, 66, 67, 68, 69, 70, 71, 72, 73, 74, 75, 76, 77, -1, -1, -1, -1, -1, -1, -1, -1, -1, -1, -1, -1, -1, -1, -1, -1, -1, 0, -1, -1, -1, -1, -1, -1, -1, -1, -1, 0, 0, 0, 0, 0, 0, 0, -1, -1, -1, -1, -1, -1, 0, -1, 0, -1, -1, -1, -1, -1, -1, -1, -1, 0, -1, -1, -1, -1, -1, -1, -1, 0, 0, 0, 0, 0, 0, -1, -1, -1, -1, -1, -1, -1, -1, -1, -1, -1, -1, -1, -1, -1, -1, -1, -1, -1, -1, -1, -1, -1, 0, -1, 0, 0, 0, -1, 0, 0, 0, -1, 0]) (cs2 := w_99) (ty := tyX8) fl_X8_60 rfl tyX8_ok nmX8 (Or.inr ⟨rfl, rfl, rfl, bw_t tt_5 45 rfl rfl⟩) (by decide +kernel) rfl (by decide +kernel) (fun _ => rfl) (fun g => pn_a (x := 78) (by decide) _ g) rfl dX8_init_437 rfl ?_
  refine k_aload (pc2 := 441) dX8_init_440 rfl rfl (by decide) ?_
  refine k_iconst (pc2 := 442) dX8_init_441 rfl ?_
  refine k_newa2 (pc2 := 444) (a := 79) (cs2 := (w_99 ++ [(102, List.replicate 5 0)])) (Or.inr (Or.inr ⟨rfl, rfl⟩)) (bw_t tt_6 151 rfl rfl) (by decide) dX8_init_442 rfl (by decide +kernel) (by decide +kernel) (by decide +kernel) rfl rfl ?_
  refine k_dup (pc2 := 445) dX8_init_444 rfl (by decide) ?_
  refine k_iconst (pc2 := 446) dX8_init_445 rfl ?_
  refine k_bipush (pc2 := 448) dX8_init_446 rfl rfl ?_
  refine k_ast (pc2 := 449) (row := List.replicate 5 0) (cs2 := (w_99 ++ [(102, [103, 0, 0, 0, 0])])) (Or.inr ⟨dX8_init_448, rfl, rfl⟩) (by decide +kernel) rfl (by decide) rfl rfl ?_
  refine k_dup (pc2 := 450) dX8_init_449 rfl (by decide) ?_
  refine k_iconst (pc2 := 451) dX8_init_450 rfl ?_
  refine k_bipush (pc2 := 453) dX8_init_451 rfl rfl ?_
  refine k_ast (pc2 := 454) (row := [103, 0, 0, 0, 0]) (cs2 := (w_99 ++ [(102, [103, 105, 0, 0, 0])])) (Or.inr ⟨dX8_init_453, rfl, rfl⟩) (by decide +kernel) rfl (by decide) rfl rfl ?_
  refine k_dup (pc2 := 455) dX8_init_454 rfl (by decide) ?_
  refine k_iconst (pc2 := 456) dX8_init_455 rfl ?_
  refine k_bipush (pc2 := 458) dX8_init_456 rfl rfl ?_
  refine k_ast (pc2 := 459) (row := [103, 105, 0, 0, 0]) (cs2 := (w_99 ++ [(102, [103, 105, 114, 0, 0])])) (Or.inr ⟨dX8_init_458, rfl, rfl⟩) (by decide +kernel) rfl (by decide) rfl rfl ?_
  refine k_dup (pc2 := 460) dX8_init_459 rfl (by decide) ?_
  refine k_iconst (pc2 := 461) dX8_init_460 rfl ?_
  refine k_bipush (pc2 := 463) dX8_init_461 rfl rfl ?_
  refine k_ast (pc2 := 464) (row := [103, 105, 114, 0, 0]) (cs2 := (w_99 ++ [(102, [103, 105, 114, 108, 0])])) (Or.inr ⟨dX8_init_463, rfl, rfl⟩) (by decide +kernel) rfl (by decide) rfl rfl ?_
  refine k_dup (pc2 := 465) dX8_init_464 rfl (by decide) ?_
  refine k_iconst (pc2 := 466) dX8_init_465 rfl ?_
  refine k_bipush (pc2 := 468) dX8_init_466 rfl rfl ?_
  refine k_ast (pc2 := 469) (row := [103, 105, 114, 108, 0]) (cs2 := (w_99 ++ [(102, [103, 105, 114, 108, 115])])) (Or.inr ⟨dX8_init_468, rfl, rfl⟩) (by decide +kernel) rfl (by decide) rfl rfl ?_
  refine k_put (pc2 := 472) (x := 79) (v := aR 79) (row := [63, 0, 0, 0, 0, 0, 0, 0, -1, 64, 0, 65, 66, 67, 68, 69, 70, 71, 72, 73, 74, 75, 76, 77, 78, -1, -1, -1, -1, -1, -1, -1, -1, -1, -1, -1, -1, -1, -1, -1, -1, 0, -1, -1, -1, -1, -1, -1, -1, -1, -1, 0, 0, 0, 0, 0, 0, 0, -1, -1, -1, -1, -1, -1, 0, -1, 0, -1, -1, -1, -1, -1, -1, -1, -1, 0, -1, -1, -1, -1, -1, -1, -1, 0, 0, 0, 0, 0, 0, -1, -1, -1, -1, -1, -1, -1, -1, -1, -1, -1, -1, -1, -1, -1, -1, -1, -1, -1, -1, -1, -1, -1, 0, -1, 0, 0, 0, -1, 0, 0, 0, -1, 0]) (cs2 := w_100) (ty := tyX8) fl_X8_63 rfl tyX8_ok nmX8 (Or.inr ⟨rfl, rfl, rfl, bw_t tt_5 46 rfl rfl⟩) (by decide +kernel) rfl (by decide +kernel) (fun _ => rfl) (fun g => pn_a (x := 79) (by decide) _ g) rfl dX8_init_469 rfl ?_
  refine k_aload (pc2 := 473) dX8_init_472 rfl rfl (by decide) ?_
  refine k_iconst (pc2 := 474) dX8_init_473 rfl ?_
  refine k_newa2 (pc2 := 476) (a := 80) (cs2 := (w_100 ++ [(102, List.replicate 4 0)])) (Or.inr (Or.inr ⟨rfl, rfl⟩)) (bw_t tt_6 151 rfl rfl) (by decide) dX8_init_474 rfl (by decide +kernel) (by decide +kernel) (by decide +kernel) rfl rfl ?_
  refine k_dup (pc2 := 477) dX8_init_476 rfl (by decide) ?_
  refine k_iconst (pc2 := 478) dX8_init_477 rfl ?_
  refine k_bipush (pc2 := 480) dX8_init_478 rfl rfl ?_
  refine k_ast (pc2 := 481) (row := List.replicate 4 0) (cs2 := (w_100 ++ [(102, [117, 0, 0, 0])])) (Or.inr ⟨dX8_init_480, rfl, rfl⟩) (by decide +kernel) rfl (by decide) rfl rfl ?_
  refine k_dup (pc2 := 482) dX8_init_481 rfl (by decide) ?_
  refine k_iconst (pc2 := 483) dX8_init_482 rfl ?_
  refine k_bipush (pc2 := 485) dX8_init_483 rfl rfl ?_
  refine k_ast (pc2 := 486) (row := [117, 0, 0, 0]) (cs2 := (w_100 ++ [(102, [117, 115, 0, 0])])) (Or.inr ⟨dX8_init_485, rfl, rfl⟩) (by decide +kernel) rfl (by decide) rfl rfl ?_
  refine k_dup (pc2 := 487) dX8_init_486 rfl (by decide) ?_
  refine k_iconst (pc2 := 488) dX8_init_487 rfl ?_
  refine k_bipush (pc2 := 490) dX8_init_488 rfl rfl ?_
  refine k_ast (pc2 := 491) (row := [117, 115, 0, 0]) (cs2 := (w_100 ++ [(102, [117, 115, 101, 0])])) (Or.inr ⟨dX8_init_490, rfl, rfl⟩) (by decide +kernel) rfl (by decide) rfl rfl ?_
  refine k_dup (pc2 := 492) dX8_init_491 rfl (by decide) ?_
  refine k_iconst (pc2 := 493) dX8_init_492 rfl ?_
  refine k_bipush (pc2 := 495) dX8_init_493 rfl rfl ?_
  refine k_ast (pc2 := 496) (row := [117, 115, 101, 0]) (cs2 := (w_100 ++ [(102, [117, 115, 101, 100])])) (Or.inr ⟨dX8_init_495, rfl, rfl⟩) (by decide +kernel) rfl (by decide) rfl rfl ?_
  refine k_put (pc2 := 499) (x := 80) (v := aR 80) (row := [63, 0, 0, 0, 0, 0, 0, 0, -1, 64, 0, 65, 66, 67, 68, 69, 70, 71, 72, 73, 74, 75, 76, 77, 78, 79, -1, -1, -1, -1, -1, -1, -1, -1, -1, -1, -1, -1, -1, -1, -1, 0, -1, -1, -1, -1, -1, -1, -1, -1, -1, 0, 0, 0, 0, 0, 0, 0, -1, -1, -1, -1, -1, -1, 0, -1, 0, -1, -1, -1, -1, -1, -1, -1, -1, 0, -1, -1, -1, -1, -1, -1, -1, 0, 0, 0, 0, 0, 0, -1, -1, -1, -1, -1, -1, -1, -1, -1, -1, -1, -1, -1, -1, -1, -1, -1, -1, -1, -1, -1, -1, -1, 0, -1, 0, 0, 0, -1, 0, 0, 0, -1, 0]) (cs2 := w_101) (ty := tyX8) fl_X8_66 rfl tyX8_ok nmX8 (Or.inr ⟨rfl, rfl, rfl, bw_t tt_5 47 rfl rfl⟩) (by decide +kernel) rfl (by decide +kernel) (fun _ => rfl) (fun g => pn_a (x := 80) (by decide) _ g) rfl dX8_init_496 rfl ?_
  refine k_aload (pc2 := 500) dX8_init_499 rfl rfl (by decide) ?_
  refine k_iconst (pc2 := 501) dX8_init_500 rfl ?_
  refine k_newa2 (pc2 := 503) (a := 81) (cs2 := (w_101 ++ [(102, List.replicate 4 0)])) (Or.inr (Or.inr ⟨rfl, rfl⟩)) (bw_t tt_6 151 rfl rfl) (by decide) dX8_init_501 rfl (by decide +kernel) (by decide +kernel) (by decide +kernel) rfl rfl ?_
  refine k_dup (pc2 := 504) dX8_init_503 rfl (by decide) ?_
  refine k_iconst (pc2 := 505) dX8_init_504 rfl ?_
  refine k_bipush (pc2 := 507) dX8_init_505 rfl rfl ?_
  refine k_ast (pc2 := 508) (row := List.replicate 4 0) (cs2 := (w_101 ++ [(102, [114, 0, 0, 0])])) (Or.inr ⟨dX8_init_507, rfl, rfl⟩) (by decide +kernel) rfl (by decide) rfl rfl ?_
  refine k_dup (pc2 := 509) dX8_init_508 rfl (by decide) ?_
  refine k_iconst (pc2 := 510) dX8_init_509 rfl ?_
  refine k_bipush (pc2 := 512) dX8_init_510 rfl rfl ?_
  refine k_ast (pc2 := 513) (row := [114, 0, 0, 0]) (cs2 := (w_101 ++ [(102, [114, 101, 0, 0])])) (Or.inr ⟨dX8_init_512, rfl, rfl⟩) (by decide +kernel) rfl (by decide) rfl rfl ?_
  refine k_dup (pc2 := 514) dX8_init_513 rfl (by decide) ?_
  refine k_iconst (pc2 := 515) dX8_init_514 rfl ?_
  refine k_bipush (pc2 := 517) dX8_init_515 rfl rfl ?_
  refine k_ast (pc2 := 518) (row := [114, 101, 0, 0]) (cs2 := (w_101 ++ [(102, [114, 101, 115, 0])])) (Or.inr ⟨dX8_init_517, rfl, rfl⟩) (by decide +kernel) rfl (by decide) rfl rfl ?_
  refine k_dup (pc2 := 519) dX8_init_518 rfl (by decide) ?_
  refine k_iconst (pc2 := 520) dX8_init_519 rfl ?_
  refine k_bipush (pc2 := 522) dX8_init_520 rfl rfl ?_
  refine k_ast (pc2 := 523) (row := [114, 101, 115, 0]) (cs2 := (w_101 ++ [(102, [114, 101, 115, 116])])) (Or.inr ⟨dX8_init_522, rfl, rfl⟩) (by decide +kernel) rfl (by decide) rfl rfl ?_
  refine k_put (pc2 := 526) (x := 81) (v := aR 81) (row := [63, 0, 0, 0, 0, 0, 0, 0, -1, 64, 0, 65, 66, 67, 68, 69, 70, 71, 72, 73, 74, 75, 76, 77, 78, 79, 80, -1, -1, -1, -1, -1, -1, -1, -1, -1, -1, -1, -1, -1, -1, 0, -1, -1, -1, -1, -1, -1, -1, -1, -1, 0, 0, 0, 0, 0, 0, 0, -1, -1, -1, -1, -1, -1, 0, -1, 0, -1, -1, -1, -1, -1, -1, -1, -1, 0, -1, -1, -1, -1, -1, -1, -1, 0, 0, 0, 0, 0, 0, -1, -1, -1, -1, -1, -1, -1, -1, -1, -1, -1, -1, -1, -1, -1, -1, -1, -1, -1, -1, -1, -1, -1, 0, -1, 0, 0, 0, -1, 0, 0, 0, -1, 0]) (cs2 := w_102) (ty := tyX8) fl_X8_69 rfl tyX8_ok nmX8 (Or.inr ⟨rfl, rfl, rfl, bw_t tt_5 48 rfl rfl⟩) (by decide +kernel) rfl (by decide +kernel) (fun _ => rfl) (fun g => pn_a (x := 81) (by decide) _ g) rfl dX8_init_523 rfl ?_
  refine k_aload (pc2 := 527) dX8_init_526 rfl rfl (by decide) ?_
  refine k_bipush (pc2 := 529) dX8_init_527 rfl rfl ?_
  refine k_newa2 (pc2 := 531) (a := 82) (cs2 := (w_102 ++ [(102, List.replicate 6 0)])) (Or.inr (Or.inr ⟨rfl, rfl⟩)) (bw_t tt_6 151 rfl rfl) (by decide) dX8_init_529 rfl (by decide +kernel) (by decide +kernel) (by decide +kernel) rfl rfl ?_
  refine k_dup (pc2 := 532) dX8_init_531 rfl (by decide) ?_
  refine k_iconst (pc2 := 533) dX8_init_532 rfl ?_
  refine k_bipush (pc2 := 535) dX8_init_533 rfl rfl ?_
  refine k_ast (pc2 := 536) (row := List.replicate 6 0) (cs2 := (w_102 ++ [(102, [110, 0, 0, 0, 0, 0])])) (Or.inr ⟨dX8_init_535, rfl, rfl⟩) (by decide +kernel) rfl (by decide) rfl rfl ?_
  refine k_dup (pc2 := 537) dX8_init_536 rfl (by decide) ?_
  refine k_iconst (pc2 := 538) dX8_init_537 rfl ?_
  refine k_bipush (pc2 := 540) dX8_init_538 rfl rfl ?_
  refine k_ast (pc2 := 541) (row := [110, 0, 0, 0, 0, 0]) (cs2 := (w_102 ++ [(102, [110, 117, 0, 0, 0, 0])])) (Or.inr ⟨dX8_init_540, rfl, rfl⟩) (by decide +kernel) rfl (by decide) rfl rfl ?_
  refine k_dup (pc2 := 542) dX8_init_541 rfl (by decide) ?_
  refine k_iconst (pc2 := 543) dX8_init_542 rfl ?_
  refine k_bipush (pc2 := 545) dX8_init_543 rfl rfl ?_
  refine k_ast (pc2 := 546) (row := [110, 117, 0, 0, 0, 0]) (cs2 := (w_102 ++ [(102, [110, 117, 109, 0, 0, 0])])) (Or.inr ⟨dX8_init_545, rfl, rfl⟩) (by decide +kernel) rfl (by decide) rfl rfl ?_
  refine k_dup (pc2 := 547) dX8_init_546 rfl (by decide) ?_
  refine k_iconst (pc2 := 548) dX8_init_547 rfl ?_
  refine k_bipush (pc2 := 550) dX8_init_548 rfl rfl ?_
  refine k_ast (pc2 := 551) (row := [110, 117, 109, 0, 0, 0]) (cs2 := (w_102 ++ [(102, [110, 117, 109, 98, 0, 0])])) (Or.inr ⟨dX8_init_550, rfl, rfl⟩) (by decide +kernel) rfl (by decide) rfl rfl ?_
  refine k_dup (pc2 := 552) dX8_init_551 rfl (by decide) ?_
  refine k_iconst (pc2 := 553) dX8_init_552 rfl ?_
  refine k_bipush (pc2 := 555) dX8_init_553 rfl rfl ?_
  refine k_ast (pc2 := 556) (row := [110, 117, 109, 98, 0, 0]) (cs2 := (w_102 ++ [(102, [110, 117, 109, 98, 101, 0])])) (Or.inr ⟨dX8_init_555, rfl, rfl⟩) (by decide +kernel) rfl (by decide) rfl rfl ?_
  refine k_dup (pc2 := 557) dX8_init_556 rfl (by decide) ?_
  refine k_iconst (pc2 := 558) dX8_init_557 rfl ?_
  refine k_bipush (pc2 := 560) dX8_init_558 rfl rfl ?_
  refine k_ast (pc2 := 561) (row := [110, 117, 109, 98, 101, 0]) (cs2 := (w_102 ++ [(102, [110, 117, 109, 98, 101, 114])])) (Or.inr ⟨dX8_init_560, rfl, rfl⟩) (by decide +kernel) rfl (by decide) rfl rfl ?_
  refine k_put (pc2 := 564) (x := 82) (v := aR 82) (row := [63, 0, 0, 0, 0, 0, 0, 0, -1, 64, 0, 65, 66, 67, 68, 69, 70, 71, 72, 73, 74, 75, 76, 77, 78, 79, 80, 81, -1, -1, -1, -1, -1, -1, -1, -1, -1, -1, -1, -1, -1, 0, -1, -1, -1, -1, -1, -1, -1, -1, -1, 0, 0, 0, 0, 0, 0, 0, -1, -1, -1, -1, -1, -1, 0, -1, 0, -1, -1, -1, -1, -1, -1, -1, -1, 0, -1, -1, -1, -1, -1, -1, -1, 0, 0, 0, 0, 0, 0, -1, -1, -1, -1, -1, -1, -1, -1, -1, -1, -1, -1, -1, -1, -1, -1, -1, -1, -1, -1, -1, -1, -1, 0, -1, 0, 0, 0, -1, 0, 0, 0, -1, 0]) (cs2 := w_103) (ty := tyX8) fl_X8_72 rfl tyX8_ok nmX8 (Or.inr ⟨rfl, rfl, rfl, bw_t tt_5 49 rfl rfl⟩) (by decide +kernel) rfl (by decide +kernel) (fun _ => rfl) (fun g => pn_a (x := 82) (by decide) _ g) rfl dX8_init_561 rfl ?_
  refine k_aload (pc2 := 565) dX8_init_564 rfl rfl (by decide) ?_
  refine k_iconst (pc2 := 566) dX8_init_565 rfl ?_
  refine k_newa2 (pc2 := 568) (a := 83) (cs2 := (w_103 ++ [(102, List.replicate 5 0)])) (Or.inr (Or.inr ⟨rfl, rfl⟩)) (bw_t tt_6 151 rfl rfl) (by decide) dX8_init_566 rfl (by decide +kernel) (by decide +kernel) (by decide +kernel) rfl rfl ?_
  refine k_dup (pc2 := 569) dX8_init_568 rfl (by decide) ?_
  refine k_iconst (pc2 := 570) dX8_init_569 rfl ?_
  refine k_bipush (pc2 := 572) dX8_init_570 rfl rfl ?_
  refine k_ast (pc2 := 573) (row := List.replicate 5 0) (cs2 := (w_103 ++ [(102, [108, 0, 0, 0, 0])])) (Or.inr ⟨dX8_init_572, rfl, rfl⟩) (by decide +kernel) rfl (by decide) rfl rfl ?_
  refine k_dup (pc2 := 574) dX8_init_573 rfl (by decide) ?_
  refine k_iconst (pc2 := 575) dX8_init_574 rfl ?_
  refine k_bipush (pc2 := 577) dX8_init_575 rfl rfl ?_
  refine k_ast (pc2 := 578) (row := [108, 0, 0, 0, 0]) (cs2 := (w_103 ++ [(102, [108, 101, 0, 0, 0])])) (Or.inr ⟨dX8_init_577, rfl, rfl⟩) (by decide +kernel) rfl (by decide) rfl rfl ?_
  refine k_dup (pc2 := 579) dX8_init_578 rfl (by decide) ?_
  refine k_iconst (pc2 := 580) dX8_init_579 rfl ?_
  refine k_bipush (pc2 := 582) dX8_init_580 rfl rfl ?_
  refine k_ast (pc2 := 583) (row := [108, 101, 0, 0, 0]) (cs2 := (w_103 ++ [(102, [108, 101, 97, 0, 0])])) (Or.inr ⟨dX8_init_582, rfl, rfl⟩) (by decide +kernel) rfl (by decide) rfl rfl ?_
  refine k_dup (pc2 := 584) dX8_init_583 rfl (by decide) ?_
  refine k_iconst (pc2 := 585) dX8_init_584 rfl ?_
  refine k_bipush (pc2 := 587) dX8_init_585 rfl rfl ?_
  refine k_ast (pc2 := 588) (row := [108, 101, 97, 0, 0]) (cs2 := (w_103 ++ [(102, [108, 101, 97, 115, 0])])) (Or.inr ⟨dX8_init_587, rfl, rfl⟩) (by decide +kernel) rfl (by decide) rfl rfl ?_
  refine k_dup (pc2 := 589) dX8_init_588 rfl (by decide) ?_
  refine k_iconst (pc2 := 590) dX8_init_589 rfl ?_
  refine k_bipush (pc2 := 592) dX8_init_590 rfl rfl ?_
  refine k_ast (pc2 := 593) (row := [108, 101, 97, 115, 0]) (cs2 := (w_103 ++ [(102, [108, 101, 97, 115, 116])])) (Or.inr ⟨dX8_init_592, rfl, rfl⟩) (by decide +kernel) rfl (by decide) rfl rfl ?_
  refine k_put (pc2 := 596) (x := 83) (v := aR 83) (row := [63, 0, 0, 0, 0, 0, 0, 0, -1, 64, 0, 65, 66, 67, 68, 69, 70, 71, 72, 73, 74, 75, 76, 77, 78, 79, 80, 81, 82, -1, -1, -1, -1, -1, -1, -1, -1, -1, -1, -1, -1, 0, -1, -1, -1, -1, -1, -1, -1, -1, -1, 0, 0, 0, 0, 0, 0, 0, -1, -1, -1, -1, -1, -1, 0, -1, 0, -1, -1, -1, -1, -1, -1, -1, -1, 0, -1, -1, -1, -1, -1, -1, -1, 0, 0, 0, 0, 0, 0, -1, -1, -1, -1, -1, -1, -1, -1, -1, -1, -1, -1, -1, -1, -1, -1, -1, -1, -1, -1, -1, -1, -1, 0, -1, 0, 0, 0, -1, 0, 0, 0, -1, 0]) (cs2 := w_104) (ty := tyX8) fl_X8_75 rfl tyX8_ok nmX8 (Or.inr ⟨rfl, rfl, rfl, bw_t tt_5 50 rfl rfl⟩) (by decide +kernel) rfl (by decide +kernel) (fun _ => rfl) (fun g => pn_a (x := 83) (by decide) _ g) rfl dX8_init_593 rfl ?_
  refine k_aload (pc2 := 597) dX8_init_596 rfl rfl (by decide) ?_
  refine k_iconst (pc2 := 598) dX8_init_597 rfl ?_
  refine k_newa2 (pc2 := 600) (a := 84) (cs2 := (w_104 ++ [(102, List.replicate 4 0)])) (Or.inr (Or.inr ⟨rfl, rfl⟩)) (bw_t tt_6 151 rfl rfl) (by decide) dX8_init_598 rfl (by decide +kernel) (by decide +kernel) (by decide +kernel) rfl rfl ?_
  refine k_dup (pc2 := 601) dX8_init_600 rfl (by decide) ?_
  refine k_iconst (pc2 := 602) dX8_init_601 rfl ?_
  refine k_bipush (pc2 := 604) dX8_init_602 rfl rfl ?_
  refine k_ast (pc2 := 605) (row := List.replicate 4 0) (cs2 := (w_104 ++ [(102, [109, 0, 0, 0])])) (Or.inr ⟨dX8_init_604, rfl, rfl⟩) (by decide +kernel) rfl (by decide) rfl rfl ?_
  refine k_dup (pc2 := 606) dX8_init_605 rfl (by decide) ?_
  refine k_iconst (pc2 := 607) dX8_init_606 rfl ?_
  refine k_bipush (pc2 := 609) dX8_init_607 rfl rfl ?_
  refine k_ast (pc2 := 610) (row := [109, 0, 0, 0]) (cs2 := (w_104 ++ [(102, [109, 111, 0, 0])])) (Or.inr ⟨dX8_init_609, rfl, rfl⟩) (by decide +kernel) rfl (by decide) rfl rfl ?_
  refine k_dup (pc2 := 611) dX8_init_610 rfl (by decide) ?_
  refine k_iconst (pc2 := 612) dX8_init_611 rfl ?_
  refine k_bipush (pc2 := 614) dX8_init_612 rfl rfl ?_
  refine k_ast (pc2 := 615) (row := [109, 111, 0, 0]) (cs2 := (w_104 ++ [(102, [109, 111, 115, 0])])) (Or.inr ⟨dX8_init_614, rfl, rfl⟩) (by decide +kernel) rfl (by decide) rfl rfl ?_
  refine k_dup (pc2 := 616) dX8_init_615 rfl (by decide) ?_
  refine k_iconst (pc2 := 617) dX8_init_616 rfl ?_
  refine k_bipush (pc2 := 619) dX8_init_617 rfl rfl ?_
  refine k_ast (pc2 := 620) (row := [109, 111, 115, 0]) (cs2 := (w_104 ++ [(102, [109, 111, 115, 116])])) (Or.inr ⟨dX8_init_619, rfl, rfl⟩) (by decide +kernel) rfl (by decide) rfl rfl ?_
  refine k_put (pc2 := 623) (x := 84) (v := aR 84) (row := [63, 0, 0, 0, 0, 0, 0, 0, -1, 64, 0, 65, 66, 67, 68, 69, 70, 71, 72, 73, 74, 75, 76, 77, 78, 79, 80, 81, 82, 83, -1, -1, -1, -1, -1, -1, -1, -1, -1, -1, -1, 0, -1, -1, -1, -1, -1, -1, -1, -1, -1, 0, 0, 0, 0, 0, 0, 0, -1, -1, -1, -1, -1, -1, 0, -1, 0, -1, -1, -1, -1, -1, -1, -1, -1, 0, -1, -1, -1, -1, -1, -1, -1, 0, 0, 0, 0, 0, 0, -1, -1, -1, -1, -1, -1, -1, -1, -1, -1, -1, -1, -1, -1, -1, -1, -1, -1, -1, -1, -1, -1, -1, 0, -1, 0, 0, 0, -1, 0, 0, 0, -1, 0]) (cs2 := w_105) (ty := tyX8) fl_X8_78 rfl tyX8_ok nmX8 (Or.inr ⟨rfl, rfl, rfl, bw_t tt_5 51 rfl rfl⟩) (by decide +kernel) rfl (by decide +kernel) (fun _ => rfl) (fun g => pn_a (x := 84) (by decide) _ g) rfl dX8_init_620 rfl ?_
  refine k_aload (pc2 := 624) dX8_init_623 rfl rfl (by decide) ?_
  refine k_iconst (pc2 := 625) dX8_init_624 rfl ?_
  refine k_newa2 (pc2 := 627) (a := 85) (cs2 := (w_105 ++ [(102, List.replicate 4 0)])) (Or.inr (Or.inr ⟨rfl, rfl⟩)) (bw_t tt_6 151 rfl rfl) (by decide) dX8_init_625 rfl (by decide +kernel) (by decide +kernel) (by decide +kernel) rfl rfl ?_
  refine k_dup (pc2 := 628) dX8_init_627 rfl (by decide) ?_
  refine k_iconst (pc2 := 629) dX8_init_628 rfl ?_
  refine k_bipush (pc2 := 631) dX8_init_629 rfl rfl ?_
  refine k_ast (pc2 := 632) (row := List.replicate 4 0) (cs2 := (w_105 ++ [(102, [108, 0, 0, 0])])) (Or.inr ⟨dX8_init_631, rfl, rfl⟩) (by decide +kernel) rfl (by decide) rfl rfl ?_
  refine k_dup (pc2 := 633) dX8_init_632 rfl (by decide) ?_
  refine k_iconst (pc2 := 634) dX8_init_633 rfl ?_
  refine k_bipush (pc2 := 636) dX8_init_634 rfl rfl ?_
  refine k_ast (pc2 := 637) (row := [108, 0, 0, 0]) (cs2 := (w_105 ++ [(102, [108, 101, 0, 0])])) (Or.inr ⟨dX8_init_636, rfl, rfl⟩) (by decide +kernel) rfl (by decide) rfl rfl ?_
  refine k_dup (pc2 := 638) dX8_init_637 rfl (by decide) ?_
  refine k_iconst (pc2 := 639) dX8_init_638 rfl ?_
  refine k_bipush (pc2 := 641) dX8_init_639 rfl rfl ?_
  refine k_ast (pc2 := 642) (row := [108, 101, 0, 0]) (cs2 := (w_105 ++ [(102, [108, 101, 102, 0])])) (Or.inr ⟨dX8_init_641, rfl, rfl⟩) (by decide +kernel) rfl (by decide) rfl rfl ?_
  refine k_dup (pc2 := 643) dX8_init_642 rfl (by decide) ?_
  refine k_iconst (pc2 := 644) dX8_init_643 rfl ?_
  refine k_bipush (pc2 := 646) dX8_init_644 rfl rfl ?_
  refine k_ast (pc2 := 647) (row := [108, 101, 102, 0]) (cs2 := (w_105 ++ [(102, [108, 101, 102, 116])])) (Or.inr ⟨dX8_init_646, rfl, rfl⟩) (by decide +kernel) rfl (by decide) rfl rfl ?_
  refine k_put (pc2 := 650) (x := 85) (v := aR 85) (row := [63, 0, 0, 0, 0, 0, 0, 0, -1, 64, 0, 65, 66, 67, 68, 69, 70, 71, 72, 73, 74, 75, 76, 77, 78, 79, 80, 81, 82, 83, 84, -1, -1, -1, -1, -1, -1, -1, -1, -1, -1, 0, -1, -1, -1, -1, -1, -1, -1, -1, -1, 0, 0, 0, 0, 0, 0, 0, -1, -1, -1, -1, -1, -1, 0, -1, 0, -1, -1, -1, -1, -1, -1, -1, -1, 0, -1, -1, -1, -1, -1, -1, -1, 0, 0, 0, 0, 0, 0, -1, -1, -1, -1, -1, -1, -1, -1, -1, -1, -1, -1, -1, -1, -1, -1, -1, -1, -1, -1, -1, -1, -1, 0, -1, 0, 0, 0, -1, 0, 0, 0, -1, 0]) (cs2 := w_106) (ty := tyX8) fl_X8_81 rfl tyX8_ok nmX8 (Or.inr ⟨rfl, rfl, rfl, bw_t tt_5 52 rfl rfl⟩) (by decide +kernel) rfl (by decide +kernel) (fun _ => rfl) (fun g => pn_a (x := 85) (by decide) _ g) rfl dX8_init_647 rfl ?_
  refine k_aload (pc2 := 651) dX8_init_650 rfl rfl (by decide) ?_
  refine k_bipush (pc2 := 653) dX8_init_651 rfl rfl ?_
  refine k_newa2 (pc2 := 655) (a := 86) (cs2 := (w_106 ++ [(102, List.replicate 7 0)])) (Or.inr (Or.inr ⟨rfl, rfl⟩)) (bw_t tt_6 151 rfl rfl) (by decide) dX8_init_653 rfl (by decide +kernel) (by decide +kernel) (by decide +kernel) rfl rfl ?_
  refine k_dup (pc2 := 656) dX8_init_655 rfl (by decide) ?_
  refine k_iconst (pc2 := 657) dX8_init_656 rfl ?_
  refine k_bipush (pc2 := 659) dX8_init_657 rfl rfl ?_
  refine k_ast (pc2 := 660) (row := List.replicate 7 0) (cs2 := (w_106 ++ [(102, [99, 0, 0, 0, 0, 0, 0])])) (Or.inr ⟨dX8_init_659, rfl, rfl⟩) (by decide +kernel) rfl (by decide) rfl rfl ?_
  refine k_dup (pc2 := 661) dX8_init_660 rfl (by decide) ?_
  refine k_iconst (pc2 := 662) dX8_init_661 rfl ?_
  refine k_bipush (pc2 := 664) dX8_init_662 rfl rfl ?_
  refine k_ast (pc2 := 665) (row := [99, 0, 0, 0, 0, 0, 0]) (cs2 := (w_106 ++ [(102, [99, 104, 0, 0, 0, 0, 0])])) (Or.inr ⟨dX8_init_664, rfl, rfl⟩) (by decide +kernel) rfl (by decide) rfl rfl ?_
  refine k_dup (pc2 := 666) dX8_init_665 rfl (by decide) ?_
  refine k_iconst (pc2 := 667) dX8_init_666 rfl ?_
  refine k_bipush (pc2 := 669) dX8_init_667 rfl rfl ?_
  refine k_ast (pc2 := 670) (row := [99, 104, 0, 0, 0, 0, 0]) (cs2 := (w_106 ++ [(102, [99, 104, 97, 0, 0, 0, 0])])) (Or.inr ⟨dX8_init_669, rfl, rfl⟩) (by decide +kernel) rfl (by decide) rfl rfl ?_
  refine k_dup (pc2 := 671) dX8_init_670 rfl (by decide) ?_
  refine k_iconst (pc2 := 672) dX8_init_671 rfl ?_
  refine k_bipush (pc2 := 674) dX8_init_672 rfl rfl ?_
  refine k_ast (pc2 := 675) (row := [99, 104, 97, 0, 0, 0, 0]) (cs2 := (w_106 ++ [(102, [99, 104, 97, 110, 0, 0, 0])])) (Or.inr ⟨dX8_init_674, rfl, rfl⟩) (by decide +kernel) rfl (by decide) rfl rfl ?_
  refine k_dup (pc2 := 676) dX8_init_675 rfl (by decide) ?_
  refine k_iconst (pc2 := 677) dX8_init_676 rfl ?_
  refine k_bipush (pc2 := 679) dX8_init_677 rfl rfl ?_
  refine k_ast (pc2 := 680) (row := [99, 104, 97, 110, 0, 0, 0]) (cs2 := (w_106 ++ [(102, [99, 104, 97, 110, 103, 0, 0])])) (Or.inr ⟨dX8_init_679, rfl, rfl⟩) (by decide +kernel) rfl (by decide) rfl rfl ?_
  refine k_dup (pc2 := 681) dX8_init_680 rfl (by decide) ?_
  refine k_iconst (pc2 := 682) dX8_init_681 rfl ?_
  refine k_bipush (pc2 := 684) dX8_init_682 rfl rfl ?_
  refine k_ast (pc2 := 685) (row := [99, 104, 97, 110, 103, 0, 0]) (cs2 := (w_106 ++ [(102, [99, 104, 97, 110, 103, 101, 0])])) (Or.inr ⟨dX8_init_684, rfl, rfl⟩) (by decide +kernel) rfl (by decide) rfl rfl ?_
  refine k_dup (pc2 := 686) dX8_init_685 rfl (by decide) ?_
  refine k_bipush (pc2 := 688) dX8_init_686 rfl rfl ?_
  refine k_bipush (pc2 := 690) dX8_init_688 rfl rfl ?_
  refine k_ast (pc2 := 691) (row := [99, 104, 97, 110, 103, 101, 0]) (cs2 := (w_106 ++ [(102, [99, 104, 97, 110, 103, 101, 100])])) (Or.inr ⟨dX8_init_690, rfl, rfl⟩) (by decide +kernel) rfl (by decide) rfl rfl ?_
  refine k_put (pc2 := 694) (x := 86) (v := aR 86) (row := [63, 0, 0, 0, 0, 0, 0, 0, -1, 64, 0, 65, 66, 67, 68, 69, 70, 71, 72, 73, 74, 75, 76, 77, 78, 79, 80, 81, 82, 83, 84, 85, -1, -1, -1, -1, -1, -1, -1, -1, -1, 0, -1, -1, -1, -1, -1, -1, -1, -1, -1, 0, 0, 0, 0, 0, 0, 0, -1, -1, -1, -1, -1, -1, 0, -1, 0, -1, -1, -1, -1, -1, -1, -1, -1, 0, -1, -1, -1, -1, -1, -1, -1, 0, 0, 0, 0, 0, 0, -1, -1, -1, -1, -1, -1, -1, -1, -1, -1, -1, -1, -1, -1, -1, -1, -1, -1, -1, -1, -1, -1, -1, 0, -1, 0, 0, 0, -1, 0, 0, 0, -1, 0]) (cs2 := w_107) (ty := tyX8) fl_X8_84 rfl tyX8_ok nmX8 (Or.inr ⟨rfl, rfl, rfl, bw_t tt_5 53 rfl rfl⟩) (by decide +kernel) rfl (by decide +kernel) (fun _ => rfl) (fun g => pn_a (x := 86) (by decide) _ g) rfl dX8_init_691 rfl ?_
  refine k_aload (pc2 := 695) dX8_init_694 rfl rfl (by decide) ?_
  refine k_bipush (pc2 := 697) dX8_init_695 rfl rfl ?_
  refine k_newa2 (pc2 := 699) (a := 87) (cs2 := (w_107 ++ [(102, List.replicate 6 0)])) (Or.inr (Or.inr ⟨rfl, rfl⟩)) (bw_t tt_6 151 rfl rfl) (by decide) dX8_init_697 rfl (by decide +kernel) (by decide +kernel) (by decide +kernel) rfl rfl ?_
  refine k_dup (pc2 := 700) dX8_init_699 rfl (by decide) ?_
  refine k_iconst (pc2 := 701) dX8_init_700 rfl ?_
  refine k_bipush (pc2 := 703) dX8_init_701 rfl rfl ?_
  refine k_ast (pc2 := 704) (row := List.replicate 6 0) (cs2 := (w_107 ++ [(102, [109, 0, 0, 0, 0, 0])])) (Or.inr ⟨dX8_init_703, rfl, rfl⟩) (by decide +kernel) rfl (by decide) rfl rfl ?_
  refine k_dup (pc2 := 705) dX8_init_704 rfl (by decide) ?_
  refine k_iconst (pc2 := 706) dX8_init_705 rfl ?_
  refine k_bipush (pc2 := 708) dX8_init_706 rfl rfl ?_
  refine k_ast (pc2 := 709) (row := [109, 0, 0, 0, 0, 0]) (cs2 := (w_107 ++ [(102, [109, 101, 0, 0, 0, 0])])) (Or.inr ⟨dX8_init_708, rfl, rfl⟩) (by decide +kernel) rfl (by decide) rfl rfl ?_
  refine k_dup (pc2 := 710) dX8_init_709 rfl (by decide) ?_
  refine k_iconst (pc2 := 711) dX8_init_710 rfl ?_
  refine k_bipush (pc2 := 713) dX8_init_711 rfl rfl ?_
  refine k_ast (pc2 := 714) (row := [109, 101, 0, 0, 0, 0]) (cs2 := (w_107 ++ [(102, [109, 101, 110, 0, 0, 0])])) (Or.inr ⟨dX8_init_713, rfl, rfl⟩) (by decide +kernel) rfl (by decide) rfl rfl ?_
  refine k_dup (pc2 := 715) dX8_init_714 rfl (by decide) ?_
  refine k_iconst (pc2 := 716) dX8_init_715 rfl ?_
  refine k_bipush (pc2 := 718) dX8_init_716 rfl rfl ?_
  refine k_ast (pc2 := 719) (row := [109, 101, 110, 0, 0, 0]) (cs2 := (w_107 ++ [(102, [109, 101, 110, 100, 0, 0])])) (Or.inr ⟨dX8_init_718, rfl, rfl⟩) (by decide +kernel) rfl (by decide) rfl rfl ?_
  refine k_dup (pc2 := 720) dX8_init_719 rfl (by decide) ?_
  refine k_iconst (pc2 := 721) dX8_init_720 rfl ?_
  refine k_bipush (pc2 := 723) dX8_init_721 rfl rfl ?_
  refine k_ast (pc2 := 724) (row := [109, 101, 110, 100, 0, 0]) (cs2 := (w_107 ++ [(102, [109, 101, 110, 100, 101, 0])])) (Or.inr ⟨dX8_init_723, rfl, rfl⟩) (by decide +kernel) rfl (by decide) rfl rfl ?_
  refine k_dup (pc2 := 725) dX8_init_724 rfl (by decide) ?_
  refine k_iconst (pc2 := 726) dX8_init_725 rfl ?_
  refine k_bipush (pc2 := 728) dX8_init_726 rfl rfl ?_
  refine k_ast (pc2 := 729) (row := [109, 101, 110, 100, 101, 0]) (cs2 := (w_107 ++ [(102, [109, 101, 110, 100, 101, 100])])) (Or.inr ⟨dX8_init_728, rfl, rfl⟩) (by decide +kernel) rfl (by decide) rfl rfl ?_
  refine k_put (pc2 := 732) (x := 87) (v := aR 87) (row := [63, 0, 0, 0, 0, 0, 0, 0, -1, 64, 0, 65, 66, 67, 68, 69, 70, 71, 72, 73, 74, 75, 76, 77, 78, 79, 80, 81, 82, 83, 84, 85, 86, -1, -1, -1, -1, -1, -1, -1, -1, 0, -1, -1, -1, -1, -1, -1, -1, -1, -1, 0, 0, 0, 0, 0, 0, 0, -1, -1, -1, -1, -1, -1, 0, -1, 0, -1, -1, -1, -1, -1, -1, -1, -1, 0, -1, -1, -1, -1, -1, -1, -1, 0, 0, 0, 0, 0, 0, -1, -1, -1, -1, -1, -1, -1, -1, -1, -1, -1, -1, -1, -1, -1, -1, -1, -1, -1, -1, -1, -1, -1, 0, -1, 0, 0, 0, -1, 0, 0, 0, -1, 0]) (cs2 := w_108) (ty := tyX8) fl_X8_87 rfl tyX8_ok nmX8 (Or.inr ⟨rfl, rfl, rfl, bw_t tt_5 54 rfl rfl⟩) (by decide +kernel) rfl (by decide +kernel) (fun _ => rfl) (fun g => pn_a (x := 87) (by decide) _ g) rfl dX8_init_729 rfl ?_
  refine k_aload (pc2 := 733) dX8_init_732 rfl rfl (by decide) ?_
  refine k_iconst (pc2 := 734) dX8_init_733 rfl ?_
  refine k_newa2 (pc2 := 736) (a := 88) (cs2 := (w_108 ++ [(102, List.replicate 5 0)])) (Or.inr (Or.inr ⟨rfl, rfl⟩)) (bw_t tt_6 151 rfl rfl) (by decide) dX8_init_734 rfl (by decide +kernel) (by decide +kernel) (by decide +kernel) rfl rfl ?_
  refine k_dup (pc2 := 737) dX8_init_736 rfl (by decide) ?_
  refine k_iconst (pc2 := 738) dX8_init_737 rfl ?_
  refine k_bipush (pc2 := 740) dX8_init_738 rfl rfl ?_
  refine k_ast (pc2 := 741) (row := List.replicate 5 0) (cs2 := (w_108 ++ [(102, [121, 0, 0, 0, 0])])) (Or.inr ⟨dX8_init_740, rfl, rfl⟩) (by decide +kernel) rfl (by decide) rfl rfl ?_
  refine k_dup (pc2 := 742) dX8_init_741 rfl (by decide) ?_
  refine k_iconst (pc2 := 743) dX8_init_742 rfl ?_
  refine k_bipush (pc2 := 745) dX8_init_743 rfl rfl ?_
  refine k_ast (pc2 := 746) (row := [121, 0, 0, 0, 0]) (cs2 := (w_108 ++ [(102, [121, 97, 0, 0, 0])])) (Or.inr ⟨dX8_init_745, rfl, rfl⟩) (by decide +kernel) rfl (by decide) rfl rfl ?_
  refine k_dup (pc2 := 747) dX8_init_746 rfl (by decide) ?_
  refine k_iconst (pc2 := 748) dX8_init_747 rfl ?_
  refine k_bipush (pc2 := 750) dX8_init_748 rfl rfl ?_
  refine k_ast (pc2 := 751) (row := [121, 97, 0, 0, 0]) (cs2 := (w_108 ++ [(102, [121, 97, 114, 0, 0])])) (Or.inr ⟨dX8_init_750, rfl, rfl⟩) (by decide +kernel) rfl (by decide) rfl rfl ?_
  refine k_dup (pc2 := 752) dX8_init_751 rfl (by decide) ?_
  refine k_iconst (pc2 := 753) dX8_init_752 rfl ?_
  refine k_bipush (pc2 := 755) dX8_init_753 rfl rfl ?_
  refine k_ast (pc2 := 756) (row := [121, 97, 114, 0, 0]) (cs2 := (w_108 ++ [(102, [121, 97, 114, 100, 0])])) (Or.inr ⟨dX8_init_755, rfl, rfl⟩) (by decide +kernel) rfl (by decide) rfl rfl ?_
  refine k_dup (pc2 := 757) dX8_init_756 rfl (by decide) ?_
  refine k_iconst (pc2 := 758) dX8_init_757 rfl ?_
  refine k_bipush (pc2 := 760) dX8_init_758 rfl rfl ?_
  refine k_ast (pc2 := 761) (row := [121, 97, 114, 100, 0]) (cs2 := (w_108 ++ [(102, [121, 97, 114, 100, 115])])) (Or.inr ⟨dX8_init_760, rfl, rfl⟩) (by decide +kernel) rfl (by decide) rfl rfl ?_
  refine k_put (pc2 := 764) (x := 88) (v := aR 88) (row := [63, 0, 0, 0, 0, 0, 0, 0, -1, 64, 0, 65, 66, 67, 68, 69, 70, 71, 72, 73, 74, 75, 76, 77, 78, 79, 80, 81, 82, 83, 84, 85, 86, 87, -1, -1, -1, -1, -1, -1, -1, 0, -1, -1, -1, -1, -1, -1, -1, -1, -1, 0, 0, 0, 0, 0, 0, 0, -1, -1, -1, -1, -1, -1, 0, -1, 0, -1, -1, -1, -1, -1, -1, -1, -1, 0, -1, -1, -1, -1, -1, -1, -1, 0, 0, 0, 0, 0, 0, -1, -1, -1, -1, -1, -1, -1, -1, -1, -1, -1, -1, -1, -1, -1, -1, -1, -1, -1, -1, -1, -1, -1, 0, -1, 0, 0, 0, -1, 0, 0, 0, -1, 0]) (cs2 := w_109) (ty := tyX8) fl_X8_90 rfl tyX8_ok nmX8 (Or.inr ⟨rfl, rfl, rfl, bw_t tt_5 55 rfl rfl⟩) (by decide +kernel) rfl (by decide +kernel) (fun _ => rfl) (fun g => pn_a (x := 88) (by decide) _ g) rfl dX8_init_761 rfl ?_
  refine k_aload (pc2 := 765) dX8_init_764 rfl rfl (by decide) ?_
  refine k_iconst (pc2 := 766) dX8_init_765 rfl ?_
  refine k_newa2 (pc2 := 768) (a := 89) (cs2 := (w_109 ++ [(102, List.replicate 2 0)])) (Or.inr (Or.inr ⟨rfl, rfl⟩)) (bw_t tt_6 151 rfl rfl) (by decide) dX8_init_766 rfl (by decide +kernel) (by decide +kernel) (by decide +kernel) rfl rfl ?_
  refine k_dup (pc2 := 769) dX8_init_768 rfl (by decide) ?_
  refine k_iconst (pc2 := 770) dX8_init_769 rfl ?_
  refine k_bipush (pc2 := 772) dX8_init_770 rfl rfl ?_
  refine k_ast (pc2 := 773) (row := List.replicate 2 0) (cs2 := (w_109 ++ [(102, [111, 0])])) (Or.inr ⟨dX8_init_772, rfl, rfl⟩) (by decide +kernel) rfl (by decide) rfl rfl ?_
  refine k_dup (pc2 := 774) dX8_init_773 rfl (by decide) ?_
  refine k_iconst (pc2 := 775) dX8_init_774 rfl ?_
  refine k_bipush (pc2 := 777) dX8_init_775 rfl rfl ?_
  refine k_ast (pc2 := 778) (row := [111, 0]) (cs2 := (w_109 ++ [(102, [111, 114])])) (Or.inr ⟨dX8_init_777, rfl, rfl⟩) (by decide +kernel) rfl (by decide) rfl rfl ?_
  refine k_put (pc2 := 781) (x := 89) (v := aR 89) (row := [63, 0, 0, 0, 0, 0, 0, 0, -1, 64, 0, 65, 66, 67, 68, 69, 70, 71, 72, 73, 74, 75, 76, 77, 78, 79, 80, 81, 82, 83, 84, 85, 86, 87, 88, -1, -1, -1, -1, -1, -1, 0, -1, -1, -1, -1, -1, -1, -1, -1, -1, 0, 0, 0, 0, 0, 0, 0, -1, -1, -1, -1, -1, -1, 0, -1, 0, -1, -1, -1, -1, -1, -1, -1, -1, 0, -1, -1, -1, -1, -1, -1, -1, 0, 0, 0, 0, 0, 0, -1, -1, -1, -1, -1, -1, -1, -1, -1, -1, -1, -1, -1, -1, -1, -1, -1, -1, -1, -1, -1, -1, -1, 0, -1, 0, 0, 0, -1, 0, 0, 0, -1, 0]) (cs2 := w_110) (ty := tyX8) fl_X8_93 rfl tyX8_ok nmX8 (Or.inr ⟨rfl, rfl, rfl, bw_t tt_5 56 rfl rfl⟩) (by decide +kernel) rfl (by decide +kernel) (fun _ => rfl) (fun g => pn_a (x := 89) (by decide) _ g) rfl dX8_init_778 rfl ?_
  refine k_aload (pc2 := 782) dX8_init_781 rfl rfl (by decide) ?_
  refine k_iconst (pc2 := 783) dX8_init_782 rfl ?_
  refine k_newa2 (pc2 := 785) (a := 90) (cs2 := (w_110 ++ [(102, List.replicate 3 0)])) (Or.inr (Or.inr ⟨rfl, rfl⟩)) (bw_t tt_6 151 rfl rfl) (by decide) dX8_init_783 rfl (by decide +kernel) (by decide +kernel) (by decide +kernel) rfl rfl ?_
  refine k_dup (pc2 := 786) dX8_init_785 rfl (by decide) ?_
  refine k_iconst (pc2 := 787) dX8_init_786 rfl ?_
  refine k_bipush (pc2 := 789) dX8_init_787 rfl rfl ?_
  refine k_ast (pc2 := 790) (row := List.replicate 3 0) (cs2 := (w_110 ++ [(102, [97, 0, 0])])) (Or.inr ⟨dX8_init_789, rfl, rfl⟩) (by decide +kernel) rfl (by decide) rfl rfl ?_
  refine k_dup (pc2 := 791) dX8_init_790 rfl (by decide) ?_
  refine k_iconst (pc2 := 792) dX8_init_791 rfl ?_
  refine k_bipush (pc2 := 794) dX8_init_792 rfl rfl ?_
  refine k_ast (pc2 := 795) (row := [97, 0, 0]) (cs2 := (w_110 ++ [(102, [97, 110, 0])])) (Or.inr ⟨dX8_init_794, rfl, rfl⟩) (by decide +kernel) rfl (by decide) rfl rfl ?_
  refine k_dup (pc2 := 796) dX8_init_795 rfl (by decide) ?_
  refine k_iconst (pc2 := 797) dX8_init_796 rfl ?_
  refine k_bipush (pc2 := 799) dX8_init_797 rfl rfl ?_
  refine k_ast (pc2 := 800) (row := [97, 110, 0]) (cs2 := (w_110 ++ [(102, [97, 110, 100])])) (Or.inr ⟨dX8_init_799, rfl, rfl⟩) (by decide +kernel) rfl (by decide) rfl rfl ?_
  refine k_put (pc2 := 803) (x := 90) (v := aR 90) (row := [63, 0, 0, 0, 0, 0, 0, 0, -1, 64, 0, 65, 66, 67, 68, 69, 70, 71, 72, 73, 74, 75, 76, 77, 78, 79, 80, 81, 82, 83, 84, 85, 86, 87, 88, 89, -1, -1, -1, -1, -1, 0, -1, -1, -1, -1, -1, -1, -1, -1, -1, 0, 0, 0, 0, 0, 0, 0, -1, -1, -1, -1, -1, -1, 0, -1, 0, -1, -1, -1, -1, -1, -1, -1, -1, 0, -1, -1, -1, -1, -1, -1, -1, 0, 0, 0, 0, 0, 0, -1, -1, -1, -1, -1, -1, -1, -1, -1, -1, -1, -1, -1, -1, -1, -1, -1, -1, -1, -1, -1, -1, -1, 0, -1, 0, 0, 0, -1, 0, 0, 0, -1, 0]) (cs2 := w_111) (ty := tyX8) fl_X8_96 rfl tyX8_ok nmX8 (Or.inr ⟨rfl, rfl, rfl, bw_t tt_5 57 rfl rfl⟩) (by decide +kernel) rfl (by decide +kernel) (fun _ => rfl) (fun g => pn_a (x := 90) (by decide) _ g) rfl dX8_init_800 rfl ?_
  refine k_aload (pc2 := 804) dX8_init_803 rfl rfl (by decide) ?_
  refine k_iconst (pc2 := 805) dX8_init_804 rfl ?_
  refine k_newa2 (pc2 := 807) (a := 91) (cs2 := (w_111 ++ [(102, List.replicate 3 0)])) (Or.inr (Or.inr ⟨rfl, rfl⟩)) (bw_t tt_6 151 rfl rfl) (by decide) dX8_init_805 rfl (by decide +kernel) (by decide +kernel) (by decide +kernel) rfl rfl ?_
  refine k_dup (pc2 := 808) dX8_init_807 rfl (by decide) ?_
  refine k_iconst (pc2 := 809) dX8_init_808 rfl ?_
  refine k_bipush (pc2 := 811) dX8_init_809 rfl rfl ?_
  refine k_ast (pc2 := 812) (row := List.replicate 3 0) (cs2 := (w_111 ++ [(102, [110, 0, 0])])) (Or.inr ⟨dX8_init_811, rfl, rfl⟩) (by decide +kernel) rfl (by decide) rfl rfl ?_
  refine k_dup (pc2 := 813) dX8_init_812 rfl (by decide) ?_
  refine k_iconst (pc2 := 814) dX8_init_813 rfl ?_
  refine k_bipush (pc2 := 816) dX8_init_814 rfl rfl ?_
  refine k_ast (pc2 := 817) (row := [110, 0, 0]) (cs2 := (w_111 ++ [(102, [110, 111, 0])])) (Or.inr ⟨dX8_init_816, rfl, rfl⟩) (by decide +kernel) rfl (by decide) rfl rfl ?_
  refine k_dup (pc2 := 818) dX8_init_817 rfl (by decide) ?_
  refine k_iconst (pc2 := 819) dX8_init_818 rfl ?_
  refine k_bipush (pc2 := 821) dX8_init_819 rfl rfl ?_
  refine k_ast (pc2 := 822) (row := [110, 111, 0]) (cs2 := (w_111 ++ [(102, [110, 111, 116])])) (Or.inr ⟨dX8_init_821, rfl, rfl⟩) (by decide +kernel) rfl (by decide) rfl rfl ?_
  refine k_put (pc2 := 825) (x := 91) (v := aR 91) (row := [63, 0, 0, 0, 0, 0, 0, 0, -1, 64, 0, 65, 66, 67, 68, 69, 70, 71, 72, 73, 74, 75, 76, 77, 78, 79, 80, 81, 82, 83, 84, 85, 86, 87, 88, 89, 90, -1, -1, -1, -1, 0, -1, -1, -1, -1, -1, -1, -1, -1, -1, 0, 0, 0, 0, 0, 0, 0, -1, -1, -1, -1, -1, -1, 0, -1, 0, -1, -1, -1, -1, -1, -1, -1, -1, 0, -1, -1, -1, -1, -1, -1, -1, 0, 0, 0, 0, 0, 0, -1, -1, -1, -1, -1, -1, -1, -1, -1, -1, -1, -1, -1, -1, -1, -1, -1, -1, -1, -1, -1, -1, -1, 0, -1, 0, 0, 0, -1, 0, 0, 0, -1, 0]) (cs2 := w_112) (ty := tyX8) fl_X8_99 rfl tyX8_ok nmX8 (Or.inr ⟨rfl, rfl, rfl, bw_t tt_5 58 rfl rfl⟩) (by decide +kernel) rfl (by decide +kernel) (fun _ => rfl) (fun g => pn_a (x := 91) (by decide) _ g) rfl dX8_init_822 rfl ?_
  refine k_aload (pc2 := 826) dX8_init_825 rfl rfl (by decide) ?_
  refine k_iconst (pc2 := 827) dX8_init_826 rfl ?_
  refine k_newa2 (pc2 := 829) (a := 92) (cs2 := (w_112 ++ [(102, List.replicate 3 0)])) (Or.inr (Or.inr ⟨rfl, rfl⟩)) (bw_t tt_6 151 rfl rfl) (by decide) dX8_init_827 rfl (by decide +kernel) (by decide +kernel) (by decide +kernel) rfl rfl ?_
  refine k_dup (pc2 := 830) dX8_init_829 rfl (by decide) ?_
  refine k_iconst (pc2 := 831) dX8_init_830 rfl ?_
  refine k_bipush (pc2 := 833) dX8_init_831 rfl rfl ?_
  refine k_ast (pc2 := 834) (row := List.replicate 3 0) (cs2 := (w_112 ++ [(102, [97, 0, 0])])) (Or.inr ⟨dX8_init_833, rfl, rfl⟩) (by decide +kernel) rfl (by decide) rfl rfl ?_
  refine k_dup (pc2 := 835) dX8_init_834 rfl (by decide) ?_
  refine k_iconst (pc2 := 836) dX8_init_835 rfl ?_
  refine k_bipush (pc2 := 838) dX8_init_836 rfl rfl ?_
  refine k_ast (pc2 := 839) (row := [97, 0, 0]) (cs2 := (w_112 ++ [(102, [97, 108, 0])])) (Or.inr ⟨dX8_init_838, rfl, rfl⟩) (by decide +kernel) rfl (by decide) rfl rfl ?_
  refine k_dup (pc2 := 840) dX8_init_839 rfl (by decide) ?_
  refine k_iconst (pc2 := 841) dX8_init_840 rfl ?_
  refine k_bipush (pc2 := 843) dX8_init_841 rfl rfl ?_
  refine k_ast (pc2 := 844) (row := [97, 108, 0]) (cs2 := (w_112 ++ [(102, [97, 108, 108])])) (Or.inr ⟨dX8_init_843, rfl, rfl⟩) (by decide +kernel) rfl (by decide) rfl rfl ?_
  refine k_put (pc2 := 847) (x := 92) (v := aR 92) (row := [63, 0, 0, 0, 0, 0, 0, 0, -1, 64, 0, 65, 66, 67, 68, 69, 70, 71, 72, 73, 74, 75, 76, 77, 78, 79, 80, 81, 82, 83, 84, 85, 86, 87, 88, 89, 90, 91, -1, -1, -1, 0, -1, -1, -1, -1, -1, -1, -1, -1, -1, 0, 0, 0, 0, 0, 0, 0, -1, -1, -1, -1, -1, -1, 0, -1, 0, -1, -1, -1, -1, -1, -1, -1, -1, 0, -1, -1, -1, -1, -1, -1, -1, 0, 0, 0, 0, 0, 0, -1, -1, -1, -1, -1, -1, -1, -1, -1, -1, -1, -1, -1, -1, -1, -1, -1, -1, -1, -1, -1, -1, -1, 0, -1, 0, 0, 0, -1, 0, 0, 0, -1, 0]) (cs2 := w_113) (ty := tyX8) fl_X8_102 rfl tyX8_ok nmX8 (Or.inr ⟨rfl, rfl, rfl, bw_t tt_5 59 rfl rfl⟩) (by decide +kernel) rfl (by decide +kernel) (fun _ => rfl) (fun g => pn_a (x := 92) (by decide) _ g) rfl dX8_init_844 rfl ?_
  refine k_aload (pc2 := 848) dX8_init_847 rfl rfl (by decide) ?_
  refine k_iconst (pc2 := 849) dX8_init_848 rfl ?_
  refine k_newa2 (pc2 := 851) (a := 93) (cs2 := (w_113 ++ [(102, List.replicate 3 0)])) (Or.inr (Or.inr ⟨rfl, rfl⟩)) (bw_t tt_6 151 rfl rfl) (by decide) dX8_init_849 rfl (by decide +kernel) (by decide +kernel) (by decide +kernel) rfl rfl ?_
  refine k_dup (pc2 := 852) dX8_init_851 rfl (by decide) ?_
  refine k_iconst (pc2 := 853) dX8_init_852 rfl ?_
  refine k_bipush (pc2 := 855) dX8_init_853 rfl rfl ?_
  refine k_ast (pc2 := 856) (row := List.replicate 3 0) (cs2 := (w_113 ++ [(102, [109, 0, 0])])) (Or.inr ⟨dX8_init_855, rfl, rfl⟩) (by decide +kernel) rfl (by decide) rfl rfl ?_
  refine k_dup (pc2 := 857) dX8_init_856 rfl (by decide) ?_
  refine k_iconst (pc2 := 858) dX8_init_857 rfl ?_
  refine k_bipush (pc2 := 860) dX8_init_858 rfl rfl ?_
  refine k_ast (pc2 := 861) (row := [109, 0, 0]) (cs2 := (w_113 ++ [(102, [109, 105, 0])])) (Or.inr ⟨dX8_init_860, rfl, rfl⟩) (by decide +kernel) rfl (by decide) rfl rfl ?_
  refine k_dup (pc2 := 862) dX8_init_861 rfl (by decide) ?_
  refine k_iconst (pc2 := 863) dX8_init_862 rfl ?_
  refine k_bipush (pc2 := 865) dX8_init_863 rfl rfl ?_
  refine k_ast (pc2 := 866) (row := [109, 105, 0]) (cs2 := (w_113 ++ [(102, [109, 105, 110])])) (Or.inr ⟨dX8_init_865, rfl, rfl⟩) (by decide +kernel) rfl (by decide) rfl rfl ?_
  refine k_put (pc2 := 869) (x := 93) (v := aR 93) (row := [63, 0, 0, 0, 0, 0, 0, 0, -1, 64, 0, 65, 66, 67, 68, 69, 70, 71, 72, 73, 74, 75, 76, 77, 78, 79, 80, 81, 82, 83, 84, 85, 86, 87, 88, 89, 90, 91, 92, -1, -1, 0, -1, -1, -1, -1, -1, -1, -1, -1, -1, 0, 0, 0, 0, 0, 0, 0, -1, -1, -1, -1, -1, -1, 0, -1, 0, -1, -1, -1, -1, -1, -1, -1, -1, 0, -1, -1, -1, -1, -1, -1, -1, 0, 0, 0, 0, 0, 0, -1, -1, -1, -1, -1, -1, -1, -1, -1, -1, -1, -1, -1, -1, -1, -1, -1, -1, -1, -1, -1, -1, -1, 0, -1, 0, 0, 0, -1, 0, 0, 0, -1, 0]) (cs2 := w_114) (ty := tyX8) fl_X8_105 rfl tyX8_ok nmX8 (Or.inr ⟨rfl, rfl, rfl, bw_t tt_5 60 rfl rfl⟩) (by decide +kernel) rfl (by decide +kernel) (fun _ => rfl) (fun g => pn_a (x := 93) (by decide) _ g) rfl dX8_init_866 rfl ?_
  refine k_aload (pc2 := 870) dX8_init_869 rfl rfl (by decide) ?_
  refine k_iconst (pc2 := 871) dX8_init_870 rfl ?_
  refine k_newa2 (pc2 := 873) (a := 94) (cs2 := (w_114 ++ [(102, List.replicate 3 0)])) (Or.inr (Or.inr ⟨rfl, rfl⟩)) (bw_t tt_6 151 rfl rfl) (by decide) dX8_init_871 rfl (by decide +kernel) (by decide +kernel) (by decide +kernel) rfl rfl ?_
  refine k_dup (pc2 := 874) dX8_init_873 rfl (by decide) ?_
  refine k_iconst (pc2 := 875) dX8_init_874 rfl ?_
  refine k_bipush (pc2 := 877) dX8_init_875 rfl rfl ?_
  refine k_ast (pc2 := 878) (row := List.replicate 3 0) (cs2 := (w_114 ++ [(102, [109, 0, 0])])) (Or.inr ⟨dX8_init_877, rfl, rfl⟩) (by decide +kernel) rfl (by decide) rfl rfl ?_
  refine k_dup (pc2 := 879) dX8_init_878 rfl (by decide) ?_
  refine k_iconst (pc2 := 880) dX8_init_879 rfl ?_
  refine k_bipush (pc2 := 882) dX8_init_880 rfl rfl ?_
  refine k_ast (pc2 := 883) (row := [109, 0, 0]) (cs2 := (w_114 ++ [(102, [109, 97, 0])])) (Or.inr ⟨dX8_init_882, rfl, rfl⟩) (by decide +kernel) rfl (by decide) rfl rfl ?_
  refine k_dup (pc2 := 884) dX8_init_883 rfl (by decide) ?_
  refine k_iconst (pc2 := 885) dX8_init_884 rfl ?_
  refine k_bipush (pc2 := 887) dX8_init_885 rfl rfl ?_
  refine k_ast (pc2 := 888) (row := [109, 97, 0]) (cs2 := (w_114 ++ [(102, [109, 97, 120])])) (Or.inr ⟨dX8_init_887, rfl, rfl⟩) (by decide +kernel) rfl (by decide) rfl rfl ?_
  refine k_put (pc2 := 891) (x := 94) (v := aR 94) (row := [63, 0, 0, 0, 0, 0, 0, 0, -1, 64, 0, 65, 66, 67, 68, 69, 70, 71, 72, 73, 74, 75, 76, 77, 78, 79, 80, 81, 82, 83, 84, 85, 86, 87, 88, 89, 90, 91, 92, 93, -1, 0, -1, -1, -1, -1, -1, -1, -1, -1, -1, 0, 0, 0, 0, 0, 0, 0, -1, -1, -1, -1, -1, -1, 0, -1, 0, -1, -1, -1, -1, -1, -1, -1, -1, 0, -1, -1, -1, -1, -1, -1, -1, 0, 0, 0, 0, 0, 0, -1, -1, -1, -1, -1, -1, -1, -1, -1, -1, -1, -1, -1, -1, -1, -1, -1, -1, -1, -1, -1, -1, -1, 0, -1, 0, 0, 0, -1, 0, 0, 0, -1, 0]) (cs2 := w_115) (ty := tyX8) fl_X8_108 rfl tyX8_ok nmX8 (Or.inr ⟨rfl, rfl, rfl, bw_t tt_5 61 rfl rfl⟩) (by decide +kernel) rfl (by decide +kernel) (fun _ => rfl) (fun g => pn_a (x := 94) (by decide) _ g) rfl dX8_init_888 rfl ?_
  refine k_aload (pc2 := 892) dX8_init_891 rfl rfl (by decide) ?_
  refine k_bipush (pc2 := 894) dX8_init_892 rfl rfl ?_
  refine k_newa2 (pc2 := 896) (a := 95) (cs2 := (w_115 ++ [(100, List.replicate 6 0)])) (Or.inl ⟨rfl, rfl⟩) (bw_t tt_1 49 rfl rfl) (by decide) dX8_init_894 rfl (by decide +kernel) (by decide +kernel) (by decide +kernel) rfl rfl ?_
  refine k_put (pc2 := 899) (x := 95) (v := aR 95) (row := [63, 0, 0, 0, 0, 0, 0, 0, -1, 64, 0, 65, 66, 67, 68, 69, 70, 71, 72, 73, 74, 75, 76, 77, 78, 79, 80, 81, 82, 83, 84, 85, 86, 87, 88, 89, 90, 91, 92, 93, 94, 0, -1, -1, -1, -1, -1, -1, -1, -1, -1, 0, 0, 0, 0, 0, 0, 0, -1, -1, -1, -1, -1, -1, 0, -1, 0, -1, -1, -1, -1, -1, -1, -1, -1, 0, -1, -1, -1, -1, -1, -1, -1, 0, 0, 0, 0, 0, 0, -1, -1, -1, -1, -1, -1, -1, -1, -1, -1, -1, -1, -1, -1, -1, -1, -1, -1, -1, -1, -1, -1, -1, 0, -1, 0, 0, 0, -1, 0, 0, 0, -1, 0]) (cs2 := w_116) (ty := tyX8) fl_X8_111 rfl tyX8_ok nmX8 (Or.inr ⟨rfl, rfl, rfl, bw_t tt_5 63 rfl rfl⟩) (by decide +kernel) rfl (by decide +kernel) (fun _ => rfl) (fun g => pn_a (x := 95) (by decide) _ g) rfl dX8_init_896 rfl ?_
  refine k_aload (pc2 := 900) dX8_init_899 rfl rfl (by decide) ?_
  refine k_bipush (pc2 := 902) dX8_init_900 rfl rfl ?_
  refine k_newa2 (pc2 := 904) (a := 96) (cs2 := (w_116 ++ [(101, List.replicate 40 0)])) (Or.inr (Or.inl ⟨rfl, rfl⟩)) (bw_t tt_1 201 rfl rfl) (by decide) dX8_init_902 rfl (by decide +kernel) (by decide +kernel) (by decide +kernel) rfl rfl ?_
  refine k_put (pc2 := 907) (x := 96) (v := aR 96) (row := [63, 0, 0, 0, 0, 0, 0, 0, -1, 64, 0, 65, 66, 67, 68, 69, 70, 71, 72, 73, 74, 75, 76, 77, 78, 79, 80, 81, 82, 83, 84, 85, 86, 87, 88, 89, 90, 91, 92, 93, 94, 0, 95, -1, -1, -1, -1, -1, -1, -1, -1, 0, 0, 0, 0, 0, 0, 0, -1, -1, -1, -1, -1, -1, 0, -1, 0, -1, -1, -1, -1, -1, -1, -1, -1, 0, -1, -1, -1, -1, -1, -1, -1, 0, 0, 0, 0, 0, 0, -1, -1, -1, -1, -1, -1, -1, -1, -1, -1, -1, -1, -1, -1, -1, -1, -1, -1, -1, -1, -1, -1, -1, 0, -1, 0, 0, 0, -1, 0, 0, 0, -1, 0]) (cs2 := w_117) (ty := tyX8) fl_X8_114 rfl tyX8_ok nmX8 (Or.inr ⟨rfl, rfl, rfl, bw_t tt_5 64 rfl rfl⟩) (by decide +kernel) rfl (by decide +kernel) (fun _ => rfl) (fun g => pn_a (x := 96) (by decide) _ g) rfl dX8_init_904 rfl ?_
  refine k_aload (pc2 := 908) dX8_init_907 rfl rfl (by decide) ?_
  refine k_bipush (pc2 := 910) dX8_init_908 rfl rfl ?_
  refine k_newa2 (pc2 := 912) (a := 97) (cs2 := (w_117 ++ [(100, List.replicate 12 0)])) (Or.inl ⟨rfl, rfl⟩) (bw_t tt_1 49 rfl rfl) (by decide) dX8_init_910 rfl (by decide +kernel) (by decide +kernel) (by decide +kernel) rfl rfl ?_
  refine k_put (pc2 := 915) (x := 97) (v := aR 97) (row := [63, 0, 0, 0, 0, 0, 0, 0, -1, 64, 0, 65, 66, 67, 68, 69, 70, 71, 72, 73, 74, 75, 76, 77, 78, 79, 80, 81, 82, 83, 84, 85, 86, 87, 88, 89, 90, 91, 92, 93, 94, 0, 95, 96, -1, -1, -1, -1, -1, -1, -1, 0, 0, 0, 0, 0, 0, 0, -1, -1, -1, -1, -1, -1, 0, -1, 0, -1, -1, -1, -1, -1, -1, -1, -1, 0, -1, -1, -1, -1, -1, -1, -1, 0, 0, 0, 0, 0, 0, -1, -1, -1, -1, -1, -1, -1, -1, -1, -1, -1, -1, -1, -1, -1, -1, -1, -1, -1, -1, -1, -1, -1, 0, -1, 0, 0, 0, -1, 0, 0, 0, -1, 0]) (cs2 := w_118) (ty := tyX8) fl_X8_118 rfl tyX8_ok nmX8 (Or.inr ⟨rfl, rfl, rfl, bw_t tt_5 65 rfl rfl⟩) (by decide +kernel) rfl (by decide +kernel) (fun _ => rfl) (fun g => pn_a (x := 97) (by decide) _ g) rfl dX8_init_912 rfl ?_
  refine k_aload (pc2 := 916) dX8_init_915 rfl rfl (by decide) ?_
  refine k_bipush (pc2 := 918) dX8_init_916 rfl rfl ?_
  refine k_newa2 (pc2 := 920) (a := 98) (cs2 := (w_118 ++ [(100, List.replicate 12 0)])) (Or.inl ⟨rfl, rfl⟩) (bw_t tt_1 49 rfl rfl) (by decide) dX8_init_918 rfl (by decide +kernel) (by decide +kernel) (by decide +kernel) rfl rfl ?_
  refine k_put (pc2 := 923) (x := 98) (v := aR 98) (row := [63, 0, 0, 0, 0, 0, 0, 0, -1, 64, 0, 65, 66, 67, 68, 69, 70, 71, 72, 73, 74, 75, 76, 77, 78, 79, 80, 81, 82, 83, 84, 85, 86, 87, 88, 89, 90, 91, 92, 93, 94, 0, 95, 96, 97, -1, -1, -1, -1, -1, -1, 0, 0, 0, 0, 0, 0, 0, -1, -1, -1, -1, -1, -1, 0, -1, 0, -1, -1, -1, -1, -1, -1, -1, -1, 0, -1, -1, -1, -1, -1, -1, -1, 0, 0, 0, 0, 0, 0, -1, -1, -1, -1, -1, -1, -1, -1, -1, -1, -1, -1, -1, -1, -1, -1, -1, -1, -1, -1, -1, -1, -1, 0, -1, 0, 0, 0, -1, 0, 0, 0, -1, 0]) (cs2 := w_119) (ty := tyX8) fl_X8_121 rfl tyX8_ok nmX8 (Or.inr ⟨rfl, rfl, rfl, bw_t tt_5 66 rfl rfl⟩) (by decide +kernel) rfl (by decide +kernel) (fun _ => rfl) (fun g => pn_a (x := 98) (by decide) _ g) rfl dX8_init_920 rfl ?_
  refine k_aload (pc2 := 924) dX8_init_923 rfl rfl (by decide) ?_
  refine k_sipush (pc2 := 927) dX8_init_924 rfl rfl ?_
  refine k_newa2 (pc2 := 929) (a := 99) (cs2 := (w_119 ++ [(100, List.replicate 140 0)])) (Or.inl ⟨rfl, rfl⟩) (bw_t tt_1 49 rfl rfl) (by decide) dX8_init_927 rfl (by decide +kernel) (by decide +kernel) (by decide +kernel) rfl rfl ?_
  refine k_put (pc2 := 932) (x := 99) (v := aR 99) (row := [63, 0, 0, 0, 0, 0, 0, 0, -1, 64, 0, 65, 66, 67, 68, 69, 70, 71, 72, 73, 74, 75, 76, 77, 78, 79, 80, 81, 82, 83, 84, 85, 86, 87, 88, 89, 90, 91, 92, 93, 94, 0, 95, 96, 97, 98, -1, -1, -1, -1, -1, 0, 0, 0, 0, 0, 0, 0, -1, -1, -1, -1, -1, -1, 0, -1, 0, -1, -1, -1, -1, -1, -1, -1, -1, 0, -1, -1, -1, -1, -1, -1, -1, 0, 0, 0, 0, 0, 0, -1, -1, -1, -1, -1, -1, -1, -1, -1, -1, -1, -1, -1, -1, -1, -1, -1, -1, -1, -1, -1, -1, -1, 0, -1, 0, 0, 0, -1, 0, 0, 0, -1, 0]) (cs2 := w_120) (ty := tyX8) fl_X8_124 rfl tyX8_ok nmX8 (Or.inr ⟨rfl, rfl, rfl, bw_t tt_5 67 rfl rfl⟩) (by decide +kernel) rfl (by decide +kernel) (fun _ => rfl) (fun g => pn_a (x := 99) (by decide) _ g) rfl dX8_init_929 rfl ?_
  refine k_aload (pc2 := 933) dX8_init_932 rfl rfl (by decide) ?_
  refine k_bipush (pc2 := 935) dX8_init_933 rfl rfl ?_
  refine k_newa2 (pc2 := 937) (a := 100) (cs2 := (w_120 ++ [(100, List.replicate 12 0)])) (Or.inl ⟨rfl, rfl⟩) (bw_t tt_1 49 rfl rfl) (by decide) dX8_init_935 rfl (by decide +kernel) (by decide +kernel) (by decide +kernel) rfl rfl ?_
  refine k_dup (pc2 := 938) dX8_init_937 rfl (by decide) ?_
  refine k_iconst (pc2 := 939) dX8_init_938 rfl ?_
  refine k_iconst (pc2 := 940) dX8_init_939 rfl ?_
  refine k_ast (pc2 := 941) (row := List.replicate 12 0) (cs2 := (w_120 ++ [(100, [2, 0, 0, 0, 0, 0, 0, 0, 0, 0, 0, 0])])) (Or.inl ⟨dX8_init_940, rfl⟩) (by decide +kernel) rfl (by decide) rfl rfl ?_
  refine k_dup (pc2 := 942) dX8_init_941 rfl (by decide) ?_
  refine k_iconst (pc2 := 943) dX8_init_942 rfl ?_
  refine k_bipush (pc2 := 945) dX8_init_943 rfl rfl ?_
  refine k_ast (pc2 := 946) (row := [2, 0, 0, 0, 0, 0, 0, 0, 0, 0, 0, 0]) (cs2 := (w_120 ++ [(100, [2, 9, 0, 0, 0, 0, 0, 0, 0, 0, 0, 0])])) (Or.inl ⟨dX8_init_945, rfl⟩) (by decide +kernel) rfl (by decide) rfl rfl ?_
  refine k_dup (pc2 := 947) dX8_init_946 rfl (by decide) ?_
  refine k_iconst (pc2 := 948) dX8_init_947 rfl ?_
  refine k_iconst (pc2 := 949) dX8_init_948 rfl ?_
  refine k_ast (pc2 := 950) (row := [2, 9, 0, 0, 0, 0, 0, 0, 0, 0, 0, 0]) (cs2 := (w_120 ++ [(100, [2, 9, 1, 0, 0, 0, 0, 0, 0, 0, 0, 0])])) (Or.inl ⟨dX8_init_949, rfl⟩) (by decide +kernel) rfl (by decide) rfl rfl ?_
  refine k_dup (pc2 := 951) dX8_init_950 rfl (by decide) ?_
  refine k_iconst (pc2 := 952) dX8_init_951 rfl ?_
  refine k_bipush (pc2 := 954) dX8_init_952 rfl rfl ?_
  refine k_ast (pc2 := 955) (row := [2, 9, 1, 0, 0, 0, 0, 0, 0, 0, 0, 0]) (cs2 := (w_120 ++ [(100, [2, 9, 1, 9, 0, 0, 0, 0, 0, 0, 0, 0])])) (Or.inl ⟨dX8_init_954, rfl⟩) (by decide +kernel) rfl (by decide) rfl rfl ?_
  refine k_dup (pc2 := 956) dX8_init_955 rfl (by decide) ?_
  refine k_iconst (pc2 := 957) dX8_init_956 rfl ?_
  refine k_iconst (pc2 := 958) dX8_init_957 rfl ?_
  refine k_ast (pc2 := 959) (row := [2, 9, 1, 9, 0, 0, 0, 0, 0, 0, 0, 0]) (cs2 := (w_120 ++ [(100, [2, 9, 1, 9, 5, 0, 0, 0, 0, 0, 0, 0])])) (Or.inl ⟨dX8_init_958, rfl⟩) (by decide +kernel) rfl (by decide) rfl rfl ?_
  refine k_dup (pc2 := 960) dX8_init_959 rfl (by decide) ?_
  refine k_iconst (pc2 := 961) dX8_init_960 rfl ?_
  refine k_iconst (pc2 := 962) dX8_init_961 rfl ?_
  refine k_ast (pc2 := 963) (row := [2, 9, 1, 9, 5, 0, 0, 0, 0, 0, 0, 0]) (cs2 := (w_120 ++ [(100, [2, 9, 1, 9, 5, 1, 0, 0, 0, 0, 0, 0])])) (Or.inl ⟨dX8_init_962, rfl⟩) (by decide +kernel) rfl (by decide) rfl rfl ?_
  refine k_dup (pc2 := 964) dX8_init_963 rfl (by decide) ?_
  refine k_bipush (pc2 := 966) dX8_init_964 rfl rfl ?_
  refine k_iconst (pc2 := 967) dX8_init_966 rfl ?_
  refine k_ast (pc2 := 968) (row := [2, 9, 1, 9, 5, 1, 0, 0, 0, 0, 0, 0]) (cs2 := (w_120 ++ [(100, [2, 9, 1, 9, 5, 1, 2, 0, 0, 0, 0, 0])])) (Or.inl ⟨dX8_init_967, rfl⟩) (by decide +kernel) rfl (by decide) rfl rfl ?_
  refine k_dup (pc2 := 969) dX8_init_968 rfl (by decide) ?_
  refine k_bipush (pc2 := 971) dX8_init_969 rfl rfl ?_
  refine k_bipush (pc2 := 973) dX8_init_971 rfl rfl ?_
  refine k_ast (pc2 := 974) (row := [2, 9, 1, 9, 5, 1, 2, 0, 0, 0, 0, 0]) (cs2 := (w_120 ++ [(100, [2, 9, 1, 9, 5, 1, 2, 9, 0, 0, 0, 0])])) (Or.inl ⟨dX8_init_973, rfl⟩) (by decide +kernel) rfl (by decide) rfl rfl ?_
  refine k_dup (pc2 := 975) dX8_init_974 rfl (by decide) ?_
  refine k_bipush (pc2 := 977) dX8_init_975 rfl rfl ?_
  refine k_iconst (pc2 := 978) dX8_init_977 rfl ?_
  refine k_ast (pc2 := 979) (row := [2, 9, 1, 9, 5, 1, 2, 9, 0, 0, 0, 0]) (cs2 := (w_120 ++ [(100, [2, 9, 1, 9, 5, 1, 2, 9, 1, 0, 0, 0])])) (Or.inl ⟨dX8_init_978, rfl⟩) (by decide +kernel) rfl (by decide) rfl rfl ?_
  refine k_dup (pc2 := 980) dX8_init_979 rfl (by decide) ?_
  refine k_bipush (pc2 := 982) dX8_init_980 rfl rfl ?_
  refine k_bipush (pc2 := 984) dX8_init_982 rfl rfl ?_
  refine k_ast (pc2 := 985) (row := [2, 9, 1, 9, 5, 1, 2, 9, 1, 0, 0, 0]) (cs2 := (w_120 ++ [(100, [2, 9, 1, 9, 5, 1, 2, 9, 1, 9, 0, 0])])) (Or.inl ⟨dX8_init_984, rfl⟩) (by decide +kernel) rfl (by decide) rfl rfl ?_
  refine k_dup (pc2 := 986) dX8_init_985 rfl (by decide) ?_
  refine k_bipush (pc2 := 988) dX8_init_986 rfl rfl ?_
  refine k_iconst (pc2 := 989) dX8_init_988 rfl ?_
  refine k_ast (pc2 := 990) (row := [2, 9, 1, 9, 5, 1, 2, 9, 1, 9, 0, 0]) (cs2 := (w_120 ++ [(100, [2, 9, 1, 9, 5, 1, 2, 9, 1, 9, 5, 0])])) (Or.inl ⟨dX8_init_989, rfl⟩) (by decide +kernel) rfl (by decide) rfl rfl ?_
  refine k_dup (pc2 := 991) dX8_init_990 rfl (by decide) ?_
  refine k_bipush (pc2 := 993) dX8_init_991 rfl rfl ?_
  refine k_iconst (pc2 := 994) dX8_init_993 rfl ?_
  refine k_ast (pc2 := 995) (row := [2, 9, 1, 9, 5, 1, 2, 9, 1, 9, 5, 0]) (cs2 := (w_120 ++ [(100, [2, 9, 1, 9, 5, 1, 2, 9, 1, 9, 5, 1])])) (Or.inl ⟨dX8_init_994, rfl⟩) (by decide +kernel) rfl (by decide) rfl rfl ?_
  refine k_put (pc2 := 998) (x := 100) (v := aR 100) (row := [63, 0, 0, 0, 0, 0, 0, 0, -1, 64, 0, 65, 66, 67, 68, 69, 70, 71, 72, 73, 74, 75, 76, 77, 78, 79, 80, 81, 82, 83, 84, 85, 86, 87, 88, 89, 90, 91, 92, 93, 94, 0, 95, 96, 97, 98, 99, -1, -1, -1, -1, 0, 0, 0, 0, 0, 0, 0, -1, -1, -1, -1, -1, -1, 0, -1, 0, -1, -1, -1, -1, -1, -1, -1, -1, 0, -1, -1, -1, -1, -1, -1, -1, 0, 0, 0, 0, 0, 0, -1, -1, -1, -1, -1, -1, -1, -1, -1, -1, -1, -1, -1, -1, -1, -1, -1, -1, -1, -1, -1, -1, -1, 0, -1, 0, 0, 0, -1, 0, 0, 0, -1, 0]) (cs2 := w_121) (ty := tyX8) fl_X8_127 rfl tyX8_ok nmX8 (Or.inr ⟨rfl, rfl, rfl, bw_t tt_5 68 rfl rfl⟩) (by decide +kernel) rfl (by decide +kernel) (fun _ => rfl) (fun g => pn_a (x := 100) (by decide) _ g) rfl dX8_init_995 rfl ?_
  refine k_aload (pc2 := 999) dX8_init_998 rfl rfl (by decide) ?_
  refine k_bipush (pc2 := 1001) dX8_init_999 rfl rfl ?_
  refine k_newa2 (pc2 := 1003) (a := 101) (cs2 := (w_121 ++ [(100, List.replicate 8 0)])) (Or.inl ⟨rfl, rfl⟩) (bw_t tt_1 49 rfl rfl) (by decide) dX8_init_1001 rfl (by decide +kernel) (by decide +kernel) (by decide +kernel) rfl rfl ?_
  refine k_put (pc2 := 1006) (x := 101) (v := aR 101) (row := [63, 0, 0, 0, 0, 0, 0, 0, -1, 64, 0, 65, 66, 67, 68, 69, 70, 71, 72, 73, 74, 75, 76, 77, 78, 79, 80, 81, 82, 83, 84, 85, 86, 87, 88, 89, 90, 91, 92, 93, 94, 0, 95, 96, 97, 98, 99, 100, -1, -1, -1, 0, 0, 0, 0, 0, 0, 0, -1, -1, -1, -1, -1, -1, 0, -1, 0, -1, -1, -1, -1, -1, -1, -1, -1, 0, -1, -1, -1, -1, -1, -1, -1, 0, 0, 0, 0, 0, 0, -1, -1, -1, -1, -1, -1, -1, -1, -1, -1, -1, -1, -1, -1, -1, -1, -1, -1, -1, -1, -1, -1, -1, 0, -1, 0, 0, 0, -1, 0, 0, 0, -1, 0]) (cs2 := w_122) (ty := tyX8) fl_X8_130 rfl tyX8_ok nmX8 (Or.inr ⟨rfl, rfl, rfl, bw_t tt_5 69 rfl rfl⟩) (by decide +kernel) rfl (by decide +kernel) (fun _ => rfl) (fun g => pn_a (x := 101) (by decide) _ g) rfl dX8_init_1003 rfl ?_
  refine k_aload (pc2 := 1007) dX8_init_1006 rfl rfl (by decide) ?_
  refine k_bipush (pc2 := 1009) dX8_init_1007 rfl rfl ?_
  refine k_newa2 (pc2 := 1011) (a := 102) (cs2 := (w_122 ++ [(100, List.replicate 8 0)])) (Or.inl ⟨rfl, rfl⟩) (bw_t tt_1 49 rfl rfl) (by decide) dX8_init_1009 rfl (by decide +kernel) (by decide +kernel) (by decide +kernel) rfl rfl ?_
  refine k_put (pc2 := 1014) (x := 102) (v := aR 102) (row := [63, 0, 0, 0, 0, 0, 0, 0, -1, 64, 0, 65, 66, 67, 68, 69, 70, 71, 72, 73, 74, 75, 76, 77, 78, 79, 80, 81, 82, 83, 84, 85, 86, 87, 88, 89, 90, 91, 92, 93, 94, 0, 95, 96, 97, 98, 99, 100, 101, -1, -1, 0, 0, 0, 0, 0, 0, 0, -1, -1, -1, -1, -1, -1, 0, -1, 0, -1, -1, -1, -1, -1, -1, -1, -1, 0, -1, -1, -1, -1, -1, -1, -1, 0, 0, 0, 0, 0, 0, -1, -1, -1, -1, -1, -1, -1, -1, -1, -1, -1, -1, -1, -1, -1, -1, -1, -1, -1, -1, -1, -1, -1, 0, -1, 0, 0, 0, -1, 0, 0, 0, -1, 0]) (cs2 := w_123) (ty := tyX8) fl_X8_133 rfl tyX8_ok nmX8 (Or.inr ⟨rfl, rfl, rfl, bw_t tt_5 70 rfl rfl⟩) (by decide +kernel) rfl (by decide +kernel) (fun _ => rfl) (fun g => pn_a (x := 102) (by decide) _ g) rfl dX8_init_1011 rfl ?_
  refine k_aload (pc2 := 1015) dX8_init_1014 rfl rfl (by decide) ?_
  refine k_sipush (pc2 := 1018) dX8_init_1015 rfl rfl ?_
  refine k_newa2 (pc2 := 1020) (a := 103) (cs2 := (w_123 ++ [(100, List.replicate 3200 0)])) (Or.inl ⟨rfl, rfl⟩) (bw_t tt_1 49 rfl rfl) (by decide) dX8_init_1018 rfl (by decide +kernel) (by decide +kernel) (by decide +kernel) rfl rfl ?_
  refine k_put (pc2 := 1023) (x := 103) (v := aR 103) (row := [63, 0, 0, 0, 0, 0, 0, 0, -1, 64, 0, 65, 66, 67, 68, 69, 70, 71, 72, 73, 74, 75, 76, 77, 78, 79, 80, 81, 82, 83, 84, 85, 86, 87, 88, 89, 90, 91, 92, 93, 94, 0, 95, 96, 97, 98, 99, 100, 101, 102, -1, 0, 0, 0, 0, 0, 0, 0, -1, -1, -1, -1, -1, -1, 0, -1, 0, -1, -1, -1, -1, -1, -1, -1, -1, 0, -1, -1, -1, -1, -1, -1, -1, 0, 0, 0, 0, 0, 0, -1, -1, -1, -1, -1, -1, -1, -1, -1, -1, -1, -1, -1, -1, -1, -1, -1, -1, -1, -1, -1, -1, -1, 0, -1, 0, 0, 0, -1, 0, 0, 0, -1, 0]) (cs2 := w_124) (ty := tyX8) fl_X8_136 rfl tyX8_ok nmX8 (Or.inr ⟨rfl, rfl, rfl, bw_t tt_5 71 rfl rfl⟩) (by decide +kernel) rfl (by decide +kernel) (fun _ => rfl) (fun g => pn_a (x := 103) (by decide) _ g) rfl dX8_init_1020 rfl ?_
  refine k_aload (pc2 := 1024) dX8_init_1023 rfl rfl (by decide) ?_
  refine k_bipush (pc2 := 1026) dX8_init_1024 rfl rfl ?_
  refine k_newa2 (pc2 := 1028) (a := 104) (cs2 := (w_124 ++ [(101, List.replicate 7 0)])) (Or.inr (Or.inl ⟨rfl, rfl⟩)) (bw_t tt_1 201 rfl rfl) (by decide) dX8_init_1026 rfl (by decide +kernel) (by decide +kernel) (by decide +kernel) rfl rfl ?_
  refine k_put (pc2 := 1031) (x := 104) (v := aR 104) (row := [63, 0, 0, 0, 0, 0, 0, 0, -1, 64, 0, 65, 66, 67, 68, 69, 70, 71, 72, 73, 74, 75, 76, 77, 78, 79, 80, 81, 82, 83, 84, 85, 86, 87, 88, 89, 90, 91, 92, 93, 94, 0, 95, 96, 97, 98, 99, 100, 101, 102, 103, 0, 0, 0, 0, 0, 0, 0, -1, -1, -1, -1, -1, -1, 0, -1, 0, -1, -1, -1, -1, -1, -1, -1, -1, 0, -1, -1, -1, -1, -1, -1, -1, 0, 0, 0, 0, 0, 0, -1, -1, -1, -1, -1, -1, -1, -1, -1, -1, -1, -1, -1, -1, -1, -1, -1, -1, -1, -1, -1, -1, -1, 0, -1, 0, 0, 0, -1, 0, 0, 0, -1, 0]) (cs2 := w_125) (ty := tyX8) fl_X8_139 rfl tyX8_ok nmX8 (Or.inr ⟨rfl, rfl, rfl, bw_t tt_5 79 rfl rfl⟩) (by decide +kernel) rfl (by decide +kernel) (fun _ => rfl) (fun g => pn_a (x := 104) (by decide) _ g) rfl dX8_init_1028 rfl ?_
  refine k_aload (pc2 := 1032) dX8_init_1031 rfl rfl (by decide) ?_
  refine k_bipush (pc2 := 1034) dX8_init_1032 rfl rfl ?_
  refine k_newa2 (pc2 := 1036) (a := 105) (cs2 := (w_125 ++ [(101, List.replicate 7 0)])) (Or.inr (Or.inl ⟨rfl, rfl⟩)) (bw_t tt_1 201 rfl rfl) (by decide) dX8_init_1034 rfl (by decide +kernel) (by decide +kernel) (by decide +kernel) rfl rfl ?_
  refine k_put (pc2 := 1039) (x := 105) (v := aR 105) (row := [63, 0, 0, 0, 0, 0, 0, 0, -1, 64, 0, 65, 66, 67, 68, 69, 70, 71, 72, 73, 74, 75, 76, 77, 78, 79, 80, 81, 82, 83, 84, 85, 86, 87, 88, 89, 90, 91, 92, 93, 94, 0, 95, 96, 97, 98, 99, 100, 101, 102, 103, 0, 0, 0, 0, 0, 0, 0, 104, -1, -1, -1, -1, -1, 0, -1, 0, -1, -1, -1, -1, -1, -1, -1, -1, 0, -1, -1, -1, -1, -1, -1, -1, 0, 0, 0, 0, 0, 0, -1, -1, -1, -1, -1, -1, -1, -1, -1, -1, -1, -1, -1, -1, -1, -1, -1, -1, -1, -1, -1, -1, -1, 0, -1, 0, 0, 0, -1, 0, 0, 0, -1, 0]) (cs2 := w_126) (ty := tyX8) fl_X8_142 rfl tyX8_ok nmX8 (Or.inr ⟨rfl, rfl, rfl, bw_t tt_5 80 rfl rfl⟩) (by decide +kernel) rfl (by decide +kernel) (fun _ => rfl) (fun g => pn_a (x := 105) (by decide) _ g) rfl dX8_init_1036 rfl ?_
  refine k_aload (pc2 := 1040) dX8_init_1039 rfl rfl (by decide) ?_
  refine k_sipush (pc2 := 1043) dX8_init_1040 rfl rfl ?_
  refine k_newa2 (pc2 := 1045) (a := 106) (cs2 := (w_126 ++ [(101, List.replicate 700 0)])) (Or.inr (Or.inl ⟨rfl, rfl⟩)) (bw_t tt_1 201 rfl rfl) (by decide) dX8_init_1043 rfl (by decide +kernel) (by decide +kernel) (by decide +kernel) rfl rfl ?_
  refine k_put (pc2 := 1048) (x := 106) (v := aR 106) (row := [63, 0, 0, 0, 0, 0, 0, 0, -1, 64, 0, 65, 66, 67, 68, 69, 70, 71, 72, 73, 74, 75, 76, 77, 78, 79, 80, 81, 82, 83, 84, 85, 86, 87, 88, 89, 90, 91, 92, 93, 94, 0, 95, 96, 97, 98, 99, 100, 101, 102, 103, 0, 0, 0, 0, 0, 0, 0, 104, 105, -1, -1, -1, -1, 0, -1, 0, -1, -1, -1, -1, -1, -1, -1, -1, 0, -1, -1, -1, -1, -1, -1, -1, 0, 0, 0, 0, 0, 0, -1, -1, -1, -1, -1, -1, -1, -1, -1, -1, -1, -1, -1, -1, -1, -1, -1, -1, -1, -1, -1, -1, -1, 0, -1, 0, 0, 0, -1, 0, 0, 0, -1, 0]) (cs2 := w_127) (ty := tyX8) fl_X8_145 rfl tyX8_ok nmX8 (Or.inr ⟨rfl, rfl, rfl, bw_t tt_5 81 rfl rfl⟩) (by decide +kernel) rfl (by decide +kernel) (fun _ => rfl) (fun g => pn_a (x := 106) (by decide) _ g) rfl dX8_init_1045 rfl ?_
  refine k_aload (pc2 := 1049) dX8_init_1048 rfl rfl (by decide) ?_
  refine k_bipush (pc2 := 1051) dX8_init_1049 rfl rfl ?_
  refine k_newa2 (pc2 := 1053) (a := 107) (cs2 := (w_127 ++ [(100, List.replicate 10 0)])) (Or.inl ⟨rfl, rfl⟩) (bw_t tt_1 49 rfl rfl) (by decide) dX8_init_1051 rfl (by decide +kernel) (by decide +kernel) (by decide +kernel) rfl rfl ?_
  refine k_put (pc2 := 1056) (x := 107) (v := aR 107) (row := [63, 0, 0, 0, 0, 0, 0, 0, -1, 64, 0, 65, 66, 67, 68, 69, 70, 71, 72, 73, 74, 75, 76, 77, 78, 79, 80, 81, 82, 83, 84, 85, 86, 87, 88, 89, 90, 91, 92, 93, 94, 0, 95, 96, 97, 98, 99, 100, 101, 102, 103, 0, 0, 0, 0, 0, 0, 0, 104, 105, 106, -1, -1, -1, 0, -1, 0, -1, -1, -1, -1, -1, -1, -1, -1, 0, -1, -1, -1, -1, -1, -1, -1, 0, 0, 0, 0, 0, 0, -1, -1, -1, -1, -1, -1, -1, -1, -1, -1, -1, -1, -1, -1, -1, -1, -1, -1, -1, -1, -1, -1, -1, 0, -1, 0, 0, 0, -1, 0, 0, 0, -1, 0]) (cs2 := w_128) (ty := tyX8) fl_X8_148 rfl tyX8_ok nmX8 (Or.inr ⟨rfl, rfl, rfl, bw_t tt_5 82 rfl rfl⟩) (by decide +kernel) rfl (by decide +kernel) (fun _ => rfl) (fun g => pn_a (x := 107) (by decide) _ g) rfl dX8_init_1053 rfl ?_
  refine k_aload (pc2 := 1057) dX8_init_1056 rfl rfl (by decide) ?_
  refine k_bipush (pc2 := 1059) dX8_init_1057 rfl rfl ?_
  refine k_newa2 (pc2 := 1061) (a := 108) (cs2 := (w_128 ++ [(100, List.replicate 10 0)])) (Or.inl ⟨rfl, rfl⟩) (bw_t tt_1 49 rfl rfl) (by decide) dX8_init_1059 rfl (by decide +kernel) (by decide +kernel) (by decide +kernel) rfl rfl ?_
  refine k_put (pc2 := 1064) (x := 108) (v := aR 108) (row := [63, 0, 0, 0, 0, 0, 0, 0, -1, 64, 0, 65, 66, 67, 68, 69, 70, 71, 72, 73, 74, 75, 76, 77, 78, 79, 80, 81, 82, 83, 84, 85, 86, 87, 88, 89, 90, 91, 92, 93, 94, 0, 95, 96, 97, 98, 99, 100, 101, 102, 103, 0, 0, 0, 0, 0, 0, 0, 104, 105, 106, 107, -1, -1, 0, -1, 0, -1, -1, -1, -1, -1, -1, -1, -1, 0, -1, -1, -1, -1, -1, -1, -1, 0, 0, 0, 0, 0, 0, -1, -1, -1, -1, -1, -1, -1, -1, -1, -1, -1, -1, -1, -1, -1, -1, -1, -1, -1, -1, -1, -1, -1, 0, -1, 0, 0, 0, -1, 0, 0, 0, -1, 0]) (cs2 := w_129) (ty := tyX8) fl_X8_151 rfl tyX8_ok nmX8 (Or.inr ⟨rfl, rfl, rfl, bw_t tt_5 83 rfl rfl⟩) (by decide +kernel) rfl (by decide +kernel) (fun _ => rfl) (fun g => pn_a (x := 108) (by decide) _ g) rfl dX8_init_1061 rfl ?_
  refine k_aload (pc2 := 1065) dX8_init_1064 rfl rfl (by decide) ?_
  refine k_bipush (pc2 := 1067) dX8_init_1065 rfl rfl ?_
  refine k_newa2 (pc2 := 1069) (a := 109) (cs2 := (w_129 ++ [(100, List.replicate 10 0)])) (Or.inl ⟨rfl, rfl⟩) (bw_t tt_1 49 rfl rfl) (by decide) dX8_init_1067 rfl (by decide +kernel) (by decide +kernel) (by decide +kernel) rfl rfl ?_
  refine k_put (pc2 := 1072) (x := 109) (v := aR 109) (row := [63, 0, 0, 0, 0, 0, 0, 0, -1, 64, 0, 65, 66, 67, 68, 69, 70, 71, 72, 73, 74, 75, 76, 77, 78, 79, 80, 81, 82, 83, 84, 85, 86, 87, 88, 89, 90, 91, 92, 93, 94, 0, 95, 96, 97, 98, 99, 100, 101, 102, 103, 0, 0, 0, 0, 0, 0, 0, 104, 105, 106, 107, 108, -1, 0, -1, 0, -1, -1, -1, -1, -1, -1, -1, -1, 0, -1, -1, -1, -1, -1, -1, -1, 0, 0, 0, 0, 0, 0, -1, -1, -1, -1, -1, -1, -1, -1, -1, -1, -1, -1, -1, -1, -1, -1, -1, -1, -1, -1, -1, -1, -1, 0, -1, 0, 0, 0, -1, 0, 0, 0, -1, 0]) (cs2 := w_130) (ty := tyX8) fl_X8_154 rfl tyX8_ok nmX8 (Or.inr ⟨rfl, rfl, rfl, bw_t tt_5 84 rfl rfl⟩) (by decide +kernel) rfl (by decide +kernel) (fun _ => rfl) (fun g => pn_a (x := 109) (by decide) _ g) rfl dX8_init_1069 rfl ?_
  refine k_aload (pc2 := 1073) dX8_init_1072 rfl rfl (by decide) ?_
  refine k_bipush (pc2 := 1075) dX8_init_1073 rfl rfl ?_
  refine k_newa2 (pc2 := 1077) (a := 110) (cs2 := (w_130 ++ [(100, List.replicate 10 0)])) (Or.inl ⟨rfl, rfl⟩) (bw_t tt_1 49 rfl rfl) (by decide) dX8_init_1075 rfl (by decide +kernel) (by decide +kernel) (by decide +kernel) rfl rfl ?_
  refine k_put (pc2 := 1080) (x := 110) (v := aR 110) (row := [63, 0, 0, 0, 0, 0, 0, 0, -1, 64, 0, 65, 66, 67, 68, 69, 70, 71, 72, 73, 74, 75, 76, 77, 78, 79, 80, 81, 82, 83, 84, 85, 86, 87, 88, 89, 90, 91, 92, 93, 94, 0, 95, 96, 97, 98, 99, 100, 101, 102, 103, 0, 0, 0, 0, 0, 0, 0, 104, 105, 106, 107, 108, 109, 0, -1, 0, -1, -1, -1, -1, -1, -1, -1, -1, 0, -1, -1, -1, -1, -1, -1, -1, 0, 0, 0, 0, 0, 0, -1, -1, -1, -1, -1, -1, -1, -1, -1, -1, -1, -1, -1, -1, -1, -1, -1, -1, -1, -1, -1, -1, -1, 0, -1, 0, 0, 0, -1, 0, 0, 0, -1, 0]) (cs2 := w_131) (ty := tyX8) fl_X8_157 rfl tyX8_ok nmX8 (Or.inr ⟨rfl, rfl, rfl, bw_t tt_5 86 rfl rfl⟩) (by decide +kernel) rfl (by decide +kernel) (fun _ => rfl) (fun g => pn_a (x := 110) (by decide) _ g) rfl dX8_init_1077 rfl ?_
  refine k_aload (pc2 := 1081) dX8_init_1080 rfl rfl (by decide) ?_
  refine k_bipush (pc2 := 1083) dX8_init_1081 rfl rfl ?_
  refine k_newa2 (pc2 := 1085) (a := 111) (cs2 := (w_131 ++ [(100, List.replicate 10 0)])) (Or.inl ⟨rfl, rfl⟩) (bw_t tt_1 49 rfl rfl) (by decide) dX8_init_1083 rfl (by decide +kernel) (by decide +kernel) (by decide +kernel) rfl rfl ?_
  refine k_put (pc2 := 1088) (x := 111) (v := aR 111) (row := [63, 0, 0, 0, 0, 0, 0, 0, -1, 64, 0, 65, 66, 67, 68, 69, 70, 71, 72, 73, 74, 75, 76, 77, 78, 79, 80, 81, 82, 83, 84, 85, 86, 87, 88, 89, 90, 91, 92, 93, 94, 0, 95, 96, 97, 98, 99, 100, 101, 102, 103, 0, 0, 0, 0, 0, 0, 0, 104, 105, 106, 107, 108, 109, 0, 110, 0, -1, -1, -1, -1, -1, -1, -1, -1, 0, -1, -1, -1, -1, -1, -1, -1, 0, 0, 0, 0, 0, 0, -1, -1, -1, -1, -1, -1, -1, -1, -1, -1, -1, -1, -1, -1, -1, -1, -1, -1, -1, -1, -1, -1, -1, 0, -1, 0, 0, 0, -1, 0, 0, 0, -1, 0]) (cs2 := w_132) (ty := tyX8) fl_X8_160 rfl tyX8_ok nmX8 (Or.inr ⟨rfl, rfl, rfl, bw_t tt_5 88 rfl rfl⟩) (by decide +kernel) rfl (by decide +kernel) (fun _ => rfl) (fun g => pn_a (x := 111) (by decide) _ g) rfl dX8_init_1085 rfl ?_
  refine k_aload (pc2 := 1089) dX8_init_1088 rfl rfl (by decide) ?_
  refine k_bipush (pc2 := 1091) dX8_init_1089 rfl rfl ?_
  refine k_newa2 (pc2 := 1093) (a := 112) (cs2 := (w_132 ++ [(100, List.replicate 10 0)])) (Or.inl ⟨rfl, rfl⟩) (bw_t tt_1 49 rfl rfl) (by decide) dX8_init_1091 rfl (by decide +kernel) (by decide +kernel) (by decide +kernel) rfl rfl ?_
  refine k_put (pc2 := 1096) (x := 112) (v := aR 112) (row := [63, 0, 0, 0, 0, 0, 0, 0, -1, 64, 0, 65, 66, 67, 68, 69, 70, 71, 72, 73, 74, 75, 76, 77, 78, 79, 80, 81, 82, 83, 84, 85, 86, 87, 88, 89, 90, 91, 92, 93, 94, 0, 95, 96, 97, 98, 99, 100, 101, 102, 103, 0, 0, 0, 0, 0, 0, 0, 104, 105, 106, 107, 108, 109, 0, 110, 0, 111, -1, -1, -1, -1, -1, -1, -1, 0, -1, -1, -1, -1, -1, -1, -1, 0, 0, 0, 0, 0, 0, -1, -1, -1, -1, -1, -1, -1, -1, -1, -1, -1, -1, -1, -1, -1, -1, -1, -1, -1, -1, -1, -1, -1, 0, -1, 0, 0, 0, -1, 0, 0, 0, -1, 0]) (cs2 := w_133) (ty := tyX8) fl_X8_163 rfl tyX8_ok nmX8 (Or.inr ⟨rfl, rfl, rfl, bw_t tt_5 89 rfl rfl⟩) (by decide +kernel) rfl (by decide +kernel) (fun _ => rfl) (fun g => pn_a (x := 112) (by decide) _ g) rfl dX8_init_1093 rfl ?_
  refine k_aload (pc2 := 1097) dX8_init_1096 rfl rfl (by decide) ?_
  refine k_bipush (pc2 := 1099) dX8_init_1097 rfl rfl ?_
  refine k_newa2 (pc2 := 1101) (a := 113) (cs2 := (w_133 ++ [(100, List.replicate 51 0)])) (Or.inl ⟨rfl, rfl⟩) (bw_t tt_1 49 rfl rfl) (by decide) dX8_init_1099 rfl (by decide +kernel) (by decide +kernel) (by decide +kernel) rfl rfl ?_
  refine k_put (pc2 := 1104) (x := 113) (v := aR 113) (row := [63, 0, 0, 0, 0, 0, 0, 0, -1, 64, 0, 65, 66, 67, 68, 69, 70, 71, 72, 73, 74, 75, 76, 77, 78, 79, 80, 81, 82, 83, 84, 85, 86, 87, 88, 89, 90, 91, 92, 93, 94, 0, 95, 96, 97, 98, 99, 100, 101, 102, 103, 0, 0, 0, 0, 0, 0, 0, 104, 105, 106, 107, 108, 109, 0, 110, 0, 111, 112, -1, -1, -1, -1, -1, -1, 0, -1, -1, -1, -1, -1, -1, -1, 0, 0, 0, 0, 0, 0, -1, -1, -1, -1, -1, -1, -1, -1, -1, -1, -1, -1, -1, -1, -1, -1, -1, -1, -1, -1, -1, -1, -1, 0, -1, 0, 0, 0, -1, 0, 0, 0, -1, 0]) (cs2 := w_134) (ty := tyX8) fl_X8_166 rfl tyX8_ok nmX8 (Or.inr ⟨rfl, rfl, rfl, bw_t tt_5 90 rfl rfl⟩) (by decide +kernel) rfl (by decide +kernel) (fun _ => rfl) (fun g => pn_a (x := 113) (by decide) _ g) rfl dX8_init_1101 rfl ?_
  refine k_aload (pc2 := 1105) dX8_init_1104 rfl rfl (by decide) ?_
  refine k_bipush (pc2 := 1107) dX8_init_1105 rfl rfl ?_
  refine k_newa2 (pc2 := 1109) (a := 114) (cs2 := (w_134 ++ [(100, List.replicate 51 0)])) (Or.inl ⟨rfl, rfl⟩) (bw_t tt_1 49 rfl rfl) (by decide) dX8_init_1107 rfl (by decide +kernel) (by decide +kernel) (by decide +kernel) rfl rfl ?_
  refine k_put (pc2 := 1112) (x := 114) (v := aR 114) (row := [63, 0, 0, 0, 0, 0, 0, 0, -1, 64, 0, 65, 66, 67, 68, 69, 70, 71, 72, 73, 74, 75, 76, 77, 78, 79, 80, 81, 82, 83, 84, 85, 86, 87, 88, 89, 90, 91, 92, 93, 94, 0, 95, 96, 97, 98, 99, 100, 101, 102, 103, 0, 0, 0, 0, 0, 0, 0, 104, 105, 106, 107, 108, 109, 0, 110, 0, 111, 112, 113, -1, -1, -1, -1, -1, 0, -1, -1, -1, -1, -1, -1, -1, 0, 0, 0, 0, 0, 0, -1, -1, -1, -1, -1, -1, -1, -1, -1, -1, -1, -1, -1, -1, -1, -1, -1, -1, -1, -1, -1, -1, -1, 0, -1, 0, 0, 0, -1, 0, 0, 0, -1, 0]) (cs2 := w_135) (ty := tyX8) fl_X8_169 rfl tyX8_ok nmX8 (Or.inr ⟨rfl, rfl, rfl, bw_t tt_5 91 rfl rfl⟩) (by decide +kernel) rfl (by decide +kernel) (fun _ => rfl) (fun g => pn_a (x := 114) (by decide) _ g) rfl dX8_init_1109 rfl ?_
  refine k_aload (pc2 := 1113) dX8_init_1112 rfl rfl (by decide) ?_
  refine k_bipush (pc2 := 1115) dX8_init_1113 rfl rfl ?_
  refine k_newa2 (pc2 := 1117) (a := 115) (cs2 := (w_135 ++ [(100, List.replicate 51 0)])) (Or.inl ⟨rfl, rfl⟩) (bw_t tt_1 49 rfl rfl) (by decide) dX8_init_1115 rfl (by decide +kernel) (by decide +kernel) (by decide +kernel) rfl rfl ?_
  refine k_put (pc2 := 1120) (x := 115) (v := aR 115) (row := [63, 0, 0, 0, 0, 0, 0, 0, -1, 64, 0, 65, 66, 67, 68, 69, 70, 71, 72, 73, 74, 75, 76, 77, 78, 79, 80, 81, 82, 83, 84, 85, 86, 87, 88, 89, 90, 91, 92, 93, 94, 0, 95, 96, 97, 98, 99, 100, 101, 102, 103, 0, 0, 0, 0, 0, 0, 0, 104, 105, 106, 107, 108, 109, 0, 110, 0, 111, 112, 113, 114, -1, -1, -1, -1, 0, -1, -1, -1, -1, -1, -1, -1, 0, 0, 0, 0, 0, 0, -1, -1, -1, -1, -1, -1, -1, -1, -1, -1, -1, -1, -1, -1, -1, -1, -1, -1, -1, -1, -1, -1, -1, 0, -1, 0, 0, 0, -1, 0, 0, 0, -1, 0]) (cs2 := w_136) (ty := tyX8) fl_X8_172 rfl tyX8_ok nmX8 (Or.inr ⟨rfl, rfl, rfl, bw_t tt_5 92 rfl rfl⟩) (by decide +kernel) rfl (by decide +kernel) (fun _ => rfl) (fun g => pn_a (x := 115) (by decide) _ g) rfl dX8_init_1117 rfl ?_
  refine k_aload (pc2 := 1121) dX8_init_1120 rfl rfl (by decide) ?_
  refine k_bipush (pc2 := 1123) dX8_init_1121 rfl rfl ?_
  refine k_newa2 (pc2 := 1125) (a := 116) (cs2 := (w_136 ++ [(100, List.replicate 51 0)])) (Or.inl ⟨rfl, rfl⟩) (bw_t tt_1 49 rfl rfl) (by decide) dX8_init_1123 rfl (by decide +kernel) (by decide +kernel) (by decide +kernel) rfl rfl ?_
  refine k_put (pc2 := 1128) (x := 116) (v := aR 116) (row := [63, 0, 0, 0, 0, 0, 0, 0, -1, 64, 0, 65, 66, 67, 68, 69, 70, 71, 72, 73, 74, 75, 76, 77, 78, 79, 80, 81, 82, 83, 84, 85, 86, 87, 88, 89, 90, 91, 92, 93, 94, 0, 95, 96, 97, 98, 99, 100, 101, 102, 103, 0, 0, 0, 0, 0, 0, 0, 104, 105, 106, 107, 108, 109, 0, 110, 0, 111, 112, 113, 114, 115, -1, -1, -1, 0, -1, -1, -1, -1, -1, -1, -1, 0, 0, 0, 0, 0, 0, -1, -1, -1, -1, -1, -1, -1, -1, -1, -1, -1, -1, -1, -1, -1, -1, -1, -1, -1, -1, -1, -1, -1, 0, -1, 0, 0, 0, -1, 0, 0, 0, -1, 0]) (cs2 := w_137) (ty := tyX8) fl_X8_175 rfl tyX8_ok nmX8 (Or.inr ⟨rfl, rfl, rfl, bw_t tt_5 93 rfl rfl⟩) (by decide +kernel) rfl (by decide +kernel) (fun _ => rfl) (fun g => pn_a (x := 116) (by decide) _ g) rfl dX8_init_1125 rfl ?_
  refine k_aload (pc2 := 1129) dX8_init_1128 rfl rfl (by decide) ?_
  refine k_bipush (pc2 := 1131) dX8_init_1129 rfl rfl ?_
  refine k_newa2 (pc2 := 1133) (a := 117) (cs2 := (w_137 ++ [(100, List.replicate 51 0)])) (Or.inl ⟨rfl, rfl⟩) (bw_t tt_1 49 rfl rfl) (by decide) dX8_init_1131 rfl (by decide +kernel) (by decide +kernel) (by decide +kernel) rfl rfl ?_
  refine k_put (pc2 := 1136) (x := 117) (v := aR 117) (row := [63, 0, 0, 0, 0, 0, 0, 0, -1, 64, 0, 65, 66, 67, 68, 69, 70, 71, 72, 73, 74, 75, 76, 77, 78, 79, 80, 81, 82, 83, 84, 85, 86, 87, 88, 89, 90, 91, 92, 93, 94, 0, 95, 96, 97, 98, 99, 100, 101, 102, 103, 0, 0, 0, 0, 0, 0, 0, 104, 105, 106, 107, 108, 109, 0, 110, 0, 111, 112, 113, 114, 115, 116, -1, -1, 0, -1, -1, -1, -1, -1, -1, -1, 0, 0, 0, 0, 0, 0, -1, -1, -1, -1, -1, -1, -1, -1, -1, -1, -1, -1, -1, -1, -1, -1, -1, -1, -1, -1, -1, -1, -1, 0, -1, 0, 0, 0, -1, 0, 0, 0, -1, 0]) (cs2 := w_138) (ty := tyX8) fl_X8_178 rfl tyX8_ok nmX8 (Or.inr ⟨rfl, rfl, rfl, bw_t tt_5 94 rfl rfl⟩) (by decide +kernel) rfl (by decide +kernel) (fun _ => rfl) (fun g => pn_a (x := 117) (by decide) _ g) rfl dX8_init_1133 rfl ?_
  refine k_aload (pc2 := 1137) dX8_init_1136 rfl rfl (by decide) ?_
  refine k_bipush (pc2 := 1139) dX8_init_1137 rfl rfl ?_
  refine k_newa2 (pc2 := 1141) (a := 118) (cs2 := (w_138 ++ [(100, List.replicate 51 0)])) (Or.inl ⟨rfl, rfl⟩) (bw_t tt_1 49 rfl rfl) (by decide) dX8_init_1139 rfl (by decide +kernel) (by decide +kernel) (by decide +kernel) rfl rfl ?_
  refine k_put (pc2 := 1144) (x := 118) (v := aR 118) (row := [63, 0, 0, 0, 0, 0, 0, 0, -1, 64, 0, 65, 66, 67, 68, 69, 70, 71, 72, 73, 74, 75, 76, 77, 78, 79, 80, 81, 82, 83, 84, 85, 86, 87, 88, 89, 90, 91, 92, 93, 94, 0, 95, 96, 97, 98, 99, 100, 101, 102, 103, 0, 0, 0, 0, 0, 0, 0, 104, 105, 106, 107, 108, 109, 0, 110, 0, 111, 112, 113, 114, 115, 116, 117, -1, 0, -1, -1, -1, -1, -1, -1, -1, 0, 0, 0, 0, 0, 0, -1, -1, -1, -1, -1, -1, -1, -1, -1, -1, -1, -1, -1, -1, -1, -1, -1, -1, -1, -1, -1, -1, -1, 0, -1, 0, 0, 0, -1, 0, 0, 0, -1, 0]) (cs2 := w_139) (ty := tyX8) fl_X8_181 rfl tyX8_ok nmX8 (Or.inr ⟨rfl, rfl, rfl, bw_t tt_5 95 rfl rfl⟩) (by decide +kernel) rfl (by decide +kernel) (fun _ => rfl) (fun g => pn_a (x := 118) (by decide) _ g) rfl dX8_init_1141 rfl ?_
  refine k_aload (pc2 := 1145) dX8_init_1144 rfl rfl (by decide) ?_
  refine k_bipush (pc2 := 1147) dX8_init_1145 rfl rfl ?_
  refine k_newa2 (pc2 := 1149) (a := 119) (cs2 := (w_139 ++ [(100, List.replicate 10 0)])) (Or.inl ⟨rfl, rfl⟩) (bw_t tt_1 49 rfl rfl) (by decide) dX8_init_1147 rfl (by decide +kernel) (by decide +kernel) (by decide +kernel) rfl rfl ?_
  refine k_put (pc2 := 1152) (x := 119) (v := aR 119) (row := [63, 0, 0, 0, 0, 0, 0, 0, -1, 64, 0, 65, 66, 67, 68, 69, 70, 71, 72, 73, 74, 75, 76, 77, 78, 79, 80, 81, 82, 83, 84, 85, 86, 87, 88, 89, 90, 91, 92, 93, 94, 0, 95, 96, 97, 98, 99, 100, 101, 102, 103, 0, 0, 0, 0, 0, 0, 0, 104, 105, 106, 107, 108, 109, 0, 110, 0, 111, 112, 113, 114, 115, 116, 117, 118, 0, -1, -1, -1, -1, -1, -1, -1, 0, 0, 0, 0, 0, 0, -1, -1, -1, -1, -1, -1, -1, -1, -1, -1, -1, -1, -1, -1, -1, -1, -1, -1, -1, -1, -1, -1, -1, 0, -1, 0, 0, 0, -1, 0, 0, 0, -1, 0]) (cs2 := w_140) (ty := tyX8) fl_X8_184 rfl tyX8_ok nmX8 (Or.inr ⟨rfl, rfl, rfl, bw_t tt_5 97 rfl rfl⟩) (by decide +kernel) rfl (by decide +kernel) (fun _ => rfl) (fun g => pn_a (x := 119) (by decide) _ g) rfl dX8_init_1149 rfl ?_
  refine k_aload (pc2 := 1153) dX8_init_1152 rfl rfl (by decide) ?_
  refine k_bipush (pc2 := 1155) dX8_init_1153 rfl rfl ?_
  refine k_newa2 (pc2 := 1157) (a := 120) (cs2 := (w_140 ++ [(100, List.replicate 10 0)])) (Or.inl ⟨rfl, rfl⟩) (bw_t tt_1 49 rfl rfl) (by decide) dX8_init_1155 rfl (by decide +kernel) (by decide +kernel) (by decide +kernel) rfl rfl ?_
  refine k_put (pc2 := 1160) (x := 120) (v := aR 120) (row := [63, 0, 0, 0, 0, 0, 0, 0, -1, 64, 0, 65, 66, 67, 68, 69, 70, 71, 72, 73, 74, 75, 76, 77, 78, 79, 80, 81, 82, 83, 84, 85, 86, 87, 88, 89, 90, 91, 92, 93, 94, 0, 95, 96, 97, 98, 99, 100, 101, 102, 103, 0, 0, 0, 0, 0, 0, 0, 104, 105, 106, 107, 108, 109, 0, 110, 0, 111, 112, 113, 114, 115, 116, 117, 118, 0, 119, -1, -1, -1, -1, -1, -1, 0, 0, 0, 0, 0, 0, -1, -1, -1, -1, -1, -1, -1, -1, -1, -1, -1, -1, -1, -1, -1, -1, -1, -1, -1, -1, -1, -1, -1, 0, -1, 0, 0, 0, -1, 0, 0, 0, -1, 0]) (cs2 := w_141) (ty := tyX8) fl_X8_187 rfl tyX8_ok nmX8 (Or.inr ⟨rfl, rfl, rfl, bw_t tt_5 98 rfl rfl⟩) (by decide +kernel) rfl (by decide +kernel) (fun _ => rfl) (fun g => pn_a (x := 120) (by decide) _ g) rfl dX8_init_1157 rfl ?_
  refine k_aload (pc2 := 1161) dX8_init_1160 rfl rfl (by decide) ?_
  refine k_iconst (pc2 := 1162) dX8_init_1161 rfl ?_
  refine k_newa2 (pc2 := 1164) (a := 121) (cs2 := (w_141 ++ [(100, List.replicate 3 0)])) (Or.inl ⟨rfl, rfl⟩) (bw_t tt_1 49 rfl rfl) (by decide) dX8_init_1162 rfl (by decide +kernel) (by decide +kernel) (by decide +kernel) rfl rfl ?_
  refine k_put (pc2 := 1167) (x := 121) (v := aR 121) (row := [63, 0, 0, 0, 0, 0, 0, 0, -1, 64, 0, 65, 66, 67, 68, 69, 70, 71, 72, 73, 74, 75, 76, 77, 78, 79, 80, 81, 82, 83, 84, 85, 86, 87, 88, 89, 90, 91, 92, 93, 94, 0, 95, 96, 97, 98, 99, 100, 101, 102, 103, 0, 0, 0, 0, 0, 0, 0, 104, 105, 106, 107, 108, 109, 0, 110, 0, 111, 112, 113, 114, 115, 116, 117, 118, 0, 119, 120, -1, -1, -1, -1, -1, 0, 0, 0, 0, 0, 0, -1, -1, -1, -1, -1, -1, -1, -1, -1, -1, -1, -1, -1, -1, -1, -1, -1, -1, -1, -1, -1, -1, -1, 0, -1, 0, 0, 0, -1, 0, 0, 0, -1, 0]) (cs2 := w_142) (ty := tyX8) fl_X8_190 rfl tyX8_ok nmX8 (Or.inr ⟨rfl, rfl, rfl, bw_t tt_5 99 rfl rfl⟩) (by decide +kernel) rfl (by decide +kernel) (fun _ => rfl) (fun g => pn_a (x := 121) (by decide) _ g) rfl dX8_init_1164 rfl ?_
  refine k_aload (pc2 := 1168) dX8_init_1167 rfl rfl (by decide) ?_
  refine k_iconst (pc2 := 1169) dX8_init_1168 rfl ?_
  refine k_newa2 (pc2 := 1171) (a := 122) (cs2 := (w_142 ++ [(100, List.replicate 3 0)])) (Or.inl ⟨rfl, rfl⟩) (bw_t tt_1 49 rfl rfl) (by decide) dX8_init_1169 rfl (by decide +kernel) (by decide +kernel) (by decide +kernel) rfl rfl ?_
  refine k_put (pc2 := 1174) (x := 122) (v := aR 122) (row := [63, 0, 0, 0, 0, 0, 0, 0, -1, 64, 0, 65, 66, 67, 68, 69, 70, 71, 72, 73, 74, 75, 76, 77, 78, 79, 80, 81, 82, 83, 84, 85, 86, 87, 88, 89, 90, 91, 92, 93, 94, 0, 95, 96, 97, 98, 99, 100, 101, 102, 103, 0, 0, 0, 0, 0, 0, 0, 104, 105, 106, 107, 108, 109, 0, 110, 0, 111, 112, 113, 114, 115, 116, 117, 118, 0, 119, 120, 121, -1, -1, -1, -1, 0, 0, 0, 0, 0, 0, -1, -1, -1, -1, -1, -1, -1, -1, -1, -1, -1, -1, -1, -1, -1, -1, -1, -1, -1, -1, -1, -1, -1, 0, -1, 0, 0, 0, -1, 0, 0, 0, -1, 0]) (cs2 := w_143) (ty := tyX8) fl_X8_193 rfl tyX8_ok nmX8 (Or.inr ⟨rfl, rfl, rfl, bw_t tt_5 100 rfl rfl⟩) (by decide +kernel) rfl (by decide +kernel) (fun _ => rfl) (fun g => pn_a (x := 122) (by decide) _ g) rfl dX8_init_1171 rfl ?_
  refine k_aload (pc2 := 1175) dX8_init_1174 rfl rfl (by decide) ?_
  refine k_bipush (pc2 := 1177) dX8_init_1175 rfl rfl ?_
  refine k_newa2 (pc2 := 1179) (a := 123) (cs2 := (w_143 ++ [(100, List.replicate 100 0)])) (Or.inl ⟨rfl, rfl⟩) (bw_t tt_1 49 rfl rfl) (by decide) dX8_init_1177 rfl (by decide +kernel) (by decide +kernel) (by decide +kernel) rfl rfl ?_
  refine k_put (pc2 := 1182) (x := 123) (v := aR 123) (row := [63, 0, 0, 0, 0, 0, 0, 0, -1, 64, 0, 65, 66, 67, 68, 69, 70, 71, 72, 73, 74, 75, 76, 77, 78, 79, 80, 81, 82, 83, 84, 85, 86, 87, 88, 89, 90, 91, 92, 93, 94, 0, 95, 96, 97, 98, 99, 100, 101, 102, 103, 0, 0, 0, 0, 0, 0, 0, 104, 105, 106, 107, 108, 109, 0, 110, 0, 111, 112, 113, 114, 115, 116, 117, 118, 0, 119, 120, 121, 122, -1, -1, -1, 0, 0, 0, 0, 0, 0, -1, -1, -1, -1, -1, -1, -1, -1, -1, -1, -1, -1, -1, -1, -1, -1, -1, -1, -1, -1, -1, -1, -1, 0, -1, 0, 0, 0, -1, 0, 0, 0, -1, 0]) (cs2 := w_144) (ty := tyX8) fl_X8_196 rfl tyX8_ok nmX8 (Or.inr ⟨rfl, rfl, rfl, bw_t tt_5 101 rfl rfl⟩) (by decide +kernel) rfl (by decide +kernel) (fun _ => rfl) (fun g => pn_a (x := 123) (by decide) _ g) rfl dX8_init_1179 rfl ?_
  refine k_aload (pc2 := 1183) dX8_init_1182 rfl rfl (by decide) ?_
  refine k_bipush (pc2 := 1185) dX8_init_1183 rfl rfl ?_
  refine k_newa2 (pc2 := 1187) (a := 124) (cs2 := (w_144 ++ [(100, List.replicate 6 0)])) (Or.inl ⟨rfl, rfl⟩) (bw_t tt_1 49 rfl rfl) (by decide) dX8_init_1185 rfl (by decide +kernel) (by decide +kernel) (by decide +kernel) rfl rfl ?_
  refine k_put (pc2 := 1190) (x := 124) (v := aR 124) (row := [63, 0, 0, 0, 0, 0, 0, 0, -1, 64, 0, 65, 66, 67, 68, 69, 70, 71, 72, 73, 74, 75, 76, 77, 78, 79, 80, 81, 82, 83, 84, 85, 86, 87, 88, 89, 90, 91, 92, 93, 94, 0, 95, 96, 97, 98, 99, 100, 101, 102, 103, 0, 0, 0, 0, 0, 0, 0, 104, 105, 106, 107, 108, 109, 0, 110, 0, 111, 112, 113, 114, 115, 116, 117, 118, 0, 119, 120, 121, 122, 123, -1, -1, 0, 0, 0, 0, 0, 0, -1, -1, -1, -1, -1, -1, -1, -1, -1, -1, -1, -1, -1, -1, -1, -1, -1, -1, -1, -1, -1, -1, -1, 0, -1, 0, 0, 0, -1, 0, 0, 0, -1, 0]) (cs2 := w_145) (ty := tyX8) fl_X8_199 rfl tyX8_ok nmX8 (Or.inr ⟨rfl, rfl, rfl, bw_t tt_5 102 rfl rfl⟩) (by decide +kernel) rfl (by decide +kernel) (fun _ => rfl) (fun g => pn_a (x := 124) (by decide) _ g) rfl dX8_init_1187 rfl ?_
  refine k_aload (pc2 := 1191) dX8_init_1190 rfl rfl (by decide) ?_
  refine k_bipush (pc2 := 1193) dX8_init_1191 rfl rfl ?_
  refine k_newa2 (pc2 := 1195) (a := 125) (cs2 := (w_145 ++ [(100, List.replicate 120 0)])) (Or.inl ⟨rfl, rfl⟩) (bw_t tt_1 49 rfl rfl) (by decide) dX8_init_1193 rfl (by decide +kernel) (by decide +kernel) (by decide +kernel) rfl rfl ?_
  refine k_put (pc2 := 1198) (x := 125) (v := aR 125) (row := [63, 0, 0, 0, 0, 0, 0, 0, -1, 64, 0, 65, 66, 67, 68, 69, 70, 71, 72, 73, 74, 75, 76, 77, 78, 79, 80, 81, 82, 83, 84, 85, 86, 87, 88, 89, 90, 91, 92, 93, 94, 0, 95, 96, 97, 98, 99, 100, 101, 102, 103, 0, 0, 0, 0, 0, 0, 0, 104, 105, 106, 107, 108, 109, 0, 110, 0, 111, 112, 113, 114, 115, 116, 117, 118, 0, 119, 120, 121, 122, 123, 124, -1, 0, 0, 0, 0, 0, 0, -1, -1, -1, -1, -1, -1, -1, -1, -1, -1, -1, -1, -1, -1, -1, -1, -1, -1, -1, -1, -1, -1, -1, 0, -1, 0, 0, 0, -1, 0, 0, 0, -1, 0]) (cs2 := w_146) (ty := tyX8) fl_X8_202 rfl tyX8_ok nmX8 (Or.inr ⟨rfl, rfl, rfl, bw_t tt_5 103 rfl rfl⟩) (by decide +kernel) rfl (by decide +kernel) (fun _ => rfl) (fun g => pn_a (x := 125) (by decide) _ g) rfl dX8_init_1195 rfl ?_
  refine k_aload (pc2 := 1199) dX8_init_1198 rfl rfl (by decide) ?_
  refine k_lconst (pc2 := 1200) (v := 1) dX8_init_1199 rfl rfl ?_
  refine k_put (pc2 := 1203) (x := 1) (v := aJ 1) (row := [63, 0, 0, 0, 0, 0, 0, 0, -1, 64, 0, 65, 66, 67, 68, 69, 70, 71, 72, 73, 74, 75, 76, 77, 78, 79, 80, 81, 82, 83, 84, 85, 86, 87, 88, 89, 90, 91, 92, 93, 94, 0, 95, 96, 97, 98, 99, 100, 101, 102, 103, 0, 0, 0, 0, 0, 0, 0, 104, 105, 106, 107, 108, 109, 0, 110, 0, 111, 112, 113, 114, 115, 116, 117, 118, 0, 119, 120, 121, 122, 123, 124, 125, 0, 0, 0, 0, 0, 0, -1, -1, -1, -1, -1, -1, -1, -1, -1, -1, -1, -1, -1, -1, -1, -1, -1, -1, -1, -1, -1, -1, -1, 0, -1, 0, 0, 0, -1, 0, 0, 0, -1, 0]) (cs2 := w_147) (ty := tyX8) fl_X8_205 rfl tyX8_ok nmX8 (Or.inl rfl) (by decide +kernel) rfl (by decide +kernel) (fun _ => rfl) (fun _ => ⟨rfl, rfl⟩) rfl dX8_init_1200 rfl ?_
  refine k_aload (pc2 := 1204) dX8_init_1203 rfl rfl (by decide) ?_
  refine k_bipush (pc2 := 1206) dX8_init_1204 rfl rfl ?_
  refine k_newa2 (pc2 := 1208) (a := 126) (cs2 := (w_147 ++ [(100, List.replicate 40 0)])) (Or.inl ⟨rfl, rfl⟩) (bw_t tt_1 49 rfl rfl) (by decide) dX8_init_1206 rfl (by decide +kernel) (by decide +kernel) (by decide +kernel) rfl rfl ?_
  refine k_put (pc2 := 1211) (x := 126) (v := aR 126) (row := [63, 0, 0, 0, 0, 0, 0, 0, -1, 64, 0, 65, 66, 67, 68, 69, 70, 71, 72, 73, 74, 75, 76, 77, 78, 79, 80, 81, 82, 83, 84, 85, 86, 87, 88, 89, 90, 91, 92, 93, 94, 0, 95, 96, 97, 98, 99, 100, 101, 102, 103, 0, 0, 0, 0, 0, 0, 0, 104, 105, 106, 107, 108, 109, 0, 110, 0, 111, 112, 113, 114, 115, 116, 117, 118, 0, 119, 120, 121, 122, 123, 124, 125, 0, 0, 1, 0, 0, 0, -1, -1, -1, -1, -1, -1, -1, -1, -1, -1, -1, -1, -1, -1, -1, -1, -1, -1, -1, -1, -1, -1, -1, 0, -1, 0, 0, 0, -1, 0, 0, 0, -1, 0]) (cs2 := w_148) (ty := tyX8) fl_X8_209 rfl tyX8_ok nmX8 (Or.inr ⟨rfl, rfl, rfl, bw_t tt_5 110 rfl rfl⟩) (by decide +kernel) rfl (by decide +kernel) (fun _ => rfl) (fun g => pn_a (x := 126) (by decide) _ g) rfl dX8_init_1208 rfl ?_
  refine k_aload (pc2 := 1212) dX8_init_1211 rfl rfl (by decide) ?_
  refine k_iconst (pc2 := 1213) dX8_init_1212 rfl ?_
  refine k_newa2 (pc2 := 1215) (a := 127) (cs2 := (w_148 ++ [(102, List.replicate 5 0)])) (Or.inr (Or.inr ⟨rfl, rfl⟩)) (bw_t tt_6 151 rfl rfl) (by decide) dX8_init_1213 rfl (by decide +kernel) (by decide +kernel) (by decide +kernel) rfl rfl ?_
  refine k_dup (pc2 := 1216) dX8_init_1215 rfl (by decide) ?_
  refine k_iconst (pc2 := 1217) dX8_init_1216 rfl ?_
  refine k_bipush (pc2 := 1219) dX8_init_1217 rfl rfl ?_
  refine k_ast (pc2 := 1220) (row := List.replicate 5 0) (cs2 := (w_148 ++ [(102, [102, 0, 0, 0, 0])])) (Or.inr ⟨dX8_init_1219, rfl, rfl⟩) (by decide +kernel) rfl (by decide) rfl rfl ?_
  refine k_dup (pc2 := 1221) dX8_init_1220 rfl (by decide) ?_
  refine k_iconst (pc2 := 1222) dX8_init_1221 rfl ?_
  refine k_bipush (pc2 := 1224) dX8_init_1222 rfl rfl ?_
  refine k_ast (pc2 := 1225) (row := [102, 0, 0, 0, 0]) (cs2 := (w_148 ++ [(102, [102, 105, 0, 0, 0])])) (Or.inr ⟨dX8_init_1224, rfl, rfl⟩) (by decide +kernel) rfl (by decide) rfl rfl ?_
  refine k_dup (pc2 := 1226) dX8_init_1225 rfl (by decide) ?_
  refine k_iconst (pc2 := 1227) dX8_init_1226 rfl ?_
  refine k_bipush (pc2 := 1229) dX8_init_1227 rfl rfl ?_
  refine k_ast (pc2 := 1230) (row := [102, 105, 0, 0, 0]) (cs2 := (w_148 ++ [(102, [102, 105, 114, 0, 0])])) (Or.inr ⟨dX8_init_1229, rfl, rfl⟩) (by decide +kernel) rfl (by decide) rfl rfl ?_
  refine k_dup (pc2 := 1231) dX8_init_1230 rfl (by decide) ?_
  refine k_iconst (pc2 := 1232) dX8_init_1231 rfl ?_
  refine k_bipush (pc2 := 1234) dX8_init_1232 rfl rfl ?_
  refine k_ast (pc2 := 1235) (row := [102, 105, 114, 0, 0]) (cs2 := (w_148 ++ [(102, [102, 105, 114, 115, 0])])) (Or.inr ⟨dX8_init_1234, rfl, rfl⟩) (by decide +kernel) rfl (by decide) rfl rfl ?_
  refine k_dup (pc2 := 1236) dX8_init_1235 rfl (by decide) ?_
  refine k_iconst (pc2 := 1237) dX8_init_1236 rfl ?_
  refine k_bipush (pc2 := 1239) dX8_init_1237 rfl rfl ?_
  refine k_ast (pc2 := 1240) (row := [102, 105, 114, 115, 0]) (cs2 := (w_148 ++ [(102, [102, 105, 114, 115, 116])])) (Or.inr ⟨dX8_init_1239, rfl, rfl⟩) (by decide +kernel) rfl (by decide) rfl rfl ?_
  refine k_put (pc2 := 1243) (x := 127) (v := aR 127) (row := [63, 0, 0, 0, 0, 0, 0, 0, -1, 64, 0, 65, 66, 67, 68, 69, 70, 71, 72, 73, 74, 75, 76, 77, 78, 79, 80, 81, 82, 83, 84, 85, 86, 87, 88, 89, 90, 91, 92, 93, 94, 0, 95, 96, 97, 98, 99, 100, 101, 102, 103, 0, 0, 0, 0, 0, 0, 0, 104, 105, 106, 107, 108, 109, 0, 110, 0, 111, 112, 113, 114, 115, 116, 117, 118, 0, 119, 120, 121, 122, 123, 124, 125, 0, 0, 1, 0, 0, 0, 126, -1, -1, -1, -1, -1, -1, -1, -1, -1, -1, -1, -1, -1, -1, -1, -1, -1, -1, -1, -1, -1, -1, 0, -1, 0, 0, 0, -1, 0, 0, 0, -1, 0]) (cs2 := w_149) (ty := tyX8) fl_X8_212 rfl tyX8_ok nmX8 (Or.inr ⟨rfl, rfl, rfl, bw_t tt_5 111 rfl rfl⟩) (by decide +kernel) rfl (by decide +kernel) (fun _ => rfl) (fun g => pn_a (x := 127) (by decide) _ g) rfl dX8_init_1240 rfl ?_
  refine k_aload (pc2 := 1244) dX8_init_1243 rfl rfl (by decide) ?_
  refine k_iconst (pc2 := 1245) dX8_init_1244 rfl ?_
  refine k_newa2 (pc2 := 1247) (a := 128) (cs2 := (w_149 ++ [(102, List.replicate 4 0)])) (Or.inr (Or.inr ⟨rfl, rfl⟩)) (bw_t tt_6 151 rfl rfl) (by decide) dX8_init_1245 rfl (by decide +kernel) (by decide +kernel) (by decide +kernel) rfl rfl ?_
  refine k_dup (pc2 := 1248) dX8_init_1247 rfl (by decide) ?_
  refine k_iconst (pc2 := 1249) dX8_init_1248 rfl ?_
  refine k_bipush (pc2 := 1251) dX8_init_1249 rfl rfl ?_
  refine k_ast (pc2 := 1252) (row := List.replicate 4 0) (cs2 := (w_149 ++ [(102, [108, 0, 0, 0])])) (Or.inr ⟨dX8_init_1251, rfl, rfl⟩) (by decide +kernel) rfl (by decide) rfl rfl ?_
  refine k_dup (pc2 := 1253) dX8_init_1252 rfl (by decide) ?_
  refine k_iconst (pc2 := 1254) dX8_init_1253 rfl ?_
  refine k_bipush (pc2 := 1256) dX8_init_1254 rfl rfl ?_
  refine k_ast (pc2 := 1257) (row := [108, 0, 0, 0]) (cs2 := (w_149 ++ [(102, [108, 97, 0, 0])])) (Or.inr ⟨dX8_init_1256, rfl, rfl⟩) (by decide +kernel) rfl (by decide) rfl rfl ?_
  refine k_dup (pc2 := 1258) dX8_init_1257 rfl (by decide) ?_
  refine k_iconst (pc2 := 1259) dX8_init_1258 rfl ?_
  refine k_bipush (pc2 := 1261) dX8_init_1259 rfl rfl ?_
  refine k_ast (pc2 := 1262) (row := [108, 97, 0, 0]) (cs2 := (w_149 ++ [(102, [108, 97, 115, 0])])) (Or.inr ⟨dX8_init_1261, rfl, rfl⟩) (by decide +kernel) rfl (by decide) rfl rfl ?_
  refine k_dup (pc2 := 1263) dX8_init_1262 rfl (by decide) ?_
  refine k_iconst (pc2 := 1264) dX8_init_1263 rfl ?_
  refine k_bipush (pc2 := 1266) dX8_init_1264 rfl rfl ?_
  refine k_ast (pc2 := 1267) (row := [108, 97, 115, 0]) (cs2 := (w_149 ++ [(102, [108, 97, 115, 116])])) (Or.inr ⟨dX8_init_1266, rfl, rfl⟩) (by decide +kernel) rfl (by decide) rfl rfl ?_
  refine k_put (pc2 := 1270) (x := 128) (v := aR 128) (row := [63, 0, 0, 0, 0, 0, 0, 0, -1, 64, 0, 65, 66, 67, 68, 69, 70, 71, 72, 73, 74, 75, 76, 77, 78, 79, 80, 81, 82, 83, 84, 85, 86, 87, 88, 89, 90, 91, 92, 93, 94, 0, 95, 96, 97, 98, 99, 100, 101, 102, 103, 0, 0, 0, 0, 0, 0, 0, 104, 105, 106, 107, 108, 109, 0, 110, 0, 111, 112, 113, 114, 115, 116, 117, 118, 0, 119, 120, 121, 122, 123, 124, 125, 0, 0, 1, 0, 0, 0, 126, 127, -1, -1, -1, -1, -1, -1, -1, -1, -1, -1, -1, -1, -1, -1, -1, -1, -1, -1, -1, -1, -1, 0, -1, 0, 0, 0, -1, 0, 0, 0, -1, 0]) (cs2 := w_150) (ty := tyX8) fl_X8_215 rfl tyX8_ok nmX8 (Or.inr ⟨rfl, rfl, rfl, bw_t tt_5 112 rfl rfl⟩) (by decide +kernel) rfl (by decide +kernel) (fun _ => rfl) (fun g => pn_a (x := 128) (by decide) _ g) rfl dX8_init_1267 rfl ?_
  refine k_aload (pc2 := 1271) dX8_init_1270 rfl rfl (by decide) ?_
  refine k_iconst (pc2 := 1272) dX8_init_1271 rfl ?_
  refine k_newa2 (pc2 := 1274) (a := 129) (cs2 := (w_150 ++ [(102, List.replicate 5 0)])) (Or.inr (Or.inr ⟨rfl, rfl⟩)) (bw_t tt_6 151 rfl rfl) (by decide) dX8_init_1272 rfl (by decide +kernel) (by decide +kernel) (by decide +kernel) rfl rfl ?_
  refine k_dup (pc2 := 1275) dX8_init_1274 rfl (by decide) ?_
  refine k_iconst (pc2 := 1276) dX8_init_1275 rfl ?_
  refine k_bipush (pc2 := 1278) dX8_init_1276 rfl rfl ?_
  refine k_ast (pc2 := 1279) (row := List.replicate 5 0) (cs2 := (w_150 ++ [(102, [111, 0, 0, 0, 0])])) (Or.inr ⟨dX8_init_1278, rfl, rfl⟩) (by decide +kernel) rfl (by decide) rfl rfl ?_
  refine k_dup (pc2 := 1280) dX8_init_1279 rfl (by decide) ?_
  refine k_iconst (pc2 := 1281) dX8_init_1280 rfl ?_
  refine k_bipush (pc2 := 1283) dX8_init_1281 rfl rfl ?_
  refine k_ast (pc2 := 1284) (row := [111, 0, 0, 0, 0]) (cs2 := (w_150 ++ [(102, [111, 102, 0, 0, 0])])) (Or.inr ⟨dX8_init_1283, rfl, rfl⟩) (by decide +kernel) rfl (by decide) rfl rfl ?_
  refine k_dup (pc2 := 1285) dX8_init_1284 rfl (by decide) ?_
  refine k_iconst (pc2 := 1286) dX8_init_1285 rfl ?_
  refine k_bipush (pc2 := 1288) dX8_init_1286 rfl rfl ?_
  refine k_ast (pc2 := 1289) (row := [111, 102, 0, 0, 0]) (cs2 := (w_150 ++ [(102, [111, 102, 116, 0, 0])])) (Or.inr ⟨dX8_init_1288, rfl, rfl⟩) (by decide +kernel) rfl (by decide) rfl rfl ?_
  refine k_dup (pc2 := 1290) dX8_init_1289 rfl (by decide) ?_
  refine k_iconst (pc2 := 1291) dX8_init_1290 rfl ?_
  refine k_bipush (pc2 := 1293) dX8_init_1291 rfl rfl ?_
  refine k_ast (pc2 := 1294) (row := [111, 102, 116, 0, 0]) (cs2 := (w_150 ++ [(102, [111, 102, 116, 101, 0])])) (Or.inr ⟨dX8_init_1293, rfl, rfl⟩) (by decide +kernel) rfl (by decide) rfl rfl ?_
  refine k_dup (pc2 := 1295) dX8_init_1294 rfl (by decide) ?_
  refine k_iconst (pc2 := 1296) dX8_init_1295 rfl ?_
  refine k_bipush (pc2 := 1298) dX8_init_1296 rfl rfl ?_
  refine k_ast (pc2 := 1299) (row := [111, 102, 116, 101, 0]) (cs2 := (w_150 ++ [(102, [111, 102, 116, 101, 110])])) (Or.inr ⟨dX8_init_1298, rfl, rfl⟩) (by decide +kernel) rfl (by decide) rfl rfl ?_
  refine k_put (pc2 := 1302) (x := 129) (v := aR 129) (row := [63, 0, 0, 0, 0, 0, 0, 0, -1, 64, 0, 65, 66, 67, 68, 69, 70, 71, 72, 73, 74, 75, 76, 77, 78, 79, 80, 81, 82, 83, 84, 85, 86, 87, 88, 89, 90, 91, 92, 93, 94, 0, 95, 96, 97, 98, 99, 100, 101, 102, 103, 0, 0, 0, 0, 0, 0, 0, 104, 105, 106, 107, 108, 109, 0, 110, 0, 111, 112, 113, 114, 115, 116, 117, 118, 0, 119, 120, 121, 122, 123, 124, 125, 0, 0, 1, 0, 0, 0, 126, 127, 128, -1, -1, -1, -1, -1, -1, -1, -1, -1, -1, -1, -1, -1, -1, -1, -1, -1, -1, -1, -1, 0, -1, 0, 0, 0, -1, 0, 0, 0, -1, 0]) (cs2 := w_151) (ty := tyX8) fl_X8_218 rfl tyX8_ok nmX8 (Or.inr ⟨rfl, rfl, rfl, bw_t tt_5 113 rfl rfl⟩) (by decide +kernel) rfl (by decide +kernel) (fun _ => rfl) (fun g => pn_a (x := 129) (by decide) _ g) rfl dX8_init_1299 rfl ?_
  refine k_aload (pc2 := 1303) dX8_init_1302 rfl rfl (by decide) ?_
  refine k_iconst (pc2 := 1304) dX8_init_1303 rfl ?_
  refine k_newa2 (pc2 := 1306) (a := 130) (cs2 := (w_151 ++ [(102, List.replicate 5 0)])) (Or.inr (Or.inr ⟨rfl, rfl⟩)) (bw_t tt_6 151 rfl rfl) (by decide) dX8_init_1304 rfl (by decide +kernel) (by decide +kernel) (by decide +kernel) rfl rfl ?_
  refine k_dup (pc2 := 1307) dX8_init_1306 rfl (by decide) ?_
  refine k_iconst (pc2 := 1308) dX8_init_1307 rfl ?_
  refine k_bipush (pc2 := 1310) dX8_init_1308 rfl rfl ?_
  refine k_ast (pc2 := 1311) (row := List.replicate 5 0) (cs2 := (w_151 ++ [(102, [116, 0, 0, 0, 0])])) (Or.inr ⟨dX8_init_1310, rfl, rfl⟩) (by decide +kernel) rfl (by decide) rfl rfl ?_
  refine k_dup (pc2 := 1312) dX8_init_1311 rfl (by decide) ?_
  refine k_iconst (pc2 := 1313) dX8_init_1312 rfl ?_
  refine k_bipush (pc2 := 1315) dX8_init_1313 rfl rfl ?_
  refine k_ast (pc2 := 1316) (row := [116, 0, 0, 0, 0]) (cs2 := (w_151 ++ [(102, [116, 111, 0, 0, 0])])) (Or.inr ⟨dX8_init_1315, rfl, rfl⟩) (by decide +kernel) rfl (by decide) rfl rfl ?_
  refine k_dup (pc2 := 1317) dX8_init_1316 rfl (by decide) ?_
  refine k_iconst (pc2 := 1318) dX8_init_1317 rfl ?_
  refine k_bipush (pc2 := 1320) dX8_init_1318 rfl rfl ?_
  refine k_ast (pc2 := 1321) (row := [116, 111, 0, 0, 0]) (cs2 := (w_151 ++ [(102, [116, 111, 116, 0, 0])])) (Or.inr ⟨dX8_init_1320, rfl, rfl⟩) (by decide +kernel) rfl (by decide) rfl rfl ?_
  refine k_dup (pc2 := 1322) dX8_init_1321 rfl (by decide) ?_
  refine k_iconst (pc2 := 1323) dX8_init_1322 rfl ?_
  refine k_bipush (pc2 := 1325) dX8_init_1323 rfl rfl ?_
  refine k_ast (pc2 := 1326) (row := [116, 111, 116, 0, 0]) (cs2 := (w_151 ++ [(102, [116, 111, 116, 97, 0])])) (Or.inr ⟨dX8_init_1325, rfl, rfl⟩) (by decide +kernel) rfl (by decide) rfl rfl ?_
  refine k_dup (pc2 := 1327) dX8_init_1326 rfl (by decide) ?_
  refine k_iconst (pc2 := 1328) dX8_init_1327 rfl ?_
  refine k_bipush (pc2 := 1330) dX8_init_1328 rfl rfl ?_
  refine k_ast (pc2 := 1331) (row := [116, 111, 116, 97, 0]) (cs2 := (w_151 ++ [(102, [116, 111, 116, 97, 108])])) (Or.inr ⟨dX8_init_1330, rfl, rfl⟩) (by decide +kernel) rfl (by decide) rfl rfl ?_
  refine k_put (pc2 := 1334) (x := 130) (v := aR 130) (row := [63, 0, 0, 0, 0, 0, 0, 0, -1, 64, 0, 65, 66, 67, 68, 69, 70, 71, 72, 73, 74, 75, 76, 77, 78, 79, 80, 81, 82, 83, 84, 85, 86, 87, 88, 89, 90, 91, 92, 93, 94, 0, 95, 96, 97, 98, 99, 100, 101, 102, 103, 0, 0, 0, 0, 0, 0, 0, 104, 105, 106, 107, 108, 109, 0, 110, 0, 111, 112, 113, 114, 115, 116, 117, 118, 0, 119, 120, 121, 122, 123, 124, 125, 0, 0, 1, 0, 0, 0, 126, 127, 128, 129, -1, -1, -1, -1, -1, -1, -1, -1, -1, -1, -1, -1, -1, -1, -1, -1, -1, -1, -1, 0, -1, 0, 0, 0, -1, 0, 0, 0, -1, 0]) (cs2 := w_152) (ty := tyX8) fl_X8_221 rfl tyX8_ok nmX8 (Or.inr ⟨rfl, rfl, rfl, bw_t tt_5 114 rfl rfl⟩) (by decide +kernel) rfl (by decide +kernel) (fun _ => rfl) (fun g => pn_a (x := 130) (by decide) _ g) rfl dX8_init_1331 rfl ?_
  refine k_aload (pc2 := 1335) dX8_init_1334 rfl rfl (by decide) ?_
  refine k_iconst (pc2 := 1336) dX8_init_1335 rfl ?_
  refine k_newa2 (pc2 := 1338) (a := 131) (cs2 := (w_152 ++ [(102, List.replicate 4 0)])) (Or.inr (Or.inr ⟨rfl, rfl⟩)) (bw_t tt_6 151 rfl rfl) (by decide) dX8_init_1336 rfl (by decide +kernel) (by decide +kernel) (by decide +kernel) rfl rfl ?_
  refine k_dup (pc2 := 1339) dX8_init_1338 rfl (by decide) ?_
  refine k_iconst (pc2 := 1340) dX8_init_1339 rfl ?_
  refine k_bipush (pc2 := 1342) dX8_init_1340 rfl rfl ?_
  refine k_ast (pc2 := 1343) (row := List.replicate 4 0) (cs2 := (w_152 ++ [(102, [109, 0, 0, 0])])) (Or.inr ⟨dX8_init_1342, rfl, rfl⟩) (by decide +kernel) rfl (by decide) rfl rfl ?_
  refine k_dup (pc2 := 1344) dX8_init_1343 rfl (by decide) ?_
  refine k_iconst (pc2 := 1345) dX8_init_1344 rfl ?_
  refine k_bipush (pc2 := 1347) dX8_init_1345 rfl rfl ?_
  refine k_ast (pc2 := 1348) (row := [109, 0, 0, 0]) (cs2 := (w_152 ++ [(102, [109, 111, 0, 0])])) (Or.inr ⟨dX8_init_1347, rfl, rfl⟩) (by decide +kernel) rfl (by decide) rfl rfl ?_
  refine k_dup (pc2 := 1349) dX8_init_1348 rfl (by decide) ?_
  refine k_iconst (pc2 := 1350) dX8_init_1349 rfl ?_
  refine k_bipush (pc2 := 1352) dX8_init_1350 rfl rfl ?_
  refine k_ast (pc2 := 1353) (row := [109, 111, 0, 0]) (cs2 := (w_152 ++ [(102, [109, 111, 115, 0])])) (Or.inr ⟨dX8_init_1352, rfl, rfl⟩) (by decide +kernel) rfl (by decide) rfl rfl ?_
  refine k_dup (pc2 := 1354) dX8_init_1353 rfl (by decide) ?_
  refine k_iconst (pc2 := 1355) dX8_init_1354 rfl ?_
  refine k_bipush (pc2 := 1357) dX8_init_1355 rfl rfl ?_
  refine k_ast (pc2 := 1358) (row := [109, 111, 115, 0]) (cs2 := (w_152 ++ [(102, [109, 111, 115, 116])])) (Or.inr ⟨dX8_init_1357, rfl, rfl⟩) (by decide +kernel) rfl (by decide) rfl rfl ?_
  refine k_put (pc2 := 1361) (x := 131) (v := aR 131) (row := [63, 0, 0, 0, 0, 0, 0, 0, -1, 64, 0, 65, 66, 67, 68, 69, 70, 71, 72, 73, 74, 75, 76, 77, 78, 79, 80, 81, 82, 83, 84, 85, 86, 87, 88, 89, 90, 91, 92, 93, 94, 0, 95, 96, 97, 98, 99, 100, 101, 102, 103, 0, 0, 0, 0, 0, 0, 0, 104, 105, 106, 107, 108, 109, 0, 110, 0, 111, 112, 113, 114, 115, 116, 117, 118, 0, 119, 120, 121, 122, 123, 124, 125, 0, 0, 1, 0, 0, 0, 126, 127, 128, 129, 130, -1, -1, -1, -1, -1, -1, -1, -1, -1, -1, -1, -1, -1, -1, -1, -1, -1, -1, 0, -1, 0, 0, 0, -1, 0, 0, 0, -1, 0]) (cs2 := w_153) (ty := tyX8) fl_X8_224 rfl tyX8_ok nmX8 (Or.inr ⟨rfl, rfl, rfl, bw_t tt_5 115 rfl rfl⟩) (by decide +kernel) rfl (by decide +kernel) (fun _ => rfl) (fun g => pn_a (x := 131) (by decide) _ g) rfl dX8_init_1358 rfl ?_
  refine k_aload (pc2 := 1362) dX8_init_1361 rfl rfl (by decide) ?_
  refine k_iconst (pc2 := 1363) dX8_init_1362 rfl ?_
  refine k_newa2 (pc2 := 1365) (a := 132) (cs2 := (w_153 ++ [(102, List.replicate 5 0)])) (Or.inr (Or.inr ⟨rfl, rfl⟩)) (bw_t tt_6 151 rfl rfl) (by decide) dX8_init_1363 rfl (by decide +kernel) (by decide +kernel) (by decide +kernel) rfl rfl ?_
  refine k_dup (pc2 := 1366) dX8_init_1365 rfl (by decide) ?_
  refine k_iconst (pc2 := 1367) dX8_init_1366 rfl ?_
  refine k_bipush (pc2 := 1369) dX8_init_1367 rfl rfl ?_
  refine k_ast (pc2 := 1370) (row := List.replicate 5 0) (cs2 := (w_153 ++ [(102, [108, 0, 0, 0, 0])])) (Or.inr ⟨dX8_init_1369, rfl, rfl⟩) (by decide +kernel) rfl (by decide) rfl rfl ?_
  refine k_dup (pc2 := 1371) dX8_init_1370 rfl (by decide) ?_
  refine k_iconst (pc2 := 1372) dX8_init_1371 rfl ?_
  refine k_bipush (pc2 := 1374) dX8_init_1372 rfl rfl ?_
  refine k_ast (pc2 := 1375) (row := [108, 0, 0, 0, 0]) (cs2 := (w_153 ++ [(102, [108, 101, 0, 0, 0])])) (Or.inr ⟨dX8_init_1374, rfl, rfl⟩) (by decide +kernel) rfl (by decide) rfl rfl ?_
  refine k_dup (pc2 := 1376) dX8_init_1375 rfl (by decide) ?_
  refine k_iconst (pc2 := 1377) dX8_init_1376 rfl ?_
  refine k_bipush (pc2 := 1379) dX8_init_1377 rfl rfl ?_
  refine k_ast (pc2 := 1380) (row := [108, 101, 0, 0, 0]) (cs2 := (w_153 ++ [(102, [108, 101, 97, 0, 0])])) (Or.inr ⟨dX8_init_1379, rfl, rfl⟩) (by decide +kernel) rfl (by decide) rfl rfl ?_
  refine k_dup (pc2 := 1381) dX8_init_1380 rfl (by decide) ?_
  refine k_iconst (pc2 := 1382) dX8_init_1381 rfl ?_
  refine k_bipush (pc2 := 1384) dX8_init_1382 rfl rfl ?_
  refine k_ast (pc2 := 1385) (row := [108, 101, 97, 0, 0]) (cs2 := (w_153 ++ [(102, [108, 101, 97, 115, 0])])) (Or.inr ⟨dX8_init_1384, rfl, rfl⟩) (by decide +kernel) rfl (by decide) rfl rfl ?_
  refine k_dup (pc2 := 1386) dX8_init_1385 rfl (by decide) ?_
  refine k_iconst (pc2 := 1387) dX8_init_1386 rfl ?_
  refine k_bipush (pc2 := 1389) dX8_init_1387 rfl rfl ?_
  refine k_ast (pc2 := 1390) (row := [108, 101, 97, 115, 0]) (cs2 := (w_153 ++ [(102, [108, 101, 97, 115, 116])])) (Or.inr ⟨dX8_init_1389, rfl, rfl⟩) (by decide +kernel) rfl (by decide) rfl rfl ?_
  refine k_put (pc2 := 1393) (x := 132) (v := aR 132) (row := [63, 0, 0, 0, 0, 0, 0, 0, -1, 64, 0, 65, 66, 67, 68, 69, 70, 71, 72, 73, 74, 75, 76, 77, 78, 79, 80, 81, 82, 83, 84, 85, 86, 87, 88, 89, 90, 91, 92, 93, 94, 0, 95, 96, 97, 98, 99, 100, 101, 102, 103, 0, 0, 0, 0, 0, 0, 0, 104, 105, 106, 107, 108, 109, 0, 110, 0, 111, 112, 113, 114, 115, 116, 117, 118, 0, 119, 120, 121, 122, 123, 124, 125, 0, 0, 1, 0, 0, 0, 126, 127, 128, 129, 130, 131, -1, -1, -1, -1, -1, -1, -1, -1, -1, -1, -1, -1, -1, -1, -1, -1, -1, 0, -1, 0, 0, 0, -1, 0, 0, 0, -1, 0]) (cs2 := w_154) (ty := tyX8) fl_X8_227 rfl tyX8_ok nmX8 (Or.inr ⟨rfl, rfl, rfl, bw_t tt_5 116 rfl rfl⟩) (by decide +kernel) rfl (by decide +kernel) (fun _ => rfl) (fun g => pn_a (x := 132) (by decide) _ g) rfl dX8_init_1390 rfl ?_
  refine k_aload (pc2 := 1394) dX8_init_1393 rfl rfl (by decide) ?_
  refine k_iconst (pc2 := 1395) dX8_init_1394 rfl ?_
  refine k_newa2 (pc2 := 1397) (a := 133) (cs2 := (w_154 ++ [(102, List.replicate 3 0)])) (Or.inr (Or.inr ⟨rfl, rfl⟩)) (bw_t tt_6 151 rfl rfl) (by decide) dX8_init_1395 rfl (by decide +kernel) (by decide +kernel) (by decide +kernel) rfl rfl ?_
  refine k_dup (pc2 := 1398) dX8_init_1397 rfl (by decide) ?_
  refine k_iconst (pc2 := 1399) dX8_init_1398 rfl ?_
  refine k_bipush (pc2 := 1401) dX8_init_1399 rfl rfl ?_
  refine k_ast (pc2 := 1402) (row := List.replicate 3 0) (cs2 := (w_154 ++ [(102, [110, 0, 0])])) (Or.inr ⟨dX8_init_1401, rfl, rfl⟩) (by decide +kernel) rfl (by decide) rfl rfl ?_
  refine k_dup (pc2 := 1403) dX8_init_1402 rfl (by decide) ?_
  refine k_iconst (pc2 := 1404) dX8_init_1403 rfl ?_
  refine k_bipush (pc2 := 1406) dX8_init_1404 rfl rfl ?_
  refine k_ast (pc2 := 1407) (row := [110, 0, 0]) (cs2 := (w_154 ++ [(102, [110, 111, 0])])) (Or.inr ⟨dX8_init_1406, rfl, rfl⟩) (by decide +kernel) rfl (by decide) rfl rfl ?_
  refine k_dup (pc2 := 1408) dX8_init_1407 rfl (by decide) ?_
  refine k_iconst (pc2 := 1409) dX8_init_1408 rfl ?_
  refine k_bipush (pc2 := 1411) dX8_init_1409 rfl rfl ?_
  refine k_ast (pc2 := 1412) (row := [110, 111, 0]) (cs2 := (w_154 ++ [(102, [110, 111, 116])])) (Or.inr ⟨dX8_init_1411, rfl, rfl⟩) (by decide +kernel) rfl (by decide) rfl rfl ?_
  refine k_put (pc2 := 1415) (x := 133) (v := aR 133) (row := [63, 0, 0, 0, 0, 0, 0, 0, -1, 64, 0, 65, 66, 67, 68, 69, 70, 71, 72, 73, 74, 75, 76, 77, 78, 79, 80, 81, 82, 83, 84, 85, 86, 87, 88, 89, 90, 91, 92, 93, 94, 0, 95, 96, 97, 98, 99, 100, 101, 102, 103, 0, 0, 0, 0, 0, 0, 0, 104, 105, 106, 107, 108, 109, 0, 110, 0, 111, 112, 113, 114, 115, 116, 117, 118, 0, 119, 120, 121, 122, 123, 124, 125, 0, 0, 1, 0, 0, 0, 126, 127, 128, 129, 130, 131, 132, -1, -1, -1, -1, -1, -1, -1, -1, -1, -1, -1, -1, -1, -1, -1, -1, 0, -1, 0, 0, 0, -1, 0, 0, 0, -1, 0]) (cs2 := w_155) (ty := tyX8) fl_X8_230 rfl tyX8_ok nmX8 (Or.inr ⟨rfl, rfl, rfl, bw_t tt_5 117 rfl rfl⟩) (by decide +kernel) rfl (by decide +kernel) (fun _ => rfl) (fun g => pn_a (x := 133) (by decide) _ g) rfl dX8_init_1412 rfl ?_
  refine k_aload (pc2 := 1416) dX8_init_1415 rfl rfl (by decide) ?_
  refine k_iconst (pc2 := 1417) dX8_init_1416 rfl ?_
  refine k_newa2 (pc2 := 1419) (a := 134) (cs2 := (w_155 ++ [(102, List.replicate 3 0)])) (Or.inr (Or.inr ⟨rfl, rfl⟩)) (bw_t tt_6 151 rfl rfl) (by decide) dX8_init_1417 rfl (by decide +kernel) (by decide +kernel) (by decide +kernel) rfl rfl ?_
  refine k_dup (pc2 := 1420) dX8_init_1419 rfl (by decide) ?_
  refine k_iconst (pc2 := 1421) dX8_init_1420 rfl ?_
  refine k_bipush (pc2 := 1423) dX8_init_1421 rfl rfl ?_
  refine k_ast (pc2 := 1424) (row := List.replicate 3 0) (cs2 := (w_155 ++ [(102, [97, 0, 0])])) (Or.inr ⟨dX8_init_1423, rfl, rfl⟩) (by decide +kernel) rfl (by decide) rfl rfl ?_
  refine k_dup (pc2 := 1425) dX8_init_1424 rfl (by decide) ?_
  refine k_iconst (pc2 := 1426) dX8_init_1425 rfl ?_
  refine k_bipush (pc2 := 1428) dX8_init_1426 rfl rfl ?_
  refine k_ast (pc2 := 1429) (row := [97, 0, 0]) (cs2 := (w_155 ++ [(102, [97, 110, 0])])) (Or.inr ⟨dX8_init_1428, rfl, rfl⟩) (by decide +kernel) rfl (by decide) rfl rfl ?_
  refine k_dup (pc2 := 1430) dX8_init_1429 rfl (by decide) ?_
  refine k_iconst (pc2 := 1431) dX8_init_1430 rfl ?_
  refine k_bipush (pc2 := 1433) dX8_init_1431 rfl rfl ?_
  refine k_ast (pc2 := 1434) (row := [97, 110, 0]) (cs2 := (w_155 ++ [(102, [97, 110, 100])])) (Or.inr ⟨dX8_init_1433, rfl, rfl⟩) (by decide +kernel) rfl (by decide) rfl rfl ?_
  refine k_put (pc2 := 1437) (x := 134) (v := aR 134) (row := [63, 0, 0, 0, 0, 0, 0, 0, -1, 64, 0, 65, 66, 67, 68, 69, 70, 71, 72, 73, 74, 75, 76, 77, 78, 79, 80, 81, 82, 83, 84, 85, 86, 87, 88, 89, 90, 91, 92, 93, 94, 0, 95, 96, 97, 98, 99, 100, 101, 102, 103, 0, 0, 0, 0, 0, 0, 0, 104, 105, 106, 107, 108, 109, 0, 110, 0, 111, 112, 113, 114, 115, 116, 117, 118, 0, 119, 120, 121, 122, 123, 124, 125, 0, 0, 1, 0, 0, 0, 126, 127, 128, 129, 130, 131, 132, 133, -1, -1, -1, -1, -1, -1, -1, -1, -1, -1, -1, -1, -1, -1, -1, 0, -1, 0, 0, 0, -1, 0, 0, 0, -1, 0]) (cs2 := w_156) (ty := tyX8) fl_X8_233 rfl tyX8_ok nmX8 (Or.inr ⟨rfl, rfl, rfl, bw_t tt_5 118 rfl rfl⟩) (by decide +kernel) rfl (by decide +kernel) (fun _ => rfl) (fun g => pn_a (x := 134) (by decide) _ g) rfl dX8_init_1434 rfl ?_
  refine k_aload (pc2 := 1438) dX8_init_1437 rfl rfl (by decide) ?_
  refine k_iconst (pc2 := 1439) dX8_init_1438 rfl ?_
  refine k_newa2 (pc2 := 1441) (a := 135) (cs2 := (w_156 ++ [(102, List.replicate 2 0)])) (Or.inr (Or.inr ⟨rfl, rfl⟩)) (bw_t tt_6 151 rfl rfl) (by decide) dX8_init_1439 rfl (by decide +kernel) (by decide +kernel) (by decide +kernel) rfl rfl ?_
  refine k_dup (pc2 := 1442) dX8_init_1441 rfl (by decide) ?_
  refine k_iconst (pc2 := 1443) dX8_init_1442 rfl ?_
  refine k_bipush (pc2 := 1445) dX8_init_1443 rfl rfl ?_
  refine k_ast (pc2 := 1446) (row := List.replicate 2 0) (cs2 := (w_156 ++ [(102, [111, 0])])) (Or.inr ⟨dX8_init_1445, rfl, rfl⟩) (by decide +kernel) rfl (by decide) rfl rfl ?_
  refine k_dup (pc2 := 1447) dX8_init_1446 rfl (by decide) ?_
  refine k_iconst (pc2 := 1448) dX8_init_1447 rfl ?_
  refine k_bipush (pc2 := 1450) dX8_init_1448 rfl rfl ?_
  refine k_ast (pc2 := 1451) (row := [111, 0]) (cs2 := (w_156 ++ [(102, [111, 114])])) (Or.inr ⟨dX8_init_1450, rfl, rfl⟩) (by decide +kernel) rfl (by decide) rfl rfl ?_
  refine k_put (pc2 := 1454) (x := 135) (v := aR 135) (row := [63, 0, 0, 0, 0, 0, 0, 0, -1, 64, 0, 65, 66, 67, 68, 69, 70, 71, 72, 73, 74, 75, 76, 77, 78, 79, 80, 81, 82, 83, 84, 85, 86, 87, 88, 89, 90, 91, 92, 93, 94, 0, 95, 96, 97, 98, 99, 100, 101, 102, 103, 0, 0, 0, 0, 0, 0, 0, 104, 105, 106, 107, 108, 109, 0, 110, 0, 111, 112, 113, 114, 115, 116, 117, 118, 0, 119, 120, 121, 122, 123, 124, 125, 0, 0, 1, 0, 0, 0, 126, 127, 128, 129, 130, 131, 132, 133, 134, -1, -1, -1, -1, -1, -1, -1, -1, -1, -1, -1, -1, -1, -1, 0, -1, 0, 0, 0, -1, 0, 0, 0, -1, 0]) (cs2 := w_157) (ty := tyX8) fl_X8_236 rfl tyX8_ok nmX8 (Or.inr ⟨rfl, rfl, rfl, bw_t tt_5 119 rfl rfl⟩) (by decide +kernel) rfl (by decide +kernel) (fun _ => rfl) (fun g => pn_a (x := 135) (by decide) _ g) rfl dX8_init_1451 rfl ?_
  refine k_aload (pc2 := 1455) dX8_init_1454 rfl rfl (by decide) ?_
  refine k_iconst (pc2 := 1456) dX8_init_1455 rfl ?_
  refine k_newa2 (pc2 := 1458) (a := 136) (cs2 := (w_157 ++ [(102, List.replicate 3 0)])) (Or.inr (Or.inr ⟨rfl, rfl⟩)) (bw_t tt_6 151 rfl rfl) (by decide) dX8_init_1456 rfl (by decide +kernel) (by decide +kernel) (by decide +kernel) rfl rfl ?_
  refine k_dup (pc2 := 1459) dX8_init_1458 rfl (by decide) ?_
  refine k_iconst (pc2 := 1460) dX8_init_1459 rfl ?_
  refine k_bipush (pc2 := 1462) dX8_init_1460 rfl rfl ?_
  refine k_ast (pc2 := 1463) (row := List.replicate 3 0) (cs2 := (w_157 ++ [(102, [97, 0, 0])])) (Or.inr ⟨dX8_init_1462, rfl, rfl⟩) (by decide +kernel) rfl (by decide) rfl rfl ?_
  refine k_dup (pc2 := 1464) dX8_init_1463 rfl (by decide) ?_
  refine k_iconst (pc2 := 1465) dX8_init_1464 rfl ?_
  refine k_bipush (pc2 := 1467) dX8_init_1465 rfl rfl ?_
  refine k_ast (pc2 := 1468) (row := [97, 0, 0]) (cs2 := (w_157 ++ [(102, [97, 108, 0])])) (Or.inr ⟨dX8_init_1467, rfl, rfl⟩) (by decide +kernel) rfl (by decide) rfl rfl ?_
  refine k_dup (pc2 := 1469) dX8_init_1468 rfl (by decide) ?_
  refine k_iconst (pc2 := 1470) dX8_init_1469 rfl ?_
  refine k_bipush (pc2 := 1472) dX8_init_1470 rfl rfl ?_
  refine k_ast (pc2 := 1473) (row := [97, 108, 0]) (cs2 := (w_157 ++ [(102, [97, 108, 108])])) (Or.inr ⟨dX8_init_1472, rfl, rfl⟩) (by decide +kernel) rfl (by decide) rfl rfl ?_
  refine k_put (pc2 := 1476) (x := 136) (v := aR 136) (row := [63, 0, 0, 0, 0, 0, 0, 0, -1, 64, 0, 65, 66, 67, 68, 69, 70, 71, 72, 73, 74, 75, 76, 77, 78, 79, 80, 81, 82, 83, 84, 85, 86, 87, 88, 89, 90, 91, 92, 93, 94, 0, 95, 96, 97, 98, 99, 100, 101, 102, 103, 0, 0, 0, 0, 0, 0, 0, 104, 105, 106, 107, 108, 109, 0, 110, 0, 111, 112, 113, 114, 115, 116, 117, 118, 0, 119, 120, 121, 122, 123, 124, 125, 0, 0, 1, 0, 0, 0, 126, 127, 128, 129, 130, 131, 132, 133, 134, 135, -1, -1, -1, -1, -1, -1, -1, -1, -1, -1, -1, -1, -1, 0, -1, 0, 0, 0, -1, 0, 0, 0, -1, 0]) (cs2 := w_158) (ty := tyX8) fl_X8_239 rfl tyX8_ok nmX8 (Or.inr ⟨rfl, rfl, rfl, bw_t tt_5 120 rfl rfl⟩) (by decide +kernel) rfl (by decide +kernel) (fun _ => rfl) (fun g => pn_a (x := 136) (by decide) _ g) rfl dX8_init_1473 rfl ?_
  refine k_aload (pc2 := 1477) dX8_init_1476 rfl rfl (by decide) ?_
  refine k_iconst (pc2 := 1478) dX8_init_1477 rfl ?_
  refine k_newa2 (pc2 := 1480) (a := 137) (cs2 := (w_158 ++ [(102, List.replicate 3 0)])) (Or.inr (Or.inr ⟨rfl, rfl⟩)) (bw_t tt_6 151 rfl rfl) (by decide) dX8_init_1478 rfl (by decide +kernel) (by decide +kernel) (by decide +kernel) rfl rfl ?_
  refine k_dup (pc2 := 1481) dX8_init_1480 rfl (by decide) ?_
  refine k_iconst (pc2 := 1482) dX8_init_1481 rfl ?_
  refine k_bipush (pc2 := 1484) dX8_init_1482 rfl rfl ?_
  refine k_ast (pc2 := 1485) (row := List.replicate 3 0) (cs2 := (w_158 ++ [(102, [109, 0, 0])])) (Or.inr ⟨dX8_init_1484, rfl, rfl⟩) (by decide +kernel) rfl (by decide) rfl rfl ?_
  refine k_dup (pc2 := 1486) dX8_init_1485 rfl (by decide) ?_
  refine k_iconst (pc2 := 1487) dX8_init_1486 rfl ?_
  refine k_bipush (pc2 := 1489) dX8_init_1487 rfl rfl ?_
  refine k_ast (pc2 := 1490) (row := [109, 0, 0]) (cs2 := (w_158 ++ [(102, [109, 105, 0])])) (Or.inr ⟨dX8_init_1489, rfl, rfl⟩) (by decide +kernel) rfl (by decide) rfl rfl ?_
  refine k_dup (pc2 := 1491) dX8_init_1490 rfl (by decide) ?_
  refine k_iconst (pc2 := 1492) dX8_init_1491 rfl ?_
  refine k_bipush (pc2 := 1494) dX8_init_1492 rfl rfl ?_
  refine k_ast (pc2 := 1495) (row := [109, 105, 0]) (cs2 := (w_158 ++ [(102, [109, 105, 110])])) (Or.inr ⟨dX8_init_1494, rfl, rfl⟩) (by decide +kernel) rfl (by decide) rfl rfl ?_
  refine k_put (pc2 := 1498) (x := 137) (v := aR 137) (row := [63, 0, 0, 0, 0, 0, 0, 0, -1, 64, 0, 65, 66, 67, 68, 69, 70, 71, 72, 73, 74, 75, 76, 77, 78, 79, 80, 81, 82, 83, 84, 85, 86, 87, 88, 89, 90, 91, 92, 93, 94, 0, 95, 96, 97, 98, 99, 100, 101, 102, 103, 0, 0, 0, 0, 0, 0, 0, 104, 105, 106, 107, 108, 109, 0, 110, 0, 111, 112, 113, 114, 115, 116, 117, 118, 0, 119, 120, 121, 122, 123, 124, 125, 0, 0, 1, 0, 0, 0, 126, 127, 128, 129, 130, 131, 132, 133, 134, 135, 136, -1, -1, -1, -1, -1, -1, -1, -1, -1, -1, -1, -1, 0, -1, 0, 0, 0, -1, 0, 0, 0, -1, 0]) (cs2 := w_159) (ty := tyX8) fl_X8_242 rfl tyX8_ok nmX8 (Or.inr ⟨rfl, rfl, rfl, bw_t tt_5 121 rfl rfl⟩) (by decide +kernel) rfl (by decide +kernel) (fun _ => rfl) (fun g => pn_a (x := 137) (by decide) _ g) rfl dX8_init_1495 rfl ?_
  refine k_aload (pc2 := 1499) dX8_init_1498 rfl rfl (by decide) ?_
  refine k_iconst (pc2 := 1500) dX8_init_1499 rfl ?_
  refine k_newa2 (pc2 := 1502) (a := 138) (cs2 := (w_159 ++ [(102, List.replicate 3 0)])) (Or.inr (Or.inr ⟨rfl, rfl⟩)) (bw_t tt_6 151 rfl rfl) (by decide) dX8_init_1500 rfl (by decide +kernel) (by decide +kernel) (by decide +kernel) rfl rfl ?_
  refine k_dup (pc2 := 1503) dX8_init_1502 rfl (by decide) ?_
  refine k_iconst (pc2 := 1504) dX8_init_1503 rfl ?_
  refine k_bipush (pc2 := 1506) dX8_init_1504 rfl rfl ?_
  refine k_ast (pc2 := 1507) (row := List.replicate 3 0) (cs2 := (w_159 ++ [(102, [109, 0, 0])])) (Or.inr ⟨dX8_init_1506, rfl, rfl⟩) (by decide +kernel) rfl (by decide) rfl rfl ?_
  refine k_dup (pc2 := 1508) dX8_init_1507 rfl (by decide) ?_
  refine k_iconst (pc2 := 1509) dX8_init_1508 rfl ?_
  refine k_bipush (pc2 := 1511) dX8_init_1509 rfl rfl ?_
  refine k_ast (pc2 := 1512) (row := [109, 0, 0]) (cs2 := (w_159 ++ [(102, [109, 97, 0])])) (Or.inr ⟨dX8_init_1511, rfl, rfl⟩) (by decide +kernel) rfl (by decide) rfl rfl ?_
  refine k_dup (pc2 := 1513) dX8_init_1512 rfl (by decide) ?_
  refine k_iconst (pc2 := 1514) dX8_init_1513 rfl ?_
  refine k_bipush (pc2 := 1516) dX8_init_1514 rfl rfl ?_
  refine k_ast (pc2 := 1517) (row := [109, 97, 0]) (cs2 := (w_159 ++ [(102, [109, 97, 120])])) (Or.inr ⟨dX8_init_1516, rfl, rfl⟩) (by decide +kernel) rfl (by decide) rfl rfl ?_
  refine k_put (pc2 := 1520) (x := 138) (v := aR 138) (row := [63, 0, 0, 0, 0, 0, 0, 0, -1, 64, 0, 65, 66, 67, 68, 69, 70, 71, 72, 73, 74, 75, 76, 77, 78, 79, 80, 81, 82, 83, 84, 85, 86, 87, 88, 89, 90, 91, 92, 93, 94, 0, 95, 96, 97, 98, 99, 100, 101, 102, 103, 0, 0, 0, 0, 0, 0, 0, 104, 105, 106, 107, 108, 109, 0, 110, 0, 111, 112, 113, 114, 115, 116, 117, 118, 0, 119, 120, 121, 122, 123, 124, 125, 0, 0, 1, 0, 0, 0, 126, 127, 128, 129, 130, 131, 132, 133, 134, 135, 136, 137, -1, -1, -1, -1, -1, -1, -1, -1, -1, -1, -1, 0, -1, 0, 0, 0, -1, 0, 0, 0, -1, 0]) (cs2 := w_160) (ty := tyX8) fl_X8_245 rfl tyX8_ok nmX8 (Or.inr ⟨rfl, rfl, rfl, bw_t tt_5 122 rfl rfl⟩) (by decide +kernel) rfl (by decide +kernel) (fun _ => rfl) (fun g => pn_a (x := 138) (by decide) _ g) rfl dX8_init_1517 rfl ?_
  refine k_aload (pc2 := 1521) dX8_init_1520 rfl rfl (by decide) ?_
  refine k_iconst (pc2 := 1522) dX8_init_1521 rfl ?_
  refine k_newa2 (pc2 := 1524) (a := 139) (cs2 := (w_160 ++ [(102, List.replicate 5 0)])) (Or.inr (Or.inr ⟨rfl, rfl⟩)) (bw_t tt_6 151 rfl rfl) (by decide) dX8_init_1522 rfl (by decide +kernel) (by decide +kernel) (by decide +kernel) rfl rfl ?_
  refine k_dup (pc2 := 1525) dX8_init_1524 rfl (by decide) ?_
  refine k_iconst (pc2 := 1526) dX8_init_1525 rfl ?_
  refine k_bipush (pc2 := 1528) dX8_init_1526 rfl rfl ?_
  refine k_ast (pc2 := 1529) (row := List.replicate 5 0) (cs2 := (w_160 ++ [(102, [116, 0, 0, 0, 0])])) (Or.inr ⟨dX8_init_1528, rfl, rfl⟩) (by decide +kernel) rfl (by decide) rfl rfl ?_
  refine k_dup (pc2 := 1530) dX8_init_1529 rfl (by decide) ?_
  refine k_iconst (pc2 := 1531) dX8_init_1530 rfl ?_
  refine k_bipush (pc2 := 1533) dX8_init_1531 rfl rfl ?_
  refine k_ast (pc2 := 1534) (row := [116, 0, 0, 0, 0]) (cs2 := (w_160 ++ [(102, [116, 97, 0, 0, 0])])) (Or.inr ⟨dX8_init_1533, rfl, rfl⟩) (by decide +kernel) rfl (by decide) rfl rfl ?_
  refine k_dup (pc2 := 1535) dX8_init_1534 rfl (by decide) ?_
  refine k_iconst (pc2 := 1536) dX8_init_1535 rfl ?_
  refine k_bipush (pc2 := 1538) dX8_init_1536 rfl rfl ?_
  refine k_ast (pc2 := 1539) (row := [116, 97, 0, 0, 0]) (cs2 := (w_160 ++ [(102, [116, 97, 107, 0, 0])])) (Or.inr ⟨dX8_init_1538, rfl, rfl⟩) (by decide +kernel) rfl (by decide) rfl rfl ?_
  refine k_dup (pc2 := 1540) dX8_init_1539 rfl (by decide) ?_
  refine k_iconst (pc2 := 1541) dX8_init_1540 rfl ?_
  refine k_bipush (pc2 := 1543) dX8_init_1541 rfl rfl ?_
  refine k_ast (pc2 := 1544) (row := [116, 97, 107, 0, 0]) (cs2 := (w_160 ++ [(102, [116, 97, 107, 101, 0])])) (Or.inr ⟨dX8_init_1543, rfl, rfl⟩) (by decide +kernel) rfl (by decide) rfl rfl ?_
  refine k_dup (pc2 := 1545) dX8_init_1544 rfl (by decide) ?_
  refine k_iconst (pc2 := 1546) dX8_init_1545 rfl ?_
  refine k_bipush (pc2 := 1548) dX8_init_1546 rfl rfl ?_
  refine k_ast (pc2 := 1549) (row := [116, 97, 107, 101, 0]) (cs2 := (w_160 ++ [(102, [116, 97, 107, 101, 115])])) (Or.inr ⟨dX8_init_1548, rfl, rfl⟩) (by decide +kernel) rfl (by decide) rfl rfl ?_
  refine k_put (pc2 := 1552) (x := 139) (v := aR 139) (row := [63, 0, 0, 0, 0, 0, 0, 0, -1, 64, 0, 65, 66, 67, 68, 69, 70, 71, 72, 73, 74, 75, 76, 77, 78, 79, 80, 81, 82, 83, 84, 85, 86, 87, 88, 89, 90, 91, 92, 93, 94, 0, 95, 96, 97, 98, 99, 100, 101, 102, 103, 0, 0, 0, 0, 0, 0, 0, 104, 105, 106, 107, 108, 109, 0, 110, 0, 111, 112, 113, 114, 115, 116, 117, 118, 0, 119, 120, 121, 122, 123, 124, 125, 0, 0, 1, 0, 0, 0, 126, 127, 128, 129, 130, 131, 132, 133, 134, 135, 136, 137, 138, -1, -1, -1, -1, -1, -1, -1, -1, -1, -1, 0, -1, 0, 0, 0, -1, 0, 0, 0, -1, 0]) (cs2 := w_161) (ty := tyX8) fl_X8_248 rfl tyX8_ok nmX8 (Or.inr ⟨rfl, rfl, rfl, bw_t tt_5 123 rfl rfl⟩) (by decide +kernel) rfl (by decide +kernel) (fun _ => rfl) (fun g => pn_a (x := 139) (by decide) _ g) rfl dX8_init_1549 rfl ?_
  refine k_aload (pc2 := 1553) dX8_init_1552 rfl rfl (by decide) ?_
  refine k_iconst (pc2 := 1554) dX8_init_1553 rfl ?_
  refine k_newa2 (pc2 := 1556) (a := 140) (cs2 := (w_161 ++ [(102, List.replicate 5 0)])) (Or.inr (Or.inr ⟨rfl, rfl⟩)) (bw_t tt_6 151 rfl rfl) (by decide) dX8_init_1554 rfl (by decide +kernel) (by decide +kernel) (by decide +kernel) rfl rfl ?_
  refine k_dup (pc2 := 1557) dX8_init_1556 rfl (by decide) ?_
  refine k_iconst (pc2 := 1558) dX8_init_1557 rfl ?_
  refine k_bipush (pc2 := 1560) dX8_init_1558 rfl rfl ?_
  refine k_ast (pc2 := 1561) (row := List.replicate 5 0) (cs2 := (w_161 ++ [(102, [115, 0, 0, 0, 0])])) (Or.inr ⟨dX8_init_1560, rfl, rfl⟩) (by decide +kernel) rfl (by decide) rfl rfl ?_
  refine k_dup (pc2 := 1562) dX8_init_1561 rfl (by decide) ?_
  refine k_iconst (pc2 := 1563) dX8_init_1562 rfl ?_
  refine k_bipush (pc2 := 1565) dX8_init_1563 rfl rfl ?_
  refine k_ast (pc2 := 1566) (row := [115, 0, 0, 0, 0]) (cs2 := (w_161 ++ [(102, [115, 104, 0, 0, 0])])) (Or.inr ⟨dX8_init_1565, rfl, rfl⟩) (by decide +kernel) rfl (by decide) rfl rfl ?_
  refine k_dup (pc2 := 1567) dX8_init_1566 rfl (by decide) ?_
  refine k_iconst (pc2 := 1568) dX8_init_1567 rfl ?_
  refine k_bipush (pc2 := 1570) dX8_init_1568 rfl rfl ?_
  refine k_ast (pc2 := 1571) (row := [115, 104, 0, 0, 0]) (cs2 := (w_161 ++ [(102, [115, 104, 111, 0, 0])])) (Or.inr ⟨dX8_init_1570, rfl, rfl⟩) (by decide +kernel) rfl (by decide) rfl rfl ?_
  refine k_dup (pc2 := 1572) dX8_init_1571 rfl (by decide) ?_
  refine k_iconst (pc2 := 1573) dX8_init_1572 rfl ?_
  refine k_bipush (pc2 := 1575) dX8_init_1573 rfl rfl ?_
  refine k_ast (pc2 := 1576) (row := [115, 104, 111, 0, 0]) (cs2 := (w_161 ++ [(102, [115, 104, 111, 119, 0])])) (Or.inr ⟨dX8_init_1575, rfl, rfl⟩) (by decide +kernel) rfl (by decide) rfl rfl ?_
  refine k_dup (pc2 := 1577) dX8_init_1576 rfl (by decide) ?_
  refine k_iconst (pc2 := 1578) dX8_init_1577 rfl ?_
  refine k_bipush (pc2 := 1580) dX8_init_1578 rfl rfl ?_
  refine k_ast (pc2 := 1581) (row := [115, 104, 111, 119, 0]) (cs2 := (w_161 ++ [(102, [115, 104, 111, 119, 110])])) (Or.inr ⟨dX8_init_1580, rfl, rfl⟩) (by decide +kernel) rfl (by decide) rfl rfl ?_
  refine k_put (pc2 := 1584) (x := 140) (v := aR 140) (row := [63, 0, 0, 0, 0, 0, 0, 0, -1, 64, 0, 65, 66, 67, 68, 69, 70, 71, 72, 73, 74, 75, 76, 77, 78, 79, 80, 81, 82, 83, 84, 85, 86, 87, 88, 89, 90, 91, 92, 93, 94, 0, 95, 96, 97, 98, 99, 100, 101, 102, 103, 0, 0, 0, 0, 0, 0, 0, 104, 105, 106, 107, 108, 109, 0, 110, 0, 111, 112, 113, 114, 115, 116, 117, 118, 0, 119, 120, 121, 122, 123, 124, 125, 0, 0, 1, 0, 0, 0, 126, 127, 128, 129, 130, 131, 132, 133, 134, 135, 136, 137, 138, 139, -1, -1, -1, -1, -1, -1, -1, -1, -1, 0, -1, 0, 0, 0, -1, 0, 0, 0, -1, 0]) (cs2 := w_162) (ty := tyX8) fl_X8_251 rfl tyX8_ok nmX8 (Or.inr ⟨rfl, rfl, rfl, bw_t tt_5 124 rfl rfl⟩) (by decide +kernel) rfl (by decide +kernel) (fun _ => rfl) (fun g => pn_a (x := 140) (by decide) _ g) rfl dX8_init_1581 rfl ?_
  refine k_aload (pc2 := 1585) dX8_init_1584 rfl rfl (by decide) ?_
  refine k_iconst (pc2 := 1586) dX8_init_1585 rfl ?_
  refine k_newa2 (pc2 := 1588) (a := 141) (cs2 := (w_162 ++ [(102, List.replicate 4 0)])) (Or.inr (Or.inr ⟨rfl, rfl⟩)) (bw_t tt_6 151 rfl rfl) (by decide) dX8_init_1586 rfl (by decide +kernel) (by decide +kernel) (by decide +kernel) rfl rfl ?_
  refine k_dup (pc2 := 1589) dX8_init_1588 rfl (by decide) ?_
  refine k_iconst (pc2 := 1590) dX8_init_1589 rfl ?_
  refine k_bipush (pc2 := 1592) dX8_init_1590 rfl rfl ?_
  refine k_ast (pc2 := 1593) (row := List.replicate 4 0) (cs2 := (w_162 ++ [(102, [117, 0, 0, 0])])) (Or.inr ⟨dX8_init_1592, rfl, rfl⟩) (by decide +kernel) rfl (by decide) rfl rfl ?_
  refine k_dup (pc2 := 1594) dX8_init_1593 rfl (by decide) ?_
  refine k_iconst (pc2 := 1595) dX8_init_1594 rfl ?_
  refine k_bipush (pc2 := 1597) dX8_init_1595 rfl rfl ?_
  refine k_ast (pc2 := 1598) (row := [117, 0, 0, 0]) (cs2 := (w_162 ++ [(102, [117, 115, 0, 0])])) (Or.inr ⟨dX8_init_1597, rfl, rfl⟩) (by decide +kernel) rfl (by decide) rfl rfl ?_
  refine k_dup (pc2 := 1599) dX8_init_1598 rfl (by decide) ?_
  refine k_iconst (pc2 := 1600) dX8_init_1599 rfl ?_
  refine k_bipush (pc2 := 1602) dX8_init_1600 rfl rfl ?_
  refine k_ast (pc2 := 1603) (row := [117, 115, 0, 0]) (cs2 := (w_162 ++ [(102, [117, 115, 101, 0])])) (Or.inr ⟨dX8_init_1602, rfl, rfl⟩) (by decide +kernel) rfl (by decide) rfl rfl ?_
  refine k_dup (pc2 := 1604) dX8_init_1603 rfl (by decide) ?_
  refine k_iconst (pc2 := 1605) dX8_init_1604 rfl ?_
  refine k_bipush (pc2 := 1607) dX8_init_1605 rfl rfl ?_
  refine k_ast (pc2 := 1608) (row := [117, 115, 101, 0]) (cs2 := (w_162 ++ [(102, [117, 115, 101, 100])])) (Or.inr ⟨dX8_init_1607, rfl, rfl⟩) (by decide +kernel) rfl (by decide) rfl rfl ?_
  refine k_put (pc2 := 1611) (x := 141) (v := aR 141) (row := [63, 0, 0, 0, 0, 0, 0, 0, -1, 64, 0, 65, 66, 67, 68, 69, 70, 71, 72, 73, 74, 75, 76, 77, 78, 79, 80, 81, 82, 83, 84, 85, 86, 87, 88, 89, 90, 91, 92, 93, 94, 0, 95, 96, 97, 98, 99, 100, 101, 102, 103, 0, 0, 0, 0, 0, 0, 0, 104, 105, 106, 107, 108, 109, 0, 110, 0, 111, 112, 113, 114, 115, 116, 117, 118, 0, 119, 120, 121, 122, 123, 124, 125, 0, 0, 1, 0, 0, 0, 126, 127, 128, 129, 130, 131, 132, 133, 134, 135, 136, 137, 138, 139, 140, -1, -1, -1, -1, -1, -1, -1, -1, 0, -1, 0, 0, 0, -1, 0, 0, 0, -1, 0]) (cs2 := w_163) (ty := tyX8) fl_X8_254 rfl tyX8_ok nmX8 (Or.inr ⟨rfl, rfl, rfl, bw_t tt_5 125 rfl rfl⟩) (by decide +kernel) rfl (by decide +kernel) (fun _ => rfl) (fun g => pn_a (x := 141) (by decide) _ g) rfl dX8_init_1608 rfl ?_
  refine k_aload (pc2 := 1612) dX8_init_1611 rfl rfl (by decide) ?_
  refine k_bipush (pc2 := 1614) dX8_init_1612 rfl rfl ?_
  refine k_newa2 (pc2 := 1616) (a := 142) (cs2 := (w_163 ++ [(102, List.replicate 6 0)])) (Or.inr (Or.inr ⟨rfl, rfl⟩)) (bw_t tt_6 151 rfl rfl) (by decide) dX8_init_1614 rfl (by decide +kernel) (by decide +kernel) (by decide +kernel) rfl rfl ?_
  refine k_dup (pc2 := 1617) dX8_init_1616 rfl (by decide) ?_
  refine k_iconst (pc2 := 1618) dX8_init_1617 rfl ?_
  refine k_bipush (pc2 := 1620) dX8_init_1618 rfl rfl ?_
  refine k_ast (pc2 := 1621) (row := List.replicate 6 0) (cs2 := (w_163 ++ [(102, [110, 0, 0, 0, 0, 0])])) (Or.inr ⟨dX8_init_1620, rfl, rfl⟩) (by decide +kernel) rfl (by decide) rfl rfl ?_
  refine k_dup (pc2 := 1622) dX8_init_1621 rfl (by decide) ?_
  refine k_iconst (pc2 := 1623) dX8_init_1622 rfl ?_
  refine k_bipush (pc2 := 1625) dX8_init_1623 rfl rfl ?_
  refine k_ast (pc2 := 1626) (row := [110, 0, 0, 0, 0, 0]) (cs2 := (w_163 ++ [(102, [110, 117, 0, 0, 0, 0])])) (Or.inr ⟨dX8_init_1625, rfl, rfl⟩) (by decide +kernel) rfl (by decide) rfl rfl ?_
  refine k_dup (pc2 := 1627) dX8_init_1626 rfl (by decide) ?_
  refine k_iconst (pc2 := 1628) dX8_init_1627 rfl ?_
  refine k_bipush (pc2 := 1630) dX8_init_1628 rfl rfl ?_
  refine k_ast (pc2 := 1631) (row := [110, 117, 0, 0, 0, 0]) (cs2 := (w_163 ++ [(102, [110, 117, 109, 0, 0, 0])])) (Or.inr ⟨dX8_init_1630, rfl, rfl⟩) (by decide +kernel) rfl (by decide) rfl rfl ?_
  refine k_dup (pc2 := 1632) dX8_init_1631 rfl (by decide) ?_
  refine k_iconst (pc2 := 1633) dX8_init_1632 rfl ?_
  refine k_bipush (pc2 := 1635) dX8_init_1633 rfl rfl ?_
  refine k_ast (pc2 := 1636) (row := [110, 117, 109, 0, 0, 0]) (cs2 := (w_163 ++ [(102, [110, 117, 109, 98, 0, 0])])) (Or.inr ⟨dX8_init_1635, rfl, rfl⟩) (by decide +kernel) rfl (by decide) rfl rfl ?_
  refine k_dup (pc2 := 1637) dX8_init_1636 rfl (by decide) ?_
  refine k_iconst (pc2 := 1638) dX8_init_1637 rfl ?_
  refine k_bipush (pc2 := 1640) dX8_init_1638 rfl rfl ?_
  refine k_ast (pc2 := 1641) (row := [110, 117, 109, 98, 0, 0]) (cs2 := (w_163 ++ [(102, [110, 117, 109, 98, 101, 0])])) (Or.inr ⟨dX8_init_1640, rfl, rfl⟩) (by decide +kernel) rfl (by decide) rfl rfl ?_
  refine k_dup (pc2 := 1642) dX8_init_1641 rfl (by decide) ?_
  refine k_iconst (pc2 := 1643) dX8_init_1642 rfl ?_
  refine k_bipush (pc2 := 1645) dX8_init_1643 rfl rfl ?_
  refine k_ast (pc2 := 1646) (row := [110, 117, 109, 98, 101, 0]) (cs2 := (w_163 ++ [(102, [110, 117, 109, 98, 101, 114])])) (Or.inr ⟨dX8_init_1645, rfl, rfl⟩) (by decide +kernel) rfl (by decide) rfl rfl ?_
  refine k_put (pc2 := 1649) (x := 142) (v := aR 142) (row := [63, 0, 0, 0, 0, 0, 0, 0, -1, 64, 0, 65, 66, 67, 68, 69, 70, 71, 72, 73, 74, 75, 76, 77, 78, 79, 80, 81, 82, 83, 84, 85, 86, 87, 88, 89, 90, 91, 92, 93, 94, 0, 95, 96, 97, 98, 99, 100, 101, 102, 103, 0, 0, 0, 0, 0, 0, 0, 104, 105, 106, 107, 108, 109, 0, 110, 0, 111, 112, 113, 114, 115, 116, 117, 118, 0, 119, 120, 121, 122, 123, 124, 125, 0, 0, 1, 0, 0, 0, 126, 127, 128, 129, 130, 131, 132, 133, 134, 135, 136, 137, 138, 139, 140, 141, -1, -1, -1, -1, -1, -1, -1, 0, -1, 0, 0, 0, -1, 0, 0, 0, -1, 0]) (cs2 := w_164) (ty := tyX8) fl_X8_257 rfl tyX8_ok nmX8 (Or.inr ⟨rfl, rfl, rfl, bw_t tt_5 126 rfl rfl⟩) (by decide +kernel) rfl (by decide +kernel) (fun _ => rfl) (fun g => pn_a (x := 142) (by decide) _ g) rfl dX8_init_1646 rfl ?_
  refine k_aload (pc2 := 1650) dX8_init_1649 rfl rfl (by decide) ?_
  refine k_iconst (pc2 := 1651) dX8_init_1650 rfl ?_
  refine k_newa2 (pc2 := 1653) (a := 143) (cs2 := (w_164 ++ [(102, List.replicate 4 0)])) (Or.inr (Or.inr ⟨rfl, rfl⟩)) (bw_t tt_6 151 rfl rfl) (by decide) dX8_init_1651 rfl (by decide +kernel) (by decide +kernel) (by decide +kernel) rfl rfl ?_
  refine k_dup (pc2 := 1654) dX8_init_1653 rfl (by decide) ?_
  refine k_iconst (pc2 := 1655) dX8_init_1654 rfl ?_
  refine k_bipush (pc2 := 1657) dX8_init_1655 rfl rfl ?_
  refine k_ast (pc2 := 1658) (row := List.replicate 4 0) (cs2 := (w_164 ++ [(102, [114, 0, 0, 0])])) (Or.inr ⟨dX8_init_1657, rfl, rfl⟩) (by decide +kernel) rfl (by decide) rfl rfl ?_
  refine k_dup (pc2 := 1659) dX8_init_1658 rfl (by decide) ?_
  refine k_iconst (pc2 := 1660) dX8_init_1659 rfl ?_
  refine k_bipush (pc2 := 1662) dX8_init_1660 rfl rfl ?_
  refine k_ast (pc2 := 1663) (row := [114, 0, 0, 0]) (cs2 := (w_164 ++ [(102, [114, 101, 0, 0])])) (Or.inr ⟨dX8_init_1662, rfl, rfl⟩) (by decide +kernel) rfl (by decide) rfl rfl ?_
  refine k_dup (pc2 := 1664) dX8_init_1663 rfl (by decide) ?_
  refine k_iconst (pc2 := 1665) dX8_init_1664 rfl ?_
  refine k_bipush (pc2 := 1667) dX8_init_1665 rfl rfl ?_
  refine k_ast (pc2 := 1668) (row := [114, 101, 0, 0]) (cs2 := (w_164 ++ [(102, [114, 101, 115, 0])])) (Or.inr ⟨dX8_init_1667, rfl, rfl⟩) (by decide +kernel) rfl (by decide) rfl rfl ?_
  refine k_dup (pc2 := 1669) dX8_init_1668 rfl (by decide) ?_
  refine k_iconst (pc2 := 1670) dX8_init_1669 rfl ?_
  refine k_bipush (pc2 := 1672) dX8_init_1670 rfl rfl ?_
  refine k_ast (pc2 := 1673) (row := [114, 101, 115, 0]) (cs2 := (w_164 ++ [(102, [114, 101, 115, 116])])) (Or.inr ⟨dX8_init_1672, rfl, rfl⟩) (by decide +kernel) rfl (by decide) rfl rfl ?_
  refine k_put (pc2 := 1676) (x := 143) (v := aR 143) (row := [63, 0, 0, 0, 0, 0, 0, 0, -1, 64, 0, 65, 66, 67, 68, 69, 70, 71, 72, 73, 74, 75, 76, 77, 78, 79, 80, 81, 82, 83, 84, 85, 86, 87, 88, 89, 90, 91, 92, 93, 94, 0, 95, 96, 97, 98, 99, 100, 101, 102, 103, 0, 0, 0, 0, 0, 0, 0, 104, 105, 106, 107, 108, 109, 0, 110, 0, 111, 112, 113, 114, 115, 116, 117, 118, 0, 119, 120, 121, 122, 123, 124, 125, 0, 0, 1, 0, 0, 0, 126, 127, 128, 129, 130, 131, 132, 133, 134, 135, 136, 137, 138, 139, 140, 141, 142, -1, -1, -1, -1, -1, -1, 0, -1, 0, 0, 0, -1, 0, 0, 0, -1, 0]) (cs2 := w_165) (ty := tyX8) fl_X8_260 rfl tyX8_ok nmX8 (Or.inr ⟨rfl, rfl, rfl, bw_t tt_5 127 rfl rfl⟩) (by decide +kernel) rfl (by decide +kernel) (fun _ => rfl) (fun g => pn_a (x := 143) (by decide) _ g) rfl dX8_init_1673 rfl ?_
  refine k_aload (pc2 := 1677) dX8_init_1676 rfl rfl (by decide) ?_
  refine k_iconst (pc2 := 1678) dX8_init_1677 rfl ?_
  refine k_newa2 (pc2 := 1680) (a := 144) (cs2 := (w_165 ++ [(102, List.replicate 4 0)])) (Or.inr (Or.inr ⟨rfl, rfl⟩)) (bw_t tt_6 151 rfl rfl) (by decide) dX8_init_1678 rfl (by decide +kernel) (by decide +kernel) (by decide +kernel) rfl rfl ?_
  refine k_dup (pc2 := 1681) dX8_init_1680 rfl (by decide) ?_
  refine k_iconst (pc2 := 1682) dX8_init_1681 rfl ?_
  refine k_bipush (pc2 := 1684) dX8_init_1682 rfl rfl ?_
  refine k_ast (pc2 := 1685) (row := List.replicate 4 0) (cs2 := (w_165 ++ [(102, [108, 0, 0, 0])])) (Or.inr ⟨dX8_init_1684, rfl, rfl⟩) (by decide +kernel) rfl (by decide) rfl rfl ?_
  refine k_dup (pc2 := 1686) dX8_init_1685 rfl (by decide) ?_
  refine k_iconst (pc2 := 1687) dX8_init_1686 rfl ?_
  refine k_bipush (pc2 := 1689) dX8_init_1687 rfl rfl ?_
  refine k_ast (pc2 := 1690) (row := [108, 0, 0, 0]) (cs2 := (w_165 ++ [(102, [108, 101, 0, 0])])) (Or.inr ⟨dX8_init_1689, rfl, rfl⟩) (by decide +kernel) rfl (by decide) rfl rfl ?_
  refine k_dup (pc2 := 1691) dX8_init_1690 rfl (by decide) ?_
  refine k_iconst (pc2 := 1692) dX8_init_1691 rfl ?_
  refine k_bipush (pc2 := 1694) dX8_init_1692 rfl rfl ?_
  refine k_ast (pc2 := 1695) (row := [108, 101, 0, 0]) (cs2 := (w_165 ++ [(102, [108, 101, 102, 0])])) (Or.inr ⟨dX8_init_1694, rfl, rfl⟩) (by decide +kernel) rfl (by decide) rfl rfl ?_
  refine k_dup (pc2 := 1696) dX8_init_1695 rfl (by decide) ?_
  refine k_iconst (pc2 := 1697) dX8_init_1696 rfl ?_
  refine k_bipush (pc2 := 1699) dX8_init_1697 rfl rfl ?_
  refine k_ast (pc2 := 1700) (row := [108, 101, 102, 0]) (cs2 := (w_165 ++ [(102, [108, 101, 102, 116])])) (Or.inr ⟨dX8_init_1699, rfl, rfl⟩) (by decide +kernel) rfl (by decide) rfl rfl ?_
  refine k_put (pc2 := 1703) (x := 144) (v := aR 144) (row := [63, 0, 0, 0, 0, 0, 0, 0, -1, 64, 0, 65, 66, 67, 68, 69, 70, 71, 72, 73, 74, 75, 76, 77, 78, 79, 80, 81, 82, 83, 84, 85, 86, 87, 88, 89, 90, 91, 92, 93, 94, 0, 95, 96, 97, 98, 99, 100, 101, 102, 103, 0, 0, 0, 0, 0, 0, 0, 104, 105, 106, 107, 108, 109, 0, 110, 0, 111, 112, 113, 114, 115, 116, 117, 118, 0, 119, 120, 121, 122, 123, 124, 125, 0, 0, 1, 0, 0, 0, 126, 127, 128, 129, 130, 131, 132, 133, 134, 135, 136, 137, 138, 139, 140, 141, 142, 143, -1, -1, -1, -1, -1, 0, -1, 0, 0, 0, -1, 0, 0, 0, -1, 0]) (cs2 := w_166) (ty := tyX8) fl_X8_263 rfl tyX8_ok nmX8 (Or.inr ⟨rfl, rfl, rfl, bw_t tt_5 128 rfl rfl⟩) (by decide +kernel) rfl (by decide +kernel) (fun _ => rfl) (fun g => pn_a (x := 144) (by decide) _ g) rfl dX8_init_1700 rfl ?_
  refine k_aload (pc2 := 1704) dX8_init_1703 rfl rfl (by decide) ?_
  refine k_bipush (pc2 := 1706) dX8_init_1704 rfl rfl ?_
  refine k_newa2 (pc2 := 1708) (a := 145) (cs2 := (w_166 ++ [(102, List.replicate 7 0)])) (Or.inr (Or.inr ⟨rfl, rfl⟩)) (bw_t tt_6 151 rfl rfl) (by decide) dX8_init_1706 rfl (by decide +kernel) (by decide +kernel) (by decide +kernel) rfl rfl ?_
  refine k_dup (pc2 := 1709) dX8_init_1708 rfl (by decide) ?_
  refine k_iconst (pc2 := 1710) dX8_init_1709 rfl ?_
  refine k_bipush (pc2 := 1712) dX8_init_1710 rfl rfl ?_
  refine k_ast (pc2 := 1713) (row := List.replicate 7 0) (cs2 := (w_166 ++ [(102, [99, 0, 0, 0, 0, 0, 0])])) (Or.inr ⟨dX8_init_1712, rfl, rfl⟩) (by decide +kernel) rfl (by decide) rfl rfl ?_
  refine k_dup (pc2 := 1714) dX8_init_1713 rfl (by decide) ?_
  refine k_iconst (pc2 := 1715) dX8_init_1714 rfl ?_
  refine k_bipush (pc2 := 1717) dX8_init_1715 rfl rfl ?_
  refine k_ast (pc2 := 1718) (row := [99, 0, 0, 0, 0, 0, 0]) (cs2 := (w_166 ++ [(102, [99, 104, 0, 0, 0, 0, 0])])) (Or.inr ⟨dX8_init_1717, rfl, rfl⟩) (by decide +kernel) rfl (by decide) rfl rfl ?_
  refine k_dup (pc2 := 1719) dX8_init_1718 rfl (by decide) ?_
  refine k_iconst (pc2 := 1720) dX8_init_1719 rfl ?_
  refine k_bipush (pc2 := 1722) dX8_init_1720 rfl rfl ?_
  refine k_ast (pc2 := 1723) (row := [99, 104, 0, 0, 0, 0, 0]) (cs2 := (w_166 ++ [(102, [99, 104, 97, 0, 0, 0, 0])])) (Or.inr ⟨dX8_init_1722, rfl, rfl⟩) (by decide +kernel) rfl (by decide) rfl rfl ?_
  refine k_dup (pc2 := 1724) dX8_init_1723 rfl (by decide) ?_
  refine k_iconst (pc2 := 1725) dX8_init_1724 rfl ?_
  refine k_bipush (pc2 := 1727) dX8_init_1725 rfl rfl ?_
  refine k_ast (pc2 := 1728) (row := [99, 104, 97, 0, 0, 0, 0]) (cs2 := (w_166 ++ [(102, [99, 104, 97, 110, 0, 0, 0])])) (Or.inr ⟨dX8_init_1727, rfl, rfl⟩) (by decide +kernel) rfl (by decide) rfl rfl ?_
  refine k_dup (pc2 := 1729) dX8_init_1728 rfl (by decide) ?_
  refine k_iconst (pc2 := 1730) dX8_init_1729 rfl ?_
  refine k_bipush (pc2 := 1732) dX8_init_1730 rfl rfl ?_
  refine k_ast (pc2 := 1733) (row := [99, 104, 97, 110, 0, 0, 0]) (cs2 := (w_166 ++ [(102, [99, 104, 97, 110, 103, 0, 0])])) (Or.inr ⟨dX8_init_1732, rfl, rfl⟩) (by decide +kernel) rfl (by decide) rfl rfl ?_
  refine k_dup (pc2 := 1734) dX8_init_1733 rfl (by decide) ?_
  refine k_iconst (pc2 := 1735) dX8_init_1734 rfl ?_
  refine k_bipush (pc2 := 1737) dX8_init_1735 rfl rfl ?_
  refine k_ast (pc2 := 1738) (row := [99, 104, 97, 110, 103, 0, 0]) (cs2 := (w_166 ++ [(102, [99, 104, 97, 110, 103, 101, 0])])) (Or.inr ⟨dX8_init_1737, rfl, rfl⟩) (by decide +kernel) rfl (by decide) rfl rfl ?_
  refine k_dup (pc2 := 1739) dX8_init_1738 rfl (by decide) ?_
  refine k_bipush (pc2 := 1741) dX8_init_1739 rfl rfl ?_
  refine k_bipush (pc2 := 1743) dX8_init_1741 rfl rfl ?_
  refine k_ast (pc2 := 1744) (row := [99, 104, 97, 110, 103, 101, 0]) (cs2 := (w_166 ++ [(102, [99, 104, 97, 110, 103, 101, 100])])) (Or.inr ⟨dX8_init_1743, rfl, rfl⟩) (by decide +kernel) rfl (by decide) rfl rfl ?_
  refine k_put (pc2 := 1747) (x := 145) (v := aR 145) (row := [63, 0, 0, 0, 0, 0, 0, 0, -1, 64, 0, 65, 66, 67, 68, 69, 70, 71, 72, 73, 74, 75, 76, 77, 78, 79, 80, 81, 82, 83, 84, 85, 86, 87, 88, 89, 90, 91, 92, 93, 94, 0, 95, 96, 97, 98, 99, 100, 101, 102, 103, 0, 0, 0, 0, 0, 0, 0, 104, 105, 106, 107, 108, 109, 0, 110, 0, 111, 112, 113, 114, 115, 116, 117, 118, 0, 119, 120, 121, 122, 123, 124, 125, 0, 0, 1, 0, 0, 0, 126, 127, 128, 129, 130, 131, 132, 133, 134, 135, 136, 137, 138, 139, 140, 141, 142, 143, 144, -1, -1, -1, -1, 0, -1, 0, 0, 0, -1, 0, 0, 0, -1, 0]) (cs2 := w_167) (ty := tyX8) fl_X8_266 rfl tyX8_ok nmX8 (Or.inr ⟨rfl, rfl, rfl, bw_t tt_5 129 rfl rfl⟩) (by decide +kernel) rfl (by decide +kernel) (fun _ => rfl) (fun g => pn_a (x := 145) (by decide) _ g) rfl dX8_init_1744 rfl ?_
  refine k_aload (pc2 := 1748) dX8_init_1747 rfl rfl (by decide) ?_
  refine k_bipush (pc2 := 1750) dX8_init_1748 rfl rfl ?_
  refine k_newa2 (pc2 := 1752) (a := 146) (cs2 := (w_167 ++ [(102, List.replicate 6 0)])) (Or.inr (Or.inr ⟨rfl, rfl⟩)) (bw_t tt_6 151 rfl rfl) (by decide) dX8_init_1750 rfl (by decide +kernel) (by decide +kernel) (by decide +kernel) rfl rfl ?_
  refine k_dup (pc2 := 1753) dX8_init_1752 rfl (by decide) ?_
  refine k_iconst (pc2 := 1754) dX8_init_1753 rfl ?_
  refine k_bipush (pc2 := 1756) dX8_init_1754 rfl rfl ?_
  refine k_ast (pc2 := 1757) (row := List.replicate 6 0) (cs2 := (w_167 ++ [(102, [109, 0, 0, 0, 0, 0])])) (Or.inr ⟨dX8_init_1756, rfl, rfl⟩) (by decide +kernel) rfl (by decide) rfl rfl ?_
  refine k_dup (pc2 := 1758) dX8_init_1757 rfl (by decide) ?_
  refine k_iconst (pc2 := 1759) dX8_init_1758 rfl ?_
  refine k_bipush (pc2 := 1761) dX8_init_1759 rfl rfl ?_
  refine k_ast (pc2 := 1762) (row := [109, 0, 0, 0, 0, 0]) (cs2 := (w_167 ++ [(102, [109, 101, 0, 0, 0, 0])])) (Or.inr ⟨dX8_init_1761, rfl, rfl⟩) (by decide +kernel) rfl (by decide) rfl rfl ?_
  refine k_dup (pc2 := 1763) dX8_init_1762 rfl (by decide) ?_
  refine k_iconst (pc2 := 1764) dX8_init_1763 rfl ?_
  refine k_bipush (pc2 := 1766) dX8_init_1764 rfl rfl ?_
  refine k_ast (pc2 := 1767) (row := [109, 101, 0, 0, 0, 0]) (cs2 := (w_167 ++ [(102, [109, 101, 110, 0, 0, 0])])) (Or.inr ⟨dX8_init_1766, rfl, rfl⟩) (by decide +kernel) rfl (by decide) rfl rfl ?_
  refine k_dup (pc2 := 1768) dX8_init_1767 rfl (by decide) ?_
  refine k_iconst (pc2 := 1769) dX8_init_1768 rfl ?_
  refine k_bipush (pc2 := 1771) dX8_init_1769 rfl rfl ?_
  refine k_ast (pc2 := 1772) (row := [109, 101, 110, 0, 0, 0]) (cs2 := (w_167 ++ [(102, [109, 101, 110, 100, 0, 0])])) (Or.inr ⟨dX8_init_1771, rfl, rfl⟩) (by decide +kernel) rfl (by decide) rfl rfl ?_
  refine k_dup (pc2 := 1773) dX8_init_1772 rfl (by decide) ?_
  refine k_iconst (pc2 := 1774) dX8_init_1773 rfl ?_
  refine k_bipush (pc2 := 1776) dX8_init_1774 rfl rfl ?_
  refine k_ast (pc2 := 1777) (row := [109, 101, 110, 100, 0, 0]) (cs2 := (w_167 ++ [(102, [109, 101, 110, 100, 101, 0])])) (Or.inr ⟨dX8_init_1776, rfl, rfl⟩) (by decide +kernel) rfl (by decide) rfl rfl ?_
  refine k_dup (pc2 := 1778) dX8_init_1777 rfl (by decide) ?_
  refine k_iconst (pc2 := 1779) dX8_init_1778 rfl ?_
  refine k_bipush (pc2 := 1781) dX8_init_1779 rfl rfl ?_
  refine k_ast (pc2 := 1782) (row := [109, 101, 110, 100, 101, 0]) (cs2 := (w_167 ++ [(102, [109, 101, 110, 100, 101, 100])])) (Or.inr ⟨dX8_init_1781, rfl, rfl⟩) (by decide +kernel) rfl (by decide) rfl rfl ?_
  refine k_put (pc2 := 1785) (x := 146) (v := aR 146) (row := [63, 0, 0, 0, 0, 0, 0, 0, -1, 64, 0, 65, 66, 67, 68, 69, 70, 71, 72, 73, 74, 75, 76, 77, 78, 79, 80, 81, 82, 83, 84, 85, 86, 87, 88, 89, 90, 91, 92, 93, 94, 0, 95, 96, 97, 98, 99, 100, 101, 102, 103, 0, 0, 0, 0, 0, 0, 0, 104, 105, 106, 107, 108, 109, 0, 110, 0, 111, 112, 113, 114, 115, 116, 117, 118, 0, 119, 120, 121, 122, 123, 124, 125, 0, 0, 1, 0, 0, 0, 126, 127, 128, 129, 130, 131, 132, 133, 134, 135, 136, 137, 138, 139, 140, 141, 142, 143, 144, 145, -1, -1, -1, 0, -1, 0, 0, 0, -1, 0, 0, 0, -1, 0]) (cs2 := w_168) (ty := tyX8) fl_X8_269 rfl tyX8_ok nmX8 (Or.inr ⟨rfl, rfl, rfl, bw_t tt_5 130 rfl rfl⟩) (by decide +kernel) rfl (by decide +kernel) (fun _ => rfl) (fun g => pn_a (x := 146) (by decide) _ g) rfl dX8_init_1782 rfl ?_
  refine k_aload (pc2 := 1786) dX8_init_1785 rfl rfl (by decide) ?_
  refine k_iconst (pc2 := 1787) dX8_init_1786 rfl ?_
  refine k_newa2 (pc2 := 1789) (a := 147) (cs2 := (w_168 ++ [(102, List.replicate 5 0)])) (Or.inr (Or.inr ⟨rfl, rfl⟩)) (bw_t tt_6 151 rfl rfl) (by decide) dX8_init_1787 rfl (by decide +kernel) (by decide +kernel) (by decide +kernel) rfl rfl ?_
  refine k_dup (pc2 := 1790) dX8_init_1789 rfl (by decide) ?_
  refine k_iconst (pc2 := 1791) dX8_init_1790 rfl ?_
  refine k_bipush (pc2 := 1793) dX8_init_1791 rfl rfl ?_
  refine k_ast (pc2 := 1794) (row := List.replicate 5 0) (cs2 := (w_168 ++ [(102, [121, 0, 0, 0, 0])])) (Or.inr ⟨dX8_init_1793, rfl, rfl⟩) (by decide +kernel) rfl (by decide) rfl rfl ?_
  refine k_dup (pc2 := 1795) dX8_init_1794 rfl (by decide) ?_
  refine k_iconst (pc2 := 1796) dX8_init_1795 rfl ?_
  refine k_bipush (pc2 := 1798) dX8_init_1796 rfl rfl ?_
  refine k_ast (pc2 := 1799) (row := [121, 0, 0, 0, 0]) (cs2 := (w_168 ++ [(102, [121, 97, 0, 0, 0])])) (Or.inr ⟨dX8_init_1798, rfl, rfl⟩) (by decide +kernel) rfl (by decide) rfl rfl ?_
  refine k_dup (pc2 := 1800) dX8_init_1799 rfl (by decide) ?_
  refine k_iconst (pc2 := 1801) dX8_init_1800 rfl ?_
  refine k_bipush (pc2 := 1803) dX8_init_1801 rfl rfl ?_
  refine k_ast (pc2 := 1804) (row := [121, 97, 0, 0, 0]) (cs2 := (w_168 ++ [(102, [121, 97, 114, 0, 0])])) (Or.inr ⟨dX8_init_1803, rfl, rfl⟩) (by decide +kernel) rfl (by decide) rfl rfl ?_
  refine k_dup (pc2 := 1805) dX8_init_1804 rfl (by decide) ?_
  refine k_iconst (pc2 := 1806) dX8_init_1805 rfl ?_
  refine k_bipush (pc2 := 1808) dX8_init_1806 rfl rfl ?_
  refine k_ast (pc2 := 1809) (row := [121, 97, 114, 0, 0]) (cs2 := (w_168 ++ [(102, [121, 97, 114, 100, 0])])) (Or.inr ⟨dX8_init_1808, rfl, rfl⟩) (by decide +kernel) rfl (by decide) rfl rfl ?_
  refine k_dup (pc2 := 1810) dX8_init_1809 rfl (by decide) ?_
  refine k_iconst (pc2 := 1811) dX8_init_1810 rfl ?_
  refine k_bipush (pc2 := 1813) dX8_init_1811 rfl rfl ?_
  refine k_ast (pc2 := 1814) (row := [121, 97, 114, 100, 0]) (cs2 := (w_168 ++ [(102, [121, 97, 114, 100, 115])])) (Or.inr ⟨dX8_init_1813, rfl, rfl⟩) (by decide +kernel) rfl (by decide) rfl rfl ?_
  refine k_put (pc2 := 1817) (x := 147) (v := aR 147) (row := [63, 0, 0, 0, 0, 0, 0, 0, -1, 64, 0, 65, 66, 67, 68, 69, 70, 71, 72, 73, 74, 75, 76, 77, 78, 79, 80, 81, 82, 83, 84, 85, 86, 87, 88, 89, 90, 91, 92, 93, 94, 0, 95, 96, 97, 98, 99, 100, 101, 102, 103, 0, 0, 0, 0, 0, 0, 0, 104, 105, 106, 107, 108, 109, 0, 110, 0, 111, 112, 113, 114, 115, 116, 117, 118, 0, 119, 120, 121, 122, 123, 124, 125, 0, 0, 1, 0, 0, 0, 126, 127, 128, 129, 130, 131, 132, 133, 134, 135, 136, 137, 138, 139, 140, 141, 142, 143, 144, 145, 146, -1, -1, 0, -1, 0, 0, 0, -1, 0, 0, 0, -1, 0]) (cs2 := w_169) (ty := tyX8) fl_X8_272 rfl tyX8_ok nmX8 (Or.inr ⟨rfl, rfl, rfl, bw_t tt_5 131 rfl rfl⟩) (by decide +kernel) rfl (by decide +kernel) (fun _ => rfl) (fun g => pn_a (x := 147) (by decide) _ g) rfl dX8_init_1814 rfl ?_
  refine k_aload (pc2 := 1818) dX8_init_1817 rfl rfl (by decide) ?_
  refine k_sipush (pc2 := 1821) dX8_init_1818 rfl rfl ?_
  refine k_newa2 (pc2 := 1823) (a := 148) (cs2 := (w_169 ++ [(100, List.replicate 1700 0)])) (Or.inl ⟨rfl, rfl⟩) (bw_t tt_1 49 rfl rfl) (by decide) dX8_init_1821 rfl (by decide +kernel) (by decide +kernel) (by decide +kernel) rfl rfl ?_
  refine k_put (pc2 := 1826) (x := 148) (v := aR 148) (row := [63, 0, 0, 0, 0, 0, 0, 0, -1, 64, 0, 65, 66, 67, 68, 69, 70, 71, 72, 73, 74, 75, 76, 77, 78, 79, 80, 81, 82, 83, 84, 85, 86, 87, 88, 89, 90, 91, 92, 93, 94, 0, 95, 96, 97, 98, 99, 100, 101, 102, 103, 0, 0, 0, 0, 0, 0, 0, 104, 105, 106, 107, 108, 109, 0, 110, 0, 111, 112, 113, 114, 115, 116, 117, 118, 0, 119, 120, 121, 122, 123, 124, 125, 0, 0, 1, 0, 0, 0, 126, 127, 128, 129, 130, 131, 132, 133, 134, 135, 136, 137, 138, 139, 140, 141, 142, 143, 144, 145, 146, 147, -1, 0, -1, 0, 0, 0, -1, 0, 0, 0, -1, 0]) (cs2 := w_170) (ty := tyX8) fl_X8_275 rfl tyX8_ok nmX8 (Or.inr ⟨rfl, rfl, rfl, bw_t tt_5 132 rfl rfl⟩) (by decide +kernel) rfl (by decide +kernel) (fun _ => rfl) (fun g => pn_a (x := 148) (by decide) _ g) rfl dX8_init_1823 rfl ?_
  refine k_aload (pc2 := 1827) dX8_init_1826 rfl rfl (by decide) ?_
  refine k_sipush (pc2 := 1830) dX8_init_1827 rfl rfl ?_
  refine k_newa2 (pc2 := 1832) (a := 149) (cs2 := (w_170 ++ [(100, List.replicate 1700 0)])) (Or.inl ⟨rfl, rfl⟩) (bw_t tt_1 49 rfl rfl) (by decide) dX8_init_1830 rfl (by decide +kernel) (by decide +kernel) (by decide +kernel) rfl rfl ?_
  refine k_put (pc2 := 1835) (x := 149) (v := aR 149) (row := [63, 0, 0, 0, 0, 0, 0, 0, -1, 64, 0, 65, 66, 67, 68, 69, 70, 71, 72, 73, 74, 75, 76, 77, 78, 79, 80, 81, 82, 83, 84, 85, 86, 87, 88, 89, 90, 91, 92, 93, 94, 0, 95, 96, 97, 98, 99, 100, 101, 102, 103, 0, 0, 0, 0, 0, 0, 0, 104, 105, 106, 107, 108, 109, 0, 110, 0, 111, 112, 113, 114, 115, 116, 117, 118, 0, 119, 120, 121, 122, 123, 124, 125, 0, 0, 1, 0, 0, 0, 126, 127, 128, 129, 130, 131, 132, 133, 134, 135, 136, 137, 138, 139, 140, 141, 142, 143, 144, 145, 146, 147, 148, 0, -1, 0, 0, 0, -1, 0, 0, 0, -1, 0]) (cs2 := w_171) (ty := tyX8) fl_X8_278 rfl tyX8_ok nmX8 (Or.inr ⟨rfl, rfl, rfl, bw_t tt_5 134 rfl rfl⟩) (by decide +kernel) rfl (by decide +kernel) (fun _ => rfl) (fun g => pn_a (x := 149) (by decide) _ g) rfl dX8_init_1832 rfl ?_
  refine k_aload (pc2 := 1836) dX8_init_1835 rfl rfl (by decide) ?_
  refine k_sipush (pc2 := 1839) dX8_init_1836 rfl rfl ?_
  refine k_newa2 (pc2 := 1841) (a := 150) (cs2 := (w_171 ++ [(101, List.replicate 1700 0)])) (Or.inr (Or.inl ⟨rfl, rfl⟩)) (bw_t tt_1 201 rfl rfl) (by decide) dX8_init_1839 rfl (by decide +kernel) (by decide +kernel) (by decide +kernel) rfl rfl ?_
  refine k_put (pc2 := 1844) (x := 150) (v := aR 150) (row := [63, 0, 0, 0, 0, 0, 0, 0, -1, 64, 0, 65, 66, 67, 68, 69, 70, 71, 72, 73, 74, 75, 76, 77, 78, 79, 80, 81, 82, 83, 84, 85, 86, 87, 88, 89, 90, 91, 92, 93, 94, 0, 95, 96, 97, 98, 99, 100, 101, 102, 103, 0, 0, 0, 0, 0, 0, 0, 104, 105, 106, 107, 108, 109, 0, 110, 0, 111, 112, 113, 114, 115, 116, 117, 118, 0, 119, 120, 121, 122, 123, 124, 125, 0, 0, 1, 0, 0, 0, 126, 127, 128, 129, 130, 131, 132, 133, 134, 135, 136, 137, 138, 139, 140, 141, 142, 143, 144, 145, 146, 147, 148, 0, 149, 0, 0, 0, -1, 0, 0, 0, -1, 0]) (cs2 := w_172) (ty := tyX8) fl_X8_281 rfl tyX8_ok nmX8 (Or.inr ⟨rfl, rfl, rfl, bw_t tt_5 138 rfl rfl⟩) (by decide +kernel) rfl (by decide +kernel) (fun _ => rfl) (fun g => pn_a (x := 150) (by decide) _ g) rfl dX8_init_1841 rfl ?_
  refine k_aload (pc2 := 1845) dX8_init_1844 rfl rfl (by decide) ?_
  refine k_bipush (pc2 := 1847) dX8_init_1845 rfl rfl ?_
  refine k_newa2 (pc2 := 1849) (a := 151) (cs2 := (w_172 ++ [(100, List.replicate 8 0)])) (Or.inl ⟨rfl, rfl⟩) (bw_t tt_1 49 rfl rfl) (by decide) dX8_init_1847 rfl (by decide +kernel) (by decide +kernel) (by decide +kernel) rfl rfl ?_
  refine k_put (pc2 := 1852) (x := 151) (v := aR 151) (row := [63, 0, 0, 0, 0, 0, 0, 0, -1, 64, 0, 65, 66, 67, 68, 69, 70, 71, 72, 73, 74, 75, 76, 77, 78, 79, 80, 81, 82, 83, 84, 85, 86, 87, 88, 89, 90, 91, 92, 93, 94, 0, 95, 96, 97, 98, 99, 100, 101, 102, 103, 0, 0, 0, 0, 0, 0, 0, 104, 105, 106, 107, 108, 109, 0, 110, 0, 111, 112, 113, 114, 115, 116, 117, 118, 0, 119, 120, 121, 122, 123, 124, 125, 0, 0, 1, 0, 0, 0, 126, 127, 128, 129, 130, 131, 132, 133, 134, 135, 136, 137, 138, 139, 140, 141, 142, 143, 144, 145, 146, 147, 148, 0, 149, 0, 0, 0, 150, 0, 0, 0, -1, 0]) (cs2 := w_173) (ty := tyX8) fl_X8_284 rfl tyX8_ok nmX8 (Or.inr ⟨rfl, rfl, rfl, bw_t tt_5 142 rfl rfl⟩) (by decide +kernel) rfl (by decide +kernel) (fun _ => rfl) (fun g => pn_a (x := 151) (by decide) _ g) rfl dX8_init_1849 rfl ?_
  exact k_done ⟨dX8_init_1852, rfl, rfl⟩
set_option maxRecDepth 40000 in
set_option maxHeartbeats 4000000 in
theorem law_begin (sc : List Int) : KSim sc RL cL_law 4 false 4 152 19489 0 0 0 [aR (-7), aU, aU, aU] [] ([] : CS) (fun pc ls st cs => pc = 18 ∧ ls = [aR (-7), aR 0, aR 62, aI 0] ∧ st = [] ∧ cs = w_173) := by
  refine k_new2 (pc2 := 3) (a := 0) (cs2 := w_0) (q := (RX7, TX7, 14)) (ty := tyX7) rfl (by decide) cf7 tyX7_ok kdf_7 (bw_t tt_1 16 rfl rfl) (bw_t tt_1 17 rfl rfl) (bw_t tt_1 1 rfl rfl) dL_law_0 rfl (by decide +kernel) (by decide +kernel) (by decide +kernel) rfl rfl ?_
  refine k_dup (pc2 := 4) dL_law_3 rfl (by decide) ?_
  refine k_callI (pc2 := 7) (kc_11 sc) mk_X7_init (Or.inl ⟨rfl, dL_law_4, bw_t tt_1 19 rfl rfl⟩) lk_L_9 (by decide) (by decide) (Nat.le_of_ble_eq_true rfl) (by decide +kernel) (by decide +kernel) rfl ?_
  refine k_astore (pc2 := 8) (ls2 := [aR (-7), aR 0, aU, aU]) dL_law_7 rfl (by decide) rfl (by decide) ?_
  refine k_new2 (pc2 := 11) (a := 62) (cs2 := w_82) (q := (RX8, TX8, 123)) (ty := tyX8) rfl (by decide) cf8 tyX8_ok kdf_8 (bw_t tt_5 15 rfl rfl) (bw_t tt_5 16 rfl rfl) (bw_t tt_1 10 rfl rfl) dL_law_8 rfl (by decide +kernel) (by decide +kernel) (by decide +kernel) rfl rfl ?_
  refine k_dup (pc2 := 12) dL_law_11 rfl (by decide) ?_
  refine k_callI (pc2 := 15) (kc_12 sc) mk_X8_init (Or.inl ⟨rfl, dL_law_12, bw_t tt_5 18 rfl rfl⟩) lk_L_12 (by decide) (by decide) (Nat.le_of_ble_eq_true rfl) (by decide +kernel) (by decide +kernel) rfl ?_
  refine k_astore (pc2 := 16) (ls2 := [aR (-7), aR 0, aR 62, aU]) dL_law_15 rfl (by decide) rfl (by decide) ?_
  refine k_iconst (pc2 := 17) dL_law_16 rfl ?_
  refine k_istore (pc2 := 18) (ls2 := [aR (-7), aR 0, aR 62, aI 0]) dL_law_17 rfl (by decide) rfl ?_
  exact k_done ⟨rfl, rfl, rfl, rfl⟩
