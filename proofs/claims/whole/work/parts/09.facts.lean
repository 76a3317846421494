/-! cells, by their places -/
def RoomAt (r : Int) : Prop := r = 2 ∨ r = 17
def FormAt (r : Int) : Prop := r = 10 ∨ r = 25 ∨ r = 34
theorem ic_0 : IsC 0 7 := by decide +kernel
theorem vr_0_0 (m : Mem) (g : Gd) : fVal g m (0 : Int).toNat 0 = cv g (aR 1) := fv_r m ic_0 rfl g
theorem vr_0_4 (m : Mem) (g : Gd) : fVal g m (0 : Int).toNat 4 = cv g (aR 32) := fv_r m ic_0 rfl g
theorem vr_0_5 (m : Mem) (g : Gd) : fVal g m (0 : Int).toNat 5 = cv g (aR 37) := fv_r m ic_0 rfl g
theorem vr_0_6 (m : Mem) (g : Gd) : fVal g m (0 : Int).toNat 6 = cv g (aR 39) := fv_r m ic_0 rfl g
theorem vr_0_7 (m : Mem) (g : Gd) : fVal g m (0 : Int).toNat 7 = cv g (aR 44) := fv_r m ic_0 rfl g
theorem vr_0_8 (m : Mem) (g : Gd) : fVal g m (0 : Int).toNat 8 = cv g (aR 57) := fv_r m ic_0 rfl g
theorem vr_0_9 (m : Mem) (g : Gd) : fVal g m (0 : Int).toNat 9 = cv g (aR 59) := fv_r m ic_0 rfl g
theorem vr_0_11 (m : Mem) (g : Gd) : fVal g m (0 : Int).toNat 11 = cv g (aR 60) := fv_r m ic_0 rfl g
theorem vr_0_13 (m : Mem) (g : Gd) : fVal g m (0 : Int).toNat 13 = cv g (aR 61) := fv_r m ic_0 rfl g
theorem ic_1 : IsC 1 100 := by decide +kernel
theorem al_1 : alen 1 = 1600 := rfl
theorem ic_2 : IsC 2 6 := by decide +kernel
theorem ic_3 : IsC 3 100 := by decide +kernel
theorem al_3 : alen 3 = 6 := rfl
theorem ic_4 : IsC 4 100 := by decide +kernel
theorem al_4 : alen 4 = 6 := rfl
theorem ic_5 : IsC 5 100 := by decide +kernel
theorem al_5 : alen 5 = 10 := rfl
theorem ic_6 : IsC 6 100 := by decide +kernel
theorem al_6 : alen 6 = 10 := rfl
theorem ic_7 : IsC 7 100 := by decide +kernel
theorem al_7 : alen 7 = 40 := rfl
theorem ic_8 : IsC 8 100 := by decide +kernel
theorem al_8 : alen 8 = 10 := rfl
theorem ic_9 : IsC 9 100 := by decide +kernel
theorem al_9 : alen 9 = 11 := rfl
theorem ic_10 : IsC 10 3 := by decide +kernel
theorem ic_11 : IsC 11 100 := by decide +kernel
theorem al_11 : alen 11 = 1600 := rfl
theorem ic_12 : IsC 12 100 := by decide +kernel
theorem al_12 : alen 12 = 64 := rfl
theorem ic_13 : IsC 13 100 := by decide +kernel
theorem al_13 : alen 13 = 5 := rfl
theorem ic_14 : IsC 14 100 := by decide +kernel
theorem al_14 : alen 14 = 84 := rfl
theorem ic_15 : IsC 15 100 := by decide +kernel
theorem al_15 : alen 15 = 6 := rfl
theorem ic_16 : IsC 16 100 := by decide +kernel
theorem al_16 : alen 16 = 10 := rfl
theorem ic_17 : IsC 17 6 := by decide +kernel
theorem ic_18 : IsC 18 100 := by decide +kernel
theorem al_18 : alen 18 = 6 := rfl
theorem ic_19 : IsC 19 100 := by decide +kernel
theorem al_19 : alen 19 = 6 := rfl
theorem ic_20 : IsC 20 100 := by decide +kernel
theorem al_20 : alen 20 = 10 := rfl
theorem ic_21 : IsC 21 100 := by decide +kernel
theorem al_21 : alen 21 = 10 := rfl
theorem ic_22 : IsC 22 100 := by decide +kernel
theorem al_22 : alen 22 = 40 := rfl
theorem ic_23 : IsC 23 100 := by decide +kernel
theorem al_23 : alen 23 = 10 := rfl
theorem ic_24 : IsC 24 100 := by decide +kernel
theorem al_24 : alen 24 = 11 := rfl
theorem ic_25 : IsC 25 3 := by decide +kernel
theorem ic_26 : IsC 26 100 := by decide +kernel
theorem al_26 : alen 26 = 1600 := rfl
theorem ic_27 : IsC 27 100 := by decide +kernel
theorem al_27 : alen 27 = 64 := rfl
theorem ic_28 : IsC 28 100 := by decide +kernel
theorem al_28 : alen 28 = 5 := rfl
theorem ic_29 : IsC 29 100 := by decide +kernel
theorem al_29 : alen 29 = 84 := rfl
theorem ic_30 : IsC 30 100 := by decide +kernel
theorem al_30 : alen 30 = 6 := rfl
theorem ic_31 : IsC 31 100 := by decide +kernel
theorem al_31 : alen 31 = 10 := rfl
theorem ic_32 : IsC 32 5 := by decide +kernel
theorem vr_32_10 (m : Mem) (g : Gd) : fVal g m (32 : Int).toNat 10 = cv g (aR 34) := fv_r m ic_32 rfl g
theorem ic_33 : IsC 33 100 := by decide +kernel
theorem al_33 : alen 33 = 0 := rfl
theorem ic_34 : IsC 34 3 := by decide +kernel
theorem ic_35 : IsC 35 100 := by decide +kernel
theorem al_35 : alen 35 = 1600 := rfl
theorem ic_36 : IsC 36 100 := by decide +kernel
theorem al_36 : alen 36 = 64 := rfl
theorem ic_37 : IsC 37 0 := by decide +kernel
theorem vr_37_0 (m : Mem) (g : Gd) : fVal g m (37 : Int).toNat 0 = cv g (aR 38) := fv_r m ic_37 rfl g
theorem ic_38 : IsC 38 101 := by decide +kernel
theorem al_38 : alen 38 = 7 := rfl
theorem ic_39 : IsC 39 1 := by decide +kernel
theorem vr_39_0 (m : Mem) (g : Gd) : fVal g m (39 : Int).toNat 0 = cv g (aR 40) := fv_r m ic_39 rfl g
theorem vr_39_1 (m : Mem) (g : Gd) : fVal g m (39 : Int).toNat 1 = cv g (aR 41) := fv_r m ic_39 rfl g
theorem vr_39_2 (m : Mem) (g : Gd) : fVal g m (39 : Int).toNat 2 = cv g (aR 42) := fv_r m ic_39 rfl g
theorem vr_39_3 (m : Mem) (g : Gd) : fVal g m (39 : Int).toNat 3 = cv g (aR 43) := fv_r m ic_39 rfl g
theorem ic_40 : IsC 40 100 := by decide +kernel
theorem al_40 : alen 40 = 10 := rfl
theorem ic_41 : IsC 41 100 := by decide +kernel
theorem al_41 : alen 41 = 10 := rfl
theorem ic_42 : IsC 42 100 := by decide +kernel
theorem al_42 : alen 42 = 10 := rfl
theorem ic_43 : IsC 43 100 := by decide +kernel
theorem al_43 : alen 43 = 10 := rfl
theorem ic_44 : IsC 44 4 := by decide +kernel
theorem vr_44_0 (m : Mem) (g : Gd) : fVal g m (44 : Int).toNat 0 = cv g (aR 45) := fv_r m ic_44 rfl g
theorem vr_44_2 (m : Mem) (g : Gd) : fVal g m (44 : Int).toNat 2 = cv g (aR 46) := fv_r m ic_44 rfl g
theorem vr_44_3 (m : Mem) (g : Gd) : fVal g m (44 : Int).toNat 3 = cv g (aR 47) := fv_r m ic_44 rfl g
theorem vr_44_6 (m : Mem) (g : Gd) : fVal g m (44 : Int).toNat 6 = cv g (aR 48) := fv_r m ic_44 rfl g
theorem vr_44_7 (m : Mem) (g : Gd) : fVal g m (44 : Int).toNat 7 = cv g (aR 49) := fv_r m ic_44 rfl g
theorem vr_44_8 (m : Mem) (g : Gd) : fVal g m (44 : Int).toNat 8 = cv g (aR 50) := fv_r m ic_44 rfl g
theorem vr_44_9 (m : Mem) (g : Gd) : fVal g m (44 : Int).toNat 9 = cv g (aR 51) := fv_r m ic_44 rfl g
theorem vr_44_12 (m : Mem) (g : Gd) : fVal g m (44 : Int).toNat 12 = cv g (aR 52) := fv_r m ic_44 rfl g
theorem vr_44_13 (m : Mem) (g : Gd) : fVal g m (44 : Int).toNat 13 = cv g (aR 53) := fv_r m ic_44 rfl g
theorem vr_44_14 (m : Mem) (g : Gd) : fVal g m (44 : Int).toNat 14 = cv g (aR 54) := fv_r m ic_44 rfl g
theorem vr_44_15 (m : Mem) (g : Gd) : fVal g m (44 : Int).toNat 15 = cv g (aR 55) := fv_r m ic_44 rfl g
theorem vr_44_16 (m : Mem) (g : Gd) : fVal g m (44 : Int).toNat 16 = cv g (aR 56) := fv_r m ic_44 rfl g
theorem ic_45 : IsC 45 100 := by decide +kernel
theorem al_45 : alen 45 = 10 := rfl
theorem ic_46 : IsC 46 100 := by decide +kernel
theorem al_46 : alen 46 = 10 := rfl
theorem ic_47 : IsC 47 100 := by decide +kernel
theorem al_47 : alen 47 = 10 := rfl
theorem ic_48 : IsC 48 100 := by decide +kernel
theorem al_48 : alen 48 = 10 := rfl
theorem ic_49 : IsC 49 100 := by decide +kernel
theorem al_49 : alen 49 = 10 := rfl
theorem ic_50 : IsC 50 100 := by decide +kernel
theorem al_50 : alen 50 = 3 := rfl
theorem ic_51 : IsC 51 100 := by decide +kernel
theorem al_51 : alen 51 = 3 := rfl
theorem ic_52 : IsC 52 100 := by decide +kernel
theorem al_52 : alen 52 = 50 := rfl
theorem ic_53 : IsC 53 100 := by decide +kernel
theorem al_53 : alen 53 = 50 := rfl
theorem ic_54 : IsC 54 100 := by decide +kernel
theorem al_54 : alen 54 = 50 := rfl
theorem ic_55 : IsC 55 100 := by decide +kernel
theorem al_55 : alen 55 = 50 := rfl
theorem ic_56 : IsC 56 100 := by decide +kernel
theorem al_56 : alen 56 = 50 := rfl
theorem ic_57 : IsC 57 2 := by decide +kernel
theorem vr_57_7 (m : Mem) (g : Gd) : fVal g m (57 : Int).toNat 7 = cv g (aR 58) := fv_r m ic_57 rfl g
theorem ic_58 : IsC 58 100 := by decide +kernel
theorem al_58 : alen 58 = 120 := rfl
theorem ic_59 : IsC 59 100 := by decide +kernel
theorem al_59 : alen 59 = 40 := rfl
theorem ic_60 : IsC 60 100 := by decide +kernel
theorem al_60 : alen 60 = 8 := rfl
theorem ic_61 : IsC 61 100 := by decide +kernel
theorem al_61 : alen 61 = 6 := rfl
theorem ic_62 : IsC 62 8 := by decide +kernel
theorem vr_62_0 (m : Mem) (g : Gd) : fVal g m (62 : Int).toNat 0 = cv g (aR 63) := fv_r m ic_62 rfl g
theorem vr_62_9 (m : Mem) (g : Gd) : fVal g m (62 : Int).toNat 9 = cv g (aR 64) := fv_r m ic_62 rfl g
theorem vr_62_11 (m : Mem) (g : Gd) : fVal g m (62 : Int).toNat 11 = cv g (aR 65) := fv_r m ic_62 rfl g
theorem vr_62_12 (m : Mem) (g : Gd) : fVal g m (62 : Int).toNat 12 = cv g (aR 66) := fv_r m ic_62 rfl g
theorem vr_62_13 (m : Mem) (g : Gd) : fVal g m (62 : Int).toNat 13 = cv g (aR 67) := fv_r m ic_62 rfl g
theorem vr_62_14 (m : Mem) (g : Gd) : fVal g m (62 : Int).toNat 14 = cv g (aR 68) := fv_r m ic_62 rfl g
theorem vr_62_15 (m : Mem) (g : Gd) : fVal g m (62 : Int).toNat 15 = cv g (aR 69) := fv_r m ic_62 rfl g
theorem vr_62_16 (m : Mem) (g : Gd) : fVal g m (62 : Int).toNat 16 = cv g (aR 70) := fv_r m ic_62 rfl g
theorem vr_62_17 (m : Mem) (g : Gd) : fVal g m (62 : Int).toNat 17 = cv g (aR 71) := fv_r m ic_62 rfl g
theorem vr_62_18 (m : Mem) (g : Gd) : fVal g m (62 : Int).toNat 18 = cv g (aR 72) := fv_r m ic_62 rfl g
theorem vr_62_19 (m : Mem) (g : Gd) : fVal g m (62 : Int).toNat 19 = cv g (aR 73) := fv_r m ic_62 rfl g
theorem vr_62_20 (m : Mem) (g : Gd) : fVal g m (62 : Int).toNat 20 = cv g (aR 74) := fv_r m ic_62 rfl g
theorem vr_62_21 (m : Mem) (g : Gd) : fVal g m (62 : Int).toNat 21 = cv g (aR 75) := fv_r m ic_62 rfl g
theorem vr_62_22 (m : Mem) (g : Gd) : fVal g m (62 : Int).toNat 22 = cv g (aR 76) := fv_r m ic_62 rfl g
theorem vr_62_23 (m : Mem) (g : Gd) : fVal g m (62 : Int).toNat 23 = cv g (aR 77) := fv_r m ic_62 rfl g
theorem vr_62_24 (m : Mem) (g : Gd) : fVal g m (62 : Int).toNat 24 = cv g (aR 78) := fv_r m ic_62 rfl g
theorem vr_62_25 (m : Mem) (g : Gd) : fVal g m (62 : Int).toNat 25 = cv g (aR 79) := fv_r m ic_62 rfl g
theorem vr_62_26 (m : Mem) (g : Gd) : fVal g m (62 : Int).toNat 26 = cv g (aR 80) := fv_r m ic_62 rfl g
theorem vr_62_27 (m : Mem) (g : Gd) : fVal g m (62 : Int).toNat 27 = cv g (aR 81) := fv_r m ic_62 rfl g
theorem vr_62_28 (m : Mem) (g : Gd) : fVal g m (62 : Int).toNat 28 = cv g (aR 82) := fv_r m ic_62 rfl g
theorem vr_62_29 (m : Mem) (g : Gd) : fVal g m (62 : Int).toNat 29 = cv g (aR 83) := fv_r m ic_62 rfl g
theorem vr_62_30 (m : Mem) (g : Gd) : fVal g m (62 : Int).toNat 30 = cv g (aR 84) := fv_r m ic_62 rfl g
theorem vr_62_31 (m : Mem) (g : Gd) : fVal g m (62 : Int).toNat 31 = cv g (aR 85) := fv_r m ic_62 rfl g
theorem vr_62_32 (m : Mem) (g : Gd) : fVal g m (62 : Int).toNat 32 = cv g (aR 86) := fv_r m ic_62 rfl g
theorem vr_62_33 (m : Mem) (g : Gd) : fVal g m (62 : Int).toNat 33 = cv g (aR 87) := fv_r m ic_62 rfl g
theorem vr_62_34 (m : Mem) (g : Gd) : fVal g m (62 : Int).toNat 34 = cv g (aR 88) := fv_r m ic_62 rfl g
theorem vr_62_35 (m : Mem) (g : Gd) : fVal g m (62 : Int).toNat 35 = cv g (aR 89) := fv_r m ic_62 rfl g
theorem vr_62_36 (m : Mem) (g : Gd) : fVal g m (62 : Int).toNat 36 = cv g (aR 90) := fv_r m ic_62 rfl g
theorem vr_62_37 (m : Mem) (g : Gd) : fVal g m (62 : Int).toNat 37 = cv g (aR 91) := fv_r m ic_62 rfl g
theorem vr_62_38 (m : Mem) (g : Gd) : fVal g m (62 : Int).toNat 38 = cv g (aR 92) := fv_r m ic_62 rfl g
theorem vr_62_39 (m : Mem) (g : Gd) : fVal g m (62 : Int).toNat 39 = cv g (aR 93) := fv_r m ic_62 rfl g
theorem vr_62_40 (m : Mem) (g : Gd) : fVal g m (62 : Int).toNat 40 = cv g (aR 94) := fv_r m ic_62 rfl g
theorem vr_62_42 (m : Mem) (g : Gd) : fVal g m (62 : Int).toNat 42 = cv g (aR 95) := fv_r m ic_62 rfl g
theorem vr_62_43 (m : Mem) (g : Gd) : fVal g m (62 : Int).toNat 43 = cv g (aR 96) := fv_r m ic_62 rfl g
theorem vr_62_44 (m : Mem) (g : Gd) : fVal g m (62 : Int).toNat 44 = cv g (aR 97) := fv_r m ic_62 rfl g
theorem vr_62_45 (m : Mem) (g : Gd) : fVal g m (62 : Int).toNat 45 = cv g (aR 98) := fv_r m ic_62 rfl g
theorem vr_62_46 (m : Mem) (g : Gd) : fVal g m (62 : Int).toNat 46 = cv g (aR 99) := fv_r m ic_62 rfl g
theorem vr_62_47 (m : Mem) (g : Gd) : fVal g m (62 : Int).toNat 47 = cv g (aR 100) := fv_r m ic_62 rfl g
theorem vr_62_48 (m : Mem) (g : Gd) : fVal g m (62 : Int).toNat 48 = cv g (aR 101) := fv_r m ic_62 rfl g
theorem vr_62_49 (m : Mem) (g : Gd) : fVal g m (62 : Int).toNat 49 = cv g (aR 102) := fv_r m ic_62 rfl g
theorem vr_62_50 (m : Mem) (g : Gd) : fVal g m (62 : Int).toNat 50 = cv g (aR 103) := fv_r m ic_62 rfl g
theorem vr_62_58 (m : Mem) (g : Gd) : fVal g m (62 : Int).toNat 58 = cv g (aR 104) := fv_r m ic_62 rfl g
theorem vr_62_59 (m : Mem) (g : Gd) : fVal g m (62 : Int).toNat 59 = cv g (aR 105) := fv_r m ic_62 rfl g
theorem vr_62_60 (m : Mem) (g : Gd) : fVal g m (62 : Int).toNat 60 = cv g (aR 106) := fv_r m ic_62 rfl g
theorem vr_62_61 (m : Mem) (g : Gd) : fVal g m (62 : Int).toNat 61 = cv g (aR 107) := fv_r m ic_62 rfl g
theorem vr_62_62 (m : Mem) (g : Gd) : fVal g m (62 : Int).toNat 62 = cv g (aR 108) := fv_r m ic_62 rfl g
theorem vr_62_63 (m : Mem) (g : Gd) : fVal g m (62 : Int).toNat 63 = cv g (aR 109) := fv_r m ic_62 rfl g
theorem vr_62_65 (m : Mem) (g : Gd) : fVal g m (62 : Int).toNat 65 = cv g (aR 110) := fv_r m ic_62 rfl g
theorem vr_62_67 (m : Mem) (g : Gd) : fVal g m (62 : Int).toNat 67 = cv g (aR 111) := fv_r m ic_62 rfl g
theorem vr_62_68 (m : Mem) (g : Gd) : fVal g m (62 : Int).toNat 68 = cv g (aR 112) := fv_r m ic_62 rfl g
theorem vr_62_69 (m : Mem) (g : Gd) : fVal g m (62 : Int).toNat 69 = cv g (aR 113) := fv_r m ic_62 rfl g
theorem vr_62_70 (m : Mem) (g : Gd) : fVal g m (62 : Int).toNat 70 = cv g (aR 114) := fv_r m ic_62 rfl g
theorem vr_62_71 (m : Mem) (g : Gd) : fVal g m (62 : Int).toNat 71 = cv g (aR 115) := fv_r m ic_62 rfl g
theorem vr_62_72 (m : Mem) (g : Gd) : fVal g m (62 : Int).toNat 72 = cv g (aR 116) := fv_r m ic_62 rfl g
theorem vr_62_73 (m : Mem) (g : Gd) : fVal g m (62 : Int).toNat 73 = cv g (aR 117) := fv_r m ic_62 rfl g
theorem vr_62_74 (m : Mem) (g : Gd) : fVal g m (62 : Int).toNat 74 = cv g (aR 118) := fv_r m ic_62 rfl g
theorem vr_62_76 (m : Mem) (g : Gd) : fVal g m (62 : Int).toNat 76 = cv g (aR 119) := fv_r m ic_62 rfl g
theorem vr_62_77 (m : Mem) (g : Gd) : fVal g m (62 : Int).toNat 77 = cv g (aR 120) := fv_r m ic_62 rfl g
theorem vr_62_78 (m : Mem) (g : Gd) : fVal g m (62 : Int).toNat 78 = cv g (aR 121) := fv_r m ic_62 rfl g
theorem vr_62_79 (m : Mem) (g : Gd) : fVal g m (62 : Int).toNat 79 = cv g (aR 122) := fv_r m ic_62 rfl g
theorem vr_62_80 (m : Mem) (g : Gd) : fVal g m (62 : Int).toNat 80 = cv g (aR 123) := fv_r m ic_62 rfl g
theorem vr_62_81 (m : Mem) (g : Gd) : fVal g m (62 : Int).toNat 81 = cv g (aR 124) := fv_r m ic_62 rfl g
theorem vr_62_82 (m : Mem) (g : Gd) : fVal g m (62 : Int).toNat 82 = cv g (aR 125) := fv_r m ic_62 rfl g
theorem vr_62_89 (m : Mem) (g : Gd) : fVal g m (62 : Int).toNat 89 = cv g (aR 126) := fv_r m ic_62 rfl g
theorem vr_62_90 (m : Mem) (g : Gd) : fVal g m (62 : Int).toNat 90 = cv g (aR 127) := fv_r m ic_62 rfl g
theorem vr_62_91 (m : Mem) (g : Gd) : fVal g m (62 : Int).toNat 91 = cv g (aR 128) := fv_r m ic_62 rfl g
theorem vr_62_92 (m : Mem) (g : Gd) : fVal g m (62 : Int).toNat 92 = cv g (aR 129) := fv_r m ic_62 rfl g
theorem vr_62_93 (m : Mem) (g : Gd) : fVal g m (62 : Int).toNat 93 = cv g (aR 130) := fv_r m ic_62 rfl g
theorem vr_62_94 (m : Mem) (g : Gd) : fVal g m (62 : Int).toNat 94 = cv g (aR 131) := fv_r m ic_62 rfl g
theorem vr_62_95 (m : Mem) (g : Gd) : fVal g m (62 : Int).toNat 95 = cv g (aR 132) := fv_r m ic_62 rfl g
theorem vr_62_96 (m : Mem) (g : Gd) : fVal g m (62 : Int).toNat 96 = cv g (aR 133) := fv_r m ic_62 rfl g
theorem vr_62_97 (m : Mem) (g : Gd) : fVal g m (62 : Int).toNat 97 = cv g (aR 134) := fv_r m ic_62 rfl g
theorem vr_62_98 (m : Mem) (g : Gd) : fVal g m (62 : Int).toNat 98 = cv g (aR 135) := fv_r m ic_62 rfl g
theorem vr_62_99 (m : Mem) (g : Gd) : fVal g m (62 : Int).toNat 99 = cv g (aR 136) := fv_r m ic_62 rfl g
theorem vr_62_100 (m : Mem) (g : Gd) : fVal g m (62 : Int).toNat 100 = cv g (aR 137) := fv_r m ic_62 rfl g
theorem vr_62_101 (m : Mem) (g : Gd) : fVal g m (62 : Int).toNat 101 = cv g (aR 138) := fv_r m ic_62 rfl g
theorem vr_62_102 (m : Mem) (g : Gd) : fVal g m (62 : Int).toNat 102 = cv g (aR 139) := fv_r m ic_62 rfl g
theorem vr_62_103 (m : Mem) (g : Gd) : fVal g m (62 : Int).toNat 103 = cv g (aR 140) := fv_r m ic_62 rfl g
theorem vr_62_104 (m : Mem) (g : Gd) : fVal g m (62 : Int).toNat 104 = cv g (aR 141) := fv_r m ic_62 rfl g
theorem vr_62_105 (m : Mem) (g : Gd) : fVal g m (62 : Int).toNat 105 = cv g (aR 142) := fv_r m ic_62 rfl g
theorem vr_62_106 (m : Mem) (g : Gd) : fVal g m (62 : Int).toNat 106 = cv g (aR 143) := fv_r m ic_62 rfl g
theorem vr_62_107 (m : Mem) (g : Gd) : fVal g m (62 : Int).toNat 107 = cv g (aR 144) := fv_r m ic_62 rfl g
theorem vr_62_108 (m : Mem) (g : Gd) : fVal g m (62 : Int).toNat 108 = cv g (aR 145) := fv_r m ic_62 rfl g
theorem vr_62_109 (m : Mem) (g : Gd) : fVal g m (62 : Int).toNat 109 = cv g (aR 146) := fv_r m ic_62 rfl g
theorem vr_62_110 (m : Mem) (g : Gd) : fVal g m (62 : Int).toNat 110 = cv g (aR 147) := fv_r m ic_62 rfl g
theorem vr_62_111 (m : Mem) (g : Gd) : fVal g m (62 : Int).toNat 111 = cv g (aR 148) := fv_r m ic_62 rfl g
theorem vr_62_113 (m : Mem) (g : Gd) : fVal g m (62 : Int).toNat 113 = cv g (aR 149) := fv_r m ic_62 rfl g
theorem vr_62_117 (m : Mem) (g : Gd) : fVal g m (62 : Int).toNat 117 = cv g (aR 150) := fv_r m ic_62 rfl g
theorem vr_62_121 (m : Mem) (g : Gd) : fVal g m (62 : Int).toNat 121 = cv g (aR 151) := fv_r m ic_62 rfl g
theorem ic_63 : IsC 63 100 := by decide +kernel
theorem al_63 : alen 63 = 1600 := rfl
theorem ic_64 : IsC 64 100 := by decide +kernel
theorem al_64 : alen 64 = 6 := rfl
theorem ic_65 : IsC 65 102 := by decide +kernel
theorem al_65 : alen 65 = 6 := rfl
theorem ic_66 : IsC 66 102 := by decide +kernel
theorem al_66 : alen 66 = 5 := rfl
theorem ic_67 : IsC 67 102 := by decide +kernel
theorem al_67 : alen 67 = 4 := rfl
theorem ic_68 : IsC 68 102 := by decide +kernel
theorem al_68 : alen 68 = 4 := rfl
theorem ic_69 : IsC 69 102 := by decide +kernel
theorem al_69 : alen 69 = 5 := rfl
theorem ic_70 : IsC 70 102 := by decide +kernel
theorem al_70 : alen 70 = 5 := rfl
theorem ic_71 : IsC 71 102 := by decide +kernel
theorem al_71 : alen 71 = 4 := rfl
theorem ic_72 : IsC 72 102 := by decide +kernel
theorem al_72 : alen 72 = 4 := rfl
theorem ic_73 : IsC 73 102 := by decide +kernel
theorem al_73 : alen 73 = 4 := rfl
theorem ic_74 : IsC 74 102 := by decide +kernel
theorem al_74 : alen 74 = 4 := rfl
theorem ic_75 : IsC 75 102 := by decide +kernel
theorem al_75 : alen 75 = 4 := rfl
theorem ic_76 : IsC 76 102 := by decide +kernel
theorem al_76 : alen 76 = 4 := rfl
theorem ic_77 : IsC 77 102 := by decide +kernel
theorem al_77 : alen 77 = 5 := rfl
theorem ic_78 : IsC 78 102 := by decide +kernel
theorem al_78 : alen 78 = 5 := rfl
theorem ic_79 : IsC 79 102 := by decide +kernel
theorem al_79 : alen 79 = 5 := rfl
theorem ic_80 : IsC 80 102 := by decide +kernel
theorem al_80 : alen 80 = 4 := rfl
theorem ic_81 : IsC 81 102 := by decide +kernel
theorem al_81 : alen 81 = 4 := rfl
theorem ic_82 : IsC 82 102 := by decide +kernel
theorem al_82 : alen 82 = 6 := rfl
theorem ic_83 : IsC 83 102 := by decide +kernel
theorem al_83 : alen 83 = 5 := rfl
theorem ic_84 : IsC 84 102 := by decide +kernel
theorem al_84 : alen 84 = 4 := rfl
theorem ic_85 : IsC 85 102 := by decide +kernel
theorem al_85 : alen 85 = 4 := rfl
theorem ic_86 : IsC 86 102 := by decide +kernel
theorem al_86 : alen 86 = 7 := rfl
theorem ic_87 : IsC 87 102 := by decide +kernel
theorem al_87 : alen 87 = 6 := rfl
theorem ic_88 : IsC 88 102 := by decide +kernel
theorem al_88 : alen 88 = 5 := rfl
theorem ic_89 : IsC 89 102 := by decide +kernel
theorem al_89 : alen 89 = 2 := rfl
theorem ic_90 : IsC 90 102 := by decide +kernel
theorem al_90 : alen 90 = 3 := rfl
theorem ic_91 : IsC 91 102 := by decide +kernel
theorem al_91 : alen 91 = 3 := rfl
theorem ic_92 : IsC 92 102 := by decide +kernel
theorem al_92 : alen 92 = 3 := rfl
theorem ic_93 : IsC 93 102 := by decide +kernel
theorem al_93 : alen 93 = 3 := rfl
theorem ic_94 : IsC 94 102 := by decide +kernel
theorem al_94 : alen 94 = 3 := rfl
theorem ic_95 : IsC 95 100 := by decide +kernel
theorem al_95 : alen 95 = 6 := rfl
theorem ic_96 : IsC 96 101 := by decide +kernel
theorem al_96 : alen 96 = 40 := rfl
theorem ic_97 : IsC 97 100 := by decide +kernel
theorem al_97 : alen 97 = 12 := rfl
theorem ic_98 : IsC 98 100 := by decide +kernel
theorem al_98 : alen 98 = 12 := rfl
theorem ic_99 : IsC 99 100 := by decide +kernel
theorem al_99 : alen 99 = 140 := rfl
theorem ic_100 : IsC 100 100 := by decide +kernel
theorem al_100 : alen 100 = 12 := rfl
theorem ic_101 : IsC 101 100 := by decide +kernel
theorem al_101 : alen 101 = 8 := rfl
theorem ic_102 : IsC 102 100 := by decide +kernel
theorem al_102 : alen 102 = 8 := rfl
theorem ic_103 : IsC 103 100 := by decide +kernel
theorem al_103 : alen 103 = 3200 := rfl
theorem ic_104 : IsC 104 101 := by decide +kernel
theorem al_104 : alen 104 = 7 := rfl
theorem ic_105 : IsC 105 101 := by decide +kernel
theorem al_105 : alen 105 = 7 := rfl
theorem ic_106 : IsC 106 101 := by decide +kernel
theorem al_106 : alen 106 = 700 := rfl
theorem ic_107 : IsC 107 100 := by decide +kernel
theorem al_107 : alen 107 = 10 := rfl
theorem ic_108 : IsC 108 100 := by decide +kernel
theorem al_108 : alen 108 = 10 := rfl
theorem ic_109 : IsC 109 100 := by decide +kernel
theorem al_109 : alen 109 = 10 := rfl
theorem ic_110 : IsC 110 100 := by decide +kernel
theorem al_110 : alen 110 = 10 := rfl
theorem ic_111 : IsC 111 100 := by decide +kernel
theorem al_111 : alen 111 = 10 := rfl
theorem ic_112 : IsC 112 100 := by decide +kernel
theorem al_112 : alen 112 = 10 := rfl
theorem ic_113 : IsC 113 100 := by decide +kernel
theorem al_113 : alen 113 = 51 := rfl
theorem ic_114 : IsC 114 100 := by decide +kernel
theorem al_114 : alen 114 = 51 := rfl
theorem ic_115 : IsC 115 100 := by decide +kernel
theorem al_115 : alen 115 = 51 := rfl
theorem ic_116 : IsC 116 100 := by decide +kernel
theorem al_116 : alen 116 = 51 := rfl
theorem ic_117 : IsC 117 100 := by decide +kernel
theorem al_117 : alen 117 = 51 := rfl
theorem ic_118 : IsC 118 100 := by decide +kernel
theorem al_118 : alen 118 = 51 := rfl
theorem ic_119 : IsC 119 100 := by decide +kernel
theorem al_119 : alen 119 = 10 := rfl
theorem ic_120 : IsC 120 100 := by decide +kernel
theorem al_120 : alen 120 = 10 := rfl
theorem ic_121 : IsC 121 100 := by decide +kernel
theorem al_121 : alen 121 = 3 := rfl
theorem ic_122 : IsC 122 100 := by decide +kernel
theorem al_122 : alen 122 = 3 := rfl
theorem ic_123 : IsC 123 100 := by decide +kernel
theorem al_123 : alen 123 = 100 := rfl
theorem ic_124 : IsC 124 100 := by decide +kernel
theorem al_124 : alen 124 = 6 := rfl
theorem ic_125 : IsC 125 100 := by decide +kernel
theorem al_125 : alen 125 = 120 := rfl
theorem ic_126 : IsC 126 100 := by decide +kernel
theorem al_126 : alen 126 = 40 := rfl
theorem ic_127 : IsC 127 102 := by decide +kernel
theorem al_127 : alen 127 = 5 := rfl
theorem ic_128 : IsC 128 102 := by decide +kernel
theorem al_128 : alen 128 = 4 := rfl
theorem ic_129 : IsC 129 102 := by decide +kernel
theorem al_129 : alen 129 = 5 := rfl
theorem ic_130 : IsC 130 102 := by decide +kernel
theorem al_130 : alen 130 = 5 := rfl
theorem ic_131 : IsC 131 102 := by decide +kernel
theorem al_131 : alen 131 = 4 := rfl
theorem ic_132 : IsC 132 102 := by decide +kernel
theorem al_132 : alen 132 = 5 := rfl
theorem ic_133 : IsC 133 102 := by decide +kernel
theorem al_133 : alen 133 = 3 := rfl
theorem ic_134 : IsC 134 102 := by decide +kernel
theorem al_134 : alen 134 = 3 := rfl
theorem ic_135 : IsC 135 102 := by decide +kernel
theorem al_135 : alen 135 = 2 := rfl
theorem ic_136 : IsC 136 102 := by decide +kernel
theorem al_136 : alen 136 = 3 := rfl
theorem ic_137 : IsC 137 102 := by decide +kernel
theorem al_137 : alen 137 = 3 := rfl
theorem ic_138 : IsC 138 102 := by decide +kernel
theorem al_138 : alen 138 = 3 := rfl
theorem ic_139 : IsC 139 102 := by decide +kernel
theorem al_139 : alen 139 = 5 := rfl
theorem ic_140 : IsC 140 102 := by decide +kernel
theorem al_140 : alen 140 = 5 := rfl
theorem ic_141 : IsC 141 102 := by decide +kernel
theorem al_141 : alen 141 = 4 := rfl
theorem ic_142 : IsC 142 102 := by decide +kernel
theorem al_142 : alen 142 = 6 := rfl
theorem ic_143 : IsC 143 102 := by decide +kernel
theorem al_143 : alen 143 = 4 := rfl
theorem ic_144 : IsC 144 102 := by decide +kernel
theorem al_144 : alen 144 = 4 := rfl
theorem ic_145 : IsC 145 102 := by decide +kernel
theorem al_145 : alen 145 = 7 := rfl
theorem ic_146 : IsC 146 102 := by decide +kernel
theorem al_146 : alen 146 = 6 := rfl
theorem ic_147 : IsC 147 102 := by decide +kernel
theorem al_147 : alen 147 = 5 := rfl
theorem ic_148 : IsC 148 100 := by decide +kernel
theorem al_148 : alen 148 = 1700 := rfl
theorem ic_149 : IsC 149 100 := by decide +kernel
theorem al_149 : alen 149 = 1700 := rfl
theorem ic_150 : IsC 150 101 := by decide +kernel
theorem al_150 : alen 150 = 1700 := rfl
theorem ic_151 : IsC 151 100 := by decide +kernel
theorem al_151 : alen 151 = 8 := rfl
theorem icr_0 {r : Int} (h : RoomAt r) : IsC r 6 := by rcases h with rfl | rfl <;> decide +kernel
theorem rm_ge {r : Int} (h : RoomAt r) : 2 ≤ r ∧ r ≤ 17 := by rcases h with rfl | rfl <;> omega
theorem icr_1 {r : Int} (h : RoomAt r) : IsC (r + 1) 100 := by rcases h with rfl | rfl <;> decide +kernel
theorem alr_1 {r : Int} (h : RoomAt r) : alen (r + 1) = 6 := by rcases h with rfl | rfl <;> rfl
theorem icr_2 {r : Int} (h : RoomAt r) : IsC (r + 2) 100 := by rcases h with rfl | rfl <;> decide +kernel
theorem alr_2 {r : Int} (h : RoomAt r) : alen (r + 2) = 6 := by rcases h with rfl | rfl <;> rfl
theorem icr_3 {r : Int} (h : RoomAt r) : IsC (r + 3) 100 := by rcases h with rfl | rfl <;> decide +kernel
theorem alr_3 {r : Int} (h : RoomAt r) : alen (r + 3) = 10 := by rcases h with rfl | rfl <;> rfl
theorem icr_4 {r : Int} (h : RoomAt r) : IsC (r + 4) 100 := by rcases h with rfl | rfl <;> decide +kernel
theorem alr_4 {r : Int} (h : RoomAt r) : alen (r + 4) = 10 := by rcases h with rfl | rfl <;> rfl
theorem icr_5 {r : Int} (h : RoomAt r) : IsC (r + 5) 100 := by rcases h with rfl | rfl <;> decide +kernel
theorem alr_5 {r : Int} (h : RoomAt r) : alen (r + 5) = 40 := by rcases h with rfl | rfl <;> rfl
theorem icr_6 {r : Int} (h : RoomAt r) : IsC (r + 6) 100 := by rcases h with rfl | rfl <;> decide +kernel
theorem alr_6 {r : Int} (h : RoomAt r) : alen (r + 6) = 10 := by rcases h with rfl | rfl <;> rfl
theorem icr_7 {r : Int} (h : RoomAt r) : IsC (r + 7) 100 := by rcases h with rfl | rfl <;> decide +kernel
theorem alr_7 {r : Int} (h : RoomAt r) : alen (r + 7) = 11 := by rcases h with rfl | rfl <;> rfl
theorem icr_8 {r : Int} (h : RoomAt r) : IsC (r + 8) 3 := by rcases h with rfl | rfl <;> decide +kernel
theorem icr_9 {r : Int} (h : RoomAt r) : IsC (r + 9) 100 := by rcases h with rfl | rfl <;> decide +kernel
theorem alr_9 {r : Int} (h : RoomAt r) : alen (r + 9) = 1600 := by rcases h with rfl | rfl <;> rfl
theorem icr_10 {r : Int} (h : RoomAt r) : IsC (r + 10) 100 := by rcases h with rfl | rfl <;> decide +kernel
theorem alr_10 {r : Int} (h : RoomAt r) : alen (r + 10) = 64 := by rcases h with rfl | rfl <;> rfl
theorem icr_11 {r : Int} (h : RoomAt r) : IsC (r + 11) 100 := by rcases h with rfl | rfl <;> decide +kernel
theorem alr_11 {r : Int} (h : RoomAt r) : alen (r + 11) = 5 := by rcases h with rfl | rfl <;> rfl
theorem icr_12 {r : Int} (h : RoomAt r) : IsC (r + 12) 100 := by rcases h with rfl | rfl <;> decide +kernel
theorem alr_12 {r : Int} (h : RoomAt r) : alen (r + 12) = 84 := by rcases h with rfl | rfl <;> rfl
theorem icr_13 {r : Int} (h : RoomAt r) : IsC (r + 13) 100 := by rcases h with rfl | rfl <;> decide +kernel
theorem alr_13 {r : Int} (h : RoomAt r) : alen (r + 13) = 6 := by rcases h with rfl | rfl <;> rfl
theorem icr_14 {r : Int} (h : RoomAt r) : IsC (r + 14) 100 := by rcases h with rfl | rfl <;> decide +kernel
theorem alr_14 {r : Int} (h : RoomAt r) : alen (r + 14) = 10 := by rcases h with rfl | rfl <;> rfl
theorem vrr_0 (m : Mem) {r : Int} (h : RoomAt r) (g : Gd) : fVal g m r.toNat 0 = cv g (aR (r + 1)) := by rcases h with rfl | rfl <;> exact fv_r (ci := 6) m (by decide +kernel) rfl g
theorem vrr_1 (m : Mem) {r : Int} (h : RoomAt r) (g : Gd) : fVal g m r.toNat 1 = cv g (aR (r + 2)) := by rcases h with rfl | rfl <;> exact fv_r (ci := 6) m (by decide +kernel) rfl g
theorem vrr_3 (m : Mem) {r : Int} (h : RoomAt r) (g : Gd) : fVal g m r.toNat 3 = cv g (aR (r + 3)) := by rcases h with rfl | rfl <;> exact fv_r (ci := 6) m (by decide +kernel) rfl g
theorem vrr_4 (m : Mem) {r : Int} (h : RoomAt r) (g : Gd) : fVal g m r.toNat 4 = cv g (aR (r + 4)) := by rcases h with rfl | rfl <;> exact fv_r (ci := 6) m (by decide +kernel) rfl g
theorem vrr_5 (m : Mem) {r : Int} (h : RoomAt r) (g : Gd) : fVal g m r.toNat 5 = cv g (aR (r + 5)) := by rcases h with rfl | rfl <;> exact fv_r (ci := 6) m (by decide +kernel) rfl g
theorem vrr_6 (m : Mem) {r : Int} (h : RoomAt r) (g : Gd) : fVal g m r.toNat 6 = cv g (aR (r + 6)) := by rcases h with rfl | rfl <;> exact fv_r (ci := 6) m (by decide +kernel) rfl g
theorem vrr_7 (m : Mem) {r : Int} (h : RoomAt r) (g : Gd) : fVal g m r.toNat 7 = cv g (aR (r + 7)) := by rcases h with rfl | rfl <;> exact fv_r (ci := 6) m (by decide +kernel) rfl g
theorem vrr_9 (m : Mem) {r : Int} (h : RoomAt r) (g : Gd) : fVal g m r.toNat 9 = cv g (aR (r + 8)) := by rcases h with rfl | rfl <;> exact fv_r (ci := 6) m (by decide +kernel) rfl g
theorem vrr_10 (m : Mem) {r : Int} (h : RoomAt r) (g : Gd) : fVal g m r.toNat 10 = cv g (aR (r + 11)) := by rcases h with rfl | rfl <;> exact fv_r (ci := 6) m (by decide +kernel) rfl g
theorem vrr_12 (m : Mem) {r : Int} (h : RoomAt r) (g : Gd) : fVal g m r.toNat 12 = cv g (aR (r + 12)) := by rcases h with rfl | rfl <;> exact fv_r (ci := 6) m (by decide +kernel) rfl g
theorem vrr_13 (m : Mem) {r : Int} (h : RoomAt r) (g : Gd) : fVal g m r.toNat 13 = cv g (aR (r + 13)) := by rcases h with rfl | rfl <;> exact fv_r (ci := 6) m (by decide +kernel) rfl g
theorem vrr_14 (m : Mem) {r : Int} (h : RoomAt r) (g : Gd) : fVal g m r.toNat 14 = cv g (aR (r + 14)) := by rcases h with rfl | rfl <;> exact fv_r (ci := 6) m (by decide +kernel) rfl g
theorem fmr {r : Int} (h : RoomAt r) : FormAt (r + 8) := by rcases h with rfl | rfl; exact Or.inl rfl; exact Or.inr (Or.inl rfl)
theorem fm_34 : FormAt 34 := Or.inr (Or.inr rfl)
theorem icf_0 {r : Int} (h : FormAt r) : IsC r 3 := by rcases h with rfl | rfl | rfl <;> decide +kernel
theorem fm_ge {r : Int} (h : FormAt r) : 10 ≤ r ∧ r ≤ 34 := by rcases h with rfl | rfl | rfl <;> omega
theorem icf_1 {r : Int} (h : FormAt r) : IsC (r + 1) 100 := by rcases h with rfl | rfl | rfl <;> decide +kernel
theorem alf_1 {r : Int} (h : FormAt r) : alen (r + 1) = 1600 := by rcases h with rfl | rfl | rfl <;> rfl
theorem vrf_0 (m : Mem) {r : Int} (h : FormAt r) (g : Gd) : fVal g m r.toNat 0 = cv g (aR (r + 1)) := by rcases h with rfl | rfl | rfl <;> exact fv_r (ci := 3) m (by decide +kernel) rfl g
theorem icf_2 {r : Int} (h : FormAt r) : IsC (r + 2) 100 := by rcases h with rfl | rfl | rfl <;> decide +kernel
theorem alf_2 {r : Int} (h : FormAt r) : alen (r + 2) = 64 := by rcases h with rfl | rfl | rfl <;> rfl
theorem vrf_1 (m : Mem) {r : Int} (h : FormAt r) (g : Gd) : fVal g m r.toNat 1 = cv g (aR (r + 2)) := by rcases h with rfl | rfl | rfl <;> exact fv_r (ci := 3) m (by decide +kernel) rfl g
theorem ft_0_1 : FT 0 1 (.int) := ⟨(RX0, TX0, 2), tyX0, rfl, tyX0_ok, nmX0, rfl, rfl, Nat.le_of_ble_eq_true rfl⟩
theorem ft_1_4 : FT 1 4 (.int) := ⟨(RX1, TX1, 9), tyX1, rfl, tyX1_ok, nmX1, rfl, rfl, Nat.le_of_ble_eq_true rfl⟩
theorem ft_1_5 : FT 1 5 (.int) := ⟨(RX1, TX1, 9), tyX1, rfl, tyX1_ok, nmX1, rfl, rfl, Nat.le_of_ble_eq_true rfl⟩
theorem ft_1_6 : FT 1 6 (.int) := ⟨(RX1, TX1, 9), tyX1, rfl, tyX1_ok, nmX1, rfl, rfl, Nat.le_of_ble_eq_true rfl⟩
theorem ft_1_7 : FT 1 7 (.int) := ⟨(RX1, TX1, 9), tyX1, rfl, tyX1_ok, nmX1, rfl, rfl, Nat.le_of_ble_eq_true rfl⟩
theorem ft_1_8 : FT 1 8 (.int) := ⟨(RX1, TX1, 9), tyX1, rfl, tyX1_ok, nmX1, rfl, rfl, Nat.le_of_ble_eq_true rfl⟩
theorem ft_2_0 : FT 2 0 (.int) := ⟨(RX2, TX2, 9), tyX2, rfl, tyX2_ok, nmX2, rfl, rfl, Nat.le_of_ble_eq_true rfl⟩
theorem ft_2_1 : FT 2 1 (.int) := ⟨(RX2, TX2, 9), tyX2, rfl, tyX2_ok, nmX2, rfl, rfl, Nat.le_of_ble_eq_true rfl⟩
theorem ft_2_2 : FT 2 2 (.int) := ⟨(RX2, TX2, 9), tyX2, rfl, tyX2_ok, nmX2, rfl, rfl, Nat.le_of_ble_eq_true rfl⟩
theorem ft_2_3 : FT 2 3 (.int) := ⟨(RX2, TX2, 9), tyX2, rfl, tyX2_ok, nmX2, rfl, rfl, Nat.le_of_ble_eq_true rfl⟩
theorem ft_2_4 : FT 2 4 (.int) := ⟨(RX2, TX2, 9), tyX2, rfl, tyX2_ok, nmX2, rfl, rfl, Nat.le_of_ble_eq_true rfl⟩
theorem ft_2_5 : FT 2 5 (.int) := ⟨(RX2, TX2, 9), tyX2, rfl, tyX2_ok, nmX2, rfl, rfl, Nat.le_of_ble_eq_true rfl⟩
theorem ft_2_6 : FT 2 6 (.int) := ⟨(RX2, TX2, 9), tyX2, rfl, tyX2_ok, nmX2, rfl, rfl, Nat.le_of_ble_eq_true rfl⟩
theorem ft_2_8 : FT 2 8 (.int) := ⟨(RX2, TX2, 9), tyX2, rfl, tyX2_ok, nmX2, rfl, rfl, Nat.le_of_ble_eq_true rfl⟩
theorem ft_3_2 : FT 3 2 (.int) := ⟨(RX3, TX3, 3), tyX3, rfl, tyX3_ok, nmX3, rfl, rfl, Nat.le_of_ble_eq_true rfl⟩
theorem ft_4_1 : FT 4 1 (.int) := ⟨(RX4, TX4, 19), tyX4, rfl, tyX4_ok, nmX4, rfl, rfl, Nat.le_of_ble_eq_true rfl⟩
theorem ft_4_4 : FT 4 4 (.int) := ⟨(RX4, TX4, 19), tyX4, rfl, tyX4_ok, nmX4, rfl, rfl, Nat.le_of_ble_eq_true rfl⟩
theorem ft_4_5 : FT 4 5 (.int) := ⟨(RX4, TX4, 19), tyX4, rfl, tyX4_ok, nmX4, rfl, rfl, Nat.le_of_ble_eq_true rfl⟩
theorem ft_4_10 : FT 4 10 (.int) := ⟨(RX4, TX4, 19), tyX4, rfl, tyX4_ok, nmX4, rfl, rfl, Nat.le_of_ble_eq_true rfl⟩
theorem ft_4_11 : FT 4 11 (.int) := ⟨(RX4, TX4, 19), tyX4, rfl, tyX4_ok, nmX4, rfl, rfl, Nat.le_of_ble_eq_true rfl⟩
theorem ft_4_17 : FT 4 17 (.int) := ⟨(RX4, TX4, 19), tyX4, rfl, tyX4_ok, nmX4, rfl, rfl, Nat.le_of_ble_eq_true rfl⟩
theorem ft_4_18 : FT 4 18 (.int) := ⟨(RX4, TX4, 19), tyX4, rfl, tyX4_ok, nmX4, rfl, rfl, Nat.le_of_ble_eq_true rfl⟩
theorem ft_5_0 : FT 5 0 (.array .int) := ⟨(RX5, TX5, 12), tyX5, rfl, tyX5_ok, nmX5, rfl, rfl, Nat.le_of_ble_eq_true rfl⟩
theorem ft_5_1 : FT 5 1 (.int) := ⟨(RX5, TX5, 12), tyX5, rfl, tyX5_ok, nmX5, rfl, rfl, Nat.le_of_ble_eq_true rfl⟩
theorem ft_5_2 : FT 5 2 (.int) := ⟨(RX5, TX5, 12), tyX5, rfl, tyX5_ok, nmX5, rfl, rfl, Nat.le_of_ble_eq_true rfl⟩
theorem ft_5_3 : FT 5 3 (.int) := ⟨(RX5, TX5, 12), tyX5, rfl, tyX5_ok, nmX5, rfl, rfl, Nat.le_of_ble_eq_true rfl⟩
theorem ft_5_4 : FT 5 4 (.int) := ⟨(RX5, TX5, 12), tyX5, rfl, tyX5_ok, nmX5, rfl, rfl, Nat.le_of_ble_eq_true rfl⟩
theorem ft_5_5 : FT 5 5 (.int) := ⟨(RX5, TX5, 12), tyX5, rfl, tyX5_ok, nmX5, rfl, rfl, Nat.le_of_ble_eq_true rfl⟩
theorem ft_5_6 : FT 5 6 (.int) := ⟨(RX5, TX5, 12), tyX5, rfl, tyX5_ok, nmX5, rfl, rfl, Nat.le_of_ble_eq_true rfl⟩
theorem ft_5_7 : FT 5 7 (.int) := ⟨(RX5, TX5, 12), tyX5, rfl, tyX5_ok, nmX5, rfl, rfl, Nat.le_of_ble_eq_true rfl⟩
theorem ft_5_8 : FT 5 8 (.int) := ⟨(RX5, TX5, 12), tyX5, rfl, tyX5_ok, nmX5, rfl, rfl, Nat.le_of_ble_eq_true rfl⟩
theorem ft_5_9 : FT 5 9 (.boolean) := ⟨(RX5, TX5, 12), tyX5, rfl, tyX5_ok, nmX5, rfl, rfl, Nat.le_of_ble_eq_true rfl⟩
theorem ft_5_11 : FT 5 11 (.object "BelowThread$Formula") := ⟨(RX5, TX5, 12), tyX5, rfl, tyX5_ok, nmX5, rfl, rfl, Nat.le_of_ble_eq_true rfl⟩
theorem ft_6_2 : FT 6 2 (.int) := ⟨(RX6, TX6, 16), tyX6, rfl, tyX6_ok, nmX6, rfl, rfl, Nat.le_of_ble_eq_true rfl⟩
theorem ft_6_8 : FT 6 8 (.int) := ⟨(RX6, TX6, 16), tyX6, rfl, tyX6_ok, nmX6, rfl, rfl, Nat.le_of_ble_eq_true rfl⟩
theorem ft_6_11 : FT 6 11 (.int) := ⟨(RX6, TX6, 16), tyX6, rfl, tyX6_ok, nmX6, rfl, rfl, Nat.le_of_ble_eq_true rfl⟩
theorem ft_6_15 : FT 6 15 (.int) := ⟨(RX6, TX6, 16), tyX6, rfl, tyX6_ok, nmX6, rfl, rfl, Nat.le_of_ble_eq_true rfl⟩
theorem ft_7_1 : FT 7 1 (.int) := ⟨(RX7, TX7, 14), tyX7, rfl, tyX7_ok, nmX7, rfl, rfl, Nat.le_of_ble_eq_true rfl⟩
theorem ft_7_2 : FT 7 2 (.object "BelowThread$Room") := ⟨(RX7, TX7, 14), tyX7, rfl, tyX7_ok, nmX7, rfl, rfl, Nat.le_of_ble_eq_true rfl⟩
theorem ft_7_3 : FT 7 3 (.object "BelowThread$Room") := ⟨(RX7, TX7, 14), tyX7, rfl, tyX7_ok, nmX7, rfl, rfl, Nat.le_of_ble_eq_true rfl⟩
theorem ft_7_10 : FT 7 10 (.int) := ⟨(RX7, TX7, 14), tyX7, rfl, tyX7_ok, nmX7, rfl, rfl, Nat.le_of_ble_eq_true rfl⟩
theorem ft_7_12 : FT 7 12 (.int) := ⟨(RX7, TX7, 14), tyX7, rfl, tyX7_ok, nmX7, rfl, rfl, Nat.le_of_ble_eq_true rfl⟩
theorem ft_8_1 : FT 8 1 (.int) := ⟨(RX8, TX8, 123), tyX8, rfl, tyX8_ok, nmX8, rfl, rfl, Nat.le_of_ble_eq_true rfl⟩
theorem ft_8_2 : FT 8 2 (.int) := ⟨(RX8, TX8, 123), tyX8, rfl, tyX8_ok, nmX8, rfl, rfl, Nat.le_of_ble_eq_true rfl⟩
theorem ft_8_3 : FT 8 3 (.int) := ⟨(RX8, TX8, 123), tyX8, rfl, tyX8_ok, nmX8, rfl, rfl, Nat.le_of_ble_eq_true rfl⟩
theorem ft_8_4 : FT 8 4 (.int) := ⟨(RX8, TX8, 123), tyX8, rfl, tyX8_ok, nmX8, rfl, rfl, Nat.le_of_ble_eq_true rfl⟩
theorem ft_8_5 : FT 8 5 (.int) := ⟨(RX8, TX8, 123), tyX8, rfl, tyX8_ok, nmX8, rfl, rfl, Nat.le_of_ble_eq_true rfl⟩
theorem ft_8_6 : FT 8 6 (.int) := ⟨(RX8, TX8, 123), tyX8, rfl, tyX8_ok, nmX8, rfl, rfl, Nat.le_of_ble_eq_true rfl⟩
theorem ft_8_7 : FT 8 7 (.int) := ⟨(RX8, TX8, 123), tyX8, rfl, tyX8_ok, nmX8, rfl, rfl, Nat.le_of_ble_eq_true rfl⟩
theorem ft_8_8 : FT 8 8 (.int) := ⟨(RX8, TX8, 123), tyX8, rfl, tyX8_ok, nmX8, rfl, rfl, Nat.le_of_ble_eq_true rfl⟩
theorem ft_8_10 : FT 8 10 (.int) := ⟨(RX8, TX8, 123), tyX8, rfl, tyX8_ok, nmX8, rfl, rfl, Nat.le_of_ble_eq_true rfl⟩
theorem ft_8_41 : FT 8 41 (.int) := ⟨(RX8, TX8, 123), tyX8, rfl, tyX8_ok, nmX8, rfl, rfl, Nat.le_of_ble_eq_true rfl⟩
theorem ft_8_51 : FT 8 51 (.int) := ⟨(RX8, TX8, 123), tyX8, rfl, tyX8_ok, nmX8, rfl, rfl, Nat.le_of_ble_eq_true rfl⟩
theorem ft_8_52 : FT 8 52 (.int) := ⟨(RX8, TX8, 123), tyX8, rfl, tyX8_ok, nmX8, rfl, rfl, Nat.le_of_ble_eq_true rfl⟩
theorem ft_8_53 : FT 8 53 (.boolean) := ⟨(RX8, TX8, 123), tyX8, rfl, tyX8_ok, nmX8, rfl, rfl, Nat.le_of_ble_eq_true rfl⟩
theorem ft_8_54 : FT 8 54 (.boolean) := ⟨(RX8, TX8, 123), tyX8, rfl, tyX8_ok, nmX8, rfl, rfl, Nat.le_of_ble_eq_true rfl⟩
theorem ft_8_55 : FT 8 55 (.int) := ⟨(RX8, TX8, 123), tyX8, rfl, tyX8_ok, nmX8, rfl, rfl, Nat.le_of_ble_eq_true rfl⟩
theorem ft_8_56 : FT 8 56 (.int) := ⟨(RX8, TX8, 123), tyX8, rfl, tyX8_ok, nmX8, rfl, rfl, Nat.le_of_ble_eq_true rfl⟩
theorem ft_8_57 : FT 8 57 (.int) := ⟨(RX8, TX8, 123), tyX8, rfl, tyX8_ok, nmX8, rfl, rfl, Nat.le_of_ble_eq_true rfl⟩
theorem ft_8_64 : FT 8 64 (.int) := ⟨(RX8, TX8, 123), tyX8, rfl, tyX8_ok, nmX8, rfl, rfl, Nat.le_of_ble_eq_true rfl⟩
theorem ft_8_66 : FT 8 66 (.int) := ⟨(RX8, TX8, 123), tyX8, rfl, tyX8_ok, nmX8, rfl, rfl, Nat.le_of_ble_eq_true rfl⟩
theorem ft_8_75 : FT 8 75 (.int) := ⟨(RX8, TX8, 123), tyX8, rfl, tyX8_ok, nmX8, rfl, rfl, Nat.le_of_ble_eq_true rfl⟩
theorem ft_8_83 : FT 8 83 (.int) := ⟨(RX8, TX8, 123), tyX8, rfl, tyX8_ok, nmX8, rfl, rfl, Nat.le_of_ble_eq_true rfl⟩
theorem ft_8_84 : FT 8 84 (.int) := ⟨(RX8, TX8, 123), tyX8, rfl, tyX8_ok, nmX8, rfl, rfl, Nat.le_of_ble_eq_true rfl⟩
theorem ft_8_85 : FT 8 85 (.long) := ⟨(RX8, TX8, 123), tyX8, rfl, tyX8_ok, nmX8, rfl, rfl, Nat.le_of_ble_eq_true rfl⟩
theorem ft_8_86 : FT 8 86 (.int) := ⟨(RX8, TX8, 123), tyX8, rfl, tyX8_ok, nmX8, rfl, rfl, Nat.le_of_ble_eq_true rfl⟩
theorem ft_8_87 : FT 8 87 (.boolean) := ⟨(RX8, TX8, 123), tyX8, rfl, tyX8_ok, nmX8, rfl, rfl, Nat.le_of_ble_eq_true rfl⟩
theorem ft_8_88 : FT 8 88 (.int) := ⟨(RX8, TX8, 123), tyX8, rfl, tyX8_ok, nmX8, rfl, rfl, Nat.le_of_ble_eq_true rfl⟩
theorem ft_8_112 : FT 8 112 (.int) := ⟨(RX8, TX8, 123), tyX8, rfl, tyX8_ok, nmX8, rfl, rfl, Nat.le_of_ble_eq_true rfl⟩
theorem ft_8_114 : FT 8 114 (.int) := ⟨(RX8, TX8, 123), tyX8, rfl, tyX8_ok, nmX8, rfl, rfl, Nat.le_of_ble_eq_true rfl⟩
theorem ft_8_115 : FT 8 115 (.int) := ⟨(RX8, TX8, 123), tyX8, rfl, tyX8_ok, nmX8, rfl, rfl, Nat.le_of_ble_eq_true rfl⟩
theorem ft_8_116 : FT 8 116 (.int) := ⟨(RX8, TX8, 123), tyX8, rfl, tyX8_ok, nmX8, rfl, rfl, Nat.le_of_ble_eq_true rfl⟩
theorem ft_8_118 : FT 8 118 (.int) := ⟨(RX8, TX8, 123), tyX8, rfl, tyX8_ok, nmX8, rfl, rfl, Nat.le_of_ble_eq_true rfl⟩
theorem ft_8_119 : FT 8 119 (.long) := ⟨(RX8, TX8, 123), tyX8, rfl, tyX8_ok, nmX8, rfl, rfl, Nat.le_of_ble_eq_true rfl⟩
theorem ft_8_120 : FT 8 120 (.boolean) := ⟨(RX8, TX8, 123), tyX8, rfl, tyX8_ok, nmX8, rfl, rfl, Nat.le_of_ble_eq_true rfl⟩
theorem ft_8_122 : FT 8 122 (.int) := ⟨(RX8, TX8, 123), tyX8, rfl, tyX8_ok, nmX8, rfl, rfl, Nat.le_of_ble_eq_true rfl⟩
theorem xl_2 (sc : List Int) : (xt sc (-2)).length = 6 := rfl
theorem xl_3 (sc : List Int) : (xt sc (-3)).length = 6 := rfl
theorem xl_4 (sc : List Int) : (xt sc (-4)).length = 6 := rfl
section XL
variable {sc : List Int} {o : String} {cc : ByteArray} {nL : Nat} {ret : Option FieldType} {d pc pc2 : Nat} {ls st : List AV} {m : Mem} {Q : Option AV → Mem → Prop}
theorem x_lc_eq {off : Int} {tgt : Nat} {x y : Int} (hd : decode cc pc = .ok (.lcmp, 1)) (hd2 : decode cc (pc + 1) = .ok (.ifCond .eq off, 3)) (ht : ((pc + 1 : Nat) : Int) + off = (tgt : Int)) (hp : pc + 4 = pc2) (hx : -9223372036854775808 ≤ x ∧ x < 9223372036854775808) (hy : -9223372036854775808 ≤ y ∧ y < 9223372036854775808)
    (k1 : x = y → Sim sc o cc nL ret d tgt ls st m Q) (k2 : ¬ (x = y) → Sim sc o cc nL ret d pc2 ls st m Q) : Sim sc o cc nL ret d pc ls (aJ y :: aJ x :: st) m Q := by
  have e : (a_cmp x y = 0) ↔ (x = y) := by
    unfold a_cmp
    by_cases h1 : x < y
    · rw [if_pos h1]; omega
    · by_cases h2 : x = y
      · rw [if_neg h1, if_pos h2]; omega
      · rw [if_neg h1, if_neg h2]; omega
  have e2 : -2147483648 ≤ a_cmp x y ∧ a_cmp x y < 2147483648 := by
    unfold a_cmp
    by_cases h1 : x < y
    · rw [if_pos h1]; omega
    · by_cases h2 : x = y
      · rw [if_neg h1, if_pos h2]; omega
      · rw [if_neg h1, if_neg h2]; omega
  exact x_lcmp hd rfl hx hy (x_if_eq hd2 ht (by omega) e2 (fun q => k1 (e.mp q)) (fun q => k2 (fun z => q (e.mpr z))))
theorem x_lc_ne {off : Int} {tgt : Nat} {x y : Int} (hd : decode cc pc = .ok (.lcmp, 1)) (hd2 : decode cc (pc + 1) = .ok (.ifCond .ne off, 3)) (ht : ((pc + 1 : Nat) : Int) + off = (tgt : Int)) (hp : pc + 4 = pc2) (hx : -9223372036854775808 ≤ x ∧ x < 9223372036854775808) (hy : -9223372036854775808 ≤ y ∧ y < 9223372036854775808)
    (k1 : x ≠ y → Sim sc o cc nL ret d tgt ls st m Q) (k2 : ¬ (x ≠ y) → Sim sc o cc nL ret d pc2 ls st m Q) : Sim sc o cc nL ret d pc ls (aJ y :: aJ x :: st) m Q := by
  have e : (a_cmp x y ≠ 0) ↔ (x ≠ y) := by
    unfold a_cmp
    by_cases h1 : x < y
    · rw [if_pos h1]; omega
    · by_cases h2 : x = y
      · rw [if_neg h1, if_pos h2]; omega
      · rw [if_neg h1, if_neg h2]; omega
  have e2 : -2147483648 ≤ a_cmp x y ∧ a_cmp x y < 2147483648 := by
    unfold a_cmp
    by_cases h1 : x < y
    · rw [if_pos h1]; omega
    · by_cases h2 : x = y
      · rw [if_neg h1, if_pos h2]; omega
      · rw [if_neg h1, if_neg h2]; omega
  exact x_lcmp hd rfl hx hy (x_if_ne hd2 ht (by omega) e2 (fun q => k1 (e.mp q)) (fun q => k2 (fun z => q (e.mpr z))))
theorem x_lc_lt {off : Int} {tgt : Nat} {x y : Int} (hd : decode cc pc = .ok (.lcmp, 1)) (hd2 : decode cc (pc + 1) = .ok (.ifCond .lt off, 3)) (ht : ((pc + 1 : Nat) : Int) + off = (tgt : Int)) (hp : pc + 4 = pc2) (hx : -9223372036854775808 ≤ x ∧ x < 9223372036854775808) (hy : -9223372036854775808 ≤ y ∧ y < 9223372036854775808)
    (k1 : x < y → Sim sc o cc nL ret d tgt ls st m Q) (k2 : ¬ (x < y) → Sim sc o cc nL ret d pc2 ls st m Q) : Sim sc o cc nL ret d pc ls (aJ y :: aJ x :: st) m Q := by
  have e : (a_cmp x y < 0) ↔ (x < y) := by
    unfold a_cmp
    by_cases h1 : x < y
    · rw [if_pos h1]; omega
    · by_cases h2 : x = y
      · rw [if_neg h1, if_pos h2]; omega
      · rw [if_neg h1, if_neg h2]; omega
  have e2 : -2147483648 ≤ a_cmp x y ∧ a_cmp x y < 2147483648 := by
    unfold a_cmp
    by_cases h1 : x < y
    · rw [if_pos h1]; omega
    · by_cases h2 : x = y
      · rw [if_neg h1, if_pos h2]; omega
      · rw [if_neg h1, if_neg h2]; omega
  exact x_lcmp hd rfl hx hy (x_if_lt hd2 ht (by omega) e2 (fun q => k1 (e.mp q)) (fun q => k2 (fun z => q (e.mpr z))))
theorem x_lc_ge {off : Int} {tgt : Nat} {x y : Int} (hd : decode cc pc = .ok (.lcmp, 1)) (hd2 : decode cc (pc + 1) = .ok (.ifCond .ge off, 3)) (ht : ((pc + 1 : Nat) : Int) + off = (tgt : Int)) (hp : pc + 4 = pc2) (hx : -9223372036854775808 ≤ x ∧ x < 9223372036854775808) (hy : -9223372036854775808 ≤ y ∧ y < 9223372036854775808)
    (k1 : y ≤ x → Sim sc o cc nL ret d tgt ls st m Q) (k2 : ¬ (y ≤ x) → Sim sc o cc nL ret d pc2 ls st m Q) : Sim sc o cc nL ret d pc ls (aJ y :: aJ x :: st) m Q := by
  have e : (0 ≤ a_cmp x y) ↔ (y ≤ x) := by
    unfold a_cmp
    by_cases h1 : x < y
    · rw [if_pos h1]; omega
    · by_cases h2 : x = y
      · rw [if_neg h1, if_pos h2]; omega
      · rw [if_neg h1, if_neg h2]; omega
  have e2 : -2147483648 ≤ a_cmp x y ∧ a_cmp x y < 2147483648 := by
    unfold a_cmp
    by_cases h1 : x < y
    · rw [if_pos h1]; omega
    · by_cases h2 : x = y
      · rw [if_neg h1, if_pos h2]; omega
      · rw [if_neg h1, if_neg h2]; omega
  exact x_lcmp hd rfl hx hy (x_if_ge hd2 ht (by omega) e2 (fun q => k1 (e.mp q)) (fun q => k2 (fun z => q (e.mpr z))))
theorem x_lc_gt {off : Int} {tgt : Nat} {x y : Int} (hd : decode cc pc = .ok (.lcmp, 1)) (hd2 : decode cc (pc + 1) = .ok (.ifCond .gt off, 3)) (ht : ((pc + 1 : Nat) : Int) + off = (tgt : Int)) (hp : pc + 4 = pc2) (hx : -9223372036854775808 ≤ x ∧ x < 9223372036854775808) (hy : -9223372036854775808 ≤ y ∧ y < 9223372036854775808)
    (k1 : y < x → Sim sc o cc nL ret d tgt ls st m Q) (k2 : ¬ (y < x) → Sim sc o cc nL ret d pc2 ls st m Q) : Sim sc o cc nL ret d pc ls (aJ y :: aJ x :: st) m Q := by
  have e : (0 < a_cmp x y) ↔ (y < x) := by
    unfold a_cmp
    by_cases h1 : x < y
    · rw [if_pos h1]; omega
    · by_cases h2 : x = y
      · rw [if_neg h1, if_pos h2]; omega
      · rw [if_neg h1, if_neg h2]; omega
  have e2 : -2147483648 ≤ a_cmp x y ∧ a_cmp x y < 2147483648 := by
    unfold a_cmp
    by_cases h1 : x < y
    · rw [if_pos h1]; omega
    · by_cases h2 : x = y
      · rw [if_neg h1, if_pos h2]; omega
      · rw [if_neg h1, if_neg h2]; omega
  exact x_lcmp hd rfl hx hy (x_if_gt hd2 ht (by omega) e2 (fun q => k1 (e.mp q)) (fun q => k2 (fun z => q (e.mpr z))))
theorem x_lc_le {off : Int} {tgt : Nat} {x y : Int} (hd : decode cc pc = .ok (.lcmp, 1)) (hd2 : decode cc (pc + 1) = .ok (.ifCond .le off, 3)) (ht : ((pc + 1 : Nat) : Int) + off = (tgt : Int)) (hp : pc + 4 = pc2) (hx : -9223372036854775808 ≤ x ∧ x < 9223372036854775808) (hy : -9223372036854775808 ≤ y ∧ y < 9223372036854775808)
    (k1 : x ≤ y → Sim sc o cc nL ret d tgt ls st m Q) (k2 : ¬ (x ≤ y) → Sim sc o cc nL ret d pc2 ls st m Q) : Sim sc o cc nL ret d pc ls (aJ y :: aJ x :: st) m Q := by
  have e : (a_cmp x y ≤ 0) ↔ (x ≤ y) := by
    unfold a_cmp
    by_cases h1 : x < y
    · rw [if_pos h1]; omega
    · by_cases h2 : x = y
      · rw [if_neg h1, if_pos h2]; omega
      · rw [if_neg h1, if_neg h2]; omega
  have e2 : -2147483648 ≤ a_cmp x y ∧ a_cmp x y < 2147483648 := by
    unfold a_cmp
    by_cases h1 : x < y
    · rw [if_pos h1]; omega
    · by_cases h2 : x = y
      · rw [if_neg h1, if_pos h2]; omega
      · rw [if_neg h1, if_neg h2]; omega
  exact x_lcmp hd rfl hx hy (x_if_le hd2 ht (by omega) e2 (fun q => k1 (e.mp q)) (fun q => k2 (fun z => q (e.mpr z))))
end XL
