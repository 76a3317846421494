set_option maxRecDepth 4000 in
theorem g_X8_means_0 {sc : List Int} {d : Nat} {m : Mem} {Q : Option AV → Mem → Prop} {l1 : Int} (k : S_X8_means sc d 1 [aR 62, aI l1, aU, aU, aU, aU] [aR 62] m Q) : S_X8_means sc d 0 [aR 62, aI l1, aU, aU, aU, aU] [] m Q := by
  refine x_aload_n (pc2 := 1) dX8_means_0 rfl rfl ?_
  exact k
set_option maxRecDepth 4000 in
theorem g_X8_means_4 {sc : List Int} {d : Nat} {m : Mem} {Q : Option AV → Mem → Prop} {l1 s0 : Int} (k : (0 ≤ s0) ∧ (s0 < 7) ∧ S_X8_means sc d 21 [aR 62, aI l1, aI s0, aI 0, aU, aU] [] (wr (wr m 104 s0 1) 105 s0 0) Q) : S_X8_means sc d 4 [aR 62, aI l1, aU, aU, aU, aU] [aI s0] m Q := by
  refine x_istore_n (pc2 := 5) (ls2 := [aR 62, aI l1, aI s0, aU, aU, aU]) dX8_means_4 rfl (by decide) rfl ?_
  refine x_aload_n (pc2 := 6) dX8_means_5 rfl rfl ?_
  refine x_getf (pc2 := 9) (v := aR 104) fl_X8_139 ic_62 (vr_62_58 _) dX8_means_6 rfl ?_
  refine x_iload_n (pc2 := 10) dX8_means_9 rfl rfl ?_
  refine x_lconst (pc2 := 11) (v := 1) dX8_means_10 rfl rfl ?_
  obtain ⟨h1, k⟩ := k
  obtain ⟨h2, k⟩ := k
  refine x_last (pc2 := 12) ic_104 h1 (by rw [al_104]; exact h2) dX8_means_11 rfl ?_
  refine x_aload_n (pc2 := 13) dX8_means_12 rfl rfl ?_
  refine x_getf (pc2 := 16) (v := aR 105) fl_X8_142 ic_62 (vr_62_59 _) dX8_means_13 rfl ?_
  refine x_iload_n (pc2 := 17) dX8_means_16 rfl rfl ?_
  refine x_lconst (pc2 := 18) (v := 0) dX8_means_17 rfl rfl ?_
  refine x_last (pc2 := 19) ic_105 h1 (by rw [al_105]; exact h2) dX8_means_18 rfl ?_
  refine x_iconst (pc2 := 20) dX8_means_19 rfl ?_
  refine x_istore_n (pc2 := 21) (ls2 := [aR 62, aI l1, aI s0, aI 0, aU, aU]) dX8_means_20 rfl (by decide) rfl ?_
  exact k
set_option maxRecDepth 4000 in
theorem g_X8_means_21 {sc : List Int} {d : Nat} {m : Mem} {Q : Option AV → Mem → Prop} {l1 l2 l3 : Int} (k : (-2147483648 ≤ l3 ∧ l3 < 2147483648) ∧ ((99 < l3) → (S_X8_means sc d 49 [aR 62, aI l1, aU, aI (l2 - 1), aU, aU] [] m Q)) ∧ (¬ (99 < l3) → ((0 ≤ ((100 * l2) + l3)) ∧ (((100 * l2) + l3) < 700) ∧ S_X8_means sc d 21 [aR 62, aI l1, aI l2, aI (l3 + 1), aU, aU] [] (wr m 106 ((100 * l2) + l3) 0) Q))) : S_X8_means sc d 21 [aR 62, aI l1, aI l2, aI l3, aU, aU] [] m Q := by
  refine x_iload_n (pc2 := 22) dX8_means_21 rfl rfl ?_
  refine x_bipush (pc2 := 24) dX8_means_22 rfl rfl ?_
  obtain ⟨h1, k⟩ := k
  obtain ⟨k1, k2⟩ := k
  refine x_icmp_gt (tgt := 45) (pc2 := 27) dX8_means_24 (by decide) rfl h1 (by decide) (fun c2 => ?_) (fun c2 => ?_)
  · replace k := k1 c2
    refine x_iload_n (pc2 := 46) dX8_means_45 rfl rfl ?_
    refine x_iconst (pc2 := 47) dX8_means_46 rfl ?_
    refine x_isub (pc2 := 48) dX8_means_47 rfl ?_
    refine x_istore_n (pc2 := 49) (ls2 := [aR 62, aI l1, aI l2, aI (l2 - 1), aU, aU]) dX8_means_48 rfl (by decide) rfl ?_
    exact x_drop (drp_k (drp_k (drp_u (drp_k (drp_k (drp_k drp_n)))))) k
  · replace k := k2 c2
    refine x_aload_n (pc2 := 28) dX8_means_27 rfl rfl ?_
    refine x_getf (pc2 := 31) (v := aR 106) fl_X8_145 ic_62 (vr_62_60 _) dX8_means_28 rfl ?_
    refine x_bipush (pc2 := 33) dX8_means_31 rfl rfl ?_
    refine x_iload_n (pc2 := 34) dX8_means_33 rfl rfl ?_
    refine x_imul (pc2 := 35) dX8_means_34 rfl ?_
    refine x_iload_n (pc2 := 36) dX8_means_35 rfl rfl ?_
    refine x_iadd (pc2 := 37) dX8_means_36 rfl ?_
    refine x_lconst (pc2 := 38) (v := 0) dX8_means_37 rfl rfl ?_
    obtain ⟨h3, k⟩ := k
    obtain ⟨h4, k⟩ := k
    refine x_last (pc2 := 39) ic_106 h3 (by rw [al_106]; exact h4) dX8_means_38 rfl ?_
    refine x_iinc (pc2 := 42) (ls2 := [aR 62, aI l1, aI l2, aI (l3 + 1), aU, aU]) dX8_means_39 rfl rfl (by decide) rfl ?_
    refine x_goto (tgt := 21) dX8_means_42 (by decide) ?_
    exact k
set_option maxRecDepth 4000 in
theorem g_X8_means_49 {sc : List Int} {d : Nat} {m : Mem} {Q : Option AV → Mem → Prop} {l1 l3 : Int} (k : (-2147483648 ≤ l3 ∧ l3 < 2147483648) ∧ ((l3 < 0) → (Q none m)) ∧ (¬ (l3 < 0) → ((0 ≤ (l3 + 1)) ∧ ((l3 + 1) < 7) ∧ (0 ≤ l3) ∧ (l3 < 7) ∧ S_X8_means sc d 73 [aR 62, aI l1, aU, aI l3, aU, aU] [aI l3, aR 62] (wr m 104 l3 (100 * (m 104 (l3 + 1)))) Q))) : S_X8_means sc d 49 [aR 62, aI l1, aU, aI l3, aU, aU] [] m Q := by
  refine x_iload_n (pc2 := 50) dX8_means_49 rfl rfl ?_
  obtain ⟨h1, k⟩ := k
  obtain ⟨k1, k2⟩ := k
  refine x_if_lt (tgt := 171) (pc2 := 53) dX8_means_50 (by decide) rfl h1 (fun c2 => ?_) (fun c2 => ?_)
  · replace k := k1 c2
    exact x_return dX8_means_171 rfl k
  · replace k := k2 c2
    refine x_aload_n (pc2 := 54) dX8_means_53 rfl rfl ?_
    refine x_getf (pc2 := 57) (v := aR 104) fl_X8_139 ic_62 (vr_62_58 _) dX8_means_54 rfl ?_
    refine x_iload_n (pc2 := 58) dX8_means_57 rfl rfl ?_
    refine x_ldc2 (pc2 := 61) (x := 100) kc_X8_464 rfl dX8_means_58 rfl ?_
    refine x_aload_n (pc2 := 62) dX8_means_61 rfl rfl ?_
    refine x_getf (pc2 := 65) (v := aR 104) fl_X8_139 ic_62 (vr_62_58 _) dX8_means_62 rfl ?_
    refine x_iload_n (pc2 := 66) dX8_means_65 rfl rfl ?_
    refine x_iconst (pc2 := 67) dX8_means_66 rfl ?_
    refine x_iadd (pc2 := 68) dX8_means_67 rfl ?_
    obtain ⟨h3, k⟩ := k
    obtain ⟨h4, k⟩ := k
    refine x_lald (pc2 := 69) ic_104 h3 (by rw [al_104]; exact h4) dX8_means_68 rfl ?_
    refine x_lmul (pc2 := 70) dX8_means_69 rfl ?_
    obtain ⟨h5, k⟩ := k
    obtain ⟨h6, k⟩ := k
    refine x_last (pc2 := 71) ic_104 h5 (by rw [al_104]; exact h6) dX8_means_70 rfl ?_
    refine x_aload_n (pc2 := 72) dX8_means_71 rfl rfl ?_
    refine x_iload_n (pc2 := 73) dX8_means_72 rfl rfl ?_
    exact k
set_option maxRecDepth 4000 in
theorem g_X8_means_76 {sc : List Int} {d : Nat} {m : Mem} {Q : Option AV → Mem → Prop} {l1 l3 s0 : Int} (k : S_X8_means sc d 89 [aR 62, aI l1, aU, aI l3, aI s0, aU] [aI s0, aI (l3 + 1), aR 62, aI l3, aR 105] m Q) : S_X8_means sc d 76 [aR 62, aI l1, aU, aI l3, aU, aU] [aI s0] m Q := by
  refine x_istore (pc2 := 78) (ls2 := [aR 62, aI l1, aU, aI l3, aI s0, aU]) dX8_means_76 rfl (by decide) rfl ?_
  refine x_aload_n (pc2 := 79) dX8_means_78 rfl rfl ?_
  refine x_getf (pc2 := 82) (v := aR 105) fl_X8_142 ic_62 (vr_62_59 _) dX8_means_79 rfl ?_
  refine x_iload_n (pc2 := 83) dX8_means_82 rfl rfl ?_
  refine x_aload_n (pc2 := 84) dX8_means_83 rfl rfl ?_
  refine x_iload_n (pc2 := 85) dX8_means_84 rfl rfl ?_
  refine x_iconst (pc2 := 86) dX8_means_85 rfl ?_
  refine x_iadd (pc2 := 87) dX8_means_86 rfl ?_
  refine x_iload (pc2 := 89) dX8_means_87 rfl rfl ?_
  exact k
set_option maxRecDepth 4000 in
theorem g_X8_means_92 {sc : List Int} {d : Nat} {m : Mem} {Q : Option AV → Mem → Prop} {l1 l3 l4 s0 s1 s2 : Int} (Hs0 : IsC s0 101) (k : S_X8_means sc d 97 [aR 62, aI l1, aU, aI l3, aU, aU] [aI l4, aR 62, aI 100, aJ s2, aI s1, aR s0] m Q) : S_X8_means sc d 92 [aR 62, aI l1, aU, aI l3, aI l4, aU] [aJ s2, aI s1, aR s0] m Q := by
  refine x_bipush (pc2 := 94) dX8_means_92 rfl rfl ?_
  refine x_aload_n (pc2 := 95) dX8_means_94 rfl rfl ?_
  refine x_iload (pc2 := 97) dX8_means_95 rfl rfl ?_
  exact x_drop (drp_k (drp_k (drp_k (drp_k (drp_u (drp_k drp_n)))))) k
set_option maxRecDepth 4000 in
theorem g_X8_means_100 {sc : List Int} {d : Nat} {m : Mem} {Q : Option AV → Mem → Prop} {l1 l3 s0 s1 s2 s3 s4 : Int} (Hs0 : IsC s0 101) (k : (-2147483648 ≤ (s3 - s4) ∧ (s3 - s4) < 2147483648) ∧ S_X8_means sc d 104 [aR 62, aI l1, aU, aI l3, aU, aU] [aI l3, aR 62, aJ (s3 - s4), aJ s2, aI s1, aR s0] m Q) : S_X8_means sc d 100 [aR 62, aI l1, aU, aI l3, aU, aU] [aI s4, aI s3, aJ s2, aI s1, aR s0] m Q := by
  refine x_isub (pc2 := 101) dX8_means_100 rfl ?_
  obtain ⟨h1, k⟩ := k
  refine x_i2l (pc2 := 102) dX8_means_101 rfl h1 ?_
  refine x_aload_n (pc2 := 103) dX8_means_102 rfl rfl ?_
  refine x_iload_n (pc2 := 104) dX8_means_103 rfl rfl ?_
  exact k
set_option maxRecDepth 4000 in
theorem g_X8_means_107 {sc : List Int} {d : Nat} {m : Mem} {Q : Option AV → Mem → Prop} {l1 l3 s0 s1 s2 s3 s4 : Int} (Hs0 : IsC s0 101) (k : (0 ≤ s1) ∧ (s1 < alen s0) ∧ (0 ≤ l3) ∧ (l3 < 7) ∧ (0 ≤ (100 * l3)) ∧ ((100 * l3) < 700) ∧ S_X8_means sc d 132 [aR 62, aI l1, aU, aI l3, aU, aI 1] [] (wr (wr m s0 s1 (s2 + (s3 * s4))) 106 (100 * l3) (100 * ((wr m s0 s1 (s2 + (s3 * s4))) 105 l3))) Q) : S_X8_means sc d 107 [aR 62, aI l1, aU, aI l3, aU, aU] [aJ s4, aJ s3, aJ s2, aI s1, aR s0] m Q := by
  refine x_lmul (pc2 := 108) dX8_means_107 rfl ?_
  refine x_ladd (pc2 := 109) dX8_means_108 rfl ?_
  obtain ⟨h1, k⟩ := k
  obtain ⟨h2, k⟩ := k
  refine x_last (pc2 := 110) Hs0 h1 h2 dX8_means_109 rfl ?_
  refine x_aload_n (pc2 := 111) dX8_means_110 rfl rfl ?_
  refine x_getf (pc2 := 114) (v := aR 106) fl_X8_145 ic_62 (vr_62_60 _) dX8_means_111 rfl ?_
  refine x_bipush (pc2 := 116) dX8_means_114 rfl rfl ?_
  refine x_iload_n (pc2 := 117) dX8_means_116 rfl rfl ?_
  refine x_imul (pc2 := 118) dX8_means_117 rfl ?_
  refine x_ldc2 (pc2 := 121) (x := 100) kc_X8_464 rfl dX8_means_118 rfl ?_
  refine x_aload_n (pc2 := 122) dX8_means_121 rfl rfl ?_
  refine x_getf (pc2 := 125) (v := aR 105) fl_X8_142 ic_62 (vr_62_59 _) dX8_means_122 rfl ?_
  refine x_iload_n (pc2 := 126) dX8_means_125 rfl rfl ?_
  obtain ⟨h3, k⟩ := k
  obtain ⟨h4, k⟩ := k
  refine x_lald (pc2 := 127) ic_105 h3 (by rw [al_105]; exact h4) dX8_means_126 rfl ?_
  refine x_lmul (pc2 := 128) dX8_means_127 rfl ?_
  obtain ⟨h5, k⟩ := k
  obtain ⟨h6, k⟩ := k
  refine x_last (pc2 := 129) ic_106 h5 (by rw [al_106]; exact h6) dX8_means_128 rfl ?_
  refine x_iconst (pc2 := 130) dX8_means_129 rfl ?_
  refine x_istore (pc2 := 132) (ls2 := [aR 62, aI l1, aU, aI l3, aU, aI 1]) dX8_means_130 rfl (by decide) rfl ?_
  exact k
set_option maxRecDepth 4000 in
theorem g_X8_means_132 {sc : List Int} {d : Nat} {m : Mem} {Q : Option AV → Mem → Prop} {l1 l3 l5 : Int} (k : (-2147483648 ≤ l5 ∧ l5 < 2147483648) ∧ ((99 < l5) → (S_X8_means sc d 49 [aR 62, aI l1, aU, aI (l3 + (-1)), aU, aU] [] m Q)) ∧ (¬ (99 < l5) → (S_X8_means sc d 155 [aR 62, aI l1, aU, aI l3, aU, aI l5] [aI l5, aI l3, aI l1, aR 62, aI ((100 * l3) + l5), aR 106] m Q))) : S_X8_means sc d 132 [aR 62, aI l1, aU, aI l3, aU, aI l5] [] m Q := by
  refine x_iload (pc2 := 134) dX8_means_132 rfl rfl ?_
  refine x_bipush (pc2 := 136) dX8_means_134 rfl rfl ?_
  obtain ⟨h1, k⟩ := k
  obtain ⟨k1, k2⟩ := k
  refine x_icmp_gt (tgt := 165) (pc2 := 139) dX8_means_136 (by decide) rfl h1 (by decide) (fun c2 => ?_) (fun c2 => ?_)
  · replace k := k1 c2
    refine x_iinc (pc2 := 168) (ls2 := [aR 62, aI l1, aU, aI (l3 + (-1)), aU, aI l5]) dX8_means_165 rfl rfl (by decide) rfl ?_
    refine x_goto (tgt := 49) dX8_means_168 (by decide) ?_
    exact x_drop (drp_k (drp_k (drp_k (drp_k (drp_k (drp_u drp_n)))))) k
  · replace k := k2 c2
    refine x_aload_n (pc2 := 140) dX8_means_139 rfl rfl ?_
    refine x_getf (pc2 := 143) (v := aR 106) fl_X8_145 ic_62 (vr_62_60 _) dX8_means_140 rfl ?_
    refine x_bipush (pc2 := 145) dX8_means_143 rfl rfl ?_
    refine x_iload_n (pc2 := 146) dX8_means_145 rfl rfl ?_
    refine x_imul (pc2 := 147) dX8_means_146 rfl ?_
    refine x_iload (pc2 := 149) dX8_means_147 rfl rfl ?_
    refine x_iadd (pc2 := 150) dX8_means_149 rfl ?_
    refine x_aload_n (pc2 := 151) dX8_means_150 rfl rfl ?_
    refine x_iload_n (pc2 := 152) dX8_means_151 rfl rfl ?_
    refine x_iload_n (pc2 := 153) dX8_means_152 rfl rfl ?_
    refine x_iload (pc2 := 155) dX8_means_153 rfl rfl ?_
    exact k
set_option maxRecDepth 4000 in
theorem g_X8_means_158 {sc : List Int} {d : Nat} {m : Mem} {Q : Option AV → Mem → Prop} {l1 l3 l5 s0 s1 s2 : Int} (Hs0 : IsC s0 101) (k : (0 ≤ s1) ∧ (s1 < alen s0) ∧ S_X8_means sc d 132 [aR 62, aI l1, aU, aI l3, aU, aI (l5 + 1)] [] (wr m s0 s1 s2) Q) : S_X8_means sc d 158 [aR 62, aI l1, aU, aI l3, aU, aI l5] [aJ s2, aI s1, aR s0] m Q := by
  obtain ⟨h1, k⟩ := k
  obtain ⟨h2, k⟩ := k
  refine x_last (pc2 := 159) Hs0 h1 h2 dX8_means_158 rfl ?_
  refine x_iinc (pc2 := 162) (ls2 := [aR 62, aI l1, aU, aI l3, aU, aI (l5 + 1)]) dX8_means_159 rfl rfl (by decide) rfl ?_
  refine x_goto (tgt := 132) dX8_means_162 (by decide) ?_
  exact k
theorem c_X8_means_1 {sc : List Int} {d d2 : Nat} {m m2 : Mem} {Q : Option AV → Mem → Prop} {l1 : Int} {v : Int} (hM : C_X8_seamMany sc d2 [aR 62] m (some (aI v)) m2) (hd : d2 + 1 ≤ d) (k : S_X8_means sc d 4 [aR 62, aI l1, aU, aU, aU, aU] [aI v] m2 Q) : S_X8_means sc d 1 [aR 62, aI l1, aU, aU, aU, aU] [aR 62] m Q := x_callV (as := []) (rest := []) hM mk_X8_seamMany mv_X8_seamMany lk_X8_431 (Or.inl ⟨8, (RX8, TX8, 123), ic_62, Nat.le_of_ble_eq_true rfl, rfl, rfl⟩) hd rfl rfl (Nat.le_of_ble_eq_true rfl) dX8_means_1 rfl k
theorem c_X8_means_73 {sc : List Int} {d d2 : Nat} {m m2 : Mem} {Q : Option AV → Mem → Prop} {l1 l3 s1 : Int} {v : Int} (hM : C_X8_takesOf sc d2 [aR 62, aI s1] m (some (aI v)) m2) (hd : d2 + 1 ≤ d) (k : S_X8_means sc d 76 [aR 62, aI l1, aU, aI l3, aU, aU] [aI v] m2 Q) : S_X8_means sc d 73 [aR 62, aI l1, aU, aI l3, aU, aU] [aI s1, aR 62] m Q := x_callV (as := [aI s1]) (rest := []) hM mk_X8_takesOf mv_X8_takesOf lk_X8_434 (Or.inl ⟨8, (RX8, TX8, 123), ic_62, Nat.le_of_ble_eq_true rfl, rfl, rfl⟩) hd rfl rfl (Nat.le_of_ble_eq_true rfl) dX8_means_73 rfl k
theorem c_X8_means_89 {sc : List Int} {d d2 : Nat} {m m2 : Mem} {Q : Option AV → Mem → Prop} {l1 l3 l4 s0 s1 s3 s4 : Int} {v : Int} (Hs0 : IsC s0 101) (hM : C_X8_meantAt sc d2 [aR 62, aI s3, aI s4] m (some (aJ v)) m2) (hd : d2 + 1 ≤ d) (k : S_X8_means sc d 92 [aR 62, aI l1, aU, aI l3, aI l4, aU] [aJ v, aI s1, aR s0] m2 Q) : S_X8_means sc d 89 [aR 62, aI l1, aU, aI l3, aI l4, aU] [aI s4, aI s3, aR 62, aI s1, aR s0] m Q := x_callV (as := [aI s3, aI s4]) (rest := [aI s1, aR s0]) hM mk_X8_meantAt mv_X8_meantAt lk_X8_466 (Or.inl ⟨8, (RX8, TX8, 123), ic_62, Nat.le_of_ble_eq_true rfl, rfl, rfl⟩) hd rfl rfl (Nat.le_of_ble_eq_true rfl) dX8_means_89 rfl k
theorem c_X8_means_97 {sc : List Int} {d d2 : Nat} {m m2 : Mem} {Q : Option AV → Mem → Prop} {l1 l3 s0 s1 s2 s3 s5 : Int} {v : Int} (Hs0 : IsC s0 101) (hM : C_X8_oddsFrom sc d2 [aR 62, aI s5] m (some (aI v)) m2) (hd : d2 + 1 ≤ d) (k : S_X8_means sc d 100 [aR 62, aI l1, aU, aI l3, aU, aU] [aI v, aI s3, aJ s2, aI s1, aR s0] m2 Q) : S_X8_means sc d 97 [aR 62, aI l1, aU, aI l3, aU, aU] [aI s5, aR 62, aI s3, aJ s2, aI s1, aR s0] m Q := x_callV (as := [aI s5]) (rest := [aI s3, aJ s2, aI s1, aR s0]) hM mk_X8_oddsFrom mv_X8_oddsFrom lk_X8_469 (Or.inl ⟨8, (RX8, TX8, 123), ic_62, Nat.le_of_ble_eq_true rfl, rfl, rfl⟩) hd rfl rfl (Nat.le_of_ble_eq_true rfl) dX8_means_97 rfl k
theorem c_X8_means_104 {sc : List Int} {d d2 : Nat} {m m2 : Mem} {Q : Option AV → Mem → Prop} {l1 l3 s0 s1 s2 s3 s5 : Int} {v : Int} (Hs0 : IsC s0 101) (hM : C_X8_behindMended sc d2 [aR 62, aI s5] m (some (aJ v)) m2) (hd : d2 + 1 ≤ d) (k : S_X8_means sc d 107 [aR 62, aI l1, aU, aI l3, aU, aU] [aJ v, aJ s3, aJ s2, aI s1, aR s0] m2 Q) : S_X8_means sc d 104 [aR 62, aI l1, aU, aI l3, aU, aU] [aI s5, aR 62, aJ s3, aJ s2, aI s1, aR s0] m Q := x_callV (as := [aI s5]) (rest := [aJ s3, aJ s2, aI s1, aR s0]) hM mk_X8_behindMended mv_X8_behindMended lk_X8_472 (Or.inl ⟨8, (RX8, TX8, 123), ic_62, Nat.le_of_ble_eq_true rfl, rfl, rfl⟩) hd rfl rfl (Nat.le_of_ble_eq_true rfl) dX8_means_104 rfl k
theorem c_X8_means_155 {sc : List Int} {d d2 : Nat} {m m2 : Mem} {Q : Option AV → Mem → Prop} {l1 l3 l5 s0 s1 s3 s4 s5 : Int} {v : Int} (Hs0 : IsC s0 101) (hM : C_X8_chosen sc d2 [aR 62, aI s3, aI s4, aI s5] m (some (aJ v)) m2) (hd : d2 + 1 ≤ d) (k : S_X8_means sc d 158 [aR 62, aI l1, aU, aI l3, aU, aI l5] [aJ v, aI s1, aR s0] m2 Q) : S_X8_means sc d 155 [aR 62, aI l1, aU, aI l3, aU, aI l5] [aI s5, aI s4, aI s3, aR 62, aI s1, aR s0] m Q := x_callV (as := [aI s3, aI s4, aI s5]) (rest := [aI s1, aR s0]) hM mk_X8_chosen mv_X8_chosen lk_X8_495 (Or.inl ⟨8, (RX8, TX8, 123), ic_62, Nat.le_of_ble_eq_true rfl, rfl, rfl⟩) hd rfl rfl (Nat.le_of_ble_eq_true rfl) dX8_means_155 rfl k
set_option maxRecDepth 4000 in
theorem g_X8_areFew_0 {sc : List Int} {d : Nat} {m : Mem} {Q : Option AV → Mem → Prop} (k : (-2147483648 ≤ (m 62 53) ∧ (m 62 53) < 2147483648) ∧ (((m 62 53) = 0) → (Q (some (aI 0)) m)) ∧ (¬ ((m 62 53) = 0) → (S_X8_areFew sc d 8 [aR 62] [aR 62] m Q))) : S_X8_areFew sc d 0 [aR 62] [] m Q := by
  refine x_aload_n (pc2 := 1) dX8_areFew_0 rfl rfl ?_
  refine x_getf (pc2 := 4) (v := aI (m 62 53)) fl_X8_422 ic_62 (fv_i _ ic_62 rfl) dX8_areFew_1 rfl ?_
  obtain ⟨h1, k⟩ := k
  obtain ⟨k1, k2⟩ := k
  refine x_if_eq (tgt := 20) (pc2 := 7) dX8_areFew_4 (by decide) rfl h1 (fun c2 => ?_) (fun c2 => ?_)
  · replace k := k1 c2
    refine x_iconst (pc2 := 21) dX8_areFew_20 rfl ?_
    exact x_ireturn dX8_areFew_21 ⟨.boolean, rfl, rfl⟩ k
  · replace k := k2 c2
    refine x_aload_n (pc2 := 8) dX8_areFew_7 rfl rfl ?_
    exact k
set_option maxRecDepth 4000 in
theorem g_X8_areFew_11 {sc : List Int} {d : Nat} {m : Mem} {Q : Option AV → Mem → Prop} {s0 : Int} (k : ((-2147483648 ≤ s0 ∧ s0 < 2147483648)) ∧ Q (some (aI (if 6 < s0 then 0 else 1 : Int))) m) : S_X8_areFew sc d 11 [aR 62] [aI s0] m Q := by
  refine x_bipush (pc2 := 13) dX8_areFew_11 rfl rfl ?_
  obtain ⟨g2, k⟩ := k
  have kj : S_X8_areFew sc d 21 [aR 62] [aI (if 6 < s0 then 0 else 1 : Int)] m Q := by
    exact x_ireturn dX8_areFew_21 (ret_z (by repeat (first | exact Or.inl rfl | exact Or.inr rfl | split))) k
  have h3 := g2 
  refine x_icmp_gt (tgt := 20) (pc2 := 16) dX8_areFew_13 (by decide) rfl h3 (by decide) (fun c4 => ?_) (fun c4 => ?_)
  · skip
    refine x_iconst (pc2 := 21) dX8_areFew_20 rfl ?_
    exact x_topI (v := (if 6 < s0 then 0 else 1 : Int)) (if_pos c4) kj
  · skip
    refine x_iconst (pc2 := 17) dX8_areFew_16 rfl ?_
    refine x_goto (tgt := 21) dX8_areFew_17 (by decide) ?_
    exact x_topI (v := (if 6 < s0 then 0 else 1 : Int)) (if_neg c4) kj
theorem c_X8_areFew_8 {sc : List Int} {d d2 : Nat} {m m2 : Mem} {Q : Option AV → Mem → Prop} {v : Int} (hM : C_X8_seamMany sc d2 [aR 62] m (some (aI v)) m2) (hd : d2 + 1 ≤ d) (k : S_X8_areFew sc d 11 [aR 62] [aI v] m2 Q) : S_X8_areFew sc d 8 [aR 62] [aR 62] m Q := x_callV (as := []) (rest := []) hM mk_X8_seamMany mv_X8_seamMany lk_X8_431 (Or.inl ⟨8, (RX8, TX8, 123), ic_62, Nat.le_of_ble_eq_true rfl, rfl, rfl⟩) hd rfl rfl (Nat.le_of_ble_eq_true rfl) dX8_areFew_8 rfl k
set_option maxRecDepth 4000 in
theorem g_X8_isSewer_0 {sc : List Int} {d : Nat} {m : Mem} {Q : Option AV → Mem → Prop} {l1 : Int} (k : (-2147483648 ≤ (m 62 53) ∧ (m 62 53) < 2147483648) ∧ (((m 62 53) = 0) → (Q (some (aI 0)) m)) ∧ (¬ ((m 62 53) = 0) → ((-2147483648 ≤ l1 ∧ l1 < 2147483648) ∧ S_X8_isSewer sc d 12 [aR 62, aI l1] [aR 62, aI 4, aJ 0, aJ l1] m Q))) : S_X8_isSewer sc d 0 [aR 62, aI l1] [] m Q := by
  refine x_aload_n (pc2 := 1) dX8_isSewer_0 rfl rfl ?_
  refine x_getf (pc2 := 4) (v := aI (m 62 53)) fl_X8_422 ic_62 (fv_i _ ic_62 rfl) dX8_isSewer_1 rfl ?_
  obtain ⟨h1, k⟩ := k
  obtain ⟨k1, k2⟩ := k
  refine x_if_eq (tgt := 41) (pc2 := 7) dX8_isSewer_4 (by decide) rfl h1 (fun c2 => ?_) (fun c2 => ?_)
  · replace k := k1 c2
    refine x_iconst (pc2 := 42) dX8_isSewer_41 rfl ?_
    exact x_ireturn dX8_isSewer_42 ⟨.boolean, rfl, rfl⟩ k
  · replace k := k2 c2
    refine x_iload_n (pc2 := 8) dX8_isSewer_7 rfl rfl ?_
    obtain ⟨h3, k⟩ := k
    refine x_i2l (pc2 := 9) dX8_isSewer_8 rfl h3 ?_
    refine x_lconst (pc2 := 10) (v := 0) dX8_isSewer_9 rfl rfl ?_
    refine x_iconst (pc2 := 11) dX8_isSewer_10 rfl ?_
    refine x_aload_n (pc2 := 12) dX8_isSewer_11 rfl rfl ?_
    exact k
set_option maxRecDepth 4000 in
theorem g_X8_isSewer_15 {sc : List Int} {d : Nat} {m : Mem} {Q : Option AV → Mem → Prop} {l1 s0 s1 s2 s3 : Int} (k : (-2147483648 ≤ ((s2 + s3) - 1) ∧ ((s2 + s3) - 1) < 2147483648) ∧ S_X8_isSewer sc d 19 [aR 62, aI l1] [aJ ((s2 + s3) - 1), aJ s1, aJ s0] m Q) : S_X8_isSewer sc d 15 [aR 62, aI l1] [aI s3, aI s2, aJ s1, aJ s0] m Q := by
  refine x_iadd (pc2 := 16) dX8_isSewer_15 rfl ?_
  refine x_iconst (pc2 := 17) dX8_isSewer_16 rfl ?_
  refine x_isub (pc2 := 18) dX8_isSewer_17 rfl ?_
  obtain ⟨h1, k⟩ := k
  refine x_i2l (pc2 := 19) dX8_isSewer_18 rfl h1 ?_
  exact k
set_option maxRecDepth 4000 in
theorem g_X8_isSewer_22 {sc : List Int} {d : Nat} {m : Mem} {Q : Option AV → Mem → Prop} {l1 s0 : Int} (k : (-2147483648 ≤ s0 ∧ s0 < 2147483648) ∧ ((s0 = 0) → (Q (some (aI 0)) m)) ∧ (¬ (s0 = 0) → ((-2147483648 ≤ l1 ∧ l1 < 2147483648) ∧ ((l1 ≠ 3) → (Q (some (aI 1)) m)) ∧ (¬ (l1 ≠ 3) → (S_X8_isSewer sc d 31 [aR 62, aU] [aR 62] m Q))))) : S_X8_isSewer sc d 22 [aR 62, aI l1] [aI s0] m Q := by
  obtain ⟨h1, k⟩ := k
  obtain ⟨k1, k2⟩ := k
  refine x_if_eq (tgt := 41) (pc2 := 25) dX8_isSewer_22 (by decide) rfl h1 (fun c2 => ?_) (fun c2 => ?_)
  · replace k := k1 c2
    refine x_iconst (pc2 := 42) dX8_isSewer_41 rfl ?_
    exact x_ireturn dX8_isSewer_42 ⟨.boolean, rfl, rfl⟩ k
  · replace k := k2 c2
    refine x_iload_n (pc2 := 26) dX8_isSewer_25 rfl rfl ?_
    refine x_iconst (pc2 := 27) dX8_isSewer_26 rfl ?_
    obtain ⟨h3, k⟩ := k
    obtain ⟨k1, k2⟩ := k
    refine x_icmp_ne (tgt := 37) (pc2 := 30) dX8_isSewer_27 (by decide) rfl h3 (by decide) (fun c4 => ?_) (fun c4 => ?_)
    · replace k := k1 c4
      refine x_iconst (pc2 := 38) dX8_isSewer_37 rfl ?_
      refine x_goto (tgt := 42) dX8_isSewer_38 (by decide) ?_
      exact x_ireturn dX8_isSewer_42 ⟨.boolean, rfl, rfl⟩ k
    · replace k := k2 c4
      refine x_aload_n (pc2 := 31) dX8_isSewer_30 rfl rfl ?_
      exact x_drop (drp_k (drp_u drp_n)) k
set_option maxRecDepth 4000 in
theorem g_X8_isSewer_34 {sc : List Int} {d : Nat} {m : Mem} {Q : Option AV → Mem → Prop} {s0 : Int} (k : ((-2147483648 ≤ s0 ∧ s0 < 2147483648)) ∧ Q (some (aI (if s0 = 0 then 0 else 1 : Int))) m) : S_X8_isSewer sc d 34 [aR 62, aU] [aI s0] m Q := by
  obtain ⟨g2, k⟩ := k
  have kj : S_X8_isSewer sc d 42 [aR 62, aU] [aI (if s0 = 0 then 0 else 1 : Int)] m Q := by
    exact x_ireturn dX8_isSewer_42 (ret_z (by repeat (first | exact Or.inl rfl | exact Or.inr rfl | split))) k
  have h3 := g2 
  refine x_if_eq (tgt := 41) (pc2 := 37) dX8_isSewer_34 (by decide) rfl h3 (fun c4 => ?_) (fun c4 => ?_)
  · skip
    refine x_iconst (pc2 := 42) dX8_isSewer_41 rfl ?_
    exact x_topI (v := (if s0 = 0 then 0 else 1 : Int)) (if_pos c4) kj
  · skip
    refine x_iconst (pc2 := 38) dX8_isSewer_37 rfl ?_
    refine x_goto (tgt := 42) dX8_isSewer_38 (by decide) ?_
    exact x_topI (v := (if s0 = 0 then 0 else 1 : Int)) (if_neg c4) kj
theorem c_X8_isSewer_12 {sc : List Int} {d d2 : Nat} {m m2 : Mem} {Q : Option AV → Mem → Prop} {l1 s0 s1 s2 : Int} {v : Int} (hM : C_X8_ruleMany sc d2 [aR 62] m (some (aI v)) m2) (hd : d2 + 1 ≤ d) (k : S_X8_isSewer sc d 15 [aR 62, aI l1] [aI v, aI s2, aJ s1, aJ s0] m2 Q) : S_X8_isSewer sc d 12 [aR 62, aI l1] [aR 62, aI s2, aJ s1, aJ s0] m Q := x_callV (as := []) (rest := [aI s2, aJ s1, aJ s0]) hM mk_X8_ruleMany mv_X8_ruleMany lk_X8_499 (Or.inl ⟨8, (RX8, TX8, 123), ic_62, Nat.le_of_ble_eq_true rfl, rfl, rfl⟩) hd rfl rfl (Nat.le_of_ble_eq_true rfl) dX8_isSewer_12 rfl k
theorem c_X8_isSewer_19 {sc : List Int} {d d2 : Nat} {m m2 : Mem} {Q : Option AV → Mem → Prop} {l1 s0 s1 s2 : Int} {v : Int} (hM : C_X8_isIn sc d2 [aJ s0, aJ s1, aJ s2] m (some (aI v)) m2) (hd : d2 + 1 ≤ d) (k : S_X8_isSewer sc d 22 [aR 62, aI l1] [aI v] m2 Q) : S_X8_isSewer sc d 19 [aR 62, aI l1] [aJ s2, aJ s1, aJ s0] m Q := x_callS (as := [aJ s0, aJ s1, aJ s2]) (rest := []) hM mk_X8_isIn ms_X8_isIn lk_X8_333 hd rfl rfl (Nat.le_of_ble_eq_true rfl) dX8_isSewer_19 rfl k
theorem c_X8_isSewer_31 {sc : List Int} {d d2 : Nat} {m m2 : Mem} {Q : Option AV → Mem → Prop} {v : Int} (hM : C_X8_areFew sc d2 [aR 62] m (some (aI v)) m2) (hd : d2 + 1 ≤ d) (k : S_X8_isSewer sc d 34 [aR 62, aU] [aI v] m2 Q) : S_X8_isSewer sc d 31 [aR 62, aU] [aR 62] m Q := x_callV (as := []) (rest := []) hM mk_X8_areFew mv_X8_areFew lk_X8_502 (Or.inl ⟨8, (RX8, TX8, 123), ic_62, Nat.le_of_ble_eq_true rfl, rfl, rfl⟩) hd rfl rfl (Nat.le_of_ble_eq_true rfl) dX8_isSewer_31 rfl k
set_option maxRecDepth 4000 in
theorem g_X8_mean_0 {sc : List Int} {d : Nat} {m : Mem} {Q : Option AV → Mem → Prop} {l1 : Int} (k : S_X8_mean sc d 1 [aR 62, aI l1] [aR 62] m Q) : S_X8_mean sc d 0 [aR 62, aI l1] [] m Q := by
  refine x_aload_n (pc2 := 1) dX8_mean_0 rfl rfl ?_
  exact k
set_option maxRecDepth 4000 in
theorem g_X8_mean_4 {sc : List Int} {d : Nat} {m : Mem} {Q : Option AV → Mem → Prop} {l1 s0 : Int} (k : (-2147483648 ≤ s0 ∧ s0 < 2147483648) ∧ ((s0 = 0) → (Q (some (aI (-1))) m)) ∧ (¬ (s0 = 0) → (S_X8_mean sc d 9 [aR 62, aI l1] [aI l1, aR 62] m Q))) : S_X8_mean sc d 4 [aR 62, aI l1] [aI s0] m Q := by
  obtain ⟨h1, k⟩ := k
  obtain ⟨k1, k2⟩ := k
  refine x_if_eq (tgt := 15) (pc2 := 7) dX8_mean_4 (by decide) rfl h1 (fun c2 => ?_) (fun c2 => ?_)
  · replace k := k1 c2
    refine x_iconst (pc2 := 16) dX8_mean_15 rfl ?_
    exact x_ireturn dX8_mean_16 ⟨.int, rfl, rfl⟩ k
  · replace k := k2 c2
    refine x_aload_n (pc2 := 8) dX8_mean_7 rfl rfl ?_
    refine x_iload_n (pc2 := 9) dX8_mean_8 rfl rfl ?_
    exact k
set_option maxRecDepth 4000 in
theorem g_X8_mean_12 {sc : List Int} {d : Nat} {m : Mem} {Q : Option AV → Mem → Prop} {l1 s0 : Int} (k : (-2147483648 ≤ s0 ∧ s0 < 2147483648) ∧ ((s0 ≠ 0) → (S_X8_mean sc d 19 [aR 62, aU] [aI l1, aR 62] m Q)) ∧ (¬ (s0 ≠ 0) → (Q (some (aI (-1))) m))) : S_X8_mean sc d 12 [aR 62, aI l1] [aI s0] m Q := by
  obtain ⟨h1, k⟩ := k
  obtain ⟨k1, k2⟩ := k
  refine x_if_ne (tgt := 17) (pc2 := 15) dX8_mean_12 (by decide) rfl h1 (fun c2 => ?_) (fun c2 => ?_)
  · replace k := k1 c2
    refine x_aload_n (pc2 := 18) dX8_mean_17 rfl rfl ?_
    refine x_iload_n (pc2 := 19) dX8_mean_18 rfl rfl ?_
    exact x_drop (drp_k (drp_u drp_n)) k
  · replace k := k2 c2
    refine x_iconst (pc2 := 16) dX8_mean_15 rfl ?_
    exact x_ireturn dX8_mean_16 ⟨.int, rfl, rfl⟩ k
set_option maxRecDepth 4000 in
theorem g_X8_mean_22 {sc : List Int} {d : Nat} {m : Mem} {Q : Option AV → Mem → Prop} (k : (-9223372036854775808 ≤ (1000 * (m 105 0)) ∧ (1000 * (m 105 0)) < 9223372036854775808) ∧ (-9223372036854775808 ≤ (m 104 0) ∧ (m 104 0) < 9223372036854775808) ∧ ((m 104 0) ≠ 0) ∧ Q (some (aI ((1000 * (m 105 0)).tdiv (m 104 0)))) m) : S_X8_mean sc d 22 [aR 62, aU] [] m Q := by
  refine x_ldc2 (pc2 := 25) (x := 1000) kc_X8_511 rfl dX8_mean_22 rfl ?_
  refine x_aload_n (pc2 := 26) dX8_mean_25 rfl rfl ?_
  refine x_getf (pc2 := 29) (v := aR 105) fl_X8_142 ic_62 (vr_62_59 _) dX8_mean_26 rfl ?_
  refine x_iconst (pc2 := 30) dX8_mean_29 rfl ?_
  refine x_lald (pc2 := 31) ic_105 (by decide) (by rw [al_105]; decide) dX8_mean_30 rfl ?_
  refine x_lmul (pc2 := 32) dX8_mean_31 rfl ?_
  refine x_aload_n (pc2 := 33) dX8_mean_32 rfl rfl ?_
  refine x_getf (pc2 := 36) (v := aR 104) fl_X8_139 ic_62 (vr_62_58 _) dX8_mean_33 rfl ?_
  refine x_iconst (pc2 := 37) dX8_mean_36 rfl ?_
  refine x_lald (pc2 := 38) ic_104 (by decide) (by rw [al_104]; decide) dX8_mean_37 rfl ?_
  obtain ⟨h1, k⟩ := k
  obtain ⟨h2, k⟩ := k
  obtain ⟨h3, k⟩ := k
  refine x_ldiv (pc2 := 39) dX8_mean_38 rfl h1 h2 h3 ?_
  refine x_l2i (pc2 := 40) dX8_mean_39 rfl ?_
  exact x_ireturn dX8_mean_40 ⟨.int, rfl, rfl⟩ k
theorem c_X8_mean_1 {sc : List Int} {d d2 : Nat} {m m2 : Mem} {Q : Option AV → Mem → Prop} {l1 : Int} {v : Int} (hM : C_X8_areFew sc d2 [aR 62] m (some (aI v)) m2) (hd : d2 + 1 ≤ d) (k : S_X8_mean sc d 4 [aR 62, aI l1] [aI v] m2 Q) : S_X8_mean sc d 1 [aR 62, aI l1] [aR 62] m Q := x_callV (as := []) (rest := []) hM mk_X8_areFew mv_X8_areFew lk_X8_502 (Or.inl ⟨8, (RX8, TX8, 123), ic_62, Nat.le_of_ble_eq_true rfl, rfl, rfl⟩) hd rfl rfl (Nat.le_of_ble_eq_true rfl) dX8_mean_1 rfl k
theorem c_X8_mean_9 {sc : List Int} {d d2 : Nat} {m m2 : Mem} {Q : Option AV → Mem → Prop} {l1 s1 : Int} {v : Int} (hM : C_X8_isSewer sc d2 [aR 62, aI s1] m (some (aI v)) m2) (hd : d2 + 1 ≤ d) (k : S_X8_mean sc d 12 [aR 62, aI l1] [aI v] m2 Q) : S_X8_mean sc d 9 [aR 62, aI l1] [aI s1, aR 62] m Q := x_callV (as := [aI s1]) (rest := []) hM mk_X8_isSewer mv_X8_isSewer lk_X8_505 (Or.inl ⟨8, (RX8, TX8, 123), ic_62, Nat.le_of_ble_eq_true rfl, rfl, rfl⟩) hd rfl rfl (Nat.le_of_ble_eq_true rfl) dX8_mean_9 rfl k
theorem c_X8_mean_19 {sc : List Int} {d d2 : Nat} {m m2 : Mem} {Q : Option AV → Mem → Prop} {s1 : Int} (hM : C_X8_means sc d2 [aR 62, aI s1] m none m2) (hd : d2 + 1 ≤ d) (k : S_X8_mean sc d 22 [aR 62, aU] [] m2 Q) : S_X8_mean sc d 19 [aR 62, aU] [aI s1, aR 62] m Q := x_callV (as := [aI s1]) (rest := []) hM mk_X8_means mv_X8_means lk_X8_508 (Or.inl ⟨8, (RX8, TX8, 123), ic_62, Nat.le_of_ble_eq_true rfl, rfl, rfl⟩) hd rfl rfl (Nat.le_of_ble_eq_true rfl) dX8_mean_19 rfl k
set_option maxRecDepth 4000 in
theorem g_X8_isChance_0 {sc : List Int} {d : Nat} {m : Mem} {Q : Option AV → Mem → Prop} {l1 l2 : Int} (k : (-2147483648 ≤ l2 ∧ l2 < 2147483648) ∧ ((l2 ≠ 0) → (S_X8_isChance sc d 8 [aR 62, aI l1, aI l2] [aI l2, aR 62] m Q)) ∧ (¬ (l2 ≠ 0) → (Q (some (aI 0)) m))) : S_X8_isChance sc d 0 [aR 62, aI l1, aI l2] [] m Q := by
  refine x_iload_n (pc2 := 1) dX8_isChance_0 rfl rfl ?_
  obtain ⟨h1, k⟩ := k
  obtain ⟨k1, k2⟩ := k
  refine x_if_ne (tgt := 6) (pc2 := 4) dX8_isChance_1 (by decide) rfl h1 (fun c2 => ?_) (fun c2 => ?_)
  · replace k := k1 c2
    refine x_aload_n (pc2 := 7) dX8_isChance_6 rfl rfl ?_
    refine x_iload_n (pc2 := 8) dX8_isChance_7 rfl rfl ?_
    exact k
  · replace k := k2 c2
    refine x_iconst (pc2 := 5) dX8_isChance_4 rfl ?_
    exact x_ireturn dX8_isChance_5 ⟨.boolean, rfl, rfl⟩ k
set_option maxRecDepth 4000 in
theorem g_X8_isChance_11 {sc : List Int} {d : Nat} {m : Mem} {Q : Option AV → Mem → Prop} {l1 l2 s0 : Int} (k : (-2147483648 ≤ s0 ∧ s0 < 2147483648) ∧ ((s0 ≤ 0) → (S_X8_isChance sc d 44 [aR 62, aI l1, aU] [aI l1, aR 62] m Q)) ∧ (¬ (s0 ≤ 0) → (S_X8_isChance sc d 16 [aR 62, aI l1, aI l2] [aI l2, aR 62] m Q))) : S_X8_isChance sc d 11 [aR 62, aI l1, aI l2] [aI s0] m Q := by
  obtain ⟨h1, k⟩ := k
  obtain ⟨k1, k2⟩ := k
  refine x_if_le (tgt := 42) (pc2 := 14) dX8_isChance_11 (by decide) rfl h1 (fun c2 => ?_) (fun c2 => ?_)
  · replace k := k1 c2
    refine x_aload_n (pc2 := 43) dX8_isChance_42 rfl rfl ?_
    refine x_iload_n (pc2 := 44) dX8_isChance_43 rfl rfl ?_
    exact x_drop (drp_k (drp_k (drp_u drp_n))) k
  · replace k := k2 c2
    refine x_aload_n (pc2 := 15) dX8_isChance_14 rfl rfl ?_
    refine x_iload_n (pc2 := 16) dX8_isChance_15 rfl rfl ?_
    exact k
set_option maxRecDepth 4000 in
theorem g_X8_isChance_19 {sc : List Int} {d : Nat} {m : Mem} {Q : Option AV → Mem → Prop} {l1 l2 s0 : Int} (k : (-2147483648 ≤ s0 ∧ s0 < 2147483648) ∧ S_X8_isChance sc d 22 [aR 62, aI l1, aI l2] [aI l1, aR 62, aJ s0] m Q) : S_X8_isChance sc d 19 [aR 62, aI l1, aI l2] [aI s0] m Q := by
  obtain ⟨h1, k⟩ := k
  refine x_i2l (pc2 := 20) dX8_isChance_19 rfl h1 ?_
  refine x_aload_n (pc2 := 21) dX8_isChance_20 rfl rfl ?_
  refine x_iload_n (pc2 := 22) dX8_isChance_21 rfl rfl ?_
  exact k
set_option maxRecDepth 4000 in
theorem g_X8_isChance_25 {sc : List Int} {d : Nat} {m : Mem} {Q : Option AV → Mem → Prop} {l1 l2 s0 s1 : Int} (k : S_X8_isChance sc d 29 [aR 62, aU, aU] [aI l2, aI l1, aR 62, aJ (s0 * s1)] m Q) : S_X8_isChance sc d 25 [aR 62, aI l1, aI l2] [aJ s1, aJ s0] m Q := by
  refine x_lmul (pc2 := 26) dX8_isChance_25 rfl ?_
  refine x_aload_n (pc2 := 27) dX8_isChance_26 rfl rfl ?_
  refine x_iload_n (pc2 := 28) dX8_isChance_27 rfl rfl ?_
  refine x_iload_n (pc2 := 29) dX8_isChance_28 rfl rfl ?_
  exact x_drop (drp_k (drp_u (drp_u drp_n))) k
set_option maxRecDepth 4000 in
theorem g_X8_isChance_32 {sc : List Int} {d : Nat} {m : Mem} {Q : Option AV → Mem → Prop} {s0 s1 : Int} (k : ((-9223372036854775808 ≤ s0 ∧ s0 < 9223372036854775808)) ∧ ((-9223372036854775808 ≤ s1 ∧ s1 < 9223372036854775808)) ∧ Q (some (aI (if s1 ≤ s0 then 0 else 1 : Int))) m) : S_X8_isChance sc d 32 [aR 62, aU, aU] [aJ s1, aJ s0] m Q := by
  obtain ⟨g3, k⟩ := k
  obtain ⟨g4, k⟩ := k
  have kj : S_X8_isChance sc d 41 [aR 62, aU, aU] [aI (if s1 ≤ s0 then 0 else 1 : Int)] m Q := by
    exact x_ireturn dX8_isChance_41 (ret_z (by repeat (first | exact Or.inl rfl | exact Or.inr rfl | split))) k
  have h5 := g3 
  have h6 := g4 
  refine x_lc_ge (tgt := 40) (pc2 := 36) dX8_isChance_32 dX8_isChance_33 (by decide) rfl h5 h6 (fun c7 => ?_) (fun c7 => ?_)
  · skip
    refine x_iconst (pc2 := 41) dX8_isChance_40 rfl ?_
    exact x_topI (v := (if s1 ≤ s0 then 0 else 1 : Int)) (if_pos c7) kj
  · skip
    refine x_iconst (pc2 := 37) dX8_isChance_36 rfl ?_
    refine x_goto (tgt := 41) dX8_isChance_37 (by decide) ?_
    exact x_topI (v := (if s1 ≤ s0 then 0 else 1 : Int)) (if_neg c7) kj
set_option maxRecDepth 4000 in
theorem g_X8_isChance_47 {sc : List Int} {d : Nat} {m : Mem} {Q : Option AV → Mem → Prop} {l1 s0 : Int} (k : S_X8_isChance sc d 52 [aR 62, aU, aU] [aI l1, aR 62, aJ 100, aJ s0] m Q) : S_X8_isChance sc d 47 [aR 62, aI l1, aU] [aJ s0] m Q := by
  refine x_ldc2 (pc2 := 50) (x := 100) kc_X8_464 rfl dX8_isChance_47 rfl ?_
  refine x_aload_n (pc2 := 51) dX8_isChance_50 rfl rfl ?_
  refine x_iload_n (pc2 := 52) dX8_isChance_51 rfl rfl ?_
  exact x_drop (drp_k (drp_u (drp_k drp_n))) k
set_option maxRecDepth 4000 in
theorem g_X8_isChance_55 {sc : List Int} {d : Nat} {m : Mem} {Q : Option AV → Mem → Prop} {s0 s1 s2 : Int} (k : ((-9223372036854775808 ≤ s0 ∧ s0 < 9223372036854775808)) ∧ ((-9223372036854775808 ≤ (s1 * s2) ∧ (s1 * s2) < 9223372036854775808)) ∧ Q (some (aI (if (s1 * s2) ≤ s0 then 0 else 1 : Int))) m) : S_X8_isChance sc d 55 [aR 62, aU, aU] [aJ s2, aJ s1, aJ s0] m Q := by
  refine x_lmul (pc2 := 56) dX8_isChance_55 rfl ?_
  obtain ⟨g3, k⟩ := k
  obtain ⟨g4, k⟩ := k
  have kj : S_X8_isChance sc d 65 [aR 62, aU, aU] [aI (if (s1 * s2) ≤ s0 then 0 else 1 : Int)] m Q := by
    exact x_ireturn dX8_isChance_65 (ret_z (by repeat (first | exact Or.inl rfl | exact Or.inr rfl | split))) k
  have h5 := g3 
  have h6 := g4 
  refine x_lc_ge (tgt := 64) (pc2 := 60) dX8_isChance_56 dX8_isChance_57 (by decide) rfl h5 h6 (fun c7 => ?_) (fun c7 => ?_)
  · skip
    refine x_iconst (pc2 := 65) dX8_isChance_64 rfl ?_
    exact x_topI (v := (if (s1 * s2) ≤ s0 then 0 else 1 : Int)) (if_pos c7) kj
  · skip
    refine x_iconst (pc2 := 61) dX8_isChance_60 rfl ?_
    refine x_goto (tgt := 65) dX8_isChance_61 (by decide) ?_
    exact x_topI (v := (if (s1 * s2) ≤ s0 then 0 else 1 : Int)) (if_neg c7) kj
theorem c_X8_isChance_8 {sc : List Int} {d d2 : Nat} {m m2 : Mem} {Q : Option AV → Mem → Prop} {l1 l2 s1 : Int} {v : Int} (hM : C_X8_oddsFrom sc d2 [aR 62, aI s1] m (some (aI v)) m2) (hd : d2 + 1 ≤ d) (k : S_X8_isChance sc d 11 [aR 62, aI l1, aI l2] [aI v] m2 Q) : S_X8_isChance sc d 8 [aR 62, aI l1, aI l2] [aI s1, aR 62] m Q := x_callV (as := [aI s1]) (rest := []) hM mk_X8_oddsFrom mv_X8_oddsFrom lk_X8_469 (Or.inl ⟨8, (RX8, TX8, 123), ic_62, Nat.le_of_ble_eq_true rfl, rfl, rfl⟩) hd rfl rfl (Nat.le_of_ble_eq_true rfl) dX8_isChance_8 rfl k
theorem c_X8_isChance_16 {sc : List Int} {d d2 : Nat} {m m2 : Mem} {Q : Option AV → Mem → Prop} {l1 l2 s1 : Int} {v : Int} (hM : C_X8_oddsFrom sc d2 [aR 62, aI s1] m (some (aI v)) m2) (hd : d2 + 1 ≤ d) (k : S_X8_isChance sc d 19 [aR 62, aI l1, aI l2] [aI v] m2 Q) : S_X8_isChance sc d 16 [aR 62, aI l1, aI l2] [aI s1, aR 62] m Q := x_callV (as := [aI s1]) (rest := []) hM mk_X8_oddsFrom mv_X8_oddsFrom lk_X8_469 (Or.inl ⟨8, (RX8, TX8, 123), ic_62, Nat.le_of_ble_eq_true rfl, rfl, rfl⟩) hd rfl rfl (Nat.le_of_ble_eq_true rfl) dX8_isChance_16 rfl k
theorem c_X8_isChance_22 {sc : List Int} {d d2 : Nat} {m m2 : Mem} {Q : Option AV → Mem → Prop} {l1 l2 s0 s2 : Int} {v : Int} (hM : C_X8_changed sc d2 [aR 62, aI s2] m (some (aJ v)) m2) (hd : d2 + 1 ≤ d) (k : S_X8_isChance sc d 25 [aR 62, aI l1, aI l2] [aJ v, aJ s0] m2 Q) : S_X8_isChance sc d 22 [aR 62, aI l1, aI l2] [aI s2, aR 62, aJ s0] m Q := x_callV (as := [aI s2]) (rest := [aJ s0]) hM mk_X8_changed mv_X8_changed lk_X8_476 (Or.inl ⟨8, (RX8, TX8, 123), ic_62, Nat.le_of_ble_eq_true rfl, rfl, rfl⟩) hd rfl rfl (Nat.le_of_ble_eq_true rfl) dX8_isChance_22 rfl k
theorem c_X8_isChance_29 {sc : List Int} {d d2 : Nat} {m m2 : Mem} {Q : Option AV → Mem → Prop} {s0 s2 s3 : Int} {v : Int} (hM : C_X8_unchanged sc d2 [aR 62, aI s2, aI s3] m (some (aJ v)) m2) (hd : d2 + 1 ≤ d) (k : S_X8_isChance sc d 32 [aR 62, aU, aU] [aJ v, aJ s0] m2 Q) : S_X8_isChance sc d 29 [aR 62, aU, aU] [aI s3, aI s2, aR 62, aJ s0] m Q := x_callV (as := [aI s2, aI s3]) (rest := [aJ s0]) hM mk_X8_unchanged mv_X8_unchanged lk_X8_479 (Or.inl ⟨8, (RX8, TX8, 123), ic_62, Nat.le_of_ble_eq_true rfl, rfl, rfl⟩) hd rfl rfl (Nat.le_of_ble_eq_true rfl) dX8_isChance_29 rfl k
theorem c_X8_isChance_44 {sc : List Int} {d d2 : Nat} {m m2 : Mem} {Q : Option AV → Mem → Prop} {l1 s1 : Int} {v : Int} (hM : C_X8_changed sc d2 [aR 62, aI s1] m (some (aJ v)) m2) (hd : d2 + 1 ≤ d) (k : S_X8_isChance sc d 47 [aR 62, aI l1, aU] [aJ v] m2 Q) : S_X8_isChance sc d 44 [aR 62, aI l1, aU] [aI s1, aR 62] m Q := x_callV (as := [aI s1]) (rest := []) hM mk_X8_changed mv_X8_changed lk_X8_476 (Or.inl ⟨8, (RX8, TX8, 123), ic_62, Nat.le_of_ble_eq_true rfl, rfl, rfl⟩) hd rfl rfl (Nat.le_of_ble_eq_true rfl) dX8_isChance_44 rfl k
theorem c_X8_isChance_52 {sc : List Int} {d d2 : Nat} {m m2 : Mem} {Q : Option AV → Mem → Prop} {s0 s1 s3 : Int} {v : Int} (hM : C_X8_behindMended sc d2 [aR 62, aI s3] m (some (aJ v)) m2) (hd : d2 + 1 ≤ d) (k : S_X8_isChance sc d 55 [aR 62, aU, aU] [aJ v, aJ s1, aJ s0] m2 Q) : S_X8_isChance sc d 52 [aR 62, aU, aU] [aI s3, aR 62, aJ s1, aJ s0] m Q := x_callV (as := [aI s3]) (rest := [aJ s1, aJ s0]) hM mk_X8_behindMended mv_X8_behindMended lk_X8_472 (Or.inl ⟨8, (RX8, TX8, 123), ic_62, Nat.le_of_ble_eq_true rfl, rfl, rfl⟩) hd rfl rfl (Nat.le_of_ble_eq_true rfl) dX8_isChance_52 rfl k
set_option maxRecDepth 4000 in
theorem g_X8_when_0 {sc : List Int} {d : Nat} {m : Mem} {Q : Option AV → Mem → Prop} {l1 l2 : Int} (k : S_X8_when sc d 1 [aR 62, aI l1, aI l2] [aR 62] m Q) : S_X8_when sc d 0 [aR 62, aI l1, aI l2] [] m Q := by
  refine x_aload_n (pc2 := 1) dX8_when_0 rfl rfl ?_
  exact k
set_option maxRecDepth 4000 in
theorem g_X8_when_4 {sc : List Int} {d : Nat} {m : Mem} {Q : Option AV → Mem → Prop} {l1 l2 s0 : Int} (k : (-2147483648 ≤ s0 ∧ s0 < 2147483648) ∧ ((s0 = 0) → (Q (some (aI (-1))) m)) ∧ (¬ (s0 = 0) → ((-2147483648 ≤ l1 ∧ l1 < 2147483648) ∧ S_X8_when sc d 11 [aR 62, aI l1, aI l2] [aR 62, aJ 0, aJ l1] m Q))) : S_X8_when sc d 4 [aR 62, aI l1, aI l2] [aI s0] m Q := by
  obtain ⟨h1, k⟩ := k
  obtain ⟨k1, k2⟩ := k
  refine x_if_eq (tgt := 35) (pc2 := 7) dX8_when_4 (by decide) rfl h1 (fun c2 => ?_) (fun c2 => ?_)
  · replace k := k1 c2
    refine x_iconst (pc2 := 36) dX8_when_35 rfl ?_
    exact x_ireturn dX8_when_36 ⟨.int, rfl, rfl⟩ k
  · replace k := k2 c2
    refine x_iload_n (pc2 := 8) dX8_when_7 rfl rfl ?_
    obtain ⟨h3, k⟩ := k
    refine x_i2l (pc2 := 9) dX8_when_8 rfl h3 ?_
    refine x_lconst (pc2 := 10) (v := 0) dX8_when_9 rfl rfl ?_
    refine x_aload_n (pc2 := 11) dX8_when_10 rfl rfl ?_
    exact k
set_option maxRecDepth 4000 in
theorem g_X8_when_14 {sc : List Int} {d : Nat} {m : Mem} {Q : Option AV → Mem → Prop} {l1 l2 s0 s1 s2 : Int} (k : (-2147483648 ≤ (s2 - 1) ∧ (s2 - 1) < 2147483648) ∧ S_X8_when sc d 17 [aR 62, aI l1, aI l2] [aJ (s2 - 1), aJ s1, aJ s0] m Q) : S_X8_when sc d 14 [aR 62, aI l1, aI l2] [aI s2, aJ s1, aJ s0] m Q := by
  refine x_iconst (pc2 := 15) dX8_when_14 rfl ?_
  refine x_isub (pc2 := 16) dX8_when_15 rfl ?_
  obtain ⟨h1, k⟩ := k
  refine x_i2l (pc2 := 17) dX8_when_16 rfl h1 ?_
  exact k
set_option maxRecDepth 4000 in
theorem g_X8_when_20 {sc : List Int} {d : Nat} {m : Mem} {Q : Option AV → Mem → Prop} {l1 l2 s0 : Int} (k : (-2147483648 ≤ s0 ∧ s0 < 2147483648) ∧ ((s0 = 0) → (Q (some (aI (-1))) m)) ∧ (¬ (s0 = 0) → ((-2147483648 ≤ l2 ∧ l2 < 2147483648) ∧ S_X8_when sc d 29 [aR 62, aI l1, aI l2] [aJ 99, aJ 0, aJ l2] m Q))) : S_X8_when sc d 20 [aR 62, aI l1, aI l2] [aI s0] m Q := by
  obtain ⟨h1, k⟩ := k
  obtain ⟨k1, k2⟩ := k
  refine x_if_eq (tgt := 35) (pc2 := 23) dX8_when_20 (by decide) rfl h1 (fun c2 => ?_) (fun c2 => ?_)
  · replace k := k1 c2
    refine x_iconst (pc2 := 36) dX8_when_35 rfl ?_
    exact x_ireturn dX8_when_36 ⟨.int, rfl, rfl⟩ k
  · replace k := k2 c2
    refine x_iload_n (pc2 := 24) dX8_when_23 rfl rfl ?_
    obtain ⟨h3, k⟩ := k
    refine x_i2l (pc2 := 25) dX8_when_24 rfl h3 ?_
    refine x_lconst (pc2 := 26) (v := 0) dX8_when_25 rfl rfl ?_
    refine x_ldc2 (pc2 := 29) (x := 99) kc_X8_513 rfl dX8_when_26 rfl ?_
    exact k
set_option maxRecDepth 4000 in
theorem g_X8_when_32 {sc : List Int} {d : Nat} {m : Mem} {Q : Option AV → Mem → Prop} {l1 l2 s0 : Int} (k : (-2147483648 ≤ s0 ∧ s0 < 2147483648) ∧ ((s0 ≠ 0) → (S_X8_when sc d 39 [aR 62, aI l1, aI l2] [aI 3, aR 62] m Q)) ∧ (¬ (s0 ≠ 0) → (Q (some (aI (-1))) m))) : S_X8_when sc d 32 [aR 62, aI l1, aI l2] [aI s0] m Q := by
  obtain ⟨h1, k⟩ := k
  obtain ⟨k1, k2⟩ := k
  refine x_if_ne (tgt := 37) (pc2 := 35) dX8_when_32 (by decide) rfl h1 (fun c2 => ?_) (fun c2 => ?_)
  · replace k := k1 c2
    refine x_aload_n (pc2 := 38) dX8_when_37 rfl rfl ?_
    refine x_iconst (pc2 := 39) dX8_when_38 rfl ?_
    exact k
  · replace k := k2 c2
    refine x_iconst (pc2 := 36) dX8_when_35 rfl ?_
    exact x_ireturn dX8_when_36 ⟨.int, rfl, rfl⟩ k
set_option maxRecDepth 4000 in
theorem g_X8_when_42 {sc : List Int} {d : Nat} {m : Mem} {Q : Option AV → Mem → Prop} {l1 l2 : Int} (k : S_X8_when sc d 45 [aR 62, aU, aU] [aI l2, aI l1, aR 62] m Q) : S_X8_when sc d 42 [aR 62, aI l1, aI l2] [] m Q := by
  refine x_aload_n (pc2 := 43) dX8_when_42 rfl rfl ?_
  refine x_iload_n (pc2 := 44) dX8_when_43 rfl rfl ?_
  refine x_iload_n (pc2 := 45) dX8_when_44 rfl rfl ?_
  exact x_drop (drp_k (drp_u (drp_u drp_n))) k
set_option maxRecDepth 4000 in
theorem g_X8_when_48 {sc : List Int} {d : Nat} {m : Mem} {Q : Option AV → Mem → Prop} {s0 : Int} (k : ((-2147483648 ≤ s0 ∧ s0 < 2147483648)) ∧ Q (some (aI (if s0 = 0 then 0 else 1 : Int))) m) : S_X8_when sc d 48 [aR 62, aU, aU] [aI s0] m Q := by
  obtain ⟨g2, k⟩ := k
  have kj : S_X8_when sc d 56 [aR 62, aU, aU] [aI (if s0 = 0 then 0 else 1 : Int)] m Q := by
    exact x_ireturn dX8_when_56 ⟨.int, rfl, rfl⟩ k
  have h3 := g2 
  refine x_if_eq (tgt := 55) (pc2 := 51) dX8_when_48 (by decide) rfl h3 (fun c4 => ?_) (fun c4 => ?_)
  · skip
    refine x_iconst (pc2 := 56) dX8_when_55 rfl ?_
    exact x_topI (v := (if s0 = 0 then 0 else 1 : Int)) (if_pos c4) kj
  · skip
    refine x_iconst (pc2 := 52) dX8_when_51 rfl ?_
    refine x_goto (tgt := 56) dX8_when_52 (by decide) ?_
    exact x_topI (v := (if s0 = 0 then 0 else 1 : Int)) (if_neg c4) kj
theorem c_X8_when_1 {sc : List Int} {d d2 : Nat} {m m2 : Mem} {Q : Option AV → Mem → Prop} {l1 l2 : Int} {v : Int} (hM : C_X8_areFew sc d2 [aR 62] m (some (aI v)) m2) (hd : d2 + 1 ≤ d) (k : S_X8_when sc d 4 [aR 62, aI l1, aI l2] [aI v] m2 Q) : S_X8_when sc d 1 [aR 62, aI l1, aI l2] [aR 62] m Q := x_callV (as := []) (rest := []) hM mk_X8_areFew mv_X8_areFew lk_X8_502 (Or.inl ⟨8, (RX8, TX8, 123), ic_62, Nat.le_of_ble_eq_true rfl, rfl, rfl⟩) hd rfl rfl (Nat.le_of_ble_eq_true rfl) dX8_when_1 rfl k
theorem c_X8_when_11 {sc : List Int} {d d2 : Nat} {m m2 : Mem} {Q : Option AV → Mem → Prop} {l1 l2 s0 s1 : Int} {v : Int} (hM : C_X8_seamMany sc d2 [aR 62] m (some (aI v)) m2) (hd : d2 + 1 ≤ d) (k : S_X8_when sc d 14 [aR 62, aI l1, aI l2] [aI v, aJ s1, aJ s0] m2 Q) : S_X8_when sc d 11 [aR 62, aI l1, aI l2] [aR 62, aJ s1, aJ s0] m Q := x_callV (as := []) (rest := [aJ s1, aJ s0]) hM mk_X8_seamMany mv_X8_seamMany lk_X8_431 (Or.inl ⟨8, (RX8, TX8, 123), ic_62, Nat.le_of_ble_eq_true rfl, rfl, rfl⟩) hd rfl rfl (Nat.le_of_ble_eq_true rfl) dX8_when_11 rfl k
theorem c_X8_when_17 {sc : List Int} {d d2 : Nat} {m m2 : Mem} {Q : Option AV → Mem → Prop} {l1 l2 s0 s1 s2 : Int} {v : Int} (hM : C_X8_isIn sc d2 [aJ s0, aJ s1, aJ s2] m (some (aI v)) m2) (hd : d2 + 1 ≤ d) (k : S_X8_when sc d 20 [aR 62, aI l1, aI l2] [aI v] m2 Q) : S_X8_when sc d 17 [aR 62, aI l1, aI l2] [aJ s2, aJ s1, aJ s0] m Q := x_callS (as := [aJ s0, aJ s1, aJ s2]) (rest := []) hM mk_X8_isIn ms_X8_isIn lk_X8_333 hd rfl rfl (Nat.le_of_ble_eq_true rfl) dX8_when_17 rfl k
theorem c_X8_when_29 {sc : List Int} {d d2 : Nat} {m m2 : Mem} {Q : Option AV → Mem → Prop} {l1 l2 s0 s1 s2 : Int} {v : Int} (hM : C_X8_isIn sc d2 [aJ s0, aJ s1, aJ s2] m (some (aI v)) m2) (hd : d2 + 1 ≤ d) (k : S_X8_when sc d 32 [aR 62, aI l1, aI l2] [aI v] m2 Q) : S_X8_when sc d 29 [aR 62, aI l1, aI l2] [aJ s2, aJ s1, aJ s0] m Q := x_callS (as := [aJ s0, aJ s1, aJ s2]) (rest := []) hM mk_X8_isIn ms_X8_isIn lk_X8_333 hd rfl rfl (Nat.le_of_ble_eq_true rfl) dX8_when_29 rfl k
theorem c_X8_when_39 {sc : List Int} {d d2 : Nat} {m m2 : Mem} {Q : Option AV → Mem → Prop} {l1 l2 s1 : Int} (hM : C_X8_means sc d2 [aR 62, aI s1] m none m2) (hd : d2 + 1 ≤ d) (k : S_X8_when sc d 42 [aR 62, aI l1, aI l2] [] m2 Q) : S_X8_when sc d 39 [aR 62, aI l1, aI l2] [aI s1, aR 62] m Q := x_callV (as := [aI s1]) (rest := []) hM mk_X8_means mv_X8_means lk_X8_508 (Or.inl ⟨8, (RX8, TX8, 123), ic_62, Nat.le_of_ble_eq_true rfl, rfl, rfl⟩) hd rfl rfl (Nat.le_of_ble_eq_true rfl) dX8_when_39 rfl k
theorem c_X8_when_45 {sc : List Int} {d d2 : Nat} {m m2 : Mem} {Q : Option AV → Mem → Prop} {s1 s2 : Int} {v : Int} (hM : C_X8_isChance sc d2 [aR 62, aI s1, aI s2] m (some (aI v)) m2) (hd : d2 + 1 ≤ d) (k : S_X8_when sc d 48 [aR 62, aU, aU] [aI v] m2 Q) : S_X8_when sc d 45 [aR 62, aU, aU] [aI s2, aI s1, aR 62] m Q := x_callV (as := [aI s1, aI s2]) (rest := []) hM mk_X8_isChance mv_X8_isChance lk_X8_515 (Or.inl ⟨8, (RX8, TX8, 123), ic_62, Nat.le_of_ble_eq_true rfl, rfl, rfl⟩) hd rfl rfl (Nat.le_of_ble_eq_true rfl) dX8_when_45 rfl k
set_option maxRecDepth 4000 in
theorem g_X8_looks_0 {sc : List Int} {d : Nat} {m : Mem} {Q : Option AV → Mem → Prop} {l1 : Int} (k : S_X8_looks sc d 1 [aR 62, aI l1, aU, aU] [aR 62] m Q) : S_X8_looks sc d 0 [aR 62, aI l1, aU, aU] [] m Q := by
  refine x_aload_n (pc2 := 1) dX8_looks_0 rfl rfl ?_
  exact k
set_option maxRecDepth 4000 in
theorem g_X8_looks_4 {sc : List Int} {d : Nat} {m : Mem} {Q : Option AV → Mem → Prop} {l1 s0 : Int} (k : (-2147483648 ≤ s0 ∧ s0 < 2147483648) ∧ ((s0 = 0) → (Q (some (aI (-1))) m)) ∧ (¬ (s0 = 0) → ((-2147483648 ≤ l1 ∧ l1 < 2147483648) ∧ S_X8_looks sc d 11 [aR 62, aI l1, aU, aU] [aJ 1, aJ 0, aJ l1] m Q))) : S_X8_looks sc d 4 [aR 62, aI l1, aU, aU] [aI s0] m Q := by
  obtain ⟨h1, k⟩ := k
  obtain ⟨k1, k2⟩ := k
  refine x_if_eq (tgt := 17) (pc2 := 7) dX8_looks_4 (by decide) rfl h1 (fun c2 => ?_) (fun c2 => ?_)
  · replace k := k1 c2
    refine x_iconst (pc2 := 18) dX8_looks_17 rfl ?_
    exact x_ireturn dX8_looks_18 ⟨.int, rfl, rfl⟩ k
  · replace k := k2 c2
    refine x_iload_n (pc2 := 8) dX8_looks_7 rfl rfl ?_
    obtain ⟨h3, k⟩ := k
    refine x_i2l (pc2 := 9) dX8_looks_8 rfl h3 ?_
    refine x_lconst (pc2 := 10) (v := 0) dX8_looks_9 rfl rfl ?_
    refine x_lconst (pc2 := 11) (v := 1) dX8_looks_10 rfl rfl ?_
    exact k
set_option maxRecDepth 4000 in
theorem g_X8_looks_14 {sc : List Int} {d : Nat} {m : Mem} {Q : Option AV → Mem → Prop} {l1 s0 : Int} (k : (-2147483648 ≤ s0 ∧ s0 < 2147483648) ∧ ((s0 ≠ 0) → (S_X8_looks sc d 21 [aR 62, aI l1, aU, aU] [aI 3, aR 62] m Q)) ∧ (¬ (s0 ≠ 0) → (Q (some (aI (-1))) m))) : S_X8_looks sc d 14 [aR 62, aI l1, aU, aU] [aI s0] m Q := by
  obtain ⟨h1, k⟩ := k
  obtain ⟨k1, k2⟩ := k
  refine x_if_ne (tgt := 19) (pc2 := 17) dX8_looks_14 (by decide) rfl h1 (fun c2 => ?_) (fun c2 => ?_)
  · replace k := k1 c2
    refine x_aload_n (pc2 := 20) dX8_looks_19 rfl rfl ?_
    refine x_iconst (pc2 := 21) dX8_looks_20 rfl ?_
    exact k
  · replace k := k2 c2
    refine x_iconst (pc2 := 18) dX8_looks_17 rfl ?_
    exact x_ireturn dX8_looks_18 ⟨.int, rfl, rfl⟩ k
set_option maxRecDepth 4000 in
theorem g_X8_looks_24 {sc : List Int} {d : Nat} {m : Mem} {Q : Option AV → Mem → Prop} {l1 : Int} (k : S_X8_looks sc d 34 [aR 62, aI l1, aJ (m 105 0), aU] [aI 100, aR 62] m Q) : S_X8_looks sc d 24 [aR 62, aI l1, aU, aU] [] m Q := by
  refine x_aload_n (pc2 := 25) dX8_looks_24 rfl rfl ?_
  refine x_getf (pc2 := 28) (v := aR 105) fl_X8_142 ic_62 (vr_62_59 _) dX8_looks_25 rfl ?_
  refine x_iconst (pc2 := 29) dX8_looks_28 rfl ?_
  refine x_lald (pc2 := 30) ic_105 (by decide) (by rw [al_105]; decide) dX8_looks_29 rfl ?_
  refine x_lstore_n (pc2 := 31) (ls2 := [aR 62, aI l1, aJ (m 105 0), aU]) dX8_looks_30 rfl (by decide) rfl ?_
  refine x_aload_n (pc2 := 32) dX8_looks_31 rfl rfl ?_
  refine x_bipush (pc2 := 34) dX8_looks_32 rfl rfl ?_
  exact k
set_option maxRecDepth 4000 in
theorem g_X8_looks_37 {sc : List Int} {d : Nat} {m : Mem} {Q : Option AV → Mem → Prop} {l1 l2 : Int} (k : ((-2147483648 ≤ l1 ∧ l1 < 2147483648)) ∧ (-9223372036854775808 ≤ (1000 * (if l1 ≠ 0 then (l2 - (m 105 0)) else (m 105 0) : Int)) ∧ (1000 * (if l1 ≠ 0 then (l2 - (m 105 0)) else (m 105 0) : Int)) < 9223372036854775808) ∧ (-9223372036854775808 ≤ (m 104 0) ∧ (m 104 0) < 9223372036854775808) ∧ ((m 104 0) ≠ 0) ∧ Q (some (aI ((1000 * (if l1 ≠ 0 then (l2 - (m 105 0)) else (m 105 0) : Int)).tdiv (m 104 0)))) m) : S_X8_looks sc d 37 [aR 62, aI l1, aJ l2, aU] [] m Q := by
  refine x_ldc2 (pc2 := 40) (x := 1000) kc_X8_511 rfl dX8_looks_37 rfl ?_
  refine x_iload_n (pc2 := 41) dX8_looks_40 rfl rfl ?_
  obtain ⟨g2, k⟩ := k
  have kj : S_X8_looks sc d 61 [aR 62, aI l1, aJ l2, aU] [aJ (if l1 ≠ 0 then (l2 - (m 105 0)) else (m 105 0) : Int), aJ 1000] m Q := by
    refine x_lmul (pc2 := 62) dX8_looks_61 rfl ?_
    refine x_aload_n (pc2 := 63) dX8_looks_62 rfl rfl ?_
    refine x_getf (pc2 := 66) (v := aR 104) fl_X8_139 ic_62 (vr_62_58 _) dX8_looks_63 rfl ?_
    refine x_iconst (pc2 := 67) dX8_looks_66 rfl ?_
    refine x_lald (pc2 := 68) ic_104 (by decide) (by rw [al_104]; decide) dX8_looks_67 rfl ?_
    obtain ⟨h3, k⟩ := k
    obtain ⟨h4, k⟩ := k
    obtain ⟨h5, k⟩ := k
    refine x_ldiv (pc2 := 69) dX8_looks_68 rfl h3 h4 h5 ?_
    refine x_l2i (pc2 := 70) dX8_looks_69 rfl ?_
    exact x_ireturn dX8_looks_70 ⟨.int, rfl, rfl⟩ k
  have h6 := g2 
  refine x_if_ne (tgt := 53) (pc2 := 44) dX8_looks_41 (by decide) rfl h6 (fun c7 => ?_) (fun c7 => ?_)
  · skip
    refine x_lload_n (pc2 := 54) dX8_looks_53 rfl rfl ?_
    refine x_aload_n (pc2 := 55) dX8_looks_54 rfl rfl ?_
    refine x_getf (pc2 := 58) (v := aR 105) fl_X8_142 ic_62 (vr_62_59 _) dX8_looks_55 rfl ?_
    refine x_iconst (pc2 := 59) dX8_looks_58 rfl ?_
    refine x_lald (pc2 := 60) ic_105 (by decide) (by rw [al_105]; decide) dX8_looks_59 rfl ?_
    refine x_lsub (pc2 := 61) dX8_looks_60 rfl ?_
    exact x_topJ (v := (if l1 ≠ 0 then (l2 - (m 105 0)) else (m 105 0) : Int)) (if_pos c7) kj
  · skip
    refine x_aload_n (pc2 := 45) dX8_looks_44 rfl rfl ?_
    refine x_getf (pc2 := 48) (v := aR 105) fl_X8_142 ic_62 (vr_62_59 _) dX8_looks_45 rfl ?_
    refine x_iconst (pc2 := 49) dX8_looks_48 rfl ?_
    refine x_lald (pc2 := 50) ic_105 (by decide) (by rw [al_105]; decide) dX8_looks_49 rfl ?_
    refine x_goto (tgt := 61) dX8_looks_50 (by decide) ?_
    exact x_topJ (v := (if l1 ≠ 0 then (l2 - (m 105 0)) else (m 105 0) : Int)) (if_neg c7) kj
theorem c_X8_looks_1 {sc : List Int} {d d2 : Nat} {m m2 : Mem} {Q : Option AV → Mem → Prop} {l1 : Int} {v : Int} (hM : C_X8_areFew sc d2 [aR 62] m (some (aI v)) m2) (hd : d2 + 1 ≤ d) (k : S_X8_looks sc d 4 [aR 62, aI l1, aU, aU] [aI v] m2 Q) : S_X8_looks sc d 1 [aR 62, aI l1, aU, aU] [aR 62] m Q := x_callV (as := []) (rest := []) hM mk_X8_areFew mv_X8_areFew lk_X8_502 (Or.inl ⟨8, (RX8, TX8, 123), ic_62, Nat.le_of_ble_eq_true rfl, rfl, rfl⟩) hd rfl rfl (Nat.le_of_ble_eq_true rfl) dX8_looks_1 rfl k
theorem c_X8_looks_11 {sc : List Int} {d d2 : Nat} {m m2 : Mem} {Q : Option AV → Mem → Prop} {l1 s0 s1 s2 : Int} {v : Int} (hM : C_X8_isIn sc d2 [aJ s0, aJ s1, aJ s2] m (some (aI v)) m2) (hd : d2 + 1 ≤ d) (k : S_X8_looks sc d 14 [aR 62, aI l1, aU, aU] [aI v] m2 Q) : S_X8_looks sc d 11 [aR 62, aI l1, aU, aU] [aJ s2, aJ s1, aJ s0] m Q := x_callS (as := [aJ s0, aJ s1, aJ s2]) (rest := []) hM mk_X8_isIn ms_X8_isIn lk_X8_333 hd rfl rfl (Nat.le_of_ble_eq_true rfl) dX8_looks_11 rfl k
theorem c_X8_looks_21 {sc : List Int} {d d2 : Nat} {m m2 : Mem} {Q : Option AV → Mem → Prop} {l1 s1 : Int} (hM : C_X8_means sc d2 [aR 62, aI s1] m none m2) (hd : d2 + 1 ≤ d) (k : S_X8_looks sc d 24 [aR 62, aI l1, aU, aU] [] m2 Q) : S_X8_looks sc d 21 [aR 62, aI l1, aU, aU] [aI s1, aR 62] m Q := x_callV (as := [aI s1]) (rest := []) hM mk_X8_means mv_X8_means lk_X8_508 (Or.inl ⟨8, (RX8, TX8, 123), ic_62, Nat.le_of_ble_eq_true rfl, rfl, rfl⟩) hd rfl rfl (Nat.le_of_ble_eq_true rfl) dX8_looks_21 rfl k
theorem c_X8_looks_34 {sc : List Int} {d d2 : Nat} {m m2 : Mem} {Q : Option AV → Mem → Prop} {l1 l2 s1 : Int} (hM : C_X8_means sc d2 [aR 62, aI s1] m none m2) (hd : d2 + 1 ≤ d) (k : S_X8_looks sc d 37 [aR 62, aI l1, aJ l2, aU] [] m2 Q) : S_X8_looks sc d 34 [aR 62, aI l1, aJ l2, aU] [aI s1, aR 62] m Q := x_callV (as := [aI s1]) (rest := []) hM mk_X8_means mv_X8_means lk_X8_508 (Or.inl ⟨8, (RX8, TX8, 123), ic_62, Nat.le_of_ble_eq_true rfl, rfl, rfl⟩) hd rfl rfl (Nat.le_of_ble_eq_true rfl) dX8_looks_34 rfl k
set_option maxRecDepth 4000 in
theorem g_X8_rule_0 {sc : List Int} {d : Nat} {m : Mem} {Q : Option AV → Mem → Prop} (k : S_X8_rule sc d 1 [aR 62, aU, aU, aU, aU] [aR 62] m Q) : S_X8_rule sc d 0 [aR 62, aU, aU, aU, aU] [] m Q := by
  refine x_aload_n (pc2 := 1) dX8_rule_0 rfl rfl ?_
  exact k
set_option maxRecDepth 4000 in
theorem g_X8_rule_4 {sc : List Int} {d : Nat} {m : Mem} {Q : Option AV → Mem → Prop} {s0 : Int} (k : (-2147483648 ≤ s0 ∧ s0 < 2147483648) ∧ ((s0 ≠ 0) → (S_X8_rule sc d 16 [aR 62, aI (-1), aJ 0, aU, aI 0] [] m Q)) ∧ (¬ (s0 ≠ 0) → (Q (some (aI (-1))) m))) : S_X8_rule sc d 4 [aR 62, aU, aU, aU, aU] [aI s0] m Q := by
  obtain ⟨h1, k⟩ := k
  obtain ⟨k1, k2⟩ := k
  refine x_if_ne (tgt := 9) (pc2 := 7) dX8_rule_4 (by decide) rfl h1 (fun c2 => ?_) (fun c2 => ?_)
  · replace k := k1 c2
    refine x_iconst (pc2 := 10) dX8_rule_9 rfl ?_
    refine x_istore_n (pc2 := 11) (ls2 := [aR 62, aI (-1), aU, aU, aU]) dX8_rule_10 rfl (by decide) rfl ?_
    refine x_lconst (pc2 := 12) (v := 0) dX8_rule_11 rfl rfl ?_
    refine x_lstore_n (pc2 := 13) (ls2 := [aR 62, aI (-1), aJ 0, aU, aU]) dX8_rule_12 rfl (by decide) rfl ?_
    refine x_iconst (pc2 := 14) dX8_rule_13 rfl ?_
    refine x_istore (pc2 := 16) (ls2 := [aR 62, aI (-1), aJ 0, aU, aI 0]) dX8_rule_14 rfl (by decide) rfl ?_
    exact k
  · replace k := k2 c2
    refine x_iconst (pc2 := 8) dX8_rule_7 rfl ?_
    exact x_ireturn dX8_rule_8 ⟨.int, rfl, rfl⟩ k
set_option maxRecDepth 4000 in
theorem g_X8_rule_16 {sc : List Int} {d : Nat} {m : Mem} {Q : Option AV → Mem → Prop} {l1 l2 l4 : Int} (k : S_X8_rule sc d 19 [aR 62, aI l1, aJ l2, aU, aI l4] [aR 62, aI l4] m Q) : S_X8_rule sc d 16 [aR 62, aI l1, aJ l2, aU, aI l4] [] m Q := by
  refine x_iload (pc2 := 18) dX8_rule_16 rfl rfl ?_
  refine x_aload_n (pc2 := 19) dX8_rule_18 rfl rfl ?_
  exact k
set_option maxRecDepth 4000 in
theorem g_X8_rule_22 {sc : List Int} {d : Nat} {m : Mem} {Q : Option AV → Mem → Prop} {l1 l2 l4 s0 s1 : Int} (k : (-2147483648 ≤ s0 ∧ s0 < 2147483648) ∧ (-2147483648 ≤ s1 ∧ s1 < 2147483648) ∧ ((s1 ≤ s0) → (Q (some (aI l1)) m)) ∧ (¬ (s1 ≤ s0) → (S_X8_rule sc d 30 [aR 62, aI l1, aJ l2, aU, aI l4] [aI (4 + l4), aR 62] m Q))) : S_X8_rule sc d 22 [aR 62, aI l1, aJ l2, aU, aI l4] [aI s1, aI s0] m Q := by
  obtain ⟨h1, k⟩ := k
  obtain ⟨h2, k⟩ := k
  obtain ⟨k1, k2⟩ := k
  refine x_icmp_ge (tgt := 68) (pc2 := 25) dX8_rule_22 (by decide) rfl h1 h2 (fun c3 => ?_) (fun c3 => ?_)
  · replace k := k1 c3
    refine x_iload_n (pc2 := 69) dX8_rule_68 rfl rfl ?_
    exact x_ireturn dX8_rule_69 ⟨.int, rfl, rfl⟩ k
  · replace k := k2 c3
    refine x_aload_n (pc2 := 26) dX8_rule_25 rfl rfl ?_
    refine x_iconst (pc2 := 27) dX8_rule_26 rfl ?_
    refine x_iload (pc2 := 29) dX8_rule_27 rfl rfl ?_
    refine x_iadd (pc2 := 30) dX8_rule_29 rfl ?_
    exact k
set_option maxRecDepth 4000 in
theorem g_X8_rule_33 {sc : List Int} {d : Nat} {m : Mem} {Q : Option AV → Mem → Prop} {l1 l2 l4 : Int} (k : (-2147483648 ≤ l1 ∧ l1 < 2147483648) ∧ ((l1 = (-1)) → (S_X8_rule sc d 16 [aR 62, aI l4, aJ (m 105 0), aU, aI (l4 + 1)] [] m Q)) ∧ (¬ (l1 = (-1)) → ((-9223372036854775808 ≤ (m 105 0) ∧ (m 105 0) < 9223372036854775808) ∧ (-9223372036854775808 ≤ l2 ∧ l2 < 9223372036854775808) ∧ (((m 105 0) < l2) → (S_X8_rule sc d 16 [aR 62, aI l4, aJ (m 105 0), aU, aI (l4 + 1)] [] m Q)) ∧ (¬ ((m 105 0) < l2) → (S_X8_rule sc d 16 [aR 62, aI l1, aJ l2, aU, aI (l4 + 1)] [] m Q))))) : S_X8_rule sc d 33 [aR 62, aI l1, aJ l2, aU, aI l4] [] m Q := by
  refine x_iload_n (pc2 := 34) dX8_rule_33 rfl rfl ?_
  refine x_iconst (pc2 := 35) dX8_rule_34 rfl ?_
  obtain ⟨h1, k⟩ := k
  obtain ⟨k1, k2⟩ := k
  refine x_icmp_eq (tgt := 52) (pc2 := 38) dX8_rule_35 (by decide) rfl h1 (by decide) (fun c2 => ?_) (fun c2 => ?_)
  · replace k := k1 c2
    refine x_iload (pc2 := 54) dX8_rule_52 rfl rfl ?_
    refine x_istore_n (pc2 := 55) (ls2 := [aR 62, aI l4, aJ l2, aU, aI l4]) dX8_rule_54 rfl (by decide) rfl ?_
    refine x_aload_n (pc2 := 56) dX8_rule_55 rfl rfl ?_
    refine x_getf (pc2 := 59) (v := aR 105) fl_X8_142 ic_62 (vr_62_59 _) dX8_rule_56 rfl ?_
    refine x_iconst (pc2 := 60) dX8_rule_59 rfl ?_
    refine x_lald (pc2 := 61) ic_105 (by decide) (by rw [al_105]; decide) dX8_rule_60 rfl ?_
    refine x_lstore_n (pc2 := 62) (ls2 := [aR 62, aI l4, aJ (m 105 0), aU, aI l4]) dX8_rule_61 rfl (by decide) rfl ?_
    refine x_iinc (pc2 := 65) (ls2 := [aR 62, aI l4, aJ (m 105 0), aU, aI (l4 + 1)]) dX8_rule_62 rfl rfl (by decide) rfl ?_
    refine x_goto (tgt := 16) dX8_rule_65 (by decide) ?_
    exact k
  · replace k := k2 c2
    refine x_aload_n (pc2 := 39) dX8_rule_38 rfl rfl ?_
    refine x_getf (pc2 := 42) (v := aR 105) fl_X8_142 ic_62 (vr_62_59 _) dX8_rule_39 rfl ?_
    refine x_iconst (pc2 := 43) dX8_rule_42 rfl ?_
    refine x_lald (pc2 := 44) ic_105 (by decide) (by rw [al_105]; decide) dX8_rule_43 rfl ?_
    refine x_lload_n (pc2 := 45) dX8_rule_44 rfl rfl ?_
    obtain ⟨h3, k⟩ := k
    obtain ⟨h4, k⟩ := k
    obtain ⟨k1, k2⟩ := k
    refine x_lc_lt (tgt := 52) (pc2 := 49) dX8_rule_45 dX8_rule_46 (by decide) rfl h3 h4 (fun c5 => ?_) (fun c5 => ?_)
    · replace k := k1 c5
      refine x_iload (pc2 := 54) dX8_rule_52 rfl rfl ?_
      refine x_istore_n (pc2 := 55) (ls2 := [aR 62, aI l4, aJ l2, aU, aI l4]) dX8_rule_54 rfl (by decide) rfl ?_
      refine x_aload_n (pc2 := 56) dX8_rule_55 rfl rfl ?_
      refine x_getf (pc2 := 59) (v := aR 105) fl_X8_142 ic_62 (vr_62_59 _) dX8_rule_56 rfl ?_
      refine x_iconst (pc2 := 60) dX8_rule_59 rfl ?_
      refine x_lald (pc2 := 61) ic_105 (by decide) (by rw [al_105]; decide) dX8_rule_60 rfl ?_
      refine x_lstore_n (pc2 := 62) (ls2 := [aR 62, aI l4, aJ (m 105 0), aU, aI l4]) dX8_rule_61 rfl (by decide) rfl ?_
      refine x_iinc (pc2 := 65) (ls2 := [aR 62, aI l4, aJ (m 105 0), aU, aI (l4 + 1)]) dX8_rule_62 rfl rfl (by decide) rfl ?_
      refine x_goto (tgt := 16) dX8_rule_65 (by decide) ?_
      exact k
    · replace k := k2 c5
      refine x_goto (tgt := 62) dX8_rule_49 (by decide) ?_
      refine x_iinc (pc2 := 65) (ls2 := [aR 62, aI l1, aJ l2, aU, aI (l4 + 1)]) dX8_rule_62 rfl rfl (by decide) rfl ?_
      refine x_goto (tgt := 16) dX8_rule_65 (by decide) ?_
      exact k
theorem c_X8_rule_1 {sc : List Int} {d d2 : Nat} {m m2 : Mem} {Q : Option AV → Mem → Prop} {v : Int} (hM : C_X8_areFew sc d2 [aR 62] m (some (aI v)) m2) (hd : d2 + 1 ≤ d) (k : S_X8_rule sc d 4 [aR 62, aU, aU, aU, aU] [aI v] m2 Q) : S_X8_rule sc d 1 [aR 62, aU, aU, aU, aU] [aR 62] m Q := x_callV (as := []) (rest := []) hM mk_X8_areFew mv_X8_areFew lk_X8_502 (Or.inl ⟨8, (RX8, TX8, 123), ic_62, Nat.le_of_ble_eq_true rfl, rfl, rfl⟩) hd rfl rfl (Nat.le_of_ble_eq_true rfl) dX8_rule_1 rfl k
theorem c_X8_rule_19 {sc : List Int} {d d2 : Nat} {m m2 : Mem} {Q : Option AV → Mem → Prop} {l1 l2 l4 s0 : Int} {v : Int} (hM : C_X8_ruleMany sc d2 [aR 62] m (some (aI v)) m2) (hd : d2 + 1 ≤ d) (k : S_X8_rule sc d 22 [aR 62, aI l1, aJ l2, aU, aI l4] [aI v, aI s0] m2 Q) : S_X8_rule sc d 19 [aR 62, aI l1, aJ l2, aU, aI l4] [aR 62, aI s0] m Q := x_callV (as := []) (rest := [aI s0]) hM mk_X8_ruleMany mv_X8_ruleMany lk_X8_499 (Or.inl ⟨8, (RX8, TX8, 123), ic_62, Nat.le_of_ble_eq_true rfl, rfl, rfl⟩) hd rfl rfl (Nat.le_of_ble_eq_true rfl) dX8_rule_19 rfl k
theorem c_X8_rule_30 {sc : List Int} {d d2 : Nat} {m m2 : Mem} {Q : Option AV → Mem → Prop} {l1 l2 l4 s1 : Int} (hM : C_X8_means sc d2 [aR 62, aI s1] m none m2) (hd : d2 + 1 ≤ d) (k : S_X8_rule sc d 33 [aR 62, aI l1, aJ l2, aU, aI l4] [] m2 Q) : S_X8_rule sc d 30 [aR 62, aI l1, aJ l2, aU, aI l4] [aI s1, aR 62] m Q := x_callV (as := [aI s1]) (rest := []) hM mk_X8_means mv_X8_means lk_X8_508 (Or.inl ⟨8, (RX8, TX8, 123), ic_62, Nat.le_of_ble_eq_true rfl, rfl, rfl⟩) hd rfl rfl (Nat.le_of_ble_eq_true rfl) dX8_rule_30 rfl k
set_option maxRecDepth 4000 in
theorem g_X8_changesAt_0 {sc : List Int} {d : Nat} {m : Mem} {Q : Option AV → Mem → Prop} {l1 l2 l3 l4 : Int} (k : (-2147483648 ≤ l3 ∧ l3 < 2147483648) ∧ ((l3 ≠ 0) → ((-2147483648 ≤ l1 ∧ l1 < 2147483648) ∧ ((l1 ≠ 2) → (((l1 ≠ 3) → (S_X8_changesAt sc d 49 [aR 62, aU, aU, aU, aU] [aI l3, aI l2, aI l1, aR 62] m Q)) ∧ (¬ (l1 ≠ 3) → (S_X8_changesAt sc d 39 [aR 62, aU, aU, aU, aU] [aI l3, aI l2, aR 62] m Q)))) ∧ (¬ (l1 ≠ 2) → (S_X8_changesAt sc d 14 [aR 62, aU, aU, aU, aI l4] [aI l2, aR 62, aI l3] m Q)))) ∧ (¬ (l3 ≠ 0) → (Q (some (aI 0)) m))) : S_X8_changesAt sc d 0 [aR 62, aI l1, aI l2, aI l3, aI l4] [] m Q := by
  refine x_iload_n (pc2 := 1) dX8_changesAt_0 rfl rfl ?_
  obtain ⟨h1, k⟩ := k
  obtain ⟨k1, k2⟩ := k
  refine x_if_ne (tgt := 6) (pc2 := 4) dX8_changesAt_1 (by decide) rfl h1 (fun c2 => ?_) (fun c2 => ?_)
  · replace k := k1 c2
    refine x_iload_n (pc2 := 7) dX8_changesAt_6 rfl rfl ?_
    refine x_iconst (pc2 := 8) dX8_changesAt_7 rfl ?_
    obtain ⟨h3, k⟩ := k
    obtain ⟨k1, k2⟩ := k
    refine x_icmp_ne (tgt := 31) (pc2 := 11) dX8_changesAt_8 (by decide) rfl h3 (by decide) (fun c4 => ?_) (fun c4 => ?_)
    · replace k := k1 c4
      refine x_iload_n (pc2 := 32) dX8_changesAt_31 rfl rfl ?_
      refine x_iconst (pc2 := 33) dX8_changesAt_32 rfl ?_
      obtain ⟨k1, k2⟩ := k
      refine x_icmp_ne (tgt := 45) (pc2 := 36) dX8_changesAt_33 (by decide) rfl h3 (by decide) (fun c5 => ?_) (fun c5 => ?_)
      · replace k := k1 c5
        refine x_aload_n (pc2 := 46) dX8_changesAt_45 rfl rfl ?_
        refine x_iload_n (pc2 := 47) dX8_changesAt_46 rfl rfl ?_
        refine x_iload_n (pc2 := 48) dX8_changesAt_47 rfl rfl ?_
        refine x_iload_n (pc2 := 49) dX8_changesAt_48 rfl rfl ?_
        exact x_drop (drp_k (drp_u (drp_u (drp_u (drp_u drp_n))))) k
      · replace k := k2 c5
        refine x_aload_n (pc2 := 37) dX8_changesAt_36 rfl rfl ?_
        refine x_iload_n (pc2 := 38) dX8_changesAt_37 rfl rfl ?_
        refine x_iload_n (pc2 := 39) dX8_changesAt_38 rfl rfl ?_
        exact x_drop (drp_k (drp_u (drp_u (drp_u (drp_u drp_n))))) k
    · replace k := k2 c4
      refine x_iload_n (pc2 := 12) dX8_changesAt_11 rfl rfl ?_
      refine x_aload_n (pc2 := 13) dX8_changesAt_12 rfl rfl ?_
      refine x_iload_n (pc2 := 14) dX8_changesAt_13 rfl rfl ?_
      exact x_drop (drp_k (drp_u (drp_u (drp_u (drp_k drp_n))))) k
  · replace k := k2 c2
    refine x_iconst (pc2 := 5) dX8_changesAt_4 rfl ?_
    exact x_ireturn dX8_changesAt_5 ⟨.boolean, rfl, rfl⟩ k
set_option maxRecDepth 4000 in
theorem g_X8_changesAt_17 {sc : List Int} {d : Nat} {m : Mem} {Q : Option AV → Mem → Prop} {l4 s0 s1 : Int} (k : ((-2147483648 ≤ (s0 + s1) ∧ (s0 + s1) < 2147483648)) ∧ ((-2147483648 ≤ l4 ∧ l4 < 2147483648)) ∧ S_X8_changesAt sc d 52 [aR 62, aU, aU, aU, aU] [aI (if (s0 + s1) ≤ l4 then 0 else 1 : Int)] m Q) : S_X8_changesAt sc d 17 [aR 62, aU, aU, aU, aI l4] [aI s1, aI s0] m Q := by
  refine x_iadd (pc2 := 18) dX8_changesAt_17 rfl ?_
  refine x_iload (pc2 := 20) dX8_changesAt_18 rfl rfl ?_
  obtain ⟨g3, k⟩ := k
  obtain ⟨g4, k⟩ := k
  have kj : S_X8_changesAt sc d 52 [aR 62, aU, aU, aU, aI l4] [aI (if (s0 + s1) ≤ l4 then 0 else 1 : Int)] m Q := by
    exact x_drop (drp_k (drp_k (drp_k (drp_k (drp_u drp_n))))) k
  have h5 := g3 
  have h6 := g4 
  refine x_icmp_le (tgt := 27) (pc2 := 23) dX8_changesAt_20 (by decide) rfl h5 h6 (fun c7 => ?_) (fun c7 => ?_)
  · skip
    refine x_iconst (pc2 := 28) dX8_changesAt_27 rfl ?_
    refine x_goto (tgt := 52) dX8_changesAt_28 (by decide) ?_
    exact x_topI (v := (if (s0 + s1) ≤ l4 then 0 else 1 : Int)) (if_pos c7) kj
  · skip
    refine x_iconst (pc2 := 24) dX8_changesAt_23 rfl ?_
    refine x_goto (tgt := 52) dX8_changesAt_24 (by decide) ?_
    exact x_topI (v := (if (s0 + s1) ≤ l4 then 0 else 1 : Int)) (if_neg c7) kj
set_option maxRecDepth 4000 in
theorem g_X8_changesAt_42 {sc : List Int} {d : Nat} {m : Mem} {Q : Option AV → Mem → Prop} {s0 : Int} (k : S_X8_changesAt sc d 52 [aR 62, aU, aU, aU, aU] [aI s0] m Q) : S_X8_changesAt sc d 42 [aR 62, aU, aU, aU, aU] [aI s0] m Q := by
  refine x_goto (tgt := 52) dX8_changesAt_42 (by decide) ?_
  exact k
set_option maxRecDepth 4000 in
theorem g_X8_changesAt_52 {sc : List Int} {d : Nat} {m : Mem} {Q : Option AV → Mem → Prop} {s0 : Int} (k : (s0 = 0 ∨ s0 = 1) ∧ Q (some (aI s0)) m) : S_X8_changesAt sc d 52 [aR 62, aU, aU, aU, aU] [aI s0] m Q := by
  obtain ⟨h1, k⟩ := k
  exact x_ireturn dX8_changesAt_52 (ret_z h1) k
theorem c_X8_changesAt_14 {sc : List Int} {d d2 : Nat} {m m2 : Mem} {Q : Option AV → Mem → Prop} {l4 s0 s2 : Int} {v : Int} (hM : C_X8_takesOf sc d2 [aR 62, aI s2] m (some (aI v)) m2) (hd : d2 + 1 ≤ d) (k : S_X8_changesAt sc d 17 [aR 62, aU, aU, aU, aI l4] [aI v, aI s0] m2 Q) : S_X8_changesAt sc d 14 [aR 62, aU, aU, aU, aI l4] [aI s2, aR 62, aI s0] m Q := x_callV (as := [aI s2]) (rest := [aI s0]) hM mk_X8_takesOf mv_X8_takesOf lk_X8_434 (Or.inl ⟨8, (RX8, TX8, 123), ic_62, Nat.le_of_ble_eq_true rfl, rfl, rfl⟩) hd rfl rfl (Nat.le_of_ble_eq_true rfl) dX8_changesAt_14 rfl k
theorem c_X8_changesAt_39 {sc : List Int} {d d2 : Nat} {m m2 : Mem} {Q : Option AV → Mem → Prop} {s1 s2 : Int} {v : Int} (hM : C_X8_isChance sc d2 [aR 62, aI s1, aI s2] m (some (aI v)) m2) (hd : d2 + 1 ≤ d) (k : S_X8_changesAt sc d 42 [aR 62, aU, aU, aU, aU] [aI v] m2 Q) : S_X8_changesAt sc d 39 [aR 62, aU, aU, aU, aU] [aI s2, aI s1, aR 62] m Q := x_callV (as := [aI s1, aI s2]) (rest := []) hM mk_X8_isChance mv_X8_isChance lk_X8_515 (Or.inl ⟨8, (RX8, TX8, 123), ic_62, Nat.le_of_ble_eq_true rfl, rfl, rfl⟩) hd rfl rfl (Nat.le_of_ble_eq_true rfl) dX8_changesAt_39 rfl k
theorem c_X8_changesAt_49 {sc : List Int} {d d2 : Nat} {m m2 : Mem} {Q : Option AV → Mem → Prop} {s1 s2 s3 : Int} {v : Int} (hM : C_X8_isChange sc d2 [aR 62, aI s1, aI s2, aI s3] m (some (aI v)) m2) (hd : d2 + 1 ≤ d) (k : S_X8_changesAt sc d 52 [aR 62, aU, aU, aU, aU] [aI v] m2 Q) : S_X8_changesAt sc d 49 [aR 62, aU, aU, aU, aU] [aI s3, aI s2, aI s1, aR 62] m Q := x_callV (as := [aI s1, aI s2, aI s3]) (rest := []) hM mk_X8_isChange mv_X8_isChange lk_X8_485 (Or.inl ⟨8, (RX8, TX8, 123), ic_62, Nat.le_of_ble_eq_true rfl, rfl, rfl⟩) hd rfl rfl (Nat.le_of_ble_eq_true rfl) dX8_changesAt_49 rfl k
set_option maxRecDepth 4000 in
theorem g_X8_laysRow_0 {sc : List Int} {d : Nat} {m : Mem} {Q : Option AV → Mem → Prop} {l1 l2 : Int} (k : (-2147483648 ≤ l1 ∧ l1 < 2147483648) ∧ ((l1 ≠ 3) → (S_X8_laysRow sc d 10 [aR 62, aI l1, aI l2, aU, aU, aU, aU] [] m Q)) ∧ (¬ (l1 ≠ 3) → (S_X8_laysRow sc d 7 [aR 62, aI l1, aI l2, aU, aU, aU, aU] [aI 3, aR 62] m Q))) : S_X8_laysRow sc d 0 [aR 62, aI l1, aI l2, aU, aU, aU, aU] [] m Q := by
  refine x_iload_n (pc2 := 1) dX8_laysRow_0 rfl rfl ?_
  refine x_iconst (pc2 := 2) dX8_laysRow_1 rfl ?_
  obtain ⟨h1, k⟩ := k
  obtain ⟨k1, k2⟩ := k
  refine x_icmp_ne (tgt := 10) (pc2 := 5) dX8_laysRow_2 (by decide) rfl h1 (by decide) (fun c2 => ?_) (fun c2 => ?_)
  · replace k := k1 c2
    exact k
  · replace k := k2 c2
    refine x_aload_n (pc2 := 6) dX8_laysRow_5 rfl rfl ?_
    refine x_iconst (pc2 := 7) dX8_laysRow_6 rfl ?_
    exact k
set_option maxRecDepth 4000 in
theorem g_X8_laysRow_10 {sc : List Int} {d : Nat} {m : Mem} {Q : Option AV → Mem → Prop} {l1 l2 : Int} (k : S_X8_laysRow sc d 20 [aR 62, aI l1, aI l2, aI 0, aI 0, aU, aU] [] (wr m 62 64 0) Q) : S_X8_laysRow sc d 10 [aR 62, aI l1, aI l2, aU, aU, aU, aU] [] m Q := by
  refine x_iconst (pc2 := 11) dX8_laysRow_10 rfl ?_
  refine x_istore_n (pc2 := 12) (ls2 := [aR 62, aI l1, aI l2, aI 0, aU, aU, aU]) dX8_laysRow_11 rfl (by decide) rfl ?_
  refine x_aload_n (pc2 := 13) dX8_laysRow_12 rfl rfl ?_
  refine x_iconst (pc2 := 14) dX8_laysRow_13 rfl ?_
  refine x_putf (pc2 := 17) (x := 0) fl_X8_519 ft_8_64 ic_62 (pv_i _ ic_62 rfl) (pn_i _) dX8_laysRow_14 rfl ?_
  refine x_iconst (pc2 := 18) dX8_laysRow_17 rfl ?_
  refine x_istore (pc2 := 20) (ls2 := [aR 62, aI l1, aI l2, aI 0, aI 0, aU, aU]) dX8_laysRow_18 rfl (by decide) rfl ?_
  exact k
set_option maxRecDepth 4000 in
theorem g_X8_laysRow_20 {sc : List Int} {d : Nat} {m : Mem} {Q : Option AV → Mem → Prop} {l1 l2 l3 l4 : Int} (k : S_X8_laysRow sc d 23 [aR 62, aI l1, aI l2, aI l3, aI l4, aU, aU] [aR 62, aI l4] m Q) : S_X8_laysRow sc d 20 [aR 62, aI l1, aI l2, aI l3, aI l4, aU, aU] [] m Q := by
  refine x_iload (pc2 := 22) dX8_laysRow_20 rfl rfl ?_
  refine x_aload_n (pc2 := 23) dX8_laysRow_22 rfl rfl ?_
  exact k
set_option maxRecDepth 4000 in
theorem g_X8_laysRow_26 {sc : List Int} {d : Nat} {m : Mem} {Q : Option AV → Mem → Prop} {l1 l2 l3 l4 s0 s1 : Int} (k : (-2147483648 ≤ s0 ∧ s0 < 2147483648) ∧ (-2147483648 ≤ s1 ∧ s1 < 2147483648) ∧ ((s1 ≤ s0) → (Q none m)) ∧ (¬ (s1 ≤ s0) → ((-2147483648 ≤ l1 ∧ l1 < 2147483648) ∧ ((l1 ≠ 2) → (S_X8_laysRow sc d 58 [aR 62, aI l1, aI l2, aI l3, aI l4, aU, aU] [aI l2, aI l3, aI l4, aI l1, aR 62] m Q)) ∧ (¬ (l1 ≠ 2) → ((-2147483648 ≤ l3 ∧ l3 < 2147483648) ∧ ((l3 ≤ 0) → (S_X8_laysRow sc d 58 [aR 62, aI l1, aI l2, aI l3, aI l4, aU, aU] [aI l2, aI l3, aI l4, aI l1, aR 62] m Q)) ∧ (¬ (l3 ≤ 0) → (S_X8_laysRow sc d 45 [aR 62, aI l1, aI l2, aI l3, aI l4, aU, aU] [aI 2, aR 62, aI (m 62 64), aR 62] m Q))))))) : S_X8_laysRow sc d 26 [aR 62, aI l1, aI l2, aI l3, aI l4, aU, aU] [aI s1, aI s0] m Q := by
  obtain ⟨h1, k⟩ := k
  obtain ⟨h2, k⟩ := k
  obtain ⟨k1, k2⟩ := k
  refine x_icmp_ge (tgt := 194) (pc2 := 29) dX8_laysRow_26 (by decide) rfl h1 h2 (fun c3 => ?_) (fun c3 => ?_)
  · replace k := k1 c3
    exact x_return dX8_laysRow_194 rfl k
  · replace k := k2 c3
    refine x_iload_n (pc2 := 30) dX8_laysRow_29 rfl rfl ?_
    refine x_iconst (pc2 := 31) dX8_laysRow_30 rfl ?_
    obtain ⟨h4, k⟩ := k
    obtain ⟨k1, k2⟩ := k
    refine x_icmp_ne (tgt := 52) (pc2 := 34) dX8_laysRow_31 (by decide) rfl h4 (by decide) (fun c5 => ?_) (fun c5 => ?_)
    · replace k := k1 c5
      refine x_aload_n (pc2 := 53) dX8_laysRow_52 rfl rfl ?_
      refine x_iload_n (pc2 := 54) dX8_laysRow_53 rfl rfl ?_
      refine x_iload (pc2 := 56) dX8_laysRow_54 rfl rfl ?_
      refine x_iload_n (pc2 := 57) dX8_laysRow_56 rfl rfl ?_
      refine x_iload_n (pc2 := 58) dX8_laysRow_57 rfl rfl ?_
      exact k
    · replace k := k2 c5
      refine x_iload_n (pc2 := 35) dX8_laysRow_34 rfl rfl ?_
      obtain ⟨h6, k⟩ := k
      obtain ⟨k1, k2⟩ := k
      refine x_if_le (tgt := 52) (pc2 := 38) dX8_laysRow_35 (by decide) rfl h6 (fun c7 => ?_) (fun c7 => ?_)
      · replace k := k1 c7
        refine x_aload_n (pc2 := 53) dX8_laysRow_52 rfl rfl ?_
        refine x_iload_n (pc2 := 54) dX8_laysRow_53 rfl rfl ?_
        refine x_iload (pc2 := 56) dX8_laysRow_54 rfl rfl ?_
        refine x_iload_n (pc2 := 57) dX8_laysRow_56 rfl rfl ?_
        refine x_iload_n (pc2 := 58) dX8_laysRow_57 rfl rfl ?_
        exact k
      · replace k := k2 c7
        refine x_aload_n (pc2 := 39) dX8_laysRow_38 rfl rfl ?_
        refine x_dup_r (pc2 := 40) dX8_laysRow_39 rfl (by decide) ?_
        refine x_getf (pc2 := 43) (v := aI (m 62 64)) fl_X8_519 ic_62 (fv_i _ ic_62 rfl) dX8_laysRow_40 rfl ?_
        refine x_aload_n (pc2 := 44) dX8_laysRow_43 rfl rfl ?_
        refine x_iconst (pc2 := 45) dX8_laysRow_44 rfl ?_
        exact k
set_option maxRecDepth 4000 in
theorem g_X8_laysRow_48 {sc : List Int} {d : Nat} {m : Mem} {Q : Option AV → Mem → Prop} {l1 l2 l3 l4 s1 s2 : Int} (k : S_X8_laysRow sc d 58 [aR 62, aI l1, aI l2, aI l3, aI l4, aU, aU] [aI l2, aI l3, aI l4, aI l1, aR 62] (wr m 62 64 (s1 + s2)) Q) : S_X8_laysRow sc d 48 [aR 62, aI l1, aI l2, aI l3, aI l4, aU, aU] [aI s2, aI s1, aR 62] m Q := by
  refine x_iadd (pc2 := 49) dX8_laysRow_48 rfl ?_
  refine x_putf (pc2 := 52) (x := (s1 + s2)) fl_X8_519 ft_8_64 ic_62 (pv_i _ ic_62 rfl) (pn_i _) dX8_laysRow_49 rfl ?_
  refine x_aload_n (pc2 := 53) dX8_laysRow_52 rfl rfl ?_
  refine x_iload_n (pc2 := 54) dX8_laysRow_53 rfl rfl ?_
  refine x_iload (pc2 := 56) dX8_laysRow_54 rfl rfl ?_
  refine x_iload_n (pc2 := 57) dX8_laysRow_56 rfl rfl ?_
  refine x_iload_n (pc2 := 58) dX8_laysRow_57 rfl rfl ?_
  exact k
set_option maxRecDepth 4000 in
theorem g_X8_laysRow_61 {sc : List Int} {d : Nat} {m : Mem} {Q : Option AV → Mem → Prop} {l1 l2 l3 l4 s0 : Int} (k : (-2147483648 ≤ s0 ∧ s0 < 2147483648) ∧ ((s0 = 0) → ((0 ≤ l4) ∧ (l4 < 10) ∧ S_X8_laysRow sc d 113 [aR 62, aI l1, aI l2, aI l3, aI l4, aU, aU] [aI l4, aR 62, aI l3] (wr (wr m 107 l4 l3) 108 l4 (if s0 = 0 then 0 else 1 : Int)) Q)) ∧ (¬ (s0 = 0) → (S_X8_laysRow sc d 75 [aR 62, aI l1, aI l2, aU, aI l4, aI s0, aU] [aI 0, aR 62, aI (m 62 64), aR 62] m Q))) : S_X8_laysRow sc d 61 [aR 62, aI l1, aI l2, aI l3, aI l4, aU, aU] [aI s0] m Q := by
  refine x_istore (pc2 := 63) (ls2 := [aR 62, aI l1, aI l2, aI l3, aI l4, aI s0, aU]) dX8_laysRow_61 rfl (by decide) rfl ?_
  refine x_iload (pc2 := 65) dX8_laysRow_63 rfl rfl ?_
  obtain ⟨h1, k⟩ := k
  obtain ⟨k1, k2⟩ := k
  refine x_if_eq (tgt := 84) (pc2 := 68) dX8_laysRow_65 (by decide) rfl h1 (fun c2 => ?_) (fun c2 => ?_)
  · replace k := k1 c2
    refine x_aload_n (pc2 := 85) dX8_laysRow_84 rfl rfl ?_
    refine x_getf (pc2 := 88) (v := aR 107) fl_X8_148 ic_62 (vr_62_61 _) dX8_laysRow_85 rfl ?_
    refine x_iload (pc2 := 90) dX8_laysRow_88 rfl rfl ?_
    refine x_iload_n (pc2 := 91) dX8_laysRow_90 rfl rfl ?_
    obtain ⟨h3, k⟩ := k
    obtain ⟨h4, k⟩ := k
    refine x_iast (pc2 := 92) ic_107 h3 (by rw [al_107]; exact h4) dX8_laysRow_91 rfl ?_
    refine x_aload_n (pc2 := 93) dX8_laysRow_92 rfl rfl ?_
    refine x_getf (pc2 := 96) (v := aR 108) fl_X8_151 ic_62 (vr_62_62 _) dX8_laysRow_93 rfl ?_
    refine x_iload (pc2 := 98) dX8_laysRow_96 rfl rfl ?_
    refine x_iload (pc2 := 100) dX8_laysRow_98 rfl rfl ?_
    have kj : S_X8_laysRow sc d 108 [aR 62, aI l1, aI l2, aI l3, aI l4, aI s0, aU] [aI (if s0 = 0 then 0 else 1 : Int), aI l4, aR 108] (wr m 107 l4 l3) Q := by
      refine x_iast (pc2 := 109) ic_108 h3 (by rw [al_108]; exact h4) dX8_laysRow_108 rfl ?_
      refine x_iload_n (pc2 := 110) dX8_laysRow_109 rfl rfl ?_
      refine x_aload_n (pc2 := 111) dX8_laysRow_110 rfl rfl ?_
      refine x_iload (pc2 := 113) dX8_laysRow_111 rfl rfl ?_
      exact x_drop (drp_k (drp_k (drp_k (drp_k (drp_k (drp_u (drp_k drp_n))))))) k
    refine x_if_eq (tgt := 107) (pc2 := 103) dX8_laysRow_100 (by decide) rfl h1 (fun c5 => ?_) (fun c5 => ?_)
    · skip
      refine x_iconst (pc2 := 108) dX8_laysRow_107 rfl ?_
      exact x_topI (v := (if s0 = 0 then 0 else 1 : Int)) (if_pos c5) kj
    · skip
      refine x_iconst (pc2 := 104) dX8_laysRow_103 rfl ?_
      refine x_goto (tgt := 108) dX8_laysRow_104 (by decide) ?_
      exact x_topI (v := (if s0 = 0 then 0 else 1 : Int)) (if_neg c5) kj
  · replace k := k2 c2
    refine x_aload_n (pc2 := 69) dX8_laysRow_68 rfl rfl ?_
    refine x_dup_r (pc2 := 70) dX8_laysRow_69 rfl (by decide) ?_
    refine x_getf (pc2 := 73) (v := aI (m 62 64)) fl_X8_519 ic_62 (fv_i _ ic_62 rfl) dX8_laysRow_70 rfl ?_
    refine x_aload_n (pc2 := 74) dX8_laysRow_73 rfl rfl ?_
    refine x_iconst (pc2 := 75) dX8_laysRow_74 rfl ?_
    exact x_drop (drp_k (drp_k (drp_k (drp_u (drp_k (drp_k (drp_k drp_n))))))) k
set_option maxRecDepth 4000 in
theorem g_X8_laysRow_78 {sc : List Int} {d : Nat} {m : Mem} {Q : Option AV → Mem → Prop} {l1 l2 l4 l5 s1 s2 : Int} (k : (0 ≤ l4) ∧ (l4 < 10) ∧ ((-2147483648 ≤ l5 ∧ l5 < 2147483648)) ∧ S_X8_laysRow sc d 113 [aR 62, aI l1, aI l2, aI 0, aI l4, aU, aU] [aI l4, aR 62, aI 0] (wr (wr (wr m 62 64 (s1 + s2)) 107 l4 0) 108 l4 (if l5 = 0 then 0 else 1 : Int)) Q) : S_X8_laysRow sc d 78 [aR 62, aI l1, aI l2, aU, aI l4, aI l5, aU] [aI s2, aI s1, aR 62] m Q := by
  refine x_iadd (pc2 := 79) dX8_laysRow_78 rfl ?_
  refine x_putf (pc2 := 82) (x := (s1 + s2)) fl_X8_519 ft_8_64 ic_62 (pv_i _ ic_62 rfl) (pn_i _) dX8_laysRow_79 rfl ?_
  refine x_iconst (pc2 := 83) dX8_laysRow_82 rfl ?_
  refine x_istore_n (pc2 := 84) (ls2 := [aR 62, aI l1, aI l2, aI 0, aI l4, aI l5, aU]) dX8_laysRow_83 rfl (by decide) rfl ?_
  refine x_aload_n (pc2 := 85) dX8_laysRow_84 rfl rfl ?_
  refine x_getf (pc2 := 88) (v := aR 107) fl_X8_148 ic_62 (vr_62_61 _) dX8_laysRow_85 rfl ?_
  refine x_iload (pc2 := 90) dX8_laysRow_88 rfl rfl ?_
  refine x_iload_n (pc2 := 91) dX8_laysRow_90 rfl rfl ?_
  obtain ⟨h1, k⟩ := k
  obtain ⟨h2, k⟩ := k
  refine x_iast (pc2 := 92) ic_107 h1 (by rw [al_107]; exact h2) dX8_laysRow_91 rfl ?_
  refine x_aload_n (pc2 := 93) dX8_laysRow_92 rfl rfl ?_
  refine x_getf (pc2 := 96) (v := aR 108) fl_X8_151 ic_62 (vr_62_62 _) dX8_laysRow_93 rfl ?_
  refine x_iload (pc2 := 98) dX8_laysRow_96 rfl rfl ?_
  refine x_iload (pc2 := 100) dX8_laysRow_98 rfl rfl ?_
  obtain ⟨g4, k⟩ := k
  have kj : S_X8_laysRow sc d 108 [aR 62, aI l1, aI l2, aI 0, aI l4, aI l5, aU] [aI (if l5 = 0 then 0 else 1 : Int), aI l4, aR 108] (wr (wr m 62 64 (s1 + s2)) 107 l4 0) Q := by
    refine x_iast (pc2 := 109) ic_108 h1 (by rw [al_108]; exact h2) dX8_laysRow_108 rfl ?_
    refine x_iload_n (pc2 := 110) dX8_laysRow_109 rfl rfl ?_
    refine x_aload_n (pc2 := 111) dX8_laysRow_110 rfl rfl ?_
    refine x_iload (pc2 := 113) dX8_laysRow_111 rfl rfl ?_
    exact x_drop (drp_k (drp_k (drp_k (drp_k (drp_k (drp_u (drp_k drp_n))))))) k
  have h5 := g4 
  refine x_if_eq (tgt := 107) (pc2 := 103) dX8_laysRow_100 (by decide) rfl h5 (fun c6 => ?_) (fun c6 => ?_)
  · skip
    refine x_iconst (pc2 := 108) dX8_laysRow_107 rfl ?_
    exact x_topI (v := (if l5 = 0 then 0 else 1 : Int)) (if_pos c6) kj
  · skip
    refine x_iconst (pc2 := 104) dX8_laysRow_103 rfl ?_
    refine x_goto (tgt := 108) dX8_laysRow_104 (by decide) ?_
    exact x_topI (v := (if l5 = 0 then 0 else 1 : Int)) (if_neg c6) kj
set_option maxRecDepth 4000 in
theorem g_X8_laysRow_116 {sc : List Int} {d : Nat} {m : Mem} {Q : Option AV → Mem → Prop} {l1 l2 l3 l4 s0 s1 : Int} (k : ((-2147483648 ≤ (s0 + s1) ∧ (s0 + s1) < 2147483648)) ∧ ((-2147483648 ≤ l2 ∧ l2 < 2147483648)) ∧ ((-2147483648 ≤ (if l2 < (s0 + s1) then 0 else 1 : Int) ∧ (if l2 < (s0 + s1) then 0 else 1 : Int) < 2147483648)) ∧ (0 ≤ l4) ∧ (l4 < 10) ∧ (-2147483648 ≤ (if l2 < (s0 + s1) then 0 else 1 : Int) ∧ (if l2 < (s0 + s1) then 0 else 1 : Int) < 2147483648) ∧ (((if l2 < (s0 + s1) then 0 else 1 : Int) ≠ 0) → ((((if l2 < (s0 + s1) then 0 else 1 : Int) = 0) → (S_X8_laysRow sc d 20 [aR 62, aI l1, aI l2, aI 0, aI (l4 + 1), aU, aU] [] (wr m 109 l4 (if (if l2 < (s0 + s1) then 0 else 1 : Int) = 0 then 1 else 0 : Int)) Q)) ∧ (¬ ((if l2 < (s0 + s1) then 0 else 1 : Int) = 0) → (S_X8_laysRow sc d 179 [aR 62, aI l1, aI l2, aU, aI l4, aU, aU] [aI l4, aR 62, aI l3] (wr m 109 l4 (if (if l2 < (s0 + s1) then 0 else 1 : Int) = 0 then 1 else 0 : Int)) Q)))) ∧ (¬ ((if l2 < (s0 + s1) then 0 else 1 : Int) ≠ 0) → (S_X8_laysRow sc d 157 [aR 62, aI l1, aI l2, aI l3, aI l4, aU, aI (if l2 < (s0 + s1) then 0 else 1 : Int)] [aI 1, aR 62, aI ((wr m 109 l4 (if (if l2 < (s0 + s1) then 0 else 1 : Int) = 0 then 1 else 0 : Int)) 62 64), aR 62] (wr m 109 l4 (if (if l2 < (s0 + s1) then 0 else 1 : Int) = 0 then 1 else 0 : Int)) Q))) : S_X8_laysRow sc d 116 [aR 62, aI l1, aI l2, aI l3, aI l4, aU, aU] [aI s1, aI s0] m Q := by
  refine x_iadd (pc2 := 117) dX8_laysRow_116 rfl ?_
  refine x_iload_n (pc2 := 118) dX8_laysRow_117 rfl rfl ?_
  obtain ⟨g3, k⟩ := k
  obtain ⟨g4, k⟩ := k
  have kj : S_X8_laysRow sc d 126 [aR 62, aI l1, aI l2, aI l3, aI l4, aU, aU] [aI (if l2 < (s0 + s1) then 0 else 1 : Int)] m Q := by
    refine x_istore (pc2 := 128) (ls2 := [aR 62, aI l1, aI l2, aI l3, aI l4, aU, aI (if l2 < (s0 + s1) then 0 else 1 : Int)]) dX8_laysRow_126 rfl (by decide) rfl ?_
    refine x_aload_n (pc2 := 129) dX8_laysRow_128 rfl rfl ?_
    refine x_getf (pc2 := 132) (v := aR 109) fl_X8_154 ic_62 (vr_62_63 _) dX8_laysRow_129 rfl ?_
    refine x_iload (pc2 := 134) dX8_laysRow_132 rfl rfl ?_
    refine x_iload (pc2 := 136) dX8_laysRow_134 rfl rfl ?_
    obtain ⟨g6, k⟩ := k
    have kj : S_X8_laysRow sc d 144 [aR 62, aI l1, aI l2, aI l3, aI l4, aU, aI (if l2 < (s0 + s1) then 0 else 1 : Int)] [aI (if (if l2 < (s0 + s1) then 0 else 1 : Int) = 0 then 1 else 0 : Int), aI l4, aR 109] m Q := by
      obtain ⟨h7, k⟩ := k
      obtain ⟨h8, k⟩ := k
      refine x_iast (pc2 := 145) ic_109 h7 (by rw [al_109]; exact h8) dX8_laysRow_144 rfl ?_
      refine x_iload (pc2 := 147) dX8_laysRow_145 rfl rfl ?_
      obtain ⟨h9, k⟩ := k
      obtain ⟨k1, k2⟩ := k
      refine x_if_ne (tgt := 170) (pc2 := 150) dX8_laysRow_147 (by decide) rfl h9 (fun c10 => ?_) (fun c10 => ?_)
      · replace k := k1 c10
        refine x_iload (pc2 := 172) dX8_laysRow_170 rfl rfl ?_
        obtain ⟨k1, k2⟩ := k
        refine x_if_eq (tgt := 186) (pc2 := 175) dX8_laysRow_172 (by decide) rfl h9 (fun c11 => ?_) (fun c11 => ?_)
        · replace k := k1 c11
          refine x_iconst (pc2 := 187) dX8_laysRow_186 rfl ?_
          refine x_istore_n (pc2 := 188) (ls2 := [aR 62, aI l1, aI l2, aI 0, aI l4, aU, aI (if l2 < (s0 + s1) then 0 else 1 : Int)]) dX8_laysRow_187 rfl (by decide) rfl ?_
          refine x_iinc (pc2 := 191) (ls2 := [aR 62, aI l1, aI l2, aI 0, aI (l4 + 1), aU, aI (if l2 < (s0 + s1) then 0 else 1 : Int)]) dX8_laysRow_188 rfl rfl (by decide) rfl ?_
          refine x_goto (tgt := 20) dX8_laysRow_191 (by decide) ?_
          exact x_drop (drp_k (drp_k (drp_k (drp_k (drp_k (drp_k (drp_u drp_n))))))) k
        · replace k := k2 c11
          refine x_iload_n (pc2 := 176) dX8_laysRow_175 rfl rfl ?_
          refine x_aload_n (pc2 := 177) dX8_laysRow_176 rfl rfl ?_
          refine x_iload (pc2 := 179) dX8_laysRow_177 rfl rfl ?_
          exact x_drop (drp_k (drp_k (drp_k (drp_u (drp_k (drp_k (drp_u drp_n))))))) k
      · replace k := k2 c10
        refine x_aload_n (pc2 := 151) dX8_laysRow_150 rfl rfl ?_
        refine x_dup_r (pc2 := 152) dX8_laysRow_151 rfl (by decide) ?_
        refine x_getf (pc2 := 155) (v := aI ((wr m 109 l4 (if (if l2 < (s0 + s1) then 0 else 1 : Int) = 0 then 1 else 0 : Int)) 62 64)) fl_X8_519 ic_62 (fv_i _ ic_62 rfl) dX8_laysRow_152 rfl ?_
        refine x_aload_n (pc2 := 156) dX8_laysRow_155 rfl rfl ?_
        refine x_iconst (pc2 := 157) dX8_laysRow_156 rfl ?_
        exact k
    have h12 := g6 
    refine x_if_eq (tgt := 143) (pc2 := 139) dX8_laysRow_136 (by decide) rfl h12 (fun c13 => ?_) (fun c13 => ?_)
    · skip
      refine x_iconst (pc2 := 144) dX8_laysRow_143 rfl ?_
      exact x_topI (v := (if (if l2 < (s0 + s1) then 0 else 1 : Int) = 0 then 1 else 0 : Int)) (if_pos c13) kj
    · skip
      refine x_iconst (pc2 := 140) dX8_laysRow_139 rfl ?_
      refine x_goto (tgt := 144) dX8_laysRow_140 (by decide) ?_
      exact x_topI (v := (if (if l2 < (s0 + s1) then 0 else 1 : Int) = 0 then 1 else 0 : Int)) (if_neg c13) kj
  have h14 := g3 
  have h15 := g4 
  refine x_icmp_gt (tgt := 125) (pc2 := 121) dX8_laysRow_118 (by decide) rfl h14 h15 (fun c16 => ?_) (fun c16 => ?_)
  · skip
    refine x_iconst (pc2 := 126) dX8_laysRow_125 rfl ?_
    exact x_topI (v := (if l2 < (s0 + s1) then 0 else 1 : Int)) (if_pos c16) kj
  · skip
    refine x_iconst (pc2 := 122) dX8_laysRow_121 rfl ?_
    refine x_goto (tgt := 126) dX8_laysRow_122 (by decide) ?_
    exact x_topI (v := (if l2 < (s0 + s1) then 0 else 1 : Int)) (if_neg c16) kj
set_option maxRecDepth 4000 in
theorem g_X8_laysRow_160 {sc : List Int} {d : Nat} {m : Mem} {Q : Option AV → Mem → Prop} {l1 l2 l3 l4 l6 s1 s2 : Int} (k : S_X8_laysRow sc d 162 [aR 62, aI l1, aI l2, aI l3, aI l4, aU, aI l6] [aI 0, aR 62, aI s2, aI s1, aR 62] m Q) : S_X8_laysRow sc d 160 [aR 62, aI l1, aI l2, aI l3, aI l4, aU, aI l6] [aI s2, aI s1, aR 62] m Q := by
  refine x_aload_n (pc2 := 161) dX8_laysRow_160 rfl rfl ?_
  refine x_iconst (pc2 := 162) dX8_laysRow_161 rfl ?_
  exact k
set_option maxRecDepth 4000 in
theorem g_X8_laysRow_165 {sc : List Int} {d : Nat} {m : Mem} {Q : Option AV → Mem → Prop} {l1 l2 l3 l4 l6 s1 s2 s3 : Int} (k : (-2147483648 ≤ l6 ∧ l6 < 2147483648) ∧ ((l6 = 0) → (S_X8_laysRow sc d 20 [aR 62, aI l1, aI l2, aI 0, aI (l4 + 1), aU, aU] [] (wr m 62 64 (s1 + (s2 + s3))) Q)) ∧ (¬ (l6 = 0) → (S_X8_laysRow sc d 179 [aR 62, aI l1, aI l2, aU, aI l4, aU, aU] [aI l4, aR 62, aI l3] (wr m 62 64 (s1 + (s2 + s3))) Q))) : S_X8_laysRow sc d 165 [aR 62, aI l1, aI l2, aI l3, aI l4, aU, aI l6] [aI s3, aI s2, aI s1, aR 62] m Q := by
  refine x_iadd (pc2 := 166) dX8_laysRow_165 rfl ?_
  refine x_iadd (pc2 := 167) dX8_laysRow_166 rfl ?_
  refine x_putf (pc2 := 170) (x := (s1 + (s2 + s3))) fl_X8_519 ft_8_64 ic_62 (pv_i _ ic_62 rfl) (pn_i _) dX8_laysRow_167 rfl ?_
  refine x_iload (pc2 := 172) dX8_laysRow_170 rfl rfl ?_
  obtain ⟨h1, k⟩ := k
  obtain ⟨k1, k2⟩ := k
  refine x_if_eq (tgt := 186) (pc2 := 175) dX8_laysRow_172 (by decide) rfl h1 (fun c2 => ?_) (fun c2 => ?_)
  · replace k := k1 c2
    refine x_iconst (pc2 := 187) dX8_laysRow_186 rfl ?_
    refine x_istore_n (pc2 := 188) (ls2 := [aR 62, aI l1, aI l2, aI 0, aI l4, aU, aI l6]) dX8_laysRow_187 rfl (by decide) rfl ?_
    refine x_iinc (pc2 := 191) (ls2 := [aR 62, aI l1, aI l2, aI 0, aI (l4 + 1), aU, aI l6]) dX8_laysRow_188 rfl rfl (by decide) rfl ?_
    refine x_goto (tgt := 20) dX8_laysRow_191 (by decide) ?_
    exact x_drop (drp_k (drp_k (drp_k (drp_k (drp_k (drp_k (drp_u drp_n))))))) k
  · replace k := k2 c2
    refine x_iload_n (pc2 := 176) dX8_laysRow_175 rfl rfl ?_
    refine x_aload_n (pc2 := 177) dX8_laysRow_176 rfl rfl ?_
    refine x_iload (pc2 := 179) dX8_laysRow_177 rfl rfl ?_
    exact x_drop (drp_k (drp_k (drp_k (drp_u (drp_k (drp_k (drp_u drp_n))))))) k
set_option maxRecDepth 4000 in
theorem g_X8_laysRow_182 {sc : List Int} {d : Nat} {m : Mem} {Q : Option AV → Mem → Prop} {l1 l2 l4 s0 s1 : Int} (k : S_X8_laysRow sc d 20 [aR 62, aI l1, aI l2, aI (s0 + s1), aI (l4 + 1), aU, aU] [] m Q) : S_X8_laysRow sc d 182 [aR 62, aI l1, aI l2, aU, aI l4, aU, aU] [aI s1, aI s0] m Q := by
  refine x_iadd (pc2 := 183) dX8_laysRow_182 rfl ?_
  refine x_goto (tgt := 187) dX8_laysRow_183 (by decide) ?_
  refine x_istore_n (pc2 := 188) (ls2 := [aR 62, aI l1, aI l2, aI (s0 + s1), aI l4, aU, aU]) dX8_laysRow_187 rfl (by decide) rfl ?_
  refine x_iinc (pc2 := 191) (ls2 := [aR 62, aI l1, aI l2, aI (s0 + s1), aI (l4 + 1), aU, aU]) dX8_laysRow_188 rfl rfl (by decide) rfl ?_
  refine x_goto (tgt := 20) dX8_laysRow_191 (by decide) ?_
  exact k
theorem c_X8_laysRow_7 {sc : List Int} {d d2 : Nat} {m m2 : Mem} {Q : Option AV → Mem → Prop} {l1 l2 s1 : Int} (hM : C_X8_means sc d2 [aR 62, aI s1] m none m2) (hd : d2 + 1 ≤ d) (k : S_X8_laysRow sc d 10 [aR 62, aI l1, aI l2, aU, aU, aU, aU] [] m2 Q) : S_X8_laysRow sc d 7 [aR 62, aI l1, aI l2, aU, aU, aU, aU] [aI s1, aR 62] m Q := x_callV (as := [aI s1]) (rest := []) hM mk_X8_means mv_X8_means lk_X8_508 (Or.inl ⟨8, (RX8, TX8, 123), ic_62, Nat.le_of_ble_eq_true rfl, rfl, rfl⟩) hd rfl rfl (Nat.le_of_ble_eq_true rfl) dX8_laysRow_7 rfl k
theorem c_X8_laysRow_23 {sc : List Int} {d d2 : Nat} {m m2 : Mem} {Q : Option AV → Mem → Prop} {l1 l2 l3 l4 s0 : Int} {v : Int} (hM : C_X8_seamMany sc d2 [aR 62] m (some (aI v)) m2) (hd : d2 + 1 ≤ d) (k : S_X8_laysRow sc d 26 [aR 62, aI l1, aI l2, aI l3, aI l4, aU, aU] [aI v, aI s0] m2 Q) : S_X8_laysRow sc d 23 [aR 62, aI l1, aI l2, aI l3, aI l4, aU, aU] [aR 62, aI s0] m Q := x_callV (as := []) (rest := [aI s0]) hM mk_X8_seamMany mv_X8_seamMany lk_X8_431 (Or.inl ⟨8, (RX8, TX8, 123), ic_62, Nat.le_of_ble_eq_true rfl, rfl, rfl⟩) hd rfl rfl (Nat.le_of_ble_eq_true rfl) dX8_laysRow_23 rfl k
theorem c_X8_laysRow_45 {sc : List Int} {d d2 : Nat} {m m2 : Mem} {Q : Option AV → Mem → Prop} {l1 l2 l3 l4 s1 s3 : Int} {v : Int} (hM : C_X8_settingOf sc d2 [aR 62, aI s3] m (some (aI v)) m2) (hd : d2 + 1 ≤ d) (k : S_X8_laysRow sc d 48 [aR 62, aI l1, aI l2, aI l3, aI l4, aU, aU] [aI v, aI s1, aR 62] m2 Q) : S_X8_laysRow sc d 45 [aR 62, aI l1, aI l2, aI l3, aI l4, aU, aU] [aI s3, aR 62, aI s1, aR 62] m Q := x_callV (as := [aI s3]) (rest := [aI s1, aR 62]) hM mk_X8_settingOf mv_X8_settingOf lk_X8_461 (Or.inl ⟨8, (RX8, TX8, 123), ic_62, Nat.le_of_ble_eq_true rfl, rfl, rfl⟩) hd rfl rfl (Nat.le_of_ble_eq_true rfl) dX8_laysRow_45 rfl k
theorem c_X8_laysRow_58 {sc : List Int} {d d2 : Nat} {m m2 : Mem} {Q : Option AV → Mem → Prop} {l1 l2 l3 l4 s1 s2 s3 s4 : Int} {v : Int} (hM : C_X8_changesAt sc d2 [aR 62, aI s1, aI s2, aI s3, aI s4] m (some (aI v)) m2) (hd : d2 + 1 ≤ d) (k : S_X8_laysRow sc d 61 [aR 62, aI l1, aI l2, aI l3, aI l4, aU, aU] [aI v] m2 Q) : S_X8_laysRow sc d 58 [aR 62, aI l1, aI l2, aI l3, aI l4, aU, aU] [aI s4, aI s3, aI s2, aI s1, aR 62] m Q := x_callV (as := [aI s1, aI s2, aI s3, aI s4]) (rest := []) hM mk_X8_changesAt mv_X8_changesAt lk_X8_522 (Or.inl ⟨8, (RX8, TX8, 123), ic_62, Nat.le_of_ble_eq_true rfl, rfl, rfl⟩) hd rfl rfl (Nat.le_of_ble_eq_true rfl) dX8_laysRow_58 rfl k
theorem c_X8_laysRow_75 {sc : List Int} {d d2 : Nat} {m m2 : Mem} {Q : Option AV → Mem → Prop} {l1 l2 l4 l5 s1 s3 : Int} {v : Int} (hM : C_X8_settingOf sc d2 [aR 62, aI s3] m (some (aI v)) m2) (hd : d2 + 1 ≤ d) (k : S_X8_laysRow sc d 78 [aR 62, aI l1, aI l2, aU, aI l4, aI l5, aU] [aI v, aI s1, aR 62] m2 Q) : S_X8_laysRow sc d 75 [aR 62, aI l1, aI l2, aU, aI l4, aI l5, aU] [aI s3, aR 62, aI s1, aR 62] m Q := x_callV (as := [aI s3]) (rest := [aI s1, aR 62]) hM mk_X8_settingOf mv_X8_settingOf lk_X8_461 (Or.inl ⟨8, (RX8, TX8, 123), ic_62, Nat.le_of_ble_eq_true rfl, rfl, rfl⟩) hd rfl rfl (Nat.le_of_ble_eq_true rfl) dX8_laysRow_75 rfl k
theorem c_X8_laysRow_113 {sc : List Int} {d d2 : Nat} {m m2 : Mem} {Q : Option AV → Mem → Prop} {l1 l2 l3 l4 s0 s2 : Int} {v : Int} (hM : C_X8_takesOf sc d2 [aR 62, aI s2] m (some (aI v)) m2) (hd : d2 + 1 ≤ d) (k : S_X8_laysRow sc d 116 [aR 62, aI l1, aI l2, aI l3, aI l4, aU, aU] [aI v, aI s0] m2 Q) : S_X8_laysRow sc d 113 [aR 62, aI l1, aI l2, aI l3, aI l4, aU, aU] [aI s2, aR 62, aI s0] m Q := x_callV (as := [aI s2]) (rest := [aI s0]) hM mk_X8_takesOf mv_X8_takesOf lk_X8_434 (Or.inl ⟨8, (RX8, TX8, 123), ic_62, Nat.le_of_ble_eq_true rfl, rfl, rfl⟩) hd rfl rfl (Nat.le_of_ble_eq_true rfl) dX8_laysRow_113 rfl k
theorem c_X8_laysRow_157 {sc : List Int} {d d2 : Nat} {m m2 : Mem} {Q : Option AV → Mem → Prop} {l1 l2 l3 l4 l6 s1 s3 : Int} {v : Int} (hM : C_X8_settingOf sc d2 [aR 62, aI s3] m (some (aI v)) m2) (hd : d2 + 1 ≤ d) (k : S_X8_laysRow sc d 160 [aR 62, aI l1, aI l2, aI l3, aI l4, aU, aI l6] [aI v, aI s1, aR 62] m2 Q) : S_X8_laysRow sc d 157 [aR 62, aI l1, aI l2, aI l3, aI l4, aU, aI l6] [aI s3, aR 62, aI s1, aR 62] m Q := x_callV (as := [aI s3]) (rest := [aI s1, aR 62]) hM mk_X8_settingOf mv_X8_settingOf lk_X8_461 (Or.inl ⟨8, (RX8, TX8, 123), ic_62, Nat.le_of_ble_eq_true rfl, rfl, rfl⟩) hd rfl rfl (Nat.le_of_ble_eq_true rfl) dX8_laysRow_157 rfl k
theorem c_X8_laysRow_162 {sc : List Int} {d d2 : Nat} {m m2 : Mem} {Q : Option AV → Mem → Prop} {l1 l2 l3 l4 l6 s1 s2 s4 : Int} {v : Int} (hM : C_X8_settingOf sc d2 [aR 62, aI s4] m (some (aI v)) m2) (hd : d2 + 1 ≤ d) (k : S_X8_laysRow sc d 165 [aR 62, aI l1, aI l2, aI l3, aI l4, aU, aI l6] [aI v, aI s2, aI s1, aR 62] m2 Q) : S_X8_laysRow sc d 162 [aR 62, aI l1, aI l2, aI l3, aI l4, aU, aI l6] [aI s4, aR 62, aI s2, aI s1, aR 62] m Q := x_callV (as := [aI s4]) (rest := [aI s2, aI s1, aR 62]) hM mk_X8_settingOf mv_X8_settingOf lk_X8_461 (Or.inl ⟨8, (RX8, TX8, 123), ic_62, Nat.le_of_ble_eq_true rfl, rfl, rfl⟩) hd rfl rfl (Nat.le_of_ble_eq_true rfl) dX8_laysRow_162 rfl k
theorem c_X8_laysRow_179 {sc : List Int} {d d2 : Nat} {m m2 : Mem} {Q : Option AV → Mem → Prop} {l1 l2 l4 s0 s2 : Int} {v : Int} (hM : C_X8_takesOf sc d2 [aR 62, aI s2] m (some (aI v)) m2) (hd : d2 + 1 ≤ d) (k : S_X8_laysRow sc d 182 [aR 62, aI l1, aI l2, aU, aI l4, aU, aU] [aI v, aI s0] m2 Q) : S_X8_laysRow sc d 179 [aR 62, aI l1, aI l2, aU, aI l4, aU, aU] [aI s2, aR 62, aI s0] m Q := x_callV (as := [aI s2]) (rest := [aI s0]) hM mk_X8_takesOf mv_X8_takesOf lk_X8_434 (Or.inl ⟨8, (RX8, TX8, 123), ic_62, Nat.le_of_ble_eq_true rfl, rfl, rfl⟩) hd rfl rfl (Nat.le_of_ble_eq_true rfl) dX8_laysRow_179 rfl k
set_option maxRecDepth 4000 in
theorem g_X8_row_0 {sc : List Int} {d : Nat} {m : Mem} {Q : Option AV → Mem → Prop} {l1 l2 l3 l4 : Int} (k : S_X8_row sc d 2 [aR 62, aI l1, aI l2, aI l3, aI l4] [aI l1, aR 62] m Q) : S_X8_row sc d 0 [aR 62, aI l1, aI l2, aI l3, aI l4] [] m Q := by
  refine x_aload_n (pc2 := 1) dX8_row_0 rfl rfl ?_
  refine x_iload_n (pc2 := 2) dX8_row_1 rfl rfl ?_
  exact k
set_option maxRecDepth 4000 in
theorem g_X8_row_5 {sc : List Int} {d : Nat} {m : Mem} {Q : Option AV → Mem → Prop} {l1 l2 l3 l4 s0 : Int} (k : (-2147483648 ≤ s0 ∧ s0 < 2147483648) ∧ ((s0 = 0) → (Q (some (aI (-1))) m)) ∧ (¬ (s0 = 0) → ((-2147483648 ≤ l2 ∧ l2 < 2147483648) ∧ S_X8_row sc d 14 [aR 62, aI l1, aI l2, aI l3, aI l4] [aJ 99, aJ 1, aJ l2] m Q))) : S_X8_row sc d 5 [aR 62, aI l1, aI l2, aI l3, aI l4] [aI s0] m Q := by
  obtain ⟨h1, k⟩ := k
  obtain ⟨k1, k2⟩ := k
  refine x_if_eq (tgt := 49) (pc2 := 8) dX8_row_5 (by decide) rfl h1 (fun c2 => ?_) (fun c2 => ?_)
  · replace k := k1 c2
    refine x_iconst (pc2 := 50) dX8_row_49 rfl ?_
    exact x_ireturn dX8_row_50 ⟨.int, rfl, rfl⟩ k
  · replace k := k2 c2
    refine x_iload_n (pc2 := 9) dX8_row_8 rfl rfl ?_
    obtain ⟨h3, k⟩ := k
    refine x_i2l (pc2 := 10) dX8_row_9 rfl h3 ?_
    refine x_lconst (pc2 := 11) (v := 1) dX8_row_10 rfl rfl ?_
    refine x_ldc2 (pc2 := 14) (x := 99) kc_X8_513 rfl dX8_row_11 rfl ?_
    exact k
set_option maxRecDepth 4000 in
theorem g_X8_row_17 {sc : List Int} {d : Nat} {m : Mem} {Q : Option AV → Mem → Prop} {l1 l2 l3 l4 s0 : Int} (k : (-2147483648 ≤ s0 ∧ s0 < 2147483648) ∧ ((s0 = 0) → (Q (some (aI (-1))) m)) ∧ (¬ (s0 = 0) → ((-2147483648 ≤ l3 ∧ l3 < 2147483648) ∧ S_X8_row sc d 24 [aR 62, aI l1, aI l2, aI l3, aI l4] [aR 62, aJ 0, aJ l3] m Q))) : S_X8_row sc d 17 [aR 62, aI l1, aI l2, aI l3, aI l4] [aI s0] m Q := by
  obtain ⟨h1, k⟩ := k
  obtain ⟨k1, k2⟩ := k
  refine x_if_eq (tgt := 49) (pc2 := 20) dX8_row_17 (by decide) rfl h1 (fun c2 => ?_) (fun c2 => ?_)
  · replace k := k1 c2
    refine x_iconst (pc2 := 50) dX8_row_49 rfl ?_
    exact x_ireturn dX8_row_50 ⟨.int, rfl, rfl⟩ k
  · replace k := k2 c2
    refine x_iload_n (pc2 := 21) dX8_row_20 rfl rfl ?_
    obtain ⟨h3, k⟩ := k
    refine x_i2l (pc2 := 22) dX8_row_21 rfl h3 ?_
    refine x_lconst (pc2 := 23) (v := 0) dX8_row_22 rfl rfl ?_
    refine x_aload_n (pc2 := 24) dX8_row_23 rfl rfl ?_
    exact k
set_option maxRecDepth 4000 in
theorem g_X8_row_27 {sc : List Int} {d : Nat} {m : Mem} {Q : Option AV → Mem → Prop} {l1 l2 l3 l4 s0 s1 s2 : Int} (k : (-2147483648 ≤ (s2 - 1) ∧ (s2 - 1) < 2147483648) ∧ S_X8_row sc d 30 [aR 62, aI l1, aI l2, aI l3, aI l4] [aJ (s2 - 1), aJ s1, aJ s0] m Q) : S_X8_row sc d 27 [aR 62, aI l1, aI l2, aI l3, aI l4] [aI s2, aJ s1, aJ s0] m Q := by
  refine x_iconst (pc2 := 28) dX8_row_27 rfl ?_
  refine x_isub (pc2 := 29) dX8_row_28 rfl ?_
  obtain ⟨h1, k⟩ := k
  refine x_i2l (pc2 := 30) dX8_row_29 rfl h1 ?_
  exact k
set_option maxRecDepth 4000 in
theorem g_X8_row_33 {sc : List Int} {d : Nat} {m : Mem} {Q : Option AV → Mem → Prop} {l1 l2 l3 l4 s0 : Int} (k : (-2147483648 ≤ s0 ∧ s0 < 2147483648) ∧ ((s0 = 0) → (Q (some (aI (-1))) m)) ∧ (¬ (s0 = 0) → ((-2147483648 ≤ l4 ∧ l4 < 2147483648) ∧ S_X8_row sc d 43 [aR 62, aI l1, aI l2, aI l3, aI l4] [aJ 2, aJ 0, aJ l4] m Q))) : S_X8_row sc d 33 [aR 62, aI l1, aI l2, aI l3, aI l4] [aI s0] m Q := by
  obtain ⟨h1, k⟩ := k
  obtain ⟨k1, k2⟩ := k
  refine x_if_eq (tgt := 49) (pc2 := 36) dX8_row_33 (by decide) rfl h1 (fun c2 => ?_) (fun c2 => ?_)
  · replace k := k1 c2
    refine x_iconst (pc2 := 50) dX8_row_49 rfl ?_
    exact x_ireturn dX8_row_50 ⟨.int, rfl, rfl⟩ k
  · replace k := k2 c2
    refine x_iload (pc2 := 38) dX8_row_36 rfl rfl ?_
    obtain ⟨h3, k⟩ := k
    refine x_i2l (pc2 := 39) dX8_row_38 rfl h3 ?_
    refine x_lconst (pc2 := 40) (v := 0) dX8_row_39 rfl rfl ?_
    refine x_ldc2 (pc2 := 43) (x := 2) kc_X8_526 rfl dX8_row_40 rfl ?_
    exact k
set_option maxRecDepth 4000 in
theorem g_X8_row_46 {sc : List Int} {d : Nat} {m : Mem} {Q : Option AV → Mem → Prop} {l1 l2 l3 l4 s0 : Int} (k : (-2147483648 ≤ s0 ∧ s0 < 2147483648) ∧ ((s0 ≠ 0) → (S_X8_row sc d 54 [aR 62, aU, aU, aI l3, aI l4] [aI l2, aI l1, aR 62] m Q)) ∧ (¬ (s0 ≠ 0) → (Q (some (aI (-1))) m))) : S_X8_row sc d 46 [aR 62, aI l1, aI l2, aI l3, aI l4] [aI s0] m Q := by
  obtain ⟨h1, k⟩ := k
  obtain ⟨k1, k2⟩ := k
  refine x_if_ne (tgt := 51) (pc2 := 49) dX8_row_46 (by decide) rfl h1 (fun c2 => ?_) (fun c2 => ?_)
  · replace k := k1 c2
    refine x_aload_n (pc2 := 52) dX8_row_51 rfl rfl ?_
    refine x_iload_n (pc2 := 53) dX8_row_52 rfl rfl ?_
    refine x_iload_n (pc2 := 54) dX8_row_53 rfl rfl ?_
    exact x_drop (drp_k (drp_u (drp_u (drp_k (drp_k drp_n))))) k
  · replace k := k2 c2
    refine x_iconst (pc2 := 50) dX8_row_49 rfl ?_
    exact x_ireturn dX8_row_50 ⟨.int, rfl, rfl⟩ k
set_option maxRecDepth 4000 in
theorem g_X8_row_57 {sc : List Int} {d : Nat} {m : Mem} {Q : Option AV → Mem → Prop} {l3 l4 : Int} (k : ((-2147483648 ≤ l4 ∧ l4 < 2147483648)) ∧ ((l4 ≠ 0) → (l4 ≠ 1) → (0 ≤ l3)) ∧ ((l4 ≠ 0) → (l4 ≠ 1) → (l3 < 10)) ∧ ((l4 ≠ 0) → (¬ (l4 ≠ 1)) → (0 ≤ l3)) ∧ ((l4 ≠ 0) → (¬ (l4 ≠ 1)) → (l3 < 10)) ∧ ((¬ (l4 ≠ 0)) → (0 ≤ l3)) ∧ ((¬ (l4 ≠ 0)) → (l3 < 10)) ∧ Q (some (aI (if l4 ≠ 0 then (if l4 ≠ 1 then (m 109 l3) else (m 108 l3) : Int) else (m 107 l3) : Int))) m) : S_X8_row sc d 57 [aR 62, aU, aU, aI l3, aI l4] [] m Q := by
  refine x_iload (pc2 := 59) dX8_row_57 rfl rfl ?_
  obtain ⟨g2, k⟩ := k
  obtain ⟨g5, k⟩ := k
  obtain ⟨g6, k⟩ := k
  obtain ⟨g9, k⟩ := k
  obtain ⟨g10, k⟩ := k
  obtain ⟨g13, k⟩ := k
  obtain ⟨g14, k⟩ := k
  have kj : S_X8_row sc d 92 [aR 62, aU, aU, aI l3, aI l4] [aI (if l4 ≠ 0 then (if l4 ≠ 1 then (m 109 l3) else (m 108 l3) : Int) else (m 107 l3) : Int)] m Q := by
    exact x_ireturn dX8_row_92 ⟨.int, rfl, rfl⟩ k
  have h15 := g2 
  refine x_if_ne (tgt := 71) (pc2 := 62) dX8_row_59 (by decide) rfl h15 (fun c16 => ?_) (fun c16 => ?_)
  · skip
    refine x_iload (pc2 := 73) dX8_row_71 rfl rfl ?_
    refine x_iconst (pc2 := 74) dX8_row_73 rfl ?_
    refine x_icmp_ne (tgt := 86) (pc2 := 77) dX8_row_74 (by decide) rfl h15 (by decide) (fun c17 => ?_) (fun c17 => ?_)
    · skip
      refine x_aload_n (pc2 := 87) dX8_row_86 rfl rfl ?_
      refine x_getf (pc2 := 90) (v := aR 109) fl_X8_154 ic_62 (vr_62_63 _) dX8_row_87 rfl ?_
      refine x_iload_n (pc2 := 91) dX8_row_90 rfl rfl ?_
      have h18 := g5 c16 c17
      have h19 := g6 c16 c17
      refine x_iald (pc2 := 92) ic_109 h18 (by rw [al_109]; exact h19) dX8_row_91 rfl ?_
      exact x_topI (v := (if l4 ≠ 0 then (if l4 ≠ 1 then (m 109 l3) else (m 108 l3) : Int) else (m 107 l3) : Int)) ((if_pos c16).trans (if_pos c17)) kj
    · skip
      refine x_aload_n (pc2 := 78) dX8_row_77 rfl rfl ?_
      refine x_getf (pc2 := 81) (v := aR 108) fl_X8_151 ic_62 (vr_62_62 _) dX8_row_78 rfl ?_
      refine x_iload_n (pc2 := 82) dX8_row_81 rfl rfl ?_
      have h20 := g9 c16 c17
      have h21 := g10 c16 c17
      refine x_iald (pc2 := 83) ic_108 h20 (by rw [al_108]; exact h21) dX8_row_82 rfl ?_
      refine x_goto (tgt := 92) dX8_row_83 (by decide) ?_
      exact x_topI (v := (if l4 ≠ 0 then (if l4 ≠ 1 then (m 109 l3) else (m 108 l3) : Int) else (m 107 l3) : Int)) ((if_pos c16).trans (if_neg c17)) kj
  · skip
    refine x_aload_n (pc2 := 63) dX8_row_62 rfl rfl ?_
    refine x_getf (pc2 := 66) (v := aR 107) fl_X8_148 ic_62 (vr_62_61 _) dX8_row_63 rfl ?_
    refine x_iload_n (pc2 := 67) dX8_row_66 rfl rfl ?_
    have h22 := g13 c16
    have h23 := g14 c16
    refine x_iald (pc2 := 68) ic_107 h22 (by rw [al_107]; exact h23) dX8_row_67 rfl ?_
    refine x_goto (tgt := 92) dX8_row_68 (by decide) ?_
    exact x_topI (v := (if l4 ≠ 0 then (if l4 ≠ 1 then (m 109 l3) else (m 108 l3) : Int) else (m 107 l3) : Int)) (if_neg c16) kj
theorem c_X8_row_2 {sc : List Int} {d d2 : Nat} {m m2 : Mem} {Q : Option AV → Mem → Prop} {l1 l2 l3 l4 s1 : Int} {v : Int} (hM : C_X8_isSewer sc d2 [aR 62, aI s1] m (some (aI v)) m2) (hd : d2 + 1 ≤ d) (k : S_X8_row sc d 5 [aR 62, aI l1, aI l2, aI l3, aI l4] [aI v] m2 Q) : S_X8_row sc d 2 [aR 62, aI l1, aI l2, aI l3, aI l4] [aI s1, aR 62] m Q := x_callV (as := [aI s1]) (rest := []) hM mk_X8_isSewer mv_X8_isSewer lk_X8_505 (Or.inl ⟨8, (RX8, TX8, 123), ic_62, Nat.le_of_ble_eq_true rfl, rfl, rfl⟩) hd rfl rfl (Nat.le_of_ble_eq_true rfl) dX8_row_2 rfl k
theorem c_X8_row_14 {sc : List Int} {d d2 : Nat} {m m2 : Mem} {Q : Option AV → Mem → Prop} {l1 l2 l3 l4 s0 s1 s2 : Int} {v : Int} (hM : C_X8_isIn sc d2 [aJ s0, aJ s1, aJ s2] m (some (aI v)) m2) (hd : d2 + 1 ≤ d) (k : S_X8_row sc d 17 [aR 62, aI l1, aI l2, aI l3, aI l4] [aI v] m2 Q) : S_X8_row sc d 14 [aR 62, aI l1, aI l2, aI l3, aI l4] [aJ s2, aJ s1, aJ s0] m Q := x_callS (as := [aJ s0, aJ s1, aJ s2]) (rest := []) hM mk_X8_isIn ms_X8_isIn lk_X8_333 hd rfl rfl (Nat.le_of_ble_eq_true rfl) dX8_row_14 rfl k
theorem c_X8_row_24 {sc : List Int} {d d2 : Nat} {m m2 : Mem} {Q : Option AV → Mem → Prop} {l1 l2 l3 l4 s0 s1 : Int} {v : Int} (hM : C_X8_seamMany sc d2 [aR 62] m (some (aI v)) m2) (hd : d2 + 1 ≤ d) (k : S_X8_row sc d 27 [aR 62, aI l1, aI l2, aI l3, aI l4] [aI v, aJ s1, aJ s0] m2 Q) : S_X8_row sc d 24 [aR 62, aI l1, aI l2, aI l3, aI l4] [aR 62, aJ s1, aJ s0] m Q := x_callV (as := []) (rest := [aJ s1, aJ s0]) hM mk_X8_seamMany mv_X8_seamMany lk_X8_431 (Or.inl ⟨8, (RX8, TX8, 123), ic_62, Nat.le_of_ble_eq_true rfl, rfl, rfl⟩) hd rfl rfl (Nat.le_of_ble_eq_true rfl) dX8_row_24 rfl k
theorem c_X8_row_30 {sc : List Int} {d d2 : Nat} {m m2 : Mem} {Q : Option AV → Mem → Prop} {l1 l2 l3 l4 s0 s1 s2 : Int} {v : Int} (hM : C_X8_isIn sc d2 [aJ s0, aJ s1, aJ s2] m (some (aI v)) m2) (hd : d2 + 1 ≤ d) (k : S_X8_row sc d 33 [aR 62, aI l1, aI l2, aI l3, aI l4] [aI v] m2 Q) : S_X8_row sc d 30 [aR 62, aI l1, aI l2, aI l3, aI l4] [aJ s2, aJ s1, aJ s0] m Q := x_callS (as := [aJ s0, aJ s1, aJ s2]) (rest := []) hM mk_X8_isIn ms_X8_isIn lk_X8_333 hd rfl rfl (Nat.le_of_ble_eq_true rfl) dX8_row_30 rfl k
theorem c_X8_row_43 {sc : List Int} {d d2 : Nat} {m m2 : Mem} {Q : Option AV → Mem → Prop} {l1 l2 l3 l4 s0 s1 s2 : Int} {v : Int} (hM : C_X8_isIn sc d2 [aJ s0, aJ s1, aJ s2] m (some (aI v)) m2) (hd : d2 + 1 ≤ d) (k : S_X8_row sc d 46 [aR 62, aI l1, aI l2, aI l3, aI l4] [aI v] m2 Q) : S_X8_row sc d 43 [aR 62, aI l1, aI l2, aI l3, aI l4] [aJ s2, aJ s1, aJ s0] m Q := x_callS (as := [aJ s0, aJ s1, aJ s2]) (rest := []) hM mk_X8_isIn ms_X8_isIn lk_X8_333 hd rfl rfl (Nat.le_of_ble_eq_true rfl) dX8_row_43 rfl k
theorem c_X8_row_54 {sc : List Int} {d d2 : Nat} {m m2 : Mem} {Q : Option AV → Mem → Prop} {l3 l4 s1 s2 : Int} (hM : C_X8_laysRow sc d2 [aR 62, aI s1, aI s2] m none m2) (hd : d2 + 1 ≤ d) (k : S_X8_row sc d 57 [aR 62, aU, aU, aI l3, aI l4] [] m2 Q) : S_X8_row sc d 54 [aR 62, aU, aU, aI l3, aI l4] [aI s2, aI s1, aR 62] m Q := x_callV (as := [aI s1, aI s2]) (rest := []) hM mk_X8_laysRow mv_X8_laysRow lk_X8_528 (Or.inl ⟨8, (RX8, TX8, 123), ic_62, Nat.le_of_ble_eq_true rfl, rfl, rfl⟩) hd rfl rfl (Nat.le_of_ble_eq_true rfl) dX8_row_54 rfl k
set_option maxRecDepth 4000 in
theorem g_X8_firstOf_0 {sc : List Int} {d : Nat} {m : Mem} {Q : Option AV → Mem → Prop} {l0 l1 : Int} (Hl0 : IsC l0 100) (k : S_X8_firstOf sc d 2 [aR l0, aI l1, aI 0] [] m Q) : S_X8_firstOf sc d 0 [aR l0, aI l1, aU] [] m Q := by
  refine x_iconst (pc2 := 1) dX8_firstOf_0 rfl ?_
  refine x_istore_n (pc2 := 2) (ls2 := [aR l0, aI l1, aI 0]) dX8_firstOf_1 rfl (by decide) rfl ?_
  exact k
set_option maxRecDepth 4000 in
theorem g_X8_firstOf_2 {sc : List Int} {d : Nat} {m : Mem} {Q : Option AV → Mem → Prop} {l0 l1 l2 : Int} (Hl0 : IsC l0 100) (k : (-2147483648 ≤ l2 ∧ l2 < 2147483648) ∧ (-2147483648 ≤ l1 ∧ l1 < 2147483648) ∧ ((l1 ≤ l2) → (Q (some (aI (-1))) m)) ∧ (¬ (l1 ≤ l2) → ((0 ≤ l2) ∧ (l2 < alen l0) ∧ (-2147483648 ≤ (m l0 l2) ∧ (m l0 l2) < 2147483648) ∧ (((m l0 l2) ≠ 1) → (S_X8_firstOf sc d 2 [aR l0, aI l1, aI (l2 + 1)] [] m Q)) ∧ (¬ ((m l0 l2) ≠ 1) → (Q (some (aI l2)) m))))) : S_X8_firstOf sc d 2 [aR l0, aI l1, aI l2] [] m Q := by
  refine x_iload_n (pc2 := 3) dX8_firstOf_2 rfl rfl ?_
  refine x_iload_n (pc2 := 4) dX8_firstOf_3 rfl rfl ?_
  obtain ⟨h1, k⟩ := k
  obtain ⟨h2, k⟩ := k
  obtain ⟨k1, k2⟩ := k
  refine x_icmp_ge (tgt := 22) (pc2 := 7) dX8_firstOf_4 (by decide) rfl h1 h2 (fun c3 => ?_) (fun c3 => ?_)
  · replace k := k1 c3
    refine x_iconst (pc2 := 23) dX8_firstOf_22 rfl ?_
    exact x_ireturn dX8_firstOf_23 ⟨.int, rfl, rfl⟩ k
  · replace k := k2 c3
    refine x_aload_n (pc2 := 8) dX8_firstOf_7 rfl rfl ?_
    refine x_iload_n (pc2 := 9) dX8_firstOf_8 rfl rfl ?_
    obtain ⟨h4, k⟩ := k
    obtain ⟨h5, k⟩ := k
    refine x_iald (pc2 := 10) Hl0 h4 h5 dX8_firstOf_9 rfl ?_
    refine x_iconst (pc2 := 11) dX8_firstOf_10 rfl ?_
    obtain ⟨h6, k⟩ := k
    obtain ⟨k1, k2⟩ := k
    refine x_icmp_ne (tgt := 16) (pc2 := 14) dX8_firstOf_11 (by decide) rfl h6 (by decide) (fun c7 => ?_) (fun c7 => ?_)
    · replace k := k1 c7
      refine x_iinc (pc2 := 19) (ls2 := [aR l0, aI l1, aI (l2 + 1)]) dX8_firstOf_16 rfl rfl (by decide) rfl ?_
      refine x_goto (tgt := 2) dX8_firstOf_19 (by decide) ?_
      exact k
    · replace k := k2 c7
      refine x_iload_n (pc2 := 15) dX8_firstOf_14 rfl rfl ?_
      exact x_ireturn dX8_firstOf_15 ⟨.int, rfl, rfl⟩ k
set_option maxRecDepth 4000 in
theorem g_X8_sumOf_0 {sc : List Int} {d : Nat} {m : Mem} {Q : Option AV → Mem → Prop} {l0 l1 : Int} (Hl0 : IsC l0 100) (k : S_X8_sumOf sc d 4 [aR l0, aI l1, aI 0, aI 0] [] m Q) : S_X8_sumOf sc d 0 [aR l0, aI l1, aU, aU] [] m Q := by
  refine x_iconst (pc2 := 1) dX8_sumOf_0 rfl ?_
  refine x_istore_n (pc2 := 2) (ls2 := [aR l0, aI l1, aI 0, aU]) dX8_sumOf_1 rfl (by decide) rfl ?_
  refine x_iconst (pc2 := 3) dX8_sumOf_2 rfl ?_
  refine x_istore_n (pc2 := 4) (ls2 := [aR l0, aI l1, aI 0, aI 0]) dX8_sumOf_3 rfl (by decide) rfl ?_
  exact k
set_option maxRecDepth 4000 in
theorem g_X8_sumOf_4 {sc : List Int} {d : Nat} {m : Mem} {Q : Option AV → Mem → Prop} {l0 l1 l2 l3 : Int} (Hl0 : IsC l0 100) (k : (-2147483648 ≤ l3 ∧ l3 < 2147483648) ∧ (-2147483648 ≤ l1 ∧ l1 < 2147483648) ∧ ((l1 ≤ l3) → (Q (some (aI l2)) m)) ∧ (¬ (l1 ≤ l3) → ((0 ≤ l3) ∧ (l3 < alen l0) ∧ S_X8_sumOf sc d 4 [aR l0, aI l1, aI (l2 + (m l0 l3)), aI (l3 + 1)] [] m Q))) : S_X8_sumOf sc d 4 [aR l0, aI l1, aI l2, aI l3] [] m Q := by
  refine x_iload_n (pc2 := 5) dX8_sumOf_4 rfl rfl ?_
  refine x_iload_n (pc2 := 6) dX8_sumOf_5 rfl rfl ?_
  obtain ⟨h1, k⟩ := k
  obtain ⟨h2, k⟩ := k
  obtain ⟨k1, k2⟩ := k
  refine x_icmp_ge (tgt := 21) (pc2 := 9) dX8_sumOf_6 (by decide) rfl h1 h2 (fun c3 => ?_) (fun c3 => ?_)
  · replace k := k1 c3
    refine x_iload_n (pc2 := 22) dX8_sumOf_21 rfl rfl ?_
    exact x_ireturn dX8_sumOf_22 ⟨.int, rfl, rfl⟩ k
  · replace k := k2 c3
    refine x_iload_n (pc2 := 10) dX8_sumOf_9 rfl rfl ?_
    refine x_aload_n (pc2 := 11) dX8_sumOf_10 rfl rfl ?_
    refine x_iload_n (pc2 := 12) dX8_sumOf_11 rfl rfl ?_
    obtain ⟨h4, k⟩ := k
    obtain ⟨h5, k⟩ := k
    refine x_iald (pc2 := 13) Hl0 h4 h5 dX8_sumOf_12 rfl ?_
    refine x_iadd (pc2 := 14) dX8_sumOf_13 rfl ?_
    refine x_istore_n (pc2 := 15) (ls2 := [aR l0, aI l1, aI (l2 + (m l0 l3)), aI l3]) dX8_sumOf_14 rfl (by decide) rfl ?_
    refine x_iinc (pc2 := 18) (ls2 := [aR l0, aI l1, aI (l2 + (m l0 l3)), aI (l3 + 1)]) dX8_sumOf_15 rfl rfl (by decide) rfl ?_
    refine x_goto (tgt := 4) dX8_sumOf_18 (by decide) ?_
    exact k
set_option maxRecDepth 4000 in
theorem g_X8_judge_0 {sc : List Int} {d : Nat} {m : Mem} {Q : Option AV → Mem → Prop} {l1 l2 l3 : Int} (k : S_X8_judge sc d 2 [aR 62, aI l1, aI l2, aI l3] [aI l1, aR 62] m Q) : S_X8_judge sc d 0 [aR 62, aI l1, aI l2, aI l3] [] m Q := by
  refine x_aload_n (pc2 := 1) dX8_judge_0 rfl rfl ?_
  refine x_iload_n (pc2 := 2) dX8_judge_1 rfl rfl ?_
  exact k
set_option maxRecDepth 4000 in
theorem g_X8_judge_5 {sc : List Int} {d : Nat} {m : Mem} {Q : Option AV → Mem → Prop} {l1 l2 l3 s0 : Int} (k : (-2147483648 ≤ s0 ∧ s0 < 2147483648) ∧ ((s0 = 0) → (Q (some (aI (-1))) m)) ∧ (¬ (s0 = 0) → ((-2147483648 ≤ l2 ∧ l2 < 2147483648) ∧ S_X8_judge sc d 14 [aR 62, aI l1, aI l2, aI l3] [aJ 99, aJ 1, aJ l2] m Q))) : S_X8_judge sc d 5 [aR 62, aI l1, aI l2, aI l3] [aI s0] m Q := by
  obtain ⟨h1, k⟩ := k
  obtain ⟨k1, k2⟩ := k
  refine x_if_eq (tgt := 20) (pc2 := 8) dX8_judge_5 (by decide) rfl h1 (fun c2 => ?_) (fun c2 => ?_)
  · replace k := k1 c2
    refine x_iconst (pc2 := 21) dX8_judge_20 rfl ?_
    exact x_ireturn dX8_judge_21 ⟨.int, rfl, rfl⟩ k
  · replace k := k2 c2
    refine x_iload_n (pc2 := 9) dX8_judge_8 rfl rfl ?_
    obtain ⟨h3, k⟩ := k
    refine x_i2l (pc2 := 10) dX8_judge_9 rfl h3 ?_
    refine x_lconst (pc2 := 11) (v := 1) dX8_judge_10 rfl rfl ?_
    refine x_ldc2 (pc2 := 14) (x := 99) kc_X8_513 rfl dX8_judge_11 rfl ?_
    exact k
set_option maxRecDepth 4000 in
theorem g_X8_judge_17 {sc : List Int} {d : Nat} {m : Mem} {Q : Option AV → Mem → Prop} {l1 l2 l3 s0 : Int} (k : (-2147483648 ≤ s0 ∧ s0 < 2147483648) ∧ ((s0 ≠ 0) → (S_X8_judge sc d 25 [aR 62, aU, aU, aI l3] [aI l2, aI l1, aR 62] m Q)) ∧ (¬ (s0 ≠ 0) → (Q (some (aI (-1))) m))) : S_X8_judge sc d 17 [aR 62, aI l1, aI l2, aI l3] [aI s0] m Q := by
  obtain ⟨h1, k⟩ := k
  obtain ⟨k1, k2⟩ := k
  refine x_if_ne (tgt := 22) (pc2 := 20) dX8_judge_17 (by decide) rfl h1 (fun c2 => ?_) (fun c2 => ?_)
  · replace k := k1 c2
    refine x_aload_n (pc2 := 23) dX8_judge_22 rfl rfl ?_
    refine x_iload_n (pc2 := 24) dX8_judge_23 rfl rfl ?_
    refine x_iload_n (pc2 := 25) dX8_judge_24 rfl rfl ?_
    exact x_drop (drp_k (drp_u (drp_u (drp_k drp_n)))) k
  · replace k := k2 c2
    refine x_iconst (pc2 := 21) dX8_judge_20 rfl ?_
    exact x_ireturn dX8_judge_21 ⟨.int, rfl, rfl⟩ k
set_option maxRecDepth 4000 in
theorem g_X8_judge_28 {sc : List Int} {d : Nat} {m : Mem} {Q : Option AV → Mem → Prop} {l3 : Int} (k : (-2147483648 ≤ l3 ∧ l3 < 2147483648) ∧ ((l3 = 0) → (S_X8_judge sc d 65 [aR 62, aU, aU, aU] [aR 62, aR 109] m Q)) ∧ ((l3 = 1) → (S_X8_judge sc d 77 [aR 62, aU, aU, aU] [aR 62, aR 108] m Q)) ∧ ((l3 = 2) → (S_X8_judge sc d 89 [aR 62, aU, aU, aU] [aR 62, aR 109] m Q)) ∧ ((l3 = 3) → (Q (some (aI (m 62 64))) m)) ∧ ((l3 ≠ 0 ∧ l3 ≠ 1 ∧ l3 ≠ 2 ∧ l3 ≠ 3) → (Q (some (aI (-1))) m))) : S_X8_judge sc d 28 [aR 62, aU, aU, aI l3] [] m Q := by
  refine x_iload_n (pc2 := 29) dX8_judge_28 rfl rfl ?_
  obtain ⟨h1, k⟩ := k
  obtain ⟨k2, k3, k4, k5, k6⟩ := k
  by_cases c7 : l3 = 0
  · replace k := k2 c7
    refine x_tin (tgt := 60) (off := 31) dX8_judge_29 h1 (by omega) (by omega) (by rw [c7]; rfl) (by decide) ?_
    refine x_aload_n (pc2 := 61) dX8_judge_60 rfl rfl ?_
    refine x_getf (pc2 := 64) (v := aR 109) fl_X8_154 ic_62 (vr_62_63 _) dX8_judge_61 rfl ?_
    refine x_aload_n (pc2 := 65) dX8_judge_64 rfl rfl ?_
    exact x_drop (drp_k (drp_k (drp_k (drp_u drp_n)))) k
  by_cases c8 : l3 = 1
  · replace k := k3 c8
    refine x_tin (tgt := 72) (off := 43) dX8_judge_29 h1 (by omega) (by omega) (by rw [c8]; rfl) (by decide) ?_
    refine x_aload_n (pc2 := 73) dX8_judge_72 rfl rfl ?_
    refine x_getf (pc2 := 76) (v := aR 108) fl_X8_151 ic_62 (vr_62_62 _) dX8_judge_73 rfl ?_
    refine x_aload_n (pc2 := 77) dX8_judge_76 rfl rfl ?_
    exact x_drop (drp_k (drp_k (drp_k (drp_u drp_n)))) k
  by_cases c9 : l3 = 2
  · replace k := k4 c9
    refine x_tin (tgt := 84) (off := 55) dX8_judge_29 h1 (by omega) (by omega) (by rw [c9]; rfl) (by decide) ?_
    refine x_aload_n (pc2 := 85) dX8_judge_84 rfl rfl ?_
    refine x_getf (pc2 := 88) (v := aR 109) fl_X8_154 ic_62 (vr_62_63 _) dX8_judge_85 rfl ?_
    refine x_aload_n (pc2 := 89) dX8_judge_88 rfl rfl ?_
    exact x_drop (drp_k (drp_k (drp_k (drp_u drp_n)))) k
  by_cases c10 : l3 = 3
  · replace k := k5 c10
    refine x_tin (tgt := 96) (off := 67) dX8_judge_29 h1 (by omega) (by omega) (by rw [c10]; rfl) (by decide) ?_
    refine x_aload_n (pc2 := 97) dX8_judge_96 rfl rfl ?_
    refine x_getf (pc2 := 100) (v := aI (m 62 64)) fl_X8_519 ic_62 (fv_i _ ic_62 rfl) dX8_judge_97 rfl ?_
    exact x_ireturn dX8_judge_100 ⟨.int, rfl, rfl⟩ k
  replace k := k6 (by omega)
  have kd : S_X8_judge sc d 101 [aR 62, aU, aU, aI l3] [] m Q := by
    refine x_iconst (pc2 := 102) dX8_judge_101 rfl ?_
    exact x_ireturn dX8_judge_102 ⟨.int, rfl, rfl⟩ k
  by_cases c11 : l3 < 0 ∨ 3 < l3
  · exact x_tout (tgt := 101) dX8_judge_29 h1 c11 (by decide) kd
  exact absurd c11 (by omega)
set_option maxRecDepth 4000 in
theorem g_X8_judge_68 {sc : List Int} {d : Nat} {m : Mem} {Q : Option AV → Mem → Prop} {s0 s1 : Int} (Hs0 : IsC s0 100) (k : S_X8_judge sc d 68 [aR 62, aU, aU, aU] [aI s1, aR s0] m Q) : S_X8_judge sc d 68 [aR 62, aU, aU, aU] [aI s1, aR s0] m Q := by
  exact k
set_option maxRecDepth 4000 in
theorem g_X8_judge_71 {sc : List Int} {d : Nat} {m : Mem} {Q : Option AV → Mem → Prop} {s0 : Int} (k : Q (some (aI s0)) m) : S_X8_judge sc d 71 [aR 62, aU, aU, aU] [aI s0] m Q := by
  exact x_ireturn dX8_judge_71 ⟨.int, rfl, rfl⟩ k
set_option maxRecDepth 4000 in
theorem g_X8_judge_80 {sc : List Int} {d : Nat} {m : Mem} {Q : Option AV → Mem → Prop} {s0 s1 : Int} (Hs0 : IsC s0 100) (k : S_X8_judge sc d 80 [aR 62, aU, aU, aU] [aI s1, aR s0] m Q) : S_X8_judge sc d 80 [aR 62, aU, aU, aU] [aI s1, aR s0] m Q := by
  exact k
set_option maxRecDepth 4000 in
theorem g_X8_judge_83 {sc : List Int} {d : Nat} {m : Mem} {Q : Option AV → Mem → Prop} {s0 : Int} (k : Q (some (aI s0)) m) : S_X8_judge sc d 83 [aR 62, aU, aU, aU] [aI s0] m Q := by
  exact x_ireturn dX8_judge_83 ⟨.int, rfl, rfl⟩ k
set_option maxRecDepth 4000 in
theorem g_X8_judge_92 {sc : List Int} {d : Nat} {m : Mem} {Q : Option AV → Mem → Prop} {s0 s1 : Int} (Hs0 : IsC s0 100) (k : S_X8_judge sc d 92 [aR 62, aU, aU, aU] [aI s1, aR s0] m Q) : S_X8_judge sc d 92 [aR 62, aU, aU, aU] [aI s1, aR s0] m Q := by
  exact k
set_option maxRecDepth 4000 in
theorem g_X8_judge_95 {sc : List Int} {d : Nat} {m : Mem} {Q : Option AV → Mem → Prop} {s0 : Int} (k : Q (some (aI s0)) m) : S_X8_judge sc d 95 [aR 62, aU, aU, aU] [aI s0] m Q := by
  exact x_ireturn dX8_judge_95 ⟨.int, rfl, rfl⟩ k
theorem c_X8_judge_2 {sc : List Int} {d d2 : Nat} {m m2 : Mem} {Q : Option AV → Mem → Prop} {l1 l2 l3 s1 : Int} {v : Int} (hM : C_X8_isSewer sc d2 [aR 62, aI s1] m (some (aI v)) m2) (hd : d2 + 1 ≤ d) (k : S_X8_judge sc d 5 [aR 62, aI l1, aI l2, aI l3] [aI v] m2 Q) : S_X8_judge sc d 2 [aR 62, aI l1, aI l2, aI l3] [aI s1, aR 62] m Q := x_callV (as := [aI s1]) (rest := []) hM mk_X8_isSewer mv_X8_isSewer lk_X8_505 (Or.inl ⟨8, (RX8, TX8, 123), ic_62, Nat.le_of_ble_eq_true rfl, rfl, rfl⟩) hd rfl rfl (Nat.le_of_ble_eq_true rfl) dX8_judge_2 rfl k
theorem c_X8_judge_14 {sc : List Int} {d d2 : Nat} {m m2 : Mem} {Q : Option AV → Mem → Prop} {l1 l2 l3 s0 s1 s2 : Int} {v : Int} (hM : C_X8_isIn sc d2 [aJ s0, aJ s1, aJ s2] m (some (aI v)) m2) (hd : d2 + 1 ≤ d) (k : S_X8_judge sc d 17 [aR 62, aI l1, aI l2, aI l3] [aI v] m2 Q) : S_X8_judge sc d 14 [aR 62, aI l1, aI l2, aI l3] [aJ s2, aJ s1, aJ s0] m Q := x_callS (as := [aJ s0, aJ s1, aJ s2]) (rest := []) hM mk_X8_isIn ms_X8_isIn lk_X8_333 hd rfl rfl (Nat.le_of_ble_eq_true rfl) dX8_judge_14 rfl k
theorem c_X8_judge_25 {sc : List Int} {d d2 : Nat} {m m2 : Mem} {Q : Option AV → Mem → Prop} {l3 s1 s2 : Int} (hM : C_X8_laysRow sc d2 [aR 62, aI s1, aI s2] m none m2) (hd : d2 + 1 ≤ d) (k : S_X8_judge sc d 28 [aR 62, aU, aU, aI l3] [] m2 Q) : S_X8_judge sc d 25 [aR 62, aU, aU, aI l3] [aI s2, aI s1, aR 62] m Q := x_callV (as := [aI s1, aI s2]) (rest := []) hM mk_X8_laysRow mv_X8_laysRow lk_X8_528 (Or.inl ⟨8, (RX8, TX8, 123), ic_62, Nat.le_of_ble_eq_true rfl, rfl, rfl⟩) hd rfl rfl (Nat.le_of_ble_eq_true rfl) dX8_judge_25 rfl k
theorem c_X8_judge_65 {sc : List Int} {d d2 : Nat} {m m2 : Mem} {Q : Option AV → Mem → Prop} {s0 : Int} {v : Int} (Hs0 : IsC s0 100) (hM : C_X8_seamMany sc d2 [aR 62] m (some (aI v)) m2) (hd : d2 + 1 ≤ d) (k : S_X8_judge sc d 68 [aR 62, aU, aU, aU] [aI v, aR s0] m2 Q) : S_X8_judge sc d 65 [aR 62, aU, aU, aU] [aR 62, aR s0] m Q := x_callV (as := []) (rest := [aR s0]) hM mk_X8_seamMany mv_X8_seamMany lk_X8_431 (Or.inl ⟨8, (RX8, TX8, 123), ic_62, Nat.le_of_ble_eq_true rfl, rfl, rfl⟩) hd rfl rfl (Nat.le_of_ble_eq_true rfl) dX8_judge_65 rfl k
theorem c_X8_judge_68 {sc : List Int} {d d2 : Nat} {m m2 : Mem} {Q : Option AV → Mem → Prop} {s0 s1 : Int} {v : Int} (Hs0 : IsC s0 100) (hM : C_X8_firstOf sc d2 [aR s0, aI s1] m (some (aI v)) m2) (hd : d2 + 1 ≤ d) (k : S_X8_judge sc d 71 [aR 62, aU, aU, aU] [aI v] m2 Q) : S_X8_judge sc d 68 [aR 62, aU, aU, aU] [aI s1, aR s0] m Q := x_callS (as := [aR s0, aI s1]) (rest := []) hM mk_X8_firstOf ms_X8_firstOf lk_X8_531 hd rfl rfl (Nat.le_of_ble_eq_true rfl) dX8_judge_68 rfl k
theorem c_X8_judge_77 {sc : List Int} {d d2 : Nat} {m m2 : Mem} {Q : Option AV → Mem → Prop} {s0 : Int} {v : Int} (Hs0 : IsC s0 100) (hM : C_X8_seamMany sc d2 [aR 62] m (some (aI v)) m2) (hd : d2 + 1 ≤ d) (k : S_X8_judge sc d 80 [aR 62, aU, aU, aU] [aI v, aR s0] m2 Q) : S_X8_judge sc d 77 [aR 62, aU, aU, aU] [aR 62, aR s0] m Q := x_callV (as := []) (rest := [aR s0]) hM mk_X8_seamMany mv_X8_seamMany lk_X8_431 (Or.inl ⟨8, (RX8, TX8, 123), ic_62, Nat.le_of_ble_eq_true rfl, rfl, rfl⟩) hd rfl rfl (Nat.le_of_ble_eq_true rfl) dX8_judge_77 rfl k
theorem c_X8_judge_80 {sc : List Int} {d d2 : Nat} {m m2 : Mem} {Q : Option AV → Mem → Prop} {s0 s1 : Int} {v : Int} (Hs0 : IsC s0 100) (hM : C_X8_sumOf sc d2 [aR s0, aI s1] m (some (aI v)) m2) (hd : d2 + 1 ≤ d) (k : S_X8_judge sc d 83 [aR 62, aU, aU, aU] [aI v] m2 Q) : S_X8_judge sc d 80 [aR 62, aU, aU, aU] [aI s1, aR s0] m Q := x_callS (as := [aR s0, aI s1]) (rest := []) hM mk_X8_sumOf ms_X8_sumOf lk_X8_535 hd rfl rfl (Nat.le_of_ble_eq_true rfl) dX8_judge_80 rfl k
theorem c_X8_judge_89 {sc : List Int} {d d2 : Nat} {m m2 : Mem} {Q : Option AV → Mem → Prop} {s0 : Int} {v : Int} (Hs0 : IsC s0 100) (hM : C_X8_seamMany sc d2 [aR 62] m (some (aI v)) m2) (hd : d2 + 1 ≤ d) (k : S_X8_judge sc d 92 [aR 62, aU, aU, aU] [aI v, aR s0] m2 Q) : S_X8_judge sc d 89 [aR 62, aU, aU, aU] [aR 62, aR s0] m Q := x_callV (as := []) (rest := [aR s0]) hM mk_X8_seamMany mv_X8_seamMany lk_X8_431 (Or.inl ⟨8, (RX8, TX8, 123), ic_62, Nat.le_of_ble_eq_true rfl, rfl, rfl⟩) hd rfl rfl (Nat.le_of_ble_eq_true rfl) dX8_judge_89 rfl k
theorem c_X8_judge_92 {sc : List Int} {d d2 : Nat} {m m2 : Mem} {Q : Option AV → Mem → Prop} {s0 s1 : Int} {v : Int} (Hs0 : IsC s0 100) (hM : C_X8_sumOf sc d2 [aR s0, aI s1] m (some (aI v)) m2) (hd : d2 + 1 ≤ d) (k : S_X8_judge sc d 95 [aR 62, aU, aU, aU] [aI v] m2 Q) : S_X8_judge sc d 92 [aR 62, aU, aU, aU] [aI s1, aR s0] m Q := x_callS (as := [aR s0, aI s1]) (rest := []) hM mk_X8_sumOf ms_X8_sumOf lk_X8_535 hd rfl rfl (Nat.le_of_ble_eq_true rfl) dX8_judge_92 rfl k
set_option maxRecDepth 4000 in
theorem g_X8_has_0 {sc : List Int} {d : Nat} {m : Mem} {Q : Option AV → Mem → Prop} {l1 : Int} (k : (-2147483648 ≤ l1 ∧ l1 < 2147483648) ∧ ((l1 = 0) → (S_X8_has sc d 65 [aR 62, aU] [aR 62] m Q)) ∧ ((l1 = 1) → (S_X8_has sc d 70 [aR 62, aU] [aR 62] m Q)) ∧ ((l1 = 2) → (S_X8_has sc d 75 [aR 62, aU] [aR 62] m Q)) ∧ ((l1 = 3) → (S_X8_has sc d 83 [aR 62, aU] [aI (l1 - 3), aR 62] m Q)) ∧ ((l1 = 4) → (S_X8_has sc d 83 [aR 62, aU] [aI (l1 - 3), aR 62] m Q)) ∧ ((l1 = 5) → (S_X8_has sc d 83 [aR 62, aU] [aI (l1 - 3), aR 62] m Q)) ∧ ((l1 = 6) → (S_X8_has sc d 83 [aR 62, aU] [aI (l1 - 3), aR 62] m Q)) ∧ ((l1 = 7) → (S_X8_has sc d 83 [aR 62, aU] [aI (l1 - 3), aR 62] m Q)) ∧ ((l1 = 8) → (S_X8_has sc d 83 [aR 62, aU] [aI (l1 - 3), aR 62] m Q)) ∧ ((l1 = 9) → (S_X8_has sc d 89 [aR 62, aU] [aI 0, aR 62] m Q)) ∧ ((l1 = 10) → (Q (some (aI (m 62 88))) m)) ∧ ((l1 = 11) → (Q (some (aI (m 62 83))) m)) ∧ ((l1 ≠ 0 ∧ l1 ≠ 1 ∧ l1 ≠ 2 ∧ l1 ≠ 3 ∧ l1 ≠ 4 ∧ l1 ≠ 5 ∧ l1 ≠ 6 ∧ l1 ≠ 7 ∧ l1 ≠ 8 ∧ l1 ≠ 9 ∧ l1 ≠ 10 ∧ l1 ≠ 11) → (Q (some (aI (-1))) m))) : S_X8_has sc d 0 [aR 62, aI l1] [] m Q := by
  refine x_iload_n (pc2 := 1) dX8_has_0 rfl rfl ?_
  obtain ⟨h1, k⟩ := k
  obtain ⟨k2, k3, k4, k5, k6, k7, k8, k9, k10, k11, k12, k13, k14⟩ := k
  by_cases c15 : l1 = 0
  · replace k := k2 c15
    refine x_tin (tgt := 64) (off := 63) dX8_has_1 h1 (by omega) (by omega) (by rw [c15]; rfl) (by decide) ?_
    refine x_aload_n (pc2 := 65) dX8_has_64 rfl rfl ?_
    exact x_drop (drp_k (drp_u drp_n)) k
  by_cases c16 : l1 = 1
  · replace k := k3 c16
    refine x_tin (tgt := 69) (off := 68) dX8_has_1 h1 (by omega) (by omega) (by rw [c16]; rfl) (by decide) ?_
    refine x_aload_n (pc2 := 70) dX8_has_69 rfl rfl ?_
    exact x_drop (drp_k (drp_u drp_n)) k
  by_cases c17 : l1 = 2
  · replace k := k4 c17
    refine x_tin (tgt := 74) (off := 73) dX8_has_1 h1 (by omega) (by omega) (by rw [c17]; rfl) (by decide) ?_
    refine x_aload_n (pc2 := 75) dX8_has_74 rfl rfl ?_
    exact x_drop (drp_k (drp_u drp_n)) k
  by_cases c18 : l1 = 3
  · replace k := k5 c18
    refine x_tin (tgt := 79) (off := 78) dX8_has_1 h1 (by omega) (by omega) (by rw [c18]; rfl) (by decide) ?_
    refine x_aload_n (pc2 := 80) dX8_has_79 rfl rfl ?_
    refine x_iload_n (pc2 := 81) dX8_has_80 rfl rfl ?_
    refine x_iconst (pc2 := 82) dX8_has_81 rfl ?_
    refine x_isub (pc2 := 83) dX8_has_82 rfl ?_
    exact x_drop (drp_k (drp_u drp_n)) k
  by_cases c19 : l1 = 4
  · replace k := k6 c19
    refine x_tin (tgt := 79) (off := 78) dX8_has_1 h1 (by omega) (by omega) (by rw [c19]; rfl) (by decide) ?_
    refine x_aload_n (pc2 := 80) dX8_has_79 rfl rfl ?_
    refine x_iload_n (pc2 := 81) dX8_has_80 rfl rfl ?_
    refine x_iconst (pc2 := 82) dX8_has_81 rfl ?_
    refine x_isub (pc2 := 83) dX8_has_82 rfl ?_
    exact x_drop (drp_k (drp_u drp_n)) k
  by_cases c20 : l1 = 5
  · replace k := k7 c20
    refine x_tin (tgt := 79) (off := 78) dX8_has_1 h1 (by omega) (by omega) (by rw [c20]; rfl) (by decide) ?_
    refine x_aload_n (pc2 := 80) dX8_has_79 rfl rfl ?_
    refine x_iload_n (pc2 := 81) dX8_has_80 rfl rfl ?_
    refine x_iconst (pc2 := 82) dX8_has_81 rfl ?_
    refine x_isub (pc2 := 83) dX8_has_82 rfl ?_
    exact x_drop (drp_k (drp_u drp_n)) k
  by_cases c21 : l1 = 6
  · replace k := k8 c21
    refine x_tin (tgt := 79) (off := 78) dX8_has_1 h1 (by omega) (by omega) (by rw [c21]; rfl) (by decide) ?_
    refine x_aload_n (pc2 := 80) dX8_has_79 rfl rfl ?_
    refine x_iload_n (pc2 := 81) dX8_has_80 rfl rfl ?_
    refine x_iconst (pc2 := 82) dX8_has_81 rfl ?_
    refine x_isub (pc2 := 83) dX8_has_82 rfl ?_
    exact x_drop (drp_k (drp_u drp_n)) k
  by_cases c22 : l1 = 7
  · replace k := k9 c22
    refine x_tin (tgt := 79) (off := 78) dX8_has_1 h1 (by omega) (by omega) (by rw [c22]; rfl) (by decide) ?_
    refine x_aload_n (pc2 := 80) dX8_has_79 rfl rfl ?_
    refine x_iload_n (pc2 := 81) dX8_has_80 rfl rfl ?_
    refine x_iconst (pc2 := 82) dX8_has_81 rfl ?_
    refine x_isub (pc2 := 83) dX8_has_82 rfl ?_
    exact x_drop (drp_k (drp_u drp_n)) k
  by_cases c23 : l1 = 8
  · replace k := k10 c23
    refine x_tin (tgt := 79) (off := 78) dX8_has_1 h1 (by omega) (by omega) (by rw [c23]; rfl) (by decide) ?_
    refine x_aload_n (pc2 := 80) dX8_has_79 rfl rfl ?_
    refine x_iload_n (pc2 := 81) dX8_has_80 rfl rfl ?_
    refine x_iconst (pc2 := 82) dX8_has_81 rfl ?_
    refine x_isub (pc2 := 83) dX8_has_82 rfl ?_
    exact x_drop (drp_k (drp_u drp_n)) k
  by_cases c24 : l1 = 9
  · replace k := k11 c24
    refine x_tin (tgt := 87) (off := 86) dX8_has_1 h1 (by omega) (by omega) (by rw [c24]; rfl) (by decide) ?_
    refine x_aload_n (pc2 := 88) dX8_has_87 rfl rfl ?_
    refine x_iconst (pc2 := 89) dX8_has_88 rfl ?_
    exact x_drop (drp_k (drp_u drp_n)) k
  by_cases c25 : l1 = 10
  · replace k := k12 c25
    refine x_tin (tgt := 93) (off := 92) dX8_has_1 h1 (by omega) (by omega) (by rw [c25]; rfl) (by decide) ?_
    refine x_aload_n (pc2 := 94) dX8_has_93 rfl rfl ?_
    refine x_getf (pc2 := 97) (v := aI (m 62 88)) fl_X8_428 ic_62 (fv_i _ ic_62 rfl) dX8_has_94 rfl ?_
    exact x_ireturn dX8_has_97 ⟨.int, rfl, rfl⟩ k
  by_cases c26 : l1 = 11
  · replace k := k13 c26
    refine x_tin (tgt := 98) (off := 97) dX8_has_1 h1 (by omega) (by omega) (by rw [c26]; rfl) (by decide) ?_
    refine x_aload_n (pc2 := 99) dX8_has_98 rfl rfl ?_
    refine x_getf (pc2 := 102) (v := aI (m 62 83)) fl_X8_425 ic_62 (fv_i _ ic_62 rfl) dX8_has_99 rfl ?_
    exact x_ireturn dX8_has_102 ⟨.int, rfl, rfl⟩ k
  replace k := k14 (by omega)
  have kd : S_X8_has sc d 103 [aR 62, aI l1] [] m Q := by
    refine x_iconst (pc2 := 104) dX8_has_103 rfl ?_
    exact x_ireturn dX8_has_104 ⟨.int, rfl, rfl⟩ k
  by_cases c27 : l1 < 0 ∨ 11 < l1
  · exact x_tout (tgt := 103) dX8_has_1 h1 c27 (by decide) kd
  exact absurd c27 (by omega)
set_option maxRecDepth 4000 in
theorem g_X8_has_68 {sc : List Int} {d : Nat} {m : Mem} {Q : Option AV → Mem → Prop} {s0 : Int} (k : Q (some (aI s0)) m) : S_X8_has sc d 68 [aR 62, aU] [aI s0] m Q := by
  exact x_ireturn dX8_has_68 ⟨.int, rfl, rfl⟩ k
set_option maxRecDepth 4000 in
theorem g_X8_has_73 {sc : List Int} {d : Nat} {m : Mem} {Q : Option AV → Mem → Prop} {s0 : Int} (k : Q (some (aI s0)) m) : S_X8_has sc d 73 [aR 62, aU] [aI s0] m Q := by
  exact x_ireturn dX8_has_73 ⟨.int, rfl, rfl⟩ k
set_option maxRecDepth 4000 in
theorem g_X8_has_78 {sc : List Int} {d : Nat} {m : Mem} {Q : Option AV → Mem → Prop} {s0 : Int} (k : Q (some (aI s0)) m) : S_X8_has sc d 78 [aR 62, aU] [aI s0] m Q := by
  exact x_ireturn dX8_has_78 ⟨.int, rfl, rfl⟩ k
set_option maxRecDepth 4000 in
theorem g_X8_has_86 {sc : List Int} {d : Nat} {m : Mem} {Q : Option AV → Mem → Prop} {s0 : Int} (k : Q (some (aI s0)) m) : S_X8_has sc d 86 [aR 62, aU] [aI s0] m Q := by
  exact x_ireturn dX8_has_86 ⟨.int, rfl, rfl⟩ k
set_option maxRecDepth 4000 in
theorem g_X8_has_92 {sc : List Int} {d : Nat} {m : Mem} {Q : Option AV → Mem → Prop} {s0 : Int} (k : Q (some (aI s0)) m) : S_X8_has sc d 92 [aR 62, aU] [aI s0] m Q := by
  exact x_ireturn dX8_has_92 ⟨.int, rfl, rfl⟩ k
theorem c_X8_has_65 {sc : List Int} {d d2 : Nat} {m m2 : Mem} {Q : Option AV → Mem → Prop} {v : Int} (hM : C_X8_lengthMany sc d2 [aR 62] m (some (aI v)) m2) (hd : d2 + 1 ≤ d) (k : S_X8_has sc d 68 [aR 62, aU] [aI v] m2 Q) : S_X8_has sc d 65 [aR 62, aU] [aR 62] m Q := x_callV (as := []) (rest := []) hM mk_X8_lengthMany mv_X8_lengthMany lk_X8_438 (Or.inl ⟨8, (RX8, TX8, 123), ic_62, Nat.le_of_ble_eq_true rfl, rfl, rfl⟩) hd rfl rfl (Nat.le_of_ble_eq_true rfl) dX8_has_65 rfl k
theorem c_X8_has_70 {sc : List Int} {d d2 : Nat} {m m2 : Mem} {Q : Option AV → Mem → Prop} {v : Int} (hM : C_X8_seamMany sc d2 [aR 62] m (some (aI v)) m2) (hd : d2 + 1 ≤ d) (k : S_X8_has sc d 73 [aR 62, aU] [aI v] m2 Q) : S_X8_has sc d 70 [aR 62, aU] [aR 62] m Q := x_callV (as := []) (rest := []) hM mk_X8_seamMany mv_X8_seamMany lk_X8_431 (Or.inl ⟨8, (RX8, TX8, 123), ic_62, Nat.le_of_ble_eq_true rfl, rfl, rfl⟩) hd rfl rfl (Nat.le_of_ble_eq_true rfl) dX8_has_70 rfl k
theorem c_X8_has_75 {sc : List Int} {d d2 : Nat} {m m2 : Mem} {Q : Option AV → Mem → Prop} {v : Int} (hM : C_X8_ruleMany sc d2 [aR 62] m (some (aI v)) m2) (hd : d2 + 1 ≤ d) (k : S_X8_has sc d 78 [aR 62, aU] [aI v] m2 Q) : S_X8_has sc d 75 [aR 62, aU] [aR 62] m Q := x_callV (as := []) (rest := []) hM mk_X8_ruleMany mv_X8_ruleMany lk_X8_499 (Or.inl ⟨8, (RX8, TX8, 123), ic_62, Nat.le_of_ble_eq_true rfl, rfl, rfl⟩) hd rfl rfl (Nat.le_of_ble_eq_true rfl) dX8_has_75 rfl k
theorem c_X8_has_83 {sc : List Int} {d d2 : Nat} {m m2 : Mem} {Q : Option AV → Mem → Prop} {s1 : Int} {v : Int} (hM : C_X8_settingOf sc d2 [aR 62, aI s1] m (some (aI v)) m2) (hd : d2 + 1 ≤ d) (k : S_X8_has sc d 86 [aR 62, aU] [aI v] m2 Q) : S_X8_has sc d 83 [aR 62, aU] [aI s1, aR 62] m Q := x_callV (as := [aI s1]) (rest := []) hM mk_X8_settingOf mv_X8_settingOf lk_X8_461 (Or.inl ⟨8, (RX8, TX8, 123), ic_62, Nat.le_of_ble_eq_true rfl, rfl, rfl⟩) hd rfl rfl (Nat.le_of_ble_eq_true rfl) dX8_has_83 rfl k
theorem c_X8_has_89 {sc : List Int} {d d2 : Nat} {m m2 : Mem} {Q : Option AV → Mem → Prop} {s1 : Int} {v : Int} (hM : C_X8_restOf sc d2 [aR 62, aI s1] m (some (aI v)) m2) (hd : d2 + 1 ≤ d) (k : S_X8_has sc d 92 [aR 62, aU] [aI v] m2 Q) : S_X8_has sc d 89 [aR 62, aU] [aI s1, aR 62] m Q := x_callV (as := [aI s1]) (rest := []) hM mk_X8_restOf mv_X8_restOf lk_X8_538 (Or.inl ⟨8, (RX8, TX8, 123), ic_62, Nat.le_of_ble_eq_true rfl, rfl, rfl⟩) hd rfl rfl (Nat.le_of_ble_eq_true rfl) dX8_has_89 rfl k
set_option maxRecDepth 4000 in
theorem g_X8_letter_0 {sc : List Int} {d : Nat} {m : Mem} {Q : Option AV → Mem → Prop} {l1 l2 l3 : Int} (k : (-2147483648 ≤ l1 ∧ l1 < 2147483648) ∧ S_X8_letter sc d 4 [aR 62, aI l1, aI l2, aI l3, aU, aU, aU, aU, aU] [aJ 1, aJ 0, aJ l1] m Q) : S_X8_letter sc d 0 [aR 62, aI l1, aI l2, aI l3, aU, aU, aU, aU, aU] [] m Q := by
  refine x_iload_n (pc2 := 1) dX8_letter_0 rfl rfl ?_
  obtain ⟨h1, k⟩ := k
  refine x_i2l (pc2 := 2) dX8_letter_1 rfl h1 ?_
  refine x_lconst (pc2 := 3) (v := 0) dX8_letter_2 rfl rfl ?_
  refine x_lconst (pc2 := 4) (v := 1) dX8_letter_3 rfl rfl ?_
  exact k
set_option maxRecDepth 4000 in
theorem g_X8_letter_7 {sc : List Int} {d : Nat} {m : Mem} {Q : Option AV → Mem → Prop} {l1 l2 l3 s0 : Int} (k : (-2147483648 ≤ s0 ∧ s0 < 2147483648) ∧ ((s0 = 0) → (Q (some (aI (-1))) m)) ∧ (¬ (s0 = 0) → ((-2147483648 ≤ l2 ∧ l2 < 2147483648) ∧ (0 ≤ (4 + l1)) ∧ ((4 + l1) < 6) ∧ (-2147483648 ≤ ((m 95 (4 + l1)) - 1) ∧ ((m 95 (4 + l1)) - 1) < 2147483648) ∧ S_X8_letter sc d 24 [aR 62, aI l1, aI l2, aI l3, aU, aU, aU, aU, aU] [aJ ((m 95 (4 + l1)) - 1), aJ 0, aJ l2] m Q))) : S_X8_letter sc d 7 [aR 62, aI l1, aI l2, aI l3, aU, aU, aU, aU, aU] [aI s0] m Q := by
  obtain ⟨h1, k⟩ := k
  obtain ⟨k1, k2⟩ := k
  refine x_if_eq (tgt := 42) (pc2 := 10) dX8_letter_7 (by decide) rfl h1 (fun c2 => ?_) (fun c2 => ?_)
  · replace k := k1 c2
    refine x_iconst (pc2 := 43) dX8_letter_42 rfl ?_
    exact x_ireturn dX8_letter_43 ⟨.int, rfl, rfl⟩ k
  · replace k := k2 c2
    refine x_iload_n (pc2 := 11) dX8_letter_10 rfl rfl ?_
    obtain ⟨h3, k⟩ := k
    refine x_i2l (pc2 := 12) dX8_letter_11 rfl h3 ?_
    refine x_lconst (pc2 := 13) (v := 0) dX8_letter_12 rfl rfl ?_
    refine x_aload_n (pc2 := 14) dX8_letter_13 rfl rfl ?_
    refine x_getf (pc2 := 17) (v := aR 95) fl_X8_111 ic_62 (vr_62_42 _) dX8_letter_14 rfl ?_
    refine x_iconst (pc2 := 18) dX8_letter_17 rfl ?_
    refine x_iload_n (pc2 := 19) dX8_letter_18 rfl rfl ?_
    refine x_iadd (pc2 := 20) dX8_letter_19 rfl ?_
    obtain ⟨h4, k⟩ := k
    obtain ⟨h5, k⟩ := k
    refine x_iald (pc2 := 21) ic_95 h4 (by rw [al_95]; exact h5) dX8_letter_20 rfl ?_
    refine x_iconst (pc2 := 22) dX8_letter_21 rfl ?_
    refine x_isub (pc2 := 23) dX8_letter_22 rfl ?_
    obtain ⟨h6, k⟩ := k
    refine x_i2l (pc2 := 24) dX8_letter_23 rfl h6 ?_
    exact k
set_option maxRecDepth 4000 in
theorem g_X8_letter_27 {sc : List Int} {d : Nat} {m : Mem} {Q : Option AV → Mem → Prop} {l1 l2 l3 s0 : Int} (k : (-2147483648 ≤ s0 ∧ s0 < 2147483648) ∧ ((s0 = 0) → (Q (some (aI (-1))) m)) ∧ (¬ (s0 = 0) → ((-2147483648 ≤ l3 ∧ l3 < 2147483648) ∧ S_X8_letter sc d 36 [aR 62, aI l1, aI l2, aI l3, aU, aU, aU, aU, aU] [aJ 5, aJ 0, aJ l3] m Q))) : S_X8_letter sc d 27 [aR 62, aI l1, aI l2, aI l3, aU, aU, aU, aU, aU] [aI s0] m Q := by
  obtain ⟨h1, k⟩ := k
  obtain ⟨k1, k2⟩ := k
  refine x_if_eq (tgt := 42) (pc2 := 30) dX8_letter_27 (by decide) rfl h1 (fun c2 => ?_) (fun c2 => ?_)
  · replace k := k1 c2
    refine x_iconst (pc2 := 43) dX8_letter_42 rfl ?_
    exact x_ireturn dX8_letter_43 ⟨.int, rfl, rfl⟩ k
  · replace k := k2 c2
    refine x_iload_n (pc2 := 31) dX8_letter_30 rfl rfl ?_
    obtain ⟨h3, k⟩ := k
    refine x_i2l (pc2 := 32) dX8_letter_31 rfl h3 ?_
    refine x_lconst (pc2 := 33) (v := 0) dX8_letter_32 rfl rfl ?_
    refine x_ldc2 (pc2 := 36) (x := 5) kc_X8_541 rfl dX8_letter_33 rfl ?_
    exact k
set_option maxRecDepth 4000 in
theorem g_X8_letter_39 {sc : List Int} {d : Nat} {m : Mem} {Q : Option AV → Mem → Prop} {l1 l2 l3 s0 : Int} (k : (-2147483648 ≤ s0 ∧ s0 < 2147483648) ∧ ((s0 ≠ 0) → ((0 ≤ ((20 + (10 * l1)) + l2)) ∧ (((20 + (10 * l1)) + l2) < 40) ∧ S_X8_letter sc d 67 [aR 62, aU, aU, aI l3, aJ (m 96 ((20 + (10 * l1)) + l2)), aU, aI 0, aJ (m 96 ((20 + (10 * l1)) + l2)), aU] [] m Q)) ∧ (¬ (s0 ≠ 0) → (Q (some (aI (-1))) m))) : S_X8_letter sc d 39 [aR 62, aI l1, aI l2, aI l3, aU, aU, aU, aU, aU] [aI s0] m Q := by
  obtain ⟨h1, k⟩ := k
  obtain ⟨k1, k2⟩ := k
  refine x_if_ne (tgt := 44) (pc2 := 42) dX8_letter_39 (by decide) rfl h1 (fun c2 => ?_) (fun c2 => ?_)
  · replace k := k1 c2
    refine x_aload_n (pc2 := 45) dX8_letter_44 rfl rfl ?_
    refine x_getf (pc2 := 48) (v := aR 96) fl_X8_114 ic_62 (vr_62_43 _) dX8_letter_45 rfl ?_
    refine x_bipush (pc2 := 50) dX8_letter_48 rfl rfl ?_
    refine x_bipush (pc2 := 52) dX8_letter_50 rfl rfl ?_
    refine x_iload_n (pc2 := 53) dX8_letter_52 rfl rfl ?_
    refine x_imul (pc2 := 54) dX8_letter_53 rfl ?_
    refine x_iadd (pc2 := 55) dX8_letter_54 rfl ?_
    refine x_iload_n (pc2 := 56) dX8_letter_55 rfl rfl ?_
    refine x_iadd (pc2 := 57) dX8_letter_56 rfl ?_
    obtain ⟨h3, k⟩ := k
    obtain ⟨h4, k⟩ := k
    refine x_lald (pc2 := 58) ic_96 h3 (by rw [al_96]; exact h4) dX8_letter_57 rfl ?_
    refine x_lstore (pc2 := 60) (ls2 := [aR 62, aI l1, aI l2, aI l3, aJ (m 96 ((20 + (10 * l1)) + l2)), aU, aU, aU, aU]) dX8_letter_58 rfl (by decide) rfl ?_
    refine x_iconst (pc2 := 61) dX8_letter_60 rfl ?_
    refine x_istore (pc2 := 63) (ls2 := [aR 62, aI l1, aI l2, aI l3, aJ (m 96 ((20 + (10 * l1)) + l2)), aU, aI 0, aU, aU]) dX8_letter_61 rfl (by decide) rfl ?_
    refine x_lload (pc2 := 65) dX8_letter_63 rfl rfl ?_
    refine x_lstore (pc2 := 67) (ls2 := [aR 62, aI l1, aI l2, aI l3, aJ (m 96 ((20 + (10 * l1)) + l2)), aU, aI 0, aJ (m 96 ((20 + (10 * l1)) + l2)), aU]) dX8_letter_65 rfl (by decide) rfl ?_
    exact x_drop (drp_k (drp_u (drp_u (drp_k (drp_k (drp_k (drp_k (drp_k (drp_k drp_n))))))))) k
  · replace k := k2 c2
    refine x_iconst (pc2 := 43) dX8_letter_42 rfl ?_
    exact x_ireturn dX8_letter_43 ⟨.int, rfl, rfl⟩ k
set_option maxRecDepth 4000 in
theorem g_X8_letter_67 {sc : List Int} {d : Nat} {m : Mem} {Q : Option AV → Mem → Prop} {l3 l4 l6 l7 : Int} (k : (-9223372036854775808 ≤ l7 ∧ l7 < 9223372036854775808) ∧ ((l7 ≤ 0) → ((-2147483648 ≤ l3 ∧ l3 < 2147483648) ∧ (-2147483648 ≤ l6 ∧ l6 < 2147483648) ∧ ((l3 < l6) → (S_X8_letter sc d 102 [aR 62, aU, aU, aI l3, aJ l4, aU, aU, aI (l6 - 1), aU] [] m Q)) ∧ (¬ (l3 < l6) → (Q (some (aI 0)) m)))) ∧ (¬ (l7 ≤ 0) → (S_X8_letter sc d 67 [aR 62, aU, aU, aI l3, aJ l4, aU, aI (l6 + 1), aJ (l7.tdiv 27), aU] [] m Q))) : S_X8_letter sc d 67 [aR 62, aU, aU, aI l3, aJ l4, aU, aI l6, aJ l7, aU] [] m Q := by
  refine x_lload (pc2 := 69) dX8_letter_67 rfl rfl ?_
  refine x_lconst (pc2 := 70) (v := 0) dX8_letter_69 rfl rfl ?_
  obtain ⟨h1, k⟩ := k
  obtain ⟨k1, k2⟩ := k
  refine x_lc_le (tgt := 88) (pc2 := 74) dX8_letter_70 dX8_letter_71 (by decide) rfl h1 (by decide) (fun c2 => ?_) (fun c2 => ?_)
  · replace k := k1 c2
    refine x_iload_n (pc2 := 89) dX8_letter_88 rfl rfl ?_
    refine x_iload (pc2 := 91) dX8_letter_89 rfl rfl ?_
    obtain ⟨h3, k⟩ := k
    obtain ⟨h4, k⟩ := k
    obtain ⟨k1, k2⟩ := k
    refine x_icmp_lt (tgt := 96) (pc2 := 94) dX8_letter_91 (by decide) rfl h3 h4 (fun c5 => ?_) (fun c5 => ?_)
    · replace k := k1 c5
      refine x_iload (pc2 := 98) dX8_letter_96 rfl rfl ?_
      refine x_iconst (pc2 := 99) dX8_letter_98 rfl ?_
      refine x_isub (pc2 := 100) dX8_letter_99 rfl ?_
      refine x_istore (pc2 := 102) (ls2 := [aR 62, aU, aU, aI l3, aJ l4, aU, aI l6, aI (l6 - 1), aU]) dX8_letter_100 rfl (by decide) rfl ?_
      exact x_drop (drp_k (drp_k (drp_k (drp_k (drp_k (drp_k (drp_u (drp_k (drp_k drp_n))))))))) k
    · replace k := k2 c5
      refine x_iconst (pc2 := 95) dX8_letter_94 rfl ?_
      exact x_ireturn dX8_letter_95 ⟨.int, rfl, rfl⟩ k
  · replace k := k2 c2
    refine x_iinc (pc2 := 77) (ls2 := [aR 62, aU, aU, aI l3, aJ l4, aU, aI (l6 + 1), aJ l7, aU]) dX8_letter_74 rfl rfl (by decide) rfl ?_
    refine x_lload (pc2 := 79) dX8_letter_77 rfl rfl ?_
    refine x_ldc2 (pc2 := 82) (x := 27) kc_X8_344 rfl dX8_letter_79 rfl ?_
    refine x_ldiv (pc2 := 83) dX8_letter_82 rfl h1 (by decide) (by decide) ?_
    refine x_lstore (pc2 := 85) (ls2 := [aR 62, aU, aU, aI l3, aJ l4, aU, aI (l6 + 1), aJ (l7.tdiv 27), aU]) dX8_letter_83 rfl (by decide) rfl ?_
    refine x_goto (tgt := 67) dX8_letter_85 (by decide) ?_
    exact k
set_option maxRecDepth 4000 in
theorem g_X8_letter_102 {sc : List Int} {d : Nat} {m : Mem} {Q : Option AV → Mem → Prop} {l3 l4 l7 : Int} (k : (-2147483648 ≤ l7 ∧ l7 < 2147483648) ∧ (-2147483648 ≤ l3 ∧ l3 < 2147483648) ∧ ((l7 ≤ l3) → ((-9223372036854775808 ≤ l4 ∧ l4 < 9223372036854775808) ∧ Q (some (aI (l4.tmod 27))) m)) ∧ (¬ (l7 ≤ l3) → ((-9223372036854775808 ≤ l4 ∧ l4 < 9223372036854775808) ∧ S_X8_letter sc d 102 [aR 62, aU, aU, aI l3, aJ (l4.tdiv 27), aU, aU, aI (l7 + (-1)), aU] [] m Q))) : S_X8_letter sc d 102 [aR 62, aU, aU, aI l3, aJ l4, aU, aU, aI l7, aU] [] m Q := by
  refine x_iload (pc2 := 104) dX8_letter_102 rfl rfl ?_
  refine x_iload_n (pc2 := 105) dX8_letter_104 rfl rfl ?_
  obtain ⟨h1, k⟩ := k
  obtain ⟨h2, k⟩ := k
  obtain ⟨k1, k2⟩ := k
  refine x_icmp_le (tgt := 122) (pc2 := 108) dX8_letter_105 (by decide) rfl h1 h2 (fun c3 => ?_) (fun c3 => ?_)
  · replace k := k1 c3
    refine x_lload (pc2 := 124) dX8_letter_122 rfl rfl ?_
    refine x_ldc2 (pc2 := 127) (x := 27) kc_X8_344 rfl dX8_letter_124 rfl ?_
    obtain ⟨h4, k⟩ := k
    refine x_lrem (pc2 := 128) dX8_letter_127 rfl h4 (by decide) (by decide) ?_
    refine x_l2i (pc2 := 129) dX8_letter_128 rfl ?_
    exact x_ireturn dX8_letter_129 ⟨.int, rfl, rfl⟩ k
  · replace k := k2 c3
    refine x_lload (pc2 := 110) dX8_letter_108 rfl rfl ?_
    refine x_ldc2 (pc2 := 113) (x := 27) kc_X8_344 rfl dX8_letter_110 rfl ?_
    obtain ⟨h5, k⟩ := k
    refine x_ldiv (pc2 := 114) dX8_letter_113 rfl h5 (by decide) (by decide) ?_
    refine x_lstore (pc2 := 116) (ls2 := [aR 62, aU, aU, aI l3, aJ (l4.tdiv 27), aU, aU, aI l7, aU]) dX8_letter_114 rfl (by decide) rfl ?_
    refine x_iinc (pc2 := 119) (ls2 := [aR 62, aU, aU, aI l3, aJ (l4.tdiv 27), aU, aU, aI (l7 + (-1)), aU]) dX8_letter_116 rfl rfl (by decide) rfl ?_
    refine x_goto (tgt := 102) dX8_letter_119 (by decide) ?_
    exact k
theorem c_X8_letter_4 {sc : List Int} {d d2 : Nat} {m m2 : Mem} {Q : Option AV → Mem → Prop} {l1 l2 l3 s0 s1 s2 : Int} {v : Int} (hM : C_X8_isIn sc d2 [aJ s0, aJ s1, aJ s2] m (some (aI v)) m2) (hd : d2 + 1 ≤ d) (k : S_X8_letter sc d 7 [aR 62, aI l1, aI l2, aI l3, aU, aU, aU, aU, aU] [aI v] m2 Q) : S_X8_letter sc d 4 [aR 62, aI l1, aI l2, aI l3, aU, aU, aU, aU, aU] [aJ s2, aJ s1, aJ s0] m Q := x_callS (as := [aJ s0, aJ s1, aJ s2]) (rest := []) hM mk_X8_isIn ms_X8_isIn lk_X8_333 hd rfl rfl (Nat.le_of_ble_eq_true rfl) dX8_letter_4 rfl k
theorem c_X8_letter_24 {sc : List Int} {d d2 : Nat} {m m2 : Mem} {Q : Option AV → Mem → Prop} {l1 l2 l3 s0 s1 s2 : Int} {v : Int} (hM : C_X8_isIn sc d2 [aJ s0, aJ s1, aJ s2] m (some (aI v)) m2) (hd : d2 + 1 ≤ d) (k : S_X8_letter sc d 27 [aR 62, aI l1, aI l2, aI l3, aU, aU, aU, aU, aU] [aI v] m2 Q) : S_X8_letter sc d 24 [aR 62, aI l1, aI l2, aI l3, aU, aU, aU, aU, aU] [aJ s2, aJ s1, aJ s0] m Q := x_callS (as := [aJ s0, aJ s1, aJ s2]) (rest := []) hM mk_X8_isIn ms_X8_isIn lk_X8_333 hd rfl rfl (Nat.le_of_ble_eq_true rfl) dX8_letter_24 rfl k
theorem c_X8_letter_36 {sc : List Int} {d d2 : Nat} {m m2 : Mem} {Q : Option AV → Mem → Prop} {l1 l2 l3 s0 s1 s2 : Int} {v : Int} (hM : C_X8_isIn sc d2 [aJ s0, aJ s1, aJ s2] m (some (aI v)) m2) (hd : d2 + 1 ≤ d) (k : S_X8_letter sc d 39 [aR 62, aI l1, aI l2, aI l3, aU, aU, aU, aU, aU] [aI v] m2 Q) : S_X8_letter sc d 36 [aR 62, aI l1, aI l2, aI l3, aU, aU, aU, aU, aU] [aJ s2, aJ s1, aJ s0] m Q := x_callS (as := [aJ s0, aJ s1, aJ s2]) (rest := []) hM mk_X8_isIn ms_X8_isIn lk_X8_333 hd rfl rfl (Nat.le_of_ble_eq_true rfl) dX8_letter_36 rfl k
set_option maxRecDepth 4000 in
theorem g_X8_bobbin_0 {sc : List Int} {d : Nat} {m : Mem} {Q : Option AV → Mem → Prop} {l1 l2 : Int} (k : (-2147483648 ≤ l1 ∧ l1 < 2147483648) ∧ S_X8_bobbin sc d 4 [aR 62, aI l1, aI l2] [aR 62, aJ 0, aJ l1] m Q) : S_X8_bobbin sc d 0 [aR 62, aI l1, aI l2] [] m Q := by
  refine x_iload_n (pc2 := 1) dX8_bobbin_0 rfl rfl ?_
  obtain ⟨h1, k⟩ := k
  refine x_i2l (pc2 := 2) dX8_bobbin_1 rfl h1 ?_
  refine x_lconst (pc2 := 3) (v := 0) dX8_bobbin_2 rfl rfl ?_
  refine x_aload_n (pc2 := 4) dX8_bobbin_3 rfl rfl ?_
  exact k
set_option maxRecDepth 4000 in
theorem g_X8_bobbin_7 {sc : List Int} {d : Nat} {m : Mem} {Q : Option AV → Mem → Prop} {l1 l2 s0 s1 s2 : Int} (k : (-2147483648 ≤ (s2 - 1) ∧ (s2 - 1) < 2147483648) ∧ S_X8_bobbin sc d 10 [aR 62, aI l1, aI l2] [aJ (s2 - 1), aJ s1, aJ s0] m Q) : S_X8_bobbin sc d 7 [aR 62, aI l1, aI l2] [aI s2, aJ s1, aJ s0] m Q := by
  refine x_iconst (pc2 := 8) dX8_bobbin_7 rfl ?_
  refine x_isub (pc2 := 9) dX8_bobbin_8 rfl ?_
  obtain ⟨h1, k⟩ := k
  refine x_i2l (pc2 := 10) dX8_bobbin_9 rfl h1 ?_
  exact k
set_option maxRecDepth 4000 in
theorem g_X8_bobbin_13 {sc : List Int} {d : Nat} {m : Mem} {Q : Option AV → Mem → Prop} {l1 l2 s0 : Int} (k : (-2147483648 ≤ s0 ∧ s0 < 2147483648) ∧ ((s0 ≠ 0) → (((-2147483648 ≤ l2 ∧ l2 < 2147483648)) ∧ ((l2 ≠ 0) → (¬ (l2 ≠ 1)) → (0 ≤ (6 + l1))) ∧ ((l2 ≠ 0) → (¬ (l2 ≠ 1)) → ((6 + l1) < 12)) ∧ ((¬ (l2 ≠ 0)) → (0 ≤ (6 + l1))) ∧ ((¬ (l2 ≠ 0)) → ((6 + l1) < 12)) ∧ Q (some (aI (if l2 ≠ 0 then (if l2 ≠ 1 then (-1) else (m 98 (6 + l1)) : Int) else (m 97 (6 + l1)) : Int))) m)) ∧ (¬ (s0 ≠ 0) → (Q (some (aI (-1))) m))) : S_X8_bobbin sc d 13 [aR 62, aI l1, aI l2] [aI s0] m Q := by
  obtain ⟨h1, k⟩ := k
  obtain ⟨k1, k2⟩ := k
  refine x_if_ne (tgt := 18) (pc2 := 16) dX8_bobbin_13 (by decide) rfl h1 (fun c2 => ?_) (fun c2 => ?_)
  · replace k := k1 c2
    refine x_iload_n (pc2 := 19) dX8_bobbin_18 rfl rfl ?_
    obtain ⟨g4, k⟩ := k
    obtain ⟨g7, k⟩ := k
    obtain ⟨g8, k⟩ := k
    obtain ⟨g11, k⟩ := k
    obtain ⟨g12, k⟩ := k
    have kj : S_X8_bobbin sc d 52 [aR 62, aI l1, aI l2] [aI (if l2 ≠ 0 then (if l2 ≠ 1 then (-1) else (m 98 (6 + l1)) : Int) else (m 97 (6 + l1)) : Int)] m Q := by
      exact x_ireturn dX8_bobbin_52 ⟨.int, rfl, rfl⟩ k
    have h13 := g4 
    refine x_if_ne (tgt := 34) (pc2 := 22) dX8_bobbin_19 (by decide) rfl h13 (fun c14 => ?_) (fun c14 => ?_)
    · skip
      refine x_iload_n (pc2 := 35) dX8_bobbin_34 rfl rfl ?_
      refine x_iconst (pc2 := 36) dX8_bobbin_35 rfl ?_
      refine x_icmp_ne (tgt := 51) (pc2 := 39) dX8_bobbin_36 (by decide) rfl h13 (by decide) (fun c15 => ?_) (fun c15 => ?_)
      · skip
        refine x_iconst (pc2 := 52) dX8_bobbin_51 rfl ?_
        exact x_topI (v := (if l2 ≠ 0 then (if l2 ≠ 1 then (-1) else (m 98 (6 + l1)) : Int) else (m 97 (6 + l1)) : Int)) ((if_pos c14).trans (if_pos c15)) kj
      · skip
        refine x_aload_n (pc2 := 40) dX8_bobbin_39 rfl rfl ?_
        refine x_getf (pc2 := 43) (v := aR 98) fl_X8_121 ic_62 (vr_62_45 _) dX8_bobbin_40 rfl ?_
        refine x_bipush (pc2 := 45) dX8_bobbin_43 rfl rfl ?_
        refine x_iload_n (pc2 := 46) dX8_bobbin_45 rfl rfl ?_
        refine x_iadd (pc2 := 47) dX8_bobbin_46 rfl ?_
        have h16 := g7 c14 c15
        have h17 := g8 c14 c15
        refine x_iald (pc2 := 48) ic_98 h16 (by rw [al_98]; exact h17) dX8_bobbin_47 rfl ?_
        refine x_goto (tgt := 52) dX8_bobbin_48 (by decide) ?_
        exact x_topI (v := (if l2 ≠ 0 then (if l2 ≠ 1 then (-1) else (m 98 (6 + l1)) : Int) else (m 97 (6 + l1)) : Int)) ((if_pos c14).trans (if_neg c15)) kj
    · skip
      refine x_aload_n (pc2 := 23) dX8_bobbin_22 rfl rfl ?_
      refine x_getf (pc2 := 26) (v := aR 97) fl_X8_118 ic_62 (vr_62_44 _) dX8_bobbin_23 rfl ?_
      refine x_bipush (pc2 := 28) dX8_bobbin_26 rfl rfl ?_
      refine x_iload_n (pc2 := 29) dX8_bobbin_28 rfl rfl ?_
      refine x_iadd (pc2 := 30) dX8_bobbin_29 rfl ?_
      have h18 := g11 c14
      have h19 := g12 c14
      refine x_iald (pc2 := 31) ic_97 h18 (by rw [al_97]; exact h19) dX8_bobbin_30 rfl ?_
      refine x_goto (tgt := 52) dX8_bobbin_31 (by decide) ?_
      exact x_topI (v := (if l2 ≠ 0 then (if l2 ≠ 1 then (-1) else (m 98 (6 + l1)) : Int) else (m 97 (6 + l1)) : Int)) (if_neg c14) kj
  · replace k := k2 c2
    refine x_iconst (pc2 := 17) dX8_bobbin_16 rfl ?_
    exact x_ireturn dX8_bobbin_17 ⟨.int, rfl, rfl⟩ k
theorem c_X8_bobbin_4 {sc : List Int} {d d2 : Nat} {m m2 : Mem} {Q : Option AV → Mem → Prop} {l1 l2 s0 s1 : Int} {v : Int} (hM : C_X8_lengthMany sc d2 [aR 62] m (some (aI v)) m2) (hd : d2 + 1 ≤ d) (k : S_X8_bobbin sc d 7 [aR 62, aI l1, aI l2] [aI v, aJ s1, aJ s0] m2 Q) : S_X8_bobbin sc d 4 [aR 62, aI l1, aI l2] [aR 62, aJ s1, aJ s0] m Q := x_callV (as := []) (rest := [aJ s1, aJ s0]) hM mk_X8_lengthMany mv_X8_lengthMany lk_X8_438 (Or.inl ⟨8, (RX8, TX8, 123), ic_62, Nat.le_of_ble_eq_true rfl, rfl, rfl⟩) hd rfl rfl (Nat.le_of_ble_eq_true rfl) dX8_bobbin_4 rfl k
theorem c_X8_bobbin_10 {sc : List Int} {d d2 : Nat} {m m2 : Mem} {Q : Option AV → Mem → Prop} {l1 l2 s0 s1 s2 : Int} {v : Int} (hM : C_X8_isIn sc d2 [aJ s0, aJ s1, aJ s2] m (some (aI v)) m2) (hd : d2 + 1 ≤ d) (k : S_X8_bobbin sc d 13 [aR 62, aI l1, aI l2] [aI v] m2 Q) : S_X8_bobbin sc d 10 [aR 62, aI l1, aI l2] [aJ s2, aJ s1, aJ s0] m Q := x_callS (as := [aJ s0, aJ s1, aJ s2]) (rest := []) hM mk_X8_isIn ms_X8_isIn lk_X8_333 hd rfl rfl (Nat.le_of_ble_eq_true rfl) dX8_bobbin_10 rfl k
set_option maxRecDepth 4000 in
theorem g_X8_seam_0 {sc : List Int} {d : Nat} {m : Mem} {Q : Option AV → Mem → Prop} {l1 l2 : Int} (k : (-2147483648 ≤ l1 ∧ l1 < 2147483648) ∧ S_X8_seam sc d 4 [aR 62, aI l1, aI l2] [aR 62, aJ 0, aJ l1] m Q) : S_X8_seam sc d 0 [aR 62, aI l1, aI l2] [] m Q := by
  refine x_iload_n (pc2 := 1) dX8_seam_0 rfl rfl ?_
  obtain ⟨h1, k⟩ := k
  refine x_i2l (pc2 := 2) dX8_seam_1 rfl h1 ?_
  refine x_lconst (pc2 := 3) (v := 0) dX8_seam_2 rfl rfl ?_
  refine x_aload_n (pc2 := 4) dX8_seam_3 rfl rfl ?_
  exact k
set_option maxRecDepth 4000 in
theorem g_X8_seam_7 {sc : List Int} {d : Nat} {m : Mem} {Q : Option AV → Mem → Prop} {l1 l2 s0 s1 s2 : Int} (k : (-2147483648 ≤ (s2 - 1) ∧ (s2 - 1) < 2147483648) ∧ S_X8_seam sc d 10 [aR 62, aI l1, aI l2] [aJ (s2 - 1), aJ s1, aJ s0] m Q) : S_X8_seam sc d 7 [aR 62, aI l1, aI l2] [aI s2, aJ s1, aJ s0] m Q := by
  refine x_iconst (pc2 := 8) dX8_seam_7 rfl ?_
  refine x_isub (pc2 := 9) dX8_seam_8 rfl ?_
  obtain ⟨h1, k⟩ := k
  refine x_i2l (pc2 := 10) dX8_seam_9 rfl h1 ?_
  exact k
set_option maxRecDepth 4000 in
theorem g_X8_seam_13 {sc : List Int} {d : Nat} {m : Mem} {Q : Option AV → Mem → Prop} {l1 l2 s0 : Int} (k : (-2147483648 ≤ s0 ∧ s0 < 2147483648) ∧ ((s0 ≠ 0) → ((-2147483648 ≤ l2 ∧ l2 < 2147483648) ∧ S_X8_seam sc d 27 [aR 62, aI l1, aI l2] [aI l1, aR 62, aI 9, aJ 10, aJ l2] m Q)) ∧ (¬ (s0 ≠ 0) → (Q (some (aI (-1))) m))) : S_X8_seam sc d 13 [aR 62, aI l1, aI l2] [aI s0] m Q := by
  obtain ⟨h1, k⟩ := k
  obtain ⟨k1, k2⟩ := k
  refine x_if_ne (tgt := 18) (pc2 := 16) dX8_seam_13 (by decide) rfl h1 (fun c2 => ?_) (fun c2 => ?_)
  · replace k := k1 c2
    refine x_iload_n (pc2 := 19) dX8_seam_18 rfl rfl ?_
    obtain ⟨h3, k⟩ := k
    refine x_i2l (pc2 := 20) dX8_seam_19 rfl h3 ?_
    refine x_ldc2 (pc2 := 23) (x := 10) kc_X8_543 rfl dX8_seam_20 rfl ?_
    refine x_bipush (pc2 := 25) dX8_seam_23 rfl rfl ?_
    refine x_aload_n (pc2 := 26) dX8_seam_25 rfl rfl ?_
    refine x_iload_n (pc2 := 27) dX8_seam_26 rfl rfl ?_
    exact k
  · replace k := k2 c2
    refine x_iconst (pc2 := 17) dX8_seam_16 rfl ?_
    exact x_ireturn dX8_seam_17 ⟨.int, rfl, rfl⟩ k
set_option maxRecDepth 4000 in
theorem g_X8_seam_30 {sc : List Int} {d : Nat} {m : Mem} {Q : Option AV → Mem → Prop} {l1 l2 s0 s1 s2 s3 : Int} (k : (-2147483648 ≤ (s2 + s3) ∧ (s2 + s3) < 2147483648) ∧ S_X8_seam sc d 32 [aR 62, aI l1, aI l2] [aJ (s2 + s3), aJ s1, aJ s0] m Q) : S_X8_seam sc d 30 [aR 62, aI l1, aI l2] [aI s3, aI s2, aJ s1, aJ s0] m Q := by
  refine x_iadd (pc2 := 31) dX8_seam_30 rfl ?_
  obtain ⟨h1, k⟩ := k
  refine x_i2l (pc2 := 32) dX8_seam_31 rfl h1 ?_
  exact k
set_option maxRecDepth 4000 in
theorem g_X8_seam_35 {sc : List Int} {d : Nat} {m : Mem} {Q : Option AV → Mem → Prop} {l1 l2 s0 : Int} (k : (-2147483648 ≤ s0 ∧ s0 < 2147483648) ∧ ((s0 = 0) → ((-2147483648 ≤ l2 ∧ l2 < 2147483648) ∧ S_X8_seam sc d 54 [aR 62, aI l1, aI l2] [aJ 2, aJ 0, aJ l2] m Q)) ∧ (¬ (s0 = 0) → (S_X8_seam sc d 44 [aR 62, aU, aU] [aI (l2 - 10), aI l1, aR 62] m Q))) : S_X8_seam sc d 35 [aR 62, aI l1, aI l2] [aI s0] m Q := by
  obtain ⟨h1, k⟩ := k
  obtain ⟨k1, k2⟩ := k
  refine x_if_eq (tgt := 48) (pc2 := 38) dX8_seam_35 (by decide) rfl h1 (fun c2 => ?_) (fun c2 => ?_)
  · replace k := k1 c2
    refine x_iload_n (pc2 := 49) dX8_seam_48 rfl rfl ?_
    obtain ⟨h3, k⟩ := k
    refine x_i2l (pc2 := 50) dX8_seam_49 rfl h3 ?_
    refine x_lconst (pc2 := 51) (v := 0) dX8_seam_50 rfl rfl ?_
    refine x_ldc2 (pc2 := 54) (x := 2) kc_X8_526 rfl dX8_seam_51 rfl ?_
    exact k
  · replace k := k2 c2
    refine x_aload_n (pc2 := 39) dX8_seam_38 rfl rfl ?_
    refine x_iload_n (pc2 := 40) dX8_seam_39 rfl rfl ?_
    refine x_iload_n (pc2 := 41) dX8_seam_40 rfl rfl ?_
    refine x_bipush (pc2 := 43) dX8_seam_41 rfl rfl ?_
    refine x_isub (pc2 := 44) dX8_seam_43 rfl ?_
    exact x_drop (drp_k (drp_u (drp_u drp_n))) k
set_option maxRecDepth 4000 in
theorem g_X8_seam_47 {sc : List Int} {d : Nat} {m : Mem} {Q : Option AV → Mem → Prop} {s0 : Int} (k : Q (some (aI s0)) m) : S_X8_seam sc d 47 [aR 62, aU, aU] [aI s0] m Q := by
  exact x_ireturn dX8_seam_47 ⟨.int, rfl, rfl⟩ k
set_option maxRecDepth 4000 in
theorem g_X8_seam_57 {sc : List Int} {d : Nat} {m : Mem} {Q : Option AV → Mem → Prop} {l1 l2 s0 : Int} (k : ((-2147483648 ≤ s0 ∧ s0 < 2147483648)) ∧ ((¬ (s0 = 0)) → (0 ≤ ((70 + (7 * l1)) + l2))) ∧ ((¬ (s0 = 0)) → (((70 + (7 * l1)) + l2) < 140)) ∧ Q (some (aI (if s0 = 0 then (-1) else (m 99 ((70 + (7 * l1)) + l2)) : Int))) m) : S_X8_seam sc d 57 [aR 62, aI l1, aI l2] [aI s0] m Q := by
  obtain ⟨g2, k⟩ := k
  obtain ⟨g5, k⟩ := k
  obtain ⟨g6, k⟩ := k
  have kj : S_X8_seam sc d 78 [aR 62, aI l1, aI l2] [aI (if s0 = 0 then (-1) else (m 99 ((70 + (7 * l1)) + l2)) : Int)] m Q := by
    exact x_ireturn dX8_seam_78 ⟨.int, rfl, rfl⟩ k
  have h7 := g2 
  refine x_if_eq (tgt := 77) (pc2 := 60) dX8_seam_57 (by decide) rfl h7 (fun c8 => ?_) (fun c8 => ?_)
  · skip
    refine x_iconst (pc2 := 78) dX8_seam_77 rfl ?_
    exact x_topI (v := (if s0 = 0 then (-1) else (m 99 ((70 + (7 * l1)) + l2)) : Int)) (if_pos c8) kj
  · skip
    refine x_aload_n (pc2 := 61) dX8_seam_60 rfl rfl ?_
    refine x_getf (pc2 := 64) (v := aR 99) fl_X8_124 ic_62 (vr_62_46 _) dX8_seam_61 rfl ?_
    refine x_bipush (pc2 := 66) dX8_seam_64 rfl rfl ?_
    refine x_bipush (pc2 := 68) dX8_seam_66 rfl rfl ?_
    refine x_iload_n (pc2 := 69) dX8_seam_68 rfl rfl ?_
    refine x_imul (pc2 := 70) dX8_seam_69 rfl ?_
    refine x_iadd (pc2 := 71) dX8_seam_70 rfl ?_
    refine x_iload_n (pc2 := 72) dX8_seam_71 rfl rfl ?_
    refine x_iadd (pc2 := 73) dX8_seam_72 rfl ?_
    have h9 := g5 c8
    have h10 := g6 c8
    refine x_iald (pc2 := 74) ic_99 h9 (by rw [al_99]; exact h10) dX8_seam_73 rfl ?_
    refine x_goto (tgt := 78) dX8_seam_74 (by decide) ?_
    exact x_topI (v := (if s0 = 0 then (-1) else (m 99 ((70 + (7 * l1)) + l2)) : Int)) (if_neg c8) kj
theorem c_X8_seam_4 {sc : List Int} {d d2 : Nat} {m m2 : Mem} {Q : Option AV → Mem → Prop} {l1 l2 s0 s1 : Int} {v : Int} (hM : C_X8_seamMany sc d2 [aR 62] m (some (aI v)) m2) (hd : d2 + 1 ≤ d) (k : S_X8_seam sc d 7 [aR 62, aI l1, aI l2] [aI v, aJ s1, aJ s0] m2 Q) : S_X8_seam sc d 4 [aR 62, aI l1, aI l2] [aR 62, aJ s1, aJ s0] m Q := x_callV (as := []) (rest := [aJ s1, aJ s0]) hM mk_X8_seamMany mv_X8_seamMany lk_X8_431 (Or.inl ⟨8, (RX8, TX8, 123), ic_62, Nat.le_of_ble_eq_true rfl, rfl, rfl⟩) hd rfl rfl (Nat.le_of_ble_eq_true rfl) dX8_seam_4 rfl k
theorem c_X8_seam_10 {sc : List Int} {d d2 : Nat} {m m2 : Mem} {Q : Option AV → Mem → Prop} {l1 l2 s0 s1 s2 : Int} {v : Int} (hM : C_X8_isIn sc d2 [aJ s0, aJ s1, aJ s2] m (some (aI v)) m2) (hd : d2 + 1 ≤ d) (k : S_X8_seam sc d 13 [aR 62, aI l1, aI l2] [aI v] m2 Q) : S_X8_seam sc d 10 [aR 62, aI l1, aI l2] [aJ s2, aJ s1, aJ s0] m Q := x_callS (as := [aJ s0, aJ s1, aJ s2]) (rest := []) hM mk_X8_isIn ms_X8_isIn lk_X8_333 hd rfl rfl (Nat.le_of_ble_eq_true rfl) dX8_seam_10 rfl k
theorem c_X8_seam_27 {sc : List Int} {d d2 : Nat} {m m2 : Mem} {Q : Option AV → Mem → Prop} {l1 l2 s0 s1 s2 s4 : Int} {v : Int} (hM : C_X8_placeMany sc d2 [aR 62, aI s4] m (some (aI v)) m2) (hd : d2 + 1 ≤ d) (k : S_X8_seam sc d 30 [aR 62, aI l1, aI l2] [aI v, aI s2, aJ s1, aJ s0] m2 Q) : S_X8_seam sc d 27 [aR 62, aI l1, aI l2] [aI s4, aR 62, aI s2, aJ s1, aJ s0] m Q := x_callV (as := [aI s4]) (rest := [aI s2, aJ s1, aJ s0]) hM mk_X8_placeMany mv_X8_placeMany lk_X8_545 (Or.inl ⟨8, (RX8, TX8, 123), ic_62, Nat.le_of_ble_eq_true rfl, rfl, rfl⟩) hd rfl rfl (Nat.le_of_ble_eq_true rfl) dX8_seam_27 rfl k
theorem c_X8_seam_32 {sc : List Int} {d d2 : Nat} {m m2 : Mem} {Q : Option AV → Mem → Prop} {l1 l2 s0 s1 s2 : Int} {v : Int} (hM : C_X8_isIn sc d2 [aJ s0, aJ s1, aJ s2] m (some (aI v)) m2) (hd : d2 + 1 ≤ d) (k : S_X8_seam sc d 35 [aR 62, aI l1, aI l2] [aI v] m2 Q) : S_X8_seam sc d 32 [aR 62, aI l1, aI l2] [aJ s2, aJ s1, aJ s0] m Q := x_callS (as := [aJ s0, aJ s1, aJ s2]) (rest := []) hM mk_X8_isIn ms_X8_isIn lk_X8_333 hd rfl rfl (Nat.le_of_ble_eq_true rfl) dX8_seam_32 rfl k
theorem c_X8_seam_44 {sc : List Int} {d d2 : Nat} {m m2 : Mem} {Q : Option AV → Mem → Prop} {s1 s2 : Int} {v : Int} (hM : C_X8_placeOf sc d2 [aR 62, aI s1, aI s2] m (some (aI v)) m2) (hd : d2 + 1 ≤ d) (k : S_X8_seam sc d 47 [aR 62, aU, aU] [aI v] m2 Q) : S_X8_seam sc d 44 [aR 62, aU, aU] [aI s2, aI s1, aR 62] m Q := x_callV (as := [aI s1, aI s2]) (rest := []) hM mk_X8_placeOf mv_X8_placeOf lk_X8_548 (Or.inl ⟨8, (RX8, TX8, 123), ic_62, Nat.le_of_ble_eq_true rfl, rfl, rfl⟩) hd rfl rfl (Nat.le_of_ble_eq_true rfl) dX8_seam_44 rfl k
theorem c_X8_seam_54 {sc : List Int} {d d2 : Nat} {m m2 : Mem} {Q : Option AV → Mem → Prop} {l1 l2 s0 s1 s2 : Int} {v : Int} (hM : C_X8_isIn sc d2 [aJ s0, aJ s1, aJ s2] m (some (aI v)) m2) (hd : d2 + 1 ≤ d) (k : S_X8_seam sc d 57 [aR 62, aI l1, aI l2] [aI v] m2 Q) : S_X8_seam sc d 54 [aR 62, aI l1, aI l2] [aJ s2, aJ s1, aJ s0] m Q := x_callS (as := [aJ s0, aJ s1, aJ s2]) (rest := []) hM mk_X8_isIn ms_X8_isIn lk_X8_333 hd rfl rfl (Nat.le_of_ble_eq_true rfl) dX8_seam_54 rfl k
set_option maxRecDepth 4000 in
theorem g_X8_packs_0 {sc : List Int} {d : Nat} {m : Mem} {Q : Option AV → Mem → Prop} {l1 : Int} (k : S_X8_packs sc d 9 [aR 62, aI l1, aI l1, aI 0, aU] [] (wr m 62 66 0) Q) : S_X8_packs sc d 0 [aR 62, aI l1, aU, aU, aU] [] m Q := by
  refine x_aload_n (pc2 := 1) dX8_packs_0 rfl rfl ?_
  refine x_iconst (pc2 := 2) dX8_packs_1 rfl ?_
  refine x_putf (pc2 := 5) (x := 0) fl_X8_551 ft_8_66 ic_62 (pv_i _ ic_62 rfl) (pn_i _) dX8_packs_2 rfl ?_
  refine x_iload_n (pc2 := 6) dX8_packs_5 rfl rfl ?_
  refine x_istore_n (pc2 := 7) (ls2 := [aR 62, aI l1, aI l1, aU, aU]) dX8_packs_6 rfl (by decide) rfl ?_
  refine x_iconst (pc2 := 8) dX8_packs_7 rfl ?_
  refine x_istore_n (pc2 := 9) (ls2 := [aR 62, aI l1, aI l1, aI 0, aU]) dX8_packs_8 rfl (by decide) rfl ?_
  exact k
set_option maxRecDepth 4000 in
theorem g_X8_packs_9 {sc : List Int} {d : Nat} {m : Mem} {Q : Option AV → Mem → Prop} {l1 l2 l3 : Int} (k : S_X8_packs sc d 11 [aR 62, aI l1, aI l2, aI l3, aU] [aR 62, aI l3] m Q) : S_X8_packs sc d 9 [aR 62, aI l1, aI l2, aI l3, aU] [] m Q := by
  refine x_iload_n (pc2 := 10) dX8_packs_9 rfl rfl ?_
  refine x_aload_n (pc2 := 11) dX8_packs_10 rfl rfl ?_
  exact k
set_option maxRecDepth 4000 in
theorem g_X8_packs_14 {sc : List Int} {d : Nat} {m : Mem} {Q : Option AV → Mem → Prop} {l1 l2 l3 s0 s1 : Int} (k : (-2147483648 ≤ s0 ∧ s0 < 2147483648) ∧ (-2147483648 ≤ s1 ∧ s1 < 2147483648) ∧ ((s1 ≤ s0) → (Q (some (aI 1)) m)) ∧ (¬ (s1 ≤ s0) → (S_X8_packs sc d 19 [aR 62, aI l1, aI l2, aI l3, aU] [aI l3, aR 62] m Q))) : S_X8_packs sc d 14 [aR 62, aI l1, aI l2, aI l3, aU] [aI s1, aI s0] m Q := by
  obtain ⟨h1, k⟩ := k
  obtain ⟨h2, k⟩ := k
  obtain ⟨k1, k2⟩ := k
  refine x_icmp_ge (tgt := 100) (pc2 := 17) dX8_packs_14 (by decide) rfl h1 h2 (fun c3 => ?_) (fun c3 => ?_)
  · replace k := k1 c3
    refine x_iconst (pc2 := 101) dX8_packs_100 rfl ?_
    exact x_ireturn dX8_packs_101 ⟨.boolean, rfl, rfl⟩ k
  · replace k := k2 c3
    refine x_aload_n (pc2 := 18) dX8_packs_17 rfl rfl ?_
    refine x_iload_n (pc2 := 19) dX8_packs_18 rfl rfl ?_
    exact k
set_option maxRecDepth 4000 in
theorem g_X8_packs_22 {sc : List Int} {d : Nat} {m : Mem} {Q : Option AV → Mem → Prop} {l1 l2 l3 s0 : Int} (k : (-2147483648 ≤ s0 ∧ s0 < 2147483648) ∧ (-2147483648 ≤ l1 ∧ l1 < 2147483648) ∧ ((s0 ≤ l1) → (S_X8_packs sc d 31 [aR 62, aI l1, aI l2, aI l3, aU] [aI l3, aR 62, aI l2] m Q)) ∧ (¬ (s0 ≤ l1) → (Q (some (aI 0)) m))) : S_X8_packs sc d 22 [aR 62, aI l1, aI l2, aI l3, aU] [aI s0] m Q := by
  refine x_iload_n (pc2 := 23) dX8_packs_22 rfl rfl ?_
  obtain ⟨h1, k⟩ := k
  obtain ⟨h2, k⟩ := k
  obtain ⟨k1, k2⟩ := k
  refine x_icmp_le (tgt := 28) (pc2 := 26) dX8_packs_23 (by decide) rfl h1 h2 (fun c3 => ?_) (fun c3 => ?_)
  · replace k := k1 c3
    refine x_iload_n (pc2 := 29) dX8_packs_28 rfl rfl ?_
    refine x_aload_n (pc2 := 30) dX8_packs_29 rfl rfl ?_
    refine x_iload_n (pc2 := 31) dX8_packs_30 rfl rfl ?_
    exact k
  · replace k := k2 c3
    refine x_iconst (pc2 := 27) dX8_packs_26 rfl ?_
    exact x_ireturn dX8_packs_27 ⟨.boolean, rfl, rfl⟩ k
set_option maxRecDepth 4000 in
theorem g_X8_packs_34 {sc : List Int} {d : Nat} {m : Mem} {Q : Option AV → Mem → Prop} {l1 l2 l3 s0 s1 : Int} (k : ((-2147483648 ≤ (s0 + s1) ∧ (s0 + s1) < 2147483648)) ∧ ((-2147483648 ≤ l1 ∧ l1 < 2147483648)) ∧ ((-2147483648 ≤ (if (s0 + s1) ≤ l1 then 0 else 1 : Int) ∧ (if (s0 + s1) ≤ l1 then 0 else 1 : Int) < 2147483648)) ∧ (0 ≤ l3) ∧ (l3 < 10) ∧ (-2147483648 ≤ (if (s0 + s1) ≤ l1 then 0 else 1 : Int) ∧ (if (s0 + s1) ≤ l1 then 0 else 1 : Int) < 2147483648) ∧ (((if (s0 + s1) ≤ l1 then 0 else 1 : Int) = 0) → (S_X8_packs sc d 89 [aR 62, aI l1, aU, aI l3, aU] [aI l3, aR 62, aI (if (if (s0 + s1) ≤ l1 then 0 else 1 : Int) = 0 then l2 else 0 : Int)] (wr m 110 l3 (if (if (s0 + s1) ≤ l1 then 0 else 1 : Int) = 0 then 0 else 1 : Int)) Q)) ∧ (¬ ((if (s0 + s1) ≤ l1 then 0 else 1 : Int) = 0) → (S_X8_packs sc d 89 [aR 62, aI l1, aU, aI l3, aU] [aI l3, aR 62, aI (if (if (s0 + s1) ≤ l1 then 0 else 1 : Int) = 0 then l2 else 0 : Int)] (wr (wr m 110 l3 (if (if (s0 + s1) ≤ l1 then 0 else 1 : Int) = 0 then 0 else 1 : Int)) 62 66 (((wr m 110 l3 (if (if (s0 + s1) ≤ l1 then 0 else 1 : Int) = 0 then 0 else 1 : Int)) 62 66) + 1)) Q))) : S_X8_packs sc d 34 [aR 62, aI l1, aI l2, aI l3, aU] [aI s1, aI s0] m Q := by
  refine x_iadd (pc2 := 35) dX8_packs_34 rfl ?_
  refine x_iload_n (pc2 := 36) dX8_packs_35 rfl rfl ?_
  obtain ⟨g3, k⟩ := k
  obtain ⟨g4, k⟩ := k
  have kj : S_X8_packs sc d 44 [aR 62, aI l1, aI l2, aI l3, aU] [aI (if (s0 + s1) ≤ l1 then 0 else 1 : Int)] m Q := by
    refine x_istore (pc2 := 46) (ls2 := [aR 62, aI l1, aI l2, aI l3, aI (if (s0 + s1) ≤ l1 then 0 else 1 : Int)]) dX8_packs_44 rfl (by decide) rfl ?_
    refine x_aload_n (pc2 := 47) dX8_packs_46 rfl rfl ?_
    refine x_getf (pc2 := 50) (v := aR 110) fl_X8_157 ic_62 (vr_62_65 _) dX8_packs_47 rfl ?_
    refine x_iload_n (pc2 := 51) dX8_packs_50 rfl rfl ?_
    refine x_iload (pc2 := 53) dX8_packs_51 rfl rfl ?_
    obtain ⟨g6, k⟩ := k
    have kj : S_X8_packs sc d 61 [aR 62, aI l1, aI l2, aI l3, aI (if (s0 + s1) ≤ l1 then 0 else 1 : Int)] [aI (if (if (s0 + s1) ≤ l1 then 0 else 1 : Int) = 0 then 0 else 1 : Int), aI l3, aR 110] m Q := by
      obtain ⟨h7, k⟩ := k
      obtain ⟨h8, k⟩ := k
      refine x_iast (pc2 := 62) ic_110 h7 (by rw [al_110]; exact h8) dX8_packs_61 rfl ?_
      refine x_iload (pc2 := 64) dX8_packs_62 rfl rfl ?_
      obtain ⟨h9, k⟩ := k
      obtain ⟨k1, k2⟩ := k
      refine x_if_eq (tgt := 77) (pc2 := 67) dX8_packs_64 (by decide) rfl h9 (fun c10 => ?_) (fun c10 => ?_)
      · replace k := k1 c10
        refine x_iload (pc2 := 79) dX8_packs_77 rfl rfl ?_
        have kj : S_X8_packs sc d 87 [aR 62, aI l1, aI l2, aI l3, aI (if (s0 + s1) ≤ l1 then 0 else 1 : Int)] [aI (if (if (s0 + s1) ≤ l1 then 0 else 1 : Int) = 0 then l2 else 0 : Int)] (wr m 110 l3 (if (if (s0 + s1) ≤ l1 then 0 else 1 : Int) = 0 then 0 else 1 : Int)) Q := by
          refine x_aload_n (pc2 := 88) dX8_packs_87 rfl rfl ?_
          refine x_iload_n (pc2 := 89) dX8_packs_88 rfl rfl ?_
          exact x_drop (drp_k (drp_k (drp_u (drp_k (drp_u drp_n))))) k
        refine x_if_eq (tgt := 86) (pc2 := 82) dX8_packs_79 (by decide) rfl h9 (fun c11 => ?_) (fun c11 => ?_)
        · skip
          refine x_iload_n (pc2 := 87) dX8_packs_86 rfl rfl ?_
          exact x_topI (v := (if (if (s0 + s1) ≤ l1 then 0 else 1 : Int) = 0 then l2 else 0 : Int)) (if_pos c11) kj
        · skip
          refine x_iconst (pc2 := 83) dX8_packs_82 rfl ?_
          refine x_goto (tgt := 87) dX8_packs_83 (by decide) ?_
          exact x_topI (v := (if (if (s0 + s1) ≤ l1 then 0 else 1 : Int) = 0 then l2 else 0 : Int)) (if_neg c11) kj
      · replace k := k2 c10
        refine x_aload_n (pc2 := 68) dX8_packs_67 rfl rfl ?_
        refine x_dup_r (pc2 := 69) dX8_packs_68 rfl (by decide) ?_
        refine x_getf (pc2 := 72) (v := aI ((wr m 110 l3 (if (if (s0 + s1) ≤ l1 then 0 else 1 : Int) = 0 then 0 else 1 : Int)) 62 66)) fl_X8_551 ic_62 (fv_i _ ic_62 rfl) dX8_packs_69 rfl ?_
        refine x_iconst (pc2 := 73) dX8_packs_72 rfl ?_
        refine x_iadd (pc2 := 74) dX8_packs_73 rfl ?_
        refine x_putf (pc2 := 77) (x := (((wr m 110 l3 (if (if (s0 + s1) ≤ l1 then 0 else 1 : Int) = 0 then 0 else 1 : Int)) 62 66) + 1)) fl_X8_551 ft_8_66 ic_62 (pv_i _ ic_62 rfl) (pn_i _) dX8_packs_74 rfl ?_
        refine x_iload (pc2 := 79) dX8_packs_77 rfl rfl ?_
        have kj : S_X8_packs sc d 87 [aR 62, aI l1, aI l2, aI l3, aI (if (s0 + s1) ≤ l1 then 0 else 1 : Int)] [aI (if (if (s0 + s1) ≤ l1 then 0 else 1 : Int) = 0 then l2 else 0 : Int)] (wr (wr m 110 l3 (if (if (s0 + s1) ≤ l1 then 0 else 1 : Int) = 0 then 0 else 1 : Int)) 62 66 (((wr m 110 l3 (if (if (s0 + s1) ≤ l1 then 0 else 1 : Int) = 0 then 0 else 1 : Int)) 62 66) + 1)) Q := by
          refine x_aload_n (pc2 := 88) dX8_packs_87 rfl rfl ?_
          refine x_iload_n (pc2 := 89) dX8_packs_88 rfl rfl ?_
          exact x_drop (drp_k (drp_k (drp_u (drp_k (drp_u drp_n))))) k
        refine x_if_eq (tgt := 86) (pc2 := 82) dX8_packs_79 (by decide) rfl h9 (fun c12 => ?_) (fun c12 => ?_)
        · skip
          refine x_iload_n (pc2 := 87) dX8_packs_86 rfl rfl ?_
          exact x_topI (v := (if (if (s0 + s1) ≤ l1 then 0 else 1 : Int) = 0 then l2 else 0 : Int)) (if_pos c12) kj
        · skip
          refine x_iconst (pc2 := 83) dX8_packs_82 rfl ?_
          refine x_goto (tgt := 87) dX8_packs_83 (by decide) ?_
          exact x_topI (v := (if (if (s0 + s1) ≤ l1 then 0 else 1 : Int) = 0 then l2 else 0 : Int)) (if_neg c12) kj
    have h13 := g6 
    refine x_if_eq (tgt := 60) (pc2 := 56) dX8_packs_53 (by decide) rfl h13 (fun c14 => ?_) (fun c14 => ?_)
    · skip
      refine x_iconst (pc2 := 61) dX8_packs_60 rfl ?_
      exact x_topI (v := (if (if (s0 + s1) ≤ l1 then 0 else 1 : Int) = 0 then 0 else 1 : Int)) (if_pos c14) kj
    · skip
      refine x_iconst (pc2 := 57) dX8_packs_56 rfl ?_
      refine x_goto (tgt := 61) dX8_packs_57 (by decide) ?_
      exact x_topI (v := (if (if (s0 + s1) ≤ l1 then 0 else 1 : Int) = 0 then 0 else 1 : Int)) (if_neg c14) kj
  have h15 := g3 
  have h16 := g4 
  refine x_icmp_le (tgt := 43) (pc2 := 39) dX8_packs_36 (by decide) rfl h15 h16 (fun c17 => ?_) (fun c17 => ?_)
  · skip
    refine x_iconst (pc2 := 44) dX8_packs_43 rfl ?_
    exact x_topI (v := (if (s0 + s1) ≤ l1 then 0 else 1 : Int)) (if_pos c17) kj
  · skip
    refine x_iconst (pc2 := 40) dX8_packs_39 rfl ?_
    refine x_goto (tgt := 44) dX8_packs_40 (by decide) ?_
    exact x_topI (v := (if (s0 + s1) ≤ l1 then 0 else 1 : Int)) (if_neg c17) kj
set_option maxRecDepth 4000 in
theorem g_X8_packs_92 {sc : List Int} {d : Nat} {m : Mem} {Q : Option AV → Mem → Prop} {l1 l3 s0 s1 : Int} (k : S_X8_packs sc d 9 [aR 62, aI l1, aI (s0 + s1), aI (l3 + 1), aU] [] m Q) : S_X8_packs sc d 92 [aR 62, aI l1, aU, aI l3, aU] [aI s1, aI s0] m Q := by
  refine x_iadd (pc2 := 93) dX8_packs_92 rfl ?_
  refine x_istore_n (pc2 := 94) (ls2 := [aR 62, aI l1, aI (s0 + s1), aI l3, aU]) dX8_packs_93 rfl (by decide) rfl ?_
  refine x_iinc (pc2 := 97) (ls2 := [aR 62, aI l1, aI (s0 + s1), aI (l3 + 1), aU]) dX8_packs_94 rfl rfl (by decide) rfl ?_
  refine x_goto (tgt := 9) dX8_packs_97 (by decide) ?_
  exact k
theorem c_X8_packs_11 {sc : List Int} {d d2 : Nat} {m m2 : Mem} {Q : Option AV → Mem → Prop} {l1 l2 l3 s0 : Int} {v : Int} (hM : C_X8_seamMany sc d2 [aR 62] m (some (aI v)) m2) (hd : d2 + 1 ≤ d) (k : S_X8_packs sc d 14 [aR 62, aI l1, aI l2, aI l3, aU] [aI v, aI s0] m2 Q) : S_X8_packs sc d 11 [aR 62, aI l1, aI l2, aI l3, aU] [aR 62, aI s0] m Q := x_callV (as := []) (rest := [aI s0]) hM mk_X8_seamMany mv_X8_seamMany lk_X8_431 (Or.inl ⟨8, (RX8, TX8, 123), ic_62, Nat.le_of_ble_eq_true rfl, rfl, rfl⟩) hd rfl rfl (Nat.le_of_ble_eq_true rfl) dX8_packs_11 rfl k
theorem c_X8_packs_19 {sc : List Int} {d d2 : Nat} {m m2 : Mem} {Q : Option AV → Mem → Prop} {l1 l2 l3 s1 : Int} {v : Int} (hM : C_X8_takesOf sc d2 [aR 62, aI s1] m (some (aI v)) m2) (hd : d2 + 1 ≤ d) (k : S_X8_packs sc d 22 [aR 62, aI l1, aI l2, aI l3, aU] [aI v] m2 Q) : S_X8_packs sc d 19 [aR 62, aI l1, aI l2, aI l3, aU] [aI s1, aR 62] m Q := x_callV (as := [aI s1]) (rest := []) hM mk_X8_takesOf mv_X8_takesOf lk_X8_434 (Or.inl ⟨8, (RX8, TX8, 123), ic_62, Nat.le_of_ble_eq_true rfl, rfl, rfl⟩) hd rfl rfl (Nat.le_of_ble_eq_true rfl) dX8_packs_19 rfl k
theorem c_X8_packs_31 {sc : List Int} {d d2 : Nat} {m m2 : Mem} {Q : Option AV → Mem → Prop} {l1 l2 l3 s0 s2 : Int} {v : Int} (hM : C_X8_takesOf sc d2 [aR 62, aI s2] m (some (aI v)) m2) (hd : d2 + 1 ≤ d) (k : S_X8_packs sc d 34 [aR 62, aI l1, aI l2, aI l3, aU] [aI v, aI s0] m2 Q) : S_X8_packs sc d 31 [aR 62, aI l1, aI l2, aI l3, aU] [aI s2, aR 62, aI s0] m Q := x_callV (as := [aI s2]) (rest := [aI s0]) hM mk_X8_takesOf mv_X8_takesOf lk_X8_434 (Or.inl ⟨8, (RX8, TX8, 123), ic_62, Nat.le_of_ble_eq_true rfl, rfl, rfl⟩) hd rfl rfl (Nat.le_of_ble_eq_true rfl) dX8_packs_31 rfl k
theorem c_X8_packs_89 {sc : List Int} {d d2 : Nat} {m m2 : Mem} {Q : Option AV → Mem → Prop} {l1 l3 s0 s2 : Int} {v : Int} (hM : C_X8_takesOf sc d2 [aR 62, aI s2] m (some (aI v)) m2) (hd : d2 + 1 ≤ d) (k : S_X8_packs sc d 92 [aR 62, aI l1, aU, aI l3, aU] [aI v, aI s0] m2 Q) : S_X8_packs sc d 89 [aR 62, aI l1, aU, aI l3, aU] [aI s2, aR 62, aI s0] m Q := x_callV (as := [aI s2]) (rest := [aI s0]) hM mk_X8_takesOf mv_X8_takesOf lk_X8_434 (Or.inl ⟨8, (RX8, TX8, 123), ic_62, Nat.le_of_ble_eq_true rfl, rfl, rfl⟩) hd rfl rfl (Nat.le_of_ble_eq_true rfl) dX8_packs_89 rfl k
set_option maxRecDepth 4000 in
theorem g_X8_isAsked_0 {sc : List Int} {d : Nat} {m : Mem} {Q : Option AV → Mem → Prop} {l1 l2 : Int} (k : (-2147483648 ≤ (m 62 53) ∧ (m 62 53) < 2147483648) ∧ (((m 62 53) = 0) → (Q (some (aI 0)) m)) ∧ (¬ ((m 62 53) = 0) → ((-2147483648 ≤ l1 ∧ l1 < 2147483648) ∧ S_X8_isAsked sc d 13 [aR 62, aU, aI l2] [aJ 99, aJ 1, aJ l1] m Q))) : S_X8_isAsked sc d 0 [aR 62, aI l1, aI l2] [] m Q := by
  refine x_aload_n (pc2 := 1) dX8_isAsked_0 rfl rfl ?_
  refine x_getf (pc2 := 4) (v := aI (m 62 53)) fl_X8_422 ic_62 (fv_i _ ic_62 rfl) dX8_isAsked_1 rfl ?_
  obtain ⟨h1, k⟩ := k
  obtain ⟨k1, k2⟩ := k
  refine x_if_eq (tgt := 44) (pc2 := 7) dX8_isAsked_4 (by decide) rfl h1 (fun c2 => ?_) (fun c2 => ?_)
  · replace k := k1 c2
    refine x_iconst (pc2 := 45) dX8_isAsked_44 rfl ?_
    exact x_ireturn dX8_isAsked_45 ⟨.boolean, rfl, rfl⟩ k
  · replace k := k2 c2
    refine x_iload_n (pc2 := 8) dX8_isAsked_7 rfl rfl ?_
    obtain ⟨h3, k⟩ := k
    refine x_i2l (pc2 := 9) dX8_isAsked_8 rfl h3 ?_
    refine x_lconst (pc2 := 10) (v := 1) dX8_isAsked_9 rfl rfl ?_
    refine x_ldc2 (pc2 := 13) (x := 99) kc_X8_513 rfl dX8_isAsked_10 rfl ?_
    exact x_drop (drp_k (drp_u (drp_k drp_n))) k
set_option maxRecDepth 4000 in
theorem g_X8_isAsked_16 {sc : List Int} {d : Nat} {m : Mem} {Q : Option AV → Mem → Prop} {l2 s0 : Int} (k : (-2147483648 ≤ s0 ∧ s0 < 2147483648) ∧ ((s0 = 0) → (Q (some (aI 0)) m)) ∧ (¬ (s0 = 0) → ((-2147483648 ≤ l2 ∧ l2 < 2147483648) ∧ ((l2 = (-1)) → (Q (some (aI 1)) m)) ∧ (¬ (l2 = (-1)) → (S_X8_isAsked sc d 28 [aR 62, aU, aU] [aR 62, aJ 0, aJ l2] m Q))))) : S_X8_isAsked sc d 16 [aR 62, aU, aI l2] [aI s0] m Q := by
  obtain ⟨h1, k⟩ := k
  obtain ⟨k1, k2⟩ := k
  refine x_if_eq (tgt := 44) (pc2 := 19) dX8_isAsked_16 (by decide) rfl h1 (fun c2 => ?_) (fun c2 => ?_)
  · replace k := k1 c2
    refine x_iconst (pc2 := 45) dX8_isAsked_44 rfl ?_
    exact x_ireturn dX8_isAsked_45 ⟨.boolean, rfl, rfl⟩ k
  · replace k := k2 c2
    refine x_iload_n (pc2 := 20) dX8_isAsked_19 rfl rfl ?_
    refine x_iconst (pc2 := 21) dX8_isAsked_20 rfl ?_
    obtain ⟨h3, k⟩ := k
    obtain ⟨k1, k2⟩ := k
    refine x_icmp_eq (tgt := 40) (pc2 := 24) dX8_isAsked_21 (by decide) rfl h3 (by decide) (fun c4 => ?_) (fun c4 => ?_)
    · replace k := k1 c4
      refine x_iconst (pc2 := 41) dX8_isAsked_40 rfl ?_
      refine x_goto (tgt := 45) dX8_isAsked_41 (by decide) ?_
      exact x_ireturn dX8_isAsked_45 ⟨.boolean, rfl, rfl⟩ k
    · replace k := k2 c4
      refine x_iload_n (pc2 := 25) dX8_isAsked_24 rfl rfl ?_
      refine x_i2l (pc2 := 26) dX8_isAsked_25 rfl h3 ?_
      refine x_lconst (pc2 := 27) (v := 0) dX8_isAsked_26 rfl rfl ?_
      refine x_aload_n (pc2 := 28) dX8_isAsked_27 rfl rfl ?_
      exact x_drop (drp_k (drp_k (drp_u drp_n))) k
set_option maxRecDepth 4000 in
theorem g_X8_isAsked_31 {sc : List Int} {d : Nat} {m : Mem} {Q : Option AV → Mem → Prop} {s0 s1 s2 : Int} (k : (-2147483648 ≤ (s2 - 1) ∧ (s2 - 1) < 2147483648) ∧ S_X8_isAsked sc d 34 [aR 62, aU, aU] [aJ (s2 - 1), aJ s1, aJ s0] m Q) : S_X8_isAsked sc d 31 [aR 62, aU, aU] [aI s2, aJ s1, aJ s0] m Q := by
  refine x_iconst (pc2 := 32) dX8_isAsked_31 rfl ?_
  refine x_isub (pc2 := 33) dX8_isAsked_32 rfl ?_
  obtain ⟨h1, k⟩ := k
  refine x_i2l (pc2 := 34) dX8_isAsked_33 rfl h1 ?_
  exact k
set_option maxRecDepth 4000 in
theorem g_X8_isAsked_37 {sc : List Int} {d : Nat} {m : Mem} {Q : Option AV → Mem → Prop} {s0 : Int} (k : ((-2147483648 ≤ s0 ∧ s0 < 2147483648)) ∧ Q (some (aI (if s0 = 0 then 0 else 1 : Int))) m) : S_X8_isAsked sc d 37 [aR 62, aU, aU] [aI s0] m Q := by
  obtain ⟨g2, k⟩ := k
  have kj : S_X8_isAsked sc d 45 [aR 62, aU, aU] [aI (if s0 = 0 then 0 else 1 : Int)] m Q := by
    exact x_ireturn dX8_isAsked_45 (ret_z (by repeat (first | exact Or.inl rfl | exact Or.inr rfl | split))) k
  have h3 := g2 
  refine x_if_eq (tgt := 44) (pc2 := 40) dX8_isAsked_37 (by decide) rfl h3 (fun c4 => ?_) (fun c4 => ?_)
  · skip
    refine x_iconst (pc2 := 45) dX8_isAsked_44 rfl ?_
    exact x_topI (v := (if s0 = 0 then 0 else 1 : Int)) (if_pos c4) kj
  · skip
    refine x_iconst (pc2 := 41) dX8_isAsked_40 rfl ?_
    refine x_goto (tgt := 45) dX8_isAsked_41 (by decide) ?_
    exact x_topI (v := (if s0 = 0 then 0 else 1 : Int)) (if_neg c4) kj
theorem c_X8_isAsked_13 {sc : List Int} {d d2 : Nat} {m m2 : Mem} {Q : Option AV → Mem → Prop} {l2 s0 s1 s2 : Int} {v : Int} (hM : C_X8_isIn sc d2 [aJ s0, aJ s1, aJ s2] m (some (aI v)) m2) (hd : d2 + 1 ≤ d) (k : S_X8_isAsked sc d 16 [aR 62, aU, aI l2] [aI v] m2 Q) : S_X8_isAsked sc d 13 [aR 62, aU, aI l2] [aJ s2, aJ s1, aJ s0] m Q := x_callS (as := [aJ s0, aJ s1, aJ s2]) (rest := []) hM mk_X8_isIn ms_X8_isIn lk_X8_333 hd rfl rfl (Nat.le_of_ble_eq_true rfl) dX8_isAsked_13 rfl k
theorem c_X8_isAsked_28 {sc : List Int} {d d2 : Nat} {m m2 : Mem} {Q : Option AV → Mem → Prop} {s0 s1 : Int} {v : Int} (hM : C_X8_seamMany sc d2 [aR 62] m (some (aI v)) m2) (hd : d2 + 1 ≤ d) (k : S_X8_isAsked sc d 31 [aR 62, aU, aU] [aI v, aJ s1, aJ s0] m2 Q) : S_X8_isAsked sc d 28 [aR 62, aU, aU] [aR 62, aJ s1, aJ s0] m Q := x_callV (as := []) (rest := [aJ s1, aJ s0]) hM mk_X8_seamMany mv_X8_seamMany lk_X8_431 (Or.inl ⟨8, (RX8, TX8, 123), ic_62, Nat.le_of_ble_eq_true rfl, rfl, rfl⟩) hd rfl rfl (Nat.le_of_ble_eq_true rfl) dX8_isAsked_28 rfl k
theorem c_X8_isAsked_34 {sc : List Int} {d d2 : Nat} {m m2 : Mem} {Q : Option AV → Mem → Prop} {s0 s1 s2 : Int} {v : Int} (hM : C_X8_isIn sc d2 [aJ s0, aJ s1, aJ s2] m (some (aI v)) m2) (hd : d2 + 1 ≤ d) (k : S_X8_isAsked sc d 37 [aR 62, aU, aU] [aI v] m2 Q) : S_X8_isAsked sc d 34 [aR 62, aU, aU] [aJ s2, aJ s1, aJ s0] m Q := x_callS (as := [aJ s0, aJ s1, aJ s2]) (rest := []) hM mk_X8_isIn ms_X8_isIn lk_X8_333 hd rfl rfl (Nat.le_of_ble_eq_true rfl) dX8_isAsked_34 rfl k
set_option maxRecDepth 4000 in
theorem g_X8_fewest_0 {sc : List Int} {d : Nat} {m : Mem} {Q : Option AV → Mem → Prop} {l1 l2 : Int} (k : S_X8_fewest sc d 3 [aR 62, aI l1, aI l2] [aI l2, aI l1, aR 62] m Q) : S_X8_fewest sc d 0 [aR 62, aI l1, aI l2] [] m Q := by
  refine x_aload_n (pc2 := 1) dX8_fewest_0 rfl rfl ?_
  refine x_iload_n (pc2 := 2) dX8_fewest_1 rfl rfl ?_
  refine x_iload_n (pc2 := 3) dX8_fewest_2 rfl rfl ?_
  exact k
set_option maxRecDepth 4000 in
theorem g_X8_fewest_6 {sc : List Int} {d : Nat} {m : Mem} {Q : Option AV → Mem → Prop} {l1 l2 s0 : Int} (k : (-2147483648 ≤ s0 ∧ s0 < 2147483648) ∧ ((s0 = 0) → (Q (some (aI (-1))) m)) ∧ (¬ (s0 = 0) → (S_X8_fewest sc d 11 [aR 62, aU, aI l2] [aI l1, aR 62] m Q))) : S_X8_fewest sc d 6 [aR 62, aI l1, aI l2] [aI s0] m Q := by
  obtain ⟨h1, k⟩ := k
  obtain ⟨k1, k2⟩ := k
  refine x_if_eq (tgt := 17) (pc2 := 9) dX8_fewest_6 (by decide) rfl h1 (fun c2 => ?_) (fun c2 => ?_)
  · replace k := k1 c2
    refine x_iconst (pc2 := 18) dX8_fewest_17 rfl ?_
    exact x_ireturn dX8_fewest_18 ⟨.int, rfl, rfl⟩ k
  · replace k := k2 c2
    refine x_aload_n (pc2 := 10) dX8_fewest_9 rfl rfl ?_
    refine x_iload_n (pc2 := 11) dX8_fewest_10 rfl rfl ?_
    exact x_drop (drp_k (drp_u (drp_k drp_n))) k
set_option maxRecDepth 4000 in
theorem g_X8_fewest_14 {sc : List Int} {d : Nat} {m : Mem} {Q : Option AV → Mem → Prop} {l2 s0 : Int} (k : (-2147483648 ≤ s0 ∧ s0 < 2147483648) ∧ ((s0 ≠ 0) → (((-2147483648 ≤ l2 ∧ l2 < 2147483648)) ∧ ((l2 ≠ (-1)) → (0 ≤ l2)) ∧ ((l2 ≠ (-1)) → (l2 < 10)) ∧ Q (some (aI (if l2 ≠ (-1) then (m 110 l2) else (m 62 66) : Int))) m)) ∧ (¬ (s0 ≠ 0) → (Q (some (aI (-1))) m))) : S_X8_fewest sc d 14 [aR 62, aU, aI l2] [aI s0] m Q := by
  obtain ⟨h1, k⟩ := k
  obtain ⟨k1, k2⟩ := k
  refine x_if_ne (tgt := 19) (pc2 := 17) dX8_fewest_14 (by decide) rfl h1 (fun c2 => ?_) (fun c2 => ?_)
  · replace k := k1 c2
    refine x_iload_n (pc2 := 20) dX8_fewest_19 rfl rfl ?_
    refine x_iconst (pc2 := 21) dX8_fewest_20 rfl ?_
    obtain ⟨g4, k⟩ := k
    obtain ⟨g7, k⟩ := k
    obtain ⟨g8, k⟩ := k
    have kj : S_X8_fewest sc d 37 [aR 62, aU, aI l2] [aI (if l2 ≠ (-1) then (m 110 l2) else (m 62 66) : Int)] m Q := by
      exact x_ireturn dX8_fewest_37 ⟨.int, rfl, rfl⟩ k
    have h9 := g4 
    refine x_icmp_ne (tgt := 31) (pc2 := 24) dX8_fewest_21 (by decide) rfl h9 (by decide) (fun c10 => ?_) (fun c10 => ?_)
    · skip
      refine x_aload_n (pc2 := 32) dX8_fewest_31 rfl rfl ?_
      refine x_getf (pc2 := 35) (v := aR 110) fl_X8_157 ic_62 (vr_62_65 _) dX8_fewest_32 rfl ?_
      refine x_iload_n (pc2 := 36) dX8_fewest_35 rfl rfl ?_
      have h11 := g7 c10
      have h12 := g8 c10
      refine x_iald (pc2 := 37) ic_110 h11 (by rw [al_110]; exact h12) dX8_fewest_36 rfl ?_
      exact x_topI (v := (if l2 ≠ (-1) then (m 110 l2) else (m 62 66) : Int)) (if_pos c10) kj
    · skip
      refine x_aload_n (pc2 := 25) dX8_fewest_24 rfl rfl ?_
      refine x_getf (pc2 := 28) (v := aI (m 62 66)) fl_X8_551 ic_62 (fv_i _ ic_62 rfl) dX8_fewest_25 rfl ?_
      refine x_goto (tgt := 37) dX8_fewest_28 (by decide) ?_
      exact x_topI (v := (if l2 ≠ (-1) then (m 110 l2) else (m 62 66) : Int)) (if_neg c10) kj
  · replace k := k2 c2
    refine x_iconst (pc2 := 18) dX8_fewest_17 rfl ?_
    exact x_ireturn dX8_fewest_18 ⟨.int, rfl, rfl⟩ k
theorem c_X8_fewest_3 {sc : List Int} {d d2 : Nat} {m m2 : Mem} {Q : Option AV → Mem → Prop} {l1 l2 s1 s2 : Int} {v : Int} (hM : C_X8_isAsked sc d2 [aR 62, aI s1, aI s2] m (some (aI v)) m2) (hd : d2 + 1 ≤ d) (k : S_X8_fewest sc d 6 [aR 62, aI l1, aI l2] [aI v] m2 Q) : S_X8_fewest sc d 3 [aR 62, aI l1, aI l2] [aI s2, aI s1, aR 62] m Q := x_callV (as := [aI s1, aI s2]) (rest := []) hM mk_X8_isAsked mv_X8_isAsked lk_X8_554 (Or.inl ⟨8, (RX8, TX8, 123), ic_62, Nat.le_of_ble_eq_true rfl, rfl, rfl⟩) hd rfl rfl (Nat.le_of_ble_eq_true rfl) dX8_fewest_3 rfl k
theorem c_X8_fewest_11 {sc : List Int} {d d2 : Nat} {m m2 : Mem} {Q : Option AV → Mem → Prop} {l2 s1 : Int} {v : Int} (hM : C_X8_packs sc d2 [aR 62, aI s1] m (some (aI v)) m2) (hd : d2 + 1 ≤ d) (k : S_X8_fewest sc d 14 [aR 62, aU, aI l2] [aI v] m2 Q) : S_X8_fewest sc d 11 [aR 62, aU, aI l2] [aI s1, aR 62] m Q := x_callV (as := [aI s1]) (rest := []) hM mk_X8_packs mv_X8_packs lk_X8_557 (Or.inl ⟨8, (RX8, TX8, 123), ic_62, Nat.le_of_ble_eq_true rfl, rfl, rfl⟩) hd rfl rfl (Nat.le_of_ble_eq_true rfl) dX8_fewest_11 rfl k
set_option maxRecDepth 4000 in
theorem g_X8_binsAhead_0 {sc : List Int} {d : Nat} {m : Mem} {Q : Option AV → Mem → Prop} {l1 : Int} (k : S_X8_binsAhead sc d 4 [aR 62, aI l1, aI 0, aI 0] [] m Q) : S_X8_binsAhead sc d 0 [aR 62, aI l1, aU, aU] [] m Q := by
  refine x_iconst (pc2 := 1) dX8_binsAhead_0 rfl ?_
  refine x_istore_n (pc2 := 2) (ls2 := [aR 62, aI l1, aI 0, aU]) dX8_binsAhead_1 rfl (by decide) rfl ?_
  refine x_iconst (pc2 := 3) dX8_binsAhead_2 rfl ?_
  refine x_istore_n (pc2 := 4) (ls2 := [aR 62, aI l1, aI 0, aI 0]) dX8_binsAhead_3 rfl (by decide) rfl ?_
  exact k
set_option maxRecDepth 4000 in
theorem g_X8_binsAhead_4 {sc : List Int} {d : Nat} {m : Mem} {Q : Option AV → Mem → Prop} {l1 l2 l3 : Int} (k : (-2147483648 ≤ l3 ∧ l3 < 2147483648) ∧ (-2147483648 ≤ l1 ∧ l1 < 2147483648) ∧ ((l1 ≤ l3) → (Q (some (aI l2)) m)) ∧ (¬ (l1 ≤ l3) → ((0 ≤ l3) ∧ (l3 < 10) ∧ (-2147483648 ≤ (m 111 l3) ∧ (m 111 l3) < 2147483648) ∧ (-2147483648 ≤ l2 ∧ l2 < 2147483648) ∧ (((m 111 l3) < l2) → (S_X8_binsAhead sc d 4 [aR 62, aI l1, aI l2, aI (l3 + 1)] [] m Q)) ∧ (¬ ((m 111 l3) < l2) → (S_X8_binsAhead sc d 4 [aR 62, aI l1, aI ((m 111 l3) + 1), aI (l3 + 1)] [] m Q))))) : S_X8_binsAhead sc d 4 [aR 62, aI l1, aI l2, aI l3] [] m Q := by
  refine x_iload_n (pc2 := 5) dX8_binsAhead_4 rfl rfl ?_
  refine x_iload_n (pc2 := 6) dX8_binsAhead_5 rfl rfl ?_
  obtain ⟨h1, k⟩ := k
  obtain ⟨h2, k⟩ := k
  obtain ⟨k1, k2⟩ := k
  refine x_icmp_ge (tgt := 34) (pc2 := 9) dX8_binsAhead_6 (by decide) rfl h1 h2 (fun c3 => ?_) (fun c3 => ?_)
  · replace k := k1 c3
    refine x_iload_n (pc2 := 35) dX8_binsAhead_34 rfl rfl ?_
    exact x_ireturn dX8_binsAhead_35 ⟨.int, rfl, rfl⟩ k
  · replace k := k2 c3
    refine x_aload_n (pc2 := 10) dX8_binsAhead_9 rfl rfl ?_
    refine x_getf (pc2 := 13) (v := aR 111) fl_X8_160 ic_62 (vr_62_67 _) dX8_binsAhead_10 rfl ?_
    refine x_iload_n (pc2 := 14) dX8_binsAhead_13 rfl rfl ?_
    obtain ⟨h4, k⟩ := k
    obtain ⟨h5, k⟩ := k
    refine x_iald (pc2 := 15) ic_111 h4 (by rw [al_111]; exact h5) dX8_binsAhead_14 rfl ?_
    refine x_iload_n (pc2 := 16) dX8_binsAhead_15 rfl rfl ?_
    obtain ⟨h6, k⟩ := k
    obtain ⟨h7, k⟩ := k
    obtain ⟨k1, k2⟩ := k
    refine x_icmp_lt (tgt := 28) (pc2 := 19) dX8_binsAhead_16 (by decide) rfl h6 h7 (fun c8 => ?_) (fun c8 => ?_)
    · replace k := k1 c8
      refine x_iinc (pc2 := 31) (ls2 := [aR 62, aI l1, aI l2, aI (l3 + 1)]) dX8_binsAhead_28 rfl rfl (by decide) rfl ?_
      refine x_goto (tgt := 4) dX8_binsAhead_31 (by decide) ?_
      exact k
    · replace k := k2 c8
      refine x_aload_n (pc2 := 20) dX8_binsAhead_19 rfl rfl ?_
      refine x_getf (pc2 := 23) (v := aR 111) fl_X8_160 ic_62 (vr_62_67 _) dX8_binsAhead_20 rfl ?_
      refine x_iload_n (pc2 := 24) dX8_binsAhead_23 rfl rfl ?_
      refine x_iald (pc2 := 25) ic_111 h4 (by rw [al_111]; exact h5) dX8_binsAhead_24 rfl ?_
      refine x_iconst (pc2 := 26) dX8_binsAhead_25 rfl ?_
      refine x_iadd (pc2 := 27) dX8_binsAhead_26 rfl ?_
      refine x_istore_n (pc2 := 28) (ls2 := [aR 62, aI l1, aI ((m 111 l3) + 1), aI l3]) dX8_binsAhead_27 rfl (by decide) rfl ?_
      refine x_iinc (pc2 := 31) (ls2 := [aR 62, aI l1, aI ((m 111 l3) + 1), aI (l3 + 1)]) dX8_binsAhead_28 rfl rfl (by decide) rfl ?_
      refine x_goto (tgt := 4) dX8_binsAhead_31 (by decide) ?_
      exact k
set_option maxRecDepth 4000 in
theorem g_X8_fills_0 {sc : List Int} {d : Nat} {m : Mem} {Q : Option AV → Mem → Prop} {l1 l2 : Int} (k : S_X8_fills sc d 2 [aR 62, aI l1, aI l2, aI 0, aU, aU] [] m Q) : S_X8_fills sc d 0 [aR 62, aI l1, aI l2, aU, aU, aU] [] m Q := by
  refine x_iconst (pc2 := 1) dX8_fills_0 rfl ?_
  refine x_istore_n (pc2 := 2) (ls2 := [aR 62, aI l1, aI l2, aI 0, aU, aU]) dX8_fills_1 rfl (by decide) rfl ?_
  exact k
set_option maxRecDepth 4000 in
theorem g_X8_fills_2 {sc : List Int} {d : Nat} {m : Mem} {Q : Option AV → Mem → Prop} {l1 l2 l3 : Int} (k : (-2147483648 ≤ l3 ∧ l3 < 2147483648) ∧ ((10 ≤ l3) → (S_X8_fills sc d 30 [aR 62, aI l1, aI l2, aI 0, aU, aU] [] (wr m 111 0 (-1)) Q)) ∧ (¬ (10 ≤ l3) → ((0 ≤ l3) ∧ (l3 < 10) ∧ S_X8_fills sc d 2 [aR 62, aI l1, aI l2, aI (l3 + 1), aU, aU] [] (wr m 112 l3 0) Q))) : S_X8_fills sc d 2 [aR 62, aI l1, aI l2, aI l3, aU, aU] [] m Q := by
  refine x_iload_n (pc2 := 3) dX8_fills_2 rfl rfl ?_
  refine x_bipush (pc2 := 5) dX8_fills_3 rfl rfl ?_
  obtain ⟨h1, k⟩ := k
  obtain ⟨k1, k2⟩ := k
  refine x_icmp_ge (tgt := 21) (pc2 := 8) dX8_fills_5 (by decide) rfl h1 (by decide) (fun c2 => ?_) (fun c2 => ?_)
  · replace k := k1 c2
    refine x_iconst (pc2 := 22) dX8_fills_21 rfl ?_
    refine x_istore_n (pc2 := 23) (ls2 := [aR 62, aI l1, aI l2, aI 0, aU, aU]) dX8_fills_22 rfl (by decide) rfl ?_
    refine x_aload_n (pc2 := 24) dX8_fills_23 rfl rfl ?_
    refine x_getf (pc2 := 27) (v := aR 111) fl_X8_160 ic_62 (vr_62_67 _) dX8_fills_24 rfl ?_
    refine x_iconst (pc2 := 28) dX8_fills_27 rfl ?_
    refine x_iconst (pc2 := 29) dX8_fills_28 rfl ?_
    refine x_iast (pc2 := 30) ic_111 (by decide) (by rw [al_111]; decide) dX8_fills_29 rfl ?_
    exact k
  · replace k := k2 c2
    refine x_aload_n (pc2 := 9) dX8_fills_8 rfl rfl ?_
    refine x_getf (pc2 := 12) (v := aR 112) fl_X8_163 ic_62 (vr_62_68 _) dX8_fills_9 rfl ?_
    refine x_iload_n (pc2 := 13) dX8_fills_12 rfl rfl ?_
    refine x_iconst (pc2 := 14) dX8_fills_13 rfl ?_
    obtain ⟨h3, k⟩ := k
    obtain ⟨h4, k⟩ := k
    refine x_iast (pc2 := 15) ic_112 h3 (by rw [al_112]; exact h4) dX8_fills_14 rfl ?_
    refine x_iinc (pc2 := 18) (ls2 := [aR 62, aI l1, aI l2, aI (l3 + 1), aU, aU]) dX8_fills_15 rfl rfl (by decide) rfl ?_
    refine x_goto (tgt := 2) dX8_fills_18 (by decide) ?_
    exact k
set_option maxRecDepth 4000 in
theorem g_X8_fills_30 {sc : List Int} {d : Nat} {m : Mem} {Q : Option AV → Mem → Prop} {l1 l2 l3 : Int} (k : (-2147483648 ≤ l3 ∧ l3 < 2147483648) ∧ ((l3 < 0) → (Q (some (aI (if l3 < 0 then 0 else 1 : Int))) m)) ∧ (¬ (l3 < 0) → (S_X8_fills sc d 36 [aR 62, aI l1, aI l2, aI l3, aU, aU] [aR 62, aI l3] m Q))) : S_X8_fills sc d 30 [aR 62, aI l1, aI l2, aI l3, aU, aU] [] m Q := by
  refine x_iload_n (pc2 := 31) dX8_fills_30 rfl rfl ?_
  obtain ⟨h1, k⟩ := k
  obtain ⟨k1, k2⟩ := k
  refine x_if_lt (tgt := 195) (pc2 := 34) dX8_fills_31 (by decide) rfl h1 (fun c2 => ?_) (fun c2 => ?_)
  · replace k := k1 c2
    refine x_iload_n (pc2 := 196) dX8_fills_195 rfl rfl ?_
    have kj : S_X8_fills sc d 204 [aR 62, aI l1, aI l2, aI l3, aU, aU] [aI (if l3 < 0 then 0 else 1 : Int)] m Q := by
      exact x_ireturn dX8_fills_204 (ret_z (by repeat (first | exact Or.inl rfl | exact Or.inr rfl | split))) k
    refine x_if_lt (tgt := 203) (pc2 := 199) dX8_fills_196 (by decide) rfl h1 (fun c3 => ?_) (fun c3 => ?_)
    · skip
      refine x_iconst (pc2 := 204) dX8_fills_203 rfl ?_
      exact x_topI (v := (if l3 < 0 then 0 else 1 : Int)) (if_pos c3) kj
    · skip
      refine x_iconst (pc2 := 200) dX8_fills_199 rfl ?_
      refine x_goto (tgt := 204) dX8_fills_200 (by decide) ?_
      exact x_topI (v := (if l3 < 0 then 0 else 1 : Int)) (if_neg c3) kj
  · replace k := k2 c2
    refine x_iload_n (pc2 := 35) dX8_fills_34 rfl rfl ?_
    refine x_aload_n (pc2 := 36) dX8_fills_35 rfl rfl ?_
    exact k
set_option maxRecDepth 4000 in
theorem g_X8_fills_39 {sc : List Int} {d : Nat} {m : Mem} {Q : Option AV → Mem → Prop} {l1 l2 l3 s0 s1 : Int} (k : (-2147483648 ≤ s0 ∧ s0 < 2147483648) ∧ (-2147483648 ≤ s1 ∧ s1 < 2147483648) ∧ ((s1 ≤ s0) → (((-2147483648 ≤ l3 ∧ l3 < 2147483648)) ∧ Q (some (aI (if l3 < 0 then 0 else 1 : Int))) m)) ∧ (¬ (s1 ≤ s0) → ((0 ≤ l3) ∧ (l3 < 10) ∧ (-2147483648 ≤ (m 111 l3) ∧ (m 111 l3) < 2147483648) ∧ (((m 111 l3) = (-1)) → (S_X8_fills sc d 73 [aR 62, aI l1, aI l2, aI l3, aU, aU] [aI l3, aR 62] m Q)) ∧ (¬ ((m 111 l3) = (-1)) → ((0 ≤ (m 111 l3)) ∧ ((m 111 l3) < 10) ∧ S_X8_fills sc d 66 [aR 62, aI l1, aI l2, aI l3, aU, aU] [aI l3, aR 62, aI (m 112 (m 111 l3)), aI (m 111 l3), aR 112] m Q))))) : S_X8_fills sc d 39 [aR 62, aI l1, aI l2, aI l3, aU, aU] [aI s1, aI s0] m Q := by
  obtain ⟨h1, k⟩ := k
  obtain ⟨h2, k⟩ := k
  obtain ⟨k1, k2⟩ := k
  refine x_icmp_ge (tgt := 195) (pc2 := 42) dX8_fills_39 (by decide) rfl h1 h2 (fun c3 => ?_) (fun c3 => ?_)
  · replace k := k1 c3
    refine x_iload_n (pc2 := 196) dX8_fills_195 rfl rfl ?_
    obtain ⟨g5, k⟩ := k
    have kj : S_X8_fills sc d 204 [aR 62, aI l1, aI l2, aI l3, aU, aU] [aI (if l3 < 0 then 0 else 1 : Int)] m Q := by
      exact x_ireturn dX8_fills_204 (ret_z (by repeat (first | exact Or.inl rfl | exact Or.inr rfl | split))) k
    have h6 := g5 
    refine x_if_lt (tgt := 203) (pc2 := 199) dX8_fills_196 (by decide) rfl h6 (fun c7 => ?_) (fun c7 => ?_)
    · skip
      refine x_iconst (pc2 := 204) dX8_fills_203 rfl ?_
      exact x_topI (v := (if l3 < 0 then 0 else 1 : Int)) (if_pos c7) kj
    · skip
      refine x_iconst (pc2 := 200) dX8_fills_199 rfl ?_
      refine x_goto (tgt := 204) dX8_fills_200 (by decide) ?_
      exact x_topI (v := (if l3 < 0 then 0 else 1 : Int)) (if_neg c7) kj
  · replace k := k2 c3
    refine x_aload_n (pc2 := 43) dX8_fills_42 rfl rfl ?_
    refine x_getf (pc2 := 46) (v := aR 111) fl_X8_160 ic_62 (vr_62_67 _) dX8_fills_43 rfl ?_
    refine x_iload_n (pc2 := 47) dX8_fills_46 rfl rfl ?_
    obtain ⟨h8, k⟩ := k
    obtain ⟨h9, k⟩ := k
    refine x_iald (pc2 := 48) ic_111 h8 (by rw [al_111]; exact h9) dX8_fills_47 rfl ?_
    refine x_iconst (pc2 := 49) dX8_fills_48 rfl ?_
    obtain ⟨h10, k⟩ := k
    obtain ⟨k1, k2⟩ := k
    refine x_icmp_eq (tgt := 71) (pc2 := 52) dX8_fills_49 (by decide) rfl h10 (by decide) (fun c11 => ?_) (fun c11 => ?_)
    · replace k := k1 c11
      refine x_aload_n (pc2 := 72) dX8_fills_71 rfl rfl ?_
      refine x_iload_n (pc2 := 73) dX8_fills_72 rfl rfl ?_
      exact k
    · replace k := k2 c11
      refine x_aload_n (pc2 := 53) dX8_fills_52 rfl rfl ?_
      refine x_getf (pc2 := 56) (v := aR 112) fl_X8_163 ic_62 (vr_62_68 _) dX8_fills_53 rfl ?_
      refine x_aload_n (pc2 := 57) dX8_fills_56 rfl rfl ?_
      refine x_getf (pc2 := 60) (v := aR 111) fl_X8_160 ic_62 (vr_62_67 _) dX8_fills_57 rfl ?_
      refine x_iload_n (pc2 := 61) dX8_fills_60 rfl rfl ?_
      refine x_iald (pc2 := 62) ic_111 h8 (by rw [al_111]; exact h9) dX8_fills_61 rfl ?_
      refine x_dup2_ri (pc2 := 63) dX8_fills_62 rfl (by decide) ?_
      obtain ⟨h12, k⟩ := k
      obtain ⟨h13, k⟩ := k
      refine x_iald (pc2 := 64) ic_112 h12 (by rw [al_112]; exact h13) dX8_fills_63 rfl ?_
      refine x_aload_n (pc2 := 65) dX8_fills_64 rfl rfl ?_
      refine x_iload_n (pc2 := 66) dX8_fills_65 rfl rfl ?_
      exact k
set_option maxRecDepth 4000 in
theorem g_X8_fills_69 {sc : List Int} {d : Nat} {m : Mem} {Q : Option AV → Mem → Prop} {l1 l2 l3 s0 s1 s2 s3 : Int} (Hs0 : IsC s0 100) (k : (0 ≤ s1) ∧ (s1 < alen s0) ∧ S_X8_fills sc d 73 [aR 62, aI l1, aI l2, aI l3, aU, aU] [aI l3, aR 62] (wr m s0 s1 (s2 - s3)) Q) : S_X8_fills sc d 69 [aR 62, aI l1, aI l2, aI l3, aU, aU] [aI s3, aI s2, aI s1, aR s0] m Q := by
  refine x_isub (pc2 := 70) dX8_fills_69 rfl ?_
  obtain ⟨h1, k⟩ := k
  obtain ⟨h2, k⟩ := k
  refine x_iast (pc2 := 71) Hs0 h1 h2 dX8_fills_70 rfl ?_
  refine x_aload_n (pc2 := 72) dX8_fills_71 rfl rfl ?_
  refine x_iload_n (pc2 := 73) dX8_fills_72 rfl rfl ?_
  exact k
set_option maxRecDepth 4000 in
theorem g_X8_fills_76 {sc : List Int} {d : Nat} {m : Mem} {Q : Option AV → Mem → Prop} {l1 l2 l3 s0 : Int} (k : (-2147483648 ≤ s0 ∧ s0 < 2147483648) ∧ (-2147483648 ≤ l2 ∧ l2 < 2147483648) ∧ ((l2 ≤ s0) → ((0 ≤ l3) ∧ (l3 < 10) ∧ S_X8_fills sc d 103 [aR 62, aI l1, aI l2, aI l3, aI (l2 - 1), aI ((m 111 l3) + 1)] [] m Q)) ∧ (¬ (l2 ≤ s0) → (S_X8_fills sc d 82 [aR 62, aI l1, aI l2, aI l3, aU, aU] [aI l3, aR 62] m Q))) : S_X8_fills sc d 76 [aR 62, aI l1, aI l2, aI l3, aU, aU] [aI s0] m Q := by
  refine x_iload_n (pc2 := 77) dX8_fills_76 rfl rfl ?_
  obtain ⟨h1, k⟩ := k
  obtain ⟨h2, k⟩ := k
  obtain ⟨k1, k2⟩ := k
  refine x_icmp_ge (tgt := 88) (pc2 := 80) dX8_fills_77 (by decide) rfl h1 h2 (fun c3 => ?_) (fun c3 => ?_)
  · replace k := k1 c3
    refine x_iload_n (pc2 := 89) dX8_fills_88 rfl rfl ?_
    refine x_iconst (pc2 := 90) dX8_fills_89 rfl ?_
    refine x_isub (pc2 := 91) dX8_fills_90 rfl ?_
    refine x_istore (pc2 := 93) (ls2 := [aR 62, aI l1, aI l2, aI l3, aI (l2 - 1), aU]) dX8_fills_91 rfl (by decide) rfl ?_
    refine x_aload_n (pc2 := 94) dX8_fills_93 rfl rfl ?_
    refine x_getf (pc2 := 97) (v := aR 111) fl_X8_160 ic_62 (vr_62_67 _) dX8_fills_94 rfl ?_
    refine x_iload_n (pc2 := 98) dX8_fills_97 rfl rfl ?_
    obtain ⟨h4, k⟩ := k
    obtain ⟨h5, k⟩ := k
    refine x_iald (pc2 := 99) ic_111 h4 (by rw [al_111]; exact h5) dX8_fills_98 rfl ?_
    refine x_iconst (pc2 := 100) dX8_fills_99 rfl ?_
    refine x_iadd (pc2 := 101) dX8_fills_100 rfl ?_
    refine x_istore (pc2 := 103) (ls2 := [aR 62, aI l1, aI l2, aI l3, aI (l2 - 1), aI ((m 111 l3) + 1)]) dX8_fills_101 rfl (by decide) rfl ?_
    exact k
  · replace k := k2 c3
    refine x_aload_n (pc2 := 81) dX8_fills_80 rfl rfl ?_
    refine x_iload_n (pc2 := 82) dX8_fills_81 rfl rfl ?_
    exact k
set_option maxRecDepth 4000 in
theorem g_X8_fills_85 {sc : List Int} {d : Nat} {m : Mem} {Q : Option AV → Mem → Prop} {l1 l2 l3 s0 : Int} (k : (0 ≤ l3) ∧ (l3 < 10) ∧ S_X8_fills sc d 103 [aR 62, aI l1, aI l2, aI l3, aI s0, aI ((m 111 l3) + 1)] [] m Q) : S_X8_fills sc d 85 [aR 62, aI l1, aI l2, aI l3, aU, aU] [aI s0] m Q := by
  refine x_goto (tgt := 91) dX8_fills_85 (by decide) ?_
  refine x_istore (pc2 := 93) (ls2 := [aR 62, aI l1, aI l2, aI l3, aI s0, aU]) dX8_fills_91 rfl (by decide) rfl ?_
  refine x_aload_n (pc2 := 94) dX8_fills_93 rfl rfl ?_
  refine x_getf (pc2 := 97) (v := aR 111) fl_X8_160 ic_62 (vr_62_67 _) dX8_fills_94 rfl ?_
  refine x_iload_n (pc2 := 98) dX8_fills_97 rfl rfl ?_
  obtain ⟨h1, k⟩ := k
  obtain ⟨h2, k⟩ := k
  refine x_iald (pc2 := 99) ic_111 h1 (by rw [al_111]; exact h2) dX8_fills_98 rfl ?_
  refine x_iconst (pc2 := 100) dX8_fills_99 rfl ?_
  refine x_iadd (pc2 := 101) dX8_fills_100 rfl ?_
  refine x_istore (pc2 := 103) (ls2 := [aR 62, aI l1, aI l2, aI l3, aI s0, aI ((m 111 l3) + 1)]) dX8_fills_101 rfl (by decide) rfl ?_
  exact k
set_option maxRecDepth 4000 in
theorem g_X8_fills_103 {sc : List Int} {d : Nat} {m : Mem} {Q : Option AV → Mem → Prop} {l1 l2 l3 l4 l5 : Int} (k : (-2147483648 ≤ l5 ∧ l5 < 2147483648) ∧ (-2147483648 ≤ l4 ∧ l4 < 2147483648) ∧ ((l4 < l5) → (((l5 ≤ l4) → ((0 ≤ l3) ∧ (l3 < 10) ∧ (0 ≤ l5) ∧ (l5 < 10) ∧ S_X8_fills sc d 171 [aR 62, aI l1, aI l2, aI l3, aU, aU] [aI l3, aR 62, aI ((wr m 111 l3 l5) 112 l5), aI l5, aR 112] (wr m 111 l3 l5) Q)) ∧ (¬ (l5 ≤ l4) → ((0 ≤ l3) ∧ (l3 < 10) ∧ S_X8_fills sc d 30 [aR 62, aI l1, aI l2, aI (l3 + (-1)), aU, aU] [] (wr m 111 l3 (-1)) Q)))) ∧ (¬ (l4 < l5) → ((0 ≤ l5) ∧ (l5 < 10) ∧ S_X8_fills sc d 119 [aR 62, aI l1, aI l2, aI l3, aI l4, aI l5] [aI l3, aR 62, aI (m 112 l5)] m Q))) : S_X8_fills sc d 103 [aR 62, aI l1, aI l2, aI l3, aI l4, aI l5] [] m Q := by
  refine x_iload (pc2 := 105) dX8_fills_103 rfl rfl ?_
  refine x_iload (pc2 := 107) dX8_fills_105 rfl rfl ?_
  obtain ⟨h1, k⟩ := k
  obtain ⟨h2, k⟩ := k
  obtain ⟨k1, k2⟩ := k
  refine x_icmp_gt (tgt := 133) (pc2 := 110) dX8_fills_107 (by decide) rfl h1 h2 (fun c3 => ?_) (fun c3 => ?_)
  · replace k := k1 c3
    refine x_iload (pc2 := 135) dX8_fills_133 rfl rfl ?_
    refine x_iload (pc2 := 137) dX8_fills_135 rfl rfl ?_
    obtain ⟨k1, k2⟩ := k
    refine x_icmp_le (tgt := 153) (pc2 := 140) dX8_fills_137 (by decide) rfl h1 h2 (fun c4 => ?_) (fun c4 => ?_)
    · replace k := k1 c4
      refine x_aload_n (pc2 := 154) dX8_fills_153 rfl rfl ?_
      refine x_getf (pc2 := 157) (v := aR 111) fl_X8_160 ic_62 (vr_62_67 _) dX8_fills_154 rfl ?_
      refine x_iload_n (pc2 := 158) dX8_fills_157 rfl rfl ?_
      refine x_iload (pc2 := 160) dX8_fills_158 rfl rfl ?_
      obtain ⟨h5, k⟩ := k
      obtain ⟨h6, k⟩ := k
      refine x_iast (pc2 := 161) ic_111 h5 (by rw [al_111]; exact h6) dX8_fills_160 rfl ?_
      refine x_aload_n (pc2 := 162) dX8_fills_161 rfl rfl ?_
      refine x_getf (pc2 := 165) (v := aR 112) fl_X8_163 ic_62 (vr_62_68 _) dX8_fills_162 rfl ?_
      refine x_iload (pc2 := 167) dX8_fills_165 rfl rfl ?_
      refine x_dup2_ri (pc2 := 168) dX8_fills_167 rfl (by decide) ?_
      obtain ⟨h7, k⟩ := k
      obtain ⟨h8, k⟩ := k
      refine x_iald (pc2 := 169) ic_112 h7 (by rw [al_112]; exact h8) dX8_fills_168 rfl ?_
      refine x_aload_n (pc2 := 170) dX8_fills_169 rfl rfl ?_
      refine x_iload_n (pc2 := 171) dX8_fills_170 rfl rfl ?_
      exact x_drop (drp_k (drp_k (drp_k (drp_k (drp_u (drp_u drp_n)))))) k
    · replace k := k2 c4
      refine x_aload_n (pc2 := 141) dX8_fills_140 rfl rfl ?_
      refine x_getf (pc2 := 144) (v := aR 111) fl_X8_160 ic_62 (vr_62_67 _) dX8_fills_141 rfl ?_
      refine x_iload_n (pc2 := 145) dX8_fills_144 rfl rfl ?_
      refine x_iconst (pc2 := 146) dX8_fills_145 rfl ?_
      obtain ⟨h9, k⟩ := k
      obtain ⟨h10, k⟩ := k
      refine x_iast (pc2 := 147) ic_111 h9 (by rw [al_111]; exact h10) dX8_fills_146 rfl ?_
      refine x_iinc (pc2 := 150) (ls2 := [aR 62, aI l1, aI l2, aI (l3 + (-1)), aI l4, aI l5]) dX8_fills_147 rfl rfl (by decide) rfl ?_
      refine x_goto (tgt := 30) dX8_fills_150 (by decide) ?_
      exact x_drop (drp_k (drp_k (drp_k (drp_k (drp_u (drp_u drp_n)))))) k
  · replace k := k2 c3
    refine x_aload_n (pc2 := 111) dX8_fills_110 rfl rfl ?_
    refine x_getf (pc2 := 114) (v := aR 112) fl_X8_163 ic_62 (vr_62_68 _) dX8_fills_111 rfl ?_
    refine x_iload (pc2 := 116) dX8_fills_114 rfl rfl ?_
    obtain ⟨h11, k⟩ := k
    obtain ⟨h12, k⟩ := k
    refine x_iald (pc2 := 117) ic_112 h11 (by rw [al_112]; exact h12) dX8_fills_116 rfl ?_
    refine x_aload_n (pc2 := 118) dX8_fills_117 rfl rfl ?_
    refine x_iload_n (pc2 := 119) dX8_fills_118 rfl rfl ?_
    exact k
set_option maxRecDepth 4000 in
theorem g_X8_fills_122 {sc : List Int} {d : Nat} {m : Mem} {Q : Option AV → Mem → Prop} {l1 l2 l3 l4 l5 s0 s1 : Int} (k : (-2147483648 ≤ (s0 + s1) ∧ (s0 + s1) < 2147483648) ∧ (-2147483648 ≤ l1 ∧ l1 < 2147483648) ∧ (((s0 + s1) ≤ l1) → ((-2147483648 ≤ l5 ∧ l5 < 2147483648) ∧ (-2147483648 ≤ l4 ∧ l4 < 2147483648) ∧ ((l5 ≤ l4) → ((0 ≤ l3) ∧ (l3 < 10) ∧ (0 ≤ l5) ∧ (l5 < 10) ∧ S_X8_fills sc d 171 [aR 62, aI l1, aI l2, aI l3, aU, aU] [aI l3, aR 62, aI ((wr m 111 l3 l5) 112 l5), aI l5, aR 112] (wr m 111 l3 l5) Q)) ∧ (¬ (l5 ≤ l4) → ((0 ≤ l3) ∧ (l3 < 10) ∧ S_X8_fills sc d 30 [aR 62, aI l1, aI l2, aI (l3 + (-1)), aU, aU] [] (wr m 111 l3 (-1)) Q)))) ∧ (¬ ((s0 + s1) ≤ l1) → (S_X8_fills sc d 103 [aR 62, aI l1, aI l2, aI l3, aI l4, aI (l5 + 1)] [] m Q))) : S_X8_fills sc d 122 [aR 62, aI l1, aI l2, aI l3, aI l4, aI l5] [aI s1, aI s0] m Q := by
  refine x_iadd (pc2 := 123) dX8_fills_122 rfl ?_
  refine x_iload_n (pc2 := 124) dX8_fills_123 rfl rfl ?_
  obtain ⟨h1, k⟩ := k
  obtain ⟨h2, k⟩ := k
  obtain ⟨k1, k2⟩ := k
  refine x_icmp_le (tgt := 133) (pc2 := 127) dX8_fills_124 (by decide) rfl h1 h2 (fun c3 => ?_) (fun c3 => ?_)
  · replace k := k1 c3
    refine x_iload (pc2 := 135) dX8_fills_133 rfl rfl ?_
    refine x_iload (pc2 := 137) dX8_fills_135 rfl rfl ?_
    obtain ⟨h4, k⟩ := k
    obtain ⟨h5, k⟩ := k
    obtain ⟨k1, k2⟩ := k
    refine x_icmp_le (tgt := 153) (pc2 := 140) dX8_fills_137 (by decide) rfl h4 h5 (fun c6 => ?_) (fun c6 => ?_)
    · replace k := k1 c6
      refine x_aload_n (pc2 := 154) dX8_fills_153 rfl rfl ?_
      refine x_getf (pc2 := 157) (v := aR 111) fl_X8_160 ic_62 (vr_62_67 _) dX8_fills_154 rfl ?_
      refine x_iload_n (pc2 := 158) dX8_fills_157 rfl rfl ?_
      refine x_iload (pc2 := 160) dX8_fills_158 rfl rfl ?_
      obtain ⟨h7, k⟩ := k
      obtain ⟨h8, k⟩ := k
      refine x_iast (pc2 := 161) ic_111 h7 (by rw [al_111]; exact h8) dX8_fills_160 rfl ?_
      refine x_aload_n (pc2 := 162) dX8_fills_161 rfl rfl ?_
      refine x_getf (pc2 := 165) (v := aR 112) fl_X8_163 ic_62 (vr_62_68 _) dX8_fills_162 rfl ?_
      refine x_iload (pc2 := 167) dX8_fills_165 rfl rfl ?_
      refine x_dup2_ri (pc2 := 168) dX8_fills_167 rfl (by decide) ?_
      obtain ⟨h9, k⟩ := k
      obtain ⟨h10, k⟩ := k
      refine x_iald (pc2 := 169) ic_112 h9 (by rw [al_112]; exact h10) dX8_fills_168 rfl ?_
      refine x_aload_n (pc2 := 170) dX8_fills_169 rfl rfl ?_
      refine x_iload_n (pc2 := 171) dX8_fills_170 rfl rfl ?_
      exact x_drop (drp_k (drp_k (drp_k (drp_k (drp_u (drp_u drp_n)))))) k
    · replace k := k2 c6
      refine x_aload_n (pc2 := 141) dX8_fills_140 rfl rfl ?_
      refine x_getf (pc2 := 144) (v := aR 111) fl_X8_160 ic_62 (vr_62_67 _) dX8_fills_141 rfl ?_
      refine x_iload_n (pc2 := 145) dX8_fills_144 rfl rfl ?_
      refine x_iconst (pc2 := 146) dX8_fills_145 rfl ?_
      obtain ⟨h11, k⟩ := k
      obtain ⟨h12, k⟩ := k
      refine x_iast (pc2 := 147) ic_111 h11 (by rw [al_111]; exact h12) dX8_fills_146 rfl ?_
      refine x_iinc (pc2 := 150) (ls2 := [aR 62, aI l1, aI l2, aI (l3 + (-1)), aI l4, aI l5]) dX8_fills_147 rfl rfl (by decide) rfl ?_
      refine x_goto (tgt := 30) dX8_fills_150 (by decide) ?_
      exact x_drop (drp_k (drp_k (drp_k (drp_k (drp_u (drp_u drp_n)))))) k
  · replace k := k2 c3
    refine x_iinc (pc2 := 130) (ls2 := [aR 62, aI l1, aI l2, aI l3, aI l4, aI (l5 + 1)]) dX8_fills_127 rfl rfl (by decide) rfl ?_
    refine x_goto (tgt := 103) dX8_fills_130 (by decide) ?_
    exact k
set_option maxRecDepth 4000 in
theorem g_X8_fills_174 {sc : List Int} {d : Nat} {m : Mem} {Q : Option AV → Mem → Prop} {l1 l2 l3 s0 s1 s2 s3 : Int} (Hs0 : IsC s0 100) (k : (0 ≤ s1) ∧ (s1 < alen s0) ∧ (-2147483648 ≤ (l3 + 1) ∧ (l3 + 1) < 2147483648) ∧ ((10 ≤ (l3 + 1)) → (S_X8_fills sc d 30 [aR 62, aI l1, aI l2, aI (l3 + 1), aU, aU] [] (wr m s0 s1 (s2 + s3)) Q)) ∧ (¬ (10 ≤ (l3 + 1)) → ((0 ≤ (l3 + 1)) ∧ ((l3 + 1) < 10) ∧ S_X8_fills sc d 30 [aR 62, aI l1, aI l2, aI (l3 + 1), aU, aU] [] (wr (wr m s0 s1 (s2 + s3)) 111 (l3 + 1) (-1)) Q))) : S_X8_fills sc d 174 [aR 62, aI l1, aI l2, aI l3, aU, aU] [aI s3, aI s2, aI s1, aR s0] m Q := by
  refine x_iadd (pc2 := 175) dX8_fills_174 rfl ?_
  obtain ⟨h1, k⟩ := k
  obtain ⟨h2, k⟩ := k
  refine x_iast (pc2 := 176) Hs0 h1 h2 dX8_fills_175 rfl ?_
  refine x_iinc (pc2 := 179) (ls2 := [aR 62, aI l1, aI l2, aI (l3 + 1), aU, aU]) dX8_fills_176 rfl rfl (by decide) rfl ?_
  refine x_iload_n (pc2 := 180) dX8_fills_179 rfl rfl ?_
  refine x_bipush (pc2 := 182) dX8_fills_180 rfl rfl ?_
  obtain ⟨h3, k⟩ := k
  obtain ⟨k1, k2⟩ := k
  refine x_icmp_ge (tgt := 192) (pc2 := 185) dX8_fills_182 (by decide) rfl h3 (by decide) (fun c4 => ?_) (fun c4 => ?_)
  · replace k := k1 c4
    refine x_goto (tgt := 30) dX8_fills_192 (by decide) ?_
    exact k
  · replace k := k2 c4
    refine x_aload_n (pc2 := 186) dX8_fills_185 rfl rfl ?_
    refine x_getf (pc2 := 189) (v := aR 111) fl_X8_160 ic_62 (vr_62_67 _) dX8_fills_186 rfl ?_
    refine x_iload_n (pc2 := 190) dX8_fills_189 rfl rfl ?_
    refine x_iconst (pc2 := 191) dX8_fills_190 rfl ?_
    obtain ⟨h5, k⟩ := k
    obtain ⟨h6, k⟩ := k
    refine x_iast (pc2 := 192) ic_111 h5 (by rw [al_111]; exact h6) dX8_fills_191 rfl ?_
    refine x_goto (tgt := 30) dX8_fills_192 (by decide) ?_
    exact k
theorem c_X8_fills_36 {sc : List Int} {d d2 : Nat} {m m2 : Mem} {Q : Option AV → Mem → Prop} {l1 l2 l3 s0 : Int} {v : Int} (hM : C_X8_seamMany sc d2 [aR 62] m (some (aI v)) m2) (hd : d2 + 1 ≤ d) (k : S_X8_fills sc d 39 [aR 62, aI l1, aI l2, aI l3, aU, aU] [aI v, aI s0] m2 Q) : S_X8_fills sc d 36 [aR 62, aI l1, aI l2, aI l3, aU, aU] [aR 62, aI s0] m Q := x_callV (as := []) (rest := [aI s0]) hM mk_X8_seamMany mv_X8_seamMany lk_X8_431 (Or.inl ⟨8, (RX8, TX8, 123), ic_62, Nat.le_of_ble_eq_true rfl, rfl, rfl⟩) hd rfl rfl (Nat.le_of_ble_eq_true rfl) dX8_fills_36 rfl k
theorem c_X8_fills_66 {sc : List Int} {d d2 : Nat} {m m2 : Mem} {Q : Option AV → Mem → Prop} {l1 l2 l3 s0 s1 s2 s4 : Int} {v : Int} (Hs0 : IsC s0 100) (hM : C_X8_takesOf sc d2 [aR 62, aI s4] m (some (aI v)) m2) (hd : d2 + 1 ≤ d) (k : S_X8_fills sc d 69 [aR 62, aI l1, aI l2, aI l3, aU, aU] [aI v, aI s2, aI s1, aR s0] m2 Q) : S_X8_fills sc d 66 [aR 62, aI l1, aI l2, aI l3, aU, aU] [aI s4, aR 62, aI s2, aI s1, aR s0] m Q := x_callV (as := [aI s4]) (rest := [aI s2, aI s1, aR s0]) hM mk_X8_takesOf mv_X8_takesOf lk_X8_434 (Or.inl ⟨8, (RX8, TX8, 123), ic_62, Nat.le_of_ble_eq_true rfl, rfl, rfl⟩) hd rfl rfl (Nat.le_of_ble_eq_true rfl) dX8_fills_66 rfl k
theorem c_X8_fills_73 {sc : List Int} {d d2 : Nat} {m m2 : Mem} {Q : Option AV → Mem → Prop} {l1 l2 l3 s1 : Int} {v : Int} (hM : C_X8_binsAhead sc d2 [aR 62, aI s1] m (some (aI v)) m2) (hd : d2 + 1 ≤ d) (k : S_X8_fills sc d 76 [aR 62, aI l1, aI l2, aI l3, aU, aU] [aI v] m2 Q) : S_X8_fills sc d 73 [aR 62, aI l1, aI l2, aI l3, aU, aU] [aI s1, aR 62] m Q := x_callV (as := [aI s1]) (rest := []) hM mk_X8_binsAhead mv_X8_binsAhead lk_X8_560 (Or.inl ⟨8, (RX8, TX8, 123), ic_62, Nat.le_of_ble_eq_true rfl, rfl, rfl⟩) hd rfl rfl (Nat.le_of_ble_eq_true rfl) dX8_fills_73 rfl k
theorem c_X8_fills_82 {sc : List Int} {d d2 : Nat} {m m2 : Mem} {Q : Option AV → Mem → Prop} {l1 l2 l3 s1 : Int} {v : Int} (hM : C_X8_binsAhead sc d2 [aR 62, aI s1] m (some (aI v)) m2) (hd : d2 + 1 ≤ d) (k : S_X8_fills sc d 85 [aR 62, aI l1, aI l2, aI l3, aU, aU] [aI v] m2 Q) : S_X8_fills sc d 82 [aR 62, aI l1, aI l2, aI l3, aU, aU] [aI s1, aR 62] m Q := x_callV (as := [aI s1]) (rest := []) hM mk_X8_binsAhead mv_X8_binsAhead lk_X8_560 (Or.inl ⟨8, (RX8, TX8, 123), ic_62, Nat.le_of_ble_eq_true rfl, rfl, rfl⟩) hd rfl rfl (Nat.le_of_ble_eq_true rfl) dX8_fills_82 rfl k
theorem c_X8_fills_119 {sc : List Int} {d d2 : Nat} {m m2 : Mem} {Q : Option AV → Mem → Prop} {l1 l2 l3 l4 l5 s0 s2 : Int} {v : Int} (hM : C_X8_takesOf sc d2 [aR 62, aI s2] m (some (aI v)) m2) (hd : d2 + 1 ≤ d) (k : S_X8_fills sc d 122 [aR 62, aI l1, aI l2, aI l3, aI l4, aI l5] [aI v, aI s0] m2 Q) : S_X8_fills sc d 119 [aR 62, aI l1, aI l2, aI l3, aI l4, aI l5] [aI s2, aR 62, aI s0] m Q := x_callV (as := [aI s2]) (rest := [aI s0]) hM mk_X8_takesOf mv_X8_takesOf lk_X8_434 (Or.inl ⟨8, (RX8, TX8, 123), ic_62, Nat.le_of_ble_eq_true rfl, rfl, rfl⟩) hd rfl rfl (Nat.le_of_ble_eq_true rfl) dX8_fills_119 rfl k
theorem c_X8_fills_171 {sc : List Int} {d d2 : Nat} {m m2 : Mem} {Q : Option AV → Mem → Prop} {l1 l2 l3 s0 s1 s2 s4 : Int} {v : Int} (Hs0 : IsC s0 100) (hM : C_X8_takesOf sc d2 [aR 62, aI s4] m (some (aI v)) m2) (hd : d2 + 1 ≤ d) (k : S_X8_fills sc d 174 [aR 62, aI l1, aI l2, aI l3, aU, aU] [aI v, aI s2, aI s1, aR s0] m2 Q) : S_X8_fills sc d 171 [aR 62, aI l1, aI l2, aI l3, aU, aU] [aI s4, aR 62, aI s2, aI s1, aR s0] m Q := x_callV (as := [aI s4]) (rest := [aI s2, aI s1, aR s0]) hM mk_X8_takesOf mv_X8_takesOf lk_X8_434 (Or.inl ⟨8, (RX8, TX8, 123), ic_62, Nat.le_of_ble_eq_true rfl, rfl, rfl⟩) hd rfl rfl (Nat.le_of_ble_eq_true rfl) dX8_fills_171 rfl k
set_option maxRecDepth 4000 in
theorem g_X8_free_0 {sc : List Int} {d : Nat} {m : Mem} {Q : Option AV → Mem → Prop} {l1 l2 : Int} (k : S_X8_free sc d 3 [aR 62, aI l1, aI l2, aU] [aI l2, aI l1, aR 62] m Q) : S_X8_free sc d 0 [aR 62, aI l1, aI l2, aU] [] m Q := by
  refine x_aload_n (pc2 := 1) dX8_free_0 rfl rfl ?_
  refine x_iload_n (pc2 := 2) dX8_free_1 rfl rfl ?_
  refine x_iload_n (pc2 := 3) dX8_free_2 rfl rfl ?_
  exact k
set_option maxRecDepth 4000 in
theorem g_X8_free_6 {sc : List Int} {d : Nat} {m : Mem} {Q : Option AV → Mem → Prop} {l1 l2 s0 : Int} (k : (-2147483648 ≤ s0 ∧ s0 < 2147483648) ∧ ((s0 = 0) → (Q (some (aI (-1))) m)) ∧ (¬ (s0 = 0) → (S_X8_free sc d 11 [aR 62, aI l1, aI l2, aU] [aI l1, aR 62] m Q))) : S_X8_free sc d 6 [aR 62, aI l1, aI l2, aU] [aI s0] m Q := by
  obtain ⟨h1, k⟩ := k
  obtain ⟨k1, k2⟩ := k
  refine x_if_eq (tgt := 17) (pc2 := 9) dX8_free_6 (by decide) rfl h1 (fun c2 => ?_) (fun c2 => ?_)
  · replace k := k1 c2
    refine x_iconst (pc2 := 18) dX8_free_17 rfl ?_
    exact x_ireturn dX8_free_18 ⟨.int, rfl, rfl⟩ k
  · replace k := k2 c2
    refine x_aload_n (pc2 := 10) dX8_free_9 rfl rfl ?_
    refine x_iload_n (pc2 := 11) dX8_free_10 rfl rfl ?_
    exact k
set_option maxRecDepth 4000 in
theorem g_X8_free_14 {sc : List Int} {d : Nat} {m : Mem} {Q : Option AV → Mem → Prop} {l1 l2 s0 : Int} (k : (-2147483648 ≤ s0 ∧ s0 < 2147483648) ∧ ((s0 ≠ 0) → (S_X8_free sc d 21 [aR 62, aI l1, aI l2, aI 0] [] m Q)) ∧ (¬ (s0 ≠ 0) → (Q (some (aI (-1))) m))) : S_X8_free sc d 14 [aR 62, aI l1, aI l2, aU] [aI s0] m Q := by
  obtain ⟨h1, k⟩ := k
  obtain ⟨k1, k2⟩ := k
  refine x_if_ne (tgt := 19) (pc2 := 17) dX8_free_14 (by decide) rfl h1 (fun c2 => ?_) (fun c2 => ?_)
  · replace k := k1 c2
    refine x_iconst (pc2 := 20) dX8_free_19 rfl ?_
    refine x_istore_n (pc2 := 21) (ls2 := [aR 62, aI l1, aI l2, aI 0]) dX8_free_20 rfl (by decide) rfl ?_
    exact k
  · replace k := k2 c2
    refine x_iconst (pc2 := 18) dX8_free_17 rfl ?_
    exact x_ireturn dX8_free_18 ⟨.int, rfl, rfl⟩ k
set_option maxRecDepth 4000 in
theorem g_X8_free_21 {sc : List Int} {d : Nat} {m : Mem} {Q : Option AV → Mem → Prop} {l1 l2 l3 : Int} (k : S_X8_free sc d 23 [aR 62, aI l1, aI l2, aI l3] [aR 62, aI l3] m Q) : S_X8_free sc d 21 [aR 62, aI l1, aI l2, aI l3] [] m Q := by
  refine x_iload_n (pc2 := 22) dX8_free_21 rfl rfl ?_
  refine x_aload_n (pc2 := 23) dX8_free_22 rfl rfl ?_
  exact k
set_option maxRecDepth 4000 in
theorem g_X8_free_26 {sc : List Int} {d : Nat} {m : Mem} {Q : Option AV → Mem → Prop} {l1 l2 l3 s0 s1 : Int} (k : (-2147483648 ≤ s0 ∧ s0 < 2147483648) ∧ (-2147483648 ≤ s1 ∧ s1 < 2147483648) ∧ ((s1 ≤ s0) → (S_X8_free sc d 46 [aR 62, aI l1, aI l2, aI l3] [aR 62, aI l3] m Q)) ∧ (¬ (s1 ≤ s0) → (S_X8_free sc d 32 [aR 62, aI l1, aI l2, aI l3] [aI l3, aI l1, aR 62] m Q))) : S_X8_free sc d 26 [aR 62, aI l1, aI l2, aI l3] [aI s1, aI s0] m Q := by
  obtain ⟨h1, k⟩ := k
  obtain ⟨h2, k⟩ := k
  obtain ⟨k1, k2⟩ := k
  refine x_icmp_ge (tgt := 44) (pc2 := 29) dX8_free_26 (by decide) rfl h1 h2 (fun c3 => ?_) (fun c3 => ?_)
  · replace k := k1 c3
    refine x_iload_n (pc2 := 45) dX8_free_44 rfl rfl ?_
    refine x_aload_n (pc2 := 46) dX8_free_45 rfl rfl ?_
    exact k
  · replace k := k2 c3
    refine x_aload_n (pc2 := 30) dX8_free_29 rfl rfl ?_
    refine x_iload_n (pc2 := 31) dX8_free_30 rfl rfl ?_
    refine x_iload_n (pc2 := 32) dX8_free_31 rfl rfl ?_
    exact k
set_option maxRecDepth 4000 in
theorem g_X8_free_35 {sc : List Int} {d : Nat} {m : Mem} {Q : Option AV → Mem → Prop} {l1 l2 l3 s0 : Int} (k : (-2147483648 ≤ s0 ∧ s0 < 2147483648) ∧ ((s0 ≠ 0) → (S_X8_free sc d 46 [aR 62, aI l1, aI l2, aI l3] [aR 62, aI l3] m Q)) ∧ (¬ (s0 ≠ 0) → (S_X8_free sc d 21 [aR 62, aI l1, aI l2, aI (l3 + 1)] [] m Q))) : S_X8_free sc d 35 [aR 62, aI l1, aI l2, aI l3] [aI s0] m Q := by
  obtain ⟨h1, k⟩ := k
  obtain ⟨k1, k2⟩ := k
  refine x_if_ne (tgt := 44) (pc2 := 38) dX8_free_35 (by decide) rfl h1 (fun c2 => ?_) (fun c2 => ?_)
  · replace k := k1 c2
    refine x_iload_n (pc2 := 45) dX8_free_44 rfl rfl ?_
    refine x_aload_n (pc2 := 46) dX8_free_45 rfl rfl ?_
    exact k
  · replace k := k2 c2
    refine x_iinc (pc2 := 41) (ls2 := [aR 62, aI l1, aI l2, aI (l3 + 1)]) dX8_free_38 rfl rfl (by decide) rfl ?_
    refine x_goto (tgt := 21) dX8_free_41 (by decide) ?_
    exact k
set_option maxRecDepth 4000 in
theorem g_X8_free_49 {sc : List Int} {d : Nat} {m : Mem} {Q : Option AV → Mem → Prop} {l1 l2 l3 s0 s1 : Int} (k : (-2147483648 ≤ s0 ∧ s0 < 2147483648) ∧ (-2147483648 ≤ s1 ∧ s1 < 2147483648) ∧ ((s0 ≠ s1) → (((-2147483648 ≤ l2 ∧ l2 < 2147483648)) ∧ ((l2 ≠ (-1)) → (0 ≤ l2)) ∧ ((l2 ≠ (-1)) → (l2 < 10)) ∧ Q (some (aI (if l2 ≠ (-1) then (m 111 l2) else l3 : Int))) m)) ∧ (¬ (s0 ≠ s1) → ((-2147483648 ≤ l3 ∧ l3 < 2147483648) ∧ ((l3 ≤ 0) → (((-2147483648 ≤ l2 ∧ l2 < 2147483648)) ∧ ((l2 ≠ (-1)) → (0 ≤ l2)) ∧ ((l2 ≠ (-1)) → (l2 < 10)) ∧ Q (some (aI (if l2 ≠ (-1) then (m 111 l2) else l3 : Int))) m)) ∧ (¬ (l3 ≤ 0) → (S_X8_free sc d 59 [aR 62, aU, aI l2, aI l3] [aI l3, aI l1, aR 62] m Q))))) : S_X8_free sc d 49 [aR 62, aI l1, aI l2, aI l3] [aI s1, aI s0] m Q := by
  obtain ⟨h1, k⟩ := k
  obtain ⟨h2, k⟩ := k
  obtain ⟨k1, k2⟩ := k
  refine x_icmp_ne (tgt := 63) (pc2 := 52) dX8_free_49 (by decide) rfl h1 h2 (fun c3 => ?_) (fun c3 => ?_)
  · replace k := k1 c3
    refine x_iload_n (pc2 := 64) dX8_free_63 rfl rfl ?_
    refine x_iconst (pc2 := 65) dX8_free_64 rfl ?_
    obtain ⟨g5, k⟩ := k
    obtain ⟨g8, k⟩ := k
    obtain ⟨g9, k⟩ := k
    have kj : S_X8_free sc d 78 [aR 62, aI l1, aI l2, aI l3] [aI (if l2 ≠ (-1) then (m 111 l2) else l3 : Int)] m Q := by
      exact x_ireturn dX8_free_78 ⟨.int, rfl, rfl⟩ k
    have h10 := g5 
    refine x_icmp_ne (tgt := 72) (pc2 := 68) dX8_free_65 (by decide) rfl h10 (by decide) (fun c11 => ?_) (fun c11 => ?_)
    · skip
      refine x_aload_n (pc2 := 73) dX8_free_72 rfl rfl ?_
      refine x_getf (pc2 := 76) (v := aR 111) fl_X8_160 ic_62 (vr_62_67 _) dX8_free_73 rfl ?_
      refine x_iload_n (pc2 := 77) dX8_free_76 rfl rfl ?_
      have h12 := g8 c11
      have h13 := g9 c11
      refine x_iald (pc2 := 78) ic_111 h12 (by rw [al_111]; exact h13) dX8_free_77 rfl ?_
      exact x_topI (v := (if l2 ≠ (-1) then (m 111 l2) else l3 : Int)) (if_pos c11) kj
    · skip
      refine x_iload_n (pc2 := 69) dX8_free_68 rfl rfl ?_
      refine x_goto (tgt := 78) dX8_free_69 (by decide) ?_
      exact x_topI (v := (if l2 ≠ (-1) then (m 111 l2) else l3 : Int)) (if_neg c11) kj
  · replace k := k2 c3
    refine x_iload_n (pc2 := 53) dX8_free_52 rfl rfl ?_
    obtain ⟨h14, k⟩ := k
    obtain ⟨k1, k2⟩ := k
    refine x_if_le (tgt := 63) (pc2 := 56) dX8_free_53 (by decide) rfl h14 (fun c15 => ?_) (fun c15 => ?_)
    · replace k := k1 c15
      refine x_iload_n (pc2 := 64) dX8_free_63 rfl rfl ?_
      refine x_iconst (pc2 := 65) dX8_free_64 rfl ?_
      obtain ⟨g17, k⟩ := k
      obtain ⟨g20, k⟩ := k
      obtain ⟨g21, k⟩ := k
      have kj : S_X8_free sc d 78 [aR 62, aI l1, aI l2, aI l3] [aI (if l2 ≠ (-1) then (m 111 l2) else l3 : Int)] m Q := by
        exact x_ireturn dX8_free_78 ⟨.int, rfl, rfl⟩ k
      have h22 := g17 
      refine x_icmp_ne (tgt := 72) (pc2 := 68) dX8_free_65 (by decide) rfl h22 (by decide) (fun c23 => ?_) (fun c23 => ?_)
      · skip
        refine x_aload_n (pc2 := 73) dX8_free_72 rfl rfl ?_
        refine x_getf (pc2 := 76) (v := aR 111) fl_X8_160 ic_62 (vr_62_67 _) dX8_free_73 rfl ?_
        refine x_iload_n (pc2 := 77) dX8_free_76 rfl rfl ?_
        have h24 := g20 c23
        have h25 := g21 c23
        refine x_iald (pc2 := 78) ic_111 h24 (by rw [al_111]; exact h25) dX8_free_77 rfl ?_
        exact x_topI (v := (if l2 ≠ (-1) then (m 111 l2) else l3 : Int)) (if_pos c23) kj
      · skip
        refine x_iload_n (pc2 := 69) dX8_free_68 rfl rfl ?_
        refine x_goto (tgt := 78) dX8_free_69 (by decide) ?_
        exact x_topI (v := (if l2 ≠ (-1) then (m 111 l2) else l3 : Int)) (if_neg c23) kj
    · replace k := k2 c15
      refine x_aload_n (pc2 := 57) dX8_free_56 rfl rfl ?_
      refine x_iload_n (pc2 := 58) dX8_free_57 rfl rfl ?_
      refine x_iload_n (pc2 := 59) dX8_free_58 rfl rfl ?_
      exact x_drop (drp_k (drp_u (drp_k (drp_k drp_n)))) k
set_option maxRecDepth 4000 in
theorem g_X8_free_62 {sc : List Int} {d : Nat} {m : Mem} {Q : Option AV → Mem → Prop} {l2 l3 s0 : Int} (k : ((-2147483648 ≤ l2 ∧ l2 < 2147483648)) ∧ ((l2 ≠ (-1)) → (0 ≤ l2)) ∧ ((l2 ≠ (-1)) → (l2 < 10)) ∧ Q (some (aI (if l2 ≠ (-1) then (m 111 l2) else l3 : Int))) m) : S_X8_free sc d 62 [aR 62, aU, aI l2, aI l3] [aI s0] m Q := by
  refine x_pop_i (pc2 := 63) dX8_free_62 rfl ?_
  refine x_iload_n (pc2 := 64) dX8_free_63 rfl rfl ?_
  refine x_iconst (pc2 := 65) dX8_free_64 rfl ?_
  obtain ⟨g2, k⟩ := k
  obtain ⟨g5, k⟩ := k
  obtain ⟨g6, k⟩ := k
  have kj : S_X8_free sc d 78 [aR 62, aU, aI l2, aI l3] [aI (if l2 ≠ (-1) then (m 111 l2) else l3 : Int)] m Q := by
    exact x_ireturn dX8_free_78 ⟨.int, rfl, rfl⟩ k
  have h7 := g2 
  refine x_icmp_ne (tgt := 72) (pc2 := 68) dX8_free_65 (by decide) rfl h7 (by decide) (fun c8 => ?_) (fun c8 => ?_)
  · skip
    refine x_aload_n (pc2 := 73) dX8_free_72 rfl rfl ?_
    refine x_getf (pc2 := 76) (v := aR 111) fl_X8_160 ic_62 (vr_62_67 _) dX8_free_73 rfl ?_
    refine x_iload_n (pc2 := 77) dX8_free_76 rfl rfl ?_
    have h9 := g5 c8
    have h10 := g6 c8
    refine x_iald (pc2 := 78) ic_111 h9 (by rw [al_111]; exact h10) dX8_free_77 rfl ?_
    exact x_topI (v := (if l2 ≠ (-1) then (m 111 l2) else l3 : Int)) (if_pos c8) kj
  · skip
    refine x_iload_n (pc2 := 69) dX8_free_68 rfl rfl ?_
    refine x_goto (tgt := 78) dX8_free_69 (by decide) ?_
    exact x_topI (v := (if l2 ≠ (-1) then (m 111 l2) else l3 : Int)) (if_neg c8) kj
theorem c_X8_free_3 {sc : List Int} {d d2 : Nat} {m m2 : Mem} {Q : Option AV → Mem → Prop} {l1 l2 s1 s2 : Int} {v : Int} (hM : C_X8_isAsked sc d2 [aR 62, aI s1, aI s2] m (some (aI v)) m2) (hd : d2 + 1 ≤ d) (k : S_X8_free sc d 6 [aR 62, aI l1, aI l2, aU] [aI v] m2 Q) : S_X8_free sc d 3 [aR 62, aI l1, aI l2, aU] [aI s2, aI s1, aR 62] m Q := x_callV (as := [aI s1, aI s2]) (rest := []) hM mk_X8_isAsked mv_X8_isAsked lk_X8_554 (Or.inl ⟨8, (RX8, TX8, 123), ic_62, Nat.le_of_ble_eq_true rfl, rfl, rfl⟩) hd rfl rfl (Nat.le_of_ble_eq_true rfl) dX8_free_3 rfl k
theorem c_X8_free_11 {sc : List Int} {d d2 : Nat} {m m2 : Mem} {Q : Option AV → Mem → Prop} {l1 l2 s1 : Int} {v : Int} (hM : C_X8_packs sc d2 [aR 62, aI s1] m (some (aI v)) m2) (hd : d2 + 1 ≤ d) (k : S_X8_free sc d 14 [aR 62, aI l1, aI l2, aU] [aI v] m2 Q) : S_X8_free sc d 11 [aR 62, aI l1, aI l2, aU] [aI s1, aR 62] m Q := x_callV (as := [aI s1]) (rest := []) hM mk_X8_packs mv_X8_packs lk_X8_557 (Or.inl ⟨8, (RX8, TX8, 123), ic_62, Nat.le_of_ble_eq_true rfl, rfl, rfl⟩) hd rfl rfl (Nat.le_of_ble_eq_true rfl) dX8_free_11 rfl k
theorem c_X8_free_23 {sc : List Int} {d d2 : Nat} {m m2 : Mem} {Q : Option AV → Mem → Prop} {l1 l2 l3 s0 : Int} {v : Int} (hM : C_X8_seamMany sc d2 [aR 62] m (some (aI v)) m2) (hd : d2 + 1 ≤ d) (k : S_X8_free sc d 26 [aR 62, aI l1, aI l2, aI l3] [aI v, aI s0] m2 Q) : S_X8_free sc d 23 [aR 62, aI l1, aI l2, aI l3] [aR 62, aI s0] m Q := x_callV (as := []) (rest := [aI s0]) hM mk_X8_seamMany mv_X8_seamMany lk_X8_431 (Or.inl ⟨8, (RX8, TX8, 123), ic_62, Nat.le_of_ble_eq_true rfl, rfl, rfl⟩) hd rfl rfl (Nat.le_of_ble_eq_true rfl) dX8_free_23 rfl k
theorem c_X8_free_32 {sc : List Int} {d d2 : Nat} {m m2 : Mem} {Q : Option AV → Mem → Prop} {l1 l2 l3 s1 s2 : Int} {v : Int} (hM : C_X8_fills sc d2 [aR 62, aI s1, aI s2] m (some (aI v)) m2) (hd : d2 + 1 ≤ d) (k : S_X8_free sc d 35 [aR 62, aI l1, aI l2, aI l3] [aI v] m2 Q) : S_X8_free sc d 32 [aR 62, aI l1, aI l2, aI l3] [aI s2, aI s1, aR 62] m Q := x_callV (as := [aI s1, aI s2]) (rest := []) hM mk_X8_fills mv_X8_fills lk_X8_563 (Or.inl ⟨8, (RX8, TX8, 123), ic_62, Nat.le_of_ble_eq_true rfl, rfl, rfl⟩) hd rfl rfl (Nat.le_of_ble_eq_true rfl) dX8_free_32 rfl k
theorem c_X8_free_46 {sc : List Int} {d d2 : Nat} {m m2 : Mem} {Q : Option AV → Mem → Prop} {l1 l2 l3 s0 : Int} {v : Int} (hM : C_X8_seamMany sc d2 [aR 62] m (some (aI v)) m2) (hd : d2 + 1 ≤ d) (k : S_X8_free sc d 49 [aR 62, aI l1, aI l2, aI l3] [aI v, aI s0] m2 Q) : S_X8_free sc d 46 [aR 62, aI l1, aI l2, aI l3] [aR 62, aI s0] m Q := x_callV (as := []) (rest := [aI s0]) hM mk_X8_seamMany mv_X8_seamMany lk_X8_431 (Or.inl ⟨8, (RX8, TX8, 123), ic_62, Nat.le_of_ble_eq_true rfl, rfl, rfl⟩) hd rfl rfl (Nat.le_of_ble_eq_true rfl) dX8_free_46 rfl k
theorem c_X8_free_59 {sc : List Int} {d d2 : Nat} {m m2 : Mem} {Q : Option AV → Mem → Prop} {l2 l3 s1 s2 : Int} {v : Int} (hM : C_X8_fills sc d2 [aR 62, aI s1, aI s2] m (some (aI v)) m2) (hd : d2 + 1 ≤ d) (k : S_X8_free sc d 62 [aR 62, aU, aI l2, aI l3] [aI v] m2 Q) : S_X8_free sc d 59 [aR 62, aU, aI l2, aI l3] [aI s2, aI s1, aR 62] m Q := x_callV (as := [aI s1, aI s2]) (rest := []) hM mk_X8_fills mv_X8_fills lk_X8_563 (Or.inl ⟨8, (RX8, TX8, 123), ic_62, Nat.le_of_ble_eq_true rfl, rfl, rfl⟩) hd rfl rfl (Nat.le_of_ble_eq_true rfl) dX8_free_59 rfl k
set_option maxRecDepth 4000 in
theorem g_X8_mayStart_0 {sc : List Int} {d : Nat} {m : Mem} {Q : Option AV → Mem → Prop} {l1 l2 l3 : Int} (k : (0 ≤ (m 62 75)) ∧ ((m 62 75) < 51) ∧ (0 ≤ ((wr m 113 (m 62 75) l1) 62 75)) ∧ (((wr m 113 (m 62 75) l1) 62 75) < 51) ∧ ((-2147483648 ≤ l3 ∧ l3 < 2147483648)) ∧ (0 ≤ ((wr (wr m 113 (m 62 75) l1) 114 ((wr m 113 (m 62 75) l1) 62 75) l2) 62 75)) ∧ (((wr (wr m 113 (m 62 75) l1) 114 ((wr m 113 (m 62 75) l1) 62 75) l2) 62 75) < 51) ∧ Q none (wr (wr (wr (wr m 113 (m 62 75) l1) 114 ((wr m 113 (m 62 75) l1) 62 75) l2) 115 ((wr (wr m 113 (m 62 75) l1) 114 ((wr m 113 (m 62 75) l1) 62 75) l2) 62 75) (if l3 = 0 then 0 else 1 : Int)) 62 75 (((wr (wr (wr m 113 (m 62 75) l1) 114 ((wr m 113 (m 62 75) l1) 62 75) l2) 115 ((wr (wr m 113 (m 62 75) l1) 114 ((wr m 113 (m 62 75) l1) 62 75) l2) 62 75) (if l3 = 0 then 0 else 1 : Int)) 62 75) + 1))) : S_X8_mayStart sc d 0 [aR 62, aI l1, aI l2, aI l3] [] m Q := by
  refine x_aload_n (pc2 := 1) dX8_mayStart_0 rfl rfl ?_
  refine x_getf (pc2 := 4) (v := aR 113) fl_X8_166 ic_62 (vr_62_69 _) dX8_mayStart_1 rfl ?_
  refine x_aload_n (pc2 := 5) dX8_mayStart_4 rfl rfl ?_
  refine x_getf (pc2 := 8) (v := aI (m 62 75)) fl_X8_566 ic_62 (fv_i _ ic_62 rfl) dX8_mayStart_5 rfl ?_
  refine x_iload_n (pc2 := 9) dX8_mayStart_8 rfl rfl ?_
  obtain ⟨h1, k⟩ := k
  obtain ⟨h2, k⟩ := k
  refine x_iast (pc2 := 10) ic_113 h1 (by rw [al_113]; exact h2) dX8_mayStart_9 rfl ?_
  refine x_aload_n (pc2 := 11) dX8_mayStart_10 rfl rfl ?_
  refine x_getf (pc2 := 14) (v := aR 114) fl_X8_169 ic_62 (vr_62_70 _) dX8_mayStart_11 rfl ?_
  refine x_aload_n (pc2 := 15) dX8_mayStart_14 rfl rfl ?_
  refine x_getf (pc2 := 18) (v := aI ((wr m 113 (m 62 75) l1) 62 75)) fl_X8_566 ic_62 (fv_i _ ic_62 rfl) dX8_mayStart_15 rfl ?_
  refine x_iload_n (pc2 := 19) dX8_mayStart_18 rfl rfl ?_
  obtain ⟨h3, k⟩ := k
  obtain ⟨h4, k⟩ := k
  refine x_iast (pc2 := 20) ic_114 h3 (by rw [al_114]; exact h4) dX8_mayStart_19 rfl ?_
  refine x_aload_n (pc2 := 21) dX8_mayStart_20 rfl rfl ?_
  refine x_getf (pc2 := 24) (v := aR 115) fl_X8_172 ic_62 (vr_62_71 _) dX8_mayStart_21 rfl ?_
  refine x_aload_n (pc2 := 25) dX8_mayStart_24 rfl rfl ?_
  refine x_getf (pc2 := 28) (v := aI ((wr (wr m 113 (m 62 75) l1) 114 ((wr m 113 (m 62 75) l1) 62 75) l2) 62 75)) fl_X8_566 ic_62 (fv_i _ ic_62 rfl) dX8_mayStart_25 rfl ?_
  refine x_iload_n (pc2 := 29) dX8_mayStart_28 rfl rfl ?_
  obtain ⟨g6, k⟩ := k
  have kj : S_X8_mayStart sc d 37 [aR 62, aI l1, aI l2, aI l3] [aI (if l3 = 0 then 0 else 1 : Int), aI ((wr (wr m 113 (m 62 75) l1) 114 ((wr m 113 (m 62 75) l1) 62 75) l2) 62 75), aR 115] (wr (wr m 113 (m 62 75) l1) 114 ((wr m 113 (m 62 75) l1) 62 75) l2) Q := by
    obtain ⟨h7, k⟩ := k
    obtain ⟨h8, k⟩ := k
    refine x_iast (pc2 := 38) ic_115 h7 (by rw [al_115]; exact h8) dX8_mayStart_37 rfl ?_
    refine x_aload_n (pc2 := 39) dX8_mayStart_38 rfl rfl ?_
    refine x_dup_r (pc2 := 40) dX8_mayStart_39 rfl (by decide) ?_
    refine x_getf (pc2 := 43) (v := aI ((wr (wr (wr m 113 (m 62 75) l1) 114 ((wr m 113 (m 62 75) l1) 62 75) l2) 115 ((wr (wr m 113 (m 62 75) l1) 114 ((wr m 113 (m 62 75) l1) 62 75) l2) 62 75) (if l3 = 0 then 0 else 1 : Int)) 62 75)) fl_X8_566 ic_62 (fv_i _ ic_62 rfl) dX8_mayStart_40 rfl ?_
    refine x_iconst (pc2 := 44) dX8_mayStart_43 rfl ?_
    refine x_iadd (pc2 := 45) dX8_mayStart_44 rfl ?_
    refine x_putf (pc2 := 48) (x := (((wr (wr (wr m 113 (m 62 75) l1) 114 ((wr m 113 (m 62 75) l1) 62 75) l2) 115 ((wr (wr m 113 (m 62 75) l1) 114 ((wr m 113 (m 62 75) l1) 62 75) l2) 62 75) (if l3 = 0 then 0 else 1 : Int)) 62 75) + 1)) fl_X8_566 ft_8_75 ic_62 (pv_i _ ic_62 rfl) (pn_i _) dX8_mayStart_45 rfl ?_
    exact x_return dX8_mayStart_48 rfl k
  have h9 := g6 
  refine x_if_eq (tgt := 36) (pc2 := 32) dX8_mayStart_29 (by decide) rfl h9 (fun c10 => ?_) (fun c10 => ?_)
  · skip
    refine x_iconst (pc2 := 37) dX8_mayStart_36 rfl ?_
    exact x_topI (v := (if l3 = 0 then 0 else 1 : Int)) (if_pos c10) kj
  · skip
    refine x_iconst (pc2 := 33) dX8_mayStart_32 rfl ?_
    refine x_goto (tgt := 37) dX8_mayStart_33 (by decide) ?_
    exact x_topI (v := (if l3 = 0 then 0 else 1 : Int)) (if_neg c10) kj
set_option maxRecDepth 4000 in
theorem g_X8_laysStarts_0 {sc : List Int} {d : Nat} {m : Mem} {Q : Option AV → Mem → Prop} (k : S_X8_laysStarts sc d 9 [aR 62, aI 0, aI 0, aU] [] (wr m 62 75 0) Q) : S_X8_laysStarts sc d 0 [aR 62, aU, aU, aU] [] m Q := by
  refine x_aload_n (pc2 := 1) dX8_laysStarts_0 rfl rfl ?_
  refine x_iconst (pc2 := 2) dX8_laysStarts_1 rfl ?_
  refine x_putf (pc2 := 5) (x := 0) fl_X8_566 ft_8_75 ic_62 (pv_i _ ic_62 rfl) (pn_i _) dX8_laysStarts_2 rfl ?_
  refine x_iconst (pc2 := 6) dX8_laysStarts_5 rfl ?_
  refine x_istore_n (pc2 := 7) (ls2 := [aR 62, aI 0, aU, aU]) dX8_laysStarts_6 rfl (by decide) rfl ?_
  refine x_iconst (pc2 := 8) dX8_laysStarts_7 rfl ?_
  refine x_istore_n (pc2 := 9) (ls2 := [aR 62, aI 0, aI 0, aU]) dX8_laysStarts_8 rfl (by decide) rfl ?_
  exact k
set_option maxRecDepth 4000 in
theorem g_X8_laysStarts_9 {sc : List Int} {d : Nat} {m : Mem} {Q : Option AV → Mem → Prop} {l1 l2 : Int} (k : S_X8_laysStarts sc d 11 [aR 62, aI l1, aI l2, aU] [aR 62, aI l2] m Q) : S_X8_laysStarts sc d 9 [aR 62, aI l1, aI l2, aU] [] m Q := by
  refine x_iload_n (pc2 := 10) dX8_laysStarts_9 rfl rfl ?_
  refine x_aload_n (pc2 := 11) dX8_laysStarts_10 rfl rfl ?_
  exact k
set_option maxRecDepth 4000 in
theorem g_X8_laysStarts_14 {sc : List Int} {d : Nat} {m : Mem} {Q : Option AV → Mem → Prop} {l1 l2 s0 s1 : Int} (k : (-2147483648 ≤ s0 ∧ s0 < 2147483648) ∧ (-2147483648 ≤ s1 ∧ s1 < 2147483648) ∧ ((s1 ≤ s0) → ((0 ≤ (m 62 75)) ∧ ((m 62 75) < 51) ∧ Q none (wr m 113 (m 62 75) l1))) ∧ (¬ (s1 ≤ s0) → (S_X8_laysStarts sc d 24 [aR 62, aI l1, aI l2, aU] [aI 0, aI (100 * l2), aI l1, aR 62] m Q))) : S_X8_laysStarts sc d 14 [aR 62, aI l1, aI l2, aU] [aI s1, aI s0] m Q := by
  obtain ⟨h1, k⟩ := k
  obtain ⟨h2, k⟩ := k
  obtain ⟨k1, k2⟩ := k
  refine x_icmp_ge (tgt := 86) (pc2 := 17) dX8_laysStarts_14 (by decide) rfl h1 h2 (fun c3 => ?_) (fun c3 => ?_)
  · replace k := k1 c3
    refine x_aload_n (pc2 := 87) dX8_laysStarts_86 rfl rfl ?_
    refine x_getf (pc2 := 90) (v := aR 113) fl_X8_166 ic_62 (vr_62_69 _) dX8_laysStarts_87 rfl ?_
    refine x_aload_n (pc2 := 91) dX8_laysStarts_90 rfl rfl ?_
    refine x_getf (pc2 := 94) (v := aI (m 62 75)) fl_X8_566 ic_62 (fv_i _ ic_62 rfl) dX8_laysStarts_91 rfl ?_
    refine x_iload_n (pc2 := 95) dX8_laysStarts_94 rfl rfl ?_
    obtain ⟨h4, k⟩ := k
    obtain ⟨h5, k⟩ := k
    refine x_iast (pc2 := 96) ic_113 h4 (by rw [al_113]; exact h5) dX8_laysStarts_95 rfl ?_
    exact x_return dX8_laysStarts_96 rfl k
  · replace k := k2 c3
    refine x_aload_n (pc2 := 18) dX8_laysStarts_17 rfl rfl ?_
    refine x_iload_n (pc2 := 19) dX8_laysStarts_18 rfl rfl ?_
    refine x_bipush (pc2 := 21) dX8_laysStarts_19 rfl rfl ?_
    refine x_iload_n (pc2 := 22) dX8_laysStarts_21 rfl rfl ?_
    refine x_imul (pc2 := 23) dX8_laysStarts_22 rfl ?_
    refine x_iconst (pc2 := 24) dX8_laysStarts_23 rfl ?_
    exact k
set_option maxRecDepth 4000 in
theorem g_X8_laysStarts_27 {sc : List Int} {d : Nat} {m : Mem} {Q : Option AV → Mem → Prop} {l1 l2 : Int} (k : S_X8_laysStarts sc d 29 [aR 62, aI l1, aI l2, aI 0] [] m Q) : S_X8_laysStarts sc d 27 [aR 62, aI l1, aI l2, aU] [] m Q := by
  refine x_iconst (pc2 := 28) dX8_laysStarts_27 rfl ?_
  refine x_istore_n (pc2 := 29) (ls2 := [aR 62, aI l1, aI l2, aI 0]) dX8_laysStarts_28 rfl (by decide) rfl ?_
  exact k
set_option maxRecDepth 4000 in
theorem g_X8_laysStarts_29 {sc : List Int} {d : Nat} {m : Mem} {Q : Option AV → Mem → Prop} {l1 l2 l3 : Int} (k : S_X8_laysStarts sc d 32 [aR 62, aI l1, aI l2, aI l3] [aI l2, aR 62, aI l3] m Q) : S_X8_laysStarts sc d 29 [aR 62, aI l1, aI l2, aI l3] [] m Q := by
  refine x_iload_n (pc2 := 30) dX8_laysStarts_29 rfl rfl ?_
  refine x_aload_n (pc2 := 31) dX8_laysStarts_30 rfl rfl ?_
  refine x_iload_n (pc2 := 32) dX8_laysStarts_31 rfl rfl ?_
  exact k
set_option maxRecDepth 4000 in
theorem g_X8_laysStarts_35 {sc : List Int} {d : Nat} {m : Mem} {Q : Option AV → Mem → Prop} {l1 l2 l3 s0 s1 : Int} (k : (-2147483648 ≤ s0 ∧ s0 < 2147483648) ∧ (-2147483648 ≤ s1 ∧ s1 < 2147483648) ∧ ((s1 ≤ s0) → (S_X8_laysStarts sc d 75 [aR 62, aU, aI l2, aU] [aI l2, aR 62, aI l1] m Q)) ∧ (¬ (s1 ≤ s0) → (S_X8_laysStarts sc d 43 [aR 62, aI l1, aI l2, aI l3] [aI l3, aI l2, aR 62, aI l1, aR 62] m Q))) : S_X8_laysStarts sc d 35 [aR 62, aI l1, aI l2, aI l3] [aI s1, aI s0] m Q := by
  obtain ⟨h1, k⟩ := k
  obtain ⟨h2, k⟩ := k
  obtain ⟨k1, k2⟩ := k
  refine x_icmp_ge (tgt := 72) (pc2 := 38) dX8_laysStarts_35 (by decide) rfl h1 h2 (fun c3 => ?_) (fun c3 => ?_)
  · replace k := k1 c3
    refine x_iload_n (pc2 := 73) dX8_laysStarts_72 rfl rfl ?_
    refine x_aload_n (pc2 := 74) dX8_laysStarts_73 rfl rfl ?_
    refine x_iload_n (pc2 := 75) dX8_laysStarts_74 rfl rfl ?_
    exact x_drop (drp_k (drp_u (drp_k (drp_u drp_n)))) k
  · replace k := k2 c3
    refine x_aload_n (pc2 := 39) dX8_laysStarts_38 rfl rfl ?_
    refine x_iload_n (pc2 := 40) dX8_laysStarts_39 rfl rfl ?_
    refine x_aload_n (pc2 := 41) dX8_laysStarts_40 rfl rfl ?_
    refine x_iload_n (pc2 := 42) dX8_laysStarts_41 rfl rfl ?_
    refine x_iload_n (pc2 := 43) dX8_laysStarts_42 rfl rfl ?_
    exact k
set_option maxRecDepth 4000 in
theorem g_X8_laysStarts_46 {sc : List Int} {d : Nat} {m : Mem} {Q : Option AV → Mem → Prop} {l1 l2 l3 s1 s2 : Int} (k : S_X8_laysStarts sc d 54 [aR 62, aI l1, aI l2, aI l3] [aI l3, aI l2, aR 62, aI (100 * l2), aI (s1 + s2), aR 62] m Q) : S_X8_laysStarts sc d 46 [aR 62, aI l1, aI l2, aI l3] [aI s2, aI s1, aR 62] m Q := by
  refine x_iadd (pc2 := 47) dX8_laysStarts_46 rfl ?_
  refine x_bipush (pc2 := 49) dX8_laysStarts_47 rfl rfl ?_
  refine x_iload_n (pc2 := 50) dX8_laysStarts_49 rfl rfl ?_
  refine x_imul (pc2 := 51) dX8_laysStarts_50 rfl ?_
  refine x_aload_n (pc2 := 52) dX8_laysStarts_51 rfl rfl ?_
  refine x_iload_n (pc2 := 53) dX8_laysStarts_52 rfl rfl ?_
  refine x_iload_n (pc2 := 54) dX8_laysStarts_53 rfl rfl ?_
  exact k
set_option maxRecDepth 4000 in
theorem g_X8_laysStarts_57 {sc : List Int} {d : Nat} {m : Mem} {Q : Option AV → Mem → Prop} {l1 l2 l3 s1 s2 s3 : Int} (k : S_X8_laysStarts sc d 60 [aR 62, aI l1, aI l2, aI l3] [aI l2, aR 62, aI (s2 + s3), aI s1, aR 62] m Q) : S_X8_laysStarts sc d 57 [aR 62, aI l1, aI l2, aI l3] [aI s3, aI s2, aI s1, aR 62] m Q := by
  refine x_iadd (pc2 := 58) dX8_laysStarts_57 rfl ?_
  refine x_aload_n (pc2 := 59) dX8_laysStarts_58 rfl rfl ?_
  refine x_iload_n (pc2 := 60) dX8_laysStarts_59 rfl rfl ?_
  exact k
set_option maxRecDepth 4000 in
theorem g_X8_laysStarts_63 {sc : List Int} {d : Nat} {m : Mem} {Q : Option AV → Mem → Prop} {l1 l2 l3 s1 s2 s3 : Int} (k : S_X8_laysStarts sc d 63 [aR 62, aI l1, aI l2, aI l3] [aI s3, aI s2, aI s1, aR 62] m Q) : S_X8_laysStarts sc d 63 [aR 62, aI l1, aI l2, aI l3] [aI s3, aI s2, aI s1, aR 62] m Q := by
  exact k
set_option maxRecDepth 4000 in
theorem g_X8_laysStarts_66 {sc : List Int} {d : Nat} {m : Mem} {Q : Option AV → Mem → Prop} {l1 l2 l3 : Int} (k : S_X8_laysStarts sc d 29 [aR 62, aI l1, aI l2, aI (l3 + 1)] [] m Q) : S_X8_laysStarts sc d 66 [aR 62, aI l1, aI l2, aI l3] [] m Q := by
  refine x_iinc (pc2 := 69) (ls2 := [aR 62, aI l1, aI l2, aI (l3 + 1)]) dX8_laysStarts_66 rfl rfl (by decide) rfl ?_
  refine x_goto (tgt := 29) dX8_laysStarts_69 (by decide) ?_
  exact k
set_option maxRecDepth 4000 in
theorem g_X8_laysStarts_78 {sc : List Int} {d : Nat} {m : Mem} {Q : Option AV → Mem → Prop} {l2 s0 s1 : Int} (k : S_X8_laysStarts sc d 9 [aR 62, aI (s0 + s1), aI (l2 + 1), aU] [] m Q) : S_X8_laysStarts sc d 78 [aR 62, aU, aI l2, aU] [aI s1, aI s0] m Q := by
  refine x_iadd (pc2 := 79) dX8_laysStarts_78 rfl ?_
  refine x_istore_n (pc2 := 80) (ls2 := [aR 62, aI (s0 + s1), aI l2, aU]) dX8_laysStarts_79 rfl (by decide) rfl ?_
  refine x_iinc (pc2 := 83) (ls2 := [aR 62, aI (s0 + s1), aI (l2 + 1), aU]) dX8_laysStarts_80 rfl rfl (by decide) rfl ?_
  refine x_goto (tgt := 9) dX8_laysStarts_83 (by decide) ?_
  exact k
theorem c_X8_laysStarts_11 {sc : List Int} {d d2 : Nat} {m m2 : Mem} {Q : Option AV → Mem → Prop} {l1 l2 s0 : Int} {v : Int} (hM : C_X8_seamMany sc d2 [aR 62] m (some (aI v)) m2) (hd : d2 + 1 ≤ d) (k : S_X8_laysStarts sc d 14 [aR 62, aI l1, aI l2, aU] [aI v, aI s0] m2 Q) : S_X8_laysStarts sc d 11 [aR 62, aI l1, aI l2, aU] [aR 62, aI s0] m Q := x_callV (as := []) (rest := [aI s0]) hM mk_X8_seamMany mv_X8_seamMany lk_X8_431 (Or.inl ⟨8, (RX8, TX8, 123), ic_62, Nat.le_of_ble_eq_true rfl, rfl, rfl⟩) hd rfl rfl (Nat.le_of_ble_eq_true rfl) dX8_laysStarts_11 rfl k
theorem c_X8_laysStarts_24 {sc : List Int} {d d2 : Nat} {m m2 : Mem} {Q : Option AV → Mem → Prop} {l1 l2 s1 s2 s3 : Int} (hM : C_X8_mayStart sc d2 [aR 62, aI s1, aI s2, aI s3] m none m2) (hd : d2 + 1 ≤ d) (k : S_X8_laysStarts sc d 27 [aR 62, aI l1, aI l2, aU] [] m2 Q) : S_X8_laysStarts sc d 24 [aR 62, aI l1, aI l2, aU] [aI s3, aI s2, aI s1, aR 62] m Q := x_callV (as := [aI s1, aI s2, aI s3]) (rest := []) hM mk_X8_mayStart mv_X8_mayStart lk_X8_569 (Or.inl ⟨8, (RX8, TX8, 123), ic_62, Nat.le_of_ble_eq_true rfl, rfl, rfl⟩) hd rfl rfl (Nat.le_of_ble_eq_true rfl) dX8_laysStarts_24 rfl k
theorem c_X8_laysStarts_32 {sc : List Int} {d d2 : Nat} {m m2 : Mem} {Q : Option AV → Mem → Prop} {l1 l2 l3 s0 s2 : Int} {v : Int} (hM : C_X8_placeMany sc d2 [aR 62, aI s2] m (some (aI v)) m2) (hd : d2 + 1 ≤ d) (k : S_X8_laysStarts sc d 35 [aR 62, aI l1, aI l2, aI l3] [aI v, aI s0] m2 Q) : S_X8_laysStarts sc d 32 [aR 62, aI l1, aI l2, aI l3] [aI s2, aR 62, aI s0] m Q := x_callV (as := [aI s2]) (rest := [aI s0]) hM mk_X8_placeMany mv_X8_placeMany lk_X8_545 (Or.inl ⟨8, (RX8, TX8, 123), ic_62, Nat.le_of_ble_eq_true rfl, rfl, rfl⟩) hd rfl rfl (Nat.le_of_ble_eq_true rfl) dX8_laysStarts_32 rfl k
theorem c_X8_laysStarts_43 {sc : List Int} {d d2 : Nat} {m m2 : Mem} {Q : Option AV → Mem → Prop} {l1 l2 l3 s1 s3 s4 : Int} {v : Int} (hM : C_X8_placeOf sc d2 [aR 62, aI s3, aI s4] m (some (aI v)) m2) (hd : d2 + 1 ≤ d) (k : S_X8_laysStarts sc d 46 [aR 62, aI l1, aI l2, aI l3] [aI v, aI s1, aR 62] m2 Q) : S_X8_laysStarts sc d 43 [aR 62, aI l1, aI l2, aI l3] [aI s4, aI s3, aR 62, aI s1, aR 62] m Q := x_callV (as := [aI s3, aI s4]) (rest := [aI s1, aR 62]) hM mk_X8_placeOf mv_X8_placeOf lk_X8_548 (Or.inl ⟨8, (RX8, TX8, 123), ic_62, Nat.le_of_ble_eq_true rfl, rfl, rfl⟩) hd rfl rfl (Nat.le_of_ble_eq_true rfl) dX8_laysStarts_43 rfl k
theorem c_X8_laysStarts_54 {sc : List Int} {d d2 : Nat} {m m2 : Mem} {Q : Option AV → Mem → Prop} {l1 l2 l3 s1 s2 s4 s5 : Int} {v : Int} (hM : C_X8_placeOf sc d2 [aR 62, aI s4, aI s5] m (some (aI v)) m2) (hd : d2 + 1 ≤ d) (k : S_X8_laysStarts sc d 57 [aR 62, aI l1, aI l2, aI l3] [aI v, aI s2, aI s1, aR 62] m2 Q) : S_X8_laysStarts sc d 54 [aR 62, aI l1, aI l2, aI l3] [aI s5, aI s4, aR 62, aI s2, aI s1, aR 62] m Q := x_callV (as := [aI s4, aI s5]) (rest := [aI s2, aI s1, aR 62]) hM mk_X8_placeOf mv_X8_placeOf lk_X8_548 (Or.inl ⟨8, (RX8, TX8, 123), ic_62, Nat.le_of_ble_eq_true rfl, rfl, rfl⟩) hd rfl rfl (Nat.le_of_ble_eq_true rfl) dX8_laysStarts_54 rfl k
theorem c_X8_laysStarts_60 {sc : List Int} {d d2 : Nat} {m m2 : Mem} {Q : Option AV → Mem → Prop} {l1 l2 l3 s1 s2 s4 : Int} {v : Int} (hM : C_X8_isShown sc d2 [aR 62, aI s4] m (some (aI v)) m2) (hd : d2 + 1 ≤ d) (k : S_X8_laysStarts sc d 63 [aR 62, aI l1, aI l2, aI l3] [aI v, aI s2, aI s1, aR 62] m2 Q) : S_X8_laysStarts sc d 60 [aR 62, aI l1, aI l2, aI l3] [aI s4, aR 62, aI s2, aI s1, aR 62] m Q := x_callV (as := [aI s4]) (rest := [aI s2, aI s1, aR 62]) hM mk_X8_isShown mv_X8_isShown lk_X8_573 (Or.inl ⟨8, (RX8, TX8, 123), ic_62, Nat.le_of_ble_eq_true rfl, rfl, rfl⟩) hd rfl rfl (Nat.le_of_ble_eq_true rfl) dX8_laysStarts_60 rfl k
theorem c_X8_laysStarts_63 {sc : List Int} {d d2 : Nat} {m m2 : Mem} {Q : Option AV → Mem → Prop} {l1 l2 l3 s1 s2 s3 : Int} (hM : C_X8_mayStart sc d2 [aR 62, aI s1, aI s2, aI s3] m none m2) (hd : d2 + 1 ≤ d) (k : S_X8_laysStarts sc d 66 [aR 62, aI l1, aI l2, aI l3] [] m2 Q) : S_X8_laysStarts sc d 63 [aR 62, aI l1, aI l2, aI l3] [aI s3, aI s2, aI s1, aR 62] m Q := x_callV (as := [aI s1, aI s2, aI s3]) (rest := []) hM mk_X8_mayStart mv_X8_mayStart lk_X8_569 (Or.inl ⟨8, (RX8, TX8, 123), ic_62, Nat.le_of_ble_eq_true rfl, rfl, rfl⟩) hd rfl rfl (Nat.le_of_ble_eq_true rfl) dX8_laysStarts_63 rfl k
theorem c_X8_laysStarts_75 {sc : List Int} {d d2 : Nat} {m m2 : Mem} {Q : Option AV → Mem → Prop} {l2 s0 s2 : Int} {v : Int} (hM : C_X8_takesOf sc d2 [aR 62, aI s2] m (some (aI v)) m2) (hd : d2 + 1 ≤ d) (k : S_X8_laysStarts sc d 78 [aR 62, aU, aI l2, aU] [aI v, aI s0] m2 Q) : S_X8_laysStarts sc d 75 [aR 62, aU, aI l2, aU] [aI s2, aR 62, aI s0] m Q := x_callV (as := [aI s2]) (rest := [aI s0]) hM mk_X8_takesOf mv_X8_takesOf lk_X8_434 (Or.inl ⟨8, (RX8, TX8, 123), ic_62, Nat.le_of_ble_eq_true rfl, rfl, rfl⟩) hd rfl rfl (Nat.le_of_ble_eq_true rfl) dX8_laysStarts_75 rfl k
set_option maxRecDepth 4000 in
theorem g_X8_startsFrom_0 {sc : List Int} {d : Nat} {m : Mem} {Q : Option AV → Mem → Prop} {l1 l2 : Int} (k : (0 ≤ l1) ∧ (l1 < 51) ∧ S_X8_startsFrom sc d 28 [aR 62, aI l1, aI l2, aI ((wr (wr (wr m 116 l1 1000) 117 l1 0) 118 l1 (-1)) 62 75), aU, aU] [] (wr (wr (wr m 116 l1 1000) 117 l1 0) 118 l1 (-1)) Q) : S_X8_startsFrom sc d 0 [aR 62, aI l1, aI l2, aU, aU, aU] [] m Q := by
  refine x_aload_n (pc2 := 1) dX8_startsFrom_0 rfl rfl ?_
  refine x_getf (pc2 := 4) (v := aR 116) fl_X8_175 ic_62 (vr_62_72 _) dX8_startsFrom_1 rfl ?_
  refine x_iload_n (pc2 := 5) dX8_startsFrom_4 rfl rfl ?_
  refine x_sipush (pc2 := 8) dX8_startsFrom_5 rfl rfl ?_
  obtain ⟨h1, k⟩ := k
  obtain ⟨h2, k⟩ := k
  refine x_iast (pc2 := 9) ic_116 h1 (by rw [al_116]; exact h2) dX8_startsFrom_8 rfl ?_
  refine x_aload_n (pc2 := 10) dX8_startsFrom_9 rfl rfl ?_
  refine x_getf (pc2 := 13) (v := aR 117) fl_X8_178 ic_62 (vr_62_73 _) dX8_startsFrom_10 rfl ?_
  refine x_iload_n (pc2 := 14) dX8_startsFrom_13 rfl rfl ?_
  refine x_iconst (pc2 := 15) dX8_startsFrom_14 rfl ?_
  refine x_iast (pc2 := 16) ic_117 h1 (by rw [al_117]; exact h2) dX8_startsFrom_15 rfl ?_
  refine x_aload_n (pc2 := 17) dX8_startsFrom_16 rfl rfl ?_
  refine x_getf (pc2 := 20) (v := aR 118) fl_X8_181 ic_62 (vr_62_74 _) dX8_startsFrom_17 rfl ?_
  refine x_iload_n (pc2 := 21) dX8_startsFrom_20 rfl rfl ?_
  refine x_iconst (pc2 := 22) dX8_startsFrom_21 rfl ?_
  refine x_iast (pc2 := 23) ic_118 h1 (by rw [al_118]; exact h2) dX8_startsFrom_22 rfl ?_
  refine x_aload_n (pc2 := 24) dX8_startsFrom_23 rfl rfl ?_
  refine x_getf (pc2 := 27) (v := aI ((wr (wr (wr m 116 l1 1000) 117 l1 0) 118 l1 (-1)) 62 75)) fl_X8_566 ic_62 (fv_i _ ic_62 rfl) dX8_startsFrom_24 rfl ?_
  refine x_istore_n (pc2 := 28) (ls2 := [aR 62, aI l1, aI l2, aI ((wr (wr (wr m 116 l1 1000) 117 l1 0) 118 l1 (-1)) 62 75), aU, aU]) dX8_startsFrom_27 rfl (by decide) rfl ?_
  exact k
set_option maxRecDepth 4000 in
theorem g_X8_startsFrom_28 {sc : List Int} {d : Nat} {m : Mem} {Q : Option AV → Mem → Prop} {l1 l2 l3 : Int} (k : (-2147483648 ≤ l3 ∧ l3 < 2147483648) ∧ (-2147483648 ≤ l1 ∧ l1 < 2147483648) ∧ ((l3 ≤ l1) → (Q none m)) ∧ (¬ (l3 ≤ l1) → ((0 ≤ l3) ∧ (l3 < 51) ∧ (0 ≤ l1) ∧ (l1 < 51) ∧ (-2147483648 ≤ ((m 113 l3) - (m 113 l1)) ∧ ((m 113 l3) - (m 113 l1)) < 2147483648) ∧ (-2147483648 ≤ l2 ∧ l2 < 2147483648) ∧ ((((m 113 l3) - (m 113 l1)) ≤ l2) → (((-2147483648 ≤ (m 62 75) ∧ (m 62 75) < 2147483648)) ∧ ((-2147483648 ≤ (m 62 75) ∧ (m 62 75) < 2147483648)) ∧ (-2147483648 ≤ (1 + (if l3 ≠ (m 62 75) then (m 116 l3) else 0 : Int)) ∧ (1 + (if l3 ≠ (m 62 75) then (m 116 l3) else 0 : Int)) < 2147483648) ∧ (-2147483648 ≤ (m 116 l1) ∧ (m 116 l1) < 2147483648) ∧ (((m 116 l1) < (1 + (if l3 ≠ (m 62 75) then (m 116 l3) else 0 : Int))) → (S_X8_startsFrom sc d 28 [aR 62, aI l1, aI l2, aI (l3 + (-1)), aU, aU] [] m Q)) ∧ (¬ ((m 116 l1) < (1 + (if l3 ≠ (m 62 75) then (m 116 l3) else 0 : Int))) → ((((1 + (if l3 ≠ (m 62 75) then (m 116 l3) else 0 : Int)) ≠ (m 116 l1)) → (S_X8_startsFrom sc d 28 [aR 62, aI l1, aI l2, aI (l3 + (-1)), aU, aU] [] (wr (wr (wr m 116 l1 (1 + (if l3 ≠ (m 62 75) then (m 116 l3) else 0 : Int))) 117 l1 (if l3 ≠ (m 62 75) then ((m 117 l3) + (m 115 l3)) else 0 : Int)) 118 l1 l3) Q)) ∧ (¬ ((1 + (if l3 ≠ (m 62 75) then (m 116 l3) else 0 : Int)) ≠ (m 116 l1)) → ((-2147483648 ≤ (if l3 ≠ (m 62 75) then ((m 117 l3) + (m 115 l3)) else 0 : Int) ∧ (if l3 ≠ (m 62 75) then ((m 117 l3) + (m 115 l3)) else 0 : Int) < 2147483648) ∧ (-2147483648 ≤ (m 117 l1) ∧ (m 117 l1) < 2147483648) ∧ (((if l3 ≠ (m 62 75) then ((m 117 l3) + (m 115 l3)) else 0 : Int) < (m 117 l1)) → (S_X8_startsFrom sc d 28 [aR 62, aI l1, aI l2, aI (l3 + (-1)), aU, aU] [] (wr (wr (wr m 116 l1 (1 + (if l3 ≠ (m 62 75) then (m 116 l3) else 0 : Int))) 117 l1 (if l3 ≠ (m 62 75) then ((m 117 l3) + (m 115 l3)) else 0 : Int)) 118 l1 l3) Q)) ∧ (¬ ((if l3 ≠ (m 62 75) then ((m 117 l3) + (m 115 l3)) else 0 : Int) < (m 117 l1)) → (S_X8_startsFrom sc d 28 [aR 62, aI l1, aI l2, aI (l3 + (-1)), aU, aU] [] m Q)))))))) ∧ (¬ (((m 113 l3) - (m 113 l1)) ≤ l2) → (S_X8_startsFrom sc d 28 [aR 62, aI l1, aI l2, aI (l3 + (-1)), aU, aU] [] m Q))))) : S_X8_startsFrom sc d 28 [aR 62, aI l1, aI l2, aI l3, aU, aU] [] m Q := by
  refine x_iload_n (pc2 := 29) dX8_startsFrom_28 rfl rfl ?_
  refine x_iload_n (pc2 := 30) dX8_startsFrom_29 rfl rfl ?_
  obtain ⟨h1, k⟩ := k
  obtain ⟨h2, k⟩ := k
  obtain ⟨k1, k2⟩ := k
  refine x_icmp_le (tgt := 167) (pc2 := 33) dX8_startsFrom_30 (by decide) rfl h1 h2 (fun c3 => ?_) (fun c3 => ?_)
  · replace k := k1 c3
    exact x_return dX8_startsFrom_167 rfl k
  · replace k := k2 c3
    refine x_aload_n (pc2 := 34) dX8_startsFrom_33 rfl rfl ?_
    refine x_getf (pc2 := 37) (v := aR 113) fl_X8_166 ic_62 (vr_62_69 _) dX8_startsFrom_34 rfl ?_
    refine x_iload_n (pc2 := 38) dX8_startsFrom_37 rfl rfl ?_
    obtain ⟨h4, k⟩ := k
    obtain ⟨h5, k⟩ := k
    refine x_iald (pc2 := 39) ic_113 h4 (by rw [al_113]; exact h5) dX8_startsFrom_38 rfl ?_
    refine x_aload_n (pc2 := 40) dX8_startsFrom_39 rfl rfl ?_
    refine x_getf (pc2 := 43) (v := aR 113) fl_X8_166 ic_62 (vr_62_69 _) dX8_startsFrom_40 rfl ?_
    refine x_iload_n (pc2 := 44) dX8_startsFrom_43 rfl rfl ?_
    obtain ⟨h6, k⟩ := k
    obtain ⟨h7, k⟩ := k
    refine x_iald (pc2 := 45) ic_113 h6 (by rw [al_113]; exact h7) dX8_startsFrom_44 rfl ?_
    refine x_isub (pc2 := 46) dX8_startsFrom_45 rfl ?_
    refine x_iload_n (pc2 := 47) dX8_startsFrom_46 rfl rfl ?_
    obtain ⟨h8, k⟩ := k
    obtain ⟨h9, k⟩ := k
    obtain ⟨k1, k2⟩ := k
    refine x_icmp_le (tgt := 53) (pc2 := 50) dX8_startsFrom_47 (by decide) rfl h8 h9 (fun c10 => ?_) (fun c10 => ?_)
    · replace k := k1 c10
      refine x_iconst (pc2 := 54) dX8_startsFrom_53 rfl ?_
      refine x_iload_n (pc2 := 55) dX8_startsFrom_54 rfl rfl ?_
      refine x_aload_n (pc2 := 56) dX8_startsFrom_55 rfl rfl ?_
      refine x_getf (pc2 := 59) (v := aI (m 62 75)) fl_X8_566 ic_62 (fv_i _ ic_62 rfl) dX8_startsFrom_56 rfl ?_
      obtain ⟨g12, k⟩ := k
      have kj : S_X8_startsFrom sc d 72 [aR 62, aI l1, aI l2, aI l3, aU, aU] [aI (if l3 ≠ (m 62 75) then (m 116 l3) else 0 : Int), aI 1] m Q := by
        refine x_iadd (pc2 := 73) dX8_startsFrom_72 rfl ?_
        refine x_istore (pc2 := 75) (ls2 := [aR 62, aI l1, aI l2, aI l3, aI (1 + (if l3 ≠ (m 62 75) then (m 116 l3) else 0 : Int)), aU]) dX8_startsFrom_73 rfl (by decide) rfl ?_
        refine x_iload_n (pc2 := 76) dX8_startsFrom_75 rfl rfl ?_
        refine x_aload_n (pc2 := 77) dX8_startsFrom_76 rfl rfl ?_
        refine x_getf (pc2 := 80) (v := aI (m 62 75)) fl_X8_566 ic_62 (fv_i _ ic_62 rfl) dX8_startsFrom_77 rfl ?_
        obtain ⟨g14, k⟩ := k
        have kj : S_X8_startsFrom sc d 100 [aR 62, aI l1, aI l2, aI l3, aI (1 + (if l3 ≠ (m 62 75) then (m 116 l3) else 0 : Int)), aU] [aI (if l3 ≠ (m 62 75) then ((m 117 l3) + (m 115 l3)) else 0 : Int)] m Q := by
          refine x_istore (pc2 := 102) (ls2 := [aR 62, aI l1, aI l2, aI l3, aI (1 + (if l3 ≠ (m 62 75) then (m 116 l3) else 0 : Int)), aI (if l3 ≠ (m 62 75) then ((m 117 l3) + (m 115 l3)) else 0 : Int)]) dX8_startsFrom_100 rfl (by decide) rfl ?_
          refine x_iload (pc2 := 104) dX8_startsFrom_102 rfl rfl ?_
          refine x_aload_n (pc2 := 105) dX8_startsFrom_104 rfl rfl ?_
          refine x_getf (pc2 := 108) (v := aR 116) fl_X8_175 ic_62 (vr_62_72 _) dX8_startsFrom_105 rfl ?_
          refine x_iload_n (pc2 := 109) dX8_startsFrom_108 rfl rfl ?_
          refine x_iald (pc2 := 110) ic_116 h6 (by rw [al_116]; exact h7) dX8_startsFrom_109 rfl ?_
          obtain ⟨h15, k⟩ := k
          obtain ⟨h16, k⟩ := k
          obtain ⟨k1, k2⟩ := k
          refine x_icmp_gt (tgt := 161) (pc2 := 113) dX8_startsFrom_110 (by decide) rfl h15 h16 (fun c17 => ?_) (fun c17 => ?_)
          · replace k := k1 c17
            refine x_iinc (pc2 := 164) (ls2 := [aR 62, aI l1, aI l2, aI (l3 + (-1)), aI (1 + (if l3 ≠ (m 62 75) then (m 116 l3) else 0 : Int)), aI (if l3 ≠ (m 62 75) then ((m 117 l3) + (m 115 l3)) else 0 : Int)]) dX8_startsFrom_161 rfl rfl (by decide) rfl ?_
            refine x_goto (tgt := 28) dX8_startsFrom_164 (by decide) ?_
            exact x_drop (drp_k (drp_k (drp_k (drp_k (drp_u (drp_u drp_n)))))) k
          · replace k := k2 c17
            refine x_iload (pc2 := 115) dX8_startsFrom_113 rfl rfl ?_
            refine x_aload_n (pc2 := 116) dX8_startsFrom_115 rfl rfl ?_
            refine x_getf (pc2 := 119) (v := aR 116) fl_X8_175 ic_62 (vr_62_72 _) dX8_startsFrom_116 rfl ?_
            refine x_iload_n (pc2 := 120) dX8_startsFrom_119 rfl rfl ?_
            refine x_iald (pc2 := 121) ic_116 h6 (by rw [al_116]; exact h7) dX8_startsFrom_120 rfl ?_
            obtain ⟨k1, k2⟩ := k
            refine x_icmp_ne (tgt := 138) (pc2 := 124) dX8_startsFrom_121 (by decide) rfl h15 h16 (fun c18 => ?_) (fun c18 => ?_)
            · replace k := k1 c18
              refine x_aload_n (pc2 := 139) dX8_startsFrom_138 rfl rfl ?_
              refine x_getf (pc2 := 142) (v := aR 116) fl_X8_175 ic_62 (vr_62_72 _) dX8_startsFrom_139 rfl ?_
              refine x_iload_n (pc2 := 143) dX8_startsFrom_142 rfl rfl ?_
              refine x_iload (pc2 := 145) dX8_startsFrom_143 rfl rfl ?_
              refine x_iast (pc2 := 146) ic_116 h6 (by rw [al_116]; exact h7) dX8_startsFrom_145 rfl ?_
              refine x_aload_n (pc2 := 147) dX8_startsFrom_146 rfl rfl ?_
              refine x_getf (pc2 := 150) (v := aR 117) fl_X8_178 ic_62 (vr_62_73 _) dX8_startsFrom_147 rfl ?_
              refine x_iload_n (pc2 := 151) dX8_startsFrom_150 rfl rfl ?_
              refine x_iload (pc2 := 153) dX8_startsFrom_151 rfl rfl ?_
              refine x_iast (pc2 := 154) ic_117 h6 (by rw [al_117]; exact h7) dX8_startsFrom_153 rfl ?_
              refine x_aload_n (pc2 := 155) dX8_startsFrom_154 rfl rfl ?_
              refine x_getf (pc2 := 158) (v := aR 118) fl_X8_181 ic_62 (vr_62_74 _) dX8_startsFrom_155 rfl ?_
              refine x_iload_n (pc2 := 159) dX8_startsFrom_158 rfl rfl ?_
              refine x_iload_n (pc2 := 160) dX8_startsFrom_159 rfl rfl ?_
              refine x_iast (pc2 := 161) ic_118 h6 (by rw [al_118]; exact h7) dX8_startsFrom_160 rfl ?_
              refine x_iinc (pc2 := 164) (ls2 := [aR 62, aI l1, aI l2, aI (l3 + (-1)), aI (1 + (if l3 ≠ (m 62 75) then (m 116 l3) else 0 : Int)), aI (if l3 ≠ (m 62 75) then ((m 117 l3) + (m 115 l3)) else 0 : Int)]) dX8_startsFrom_161 rfl rfl (by decide) rfl ?_
              refine x_goto (tgt := 28) dX8_startsFrom_164 (by decide) ?_
              exact x_drop (drp_k (drp_k (drp_k (drp_k (drp_u (drp_u drp_n)))))) k
            · replace k := k2 c18
              refine x_iload (pc2 := 126) dX8_startsFrom_124 rfl rfl ?_
              refine x_aload_n (pc2 := 127) dX8_startsFrom_126 rfl rfl ?_
              refine x_getf (pc2 := 130) (v := aR 117) fl_X8_178 ic_62 (vr_62_73 _) dX8_startsFrom_127 rfl ?_
              refine x_iload_n (pc2 := 131) dX8_startsFrom_130 rfl rfl ?_
              refine x_iald (pc2 := 132) ic_117 h6 (by rw [al_117]; exact h7) dX8_startsFrom_131 rfl ?_
              obtain ⟨h19, k⟩ := k
              obtain ⟨h20, k⟩ := k
              obtain ⟨k1, k2⟩ := k
              refine x_icmp_lt (tgt := 138) (pc2 := 135) dX8_startsFrom_132 (by decide) rfl h19 h20 (fun c21 => ?_) (fun c21 => ?_)
              · replace k := k1 c21
                refine x_aload_n (pc2 := 139) dX8_startsFrom_138 rfl rfl ?_
                refine x_getf (pc2 := 142) (v := aR 116) fl_X8_175 ic_62 (vr_62_72 _) dX8_startsFrom_139 rfl ?_
                refine x_iload_n (pc2 := 143) dX8_startsFrom_142 rfl rfl ?_
                refine x_iload (pc2 := 145) dX8_startsFrom_143 rfl rfl ?_
                refine x_iast (pc2 := 146) ic_116 h6 (by rw [al_116]; exact h7) dX8_startsFrom_145 rfl ?_
                refine x_aload_n (pc2 := 147) dX8_startsFrom_146 rfl rfl ?_
                refine x_getf (pc2 := 150) (v := aR 117) fl_X8_178 ic_62 (vr_62_73 _) dX8_startsFrom_147 rfl ?_
                refine x_iload_n (pc2 := 151) dX8_startsFrom_150 rfl rfl ?_
                refine x_iload (pc2 := 153) dX8_startsFrom_151 rfl rfl ?_
                refine x_iast (pc2 := 154) ic_117 h6 (by rw [al_117]; exact h7) dX8_startsFrom_153 rfl ?_
                refine x_aload_n (pc2 := 155) dX8_startsFrom_154 rfl rfl ?_
                refine x_getf (pc2 := 158) (v := aR 118) fl_X8_181 ic_62 (vr_62_74 _) dX8_startsFrom_155 rfl ?_
                refine x_iload_n (pc2 := 159) dX8_startsFrom_158 rfl rfl ?_
                refine x_iload_n (pc2 := 160) dX8_startsFrom_159 rfl rfl ?_
                refine x_iast (pc2 := 161) ic_118 h6 (by rw [al_118]; exact h7) dX8_startsFrom_160 rfl ?_
                refine x_iinc (pc2 := 164) (ls2 := [aR 62, aI l1, aI l2, aI (l3 + (-1)), aI (1 + (if l3 ≠ (m 62 75) then (m 116 l3) else 0 : Int)), aI (if l3 ≠ (m 62 75) then ((m 117 l3) + (m 115 l3)) else 0 : Int)]) dX8_startsFrom_161 rfl rfl (by decide) rfl ?_
                refine x_goto (tgt := 28) dX8_startsFrom_164 (by decide) ?_
                exact x_drop (drp_k (drp_k (drp_k (drp_k (drp_u (drp_u drp_n)))))) k
              · replace k := k2 c21
                refine x_goto (tgt := 161) dX8_startsFrom_135 (by decide) ?_
                refine x_iinc (pc2 := 164) (ls2 := [aR 62, aI l1, aI l2, aI (l3 + (-1)), aI (1 + (if l3 ≠ (m 62 75) then (m 116 l3) else 0 : Int)), aI (if l3 ≠ (m 62 75) then ((m 117 l3) + (m 115 l3)) else 0 : Int)]) dX8_startsFrom_161 rfl rfl (by decide) rfl ?_
                refine x_goto (tgt := 28) dX8_startsFrom_164 (by decide) ?_
                exact x_drop (drp_k (drp_k (drp_k (drp_k (drp_u (drp_u drp_n)))))) k
        have h22 := g14 
        refine x_icmp_ne (tgt := 87) (pc2 := 83) dX8_startsFrom_80 (by decide) rfl h1 h22 (fun c23 => ?_) (fun c23 => ?_)
        · skip
          refine x_aload_n (pc2 := 88) dX8_startsFrom_87 rfl rfl ?_
          refine x_getf (pc2 := 91) (v := aR 117) fl_X8_178 ic_62 (vr_62_73 _) dX8_startsFrom_88 rfl ?_
          refine x_iload_n (pc2 := 92) dX8_startsFrom_91 rfl rfl ?_
          refine x_iald (pc2 := 93) ic_117 h4 (by rw [al_117]; exact h5) dX8_startsFrom_92 rfl ?_
          refine x_aload_n (pc2 := 94) dX8_startsFrom_93 rfl rfl ?_
          refine x_getf (pc2 := 97) (v := aR 115) fl_X8_172 ic_62 (vr_62_71 _) dX8_startsFrom_94 rfl ?_
          refine x_iload_n (pc2 := 98) dX8_startsFrom_97 rfl rfl ?_
          refine x_iald (pc2 := 99) ic_115 h4 (by rw [al_115]; exact h5) dX8_startsFrom_98 rfl ?_
          refine x_iadd (pc2 := 100) dX8_startsFrom_99 rfl ?_
          exact x_topI (v := (if l3 ≠ (m 62 75) then ((m 117 l3) + (m 115 l3)) else 0 : Int)) (if_pos c23) kj
        · skip
          refine x_iconst (pc2 := 84) dX8_startsFrom_83 rfl ?_
          refine x_goto (tgt := 100) dX8_startsFrom_84 (by decide) ?_
          exact x_topI (v := (if l3 ≠ (m 62 75) then ((m 117 l3) + (m 115 l3)) else 0 : Int)) (if_neg c23) kj
      have h24 := g12 
      refine x_icmp_ne (tgt := 66) (pc2 := 62) dX8_startsFrom_59 (by decide) rfl h1 h24 (fun c25 => ?_) (fun c25 => ?_)
      · skip
        refine x_aload_n (pc2 := 67) dX8_startsFrom_66 rfl rfl ?_
        refine x_getf (pc2 := 70) (v := aR 116) fl_X8_175 ic_62 (vr_62_72 _) dX8_startsFrom_67 rfl ?_
        refine x_iload_n (pc2 := 71) dX8_startsFrom_70 rfl rfl ?_
        refine x_iald (pc2 := 72) ic_116 h4 (by rw [al_116]; exact h5) dX8_startsFrom_71 rfl ?_
        exact x_topI (v := (if l3 ≠ (m 62 75) then (m 116 l3) else 0 : Int)) (if_pos c25) kj
      · skip
        refine x_iconst (pc2 := 63) dX8_startsFrom_62 rfl ?_
        refine x_goto (tgt := 72) dX8_startsFrom_63 (by decide) ?_
        exact x_topI (v := (if l3 ≠ (m 62 75) then (m 116 l3) else 0 : Int)) (if_neg c25) kj
    · replace k := k2 c10
      refine x_goto (tgt := 161) dX8_startsFrom_50 (by decide) ?_
      refine x_iinc (pc2 := 164) (ls2 := [aR 62, aI l1, aI l2, aI (l3 + (-1)), aU, aU]) dX8_startsFrom_161 rfl rfl (by decide) rfl ?_
      refine x_goto (tgt := 28) dX8_startsFrom_164 (by decide) ?_
      exact k
set_option maxRecDepth 4000 in
theorem g_X8_hidden_0 {sc : List Int} {d : Nat} {m : Mem} {Q : Option AV → Mem → Prop} {l1 l2 : Int} (k : (-2147483648 ≤ (m 62 53) ∧ (m 62 53) < 2147483648) ∧ (((m 62 53) = 0) → (Q (some (aI (-1))) m)) ∧ (¬ ((m 62 53) = 0) → ((-2147483648 ≤ l1 ∧ l1 < 2147483648) ∧ S_X8_hidden sc d 13 [aR 62, aI l1, aI l2, aU, aU] [aJ 99, aJ 1, aJ l1] m Q))) : S_X8_hidden sc d 0 [aR 62, aI l1, aI l2, aU, aU] [] m Q := by
  refine x_aload_n (pc2 := 1) dX8_hidden_0 rfl rfl ?_
  refine x_getf (pc2 := 4) (v := aI (m 62 53)) fl_X8_422 ic_62 (fv_i _ ic_62 rfl) dX8_hidden_1 rfl ?_
  obtain ⟨h1, k⟩ := k
  obtain ⟨k1, k2⟩ := k
  refine x_if_eq (tgt := 19) (pc2 := 7) dX8_hidden_4 (by decide) rfl h1 (fun c2 => ?_) (fun c2 => ?_)
  · replace k := k1 c2
    refine x_iconst (pc2 := 20) dX8_hidden_19 rfl ?_
    exact x_ireturn dX8_hidden_20 ⟨.int, rfl, rfl⟩ k
  · replace k := k2 c2
    refine x_iload_n (pc2 := 8) dX8_hidden_7 rfl rfl ?_
    obtain ⟨h3, k⟩ := k
    refine x_i2l (pc2 := 9) dX8_hidden_8 rfl h3 ?_
    refine x_lconst (pc2 := 10) (v := 1) dX8_hidden_9 rfl rfl ?_
    refine x_ldc2 (pc2 := 13) (x := 99) kc_X8_513 rfl dX8_hidden_10 rfl ?_
    exact k
set_option maxRecDepth 4000 in
theorem g_X8_hidden_16 {sc : List Int} {d : Nat} {m : Mem} {Q : Option AV → Mem → Prop} {l1 l2 s0 : Int} (k : (-2147483648 ≤ s0 ∧ s0 < 2147483648) ∧ ((s0 ≠ 0) → (S_X8_hidden sc d 22 [aR 62, aI l1, aI l2, aU, aU] [aR 62] m Q)) ∧ (¬ (s0 ≠ 0) → (Q (some (aI (-1))) m))) : S_X8_hidden sc d 16 [aR 62, aI l1, aI l2, aU, aU] [aI s0] m Q := by
  obtain ⟨h1, k⟩ := k
  obtain ⟨k1, k2⟩ := k
  refine x_if_ne (tgt := 21) (pc2 := 19) dX8_hidden_16 (by decide) rfl h1 (fun c2 => ?_) (fun c2 => ?_)
  · replace k := k1 c2
    refine x_aload_n (pc2 := 22) dX8_hidden_21 rfl rfl ?_
    exact k
  · replace k := k2 c2
    refine x_iconst (pc2 := 20) dX8_hidden_19 rfl ?_
    exact x_ireturn dX8_hidden_20 ⟨.int, rfl, rfl⟩ k
set_option maxRecDepth 4000 in
theorem g_X8_hidden_25 {sc : List Int} {d : Nat} {m : Mem} {Q : Option AV → Mem → Prop} {l1 l2 : Int} (k : (-2147483648 ≤ (m 62 75) ∧ (m 62 75) < 2147483648) ∧ (((m 62 75) ≠ 0) → (S_X8_hidden sc d 54 [aR 62, aI l1, aI l2, aI ((m 62 75) - 1), aU] [] m Q)) ∧ (¬ ((m 62 75) ≠ 0) → (((-2147483648 ≤ l2 ∧ l2 < 2147483648)) ∧ Q (some (aI (if l2 = 0 then 0 else (if l2 ≠ 1 then (-1) else 0 : Int) : Int))) m))) : S_X8_hidden sc d 25 [aR 62, aI l1, aI l2, aU, aU] [] m Q := by
  refine x_aload_n (pc2 := 26) dX8_hidden_25 rfl rfl ?_
  refine x_getf (pc2 := 29) (v := aI (m 62 75)) fl_X8_566 ic_62 (fv_i _ ic_62 rfl) dX8_hidden_26 rfl ?_
  obtain ⟨h1, k⟩ := k
  obtain ⟨k1, k2⟩ := k
  refine x_if_ne (tgt := 47) (pc2 := 32) dX8_hidden_29 (by decide) rfl h1 (fun c2 => ?_) (fun c2 => ?_)
  · replace k := k1 c2
    refine x_aload_n (pc2 := 48) dX8_hidden_47 rfl rfl ?_
    refine x_getf (pc2 := 51) (v := aI (m 62 75)) fl_X8_566 ic_62 (fv_i _ ic_62 rfl) dX8_hidden_48 rfl ?_
    refine x_iconst (pc2 := 52) dX8_hidden_51 rfl ?_
    refine x_isub (pc2 := 53) dX8_hidden_52 rfl ?_
    refine x_istore_n (pc2 := 54) (ls2 := [aR 62, aI l1, aI l2, aI ((m 62 75) - 1), aU]) dX8_hidden_53 rfl (by decide) rfl ?_
    exact k
  · replace k := k2 c2
    refine x_iload_n (pc2 := 33) dX8_hidden_32 rfl rfl ?_
    obtain ⟨g4, k⟩ := k
    have kj : S_X8_hidden sc d 46 [aR 62, aI l1, aI l2, aU, aU] [aI (if l2 = 0 then 0 else (if l2 ≠ 1 then (-1) else 0 : Int) : Int)] m Q := by
      exact x_ireturn dX8_hidden_46 ⟨.int, rfl, rfl⟩ k
    have h5 := g4 
    refine x_if_eq (tgt := 41) (pc2 := 36) dX8_hidden_33 (by decide) rfl h5 (fun c6 => ?_) (fun c6 => ?_)
    · skip
      refine x_iconst (pc2 := 42) dX8_hidden_41 rfl ?_
      refine x_goto (tgt := 46) dX8_hidden_42 (by decide) ?_
      exact x_topI (v := (if l2 = 0 then 0 else (if l2 ≠ 1 then (-1) else 0 : Int) : Int)) (if_pos c6) kj
    · skip
      refine x_iload_n (pc2 := 37) dX8_hidden_36 rfl rfl ?_
      refine x_iconst (pc2 := 38) dX8_hidden_37 rfl ?_
      refine x_icmp_ne (tgt := 45) (pc2 := 41) dX8_hidden_38 (by decide) rfl h5 (by decide) (fun c7 => ?_) (fun c7 => ?_)
      · skip
        refine x_iconst (pc2 := 46) dX8_hidden_45 rfl ?_
        exact x_topI (v := (if l2 = 0 then 0 else (if l2 ≠ 1 then (-1) else 0 : Int) : Int)) ((if_neg c6).trans (if_pos c7)) kj
      · skip
        refine x_iconst (pc2 := 42) dX8_hidden_41 rfl ?_
        refine x_goto (tgt := 46) dX8_hidden_42 (by decide) ?_
        exact x_topI (v := (if l2 = 0 then 0 else (if l2 ≠ 1 then (-1) else 0 : Int) : Int)) ((if_neg c6).trans (if_neg c7)) kj
set_option maxRecDepth 4000 in
theorem g_X8_hidden_54 {sc : List Int} {d : Nat} {m : Mem} {Q : Option AV → Mem → Prop} {l1 l2 l3 : Int} (k : (-2147483648 ≤ l3 ∧ l3 < 2147483648) ∧ ((l3 < 0) → ((-2147483648 ≤ (m 116 0) ∧ (m 116 0) < 2147483648) ∧ (((m 116 0) < 1000) → ((-2147483648 ≤ l2 ∧ l2 < 2147483648) ∧ ((10 ≤ l2) → (S_X8_hidden sc d 125 [aR 62, aU, aI l2, aI 0, aI 10] [] m Q)) ∧ (¬ (10 ≤ l2) → (Q (some (aI (if l2 ≠ 0 then (if l2 ≠ 1 then (-1) else (m 117 0) : Int) else (m 116 0) : Int))) m)))) ∧ (¬ ((m 116 0) < 1000) → (Q (some (aI (-1))) m)))) ∧ (¬ (l3 < 0) → (S_X8_hidden sc d 61 [aR 62, aI l1, aI l2, aI l3, aU] [aI l1, aI l3, aR 62] m Q))) : S_X8_hidden sc d 54 [aR 62, aI l1, aI l2, aI l3, aU] [] m Q := by
  refine x_iload_n (pc2 := 55) dX8_hidden_54 rfl rfl ?_
  obtain ⟨h1, k⟩ := k
  obtain ⟨k1, k2⟩ := k
  refine x_if_lt (tgt := 70) (pc2 := 58) dX8_hidden_55 (by decide) rfl h1 (fun c2 => ?_) (fun c2 => ?_)
  · replace k := k1 c2
    refine x_aload_n (pc2 := 71) dX8_hidden_70 rfl rfl ?_
    refine x_getf (pc2 := 74) (v := aR 116) fl_X8_175 ic_62 (vr_62_72 _) dX8_hidden_71 rfl ?_
    refine x_iconst (pc2 := 75) dX8_hidden_74 rfl ?_
    refine x_iald (pc2 := 76) ic_116 (by decide) (by rw [al_116]; decide) dX8_hidden_75 rfl ?_
    refine x_sipush (pc2 := 79) dX8_hidden_76 rfl rfl ?_
    obtain ⟨h3, k⟩ := k
    obtain ⟨k1, k2⟩ := k
    refine x_icmp_lt (tgt := 84) (pc2 := 82) dX8_hidden_79 (by decide) rfl h3 (by decide) (fun c4 => ?_) (fun c4 => ?_)
    · replace k := k1 c4
      refine x_iload_n (pc2 := 85) dX8_hidden_84 rfl rfl ?_
      refine x_bipush (pc2 := 87) dX8_hidden_85 rfl rfl ?_
      obtain ⟨h5, k⟩ := k
      obtain ⟨k1, k2⟩ := k
      refine x_icmp_ge (tgt := 119) (pc2 := 90) dX8_hidden_87 (by decide) rfl h5 (by decide) (fun c6 => ?_) (fun c6 => ?_)
      · replace k := k1 c6
        refine x_iconst (pc2 := 120) dX8_hidden_119 rfl ?_
        refine x_istore_n (pc2 := 121) (ls2 := [aR 62, aI l1, aI l2, aI 0, aU]) dX8_hidden_120 rfl (by decide) rfl ?_
        refine x_bipush (pc2 := 123) dX8_hidden_121 rfl rfl ?_
        refine x_istore (pc2 := 125) (ls2 := [aR 62, aI l1, aI l2, aI 0, aI 10]) dX8_hidden_123 rfl (by decide) rfl ?_
        exact x_drop (drp_k (drp_u (drp_k (drp_k (drp_k drp_n))))) k
      · replace k := k2 c6
        refine x_iload_n (pc2 := 91) dX8_hidden_90 rfl rfl ?_
        have kj : S_X8_hidden sc d 118 [aR 62, aI l1, aI l2, aI l3, aU] [aI (if l2 ≠ 0 then (if l2 ≠ 1 then (-1) else (m 117 0) : Int) else (m 116 0) : Int)] m Q := by
          exact x_ireturn dX8_hidden_118 ⟨.int, rfl, rfl⟩ k
        refine x_if_ne (tgt := 103) (pc2 := 94) dX8_hidden_91 (by decide) rfl h5 (fun c7 => ?_) (fun c7 => ?_)
        · skip
          refine x_iload_n (pc2 := 104) dX8_hidden_103 rfl rfl ?_
          refine x_iconst (pc2 := 105) dX8_hidden_104 rfl ?_
          refine x_icmp_ne (tgt := 117) (pc2 := 108) dX8_hidden_105 (by decide) rfl h5 (by decide) (fun c8 => ?_) (fun c8 => ?_)
          · skip
            refine x_iconst (pc2 := 118) dX8_hidden_117 rfl ?_
            exact x_topI (v := (if l2 ≠ 0 then (if l2 ≠ 1 then (-1) else (m 117 0) : Int) else (m 116 0) : Int)) ((if_pos c7).trans (if_pos c8)) kj
          · skip
            refine x_aload_n (pc2 := 109) dX8_hidden_108 rfl rfl ?_
            refine x_getf (pc2 := 112) (v := aR 117) fl_X8_178 ic_62 (vr_62_73 _) dX8_hidden_109 rfl ?_
            refine x_iconst (pc2 := 113) dX8_hidden_112 rfl ?_
            refine x_iald (pc2 := 114) ic_117 (by decide) (by rw [al_117]; decide) dX8_hidden_113 rfl ?_
            refine x_goto (tgt := 118) dX8_hidden_114 (by decide) ?_
            exact x_topI (v := (if l2 ≠ 0 then (if l2 ≠ 1 then (-1) else (m 117 0) : Int) else (m 116 0) : Int)) ((if_pos c7).trans (if_neg c8)) kj
        · skip
          refine x_aload_n (pc2 := 95) dX8_hidden_94 rfl rfl ?_
          refine x_getf (pc2 := 98) (v := aR 116) fl_X8_175 ic_62 (vr_62_72 _) dX8_hidden_95 rfl ?_
          refine x_iconst (pc2 := 99) dX8_hidden_98 rfl ?_
          refine x_iald (pc2 := 100) ic_116 (by decide) (by rw [al_116]; decide) dX8_hidden_99 rfl ?_
          refine x_goto (tgt := 118) dX8_hidden_100 (by decide) ?_
          exact x_topI (v := (if l2 ≠ 0 then (if l2 ≠ 1 then (-1) else (m 117 0) : Int) else (m 116 0) : Int)) (if_neg c7) kj
    · replace k := k2 c4
      refine x_iconst (pc2 := 83) dX8_hidden_82 rfl ?_
      exact x_ireturn dX8_hidden_83 ⟨.int, rfl, rfl⟩ k
  · replace k := k2 c2
    refine x_aload_n (pc2 := 59) dX8_hidden_58 rfl rfl ?_
    refine x_iload_n (pc2 := 60) dX8_hidden_59 rfl rfl ?_
    refine x_iload_n (pc2 := 61) dX8_hidden_60 rfl rfl ?_
    exact k
set_option maxRecDepth 4000 in
theorem g_X8_hidden_64 {sc : List Int} {d : Nat} {m : Mem} {Q : Option AV → Mem → Prop} {l1 l2 l3 : Int} (k : S_X8_hidden sc d 54 [aR 62, aI l1, aI l2, aI (l3 + (-1)), aU] [] m Q) : S_X8_hidden sc d 64 [aR 62, aI l1, aI l2, aI l3, aU] [] m Q := by
  refine x_iinc (pc2 := 67) (ls2 := [aR 62, aI l1, aI l2, aI (l3 + (-1)), aU]) dX8_hidden_64 rfl rfl (by decide) rfl ?_
  refine x_goto (tgt := 54) dX8_hidden_67 (by decide) ?_
  exact k
set_option maxRecDepth 4000 in
theorem g_X8_hidden_125 {sc : List Int} {d : Nat} {m : Mem} {Q : Option AV → Mem → Prop} {l2 l3 l4 : Int} (k : (-2147483648 ≤ l4 ∧ l4 < 2147483648) ∧ (-2147483648 ≤ l2 ∧ l2 < 2147483648) ∧ ((l2 < l4) → (((-2147483648 ≤ l3 ∧ l3 < 2147483648)) ∧ ((-2147483648 ≤ (m 62 75) ∧ (m 62 75) < 2147483648)) ∧ ((l3 ≠ (m 62 75)) → (0 ≤ l3)) ∧ ((l3 ≠ (m 62 75)) → (l3 < 51)) ∧ Q (some (aI (if l3 ≠ (m 62 75) then (m 114 l3) else (-1) : Int))) m)) ∧ (¬ (l2 < l4) → ((-2147483648 ≤ l3 ∧ l3 < 2147483648) ∧ (-2147483648 ≤ (m 62 75) ∧ (m 62 75) < 2147483648) ∧ ((l3 = (m 62 75)) → (((l3 ≠ (m 62 75)) → (0 ≤ l3)) ∧ ((l3 ≠ (m 62 75)) → (l3 < 51)) ∧ Q (some (aI (if l3 ≠ (m 62 75) then (m 114 l3) else (-1) : Int))) m)) ∧ (¬ (l3 = (m 62 75)) → ((0 ≤ l3) ∧ (l3 < 51) ∧ S_X8_hidden sc d 125 [aR 62, aU, aI l2, aI (m 118 l3), aI (l4 + 1)] [] m Q))))) : S_X8_hidden sc d 125 [aR 62, aU, aI l2, aI l3, aI l4] [] m Q := by
  refine x_iload (pc2 := 127) dX8_hidden_125 rfl rfl ?_
  refine x_iload_n (pc2 := 128) dX8_hidden_127 rfl rfl ?_
  obtain ⟨h1, k⟩ := k
  obtain ⟨h2, k⟩ := k
  obtain ⟨k1, k2⟩ := k
  refine x_icmp_gt (tgt := 152) (pc2 := 131) dX8_hidden_128 (by decide) rfl h1 h2 (fun c3 => ?_) (fun c3 => ?_)
  · replace k := k1 c3
    refine x_iload_n (pc2 := 153) dX8_hidden_152 rfl rfl ?_
    refine x_aload_n (pc2 := 154) dX8_hidden_153 rfl rfl ?_
    refine x_getf (pc2 := 157) (v := aI (m 62 75)) fl_X8_566 ic_62 (fv_i _ ic_62 rfl) dX8_hidden_154 rfl ?_
    obtain ⟨g6, k⟩ := k
    obtain ⟨g7, k⟩ := k
    obtain ⟨g10, k⟩ := k
    obtain ⟨g11, k⟩ := k
    have kj : S_X8_hidden sc d 170 [aR 62, aU, aI l2, aI l3, aI l4] [aI (if l3 ≠ (m 62 75) then (m 114 l3) else (-1) : Int)] m Q := by
      exact x_ireturn dX8_hidden_170 ⟨.int, rfl, rfl⟩ k
    have h12 := g6 
    have h13 := g7 
    refine x_icmp_ne (tgt := 164) (pc2 := 160) dX8_hidden_157 (by decide) rfl h12 h13 (fun c14 => ?_) (fun c14 => ?_)
    · skip
      refine x_aload_n (pc2 := 165) dX8_hidden_164 rfl rfl ?_
      refine x_getf (pc2 := 168) (v := aR 114) fl_X8_169 ic_62 (vr_62_70 _) dX8_hidden_165 rfl ?_
      refine x_iload_n (pc2 := 169) dX8_hidden_168 rfl rfl ?_
      have h15 := g10 c14
      have h16 := g11 c14
      refine x_iald (pc2 := 170) ic_114 h15 (by rw [al_114]; exact h16) dX8_hidden_169 rfl ?_
      exact x_topI (v := (if l3 ≠ (m 62 75) then (m 114 l3) else (-1) : Int)) (if_pos c14) kj
    · skip
      refine x_iconst (pc2 := 161) dX8_hidden_160 rfl ?_
      refine x_goto (tgt := 170) dX8_hidden_161 (by decide) ?_
      exact x_topI (v := (if l3 ≠ (m 62 75) then (m 114 l3) else (-1) : Int)) (if_neg c14) kj
  · replace k := k2 c3
    refine x_iload_n (pc2 := 132) dX8_hidden_131 rfl rfl ?_
    refine x_aload_n (pc2 := 133) dX8_hidden_132 rfl rfl ?_
    refine x_getf (pc2 := 136) (v := aI (m 62 75)) fl_X8_566 ic_62 (fv_i _ ic_62 rfl) dX8_hidden_133 rfl ?_
    obtain ⟨h17, k⟩ := k
    obtain ⟨h18, k⟩ := k
    obtain ⟨k1, k2⟩ := k
    refine x_icmp_eq (tgt := 152) (pc2 := 139) dX8_hidden_136 (by decide) rfl h17 h18 (fun c19 => ?_) (fun c19 => ?_)
    · replace k := k1 c19
      refine x_iload_n (pc2 := 153) dX8_hidden_152 rfl rfl ?_
      refine x_aload_n (pc2 := 154) dX8_hidden_153 rfl rfl ?_
      refine x_getf (pc2 := 157) (v := aI (m 62 75)) fl_X8_566 ic_62 (fv_i _ ic_62 rfl) dX8_hidden_154 rfl ?_
      obtain ⟨g22, k⟩ := k
      obtain ⟨g23, k⟩ := k
      have kj : S_X8_hidden sc d 170 [aR 62, aU, aI l2, aI l3, aI l4] [aI (if l3 ≠ (m 62 75) then (m 114 l3) else (-1) : Int)] m Q := by
        exact x_ireturn dX8_hidden_170 ⟨.int, rfl, rfl⟩ k
      refine x_icmp_ne (tgt := 164) (pc2 := 160) dX8_hidden_157 (by decide) rfl h17 h18 (fun c24 => ?_) (fun c24 => ?_)
      · skip
        refine x_aload_n (pc2 := 165) dX8_hidden_164 rfl rfl ?_
        refine x_getf (pc2 := 168) (v := aR 114) fl_X8_169 ic_62 (vr_62_70 _) dX8_hidden_165 rfl ?_
        refine x_iload_n (pc2 := 169) dX8_hidden_168 rfl rfl ?_
        have h25 := g22 c24
        have h26 := g23 c24
        refine x_iald (pc2 := 170) ic_114 h25 (by rw [al_114]; exact h26) dX8_hidden_169 rfl ?_
        exact x_topI (v := (if l3 ≠ (m 62 75) then (m 114 l3) else (-1) : Int)) (if_pos c24) kj
      · skip
        refine x_iconst (pc2 := 161) dX8_hidden_160 rfl ?_
        refine x_goto (tgt := 170) dX8_hidden_161 (by decide) ?_
        exact x_topI (v := (if l3 ≠ (m 62 75) then (m 114 l3) else (-1) : Int)) (if_neg c24) kj
    · replace k := k2 c19
      refine x_aload_n (pc2 := 140) dX8_hidden_139 rfl rfl ?_
      refine x_getf (pc2 := 143) (v := aR 118) fl_X8_181 ic_62 (vr_62_74 _) dX8_hidden_140 rfl ?_
      refine x_iload_n (pc2 := 144) dX8_hidden_143 rfl rfl ?_
      obtain ⟨h27, k⟩ := k
      obtain ⟨h28, k⟩ := k
      refine x_iald (pc2 := 145) ic_118 h27 (by rw [al_118]; exact h28) dX8_hidden_144 rfl ?_
      refine x_istore_n (pc2 := 146) (ls2 := [aR 62, aU, aI l2, aI (m 118 l3), aI l4]) dX8_hidden_145 rfl (by decide) rfl ?_
      refine x_iinc (pc2 := 149) (ls2 := [aR 62, aU, aI l2, aI (m 118 l3), aI (l4 + 1)]) dX8_hidden_146 rfl rfl (by decide) rfl ?_
      refine x_goto (tgt := 125) dX8_hidden_149 (by decide) ?_
      exact k
theorem c_X8_hidden_13 {sc : List Int} {d d2 : Nat} {m m2 : Mem} {Q : Option AV → Mem → Prop} {l1 l2 s0 s1 s2 : Int} {v : Int} (hM : C_X8_isIn sc d2 [aJ s0, aJ s1, aJ s2] m (some (aI v)) m2) (hd : d2 + 1 ≤ d) (k : S_X8_hidden sc d 16 [aR 62, aI l1, aI l2, aU, aU] [aI v] m2 Q) : S_X8_hidden sc d 13 [aR 62, aI l1, aI l2, aU, aU] [aJ s2, aJ s1, aJ s0] m Q := x_callS (as := [aJ s0, aJ s1, aJ s2]) (rest := []) hM mk_X8_isIn ms_X8_isIn lk_X8_333 hd rfl rfl (Nat.le_of_ble_eq_true rfl) dX8_hidden_13 rfl k
theorem c_X8_hidden_22 {sc : List Int} {d d2 : Nat} {m m2 : Mem} {Q : Option AV → Mem → Prop} {l1 l2 : Int} (hM : C_X8_laysStarts sc d2 [aR 62] m none m2) (hd : d2 + 1 ≤ d) (k : S_X8_hidden sc d 25 [aR 62, aI l1, aI l2, aU, aU] [] m2 Q) : S_X8_hidden sc d 22 [aR 62, aI l1, aI l2, aU, aU] [aR 62] m Q := x_callV (as := []) (rest := []) hM mk_X8_laysStarts mv_X8_laysStarts lk_X8_576 (Or.inl ⟨8, (RX8, TX8, 123), ic_62, Nat.le_of_ble_eq_true rfl, rfl, rfl⟩) hd rfl rfl (Nat.le_of_ble_eq_true rfl) dX8_hidden_22 rfl k
theorem c_X8_hidden_61 {sc : List Int} {d d2 : Nat} {m m2 : Mem} {Q : Option AV → Mem → Prop} {l1 l2 l3 s1 s2 : Int} (hM : C_X8_startsFrom sc d2 [aR 62, aI s1, aI s2] m none m2) (hd : d2 + 1 ≤ d) (k : S_X8_hidden sc d 64 [aR 62, aI l1, aI l2, aI l3, aU] [] m2 Q) : S_X8_hidden sc d 61 [aR 62, aI l1, aI l2, aI l3, aU] [aI s2, aI s1, aR 62] m Q := x_callV (as := [aI s1, aI s2]) (rest := []) hM mk_X8_startsFrom mv_X8_startsFrom lk_X8_579 (Or.inl ⟨8, (RX8, TX8, 123), ic_62, Nat.le_of_ble_eq_true rfl, rfl, rfl⟩) hd rfl rfl (Nat.le_of_ble_eq_true rfl) dX8_hidden_61 rfl k
set_option maxRecDepth 4000 in
theorem g_X8_lastDone_0 {sc : List Int} {d : Nat} {m : Mem} {Q : Option AV → Mem → Prop} {l1 l2 l3 : Int} (k : S_X8_lastDone sc d 4 [aR 62, aU, aI l2, aI l3, aI l1, aU, aU, aU] [aR 62] m Q) : S_X8_lastDone sc d 0 [aR 62, aI l1, aI l2, aI l3, aU, aU, aU, aU] [] m Q := by
  refine x_iload_n (pc2 := 1) dX8_lastDone_0 rfl rfl ?_
  refine x_istore (pc2 := 3) (ls2 := [aR 62, aI l1, aI l2, aI l3, aI l1, aU, aU, aU]) dX8_lastDone_1 rfl (by decide) rfl ?_
  refine x_aload_n (pc2 := 4) dX8_lastDone_3 rfl rfl ?_
  exact x_drop (drp_k (drp_u (drp_k (drp_k (drp_k (drp_k (drp_k (drp_k drp_n)))))))) k
set_option maxRecDepth 4000 in
theorem g_X8_lastDone_7 {sc : List Int} {d : Nat} {m : Mem} {Q : Option AV → Mem → Prop} {l2 l3 l4 s0 : Int} (k : S_X8_lastDone sc d 11 [aR 62, aU, aI l2, aI l3, aI l4, aI (s0 - 1), aU, aU] [] m Q) : S_X8_lastDone sc d 7 [aR 62, aU, aI l2, aI l3, aI l4, aU, aU, aU] [aI s0] m Q := by
  refine x_iconst (pc2 := 8) dX8_lastDone_7 rfl ?_
  refine x_isub (pc2 := 9) dX8_lastDone_8 rfl ?_
  refine x_istore (pc2 := 11) (ls2 := [aR 62, aU, aI l2, aI l3, aI l4, aI (s0 - 1), aU, aU]) dX8_lastDone_9 rfl (by decide) rfl ?_
  exact k
set_option maxRecDepth 4000 in
theorem g_X8_lastDone_11 {sc : List Int} {d : Nat} {m : Mem} {Q : Option AV → Mem → Prop} {l2 l3 l4 l5 : Int} (k : (-2147483648 ≤ l5 ∧ l5 < 2147483648) ∧ ((l5 < 0) → (S_X8_lastDone sc d 42 [aR 62, aU, aI l2, aI l3, aU, aI 0, aU, aU] [] m Q)) ∧ (¬ (l5 < 0) → ((-2147483648 ≤ l4 ∧ l4 < 2147483648) ∧ (-2147483648 ≤ l2 ∧ l2 < 2147483648) ∧ (l2 ≠ 0) ∧ (0 ≤ l5) ∧ (l5 < 10) ∧ S_X8_lastDone sc d 11 [aR 62, aU, aI l2, aI l3, aI (l4.tdiv l2), aI (l5 + (-1)), aU, aU] [] (wr m 119 l5 (l4.tmod l2)) Q))) : S_X8_lastDone sc d 11 [aR 62, aU, aI l2, aI l3, aI l4, aI l5, aU, aU] [] m Q := by
  refine x_iload (pc2 := 13) dX8_lastDone_11 rfl rfl ?_
  obtain ⟨h1, k⟩ := k
  obtain ⟨k1, k2⟩ := k
  refine x_if_lt (tgt := 39) (pc2 := 16) dX8_lastDone_13 (by decide) rfl h1 (fun c2 => ?_) (fun c2 => ?_)
  · replace k := k1 c2
    refine x_iconst (pc2 := 40) dX8_lastDone_39 rfl ?_
    refine x_istore (pc2 := 42) (ls2 := [aR 62, aU, aI l2, aI l3, aI l4, aI 0, aU, aU]) dX8_lastDone_40 rfl (by decide) rfl ?_
    exact x_drop (drp_k (drp_k (drp_k (drp_k (drp_u (drp_k (drp_k (drp_k drp_n)))))))) k
  · replace k := k2 c2
    refine x_aload_n (pc2 := 17) dX8_lastDone_16 rfl rfl ?_
    refine x_getf (pc2 := 20) (v := aR 119) fl_X8_184 ic_62 (vr_62_76 _) dX8_lastDone_17 rfl ?_
    refine x_iload (pc2 := 22) dX8_lastDone_20 rfl rfl ?_
    refine x_iload (pc2 := 24) dX8_lastDone_22 rfl rfl ?_
    refine x_iload_n (pc2 := 25) dX8_lastDone_24 rfl rfl ?_
    obtain ⟨h3, k⟩ := k
    obtain ⟨h4, k⟩ := k
    obtain ⟨h5, k⟩ := k
    refine x_irem (pc2 := 26) dX8_lastDone_25 rfl h3 h4 h5 ?_
    obtain ⟨h6, k⟩ := k
    obtain ⟨h7, k⟩ := k
    refine x_iast (pc2 := 27) ic_119 h6 (by rw [al_119]; exact h7) dX8_lastDone_26 rfl ?_
    refine x_iload (pc2 := 29) dX8_lastDone_27 rfl rfl ?_
    refine x_iload_n (pc2 := 30) dX8_lastDone_29 rfl rfl ?_
    refine x_idiv (pc2 := 31) dX8_lastDone_30 rfl h3 h4 h5 ?_
    refine x_istore (pc2 := 33) (ls2 := [aR 62, aU, aI l2, aI l3, aI (l4.tdiv l2), aI l5, aU, aU]) dX8_lastDone_31 rfl (by decide) rfl ?_
    refine x_iinc (pc2 := 36) (ls2 := [aR 62, aU, aI l2, aI l3, aI (l4.tdiv l2), aI (l5 + (-1)), aU, aU]) dX8_lastDone_33 rfl rfl (by decide) rfl ?_
    refine x_goto (tgt := 11) dX8_lastDone_36 (by decide) ?_
    exact k
set_option maxRecDepth 4000 in
theorem g_X8_lastDone_42 {sc : List Int} {d : Nat} {m : Mem} {Q : Option AV → Mem → Prop} {l2 l3 l5 : Int} (k : (-2147483648 ≤ l5 ∧ l5 < 2147483648) ∧ (-2147483648 ≤ l2 ∧ l2 < 2147483648) ∧ ((l2 ≤ l5) → (S_X8_lastDone sc d 73 [aR 62, aU, aI l2, aI l3, aU, aI 0, aU, aU] [] m Q)) ∧ (¬ (l2 ≤ l5) → ((0 ≤ l5) ∧ (l5 < 3) ∧ S_X8_lastDone sc d 42 [aR 62, aU, aI l2, aI l3, aU, aI (l5 + 1), aU, aU] [] (wr (wr m 121 l5 0) 122 l5 0) Q))) : S_X8_lastDone sc d 42 [aR 62, aU, aI l2, aI l3, aU, aI l5, aU, aU] [] m Q := by
  refine x_iload (pc2 := 44) dX8_lastDone_42 rfl rfl ?_
  refine x_iload_n (pc2 := 45) dX8_lastDone_44 rfl rfl ?_
  obtain ⟨h1, k⟩ := k
  obtain ⟨h2, k⟩ := k
  obtain ⟨k1, k2⟩ := k
  refine x_icmp_ge (tgt := 70) (pc2 := 48) dX8_lastDone_45 (by decide) rfl h1 h2 (fun c3 => ?_) (fun c3 => ?_)
  · replace k := k1 c3
    refine x_iconst (pc2 := 71) dX8_lastDone_70 rfl ?_
    refine x_istore (pc2 := 73) (ls2 := [aR 62, aU, aI l2, aI l3, aU, aI 0, aU, aU]) dX8_lastDone_71 rfl (by decide) rfl ?_
    exact k
  · replace k := k2 c3
    refine x_aload_n (pc2 := 49) dX8_lastDone_48 rfl rfl ?_
    refine x_getf (pc2 := 52) (v := aR 121) fl_X8_190 ic_62 (vr_62_78 _) dX8_lastDone_49 rfl ?_
    refine x_iload (pc2 := 54) dX8_lastDone_52 rfl rfl ?_
    refine x_iconst (pc2 := 55) dX8_lastDone_54 rfl ?_
    obtain ⟨h4, k⟩ := k
    obtain ⟨h5, k⟩ := k
    refine x_iast (pc2 := 56) ic_121 h4 (by rw [al_121]; exact h5) dX8_lastDone_55 rfl ?_
    refine x_aload_n (pc2 := 57) dX8_lastDone_56 rfl rfl ?_
    refine x_getf (pc2 := 60) (v := aR 122) fl_X8_193 ic_62 (vr_62_79 _) dX8_lastDone_57 rfl ?_
    refine x_iload (pc2 := 62) dX8_lastDone_60 rfl rfl ?_
    refine x_iconst (pc2 := 63) dX8_lastDone_62 rfl ?_
    refine x_iast (pc2 := 64) ic_122 h4 (by rw [al_122]; exact h5) dX8_lastDone_63 rfl ?_
    refine x_iinc (pc2 := 67) (ls2 := [aR 62, aU, aI l2, aI l3, aU, aI (l5 + 1), aU, aU]) dX8_lastDone_64 rfl rfl (by decide) rfl ?_
    refine x_goto (tgt := 42) dX8_lastDone_67 (by decide) ?_
    exact k
set_option maxRecDepth 4000 in
theorem g_X8_lastDone_73 {sc : List Int} {d : Nat} {m : Mem} {Q : Option AV → Mem → Prop} {l2 l3 l5 : Int} (k : S_X8_lastDone sc d 76 [aR 62, aU, aI l2, aI l3, aU, aI l5, aU, aU] [aR 62, aI l5] m Q) : S_X8_lastDone sc d 73 [aR 62, aU, aI l2, aI l3, aU, aI l5, aU, aU] [] m Q := by
  refine x_iload (pc2 := 75) dX8_lastDone_73 rfl rfl ?_
  refine x_aload_n (pc2 := 76) dX8_lastDone_75 rfl rfl ?_
  exact k
set_option maxRecDepth 4000 in
theorem g_X8_lastDone_79 {sc : List Int} {d : Nat} {m : Mem} {Q : Option AV → Mem → Prop} {l2 l3 l5 s0 s1 : Int} (k : (-2147483648 ≤ s0 ∧ s0 < 2147483648) ∧ (-2147483648 ≤ s1 ∧ s1 < 2147483648) ∧ ((s1 ≤ s0) → (S_X8_lastDone sc d 194 [aR 62, aU, aI l2, aU, aU, aI 0, aI 0, aU] [] m Q)) ∧ (¬ (s1 ≤ s0) → ((0 ≤ l5) ∧ (l5 < 10) ∧ (0 ≤ (m 119 l5)) ∧ ((m 119 l5) < 3) ∧ S_X8_lastDone sc d 101 [aR 62, aU, aI l2, aI l3, aU, aI l5, aI (m 119 l5), aU] [aI l5, aR 62, aI (m 121 (m 119 l5))] m Q))) : S_X8_lastDone sc d 79 [aR 62, aU, aI l2, aI l3, aU, aI l5, aU, aU] [aI s1, aI s0] m Q := by
  obtain ⟨h1, k⟩ := k
  obtain ⟨h2, k⟩ := k
  obtain ⟨k1, k2⟩ := k
  refine x_icmp_ge (tgt := 188) (pc2 := 82) dX8_lastDone_79 (by decide) rfl h1 h2 (fun c3 => ?_) (fun c3 => ?_)
  · replace k := k1 c3
    refine x_iconst (pc2 := 189) dX8_lastDone_188 rfl ?_
    refine x_istore (pc2 := 191) (ls2 := [aR 62, aU, aI l2, aI l3, aU, aI 0, aU, aU]) dX8_lastDone_189 rfl (by decide) rfl ?_
    refine x_iconst (pc2 := 192) dX8_lastDone_191 rfl ?_
    refine x_istore (pc2 := 194) (ls2 := [aR 62, aU, aI l2, aI l3, aU, aI 0, aI 0, aU]) dX8_lastDone_192 rfl (by decide) rfl ?_
    exact x_drop (drp_k (drp_k (drp_k (drp_u (drp_k (drp_k (drp_k (drp_k drp_n)))))))) k
  · replace k := k2 c3
    refine x_aload_n (pc2 := 83) dX8_lastDone_82 rfl rfl ?_
    refine x_getf (pc2 := 86) (v := aR 119) fl_X8_184 ic_62 (vr_62_76 _) dX8_lastDone_83 rfl ?_
    refine x_iload (pc2 := 88) dX8_lastDone_86 rfl rfl ?_
    obtain ⟨h4, k⟩ := k
    obtain ⟨h5, k⟩ := k
    refine x_iald (pc2 := 89) ic_119 h4 (by rw [al_119]; exact h5) dX8_lastDone_88 rfl ?_
    refine x_istore (pc2 := 91) (ls2 := [aR 62, aU, aI l2, aI l3, aU, aI l5, aI (m 119 l5), aU]) dX8_lastDone_89 rfl (by decide) rfl ?_
    refine x_aload_n (pc2 := 92) dX8_lastDone_91 rfl rfl ?_
    refine x_getf (pc2 := 95) (v := aR 121) fl_X8_190 ic_62 (vr_62_78 _) dX8_lastDone_92 rfl ?_
    refine x_iload (pc2 := 97) dX8_lastDone_95 rfl rfl ?_
    obtain ⟨h6, k⟩ := k
    obtain ⟨h7, k⟩ := k
    refine x_iald (pc2 := 98) ic_121 h6 (by rw [al_121]; exact h7) dX8_lastDone_97 rfl ?_
    refine x_aload_n (pc2 := 99) dX8_lastDone_98 rfl rfl ?_
    refine x_iload (pc2 := 101) dX8_lastDone_99 rfl rfl ?_
    exact k
set_option maxRecDepth 4000 in
theorem g_X8_lastDone_104 {sc : List Int} {d : Nat} {m : Mem} {Q : Option AV → Mem → Prop} {l2 l3 l5 l6 s0 s1 : Int} (k : ((-2147483648 ≤ (s0 + s1) ∧ (s0 + s1) < 2147483648)) ∧ ((-2147483648 ≤ l3 ∧ l3 < 2147483648)) ∧ (-2147483648 ≤ (if (s0 + s1) ≤ l3 then 0 else 1 : Int) ∧ (if (s0 + s1) ≤ l3 then 0 else 1 : Int) < 2147483648) ∧ (((if (s0 + s1) ≤ l3 then 0 else 1 : Int) = 0) → ((((if (s0 + s1) ≤ l3 then 0 else 1 : Int) = 0) → (0 ≤ l6)) ∧ (((if (s0 + s1) ≤ l3 then 0 else 1 : Int) = 0) → (l6 < 3)) ∧ S_X8_lastDone sc d 161 [aR 62, aU, aI l2, aI l3, aU, aI l5, aI l6, aU] [aI l5, aR 62, aI (if (if (s0 + s1) ≤ l3 then 0 else 1 : Int) = 0 then (m 121 l6) else 0 : Int), aI l6, aR 121] m Q)) ∧ (¬ ((if (s0 + s1) ≤ l3 then 0 else 1 : Int) = 0) → ((0 ≤ l6) ∧ (l6 < 3) ∧ S_X8_lastDone sc d 131 [aR 62, aU, aI l2, aI l3, aU, aI l5, aI l6, aI (if (s0 + s1) ≤ l3 then 0 else 1 : Int)] [aI 0, aR 62, aI (m 122 l6), aI l6, aR 122] m Q))) : S_X8_lastDone sc d 104 [aR 62, aU, aI l2, aI l3, aU, aI l5, aI l6, aU] [aI s1, aI s0] m Q := by
  refine x_iadd (pc2 := 105) dX8_lastDone_104 rfl ?_
  refine x_iload_n (pc2 := 106) dX8_lastDone_105 rfl rfl ?_
  obtain ⟨g3, k⟩ := k
  obtain ⟨g4, k⟩ := k
  have kj : S_X8_lastDone sc d 114 [aR 62, aU, aI l2, aI l3, aU, aI l5, aI l6, aU] [aI (if (s0 + s1) ≤ l3 then 0 else 1 : Int)] m Q := by
    refine x_istore (pc2 := 116) (ls2 := [aR 62, aU, aI l2, aI l3, aU, aI l5, aI l6, aI (if (s0 + s1) ≤ l3 then 0 else 1 : Int)]) dX8_lastDone_114 rfl (by decide) rfl ?_
    refine x_iload (pc2 := 118) dX8_lastDone_116 rfl rfl ?_
    obtain ⟨h5, k⟩ := k
    obtain ⟨k1, k2⟩ := k
    refine x_if_eq (tgt := 136) (pc2 := 121) dX8_lastDone_118 (by decide) rfl h5 (fun c6 => ?_) (fun c6 => ?_)
    · replace k := k1 c6
      refine x_aload_n (pc2 := 137) dX8_lastDone_136 rfl rfl ?_
      refine x_getf (pc2 := 140) (v := aR 121) fl_X8_190 ic_62 (vr_62_78 _) dX8_lastDone_137 rfl ?_
      refine x_iload (pc2 := 142) dX8_lastDone_140 rfl rfl ?_
      refine x_iload (pc2 := 144) dX8_lastDone_142 rfl rfl ?_
      obtain ⟨g9, k⟩ := k
      obtain ⟨g10, k⟩ := k
      have kj : S_X8_lastDone sc d 158 [aR 62, aU, aI l2, aI l3, aU, aI l5, aI l6, aI (if (s0 + s1) ≤ l3 then 0 else 1 : Int)] [aI (if (if (s0 + s1) ≤ l3 then 0 else 1 : Int) = 0 then (m 121 l6) else 0 : Int), aI l6, aR 121] m Q := by
        refine x_aload_n (pc2 := 159) dX8_lastDone_158 rfl rfl ?_
        refine x_iload (pc2 := 161) dX8_lastDone_159 rfl rfl ?_
        exact x_drop (drp_k (drp_k (drp_k (drp_k (drp_k (drp_k (drp_k (drp_u drp_n)))))))) k
      refine x_if_eq (tgt := 151) (pc2 := 147) dX8_lastDone_144 (by decide) rfl h5 (fun c11 => ?_) (fun c11 => ?_)
      · skip
        refine x_aload_n (pc2 := 152) dX8_lastDone_151 rfl rfl ?_
        refine x_getf (pc2 := 155) (v := aR 121) fl_X8_190 ic_62 (vr_62_78 _) dX8_lastDone_152 rfl ?_
        refine x_iload (pc2 := 157) dX8_lastDone_155 rfl rfl ?_
        have h12 := g9 c11
        have h13 := g10 c11
        refine x_iald (pc2 := 158) ic_121 h12 (by rw [al_121]; exact h13) dX8_lastDone_157 rfl ?_
        exact x_topI (v := (if (if (s0 + s1) ≤ l3 then 0 else 1 : Int) = 0 then (m 121 l6) else 0 : Int)) (if_pos c11) kj
      · skip
        refine x_iconst (pc2 := 148) dX8_lastDone_147 rfl ?_
        refine x_goto (tgt := 158) dX8_lastDone_148 (by decide) ?_
        exact x_topI (v := (if (if (s0 + s1) ≤ l3 then 0 else 1 : Int) = 0 then (m 121 l6) else 0 : Int)) (if_neg c11) kj
    · replace k := k2 c6
      refine x_aload_n (pc2 := 122) dX8_lastDone_121 rfl rfl ?_
      refine x_getf (pc2 := 125) (v := aR 122) fl_X8_193 ic_62 (vr_62_79 _) dX8_lastDone_122 rfl ?_
      refine x_iload (pc2 := 127) dX8_lastDone_125 rfl rfl ?_
      refine x_dup2_ri (pc2 := 128) dX8_lastDone_127 rfl (by decide) ?_
      obtain ⟨h14, k⟩ := k
      obtain ⟨h15, k⟩ := k
      refine x_iald (pc2 := 129) ic_122 h14 (by rw [al_122]; exact h15) dX8_lastDone_128 rfl ?_
      refine x_aload_n (pc2 := 130) dX8_lastDone_129 rfl rfl ?_
      refine x_iconst (pc2 := 131) dX8_lastDone_130 rfl ?_
      exact k
  have h16 := g3 
  have h17 := g4 
  refine x_icmp_le (tgt := 113) (pc2 := 109) dX8_lastDone_106 (by decide) rfl h16 h17 (fun c18 => ?_) (fun c18 => ?_)
  · skip
    refine x_iconst (pc2 := 114) dX8_lastDone_113 rfl ?_
    exact x_topI (v := (if (s0 + s1) ≤ l3 then 0 else 1 : Int)) (if_pos c18) kj
  · skip
    refine x_iconst (pc2 := 110) dX8_lastDone_109 rfl ?_
    refine x_goto (tgt := 114) dX8_lastDone_110 (by decide) ?_
    exact x_topI (v := (if (s0 + s1) ≤ l3 then 0 else 1 : Int)) (if_neg c18) kj
set_option maxRecDepth 4000 in
theorem g_X8_lastDone_134 {sc : List Int} {d : Nat} {m : Mem} {Q : Option AV → Mem → Prop} {l2 l3 l5 l6 l7 s0 s1 s2 s3 : Int} (Hs0 : IsC s0 100) (k : (0 ≤ s1) ∧ (s1 < alen s0) ∧ ((-2147483648 ≤ l7 ∧ l7 < 2147483648)) ∧ ((l7 = 0) → (0 ≤ l6)) ∧ ((l7 = 0) → (l6 < 3)) ∧ S_X8_lastDone sc d 161 [aR 62, aU, aI l2, aI l3, aU, aI l5, aI l6, aU] [aI l5, aR 62, aI (if l7 = 0 then ((wr m s0 s1 (s2 + s3)) 121 l6) else 0 : Int), aI l6, aR 121] (wr m s0 s1 (s2 + s3)) Q) : S_X8_lastDone sc d 134 [aR 62, aU, aI l2, aI l3, aU, aI l5, aI l6, aI l7] [aI s3, aI s2, aI s1, aR s0] m Q := by
  refine x_iadd (pc2 := 135) dX8_lastDone_134 rfl ?_
  obtain ⟨h1, k⟩ := k
  obtain ⟨h2, k⟩ := k
  refine x_iast (pc2 := 136) Hs0 h1 h2 dX8_lastDone_135 rfl ?_
  refine x_aload_n (pc2 := 137) dX8_lastDone_136 rfl rfl ?_
  refine x_getf (pc2 := 140) (v := aR 121) fl_X8_190 ic_62 (vr_62_78 _) dX8_lastDone_137 rfl ?_
  refine x_iload (pc2 := 142) dX8_lastDone_140 rfl rfl ?_
  refine x_iload (pc2 := 144) dX8_lastDone_142 rfl rfl ?_
  obtain ⟨g4, k⟩ := k
  obtain ⟨g7, k⟩ := k
  obtain ⟨g8, k⟩ := k
  have kj : S_X8_lastDone sc d 158 [aR 62, aU, aI l2, aI l3, aU, aI l5, aI l6, aI l7] [aI (if l7 = 0 then ((wr m s0 s1 (s2 + s3)) 121 l6) else 0 : Int), aI l6, aR 121] (wr m s0 s1 (s2 + s3)) Q := by
    refine x_aload_n (pc2 := 159) dX8_lastDone_158 rfl rfl ?_
    refine x_iload (pc2 := 161) dX8_lastDone_159 rfl rfl ?_
    exact x_drop (drp_k (drp_k (drp_k (drp_k (drp_k (drp_k (drp_k (drp_u drp_n)))))))) k
  have h9 := g4 
  refine x_if_eq (tgt := 151) (pc2 := 147) dX8_lastDone_144 (by decide) rfl h9 (fun c10 => ?_) (fun c10 => ?_)
  · skip
    refine x_aload_n (pc2 := 152) dX8_lastDone_151 rfl rfl ?_
    refine x_getf (pc2 := 155) (v := aR 121) fl_X8_190 ic_62 (vr_62_78 _) dX8_lastDone_152 rfl ?_
    refine x_iload (pc2 := 157) dX8_lastDone_155 rfl rfl ?_
    have h11 := g7 c10
    have h12 := g8 c10
    refine x_iald (pc2 := 158) ic_121 h11 (by rw [al_121]; exact h12) dX8_lastDone_157 rfl ?_
    exact x_topI (v := (if l7 = 0 then ((wr m s0 s1 (s2 + s3)) 121 l6) else 0 : Int)) (if_pos c10) kj
  · skip
    refine x_iconst (pc2 := 148) dX8_lastDone_147 rfl ?_
    refine x_goto (tgt := 158) dX8_lastDone_148 (by decide) ?_
    exact x_topI (v := (if l7 = 0 then ((wr m s0 s1 (s2 + s3)) 121 l6) else 0 : Int)) (if_neg c10) kj
set_option maxRecDepth 4000 in
theorem g_X8_lastDone_164 {sc : List Int} {d : Nat} {m : Mem} {Q : Option AV → Mem → Prop} {l2 l3 l5 l6 s0 s1 s2 s3 : Int} (Hs0 : IsC s0 100) (k : (0 ≤ s1) ∧ (s1 < alen s0) ∧ (0 ≤ l6) ∧ (l6 < 3) ∧ S_X8_lastDone sc d 177 [aR 62, aU, aI l2, aI l3, aU, aI l5, aU, aU] [aI l5, aR 62, aI ((wr m s0 s1 (s2 + s3)) 122 l6), aI l6, aR 122] (wr m s0 s1 (s2 + s3)) Q) : S_X8_lastDone sc d 164 [aR 62, aU, aI l2, aI l3, aU, aI l5, aI l6, aU] [aI s3, aI s2, aI s1, aR s0] m Q := by
  refine x_iadd (pc2 := 165) dX8_lastDone_164 rfl ?_
  obtain ⟨h1, k⟩ := k
  obtain ⟨h2, k⟩ := k
  refine x_iast (pc2 := 166) Hs0 h1 h2 dX8_lastDone_165 rfl ?_
  refine x_aload_n (pc2 := 167) dX8_lastDone_166 rfl rfl ?_
  refine x_getf (pc2 := 170) (v := aR 122) fl_X8_193 ic_62 (vr_62_79 _) dX8_lastDone_167 rfl ?_
  refine x_iload (pc2 := 172) dX8_lastDone_170 rfl rfl ?_
  refine x_dup2_ri (pc2 := 173) dX8_lastDone_172 rfl (by decide) ?_
  obtain ⟨h3, k⟩ := k
  obtain ⟨h4, k⟩ := k
  refine x_iald (pc2 := 174) ic_122 h3 (by rw [al_122]; exact h4) dX8_lastDone_173 rfl ?_
  refine x_aload_n (pc2 := 175) dX8_lastDone_174 rfl rfl ?_
  refine x_iload (pc2 := 177) dX8_lastDone_175 rfl rfl ?_
  exact x_drop (drp_k (drp_k (drp_k (drp_k (drp_k (drp_k (drp_u (drp_k drp_n)))))))) k
set_option maxRecDepth 4000 in
theorem g_X8_lastDone_180 {sc : List Int} {d : Nat} {m : Mem} {Q : Option AV → Mem → Prop} {l2 l3 l5 s0 s1 s2 s3 : Int} (Hs0 : IsC s0 100) (k : (0 ≤ s1) ∧ (s1 < alen s0) ∧ S_X8_lastDone sc d 73 [aR 62, aU, aI l2, aI l3, aU, aI (l5 + 1), aU, aU] [] (wr m s0 s1 (s2 + s3)) Q) : S_X8_lastDone sc d 180 [aR 62, aU, aI l2, aI l3, aU, aI l5, aU, aU] [aI s3, aI s2, aI s1, aR s0] m Q := by
  refine x_iadd (pc2 := 181) dX8_lastDone_180 rfl ?_
  obtain ⟨h1, k⟩ := k
  obtain ⟨h2, k⟩ := k
  refine x_iast (pc2 := 182) Hs0 h1 h2 dX8_lastDone_181 rfl ?_
  refine x_iinc (pc2 := 185) (ls2 := [aR 62, aU, aI l2, aI l3, aU, aI (l5 + 1), aU, aU]) dX8_lastDone_182 rfl rfl (by decide) rfl ?_
  refine x_goto (tgt := 73) dX8_lastDone_185 (by decide) ?_
  exact k
set_option maxRecDepth 4000 in
theorem g_X8_lastDone_194 {sc : List Int} {d : Nat} {m : Mem} {Q : Option AV → Mem → Prop} {l2 l5 l6 : Int} (k : (-2147483648 ≤ l6 ∧ l6 < 2147483648) ∧ (-2147483648 ≤ l2 ∧ l2 < 2147483648) ∧ ((l2 ≤ l6) → (Q (some (aI l5)) m)) ∧ (¬ (l2 ≤ l6) → ((0 ≤ l6) ∧ (l6 < 3) ∧ (-2147483648 ≤ (m 122 l6) ∧ (m 122 l6) < 2147483648) ∧ (-2147483648 ≤ l5 ∧ l5 < 2147483648) ∧ (((m 122 l6) ≤ l5) → (S_X8_lastDone sc d 194 [aR 62, aU, aI l2, aU, aU, aI l5, aI (l6 + 1), aU] [] m Q)) ∧ (¬ ((m 122 l6) ≤ l5) → (S_X8_lastDone sc d 194 [aR 62, aU, aI l2, aU, aU, aI (m 122 l6), aI (l6 + 1), aU] [] m Q))))) : S_X8_lastDone sc d 194 [aR 62, aU, aI l2, aU, aU, aI l5, aI l6, aU] [] m Q := by
  refine x_iload (pc2 := 196) dX8_lastDone_194 rfl rfl ?_
  refine x_iload_n (pc2 := 197) dX8_lastDone_196 rfl rfl ?_
  obtain ⟨h1, k⟩ := k
  obtain ⟨h2, k⟩ := k
  obtain ⟨k1, k2⟩ := k
  refine x_icmp_ge (tgt := 227) (pc2 := 200) dX8_lastDone_197 (by decide) rfl h1 h2 (fun c3 => ?_) (fun c3 => ?_)
  · replace k := k1 c3
    refine x_iload (pc2 := 229) dX8_lastDone_227 rfl rfl ?_
    exact x_ireturn dX8_lastDone_229 ⟨.int, rfl, rfl⟩ k
  · replace k := k2 c3
    refine x_aload_n (pc2 := 201) dX8_lastDone_200 rfl rfl ?_
    refine x_getf (pc2 := 204) (v := aR 122) fl_X8_193 ic_62 (vr_62_79 _) dX8_lastDone_201 rfl ?_
    refine x_iload (pc2 := 206) dX8_lastDone_204 rfl rfl ?_
    obtain ⟨h4, k⟩ := k
    obtain ⟨h5, k⟩ := k
    refine x_iald (pc2 := 207) ic_122 h4 (by rw [al_122]; exact h5) dX8_lastDone_206 rfl ?_
    refine x_iload (pc2 := 209) dX8_lastDone_207 rfl rfl ?_
    obtain ⟨h6, k⟩ := k
    obtain ⟨h7, k⟩ := k
    obtain ⟨k1, k2⟩ := k
    refine x_icmp_le (tgt := 221) (pc2 := 212) dX8_lastDone_209 (by decide) rfl h6 h7 (fun c8 => ?_) (fun c8 => ?_)
    · replace k := k1 c8
      refine x_iinc (pc2 := 224) (ls2 := [aR 62, aU, aI l2, aU, aU, aI l5, aI (l6 + 1), aU]) dX8_lastDone_221 rfl rfl (by decide) rfl ?_
      refine x_goto (tgt := 194) dX8_lastDone_224 (by decide) ?_
      exact k
    · replace k := k2 c8
      refine x_aload_n (pc2 := 213) dX8_lastDone_212 rfl rfl ?_
      refine x_getf (pc2 := 216) (v := aR 122) fl_X8_193 ic_62 (vr_62_79 _) dX8_lastDone_213 rfl ?_
      refine x_iload (pc2 := 218) dX8_lastDone_216 rfl rfl ?_
      refine x_iald (pc2 := 219) ic_122 h4 (by rw [al_122]; exact h5) dX8_lastDone_218 rfl ?_
      refine x_istore (pc2 := 221) (ls2 := [aR 62, aU, aI l2, aU, aU, aI (m 122 l6), aI l6, aU]) dX8_lastDone_219 rfl (by decide) rfl ?_
      refine x_iinc (pc2 := 224) (ls2 := [aR 62, aU, aI l2, aU, aU, aI (m 122 l6), aI (l6 + 1), aU]) dX8_lastDone_221 rfl rfl (by decide) rfl ?_
      refine x_goto (tgt := 194) dX8_lastDone_224 (by decide) ?_
      exact k
theorem c_X8_lastDone_4 {sc : List Int} {d d2 : Nat} {m m2 : Mem} {Q : Option AV → Mem → Prop} {l2 l3 l4 : Int} {v : Int} (hM : C_X8_seamMany sc d2 [aR 62] m (some (aI v)) m2) (hd : d2 + 1 ≤ d) (k : S_X8_lastDone sc d 7 [aR 62, aU, aI l2, aI l3, aI l4, aU, aU, aU] [aI v] m2 Q) : S_X8_lastDone sc d 4 [aR 62, aU, aI l2, aI l3, aI l4, aU, aU, aU] [aR 62] m Q := x_callV (as := []) (rest := []) hM mk_X8_seamMany mv_X8_seamMany lk_X8_431 (Or.inl ⟨8, (RX8, TX8, 123), ic_62, Nat.le_of_ble_eq_true rfl, rfl, rfl⟩) hd rfl rfl (Nat.le_of_ble_eq_true rfl) dX8_lastDone_4 rfl k
theorem c_X8_lastDone_76 {sc : List Int} {d d2 : Nat} {m m2 : Mem} {Q : Option AV → Mem → Prop} {l2 l3 l5 s0 : Int} {v : Int} (hM : C_X8_seamMany sc d2 [aR 62] m (some (aI v)) m2) (hd : d2 + 1 ≤ d) (k : S_X8_lastDone sc d 79 [aR 62, aU, aI l2, aI l3, aU, aI l5, aU, aU] [aI v, aI s0] m2 Q) : S_X8_lastDone sc d 76 [aR 62, aU, aI l2, aI l3, aU, aI l5, aU, aU] [aR 62, aI s0] m Q := x_callV (as := []) (rest := [aI s0]) hM mk_X8_seamMany mv_X8_seamMany lk_X8_431 (Or.inl ⟨8, (RX8, TX8, 123), ic_62, Nat.le_of_ble_eq_true rfl, rfl, rfl⟩) hd rfl rfl (Nat.le_of_ble_eq_true rfl) dX8_lastDone_76 rfl k
theorem c_X8_lastDone_101 {sc : List Int} {d d2 : Nat} {m m2 : Mem} {Q : Option AV → Mem → Prop} {l2 l3 l5 l6 s0 s2 : Int} {v : Int} (hM : C_X8_takesOf sc d2 [aR 62, aI s2] m (some (aI v)) m2) (hd : d2 + 1 ≤ d) (k : S_X8_lastDone sc d 104 [aR 62, aU, aI l2, aI l3, aU, aI l5, aI l6, aU] [aI v, aI s0] m2 Q) : S_X8_lastDone sc d 101 [aR 62, aU, aI l2, aI l3, aU, aI l5, aI l6, aU] [aI s2, aR 62, aI s0] m Q := x_callV (as := [aI s2]) (rest := [aI s0]) hM mk_X8_takesOf mv_X8_takesOf lk_X8_434 (Or.inl ⟨8, (RX8, TX8, 123), ic_62, Nat.le_of_ble_eq_true rfl, rfl, rfl⟩) hd rfl rfl (Nat.le_of_ble_eq_true rfl) dX8_lastDone_101 rfl k
theorem c_X8_lastDone_131 {sc : List Int} {d d2 : Nat} {m m2 : Mem} {Q : Option AV → Mem → Prop} {l2 l3 l5 l6 l7 s0 s1 s2 s4 : Int} {v : Int} (Hs0 : IsC s0 100) (hM : C_X8_settingOf sc d2 [aR 62, aI s4] m (some (aI v)) m2) (hd : d2 + 1 ≤ d) (k : S_X8_lastDone sc d 134 [aR 62, aU, aI l2, aI l3, aU, aI l5, aI l6, aI l7] [aI v, aI s2, aI s1, aR s0] m2 Q) : S_X8_lastDone sc d 131 [aR 62, aU, aI l2, aI l3, aU, aI l5, aI l6, aI l7] [aI s4, aR 62, aI s2, aI s1, aR s0] m Q := x_callV (as := [aI s4]) (rest := [aI s2, aI s1, aR s0]) hM mk_X8_settingOf mv_X8_settingOf lk_X8_461 (Or.inl ⟨8, (RX8, TX8, 123), ic_62, Nat.le_of_ble_eq_true rfl, rfl, rfl⟩) hd rfl rfl (Nat.le_of_ble_eq_true rfl) dX8_lastDone_131 rfl k
theorem c_X8_lastDone_161 {sc : List Int} {d d2 : Nat} {m m2 : Mem} {Q : Option AV → Mem → Prop} {l2 l3 l5 l6 s0 s1 s2 s4 : Int} {v : Int} (Hs0 : IsC s0 100) (hM : C_X8_takesOf sc d2 [aR 62, aI s4] m (some (aI v)) m2) (hd : d2 + 1 ≤ d) (k : S_X8_lastDone sc d 164 [aR 62, aU, aI l2, aI l3, aU, aI l5, aI l6, aU] [aI v, aI s2, aI s1, aR s0] m2 Q) : S_X8_lastDone sc d 161 [aR 62, aU, aI l2, aI l3, aU, aI l5, aI l6, aU] [aI s4, aR 62, aI s2, aI s1, aR s0] m Q := x_callV (as := [aI s4]) (rest := [aI s2, aI s1, aR s0]) hM mk_X8_takesOf mv_X8_takesOf lk_X8_434 (Or.inl ⟨8, (RX8, TX8, 123), ic_62, Nat.le_of_ble_eq_true rfl, rfl, rfl⟩) hd rfl rfl (Nat.le_of_ble_eq_true rfl) dX8_lastDone_161 rfl k
theorem c_X8_lastDone_177 {sc : List Int} {d d2 : Nat} {m m2 : Mem} {Q : Option AV → Mem → Prop} {l2 l3 l5 s0 s1 s2 s4 : Int} {v : Int} (Hs0 : IsC s0 100) (hM : C_X8_takesOf sc d2 [aR 62, aI s4] m (some (aI v)) m2) (hd : d2 + 1 ≤ d) (k : S_X8_lastDone sc d 180 [aR 62, aU, aI l2, aI l3, aU, aI l5, aU, aU] [aI v, aI s2, aI s1, aR s0] m2 Q) : S_X8_lastDone sc d 177 [aR 62, aU, aI l2, aI l3, aU, aI l5, aU, aU] [aI s4, aR 62, aI s2, aI s1, aR s0] m Q := x_callV (as := [aI s4]) (rest := [aI s2, aI s1, aR s0]) hM mk_X8_takesOf mv_X8_takesOf lk_X8_434 (Or.inl ⟨8, (RX8, TX8, 123), ic_62, Nat.le_of_ble_eq_true rfl, rfl, rfl⟩) hd rfl rfl (Nat.le_of_ble_eq_true rfl) dX8_lastDone_177 rfl k
set_option maxRecDepth 4000 in
theorem g_X8_several_0 {sc : List Int} {d : Nat} {m : Mem} {Q : Option AV → Mem → Prop} {l1 l2 : Int} (k : S_X8_several sc d 3 [aR 62, aI l1, aI l2, aU, aU, aU, aU, aU, aU] [aI l2, aI l1, aR 62] m Q) : S_X8_several sc d 0 [aR 62, aI l1, aI l2, aU, aU, aU, aU, aU, aU] [] m Q := by
  refine x_aload_n (pc2 := 1) dX8_several_0 rfl rfl ?_
  refine x_iload_n (pc2 := 2) dX8_several_1 rfl rfl ?_
  refine x_iload_n (pc2 := 3) dX8_several_2 rfl rfl ?_
  exact k
set_option maxRecDepth 4000 in
theorem g_X8_several_6 {sc : List Int} {d : Nat} {m : Mem} {Q : Option AV → Mem → Prop} {l1 l2 s0 : Int} (k : (-2147483648 ≤ s0 ∧ s0 < 2147483648) ∧ ((s0 = 0) → (Q (some (aI (-1))) m)) ∧ (¬ (s0 = 0) → (S_X8_several sc d 11 [aR 62, aI l1, aI l2, aU, aU, aU, aU, aU, aU] [aI l1, aR 62] m Q))) : S_X8_several sc d 6 [aR 62, aI l1, aI l2, aU, aU, aU, aU, aU, aU] [aI s0] m Q := by
  obtain ⟨h1, k⟩ := k
  obtain ⟨k1, k2⟩ := k
  refine x_if_eq (tgt := 17) (pc2 := 9) dX8_several_6 (by decide) rfl h1 (fun c2 => ?_) (fun c2 => ?_)
  · replace k := k1 c2
    refine x_iconst (pc2 := 18) dX8_several_17 rfl ?_
    exact x_ireturn dX8_several_18 ⟨.int, rfl, rfl⟩ k
  · replace k := k2 c2
    refine x_aload_n (pc2 := 10) dX8_several_9 rfl rfl ?_
    refine x_iload_n (pc2 := 11) dX8_several_10 rfl rfl ?_
    exact k
set_option maxRecDepth 4000 in
theorem g_X8_several_14 {sc : List Int} {d : Nat} {m : Mem} {Q : Option AV → Mem → Prop} {l1 l2 s0 : Int} (k : (-2147483648 ≤ s0 ∧ s0 < 2147483648) ∧ ((s0 ≠ 0) → (S_X8_several sc d 21 [aR 62, aI l1, aI l2, aU, aU, aU, aU, aU, aU] [aI 5, aR 62] m Q)) ∧ (¬ (s0 ≠ 0) → (Q (some (aI (-1))) m))) : S_X8_several sc d 14 [aR 62, aI l1, aI l2, aU, aU, aU, aU, aU, aU] [aI s0] m Q := by
  obtain ⟨h1, k⟩ := k
  obtain ⟨k1, k2⟩ := k
  refine x_if_ne (tgt := 19) (pc2 := 17) dX8_several_14 (by decide) rfl h1 (fun c2 => ?_) (fun c2 => ?_)
  · replace k := k1 c2
    refine x_aload_n (pc2 := 20) dX8_several_19 rfl rfl ?_
    refine x_iconst (pc2 := 21) dX8_several_20 rfl ?_
    exact k
  · replace k := k2 c2
    refine x_iconst (pc2 := 18) dX8_several_17 rfl ?_
    exact x_ireturn dX8_several_18 ⟨.int, rfl, rfl⟩ k
set_option maxRecDepth 4000 in
theorem g_X8_several_24 {sc : List Int} {d : Nat} {m : Mem} {Q : Option AV → Mem → Prop} {l1 l2 s0 : Int} (k : S_X8_several sc d 31 [aR 62, aI l1, aI l2, aI s0, aI 1, aI 0, aU, aU, aU] [] m Q) : S_X8_several sc d 24 [aR 62, aI l1, aI l2, aU, aU, aU, aU, aU, aU] [aI s0] m Q := by
  refine x_istore_n (pc2 := 25) (ls2 := [aR 62, aI l1, aI l2, aI s0, aU, aU, aU, aU, aU]) dX8_several_24 rfl (by decide) rfl ?_
  refine x_iconst (pc2 := 26) dX8_several_25 rfl ?_
  refine x_istore (pc2 := 28) (ls2 := [aR 62, aI l1, aI l2, aI s0, aI 1, aU, aU, aU, aU]) dX8_several_26 rfl (by decide) rfl ?_
  refine x_iconst (pc2 := 29) dX8_several_28 rfl ?_
  refine x_istore (pc2 := 31) (ls2 := [aR 62, aI l1, aI l2, aI s0, aI 1, aI 0, aU, aU, aU]) dX8_several_29 rfl (by decide) rfl ?_
  exact k
set_option maxRecDepth 4000 in
theorem g_X8_several_31 {sc : List Int} {d : Nat} {m : Mem} {Q : Option AV → Mem → Prop} {l1 l2 l3 l4 l5 : Int} (k : S_X8_several sc d 34 [aR 62, aI l1, aI l2, aI l3, aI l4, aI l5, aU, aU, aU] [aR 62, aI l5] m Q) : S_X8_several sc d 31 [aR 62, aI l1, aI l2, aI l3, aI l4, aI l5, aU, aU, aU] [] m Q := by
  refine x_iload (pc2 := 33) dX8_several_31 rfl rfl ?_
  refine x_aload_n (pc2 := 34) dX8_several_33 rfl rfl ?_
  exact k
set_option maxRecDepth 4000 in
theorem g_X8_several_37 {sc : List Int} {d : Nat} {m : Mem} {Q : Option AV → Mem → Prop} {l1 l2 l3 l4 l5 s0 s1 : Int} (k : (-2147483648 ≤ s0 ∧ s0 < 2147483648) ∧ (-2147483648 ≤ s1 ∧ s1 < 2147483648) ∧ ((s1 ≤ s0) → (S_X8_several sc d 58 [aR 62, aI l1, aI l2, aI l3, aI l4, aI (-1), aI 0, aU, aU] [] m Q)) ∧ (¬ (s1 ≤ s0) → (S_X8_several sc d 31 [aR 62, aI l1, aI l2, aI l3, aI (l4 * l3), aI (l5 + 1), aU, aU, aU] [] m Q))) : S_X8_several sc d 37 [aR 62, aI l1, aI l2, aI l3, aI l4, aI l5, aU, aU, aU] [aI s1, aI s0] m Q := by
  obtain ⟨h1, k⟩ := k
  obtain ⟨h2, k⟩ := k
  obtain ⟨k1, k2⟩ := k
  refine x_icmp_ge (tgt := 52) (pc2 := 40) dX8_several_37 (by decide) rfl h1 h2 (fun c3 => ?_) (fun c3 => ?_)
  · replace k := k1 c3
    refine x_iconst (pc2 := 53) dX8_several_52 rfl ?_
    refine x_istore (pc2 := 55) (ls2 := [aR 62, aI l1, aI l2, aI l3, aI l4, aI (-1), aU, aU, aU]) dX8_several_53 rfl (by decide) rfl ?_
    refine x_iconst (pc2 := 56) dX8_several_55 rfl ?_
    refine x_istore (pc2 := 58) (ls2 := [aR 62, aI l1, aI l2, aI l3, aI l4, aI (-1), aI 0, aU, aU]) dX8_several_56 rfl (by decide) rfl ?_
    exact k
  · replace k := k2 c3
    refine x_iload (pc2 := 42) dX8_several_40 rfl rfl ?_
    refine x_iload_n (pc2 := 43) dX8_several_42 rfl rfl ?_
    refine x_imul (pc2 := 44) dX8_several_43 rfl ?_
    refine x_istore (pc2 := 46) (ls2 := [aR 62, aI l1, aI l2, aI l3, aI (l4 * l3), aI l5, aU, aU, aU]) dX8_several_44 rfl (by decide) rfl ?_
    refine x_iinc (pc2 := 49) (ls2 := [aR 62, aI l1, aI l2, aI l3, aI (l4 * l3), aI (l5 + 1), aU, aU, aU]) dX8_several_46 rfl rfl (by decide) rfl ?_
    refine x_goto (tgt := 31) dX8_several_49 (by decide) ?_
    exact k
set_option maxRecDepth 4000 in
theorem g_X8_several_58 {sc : List Int} {d : Nat} {m : Mem} {Q : Option AV → Mem → Prop} {l1 l2 l3 l4 l5 l6 : Int} (k : (-2147483648 ≤ l6 ∧ l6 < 2147483648) ∧ (-2147483648 ≤ l4 ∧ l4 < 2147483648) ∧ ((l4 ≤ l6) → (((-2147483648 ≤ l2 ∧ l2 < 2147483648)) ∧ ((l2 ≠ (-1)) → (0 ≤ l2)) ∧ ((l2 ≠ (-1)) → (l2 < 10)) ∧ Q (some (aI (if l2 ≠ (-1) then (m 120 l2) else l5 : Int))) m)) ∧ (¬ (l4 ≤ l6) → (S_X8_several sc d 70 [aR 62, aI l1, aI l2, aI l3, aI l4, aI l5, aI l6, aU, aU] [aI l1, aI l3, aI l6, aR 62] m Q))) : S_X8_several sc d 58 [aR 62, aI l1, aI l2, aI l3, aI l4, aI l5, aI l6, aU, aU] [] m Q := by
  refine x_iload (pc2 := 60) dX8_several_58 rfl rfl ?_
  refine x_iload (pc2 := 62) dX8_several_60 rfl rfl ?_
  obtain ⟨h1, k⟩ := k
  obtain ⟨h2, k⟩ := k
  obtain ⟨k1, k2⟩ := k
  refine x_icmp_ge (tgt := 133) (pc2 := 65) dX8_several_62 (by decide) rfl h1 h2 (fun c3 => ?_) (fun c3 => ?_)
  · replace k := k1 c3
    refine x_iload_n (pc2 := 134) dX8_several_133 rfl rfl ?_
    refine x_iconst (pc2 := 135) dX8_several_134 rfl ?_
    obtain ⟨g5, k⟩ := k
    obtain ⟨g8, k⟩ := k
    obtain ⟨g9, k⟩ := k
    have kj : S_X8_several sc d 149 [aR 62, aI l1, aI l2, aI l3, aI l4, aI l5, aI l6, aU, aU] [aI (if l2 ≠ (-1) then (m 120 l2) else l5 : Int)] m Q := by
      exact x_ireturn dX8_several_149 ⟨.int, rfl, rfl⟩ k
    have h10 := g5 
    refine x_icmp_ne (tgt := 143) (pc2 := 138) dX8_several_135 (by decide) rfl h10 (by decide) (fun c11 => ?_) (fun c11 => ?_)
    · skip
      refine x_aload_n (pc2 := 144) dX8_several_143 rfl rfl ?_
      refine x_getf (pc2 := 147) (v := aR 120) fl_X8_187 ic_62 (vr_62_77 _) dX8_several_144 rfl ?_
      refine x_iload_n (pc2 := 148) dX8_several_147 rfl rfl ?_
      have h12 := g8 c11
      have h13 := g9 c11
      refine x_iald (pc2 := 149) ic_120 h12 (by rw [al_120]; exact h13) dX8_several_148 rfl ?_
      exact x_topI (v := (if l2 ≠ (-1) then (m 120 l2) else l5 : Int)) (if_pos c11) kj
    · skip
      refine x_iload (pc2 := 140) dX8_several_138 rfl rfl ?_
      refine x_goto (tgt := 149) dX8_several_140 (by decide) ?_
      exact x_topI (v := (if l2 ≠ (-1) then (m 120 l2) else l5 : Int)) (if_neg c11) kj
  · replace k := k2 c3
    refine x_aload_n (pc2 := 66) dX8_several_65 rfl rfl ?_
    refine x_iload (pc2 := 68) dX8_several_66 rfl rfl ?_
    refine x_iload_n (pc2 := 69) dX8_several_68 rfl rfl ?_
    refine x_iload_n (pc2 := 70) dX8_several_69 rfl rfl ?_
    exact k
set_option maxRecDepth 4000 in
theorem g_X8_several_73 {sc : List Int} {d : Nat} {m : Mem} {Q : Option AV → Mem → Prop} {l1 l2 l3 l4 l5 l6 s0 : Int} (k : (-2147483648 ≤ l5 ∧ l5 < 2147483648) ∧ ((l5 = (-1)) → (S_X8_several sc d 98 [aR 62, aI l1, aI l2, aI l3, aI l4, aI s0, aI l6, aU, aI 0] [] m Q)) ∧ (¬ (l5 = (-1)) → ((-2147483648 ≤ s0 ∧ s0 < 2147483648) ∧ ((s0 < l5) → (S_X8_several sc d 98 [aR 62, aI l1, aI l2, aI l3, aI l4, aI s0, aI l6, aU, aI 0] [] m Q)) ∧ (¬ (s0 < l5) → (S_X8_several sc d 58 [aR 62, aI l1, aI l2, aI l3, aI l4, aI l5, aI (l6 + 1), aU, aU] [] m Q))))) : S_X8_several sc d 73 [aR 62, aI l1, aI l2, aI l3, aI l4, aI l5, aI l6, aU, aU] [aI s0] m Q := by
  refine x_istore (pc2 := 75) (ls2 := [aR 62, aI l1, aI l2, aI l3, aI l4, aI l5, aI l6, aI s0, aU]) dX8_several_73 rfl (by decide) rfl ?_
  refine x_iload (pc2 := 77) dX8_several_75 rfl rfl ?_
  refine x_iconst (pc2 := 78) dX8_several_77 rfl ?_
  obtain ⟨h1, k⟩ := k
  obtain ⟨k1, k2⟩ := k
  refine x_icmp_eq (tgt := 91) (pc2 := 81) dX8_several_78 (by decide) rfl h1 (by decide) (fun c2 => ?_) (fun c2 => ?_)
  · replace k := k1 c2
    refine x_iload (pc2 := 93) dX8_several_91 rfl rfl ?_
    refine x_istore (pc2 := 95) (ls2 := [aR 62, aI l1, aI l2, aI l3, aI l4, aI s0, aI l6, aI s0, aU]) dX8_several_93 rfl (by decide) rfl ?_
    refine x_iconst (pc2 := 96) dX8_several_95 rfl ?_
    refine x_istore (pc2 := 98) (ls2 := [aR 62, aI l1, aI l2, aI l3, aI l4, aI s0, aI l6, aI s0, aI 0]) dX8_several_96 rfl (by decide) rfl ?_
    exact x_drop (drp_k (drp_k (drp_k (drp_k (drp_k (drp_k (drp_k (drp_u (drp_k drp_n))))))))) k
  · replace k := k2 c2
    refine x_iload (pc2 := 83) dX8_several_81 rfl rfl ?_
    refine x_iload (pc2 := 85) dX8_several_83 rfl rfl ?_
    obtain ⟨h3, k⟩ := k
    obtain ⟨k1, k2⟩ := k
    refine x_icmp_lt (tgt := 91) (pc2 := 88) dX8_several_85 (by decide) rfl h3 h1 (fun c4 => ?_) (fun c4 => ?_)
    · replace k := k1 c4
      refine x_iload (pc2 := 93) dX8_several_91 rfl rfl ?_
      refine x_istore (pc2 := 95) (ls2 := [aR 62, aI l1, aI l2, aI l3, aI l4, aI s0, aI l6, aI s0, aU]) dX8_several_93 rfl (by decide) rfl ?_
      refine x_iconst (pc2 := 96) dX8_several_95 rfl ?_
      refine x_istore (pc2 := 98) (ls2 := [aR 62, aI l1, aI l2, aI l3, aI l4, aI s0, aI l6, aI s0, aI 0]) dX8_several_96 rfl (by decide) rfl ?_
      exact x_drop (drp_k (drp_k (drp_k (drp_k (drp_k (drp_k (drp_k (drp_u (drp_k drp_n))))))))) k
    · replace k := k2 c4
      refine x_goto (tgt := 127) dX8_several_88 (by decide) ?_
      refine x_iinc (pc2 := 130) (ls2 := [aR 62, aI l1, aI l2, aI l3, aI l4, aI l5, aI (l6 + 1), aI s0, aU]) dX8_several_127 rfl rfl (by decide) rfl ?_
      refine x_goto (tgt := 58) dX8_several_130 (by decide) ?_
      exact x_drop (drp_k (drp_k (drp_k (drp_k (drp_k (drp_k (drp_k (drp_u (drp_k drp_n))))))))) k
set_option maxRecDepth 4000 in
theorem g_X8_several_98 {sc : List Int} {d : Nat} {m : Mem} {Q : Option AV → Mem → Prop} {l1 l2 l3 l4 l5 l6 l8 : Int} (k : S_X8_several sc d 101 [aR 62, aI l1, aI l2, aI l3, aI l4, aI l5, aI l6, aU, aI l8] [aR 62, aI l8] m Q) : S_X8_several sc d 98 [aR 62, aI l1, aI l2, aI l3, aI l4, aI l5, aI l6, aU, aI l8] [] m Q := by
  refine x_iload (pc2 := 100) dX8_several_98 rfl rfl ?_
  refine x_aload_n (pc2 := 101) dX8_several_100 rfl rfl ?_
  exact k
set_option maxRecDepth 4000 in
theorem g_X8_several_104 {sc : List Int} {d : Nat} {m : Mem} {Q : Option AV → Mem → Prop} {l1 l2 l3 l4 l5 l6 l8 s0 s1 : Int} (k : (-2147483648 ≤ s0 ∧ s0 < 2147483648) ∧ (-2147483648 ≤ s1 ∧ s1 < 2147483648) ∧ ((s1 ≤ s0) → (S_X8_several sc d 58 [aR 62, aI l1, aI l2, aI l3, aI l4, aI l5, aI (l6 + 1), aU, aU] [] m Q)) ∧ (¬ (s1 ≤ s0) → ((0 ≤ l8) ∧ (l8 < 10) ∧ S_X8_several sc d 98 [aR 62, aI l1, aI l2, aI l3, aI l4, aI l5, aI l6, aU, aI (l8 + 1)] [] (wr m 120 l8 (m 119 l8)) Q))) : S_X8_several sc d 104 [aR 62, aI l1, aI l2, aI l3, aI l4, aI l5, aI l6, aU, aI l8] [aI s1, aI s0] m Q := by
  obtain ⟨h1, k⟩ := k
  obtain ⟨h2, k⟩ := k
  obtain ⟨k1, k2⟩ := k
  refine x_icmp_ge (tgt := 127) (pc2 := 107) dX8_several_104 (by decide) rfl h1 h2 (fun c3 => ?_) (fun c3 => ?_)
  · replace k := k1 c3
    refine x_iinc (pc2 := 130) (ls2 := [aR 62, aI l1, aI l2, aI l3, aI l4, aI l5, aI (l6 + 1), aU, aI l8]) dX8_several_127 rfl rfl (by decide) rfl ?_
    refine x_goto (tgt := 58) dX8_several_130 (by decide) ?_
    exact x_drop (drp_k (drp_k (drp_k (drp_k (drp_k (drp_k (drp_k (drp_k (drp_u drp_n))))))))) k
  · replace k := k2 c3
    refine x_aload_n (pc2 := 108) dX8_several_107 rfl rfl ?_
    refine x_getf (pc2 := 111) (v := aR 120) fl_X8_187 ic_62 (vr_62_77 _) dX8_several_108 rfl ?_
    refine x_iload (pc2 := 113) dX8_several_111 rfl rfl ?_
    refine x_aload_n (pc2 := 114) dX8_several_113 rfl rfl ?_
    refine x_getf (pc2 := 117) (v := aR 119) fl_X8_184 ic_62 (vr_62_76 _) dX8_several_114 rfl ?_
    refine x_iload (pc2 := 119) dX8_several_117 rfl rfl ?_
    obtain ⟨h4, k⟩ := k
    obtain ⟨h5, k⟩ := k
    refine x_iald (pc2 := 120) ic_119 h4 (by rw [al_119]; exact h5) dX8_several_119 rfl ?_
    refine x_iast (pc2 := 121) ic_120 h4 (by rw [al_120]; exact h5) dX8_several_120 rfl ?_
    refine x_iinc (pc2 := 124) (ls2 := [aR 62, aI l1, aI l2, aI l3, aI l4, aI l5, aI l6, aU, aI (l8 + 1)]) dX8_several_121 rfl rfl (by decide) rfl ?_
    refine x_goto (tgt := 98) dX8_several_124 (by decide) ?_
    exact k
theorem c_X8_several_3 {sc : List Int} {d d2 : Nat} {m m2 : Mem} {Q : Option AV → Mem → Prop} {l1 l2 s1 s2 : Int} {v : Int} (hM : C_X8_isAsked sc d2 [aR 62, aI s1, aI s2] m (some (aI v)) m2) (hd : d2 + 1 ≤ d) (k : S_X8_several sc d 6 [aR 62, aI l1, aI l2, aU, aU, aU, aU, aU, aU] [aI v] m2 Q) : S_X8_several sc d 3 [aR 62, aI l1, aI l2, aU, aU, aU, aU, aU, aU] [aI s2, aI s1, aR 62] m Q := x_callV (as := [aI s1, aI s2]) (rest := []) hM mk_X8_isAsked mv_X8_isAsked lk_X8_554 (Or.inl ⟨8, (RX8, TX8, 123), ic_62, Nat.le_of_ble_eq_true rfl, rfl, rfl⟩) hd rfl rfl (Nat.le_of_ble_eq_true rfl) dX8_several_3 rfl k
theorem c_X8_several_11 {sc : List Int} {d d2 : Nat} {m m2 : Mem} {Q : Option AV → Mem → Prop} {l1 l2 s1 : Int} {v : Int} (hM : C_X8_packs sc d2 [aR 62, aI s1] m (some (aI v)) m2) (hd : d2 + 1 ≤ d) (k : S_X8_several sc d 14 [aR 62, aI l1, aI l2, aU, aU, aU, aU, aU, aU] [aI v] m2 Q) : S_X8_several sc d 11 [aR 62, aI l1, aI l2, aU, aU, aU, aU, aU, aU] [aI s1, aR 62] m Q := x_callV (as := [aI s1]) (rest := []) hM mk_X8_packs mv_X8_packs lk_X8_557 (Or.inl ⟨8, (RX8, TX8, 123), ic_62, Nat.le_of_ble_eq_true rfl, rfl, rfl⟩) hd rfl rfl (Nat.le_of_ble_eq_true rfl) dX8_several_11 rfl k
theorem c_X8_several_21 {sc : List Int} {d d2 : Nat} {m m2 : Mem} {Q : Option AV → Mem → Prop} {l1 l2 s1 : Int} {v : Int} (hM : C_X8_settingOf sc d2 [aR 62, aI s1] m (some (aI v)) m2) (hd : d2 + 1 ≤ d) (k : S_X8_several sc d 24 [aR 62, aI l1, aI l2, aU, aU, aU, aU, aU, aU] [aI v] m2 Q) : S_X8_several sc d 21 [aR 62, aI l1, aI l2, aU, aU, aU, aU, aU, aU] [aI s1, aR 62] m Q := x_callV (as := [aI s1]) (rest := []) hM mk_X8_settingOf mv_X8_settingOf lk_X8_461 (Or.inl ⟨8, (RX8, TX8, 123), ic_62, Nat.le_of_ble_eq_true rfl, rfl, rfl⟩) hd rfl rfl (Nat.le_of_ble_eq_true rfl) dX8_several_21 rfl k
theorem c_X8_several_34 {sc : List Int} {d d2 : Nat} {m m2 : Mem} {Q : Option AV → Mem → Prop} {l1 l2 l3 l4 l5 s0 : Int} {v : Int} (hM : C_X8_seamMany sc d2 [aR 62] m (some (aI v)) m2) (hd : d2 + 1 ≤ d) (k : S_X8_several sc d 37 [aR 62, aI l1, aI l2, aI l3, aI l4, aI l5, aU, aU, aU] [aI v, aI s0] m2 Q) : S_X8_several sc d 34 [aR 62, aI l1, aI l2, aI l3, aI l4, aI l5, aU, aU, aU] [aR 62, aI s0] m Q := x_callV (as := []) (rest := [aI s0]) hM mk_X8_seamMany mv_X8_seamMany lk_X8_431 (Or.inl ⟨8, (RX8, TX8, 123), ic_62, Nat.le_of_ble_eq_true rfl, rfl, rfl⟩) hd rfl rfl (Nat.le_of_ble_eq_true rfl) dX8_several_34 rfl k
theorem c_X8_several_70 {sc : List Int} {d d2 : Nat} {m m2 : Mem} {Q : Option AV → Mem → Prop} {l1 l2 l3 l4 l5 l6 s1 s2 s3 : Int} {v : Int} (hM : C_X8_lastDone sc d2 [aR 62, aI s1, aI s2, aI s3] m (some (aI v)) m2) (hd : d2 + 1 ≤ d) (k : S_X8_several sc d 73 [aR 62, aI l1, aI l2, aI l3, aI l4, aI l5, aI l6, aU, aU] [aI v] m2 Q) : S_X8_several sc d 70 [aR 62, aI l1, aI l2, aI l3, aI l4, aI l5, aI l6, aU, aU] [aI s3, aI s2, aI s1, aR 62] m Q := x_callV (as := [aI s1, aI s2, aI s3]) (rest := []) hM mk_X8_lastDone mv_X8_lastDone lk_X8_582 (Or.inl ⟨8, (RX8, TX8, 123), ic_62, Nat.le_of_ble_eq_true rfl, rfl, rfl⟩) hd rfl rfl (Nat.le_of_ble_eq_true rfl) dX8_several_70 rfl k
theorem c_X8_several_101 {sc : List Int} {d d2 : Nat} {m m2 : Mem} {Q : Option AV → Mem → Prop} {l1 l2 l3 l4 l5 l6 l8 s0 : Int} {v : Int} (hM : C_X8_seamMany sc d2 [aR 62] m (some (aI v)) m2) (hd : d2 + 1 ≤ d) (k : S_X8_several sc d 104 [aR 62, aI l1, aI l2, aI l3, aI l4, aI l5, aI l6, aU, aI l8] [aI v, aI s0] m2 Q) : S_X8_several sc d 101 [aR 62, aI l1, aI l2, aI l3, aI l4, aI l5, aI l6, aU, aI l8] [aR 62, aI s0] m Q := x_callV (as := []) (rest := [aI s0]) hM mk_X8_seamMany mv_X8_seamMany lk_X8_431 (Or.inl ⟨8, (RX8, TX8, 123), ic_62, Nat.le_of_ble_eq_true rfl, rfl, rfl⟩) hd rfl rfl (Nat.le_of_ble_eq_true rfl) dX8_several_101 rfl k
set_option maxRecDepth 4000 in
theorem g_X8_wound_0 {sc : List Int} {d : Nat} {m : Mem} {Q : Option AV → Mem → Prop} {l1 : Int} (k : (-2147483648 ≤ l1 ∧ l1 < 2147483648) ∧ S_X8_wound sc d 6 [aR 62, aI l1, aU, aU, aU] [aJ 99, aJ 0, aJ l1] m Q) : S_X8_wound sc d 0 [aR 62, aI l1, aU, aU, aU] [] m Q := by
  refine x_iload_n (pc2 := 1) dX8_wound_0 rfl rfl ?_
  obtain ⟨h1, k⟩ := k
  refine x_i2l (pc2 := 2) dX8_wound_1 rfl h1 ?_
  refine x_lconst (pc2 := 3) (v := 0) dX8_wound_2 rfl rfl ?_
  refine x_ldc2 (pc2 := 6) (x := 99) kc_X8_513 rfl dX8_wound_3 rfl ?_
  exact k
set_option maxRecDepth 4000 in
theorem g_X8_wound_9 {sc : List Int} {d : Nat} {m : Mem} {Q : Option AV → Mem → Prop} {l1 s0 : Int} (k : (-2147483648 ≤ s0 ∧ s0 < 2147483648) ∧ ((s0 ≠ 0) → (S_X8_wound sc d 23 [aR 62, aI l1, aI 1, aU, aU] [] (wr m 123 0 0) Q)) ∧ (¬ (s0 ≠ 0) → (Q (some (aI (-1))) m))) : S_X8_wound sc d 9 [aR 62, aI l1, aU, aU, aU] [aI s0] m Q := by
  obtain ⟨h1, k⟩ := k
  obtain ⟨k1, k2⟩ := k
  refine x_if_ne (tgt := 14) (pc2 := 12) dX8_wound_9 (by decide) rfl h1 (fun c2 => ?_) (fun c2 => ?_)
  · replace k := k1 c2
    refine x_aload_n (pc2 := 15) dX8_wound_14 rfl rfl ?_
    refine x_getf (pc2 := 18) (v := aR 123) fl_X8_196 ic_62 (vr_62_80 _) dX8_wound_15 rfl ?_
    refine x_iconst (pc2 := 19) dX8_wound_18 rfl ?_
    refine x_iconst (pc2 := 20) dX8_wound_19 rfl ?_
    refine x_iast (pc2 := 21) ic_123 (by decide) (by rw [al_123]; decide) dX8_wound_20 rfl ?_
    refine x_iconst (pc2 := 22) dX8_wound_21 rfl ?_
    refine x_istore_n (pc2 := 23) (ls2 := [aR 62, aI l1, aI 1, aU, aU]) dX8_wound_22 rfl (by decide) rfl ?_
    exact k
  · replace k := k2 c2
    refine x_iconst (pc2 := 13) dX8_wound_12 rfl ?_
    exact x_ireturn dX8_wound_13 ⟨.int, rfl, rfl⟩ k
set_option maxRecDepth 4000 in
theorem g_X8_wound_23 {sc : List Int} {d : Nat} {m : Mem} {Q : Option AV → Mem → Prop} {l1 l2 : Int} (k : (-2147483648 ≤ l2 ∧ l2 < 2147483648) ∧ (-2147483648 ≤ l1 ∧ l1 < 2147483648) ∧ ((l1 < l2) → ((0 ≤ l1) ∧ (l1 < 100) ∧ Q (some (aI (m 123 l1))) m)) ∧ (¬ (l1 < l2) → ((0 ≤ (l2 - 1)) ∧ ((l2 - 1) < 100) ∧ S_X8_wound sc d 38 [aR 62, aI l1, aI l2, aU, aU] [aI 0, aR 62, aI (m 123 (l2 - 1))] m Q))) : S_X8_wound sc d 23 [aR 62, aI l1, aI l2, aU, aU] [] m Q := by
  refine x_iload_n (pc2 := 24) dX8_wound_23 rfl rfl ?_
  refine x_iload_n (pc2 := 25) dX8_wound_24 rfl rfl ?_
  obtain ⟨h1, k⟩ := k
  obtain ⟨h2, k⟩ := k
  obtain ⟨k1, k2⟩ := k
  refine x_icmp_gt (tgt := 100) (pc2 := 28) dX8_wound_25 (by decide) rfl h1 h2 (fun c3 => ?_) (fun c3 => ?_)
  · replace k := k1 c3
    refine x_aload_n (pc2 := 101) dX8_wound_100 rfl rfl ?_
    refine x_getf (pc2 := 104) (v := aR 123) fl_X8_196 ic_62 (vr_62_80 _) dX8_wound_101 rfl ?_
    refine x_iload_n (pc2 := 105) dX8_wound_104 rfl rfl ?_
    obtain ⟨h4, k⟩ := k
    obtain ⟨h5, k⟩ := k
    refine x_iald (pc2 := 106) ic_123 h4 (by rw [al_123]; exact h5) dX8_wound_105 rfl ?_
    exact x_ireturn dX8_wound_106 ⟨.int, rfl, rfl⟩ k
  · replace k := k2 c3
    refine x_aload_n (pc2 := 29) dX8_wound_28 rfl rfl ?_
    refine x_getf (pc2 := 32) (v := aR 123) fl_X8_196 ic_62 (vr_62_80 _) dX8_wound_29 rfl ?_
    refine x_iload_n (pc2 := 33) dX8_wound_32 rfl rfl ?_
    refine x_iconst (pc2 := 34) dX8_wound_33 rfl ?_
    refine x_isub (pc2 := 35) dX8_wound_34 rfl ?_
    obtain ⟨h6, k⟩ := k
    obtain ⟨h7, k⟩ := k
    refine x_iald (pc2 := 36) ic_123 h6 (by rw [al_123]; exact h7) dX8_wound_35 rfl ?_
    refine x_aload_n (pc2 := 37) dX8_wound_36 rfl rfl ?_
    refine x_iconst (pc2 := 38) dX8_wound_37 rfl ?_
    exact k
set_option maxRecDepth 4000 in
theorem g_X8_wound_41 {sc : List Int} {d : Nat} {m : Mem} {Q : Option AV → Mem → Prop} {l1 l2 s0 s1 : Int} (k : S_X8_wound sc d 50 [aR 62, aI l1, aI l2, aI (s0 + s1), aU] [aI 4, aR 62, aI l2, aR 123] m Q) : S_X8_wound sc d 41 [aR 62, aI l1, aI l2, aU, aU] [aI s1, aI s0] m Q := by
  refine x_iadd (pc2 := 42) dX8_wound_41 rfl ?_
  refine x_istore_n (pc2 := 43) (ls2 := [aR 62, aI l1, aI l2, aI (s0 + s1), aU]) dX8_wound_42 rfl (by decide) rfl ?_
  refine x_aload_n (pc2 := 44) dX8_wound_43 rfl rfl ?_
  refine x_getf (pc2 := 47) (v := aR 123) fl_X8_196 ic_62 (vr_62_80 _) dX8_wound_44 rfl ?_
  refine x_iload_n (pc2 := 48) dX8_wound_47 rfl rfl ?_
  refine x_aload_n (pc2 := 49) dX8_wound_48 rfl rfl ?_
  refine x_iconst (pc2 := 50) dX8_wound_49 rfl ?_
  exact k
set_option maxRecDepth 4000 in
theorem g_X8_wound_53 {sc : List Int} {d : Nat} {m : Mem} {Q : Option AV → Mem → Prop} {l1 l2 l3 s0 s1 s2 : Int} (Hs0 : IsC s0 100) (k : (-2147483648 ≤ s1 ∧ s1 < 2147483648) ∧ (-2147483648 ≤ s2 ∧ s2 < 2147483648) ∧ ((s1 ≤ s2) → ((0 < alen s0) ∧ S_X8_wound sc d 70 [aR 62, aI l1, aI l2, aI l3, aU] [aI 3, aR 62, aI (m s0 0)] m Q)) ∧ (¬ (s1 ≤ s2) → (S_X8_wound sc d 59 [aR 62, aI l1, aI l2, aI l3, aU] [aI 4, aR 62, aI l2, aR s0] m Q))) : S_X8_wound sc d 53 [aR 62, aI l1, aI l2, aI l3, aU] [aI s2, aI s1, aR s0] m Q := by
  obtain ⟨h1, k⟩ := k
  obtain ⟨h2, k⟩ := k
  obtain ⟨k1, k2⟩ := k
  refine x_icmp_le (tgt := 66) (pc2 := 56) dX8_wound_53 (by decide) rfl h1 h2 (fun c3 => ?_) (fun c3 => ?_)
  · replace k := k1 c3
    refine x_iconst (pc2 := 67) dX8_wound_66 rfl ?_
    obtain ⟨h4, k⟩ := k
    refine x_iald (pc2 := 68) Hs0 (by decide) h4 dX8_wound_67 rfl ?_
    refine x_aload_n (pc2 := 69) dX8_wound_68 rfl rfl ?_
    refine x_iconst (pc2 := 70) dX8_wound_69 rfl ?_
    exact k
  · replace k := k2 c3
    refine x_iload_n (pc2 := 57) dX8_wound_56 rfl rfl ?_
    refine x_aload_n (pc2 := 58) dX8_wound_57 rfl rfl ?_
    refine x_iconst (pc2 := 59) dX8_wound_58 rfl ?_
    exact k
set_option maxRecDepth 4000 in
theorem g_X8_wound_62 {sc : List Int} {d : Nat} {m : Mem} {Q : Option AV → Mem → Prop} {l1 l2 l3 s0 s1 s2 : Int} (Hs0 : IsC s0 100) (k : (0 ≤ (s1 - s2)) ∧ ((s1 - s2) < alen s0) ∧ S_X8_wound sc d 70 [aR 62, aI l1, aI l2, aI l3, aU] [aI 3, aR 62, aI (m s0 (s1 - s2))] m Q) : S_X8_wound sc d 62 [aR 62, aI l1, aI l2, aI l3, aU] [aI s2, aI s1, aR s0] m Q := by
  refine x_isub (pc2 := 63) dX8_wound_62 rfl ?_
  refine x_goto (tgt := 67) dX8_wound_63 (by decide) ?_
  obtain ⟨h1, k⟩ := k
  obtain ⟨h2, k⟩ := k
  refine x_iald (pc2 := 68) Hs0 h1 h2 dX8_wound_67 rfl ?_
  refine x_aload_n (pc2 := 69) dX8_wound_68 rfl rfl ?_
  refine x_iconst (pc2 := 70) dX8_wound_69 rfl ?_
  exact k
set_option maxRecDepth 4000 in
theorem g_X8_wound_73 {sc : List Int} {d : Nat} {m : Mem} {Q : Option AV → Mem → Prop} {l1 l2 l3 s0 s1 : Int} (k : ((-2147483648 ≤ l3 ∧ l3 < 2147483648)) ∧ ((-2147483648 ≤ (s0 + s1) ∧ (s0 + s1) < 2147483648)) ∧ (0 ≤ l2) ∧ (l2 < 100) ∧ S_X8_wound sc d 23 [aR 62, aI l1, aI (l2 + 1), aU, aU] [] (wr m 123 l2 (if (s0 + s1) ≤ l3 then (s0 + s1) else l3 : Int)) Q) : S_X8_wound sc d 73 [aR 62, aI l1, aI l2, aI l3, aU] [aI s1, aI s0] m Q := by
  refine x_iadd (pc2 := 74) dX8_wound_73 rfl ?_
  refine x_istore (pc2 := 76) (ls2 := [aR 62, aI l1, aI l2, aI l3, aI (s0 + s1)]) dX8_wound_74 rfl (by decide) rfl ?_
  refine x_aload_n (pc2 := 77) dX8_wound_76 rfl rfl ?_
  refine x_getf (pc2 := 80) (v := aR 123) fl_X8_196 ic_62 (vr_62_80 _) dX8_wound_77 rfl ?_
  refine x_iload_n (pc2 := 81) dX8_wound_80 rfl rfl ?_
  refine x_iload_n (pc2 := 82) dX8_wound_81 rfl rfl ?_
  refine x_iload (pc2 := 84) dX8_wound_82 rfl rfl ?_
  obtain ⟨g3, k⟩ := k
  obtain ⟨g4, k⟩ := k
  have kj : S_X8_wound sc d 93 [aR 62, aI l1, aI l2, aI l3, aI (s0 + s1)] [aI (if (s0 + s1) ≤ l3 then (s0 + s1) else l3 : Int), aI l2, aR 123] m Q := by
    obtain ⟨h5, k⟩ := k
    obtain ⟨h6, k⟩ := k
    refine x_iast (pc2 := 94) ic_123 h5 (by rw [al_123]; exact h6) dX8_wound_93 rfl ?_
    refine x_iinc (pc2 := 97) (ls2 := [aR 62, aI l1, aI (l2 + 1), aI l3, aI (s0 + s1)]) dX8_wound_94 rfl rfl (by decide) rfl ?_
    refine x_goto (tgt := 23) dX8_wound_97 (by decide) ?_
    exact x_drop (drp_k (drp_k (drp_k (drp_u (drp_u drp_n))))) k
  have h7 := g3 
  have h8 := g4 
  refine x_icmp_ge (tgt := 91) (pc2 := 87) dX8_wound_84 (by decide) rfl h7 h8 (fun c9 => ?_) (fun c9 => ?_)
  · skip
    refine x_iload (pc2 := 93) dX8_wound_91 rfl rfl ?_
    exact x_topI (v := (if (s0 + s1) ≤ l3 then (s0 + s1) else l3 : Int)) (if_pos c9) kj
  · skip
    refine x_iload_n (pc2 := 88) dX8_wound_87 rfl rfl ?_
    refine x_goto (tgt := 93) dX8_wound_88 (by decide) ?_
    exact x_topI (v := (if (s0 + s1) ≤ l3 then (s0 + s1) else l3 : Int)) (if_neg c9) kj
theorem c_X8_wound_6 {sc : List Int} {d d2 : Nat} {m m2 : Mem} {Q : Option AV → Mem → Prop} {l1 s0 s1 s2 : Int} {v : Int} (hM : C_X8_isIn sc d2 [aJ s0, aJ s1, aJ s2] m (some (aI v)) m2) (hd : d2 + 1 ≤ d) (k : S_X8_wound sc d 9 [aR 62, aI l1, aU, aU, aU] [aI v] m2 Q) : S_X8_wound sc d 6 [aR 62, aI l1, aU, aU, aU] [aJ s2, aJ s1, aJ s0] m Q := x_callS (as := [aJ s0, aJ s1, aJ s2]) (rest := []) hM mk_X8_isIn ms_X8_isIn lk_X8_333 hd rfl rfl (Nat.le_of_ble_eq_true rfl) dX8_wound_6 rfl k
theorem c_X8_wound_38 {sc : List Int} {d d2 : Nat} {m m2 : Mem} {Q : Option AV → Mem → Prop} {l1 l2 s0 s2 : Int} {v : Int} (hM : C_X8_settingOf sc d2 [aR 62, aI s2] m (some (aI v)) m2) (hd : d2 + 1 ≤ d) (k : S_X8_wound sc d 41 [aR 62, aI l1, aI l2, aU, aU] [aI v, aI s0] m2 Q) : S_X8_wound sc d 38 [aR 62, aI l1, aI l2, aU, aU] [aI s2, aR 62, aI s0] m Q := x_callV (as := [aI s2]) (rest := [aI s0]) hM mk_X8_settingOf mv_X8_settingOf lk_X8_461 (Or.inl ⟨8, (RX8, TX8, 123), ic_62, Nat.le_of_ble_eq_true rfl, rfl, rfl⟩) hd rfl rfl (Nat.le_of_ble_eq_true rfl) dX8_wound_38 rfl k
theorem c_X8_wound_50 {sc : List Int} {d d2 : Nat} {m m2 : Mem} {Q : Option AV → Mem → Prop} {l1 l2 l3 s0 s1 s3 : Int} {v : Int} (Hs0 : IsC s0 100) (hM : C_X8_settingOf sc d2 [aR 62, aI s3] m (some (aI v)) m2) (hd : d2 + 1 ≤ d) (k : S_X8_wound sc d 53 [aR 62, aI l1, aI l2, aI l3, aU] [aI v, aI s1, aR s0] m2 Q) : S_X8_wound sc d 50 [aR 62, aI l1, aI l2, aI l3, aU] [aI s3, aR 62, aI s1, aR s0] m Q := x_callV (as := [aI s3]) (rest := [aI s1, aR s0]) hM mk_X8_settingOf mv_X8_settingOf lk_X8_461 (Or.inl ⟨8, (RX8, TX8, 123), ic_62, Nat.le_of_ble_eq_true rfl, rfl, rfl⟩) hd rfl rfl (Nat.le_of_ble_eq_true rfl) dX8_wound_50 rfl k
theorem c_X8_wound_59 {sc : List Int} {d d2 : Nat} {m m2 : Mem} {Q : Option AV → Mem → Prop} {l1 l2 l3 s0 s1 s3 : Int} {v : Int} (Hs0 : IsC s0 100) (hM : C_X8_settingOf sc d2 [aR 62, aI s3] m (some (aI v)) m2) (hd : d2 + 1 ≤ d) (k : S_X8_wound sc d 62 [aR 62, aI l1, aI l2, aI l3, aU] [aI v, aI s1, aR s0] m2 Q) : S_X8_wound sc d 59 [aR 62, aI l1, aI l2, aI l3, aU] [aI s3, aR 62, aI s1, aR s0] m Q := x_callV (as := [aI s3]) (rest := [aI s1, aR s0]) hM mk_X8_settingOf mv_X8_settingOf lk_X8_461 (Or.inl ⟨8, (RX8, TX8, 123), ic_62, Nat.le_of_ble_eq_true rfl, rfl, rfl⟩) hd rfl rfl (Nat.le_of_ble_eq_true rfl) dX8_wound_59 rfl k
theorem c_X8_wound_70 {sc : List Int} {d d2 : Nat} {m m2 : Mem} {Q : Option AV → Mem → Prop} {l1 l2 l3 s0 s2 : Int} {v : Int} (hM : C_X8_settingOf sc d2 [aR 62, aI s2] m (some (aI v)) m2) (hd : d2 + 1 ≤ d) (k : S_X8_wound sc d 73 [aR 62, aI l1, aI l2, aI l3, aU] [aI v, aI s0] m2 Q) : S_X8_wound sc d 70 [aR 62, aI l1, aI l2, aI l3, aU] [aI s2, aR 62, aI s0] m Q := x_callV (as := [aI s2]) (rest := [aI s0]) hM mk_X8_settingOf mv_X8_settingOf lk_X8_461 (Or.inl ⟨8, (RX8, TX8, 123), ic_62, Nat.le_of_ble_eq_true rfl, rfl, rfl⟩) hd rfl rfl (Nat.le_of_ble_eq_true rfl) dX8_wound_70 rfl k
set_option maxRecDepth 4000 in
theorem g_X8_keeps_0 {sc : List Int} {d : Nat} {m : Mem} {Q : Option AV → Mem → Prop} (k : (-2147483648 ≤ ((m 62 84) + 1) ∧ ((m 62 84) + 1) < 2147483648) ∧ S_X8_keeps sc d 15 [aR 62, aI 0] [] (wr m 62 84 (((m 62 84) + 1).tmod 20)) Q) : S_X8_keeps sc d 0 [aR 62, aU] [] m Q := by
  refine x_aload_n (pc2 := 1) dX8_keeps_0 rfl rfl ?_
  refine x_aload_n (pc2 := 2) dX8_keeps_1 rfl rfl ?_
  refine x_getf (pc2 := 5) (v := aI (m 62 84)) fl_X8_586 ic_62 (fv_i _ ic_62 rfl) dX8_keeps_2 rfl ?_
  refine x_iconst (pc2 := 6) dX8_keeps_5 rfl ?_
  refine x_iadd (pc2 := 7) dX8_keeps_6 rfl ?_
  refine x_bipush (pc2 := 9) dX8_keeps_7 rfl rfl ?_
  obtain ⟨h1, k⟩ := k
  refine x_irem (pc2 := 10) dX8_keeps_9 rfl h1 (by decide) (by decide) ?_
  refine x_putf (pc2 := 13) (x := (((m 62 84) + 1).tmod 20)) fl_X8_586 ft_8_84 ic_62 (pv_i _ ic_62 rfl) (pn_i _) dX8_keeps_10 rfl ?_
  refine x_iconst (pc2 := 14) dX8_keeps_13 rfl ?_
  refine x_istore_n (pc2 := 15) (ls2 := [aR 62, aI 0]) dX8_keeps_14 rfl (by decide) rfl ?_
  exact k
set_option maxRecDepth 4000 in
theorem g_X8_keeps_15 {sc : List Int} {d : Nat} {m : Mem} {Q : Option AV → Mem → Prop} {l1 : Int} (k : (-2147483648 ≤ l1 ∧ l1 < 2147483648) ∧ ((6 ≤ l1) → ((-2147483648 ≤ (m 62 83) ∧ (m 62 83) < 2147483648) ∧ ((20 ≤ (m 62 83)) → (Q none m)) ∧ (¬ (20 ≤ (m 62 83)) → (Q none (wr m 62 83 ((m 62 83) + 1)))))) ∧ (¬ (6 ≤ l1) → ((0 ≤ l1) ∧ (l1 < 6) ∧ (0 ≤ ((6 * (m 62 84)) + l1)) ∧ (((6 * (m 62 84)) + l1) < 120) ∧ S_X8_keeps sc d 15 [aR 62, aI (l1 + 1)] [] (wr m 125 ((6 * (m 62 84)) + l1) (m 124 l1)) Q))) : S_X8_keeps sc d 15 [aR 62, aI l1] [] m Q := by
  refine x_iload_n (pc2 := 16) dX8_keeps_15 rfl rfl ?_
  refine x_bipush (pc2 := 18) dX8_keeps_16 rfl rfl ?_
  obtain ⟨h1, k⟩ := k
  obtain ⟨k1, k2⟩ := k
  refine x_icmp_ge (tgt := 47) (pc2 := 21) dX8_keeps_18 (by decide) rfl h1 (by decide) (fun c2 => ?_) (fun c2 => ?_)
  · replace k := k1 c2
    refine x_aload_n (pc2 := 48) dX8_keeps_47 rfl rfl ?_
    refine x_getf (pc2 := 51) (v := aI (m 62 83)) fl_X8_425 ic_62 (fv_i _ ic_62 rfl) dX8_keeps_48 rfl ?_
    refine x_bipush (pc2 := 53) dX8_keeps_51 rfl rfl ?_
    obtain ⟨h3, k⟩ := k
    obtain ⟨k1, k2⟩ := k
    refine x_icmp_ge (tgt := 66) (pc2 := 56) dX8_keeps_53 (by decide) rfl h3 (by decide) (fun c4 => ?_) (fun c4 => ?_)
    · replace k := k1 c4
      exact x_return dX8_keeps_66 rfl k
    · replace k := k2 c4
      refine x_aload_n (pc2 := 57) dX8_keeps_56 rfl rfl ?_
      refine x_dup_r (pc2 := 58) dX8_keeps_57 rfl (by decide) ?_
      refine x_getf (pc2 := 61) (v := aI (m 62 83)) fl_X8_425 ic_62 (fv_i _ ic_62 rfl) dX8_keeps_58 rfl ?_
      refine x_iconst (pc2 := 62) dX8_keeps_61 rfl ?_
      refine x_iadd (pc2 := 63) dX8_keeps_62 rfl ?_
      refine x_putf (pc2 := 66) (x := ((m 62 83) + 1)) fl_X8_425 ft_8_83 ic_62 (pv_i _ ic_62 rfl) (pn_i _) dX8_keeps_63 rfl ?_
      exact x_return dX8_keeps_66 rfl k
  · replace k := k2 c2
    refine x_aload_n (pc2 := 22) dX8_keeps_21 rfl rfl ?_
    refine x_getf (pc2 := 25) (v := aR 125) fl_X8_202 ic_62 (vr_62_82 _) dX8_keeps_22 rfl ?_
    refine x_bipush (pc2 := 27) dX8_keeps_25 rfl rfl ?_
    refine x_aload_n (pc2 := 28) dX8_keeps_27 rfl rfl ?_
    refine x_getf (pc2 := 31) (v := aI (m 62 84)) fl_X8_586 ic_62 (fv_i _ ic_62 rfl) dX8_keeps_28 rfl ?_
    refine x_imul (pc2 := 32) dX8_keeps_31 rfl ?_
    refine x_iload_n (pc2 := 33) dX8_keeps_32 rfl rfl ?_
    refine x_iadd (pc2 := 34) dX8_keeps_33 rfl ?_
    refine x_aload_n (pc2 := 35) dX8_keeps_34 rfl rfl ?_
    refine x_getf (pc2 := 38) (v := aR 124) fl_X8_199 ic_62 (vr_62_81 _) dX8_keeps_35 rfl ?_
    refine x_iload_n (pc2 := 39) dX8_keeps_38 rfl rfl ?_
    obtain ⟨h5, k⟩ := k
    obtain ⟨h6, k⟩ := k
    refine x_iald (pc2 := 40) ic_124 h5 (by rw [al_124]; exact h6) dX8_keeps_39 rfl ?_
    obtain ⟨h7, k⟩ := k
    obtain ⟨h8, k⟩ := k
    refine x_iast (pc2 := 41) ic_125 h7 (by rw [al_125]; exact h8) dX8_keeps_40 rfl ?_
    refine x_iinc (pc2 := 44) (ls2 := [aR 62, aI (l1 + 1)]) dX8_keeps_41 rfl rfl (by decide) rfl ?_
    refine x_goto (tgt := 15) dX8_keeps_44 (by decide) ?_
    exact k
set_option maxRecDepth 4000 in
theorem g_X8_undo_0 {sc : List Int} {d : Nat} {m : Mem} {Q : Option AV → Mem → Prop} (k : (-2147483648 ≤ (m 62 83) ∧ (m 62 83) < 2147483648) ∧ (((m 62 83) ≠ 0) → (S_X8_undo sc d 21 [aR 62, aI 0] [] m Q)) ∧ (¬ ((m 62 83) ≠ 0) → (Q (some (aI 0)) (wr m 64 3 ((m 64 3) + 1))))) : S_X8_undo sc d 0 [aR 62, aU] [] m Q := by
  refine x_aload_n (pc2 := 1) dX8_undo_0 rfl rfl ?_
  refine x_getf (pc2 := 4) (v := aI (m 62 83)) fl_X8_425 ic_62 (fv_i _ ic_62 rfl) dX8_undo_1 rfl ?_
  obtain ⟨h1, k⟩ := k
  obtain ⟨k1, k2⟩ := k
  refine x_if_ne (tgt := 19) (pc2 := 7) dX8_undo_4 (by decide) rfl h1 (fun c2 => ?_) (fun c2 => ?_)
  · replace k := k1 c2
    refine x_iconst (pc2 := 20) dX8_undo_19 rfl ?_
    refine x_istore_n (pc2 := 21) (ls2 := [aR 62, aI 0]) dX8_undo_20 rfl (by decide) rfl ?_
    exact k
  · replace k := k2 c2
    refine x_aload_n (pc2 := 8) dX8_undo_7 rfl rfl ?_
    refine x_getf (pc2 := 11) (v := aR 64) fl_X8_17 ic_62 (vr_62_9 _) dX8_undo_8 rfl ?_
    refine x_iconst (pc2 := 12) dX8_undo_11 rfl ?_
    refine x_dup2_ri (pc2 := 13) dX8_undo_12 rfl (by decide) ?_
    refine x_iald (pc2 := 14) ic_64 (by decide) (by rw [al_64]; decide) dX8_undo_13 rfl ?_
    refine x_iconst (pc2 := 15) dX8_undo_14 rfl ?_
    refine x_iadd (pc2 := 16) dX8_undo_15 rfl ?_
    refine x_iast (pc2 := 17) ic_64 (by decide) (by rw [al_64]; decide) dX8_undo_16 rfl ?_
    refine x_iconst (pc2 := 18) dX8_undo_17 rfl ?_
    exact x_ireturn dX8_undo_18 ⟨.boolean, rfl, rfl⟩ k
set_option maxRecDepth 4000 in
theorem g_X8_undo_21 {sc : List Int} {d : Nat} {m : Mem} {Q : Option AV → Mem → Prop} {l1 : Int} (k : (-2147483648 ≤ l1 ∧ l1 < 2147483648) ∧ ((6 ≤ l1) → ((-2147483648 ≤ (((m 62 84) + 20) - 1) ∧ (((m 62 84) + 20) - 1) < 2147483648) ∧ Q (some (aI 1)) (wr (wr m 62 84 ((((m 62 84) + 20) - 1).tmod 20)) 62 83 (((wr m 62 84 ((((m 62 84) + 20) - 1).tmod 20)) 62 83) - 1)))) ∧ (¬ (6 ≤ l1) → ((0 ≤ ((6 * (m 62 84)) + l1)) ∧ (((6 * (m 62 84)) + l1) < 120) ∧ (0 ≤ l1) ∧ (l1 < 6) ∧ S_X8_undo sc d 21 [aR 62, aI (l1 + 1)] [] (wr m 124 l1 (m 125 ((6 * (m 62 84)) + l1))) Q))) : S_X8_undo sc d 21 [aR 62, aI l1] [] m Q := by
  refine x_iload_n (pc2 := 22) dX8_undo_21 rfl rfl ?_
  refine x_bipush (pc2 := 24) dX8_undo_22 rfl rfl ?_
  obtain ⟨h1, k⟩ := k
  obtain ⟨k1, k2⟩ := k
  refine x_icmp_ge (tgt := 53) (pc2 := 27) dX8_undo_24 (by decide) rfl h1 (by decide) (fun c2 => ?_) (fun c2 => ?_)
  · replace k := k1 c2
    refine x_aload_n (pc2 := 54) dX8_undo_53 rfl rfl ?_
    refine x_aload_n (pc2 := 55) dX8_undo_54 rfl rfl ?_
    refine x_getf (pc2 := 58) (v := aI (m 62 84)) fl_X8_586 ic_62 (fv_i _ ic_62 rfl) dX8_undo_55 rfl ?_
    refine x_bipush (pc2 := 60) dX8_undo_58 rfl rfl ?_
    refine x_iadd (pc2 := 61) dX8_undo_60 rfl ?_
    refine x_iconst (pc2 := 62) dX8_undo_61 rfl ?_
    refine x_isub (pc2 := 63) dX8_undo_62 rfl ?_
    refine x_bipush (pc2 := 65) dX8_undo_63 rfl rfl ?_
    obtain ⟨h3, k⟩ := k
    refine x_irem (pc2 := 66) dX8_undo_65 rfl h3 (by decide) (by decide) ?_
    refine x_putf (pc2 := 69) (x := ((((m 62 84) + 20) - 1).tmod 20)) fl_X8_586 ft_8_84 ic_62 (pv_i _ ic_62 rfl) (pn_i _) dX8_undo_66 rfl ?_
    refine x_aload_n (pc2 := 70) dX8_undo_69 rfl rfl ?_
    refine x_dup_r (pc2 := 71) dX8_undo_70 rfl (by decide) ?_
    refine x_getf (pc2 := 74) (v := aI ((wr m 62 84 ((((m 62 84) + 20) - 1).tmod 20)) 62 83)) fl_X8_425 ic_62 (fv_i _ ic_62 rfl) dX8_undo_71 rfl ?_
    refine x_iconst (pc2 := 75) dX8_undo_74 rfl ?_
    refine x_isub (pc2 := 76) dX8_undo_75 rfl ?_
    refine x_putf (pc2 := 79) (x := (((wr m 62 84 ((((m 62 84) + 20) - 1).tmod 20)) 62 83) - 1)) fl_X8_425 ft_8_83 ic_62 (pv_i _ ic_62 rfl) (pn_i _) dX8_undo_76 rfl ?_
    refine x_iconst (pc2 := 80) dX8_undo_79 rfl ?_
    exact x_ireturn dX8_undo_80 ⟨.boolean, rfl, rfl⟩ k
  · replace k := k2 c2
    refine x_aload_n (pc2 := 28) dX8_undo_27 rfl rfl ?_
    refine x_getf (pc2 := 31) (v := aR 124) fl_X8_199 ic_62 (vr_62_81 _) dX8_undo_28 rfl ?_
    refine x_iload_n (pc2 := 32) dX8_undo_31 rfl rfl ?_
    refine x_aload_n (pc2 := 33) dX8_undo_32 rfl rfl ?_
    refine x_getf (pc2 := 36) (v := aR 125) fl_X8_202 ic_62 (vr_62_82 _) dX8_undo_33 rfl ?_
    refine x_bipush (pc2 := 38) dX8_undo_36 rfl rfl ?_
    refine x_aload_n (pc2 := 39) dX8_undo_38 rfl rfl ?_
    refine x_getf (pc2 := 42) (v := aI (m 62 84)) fl_X8_586 ic_62 (fv_i _ ic_62 rfl) dX8_undo_39 rfl ?_
    refine x_imul (pc2 := 43) dX8_undo_42 rfl ?_
    refine x_iload_n (pc2 := 44) dX8_undo_43 rfl rfl ?_
    refine x_iadd (pc2 := 45) dX8_undo_44 rfl ?_
    obtain ⟨h4, k⟩ := k
    obtain ⟨h5, k⟩ := k
    refine x_iald (pc2 := 46) ic_125 h4 (by rw [al_125]; exact h5) dX8_undo_45 rfl ?_
    obtain ⟨h6, k⟩ := k
    obtain ⟨h7, k⟩ := k
    refine x_iast (pc2 := 47) ic_124 h6 (by rw [al_124]; exact h7) dX8_undo_46 rfl ?_
    refine x_iinc (pc2 := 50) (ls2 := [aR 62, aI (l1 + 1)]) dX8_undo_47 rfl rfl (by decide) rfl ?_
    refine x_goto (tgt := 21) dX8_undo_50 (by decide) ?_
    exact k
set_option maxRecDepth 4000 in
theorem g_X8_seed_0 {sc : List Int} {d : Nat} {m : Mem} {Q : Option AV → Mem → Prop} {l1 : Int} (k : (-2147483648 ≤ l1 ∧ l1 < 2147483648) ∧ ((0 ≤ l1) → (Q (some (aI 1)) (wr m 62 85 l1))) ∧ (¬ (0 ≤ l1) → (Q (some (aI 0)) (wr m 64 4 ((m 64 4) + 1))))) : S_X8_seed sc d 0 [aR 62, aI l1] [] m Q := by
  refine x_iload_n (pc2 := 1) dX8_seed_0 rfl rfl ?_
  obtain ⟨h1, k⟩ := k
  obtain ⟨k1, k2⟩ := k
  refine x_if_ge (tgt := 16) (pc2 := 4) dX8_seed_1 (by decide) rfl h1 (fun c2 => ?_) (fun c2 => ?_)
  · replace k := k1 c2
    refine x_aload_n (pc2 := 17) dX8_seed_16 rfl rfl ?_
    refine x_iload_n (pc2 := 18) dX8_seed_17 rfl rfl ?_
    refine x_i2l (pc2 := 19) dX8_seed_18 rfl h1 ?_
    refine x_putf (pc2 := 22) (x := l1) fl_X8_205 ft_8_85 ic_62 (pv_j _ ic_62 rfl) (pn_j _) dX8_seed_19 rfl ?_
    refine x_iconst (pc2 := 23) dX8_seed_22 rfl ?_
    exact x_ireturn dX8_seed_23 ⟨.boolean, rfl, rfl⟩ k
  · replace k := k2 c2
    refine x_aload_n (pc2 := 5) dX8_seed_4 rfl rfl ?_
    refine x_getf (pc2 := 8) (v := aR 64) fl_X8_17 ic_62 (vr_62_9 _) dX8_seed_5 rfl ?_
    refine x_iconst (pc2 := 9) dX8_seed_8 rfl ?_
    refine x_dup2_ri (pc2 := 10) dX8_seed_9 rfl (by decide) ?_
    refine x_iald (pc2 := 11) ic_64 (by decide) (by rw [al_64]; decide) dX8_seed_10 rfl ?_
    refine x_iconst (pc2 := 12) dX8_seed_11 rfl ?_
    refine x_iadd (pc2 := 13) dX8_seed_12 rfl ?_
    refine x_iast (pc2 := 14) ic_64 (by decide) (by rw [al_64]; decide) dX8_seed_13 rfl ?_
    refine x_iconst (pc2 := 15) dX8_seed_14 rfl ?_
    exact x_ireturn dX8_seed_15 ⟨.boolean, rfl, rfl⟩ k
set_option maxRecDepth 4000 in
theorem g_X8_drawOf_0 {sc : List Int} {d : Nat} {m : Mem} {Q : Option AV → Mem → Prop} {l1 : Int} (k : (-9223372036854775808 ≤ ((1103515245 * (m 62 85)) + 12345) ∧ ((1103515245 * (m 62 85)) + 12345) < 9223372036854775808) ∧ (-9223372036854775808 ≤ ((wr m 62 85 (((1103515245 * (m 62 85)) + 12345).tmod 2147483648)) 62 85) ∧ ((wr m 62 85 (((1103515245 * (m 62 85)) + 12345).tmod 2147483648)) 62 85) < 9223372036854775808) ∧ (-2147483648 ≤ l1 ∧ l1 < 2147483648) ∧ (-9223372036854775808 ≤ (((wr m 62 85 (((1103515245 * (m 62 85)) + 12345).tmod 2147483648)) 62 85).tdiv 64) ∧ (((wr m 62 85 (((1103515245 * (m 62 85)) + 12345).tmod 2147483648)) 62 85).tdiv 64) < 9223372036854775808) ∧ (l1 ≠ 0) ∧ Q (some (aI ((((wr m 62 85 (((1103515245 * (m 62 85)) + 12345).tmod 2147483648)) 62 85).tdiv 64).tmod l1))) (wr m 62 85 (((1103515245 * (m 62 85)) + 12345).tmod 2147483648))) : S_X8_drawOf sc d 0 [aR 62, aI l1] [] m Q := by
  refine x_aload_n (pc2 := 1) dX8_drawOf_0 rfl rfl ?_
  refine x_ldc2 (pc2 := 4) (x := 1103515245) kc_X8_589 rfl dX8_drawOf_1 rfl ?_
  refine x_aload_n (pc2 := 5) dX8_drawOf_4 rfl rfl ?_
  refine x_getf (pc2 := 8) (v := aJ (m 62 85)) fl_X8_205 ic_62 (fv_j _ ic_62 rfl) dX8_drawOf_5 rfl ?_
  refine x_lmul (pc2 := 9) dX8_drawOf_8 rfl ?_
  refine x_ldc2 (pc2 := 12) (x := 12345) kc_X8_591 rfl dX8_drawOf_9 rfl ?_
  refine x_ladd (pc2 := 13) dX8_drawOf_12 rfl ?_
  refine x_ldc2 (pc2 := 16) (x := 2147483648) kc_X8_593 rfl dX8_drawOf_13 rfl ?_
  obtain ⟨h1, k⟩ := k
  refine x_lrem (pc2 := 17) dX8_drawOf_16 rfl h1 (by decide) (by decide) ?_
  refine x_putf (pc2 := 20) (x := (((1103515245 * (m 62 85)) + 12345).tmod 2147483648)) fl_X8_205 ft_8_85 ic_62 (pv_j _ ic_62 rfl) (pn_j _) dX8_drawOf_17 rfl ?_
  refine x_aload_n (pc2 := 21) dX8_drawOf_20 rfl rfl ?_
  refine x_getf (pc2 := 24) (v := aJ ((wr m 62 85 (((1103515245 * (m 62 85)) + 12345).tmod 2147483648)) 62 85)) fl_X8_205 ic_62 (fv_j _ ic_62 rfl) dX8_drawOf_21 rfl ?_
  refine x_ldc2 (pc2 := 27) (x := 64) kc_X8_595 rfl dX8_drawOf_24 rfl ?_
  obtain ⟨h2, k⟩ := k
  refine x_ldiv (pc2 := 28) dX8_drawOf_27 rfl h2 (by decide) (by decide) ?_
  refine x_iload_n (pc2 := 29) dX8_drawOf_28 rfl rfl ?_
  obtain ⟨h3, k⟩ := k
  refine x_i2l (pc2 := 30) dX8_drawOf_29 rfl h3 ?_
  obtain ⟨h4, k⟩ := k
  obtain ⟨h5, k⟩ := k
  refine x_lrem (pc2 := 31) dX8_drawOf_30 rfl h4 (by have := h3; omega) h5 ?_
  refine x_l2i (pc2 := 32) dX8_drawOf_31 rfl ?_
  exact x_ireturn dX8_drawOf_32 ⟨.int, rfl, rfl⟩ k
set_option maxRecDepth 4000 in
theorem g_X8_isFresh_0 {sc : List Int} {d : Nat} {m : Mem} {Q : Option AV → Mem → Prop} (k : S_X8_isFresh sc d 3 [aR 62, aU, aU, aU] [aI 100, aR 62] m Q) : S_X8_isFresh sc d 0 [aR 62, aU, aU, aU] [] m Q := by
  refine x_aload_n (pc2 := 1) dX8_isFresh_0 rfl rfl ?_
  refine x_bipush (pc2 := 3) dX8_isFresh_1 rfl rfl ?_
  exact k
set_option maxRecDepth 4000 in
theorem g_X8_isFresh_6 {sc : List Int} {d : Nat} {m : Mem} {Q : Option AV → Mem → Prop} {s0 : Int} (k : S_X8_isFresh sc d 17 [aR 62, aI s0, aI 0, aI (m 98 6)] [] m Q) : S_X8_isFresh sc d 6 [aR 62, aU, aU, aU] [aI s0] m Q := by
  refine x_istore_n (pc2 := 7) (ls2 := [aR 62, aI s0, aU, aU]) dX8_isFresh_6 rfl (by decide) rfl ?_
  refine x_iconst (pc2 := 8) dX8_isFresh_7 rfl ?_
  refine x_istore_n (pc2 := 9) (ls2 := [aR 62, aI s0, aI 0, aU]) dX8_isFresh_8 rfl (by decide) rfl ?_
  refine x_aload_n (pc2 := 10) dX8_isFresh_9 rfl rfl ?_
  refine x_getf (pc2 := 13) (v := aR 98) fl_X8_121 ic_62 (vr_62_45 _) dX8_isFresh_10 rfl ?_
  refine x_bipush (pc2 := 15) dX8_isFresh_13 rfl rfl ?_
  refine x_iald (pc2 := 16) ic_98 (by decide) (by rw [al_98]; decide) dX8_isFresh_15 rfl ?_
  refine x_istore_n (pc2 := 17) (ls2 := [aR 62, aI s0, aI 0, aI (m 98 6)]) dX8_isFresh_16 rfl (by decide) rfl ?_
  exact k
set_option maxRecDepth 4000 in
theorem g_X8_isFresh_17 {sc : List Int} {d : Nat} {m : Mem} {Q : Option AV → Mem → Prop} {l1 l2 l3 : Int} (k : (-2147483648 ≤ l3 ∧ l3 < 2147483648) ∧ (-2147483648 ≤ l1 ∧ l1 < 2147483648) ∧ ((l1 < l3) → ((0 ≤ (6 + l2)) ∧ ((6 + l2) < 12) ∧ Q none (wr (wr m 124 1 0) 124 2 ((wr m 124 1 0) 97 (6 + l2))))) ∧ (¬ (l1 < l3) → ((0 ≤ (6 + (l2 + 1))) ∧ ((6 + (l2 + 1)) < 12) ∧ S_X8_isFresh sc d 17 [aR 62, aI l1, aI (l2 + 1), aI (l3 + (m 98 (6 + (l2 + 1))))] [] m Q))) : S_X8_isFresh sc d 17 [aR 62, aI l1, aI l2, aI l3] [] m Q := by
  refine x_iload_n (pc2 := 18) dX8_isFresh_17 rfl rfl ?_
  refine x_iload_n (pc2 := 19) dX8_isFresh_18 rfl rfl ?_
  obtain ⟨h1, k⟩ := k
  obtain ⟨h2, k⟩ := k
  obtain ⟨k1, k2⟩ := k
  refine x_icmp_gt (tgt := 40) (pc2 := 22) dX8_isFresh_19 (by decide) rfl h1 h2 (fun c3 => ?_) (fun c3 => ?_)
  · replace k := k1 c3
    refine x_aload_n (pc2 := 41) dX8_isFresh_40 rfl rfl ?_
    refine x_getf (pc2 := 44) (v := aR 124) fl_X8_199 ic_62 (vr_62_81 _) dX8_isFresh_41 rfl ?_
    refine x_iconst (pc2 := 45) dX8_isFresh_44 rfl ?_
    refine x_iconst (pc2 := 46) dX8_isFresh_45 rfl ?_
    refine x_iast (pc2 := 47) ic_124 (by decide) (by rw [al_124]; decide) dX8_isFresh_46 rfl ?_
    refine x_aload_n (pc2 := 48) dX8_isFresh_47 rfl rfl ?_
    refine x_getf (pc2 := 51) (v := aR 124) fl_X8_199 ic_62 (vr_62_81 _) dX8_isFresh_48 rfl ?_
    refine x_iconst (pc2 := 52) dX8_isFresh_51 rfl ?_
    refine x_aload_n (pc2 := 53) dX8_isFresh_52 rfl rfl ?_
    refine x_getf (pc2 := 56) (v := aR 97) fl_X8_118 ic_62 (vr_62_44 _) dX8_isFresh_53 rfl ?_
    refine x_bipush (pc2 := 58) dX8_isFresh_56 rfl rfl ?_
    refine x_iload_n (pc2 := 59) dX8_isFresh_58 rfl rfl ?_
    refine x_iadd (pc2 := 60) dX8_isFresh_59 rfl ?_
    obtain ⟨h4, k⟩ := k
    obtain ⟨h5, k⟩ := k
    refine x_iald (pc2 := 61) ic_97 h4 (by rw [al_97]; exact h5) dX8_isFresh_60 rfl ?_
    refine x_iast (pc2 := 62) ic_124 (by decide) (by rw [al_124]; decide) dX8_isFresh_61 rfl ?_
    exact x_return dX8_isFresh_62 rfl k
  · replace k := k2 c3
    refine x_iinc (pc2 := 25) (ls2 := [aR 62, aI l1, aI (l2 + 1), aI l3]) dX8_isFresh_22 rfl rfl (by decide) rfl ?_
    refine x_iload_n (pc2 := 26) dX8_isFresh_25 rfl rfl ?_
    refine x_aload_n (pc2 := 27) dX8_isFresh_26 rfl rfl ?_
    refine x_getf (pc2 := 30) (v := aR 98) fl_X8_121 ic_62 (vr_62_45 _) dX8_isFresh_27 rfl ?_
    refine x_bipush (pc2 := 32) dX8_isFresh_30 rfl rfl ?_
    refine x_iload_n (pc2 := 33) dX8_isFresh_32 rfl rfl ?_
    refine x_iadd (pc2 := 34) dX8_isFresh_33 rfl ?_
    obtain ⟨h6, k⟩ := k
    obtain ⟨h7, k⟩ := k
    refine x_iald (pc2 := 35) ic_98 h6 (by rw [al_98]; exact h7) dX8_isFresh_34 rfl ?_
    refine x_iadd (pc2 := 36) dX8_isFresh_35 rfl ?_
    refine x_istore_n (pc2 := 37) (ls2 := [aR 62, aI l1, aI (l2 + 1), aI (l3 + (m 98 (6 + (l2 + 1))))]) dX8_isFresh_36 rfl (by decide) rfl ?_
    refine x_goto (tgt := 17) dX8_isFresh_37 (by decide) ?_
    exact k
theorem c_X8_isFresh_3 {sc : List Int} {d d2 : Nat} {m m2 : Mem} {Q : Option AV → Mem → Prop} {s1 : Int} {v : Int} (hM : C_X8_drawOf sc d2 [aR 62, aI s1] m (some (aI v)) m2) (hd : d2 + 1 ≤ d) (k : S_X8_isFresh sc d 6 [aR 62, aU, aU, aU] [aI v] m2 Q) : S_X8_isFresh sc d 3 [aR 62, aU, aU, aU] [aI s1, aR 62] m Q := x_callV (as := [aI s1]) (rest := []) hM mk_X8_drawOf mv_X8_drawOf lk_X8_597 (Or.inl ⟨8, (RX8, TX8, 123), ic_62, Nat.le_of_ble_eq_true rfl, rfl, rfl⟩) hd rfl rfl (Nat.le_of_ble_eq_true rfl) dX8_isFresh_3 rfl k
set_option maxRecDepth 4000 in
theorem g_X8_costs_0 {sc : List Int} {d : Nat} {m : Mem} {Q : Option AV → Mem → Prop} {l1 : Int} (k : ((-2147483648 ≤ (((wr m 62 86 ((m 62 86) + l1)) 124 5) + l1) ∧ (((wr m 62 86 ((m 62 86) + l1)) 124 5) + l1) < 2147483648)) ∧ Q none (wr (wr m 62 86 ((m 62 86) + l1)) 124 5 (if (((wr m 62 86 ((m 62 86) + l1)) 124 5) + l1) ≤ 9999 then (((wr m 62 86 ((m 62 86) + l1)) 124 5) + l1) else 9999 : Int))) : S_X8_costs sc d 0 [aR 62, aI l1] [] m Q := by
  refine x_aload_n (pc2 := 1) dX8_costs_0 rfl rfl ?_
  refine x_dup_r (pc2 := 2) dX8_costs_1 rfl (by decide) ?_
  refine x_getf (pc2 := 5) (v := aI (m 62 86)) fl_X8_600 ic_62 (fv_i _ ic_62 rfl) dX8_costs_2 rfl ?_
  refine x_iload_n (pc2 := 6) dX8_costs_5 rfl rfl ?_
  refine x_iadd (pc2 := 7) dX8_costs_6 rfl ?_
  refine x_putf (pc2 := 10) (x := ((m 62 86) + l1)) fl_X8_600 ft_8_86 ic_62 (pv_i _ ic_62 rfl) (pn_i _) dX8_costs_7 rfl ?_
  refine x_aload_n (pc2 := 11) dX8_costs_10 rfl rfl ?_
  refine x_getf (pc2 := 14) (v := aR 124) fl_X8_199 ic_62 (vr_62_81 _) dX8_costs_11 rfl ?_
  refine x_iconst (pc2 := 15) dX8_costs_14 rfl ?_
  refine x_aload_n (pc2 := 16) dX8_costs_15 rfl rfl ?_
  refine x_getf (pc2 := 19) (v := aR 124) fl_X8_199 ic_62 (vr_62_81 _) dX8_costs_16 rfl ?_
  refine x_iconst (pc2 := 20) dX8_costs_19 rfl ?_
  refine x_iald (pc2 := 21) ic_124 (by decide) (by rw [al_124]; decide) dX8_costs_20 rfl ?_
  refine x_iload_n (pc2 := 22) dX8_costs_21 rfl rfl ?_
  refine x_iadd (pc2 := 23) dX8_costs_22 rfl ?_
  refine x_sipush (pc2 := 26) dX8_costs_23 rfl rfl ?_
  obtain ⟨g2, k⟩ := k
  have kj : S_X8_costs sc d 43 [aR 62, aI l1] [aI (if (((wr m 62 86 ((m 62 86) + l1)) 124 5) + l1) ≤ 9999 then (((wr m 62 86 ((m 62 86) + l1)) 124 5) + l1) else 9999 : Int), aI 5, aR 124] (wr m 62 86 ((m 62 86) + l1)) Q := by
    refine x_iast (pc2 := 44) ic_124 (by decide) (by rw [al_124]; decide) dX8_costs_43 rfl ?_
    exact x_return dX8_costs_44 rfl k
  have h3 := g2 
  refine x_icmp_le (tgt := 35) (pc2 := 29) dX8_costs_26 (by decide) rfl h3 (by decide) (fun c4 => ?_) (fun c4 => ?_)
  · skip
    refine x_aload_n (pc2 := 36) dX8_costs_35 rfl rfl ?_
    refine x_getf (pc2 := 39) (v := aR 124) fl_X8_199 ic_62 (vr_62_81 _) dX8_costs_36 rfl ?_
    refine x_iconst (pc2 := 40) dX8_costs_39 rfl ?_
    refine x_iald (pc2 := 41) ic_124 (by decide) (by rw [al_124]; decide) dX8_costs_40 rfl ?_
    refine x_iload_n (pc2 := 42) dX8_costs_41 rfl rfl ?_
    refine x_iadd (pc2 := 43) dX8_costs_42 rfl ?_
    exact x_topI (v := (if (((wr m 62 86 ((m 62 86) + l1)) 124 5) + l1) ≤ 9999 then (((wr m 62 86 ((m 62 86) + l1)) 124 5) + l1) else 9999 : Int)) (if_pos c4) kj
  · skip
    refine x_sipush (pc2 := 32) dX8_costs_29 rfl rfl ?_
    refine x_goto (tgt := 43) dX8_costs_32 (by decide) ?_
    exact x_topI (v := (if (((wr m 62 86 ((m 62 86) + l1)) 124 5) + l1) ≤ 9999 then (((wr m 62 86 ((m 62 86) + l1)) 124 5) + l1) else 9999 : Int)) (if_neg c4) kj
set_option maxRecDepth 4000 in
theorem g_X8_isLeft_0 {sc : List Int} {d : Nat} {m : Mem} {Q : Option AV → Mem → Prop} (k : S_X8_isLeft sc d 7 [aR 62] [aR 62, aI (m 124 0)] m Q) : S_X8_isLeft sc d 0 [aR 62] [] m Q := by
  refine x_aload_n (pc2 := 1) dX8_isLeft_0 rfl rfl ?_
  refine x_getf (pc2 := 4) (v := aR 124) fl_X8_199 ic_62 (vr_62_81 _) dX8_isLeft_1 rfl ?_
  refine x_iconst (pc2 := 5) dX8_isLeft_4 rfl ?_
  refine x_iald (pc2 := 6) ic_124 (by decide) (by rw [al_124]; decide) dX8_isLeft_5 rfl ?_
  refine x_aload_n (pc2 := 7) dX8_isLeft_6 rfl rfl ?_
  exact k
set_option maxRecDepth 4000 in
theorem g_X8_isLeft_10 {sc : List Int} {d : Nat} {m : Mem} {Q : Option AV → Mem → Prop} {s0 s1 : Int} (k : ((-2147483648 ≤ s0 ∧ s0 < 2147483648)) ∧ ((-2147483648 ≤ s1 ∧ s1 < 2147483648)) ∧ Q (some (aI (if s1 ≤ s0 then 0 else 1 : Int))) m) : S_X8_isLeft sc d 10 [aR 62] [aI s1, aI s0] m Q := by
  obtain ⟨g3, k⟩ := k
  obtain ⟨g4, k⟩ := k
  have kj : S_X8_isLeft sc d 18 [aR 62] [aI (if s1 ≤ s0 then 0 else 1 : Int)] m Q := by
    exact x_ireturn dX8_isLeft_18 (ret_z (by repeat (first | exact Or.inl rfl | exact Or.inr rfl | split))) k
  have h5 := g3 
  have h6 := g4 
  refine x_icmp_ge (tgt := 17) (pc2 := 13) dX8_isLeft_10 (by decide) rfl h5 h6 (fun c7 => ?_) (fun c7 => ?_)
  · skip
    refine x_iconst (pc2 := 18) dX8_isLeft_17 rfl ?_
    exact x_topI (v := (if s1 ≤ s0 then 0 else 1 : Int)) (if_pos c7) kj
  · skip
    refine x_iconst (pc2 := 14) dX8_isLeft_13 rfl ?_
    refine x_goto (tgt := 18) dX8_isLeft_14 (by decide) ?_
    exact x_topI (v := (if s1 ≤ s0 then 0 else 1 : Int)) (if_neg c7) kj
theorem c_X8_isLeft_7 {sc : List Int} {d d2 : Nat} {m m2 : Mem} {Q : Option AV → Mem → Prop} {s0 : Int} {v : Int} (hM : C_X8_seamMany sc d2 [aR 62] m (some (aI v)) m2) (hd : d2 + 1 ≤ d) (k : S_X8_isLeft sc d 10 [aR 62] [aI v, aI s0] m2 Q) : S_X8_isLeft sc d 7 [aR 62] [aR 62, aI s0] m Q := x_callV (as := []) (rest := [aI s0]) hM mk_X8_seamMany mv_X8_seamMany lk_X8_431 (Or.inl ⟨8, (RX8, TX8, 123), ic_62, Nat.le_of_ble_eq_true rfl, rfl, rfl⟩) hd rfl rfl (Nat.le_of_ble_eq_true rfl) dX8_isLeft_7 rfl k
set_option maxRecDepth 4000 in
theorem g_X8_wouldLast_0 {sc : List Int} {d : Nat} {m : Mem} {Q : Option AV → Mem → Prop} (k : S_X8_wouldLast sc d 13 [aR 62] [aI (m 124 0), aR 62, aI (m 124 1)] m Q) : S_X8_wouldLast sc d 0 [aR 62] [] m Q := by
  refine x_aload_n (pc2 := 1) dX8_wouldLast_0 rfl rfl ?_
  refine x_getf (pc2 := 4) (v := aR 124) fl_X8_199 ic_62 (vr_62_81 _) dX8_wouldLast_1 rfl ?_
  refine x_iconst (pc2 := 5) dX8_wouldLast_4 rfl ?_
  refine x_iald (pc2 := 6) ic_124 (by decide) (by rw [al_124]; decide) dX8_wouldLast_5 rfl ?_
  refine x_aload_n (pc2 := 7) dX8_wouldLast_6 rfl rfl ?_
  refine x_aload_n (pc2 := 8) dX8_wouldLast_7 rfl rfl ?_
  refine x_getf (pc2 := 11) (v := aR 124) fl_X8_199 ic_62 (vr_62_81 _) dX8_wouldLast_8 rfl ?_
  refine x_iconst (pc2 := 12) dX8_wouldLast_11 rfl ?_
  refine x_iald (pc2 := 13) ic_124 (by decide) (by rw [al_124]; decide) dX8_wouldLast_12 rfl ?_
  exact k
set_option maxRecDepth 4000 in
theorem g_X8_wouldLast_16 {sc : List Int} {d : Nat} {m : Mem} {Q : Option AV → Mem → Prop} {s0 s1 : Int} (k : ((-2147483648 ≤ (s0 + s1) ∧ (s0 + s1) < 2147483648)) ∧ ((-2147483648 ≤ (m 124 2) ∧ (m 124 2) < 2147483648)) ∧ Q (some (aI (if (m 124 2) < (s0 + s1) then 0 else 1 : Int))) m) : S_X8_wouldLast sc d 16 [aR 62] [aI s1, aI s0] m Q := by
  refine x_iadd (pc2 := 17) dX8_wouldLast_16 rfl ?_
  refine x_aload_n (pc2 := 18) dX8_wouldLast_17 rfl rfl ?_
  refine x_getf (pc2 := 21) (v := aR 124) fl_X8_199 ic_62 (vr_62_81 _) dX8_wouldLast_18 rfl ?_
  refine x_iconst (pc2 := 22) dX8_wouldLast_21 rfl ?_
  refine x_iald (pc2 := 23) ic_124 (by decide) (by rw [al_124]; decide) dX8_wouldLast_22 rfl ?_
  obtain ⟨g3, k⟩ := k
  obtain ⟨g4, k⟩ := k
  have kj : S_X8_wouldLast sc d 31 [aR 62] [aI (if (m 124 2) < (s0 + s1) then 0 else 1 : Int)] m Q := by
    exact x_ireturn dX8_wouldLast_31 (ret_z (by repeat (first | exact Or.inl rfl | exact Or.inr rfl | split))) k
  have h5 := g3 
  have h6 := g4 
  refine x_icmp_gt (tgt := 30) (pc2 := 26) dX8_wouldLast_23 (by decide) rfl h5 h6 (fun c7 => ?_) (fun c7 => ?_)
  · skip
    refine x_iconst (pc2 := 31) dX8_wouldLast_30 rfl ?_
    exact x_topI (v := (if (m 124 2) < (s0 + s1) then 0 else 1 : Int)) (if_pos c7) kj
  · skip
    refine x_iconst (pc2 := 27) dX8_wouldLast_26 rfl ?_
    refine x_goto (tgt := 31) dX8_wouldLast_27 (by decide) ?_
    exact x_topI (v := (if (m 124 2) < (s0 + s1) then 0 else 1 : Int)) (if_neg c7) kj
theorem c_X8_wouldLast_13 {sc : List Int} {d d2 : Nat} {m m2 : Mem} {Q : Option AV → Mem → Prop} {s0 s2 : Int} {v : Int} (hM : C_X8_takesOf sc d2 [aR 62, aI s2] m (some (aI v)) m2) (hd : d2 + 1 ≤ d) (k : S_X8_wouldLast sc d 16 [aR 62] [aI v, aI s0] m2 Q) : S_X8_wouldLast sc d 13 [aR 62] [aI s2, aR 62, aI s0] m Q := x_callV (as := [aI s2]) (rest := [aI s0]) hM mk_X8_takesOf mv_X8_takesOf lk_X8_434 (Or.inl ⟨8, (RX8, TX8, 123), ic_62, Nat.le_of_ble_eq_true rfl, rfl, rfl⟩) hd rfl rfl (Nat.le_of_ble_eq_true rfl) dX8_wouldLast_13 rfl k
set_option maxRecDepth 4000 in
theorem g_X8_isSewn_0 {sc : List Int} {d : Nat} {m : Mem} {Q : Option AV → Mem → Prop} {l1 : Int} (k : (-2147483648 ≤ l1 ∧ l1 < 2147483648) ∧ ((l1 = 0) → (S_X8_isSewn sc d 27 [aR 62, aU, aU] [] m Q)) ∧ (¬ (l1 = 0) → (S_X8_isSewn sc d 7 [aR 62, aU, aU] [aI 0, aR 62, aR 62] m Q))) : S_X8_isSewn sc d 0 [aR 62, aI l1, aU] [] m Q := by
  refine x_iload_n (pc2 := 1) dX8_isSewn_0 rfl rfl ?_
  obtain ⟨h1, k⟩ := k
  obtain ⟨k1, k2⟩ := k
  refine x_if_eq (tgt := 27) (pc2 := 4) dX8_isSewn_1 (by decide) rfl h1 (fun c2 => ?_) (fun c2 => ?_)
  · replace k := k1 c2
    exact x_drop (drp_k (drp_u (drp_k drp_n))) k
  · replace k := k2 c2
    refine x_aload_n (pc2 := 5) dX8_isSewn_4 rfl rfl ?_
    refine x_aload_n (pc2 := 6) dX8_isSewn_5 rfl rfl ?_
    refine x_iconst (pc2 := 7) dX8_isSewn_6 rfl ?_
    exact x_drop (drp_k (drp_u (drp_k drp_n))) k
set_option maxRecDepth 4000 in
theorem g_X8_isSewn_10 {sc : List Int} {d : Nat} {m : Mem} {Q : Option AV → Mem → Prop} {s1 : Int} (k : S_X8_isSewn sc d 10 [aR 62, aU, aU] [aI s1, aR 62] m Q) : S_X8_isSewn sc d 10 [aR 62, aU, aU] [aI s1, aR 62] m Q := by
  exact k
set_option maxRecDepth 4000 in
theorem g_X8_isSewn_13 {sc : List Int} {d : Nat} {m : Mem} {Q : Option AV → Mem → Prop} (k : S_X8_isSewn sc d 24 [aR 62, aU, aU] [aR 62] (wr m 124 3 ((m 124 3) + 1)) Q) : S_X8_isSewn sc d 13 [aR 62, aU, aU] [] m Q := by
  refine x_aload_n (pc2 := 14) dX8_isSewn_13 rfl rfl ?_
  refine x_getf (pc2 := 17) (v := aR 124) fl_X8_199 ic_62 (vr_62_81 _) dX8_isSewn_14 rfl ?_
  refine x_iconst (pc2 := 18) dX8_isSewn_17 rfl ?_
  refine x_dup2_ri (pc2 := 19) dX8_isSewn_18 rfl (by decide) ?_
  refine x_iald (pc2 := 20) ic_124 (by decide) (by rw [al_124]; decide) dX8_isSewn_19 rfl ?_
  refine x_iconst (pc2 := 21) dX8_isSewn_20 rfl ?_
  refine x_iadd (pc2 := 22) dX8_isSewn_21 rfl ?_
  refine x_iast (pc2 := 23) ic_124 (by decide) (by rw [al_124]; decide) dX8_isSewn_22 rfl ?_
  refine x_aload_n (pc2 := 24) dX8_isSewn_23 rfl rfl ?_
  exact k
set_option maxRecDepth 4000 in
theorem g_X8_isSewn_27 {sc : List Int} {d : Nat} {m : Mem} {Q : Option AV → Mem → Prop} (k : S_X8_isSewn sc d 28 [aR 62, aU, aU] [aR 62] m Q) : S_X8_isSewn sc d 27 [aR 62, aU, aU] [] m Q := by
  refine x_aload_n (pc2 := 28) dX8_isSewn_27 rfl rfl ?_
  exact k
set_option maxRecDepth 4000 in
theorem g_X8_isSewn_31 {sc : List Int} {d : Nat} {m : Mem} {Q : Option AV → Mem → Prop} {s0 : Int} (k : (-2147483648 ≤ s0 ∧ s0 < 2147483648) ∧ ((s0 = 0) → (S_X8_isSewn sc d 61 [aR 62, aU, aI s0] [aI 1, aR 62, aR 62] m Q)) ∧ (¬ (s0 = 0) → (S_X8_isSewn sc d 50 [aR 62, aU, aI s0] [aI (m 124 0), aR 62, aI (m 124 1), aI 1, aR 124] m Q))) : S_X8_isSewn sc d 31 [aR 62, aU, aU] [aI s0] m Q := by
  refine x_istore_n (pc2 := 32) (ls2 := [aR 62, aU, aI s0]) dX8_isSewn_31 rfl (by decide) rfl ?_
  refine x_iload_n (pc2 := 33) dX8_isSewn_32 rfl rfl ?_
  obtain ⟨h1, k⟩ := k
  obtain ⟨k1, k2⟩ := k
  refine x_if_eq (tgt := 58) (pc2 := 36) dX8_isSewn_33 (by decide) rfl h1 (fun c2 => ?_) (fun c2 => ?_)
  · replace k := k1 c2
    refine x_aload_n (pc2 := 59) dX8_isSewn_58 rfl rfl ?_
    refine x_aload_n (pc2 := 60) dX8_isSewn_59 rfl rfl ?_
    refine x_iconst (pc2 := 61) dX8_isSewn_60 rfl ?_
    exact k
  · replace k := k2 c2
    refine x_aload_n (pc2 := 37) dX8_isSewn_36 rfl rfl ?_
    refine x_getf (pc2 := 40) (v := aR 124) fl_X8_199 ic_62 (vr_62_81 _) dX8_isSewn_37 rfl ?_
    refine x_iconst (pc2 := 41) dX8_isSewn_40 rfl ?_
    refine x_dup2_ri (pc2 := 42) dX8_isSewn_41 rfl (by decide) ?_
    refine x_iald (pc2 := 43) ic_124 (by decide) (by rw [al_124]; decide) dX8_isSewn_42 rfl ?_
    refine x_aload_n (pc2 := 44) dX8_isSewn_43 rfl rfl ?_
    refine x_aload_n (pc2 := 45) dX8_isSewn_44 rfl rfl ?_
    refine x_getf (pc2 := 48) (v := aR 124) fl_X8_199 ic_62 (vr_62_81 _) dX8_isSewn_45 rfl ?_
    refine x_iconst (pc2 := 49) dX8_isSewn_48 rfl ?_
    refine x_iald (pc2 := 50) ic_124 (by decide) (by rw [al_124]; decide) dX8_isSewn_49 rfl ?_
    exact k
set_option maxRecDepth 4000 in
theorem g_X8_isSewn_53 {sc : List Int} {d : Nat} {m : Mem} {Q : Option AV → Mem → Prop} {l2 s0 s1 s2 s3 : Int} (Hs0 : IsC s0 100) (k : (0 ≤ s1) ∧ (s1 < alen s0) ∧ S_X8_isSewn sc d 87 [aR 62, aU, aI l2] [] (wr m s0 s1 (s2 + s3)) Q) : S_X8_isSewn sc d 53 [aR 62, aU, aI l2] [aI s3, aI s2, aI s1, aR s0] m Q := by
  refine x_iadd (pc2 := 54) dX8_isSewn_53 rfl ?_
  obtain ⟨h1, k⟩ := k
  obtain ⟨h2, k⟩ := k
  refine x_iast (pc2 := 55) Hs0 h1 h2 dX8_isSewn_54 rfl ?_
  refine x_goto (tgt := 87) dX8_isSewn_55 (by decide) ?_
  exact k
set_option maxRecDepth 4000 in
theorem g_X8_isSewn_64 {sc : List Int} {d : Nat} {m : Mem} {Q : Option AV → Mem → Prop} {l2 s1 : Int} (k : S_X8_isSewn sc d 66 [aR 62, aU, aI l2] [aI 0, aR 62, aI s1, aR 62] m Q) : S_X8_isSewn sc d 64 [aR 62, aU, aI l2] [aI s1, aR 62] m Q := by
  refine x_aload_n (pc2 := 65) dX8_isSewn_64 rfl rfl ?_
  refine x_iconst (pc2 := 66) dX8_isSewn_65 rfl ?_
  exact k
set_option maxRecDepth 4000 in
theorem g_X8_isSewn_69 {sc : List Int} {d : Nat} {m : Mem} {Q : Option AV → Mem → Prop} {l2 s1 s2 : Int} (k : S_X8_isSewn sc d 70 [aR 62, aU, aI l2] [aI (s1 + s2), aR 62] m Q) : S_X8_isSewn sc d 69 [aR 62, aU, aI l2] [aI s2, aI s1, aR 62] m Q := by
  refine x_iadd (pc2 := 70) dX8_isSewn_69 rfl ?_
  exact k
set_option maxRecDepth 4000 in
theorem g_X8_isSewn_73 {sc : List Int} {d : Nat} {m : Mem} {Q : Option AV → Mem → Prop} {l2 : Int} (k : S_X8_isSewn sc d 84 [aR 62, aU, aI l2] [aR 62] (wr m 124 4 ((m 124 4) + 1)) Q) : S_X8_isSewn sc d 73 [aR 62, aU, aI l2] [] m Q := by
  refine x_aload_n (pc2 := 74) dX8_isSewn_73 rfl rfl ?_
  refine x_getf (pc2 := 77) (v := aR 124) fl_X8_199 ic_62 (vr_62_81 _) dX8_isSewn_74 rfl ?_
  refine x_iconst (pc2 := 78) dX8_isSewn_77 rfl ?_
  refine x_dup2_ri (pc2 := 79) dX8_isSewn_78 rfl (by decide) ?_
  refine x_iald (pc2 := 80) ic_124 (by decide) (by rw [al_124]; decide) dX8_isSewn_79 rfl ?_
  refine x_iconst (pc2 := 81) dX8_isSewn_80 rfl ?_
  refine x_iadd (pc2 := 82) dX8_isSewn_81 rfl ?_
  refine x_iast (pc2 := 83) ic_124 (by decide) (by rw [al_124]; decide) dX8_isSewn_82 rfl ?_
  refine x_aload_n (pc2 := 84) dX8_isSewn_83 rfl rfl ?_
  exact k
set_option maxRecDepth 4000 in
theorem g_X8_isSewn_87 {sc : List Int} {d : Nat} {m : Mem} {Q : Option AV → Mem → Prop} {l2 : Int} (k : ((-2147483648 ≤ l2 ∧ l2 < 2147483648)) ∧ Q (some (aI (if l2 ≠ 0 then 0 else 1 : Int))) (wr m 124 0 ((m 124 0) + 1))) : S_X8_isSewn sc d 87 [aR 62, aU, aI l2] [] m Q := by
  refine x_aload_n (pc2 := 88) dX8_isSewn_87 rfl rfl ?_
  refine x_getf (pc2 := 91) (v := aR 124) fl_X8_199 ic_62 (vr_62_81 _) dX8_isSewn_88 rfl ?_
  refine x_iconst (pc2 := 92) dX8_isSewn_91 rfl ?_
  refine x_dup2_ri (pc2 := 93) dX8_isSewn_92 rfl (by decide) ?_
  refine x_iald (pc2 := 94) ic_124 (by decide) (by rw [al_124]; decide) dX8_isSewn_93 rfl ?_
  refine x_iconst (pc2 := 95) dX8_isSewn_94 rfl ?_
  refine x_iadd (pc2 := 96) dX8_isSewn_95 rfl ?_
  refine x_iast (pc2 := 97) ic_124 (by decide) (by rw [al_124]; decide) dX8_isSewn_96 rfl ?_
  refine x_iload_n (pc2 := 98) dX8_isSewn_97 rfl rfl ?_
  obtain ⟨g2, k⟩ := k
  have kj : S_X8_isSewn sc d 106 [aR 62, aU, aI l2] [aI (if l2 ≠ 0 then 0 else 1 : Int)] (wr m 124 0 ((m 124 0) + 1)) Q := by
    exact x_ireturn dX8_isSewn_106 (ret_z (by repeat (first | exact Or.inl rfl | exact Or.inr rfl | split))) k
  have h3 := g2 
  refine x_if_ne (tgt := 105) (pc2 := 101) dX8_isSewn_98 (by decide) rfl h3 (fun c4 => ?_) (fun c4 => ?_)
  · skip
    refine x_iconst (pc2 := 106) dX8_isSewn_105 rfl ?_
    exact x_topI (v := (if l2 ≠ 0 then 0 else 1 : Int)) (if_pos c4) kj
  · skip
    refine x_iconst (pc2 := 102) dX8_isSewn_101 rfl ?_
    refine x_goto (tgt := 106) dX8_isSewn_102 (by decide) ?_
    exact x_topI (v := (if l2 ≠ 0 then 0 else 1 : Int)) (if_neg c4) kj
theorem c_X8_isSewn_7 {sc : List Int} {d d2 : Nat} {m m2 : Mem} {Q : Option AV → Mem → Prop} {s2 : Int} {v : Int} (hM : C_X8_settingOf sc d2 [aR 62, aI s2] m (some (aI v)) m2) (hd : d2 + 1 ≤ d) (k : S_X8_isSewn sc d 10 [aR 62, aU, aU] [aI v, aR 62] m2 Q) : S_X8_isSewn sc d 7 [aR 62, aU, aU] [aI s2, aR 62, aR 62] m Q := x_callV (as := [aI s2]) (rest := [aR 62]) hM mk_X8_settingOf mv_X8_settingOf lk_X8_461 (Or.inl ⟨8, (RX8, TX8, 123), ic_62, Nat.le_of_ble_eq_true rfl, rfl, rfl⟩) hd rfl rfl (Nat.le_of_ble_eq_true rfl) dX8_isSewn_7 rfl k
theorem c_X8_isSewn_10 {sc : List Int} {d d2 : Nat} {m m2 : Mem} {Q : Option AV → Mem → Prop} {s1 : Int} (hM : C_X8_costs sc d2 [aR 62, aI s1] m none m2) (hd : d2 + 1 ≤ d) (k : S_X8_isSewn sc d 13 [aR 62, aU, aU] [] m2 Q) : S_X8_isSewn sc d 10 [aR 62, aU, aU] [aI s1, aR 62] m Q := x_callV (as := [aI s1]) (rest := []) hM mk_X8_costs mv_X8_costs lk_X8_603 (Or.inl ⟨8, (RX8, TX8, 123), ic_62, Nat.le_of_ble_eq_true rfl, rfl, rfl⟩) hd rfl rfl (Nat.le_of_ble_eq_true rfl) dX8_isSewn_10 rfl k
theorem c_X8_isSewn_24 {sc : List Int} {d d2 : Nat} {m m2 : Mem} {Q : Option AV → Mem → Prop} (hM : C_X8_isFresh sc d2 [aR 62] m none m2) (hd : d2 + 1 ≤ d) (k : S_X8_isSewn sc d 27 [aR 62, aU, aU] [] m2 Q) : S_X8_isSewn sc d 24 [aR 62, aU, aU] [aR 62] m Q := x_callV (as := []) (rest := []) hM mk_X8_isFresh mv_X8_isFresh lk_X8_606 (Or.inl ⟨8, (RX8, TX8, 123), ic_62, Nat.le_of_ble_eq_true rfl, rfl, rfl⟩) hd rfl rfl (Nat.le_of_ble_eq_true rfl) dX8_isSewn_24 rfl k
theorem c_X8_isSewn_28 {sc : List Int} {d d2 : Nat} {m m2 : Mem} {Q : Option AV → Mem → Prop} {v : Int} (hM : C_X8_wouldLast sc d2 [aR 62] m (some (aI v)) m2) (hd : d2 + 1 ≤ d) (k : S_X8_isSewn sc d 31 [aR 62, aU, aU] [aI v] m2 Q) : S_X8_isSewn sc d 28 [aR 62, aU, aU] [aR 62] m Q := x_callV (as := []) (rest := []) hM mk_X8_wouldLast mv_X8_wouldLast lk_X8_609 (Or.inl ⟨8, (RX8, TX8, 123), ic_62, Nat.le_of_ble_eq_true rfl, rfl, rfl⟩) hd rfl rfl (Nat.le_of_ble_eq_true rfl) dX8_isSewn_28 rfl k
theorem c_X8_isSewn_50 {sc : List Int} {d d2 : Nat} {m m2 : Mem} {Q : Option AV → Mem → Prop} {l2 s0 s1 s2 s4 : Int} {v : Int} (Hs0 : IsC s0 100) (hM : C_X8_takesOf sc d2 [aR 62, aI s4] m (some (aI v)) m2) (hd : d2 + 1 ≤ d) (k : S_X8_isSewn sc d 53 [aR 62, aU, aI l2] [aI v, aI s2, aI s1, aR s0] m2 Q) : S_X8_isSewn sc d 50 [aR 62, aU, aI l2] [aI s4, aR 62, aI s2, aI s1, aR s0] m Q := x_callV (as := [aI s4]) (rest := [aI s2, aI s1, aR s0]) hM mk_X8_takesOf mv_X8_takesOf lk_X8_434 (Or.inl ⟨8, (RX8, TX8, 123), ic_62, Nat.le_of_ble_eq_true rfl, rfl, rfl⟩) hd rfl rfl (Nat.le_of_ble_eq_true rfl) dX8_isSewn_50 rfl k
theorem c_X8_isSewn_61 {sc : List Int} {d d2 : Nat} {m m2 : Mem} {Q : Option AV → Mem → Prop} {l2 s2 : Int} {v : Int} (hM : C_X8_settingOf sc d2 [aR 62, aI s2] m (some (aI v)) m2) (hd : d2 + 1 ≤ d) (k : S_X8_isSewn sc d 64 [aR 62, aU, aI l2] [aI v, aR 62] m2 Q) : S_X8_isSewn sc d 61 [aR 62, aU, aI l2] [aI s2, aR 62, aR 62] m Q := x_callV (as := [aI s2]) (rest := [aR 62]) hM mk_X8_settingOf mv_X8_settingOf lk_X8_461 (Or.inl ⟨8, (RX8, TX8, 123), ic_62, Nat.le_of_ble_eq_true rfl, rfl, rfl⟩) hd rfl rfl (Nat.le_of_ble_eq_true rfl) dX8_isSewn_61 rfl k
theorem c_X8_isSewn_66 {sc : List Int} {d d2 : Nat} {m m2 : Mem} {Q : Option AV → Mem → Prop} {l2 s1 s3 : Int} {v : Int} (hM : C_X8_settingOf sc d2 [aR 62, aI s3] m (some (aI v)) m2) (hd : d2 + 1 ≤ d) (k : S_X8_isSewn sc d 69 [aR 62, aU, aI l2] [aI v, aI s1, aR 62] m2 Q) : S_X8_isSewn sc d 66 [aR 62, aU, aI l2] [aI s3, aR 62, aI s1, aR 62] m Q := x_callV (as := [aI s3]) (rest := [aI s1, aR 62]) hM mk_X8_settingOf mv_X8_settingOf lk_X8_461 (Or.inl ⟨8, (RX8, TX8, 123), ic_62, Nat.le_of_ble_eq_true rfl, rfl, rfl⟩) hd rfl rfl (Nat.le_of_ble_eq_true rfl) dX8_isSewn_66 rfl k
theorem c_X8_isSewn_70 {sc : List Int} {d d2 : Nat} {m m2 : Mem} {Q : Option AV → Mem → Prop} {l2 s1 : Int} (hM : C_X8_costs sc d2 [aR 62, aI s1] m none m2) (hd : d2 + 1 ≤ d) (k : S_X8_isSewn sc d 73 [aR 62, aU, aI l2] [] m2 Q) : S_X8_isSewn sc d 70 [aR 62, aU, aI l2] [aI s1, aR 62] m Q := x_callV (as := [aI s1]) (rest := []) hM mk_X8_costs mv_X8_costs lk_X8_603 (Or.inl ⟨8, (RX8, TX8, 123), ic_62, Nat.le_of_ble_eq_true rfl, rfl, rfl⟩) hd rfl rfl (Nat.le_of_ble_eq_true rfl) dX8_isSewn_70 rfl k
theorem c_X8_isSewn_84 {sc : List Int} {d d2 : Nat} {m m2 : Mem} {Q : Option AV → Mem → Prop} {l2 : Int} (hM : C_X8_isFresh sc d2 [aR 62] m none m2) (hd : d2 + 1 ≤ d) (k : S_X8_isSewn sc d 87 [aR 62, aU, aI l2] [] m2 Q) : S_X8_isSewn sc d 84 [aR 62, aU, aI l2] [aR 62] m Q := x_callV (as := []) (rest := []) hM mk_X8_isFresh mv_X8_isFresh lk_X8_606 (Or.inl ⟨8, (RX8, TX8, 123), ic_62, Nat.le_of_ble_eq_true rfl, rfl, rfl⟩) hd rfl rfl (Nat.le_of_ble_eq_true rfl) dX8_isSewn_84 rfl k
set_option maxRecDepth 4000 in
theorem g_X8_refuses_0 {sc : List Int} {d : Nat} {m : Mem} {Q : Option AV → Mem → Prop} (k : Q (some (aI (-1))) (wr m 64 2 ((m 64 2) + 1))) : S_X8_refuses sc d 0 [aR 62] [] m Q := by
  refine x_aload_n (pc2 := 1) dX8_refuses_0 rfl rfl ?_
  refine x_getf (pc2 := 4) (v := aR 64) fl_X8_17 ic_62 (vr_62_9 _) dX8_refuses_1 rfl ?_
  refine x_iconst (pc2 := 5) dX8_refuses_4 rfl ?_
  refine x_dup2_ri (pc2 := 6) dX8_refuses_5 rfl (by decide) ?_
  refine x_iald (pc2 := 7) ic_64 (by decide) (by rw [al_64]; decide) dX8_refuses_6 rfl ?_
  refine x_iconst (pc2 := 8) dX8_refuses_7 rfl ?_
  refine x_iadd (pc2 := 9) dX8_refuses_8 rfl ?_
  refine x_iast (pc2 := 10) ic_64 (by decide) (by rw [al_64]; decide) dX8_refuses_9 rfl ?_
  refine x_iconst (pc2 := 11) dX8_refuses_10 rfl ?_
  exact x_ireturn dX8_refuses_11 ⟨.int, rfl, rfl⟩ k
set_option maxRecDepth 4000 in
theorem g_X8_day_0 {sc : List Int} {d : Nat} {m : Mem} {Q : Option AV → Mem → Prop} {l1 : Int} (k : (-2147483648 ≤ l1 ∧ l1 < 2147483648) ∧ ((l1 = 0) → (Q (some (aI (m 124 0))) m)) ∧ ((l1 = 1) → (Q (some (aI (m 124 1))) m)) ∧ ((l1 = 2) → (Q (some (aI (m 124 3))) m)) ∧ ((l1 = 3) → (Q (some (aI (m 124 4))) m)) ∧ ((l1 = 4) → (Q (some (aI (m 124 5))) m)) ∧ ((l1 = 5) → (S_X8_day sc d 76 [aR 62, aU] [aR 62] m Q)) ∧ ((l1 ≠ 0 ∧ l1 ≠ 1 ∧ l1 ≠ 2 ∧ l1 ≠ 3 ∧ l1 ≠ 4 ∧ l1 ≠ 5) → (Q (some (aI (-1))) m))) : S_X8_day sc d 0 [aR 62, aI l1] [] m Q := by
  refine x_iload_n (pc2 := 1) dX8_day_0 rfl rfl ?_
  obtain ⟨h1, k⟩ := k
  obtain ⟨k2, k3, k4, k5, k6, k7, k8⟩ := k
  by_cases c9 : l1 = 0
  · replace k := k2 c9
    refine x_tin (tgt := 40) (off := 39) dX8_day_1 h1 (by omega) (by omega) (by rw [c9]; rfl) (by decide) ?_
    refine x_aload_n (pc2 := 41) dX8_day_40 rfl rfl ?_
    refine x_getf (pc2 := 44) (v := aR 124) fl_X8_199 ic_62 (vr_62_81 _) dX8_day_41 rfl ?_
    refine x_iconst (pc2 := 45) dX8_day_44 rfl ?_
    refine x_iald (pc2 := 46) ic_124 (by decide) (by rw [al_124]; decide) dX8_day_45 rfl ?_
    exact x_ireturn dX8_day_46 ⟨.int, rfl, rfl⟩ k
  by_cases c10 : l1 = 1
  · replace k := k3 c10
    refine x_tin (tgt := 47) (off := 46) dX8_day_1 h1 (by omega) (by omega) (by rw [c10]; rfl) (by decide) ?_
    refine x_aload_n (pc2 := 48) dX8_day_47 rfl rfl ?_
    refine x_getf (pc2 := 51) (v := aR 124) fl_X8_199 ic_62 (vr_62_81 _) dX8_day_48 rfl ?_
    refine x_iconst (pc2 := 52) dX8_day_51 rfl ?_
    refine x_iald (pc2 := 53) ic_124 (by decide) (by rw [al_124]; decide) dX8_day_52 rfl ?_
    exact x_ireturn dX8_day_53 ⟨.int, rfl, rfl⟩ k
  by_cases c11 : l1 = 2
  · replace k := k4 c11
    refine x_tin (tgt := 54) (off := 53) dX8_day_1 h1 (by omega) (by omega) (by rw [c11]; rfl) (by decide) ?_
    refine x_aload_n (pc2 := 55) dX8_day_54 rfl rfl ?_
    refine x_getf (pc2 := 58) (v := aR 124) fl_X8_199 ic_62 (vr_62_81 _) dX8_day_55 rfl ?_
    refine x_iconst (pc2 := 59) dX8_day_58 rfl ?_
    refine x_iald (pc2 := 60) ic_124 (by decide) (by rw [al_124]; decide) dX8_day_59 rfl ?_
    exact x_ireturn dX8_day_60 ⟨.int, rfl, rfl⟩ k
  by_cases c12 : l1 = 3
  · replace k := k5 c12
    refine x_tin (tgt := 61) (off := 60) dX8_day_1 h1 (by omega) (by omega) (by rw [c12]; rfl) (by decide) ?_
    refine x_aload_n (pc2 := 62) dX8_day_61 rfl rfl ?_
    refine x_getf (pc2 := 65) (v := aR 124) fl_X8_199 ic_62 (vr_62_81 _) dX8_day_62 rfl ?_
    refine x_iconst (pc2 := 66) dX8_day_65 rfl ?_
    refine x_iald (pc2 := 67) ic_124 (by decide) (by rw [al_124]; decide) dX8_day_66 rfl ?_
    exact x_ireturn dX8_day_67 ⟨.int, rfl, rfl⟩ k
  by_cases c13 : l1 = 4
  · replace k := k6 c13
    refine x_tin (tgt := 68) (off := 67) dX8_day_1 h1 (by omega) (by omega) (by rw [c13]; rfl) (by decide) ?_
    refine x_aload_n (pc2 := 69) dX8_day_68 rfl rfl ?_
    refine x_getf (pc2 := 72) (v := aR 124) fl_X8_199 ic_62 (vr_62_81 _) dX8_day_69 rfl ?_
    refine x_iconst (pc2 := 73) dX8_day_72 rfl ?_
    refine x_iald (pc2 := 74) ic_124 (by decide) (by rw [al_124]; decide) dX8_day_73 rfl ?_
    exact x_ireturn dX8_day_74 ⟨.int, rfl, rfl⟩ k
  by_cases c14 : l1 = 5
  · replace k := k7 c14
    refine x_tin (tgt := 75) (off := 74) dX8_day_1 h1 (by omega) (by omega) (by rw [c14]; rfl) (by decide) ?_
    refine x_aload_n (pc2 := 76) dX8_day_75 rfl rfl ?_
    exact x_drop (drp_k (drp_u drp_n)) k
  replace k := k8 (by omega)
  have kd : S_X8_day sc d 88 [aR 62, aI l1] [] m Q := by
    refine x_iconst (pc2 := 89) dX8_day_88 rfl ?_
    exact x_ireturn dX8_day_89 ⟨.int, rfl, rfl⟩ k
  by_cases c15 : l1 < 0 ∨ 5 < l1
  · exact x_tout (tgt := 88) dX8_day_1 h1 c15 (by decide) kd
  exact absurd c15 (by omega)
set_option maxRecDepth 4000 in
theorem g_X8_day_79 {sc : List Int} {d : Nat} {m : Mem} {Q : Option AV → Mem → Prop} {s0 : Int} (k : ((-2147483648 ≤ s0 ∧ s0 < 2147483648)) ∧ Q (some (aI (if s0 = 0 then 0 else 1 : Int))) m) : S_X8_day sc d 79 [aR 62, aU] [aI s0] m Q := by
  obtain ⟨g2, k⟩ := k
  have kj : S_X8_day sc d 87 [aR 62, aU] [aI (if s0 = 0 then 0 else 1 : Int)] m Q := by
    exact x_ireturn dX8_day_87 ⟨.int, rfl, rfl⟩ k
  have h3 := g2 
  refine x_if_eq (tgt := 86) (pc2 := 82) dX8_day_79 (by decide) rfl h3 (fun c4 => ?_) (fun c4 => ?_)
  · skip
    refine x_iconst (pc2 := 87) dX8_day_86 rfl ?_
    exact x_topI (v := (if s0 = 0 then 0 else 1 : Int)) (if_pos c4) kj
  · skip
    refine x_iconst (pc2 := 83) dX8_day_82 rfl ?_
    refine x_goto (tgt := 87) dX8_day_83 (by decide) ?_
    exact x_topI (v := (if s0 = 0 then 0 else 1 : Int)) (if_neg c4) kj
theorem c_X8_day_76 {sc : List Int} {d d2 : Nat} {m m2 : Mem} {Q : Option AV → Mem → Prop} {v : Int} (hM : C_X8_isLeft sc d2 [aR 62] m (some (aI v)) m2) (hd : d2 + 1 ≤ d) (k : S_X8_day sc d 79 [aR 62, aU] [aI v] m2 Q) : S_X8_day sc d 76 [aR 62, aU] [aR 62] m Q := x_callV (as := []) (rest := []) hM mk_X8_isLeft mv_X8_isLeft lk_X8_612 (Or.inl ⟨8, (RX8, TX8, 123), ic_62, Nat.le_of_ble_eq_true rfl, rfl, rfl⟩) hd rfl rfl (Nat.le_of_ble_eq_true rfl) dX8_day_76 rfl k
set_option maxRecDepth 4000 in
theorem g_X8_sew_0 {sc : List Int} {d : Nat} {m : Mem} {Q : Option AV → Mem → Prop} {l1 : Int} (k : S_X8_sew sc d 1 [aR 62, aI l1] [aR 62] m Q) : S_X8_sew sc d 0 [aR 62, aI l1] [] m Q := by
  refine x_aload_n (pc2 := 1) dX8_sew_0 rfl rfl ?_
  exact k
set_option maxRecDepth 4000 in
theorem g_X8_sew_4 {sc : List Int} {d : Nat} {m : Mem} {Q : Option AV → Mem → Prop} {l1 s0 : Int} (k : (-2147483648 ≤ s0 ∧ s0 < 2147483648) ∧ ((s0 = 0) → (S_X8_sew sc d 21 [aR 62, aU] [aR 62] m Q)) ∧ (¬ (s0 = 0) → ((-2147483648 ≤ l1 ∧ l1 < 2147483648) ∧ ((l1 = 0) → (S_X8_sew sc d 26 [aR 62, aI l1] [aR 62] m Q)) ∧ (¬ (l1 = 0) → ((-2147483648 ≤ (m 124 1) ∧ (m 124 1) < 2147483648) ∧ (((m 124 1) ≠ 0) → (S_X8_sew sc d 26 [aR 62, aI l1] [aR 62] m Q)) ∧ (¬ ((m 124 1) ≠ 0) → (S_X8_sew sc d 21 [aR 62, aU] [aR 62] m Q))))))) : S_X8_sew sc d 4 [aR 62, aI l1] [aI s0] m Q := by
  obtain ⟨h1, k⟩ := k
  obtain ⟨k1, k2⟩ := k
  refine x_if_eq (tgt := 20) (pc2 := 7) dX8_sew_4 (by decide) rfl h1 (fun c2 => ?_) (fun c2 => ?_)
  · replace k := k1 c2
    refine x_aload_n (pc2 := 21) dX8_sew_20 rfl rfl ?_
    exact x_drop (drp_k (drp_u drp_n)) k
  · replace k := k2 c2
    refine x_iload_n (pc2 := 8) dX8_sew_7 rfl rfl ?_
    obtain ⟨h3, k⟩ := k
    obtain ⟨k1, k2⟩ := k
    refine x_if_eq (tgt := 25) (pc2 := 11) dX8_sew_8 (by decide) rfl h3 (fun c4 => ?_) (fun c4 => ?_)
    · replace k := k1 c4
      refine x_aload_n (pc2 := 26) dX8_sew_25 rfl rfl ?_
      exact k
    · replace k := k2 c4
      refine x_aload_n (pc2 := 12) dX8_sew_11 rfl rfl ?_
      refine x_getf (pc2 := 15) (v := aR 124) fl_X8_199 ic_62 (vr_62_81 _) dX8_sew_12 rfl ?_
      refine x_iconst (pc2 := 16) dX8_sew_15 rfl ?_
      refine x_iald (pc2 := 17) ic_124 (by decide) (by rw [al_124]; decide) dX8_sew_16 rfl ?_
      obtain ⟨h5, k⟩ := k
      obtain ⟨k1, k2⟩ := k
      refine x_if_ne (tgt := 25) (pc2 := 20) dX8_sew_17 (by decide) rfl h5 (fun c6 => ?_) (fun c6 => ?_)
      · replace k := k1 c6
        refine x_aload_n (pc2 := 26) dX8_sew_25 rfl rfl ?_
        exact k
      · replace k := k2 c6
        refine x_aload_n (pc2 := 21) dX8_sew_20 rfl rfl ?_
        exact x_drop (drp_k (drp_u drp_n)) k
set_option maxRecDepth 4000 in
theorem g_X8_sew_24 {sc : List Int} {d : Nat} {m : Mem} {Q : Option AV → Mem → Prop} {s0 : Int} (k : Q (some (aI s0)) m) : S_X8_sew sc d 24 [aR 62, aU] [aI s0] m Q := by
  exact x_ireturn dX8_sew_24 ⟨.int, rfl, rfl⟩ k
set_option maxRecDepth 4000 in
theorem g_X8_sew_29 {sc : List Int} {d : Nat} {m : Mem} {Q : Option AV → Mem → Prop} {l1 : Int} (k : S_X8_sew sc d 31 [aR 62, aU] [aI l1, aR 62] m Q) : S_X8_sew sc d 29 [aR 62, aI l1] [] m Q := by
  refine x_aload_n (pc2 := 30) dX8_sew_29 rfl rfl ?_
  refine x_iload_n (pc2 := 31) dX8_sew_30 rfl rfl ?_
  exact x_drop (drp_k (drp_u drp_n)) k
set_option maxRecDepth 4000 in
theorem g_X8_sew_34 {sc : List Int} {d : Nat} {m : Mem} {Q : Option AV → Mem → Prop} {s0 : Int} (k : ((-2147483648 ≤ s0 ∧ s0 < 2147483648)) ∧ Q (some (aI (if s0 = 0 then 0 else 1 : Int))) m) : S_X8_sew sc d 34 [aR 62, aU] [aI s0] m Q := by
  obtain ⟨g2, k⟩ := k
  have kj : S_X8_sew sc d 42 [aR 62, aU] [aI (if s0 = 0 then 0 else 1 : Int)] m Q := by
    exact x_ireturn dX8_sew_42 ⟨.int, rfl, rfl⟩ k
  have h3 := g2 
  refine x_if_eq (tgt := 41) (pc2 := 37) dX8_sew_34 (by decide) rfl h3 (fun c4 => ?_) (fun c4 => ?_)
  · skip
    refine x_iconst (pc2 := 42) dX8_sew_41 rfl ?_
    exact x_topI (v := (if s0 = 0 then 0 else 1 : Int)) (if_pos c4) kj
  · skip
    refine x_iconst (pc2 := 38) dX8_sew_37 rfl ?_
    refine x_goto (tgt := 42) dX8_sew_38 (by decide) ?_
    exact x_topI (v := (if s0 = 0 then 0 else 1 : Int)) (if_neg c4) kj
theorem c_X8_sew_1 {sc : List Int} {d d2 : Nat} {m m2 : Mem} {Q : Option AV → Mem → Prop} {l1 : Int} {v : Int} (hM : C_X8_isLeft sc d2 [aR 62] m (some (aI v)) m2) (hd : d2 + 1 ≤ d) (k : S_X8_sew sc d 4 [aR 62, aI l1] [aI v] m2 Q) : S_X8_sew sc d 1 [aR 62, aI l1] [aR 62] m Q := x_callV (as := []) (rest := []) hM mk_X8_isLeft mv_X8_isLeft lk_X8_612 (Or.inl ⟨8, (RX8, TX8, 123), ic_62, Nat.le_of_ble_eq_true rfl, rfl, rfl⟩) hd rfl rfl (Nat.le_of_ble_eq_true rfl) dX8_sew_1 rfl k
theorem c_X8_sew_21 {sc : List Int} {d d2 : Nat} {m m2 : Mem} {Q : Option AV → Mem → Prop} {v : Int} (hM : C_X8_refuses sc d2 [aR 62] m (some (aI v)) m2) (hd : d2 + 1 ≤ d) (k : S_X8_sew sc d 24 [aR 62, aU] [aI v] m2 Q) : S_X8_sew sc d 21 [aR 62, aU] [aR 62] m Q := x_callV (as := []) (rest := []) hM mk_X8_refuses mv_X8_refuses lk_X8_615 (Or.inl ⟨8, (RX8, TX8, 123), ic_62, Nat.le_of_ble_eq_true rfl, rfl, rfl⟩) hd rfl rfl (Nat.le_of_ble_eq_true rfl) dX8_sew_21 rfl k
theorem c_X8_sew_26 {sc : List Int} {d d2 : Nat} {m m2 : Mem} {Q : Option AV → Mem → Prop} {l1 : Int} (hM : C_X8_keeps sc d2 [aR 62] m none m2) (hd : d2 + 1 ≤ d) (k : S_X8_sew sc d 29 [aR 62, aI l1] [] m2 Q) : S_X8_sew sc d 26 [aR 62, aI l1] [aR 62] m Q := x_callV (as := []) (rest := []) hM mk_X8_keeps mv_X8_keeps lk_X8_618 (Or.inl ⟨8, (RX8, TX8, 123), ic_62, Nat.le_of_ble_eq_true rfl, rfl, rfl⟩) hd rfl rfl (Nat.le_of_ble_eq_true rfl) dX8_sew_26 rfl k
theorem c_X8_sew_31 {sc : List Int} {d d2 : Nat} {m m2 : Mem} {Q : Option AV → Mem → Prop} {s1 : Int} {v : Int} (hM : C_X8_isSewn sc d2 [aR 62, aI s1] m (some (aI v)) m2) (hd : d2 + 1 ≤ d) (k : S_X8_sew sc d 34 [aR 62, aU] [aI v] m2 Q) : S_X8_sew sc d 31 [aR 62, aU] [aI s1, aR 62] m Q := x_callV (as := [aI s1]) (rest := []) hM mk_X8_isSewn mv_X8_isSewn lk_X8_621 (Or.inl ⟨8, (RX8, TX8, 123), ic_62, Nat.le_of_ble_eq_true rfl, rfl, rfl⟩) hd rfl rfl (Nat.le_of_ble_eq_true rfl) dX8_sew_31 rfl k
set_option maxRecDepth 4000 in
theorem g_X8_glance_0 {sc : List Int} {d : Nat} {m : Mem} {Q : Option AV → Mem → Prop} (k : S_X8_glance sc d 1 [aR 62] [aR 62] m Q) : S_X8_glance sc d 0 [aR 62] [] m Q := by
  refine x_aload_n (pc2 := 1) dX8_glance_0 rfl rfl ?_
  exact k
set_option maxRecDepth 4000 in
theorem g_X8_glance_4 {sc : List Int} {d : Nat} {m : Mem} {Q : Option AV → Mem → Prop} {s0 : Int} (k : (-2147483648 ≤ s0 ∧ s0 < 2147483648) ∧ ((s0 ≠ 0) → (S_X8_glance sc d 13 [aR 62] [aR 62] m Q)) ∧ (¬ (s0 ≠ 0) → (S_X8_glance sc d 8 [aR 62] [aR 62] m Q))) : S_X8_glance sc d 4 [aR 62] [aI s0] m Q := by
  obtain ⟨h1, k⟩ := k
  obtain ⟨k1, k2⟩ := k
  refine x_if_ne (tgt := 12) (pc2 := 7) dX8_glance_4 (by decide) rfl h1 (fun c2 => ?_) (fun c2 => ?_)
  · replace k := k1 c2
    refine x_aload_n (pc2 := 13) dX8_glance_12 rfl rfl ?_
    exact k
  · replace k := k2 c2
    refine x_aload_n (pc2 := 8) dX8_glance_7 rfl rfl ?_
    exact k
set_option maxRecDepth 4000 in
theorem g_X8_glance_11 {sc : List Int} {d : Nat} {m : Mem} {Q : Option AV → Mem → Prop} {s0 : Int} (k : Q (some (aI s0)) m) : S_X8_glance sc d 11 [aR 62] [aI s0] m Q := by
  exact x_ireturn dX8_glance_11 ⟨.int, rfl, rfl⟩ k
set_option maxRecDepth 4000 in
theorem g_X8_glance_16 {sc : List Int} {d : Nat} {m : Mem} {Q : Option AV → Mem → Prop} (k : S_X8_glance sc d 19 [aR 62] [aI 2, aR 62, aR 62] m Q) : S_X8_glance sc d 16 [aR 62] [] m Q := by
  refine x_aload_n (pc2 := 17) dX8_glance_16 rfl rfl ?_
  refine x_aload_n (pc2 := 18) dX8_glance_17 rfl rfl ?_
  refine x_iconst (pc2 := 19) dX8_glance_18 rfl ?_
  exact k
set_option maxRecDepth 4000 in
theorem g_X8_glance_22 {sc : List Int} {d : Nat} {m : Mem} {Q : Option AV → Mem → Prop} {s1 : Int} (k : S_X8_glance sc d 22 [aR 62] [aI s1, aR 62] m Q) : S_X8_glance sc d 22 [aR 62] [aI s1, aR 62] m Q := by
  exact k
set_option maxRecDepth 4000 in
theorem g_X8_glance_25 {sc : List Int} {d : Nat} {m : Mem} {Q : Option AV → Mem → Prop} (k : S_X8_glance sc d 26 [aR 62] [aR 62] m Q) : S_X8_glance sc d 25 [aR 62] [] m Q := by
  refine x_aload_n (pc2 := 26) dX8_glance_25 rfl rfl ?_
  exact k
set_option maxRecDepth 4000 in
theorem g_X8_glance_29 {sc : List Int} {d : Nat} {m : Mem} {Q : Option AV → Mem → Prop} {s0 : Int} (k : ((-2147483648 ≤ s0 ∧ s0 < 2147483648)) ∧ Q (some (aI (if s0 = 0 then 0 else 1 : Int))) m) : S_X8_glance sc d 29 [aR 62] [aI s0] m Q := by
  obtain ⟨g2, k⟩ := k
  have kj : S_X8_glance sc d 37 [aR 62] [aI (if s0 = 0 then 0 else 1 : Int)] m Q := by
    exact x_ireturn dX8_glance_37 ⟨.int, rfl, rfl⟩ k
  have h3 := g2 
  refine x_if_eq (tgt := 36) (pc2 := 32) dX8_glance_29 (by decide) rfl h3 (fun c4 => ?_) (fun c4 => ?_)
  · skip
    refine x_iconst (pc2 := 37) dX8_glance_36 rfl ?_
    exact x_topI (v := (if s0 = 0 then 0 else 1 : Int)) (if_pos c4) kj
  · skip
    refine x_iconst (pc2 := 33) dX8_glance_32 rfl ?_
    refine x_goto (tgt := 37) dX8_glance_33 (by decide) ?_
    exact x_topI (v := (if s0 = 0 then 0 else 1 : Int)) (if_neg c4) kj
theorem c_X8_glance_1 {sc : List Int} {d d2 : Nat} {m m2 : Mem} {Q : Option AV → Mem → Prop} {v : Int} (hM : C_X8_isLeft sc d2 [aR 62] m (some (aI v)) m2) (hd : d2 + 1 ≤ d) (k : S_X8_glance sc d 4 [aR 62] [aI v] m2 Q) : S_X8_glance sc d 1 [aR 62] [aR 62] m Q := x_callV (as := []) (rest := []) hM mk_X8_isLeft mv_X8_isLeft lk_X8_612 (Or.inl ⟨8, (RX8, TX8, 123), ic_62, Nat.le_of_ble_eq_true rfl, rfl, rfl⟩) hd rfl rfl (Nat.le_of_ble_eq_true rfl) dX8_glance_1 rfl k
theorem c_X8_glance_8 {sc : List Int} {d d2 : Nat} {m m2 : Mem} {Q : Option AV → Mem → Prop} {v : Int} (hM : C_X8_refuses sc d2 [aR 62] m (some (aI v)) m2) (hd : d2 + 1 ≤ d) (k : S_X8_glance sc d 11 [aR 62] [aI v] m2 Q) : S_X8_glance sc d 8 [aR 62] [aR 62] m Q := x_callV (as := []) (rest := []) hM mk_X8_refuses mv_X8_refuses lk_X8_615 (Or.inl ⟨8, (RX8, TX8, 123), ic_62, Nat.le_of_ble_eq_true rfl, rfl, rfl⟩) hd rfl rfl (Nat.le_of_ble_eq_true rfl) dX8_glance_8 rfl k
theorem c_X8_glance_13 {sc : List Int} {d d2 : Nat} {m m2 : Mem} {Q : Option AV → Mem → Prop} (hM : C_X8_keeps sc d2 [aR 62] m none m2) (hd : d2 + 1 ≤ d) (k : S_X8_glance sc d 16 [aR 62] [] m2 Q) : S_X8_glance sc d 13 [aR 62] [aR 62] m Q := x_callV (as := []) (rest := []) hM mk_X8_keeps mv_X8_keeps lk_X8_618 (Or.inl ⟨8, (RX8, TX8, 123), ic_62, Nat.le_of_ble_eq_true rfl, rfl, rfl⟩) hd rfl rfl (Nat.le_of_ble_eq_true rfl) dX8_glance_13 rfl k
theorem c_X8_glance_19 {sc : List Int} {d d2 : Nat} {m m2 : Mem} {Q : Option AV → Mem → Prop} {s2 : Int} {v : Int} (hM : C_X8_settingOf sc d2 [aR 62, aI s2] m (some (aI v)) m2) (hd : d2 + 1 ≤ d) (k : S_X8_glance sc d 22 [aR 62] [aI v, aR 62] m2 Q) : S_X8_glance sc d 19 [aR 62] [aI s2, aR 62, aR 62] m Q := x_callV (as := [aI s2]) (rest := [aR 62]) hM mk_X8_settingOf mv_X8_settingOf lk_X8_461 (Or.inl ⟨8, (RX8, TX8, 123), ic_62, Nat.le_of_ble_eq_true rfl, rfl, rfl⟩) hd rfl rfl (Nat.le_of_ble_eq_true rfl) dX8_glance_19 rfl k
theorem c_X8_glance_22 {sc : List Int} {d d2 : Nat} {m m2 : Mem} {Q : Option AV → Mem → Prop} {s1 : Int} (hM : C_X8_costs sc d2 [aR 62, aI s1] m none m2) (hd : d2 + 1 ≤ d) (k : S_X8_glance sc d 25 [aR 62] [] m2 Q) : S_X8_glance sc d 22 [aR 62] [aI s1, aR 62] m Q := x_callV (as := [aI s1]) (rest := []) hM mk_X8_costs mv_X8_costs lk_X8_603 (Or.inl ⟨8, (RX8, TX8, 123), ic_62, Nat.le_of_ble_eq_true rfl, rfl, rfl⟩) hd rfl rfl (Nat.le_of_ble_eq_true rfl) dX8_glance_22 rfl k
theorem c_X8_glance_26 {sc : List Int} {d d2 : Nat} {m m2 : Mem} {Q : Option AV → Mem → Prop} {v : Int} (hM : C_X8_wouldLast sc d2 [aR 62] m (some (aI v)) m2) (hd : d2 + 1 ≤ d) (k : S_X8_glance sc d 29 [aR 62] [aI v] m2 Q) : S_X8_glance sc d 26 [aR 62] [aR 62] m Q := x_callV (as := []) (rest := []) hM mk_X8_wouldLast mv_X8_wouldLast lk_X8_609 (Or.inl ⟨8, (RX8, TX8, 123), ic_62, Nat.le_of_ble_eq_true rfl, rfl, rfl⟩) hd rfl rfl (Nat.le_of_ble_eq_true rfl) dX8_glance_26 rfl k
set_option maxRecDepth 4000 in
theorem g_X8_sews_0 {sc : List Int} {d : Nat} {m : Mem} {Q : Option AV → Mem → Prop} {l1 : Int} (k : S_X8_sews sc d 2 [aR 62, aI l1, aU] [aI l1, aR 62] m Q) : S_X8_sews sc d 0 [aR 62, aI l1, aU] [] m Q := by
  refine x_aload_n (pc2 := 1) dX8_sews_0 rfl rfl ?_
  refine x_iload_n (pc2 := 2) dX8_sews_1 rfl rfl ?_
  exact k
set_option maxRecDepth 4000 in
theorem g_X8_sews_5 {sc : List Int} {d : Nat} {m : Mem} {Q : Option AV → Mem → Prop} {l1 s0 : Int} (k : (-2147483648 ≤ s0 ∧ s0 < 2147483648) ∧ ((s0 = 0) → (S_X8_sews sc d 16 [aR 62, aU, aU] [aR 62] m Q)) ∧ (¬ (s0 = 0) → (S_X8_sews sc d 9 [aR 62, aI l1, aU] [aR 62] m Q))) : S_X8_sews sc d 5 [aR 62, aI l1, aU] [aI s0] m Q := by
  obtain ⟨h1, k⟩ := k
  obtain ⟨k1, k2⟩ := k
  refine x_if_eq (tgt := 15) (pc2 := 8) dX8_sews_5 (by decide) rfl h1 (fun c2 => ?_) (fun c2 => ?_)
  · replace k := k1 c2
    refine x_aload_n (pc2 := 16) dX8_sews_15 rfl rfl ?_
    exact x_drop (drp_k (drp_u (drp_k drp_n))) k
  · replace k := k2 c2
    refine x_aload_n (pc2 := 9) dX8_sews_8 rfl rfl ?_
    exact k
set_option maxRecDepth 4000 in
theorem g_X8_sews_12 {sc : List Int} {d : Nat} {m : Mem} {Q : Option AV → Mem → Prop} {l1 s0 : Int} (k : (-2147483648 ≤ s0 ∧ s0 < 2147483648) ∧ ((s0 ≠ 0) → (S_X8_sews sc d 21 [aR 62, aI l1, aU] [aR 62] m Q)) ∧ (¬ (s0 ≠ 0) → (S_X8_sews sc d 16 [aR 62, aU, aU] [aR 62] m Q))) : S_X8_sews sc d 12 [aR 62, aI l1, aU] [aI s0] m Q := by
  obtain ⟨h1, k⟩ := k
  obtain ⟨k1, k2⟩ := k
  refine x_if_ne (tgt := 20) (pc2 := 15) dX8_sews_12 (by decide) rfl h1 (fun c2 => ?_) (fun c2 => ?_)
  · replace k := k1 c2
    refine x_aload_n (pc2 := 21) dX8_sews_20 rfl rfl ?_
    exact k
  · replace k := k2 c2
    refine x_aload_n (pc2 := 16) dX8_sews_15 rfl rfl ?_
    exact x_drop (drp_k (drp_u (drp_k drp_n))) k
set_option maxRecDepth 4000 in
theorem g_X8_sews_19 {sc : List Int} {d : Nat} {m : Mem} {Q : Option AV → Mem → Prop} {s0 : Int} (k : Q (some (aI s0)) m) : S_X8_sews sc d 19 [aR 62, aU, aU] [aI s0] m Q := by
  exact x_ireturn dX8_sews_19 ⟨.int, rfl, rfl⟩ k
set_option maxRecDepth 4000 in
theorem g_X8_sews_24 {sc : List Int} {d : Nat} {m : Mem} {Q : Option AV → Mem → Prop} {l1 : Int} (k : (-2147483648 ≤ l1 ∧ l1 < 2147483648) ∧ ((l1 ≠ 3) → (S_X8_sews sc d 34 [aR 62, aI l1, aU] [] m Q)) ∧ (¬ (l1 ≠ 3) → (S_X8_sews sc d 31 [aR 62, aI l1, aU] [aI 3, aR 62] m Q))) : S_X8_sews sc d 24 [aR 62, aI l1, aU] [] m Q := by
  refine x_iload_n (pc2 := 25) dX8_sews_24 rfl rfl ?_
  refine x_iconst (pc2 := 26) dX8_sews_25 rfl ?_
  obtain ⟨h1, k⟩ := k
  obtain ⟨k1, k2⟩ := k
  refine x_icmp_ne (tgt := 34) (pc2 := 29) dX8_sews_26 (by decide) rfl h1 (by decide) (fun c2 => ?_) (fun c2 => ?_)
  · replace k := k1 c2
    exact k
  · replace k := k2 c2
    refine x_aload_n (pc2 := 30) dX8_sews_29 rfl rfl ?_
    refine x_iconst (pc2 := 31) dX8_sews_30 rfl ?_
    exact k
set_option maxRecDepth 4000 in
theorem g_X8_sews_34 {sc : List Int} {d : Nat} {m : Mem} {Q : Option AV → Mem → Prop} {l1 : Int} (k : S_X8_sews sc d 39 [aR 62, aI l1, aU] [] (wr m 62 86 0) Q) : S_X8_sews sc d 34 [aR 62, aI l1, aU] [] m Q := by
  refine x_aload_n (pc2 := 35) dX8_sews_34 rfl rfl ?_
  refine x_iconst (pc2 := 36) dX8_sews_35 rfl ?_
  refine x_putf (pc2 := 39) (x := 0) fl_X8_600 ft_8_86 ic_62 (pv_i _ ic_62 rfl) (pn_i _) dX8_sews_36 rfl ?_
  exact k
set_option maxRecDepth 4000 in
theorem g_X8_sews_39 {sc : List Int} {d : Nat} {m : Mem} {Q : Option AV → Mem → Prop} {l1 : Int} (k : S_X8_sews sc d 40 [aR 62, aI l1, aU] [aR 62] m Q) : S_X8_sews sc d 39 [aR 62, aI l1, aU] [] m Q := by
  refine x_aload_n (pc2 := 40) dX8_sews_39 rfl rfl ?_
  exact k
set_option maxRecDepth 4000 in
theorem g_X8_sews_43 {sc : List Int} {d : Nat} {m : Mem} {Q : Option AV → Mem → Prop} {l1 s0 : Int} (k : (-2147483648 ≤ s0 ∧ s0 < 2147483648) ∧ ((s0 = 0) → (Q (some (aI (m 62 86))) m)) ∧ (¬ (s0 = 0) → ((-2147483648 ≤ l1 ∧ l1 < 2147483648) ∧ ((l1 ≠ 2) → (S_X8_sews sc d 69 [aR 62, aI l1, aU] [] m Q)) ∧ (¬ (l1 ≠ 2) → ((-2147483648 ≤ (m 124 1) ∧ (m 124 1) < 2147483648) ∧ (((m 124 1) ≤ 0) → (S_X8_sews sc d 69 [aR 62, aI l1, aU] [] m Q)) ∧ (¬ ((m 124 1) ≤ 0) → (S_X8_sews sc d 63 [aR 62, aI l1, aU] [aI 2, aR 62, aR 62] m Q))))))) : S_X8_sews sc d 43 [aR 62, aI l1, aU] [aI s0] m Q := by
  obtain ⟨h1, k⟩ := k
  obtain ⟨k1, k2⟩ := k
  refine x_if_eq (tgt := 105) (pc2 := 46) dX8_sews_43 (by decide) rfl h1 (fun c2 => ?_) (fun c2 => ?_)
  · replace k := k1 c2
    refine x_aload_n (pc2 := 106) dX8_sews_105 rfl rfl ?_
    refine x_getf (pc2 := 109) (v := aI (m 62 86)) fl_X8_600 ic_62 (fv_i _ ic_62 rfl) dX8_sews_106 rfl ?_
    exact x_ireturn dX8_sews_109 ⟨.int, rfl, rfl⟩ k
  · replace k := k2 c2
    refine x_iload_n (pc2 := 47) dX8_sews_46 rfl rfl ?_
    refine x_iconst (pc2 := 48) dX8_sews_47 rfl ?_
    obtain ⟨h3, k⟩ := k
    obtain ⟨k1, k2⟩ := k
    refine x_icmp_ne (tgt := 69) (pc2 := 51) dX8_sews_48 (by decide) rfl h3 (by decide) (fun c4 => ?_) (fun c4 => ?_)
    · replace k := k1 c4
      exact k
    · replace k := k2 c4
      refine x_aload_n (pc2 := 52) dX8_sews_51 rfl rfl ?_
      refine x_getf (pc2 := 55) (v := aR 124) fl_X8_199 ic_62 (vr_62_81 _) dX8_sews_52 rfl ?_
      refine x_iconst (pc2 := 56) dX8_sews_55 rfl ?_
      refine x_iald (pc2 := 57) ic_124 (by decide) (by rw [al_124]; decide) dX8_sews_56 rfl ?_
      obtain ⟨h5, k⟩ := k
      obtain ⟨k1, k2⟩ := k
      refine x_if_le (tgt := 69) (pc2 := 60) dX8_sews_57 (by decide) rfl h5 (fun c6 => ?_) (fun c6 => ?_)
      · replace k := k1 c6
        exact k
      · replace k := k2 c6
        refine x_aload_n (pc2 := 61) dX8_sews_60 rfl rfl ?_
        refine x_aload_n (pc2 := 62) dX8_sews_61 rfl rfl ?_
        refine x_iconst (pc2 := 63) dX8_sews_62 rfl ?_
        exact k
set_option maxRecDepth 4000 in
theorem g_X8_sews_66 {sc : List Int} {d : Nat} {m : Mem} {Q : Option AV → Mem → Prop} {l1 s1 : Int} (k : S_X8_sews sc d 66 [aR 62, aI l1, aU] [aI s1, aR 62] m Q) : S_X8_sews sc d 66 [aR 62, aI l1, aU] [aI s1, aR 62] m Q := by
  exact k
set_option maxRecDepth 4000 in
theorem g_X8_sews_69 {sc : List Int} {d : Nat} {m : Mem} {Q : Option AV → Mem → Prop} {l1 : Int} (k : S_X8_sews sc d 89 [aR 62, aI l1, aU] [aI (m 124 2), aI (m 124 1), aI (m 124 0), aI l1, aR 62] m Q) : S_X8_sews sc d 69 [aR 62, aI l1, aU] [] m Q := by
  refine x_aload_n (pc2 := 70) dX8_sews_69 rfl rfl ?_
  refine x_iload_n (pc2 := 71) dX8_sews_70 rfl rfl ?_
  refine x_aload_n (pc2 := 72) dX8_sews_71 rfl rfl ?_
  refine x_getf (pc2 := 75) (v := aR 124) fl_X8_199 ic_62 (vr_62_81 _) dX8_sews_72 rfl ?_
  refine x_iconst (pc2 := 76) dX8_sews_75 rfl ?_
  refine x_iald (pc2 := 77) ic_124 (by decide) (by rw [al_124]; decide) dX8_sews_76 rfl ?_
  refine x_aload_n (pc2 := 78) dX8_sews_77 rfl rfl ?_
  refine x_getf (pc2 := 81) (v := aR 124) fl_X8_199 ic_62 (vr_62_81 _) dX8_sews_78 rfl ?_
  refine x_iconst (pc2 := 82) dX8_sews_81 rfl ?_
  refine x_iald (pc2 := 83) ic_124 (by decide) (by rw [al_124]; decide) dX8_sews_82 rfl ?_
  refine x_aload_n (pc2 := 84) dX8_sews_83 rfl rfl ?_
  refine x_getf (pc2 := 87) (v := aR 124) fl_X8_199 ic_62 (vr_62_81 _) dX8_sews_84 rfl ?_
  refine x_iconst (pc2 := 88) dX8_sews_87 rfl ?_
  refine x_iald (pc2 := 89) ic_124 (by decide) (by rw [al_124]; decide) dX8_sews_88 rfl ?_
  exact k
set_option maxRecDepth 4000 in
theorem g_X8_sews_92 {sc : List Int} {d : Nat} {m : Mem} {Q : Option AV → Mem → Prop} {l1 s0 : Int} (k : S_X8_sews sc d 96 [aR 62, aI l1, aU] [aI s0, aR 62, aR 62] m Q) : S_X8_sews sc d 92 [aR 62, aI l1, aU] [aI s0] m Q := by
  refine x_istore_n (pc2 := 93) (ls2 := [aR 62, aI l1, aI s0]) dX8_sews_92 rfl (by decide) rfl ?_
  refine x_aload_n (pc2 := 94) dX8_sews_93 rfl rfl ?_
  refine x_aload_n (pc2 := 95) dX8_sews_94 rfl rfl ?_
  refine x_iload_n (pc2 := 96) dX8_sews_95 rfl rfl ?_
  exact x_drop (drp_k (drp_k (drp_u drp_n))) k
set_option maxRecDepth 4000 in
theorem g_X8_sews_99 {sc : List Int} {d : Nat} {m : Mem} {Q : Option AV → Mem → Prop} {l1 s1 : Int} (k : (s1 = 0 ∨ s1 = 1) ∧ S_X8_sews sc d 39 [aR 62, aI l1, aU] [] (wr m 62 87 s1) Q) : S_X8_sews sc d 99 [aR 62, aI l1, aU] [aI s1, aR 62] m Q := by
  obtain ⟨h1, k⟩ := k
  refine x_putf (pc2 := 102) (x := s1) fl_X8_625 ft_8_87 ic_62 (pv_i _ ic_62 rfl) (pn_z h1) dX8_sews_99 rfl ?_
  refine x_goto (tgt := 39) dX8_sews_102 (by decide) ?_
  exact k
theorem c_X8_sews_2 {sc : List Int} {d d2 : Nat} {m m2 : Mem} {Q : Option AV → Mem → Prop} {l1 s1 : Int} {v : Int} (hM : C_X8_isSewer sc d2 [aR 62, aI s1] m (some (aI v)) m2) (hd : d2 + 1 ≤ d) (k : S_X8_sews sc d 5 [aR 62, aI l1, aU] [aI v] m2 Q) : S_X8_sews sc d 2 [aR 62, aI l1, aU] [aI s1, aR 62] m Q := x_callV (as := [aI s1]) (rest := []) hM mk_X8_isSewer mv_X8_isSewer lk_X8_505 (Or.inl ⟨8, (RX8, TX8, 123), ic_62, Nat.le_of_ble_eq_true rfl, rfl, rfl⟩) hd rfl rfl (Nat.le_of_ble_eq_true rfl) dX8_sews_2 rfl k
theorem c_X8_sews_9 {sc : List Int} {d d2 : Nat} {m m2 : Mem} {Q : Option AV → Mem → Prop} {l1 : Int} {v : Int} (hM : C_X8_isLeft sc d2 [aR 62] m (some (aI v)) m2) (hd : d2 + 1 ≤ d) (k : S_X8_sews sc d 12 [aR 62, aI l1, aU] [aI v] m2 Q) : S_X8_sews sc d 9 [aR 62, aI l1, aU] [aR 62] m Q := x_callV (as := []) (rest := []) hM mk_X8_isLeft mv_X8_isLeft lk_X8_612 (Or.inl ⟨8, (RX8, TX8, 123), ic_62, Nat.le_of_ble_eq_true rfl, rfl, rfl⟩) hd rfl rfl (Nat.le_of_ble_eq_true rfl) dX8_sews_9 rfl k
theorem c_X8_sews_16 {sc : List Int} {d d2 : Nat} {m m2 : Mem} {Q : Option AV → Mem → Prop} {v : Int} (hM : C_X8_refuses sc d2 [aR 62] m (some (aI v)) m2) (hd : d2 + 1 ≤ d) (k : S_X8_sews sc d 19 [aR 62, aU, aU] [aI v] m2 Q) : S_X8_sews sc d 16 [aR 62, aU, aU] [aR 62] m Q := x_callV (as := []) (rest := []) hM mk_X8_refuses mv_X8_refuses lk_X8_615 (Or.inl ⟨8, (RX8, TX8, 123), ic_62, Nat.le_of_ble_eq_true rfl, rfl, rfl⟩) hd rfl rfl (Nat.le_of_ble_eq_true rfl) dX8_sews_16 rfl k
theorem c_X8_sews_21 {sc : List Int} {d d2 : Nat} {m m2 : Mem} {Q : Option AV → Mem → Prop} {l1 : Int} (hM : C_X8_keeps sc d2 [aR 62] m none m2) (hd : d2 + 1 ≤ d) (k : S_X8_sews sc d 24 [aR 62, aI l1, aU] [] m2 Q) : S_X8_sews sc d 21 [aR 62, aI l1, aU] [aR 62] m Q := x_callV (as := []) (rest := []) hM mk_X8_keeps mv_X8_keeps lk_X8_618 (Or.inl ⟨8, (RX8, TX8, 123), ic_62, Nat.le_of_ble_eq_true rfl, rfl, rfl⟩) hd rfl rfl (Nat.le_of_ble_eq_true rfl) dX8_sews_21 rfl k
theorem c_X8_sews_31 {sc : List Int} {d d2 : Nat} {m m2 : Mem} {Q : Option AV → Mem → Prop} {l1 s1 : Int} (hM : C_X8_means sc d2 [aR 62, aI s1] m none m2) (hd : d2 + 1 ≤ d) (k : S_X8_sews sc d 34 [aR 62, aI l1, aU] [] m2 Q) : S_X8_sews sc d 31 [aR 62, aI l1, aU] [aI s1, aR 62] m Q := x_callV (as := [aI s1]) (rest := []) hM mk_X8_means mv_X8_means lk_X8_508 (Or.inl ⟨8, (RX8, TX8, 123), ic_62, Nat.le_of_ble_eq_true rfl, rfl, rfl⟩) hd rfl rfl (Nat.le_of_ble_eq_true rfl) dX8_sews_31 rfl k
theorem c_X8_sews_40 {sc : List Int} {d d2 : Nat} {m m2 : Mem} {Q : Option AV → Mem → Prop} {l1 : Int} {v : Int} (hM : C_X8_isLeft sc d2 [aR 62] m (some (aI v)) m2) (hd : d2 + 1 ≤ d) (k : S_X8_sews sc d 43 [aR 62, aI l1, aU] [aI v] m2 Q) : S_X8_sews sc d 40 [aR 62, aI l1, aU] [aR 62] m Q := x_callV (as := []) (rest := []) hM mk_X8_isLeft mv_X8_isLeft lk_X8_612 (Or.inl ⟨8, (RX8, TX8, 123), ic_62, Nat.le_of_ble_eq_true rfl, rfl, rfl⟩) hd rfl rfl (Nat.le_of_ble_eq_true rfl) dX8_sews_40 rfl k
theorem c_X8_sews_63 {sc : List Int} {d d2 : Nat} {m m2 : Mem} {Q : Option AV → Mem → Prop} {l1 s2 : Int} {v : Int} (hM : C_X8_settingOf sc d2 [aR 62, aI s2] m (some (aI v)) m2) (hd : d2 + 1 ≤ d) (k : S_X8_sews sc d 66 [aR 62, aI l1, aU] [aI v, aR 62] m2 Q) : S_X8_sews sc d 63 [aR 62, aI l1, aU] [aI s2, aR 62, aR 62] m Q := x_callV (as := [aI s2]) (rest := [aR 62]) hM mk_X8_settingOf mv_X8_settingOf lk_X8_461 (Or.inl ⟨8, (RX8, TX8, 123), ic_62, Nat.le_of_ble_eq_true rfl, rfl, rfl⟩) hd rfl rfl (Nat.le_of_ble_eq_true rfl) dX8_sews_63 rfl k
theorem c_X8_sews_66 {sc : List Int} {d d2 : Nat} {m m2 : Mem} {Q : Option AV → Mem → Prop} {l1 s1 : Int} (hM : C_X8_costs sc d2 [aR 62, aI s1] m none m2) (hd : d2 + 1 ≤ d) (k : S_X8_sews sc d 69 [aR 62, aI l1, aU] [] m2 Q) : S_X8_sews sc d 66 [aR 62, aI l1, aU] [aI s1, aR 62] m Q := x_callV (as := [aI s1]) (rest := []) hM mk_X8_costs mv_X8_costs lk_X8_603 (Or.inl ⟨8, (RX8, TX8, 123), ic_62, Nat.le_of_ble_eq_true rfl, rfl, rfl⟩) hd rfl rfl (Nat.le_of_ble_eq_true rfl) dX8_sews_66 rfl k
theorem c_X8_sews_89 {sc : List Int} {d d2 : Nat} {m m2 : Mem} {Q : Option AV → Mem → Prop} {l1 s1 s2 s3 s4 : Int} {v : Int} (hM : C_X8_changesAt sc d2 [aR 62, aI s1, aI s2, aI s3, aI s4] m (some (aI v)) m2) (hd : d2 + 1 ≤ d) (k : S_X8_sews sc d 92 [aR 62, aI l1, aU] [aI v] m2 Q) : S_X8_sews sc d 89 [aR 62, aI l1, aU] [aI s4, aI s3, aI s2, aI s1, aR 62] m Q := x_callV (as := [aI s1, aI s2, aI s3, aI s4]) (rest := []) hM mk_X8_changesAt mv_X8_changesAt lk_X8_522 (Or.inl ⟨8, (RX8, TX8, 123), ic_62, Nat.le_of_ble_eq_true rfl, rfl, rfl⟩) hd rfl rfl (Nat.le_of_ble_eq_true rfl) dX8_sews_89 rfl k
theorem c_X8_sews_96 {sc : List Int} {d d2 : Nat} {m m2 : Mem} {Q : Option AV → Mem → Prop} {l1 s2 : Int} {v : Int} (hM : C_X8_isSewn sc d2 [aR 62, aI s2] m (some (aI v)) m2) (hd : d2 + 1 ≤ d) (k : S_X8_sews sc d 99 [aR 62, aI l1, aU] [aI v, aR 62] m2 Q) : S_X8_sews sc d 96 [aR 62, aI l1, aU] [aI s2, aR 62, aR 62] m Q := x_callV (as := [aI s2]) (rest := [aR 62]) hM mk_X8_isSewn mv_X8_isSewn lk_X8_621 (Or.inl ⟨8, (RX8, TX8, 123), ic_62, Nat.le_of_ble_eq_true rfl, rfl, rfl⟩) hd rfl rfl (Nat.le_of_ble_eq_true rfl) dX8_sews_96 rfl k
