set_option maxRecDepth 4000 in
theorem g_X8_isIn_0 {sc : List Int} {d : Nat} {m : Mem} {Q : Option AV → Mem → Prop} {l0 l2 l4 : Int} (k : ((-9223372036854775808 ≤ l0 ∧ l0 < 9223372036854775808)) ∧ ((-9223372036854775808 ≤ l2 ∧ l2 < 9223372036854775808)) ∧ ((¬ (l0 < l2)) → (-9223372036854775808 ≤ l4 ∧ l4 < 9223372036854775808)) ∧ Q (some (aI (if l0 < l2 then 0 else (if l4 < l0 then 0 else 1 : Int) : Int))) m) : S_X8_isIn sc d 0 [aJ l0, aU, aJ l2, aU, aJ l4, aU] [] m Q := by
  refine x_lload_n (pc2 := 1) dX8_isIn_0 rfl rfl ?_
  refine x_lload_n (pc2 := 2) dX8_isIn_1 rfl rfl ?_
  obtain ⟨g3, k⟩ := k
  obtain ⟨g4, k⟩ := k
  obtain ⟨g6, k⟩ := k
  have kj : S_X8_isIn sc d 18 [aJ l0, aU, aJ l2, aU, aJ l4, aU] [aI (if l0 < l2 then 0 else (if l4 < l0 then 0 else 1 : Int) : Int)] m Q := by
    exact x_ireturn dX8_isIn_18 (ret_z (by repeat (first | exact Or.inl rfl | exact Or.inr rfl | split))) k
  have h7 := g3 
  have h8 := g4 
  refine x_lc_lt (tgt := 17) (pc2 := 6) dX8_isIn_2 dX8_isIn_3 (by decide) rfl h7 h8 (fun c9 => ?_) (fun c9 => ?_)
  · skip
    refine x_iconst (pc2 := 18) dX8_isIn_17 rfl ?_
    exact x_topI (v := (if l0 < l2 then 0 else (if l4 < l0 then 0 else 1 : Int) : Int)) (if_pos c9) kj
  · skip
    refine x_lload_n (pc2 := 7) dX8_isIn_6 rfl rfl ?_
    refine x_lload (pc2 := 9) dX8_isIn_7 rfl rfl ?_
    have h10 := g6 c9
    refine x_lc_gt (tgt := 17) (pc2 := 13) dX8_isIn_9 dX8_isIn_10 (by decide) rfl h7 h10 (fun c11 => ?_) (fun c11 => ?_)
    · skip
      refine x_iconst (pc2 := 18) dX8_isIn_17 rfl ?_
      exact x_topI (v := (if l0 < l2 then 0 else (if l4 < l0 then 0 else 1 : Int) : Int)) ((if_neg c9).trans (if_pos c11)) kj
    · skip
      refine x_iconst (pc2 := 14) dX8_isIn_13 rfl ?_
      refine x_goto (tgt := 18) dX8_isIn_14 (by decide) ?_
      exact x_topI (v := (if l0 < l2 then 0 else (if l4 < l0 then 0 else 1 : Int) : Int)) ((if_neg c9).trans (if_neg c11)) kj
set_option maxRecDepth 4000 in
theorem g_X8_feed_0 {sc : List Int} {d : Nat} {m : Mem} {Q : Option AV → Mem → Prop} {l1 l2 l3 l4 l5 : Int} (k : (-2147483648 ≤ ((m 62 1) + 20) ∧ ((m 62 1) + 20) < 2147483648) ∧ ((((m 62 1) + 20) ≤ 1600) → (S_X8_feed sc d 28 [aR 62, aI l1, aI l2, aI l3, aI l4, aI l5, aI 0, aU] [] m Q)) ∧ (¬ (((m 62 1) + 20) ≤ 1600) → (Q (some (aI (-1))) (wr m 64 0 ((m 64 0) + 1))))) : S_X8_feed sc d 0 [aR 62, aI l1, aI l2, aI l3, aI l4, aI l5, aU, aU] [] m Q := by
  refine x_aload_n (pc2 := 1) dX8_feed_0 rfl rfl ?_
  refine x_getf (pc2 := 4) (v := aI (m 62 1)) fl_X8_287 ic_62 (fv_i _ ic_62 rfl) dX8_feed_1 rfl ?_
  refine x_bipush (pc2 := 6) dX8_feed_4 rfl rfl ?_
  refine x_iadd (pc2 := 7) dX8_feed_6 rfl ?_
  refine x_sipush (pc2 := 10) dX8_feed_7 rfl rfl ?_
  obtain ⟨h1, k⟩ := k
  obtain ⟨k1, k2⟩ := k
  refine x_icmp_le (tgt := 25) (pc2 := 13) dX8_feed_10 (by decide) rfl h1 (by decide) (fun c2 => ?_) (fun c2 => ?_)
  · replace k := k1 c2
    refine x_iconst (pc2 := 26) dX8_feed_25 rfl ?_
    refine x_istore (pc2 := 28) (ls2 := [aR 62, aI l1, aI l2, aI l3, aI l4, aI l5, aI 0, aU]) dX8_feed_26 rfl (by decide) rfl ?_
    exact k
  · replace k := k2 c2
    refine x_aload_n (pc2 := 14) dX8_feed_13 rfl rfl ?_
    refine x_getf (pc2 := 17) (v := aR 64) fl_X8_17 ic_62 (vr_62_9 _) dX8_feed_14 rfl ?_
    refine x_iconst (pc2 := 18) dX8_feed_17 rfl ?_
    refine x_dup2_ri (pc2 := 19) dX8_feed_18 rfl (by decide) ?_
    refine x_iald (pc2 := 20) ic_64 (by decide) (by rw [al_64]; decide) dX8_feed_19 rfl ?_
    refine x_iconst (pc2 := 21) dX8_feed_20 rfl ?_
    refine x_iadd (pc2 := 22) dX8_feed_21 rfl ?_
    refine x_iast (pc2 := 23) ic_64 (by decide) (by rw [al_64]; decide) dX8_feed_22 rfl ?_
    refine x_iconst (pc2 := 24) dX8_feed_23 rfl ?_
    exact x_ireturn dX8_feed_24 ⟨.int, rfl, rfl⟩ k
set_option maxRecDepth 4000 in
theorem g_X8_feed_28 {sc : List Int} {d : Nat} {m : Mem} {Q : Option AV → Mem → Prop} {l1 l2 l3 l4 l5 l6 : Int} (k : (-2147483648 ≤ l6 ∧ l6 < 2147483648) ∧ ((20 ≤ l6) → (Q (some (aI (m 62 1))) m)) ∧ (¬ (20 ≤ l6) → ((0 ≤ (m 62 1)) ∧ ((m 62 1) < 1600) ∧ S_X8_feed sc d 28 [aR 62, aI l1, aI l2, aI l3, aI l4, aI l5, aI (l6 + 1), aU] [] (wr (wr m 63 (m 62 1) (a_and (a_shr (if 4 ≤ l6 then (if 8 ≤ l6 then (if 12 ≤ l6 then (if 16 ≤ l6 then l5 else l4 : Int) else l3 : Int) else l2 : Int) else l1 : Int) (8 * (3 - (l6.tmod 4)))) 255)) 62 1 (((wr m 63 (m 62 1) (a_and (a_shr (if 4 ≤ l6 then (if 8 ≤ l6 then (if 12 ≤ l6 then (if 16 ≤ l6 then l5 else l4 : Int) else l3 : Int) else l2 : Int) else l1 : Int) (8 * (3 - (l6.tmod 4)))) 255)) 62 1) + 1)) Q))) : S_X8_feed sc d 28 [aR 62, aI l1, aI l2, aI l3, aI l4, aI l5, aI l6, aU] [] m Q := by
  refine x_iload (pc2 := 30) dX8_feed_28 rfl rfl ?_
  refine x_bipush (pc2 := 32) dX8_feed_30 rfl rfl ?_
  obtain ⟨h1, k⟩ := k
  obtain ⟨k1, k2⟩ := k
  refine x_icmp_ge (tgt := 124) (pc2 := 35) dX8_feed_32 (by decide) rfl h1 (by decide) (fun c2 => ?_) (fun c2 => ?_)
  · replace k := k1 c2
    refine x_aload_n (pc2 := 125) dX8_feed_124 rfl rfl ?_
    refine x_getf (pc2 := 128) (v := aI (m 62 1)) fl_X8_287 ic_62 (fv_i _ ic_62 rfl) dX8_feed_125 rfl ?_
    exact x_ireturn dX8_feed_128 ⟨.int, rfl, rfl⟩ k
  · replace k := k2 c2
    refine x_iload (pc2 := 37) dX8_feed_35 rfl rfl ?_
    refine x_iconst (pc2 := 38) dX8_feed_37 rfl ?_
    have kj : S_X8_feed sc d 81 [aR 62, aI l1, aI l2, aI l3, aI l4, aI l5, aI l6, aU] [aI (if 4 ≤ l6 then (if 8 ≤ l6 then (if 12 ≤ l6 then (if 16 ≤ l6 then l5 else l4 : Int) else l3 : Int) else l2 : Int) else l1 : Int)] m Q := by
      refine x_istore (pc2 := 83) (ls2 := [aR 62, aI l1, aI l2, aI l3, aI l4, aI l5, aI l6, aI (if 4 ≤ l6 then (if 8 ≤ l6 then (if 12 ≤ l6 then (if 16 ≤ l6 then l5 else l4 : Int) else l3 : Int) else l2 : Int) else l1 : Int)]) dX8_feed_81 rfl (by decide) rfl ?_
      refine x_aload_n (pc2 := 84) dX8_feed_83 rfl rfl ?_
      refine x_getf (pc2 := 87) (v := aR 63) fl_X8_7 ic_62 (vr_62_0 _) dX8_feed_84 rfl ?_
      refine x_aload_n (pc2 := 88) dX8_feed_87 rfl rfl ?_
      refine x_getf (pc2 := 91) (v := aI (m 62 1)) fl_X8_287 ic_62 (fv_i _ ic_62 rfl) dX8_feed_88 rfl ?_
      refine x_iload (pc2 := 93) dX8_feed_91 rfl rfl ?_
      refine x_bipush (pc2 := 95) dX8_feed_93 rfl rfl ?_
      refine x_iconst (pc2 := 96) dX8_feed_95 rfl ?_
      refine x_iload (pc2 := 98) dX8_feed_96 rfl rfl ?_
      refine x_iconst (pc2 := 99) dX8_feed_98 rfl ?_
      refine x_irem (pc2 := 100) dX8_feed_99 rfl h1 (by decide) (by decide) ?_
      refine x_isub (pc2 := 101) dX8_feed_100 rfl ?_
      refine x_imul (pc2 := 102) dX8_feed_101 rfl ?_
      refine x_ishr (pc2 := 103) dX8_feed_102 rfl ?_
      refine x_sipush (pc2 := 106) dX8_feed_103 rfl rfl ?_
      refine x_iand (pc2 := 107) dX8_feed_106 rfl ?_
      obtain ⟨h3, k⟩ := k
      obtain ⟨h4, k⟩ := k
      refine x_iast (pc2 := 108) ic_63 h3 (by rw [al_63]; exact h4) dX8_feed_107 rfl ?_
      refine x_aload_n (pc2 := 109) dX8_feed_108 rfl rfl ?_
      refine x_dup_r (pc2 := 110) dX8_feed_109 rfl (by decide) ?_
      refine x_getf (pc2 := 113) (v := aI ((wr m 63 (m 62 1) (a_and (a_shr (if 4 ≤ l6 then (if 8 ≤ l6 then (if 12 ≤ l6 then (if 16 ≤ l6 then l5 else l4 : Int) else l3 : Int) else l2 : Int) else l1 : Int) (8 * (3 - (l6.tmod 4)))) 255)) 62 1)) fl_X8_287 ic_62 (fv_i _ ic_62 rfl) dX8_feed_110 rfl ?_
      refine x_iconst (pc2 := 114) dX8_feed_113 rfl ?_
      refine x_iadd (pc2 := 115) dX8_feed_114 rfl ?_
      refine x_putf (pc2 := 118) (x := (((wr m 63 (m 62 1) (a_and (a_shr (if 4 ≤ l6 then (if 8 ≤ l6 then (if 12 ≤ l6 then (if 16 ≤ l6 then l5 else l4 : Int) else l3 : Int) else l2 : Int) else l1 : Int) (8 * (3 - (l6.tmod 4)))) 255)) 62 1) + 1)) fl_X8_287 ft_8_1 ic_62 (pv_i _ ic_62 rfl) (pn_i _) dX8_feed_115 rfl ?_
      refine x_iinc (pc2 := 121) (ls2 := [aR 62, aI l1, aI l2, aI l3, aI l4, aI l5, aI (l6 + 1), aI (if 4 ≤ l6 then (if 8 ≤ l6 then (if 12 ≤ l6 then (if 16 ≤ l6 then l5 else l4 : Int) else l3 : Int) else l2 : Int) else l1 : Int)]) dX8_feed_118 rfl rfl (by decide) rfl ?_
      refine x_goto (tgt := 28) dX8_feed_121 (by decide) ?_
      exact x_drop (drp_k (drp_k (drp_k (drp_k (drp_k (drp_k (drp_k (drp_u drp_n)))))))) k
    refine x_icmp_ge (tgt := 45) (pc2 := 41) dX8_feed_38 (by decide) rfl h1 (by decide) (fun c5 => ?_) (fun c5 => ?_)
    · skip
      refine x_iload (pc2 := 47) dX8_feed_45 rfl rfl ?_
      refine x_bipush (pc2 := 49) dX8_feed_47 rfl rfl ?_
      refine x_icmp_ge (tgt := 56) (pc2 := 52) dX8_feed_49 (by decide) rfl h1 (by decide) (fun c6 => ?_) (fun c6 => ?_)
      · skip
        refine x_iload (pc2 := 58) dX8_feed_56 rfl rfl ?_
        refine x_bipush (pc2 := 60) dX8_feed_58 rfl rfl ?_
        refine x_icmp_ge (tgt := 67) (pc2 := 63) dX8_feed_60 (by decide) rfl h1 (by decide) (fun c7 => ?_) (fun c7 => ?_)
        · skip
          refine x_iload (pc2 := 69) dX8_feed_67 rfl rfl ?_
          refine x_bipush (pc2 := 71) dX8_feed_69 rfl rfl ?_
          refine x_icmp_ge (tgt := 79) (pc2 := 74) dX8_feed_71 (by decide) rfl h1 (by decide) (fun c8 => ?_) (fun c8 => ?_)
          · skip
            refine x_iload (pc2 := 81) dX8_feed_79 rfl rfl ?_
            exact x_topI (v := (if 4 ≤ l6 then (if 8 ≤ l6 then (if 12 ≤ l6 then (if 16 ≤ l6 then l5 else l4 : Int) else l3 : Int) else l2 : Int) else l1 : Int)) ((if_pos c5).trans ((if_pos c6).trans ((if_pos c7).trans (if_pos c8)))) kj
          · skip
            refine x_iload (pc2 := 76) dX8_feed_74 rfl rfl ?_
            refine x_goto (tgt := 81) dX8_feed_76 (by decide) ?_
            exact x_topI (v := (if 4 ≤ l6 then (if 8 ≤ l6 then (if 12 ≤ l6 then (if 16 ≤ l6 then l5 else l4 : Int) else l3 : Int) else l2 : Int) else l1 : Int)) ((if_pos c5).trans ((if_pos c6).trans ((if_pos c7).trans (if_neg c8)))) kj
        · skip
          refine x_iload_n (pc2 := 64) dX8_feed_63 rfl rfl ?_
          refine x_goto (tgt := 81) dX8_feed_64 (by decide) ?_
          exact x_topI (v := (if 4 ≤ l6 then (if 8 ≤ l6 then (if 12 ≤ l6 then (if 16 ≤ l6 then l5 else l4 : Int) else l3 : Int) else l2 : Int) else l1 : Int)) ((if_pos c5).trans ((if_pos c6).trans (if_neg c7))) kj
      · skip
        refine x_iload_n (pc2 := 53) dX8_feed_52 rfl rfl ?_
        refine x_goto (tgt := 81) dX8_feed_53 (by decide) ?_
        exact x_topI (v := (if 4 ≤ l6 then (if 8 ≤ l6 then (if 12 ≤ l6 then (if 16 ≤ l6 then l5 else l4 : Int) else l3 : Int) else l2 : Int) else l1 : Int)) ((if_pos c5).trans (if_neg c6)) kj
    · skip
      refine x_iload_n (pc2 := 42) dX8_feed_41 rfl rfl ?_
      refine x_goto (tgt := 81) dX8_feed_42 (by decide) ?_
      exact x_topI (v := (if 4 ≤ l6 then (if 8 ≤ l6 then (if 12 ≤ l6 then (if 16 ≤ l6 then l5 else l4 : Int) else l3 : Int) else l2 : Int) else l1 : Int)) (if_neg c5) kj
set_option maxRecDepth 4000 in
theorem g_X8_end_0 {sc : List Int} {d : Nat} {m : Mem} {Q : Option AV → Mem → Prop} {l1 : Int} (k : (-2147483648 ≤ l1 ∧ l1 < 2147483648) ∧ ((l1 < 0) → (Q (some (aI 0)) (wr m 64 0 ((m 64 0) + 1)))) ∧ (¬ (l1 < 0) → ((-2147483648 ≤ (m 62 1) ∧ (m 62 1) < 2147483648) ∧ ((l1 ≤ (m 62 1)) → (Q (some (aI 1)) (wr m 62 1 l1))) ∧ (¬ (l1 ≤ (m 62 1)) → (Q (some (aI 0)) (wr m 64 0 ((m 64 0) + 1))))))) : S_X8_end sc d 0 [aR 62, aI l1] [] m Q := by
  refine x_iload_n (pc2 := 1) dX8_end_0 rfl rfl ?_
  obtain ⟨h1, k⟩ := k
  obtain ⟨k1, k2⟩ := k
  refine x_if_lt (tgt := 12) (pc2 := 4) dX8_end_1 (by decide) rfl h1 (fun c2 => ?_) (fun c2 => ?_)
  · replace k := k1 c2
    refine x_aload_n (pc2 := 13) dX8_end_12 rfl rfl ?_
    refine x_getf (pc2 := 16) (v := aR 64) fl_X8_17 ic_62 (vr_62_9 _) dX8_end_13 rfl ?_
    refine x_iconst (pc2 := 17) dX8_end_16 rfl ?_
    refine x_dup2_ri (pc2 := 18) dX8_end_17 rfl (by decide) ?_
    refine x_iald (pc2 := 19) ic_64 (by decide) (by rw [al_64]; decide) dX8_end_18 rfl ?_
    refine x_iconst (pc2 := 20) dX8_end_19 rfl ?_
    refine x_iadd (pc2 := 21) dX8_end_20 rfl ?_
    refine x_iast (pc2 := 22) ic_64 (by decide) (by rw [al_64]; decide) dX8_end_21 rfl ?_
    refine x_iconst (pc2 := 23) dX8_end_22 rfl ?_
    exact x_ireturn dX8_end_23 ⟨.boolean, rfl, rfl⟩ k
  · replace k := k2 c2
    refine x_iload_n (pc2 := 5) dX8_end_4 rfl rfl ?_
    refine x_aload_n (pc2 := 6) dX8_end_5 rfl rfl ?_
    refine x_getf (pc2 := 9) (v := aI (m 62 1)) fl_X8_287 ic_62 (fv_i _ ic_62 rfl) dX8_end_6 rfl ?_
    obtain ⟨h3, k⟩ := k
    obtain ⟨k1, k2⟩ := k
    refine x_icmp_le (tgt := 24) (pc2 := 12) dX8_end_9 (by decide) rfl h1 h3 (fun c4 => ?_) (fun c4 => ?_)
    · replace k := k1 c4
      refine x_aload_n (pc2 := 25) dX8_end_24 rfl rfl ?_
      refine x_iload_n (pc2 := 26) dX8_end_25 rfl rfl ?_
      refine x_putf (pc2 := 29) (x := l1) fl_X8_287 ft_8_1 ic_62 (pv_i _ ic_62 rfl) (pn_i _) dX8_end_26 rfl ?_
      refine x_iconst (pc2 := 30) dX8_end_29 rfl ?_
      exact x_ireturn dX8_end_30 ⟨.boolean, rfl, rfl⟩ k
    · replace k := k2 c4
      refine x_aload_n (pc2 := 13) dX8_end_12 rfl rfl ?_
      refine x_getf (pc2 := 16) (v := aR 64) fl_X8_17 ic_62 (vr_62_9 _) dX8_end_13 rfl ?_
      refine x_iconst (pc2 := 17) dX8_end_16 rfl ?_
      refine x_dup2_ri (pc2 := 18) dX8_end_17 rfl (by decide) ?_
      refine x_iald (pc2 := 19) ic_64 (by decide) (by rw [al_64]; decide) dX8_end_18 rfl ?_
      refine x_iconst (pc2 := 20) dX8_end_19 rfl ?_
      refine x_iadd (pc2 := 21) dX8_end_20 rfl ?_
      refine x_iast (pc2 := 22) ic_64 (by decide) (by rw [al_64]; decide) dX8_end_21 rfl ?_
      refine x_iconst (pc2 := 23) dX8_end_22 rfl ?_
      exact x_ireturn dX8_end_23 ⟨.boolean, rfl, rfl⟩ k
set_option maxRecDepth 4000 in
theorem g_X8_fail_0 {sc : List Int} {d : Nat} {m : Mem} {Q : Option AV → Mem → Prop} {l1 l2 : Int} (k : (-2147483648 ≤ (m 62 5) ∧ (m 62 5) < 2147483648) ∧ (((m 62 5) = 0) → (Q none (wr (wr m 62 5 l1) 62 6 l2))) ∧ (¬ ((m 62 5) = 0) → (Q none m))) : S_X8_fail sc d 0 [aR 62, aI l1, aI l2] [] m Q := by
  refine x_aload_n (pc2 := 1) dX8_fail_0 rfl rfl ?_
  refine x_getf (pc2 := 4) (v := aI (m 62 5)) fl_X8_290 ic_62 (fv_i _ ic_62 rfl) dX8_fail_1 rfl ?_
  obtain ⟨h1, k⟩ := k
  obtain ⟨k1, k2⟩ := k
  refine x_if_eq (tgt := 8) (pc2 := 7) dX8_fail_4 (by decide) rfl h1 (fun c2 => ?_) (fun c2 => ?_)
  · replace k := k1 c2
    refine x_aload_n (pc2 := 9) dX8_fail_8 rfl rfl ?_
    refine x_iload_n (pc2 := 10) dX8_fail_9 rfl rfl ?_
    refine x_putf (pc2 := 13) (x := l1) fl_X8_290 ft_8_5 ic_62 (pv_i _ ic_62 rfl) (pn_i _) dX8_fail_10 rfl ?_
    refine x_aload_n (pc2 := 14) dX8_fail_13 rfl rfl ?_
    refine x_iload_n (pc2 := 15) dX8_fail_14 rfl rfl ?_
    refine x_putf (pc2 := 18) (x := l2) fl_X8_293 ft_8_6 ic_62 (pv_i _ ic_62 rfl) (pn_i _) dX8_fail_15 rfl ?_
    exact x_return dX8_fail_18 rfl k
  · replace k := k2 c2
    exact x_return dX8_fail_7 rfl k
set_option maxRecDepth 4000 in
theorem g_X8_isLetter_0 {sc : List Int} {d : Nat} {m : Mem} {Q : Option AV → Mem → Prop} {l0 : Int} (k : ((-2147483648 ≤ l0 ∧ l0 < 2147483648)) ∧ Q (some (aI (if l0 < 97 then 0 else (if 122 < l0 then 0 else 1 : Int) : Int))) m) : S_X8_isLetter sc d 0 [aI l0] [] m Q := by
  refine x_iload_n (pc2 := 1) dX8_isLetter_0 rfl rfl ?_
  refine x_bipush (pc2 := 3) dX8_isLetter_1 rfl rfl ?_
  obtain ⟨g2, k⟩ := k
  have kj : S_X8_isLetter sc d 17 [aI l0] [aI (if l0 < 97 then 0 else (if 122 < l0 then 0 else 1 : Int) : Int)] m Q := by
    exact x_ireturn dX8_isLetter_17 (ret_z (by repeat (first | exact Or.inl rfl | exact Or.inr rfl | split))) k
  have h3 := g2 
  refine x_icmp_lt (tgt := 16) (pc2 := 6) dX8_isLetter_3 (by decide) rfl h3 (by decide) (fun c4 => ?_) (fun c4 => ?_)
  · skip
    refine x_iconst (pc2 := 17) dX8_isLetter_16 rfl ?_
    exact x_topI (v := (if l0 < 97 then 0 else (if 122 < l0 then 0 else 1 : Int) : Int)) (if_pos c4) kj
  · skip
    refine x_iload_n (pc2 := 7) dX8_isLetter_6 rfl rfl ?_
    refine x_bipush (pc2 := 9) dX8_isLetter_7 rfl rfl ?_
    refine x_icmp_gt (tgt := 16) (pc2 := 12) dX8_isLetter_9 (by decide) rfl h3 (by decide) (fun c5 => ?_) (fun c5 => ?_)
    · skip
      refine x_iconst (pc2 := 17) dX8_isLetter_16 rfl ?_
      exact x_topI (v := (if l0 < 97 then 0 else (if 122 < l0 then 0 else 1 : Int) : Int)) ((if_neg c4).trans (if_pos c5)) kj
    · skip
      refine x_iconst (pc2 := 13) dX8_isLetter_12 rfl ?_
      refine x_goto (tgt := 17) dX8_isLetter_13 (by decide) ?_
      exact x_topI (v := (if l0 < 97 then 0 else (if 122 < l0 then 0 else 1 : Int) : Int)) ((if_neg c4).trans (if_neg c5)) kj
set_option maxRecDepth 4000 in
theorem g_X8_isDigit_0 {sc : List Int} {d : Nat} {m : Mem} {Q : Option AV → Mem → Prop} {l0 : Int} (k : ((-2147483648 ≤ l0 ∧ l0 < 2147483648)) ∧ Q (some (aI (if l0 < 48 then 0 else (if 57 < l0 then 0 else 1 : Int) : Int))) m) : S_X8_isDigit sc d 0 [aI l0] [] m Q := by
  refine x_iload_n (pc2 := 1) dX8_isDigit_0 rfl rfl ?_
  refine x_bipush (pc2 := 3) dX8_isDigit_1 rfl rfl ?_
  obtain ⟨g2, k⟩ := k
  have kj : S_X8_isDigit sc d 17 [aI l0] [aI (if l0 < 48 then 0 else (if 57 < l0 then 0 else 1 : Int) : Int)] m Q := by
    exact x_ireturn dX8_isDigit_17 (ret_z (by repeat (first | exact Or.inl rfl | exact Or.inr rfl | split))) k
  have h3 := g2 
  refine x_icmp_lt (tgt := 16) (pc2 := 6) dX8_isDigit_3 (by decide) rfl h3 (by decide) (fun c4 => ?_) (fun c4 => ?_)
  · skip
    refine x_iconst (pc2 := 17) dX8_isDigit_16 rfl ?_
    exact x_topI (v := (if l0 < 48 then 0 else (if 57 < l0 then 0 else 1 : Int) : Int)) (if_pos c4) kj
  · skip
    refine x_iload_n (pc2 := 7) dX8_isDigit_6 rfl rfl ?_
    refine x_bipush (pc2 := 9) dX8_isDigit_7 rfl rfl ?_
    refine x_icmp_gt (tgt := 16) (pc2 := 12) dX8_isDigit_9 (by decide) rfl h3 (by decide) (fun c5 => ?_) (fun c5 => ?_)
    · skip
      refine x_iconst (pc2 := 17) dX8_isDigit_16 rfl ?_
      exact x_topI (v := (if l0 < 48 then 0 else (if 57 < l0 then 0 else 1 : Int) : Int)) ((if_neg c4).trans (if_pos c5)) kj
    · skip
      refine x_iconst (pc2 := 13) dX8_isDigit_12 rfl ?_
      refine x_goto (tgt := 17) dX8_isDigit_13 (by decide) ?_
      exact x_topI (v := (if l0 < 48 then 0 else (if 57 < l0 then 0 else 1 : Int) : Int)) ((if_neg c4).trans (if_neg c5)) kj
set_option maxRecDepth 4000 in
theorem g_X8_look_0 {sc : List Int} {d : Nat} {m : Mem} {Q : Option AV → Mem → Prop} (k : (-2147483648 ≤ (m 62 2) ∧ (m 62 2) < 2147483648) ∧ (-2147483648 ≤ (m 62 3) ∧ (m 62 3) < 2147483648) ∧ (((m 62 3) ≤ (m 62 2)) → (((¬ ((m 62 3) ≤ (m 62 2))) → (0 ≤ (m 62 2))) ∧ ((¬ ((m 62 3) ≤ (m 62 2))) → ((m 62 2) < 1600)) ∧ Q (some (aI (if (m 62 3) ≤ (m 62 2) then (-1) else (m 63 (m 62 2)) : Int))) m)) ∧ (¬ ((m 62 3) ≤ (m 62 2)) → ((0 ≤ (m 62 2)) ∧ ((m 62 2) < 1600) ∧ (-2147483648 ≤ (m 63 (m 62 2)) ∧ (m 63 (m 62 2)) < 2147483648) ∧ (((m 63 (m 62 2)) = 10) → (S_X8_look sc d 0 [aR 62] [] (wr m 62 2 ((m 62 2) + 1)) Q)) ∧ (¬ ((m 63 (m 62 2)) = 10) → ((((m 63 (m 62 2)) ≠ 32) → (Q (some (aI (if (m 62 3) ≤ (m 62 2) then (-1) else (m 63 (m 62 2)) : Int))) m)) ∧ (¬ ((m 63 (m 62 2)) ≠ 32) → (S_X8_look sc d 0 [aR 62] [] (wr m 62 2 ((m 62 2) + 1)) Q))))))) : S_X8_look sc d 0 [aR 62] [] m Q := by
  refine x_aload_n (pc2 := 1) dX8_look_0 rfl rfl ?_
  refine x_getf (pc2 := 4) (v := aI (m 62 2)) fl_X8_296 ic_62 (fv_i _ ic_62 rfl) dX8_look_1 rfl ?_
  refine x_aload_n (pc2 := 5) dX8_look_4 rfl rfl ?_
  refine x_getf (pc2 := 8) (v := aI (m 62 3)) fl_X8_299 ic_62 (fv_i _ ic_62 rfl) dX8_look_5 rfl ?_
  obtain ⟨h1, k⟩ := k
  obtain ⟨h2, k⟩ := k
  obtain ⟨k1, k2⟩ := k
  refine x_icmp_ge (tgt := 52) (pc2 := 11) dX8_look_8 (by decide) rfl h1 h2 (fun c3 => ?_) (fun c3 => ?_)
  · replace k := k1 c3
    refine x_aload_n (pc2 := 53) dX8_look_52 rfl rfl ?_
    refine x_getf (pc2 := 56) (v := aI (m 62 2)) fl_X8_296 ic_62 (fv_i _ ic_62 rfl) dX8_look_53 rfl ?_
    refine x_aload_n (pc2 := 57) dX8_look_56 rfl rfl ?_
    refine x_getf (pc2 := 60) (v := aI (m 62 3)) fl_X8_299 ic_62 (fv_i _ ic_62 rfl) dX8_look_57 rfl ?_
    obtain ⟨g6, k⟩ := k
    obtain ⟨g7, k⟩ := k
    have kj : S_X8_look sc d 76 [aR 62] [aI (if (m 62 3) ≤ (m 62 2) then (-1) else (m 63 (m 62 2)) : Int)] m Q := by
      exact x_ireturn dX8_look_76 ⟨.int, rfl, rfl⟩ k
    refine x_icmp_ge (tgt := 75) (pc2 := 63) dX8_look_60 (by decide) rfl h1 h2 (fun c8 => ?_) (fun c8 => ?_)
    · skip
      refine x_iconst (pc2 := 76) dX8_look_75 rfl ?_
      exact x_topI (v := (if (m 62 3) ≤ (m 62 2) then (-1) else (m 63 (m 62 2)) : Int)) (if_pos c8) kj
    · skip
      refine x_aload_n (pc2 := 64) dX8_look_63 rfl rfl ?_
      refine x_getf (pc2 := 67) (v := aR 63) fl_X8_7 ic_62 (vr_62_0 _) dX8_look_64 rfl ?_
      refine x_aload_n (pc2 := 68) dX8_look_67 rfl rfl ?_
      refine x_getf (pc2 := 71) (v := aI (m 62 2)) fl_X8_296 ic_62 (fv_i _ ic_62 rfl) dX8_look_68 rfl ?_
      have h9 := g6 c8
      have h10 := g7 c8
      refine x_iald (pc2 := 72) ic_63 h9 (by rw [al_63]; exact h10) dX8_look_71 rfl ?_
      refine x_goto (tgt := 76) dX8_look_72 (by decide) ?_
      exact x_topI (v := (if (m 62 3) ≤ (m 62 2) then (-1) else (m 63 (m 62 2)) : Int)) (if_neg c8) kj
  · replace k := k2 c3
    refine x_aload_n (pc2 := 12) dX8_look_11 rfl rfl ?_
    refine x_getf (pc2 := 15) (v := aR 63) fl_X8_7 ic_62 (vr_62_0 _) dX8_look_12 rfl ?_
    refine x_aload_n (pc2 := 16) dX8_look_15 rfl rfl ?_
    refine x_getf (pc2 := 19) (v := aI (m 62 2)) fl_X8_296 ic_62 (fv_i _ ic_62 rfl) dX8_look_16 rfl ?_
    obtain ⟨h11, k⟩ := k
    obtain ⟨h12, k⟩ := k
    refine x_iald (pc2 := 20) ic_63 h11 (by rw [al_63]; exact h12) dX8_look_19 rfl ?_
    refine x_bipush (pc2 := 22) dX8_look_20 rfl rfl ?_
    obtain ⟨h13, k⟩ := k
    obtain ⟨k1, k2⟩ := k
    refine x_icmp_eq (tgt := 39) (pc2 := 25) dX8_look_22 (by decide) rfl h13 (by decide) (fun c14 => ?_) (fun c14 => ?_)
    · replace k := k1 c14
      refine x_aload_n (pc2 := 40) dX8_look_39 rfl rfl ?_
      refine x_dup_r (pc2 := 41) dX8_look_40 rfl (by decide) ?_
      refine x_getf (pc2 := 44) (v := aI (m 62 2)) fl_X8_296 ic_62 (fv_i _ ic_62 rfl) dX8_look_41 rfl ?_
      refine x_iconst (pc2 := 45) dX8_look_44 rfl ?_
      refine x_iadd (pc2 := 46) dX8_look_45 rfl ?_
      refine x_putf (pc2 := 49) (x := ((m 62 2) + 1)) fl_X8_296 ft_8_2 ic_62 (pv_i _ ic_62 rfl) (pn_i _) dX8_look_46 rfl ?_
      refine x_goto (tgt := 0) dX8_look_49 (by decide) ?_
      exact k
    · replace k := k2 c14
      refine x_aload_n (pc2 := 26) dX8_look_25 rfl rfl ?_
      refine x_getf (pc2 := 29) (v := aR 63) fl_X8_7 ic_62 (vr_62_0 _) dX8_look_26 rfl ?_
      refine x_aload_n (pc2 := 30) dX8_look_29 rfl rfl ?_
      refine x_getf (pc2 := 33) (v := aI (m 62 2)) fl_X8_296 ic_62 (fv_i _ ic_62 rfl) dX8_look_30 rfl ?_
      refine x_iald (pc2 := 34) ic_63 h11 (by rw [al_63]; exact h12) dX8_look_33 rfl ?_
      refine x_bipush (pc2 := 36) dX8_look_34 rfl rfl ?_
      obtain ⟨k1, k2⟩ := k
      refine x_icmp_ne (tgt := 52) (pc2 := 39) dX8_look_36 (by decide) rfl h13 (by decide) (fun c15 => ?_) (fun c15 => ?_)
      · replace k := k1 c15
        refine x_aload_n (pc2 := 53) dX8_look_52 rfl rfl ?_
        refine x_getf (pc2 := 56) (v := aI (m 62 2)) fl_X8_296 ic_62 (fv_i _ ic_62 rfl) dX8_look_53 rfl ?_
        refine x_aload_n (pc2 := 57) dX8_look_56 rfl rfl ?_
        refine x_getf (pc2 := 60) (v := aI (m 62 3)) fl_X8_299 ic_62 (fv_i _ ic_62 rfl) dX8_look_57 rfl ?_
        have kj : S_X8_look sc d 76 [aR 62] [aI (if (m 62 3) ≤ (m 62 2) then (-1) else (m 63 (m 62 2)) : Int)] m Q := by
          exact x_ireturn dX8_look_76 ⟨.int, rfl, rfl⟩ k
        refine x_icmp_ge (tgt := 75) (pc2 := 63) dX8_look_60 (by decide) rfl h1 h2 (fun c16 => ?_) (fun c16 => ?_)
        · skip
          refine x_iconst (pc2 := 76) dX8_look_75 rfl ?_
          exact x_topI (v := (if (m 62 3) ≤ (m 62 2) then (-1) else (m 63 (m 62 2)) : Int)) (if_pos c16) kj
        · skip
          refine x_aload_n (pc2 := 64) dX8_look_63 rfl rfl ?_
          refine x_getf (pc2 := 67) (v := aR 63) fl_X8_7 ic_62 (vr_62_0 _) dX8_look_64 rfl ?_
          refine x_aload_n (pc2 := 68) dX8_look_67 rfl rfl ?_
          refine x_getf (pc2 := 71) (v := aI (m 62 2)) fl_X8_296 ic_62 (fv_i _ ic_62 rfl) dX8_look_68 rfl ?_
          refine x_iald (pc2 := 72) ic_63 h11 (by rw [al_63]; exact h12) dX8_look_71 rfl ?_
          refine x_goto (tgt := 76) dX8_look_72 (by decide) ?_
          exact x_topI (v := (if (m 62 3) ≤ (m 62 2) then (-1) else (m 63 (m 62 2)) : Int)) (if_neg c16) kj
      · replace k := k2 c15
        refine x_aload_n (pc2 := 40) dX8_look_39 rfl rfl ?_
        refine x_dup_r (pc2 := 41) dX8_look_40 rfl (by decide) ?_
        refine x_getf (pc2 := 44) (v := aI (m 62 2)) fl_X8_296 ic_62 (fv_i _ ic_62 rfl) dX8_look_41 rfl ?_
        refine x_iconst (pc2 := 45) dX8_look_44 rfl ?_
        refine x_iadd (pc2 := 46) dX8_look_45 rfl ?_
        refine x_putf (pc2 := 49) (x := ((m 62 2) + 1)) fl_X8_296 ft_8_2 ic_62 (pv_i _ ic_62 rfl) (pn_i _) dX8_look_46 rfl ?_
        refine x_goto (tgt := 0) dX8_look_49 (by decide) ?_
        exact k
set_option maxRecDepth 4000 in
theorem g_X8_isHere_0 {sc : List Int} {d : Nat} {m : Mem} {Q : Option AV → Mem → Prop} {l1 : Int} (Hl1 : IsC l1 102) (k : (-2147483648 ≤ (m 62 5) ∧ (m 62 5) < 2147483648) ∧ (((m 62 5) ≠ 0) → (Q (some (aI 0)) m)) ∧ (¬ ((m 62 5) ≠ 0) → (S_X8_isHere sc d 8 [aR 62, aR l1, aU, aU] [aR 62] m Q))) : S_X8_isHere sc d 0 [aR 62, aR l1, aU, aU] [] m Q := by
  refine x_aload_n (pc2 := 1) dX8_isHere_0 rfl rfl ?_
  refine x_getf (pc2 := 4) (v := aI (m 62 5)) fl_X8_290 ic_62 (fv_i _ ic_62 rfl) dX8_isHere_1 rfl ?_
  obtain ⟨h1, k⟩ := k
  obtain ⟨k1, k2⟩ := k
  refine x_if_ne (tgt := 28) (pc2 := 7) dX8_isHere_4 (by decide) rfl h1 (fun c2 => ?_) (fun c2 => ?_)
  · replace k := k1 c2
    refine x_iconst (pc2 := 29) dX8_isHere_28 rfl ?_
    exact x_ireturn dX8_isHere_29 ⟨.boolean, rfl, rfl⟩ k
  · replace k := k2 c2
    refine x_aload_n (pc2 := 8) dX8_isHere_7 rfl rfl ?_
    exact k
set_option maxRecDepth 4000 in
theorem g_X8_isHere_11 {sc : List Int} {d : Nat} {m : Mem} {Q : Option AV → Mem → Prop} {l1 s0 : Int} (Hl1 : IsC l1 102) (k : S_X8_isHere sc d 11 [aR 62, aR l1, aU, aU] [aI s0] m Q) : S_X8_isHere sc d 11 [aR 62, aR l1, aU, aU] [aI s0] m Q := by
  exact k
set_option maxRecDepth 4000 in
theorem g_X8_isHere_14 {sc : List Int} {d : Nat} {m : Mem} {Q : Option AV → Mem → Prop} {l1 s0 : Int} (Hl1 : IsC l1 102) (k : (-2147483648 ≤ s0 ∧ s0 < 2147483648) ∧ ((s0 = 0) → (Q (some (aI 0)) m)) ∧ (¬ (s0 = 0) → ((-2147483648 ≤ (m 62 2) ∧ (m 62 2) < 2147483648) ∧ (-2147483648 ≤ (m 62 4) ∧ (m 62 4) < 2147483648) ∧ (((m 62 2) ≠ (m 62 4)) → (S_X8_isHere sc d 35 [aR 62, aR l1, aI (m 62 2), aU] [] m Q)) ∧ (¬ ((m 62 2) ≠ (m 62 4)) → (Q (some (aI 0)) m))))) : S_X8_isHere sc d 14 [aR 62, aR l1, aU, aU] [aI s0] m Q := by
  obtain ⟨h1, k⟩ := k
  obtain ⟨k1, k2⟩ := k
  refine x_if_eq (tgt := 28) (pc2 := 17) dX8_isHere_14 (by decide) rfl h1 (fun c2 => ?_) (fun c2 => ?_)
  · replace k := k1 c2
    refine x_iconst (pc2 := 29) dX8_isHere_28 rfl ?_
    exact x_ireturn dX8_isHere_29 ⟨.boolean, rfl, rfl⟩ k
  · replace k := k2 c2
    refine x_aload_n (pc2 := 18) dX8_isHere_17 rfl rfl ?_
    refine x_getf (pc2 := 21) (v := aI (m 62 2)) fl_X8_296 ic_62 (fv_i _ ic_62 rfl) dX8_isHere_18 rfl ?_
    refine x_aload_n (pc2 := 22) dX8_isHere_21 rfl rfl ?_
    refine x_getf (pc2 := 25) (v := aI (m 62 4)) fl_X8_310 ic_62 (fv_i _ ic_62 rfl) dX8_isHere_22 rfl ?_
    obtain ⟨h3, k⟩ := k
    obtain ⟨h4, k⟩ := k
    obtain ⟨k1, k2⟩ := k
    refine x_icmp_ne (tgt := 30) (pc2 := 28) dX8_isHere_25 (by decide) rfl h3 h4 (fun c5 => ?_) (fun c5 => ?_)
    · replace k := k1 c5
      refine x_aload_n (pc2 := 31) dX8_isHere_30 rfl rfl ?_
      refine x_getf (pc2 := 34) (v := aI (m 62 2)) fl_X8_296 ic_62 (fv_i _ ic_62 rfl) dX8_isHere_31 rfl ?_
      refine x_istore_n (pc2 := 35) (ls2 := [aR 62, aR l1, aI (m 62 2), aU]) dX8_isHere_34 rfl (by decide) rfl ?_
      exact k
    · replace k := k2 c5
      refine x_iconst (pc2 := 29) dX8_isHere_28 rfl ?_
      exact x_ireturn dX8_isHere_29 ⟨.boolean, rfl, rfl⟩ k
set_option maxRecDepth 4000 in
theorem g_X8_isHere_35 {sc : List Int} {d : Nat} {m : Mem} {Q : Option AV → Mem → Prop} {l1 l2 : Int} (Hl1 : IsC l1 102) (k : (-2147483648 ≤ l2 ∧ l2 < 2147483648) ∧ (-2147483648 ≤ (m 62 3) ∧ (m 62 3) < 2147483648) ∧ (((m 62 3) ≤ l2) → ((-2147483648 ≤ (l2 - (m 62 2)) ∧ (l2 - (m 62 2)) < 2147483648) ∧ (-2147483648 ≤ (alen l1) ∧ (alen l1) < 2147483648) ∧ (((l2 - (m 62 2)) = (alen l1)) → (S_X8_isHere sc d 76 [aR 62, aR l1, aU, aI 0] [] m Q)) ∧ (¬ ((l2 - (m 62 2)) = (alen l1)) → (Q (some (aI 0)) m)))) ∧ (¬ ((m 62 3) ≤ l2) → ((0 ≤ l2) ∧ (l2 < 1600) ∧ S_X8_isHere sc d 49 [aR 62, aR l1, aI l2, aU] [aI (m 63 l2)] m Q))) : S_X8_isHere sc d 35 [aR 62, aR l1, aI l2, aU] [] m Q := by
  refine x_iload_n (pc2 := 36) dX8_isHere_35 rfl rfl ?_
  refine x_aload_n (pc2 := 37) dX8_isHere_36 rfl rfl ?_
  refine x_getf (pc2 := 40) (v := aI (m 62 3)) fl_X8_299 ic_62 (fv_i _ ic_62 rfl) dX8_isHere_37 rfl ?_
  obtain ⟨h1, k⟩ := k
  obtain ⟨h2, k⟩ := k
  obtain ⟨k1, k2⟩ := k
  refine x_icmp_ge (tgt := 61) (pc2 := 43) dX8_isHere_40 (by decide) rfl h1 h2 (fun c3 => ?_) (fun c3 => ?_)
  · replace k := k1 c3
    refine x_iload_n (pc2 := 62) dX8_isHere_61 rfl rfl ?_
    refine x_aload_n (pc2 := 63) dX8_isHere_62 rfl rfl ?_
    refine x_getf (pc2 := 66) (v := aI (m 62 2)) fl_X8_296 ic_62 (fv_i _ ic_62 rfl) dX8_isHere_63 rfl ?_
    refine x_isub (pc2 := 67) dX8_isHere_66 rfl ?_
    refine x_aload_n (pc2 := 68) dX8_isHere_67 rfl rfl ?_
    refine x_alen (pc2 := 69) (Or.inr Hl1) dX8_isHere_68 rfl ?_
    obtain ⟨h4, k⟩ := k
    obtain ⟨h5, k⟩ := k
    obtain ⟨k1, k2⟩ := k
    refine x_icmp_eq (tgt := 74) (pc2 := 72) dX8_isHere_69 (by decide) rfl h4 h5 (fun c6 => ?_) (fun c6 => ?_)
    · replace k := k1 c6
      refine x_iconst (pc2 := 75) dX8_isHere_74 rfl ?_
      refine x_istore_n (pc2 := 76) (ls2 := [aR 62, aR l1, aI l2, aI 0]) dX8_isHere_75 rfl (by decide) rfl ?_
      exact x_drop (drp_k (drp_k (drp_u (drp_k drp_n)))) k
    · replace k := k2 c6
      refine x_iconst (pc2 := 73) dX8_isHere_72 rfl ?_
      exact x_ireturn dX8_isHere_73 ⟨.boolean, rfl, rfl⟩ k
  · replace k := k2 c3
    refine x_aload_n (pc2 := 44) dX8_isHere_43 rfl rfl ?_
    refine x_getf (pc2 := 47) (v := aR 63) fl_X8_7 ic_62 (vr_62_0 _) dX8_isHere_44 rfl ?_
    refine x_iload_n (pc2 := 48) dX8_isHere_47 rfl rfl ?_
    obtain ⟨h7, k⟩ := k
    obtain ⟨h8, k⟩ := k
    refine x_iald (pc2 := 49) ic_63 h7 (by rw [al_63]; exact h8) dX8_isHere_48 rfl ?_
    exact k
set_option maxRecDepth 4000 in
theorem g_X8_isHere_52 {sc : List Int} {d : Nat} {m : Mem} {Q : Option AV → Mem → Prop} {l1 l2 s0 : Int} (Hl1 : IsC l1 102) (k : (-2147483648 ≤ s0 ∧ s0 < 2147483648) ∧ ((s0 = 0) → ((-2147483648 ≤ (l2 - (m 62 2)) ∧ (l2 - (m 62 2)) < 2147483648) ∧ (-2147483648 ≤ (alen l1) ∧ (alen l1) < 2147483648) ∧ (((l2 - (m 62 2)) = (alen l1)) → (S_X8_isHere sc d 76 [aR 62, aR l1, aU, aI 0] [] m Q)) ∧ (¬ ((l2 - (m 62 2)) = (alen l1)) → (Q (some (aI 0)) m)))) ∧ (¬ (s0 = 0) → (S_X8_isHere sc d 35 [aR 62, aR l1, aI (l2 + 1), aU] [] m Q))) : S_X8_isHere sc d 52 [aR 62, aR l1, aI l2, aU] [aI s0] m Q := by
  obtain ⟨h1, k⟩ := k
  obtain ⟨k1, k2⟩ := k
  refine x_if_eq (tgt := 61) (pc2 := 55) dX8_isHere_52 (by decide) rfl h1 (fun c2 => ?_) (fun c2 => ?_)
  · replace k := k1 c2
    refine x_iload_n (pc2 := 62) dX8_isHere_61 rfl rfl ?_
    refine x_aload_n (pc2 := 63) dX8_isHere_62 rfl rfl ?_
    refine x_getf (pc2 := 66) (v := aI (m 62 2)) fl_X8_296 ic_62 (fv_i _ ic_62 rfl) dX8_isHere_63 rfl ?_
    refine x_isub (pc2 := 67) dX8_isHere_66 rfl ?_
    refine x_aload_n (pc2 := 68) dX8_isHere_67 rfl rfl ?_
    refine x_alen (pc2 := 69) (Or.inr Hl1) dX8_isHere_68 rfl ?_
    obtain ⟨h3, k⟩ := k
    obtain ⟨h4, k⟩ := k
    obtain ⟨k1, k2⟩ := k
    refine x_icmp_eq (tgt := 74) (pc2 := 72) dX8_isHere_69 (by decide) rfl h3 h4 (fun c5 => ?_) (fun c5 => ?_)
    · replace k := k1 c5
      refine x_iconst (pc2 := 75) dX8_isHere_74 rfl ?_
      refine x_istore_n (pc2 := 76) (ls2 := [aR 62, aR l1, aI l2, aI 0]) dX8_isHere_75 rfl (by decide) rfl ?_
      exact x_drop (drp_k (drp_k (drp_u (drp_k drp_n)))) k
    · replace k := k2 c5
      refine x_iconst (pc2 := 73) dX8_isHere_72 rfl ?_
      exact x_ireturn dX8_isHere_73 ⟨.boolean, rfl, rfl⟩ k
  · replace k := k2 c2
    refine x_iinc (pc2 := 58) (ls2 := [aR 62, aR l1, aI (l2 + 1), aU]) dX8_isHere_55 rfl rfl (by decide) rfl ?_
    refine x_goto (tgt := 35) dX8_isHere_58 (by decide) ?_
    exact k
set_option maxRecDepth 4000 in
theorem g_X8_isHere_76 {sc : List Int} {d : Nat} {m : Mem} {Q : Option AV → Mem → Prop} {l1 l3 : Int} (Hl1 : IsC l1 102) (k : (-2147483648 ≤ l3 ∧ l3 < 2147483648) ∧ (-2147483648 ≤ (alen l1) ∧ (alen l1) < 2147483648) ∧ (((alen l1) ≤ l3) → (Q (some (aI 1)) m)) ∧ (¬ ((alen l1) ≤ l3) → ((0 ≤ ((m 62 2) + l3)) ∧ (((m 62 2) + l3) < 1600) ∧ (0 ≤ l3) ∧ (l3 < alen l1) ∧ (-2147483648 ≤ (m 63 ((m 62 2) + l3)) ∧ (m 63 ((m 62 2) + l3)) < 2147483648) ∧ (-2147483648 ≤ (m l1 l3) ∧ (m l1 l3) < 2147483648) ∧ (((m 63 ((m 62 2) + l3)) = (m l1 l3)) → (S_X8_isHere sc d 76 [aR 62, aR l1, aU, aI (l3 + 1)] [] m Q)) ∧ (¬ ((m 63 ((m 62 2) + l3)) = (m l1 l3)) → (Q (some (aI 0)) m))))) : S_X8_isHere sc d 76 [aR 62, aR l1, aU, aI l3] [] m Q := by
  refine x_iload_n (pc2 := 77) dX8_isHere_76 rfl rfl ?_
  refine x_aload_n (pc2 := 78) dX8_isHere_77 rfl rfl ?_
  refine x_alen (pc2 := 79) (Or.inr Hl1) dX8_isHere_78 rfl ?_
  obtain ⟨h1, k⟩ := k
  obtain ⟨h2, k⟩ := k
  obtain ⟨k1, k2⟩ := k
  refine x_icmp_ge (tgt := 107) (pc2 := 82) dX8_isHere_79 (by decide) rfl h1 h2 (fun c3 => ?_) (fun c3 => ?_)
  · replace k := k1 c3
    refine x_iconst (pc2 := 108) dX8_isHere_107 rfl ?_
    exact x_ireturn dX8_isHere_108 ⟨.boolean, rfl, rfl⟩ k
  · replace k := k2 c3
    refine x_aload_n (pc2 := 83) dX8_isHere_82 rfl rfl ?_
    refine x_getf (pc2 := 86) (v := aR 63) fl_X8_7 ic_62 (vr_62_0 _) dX8_isHere_83 rfl ?_
    refine x_aload_n (pc2 := 87) dX8_isHere_86 rfl rfl ?_
    refine x_getf (pc2 := 90) (v := aI (m 62 2)) fl_X8_296 ic_62 (fv_i _ ic_62 rfl) dX8_isHere_87 rfl ?_
    refine x_iload_n (pc2 := 91) dX8_isHere_90 rfl rfl ?_
    refine x_iadd (pc2 := 92) dX8_isHere_91 rfl ?_
    obtain ⟨h4, k⟩ := k
    obtain ⟨h5, k⟩ := k
    refine x_iald (pc2 := 93) ic_63 h4 (by rw [al_63]; exact h5) dX8_isHere_92 rfl ?_
    refine x_aload_n (pc2 := 94) dX8_isHere_93 rfl rfl ?_
    refine x_iload_n (pc2 := 95) dX8_isHere_94 rfl rfl ?_
    obtain ⟨h6, k⟩ := k
    obtain ⟨h7, k⟩ := k
    refine x_cald (pc2 := 96) Hl1 h6 h7 dX8_isHere_95 rfl ?_
    obtain ⟨h8, k⟩ := k
    obtain ⟨h9, k⟩ := k
    obtain ⟨k1, k2⟩ := k
    refine x_icmp_eq (tgt := 101) (pc2 := 99) dX8_isHere_96 (by decide) rfl h8 h9 (fun c10 => ?_) (fun c10 => ?_)
    · replace k := k1 c10
      refine x_iinc (pc2 := 104) (ls2 := [aR 62, aR l1, aU, aI (l3 + 1)]) dX8_isHere_101 rfl rfl (by decide) rfl ?_
      refine x_goto (tgt := 76) dX8_isHere_104 (by decide) ?_
      exact k
    · replace k := k2 c10
      refine x_iconst (pc2 := 100) dX8_isHere_99 rfl ?_
      exact x_ireturn dX8_isHere_100 ⟨.boolean, rfl, rfl⟩ k
theorem c_X8_isHere_8 {sc : List Int} {d d2 : Nat} {m m2 : Mem} {Q : Option AV → Mem → Prop} {l1 : Int} {v : Int} (Hl1 : IsC l1 102) (hM : C_X8_look sc d2 [aR 62] m (some (aI v)) m2) (hd : d2 + 1 ≤ d) (k : S_X8_isHere sc d 11 [aR 62, aR l1, aU, aU] [aI v] m2 Q) : S_X8_isHere sc d 8 [aR 62, aR l1, aU, aU] [aR 62] m Q := x_callV (as := []) (rest := []) hM mk_X8_look mv_X8_look lk_X8_302 (Or.inl ⟨8, (RX8, TX8, 123), ic_62, Nat.le_of_ble_eq_true rfl, rfl, rfl⟩) hd rfl rfl (Nat.le_of_ble_eq_true rfl) dX8_isHere_8 rfl k
theorem c_X8_isHere_11 {sc : List Int} {d d2 : Nat} {m m2 : Mem} {Q : Option AV → Mem → Prop} {l1 s0 : Int} {v : Int} (Hl1 : IsC l1 102) (hM : C_X8_isLetter sc d2 [aI s0] m (some (aI v)) m2) (hd : d2 + 1 ≤ d) (k : S_X8_isHere sc d 14 [aR 62, aR l1, aU, aU] [aI v] m2 Q) : S_X8_isHere sc d 11 [aR 62, aR l1, aU, aU] [aI s0] m Q := x_callS (as := [aI s0]) (rest := []) hM mk_X8_isLetter ms_X8_isLetter lk_X8_306 hd rfl rfl (Nat.le_of_ble_eq_true rfl) dX8_isHere_11 rfl k
theorem c_X8_isHere_49 {sc : List Int} {d d2 : Nat} {m m2 : Mem} {Q : Option AV → Mem → Prop} {l1 l2 s0 : Int} {v : Int} (Hl1 : IsC l1 102) (hM : C_X8_isLetter sc d2 [aI s0] m (some (aI v)) m2) (hd : d2 + 1 ≤ d) (k : S_X8_isHere sc d 52 [aR 62, aR l1, aI l2, aU] [aI v] m2 Q) : S_X8_isHere sc d 49 [aR 62, aR l1, aI l2, aU] [aI s0] m Q := x_callS (as := [aI s0]) (rest := []) hM mk_X8_isLetter ms_X8_isLetter lk_X8_306 hd rfl rfl (Nat.le_of_ble_eq_true rfl) dX8_isHere_49 rfl k
set_option maxRecDepth 4000 in
theorem g_X8_takes_0 {sc : List Int} {d : Nat} {m : Mem} {Q : Option AV → Mem → Prop} {l1 : Int} (Hl1 : IsC l1 102) (k : S_X8_takes sc d 2 [aR 62, aR l1] [aR l1, aR 62] m Q) : S_X8_takes sc d 0 [aR 62, aR l1] [] m Q := by
  refine x_aload_n (pc2 := 1) dX8_takes_0 rfl rfl ?_
  refine x_aload_n (pc2 := 2) dX8_takes_1 rfl rfl ?_
  exact k
set_option maxRecDepth 4000 in
theorem g_X8_takes_5 {sc : List Int} {d : Nat} {m : Mem} {Q : Option AV → Mem → Prop} {l1 s0 : Int} (Hl1 : IsC l1 102) (k : (-2147483648 ≤ s0 ∧ s0 < 2147483648) ∧ ((s0 ≠ 0) → (Q (some (aI 1)) (wr (wr m 62 2 ((m 62 2) + (alen l1))) 62 4 ((wr m 62 2 ((m 62 2) + (alen l1))) 62 2)))) ∧ (¬ (s0 ≠ 0) → (Q (some (aI 0)) m))) : S_X8_takes sc d 5 [aR 62, aR l1] [aI s0] m Q := by
  obtain ⟨h1, k⟩ := k
  obtain ⟨k1, k2⟩ := k
  refine x_if_ne (tgt := 10) (pc2 := 8) dX8_takes_5 (by decide) rfl h1 (fun c2 => ?_) (fun c2 => ?_)
  · replace k := k1 c2
    refine x_aload_n (pc2 := 11) dX8_takes_10 rfl rfl ?_
    refine x_dup_r (pc2 := 12) dX8_takes_11 rfl (by decide) ?_
    refine x_getf (pc2 := 15) (v := aI (m 62 2)) fl_X8_296 ic_62 (fv_i _ ic_62 rfl) dX8_takes_12 rfl ?_
    refine x_aload_n (pc2 := 16) dX8_takes_15 rfl rfl ?_
    refine x_alen (pc2 := 17) (Or.inr Hl1) dX8_takes_16 rfl ?_
    refine x_iadd (pc2 := 18) dX8_takes_17 rfl ?_
    refine x_putf (pc2 := 21) (x := ((m 62 2) + (alen l1))) fl_X8_296 ft_8_2 ic_62 (pv_i _ ic_62 rfl) (pn_i _) dX8_takes_18 rfl ?_
    refine x_aload_n (pc2 := 22) dX8_takes_21 rfl rfl ?_
    refine x_aload_n (pc2 := 23) dX8_takes_22 rfl rfl ?_
    refine x_getf (pc2 := 26) (v := aI ((wr m 62 2 ((m 62 2) + (alen l1))) 62 2)) fl_X8_296 ic_62 (fv_i _ ic_62 rfl) dX8_takes_23 rfl ?_
    refine x_putf (pc2 := 29) (x := ((wr m 62 2 ((m 62 2) + (alen l1))) 62 2)) fl_X8_310 ft_8_4 ic_62 (pv_i _ ic_62 rfl) (pn_i _) dX8_takes_26 rfl ?_
    refine x_iconst (pc2 := 30) dX8_takes_29 rfl ?_
    exact x_ireturn dX8_takes_30 ⟨.boolean, rfl, rfl⟩ k
  · replace k := k2 c2
    refine x_iconst (pc2 := 9) dX8_takes_8 rfl ?_
    exact x_ireturn dX8_takes_9 ⟨.boolean, rfl, rfl⟩ k
theorem c_X8_takes_2 {sc : List Int} {d d2 : Nat} {m m2 : Mem} {Q : Option AV → Mem → Prop} {l1 s1 : Int} {v : Int} (Hl1 : IsC l1 102) (Hs1 : IsC s1 102) (hM : C_X8_isHere sc d2 [aR 62, aR s1] m (some (aI v)) m2) (hd : d2 + 1 ≤ d) (k : S_X8_takes sc d 5 [aR 62, aR l1] [aI v] m2 Q) : S_X8_takes sc d 2 [aR 62, aR l1] [aR s1, aR 62] m Q := x_callV (as := [aR s1]) (rest := []) hM mk_X8_isHere mv_X8_isHere lk_X8_313 (Or.inl ⟨8, (RX8, TX8, 123), ic_62, Nat.le_of_ble_eq_true rfl, rfl, rfl⟩) hd rfl rfl (Nat.le_of_ble_eq_true rfl) dX8_takes_2 rfl k
set_option maxRecDepth 4000 in
theorem g_X8_asks_0 {sc : List Int} {d : Nat} {m : Mem} {Q : Option AV → Mem → Prop} {l1 : Int} (Hl1 : IsC l1 102) (k : (-2147483648 ≤ (m 62 5) ∧ (m 62 5) < 2147483648) ∧ (((m 62 5) ≠ 0) → (S_X8_asks sc d 24 [aR 62, aU] [] m Q)) ∧ (¬ ((m 62 5) ≠ 0) → (S_X8_asks sc d 9 [aR 62, aU] [aR l1, aR 62] m Q))) : S_X8_asks sc d 0 [aR 62, aR l1] [] m Q := by
  refine x_aload_n (pc2 := 1) dX8_asks_0 rfl rfl ?_
  refine x_getf (pc2 := 4) (v := aI (m 62 5)) fl_X8_290 ic_62 (fv_i _ ic_62 rfl) dX8_asks_1 rfl ?_
  obtain ⟨h1, k⟩ := k
  obtain ⟨k1, k2⟩ := k
  refine x_if_ne (tgt := 24) (pc2 := 7) dX8_asks_4 (by decide) rfl h1 (fun c2 => ?_) (fun c2 => ?_)
  · replace k := k1 c2
    exact x_drop (drp_k (drp_u drp_n)) k
  · replace k := k2 c2
    refine x_aload_n (pc2 := 8) dX8_asks_7 rfl rfl ?_
    refine x_aload_n (pc2 := 9) dX8_asks_8 rfl rfl ?_
    exact x_drop (drp_k (drp_u drp_n)) k
set_option maxRecDepth 4000 in
theorem g_X8_asks_12 {sc : List Int} {d : Nat} {m : Mem} {Q : Option AV → Mem → Prop} {s0 : Int} (k : (-2147483648 ≤ s0 ∧ s0 < 2147483648) ∧ ((s0 ≠ 0) → (S_X8_asks sc d 24 [aR 62, aU] [] m Q)) ∧ (¬ (s0 ≠ 0) → (S_X8_asks sc d 21 [aR 62, aU] [aI (m 62 2), aI 1, aR 62] m Q))) : S_X8_asks sc d 12 [aR 62, aU] [aI s0] m Q := by
  obtain ⟨h1, k⟩ := k
  obtain ⟨k1, k2⟩ := k
  refine x_if_ne (tgt := 24) (pc2 := 15) dX8_asks_12 (by decide) rfl h1 (fun c2 => ?_) (fun c2 => ?_)
  · replace k := k1 c2
    exact k
  · replace k := k2 c2
    refine x_aload_n (pc2 := 16) dX8_asks_15 rfl rfl ?_
    refine x_iconst (pc2 := 17) dX8_asks_16 rfl ?_
    refine x_aload_n (pc2 := 18) dX8_asks_17 rfl rfl ?_
    refine x_getf (pc2 := 21) (v := aI (m 62 2)) fl_X8_296 ic_62 (fv_i _ ic_62 rfl) dX8_asks_18 rfl ?_
    exact k
set_option maxRecDepth 4000 in
theorem g_X8_asks_24 {sc : List Int} {d : Nat} {m : Mem} {Q : Option AV → Mem → Prop} (k : Q none m) : S_X8_asks sc d 24 [aR 62, aU] [] m Q := by
  exact x_return dX8_asks_24 rfl k
theorem c_X8_asks_9 {sc : List Int} {d d2 : Nat} {m m2 : Mem} {Q : Option AV → Mem → Prop} {s1 : Int} {v : Int} (Hs1 : IsC s1 102) (hM : C_X8_takes sc d2 [aR 62, aR s1] m (some (aI v)) m2) (hd : d2 + 1 ≤ d) (k : S_X8_asks sc d 12 [aR 62, aU] [aI v] m2 Q) : S_X8_asks sc d 9 [aR 62, aU] [aR s1, aR 62] m Q := x_callV (as := [aR s1]) (rest := []) hM mk_X8_takes mv_X8_takes lk_X8_317 (Or.inl ⟨8, (RX8, TX8, 123), ic_62, Nat.le_of_ble_eq_true rfl, rfl, rfl⟩) hd rfl rfl (Nat.le_of_ble_eq_true rfl) dX8_asks_9 rfl k
theorem c_X8_asks_21 {sc : List Int} {d d2 : Nat} {m m2 : Mem} {Q : Option AV → Mem → Prop} {s1 s2 : Int} (hM : C_X8_fail sc d2 [aR 62, aI s1, aI s2] m none m2) (hd : d2 + 1 ≤ d) (k : S_X8_asks sc d 24 [aR 62, aU] [] m2 Q) : S_X8_asks sc d 21 [aR 62, aU] [aI s2, aI s1, aR 62] m Q := x_callV (as := [aI s1, aI s2]) (rest := []) hM mk_X8_fail mv_X8_fail lk_X8_320 (Or.inl ⟨8, (RX8, TX8, 123), ic_62, Nat.le_of_ble_eq_true rfl, rfl, rfl⟩) hd rfl rfl (Nat.le_of_ble_eq_true rfl) dX8_asks_21 rfl k
set_option maxRecDepth 4000 in
theorem g_X8_takesSign_0 {sc : List Int} {d : Nat} {m : Mem} {Q : Option AV → Mem → Prop} {l1 : Int} (k : (-2147483648 ≤ (m 62 5) ∧ (m 62 5) < 2147483648) ∧ (((m 62 5) ≠ 0) → (Q (some (aI 0)) m)) ∧ (¬ ((m 62 5) ≠ 0) → (S_X8_takesSign sc d 8 [aR 62, aI l1] [aR 62] m Q))) : S_X8_takesSign sc d 0 [aR 62, aI l1] [] m Q := by
  refine x_aload_n (pc2 := 1) dX8_takesSign_0 rfl rfl ?_
  refine x_getf (pc2 := 4) (v := aI (m 62 5)) fl_X8_290 ic_62 (fv_i _ ic_62 rfl) dX8_takesSign_1 rfl ?_
  obtain ⟨h1, k⟩ := k
  obtain ⟨k1, k2⟩ := k
  refine x_if_ne (tgt := 15) (pc2 := 7) dX8_takesSign_4 (by decide) rfl h1 (fun c2 => ?_) (fun c2 => ?_)
  · replace k := k1 c2
    refine x_iconst (pc2 := 16) dX8_takesSign_15 rfl ?_
    exact x_ireturn dX8_takesSign_16 ⟨.boolean, rfl, rfl⟩ k
  · replace k := k2 c2
    refine x_aload_n (pc2 := 8) dX8_takesSign_7 rfl rfl ?_
    exact k
set_option maxRecDepth 4000 in
theorem g_X8_takesSign_11 {sc : List Int} {d : Nat} {m : Mem} {Q : Option AV → Mem → Prop} {l1 s0 : Int} (k : (-2147483648 ≤ s0 ∧ s0 < 2147483648) ∧ (-2147483648 ≤ l1 ∧ l1 < 2147483648) ∧ ((s0 = l1) → (Q (some (aI 1)) (wr m 62 2 ((m 62 2) + 1)))) ∧ (¬ (s0 = l1) → (Q (some (aI 0)) m))) : S_X8_takesSign sc d 11 [aR 62, aI l1] [aI s0] m Q := by
  refine x_iload_n (pc2 := 12) dX8_takesSign_11 rfl rfl ?_
  obtain ⟨h1, k⟩ := k
  obtain ⟨h2, k⟩ := k
  obtain ⟨k1, k2⟩ := k
  refine x_icmp_eq (tgt := 17) (pc2 := 15) dX8_takesSign_12 (by decide) rfl h1 h2 (fun c3 => ?_) (fun c3 => ?_)
  · replace k := k1 c3
    refine x_aload_n (pc2 := 18) dX8_takesSign_17 rfl rfl ?_
    refine x_dup_r (pc2 := 19) dX8_takesSign_18 rfl (by decide) ?_
    refine x_getf (pc2 := 22) (v := aI (m 62 2)) fl_X8_296 ic_62 (fv_i _ ic_62 rfl) dX8_takesSign_19 rfl ?_
    refine x_iconst (pc2 := 23) dX8_takesSign_22 rfl ?_
    refine x_iadd (pc2 := 24) dX8_takesSign_23 rfl ?_
    refine x_putf (pc2 := 27) (x := ((m 62 2) + 1)) fl_X8_296 ft_8_2 ic_62 (pv_i _ ic_62 rfl) (pn_i _) dX8_takesSign_24 rfl ?_
    refine x_iconst (pc2 := 28) dX8_takesSign_27 rfl ?_
    exact x_ireturn dX8_takesSign_28 ⟨.boolean, rfl, rfl⟩ k
  · replace k := k2 c3
    refine x_iconst (pc2 := 16) dX8_takesSign_15 rfl ?_
    exact x_ireturn dX8_takesSign_16 ⟨.boolean, rfl, rfl⟩ k
theorem c_X8_takesSign_8 {sc : List Int} {d d2 : Nat} {m m2 : Mem} {Q : Option AV → Mem → Prop} {l1 : Int} {v : Int} (hM : C_X8_look sc d2 [aR 62] m (some (aI v)) m2) (hd : d2 + 1 ≤ d) (k : S_X8_takesSign sc d 11 [aR 62, aI l1] [aI v] m2 Q) : S_X8_takesSign sc d 8 [aR 62, aI l1] [aR 62] m Q := x_callV (as := []) (rest := []) hM mk_X8_look mv_X8_look lk_X8_302 (Or.inl ⟨8, (RX8, TX8, 123), ic_62, Nat.le_of_ble_eq_true rfl, rfl, rfl⟩) hd rfl rfl (Nat.le_of_ble_eq_true rfl) dX8_takesSign_8 rfl k
set_option maxRecDepth 4000 in
theorem g_X8_asksSign_0 {sc : List Int} {d : Nat} {m : Mem} {Q : Option AV → Mem → Prop} {l1 : Int} (k : (-2147483648 ≤ (m 62 5) ∧ (m 62 5) < 2147483648) ∧ (((m 62 5) ≠ 0) → (S_X8_asksSign sc d 24 [aR 62, aU] [] m Q)) ∧ (¬ ((m 62 5) ≠ 0) → (S_X8_asksSign sc d 9 [aR 62, aU] [aI l1, aR 62] m Q))) : S_X8_asksSign sc d 0 [aR 62, aI l1] [] m Q := by
  refine x_aload_n (pc2 := 1) dX8_asksSign_0 rfl rfl ?_
  refine x_getf (pc2 := 4) (v := aI (m 62 5)) fl_X8_290 ic_62 (fv_i _ ic_62 rfl) dX8_asksSign_1 rfl ?_
  obtain ⟨h1, k⟩ := k
  obtain ⟨k1, k2⟩ := k
  refine x_if_ne (tgt := 24) (pc2 := 7) dX8_asksSign_4 (by decide) rfl h1 (fun c2 => ?_) (fun c2 => ?_)
  · replace k := k1 c2
    exact x_drop (drp_k (drp_u drp_n)) k
  · replace k := k2 c2
    refine x_aload_n (pc2 := 8) dX8_asksSign_7 rfl rfl ?_
    refine x_iload_n (pc2 := 9) dX8_asksSign_8 rfl rfl ?_
    exact x_drop (drp_k (drp_u drp_n)) k
set_option maxRecDepth 4000 in
theorem g_X8_asksSign_12 {sc : List Int} {d : Nat} {m : Mem} {Q : Option AV → Mem → Prop} {s0 : Int} (k : (-2147483648 ≤ s0 ∧ s0 < 2147483648) ∧ ((s0 ≠ 0) → (S_X8_asksSign sc d 24 [aR 62, aU] [] m Q)) ∧ (¬ (s0 ≠ 0) → (S_X8_asksSign sc d 21 [aR 62, aU] [aI (m 62 2), aI 1, aR 62] m Q))) : S_X8_asksSign sc d 12 [aR 62, aU] [aI s0] m Q := by
  obtain ⟨h1, k⟩ := k
  obtain ⟨k1, k2⟩ := k
  refine x_if_ne (tgt := 24) (pc2 := 15) dX8_asksSign_12 (by decide) rfl h1 (fun c2 => ?_) (fun c2 => ?_)
  · replace k := k1 c2
    exact k
  · replace k := k2 c2
    refine x_aload_n (pc2 := 16) dX8_asksSign_15 rfl rfl ?_
    refine x_iconst (pc2 := 17) dX8_asksSign_16 rfl ?_
    refine x_aload_n (pc2 := 18) dX8_asksSign_17 rfl rfl ?_
    refine x_getf (pc2 := 21) (v := aI (m 62 2)) fl_X8_296 ic_62 (fv_i _ ic_62 rfl) dX8_asksSign_18 rfl ?_
    exact k
set_option maxRecDepth 4000 in
theorem g_X8_asksSign_24 {sc : List Int} {d : Nat} {m : Mem} {Q : Option AV → Mem → Prop} (k : Q none m) : S_X8_asksSign sc d 24 [aR 62, aU] [] m Q := by
  exact x_return dX8_asksSign_24 rfl k
theorem c_X8_asksSign_9 {sc : List Int} {d d2 : Nat} {m m2 : Mem} {Q : Option AV → Mem → Prop} {s1 : Int} {v : Int} (hM : C_X8_takesSign sc d2 [aR 62, aI s1] m (some (aI v)) m2) (hd : d2 + 1 ≤ d) (k : S_X8_asksSign sc d 12 [aR 62, aU] [aI v] m2 Q) : S_X8_asksSign sc d 9 [aR 62, aU] [aI s1, aR 62] m Q := x_callV (as := [aI s1]) (rest := []) hM mk_X8_takesSign mv_X8_takesSign lk_X8_324 (Or.inl ⟨8, (RX8, TX8, 123), ic_62, Nat.le_of_ble_eq_true rfl, rfl, rfl⟩) hd rfl rfl (Nat.le_of_ble_eq_true rfl) dX8_asksSign_9 rfl k
theorem c_X8_asksSign_21 {sc : List Int} {d d2 : Nat} {m m2 : Mem} {Q : Option AV → Mem → Prop} {s1 s2 : Int} (hM : C_X8_fail sc d2 [aR 62, aI s1, aI s2] m none m2) (hd : d2 + 1 ≤ d) (k : S_X8_asksSign sc d 24 [aR 62, aU] [] m2 Q) : S_X8_asksSign sc d 21 [aR 62, aU] [aI s2, aI s1, aR 62] m Q := x_callV (as := [aI s1, aI s2]) (rest := []) hM mk_X8_fail mv_X8_fail lk_X8_320 (Or.inl ⟨8, (RX8, TX8, 123), ic_62, Nat.le_of_ble_eq_true rfl, rfl, rfl⟩) hd rfl rfl (Nat.le_of_ble_eq_true rfl) dX8_asksSign_21 rfl k
set_option maxRecDepth 4000 in
theorem g_X8_number_0 {sc : List Int} {d : Nat} {m : Mem} {Q : Option AV → Mem → Prop} {l1 l2 : Int} (k : (-2147483648 ≤ (m 62 5) ∧ (m 62 5) < 2147483648) ∧ (((m 62 5) = 0) → (S_X8_number sc d 10 [aR 62, aI l1, aI l2, aU, aU] [aR 62] m Q)) ∧ (¬ ((m 62 5) = 0) → (Q (some (aI 0)) m))) : S_X8_number sc d 0 [aR 62, aI l1, aI l2, aU, aU] [] m Q := by
  refine x_aload_n (pc2 := 1) dX8_number_0 rfl rfl ?_
  refine x_getf (pc2 := 4) (v := aI (m 62 5)) fl_X8_290 ic_62 (fv_i _ ic_62 rfl) dX8_number_1 rfl ?_
  obtain ⟨h1, k⟩ := k
  obtain ⟨k1, k2⟩ := k
  refine x_if_eq (tgt := 9) (pc2 := 7) dX8_number_4 (by decide) rfl h1 (fun c2 => ?_) (fun c2 => ?_)
  · replace k := k1 c2
    refine x_aload_n (pc2 := 10) dX8_number_9 rfl rfl ?_
    exact k
  · replace k := k2 c2
    refine x_iconst (pc2 := 8) dX8_number_7 rfl ?_
    exact x_ireturn dX8_number_8 ⟨.int, rfl, rfl⟩ k
set_option maxRecDepth 4000 in
theorem g_X8_number_13 {sc : List Int} {d : Nat} {m : Mem} {Q : Option AV → Mem → Prop} {l1 l2 s0 : Int} (k : S_X8_number sc d 13 [aR 62, aI l1, aI l2, aU, aU] [aI s0] m Q) : S_X8_number sc d 13 [aR 62, aI l1, aI l2, aU, aU] [aI s0] m Q := by
  exact k
set_option maxRecDepth 4000 in
theorem g_X8_number_16 {sc : List Int} {d : Nat} {m : Mem} {Q : Option AV → Mem → Prop} {l1 l2 s0 : Int} (k : (-2147483648 ≤ s0 ∧ s0 < 2147483648) ∧ ((s0 = 0) → (S_X8_number sc d 36 [aR 62, aU, aU, aU, aU] [aI (m 62 2), aI 1, aR 62] m Q)) ∧ (¬ (s0 = 0) → ((-2147483648 ≤ (m 62 2) ∧ (m 62 2) < 2147483648) ∧ (-2147483648 ≤ (m 62 4) ∧ (m 62 4) < 2147483648) ∧ (((m 62 2) ≠ (m 62 4)) → (S_X8_number sc d 49 [aR 62, aI l1, aI l2, aI (m 62 2), aI 0] [] m Q)) ∧ (¬ ((m 62 2) ≠ (m 62 4)) → (S_X8_number sc d 36 [aR 62, aU, aU, aU, aU] [aI (m 62 2), aI 1, aR 62] m Q))))) : S_X8_number sc d 16 [aR 62, aI l1, aI l2, aU, aU] [aI s0] m Q := by
  obtain ⟨h1, k⟩ := k
  obtain ⟨k1, k2⟩ := k
  refine x_if_eq (tgt := 30) (pc2 := 19) dX8_number_16 (by decide) rfl h1 (fun c2 => ?_) (fun c2 => ?_)
  · replace k := k1 c2
    refine x_aload_n (pc2 := 31) dX8_number_30 rfl rfl ?_
    refine x_iconst (pc2 := 32) dX8_number_31 rfl ?_
    refine x_aload_n (pc2 := 33) dX8_number_32 rfl rfl ?_
    refine x_getf (pc2 := 36) (v := aI (m 62 2)) fl_X8_296 ic_62 (fv_i _ ic_62 rfl) dX8_number_33 rfl ?_
    exact x_drop (drp_k (drp_u (drp_u (drp_k (drp_k drp_n))))) k
  · replace k := k2 c2
    refine x_aload_n (pc2 := 20) dX8_number_19 rfl rfl ?_
    refine x_getf (pc2 := 23) (v := aI (m 62 2)) fl_X8_296 ic_62 (fv_i _ ic_62 rfl) dX8_number_20 rfl ?_
    refine x_aload_n (pc2 := 24) dX8_number_23 rfl rfl ?_
    refine x_getf (pc2 := 27) (v := aI (m 62 4)) fl_X8_310 ic_62 (fv_i _ ic_62 rfl) dX8_number_24 rfl ?_
    obtain ⟨h3, k⟩ := k
    obtain ⟨h4, k⟩ := k
    obtain ⟨k1, k2⟩ := k
    refine x_icmp_ne (tgt := 41) (pc2 := 30) dX8_number_27 (by decide) rfl h3 h4 (fun c5 => ?_) (fun c5 => ?_)
    · replace k := k1 c5
      refine x_aload_n (pc2 := 42) dX8_number_41 rfl rfl ?_
      refine x_getf (pc2 := 45) (v := aI (m 62 2)) fl_X8_296 ic_62 (fv_i _ ic_62 rfl) dX8_number_42 rfl ?_
      refine x_istore_n (pc2 := 46) (ls2 := [aR 62, aI l1, aI l2, aI (m 62 2), aU]) dX8_number_45 rfl (by decide) rfl ?_
      refine x_iconst (pc2 := 47) dX8_number_46 rfl ?_
      refine x_istore (pc2 := 49) (ls2 := [aR 62, aI l1, aI l2, aI (m 62 2), aI 0]) dX8_number_47 rfl (by decide) rfl ?_
      exact k
    · replace k := k2 c5
      refine x_aload_n (pc2 := 31) dX8_number_30 rfl rfl ?_
      refine x_iconst (pc2 := 32) dX8_number_31 rfl ?_
      refine x_aload_n (pc2 := 33) dX8_number_32 rfl rfl ?_
      refine x_getf (pc2 := 36) (v := aI (m 62 2)) fl_X8_296 ic_62 (fv_i _ ic_62 rfl) dX8_number_33 rfl ?_
      exact x_drop (drp_k (drp_u (drp_u (drp_k (drp_k drp_n))))) k
set_option maxRecDepth 4000 in
theorem g_X8_number_39 {sc : List Int} {d : Nat} {m : Mem} {Q : Option AV → Mem → Prop} (k : Q (some (aI 0)) m) : S_X8_number sc d 39 [aR 62, aU, aU, aU, aU] [] m Q := by
  refine x_iconst (pc2 := 40) dX8_number_39 rfl ?_
  exact x_ireturn dX8_number_40 ⟨.int, rfl, rfl⟩ k
set_option maxRecDepth 4000 in
theorem g_X8_number_49 {sc : List Int} {d : Nat} {m : Mem} {Q : Option AV → Mem → Prop} {l1 l2 l3 l4 : Int} (k : (-2147483648 ≤ (m 62 2) ∧ (m 62 2) < 2147483648) ∧ (-2147483648 ≤ (m 62 3) ∧ (m 62 3) < 2147483648) ∧ (((m 62 3) ≤ (m 62 2)) → ((-2147483648 ≤ l4 ∧ l4 < 2147483648) ∧ (-2147483648 ≤ l1 ∧ l1 < 2147483648) ∧ (-2147483648 ≤ l2 ∧ l2 < 2147483648) ∧ S_X8_number sc d 149 [aR 62, aU, aU, aI l3, aI l4] [aJ l2, aJ l1, aJ l4] (wr (wr m 62 4 (m 62 2)) 62 10 l3) Q)) ∧ (¬ ((m 62 3) ≤ (m 62 2)) → ((0 ≤ (m 62 2)) ∧ ((m 62 2) < 1600) ∧ S_X8_number sc d 69 [aR 62, aI l1, aI l2, aI l3, aI l4] [aI (m 63 (m 62 2))] m Q))) : S_X8_number sc d 49 [aR 62, aI l1, aI l2, aI l3, aI l4] [] m Q := by
  refine x_aload_n (pc2 := 50) dX8_number_49 rfl rfl ?_
  refine x_getf (pc2 := 53) (v := aI (m 62 2)) fl_X8_296 ic_62 (fv_i _ ic_62 rfl) dX8_number_50 rfl ?_
  refine x_aload_n (pc2 := 54) dX8_number_53 rfl rfl ?_
  refine x_getf (pc2 := 57) (v := aI (m 62 3)) fl_X8_299 ic_62 (fv_i _ ic_62 rfl) dX8_number_54 rfl ?_
  obtain ⟨h1, k⟩ := k
  obtain ⟨h2, k⟩ := k
  obtain ⟨k1, k2⟩ := k
  refine x_icmp_ge (tgt := 129) (pc2 := 60) dX8_number_57 (by decide) rfl h1 h2 (fun c3 => ?_) (fun c3 => ?_)
  · replace k := k1 c3
    refine x_aload_n (pc2 := 130) dX8_number_129 rfl rfl ?_
    refine x_aload_n (pc2 := 131) dX8_number_130 rfl rfl ?_
    refine x_getf (pc2 := 134) (v := aI (m 62 2)) fl_X8_296 ic_62 (fv_i _ ic_62 rfl) dX8_number_131 rfl ?_
    refine x_putf (pc2 := 137) (x := (m 62 2)) fl_X8_310 ft_8_4 ic_62 (pv_i _ ic_62 rfl) (pn_i _) dX8_number_134 rfl ?_
    refine x_aload_n (pc2 := 138) dX8_number_137 rfl rfl ?_
    refine x_iload_n (pc2 := 139) dX8_number_138 rfl rfl ?_
    refine x_putf (pc2 := 142) (x := l3) fl_X8_330 ft_8_10 ic_62 (pv_i _ ic_62 rfl) (pn_i _) dX8_number_139 rfl ?_
    refine x_iload (pc2 := 144) dX8_number_142 rfl rfl ?_
    obtain ⟨h4, k⟩ := k
    refine x_i2l (pc2 := 145) dX8_number_144 rfl h4 ?_
    refine x_iload_n (pc2 := 146) dX8_number_145 rfl rfl ?_
    obtain ⟨h5, k⟩ := k
    refine x_i2l (pc2 := 147) dX8_number_146 rfl h5 ?_
    refine x_iload_n (pc2 := 148) dX8_number_147 rfl rfl ?_
    obtain ⟨h6, k⟩ := k
    refine x_i2l (pc2 := 149) dX8_number_148 rfl h6 ?_
    exact x_drop (drp_k (drp_u (drp_u (drp_k (drp_k drp_n))))) k
  · replace k := k2 c3
    refine x_aload_n (pc2 := 61) dX8_number_60 rfl rfl ?_
    refine x_getf (pc2 := 64) (v := aR 63) fl_X8_7 ic_62 (vr_62_0 _) dX8_number_61 rfl ?_
    refine x_aload_n (pc2 := 65) dX8_number_64 rfl rfl ?_
    refine x_getf (pc2 := 68) (v := aI (m 62 2)) fl_X8_296 ic_62 (fv_i _ ic_62 rfl) dX8_number_65 rfl ?_
    obtain ⟨h7, k⟩ := k
    obtain ⟨h8, k⟩ := k
    refine x_iald (pc2 := 69) ic_63 h7 (by rw [al_63]; exact h8) dX8_number_68 rfl ?_
    exact k
set_option maxRecDepth 4000 in
theorem g_X8_number_72 {sc : List Int} {d : Nat} {m : Mem} {Q : Option AV → Mem → Prop} {l1 l2 l3 l4 s0 : Int} (k : (-2147483648 ≤ s0 ∧ s0 < 2147483648) ∧ ((s0 = 0) → ((-2147483648 ≤ l4 ∧ l4 < 2147483648) ∧ (-2147483648 ≤ l1 ∧ l1 < 2147483648) ∧ (-2147483648 ≤ l2 ∧ l2 < 2147483648) ∧ S_X8_number sc d 149 [aR 62, aU, aU, aI l3, aI l4] [aJ l2, aJ l1, aJ l4] (wr (wr m 62 4 (m 62 2)) 62 10 l3) Q)) ∧ (¬ (s0 = 0) → ((-2147483648 ≤ ((m 62 2) - l3) ∧ ((m 62 2) - l3) < 2147483648) ∧ ((((m 62 2) - l3) ≠ 4) → ((0 ≤ (m 62 2)) ∧ ((m 62 2) < 1600) ∧ S_X8_number sc d 49 [aR 62, aI l1, aI l2, aI l3, aI (((10 * l4) + (m 63 (m 62 2))) - 48)] [] (wr m 62 2 ((m 62 2) + 1)) Q)) ∧ (¬ (((m 62 2) - l3) ≠ 4) → (S_X8_number sc d 91 [aR 62, aU, aU, aU, aU] [aI (m 62 2), aI 1, aR 62] m Q))))) : S_X8_number sc d 72 [aR 62, aI l1, aI l2, aI l3, aI l4] [aI s0] m Q := by
  obtain ⟨h1, k⟩ := k
  obtain ⟨k1, k2⟩ := k
  refine x_if_eq (tgt := 129) (pc2 := 75) dX8_number_72 (by decide) rfl h1 (fun c2 => ?_) (fun c2 => ?_)
  · replace k := k1 c2
    refine x_aload_n (pc2 := 130) dX8_number_129 rfl rfl ?_
    refine x_aload_n (pc2 := 131) dX8_number_130 rfl rfl ?_
    refine x_getf (pc2 := 134) (v := aI (m 62 2)) fl_X8_296 ic_62 (fv_i _ ic_62 rfl) dX8_number_131 rfl ?_
    refine x_putf (pc2 := 137) (x := (m 62 2)) fl_X8_310 ft_8_4 ic_62 (pv_i _ ic_62 rfl) (pn_i _) dX8_number_134 rfl ?_
    refine x_aload_n (pc2 := 138) dX8_number_137 rfl rfl ?_
    refine x_iload_n (pc2 := 139) dX8_number_138 rfl rfl ?_
    refine x_putf (pc2 := 142) (x := l3) fl_X8_330 ft_8_10 ic_62 (pv_i _ ic_62 rfl) (pn_i _) dX8_number_139 rfl ?_
    refine x_iload (pc2 := 144) dX8_number_142 rfl rfl ?_
    obtain ⟨h3, k⟩ := k
    refine x_i2l (pc2 := 145) dX8_number_144 rfl h3 ?_
    refine x_iload_n (pc2 := 146) dX8_number_145 rfl rfl ?_
    obtain ⟨h4, k⟩ := k
    refine x_i2l (pc2 := 147) dX8_number_146 rfl h4 ?_
    refine x_iload_n (pc2 := 148) dX8_number_147 rfl rfl ?_
    obtain ⟨h5, k⟩ := k
    refine x_i2l (pc2 := 149) dX8_number_148 rfl h5 ?_
    exact x_drop (drp_k (drp_u (drp_u (drp_k (drp_k drp_n))))) k
  · replace k := k2 c2
    refine x_aload_n (pc2 := 76) dX8_number_75 rfl rfl ?_
    refine x_getf (pc2 := 79) (v := aI (m 62 2)) fl_X8_296 ic_62 (fv_i _ ic_62 rfl) dX8_number_76 rfl ?_
    refine x_iload_n (pc2 := 80) dX8_number_79 rfl rfl ?_
    refine x_isub (pc2 := 81) dX8_number_80 rfl ?_
    refine x_iconst (pc2 := 82) dX8_number_81 rfl ?_
    obtain ⟨h6, k⟩ := k
    obtain ⟨k1, k2⟩ := k
    refine x_icmp_ne (tgt := 96) (pc2 := 85) dX8_number_82 (by decide) rfl h6 (by decide) (fun c7 => ?_) (fun c7 => ?_)
    · replace k := k1 c7
      refine x_bipush (pc2 := 98) dX8_number_96 rfl rfl ?_
      refine x_iload (pc2 := 100) dX8_number_98 rfl rfl ?_
      refine x_imul (pc2 := 101) dX8_number_100 rfl ?_
      refine x_aload_n (pc2 := 102) dX8_number_101 rfl rfl ?_
      refine x_getf (pc2 := 105) (v := aR 63) fl_X8_7 ic_62 (vr_62_0 _) dX8_number_102 rfl ?_
      refine x_aload_n (pc2 := 106) dX8_number_105 rfl rfl ?_
      refine x_getf (pc2 := 109) (v := aI (m 62 2)) fl_X8_296 ic_62 (fv_i _ ic_62 rfl) dX8_number_106 rfl ?_
      obtain ⟨h8, k⟩ := k
      obtain ⟨h9, k⟩ := k
      refine x_iald (pc2 := 110) ic_63 h8 (by rw [al_63]; exact h9) dX8_number_109 rfl ?_
      refine x_iadd (pc2 := 111) dX8_number_110 rfl ?_
      refine x_bipush (pc2 := 113) dX8_number_111 rfl rfl ?_
      refine x_isub (pc2 := 114) dX8_number_113 rfl ?_
      refine x_istore (pc2 := 116) (ls2 := [aR 62, aI l1, aI l2, aI l3, aI (((10 * l4) + (m 63 (m 62 2))) - 48)]) dX8_number_114 rfl (by decide) rfl ?_
      refine x_aload_n (pc2 := 117) dX8_number_116 rfl rfl ?_
      refine x_dup_r (pc2 := 118) dX8_number_117 rfl (by decide) ?_
      refine x_getf (pc2 := 121) (v := aI (m 62 2)) fl_X8_296 ic_62 (fv_i _ ic_62 rfl) dX8_number_118 rfl ?_
      refine x_iconst (pc2 := 122) dX8_number_121 rfl ?_
      refine x_iadd (pc2 := 123) dX8_number_122 rfl ?_
      refine x_putf (pc2 := 126) (x := ((m 62 2) + 1)) fl_X8_296 ft_8_2 ic_62 (pv_i _ ic_62 rfl) (pn_i _) dX8_number_123 rfl ?_
      refine x_goto (tgt := 49) dX8_number_126 (by decide) ?_
      exact k
    · replace k := k2 c7
      refine x_aload_n (pc2 := 86) dX8_number_85 rfl rfl ?_
      refine x_iconst (pc2 := 87) dX8_number_86 rfl ?_
      refine x_aload_n (pc2 := 88) dX8_number_87 rfl rfl ?_
      refine x_getf (pc2 := 91) (v := aI (m 62 2)) fl_X8_296 ic_62 (fv_i _ ic_62 rfl) dX8_number_88 rfl ?_
      exact x_drop (drp_k (drp_u (drp_u (drp_u (drp_u drp_n))))) k
set_option maxRecDepth 4000 in
theorem g_X8_number_94 {sc : List Int} {d : Nat} {m : Mem} {Q : Option AV → Mem → Prop} (k : Q (some (aI 0)) m) : S_X8_number sc d 94 [aR 62, aU, aU, aU, aU] [] m Q := by
  refine x_iconst (pc2 := 95) dX8_number_94 rfl ?_
  exact x_ireturn dX8_number_95 ⟨.int, rfl, rfl⟩ k
set_option maxRecDepth 4000 in
theorem g_X8_number_152 {sc : List Int} {d : Nat} {m : Mem} {Q : Option AV → Mem → Prop} {l3 l4 s0 : Int} (k : (-2147483648 ≤ s0 ∧ s0 < 2147483648) ∧ ((s0 ≠ 0) → (S_X8_number sc d 161 [aR 62, aU, aU, aU, aI l4] [] m Q)) ∧ (¬ (s0 ≠ 0) → (S_X8_number sc d 158 [aR 62, aU, aU, aU, aI l4] [aI l3, aI 2, aR 62] m Q))) : S_X8_number sc d 152 [aR 62, aU, aU, aI l3, aI l4] [aI s0] m Q := by
  obtain ⟨h1, k⟩ := k
  obtain ⟨k1, k2⟩ := k
  refine x_if_ne (tgt := 161) (pc2 := 155) dX8_number_152 (by decide) rfl h1 (fun c2 => ?_) (fun c2 => ?_)
  · replace k := k1 c2
    exact x_drop (drp_k (drp_k (drp_k (drp_u (drp_k drp_n))))) k
  · replace k := k2 c2
    refine x_aload_n (pc2 := 156) dX8_number_155 rfl rfl ?_
    refine x_iconst (pc2 := 157) dX8_number_156 rfl ?_
    refine x_iload_n (pc2 := 158) dX8_number_157 rfl rfl ?_
    exact x_drop (drp_k (drp_k (drp_k (drp_u (drp_k drp_n))))) k
set_option maxRecDepth 4000 in
theorem g_X8_number_161 {sc : List Int} {d : Nat} {m : Mem} {Q : Option AV → Mem → Prop} {l4 : Int} (k : Q (some (aI l4)) m) : S_X8_number sc d 161 [aR 62, aU, aU, aU, aI l4] [] m Q := by
  refine x_iload (pc2 := 163) dX8_number_161 rfl rfl ?_
  exact x_ireturn dX8_number_163 ⟨.int, rfl, rfl⟩ k
theorem c_X8_number_10 {sc : List Int} {d d2 : Nat} {m m2 : Mem} {Q : Option AV → Mem → Prop} {l1 l2 : Int} {v : Int} (hM : C_X8_look sc d2 [aR 62] m (some (aI v)) m2) (hd : d2 + 1 ≤ d) (k : S_X8_number sc d 13 [aR 62, aI l1, aI l2, aU, aU] [aI v] m2 Q) : S_X8_number sc d 10 [aR 62, aI l1, aI l2, aU, aU] [aR 62] m Q := x_callV (as := []) (rest := []) hM mk_X8_look mv_X8_look lk_X8_302 (Or.inl ⟨8, (RX8, TX8, 123), ic_62, Nat.le_of_ble_eq_true rfl, rfl, rfl⟩) hd rfl rfl (Nat.le_of_ble_eq_true rfl) dX8_number_10 rfl k
theorem c_X8_number_13 {sc : List Int} {d d2 : Nat} {m m2 : Mem} {Q : Option AV → Mem → Prop} {l1 l2 s0 : Int} {v : Int} (hM : C_X8_isDigit sc d2 [aI s0] m (some (aI v)) m2) (hd : d2 + 1 ≤ d) (k : S_X8_number sc d 16 [aR 62, aI l1, aI l2, aU, aU] [aI v] m2 Q) : S_X8_number sc d 13 [aR 62, aI l1, aI l2, aU, aU] [aI s0] m Q := x_callS (as := [aI s0]) (rest := []) hM mk_X8_isDigit ms_X8_isDigit lk_X8_327 hd rfl rfl (Nat.le_of_ble_eq_true rfl) dX8_number_13 rfl k
theorem c_X8_number_36 {sc : List Int} {d d2 : Nat} {m m2 : Mem} {Q : Option AV → Mem → Prop} {s1 s2 : Int} (hM : C_X8_fail sc d2 [aR 62, aI s1, aI s2] m none m2) (hd : d2 + 1 ≤ d) (k : S_X8_number sc d 39 [aR 62, aU, aU, aU, aU] [] m2 Q) : S_X8_number sc d 36 [aR 62, aU, aU, aU, aU] [aI s2, aI s1, aR 62] m Q := x_callV (as := [aI s1, aI s2]) (rest := []) hM mk_X8_fail mv_X8_fail lk_X8_320 (Or.inl ⟨8, (RX8, TX8, 123), ic_62, Nat.le_of_ble_eq_true rfl, rfl, rfl⟩) hd rfl rfl (Nat.le_of_ble_eq_true rfl) dX8_number_36 rfl k
theorem c_X8_number_69 {sc : List Int} {d d2 : Nat} {m m2 : Mem} {Q : Option AV → Mem → Prop} {l1 l2 l3 l4 s0 : Int} {v : Int} (hM : C_X8_isDigit sc d2 [aI s0] m (some (aI v)) m2) (hd : d2 + 1 ≤ d) (k : S_X8_number sc d 72 [aR 62, aI l1, aI l2, aI l3, aI l4] [aI v] m2 Q) : S_X8_number sc d 69 [aR 62, aI l1, aI l2, aI l3, aI l4] [aI s0] m Q := x_callS (as := [aI s0]) (rest := []) hM mk_X8_isDigit ms_X8_isDigit lk_X8_327 hd rfl rfl (Nat.le_of_ble_eq_true rfl) dX8_number_69 rfl k
theorem c_X8_number_91 {sc : List Int} {d d2 : Nat} {m m2 : Mem} {Q : Option AV → Mem → Prop} {s1 s2 : Int} (hM : C_X8_fail sc d2 [aR 62, aI s1, aI s2] m none m2) (hd : d2 + 1 ≤ d) (k : S_X8_number sc d 94 [aR 62, aU, aU, aU, aU] [] m2 Q) : S_X8_number sc d 91 [aR 62, aU, aU, aU, aU] [aI s2, aI s1, aR 62] m Q := x_callV (as := [aI s1, aI s2]) (rest := []) hM mk_X8_fail mv_X8_fail lk_X8_320 (Or.inl ⟨8, (RX8, TX8, 123), ic_62, Nat.le_of_ble_eq_true rfl, rfl, rfl⟩) hd rfl rfl (Nat.le_of_ble_eq_true rfl) dX8_number_91 rfl k
theorem c_X8_number_149 {sc : List Int} {d d2 : Nat} {m m2 : Mem} {Q : Option AV → Mem → Prop} {l3 l4 s0 s1 s2 : Int} {v : Int} (hM : C_X8_isIn sc d2 [aJ s0, aJ s1, aJ s2] m (some (aI v)) m2) (hd : d2 + 1 ≤ d) (k : S_X8_number sc d 152 [aR 62, aU, aU, aI l3, aI l4] [aI v] m2 Q) : S_X8_number sc d 149 [aR 62, aU, aU, aI l3, aI l4] [aJ s2, aJ s1, aJ s0] m Q := x_callS (as := [aJ s0, aJ s1, aJ s2]) (rest := []) hM mk_X8_isIn ms_X8_isIn lk_X8_333 hd rfl rfl (Nat.le_of_ble_eq_true rfl) dX8_number_149 rfl k
theorem c_X8_number_158 {sc : List Int} {d d2 : Nat} {m m2 : Mem} {Q : Option AV → Mem → Prop} {l4 s1 s2 : Int} (hM : C_X8_fail sc d2 [aR 62, aI s1, aI s2] m none m2) (hd : d2 + 1 ≤ d) (k : S_X8_number sc d 161 [aR 62, aU, aU, aU, aI l4] [] m2 Q) : S_X8_number sc d 158 [aR 62, aU, aU, aU, aI l4] [aI s2, aI s1, aR 62] m Q := x_callV (as := [aI s1, aI s2]) (rest := []) hM mk_X8_fail mv_X8_fail lk_X8_320 (Or.inl ⟨8, (RX8, TX8, 123), ic_62, Nat.le_of_ble_eq_true rfl, rfl, rfl⟩) hd rfl rfl (Nat.le_of_ble_eq_true rfl) dX8_number_158 rfl k
set_option maxRecDepth 4000 in
theorem g_X8_isOwnHere_0 {sc : List Int} {d : Nat} {m : Mem} {Q : Option AV → Mem → Prop} (k : S_X8_isOwnHere sc d 5 [aR 62, aU] [aR 65, aR 62] m Q) : S_X8_isOwnHere sc d 0 [aR 62, aU] [] m Q := by
  refine x_aload_n (pc2 := 1) dX8_isOwnHere_0 rfl rfl ?_
  refine x_aload_n (pc2 := 2) dX8_isOwnHere_1 rfl rfl ?_
  refine x_getf (pc2 := 5) (v := aR 65) fl_X8_20 ic_62 (vr_62_11 _) dX8_isOwnHere_2 rfl ?_
  exact k
set_option maxRecDepth 4000 in
theorem g_X8_isOwnHere_8 {sc : List Int} {d : Nat} {m : Mem} {Q : Option AV → Mem → Prop} {s0 : Int} (k : (-2147483648 ≤ s0 ∧ s0 < 2147483648) ∧ ((s0 ≠ 0) → (Q (some (aI 1)) m)) ∧ (¬ (s0 ≠ 0) → (S_X8_isOwnHere sc d 16 [aR 62, aU] [aR 66, aR 62] m Q))) : S_X8_isOwnHere sc d 8 [aR 62, aU] [aI s0] m Q := by
  obtain ⟨h1, k⟩ := k
  obtain ⟨k1, k2⟩ := k
  refine x_if_ne (tgt := 66) (pc2 := 11) dX8_isOwnHere_8 (by decide) rfl h1 (fun c2 => ?_) (fun c2 => ?_)
  · replace k := k1 c2
    refine x_iconst (pc2 := 67) dX8_isOwnHere_66 rfl ?_
    refine x_goto (tgt := 71) dX8_isOwnHere_67 (by decide) ?_
    refine x_istore_n (pc2 := 72) (ls2 := [aR 62, aI 1]) dX8_isOwnHere_71 rfl (by decide) rfl ?_
    refine x_iload_n (pc2 := 73) dX8_isOwnHere_72 rfl rfl ?_
    refine x_if_ne (tgt := 142) (pc2 := 76) dX8_isOwnHere_73 (by decide) rfl (by decide) (fun c3 => ?_) (fun c3 => ?_)
    · skip
      refine x_iconst (pc2 := 143) dX8_isOwnHere_142 rfl ?_
      refine x_goto (tgt := 147) dX8_isOwnHere_143 (by decide) ?_
      refine x_istore_n (pc2 := 148) (ls2 := [aR 62, aI 1]) dX8_isOwnHere_147 rfl (by decide) rfl ?_
      refine x_iload_n (pc2 := 149) dX8_isOwnHere_148 rfl rfl ?_
      refine x_if_ne (tgt := 218) (pc2 := 152) dX8_isOwnHere_149 (by decide) rfl (by decide) (fun c4 => ?_) (fun c4 => ?_)
      · skip
        refine x_iconst (pc2 := 219) dX8_isOwnHere_218 rfl ?_
        refine x_goto (tgt := 223) dX8_isOwnHere_219 (by decide) ?_
        refine x_istore_n (pc2 := 224) (ls2 := [aR 62, aI 1]) dX8_isOwnHere_223 rfl (by decide) rfl ?_
        refine x_iload_n (pc2 := 225) dX8_isOwnHere_224 rfl rfl ?_
        refine x_if_ne (tgt := 294) (pc2 := 228) dX8_isOwnHere_225 (by decide) rfl (by decide) (fun c5 => ?_) (fun c5 => ?_)
        · skip
          refine x_iconst (pc2 := 295) dX8_isOwnHere_294 rfl ?_
          refine x_goto (tgt := 299) dX8_isOwnHere_295 (by decide) ?_
          refine x_istore_n (pc2 := 300) (ls2 := [aR 62, aI 1]) dX8_isOwnHere_299 rfl (by decide) rfl ?_
          refine x_iload_n (pc2 := 301) dX8_isOwnHere_300 rfl rfl ?_
          refine x_if_ne (tgt := 370) (pc2 := 304) dX8_isOwnHere_301 (by decide) rfl (by decide) (fun c6 => ?_) (fun c6 => ?_)
          · skip
            refine x_iconst (pc2 := 371) dX8_isOwnHere_370 rfl ?_
            refine x_goto (tgt := 375) dX8_isOwnHere_371 (by decide) ?_
            refine x_istore_n (pc2 := 376) (ls2 := [aR 62, aI 1]) dX8_isOwnHere_375 rfl (by decide) rfl ?_
            refine x_iload_n (pc2 := 377) dX8_isOwnHere_376 rfl rfl ?_
            exact x_ireturn dX8_isOwnHere_377 ⟨.boolean, rfl, rfl⟩ k
          · exact absurd (by decide) c6
        · exact absurd (by decide) c5
      · exact absurd (by decide) c4
    · exact absurd (by decide) c3
  · replace k := k2 c2
    refine x_aload_n (pc2 := 12) dX8_isOwnHere_11 rfl rfl ?_
    refine x_aload_n (pc2 := 13) dX8_isOwnHere_12 rfl rfl ?_
    refine x_getf (pc2 := 16) (v := aR 66) fl_X8_24 ic_62 (vr_62_12 _) dX8_isOwnHere_13 rfl ?_
    exact k
set_option maxRecDepth 4000 in
theorem g_X8_isOwnHere_19 {sc : List Int} {d : Nat} {m : Mem} {Q : Option AV → Mem → Prop} {s0 : Int} (k : (-2147483648 ≤ s0 ∧ s0 < 2147483648) ∧ ((s0 ≠ 0) → (Q (some (aI 1)) m)) ∧ (¬ (s0 ≠ 0) → (S_X8_isOwnHere sc d 27 [aR 62, aU] [aR 67, aR 62] m Q))) : S_X8_isOwnHere sc d 19 [aR 62, aU] [aI s0] m Q := by
  obtain ⟨h1, k⟩ := k
  obtain ⟨k1, k2⟩ := k
  refine x_if_ne (tgt := 66) (pc2 := 22) dX8_isOwnHere_19 (by decide) rfl h1 (fun c2 => ?_) (fun c2 => ?_)
  · replace k := k1 c2
    refine x_iconst (pc2 := 67) dX8_isOwnHere_66 rfl ?_
    refine x_goto (tgt := 71) dX8_isOwnHere_67 (by decide) ?_
    refine x_istore_n (pc2 := 72) (ls2 := [aR 62, aI 1]) dX8_isOwnHere_71 rfl (by decide) rfl ?_
    refine x_iload_n (pc2 := 73) dX8_isOwnHere_72 rfl rfl ?_
    refine x_if_ne (tgt := 142) (pc2 := 76) dX8_isOwnHere_73 (by decide) rfl (by decide) (fun c3 => ?_) (fun c3 => ?_)
    · skip
      refine x_iconst (pc2 := 143) dX8_isOwnHere_142 rfl ?_
      refine x_goto (tgt := 147) dX8_isOwnHere_143 (by decide) ?_
      refine x_istore_n (pc2 := 148) (ls2 := [aR 62, aI 1]) dX8_isOwnHere_147 rfl (by decide) rfl ?_
      refine x_iload_n (pc2 := 149) dX8_isOwnHere_148 rfl rfl ?_
      refine x_if_ne (tgt := 218) (pc2 := 152) dX8_isOwnHere_149 (by decide) rfl (by decide) (fun c4 => ?_) (fun c4 => ?_)
      · skip
        refine x_iconst (pc2 := 219) dX8_isOwnHere_218 rfl ?_
        refine x_goto (tgt := 223) dX8_isOwnHere_219 (by decide) ?_
        refine x_istore_n (pc2 := 224) (ls2 := [aR 62, aI 1]) dX8_isOwnHere_223 rfl (by decide) rfl ?_
        refine x_iload_n (pc2 := 225) dX8_isOwnHere_224 rfl rfl ?_
        refine x_if_ne (tgt := 294) (pc2 := 228) dX8_isOwnHere_225 (by decide) rfl (by decide) (fun c5 => ?_) (fun c5 => ?_)
        · skip
          refine x_iconst (pc2 := 295) dX8_isOwnHere_294 rfl ?_
          refine x_goto (tgt := 299) dX8_isOwnHere_295 (by decide) ?_
          refine x_istore_n (pc2 := 300) (ls2 := [aR 62, aI 1]) dX8_isOwnHere_299 rfl (by decide) rfl ?_
          refine x_iload_n (pc2 := 301) dX8_isOwnHere_300 rfl rfl ?_
          refine x_if_ne (tgt := 370) (pc2 := 304) dX8_isOwnHere_301 (by decide) rfl (by decide) (fun c6 => ?_) (fun c6 => ?_)
          · skip
            refine x_iconst (pc2 := 371) dX8_isOwnHere_370 rfl ?_
            refine x_goto (tgt := 375) dX8_isOwnHere_371 (by decide) ?_
            refine x_istore_n (pc2 := 376) (ls2 := [aR 62, aI 1]) dX8_isOwnHere_375 rfl (by decide) rfl ?_
            refine x_iload_n (pc2 := 377) dX8_isOwnHere_376 rfl rfl ?_
            exact x_ireturn dX8_isOwnHere_377 ⟨.boolean, rfl, rfl⟩ k
          · exact absurd (by decide) c6
        · exact absurd (by decide) c5
      · exact absurd (by decide) c4
    · exact absurd (by decide) c3
  · replace k := k2 c2
    refine x_aload_n (pc2 := 23) dX8_isOwnHere_22 rfl rfl ?_
    refine x_aload_n (pc2 := 24) dX8_isOwnHere_23 rfl rfl ?_
    refine x_getf (pc2 := 27) (v := aR 67) fl_X8_27 ic_62 (vr_62_13 _) dX8_isOwnHere_24 rfl ?_
    exact k
set_option maxRecDepth 4000 in
theorem g_X8_isOwnHere_30 {sc : List Int} {d : Nat} {m : Mem} {Q : Option AV → Mem → Prop} {s0 : Int} (k : (-2147483648 ≤ s0 ∧ s0 < 2147483648) ∧ ((s0 ≠ 0) → (Q (some (aI 1)) m)) ∧ (¬ (s0 ≠ 0) → (S_X8_isOwnHere sc d 38 [aR 62, aU] [aR 68, aR 62] m Q))) : S_X8_isOwnHere sc d 30 [aR 62, aU] [aI s0] m Q := by
  obtain ⟨h1, k⟩ := k
  obtain ⟨k1, k2⟩ := k
  refine x_if_ne (tgt := 66) (pc2 := 33) dX8_isOwnHere_30 (by decide) rfl h1 (fun c2 => ?_) (fun c2 => ?_)
  · replace k := k1 c2
    refine x_iconst (pc2 := 67) dX8_isOwnHere_66 rfl ?_
    refine x_goto (tgt := 71) dX8_isOwnHere_67 (by decide) ?_
    refine x_istore_n (pc2 := 72) (ls2 := [aR 62, aI 1]) dX8_isOwnHere_71 rfl (by decide) rfl ?_
    refine x_iload_n (pc2 := 73) dX8_isOwnHere_72 rfl rfl ?_
    refine x_if_ne (tgt := 142) (pc2 := 76) dX8_isOwnHere_73 (by decide) rfl (by decide) (fun c3 => ?_) (fun c3 => ?_)
    · skip
      refine x_iconst (pc2 := 143) dX8_isOwnHere_142 rfl ?_
      refine x_goto (tgt := 147) dX8_isOwnHere_143 (by decide) ?_
      refine x_istore_n (pc2 := 148) (ls2 := [aR 62, aI 1]) dX8_isOwnHere_147 rfl (by decide) rfl ?_
      refine x_iload_n (pc2 := 149) dX8_isOwnHere_148 rfl rfl ?_
      refine x_if_ne (tgt := 218) (pc2 := 152) dX8_isOwnHere_149 (by decide) rfl (by decide) (fun c4 => ?_) (fun c4 => ?_)
      · skip
        refine x_iconst (pc2 := 219) dX8_isOwnHere_218 rfl ?_
        refine x_goto (tgt := 223) dX8_isOwnHere_219 (by decide) ?_
        refine x_istore_n (pc2 := 224) (ls2 := [aR 62, aI 1]) dX8_isOwnHere_223 rfl (by decide) rfl ?_
        refine x_iload_n (pc2 := 225) dX8_isOwnHere_224 rfl rfl ?_
        refine x_if_ne (tgt := 294) (pc2 := 228) dX8_isOwnHere_225 (by decide) rfl (by decide) (fun c5 => ?_) (fun c5 => ?_)
        · skip
          refine x_iconst (pc2 := 295) dX8_isOwnHere_294 rfl ?_
          refine x_goto (tgt := 299) dX8_isOwnHere_295 (by decide) ?_
          refine x_istore_n (pc2 := 300) (ls2 := [aR 62, aI 1]) dX8_isOwnHere_299 rfl (by decide) rfl ?_
          refine x_iload_n (pc2 := 301) dX8_isOwnHere_300 rfl rfl ?_
          refine x_if_ne (tgt := 370) (pc2 := 304) dX8_isOwnHere_301 (by decide) rfl (by decide) (fun c6 => ?_) (fun c6 => ?_)
          · skip
            refine x_iconst (pc2 := 371) dX8_isOwnHere_370 rfl ?_
            refine x_goto (tgt := 375) dX8_isOwnHere_371 (by decide) ?_
            refine x_istore_n (pc2 := 376) (ls2 := [aR 62, aI 1]) dX8_isOwnHere_375 rfl (by decide) rfl ?_
            refine x_iload_n (pc2 := 377) dX8_isOwnHere_376 rfl rfl ?_
            exact x_ireturn dX8_isOwnHere_377 ⟨.boolean, rfl, rfl⟩ k
          · exact absurd (by decide) c6
        · exact absurd (by decide) c5
      · exact absurd (by decide) c4
    · exact absurd (by decide) c3
  · replace k := k2 c2
    refine x_aload_n (pc2 := 34) dX8_isOwnHere_33 rfl rfl ?_
    refine x_aload_n (pc2 := 35) dX8_isOwnHere_34 rfl rfl ?_
    refine x_getf (pc2 := 38) (v := aR 68) fl_X8_30 ic_62 (vr_62_14 _) dX8_isOwnHere_35 rfl ?_
    exact k
set_option maxRecDepth 4000 in
theorem g_X8_isOwnHere_41 {sc : List Int} {d : Nat} {m : Mem} {Q : Option AV → Mem → Prop} {s0 : Int} (k : (-2147483648 ≤ s0 ∧ s0 < 2147483648) ∧ ((s0 ≠ 0) → (Q (some (aI 1)) m)) ∧ (¬ (s0 ≠ 0) → (S_X8_isOwnHere sc d 49 [aR 62, aU] [aR 69, aR 62] m Q))) : S_X8_isOwnHere sc d 41 [aR 62, aU] [aI s0] m Q := by
  obtain ⟨h1, k⟩ := k
  obtain ⟨k1, k2⟩ := k
  refine x_if_ne (tgt := 66) (pc2 := 44) dX8_isOwnHere_41 (by decide) rfl h1 (fun c2 => ?_) (fun c2 => ?_)
  · replace k := k1 c2
    refine x_iconst (pc2 := 67) dX8_isOwnHere_66 rfl ?_
    refine x_goto (tgt := 71) dX8_isOwnHere_67 (by decide) ?_
    refine x_istore_n (pc2 := 72) (ls2 := [aR 62, aI 1]) dX8_isOwnHere_71 rfl (by decide) rfl ?_
    refine x_iload_n (pc2 := 73) dX8_isOwnHere_72 rfl rfl ?_
    refine x_if_ne (tgt := 142) (pc2 := 76) dX8_isOwnHere_73 (by decide) rfl (by decide) (fun c3 => ?_) (fun c3 => ?_)
    · skip
      refine x_iconst (pc2 := 143) dX8_isOwnHere_142 rfl ?_
      refine x_goto (tgt := 147) dX8_isOwnHere_143 (by decide) ?_
      refine x_istore_n (pc2 := 148) (ls2 := [aR 62, aI 1]) dX8_isOwnHere_147 rfl (by decide) rfl ?_
      refine x_iload_n (pc2 := 149) dX8_isOwnHere_148 rfl rfl ?_
      refine x_if_ne (tgt := 218) (pc2 := 152) dX8_isOwnHere_149 (by decide) rfl (by decide) (fun c4 => ?_) (fun c4 => ?_)
      · skip
        refine x_iconst (pc2 := 219) dX8_isOwnHere_218 rfl ?_
        refine x_goto (tgt := 223) dX8_isOwnHere_219 (by decide) ?_
        refine x_istore_n (pc2 := 224) (ls2 := [aR 62, aI 1]) dX8_isOwnHere_223 rfl (by decide) rfl ?_
        refine x_iload_n (pc2 := 225) dX8_isOwnHere_224 rfl rfl ?_
        refine x_if_ne (tgt := 294) (pc2 := 228) dX8_isOwnHere_225 (by decide) rfl (by decide) (fun c5 => ?_) (fun c5 => ?_)
        · skip
          refine x_iconst (pc2 := 295) dX8_isOwnHere_294 rfl ?_
          refine x_goto (tgt := 299) dX8_isOwnHere_295 (by decide) ?_
          refine x_istore_n (pc2 := 300) (ls2 := [aR 62, aI 1]) dX8_isOwnHere_299 rfl (by decide) rfl ?_
          refine x_iload_n (pc2 := 301) dX8_isOwnHere_300 rfl rfl ?_
          refine x_if_ne (tgt := 370) (pc2 := 304) dX8_isOwnHere_301 (by decide) rfl (by decide) (fun c6 => ?_) (fun c6 => ?_)
          · skip
            refine x_iconst (pc2 := 371) dX8_isOwnHere_370 rfl ?_
            refine x_goto (tgt := 375) dX8_isOwnHere_371 (by decide) ?_
            refine x_istore_n (pc2 := 376) (ls2 := [aR 62, aI 1]) dX8_isOwnHere_375 rfl (by decide) rfl ?_
            refine x_iload_n (pc2 := 377) dX8_isOwnHere_376 rfl rfl ?_
            exact x_ireturn dX8_isOwnHere_377 ⟨.boolean, rfl, rfl⟩ k
          · exact absurd (by decide) c6
        · exact absurd (by decide) c5
      · exact absurd (by decide) c4
    · exact absurd (by decide) c3
  · replace k := k2 c2
    refine x_aload_n (pc2 := 45) dX8_isOwnHere_44 rfl rfl ?_
    refine x_aload_n (pc2 := 46) dX8_isOwnHere_45 rfl rfl ?_
    refine x_getf (pc2 := 49) (v := aR 69) fl_X8_33 ic_62 (vr_62_15 _) dX8_isOwnHere_46 rfl ?_
    exact k
set_option maxRecDepth 4000 in
theorem g_X8_isOwnHere_52 {sc : List Int} {d : Nat} {m : Mem} {Q : Option AV → Mem → Prop} {s0 : Int} (k : (-2147483648 ≤ s0 ∧ s0 < 2147483648) ∧ ((s0 ≠ 0) → (Q (some (aI 1)) m)) ∧ (¬ (s0 ≠ 0) → (S_X8_isOwnHere sc d 60 [aR 62, aU] [aR 70, aR 62] m Q))) : S_X8_isOwnHere sc d 52 [aR 62, aU] [aI s0] m Q := by
  obtain ⟨h1, k⟩ := k
  obtain ⟨k1, k2⟩ := k
  refine x_if_ne (tgt := 66) (pc2 := 55) dX8_isOwnHere_52 (by decide) rfl h1 (fun c2 => ?_) (fun c2 => ?_)
  · replace k := k1 c2
    refine x_iconst (pc2 := 67) dX8_isOwnHere_66 rfl ?_
    refine x_goto (tgt := 71) dX8_isOwnHere_67 (by decide) ?_
    refine x_istore_n (pc2 := 72) (ls2 := [aR 62, aI 1]) dX8_isOwnHere_71 rfl (by decide) rfl ?_
    refine x_iload_n (pc2 := 73) dX8_isOwnHere_72 rfl rfl ?_
    refine x_if_ne (tgt := 142) (pc2 := 76) dX8_isOwnHere_73 (by decide) rfl (by decide) (fun c3 => ?_) (fun c3 => ?_)
    · skip
      refine x_iconst (pc2 := 143) dX8_isOwnHere_142 rfl ?_
      refine x_goto (tgt := 147) dX8_isOwnHere_143 (by decide) ?_
      refine x_istore_n (pc2 := 148) (ls2 := [aR 62, aI 1]) dX8_isOwnHere_147 rfl (by decide) rfl ?_
      refine x_iload_n (pc2 := 149) dX8_isOwnHere_148 rfl rfl ?_
      refine x_if_ne (tgt := 218) (pc2 := 152) dX8_isOwnHere_149 (by decide) rfl (by decide) (fun c4 => ?_) (fun c4 => ?_)
      · skip
        refine x_iconst (pc2 := 219) dX8_isOwnHere_218 rfl ?_
        refine x_goto (tgt := 223) dX8_isOwnHere_219 (by decide) ?_
        refine x_istore_n (pc2 := 224) (ls2 := [aR 62, aI 1]) dX8_isOwnHere_223 rfl (by decide) rfl ?_
        refine x_iload_n (pc2 := 225) dX8_isOwnHere_224 rfl rfl ?_
        refine x_if_ne (tgt := 294) (pc2 := 228) dX8_isOwnHere_225 (by decide) rfl (by decide) (fun c5 => ?_) (fun c5 => ?_)
        · skip
          refine x_iconst (pc2 := 295) dX8_isOwnHere_294 rfl ?_
          refine x_goto (tgt := 299) dX8_isOwnHere_295 (by decide) ?_
          refine x_istore_n (pc2 := 300) (ls2 := [aR 62, aI 1]) dX8_isOwnHere_299 rfl (by decide) rfl ?_
          refine x_iload_n (pc2 := 301) dX8_isOwnHere_300 rfl rfl ?_
          refine x_if_ne (tgt := 370) (pc2 := 304) dX8_isOwnHere_301 (by decide) rfl (by decide) (fun c6 => ?_) (fun c6 => ?_)
          · skip
            refine x_iconst (pc2 := 371) dX8_isOwnHere_370 rfl ?_
            refine x_goto (tgt := 375) dX8_isOwnHere_371 (by decide) ?_
            refine x_istore_n (pc2 := 376) (ls2 := [aR 62, aI 1]) dX8_isOwnHere_375 rfl (by decide) rfl ?_
            refine x_iload_n (pc2 := 377) dX8_isOwnHere_376 rfl rfl ?_
            exact x_ireturn dX8_isOwnHere_377 ⟨.boolean, rfl, rfl⟩ k
          · exact absurd (by decide) c6
        · exact absurd (by decide) c5
      · exact absurd (by decide) c4
    · exact absurd (by decide) c3
  · replace k := k2 c2
    refine x_aload_n (pc2 := 56) dX8_isOwnHere_55 rfl rfl ?_
    refine x_aload_n (pc2 := 57) dX8_isOwnHere_56 rfl rfl ?_
    refine x_getf (pc2 := 60) (v := aR 70) fl_X8_36 ic_62 (vr_62_16 _) dX8_isOwnHere_57 rfl ?_
    exact k
set_option maxRecDepth 4000 in
theorem g_X8_isOwnHere_63 {sc : List Int} {d : Nat} {m : Mem} {Q : Option AV → Mem → Prop} {s0 : Int} (k : ((-2147483648 ≤ s0 ∧ s0 < 2147483648)) ∧ (-2147483648 ≤ (if s0 = 0 then 0 else 1 : Int) ∧ (if s0 = 0 then 0 else 1 : Int) < 2147483648) ∧ (((if s0 = 0 then 0 else 1 : Int) ≠ 0) → (Q (some (aI 1)) m)) ∧ (¬ ((if s0 = 0 then 0 else 1 : Int) ≠ 0) → (S_X8_isOwnHere sc d 81 [aR 62, aU] [aR 71, aR 62] m Q))) : S_X8_isOwnHere sc d 63 [aR 62, aU] [aI s0] m Q := by
  obtain ⟨g2, k⟩ := k
  have kj : S_X8_isOwnHere sc d 71 [aR 62, aU] [aI (if s0 = 0 then 0 else 1 : Int)] m Q := by
    refine x_istore_n (pc2 := 72) (ls2 := [aR 62, aI (if s0 = 0 then 0 else 1 : Int)]) dX8_isOwnHere_71 rfl (by decide) rfl ?_
    refine x_iload_n (pc2 := 73) dX8_isOwnHere_72 rfl rfl ?_
    obtain ⟨h3, k⟩ := k
    obtain ⟨k1, k2⟩ := k
    refine x_if_ne (tgt := 142) (pc2 := 76) dX8_isOwnHere_73 (by decide) rfl h3 (fun c4 => ?_) (fun c4 => ?_)
    · replace k := k1 c4
      refine x_iconst (pc2 := 143) dX8_isOwnHere_142 rfl ?_
      refine x_goto (tgt := 147) dX8_isOwnHere_143 (by decide) ?_
      refine x_istore_n (pc2 := 148) (ls2 := [aR 62, aI 1]) dX8_isOwnHere_147 rfl (by decide) rfl ?_
      refine x_iload_n (pc2 := 149) dX8_isOwnHere_148 rfl rfl ?_
      refine x_if_ne (tgt := 218) (pc2 := 152) dX8_isOwnHere_149 (by decide) rfl (by decide) (fun c5 => ?_) (fun c5 => ?_)
      · skip
        refine x_iconst (pc2 := 219) dX8_isOwnHere_218 rfl ?_
        refine x_goto (tgt := 223) dX8_isOwnHere_219 (by decide) ?_
        refine x_istore_n (pc2 := 224) (ls2 := [aR 62, aI 1]) dX8_isOwnHere_223 rfl (by decide) rfl ?_
        refine x_iload_n (pc2 := 225) dX8_isOwnHere_224 rfl rfl ?_
        refine x_if_ne (tgt := 294) (pc2 := 228) dX8_isOwnHere_225 (by decide) rfl (by decide) (fun c6 => ?_) (fun c6 => ?_)
        · skip
          refine x_iconst (pc2 := 295) dX8_isOwnHere_294 rfl ?_
          refine x_goto (tgt := 299) dX8_isOwnHere_295 (by decide) ?_
          refine x_istore_n (pc2 := 300) (ls2 := [aR 62, aI 1]) dX8_isOwnHere_299 rfl (by decide) rfl ?_
          refine x_iload_n (pc2 := 301) dX8_isOwnHere_300 rfl rfl ?_
          refine x_if_ne (tgt := 370) (pc2 := 304) dX8_isOwnHere_301 (by decide) rfl (by decide) (fun c7 => ?_) (fun c7 => ?_)
          · skip
            refine x_iconst (pc2 := 371) dX8_isOwnHere_370 rfl ?_
            refine x_goto (tgt := 375) dX8_isOwnHere_371 (by decide) ?_
            refine x_istore_n (pc2 := 376) (ls2 := [aR 62, aI 1]) dX8_isOwnHere_375 rfl (by decide) rfl ?_
            refine x_iload_n (pc2 := 377) dX8_isOwnHere_376 rfl rfl ?_
            exact x_ireturn dX8_isOwnHere_377 ⟨.boolean, rfl, rfl⟩ k
          · exact absurd (by decide) c7
        · exact absurd (by decide) c6
      · exact absurd (by decide) c5
    · replace k := k2 c4
      refine x_aload_n (pc2 := 77) dX8_isOwnHere_76 rfl rfl ?_
      refine x_aload_n (pc2 := 78) dX8_isOwnHere_77 rfl rfl ?_
      refine x_getf (pc2 := 81) (v := aR 71) fl_X8_39 ic_62 (vr_62_17 _) dX8_isOwnHere_78 rfl ?_
      exact x_drop (drp_k (drp_u drp_n)) k
  have h8 := g2 
  refine x_if_eq (tgt := 70) (pc2 := 66) dX8_isOwnHere_63 (by decide) rfl h8 (fun c9 => ?_) (fun c9 => ?_)
  · skip
    refine x_iconst (pc2 := 71) dX8_isOwnHere_70 rfl ?_
    exact x_topI (v := (if s0 = 0 then 0 else 1 : Int)) (if_pos c9) kj
  · skip
    refine x_iconst (pc2 := 67) dX8_isOwnHere_66 rfl ?_
    refine x_goto (tgt := 71) dX8_isOwnHere_67 (by decide) ?_
    exact x_topI (v := (if s0 = 0 then 0 else 1 : Int)) (if_neg c9) kj
set_option maxRecDepth 4000 in
theorem g_X8_isOwnHere_84 {sc : List Int} {d : Nat} {m : Mem} {Q : Option AV → Mem → Prop} {s0 : Int} (k : (-2147483648 ≤ s0 ∧ s0 < 2147483648) ∧ ((s0 ≠ 0) → (Q (some (aI 1)) m)) ∧ (¬ (s0 ≠ 0) → (S_X8_isOwnHere sc d 92 [aR 62, aU] [aR 72, aR 62] m Q))) : S_X8_isOwnHere sc d 84 [aR 62, aU] [aI s0] m Q := by
  obtain ⟨h1, k⟩ := k
  obtain ⟨k1, k2⟩ := k
  refine x_if_ne (tgt := 142) (pc2 := 87) dX8_isOwnHere_84 (by decide) rfl h1 (fun c2 => ?_) (fun c2 => ?_)
  · replace k := k1 c2
    refine x_iconst (pc2 := 143) dX8_isOwnHere_142 rfl ?_
    refine x_goto (tgt := 147) dX8_isOwnHere_143 (by decide) ?_
    refine x_istore_n (pc2 := 148) (ls2 := [aR 62, aI 1]) dX8_isOwnHere_147 rfl (by decide) rfl ?_
    refine x_iload_n (pc2 := 149) dX8_isOwnHere_148 rfl rfl ?_
    refine x_if_ne (tgt := 218) (pc2 := 152) dX8_isOwnHere_149 (by decide) rfl (by decide) (fun c3 => ?_) (fun c3 => ?_)
    · skip
      refine x_iconst (pc2 := 219) dX8_isOwnHere_218 rfl ?_
      refine x_goto (tgt := 223) dX8_isOwnHere_219 (by decide) ?_
      refine x_istore_n (pc2 := 224) (ls2 := [aR 62, aI 1]) dX8_isOwnHere_223 rfl (by decide) rfl ?_
      refine x_iload_n (pc2 := 225) dX8_isOwnHere_224 rfl rfl ?_
      refine x_if_ne (tgt := 294) (pc2 := 228) dX8_isOwnHere_225 (by decide) rfl (by decide) (fun c4 => ?_) (fun c4 => ?_)
      · skip
        refine x_iconst (pc2 := 295) dX8_isOwnHere_294 rfl ?_
        refine x_goto (tgt := 299) dX8_isOwnHere_295 (by decide) ?_
        refine x_istore_n (pc2 := 300) (ls2 := [aR 62, aI 1]) dX8_isOwnHere_299 rfl (by decide) rfl ?_
        refine x_iload_n (pc2 := 301) dX8_isOwnHere_300 rfl rfl ?_
        refine x_if_ne (tgt := 370) (pc2 := 304) dX8_isOwnHere_301 (by decide) rfl (by decide) (fun c5 => ?_) (fun c5 => ?_)
        · skip
          refine x_iconst (pc2 := 371) dX8_isOwnHere_370 rfl ?_
          refine x_goto (tgt := 375) dX8_isOwnHere_371 (by decide) ?_
          refine x_istore_n (pc2 := 376) (ls2 := [aR 62, aI 1]) dX8_isOwnHere_375 rfl (by decide) rfl ?_
          refine x_iload_n (pc2 := 377) dX8_isOwnHere_376 rfl rfl ?_
          exact x_ireturn dX8_isOwnHere_377 ⟨.boolean, rfl, rfl⟩ k
        · exact absurd (by decide) c5
      · exact absurd (by decide) c4
    · exact absurd (by decide) c3
  · replace k := k2 c2
    refine x_aload_n (pc2 := 88) dX8_isOwnHere_87 rfl rfl ?_
    refine x_aload_n (pc2 := 89) dX8_isOwnHere_88 rfl rfl ?_
    refine x_getf (pc2 := 92) (v := aR 72) fl_X8_42 ic_62 (vr_62_18 _) dX8_isOwnHere_89 rfl ?_
    exact k
set_option maxRecDepth 4000 in
theorem g_X8_isOwnHere_95 {sc : List Int} {d : Nat} {m : Mem} {Q : Option AV → Mem → Prop} {s0 : Int} (k : (-2147483648 ≤ s0 ∧ s0 < 2147483648) ∧ ((s0 ≠ 0) → (Q (some (aI 1)) m)) ∧ (¬ (s0 ≠ 0) → (S_X8_isOwnHere sc d 103 [aR 62, aU] [aR 73, aR 62] m Q))) : S_X8_isOwnHere sc d 95 [aR 62, aU] [aI s0] m Q := by
  obtain ⟨h1, k⟩ := k
  obtain ⟨k1, k2⟩ := k
  refine x_if_ne (tgt := 142) (pc2 := 98) dX8_isOwnHere_95 (by decide) rfl h1 (fun c2 => ?_) (fun c2 => ?_)
  · replace k := k1 c2
    refine x_iconst (pc2 := 143) dX8_isOwnHere_142 rfl ?_
    refine x_goto (tgt := 147) dX8_isOwnHere_143 (by decide) ?_
    refine x_istore_n (pc2 := 148) (ls2 := [aR 62, aI 1]) dX8_isOwnHere_147 rfl (by decide) rfl ?_
    refine x_iload_n (pc2 := 149) dX8_isOwnHere_148 rfl rfl ?_
    refine x_if_ne (tgt := 218) (pc2 := 152) dX8_isOwnHere_149 (by decide) rfl (by decide) (fun c3 => ?_) (fun c3 => ?_)
    · skip
      refine x_iconst (pc2 := 219) dX8_isOwnHere_218 rfl ?_
      refine x_goto (tgt := 223) dX8_isOwnHere_219 (by decide) ?_
      refine x_istore_n (pc2 := 224) (ls2 := [aR 62, aI 1]) dX8_isOwnHere_223 rfl (by decide) rfl ?_
      refine x_iload_n (pc2 := 225) dX8_isOwnHere_224 rfl rfl ?_
      refine x_if_ne (tgt := 294) (pc2 := 228) dX8_isOwnHere_225 (by decide) rfl (by decide) (fun c4 => ?_) (fun c4 => ?_)
      · skip
        refine x_iconst (pc2 := 295) dX8_isOwnHere_294 rfl ?_
        refine x_goto (tgt := 299) dX8_isOwnHere_295 (by decide) ?_
        refine x_istore_n (pc2 := 300) (ls2 := [aR 62, aI 1]) dX8_isOwnHere_299 rfl (by decide) rfl ?_
        refine x_iload_n (pc2 := 301) dX8_isOwnHere_300 rfl rfl ?_
        refine x_if_ne (tgt := 370) (pc2 := 304) dX8_isOwnHere_301 (by decide) rfl (by decide) (fun c5 => ?_) (fun c5 => ?_)
        · skip
          refine x_iconst (pc2 := 371) dX8_isOwnHere_370 rfl ?_
          refine x_goto (tgt := 375) dX8_isOwnHere_371 (by decide) ?_
          refine x_istore_n (pc2 := 376) (ls2 := [aR 62, aI 1]) dX8_isOwnHere_375 rfl (by decide) rfl ?_
          refine x_iload_n (pc2 := 377) dX8_isOwnHere_376 rfl rfl ?_
          exact x_ireturn dX8_isOwnHere_377 ⟨.boolean, rfl, rfl⟩ k
        · exact absurd (by decide) c5
      · exact absurd (by decide) c4
    · exact absurd (by decide) c3
  · replace k := k2 c2
    refine x_aload_n (pc2 := 99) dX8_isOwnHere_98 rfl rfl ?_
    refine x_aload_n (pc2 := 100) dX8_isOwnHere_99 rfl rfl ?_
    refine x_getf (pc2 := 103) (v := aR 73) fl_X8_45 ic_62 (vr_62_19 _) dX8_isOwnHere_100 rfl ?_
    exact k
set_option maxRecDepth 4000 in
theorem g_X8_isOwnHere_106 {sc : List Int} {d : Nat} {m : Mem} {Q : Option AV → Mem → Prop} {s0 : Int} (k : (-2147483648 ≤ s0 ∧ s0 < 2147483648) ∧ ((s0 ≠ 0) → (Q (some (aI 1)) m)) ∧ (¬ (s0 ≠ 0) → (S_X8_isOwnHere sc d 114 [aR 62, aU] [aR 74, aR 62] m Q))) : S_X8_isOwnHere sc d 106 [aR 62, aU] [aI s0] m Q := by
  obtain ⟨h1, k⟩ := k
  obtain ⟨k1, k2⟩ := k
  refine x_if_ne (tgt := 142) (pc2 := 109) dX8_isOwnHere_106 (by decide) rfl h1 (fun c2 => ?_) (fun c2 => ?_)
  · replace k := k1 c2
    refine x_iconst (pc2 := 143) dX8_isOwnHere_142 rfl ?_
    refine x_goto (tgt := 147) dX8_isOwnHere_143 (by decide) ?_
    refine x_istore_n (pc2 := 148) (ls2 := [aR 62, aI 1]) dX8_isOwnHere_147 rfl (by decide) rfl ?_
    refine x_iload_n (pc2 := 149) dX8_isOwnHere_148 rfl rfl ?_
    refine x_if_ne (tgt := 218) (pc2 := 152) dX8_isOwnHere_149 (by decide) rfl (by decide) (fun c3 => ?_) (fun c3 => ?_)
    · skip
      refine x_iconst (pc2 := 219) dX8_isOwnHere_218 rfl ?_
      refine x_goto (tgt := 223) dX8_isOwnHere_219 (by decide) ?_
      refine x_istore_n (pc2 := 224) (ls2 := [aR 62, aI 1]) dX8_isOwnHere_223 rfl (by decide) rfl ?_
      refine x_iload_n (pc2 := 225) dX8_isOwnHere_224 rfl rfl ?_
      refine x_if_ne (tgt := 294) (pc2 := 228) dX8_isOwnHere_225 (by decide) rfl (by decide) (fun c4 => ?_) (fun c4 => ?_)
      · skip
        refine x_iconst (pc2 := 295) dX8_isOwnHere_294 rfl ?_
        refine x_goto (tgt := 299) dX8_isOwnHere_295 (by decide) ?_
        refine x_istore_n (pc2 := 300) (ls2 := [aR 62, aI 1]) dX8_isOwnHere_299 rfl (by decide) rfl ?_
        refine x_iload_n (pc2 := 301) dX8_isOwnHere_300 rfl rfl ?_
        refine x_if_ne (tgt := 370) (pc2 := 304) dX8_isOwnHere_301 (by decide) rfl (by decide) (fun c5 => ?_) (fun c5 => ?_)
        · skip
          refine x_iconst (pc2 := 371) dX8_isOwnHere_370 rfl ?_
          refine x_goto (tgt := 375) dX8_isOwnHere_371 (by decide) ?_
          refine x_istore_n (pc2 := 376) (ls2 := [aR 62, aI 1]) dX8_isOwnHere_375 rfl (by decide) rfl ?_
          refine x_iload_n (pc2 := 377) dX8_isOwnHere_376 rfl rfl ?_
          exact x_ireturn dX8_isOwnHere_377 ⟨.boolean, rfl, rfl⟩ k
        · exact absurd (by decide) c5
      · exact absurd (by decide) c4
    · exact absurd (by decide) c3
  · replace k := k2 c2
    refine x_aload_n (pc2 := 110) dX8_isOwnHere_109 rfl rfl ?_
    refine x_aload_n (pc2 := 111) dX8_isOwnHere_110 rfl rfl ?_
    refine x_getf (pc2 := 114) (v := aR 74) fl_X8_48 ic_62 (vr_62_20 _) dX8_isOwnHere_111 rfl ?_
    exact k
set_option maxRecDepth 4000 in
theorem g_X8_isOwnHere_117 {sc : List Int} {d : Nat} {m : Mem} {Q : Option AV → Mem → Prop} {s0 : Int} (k : (-2147483648 ≤ s0 ∧ s0 < 2147483648) ∧ ((s0 ≠ 0) → (Q (some (aI 1)) m)) ∧ (¬ (s0 ≠ 0) → (S_X8_isOwnHere sc d 125 [aR 62, aU] [aR 75, aR 62] m Q))) : S_X8_isOwnHere sc d 117 [aR 62, aU] [aI s0] m Q := by
  obtain ⟨h1, k⟩ := k
  obtain ⟨k1, k2⟩ := k
  refine x_if_ne (tgt := 142) (pc2 := 120) dX8_isOwnHere_117 (by decide) rfl h1 (fun c2 => ?_) (fun c2 => ?_)
  · replace k := k1 c2
    refine x_iconst (pc2 := 143) dX8_isOwnHere_142 rfl ?_
    refine x_goto (tgt := 147) dX8_isOwnHere_143 (by decide) ?_
    refine x_istore_n (pc2 := 148) (ls2 := [aR 62, aI 1]) dX8_isOwnHere_147 rfl (by decide) rfl ?_
    refine x_iload_n (pc2 := 149) dX8_isOwnHere_148 rfl rfl ?_
    refine x_if_ne (tgt := 218) (pc2 := 152) dX8_isOwnHere_149 (by decide) rfl (by decide) (fun c3 => ?_) (fun c3 => ?_)
    · skip
      refine x_iconst (pc2 := 219) dX8_isOwnHere_218 rfl ?_
      refine x_goto (tgt := 223) dX8_isOwnHere_219 (by decide) ?_
      refine x_istore_n (pc2 := 224) (ls2 := [aR 62, aI 1]) dX8_isOwnHere_223 rfl (by decide) rfl ?_
      refine x_iload_n (pc2 := 225) dX8_isOwnHere_224 rfl rfl ?_
      refine x_if_ne (tgt := 294) (pc2 := 228) dX8_isOwnHere_225 (by decide) rfl (by decide) (fun c4 => ?_) (fun c4 => ?_)
      · skip
        refine x_iconst (pc2 := 295) dX8_isOwnHere_294 rfl ?_
        refine x_goto (tgt := 299) dX8_isOwnHere_295 (by decide) ?_
        refine x_istore_n (pc2 := 300) (ls2 := [aR 62, aI 1]) dX8_isOwnHere_299 rfl (by decide) rfl ?_
        refine x_iload_n (pc2 := 301) dX8_isOwnHere_300 rfl rfl ?_
        refine x_if_ne (tgt := 370) (pc2 := 304) dX8_isOwnHere_301 (by decide) rfl (by decide) (fun c5 => ?_) (fun c5 => ?_)
        · skip
          refine x_iconst (pc2 := 371) dX8_isOwnHere_370 rfl ?_
          refine x_goto (tgt := 375) dX8_isOwnHere_371 (by decide) ?_
          refine x_istore_n (pc2 := 376) (ls2 := [aR 62, aI 1]) dX8_isOwnHere_375 rfl (by decide) rfl ?_
          refine x_iload_n (pc2 := 377) dX8_isOwnHere_376 rfl rfl ?_
          exact x_ireturn dX8_isOwnHere_377 ⟨.boolean, rfl, rfl⟩ k
        · exact absurd (by decide) c5
      · exact absurd (by decide) c4
    · exact absurd (by decide) c3
  · replace k := k2 c2
    refine x_aload_n (pc2 := 121) dX8_isOwnHere_120 rfl rfl ?_
    refine x_aload_n (pc2 := 122) dX8_isOwnHere_121 rfl rfl ?_
    refine x_getf (pc2 := 125) (v := aR 75) fl_X8_51 ic_62 (vr_62_21 _) dX8_isOwnHere_122 rfl ?_
    exact k
set_option maxRecDepth 4000 in
theorem g_X8_isOwnHere_128 {sc : List Int} {d : Nat} {m : Mem} {Q : Option AV → Mem → Prop} {s0 : Int} (k : (-2147483648 ≤ s0 ∧ s0 < 2147483648) ∧ ((s0 ≠ 0) → (Q (some (aI 1)) m)) ∧ (¬ (s0 ≠ 0) → (S_X8_isOwnHere sc d 136 [aR 62, aU] [aR 76, aR 62] m Q))) : S_X8_isOwnHere sc d 128 [aR 62, aU] [aI s0] m Q := by
  obtain ⟨h1, k⟩ := k
  obtain ⟨k1, k2⟩ := k
  refine x_if_ne (tgt := 142) (pc2 := 131) dX8_isOwnHere_128 (by decide) rfl h1 (fun c2 => ?_) (fun c2 => ?_)
  · replace k := k1 c2
    refine x_iconst (pc2 := 143) dX8_isOwnHere_142 rfl ?_
    refine x_goto (tgt := 147) dX8_isOwnHere_143 (by decide) ?_
    refine x_istore_n (pc2 := 148) (ls2 := [aR 62, aI 1]) dX8_isOwnHere_147 rfl (by decide) rfl ?_
    refine x_iload_n (pc2 := 149) dX8_isOwnHere_148 rfl rfl ?_
    refine x_if_ne (tgt := 218) (pc2 := 152) dX8_isOwnHere_149 (by decide) rfl (by decide) (fun c3 => ?_) (fun c3 => ?_)
    · skip
      refine x_iconst (pc2 := 219) dX8_isOwnHere_218 rfl ?_
      refine x_goto (tgt := 223) dX8_isOwnHere_219 (by decide) ?_
      refine x_istore_n (pc2 := 224) (ls2 := [aR 62, aI 1]) dX8_isOwnHere_223 rfl (by decide) rfl ?_
      refine x_iload_n (pc2 := 225) dX8_isOwnHere_224 rfl rfl ?_
      refine x_if_ne (tgt := 294) (pc2 := 228) dX8_isOwnHere_225 (by decide) rfl (by decide) (fun c4 => ?_) (fun c4 => ?_)
      · skip
        refine x_iconst (pc2 := 295) dX8_isOwnHere_294 rfl ?_
        refine x_goto (tgt := 299) dX8_isOwnHere_295 (by decide) ?_
        refine x_istore_n (pc2 := 300) (ls2 := [aR 62, aI 1]) dX8_isOwnHere_299 rfl (by decide) rfl ?_
        refine x_iload_n (pc2 := 301) dX8_isOwnHere_300 rfl rfl ?_
        refine x_if_ne (tgt := 370) (pc2 := 304) dX8_isOwnHere_301 (by decide) rfl (by decide) (fun c5 => ?_) (fun c5 => ?_)
        · skip
          refine x_iconst (pc2 := 371) dX8_isOwnHere_370 rfl ?_
          refine x_goto (tgt := 375) dX8_isOwnHere_371 (by decide) ?_
          refine x_istore_n (pc2 := 376) (ls2 := [aR 62, aI 1]) dX8_isOwnHere_375 rfl (by decide) rfl ?_
          refine x_iload_n (pc2 := 377) dX8_isOwnHere_376 rfl rfl ?_
          exact x_ireturn dX8_isOwnHere_377 ⟨.boolean, rfl, rfl⟩ k
        · exact absurd (by decide) c5
      · exact absurd (by decide) c4
    · exact absurd (by decide) c3
  · replace k := k2 c2
    refine x_aload_n (pc2 := 132) dX8_isOwnHere_131 rfl rfl ?_
    refine x_aload_n (pc2 := 133) dX8_isOwnHere_132 rfl rfl ?_
    refine x_getf (pc2 := 136) (v := aR 76) fl_X8_54 ic_62 (vr_62_22 _) dX8_isOwnHere_133 rfl ?_
    exact k
set_option maxRecDepth 4000 in
theorem g_X8_isOwnHere_139 {sc : List Int} {d : Nat} {m : Mem} {Q : Option AV → Mem → Prop} {s0 : Int} (k : ((-2147483648 ≤ s0 ∧ s0 < 2147483648)) ∧ (-2147483648 ≤ (if s0 = 0 then 0 else 1 : Int) ∧ (if s0 = 0 then 0 else 1 : Int) < 2147483648) ∧ (((if s0 = 0 then 0 else 1 : Int) ≠ 0) → (Q (some (aI 1)) m)) ∧ (¬ ((if s0 = 0 then 0 else 1 : Int) ≠ 0) → (S_X8_isOwnHere sc d 157 [aR 62, aU] [aR 77, aR 62] m Q))) : S_X8_isOwnHere sc d 139 [aR 62, aU] [aI s0] m Q := by
  obtain ⟨g2, k⟩ := k
  have kj : S_X8_isOwnHere sc d 147 [aR 62, aU] [aI (if s0 = 0 then 0 else 1 : Int)] m Q := by
    refine x_istore_n (pc2 := 148) (ls2 := [aR 62, aI (if s0 = 0 then 0 else 1 : Int)]) dX8_isOwnHere_147 rfl (by decide) rfl ?_
    refine x_iload_n (pc2 := 149) dX8_isOwnHere_148 rfl rfl ?_
    obtain ⟨h3, k⟩ := k
    obtain ⟨k1, k2⟩ := k
    refine x_if_ne (tgt := 218) (pc2 := 152) dX8_isOwnHere_149 (by decide) rfl h3 (fun c4 => ?_) (fun c4 => ?_)
    · replace k := k1 c4
      refine x_iconst (pc2 := 219) dX8_isOwnHere_218 rfl ?_
      refine x_goto (tgt := 223) dX8_isOwnHere_219 (by decide) ?_
      refine x_istore_n (pc2 := 224) (ls2 := [aR 62, aI 1]) dX8_isOwnHere_223 rfl (by decide) rfl ?_
      refine x_iload_n (pc2 := 225) dX8_isOwnHere_224 rfl rfl ?_
      refine x_if_ne (tgt := 294) (pc2 := 228) dX8_isOwnHere_225 (by decide) rfl (by decide) (fun c5 => ?_) (fun c5 => ?_)
      · skip
        refine x_iconst (pc2 := 295) dX8_isOwnHere_294 rfl ?_
        refine x_goto (tgt := 299) dX8_isOwnHere_295 (by decide) ?_
        refine x_istore_n (pc2 := 300) (ls2 := [aR 62, aI 1]) dX8_isOwnHere_299 rfl (by decide) rfl ?_
        refine x_iload_n (pc2 := 301) dX8_isOwnHere_300 rfl rfl ?_
        refine x_if_ne (tgt := 370) (pc2 := 304) dX8_isOwnHere_301 (by decide) rfl (by decide) (fun c6 => ?_) (fun c6 => ?_)
        · skip
          refine x_iconst (pc2 := 371) dX8_isOwnHere_370 rfl ?_
          refine x_goto (tgt := 375) dX8_isOwnHere_371 (by decide) ?_
          refine x_istore_n (pc2 := 376) (ls2 := [aR 62, aI 1]) dX8_isOwnHere_375 rfl (by decide) rfl ?_
          refine x_iload_n (pc2 := 377) dX8_isOwnHere_376 rfl rfl ?_
          exact x_ireturn dX8_isOwnHere_377 ⟨.boolean, rfl, rfl⟩ k
        · exact absurd (by decide) c6
      · exact absurd (by decide) c5
    · replace k := k2 c4
      refine x_aload_n (pc2 := 153) dX8_isOwnHere_152 rfl rfl ?_
      refine x_aload_n (pc2 := 154) dX8_isOwnHere_153 rfl rfl ?_
      refine x_getf (pc2 := 157) (v := aR 77) fl_X8_57 ic_62 (vr_62_23 _) dX8_isOwnHere_154 rfl ?_
      exact x_drop (drp_k (drp_u drp_n)) k
  have h7 := g2 
  refine x_if_eq (tgt := 146) (pc2 := 142) dX8_isOwnHere_139 (by decide) rfl h7 (fun c8 => ?_) (fun c8 => ?_)
  · skip
    refine x_iconst (pc2 := 147) dX8_isOwnHere_146 rfl ?_
    exact x_topI (v := (if s0 = 0 then 0 else 1 : Int)) (if_pos c8) kj
  · skip
    refine x_iconst (pc2 := 143) dX8_isOwnHere_142 rfl ?_
    refine x_goto (tgt := 147) dX8_isOwnHere_143 (by decide) ?_
    exact x_topI (v := (if s0 = 0 then 0 else 1 : Int)) (if_neg c8) kj
set_option maxRecDepth 4000 in
theorem g_X8_isOwnHere_160 {sc : List Int} {d : Nat} {m : Mem} {Q : Option AV → Mem → Prop} {s0 : Int} (k : (-2147483648 ≤ s0 ∧ s0 < 2147483648) ∧ ((s0 ≠ 0) → (Q (some (aI 1)) m)) ∧ (¬ (s0 ≠ 0) → (S_X8_isOwnHere sc d 168 [aR 62, aU] [aR 78, aR 62] m Q))) : S_X8_isOwnHere sc d 160 [aR 62, aU] [aI s0] m Q := by
  obtain ⟨h1, k⟩ := k
  obtain ⟨k1, k2⟩ := k
  refine x_if_ne (tgt := 218) (pc2 := 163) dX8_isOwnHere_160 (by decide) rfl h1 (fun c2 => ?_) (fun c2 => ?_)
  · replace k := k1 c2
    refine x_iconst (pc2 := 219) dX8_isOwnHere_218 rfl ?_
    refine x_goto (tgt := 223) dX8_isOwnHere_219 (by decide) ?_
    refine x_istore_n (pc2 := 224) (ls2 := [aR 62, aI 1]) dX8_isOwnHere_223 rfl (by decide) rfl ?_
    refine x_iload_n (pc2 := 225) dX8_isOwnHere_224 rfl rfl ?_
    refine x_if_ne (tgt := 294) (pc2 := 228) dX8_isOwnHere_225 (by decide) rfl (by decide) (fun c3 => ?_) (fun c3 => ?_)
    · skip
      refine x_iconst (pc2 := 295) dX8_isOwnHere_294 rfl ?_
      refine x_goto (tgt := 299) dX8_isOwnHere_295 (by decide) ?_
      refine x_istore_n (pc2 := 300) (ls2 := [aR 62, aI 1]) dX8_isOwnHere_299 rfl (by decide) rfl ?_
      refine x_iload_n (pc2 := 301) dX8_isOwnHere_300 rfl rfl ?_
      refine x_if_ne (tgt := 370) (pc2 := 304) dX8_isOwnHere_301 (by decide) rfl (by decide) (fun c4 => ?_) (fun c4 => ?_)
      · skip
        refine x_iconst (pc2 := 371) dX8_isOwnHere_370 rfl ?_
        refine x_goto (tgt := 375) dX8_isOwnHere_371 (by decide) ?_
        refine x_istore_n (pc2 := 376) (ls2 := [aR 62, aI 1]) dX8_isOwnHere_375 rfl (by decide) rfl ?_
        refine x_iload_n (pc2 := 377) dX8_isOwnHere_376 rfl rfl ?_
        exact x_ireturn dX8_isOwnHere_377 ⟨.boolean, rfl, rfl⟩ k
      · exact absurd (by decide) c4
    · exact absurd (by decide) c3
  · replace k := k2 c2
    refine x_aload_n (pc2 := 164) dX8_isOwnHere_163 rfl rfl ?_
    refine x_aload_n (pc2 := 165) dX8_isOwnHere_164 rfl rfl ?_
    refine x_getf (pc2 := 168) (v := aR 78) fl_X8_60 ic_62 (vr_62_24 _) dX8_isOwnHere_165 rfl ?_
    exact k
set_option maxRecDepth 4000 in
theorem g_X8_isOwnHere_171 {sc : List Int} {d : Nat} {m : Mem} {Q : Option AV → Mem → Prop} {s0 : Int} (k : (-2147483648 ≤ s0 ∧ s0 < 2147483648) ∧ ((s0 ≠ 0) → (Q (some (aI 1)) m)) ∧ (¬ (s0 ≠ 0) → (S_X8_isOwnHere sc d 179 [aR 62, aU] [aR 79, aR 62] m Q))) : S_X8_isOwnHere sc d 171 [aR 62, aU] [aI s0] m Q := by
  obtain ⟨h1, k⟩ := k
  obtain ⟨k1, k2⟩ := k
  refine x_if_ne (tgt := 218) (pc2 := 174) dX8_isOwnHere_171 (by decide) rfl h1 (fun c2 => ?_) (fun c2 => ?_)
  · replace k := k1 c2
    refine x_iconst (pc2 := 219) dX8_isOwnHere_218 rfl ?_
    refine x_goto (tgt := 223) dX8_isOwnHere_219 (by decide) ?_
    refine x_istore_n (pc2 := 224) (ls2 := [aR 62, aI 1]) dX8_isOwnHere_223 rfl (by decide) rfl ?_
    refine x_iload_n (pc2 := 225) dX8_isOwnHere_224 rfl rfl ?_
    refine x_if_ne (tgt := 294) (pc2 := 228) dX8_isOwnHere_225 (by decide) rfl (by decide) (fun c3 => ?_) (fun c3 => ?_)
    · skip
      refine x_iconst (pc2 := 295) dX8_isOwnHere_294 rfl ?_
      refine x_goto (tgt := 299) dX8_isOwnHere_295 (by decide) ?_
      refine x_istore_n (pc2 := 300) (ls2 := [aR 62, aI 1]) dX8_isOwnHere_299 rfl (by decide) rfl ?_
      refine x_iload_n (pc2 := 301) dX8_isOwnHere_300 rfl rfl ?_
      refine x_if_ne (tgt := 370) (pc2 := 304) dX8_isOwnHere_301 (by decide) rfl (by decide) (fun c4 => ?_) (fun c4 => ?_)
      · skip
        refine x_iconst (pc2 := 371) dX8_isOwnHere_370 rfl ?_
        refine x_goto (tgt := 375) dX8_isOwnHere_371 (by decide) ?_
        refine x_istore_n (pc2 := 376) (ls2 := [aR 62, aI 1]) dX8_isOwnHere_375 rfl (by decide) rfl ?_
        refine x_iload_n (pc2 := 377) dX8_isOwnHere_376 rfl rfl ?_
        exact x_ireturn dX8_isOwnHere_377 ⟨.boolean, rfl, rfl⟩ k
      · exact absurd (by decide) c4
    · exact absurd (by decide) c3
  · replace k := k2 c2
    refine x_aload_n (pc2 := 175) dX8_isOwnHere_174 rfl rfl ?_
    refine x_aload_n (pc2 := 176) dX8_isOwnHere_175 rfl rfl ?_
    refine x_getf (pc2 := 179) (v := aR 79) fl_X8_63 ic_62 (vr_62_25 _) dX8_isOwnHere_176 rfl ?_
    exact k
set_option maxRecDepth 4000 in
theorem g_X8_isOwnHere_182 {sc : List Int} {d : Nat} {m : Mem} {Q : Option AV → Mem → Prop} {s0 : Int} (k : (-2147483648 ≤ s0 ∧ s0 < 2147483648) ∧ ((s0 ≠ 0) → (Q (some (aI 1)) m)) ∧ (¬ (s0 ≠ 0) → (S_X8_isOwnHere sc d 190 [aR 62, aU] [aR 80, aR 62] m Q))) : S_X8_isOwnHere sc d 182 [aR 62, aU] [aI s0] m Q := by
  obtain ⟨h1, k⟩ := k
  obtain ⟨k1, k2⟩ := k
  refine x_if_ne (tgt := 218) (pc2 := 185) dX8_isOwnHere_182 (by decide) rfl h1 (fun c2 => ?_) (fun c2 => ?_)
  · replace k := k1 c2
    refine x_iconst (pc2 := 219) dX8_isOwnHere_218 rfl ?_
    refine x_goto (tgt := 223) dX8_isOwnHere_219 (by decide) ?_
    refine x_istore_n (pc2 := 224) (ls2 := [aR 62, aI 1]) dX8_isOwnHere_223 rfl (by decide) rfl ?_
    refine x_iload_n (pc2 := 225) dX8_isOwnHere_224 rfl rfl ?_
    refine x_if_ne (tgt := 294) (pc2 := 228) dX8_isOwnHere_225 (by decide) rfl (by decide) (fun c3 => ?_) (fun c3 => ?_)
    · skip
      refine x_iconst (pc2 := 295) dX8_isOwnHere_294 rfl ?_
      refine x_goto (tgt := 299) dX8_isOwnHere_295 (by decide) ?_
      refine x_istore_n (pc2 := 300) (ls2 := [aR 62, aI 1]) dX8_isOwnHere_299 rfl (by decide) rfl ?_
      refine x_iload_n (pc2 := 301) dX8_isOwnHere_300 rfl rfl ?_
      refine x_if_ne (tgt := 370) (pc2 := 304) dX8_isOwnHere_301 (by decide) rfl (by decide) (fun c4 => ?_) (fun c4 => ?_)
      · skip
        refine x_iconst (pc2 := 371) dX8_isOwnHere_370 rfl ?_
        refine x_goto (tgt := 375) dX8_isOwnHere_371 (by decide) ?_
        refine x_istore_n (pc2 := 376) (ls2 := [aR 62, aI 1]) dX8_isOwnHere_375 rfl (by decide) rfl ?_
        refine x_iload_n (pc2 := 377) dX8_isOwnHere_376 rfl rfl ?_
        exact x_ireturn dX8_isOwnHere_377 ⟨.boolean, rfl, rfl⟩ k
      · exact absurd (by decide) c4
    · exact absurd (by decide) c3
  · replace k := k2 c2
    refine x_aload_n (pc2 := 186) dX8_isOwnHere_185 rfl rfl ?_
    refine x_aload_n (pc2 := 187) dX8_isOwnHere_186 rfl rfl ?_
    refine x_getf (pc2 := 190) (v := aR 80) fl_X8_66 ic_62 (vr_62_26 _) dX8_isOwnHere_187 rfl ?_
    exact k
set_option maxRecDepth 4000 in
theorem g_X8_isOwnHere_193 {sc : List Int} {d : Nat} {m : Mem} {Q : Option AV → Mem → Prop} {s0 : Int} (k : (-2147483648 ≤ s0 ∧ s0 < 2147483648) ∧ ((s0 ≠ 0) → (Q (some (aI 1)) m)) ∧ (¬ (s0 ≠ 0) → (S_X8_isOwnHere sc d 201 [aR 62, aU] [aR 81, aR 62] m Q))) : S_X8_isOwnHere sc d 193 [aR 62, aU] [aI s0] m Q := by
  obtain ⟨h1, k⟩ := k
  obtain ⟨k1, k2⟩ := k
  refine x_if_ne (tgt := 218) (pc2 := 196) dX8_isOwnHere_193 (by decide) rfl h1 (fun c2 => ?_) (fun c2 => ?_)
  · replace k := k1 c2
    refine x_iconst (pc2 := 219) dX8_isOwnHere_218 rfl ?_
    refine x_goto (tgt := 223) dX8_isOwnHere_219 (by decide) ?_
    refine x_istore_n (pc2 := 224) (ls2 := [aR 62, aI 1]) dX8_isOwnHere_223 rfl (by decide) rfl ?_
    refine x_iload_n (pc2 := 225) dX8_isOwnHere_224 rfl rfl ?_
    refine x_if_ne (tgt := 294) (pc2 := 228) dX8_isOwnHere_225 (by decide) rfl (by decide) (fun c3 => ?_) (fun c3 => ?_)
    · skip
      refine x_iconst (pc2 := 295) dX8_isOwnHere_294 rfl ?_
      refine x_goto (tgt := 299) dX8_isOwnHere_295 (by decide) ?_
      refine x_istore_n (pc2 := 300) (ls2 := [aR 62, aI 1]) dX8_isOwnHere_299 rfl (by decide) rfl ?_
      refine x_iload_n (pc2 := 301) dX8_isOwnHere_300 rfl rfl ?_
      refine x_if_ne (tgt := 370) (pc2 := 304) dX8_isOwnHere_301 (by decide) rfl (by decide) (fun c4 => ?_) (fun c4 => ?_)
      · skip
        refine x_iconst (pc2 := 371) dX8_isOwnHere_370 rfl ?_
        refine x_goto (tgt := 375) dX8_isOwnHere_371 (by decide) ?_
        refine x_istore_n (pc2 := 376) (ls2 := [aR 62, aI 1]) dX8_isOwnHere_375 rfl (by decide) rfl ?_
        refine x_iload_n (pc2 := 377) dX8_isOwnHere_376 rfl rfl ?_
        exact x_ireturn dX8_isOwnHere_377 ⟨.boolean, rfl, rfl⟩ k
      · exact absurd (by decide) c4
    · exact absurd (by decide) c3
  · replace k := k2 c2
    refine x_aload_n (pc2 := 197) dX8_isOwnHere_196 rfl rfl ?_
    refine x_aload_n (pc2 := 198) dX8_isOwnHere_197 rfl rfl ?_
    refine x_getf (pc2 := 201) (v := aR 81) fl_X8_69 ic_62 (vr_62_27 _) dX8_isOwnHere_198 rfl ?_
    exact k
set_option maxRecDepth 4000 in
theorem g_X8_isOwnHere_204 {sc : List Int} {d : Nat} {m : Mem} {Q : Option AV → Mem → Prop} {s0 : Int} (k : (-2147483648 ≤ s0 ∧ s0 < 2147483648) ∧ ((s0 ≠ 0) → (Q (some (aI 1)) m)) ∧ (¬ (s0 ≠ 0) → (S_X8_isOwnHere sc d 212 [aR 62, aU] [aR 82, aR 62] m Q))) : S_X8_isOwnHere sc d 204 [aR 62, aU] [aI s0] m Q := by
  obtain ⟨h1, k⟩ := k
  obtain ⟨k1, k2⟩ := k
  refine x_if_ne (tgt := 218) (pc2 := 207) dX8_isOwnHere_204 (by decide) rfl h1 (fun c2 => ?_) (fun c2 => ?_)
  · replace k := k1 c2
    refine x_iconst (pc2 := 219) dX8_isOwnHere_218 rfl ?_
    refine x_goto (tgt := 223) dX8_isOwnHere_219 (by decide) ?_
    refine x_istore_n (pc2 := 224) (ls2 := [aR 62, aI 1]) dX8_isOwnHere_223 rfl (by decide) rfl ?_
    refine x_iload_n (pc2 := 225) dX8_isOwnHere_224 rfl rfl ?_
    refine x_if_ne (tgt := 294) (pc2 := 228) dX8_isOwnHere_225 (by decide) rfl (by decide) (fun c3 => ?_) (fun c3 => ?_)
    · skip
      refine x_iconst (pc2 := 295) dX8_isOwnHere_294 rfl ?_
      refine x_goto (tgt := 299) dX8_isOwnHere_295 (by decide) ?_
      refine x_istore_n (pc2 := 300) (ls2 := [aR 62, aI 1]) dX8_isOwnHere_299 rfl (by decide) rfl ?_
      refine x_iload_n (pc2 := 301) dX8_isOwnHere_300 rfl rfl ?_
      refine x_if_ne (tgt := 370) (pc2 := 304) dX8_isOwnHere_301 (by decide) rfl (by decide) (fun c4 => ?_) (fun c4 => ?_)
      · skip
        refine x_iconst (pc2 := 371) dX8_isOwnHere_370 rfl ?_
        refine x_goto (tgt := 375) dX8_isOwnHere_371 (by decide) ?_
        refine x_istore_n (pc2 := 376) (ls2 := [aR 62, aI 1]) dX8_isOwnHere_375 rfl (by decide) rfl ?_
        refine x_iload_n (pc2 := 377) dX8_isOwnHere_376 rfl rfl ?_
        exact x_ireturn dX8_isOwnHere_377 ⟨.boolean, rfl, rfl⟩ k
      · exact absurd (by decide) c4
    · exact absurd (by decide) c3
  · replace k := k2 c2
    refine x_aload_n (pc2 := 208) dX8_isOwnHere_207 rfl rfl ?_
    refine x_aload_n (pc2 := 209) dX8_isOwnHere_208 rfl rfl ?_
    refine x_getf (pc2 := 212) (v := aR 82) fl_X8_72 ic_62 (vr_62_28 _) dX8_isOwnHere_209 rfl ?_
    exact k
set_option maxRecDepth 4000 in
theorem g_X8_isOwnHere_215 {sc : List Int} {d : Nat} {m : Mem} {Q : Option AV → Mem → Prop} {s0 : Int} (k : ((-2147483648 ≤ s0 ∧ s0 < 2147483648)) ∧ (-2147483648 ≤ (if s0 = 0 then 0 else 1 : Int) ∧ (if s0 = 0 then 0 else 1 : Int) < 2147483648) ∧ (((if s0 = 0 then 0 else 1 : Int) ≠ 0) → (Q (some (aI 1)) m)) ∧ (¬ ((if s0 = 0 then 0 else 1 : Int) ≠ 0) → (S_X8_isOwnHere sc d 233 [aR 62, aU] [aR 83, aR 62] m Q))) : S_X8_isOwnHere sc d 215 [aR 62, aU] [aI s0] m Q := by
  obtain ⟨g2, k⟩ := k
  have kj : S_X8_isOwnHere sc d 223 [aR 62, aU] [aI (if s0 = 0 then 0 else 1 : Int)] m Q := by
    refine x_istore_n (pc2 := 224) (ls2 := [aR 62, aI (if s0 = 0 then 0 else 1 : Int)]) dX8_isOwnHere_223 rfl (by decide) rfl ?_
    refine x_iload_n (pc2 := 225) dX8_isOwnHere_224 rfl rfl ?_
    obtain ⟨h3, k⟩ := k
    obtain ⟨k1, k2⟩ := k
    refine x_if_ne (tgt := 294) (pc2 := 228) dX8_isOwnHere_225 (by decide) rfl h3 (fun c4 => ?_) (fun c4 => ?_)
    · replace k := k1 c4
      refine x_iconst (pc2 := 295) dX8_isOwnHere_294 rfl ?_
      refine x_goto (tgt := 299) dX8_isOwnHere_295 (by decide) ?_
      refine x_istore_n (pc2 := 300) (ls2 := [aR 62, aI 1]) dX8_isOwnHere_299 rfl (by decide) rfl ?_
      refine x_iload_n (pc2 := 301) dX8_isOwnHere_300 rfl rfl ?_
      refine x_if_ne (tgt := 370) (pc2 := 304) dX8_isOwnHere_301 (by decide) rfl (by decide) (fun c5 => ?_) (fun c5 => ?_)
      · skip
        refine x_iconst (pc2 := 371) dX8_isOwnHere_370 rfl ?_
        refine x_goto (tgt := 375) dX8_isOwnHere_371 (by decide) ?_
        refine x_istore_n (pc2 := 376) (ls2 := [aR 62, aI 1]) dX8_isOwnHere_375 rfl (by decide) rfl ?_
        refine x_iload_n (pc2 := 377) dX8_isOwnHere_376 rfl rfl ?_
        exact x_ireturn dX8_isOwnHere_377 ⟨.boolean, rfl, rfl⟩ k
      · exact absurd (by decide) c5
    · replace k := k2 c4
      refine x_aload_n (pc2 := 229) dX8_isOwnHere_228 rfl rfl ?_
      refine x_aload_n (pc2 := 230) dX8_isOwnHere_229 rfl rfl ?_
      refine x_getf (pc2 := 233) (v := aR 83) fl_X8_75 ic_62 (vr_62_29 _) dX8_isOwnHere_230 rfl ?_
      exact x_drop (drp_k (drp_u drp_n)) k
  have h6 := g2 
  refine x_if_eq (tgt := 222) (pc2 := 218) dX8_isOwnHere_215 (by decide) rfl h6 (fun c7 => ?_) (fun c7 => ?_)
  · skip
    refine x_iconst (pc2 := 223) dX8_isOwnHere_222 rfl ?_
    exact x_topI (v := (if s0 = 0 then 0 else 1 : Int)) (if_pos c7) kj
  · skip
    refine x_iconst (pc2 := 219) dX8_isOwnHere_218 rfl ?_
    refine x_goto (tgt := 223) dX8_isOwnHere_219 (by decide) ?_
    exact x_topI (v := (if s0 = 0 then 0 else 1 : Int)) (if_neg c7) kj
set_option maxRecDepth 4000 in
theorem g_X8_isOwnHere_236 {sc : List Int} {d : Nat} {m : Mem} {Q : Option AV → Mem → Prop} {s0 : Int} (k : (-2147483648 ≤ s0 ∧ s0 < 2147483648) ∧ ((s0 ≠ 0) → (Q (some (aI 1)) m)) ∧ (¬ (s0 ≠ 0) → (S_X8_isOwnHere sc d 244 [aR 62, aU] [aR 84, aR 62] m Q))) : S_X8_isOwnHere sc d 236 [aR 62, aU] [aI s0] m Q := by
  obtain ⟨h1, k⟩ := k
  obtain ⟨k1, k2⟩ := k
  refine x_if_ne (tgt := 294) (pc2 := 239) dX8_isOwnHere_236 (by decide) rfl h1 (fun c2 => ?_) (fun c2 => ?_)
  · replace k := k1 c2
    refine x_iconst (pc2 := 295) dX8_isOwnHere_294 rfl ?_
    refine x_goto (tgt := 299) dX8_isOwnHere_295 (by decide) ?_
    refine x_istore_n (pc2 := 300) (ls2 := [aR 62, aI 1]) dX8_isOwnHere_299 rfl (by decide) rfl ?_
    refine x_iload_n (pc2 := 301) dX8_isOwnHere_300 rfl rfl ?_
    refine x_if_ne (tgt := 370) (pc2 := 304) dX8_isOwnHere_301 (by decide) rfl (by decide) (fun c3 => ?_) (fun c3 => ?_)
    · skip
      refine x_iconst (pc2 := 371) dX8_isOwnHere_370 rfl ?_
      refine x_goto (tgt := 375) dX8_isOwnHere_371 (by decide) ?_
      refine x_istore_n (pc2 := 376) (ls2 := [aR 62, aI 1]) dX8_isOwnHere_375 rfl (by decide) rfl ?_
      refine x_iload_n (pc2 := 377) dX8_isOwnHere_376 rfl rfl ?_
      exact x_ireturn dX8_isOwnHere_377 ⟨.boolean, rfl, rfl⟩ k
    · exact absurd (by decide) c3
  · replace k := k2 c2
    refine x_aload_n (pc2 := 240) dX8_isOwnHere_239 rfl rfl ?_
    refine x_aload_n (pc2 := 241) dX8_isOwnHere_240 rfl rfl ?_
    refine x_getf (pc2 := 244) (v := aR 84) fl_X8_78 ic_62 (vr_62_30 _) dX8_isOwnHere_241 rfl ?_
    exact k
set_option maxRecDepth 4000 in
theorem g_X8_isOwnHere_247 {sc : List Int} {d : Nat} {m : Mem} {Q : Option AV → Mem → Prop} {s0 : Int} (k : (-2147483648 ≤ s0 ∧ s0 < 2147483648) ∧ ((s0 ≠ 0) → (Q (some (aI 1)) m)) ∧ (¬ (s0 ≠ 0) → (S_X8_isOwnHere sc d 255 [aR 62, aU] [aR 85, aR 62] m Q))) : S_X8_isOwnHere sc d 247 [aR 62, aU] [aI s0] m Q := by
  obtain ⟨h1, k⟩ := k
  obtain ⟨k1, k2⟩ := k
  refine x_if_ne (tgt := 294) (pc2 := 250) dX8_isOwnHere_247 (by decide) rfl h1 (fun c2 => ?_) (fun c2 => ?_)
  · replace k := k1 c2
    refine x_iconst (pc2 := 295) dX8_isOwnHere_294 rfl ?_
    refine x_goto (tgt := 299) dX8_isOwnHere_295 (by decide) ?_
    refine x_istore_n (pc2 := 300) (ls2 := [aR 62, aI 1]) dX8_isOwnHere_299 rfl (by decide) rfl ?_
    refine x_iload_n (pc2 := 301) dX8_isOwnHere_300 rfl rfl ?_
    refine x_if_ne (tgt := 370) (pc2 := 304) dX8_isOwnHere_301 (by decide) rfl (by decide) (fun c3 => ?_) (fun c3 => ?_)
    · skip
      refine x_iconst (pc2 := 371) dX8_isOwnHere_370 rfl ?_
      refine x_goto (tgt := 375) dX8_isOwnHere_371 (by decide) ?_
      refine x_istore_n (pc2 := 376) (ls2 := [aR 62, aI 1]) dX8_isOwnHere_375 rfl (by decide) rfl ?_
      refine x_iload_n (pc2 := 377) dX8_isOwnHere_376 rfl rfl ?_
      exact x_ireturn dX8_isOwnHere_377 ⟨.boolean, rfl, rfl⟩ k
    · exact absurd (by decide) c3
  · replace k := k2 c2
    refine x_aload_n (pc2 := 251) dX8_isOwnHere_250 rfl rfl ?_
    refine x_aload_n (pc2 := 252) dX8_isOwnHere_251 rfl rfl ?_
    refine x_getf (pc2 := 255) (v := aR 85) fl_X8_81 ic_62 (vr_62_31 _) dX8_isOwnHere_252 rfl ?_
    exact k
set_option maxRecDepth 4000 in
theorem g_X8_isOwnHere_258 {sc : List Int} {d : Nat} {m : Mem} {Q : Option AV → Mem → Prop} {s0 : Int} (k : (-2147483648 ≤ s0 ∧ s0 < 2147483648) ∧ ((s0 ≠ 0) → (Q (some (aI 1)) m)) ∧ (¬ (s0 ≠ 0) → (S_X8_isOwnHere sc d 266 [aR 62, aU] [aR 86, aR 62] m Q))) : S_X8_isOwnHere sc d 258 [aR 62, aU] [aI s0] m Q := by
  obtain ⟨h1, k⟩ := k
  obtain ⟨k1, k2⟩ := k
  refine x_if_ne (tgt := 294) (pc2 := 261) dX8_isOwnHere_258 (by decide) rfl h1 (fun c2 => ?_) (fun c2 => ?_)
  · replace k := k1 c2
    refine x_iconst (pc2 := 295) dX8_isOwnHere_294 rfl ?_
    refine x_goto (tgt := 299) dX8_isOwnHere_295 (by decide) ?_
    refine x_istore_n (pc2 := 300) (ls2 := [aR 62, aI 1]) dX8_isOwnHere_299 rfl (by decide) rfl ?_
    refine x_iload_n (pc2 := 301) dX8_isOwnHere_300 rfl rfl ?_
    refine x_if_ne (tgt := 370) (pc2 := 304) dX8_isOwnHere_301 (by decide) rfl (by decide) (fun c3 => ?_) (fun c3 => ?_)
    · skip
      refine x_iconst (pc2 := 371) dX8_isOwnHere_370 rfl ?_
      refine x_goto (tgt := 375) dX8_isOwnHere_371 (by decide) ?_
      refine x_istore_n (pc2 := 376) (ls2 := [aR 62, aI 1]) dX8_isOwnHere_375 rfl (by decide) rfl ?_
      refine x_iload_n (pc2 := 377) dX8_isOwnHere_376 rfl rfl ?_
      exact x_ireturn dX8_isOwnHere_377 ⟨.boolean, rfl, rfl⟩ k
    · exact absurd (by decide) c3
  · replace k := k2 c2
    refine x_aload_n (pc2 := 262) dX8_isOwnHere_261 rfl rfl ?_
    refine x_aload_n (pc2 := 263) dX8_isOwnHere_262 rfl rfl ?_
    refine x_getf (pc2 := 266) (v := aR 86) fl_X8_84 ic_62 (vr_62_32 _) dX8_isOwnHere_263 rfl ?_
    exact k
set_option maxRecDepth 4000 in
theorem g_X8_isOwnHere_269 {sc : List Int} {d : Nat} {m : Mem} {Q : Option AV → Mem → Prop} {s0 : Int} (k : (-2147483648 ≤ s0 ∧ s0 < 2147483648) ∧ ((s0 ≠ 0) → (Q (some (aI 1)) m)) ∧ (¬ (s0 ≠ 0) → (S_X8_isOwnHere sc d 277 [aR 62, aU] [aR 87, aR 62] m Q))) : S_X8_isOwnHere sc d 269 [aR 62, aU] [aI s0] m Q := by
  obtain ⟨h1, k⟩ := k
  obtain ⟨k1, k2⟩ := k
  refine x_if_ne (tgt := 294) (pc2 := 272) dX8_isOwnHere_269 (by decide) rfl h1 (fun c2 => ?_) (fun c2 => ?_)
  · replace k := k1 c2
    refine x_iconst (pc2 := 295) dX8_isOwnHere_294 rfl ?_
    refine x_goto (tgt := 299) dX8_isOwnHere_295 (by decide) ?_
    refine x_istore_n (pc2 := 300) (ls2 := [aR 62, aI 1]) dX8_isOwnHere_299 rfl (by decide) rfl ?_
    refine x_iload_n (pc2 := 301) dX8_isOwnHere_300 rfl rfl ?_
    refine x_if_ne (tgt := 370) (pc2 := 304) dX8_isOwnHere_301 (by decide) rfl (by decide) (fun c3 => ?_) (fun c3 => ?_)
    · skip
      refine x_iconst (pc2 := 371) dX8_isOwnHere_370 rfl ?_
      refine x_goto (tgt := 375) dX8_isOwnHere_371 (by decide) ?_
      refine x_istore_n (pc2 := 376) (ls2 := [aR 62, aI 1]) dX8_isOwnHere_375 rfl (by decide) rfl ?_
      refine x_iload_n (pc2 := 377) dX8_isOwnHere_376 rfl rfl ?_
      exact x_ireturn dX8_isOwnHere_377 ⟨.boolean, rfl, rfl⟩ k
    · exact absurd (by decide) c3
  · replace k := k2 c2
    refine x_aload_n (pc2 := 273) dX8_isOwnHere_272 rfl rfl ?_
    refine x_aload_n (pc2 := 274) dX8_isOwnHere_273 rfl rfl ?_
    refine x_getf (pc2 := 277) (v := aR 87) fl_X8_87 ic_62 (vr_62_33 _) dX8_isOwnHere_274 rfl ?_
    exact k
set_option maxRecDepth 4000 in
theorem g_X8_isOwnHere_280 {sc : List Int} {d : Nat} {m : Mem} {Q : Option AV → Mem → Prop} {s0 : Int} (k : (-2147483648 ≤ s0 ∧ s0 < 2147483648) ∧ ((s0 ≠ 0) → (Q (some (aI 1)) m)) ∧ (¬ (s0 ≠ 0) → (S_X8_isOwnHere sc d 288 [aR 62, aU] [aR 88, aR 62] m Q))) : S_X8_isOwnHere sc d 280 [aR 62, aU] [aI s0] m Q := by
  obtain ⟨h1, k⟩ := k
  obtain ⟨k1, k2⟩ := k
  refine x_if_ne (tgt := 294) (pc2 := 283) dX8_isOwnHere_280 (by decide) rfl h1 (fun c2 => ?_) (fun c2 => ?_)
  · replace k := k1 c2
    refine x_iconst (pc2 := 295) dX8_isOwnHere_294 rfl ?_
    refine x_goto (tgt := 299) dX8_isOwnHere_295 (by decide) ?_
    refine x_istore_n (pc2 := 300) (ls2 := [aR 62, aI 1]) dX8_isOwnHere_299 rfl (by decide) rfl ?_
    refine x_iload_n (pc2 := 301) dX8_isOwnHere_300 rfl rfl ?_
    refine x_if_ne (tgt := 370) (pc2 := 304) dX8_isOwnHere_301 (by decide) rfl (by decide) (fun c3 => ?_) (fun c3 => ?_)
    · skip
      refine x_iconst (pc2 := 371) dX8_isOwnHere_370 rfl ?_
      refine x_goto (tgt := 375) dX8_isOwnHere_371 (by decide) ?_
      refine x_istore_n (pc2 := 376) (ls2 := [aR 62, aI 1]) dX8_isOwnHere_375 rfl (by decide) rfl ?_
      refine x_iload_n (pc2 := 377) dX8_isOwnHere_376 rfl rfl ?_
      exact x_ireturn dX8_isOwnHere_377 ⟨.boolean, rfl, rfl⟩ k
    · exact absurd (by decide) c3
  · replace k := k2 c2
    refine x_aload_n (pc2 := 284) dX8_isOwnHere_283 rfl rfl ?_
    refine x_aload_n (pc2 := 285) dX8_isOwnHere_284 rfl rfl ?_
    refine x_getf (pc2 := 288) (v := aR 88) fl_X8_90 ic_62 (vr_62_34 _) dX8_isOwnHere_285 rfl ?_
    exact k
set_option maxRecDepth 4000 in
theorem g_X8_isOwnHere_291 {sc : List Int} {d : Nat} {m : Mem} {Q : Option AV → Mem → Prop} {s0 : Int} (k : ((-2147483648 ≤ s0 ∧ s0 < 2147483648)) ∧ (-2147483648 ≤ (if s0 = 0 then 0 else 1 : Int) ∧ (if s0 = 0 then 0 else 1 : Int) < 2147483648) ∧ (((if s0 = 0 then 0 else 1 : Int) ≠ 0) → (Q (some (aI 1)) m)) ∧ (¬ ((if s0 = 0 then 0 else 1 : Int) ≠ 0) → (S_X8_isOwnHere sc d 309 [aR 62, aU] [aR 89, aR 62] m Q))) : S_X8_isOwnHere sc d 291 [aR 62, aU] [aI s0] m Q := by
  obtain ⟨g2, k⟩ := k
  have kj : S_X8_isOwnHere sc d 299 [aR 62, aU] [aI (if s0 = 0 then 0 else 1 : Int)] m Q := by
    refine x_istore_n (pc2 := 300) (ls2 := [aR 62, aI (if s0 = 0 then 0 else 1 : Int)]) dX8_isOwnHere_299 rfl (by decide) rfl ?_
    refine x_iload_n (pc2 := 301) dX8_isOwnHere_300 rfl rfl ?_
    obtain ⟨h3, k⟩ := k
    obtain ⟨k1, k2⟩ := k
    refine x_if_ne (tgt := 370) (pc2 := 304) dX8_isOwnHere_301 (by decide) rfl h3 (fun c4 => ?_) (fun c4 => ?_)
    · replace k := k1 c4
      refine x_iconst (pc2 := 371) dX8_isOwnHere_370 rfl ?_
      refine x_goto (tgt := 375) dX8_isOwnHere_371 (by decide) ?_
      refine x_istore_n (pc2 := 376) (ls2 := [aR 62, aI 1]) dX8_isOwnHere_375 rfl (by decide) rfl ?_
      refine x_iload_n (pc2 := 377) dX8_isOwnHere_376 rfl rfl ?_
      exact x_ireturn dX8_isOwnHere_377 ⟨.boolean, rfl, rfl⟩ k
    · replace k := k2 c4
      refine x_aload_n (pc2 := 305) dX8_isOwnHere_304 rfl rfl ?_
      refine x_aload_n (pc2 := 306) dX8_isOwnHere_305 rfl rfl ?_
      refine x_getf (pc2 := 309) (v := aR 89) fl_X8_93 ic_62 (vr_62_35 _) dX8_isOwnHere_306 rfl ?_
      exact x_drop (drp_k (drp_u drp_n)) k
  have h5 := g2 
  refine x_if_eq (tgt := 298) (pc2 := 294) dX8_isOwnHere_291 (by decide) rfl h5 (fun c6 => ?_) (fun c6 => ?_)
  · skip
    refine x_iconst (pc2 := 299) dX8_isOwnHere_298 rfl ?_
    exact x_topI (v := (if s0 = 0 then 0 else 1 : Int)) (if_pos c6) kj
  · skip
    refine x_iconst (pc2 := 295) dX8_isOwnHere_294 rfl ?_
    refine x_goto (tgt := 299) dX8_isOwnHere_295 (by decide) ?_
    exact x_topI (v := (if s0 = 0 then 0 else 1 : Int)) (if_neg c6) kj
set_option maxRecDepth 4000 in
theorem g_X8_isOwnHere_312 {sc : List Int} {d : Nat} {m : Mem} {Q : Option AV → Mem → Prop} {s0 : Int} (k : (-2147483648 ≤ s0 ∧ s0 < 2147483648) ∧ ((s0 ≠ 0) → (Q (some (aI 1)) m)) ∧ (¬ (s0 ≠ 0) → (S_X8_isOwnHere sc d 320 [aR 62, aU] [aR 90, aR 62] m Q))) : S_X8_isOwnHere sc d 312 [aR 62, aU] [aI s0] m Q := by
  obtain ⟨h1, k⟩ := k
  obtain ⟨k1, k2⟩ := k
  refine x_if_ne (tgt := 370) (pc2 := 315) dX8_isOwnHere_312 (by decide) rfl h1 (fun c2 => ?_) (fun c2 => ?_)
  · replace k := k1 c2
    refine x_iconst (pc2 := 371) dX8_isOwnHere_370 rfl ?_
    refine x_goto (tgt := 375) dX8_isOwnHere_371 (by decide) ?_
    refine x_istore_n (pc2 := 376) (ls2 := [aR 62, aI 1]) dX8_isOwnHere_375 rfl (by decide) rfl ?_
    refine x_iload_n (pc2 := 377) dX8_isOwnHere_376 rfl rfl ?_
    exact x_ireturn dX8_isOwnHere_377 ⟨.boolean, rfl, rfl⟩ k
  · replace k := k2 c2
    refine x_aload_n (pc2 := 316) dX8_isOwnHere_315 rfl rfl ?_
    refine x_aload_n (pc2 := 317) dX8_isOwnHere_316 rfl rfl ?_
    refine x_getf (pc2 := 320) (v := aR 90) fl_X8_96 ic_62 (vr_62_36 _) dX8_isOwnHere_317 rfl ?_
    exact k
set_option maxRecDepth 4000 in
theorem g_X8_isOwnHere_323 {sc : List Int} {d : Nat} {m : Mem} {Q : Option AV → Mem → Prop} {s0 : Int} (k : (-2147483648 ≤ s0 ∧ s0 < 2147483648) ∧ ((s0 ≠ 0) → (Q (some (aI 1)) m)) ∧ (¬ (s0 ≠ 0) → (S_X8_isOwnHere sc d 331 [aR 62, aU] [aR 91, aR 62] m Q))) : S_X8_isOwnHere sc d 323 [aR 62, aU] [aI s0] m Q := by
  obtain ⟨h1, k⟩ := k
  obtain ⟨k1, k2⟩ := k
  refine x_if_ne (tgt := 370) (pc2 := 326) dX8_isOwnHere_323 (by decide) rfl h1 (fun c2 => ?_) (fun c2 => ?_)
  · replace k := k1 c2
    refine x_iconst (pc2 := 371) dX8_isOwnHere_370 rfl ?_
    refine x_goto (tgt := 375) dX8_isOwnHere_371 (by decide) ?_
    refine x_istore_n (pc2 := 376) (ls2 := [aR 62, aI 1]) dX8_isOwnHere_375 rfl (by decide) rfl ?_
    refine x_iload_n (pc2 := 377) dX8_isOwnHere_376 rfl rfl ?_
    exact x_ireturn dX8_isOwnHere_377 ⟨.boolean, rfl, rfl⟩ k
  · replace k := k2 c2
    refine x_aload_n (pc2 := 327) dX8_isOwnHere_326 rfl rfl ?_
    refine x_aload_n (pc2 := 328) dX8_isOwnHere_327 rfl rfl ?_
    refine x_getf (pc2 := 331) (v := aR 91) fl_X8_99 ic_62 (vr_62_37 _) dX8_isOwnHere_328 rfl ?_
    exact k
set_option maxRecDepth 4000 in
theorem g_X8_isOwnHere_334 {sc : List Int} {d : Nat} {m : Mem} {Q : Option AV → Mem → Prop} {s0 : Int} (k : (-2147483648 ≤ s0 ∧ s0 < 2147483648) ∧ ((s0 ≠ 0) → (Q (some (aI 1)) m)) ∧ (¬ (s0 ≠ 0) → (S_X8_isOwnHere sc d 342 [aR 62, aU] [aR 92, aR 62] m Q))) : S_X8_isOwnHere sc d 334 [aR 62, aU] [aI s0] m Q := by
  obtain ⟨h1, k⟩ := k
  obtain ⟨k1, k2⟩ := k
  refine x_if_ne (tgt := 370) (pc2 := 337) dX8_isOwnHere_334 (by decide) rfl h1 (fun c2 => ?_) (fun c2 => ?_)
  · replace k := k1 c2
    refine x_iconst (pc2 := 371) dX8_isOwnHere_370 rfl ?_
    refine x_goto (tgt := 375) dX8_isOwnHere_371 (by decide) ?_
    refine x_istore_n (pc2 := 376) (ls2 := [aR 62, aI 1]) dX8_isOwnHere_375 rfl (by decide) rfl ?_
    refine x_iload_n (pc2 := 377) dX8_isOwnHere_376 rfl rfl ?_
    exact x_ireturn dX8_isOwnHere_377 ⟨.boolean, rfl, rfl⟩ k
  · replace k := k2 c2
    refine x_aload_n (pc2 := 338) dX8_isOwnHere_337 rfl rfl ?_
    refine x_aload_n (pc2 := 339) dX8_isOwnHere_338 rfl rfl ?_
    refine x_getf (pc2 := 342) (v := aR 92) fl_X8_102 ic_62 (vr_62_38 _) dX8_isOwnHere_339 rfl ?_
    exact k
set_option maxRecDepth 4000 in
theorem g_X8_isOwnHere_345 {sc : List Int} {d : Nat} {m : Mem} {Q : Option AV → Mem → Prop} {s0 : Int} (k : (-2147483648 ≤ s0 ∧ s0 < 2147483648) ∧ ((s0 ≠ 0) → (Q (some (aI 1)) m)) ∧ (¬ (s0 ≠ 0) → (S_X8_isOwnHere sc d 353 [aR 62, aU] [aR 93, aR 62] m Q))) : S_X8_isOwnHere sc d 345 [aR 62, aU] [aI s0] m Q := by
  obtain ⟨h1, k⟩ := k
  obtain ⟨k1, k2⟩ := k
  refine x_if_ne (tgt := 370) (pc2 := 348) dX8_isOwnHere_345 (by decide) rfl h1 (fun c2 => ?_) (fun c2 => ?_)
  · replace k := k1 c2
    refine x_iconst (pc2 := 371) dX8_isOwnHere_370 rfl ?_
    refine x_goto (tgt := 375) dX8_isOwnHere_371 (by decide) ?_
    refine x_istore_n (pc2 := 376) (ls2 := [aR 62, aI 1]) dX8_isOwnHere_375 rfl (by decide) rfl ?_
    refine x_iload_n (pc2 := 377) dX8_isOwnHere_376 rfl rfl ?_
    exact x_ireturn dX8_isOwnHere_377 ⟨.boolean, rfl, rfl⟩ k
  · replace k := k2 c2
    refine x_aload_n (pc2 := 349) dX8_isOwnHere_348 rfl rfl ?_
    refine x_aload_n (pc2 := 350) dX8_isOwnHere_349 rfl rfl ?_
    refine x_getf (pc2 := 353) (v := aR 93) fl_X8_105 ic_62 (vr_62_39 _) dX8_isOwnHere_350 rfl ?_
    exact k
set_option maxRecDepth 4000 in
theorem g_X8_isOwnHere_356 {sc : List Int} {d : Nat} {m : Mem} {Q : Option AV → Mem → Prop} {s0 : Int} (k : (-2147483648 ≤ s0 ∧ s0 < 2147483648) ∧ ((s0 ≠ 0) → (Q (some (aI 1)) m)) ∧ (¬ (s0 ≠ 0) → (S_X8_isOwnHere sc d 364 [aR 62, aU] [aR 94, aR 62] m Q))) : S_X8_isOwnHere sc d 356 [aR 62, aU] [aI s0] m Q := by
  obtain ⟨h1, k⟩ := k
  obtain ⟨k1, k2⟩ := k
  refine x_if_ne (tgt := 370) (pc2 := 359) dX8_isOwnHere_356 (by decide) rfl h1 (fun c2 => ?_) (fun c2 => ?_)
  · replace k := k1 c2
    refine x_iconst (pc2 := 371) dX8_isOwnHere_370 rfl ?_
    refine x_goto (tgt := 375) dX8_isOwnHere_371 (by decide) ?_
    refine x_istore_n (pc2 := 376) (ls2 := [aR 62, aI 1]) dX8_isOwnHere_375 rfl (by decide) rfl ?_
    refine x_iload_n (pc2 := 377) dX8_isOwnHere_376 rfl rfl ?_
    exact x_ireturn dX8_isOwnHere_377 ⟨.boolean, rfl, rfl⟩ k
  · replace k := k2 c2
    refine x_aload_n (pc2 := 360) dX8_isOwnHere_359 rfl rfl ?_
    refine x_aload_n (pc2 := 361) dX8_isOwnHere_360 rfl rfl ?_
    refine x_getf (pc2 := 364) (v := aR 94) fl_X8_108 ic_62 (vr_62_40 _) dX8_isOwnHere_361 rfl ?_
    exact k
set_option maxRecDepth 4000 in
theorem g_X8_isOwnHere_367 {sc : List Int} {d : Nat} {m : Mem} {Q : Option AV → Mem → Prop} {s0 : Int} (k : ((-2147483648 ≤ s0 ∧ s0 < 2147483648)) ∧ Q (some (aI (if s0 = 0 then 0 else 1 : Int))) m) : S_X8_isOwnHere sc d 367 [aR 62, aU] [aI s0] m Q := by
  obtain ⟨g2, k⟩ := k
  have kj : S_X8_isOwnHere sc d 375 [aR 62, aU] [aI (if s0 = 0 then 0 else 1 : Int)] m Q := by
    refine x_istore_n (pc2 := 376) (ls2 := [aR 62, aI (if s0 = 0 then 0 else 1 : Int)]) dX8_isOwnHere_375 rfl (by decide) rfl ?_
    refine x_iload_n (pc2 := 377) dX8_isOwnHere_376 rfl rfl ?_
    exact x_ireturn dX8_isOwnHere_377 (ret_z (by repeat (first | exact Or.inl rfl | exact Or.inr rfl | split))) k
  have h3 := g2 
  refine x_if_eq (tgt := 374) (pc2 := 370) dX8_isOwnHere_367 (by decide) rfl h3 (fun c4 => ?_) (fun c4 => ?_)
  · skip
    refine x_iconst (pc2 := 375) dX8_isOwnHere_374 rfl ?_
    exact x_topI (v := (if s0 = 0 then 0 else 1 : Int)) (if_pos c4) kj
  · skip
    refine x_iconst (pc2 := 371) dX8_isOwnHere_370 rfl ?_
    refine x_goto (tgt := 375) dX8_isOwnHere_371 (by decide) ?_
    exact x_topI (v := (if s0 = 0 then 0 else 1 : Int)) (if_neg c4) kj
theorem c_X8_isOwnHere_5 {sc : List Int} {d d2 : Nat} {m m2 : Mem} {Q : Option AV → Mem → Prop} {s1 : Int} {v : Int} (Hs1 : IsC s1 102) (hM : C_X8_isHere sc d2 [aR 62, aR s1] m (some (aI v)) m2) (hd : d2 + 1 ≤ d) (k : S_X8_isOwnHere sc d 8 [aR 62, aU] [aI v] m2 Q) : S_X8_isOwnHere sc d 5 [aR 62, aU] [aR s1, aR 62] m Q := x_callV (as := [aR s1]) (rest := []) hM mk_X8_isHere mv_X8_isHere lk_X8_313 (Or.inl ⟨8, (RX8, TX8, 123), ic_62, Nat.le_of_ble_eq_true rfl, rfl, rfl⟩) hd rfl rfl (Nat.le_of_ble_eq_true rfl) dX8_isOwnHere_5 rfl k
theorem c_X8_isOwnHere_16 {sc : List Int} {d d2 : Nat} {m m2 : Mem} {Q : Option AV → Mem → Prop} {s1 : Int} {v : Int} (Hs1 : IsC s1 102) (hM : C_X8_isHere sc d2 [aR 62, aR s1] m (some (aI v)) m2) (hd : d2 + 1 ≤ d) (k : S_X8_isOwnHere sc d 19 [aR 62, aU] [aI v] m2 Q) : S_X8_isOwnHere sc d 16 [aR 62, aU] [aR s1, aR 62] m Q := x_callV (as := [aR s1]) (rest := []) hM mk_X8_isHere mv_X8_isHere lk_X8_313 (Or.inl ⟨8, (RX8, TX8, 123), ic_62, Nat.le_of_ble_eq_true rfl, rfl, rfl⟩) hd rfl rfl (Nat.le_of_ble_eq_true rfl) dX8_isOwnHere_16 rfl k
theorem c_X8_isOwnHere_27 {sc : List Int} {d d2 : Nat} {m m2 : Mem} {Q : Option AV → Mem → Prop} {s1 : Int} {v : Int} (Hs1 : IsC s1 102) (hM : C_X8_isHere sc d2 [aR 62, aR s1] m (some (aI v)) m2) (hd : d2 + 1 ≤ d) (k : S_X8_isOwnHere sc d 30 [aR 62, aU] [aI v] m2 Q) : S_X8_isOwnHere sc d 27 [aR 62, aU] [aR s1, aR 62] m Q := x_callV (as := [aR s1]) (rest := []) hM mk_X8_isHere mv_X8_isHere lk_X8_313 (Or.inl ⟨8, (RX8, TX8, 123), ic_62, Nat.le_of_ble_eq_true rfl, rfl, rfl⟩) hd rfl rfl (Nat.le_of_ble_eq_true rfl) dX8_isOwnHere_27 rfl k
theorem c_X8_isOwnHere_38 {sc : List Int} {d d2 : Nat} {m m2 : Mem} {Q : Option AV → Mem → Prop} {s1 : Int} {v : Int} (Hs1 : IsC s1 102) (hM : C_X8_isHere sc d2 [aR 62, aR s1] m (some (aI v)) m2) (hd : d2 + 1 ≤ d) (k : S_X8_isOwnHere sc d 41 [aR 62, aU] [aI v] m2 Q) : S_X8_isOwnHere sc d 38 [aR 62, aU] [aR s1, aR 62] m Q := x_callV (as := [aR s1]) (rest := []) hM mk_X8_isHere mv_X8_isHere lk_X8_313 (Or.inl ⟨8, (RX8, TX8, 123), ic_62, Nat.le_of_ble_eq_true rfl, rfl, rfl⟩) hd rfl rfl (Nat.le_of_ble_eq_true rfl) dX8_isOwnHere_38 rfl k
theorem c_X8_isOwnHere_49 {sc : List Int} {d d2 : Nat} {m m2 : Mem} {Q : Option AV → Mem → Prop} {s1 : Int} {v : Int} (Hs1 : IsC s1 102) (hM : C_X8_isHere sc d2 [aR 62, aR s1] m (some (aI v)) m2) (hd : d2 + 1 ≤ d) (k : S_X8_isOwnHere sc d 52 [aR 62, aU] [aI v] m2 Q) : S_X8_isOwnHere sc d 49 [aR 62, aU] [aR s1, aR 62] m Q := x_callV (as := [aR s1]) (rest := []) hM mk_X8_isHere mv_X8_isHere lk_X8_313 (Or.inl ⟨8, (RX8, TX8, 123), ic_62, Nat.le_of_ble_eq_true rfl, rfl, rfl⟩) hd rfl rfl (Nat.le_of_ble_eq_true rfl) dX8_isOwnHere_49 rfl k
theorem c_X8_isOwnHere_60 {sc : List Int} {d d2 : Nat} {m m2 : Mem} {Q : Option AV → Mem → Prop} {s1 : Int} {v : Int} (Hs1 : IsC s1 102) (hM : C_X8_isHere sc d2 [aR 62, aR s1] m (some (aI v)) m2) (hd : d2 + 1 ≤ d) (k : S_X8_isOwnHere sc d 63 [aR 62, aU] [aI v] m2 Q) : S_X8_isOwnHere sc d 60 [aR 62, aU] [aR s1, aR 62] m Q := x_callV (as := [aR s1]) (rest := []) hM mk_X8_isHere mv_X8_isHere lk_X8_313 (Or.inl ⟨8, (RX8, TX8, 123), ic_62, Nat.le_of_ble_eq_true rfl, rfl, rfl⟩) hd rfl rfl (Nat.le_of_ble_eq_true rfl) dX8_isOwnHere_60 rfl k
theorem c_X8_isOwnHere_81 {sc : List Int} {d d2 : Nat} {m m2 : Mem} {Q : Option AV → Mem → Prop} {s1 : Int} {v : Int} (Hs1 : IsC s1 102) (hM : C_X8_isHere sc d2 [aR 62, aR s1] m (some (aI v)) m2) (hd : d2 + 1 ≤ d) (k : S_X8_isOwnHere sc d 84 [aR 62, aU] [aI v] m2 Q) : S_X8_isOwnHere sc d 81 [aR 62, aU] [aR s1, aR 62] m Q := x_callV (as := [aR s1]) (rest := []) hM mk_X8_isHere mv_X8_isHere lk_X8_313 (Or.inl ⟨8, (RX8, TX8, 123), ic_62, Nat.le_of_ble_eq_true rfl, rfl, rfl⟩) hd rfl rfl (Nat.le_of_ble_eq_true rfl) dX8_isOwnHere_81 rfl k
theorem c_X8_isOwnHere_92 {sc : List Int} {d d2 : Nat} {m m2 : Mem} {Q : Option AV → Mem → Prop} {s1 : Int} {v : Int} (Hs1 : IsC s1 102) (hM : C_X8_isHere sc d2 [aR 62, aR s1] m (some (aI v)) m2) (hd : d2 + 1 ≤ d) (k : S_X8_isOwnHere sc d 95 [aR 62, aU] [aI v] m2 Q) : S_X8_isOwnHere sc d 92 [aR 62, aU] [aR s1, aR 62] m Q := x_callV (as := [aR s1]) (rest := []) hM mk_X8_isHere mv_X8_isHere lk_X8_313 (Or.inl ⟨8, (RX8, TX8, 123), ic_62, Nat.le_of_ble_eq_true rfl, rfl, rfl⟩) hd rfl rfl (Nat.le_of_ble_eq_true rfl) dX8_isOwnHere_92 rfl k
theorem c_X8_isOwnHere_103 {sc : List Int} {d d2 : Nat} {m m2 : Mem} {Q : Option AV → Mem → Prop} {s1 : Int} {v : Int} (Hs1 : IsC s1 102) (hM : C_X8_isHere sc d2 [aR 62, aR s1] m (some (aI v)) m2) (hd : d2 + 1 ≤ d) (k : S_X8_isOwnHere sc d 106 [aR 62, aU] [aI v] m2 Q) : S_X8_isOwnHere sc d 103 [aR 62, aU] [aR s1, aR 62] m Q := x_callV (as := [aR s1]) (rest := []) hM mk_X8_isHere mv_X8_isHere lk_X8_313 (Or.inl ⟨8, (RX8, TX8, 123), ic_62, Nat.le_of_ble_eq_true rfl, rfl, rfl⟩) hd rfl rfl (Nat.le_of_ble_eq_true rfl) dX8_isOwnHere_103 rfl k
theorem c_X8_isOwnHere_114 {sc : List Int} {d d2 : Nat} {m m2 : Mem} {Q : Option AV → Mem → Prop} {s1 : Int} {v : Int} (Hs1 : IsC s1 102) (hM : C_X8_isHere sc d2 [aR 62, aR s1] m (some (aI v)) m2) (hd : d2 + 1 ≤ d) (k : S_X8_isOwnHere sc d 117 [aR 62, aU] [aI v] m2 Q) : S_X8_isOwnHere sc d 114 [aR 62, aU] [aR s1, aR 62] m Q := x_callV (as := [aR s1]) (rest := []) hM mk_X8_isHere mv_X8_isHere lk_X8_313 (Or.inl ⟨8, (RX8, TX8, 123), ic_62, Nat.le_of_ble_eq_true rfl, rfl, rfl⟩) hd rfl rfl (Nat.le_of_ble_eq_true rfl) dX8_isOwnHere_114 rfl k
theorem c_X8_isOwnHere_125 {sc : List Int} {d d2 : Nat} {m m2 : Mem} {Q : Option AV → Mem → Prop} {s1 : Int} {v : Int} (Hs1 : IsC s1 102) (hM : C_X8_isHere sc d2 [aR 62, aR s1] m (some (aI v)) m2) (hd : d2 + 1 ≤ d) (k : S_X8_isOwnHere sc d 128 [aR 62, aU] [aI v] m2 Q) : S_X8_isOwnHere sc d 125 [aR 62, aU] [aR s1, aR 62] m Q := x_callV (as := [aR s1]) (rest := []) hM mk_X8_isHere mv_X8_isHere lk_X8_313 (Or.inl ⟨8, (RX8, TX8, 123), ic_62, Nat.le_of_ble_eq_true rfl, rfl, rfl⟩) hd rfl rfl (Nat.le_of_ble_eq_true rfl) dX8_isOwnHere_125 rfl k
theorem c_X8_isOwnHere_136 {sc : List Int} {d d2 : Nat} {m m2 : Mem} {Q : Option AV → Mem → Prop} {s1 : Int} {v : Int} (Hs1 : IsC s1 102) (hM : C_X8_isHere sc d2 [aR 62, aR s1] m (some (aI v)) m2) (hd : d2 + 1 ≤ d) (k : S_X8_isOwnHere sc d 139 [aR 62, aU] [aI v] m2 Q) : S_X8_isOwnHere sc d 136 [aR 62, aU] [aR s1, aR 62] m Q := x_callV (as := [aR s1]) (rest := []) hM mk_X8_isHere mv_X8_isHere lk_X8_313 (Or.inl ⟨8, (RX8, TX8, 123), ic_62, Nat.le_of_ble_eq_true rfl, rfl, rfl⟩) hd rfl rfl (Nat.le_of_ble_eq_true rfl) dX8_isOwnHere_136 rfl k
theorem c_X8_isOwnHere_157 {sc : List Int} {d d2 : Nat} {m m2 : Mem} {Q : Option AV → Mem → Prop} {s1 : Int} {v : Int} (Hs1 : IsC s1 102) (hM : C_X8_isHere sc d2 [aR 62, aR s1] m (some (aI v)) m2) (hd : d2 + 1 ≤ d) (k : S_X8_isOwnHere sc d 160 [aR 62, aU] [aI v] m2 Q) : S_X8_isOwnHere sc d 157 [aR 62, aU] [aR s1, aR 62] m Q := x_callV (as := [aR s1]) (rest := []) hM mk_X8_isHere mv_X8_isHere lk_X8_313 (Or.inl ⟨8, (RX8, TX8, 123), ic_62, Nat.le_of_ble_eq_true rfl, rfl, rfl⟩) hd rfl rfl (Nat.le_of_ble_eq_true rfl) dX8_isOwnHere_157 rfl k
theorem c_X8_isOwnHere_168 {sc : List Int} {d d2 : Nat} {m m2 : Mem} {Q : Option AV → Mem → Prop} {s1 : Int} {v : Int} (Hs1 : IsC s1 102) (hM : C_X8_isHere sc d2 [aR 62, aR s1] m (some (aI v)) m2) (hd : d2 + 1 ≤ d) (k : S_X8_isOwnHere sc d 171 [aR 62, aU] [aI v] m2 Q) : S_X8_isOwnHere sc d 168 [aR 62, aU] [aR s1, aR 62] m Q := x_callV (as := [aR s1]) (rest := []) hM mk_X8_isHere mv_X8_isHere lk_X8_313 (Or.inl ⟨8, (RX8, TX8, 123), ic_62, Nat.le_of_ble_eq_true rfl, rfl, rfl⟩) hd rfl rfl (Nat.le_of_ble_eq_true rfl) dX8_isOwnHere_168 rfl k
theorem c_X8_isOwnHere_179 {sc : List Int} {d d2 : Nat} {m m2 : Mem} {Q : Option AV → Mem → Prop} {s1 : Int} {v : Int} (Hs1 : IsC s1 102) (hM : C_X8_isHere sc d2 [aR 62, aR s1] m (some (aI v)) m2) (hd : d2 + 1 ≤ d) (k : S_X8_isOwnHere sc d 182 [aR 62, aU] [aI v] m2 Q) : S_X8_isOwnHere sc d 179 [aR 62, aU] [aR s1, aR 62] m Q := x_callV (as := [aR s1]) (rest := []) hM mk_X8_isHere mv_X8_isHere lk_X8_313 (Or.inl ⟨8, (RX8, TX8, 123), ic_62, Nat.le_of_ble_eq_true rfl, rfl, rfl⟩) hd rfl rfl (Nat.le_of_ble_eq_true rfl) dX8_isOwnHere_179 rfl k
theorem c_X8_isOwnHere_190 {sc : List Int} {d d2 : Nat} {m m2 : Mem} {Q : Option AV → Mem → Prop} {s1 : Int} {v : Int} (Hs1 : IsC s1 102) (hM : C_X8_isHere sc d2 [aR 62, aR s1] m (some (aI v)) m2) (hd : d2 + 1 ≤ d) (k : S_X8_isOwnHere sc d 193 [aR 62, aU] [aI v] m2 Q) : S_X8_isOwnHere sc d 190 [aR 62, aU] [aR s1, aR 62] m Q := x_callV (as := [aR s1]) (rest := []) hM mk_X8_isHere mv_X8_isHere lk_X8_313 (Or.inl ⟨8, (RX8, TX8, 123), ic_62, Nat.le_of_ble_eq_true rfl, rfl, rfl⟩) hd rfl rfl (Nat.le_of_ble_eq_true rfl) dX8_isOwnHere_190 rfl k
theorem c_X8_isOwnHere_201 {sc : List Int} {d d2 : Nat} {m m2 : Mem} {Q : Option AV → Mem → Prop} {s1 : Int} {v : Int} (Hs1 : IsC s1 102) (hM : C_X8_isHere sc d2 [aR 62, aR s1] m (some (aI v)) m2) (hd : d2 + 1 ≤ d) (k : S_X8_isOwnHere sc d 204 [aR 62, aU] [aI v] m2 Q) : S_X8_isOwnHere sc d 201 [aR 62, aU] [aR s1, aR 62] m Q := x_callV (as := [aR s1]) (rest := []) hM mk_X8_isHere mv_X8_isHere lk_X8_313 (Or.inl ⟨8, (RX8, TX8, 123), ic_62, Nat.le_of_ble_eq_true rfl, rfl, rfl⟩) hd rfl rfl (Nat.le_of_ble_eq_true rfl) dX8_isOwnHere_201 rfl k
theorem c_X8_isOwnHere_212 {sc : List Int} {d d2 : Nat} {m m2 : Mem} {Q : Option AV → Mem → Prop} {s1 : Int} {v : Int} (Hs1 : IsC s1 102) (hM : C_X8_isHere sc d2 [aR 62, aR s1] m (some (aI v)) m2) (hd : d2 + 1 ≤ d) (k : S_X8_isOwnHere sc d 215 [aR 62, aU] [aI v] m2 Q) : S_X8_isOwnHere sc d 212 [aR 62, aU] [aR s1, aR 62] m Q := x_callV (as := [aR s1]) (rest := []) hM mk_X8_isHere mv_X8_isHere lk_X8_313 (Or.inl ⟨8, (RX8, TX8, 123), ic_62, Nat.le_of_ble_eq_true rfl, rfl, rfl⟩) hd rfl rfl (Nat.le_of_ble_eq_true rfl) dX8_isOwnHere_212 rfl k
theorem c_X8_isOwnHere_233 {sc : List Int} {d d2 : Nat} {m m2 : Mem} {Q : Option AV → Mem → Prop} {s1 : Int} {v : Int} (Hs1 : IsC s1 102) (hM : C_X8_isHere sc d2 [aR 62, aR s1] m (some (aI v)) m2) (hd : d2 + 1 ≤ d) (k : S_X8_isOwnHere sc d 236 [aR 62, aU] [aI v] m2 Q) : S_X8_isOwnHere sc d 233 [aR 62, aU] [aR s1, aR 62] m Q := x_callV (as := [aR s1]) (rest := []) hM mk_X8_isHere mv_X8_isHere lk_X8_313 (Or.inl ⟨8, (RX8, TX8, 123), ic_62, Nat.le_of_ble_eq_true rfl, rfl, rfl⟩) hd rfl rfl (Nat.le_of_ble_eq_true rfl) dX8_isOwnHere_233 rfl k
theorem c_X8_isOwnHere_244 {sc : List Int} {d d2 : Nat} {m m2 : Mem} {Q : Option AV → Mem → Prop} {s1 : Int} {v : Int} (Hs1 : IsC s1 102) (hM : C_X8_isHere sc d2 [aR 62, aR s1] m (some (aI v)) m2) (hd : d2 + 1 ≤ d) (k : S_X8_isOwnHere sc d 247 [aR 62, aU] [aI v] m2 Q) : S_X8_isOwnHere sc d 244 [aR 62, aU] [aR s1, aR 62] m Q := x_callV (as := [aR s1]) (rest := []) hM mk_X8_isHere mv_X8_isHere lk_X8_313 (Or.inl ⟨8, (RX8, TX8, 123), ic_62, Nat.le_of_ble_eq_true rfl, rfl, rfl⟩) hd rfl rfl (Nat.le_of_ble_eq_true rfl) dX8_isOwnHere_244 rfl k
theorem c_X8_isOwnHere_255 {sc : List Int} {d d2 : Nat} {m m2 : Mem} {Q : Option AV → Mem → Prop} {s1 : Int} {v : Int} (Hs1 : IsC s1 102) (hM : C_X8_isHere sc d2 [aR 62, aR s1] m (some (aI v)) m2) (hd : d2 + 1 ≤ d) (k : S_X8_isOwnHere sc d 258 [aR 62, aU] [aI v] m2 Q) : S_X8_isOwnHere sc d 255 [aR 62, aU] [aR s1, aR 62] m Q := x_callV (as := [aR s1]) (rest := []) hM mk_X8_isHere mv_X8_isHere lk_X8_313 (Or.inl ⟨8, (RX8, TX8, 123), ic_62, Nat.le_of_ble_eq_true rfl, rfl, rfl⟩) hd rfl rfl (Nat.le_of_ble_eq_true rfl) dX8_isOwnHere_255 rfl k
theorem c_X8_isOwnHere_266 {sc : List Int} {d d2 : Nat} {m m2 : Mem} {Q : Option AV → Mem → Prop} {s1 : Int} {v : Int} (Hs1 : IsC s1 102) (hM : C_X8_isHere sc d2 [aR 62, aR s1] m (some (aI v)) m2) (hd : d2 + 1 ≤ d) (k : S_X8_isOwnHere sc d 269 [aR 62, aU] [aI v] m2 Q) : S_X8_isOwnHere sc d 266 [aR 62, aU] [aR s1, aR 62] m Q := x_callV (as := [aR s1]) (rest := []) hM mk_X8_isHere mv_X8_isHere lk_X8_313 (Or.inl ⟨8, (RX8, TX8, 123), ic_62, Nat.le_of_ble_eq_true rfl, rfl, rfl⟩) hd rfl rfl (Nat.le_of_ble_eq_true rfl) dX8_isOwnHere_266 rfl k
theorem c_X8_isOwnHere_277 {sc : List Int} {d d2 : Nat} {m m2 : Mem} {Q : Option AV → Mem → Prop} {s1 : Int} {v : Int} (Hs1 : IsC s1 102) (hM : C_X8_isHere sc d2 [aR 62, aR s1] m (some (aI v)) m2) (hd : d2 + 1 ≤ d) (k : S_X8_isOwnHere sc d 280 [aR 62, aU] [aI v] m2 Q) : S_X8_isOwnHere sc d 277 [aR 62, aU] [aR s1, aR 62] m Q := x_callV (as := [aR s1]) (rest := []) hM mk_X8_isHere mv_X8_isHere lk_X8_313 (Or.inl ⟨8, (RX8, TX8, 123), ic_62, Nat.le_of_ble_eq_true rfl, rfl, rfl⟩) hd rfl rfl (Nat.le_of_ble_eq_true rfl) dX8_isOwnHere_277 rfl k
theorem c_X8_isOwnHere_288 {sc : List Int} {d d2 : Nat} {m m2 : Mem} {Q : Option AV → Mem → Prop} {s1 : Int} {v : Int} (Hs1 : IsC s1 102) (hM : C_X8_isHere sc d2 [aR 62, aR s1] m (some (aI v)) m2) (hd : d2 + 1 ≤ d) (k : S_X8_isOwnHere sc d 291 [aR 62, aU] [aI v] m2 Q) : S_X8_isOwnHere sc d 288 [aR 62, aU] [aR s1, aR 62] m Q := x_callV (as := [aR s1]) (rest := []) hM mk_X8_isHere mv_X8_isHere lk_X8_313 (Or.inl ⟨8, (RX8, TX8, 123), ic_62, Nat.le_of_ble_eq_true rfl, rfl, rfl⟩) hd rfl rfl (Nat.le_of_ble_eq_true rfl) dX8_isOwnHere_288 rfl k
theorem c_X8_isOwnHere_309 {sc : List Int} {d d2 : Nat} {m m2 : Mem} {Q : Option AV → Mem → Prop} {s1 : Int} {v : Int} (Hs1 : IsC s1 102) (hM : C_X8_isHere sc d2 [aR 62, aR s1] m (some (aI v)) m2) (hd : d2 + 1 ≤ d) (k : S_X8_isOwnHere sc d 312 [aR 62, aU] [aI v] m2 Q) : S_X8_isOwnHere sc d 309 [aR 62, aU] [aR s1, aR 62] m Q := x_callV (as := [aR s1]) (rest := []) hM mk_X8_isHere mv_X8_isHere lk_X8_313 (Or.inl ⟨8, (RX8, TX8, 123), ic_62, Nat.le_of_ble_eq_true rfl, rfl, rfl⟩) hd rfl rfl (Nat.le_of_ble_eq_true rfl) dX8_isOwnHere_309 rfl k
theorem c_X8_isOwnHere_320 {sc : List Int} {d d2 : Nat} {m m2 : Mem} {Q : Option AV → Mem → Prop} {s1 : Int} {v : Int} (Hs1 : IsC s1 102) (hM : C_X8_isHere sc d2 [aR 62, aR s1] m (some (aI v)) m2) (hd : d2 + 1 ≤ d) (k : S_X8_isOwnHere sc d 323 [aR 62, aU] [aI v] m2 Q) : S_X8_isOwnHere sc d 320 [aR 62, aU] [aR s1, aR 62] m Q := x_callV (as := [aR s1]) (rest := []) hM mk_X8_isHere mv_X8_isHere lk_X8_313 (Or.inl ⟨8, (RX8, TX8, 123), ic_62, Nat.le_of_ble_eq_true rfl, rfl, rfl⟩) hd rfl rfl (Nat.le_of_ble_eq_true rfl) dX8_isOwnHere_320 rfl k
theorem c_X8_isOwnHere_331 {sc : List Int} {d d2 : Nat} {m m2 : Mem} {Q : Option AV → Mem → Prop} {s1 : Int} {v : Int} (Hs1 : IsC s1 102) (hM : C_X8_isHere sc d2 [aR 62, aR s1] m (some (aI v)) m2) (hd : d2 + 1 ≤ d) (k : S_X8_isOwnHere sc d 334 [aR 62, aU] [aI v] m2 Q) : S_X8_isOwnHere sc d 331 [aR 62, aU] [aR s1, aR 62] m Q := x_callV (as := [aR s1]) (rest := []) hM mk_X8_isHere mv_X8_isHere lk_X8_313 (Or.inl ⟨8, (RX8, TX8, 123), ic_62, Nat.le_of_ble_eq_true rfl, rfl, rfl⟩) hd rfl rfl (Nat.le_of_ble_eq_true rfl) dX8_isOwnHere_331 rfl k
theorem c_X8_isOwnHere_342 {sc : List Int} {d d2 : Nat} {m m2 : Mem} {Q : Option AV → Mem → Prop} {s1 : Int} {v : Int} (Hs1 : IsC s1 102) (hM : C_X8_isHere sc d2 [aR 62, aR s1] m (some (aI v)) m2) (hd : d2 + 1 ≤ d) (k : S_X8_isOwnHere sc d 345 [aR 62, aU] [aI v] m2 Q) : S_X8_isOwnHere sc d 342 [aR 62, aU] [aR s1, aR 62] m Q := x_callV (as := [aR s1]) (rest := []) hM mk_X8_isHere mv_X8_isHere lk_X8_313 (Or.inl ⟨8, (RX8, TX8, 123), ic_62, Nat.le_of_ble_eq_true rfl, rfl, rfl⟩) hd rfl rfl (Nat.le_of_ble_eq_true rfl) dX8_isOwnHere_342 rfl k
theorem c_X8_isOwnHere_353 {sc : List Int} {d d2 : Nat} {m m2 : Mem} {Q : Option AV → Mem → Prop} {s1 : Int} {v : Int} (Hs1 : IsC s1 102) (hM : C_X8_isHere sc d2 [aR 62, aR s1] m (some (aI v)) m2) (hd : d2 + 1 ≤ d) (k : S_X8_isOwnHere sc d 356 [aR 62, aU] [aI v] m2 Q) : S_X8_isOwnHere sc d 353 [aR 62, aU] [aR s1, aR 62] m Q := x_callV (as := [aR s1]) (rest := []) hM mk_X8_isHere mv_X8_isHere lk_X8_313 (Or.inl ⟨8, (RX8, TX8, 123), ic_62, Nat.le_of_ble_eq_true rfl, rfl, rfl⟩) hd rfl rfl (Nat.le_of_ble_eq_true rfl) dX8_isOwnHere_353 rfl k
theorem c_X8_isOwnHere_364 {sc : List Int} {d d2 : Nat} {m m2 : Mem} {Q : Option AV → Mem → Prop} {s1 : Int} {v : Int} (Hs1 : IsC s1 102) (hM : C_X8_isHere sc d2 [aR 62, aR s1] m (some (aI v)) m2) (hd : d2 + 1 ≤ d) (k : S_X8_isOwnHere sc d 367 [aR 62, aU] [aI v] m2 Q) : S_X8_isOwnHere sc d 364 [aR 62, aU] [aR s1, aR 62] m Q := x_callV (as := [aR s1]) (rest := []) hM mk_X8_isHere mv_X8_isHere lk_X8_313 (Or.inl ⟨8, (RX8, TX8, 123), ic_62, Nat.le_of_ble_eq_true rfl, rfl, rfl⟩) hd rfl rfl (Nat.le_of_ble_eq_true rfl) dX8_isOwnHere_364 rfl k
set_option maxRecDepth 4000 in
theorem g_X8_name_0 {sc : List Int} {d : Nat} {m : Mem} {Q : Option AV → Mem → Prop} (k : (-2147483648 ≤ (m 62 5) ∧ (m 62 5) < 2147483648) ∧ (((m 62 5) = 0) → (S_X8_name sc d 10 [aR 62, aU, aU] [aR 62] m Q)) ∧ (¬ ((m 62 5) = 0) → (Q (some (aJ 0)) m))) : S_X8_name sc d 0 [aR 62, aU, aU] [] m Q := by
  refine x_aload_n (pc2 := 1) dX8_name_0 rfl rfl ?_
  refine x_getf (pc2 := 4) (v := aI (m 62 5)) fl_X8_290 ic_62 (fv_i _ ic_62 rfl) dX8_name_1 rfl ?_
  obtain ⟨h1, k⟩ := k
  obtain ⟨k1, k2⟩ := k
  refine x_if_eq (tgt := 9) (pc2 := 7) dX8_name_4 (by decide) rfl h1 (fun c2 => ?_) (fun c2 => ?_)
  · replace k := k1 c2
    refine x_aload_n (pc2 := 10) dX8_name_9 rfl rfl ?_
    exact k
  · replace k := k2 c2
    refine x_lconst (pc2 := 8) (v := 0) dX8_name_7 rfl rfl ?_
    exact x_lreturn dX8_name_8 rfl k
set_option maxRecDepth 4000 in
theorem g_X8_name_13 {sc : List Int} {d : Nat} {m : Mem} {Q : Option AV → Mem → Prop} {s0 : Int} (k : S_X8_name sc d 13 [aR 62, aU, aU] [aI s0] m Q) : S_X8_name sc d 13 [aR 62, aU, aU] [aI s0] m Q := by
  exact k
set_option maxRecDepth 4000 in
theorem g_X8_name_16 {sc : List Int} {d : Nat} {m : Mem} {Q : Option AV → Mem → Prop} {s0 : Int} (k : (-2147483648 ≤ s0 ∧ s0 < 2147483648) ∧ ((s0 = 0) → (S_X8_name sc d 43 [aR 62, aU, aU] [aI (m 62 2), aI 1, aR 62] m Q)) ∧ (¬ (s0 = 0) → ((-2147483648 ≤ (m 62 2) ∧ (m 62 2) < 2147483648) ∧ (-2147483648 ≤ (m 62 4) ∧ (m 62 4) < 2147483648) ∧ (((m 62 2) = (m 62 4)) → (S_X8_name sc d 43 [aR 62, aU, aU] [aI (m 62 2), aI 1, aR 62] m Q)) ∧ (¬ ((m 62 2) = (m 62 4)) → (S_X8_name sc d 31 [aR 62, aU, aU] [aR 62] m Q))))) : S_X8_name sc d 16 [aR 62, aU, aU] [aI s0] m Q := by
  obtain ⟨h1, k⟩ := k
  obtain ⟨k1, k2⟩ := k
  refine x_if_eq (tgt := 37) (pc2 := 19) dX8_name_16 (by decide) rfl h1 (fun c2 => ?_) (fun c2 => ?_)
  · replace k := k1 c2
    refine x_aload_n (pc2 := 38) dX8_name_37 rfl rfl ?_
    refine x_iconst (pc2 := 39) dX8_name_38 rfl ?_
    refine x_aload_n (pc2 := 40) dX8_name_39 rfl rfl ?_
    refine x_getf (pc2 := 43) (v := aI (m 62 2)) fl_X8_296 ic_62 (fv_i _ ic_62 rfl) dX8_name_40 rfl ?_
    exact k
  · replace k := k2 c2
    refine x_aload_n (pc2 := 20) dX8_name_19 rfl rfl ?_
    refine x_getf (pc2 := 23) (v := aI (m 62 2)) fl_X8_296 ic_62 (fv_i _ ic_62 rfl) dX8_name_20 rfl ?_
    refine x_aload_n (pc2 := 24) dX8_name_23 rfl rfl ?_
    refine x_getf (pc2 := 27) (v := aI (m 62 4)) fl_X8_310 ic_62 (fv_i _ ic_62 rfl) dX8_name_24 rfl ?_
    obtain ⟨h3, k⟩ := k
    obtain ⟨h4, k⟩ := k
    obtain ⟨k1, k2⟩ := k
    refine x_icmp_eq (tgt := 37) (pc2 := 30) dX8_name_27 (by decide) rfl h3 h4 (fun c5 => ?_) (fun c5 => ?_)
    · replace k := k1 c5
      refine x_aload_n (pc2 := 38) dX8_name_37 rfl rfl ?_
      refine x_iconst (pc2 := 39) dX8_name_38 rfl ?_
      refine x_aload_n (pc2 := 40) dX8_name_39 rfl rfl ?_
      refine x_getf (pc2 := 43) (v := aI (m 62 2)) fl_X8_296 ic_62 (fv_i _ ic_62 rfl) dX8_name_40 rfl ?_
      exact k
    · replace k := k2 c5
      refine x_aload_n (pc2 := 31) dX8_name_30 rfl rfl ?_
      exact k
set_option maxRecDepth 4000 in
theorem g_X8_name_34 {sc : List Int} {d : Nat} {m : Mem} {Q : Option AV → Mem → Prop} {s0 : Int} (k : (-2147483648 ≤ s0 ∧ s0 < 2147483648) ∧ ((s0 = 0) → (S_X8_name sc d 58 [aR 62, aJ 0, aU] [] (wr m 62 41 (m 62 2)) Q)) ∧ (¬ (s0 = 0) → (S_X8_name sc d 43 [aR 62, aU, aU] [aI (m 62 2), aI 1, aR 62] m Q))) : S_X8_name sc d 34 [aR 62, aU, aU] [aI s0] m Q := by
  obtain ⟨h1, k⟩ := k
  obtain ⟨k1, k2⟩ := k
  refine x_if_eq (tgt := 48) (pc2 := 37) dX8_name_34 (by decide) rfl h1 (fun c2 => ?_) (fun c2 => ?_)
  · replace k := k1 c2
    refine x_aload_n (pc2 := 49) dX8_name_48 rfl rfl ?_
    refine x_aload_n (pc2 := 50) dX8_name_49 rfl rfl ?_
    refine x_getf (pc2 := 53) (v := aI (m 62 2)) fl_X8_296 ic_62 (fv_i _ ic_62 rfl) dX8_name_50 rfl ?_
    refine x_putf (pc2 := 56) (x := (m 62 2)) fl_X8_341 ft_8_41 ic_62 (pv_i _ ic_62 rfl) (pn_i _) dX8_name_53 rfl ?_
    refine x_lconst (pc2 := 57) (v := 0) dX8_name_56 rfl rfl ?_
    refine x_lstore_n (pc2 := 58) (ls2 := [aR 62, aJ 0, aU]) dX8_name_57 rfl (by decide) rfl ?_
    exact k
  · replace k := k2 c2
    refine x_aload_n (pc2 := 38) dX8_name_37 rfl rfl ?_
    refine x_iconst (pc2 := 39) dX8_name_38 rfl ?_
    refine x_aload_n (pc2 := 40) dX8_name_39 rfl rfl ?_
    refine x_getf (pc2 := 43) (v := aI (m 62 2)) fl_X8_296 ic_62 (fv_i _ ic_62 rfl) dX8_name_40 rfl ?_
    exact k
set_option maxRecDepth 4000 in
theorem g_X8_name_46 {sc : List Int} {d : Nat} {m : Mem} {Q : Option AV → Mem → Prop} (k : Q (some (aJ 0)) m) : S_X8_name sc d 46 [aR 62, aU, aU] [] m Q := by
  refine x_lconst (pc2 := 47) (v := 0) dX8_name_46 rfl rfl ?_
  exact x_lreturn dX8_name_47 rfl k
set_option maxRecDepth 4000 in
theorem g_X8_name_58 {sc : List Int} {d : Nat} {m : Mem} {Q : Option AV → Mem → Prop} {l1 : Int} (k : (-2147483648 ≤ (m 62 2) ∧ (m 62 2) < 2147483648) ∧ (-2147483648 ≤ (m 62 3) ∧ (m 62 3) < 2147483648) ∧ (((m 62 3) ≤ (m 62 2)) → (Q (some (aJ l1)) (wr m 62 4 (m 62 2)))) ∧ (¬ ((m 62 3) ≤ (m 62 2)) → ((0 ≤ (m 62 2)) ∧ ((m 62 2) < 1600) ∧ S_X8_name sc d 78 [aR 62, aJ l1, aU] [aI (m 63 (m 62 2))] m Q))) : S_X8_name sc d 58 [aR 62, aJ l1, aU] [] m Q := by
  refine x_aload_n (pc2 := 59) dX8_name_58 rfl rfl ?_
  refine x_getf (pc2 := 62) (v := aI (m 62 2)) fl_X8_296 ic_62 (fv_i _ ic_62 rfl) dX8_name_59 rfl ?_
  refine x_aload_n (pc2 := 63) dX8_name_62 rfl rfl ?_
  refine x_getf (pc2 := 66) (v := aI (m 62 3)) fl_X8_299 ic_62 (fv_i _ ic_62 rfl) dX8_name_63 rfl ?_
  obtain ⟨h1, k⟩ := k
  obtain ⟨h2, k⟩ := k
  obtain ⟨k1, k2⟩ := k
  refine x_icmp_ge (tgt := 145) (pc2 := 69) dX8_name_66 (by decide) rfl h1 h2 (fun c3 => ?_) (fun c3 => ?_)
  · replace k := k1 c3
    refine x_aload_n (pc2 := 146) dX8_name_145 rfl rfl ?_
    refine x_aload_n (pc2 := 147) dX8_name_146 rfl rfl ?_
    refine x_getf (pc2 := 150) (v := aI (m 62 2)) fl_X8_296 ic_62 (fv_i _ ic_62 rfl) dX8_name_147 rfl ?_
    refine x_putf (pc2 := 153) (x := (m 62 2)) fl_X8_310 ft_8_4 ic_62 (pv_i _ ic_62 rfl) (pn_i _) dX8_name_150 rfl ?_
    refine x_lload_n (pc2 := 154) dX8_name_153 rfl rfl ?_
    exact x_lreturn dX8_name_154 rfl k
  · replace k := k2 c3
    refine x_aload_n (pc2 := 70) dX8_name_69 rfl rfl ?_
    refine x_getf (pc2 := 73) (v := aR 63) fl_X8_7 ic_62 (vr_62_0 _) dX8_name_70 rfl ?_
    refine x_aload_n (pc2 := 74) dX8_name_73 rfl rfl ?_
    refine x_getf (pc2 := 77) (v := aI (m 62 2)) fl_X8_296 ic_62 (fv_i _ ic_62 rfl) dX8_name_74 rfl ?_
    obtain ⟨h4, k⟩ := k
    obtain ⟨h5, k⟩ := k
    refine x_iald (pc2 := 78) ic_63 h4 (by rw [al_63]; exact h5) dX8_name_77 rfl ?_
    exact k
set_option maxRecDepth 4000 in
theorem g_X8_name_81 {sc : List Int} {d : Nat} {m : Mem} {Q : Option AV → Mem → Prop} {l1 s0 : Int} (k : (-2147483648 ≤ s0 ∧ s0 < 2147483648) ∧ ((s0 = 0) → (Q (some (aJ l1)) (wr m 62 4 (m 62 2)))) ∧ (¬ (s0 = 0) → ((-2147483648 ≤ ((m 62 2) - (m 62 41)) ∧ ((m 62 2) - (m 62 41)) < 2147483648) ∧ ((((m 62 2) - (m 62 41)) ≠ 6) → ((0 ≤ (m 62 2)) ∧ ((m 62 2) < 1600) ∧ (-2147483648 ≤ (m 63 (m 62 2)) ∧ (m 63 (m 62 2)) < 2147483648) ∧ S_X8_name sc d 58 [aR 62, aJ ((((27 * l1) + (m 63 (m 62 2))) - 97) + 1), aU] [] (wr m 62 2 ((m 62 2) + 1)) Q)) ∧ (¬ (((m 62 2) - (m 62 41)) ≠ 6) → (S_X8_name sc d 104 [aR 62, aU, aU] [aI (m 62 2), aI 1, aR 62] m Q))))) : S_X8_name sc d 81 [aR 62, aJ l1, aU] [aI s0] m Q := by
  obtain ⟨h1, k⟩ := k
  obtain ⟨k1, k2⟩ := k
  refine x_if_eq (tgt := 145) (pc2 := 84) dX8_name_81 (by decide) rfl h1 (fun c2 => ?_) (fun c2 => ?_)
  · replace k := k1 c2
    refine x_aload_n (pc2 := 146) dX8_name_145 rfl rfl ?_
    refine x_aload_n (pc2 := 147) dX8_name_146 rfl rfl ?_
    refine x_getf (pc2 := 150) (v := aI (m 62 2)) fl_X8_296 ic_62 (fv_i _ ic_62 rfl) dX8_name_147 rfl ?_
    refine x_putf (pc2 := 153) (x := (m 62 2)) fl_X8_310 ft_8_4 ic_62 (pv_i _ ic_62 rfl) (pn_i _) dX8_name_150 rfl ?_
    refine x_lload_n (pc2 := 154) dX8_name_153 rfl rfl ?_
    exact x_lreturn dX8_name_154 rfl k
  · replace k := k2 c2
    refine x_aload_n (pc2 := 85) dX8_name_84 rfl rfl ?_
    refine x_getf (pc2 := 88) (v := aI (m 62 2)) fl_X8_296 ic_62 (fv_i _ ic_62 rfl) dX8_name_85 rfl ?_
    refine x_aload_n (pc2 := 89) dX8_name_88 rfl rfl ?_
    refine x_getf (pc2 := 92) (v := aI (m 62 41)) fl_X8_341 ic_62 (fv_i _ ic_62 rfl) dX8_name_89 rfl ?_
    refine x_isub (pc2 := 93) dX8_name_92 rfl ?_
    refine x_bipush (pc2 := 95) dX8_name_93 rfl rfl ?_
    obtain ⟨h3, k⟩ := k
    obtain ⟨k1, k2⟩ := k
    refine x_icmp_ne (tgt := 109) (pc2 := 98) dX8_name_95 (by decide) rfl h3 (by decide) (fun c4 => ?_) (fun c4 => ?_)
    · replace k := k1 c4
      refine x_ldc2 (pc2 := 112) (x := 27) kc_X8_344 rfl dX8_name_109 rfl ?_
      refine x_lload_n (pc2 := 113) dX8_name_112 rfl rfl ?_
      refine x_lmul (pc2 := 114) dX8_name_113 rfl ?_
      refine x_aload_n (pc2 := 115) dX8_name_114 rfl rfl ?_
      refine x_getf (pc2 := 118) (v := aR 63) fl_X8_7 ic_62 (vr_62_0 _) dX8_name_115 rfl ?_
      refine x_aload_n (pc2 := 119) dX8_name_118 rfl rfl ?_
      refine x_getf (pc2 := 122) (v := aI (m 62 2)) fl_X8_296 ic_62 (fv_i _ ic_62 rfl) dX8_name_119 rfl ?_
      obtain ⟨h5, k⟩ := k
      obtain ⟨h6, k⟩ := k
      refine x_iald (pc2 := 123) ic_63 h5 (by rw [al_63]; exact h6) dX8_name_122 rfl ?_
      obtain ⟨h7, k⟩ := k
      refine x_i2l (pc2 := 124) dX8_name_123 rfl h7 ?_
      refine x_ladd (pc2 := 125) dX8_name_124 rfl ?_
      refine x_ldc2 (pc2 := 128) (x := 97) kc_X8_346 rfl dX8_name_125 rfl ?_
      refine x_lsub (pc2 := 129) dX8_name_128 rfl ?_
      refine x_lconst (pc2 := 130) (v := 1) dX8_name_129 rfl rfl ?_
      refine x_ladd (pc2 := 131) dX8_name_130 rfl ?_
      refine x_lstore_n (pc2 := 132) (ls2 := [aR 62, aJ ((((27 * l1) + (m 63 (m 62 2))) - 97) + 1), aU]) dX8_name_131 rfl (by decide) rfl ?_
      refine x_aload_n (pc2 := 133) dX8_name_132 rfl rfl ?_
      refine x_dup_r (pc2 := 134) dX8_name_133 rfl (by decide) ?_
      refine x_getf (pc2 := 137) (v := aI (m 62 2)) fl_X8_296 ic_62 (fv_i _ ic_62 rfl) dX8_name_134 rfl ?_
      refine x_iconst (pc2 := 138) dX8_name_137 rfl ?_
      refine x_iadd (pc2 := 139) dX8_name_138 rfl ?_
      refine x_putf (pc2 := 142) (x := ((m 62 2) + 1)) fl_X8_296 ft_8_2 ic_62 (pv_i _ ic_62 rfl) (pn_i _) dX8_name_139 rfl ?_
      refine x_goto (tgt := 58) dX8_name_142 (by decide) ?_
      exact k
    · replace k := k2 c4
      refine x_aload_n (pc2 := 99) dX8_name_98 rfl rfl ?_
      refine x_iconst (pc2 := 100) dX8_name_99 rfl ?_
      refine x_aload_n (pc2 := 101) dX8_name_100 rfl rfl ?_
      refine x_getf (pc2 := 104) (v := aI (m 62 2)) fl_X8_296 ic_62 (fv_i _ ic_62 rfl) dX8_name_101 rfl ?_
      exact x_drop (drp_k (drp_u (drp_k drp_n))) k
set_option maxRecDepth 4000 in
theorem g_X8_name_107 {sc : List Int} {d : Nat} {m : Mem} {Q : Option AV → Mem → Prop} (k : Q (some (aJ 0)) m) : S_X8_name sc d 107 [aR 62, aU, aU] [] m Q := by
  refine x_lconst (pc2 := 108) (v := 0) dX8_name_107 rfl rfl ?_
  exact x_lreturn dX8_name_108 rfl k
theorem c_X8_name_10 {sc : List Int} {d d2 : Nat} {m m2 : Mem} {Q : Option AV → Mem → Prop} {v : Int} (hM : C_X8_look sc d2 [aR 62] m (some (aI v)) m2) (hd : d2 + 1 ≤ d) (k : S_X8_name sc d 13 [aR 62, aU, aU] [aI v] m2 Q) : S_X8_name sc d 10 [aR 62, aU, aU] [aR 62] m Q := x_callV (as := []) (rest := []) hM mk_X8_look mv_X8_look lk_X8_302 (Or.inl ⟨8, (RX8, TX8, 123), ic_62, Nat.le_of_ble_eq_true rfl, rfl, rfl⟩) hd rfl rfl (Nat.le_of_ble_eq_true rfl) dX8_name_10 rfl k
theorem c_X8_name_13 {sc : List Int} {d d2 : Nat} {m m2 : Mem} {Q : Option AV → Mem → Prop} {s0 : Int} {v : Int} (hM : C_X8_isLetter sc d2 [aI s0] m (some (aI v)) m2) (hd : d2 + 1 ≤ d) (k : S_X8_name sc d 16 [aR 62, aU, aU] [aI v] m2 Q) : S_X8_name sc d 13 [aR 62, aU, aU] [aI s0] m Q := x_callS (as := [aI s0]) (rest := []) hM mk_X8_isLetter ms_X8_isLetter lk_X8_306 hd rfl rfl (Nat.le_of_ble_eq_true rfl) dX8_name_13 rfl k
theorem c_X8_name_31 {sc : List Int} {d d2 : Nat} {m m2 : Mem} {Q : Option AV → Mem → Prop} {v : Int} (hM : C_X8_isOwnHere sc d2 [aR 62] m (some (aI v)) m2) (hd : d2 + 1 ≤ d) (k : S_X8_name sc d 34 [aR 62, aU, aU] [aI v] m2 Q) : S_X8_name sc d 31 [aR 62, aU, aU] [aR 62] m Q := x_callV (as := []) (rest := []) hM mk_X8_isOwnHere mv_X8_isOwnHere lk_X8_337 (Or.inl ⟨8, (RX8, TX8, 123), ic_62, Nat.le_of_ble_eq_true rfl, rfl, rfl⟩) hd rfl rfl (Nat.le_of_ble_eq_true rfl) dX8_name_31 rfl k
theorem c_X8_name_43 {sc : List Int} {d d2 : Nat} {m m2 : Mem} {Q : Option AV → Mem → Prop} {s1 s2 : Int} (hM : C_X8_fail sc d2 [aR 62, aI s1, aI s2] m none m2) (hd : d2 + 1 ≤ d) (k : S_X8_name sc d 46 [aR 62, aU, aU] [] m2 Q) : S_X8_name sc d 43 [aR 62, aU, aU] [aI s2, aI s1, aR 62] m Q := x_callV (as := [aI s1, aI s2]) (rest := []) hM mk_X8_fail mv_X8_fail lk_X8_320 (Or.inl ⟨8, (RX8, TX8, 123), ic_62, Nat.le_of_ble_eq_true rfl, rfl, rfl⟩) hd rfl rfl (Nat.le_of_ble_eq_true rfl) dX8_name_43 rfl k
theorem c_X8_name_78 {sc : List Int} {d d2 : Nat} {m m2 : Mem} {Q : Option AV → Mem → Prop} {l1 s0 : Int} {v : Int} (hM : C_X8_isLetter sc d2 [aI s0] m (some (aI v)) m2) (hd : d2 + 1 ≤ d) (k : S_X8_name sc d 81 [aR 62, aJ l1, aU] [aI v] m2 Q) : S_X8_name sc d 78 [aR 62, aJ l1, aU] [aI s0] m Q := x_callS (as := [aI s0]) (rest := []) hM mk_X8_isLetter ms_X8_isLetter lk_X8_306 hd rfl rfl (Nat.le_of_ble_eq_true rfl) dX8_name_78 rfl k
theorem c_X8_name_104 {sc : List Int} {d d2 : Nat} {m m2 : Mem} {Q : Option AV → Mem → Prop} {s1 s2 : Int} (hM : C_X8_fail sc d2 [aR 62, aI s1, aI s2] m none m2) (hd : d2 + 1 ≤ d) (k : S_X8_name sc d 107 [aR 62, aU, aU] [] m2 Q) : S_X8_name sc d 104 [aR 62, aU, aU] [aI s2, aI s1, aR 62] m Q := x_callV (as := [aI s1, aI s2]) (rest := []) hM mk_X8_fail mv_X8_fail lk_X8_320 (Or.inl ⟨8, (RX8, TX8, 123), ic_62, Nat.le_of_ble_eq_true rfl, rfl, rfl⟩) hd rfl rfl (Nat.le_of_ble_eq_true rfl) dX8_name_104 rfl k
set_option maxRecDepth 4000 in
theorem g_X8_isAllowed_0 {sc : List Int} {d : Nat} {m : Mem} {Q : Option AV → Mem → Prop} {l1 : Int} (k : ((-2147483648 ≤ (m 62 54) ∧ (m 62 54) < 2147483648)) ∧ (((m 62 54) = 0) → (-2147483648 ≤ l1 ∧ l1 < 2147483648)) ∧ ((¬ ((m 62 54) = 0)) → (-2147483648 ≤ l1 ∧ l1 < 2147483648)) ∧ Q (some (aI (if (m 62 54) = 0 then (if l1 < 4 then 1 else (if l1 ≤ 6 then 0 else 1 : Int) : Int) else (if 7 ≤ l1 then 0 else 1 : Int) : Int))) m) : S_X8_isAllowed sc d 0 [aR 62, aI l1] [] m Q := by
  refine x_aload_n (pc2 := 1) dX8_isAllowed_0 rfl rfl ?_
  refine x_getf (pc2 := 4) (v := aI (m 62 54)) fl_X8_348 ic_62 (fv_i _ ic_62 rfl) dX8_isAllowed_1 rfl ?_
  obtain ⟨g2, k⟩ := k
  obtain ⟨g4, k⟩ := k
  obtain ⟨g6, k⟩ := k
  have kj : S_X8_isAllowed sc d 37 [aR 62, aI l1] [aI (if (m 62 54) = 0 then (if l1 < 4 then 1 else (if l1 ≤ 6 then 0 else 1 : Int) : Int) else (if 7 ≤ l1 then 0 else 1 : Int) : Int)] m Q := by
    exact x_ireturn dX8_isAllowed_37 (ret_z (by repeat (first | exact Or.inl rfl | exact Or.inr rfl | split))) k
  have h7 := g2 
  refine x_if_eq (tgt := 21) (pc2 := 7) dX8_isAllowed_4 (by decide) rfl h7 (fun c8 => ?_) (fun c8 => ?_)
  · skip
    refine x_iload_n (pc2 := 22) dX8_isAllowed_21 rfl rfl ?_
    refine x_iconst (pc2 := 23) dX8_isAllowed_22 rfl ?_
    have h9 := g4 c8
    refine x_icmp_lt (tgt := 32) (pc2 := 26) dX8_isAllowed_23 (by decide) rfl h9 (by decide) (fun c10 => ?_) (fun c10 => ?_)
    · skip
      refine x_iconst (pc2 := 33) dX8_isAllowed_32 rfl ?_
      refine x_goto (tgt := 37) dX8_isAllowed_33 (by decide) ?_
      exact x_topI (v := (if (m 62 54) = 0 then (if l1 < 4 then 1 else (if l1 ≤ 6 then 0 else 1 : Int) : Int) else (if 7 ≤ l1 then 0 else 1 : Int) : Int)) ((if_pos c8).trans (if_pos c10)) kj
    · skip
      refine x_iload_n (pc2 := 27) dX8_isAllowed_26 rfl rfl ?_
      refine x_bipush (pc2 := 29) dX8_isAllowed_27 rfl rfl ?_
      refine x_icmp_le (tgt := 36) (pc2 := 32) dX8_isAllowed_29 (by decide) rfl h9 (by decide) (fun c11 => ?_) (fun c11 => ?_)
      · skip
        refine x_iconst (pc2 := 37) dX8_isAllowed_36 rfl ?_
        exact x_topI (v := (if (m 62 54) = 0 then (if l1 < 4 then 1 else (if l1 ≤ 6 then 0 else 1 : Int) : Int) else (if 7 ≤ l1 then 0 else 1 : Int) : Int)) ((if_pos c8).trans ((if_neg c10).trans (if_pos c11))) kj
      · skip
        refine x_iconst (pc2 := 33) dX8_isAllowed_32 rfl ?_
        refine x_goto (tgt := 37) dX8_isAllowed_33 (by decide) ?_
        exact x_topI (v := (if (m 62 54) = 0 then (if l1 < 4 then 1 else (if l1 ≤ 6 then 0 else 1 : Int) : Int) else (if 7 ≤ l1 then 0 else 1 : Int) : Int)) ((if_pos c8).trans ((if_neg c10).trans (if_neg c11))) kj
  · skip
    refine x_iload_n (pc2 := 8) dX8_isAllowed_7 rfl rfl ?_
    refine x_bipush (pc2 := 10) dX8_isAllowed_8 rfl rfl ?_
    have h12 := g6 c8
    refine x_icmp_ge (tgt := 17) (pc2 := 13) dX8_isAllowed_10 (by decide) rfl h12 (by decide) (fun c13 => ?_) (fun c13 => ?_)
    · skip
      refine x_iconst (pc2 := 18) dX8_isAllowed_17 rfl ?_
      refine x_goto (tgt := 37) dX8_isAllowed_18 (by decide) ?_
      exact x_topI (v := (if (m 62 54) = 0 then (if l1 < 4 then 1 else (if l1 ≤ 6 then 0 else 1 : Int) : Int) else (if 7 ≤ l1 then 0 else 1 : Int) : Int)) ((if_neg c8).trans (if_pos c13)) kj
    · skip
      refine x_iconst (pc2 := 14) dX8_isAllowed_13 rfl ?_
      refine x_goto (tgt := 37) dX8_isAllowed_14 (by decide) ?_
      exact x_topI (v := (if (m 62 54) = 0 then (if l1 < 4 then 1 else (if l1 ≤ 6 then 0 else 1 : Int) : Int) else (if 7 ≤ l1 then 0 else 1 : Int) : Int)) ((if_neg c8).trans (if_neg c13)) kj
set_option maxRecDepth 4000 in
theorem g_X8_newName_0 {sc : List Int} {d : Nat} {m : Mem} {Q : Option AV → Mem → Prop} (k : S_X8_newName sc d 1 [aR 62, aU, aU, aU, aU] [aR 62] m Q) : S_X8_newName sc d 0 [aR 62, aU, aU, aU, aU] [] m Q := by
  refine x_aload_n (pc2 := 1) dX8_newName_0 rfl rfl ?_
  exact k
set_option maxRecDepth 4000 in
theorem g_X8_newName_4 {sc : List Int} {d : Nat} {m : Mem} {Q : Option AV → Mem → Prop} {s0 : Int} (k : S_X8_newName sc d 7 [aR 62, aJ s0, aU, aI 1, aU] [] m Q) : S_X8_newName sc d 4 [aR 62, aU, aU, aU, aU] [aJ s0] m Q := by
  refine x_lstore_n (pc2 := 5) (ls2 := [aR 62, aJ s0, aU, aU, aU]) dX8_newName_4 rfl (by decide) rfl ?_
  refine x_iconst (pc2 := 6) dX8_newName_5 rfl ?_
  refine x_istore_n (pc2 := 7) (ls2 := [aR 62, aJ s0, aU, aI 1, aU]) dX8_newName_6 rfl (by decide) rfl ?_
  exact k
set_option maxRecDepth 4000 in
theorem g_X8_newName_7 {sc : List Int} {d : Nat} {m : Mem} {Q : Option AV → Mem → Prop} {l1 l3 : Int} (k : (-2147483648 ≤ l3 ∧ l3 < 2147483648) ∧ ((3 ≤ l3) → (Q (some (aJ l1)) m)) ∧ (¬ (3 ≤ l3) → (S_X8_newName sc d 15 [aR 62, aJ l1, aU, aI l3, aI 0] [] m Q))) : S_X8_newName sc d 7 [aR 62, aJ l1, aU, aI l3, aU] [] m Q := by
  refine x_iload_n (pc2 := 8) dX8_newName_7 rfl rfl ?_
  refine x_iconst (pc2 := 9) dX8_newName_8 rfl ?_
  obtain ⟨h1, k⟩ := k
  obtain ⟨k1, k2⟩ := k
  refine x_icmp_ge (tgt := 73) (pc2 := 12) dX8_newName_9 (by decide) rfl h1 (by decide) (fun c2 => ?_) (fun c2 => ?_)
  · replace k := k1 c2
    refine x_lload_n (pc2 := 74) dX8_newName_73 rfl rfl ?_
    exact x_lreturn dX8_newName_74 rfl k
  · replace k := k2 c2
    refine x_iconst (pc2 := 13) dX8_newName_12 rfl ?_
    refine x_istore (pc2 := 15) (ls2 := [aR 62, aJ l1, aU, aI l3, aI 0]) dX8_newName_13 rfl (by decide) rfl ?_
    exact k
set_option maxRecDepth 4000 in
theorem g_X8_newName_15 {sc : List Int} {d : Nat} {m : Mem} {Q : Option AV → Mem → Prop} {l1 l3 l4 : Int} (k : (0 ≤ l3) ∧ (l3 < 6) ∧ (-2147483648 ≤ l4 ∧ l4 < 2147483648) ∧ (-2147483648 ≤ (m 95 l3) ∧ (m 95 l3) < 2147483648) ∧ (((m 95 l3) ≤ l4) → (S_X8_newName sc d 7 [aR 62, aJ l1, aU, aI (l3 + 1), aU] [] m Q)) ∧ (¬ ((m 95 l3) ≤ l4) → ((-2147483648 ≤ (m 62 5) ∧ (m 62 5) < 2147483648) ∧ (((m 62 5) ≠ 0) → (S_X8_newName sc d 61 [aR 62, aJ l1, aU, aI l3, aI l4] [] m Q)) ∧ (¬ ((m 62 5) ≠ 0) → ((0 ≤ ((10 * (l3 - 1)) + l4)) ∧ (((10 * (l3 - 1)) + l4) < 40) ∧ (-9223372036854775808 ≤ (m 96 ((10 * (l3 - 1)) + l4)) ∧ (m 96 ((10 * (l3 - 1)) + l4)) < 9223372036854775808) ∧ (-9223372036854775808 ≤ l1 ∧ l1 < 9223372036854775808) ∧ (((m 96 ((10 * (l3 - 1)) + l4)) ≠ l1) → (S_X8_newName sc d 61 [aR 62, aJ l1, aU, aI l3, aI l4] [] m Q)) ∧ (¬ ((m 96 ((10 * (l3 - 1)) + l4)) ≠ l1) → (S_X8_newName sc d 58 [aR 62, aJ l1, aU, aI l3, aI l4] [aI (m 62 41), aI 3, aR 62] m Q))))))) : S_X8_newName sc d 15 [aR 62, aJ l1, aU, aI l3, aI l4] [] m Q := by
  refine x_iload (pc2 := 17) dX8_newName_15 rfl rfl ?_
  refine x_aload_n (pc2 := 18) dX8_newName_17 rfl rfl ?_
  refine x_getf (pc2 := 21) (v := aR 95) fl_X8_111 ic_62 (vr_62_42 _) dX8_newName_18 rfl ?_
  refine x_iload_n (pc2 := 22) dX8_newName_21 rfl rfl ?_
  obtain ⟨h1, k⟩ := k
  obtain ⟨h2, k⟩ := k
  refine x_iald (pc2 := 23) ic_95 h1 (by rw [al_95]; exact h2) dX8_newName_22 rfl ?_
  obtain ⟨h3, k⟩ := k
  obtain ⟨h4, k⟩ := k
  obtain ⟨k1, k2⟩ := k
  refine x_icmp_ge (tgt := 67) (pc2 := 26) dX8_newName_23 (by decide) rfl h3 h4 (fun c5 => ?_) (fun c5 => ?_)
  · replace k := k1 c5
    refine x_iinc (pc2 := 70) (ls2 := [aR 62, aJ l1, aU, aI (l3 + 1), aI l4]) dX8_newName_67 rfl rfl (by decide) rfl ?_
    refine x_goto (tgt := 7) dX8_newName_70 (by decide) ?_
    exact x_drop (drp_k (drp_k (drp_k (drp_k (drp_u drp_n))))) k
  · replace k := k2 c5
    refine x_aload_n (pc2 := 27) dX8_newName_26 rfl rfl ?_
    refine x_getf (pc2 := 30) (v := aI (m 62 5)) fl_X8_290 ic_62 (fv_i _ ic_62 rfl) dX8_newName_27 rfl ?_
    obtain ⟨h6, k⟩ := k
    obtain ⟨k1, k2⟩ := k
    refine x_if_ne (tgt := 61) (pc2 := 33) dX8_newName_30 (by decide) rfl h6 (fun c7 => ?_) (fun c7 => ?_)
    · replace k := k1 c7
      exact k
    · replace k := k2 c7
      refine x_aload_n (pc2 := 34) dX8_newName_33 rfl rfl ?_
      refine x_getf (pc2 := 37) (v := aR 96) fl_X8_114 ic_62 (vr_62_43 _) dX8_newName_34 rfl ?_
      refine x_bipush (pc2 := 39) dX8_newName_37 rfl rfl ?_
      refine x_iload_n (pc2 := 40) dX8_newName_39 rfl rfl ?_
      refine x_iconst (pc2 := 41) dX8_newName_40 rfl ?_
      refine x_isub (pc2 := 42) dX8_newName_41 rfl ?_
      refine x_imul (pc2 := 43) dX8_newName_42 rfl ?_
      refine x_iload (pc2 := 45) dX8_newName_43 rfl rfl ?_
      refine x_iadd (pc2 := 46) dX8_newName_45 rfl ?_
      obtain ⟨h8, k⟩ := k
      obtain ⟨h9, k⟩ := k
      refine x_lald (pc2 := 47) ic_96 h8 (by rw [al_96]; exact h9) dX8_newName_46 rfl ?_
      refine x_lload_n (pc2 := 48) dX8_newName_47 rfl rfl ?_
      obtain ⟨h10, k⟩ := k
      obtain ⟨h11, k⟩ := k
      obtain ⟨k1, k2⟩ := k
      refine x_lc_ne (tgt := 61) (pc2 := 52) dX8_newName_48 dX8_newName_49 (by decide) rfl h10 h11 (fun c12 => ?_) (fun c12 => ?_)
      · replace k := k1 c12
        exact k
      · replace k := k2 c12
        refine x_aload_n (pc2 := 53) dX8_newName_52 rfl rfl ?_
        refine x_iconst (pc2 := 54) dX8_newName_53 rfl ?_
        refine x_aload_n (pc2 := 55) dX8_newName_54 rfl rfl ?_
        refine x_getf (pc2 := 58) (v := aI (m 62 41)) fl_X8_341 ic_62 (fv_i _ ic_62 rfl) dX8_newName_55 rfl ?_
        exact k
set_option maxRecDepth 4000 in
theorem g_X8_newName_61 {sc : List Int} {d : Nat} {m : Mem} {Q : Option AV → Mem → Prop} {l1 l3 l4 : Int} (k : S_X8_newName sc d 15 [aR 62, aJ l1, aU, aI l3, aI (l4 + 1)] [] m Q) : S_X8_newName sc d 61 [aR 62, aJ l1, aU, aI l3, aI l4] [] m Q := by
  refine x_iinc (pc2 := 64) (ls2 := [aR 62, aJ l1, aU, aI l3, aI (l4 + 1)]) dX8_newName_61 rfl rfl (by decide) rfl ?_
  refine x_goto (tgt := 15) dX8_newName_64 (by decide) ?_
  exact k
theorem c_X8_newName_1 {sc : List Int} {d d2 : Nat} {m m2 : Mem} {Q : Option AV → Mem → Prop} {v : Int} (hM : C_X8_name sc d2 [aR 62] m (some (aJ v)) m2) (hd : d2 + 1 ≤ d) (k : S_X8_newName sc d 4 [aR 62, aU, aU, aU, aU] [aJ v] m2 Q) : S_X8_newName sc d 1 [aR 62, aU, aU, aU, aU] [aR 62] m Q := x_callV (as := []) (rest := []) hM mk_X8_name mv_X8_name lk_X8_352 (Or.inl ⟨8, (RX8, TX8, 123), ic_62, Nat.le_of_ble_eq_true rfl, rfl, rfl⟩) hd rfl rfl (Nat.le_of_ble_eq_true rfl) dX8_newName_1 rfl k
theorem c_X8_newName_58 {sc : List Int} {d d2 : Nat} {m m2 : Mem} {Q : Option AV → Mem → Prop} {l1 l3 l4 s1 s2 : Int} (hM : C_X8_fail sc d2 [aR 62, aI s1, aI s2] m none m2) (hd : d2 + 1 ≤ d) (k : S_X8_newName sc d 61 [aR 62, aJ l1, aU, aI l3, aI l4] [] m2 Q) : S_X8_newName sc d 58 [aR 62, aJ l1, aU, aI l3, aI l4] [aI s2, aI s1, aR 62] m Q := x_callV (as := [aI s1, aI s2]) (rest := []) hM mk_X8_fail mv_X8_fail lk_X8_320 (Or.inl ⟨8, (RX8, TX8, 123), ic_62, Nat.le_of_ble_eq_true rfl, rfl, rfl⟩) hd rfl rfl (Nat.le_of_ble_eq_true rfl) dX8_newName_58 rfl k
set_option maxRecDepth 4000 in
theorem g_X8_lengthTold_0 {sc : List Int} {d : Nat} {m : Mem} {Q : Option AV → Mem → Prop} (k : S_X8_lengthTold sc d 5 [aR 62, aU, aU] [aR 66, aR 62] m Q) : S_X8_lengthTold sc d 0 [aR 62, aU, aU] [] m Q := by
  refine x_aload_n (pc2 := 1) dX8_lengthTold_0 rfl rfl ?_
  refine x_aload_n (pc2 := 2) dX8_lengthTold_1 rfl rfl ?_
  refine x_getf (pc2 := 5) (v := aR 66) fl_X8_24 ic_62 (vr_62_12 _) dX8_lengthTold_2 rfl ?_
  exact k
set_option maxRecDepth 4000 in
theorem g_X8_lengthTold_8 {sc : List Int} {d : Nat} {m : Mem} {Q : Option AV → Mem → Prop} {s0 : Int} (k : (-2147483648 ≤ s0 ∧ s0 < 2147483648) ∧ ((s0 = 0) → (S_X8_lengthTold sc d 37 [aR 62, aU, aU] [aR 66, aR 62] m Q)) ∧ (¬ (s0 = 0) → ((-2147483648 ≤ (m 95 0) ∧ (m 95 0) < 2147483648) ∧ (((m 95 0) ≠ 6) → (S_X8_lengthTold sc d 37 [aR 62, aU, aU] [aR 66, aR 62] m Q)) ∧ (¬ ((m 95 0) ≠ 6) → (S_X8_lengthTold sc d 28 [aR 62, aU, aU] [aI (m 62 2), aI 5, aR 62] m Q))))) : S_X8_lengthTold sc d 8 [aR 62, aU, aU] [aI s0] m Q := by
  obtain ⟨h1, k⟩ := k
  obtain ⟨k1, k2⟩ := k
  refine x_if_eq (tgt := 32) (pc2 := 11) dX8_lengthTold_8 (by decide) rfl h1 (fun c2 => ?_) (fun c2 => ?_)
  · replace k := k1 c2
    refine x_aload_n (pc2 := 33) dX8_lengthTold_32 rfl rfl ?_
    refine x_aload_n (pc2 := 34) dX8_lengthTold_33 rfl rfl ?_
    refine x_getf (pc2 := 37) (v := aR 66) fl_X8_24 ic_62 (vr_62_12 _) dX8_lengthTold_34 rfl ?_
    exact k
  · replace k := k2 c2
    refine x_aload_n (pc2 := 12) dX8_lengthTold_11 rfl rfl ?_
    refine x_getf (pc2 := 15) (v := aR 95) fl_X8_111 ic_62 (vr_62_42 _) dX8_lengthTold_12 rfl ?_
    refine x_iconst (pc2 := 16) dX8_lengthTold_15 rfl ?_
    refine x_iald (pc2 := 17) ic_95 (by decide) (by rw [al_95]; decide) dX8_lengthTold_16 rfl ?_
    refine x_bipush (pc2 := 19) dX8_lengthTold_17 rfl rfl ?_
    obtain ⟨h3, k⟩ := k
    obtain ⟨k1, k2⟩ := k
    refine x_icmp_ne (tgt := 32) (pc2 := 22) dX8_lengthTold_19 (by decide) rfl h3 (by decide) (fun c4 => ?_) (fun c4 => ?_)
    · replace k := k1 c4
      refine x_aload_n (pc2 := 33) dX8_lengthTold_32 rfl rfl ?_
      refine x_aload_n (pc2 := 34) dX8_lengthTold_33 rfl rfl ?_
      refine x_getf (pc2 := 37) (v := aR 66) fl_X8_24 ic_62 (vr_62_12 _) dX8_lengthTold_34 rfl ?_
      exact k
    · replace k := k2 c4
      refine x_aload_n (pc2 := 23) dX8_lengthTold_22 rfl rfl ?_
      refine x_iconst (pc2 := 24) dX8_lengthTold_23 rfl ?_
      refine x_aload_n (pc2 := 25) dX8_lengthTold_24 rfl rfl ?_
      refine x_getf (pc2 := 28) (v := aI (m 62 2)) fl_X8_296 ic_62 (fv_i _ ic_62 rfl) dX8_lengthTold_25 rfl ?_
      exact k
set_option maxRecDepth 4000 in
theorem g_X8_lengthTold_31 {sc : List Int} {d : Nat} {m : Mem} {Q : Option AV → Mem → Prop} (k : Q none m) : S_X8_lengthTold sc d 31 [aR 62, aU, aU] [] m Q := by
  exact x_return dX8_lengthTold_31 rfl k
set_option maxRecDepth 4000 in
theorem g_X8_lengthTold_40 {sc : List Int} {d : Nat} {m : Mem} {Q : Option AV → Mem → Prop} (k : S_X8_lengthTold sc d 44 [aR 62, aU, aU] [aI 99, aI 1, aR 62] m Q) : S_X8_lengthTold sc d 40 [aR 62, aU, aU] [] m Q := by
  refine x_aload_n (pc2 := 41) dX8_lengthTold_40 rfl rfl ?_
  refine x_iconst (pc2 := 42) dX8_lengthTold_41 rfl ?_
  refine x_bipush (pc2 := 44) dX8_lengthTold_42 rfl rfl ?_
  exact k
set_option maxRecDepth 4000 in
theorem g_X8_lengthTold_47 {sc : List Int} {d : Nat} {m : Mem} {Q : Option AV → Mem → Prop} {s0 : Int} (k : S_X8_lengthTold sc d 50 [aR 62, aI s0, aI 0] [] m Q) : S_X8_lengthTold sc d 47 [aR 62, aU, aU] [aI s0] m Q := by
  refine x_istore_n (pc2 := 48) (ls2 := [aR 62, aI s0, aU]) dX8_lengthTold_47 rfl (by decide) rfl ?_
  refine x_iconst (pc2 := 49) dX8_lengthTold_48 rfl ?_
  refine x_istore_n (pc2 := 50) (ls2 := [aR 62, aI s0, aI 0]) dX8_lengthTold_49 rfl (by decide) rfl ?_
  exact k
set_option maxRecDepth 4000 in
theorem g_X8_lengthTold_50 {sc : List Int} {d : Nat} {m : Mem} {Q : Option AV → Mem → Prop} {l1 l2 : Int} (k : (-2147483648 ≤ l2 ∧ l2 < 2147483648) ∧ (-2147483648 ≤ (m 95 0) ∧ (m 95 0) < 2147483648) ∧ (((m 95 0) ≤ l2) → (S_X8_lengthTold sc d 97 [aR 62, aI l1, aU] [aR 67, aR 62] m Q)) ∧ (¬ ((m 95 0) ≤ l2) → ((-2147483648 ≤ (m 62 5) ∧ (m 62 5) < 2147483648) ∧ (((m 62 5) ≠ 0) → (S_X8_lengthTold sc d 86 [aR 62, aI l1, aI l2] [] m Q)) ∧ (¬ ((m 62 5) ≠ 0) → ((0 ≤ l2) ∧ (l2 < 12) ∧ (-2147483648 ≤ (m 97 l2) ∧ (m 97 l2) < 2147483648) ∧ (-2147483648 ≤ l1 ∧ l1 < 2147483648) ∧ (((m 97 l2) ≠ l1) → (S_X8_lengthTold sc d 86 [aR 62, aI l1, aI l2] [] m Q)) ∧ (¬ ((m 97 l2) ≠ l1) → (S_X8_lengthTold sc d 83 [aR 62, aI l1, aI l2] [aI (m 62 10), aI 2, aR 62] m Q))))))) : S_X8_lengthTold sc d 50 [aR 62, aI l1, aI l2] [] m Q := by
  refine x_iload_n (pc2 := 51) dX8_lengthTold_50 rfl rfl ?_
  refine x_aload_n (pc2 := 52) dX8_lengthTold_51 rfl rfl ?_
  refine x_getf (pc2 := 55) (v := aR 95) fl_X8_111 ic_62 (vr_62_42 _) dX8_lengthTold_52 rfl ?_
  refine x_iconst (pc2 := 56) dX8_lengthTold_55 rfl ?_
  refine x_iald (pc2 := 57) ic_95 (by decide) (by rw [al_95]; decide) dX8_lengthTold_56 rfl ?_
  obtain ⟨h1, k⟩ := k
  obtain ⟨h2, k⟩ := k
  obtain ⟨k1, k2⟩ := k
  refine x_icmp_ge (tgt := 92) (pc2 := 60) dX8_lengthTold_57 (by decide) rfl h1 h2 (fun c3 => ?_) (fun c3 => ?_)
  · replace k := k1 c3
    refine x_aload_n (pc2 := 93) dX8_lengthTold_92 rfl rfl ?_
    refine x_aload_n (pc2 := 94) dX8_lengthTold_93 rfl rfl ?_
    refine x_getf (pc2 := 97) (v := aR 67) fl_X8_27 ic_62 (vr_62_13 _) dX8_lengthTold_94 rfl ?_
    exact x_drop (drp_k (drp_k (drp_u drp_n))) k
  · replace k := k2 c3
    refine x_aload_n (pc2 := 61) dX8_lengthTold_60 rfl rfl ?_
    refine x_getf (pc2 := 64) (v := aI (m 62 5)) fl_X8_290 ic_62 (fv_i _ ic_62 rfl) dX8_lengthTold_61 rfl ?_
    obtain ⟨h4, k⟩ := k
    obtain ⟨k1, k2⟩ := k
    refine x_if_ne (tgt := 86) (pc2 := 67) dX8_lengthTold_64 (by decide) rfl h4 (fun c5 => ?_) (fun c5 => ?_)
    · replace k := k1 c5
      exact k
    · replace k := k2 c5
      refine x_aload_n (pc2 := 68) dX8_lengthTold_67 rfl rfl ?_
      refine x_getf (pc2 := 71) (v := aR 97) fl_X8_118 ic_62 (vr_62_44 _) dX8_lengthTold_68 rfl ?_
      refine x_iload_n (pc2 := 72) dX8_lengthTold_71 rfl rfl ?_
      obtain ⟨h6, k⟩ := k
      obtain ⟨h7, k⟩ := k
      refine x_iald (pc2 := 73) ic_97 h6 (by rw [al_97]; exact h7) dX8_lengthTold_72 rfl ?_
      refine x_iload_n (pc2 := 74) dX8_lengthTold_73 rfl rfl ?_
      obtain ⟨h8, k⟩ := k
      obtain ⟨h9, k⟩ := k
      obtain ⟨k1, k2⟩ := k
      refine x_icmp_ne (tgt := 86) (pc2 := 77) dX8_lengthTold_74 (by decide) rfl h8 h9 (fun c10 => ?_) (fun c10 => ?_)
      · replace k := k1 c10
        exact k
      · replace k := k2 c10
        refine x_aload_n (pc2 := 78) dX8_lengthTold_77 rfl rfl ?_
        refine x_iconst (pc2 := 79) dX8_lengthTold_78 rfl ?_
        refine x_aload_n (pc2 := 80) dX8_lengthTold_79 rfl rfl ?_
        refine x_getf (pc2 := 83) (v := aI (m 62 10)) fl_X8_330 ic_62 (fv_i _ ic_62 rfl) dX8_lengthTold_80 rfl ?_
        exact k
set_option maxRecDepth 4000 in
theorem g_X8_lengthTold_86 {sc : List Int} {d : Nat} {m : Mem} {Q : Option AV → Mem → Prop} {l1 l2 : Int} (k : S_X8_lengthTold sc d 50 [aR 62, aI l1, aI (l2 + 1)] [] m Q) : S_X8_lengthTold sc d 86 [aR 62, aI l1, aI l2] [] m Q := by
  refine x_iinc (pc2 := 89) (ls2 := [aR 62, aI l1, aI (l2 + 1)]) dX8_lengthTold_86 rfl rfl (by decide) rfl ?_
  refine x_goto (tgt := 50) dX8_lengthTold_89 (by decide) ?_
  exact k
set_option maxRecDepth 4000 in
theorem g_X8_lengthTold_100 {sc : List Int} {d : Nat} {m : Mem} {Q : Option AV → Mem → Prop} {l1 : Int} (k : S_X8_lengthTold sc d 104 [aR 62, aI l1, aU] [aI 100, aI 1, aR 62] m Q) : S_X8_lengthTold sc d 100 [aR 62, aI l1, aU] [] m Q := by
  refine x_aload_n (pc2 := 101) dX8_lengthTold_100 rfl rfl ?_
  refine x_iconst (pc2 := 102) dX8_lengthTold_101 rfl ?_
  refine x_bipush (pc2 := 104) dX8_lengthTold_102 rfl rfl ?_
  exact k
set_option maxRecDepth 4000 in
theorem g_X8_lengthTold_107 {sc : List Int} {d : Nat} {m : Mem} {Q : Option AV → Mem → Prop} {l1 s0 : Int} (k : (-2147483648 ≤ (m 62 5) ∧ (m 62 5) < 2147483648) ∧ (((m 62 5) ≠ 0) → (S_X8_lengthTold sc d 135 [aR 62, aI l1, aI s0] [] m Q)) ∧ (¬ ((m 62 5) ≠ 0) → (S_X8_lengthTold sc d 116 [aR 62, aI l1, aI s0] [aR 62] m Q))) : S_X8_lengthTold sc d 107 [aR 62, aI l1, aU] [aI s0] m Q := by
  refine x_istore_n (pc2 := 108) (ls2 := [aR 62, aI l1, aI s0]) dX8_lengthTold_107 rfl (by decide) rfl ?_
  refine x_aload_n (pc2 := 109) dX8_lengthTold_108 rfl rfl ?_
  refine x_getf (pc2 := 112) (v := aI (m 62 5)) fl_X8_290 ic_62 (fv_i _ ic_62 rfl) dX8_lengthTold_109 rfl ?_
  obtain ⟨h1, k⟩ := k
  obtain ⟨k1, k2⟩ := k
  refine x_if_ne (tgt := 135) (pc2 := 115) dX8_lengthTold_112 (by decide) rfl h1 (fun c2 => ?_) (fun c2 => ?_)
  · replace k := k1 c2
    exact k
  · replace k := k2 c2
    refine x_aload_n (pc2 := 116) dX8_lengthTold_115 rfl rfl ?_
    exact k
set_option maxRecDepth 4000 in
theorem g_X8_lengthTold_119 {sc : List Int} {d : Nat} {m : Mem} {Q : Option AV → Mem → Prop} {l1 l2 s0 : Int} (k : (-2147483648 ≤ (s0 + l2) ∧ (s0 + l2) < 2147483648) ∧ (((s0 + l2) ≤ 100) → (S_X8_lengthTold sc d 135 [aR 62, aI l1, aI l2] [] m Q)) ∧ (¬ ((s0 + l2) ≤ 100) → (S_X8_lengthTold sc d 132 [aR 62, aI l1, aI l2] [aI (m 62 10), aI 2, aR 62] m Q))) : S_X8_lengthTold sc d 119 [aR 62, aI l1, aI l2] [aI s0] m Q := by
  refine x_iload_n (pc2 := 120) dX8_lengthTold_119 rfl rfl ?_
  refine x_iadd (pc2 := 121) dX8_lengthTold_120 rfl ?_
  refine x_bipush (pc2 := 123) dX8_lengthTold_121 rfl rfl ?_
  obtain ⟨h1, k⟩ := k
  obtain ⟨k1, k2⟩ := k
  refine x_icmp_le (tgt := 135) (pc2 := 126) dX8_lengthTold_123 (by decide) rfl h1 (by decide) (fun c2 => ?_) (fun c2 => ?_)
  · replace k := k1 c2
    exact k
  · replace k := k2 c2
    refine x_aload_n (pc2 := 127) dX8_lengthTold_126 rfl rfl ?_
    refine x_iconst (pc2 := 128) dX8_lengthTold_127 rfl ?_
    refine x_aload_n (pc2 := 129) dX8_lengthTold_128 rfl rfl ?_
    refine x_getf (pc2 := 132) (v := aI (m 62 10)) fl_X8_330 ic_62 (fv_i _ ic_62 rfl) dX8_lengthTold_129 rfl ?_
    exact k
set_option maxRecDepth 4000 in
theorem g_X8_lengthTold_135 {sc : List Int} {d : Nat} {m : Mem} {Q : Option AV → Mem → Prop} {l1 l2 : Int} (k : (-2147483648 ≤ (m 62 5) ∧ (m 62 5) < 2147483648) ∧ (((m 62 5) = 0) → ((0 ≤ (m 95 0)) ∧ ((m 95 0) < 12) ∧ (0 ≤ ((wr m 97 (m 95 0) l1) 95 0)) ∧ (((wr m 97 (m 95 0) l1) 95 0) < 12) ∧ Q none (wr (wr (wr m 97 (m 95 0) l1) 98 ((wr m 97 (m 95 0) l1) 95 0) l2) 95 0 (((wr (wr m 97 (m 95 0) l1) 98 ((wr m 97 (m 95 0) l1) 95 0) l2) 95 0) + 1)))) ∧ (¬ ((m 62 5) = 0) → (Q none m))) : S_X8_lengthTold sc d 135 [aR 62, aI l1, aI l2] [] m Q := by
  refine x_aload_n (pc2 := 136) dX8_lengthTold_135 rfl rfl ?_
  refine x_getf (pc2 := 139) (v := aI (m 62 5)) fl_X8_290 ic_62 (fv_i _ ic_62 rfl) dX8_lengthTold_136 rfl ?_
  obtain ⟨h1, k⟩ := k
  obtain ⟨k1, k2⟩ := k
  refine x_if_eq (tgt := 143) (pc2 := 142) dX8_lengthTold_139 (by decide) rfl h1 (fun c2 => ?_) (fun c2 => ?_)
  · replace k := k1 c2
    refine x_aload_n (pc2 := 144) dX8_lengthTold_143 rfl rfl ?_
    refine x_getf (pc2 := 147) (v := aR 97) fl_X8_118 ic_62 (vr_62_44 _) dX8_lengthTold_144 rfl ?_
    refine x_aload_n (pc2 := 148) dX8_lengthTold_147 rfl rfl ?_
    refine x_getf (pc2 := 151) (v := aR 95) fl_X8_111 ic_62 (vr_62_42 _) dX8_lengthTold_148 rfl ?_
    refine x_iconst (pc2 := 152) dX8_lengthTold_151 rfl ?_
    refine x_iald (pc2 := 153) ic_95 (by decide) (by rw [al_95]; decide) dX8_lengthTold_152 rfl ?_
    refine x_iload_n (pc2 := 154) dX8_lengthTold_153 rfl rfl ?_
    obtain ⟨h3, k⟩ := k
    obtain ⟨h4, k⟩ := k
    refine x_iast (pc2 := 155) ic_97 h3 (by rw [al_97]; exact h4) dX8_lengthTold_154 rfl ?_
    refine x_aload_n (pc2 := 156) dX8_lengthTold_155 rfl rfl ?_
    refine x_getf (pc2 := 159) (v := aR 98) fl_X8_121 ic_62 (vr_62_45 _) dX8_lengthTold_156 rfl ?_
    refine x_aload_n (pc2 := 160) dX8_lengthTold_159 rfl rfl ?_
    refine x_getf (pc2 := 163) (v := aR 95) fl_X8_111 ic_62 (vr_62_42 _) dX8_lengthTold_160 rfl ?_
    refine x_iconst (pc2 := 164) dX8_lengthTold_163 rfl ?_
    refine x_iald (pc2 := 165) ic_95 (by decide) (by rw [al_95]; decide) dX8_lengthTold_164 rfl ?_
    refine x_iload_n (pc2 := 166) dX8_lengthTold_165 rfl rfl ?_
    obtain ⟨h5, k⟩ := k
    obtain ⟨h6, k⟩ := k
    refine x_iast (pc2 := 167) ic_98 h5 (by rw [al_98]; exact h6) dX8_lengthTold_166 rfl ?_
    refine x_aload_n (pc2 := 168) dX8_lengthTold_167 rfl rfl ?_
    refine x_getf (pc2 := 171) (v := aR 95) fl_X8_111 ic_62 (vr_62_42 _) dX8_lengthTold_168 rfl ?_
    refine x_iconst (pc2 := 172) dX8_lengthTold_171 rfl ?_
    refine x_dup2_ri (pc2 := 173) dX8_lengthTold_172 rfl (by decide) ?_
    refine x_iald (pc2 := 174) ic_95 (by decide) (by rw [al_95]; decide) dX8_lengthTold_173 rfl ?_
    refine x_iconst (pc2 := 175) dX8_lengthTold_174 rfl ?_
    refine x_iadd (pc2 := 176) dX8_lengthTold_175 rfl ?_
    refine x_iast (pc2 := 177) ic_95 (by decide) (by rw [al_95]; decide) dX8_lengthTold_176 rfl ?_
    exact x_return dX8_lengthTold_177 rfl k
  · replace k := k2 c2
    exact x_return dX8_lengthTold_142 rfl k
theorem c_X8_lengthTold_5 {sc : List Int} {d d2 : Nat} {m m2 : Mem} {Q : Option AV → Mem → Prop} {s1 : Int} {v : Int} (Hs1 : IsC s1 102) (hM : C_X8_isHere sc d2 [aR 62, aR s1] m (some (aI v)) m2) (hd : d2 + 1 ≤ d) (k : S_X8_lengthTold sc d 8 [aR 62, aU, aU] [aI v] m2 Q) : S_X8_lengthTold sc d 5 [aR 62, aU, aU] [aR s1, aR 62] m Q := x_callV (as := [aR s1]) (rest := []) hM mk_X8_isHere mv_X8_isHere lk_X8_313 (Or.inl ⟨8, (RX8, TX8, 123), ic_62, Nat.le_of_ble_eq_true rfl, rfl, rfl⟩) hd rfl rfl (Nat.le_of_ble_eq_true rfl) dX8_lengthTold_5 rfl k
theorem c_X8_lengthTold_28 {sc : List Int} {d d2 : Nat} {m m2 : Mem} {Q : Option AV → Mem → Prop} {s1 s2 : Int} (hM : C_X8_fail sc d2 [aR 62, aI s1, aI s2] m none m2) (hd : d2 + 1 ≤ d) (k : S_X8_lengthTold sc d 31 [aR 62, aU, aU] [] m2 Q) : S_X8_lengthTold sc d 28 [aR 62, aU, aU] [aI s2, aI s1, aR 62] m Q := x_callV (as := [aI s1, aI s2]) (rest := []) hM mk_X8_fail mv_X8_fail lk_X8_320 (Or.inl ⟨8, (RX8, TX8, 123), ic_62, Nat.le_of_ble_eq_true rfl, rfl, rfl⟩) hd rfl rfl (Nat.le_of_ble_eq_true rfl) dX8_lengthTold_28 rfl k
theorem c_X8_lengthTold_37 {sc : List Int} {d d2 : Nat} {m m2 : Mem} {Q : Option AV → Mem → Prop} {s1 : Int} (Hs1 : IsC s1 102) (hM : C_X8_asks sc d2 [aR 62, aR s1] m none m2) (hd : d2 + 1 ≤ d) (k : S_X8_lengthTold sc d 40 [aR 62, aU, aU] [] m2 Q) : S_X8_lengthTold sc d 37 [aR 62, aU, aU] [aR s1, aR 62] m Q := x_callV (as := [aR s1]) (rest := []) hM mk_X8_asks mv_X8_asks lk_X8_356 (Or.inl ⟨8, (RX8, TX8, 123), ic_62, Nat.le_of_ble_eq_true rfl, rfl, rfl⟩) hd rfl rfl (Nat.le_of_ble_eq_true rfl) dX8_lengthTold_37 rfl k
theorem c_X8_lengthTold_44 {sc : List Int} {d d2 : Nat} {m m2 : Mem} {Q : Option AV → Mem → Prop} {s1 s2 : Int} {v : Int} (hM : C_X8_number sc d2 [aR 62, aI s1, aI s2] m (some (aI v)) m2) (hd : d2 + 1 ≤ d) (k : S_X8_lengthTold sc d 47 [aR 62, aU, aU] [aI v] m2 Q) : S_X8_lengthTold sc d 44 [aR 62, aU, aU] [aI s2, aI s1, aR 62] m Q := x_callV (as := [aI s1, aI s2]) (rest := []) hM mk_X8_number mv_X8_number lk_X8_360 (Or.inl ⟨8, (RX8, TX8, 123), ic_62, Nat.le_of_ble_eq_true rfl, rfl, rfl⟩) hd rfl rfl (Nat.le_of_ble_eq_true rfl) dX8_lengthTold_44 rfl k
theorem c_X8_lengthTold_83 {sc : List Int} {d d2 : Nat} {m m2 : Mem} {Q : Option AV → Mem → Prop} {l1 l2 s1 s2 : Int} (hM : C_X8_fail sc d2 [aR 62, aI s1, aI s2] m none m2) (hd : d2 + 1 ≤ d) (k : S_X8_lengthTold sc d 86 [aR 62, aI l1, aI l2] [] m2 Q) : S_X8_lengthTold sc d 83 [aR 62, aI l1, aI l2] [aI s2, aI s1, aR 62] m Q := x_callV (as := [aI s1, aI s2]) (rest := []) hM mk_X8_fail mv_X8_fail lk_X8_320 (Or.inl ⟨8, (RX8, TX8, 123), ic_62, Nat.le_of_ble_eq_true rfl, rfl, rfl⟩) hd rfl rfl (Nat.le_of_ble_eq_true rfl) dX8_lengthTold_83 rfl k
theorem c_X8_lengthTold_97 {sc : List Int} {d d2 : Nat} {m m2 : Mem} {Q : Option AV → Mem → Prop} {l1 s1 : Int} (Hs1 : IsC s1 102) (hM : C_X8_asks sc d2 [aR 62, aR s1] m none m2) (hd : d2 + 1 ≤ d) (k : S_X8_lengthTold sc d 100 [aR 62, aI l1, aU] [] m2 Q) : S_X8_lengthTold sc d 97 [aR 62, aI l1, aU] [aR s1, aR 62] m Q := x_callV (as := [aR s1]) (rest := []) hM mk_X8_asks mv_X8_asks lk_X8_356 (Or.inl ⟨8, (RX8, TX8, 123), ic_62, Nat.le_of_ble_eq_true rfl, rfl, rfl⟩) hd rfl rfl (Nat.le_of_ble_eq_true rfl) dX8_lengthTold_97 rfl k
theorem c_X8_lengthTold_104 {sc : List Int} {d d2 : Nat} {m m2 : Mem} {Q : Option AV → Mem → Prop} {l1 s1 s2 : Int} {v : Int} (hM : C_X8_number sc d2 [aR 62, aI s1, aI s2] m (some (aI v)) m2) (hd : d2 + 1 ≤ d) (k : S_X8_lengthTold sc d 107 [aR 62, aI l1, aU] [aI v] m2 Q) : S_X8_lengthTold sc d 104 [aR 62, aI l1, aU] [aI s2, aI s1, aR 62] m Q := x_callV (as := [aI s1, aI s2]) (rest := []) hM mk_X8_number mv_X8_number lk_X8_360 (Or.inl ⟨8, (RX8, TX8, 123), ic_62, Nat.le_of_ble_eq_true rfl, rfl, rfl⟩) hd rfl rfl (Nat.le_of_ble_eq_true rfl) dX8_lengthTold_104 rfl k
theorem c_X8_lengthTold_116 {sc : List Int} {d d2 : Nat} {m m2 : Mem} {Q : Option AV → Mem → Prop} {l1 l2 : Int} {v : Int} (hM : C_X8_allOdds sc d2 [aR 62] m (some (aI v)) m2) (hd : d2 + 1 ≤ d) (k : S_X8_lengthTold sc d 119 [aR 62, aI l1, aI l2] [aI v] m2 Q) : S_X8_lengthTold sc d 116 [aR 62, aI l1, aI l2] [aR 62] m Q := x_callV (as := []) (rest := []) hM mk_X8_allOdds mv_X8_allOdds lk_X8_364 (Or.inl ⟨8, (RX8, TX8, 123), ic_62, Nat.le_of_ble_eq_true rfl, rfl, rfl⟩) hd rfl rfl (Nat.le_of_ble_eq_true rfl) dX8_lengthTold_116 rfl k
theorem c_X8_lengthTold_132 {sc : List Int} {d d2 : Nat} {m m2 : Mem} {Q : Option AV → Mem → Prop} {l1 l2 s1 s2 : Int} (hM : C_X8_fail sc d2 [aR 62, aI s1, aI s2] m none m2) (hd : d2 + 1 ≤ d) (k : S_X8_lengthTold sc d 135 [aR 62, aI l1, aI l2] [] m2 Q) : S_X8_lengthTold sc d 132 [aR 62, aI l1, aI l2] [aI s2, aI s1, aR 62] m Q := x_callV (as := [aI s1, aI s2]) (rest := []) hM mk_X8_fail mv_X8_fail lk_X8_320 (Or.inl ⟨8, (RX8, TX8, 123), ic_62, Nat.le_of_ble_eq_true rfl, rfl, rfl⟩) hd rfl rfl (Nat.le_of_ble_eq_true rfl) dX8_lengthTold_132 rfl k
set_option maxRecDepth 4000 in
theorem g_X8_allOdds_0 {sc : List Int} {d : Nat} {m : Mem} {Q : Option AV → Mem → Prop} (k : S_X8_allOdds sc d 4 [aR 62, aI 0, aI 0] [] m Q) : S_X8_allOdds sc d 0 [aR 62, aU, aU] [] m Q := by
  refine x_iconst (pc2 := 1) dX8_allOdds_0 rfl ?_
  refine x_istore_n (pc2 := 2) (ls2 := [aR 62, aI 0, aU]) dX8_allOdds_1 rfl (by decide) rfl ?_
  refine x_iconst (pc2 := 3) dX8_allOdds_2 rfl ?_
  refine x_istore_n (pc2 := 4) (ls2 := [aR 62, aI 0, aI 0]) dX8_allOdds_3 rfl (by decide) rfl ?_
  exact k
set_option maxRecDepth 4000 in
theorem g_X8_allOdds_4 {sc : List Int} {d : Nat} {m : Mem} {Q : Option AV → Mem → Prop} {l1 l2 : Int} (k : (-2147483648 ≤ l2 ∧ l2 < 2147483648) ∧ (-2147483648 ≤ (m 95 0) ∧ (m 95 0) < 2147483648) ∧ (((m 95 0) ≤ l2) → (Q (some (aI l1)) m)) ∧ (¬ ((m 95 0) ≤ l2) → ((0 ≤ l2) ∧ (l2 < 12) ∧ S_X8_allOdds sc d 4 [aR 62, aI (l1 + (m 98 l2)), aI (l2 + 1)] [] m Q))) : S_X8_allOdds sc d 4 [aR 62, aI l1, aI l2] [] m Q := by
  refine x_iload_n (pc2 := 5) dX8_allOdds_4 rfl rfl ?_
  refine x_aload_n (pc2 := 6) dX8_allOdds_5 rfl rfl ?_
  refine x_getf (pc2 := 9) (v := aR 95) fl_X8_111 ic_62 (vr_62_42 _) dX8_allOdds_6 rfl ?_
  refine x_iconst (pc2 := 10) dX8_allOdds_9 rfl ?_
  refine x_iald (pc2 := 11) ic_95 (by decide) (by rw [al_95]; decide) dX8_allOdds_10 rfl ?_
  obtain ⟨h1, k⟩ := k
  obtain ⟨h2, k⟩ := k
  obtain ⟨k1, k2⟩ := k
  refine x_icmp_ge (tgt := 29) (pc2 := 14) dX8_allOdds_11 (by decide) rfl h1 h2 (fun c3 => ?_) (fun c3 => ?_)
  · replace k := k1 c3
    refine x_iload_n (pc2 := 30) dX8_allOdds_29 rfl rfl ?_
    exact x_ireturn dX8_allOdds_30 ⟨.int, rfl, rfl⟩ k
  · replace k := k2 c3
    refine x_iload_n (pc2 := 15) dX8_allOdds_14 rfl rfl ?_
    refine x_aload_n (pc2 := 16) dX8_allOdds_15 rfl rfl ?_
    refine x_getf (pc2 := 19) (v := aR 98) fl_X8_121 ic_62 (vr_62_45 _) dX8_allOdds_16 rfl ?_
    refine x_iload_n (pc2 := 20) dX8_allOdds_19 rfl rfl ?_
    obtain ⟨h4, k⟩ := k
    obtain ⟨h5, k⟩ := k
    refine x_iald (pc2 := 21) ic_98 h4 (by rw [al_98]; exact h5) dX8_allOdds_20 rfl ?_
    refine x_iadd (pc2 := 22) dX8_allOdds_21 rfl ?_
    refine x_istore_n (pc2 := 23) (ls2 := [aR 62, aI (l1 + (m 98 l2)), aI l2]) dX8_allOdds_22 rfl (by decide) rfl ?_
    refine x_iinc (pc2 := 26) (ls2 := [aR 62, aI (l1 + (m 98 l2)), aI (l2 + 1)]) dX8_allOdds_23 rfl rfl (by decide) rfl ?_
    refine x_goto (tgt := 4) dX8_allOdds_26 (by decide) ?_
    exact k
set_option maxRecDepth 4000 in
theorem g_X8_bobbinTold_0 {sc : List Int} {d : Nat} {m : Mem} {Q : Option AV → Mem → Prop} (k : S_X8_bobbinTold sc d 5 [aR 62] [aR 65, aR 62] m Q) : S_X8_bobbinTold sc d 0 [aR 62] [] m Q := by
  refine x_aload_n (pc2 := 1) dX8_bobbinTold_0 rfl rfl ?_
  refine x_aload_n (pc2 := 2) dX8_bobbinTold_1 rfl rfl ?_
  refine x_getf (pc2 := 5) (v := aR 65) fl_X8_20 ic_62 (vr_62_11 _) dX8_bobbinTold_2 rfl ?_
  exact k
set_option maxRecDepth 4000 in
theorem g_X8_bobbinTold_8 {sc : List Int} {d : Nat} {m : Mem} {Q : Option AV → Mem → Prop} (k : S_X8_bobbinTold sc d 9 [aR 62] [aR 62] m Q) : S_X8_bobbinTold sc d 8 [aR 62] [] m Q := by
  refine x_aload_n (pc2 := 9) dX8_bobbinTold_8 rfl rfl ?_
  exact k
set_option maxRecDepth 4000 in
theorem g_X8_bobbinTold_12 {sc : List Int} {d : Nat} {m : Mem} {Q : Option AV → Mem → Prop} (k : (-2147483648 ≤ (m 62 5) ∧ (m 62 5) < 2147483648) ∧ (((m 62 5) ≠ 0) → ((((m 62 5) ≠ 0) → (S_X8_bobbinTold sc d 51 [aR 62] [] m Q)) ∧ (¬ ((m 62 5) ≠ 0) → (S_X8_bobbinTold sc d 34 [aR 62] [aR 62] m Q)))) ∧ (¬ ((m 62 5) ≠ 0) → (S_X8_bobbinTold sc d 20 [aR 62] [aR 62] m Q))) : S_X8_bobbinTold sc d 12 [aR 62] [] m Q := by
  refine x_aload_n (pc2 := 13) dX8_bobbinTold_12 rfl rfl ?_
  refine x_getf (pc2 := 16) (v := aI (m 62 5)) fl_X8_290 ic_62 (fv_i _ ic_62 rfl) dX8_bobbinTold_13 rfl ?_
  obtain ⟨h1, k⟩ := k
  obtain ⟨k1, k2⟩ := k
  refine x_if_ne (tgt := 26) (pc2 := 19) dX8_bobbinTold_16 (by decide) rfl h1 (fun c2 => ?_) (fun c2 => ?_)
  · replace k := k1 c2
    refine x_aload_n (pc2 := 27) dX8_bobbinTold_26 rfl rfl ?_
    refine x_getf (pc2 := 30) (v := aI (m 62 5)) fl_X8_290 ic_62 (fv_i _ ic_62 rfl) dX8_bobbinTold_27 rfl ?_
    obtain ⟨k1, k2⟩ := k
    refine x_if_ne (tgt := 51) (pc2 := 33) dX8_bobbinTold_30 (by decide) rfl h1 (fun c3 => ?_) (fun c3 => ?_)
    · replace k := k1 c3
      exact k
    · replace k := k2 c3
      refine x_aload_n (pc2 := 34) dX8_bobbinTold_33 rfl rfl ?_
      exact k
  · replace k := k2 c2
    refine x_aload_n (pc2 := 20) dX8_bobbinTold_19 rfl rfl ?_
    exact k
set_option maxRecDepth 4000 in
theorem g_X8_bobbinTold_23 {sc : List Int} {d : Nat} {m : Mem} {Q : Option AV → Mem → Prop} {s0 : Int} (k : (-2147483648 ≤ s0 ∧ s0 < 2147483648) ∧ ((s0 ≠ 0) → (S_X8_bobbinTold sc d 8 [aR 62] [] m Q)) ∧ (¬ (s0 ≠ 0) → ((-2147483648 ≤ (m 62 5) ∧ (m 62 5) < 2147483648) ∧ (((m 62 5) ≠ 0) → (S_X8_bobbinTold sc d 51 [aR 62] [] m Q)) ∧ (¬ ((m 62 5) ≠ 0) → (S_X8_bobbinTold sc d 34 [aR 62] [aR 62] m Q))))) : S_X8_bobbinTold sc d 23 [aR 62] [aI s0] m Q := by
  obtain ⟨h1, k⟩ := k
  obtain ⟨k1, k2⟩ := k
  refine x_if_ne (tgt := 8) (pc2 := 26) dX8_bobbinTold_23 (by decide) rfl h1 (fun c2 => ?_) (fun c2 => ?_)
  · replace k := k1 c2
    exact k
  · replace k := k2 c2
    refine x_aload_n (pc2 := 27) dX8_bobbinTold_26 rfl rfl ?_
    refine x_getf (pc2 := 30) (v := aI (m 62 5)) fl_X8_290 ic_62 (fv_i _ ic_62 rfl) dX8_bobbinTold_27 rfl ?_
    obtain ⟨h3, k⟩ := k
    obtain ⟨k1, k2⟩ := k
    refine x_if_ne (tgt := 51) (pc2 := 33) dX8_bobbinTold_30 (by decide) rfl h3 (fun c4 => ?_) (fun c4 => ?_)
    · replace k := k1 c4
      exact k
    · replace k := k2 c4
      refine x_aload_n (pc2 := 34) dX8_bobbinTold_33 rfl rfl ?_
      exact k
set_option maxRecDepth 4000 in
theorem g_X8_bobbinTold_37 {sc : List Int} {d : Nat} {m : Mem} {Q : Option AV → Mem → Prop} {s0 : Int} (k : (-2147483648 ≤ s0 ∧ s0 < 2147483648) ∧ ((100 ≤ s0) → (S_X8_bobbinTold sc d 51 [aR 62] [] m Q)) ∧ (¬ (100 ≤ s0) → (S_X8_bobbinTold sc d 48 [aR 62] [aI (m 62 10), aI 2, aR 62] m Q))) : S_X8_bobbinTold sc d 37 [aR 62] [aI s0] m Q := by
  refine x_bipush (pc2 := 39) dX8_bobbinTold_37 rfl rfl ?_
  obtain ⟨h1, k⟩ := k
  obtain ⟨k1, k2⟩ := k
  refine x_icmp_ge (tgt := 51) (pc2 := 42) dX8_bobbinTold_39 (by decide) rfl h1 (by decide) (fun c2 => ?_) (fun c2 => ?_)
  · replace k := k1 c2
    exact k
  · replace k := k2 c2
    refine x_aload_n (pc2 := 43) dX8_bobbinTold_42 rfl rfl ?_
    refine x_iconst (pc2 := 44) dX8_bobbinTold_43 rfl ?_
    refine x_aload_n (pc2 := 45) dX8_bobbinTold_44 rfl rfl ?_
    refine x_getf (pc2 := 48) (v := aI (m 62 10)) fl_X8_330 ic_62 (fv_i _ ic_62 rfl) dX8_bobbinTold_45 rfl ?_
    exact k
set_option maxRecDepth 4000 in
theorem g_X8_bobbinTold_51 {sc : List Int} {d : Nat} {m : Mem} {Q : Option AV → Mem → Prop} (k : S_X8_bobbinTold sc d 54 [aR 62] [aI 59, aR 62] m Q) : S_X8_bobbinTold sc d 51 [aR 62] [] m Q := by
  refine x_aload_n (pc2 := 52) dX8_bobbinTold_51 rfl rfl ?_
  refine x_bipush (pc2 := 54) dX8_bobbinTold_52 rfl rfl ?_
  exact k
set_option maxRecDepth 4000 in
theorem g_X8_bobbinTold_57 {sc : List Int} {d : Nat} {m : Mem} {Q : Option AV → Mem → Prop} (k : Q none m) : S_X8_bobbinTold sc d 57 [aR 62] [] m Q := by
  exact x_return dX8_bobbinTold_57 rfl k
theorem c_X8_bobbinTold_5 {sc : List Int} {d d2 : Nat} {m m2 : Mem} {Q : Option AV → Mem → Prop} {s1 : Int} (Hs1 : IsC s1 102) (hM : C_X8_asks sc d2 [aR 62, aR s1] m none m2) (hd : d2 + 1 ≤ d) (k : S_X8_bobbinTold sc d 8 [aR 62] [] m2 Q) : S_X8_bobbinTold sc d 5 [aR 62] [aR s1, aR 62] m Q := x_callV (as := [aR s1]) (rest := []) hM mk_X8_asks mv_X8_asks lk_X8_356 (Or.inl ⟨8, (RX8, TX8, 123), ic_62, Nat.le_of_ble_eq_true rfl, rfl, rfl⟩) hd rfl rfl (Nat.le_of_ble_eq_true rfl) dX8_bobbinTold_5 rfl k
theorem c_X8_bobbinTold_9 {sc : List Int} {d d2 : Nat} {m m2 : Mem} {Q : Option AV → Mem → Prop} (hM : C_X8_lengthTold sc d2 [aR 62] m none m2) (hd : d2 + 1 ≤ d) (k : S_X8_bobbinTold sc d 12 [aR 62] [] m2 Q) : S_X8_bobbinTold sc d 9 [aR 62] [aR 62] m Q := x_callV (as := []) (rest := []) hM mk_X8_lengthTold mv_X8_lengthTold lk_X8_367 (Or.inl ⟨8, (RX8, TX8, 123), ic_62, Nat.le_of_ble_eq_true rfl, rfl, rfl⟩) hd rfl rfl (Nat.le_of_ble_eq_true rfl) dX8_bobbinTold_9 rfl k
theorem c_X8_bobbinTold_20 {sc : List Int} {d d2 : Nat} {m m2 : Mem} {Q : Option AV → Mem → Prop} {v : Int} (hM : C_X8_isWordHere sc d2 [aR 62] m (some (aI v)) m2) (hd : d2 + 1 ≤ d) (k : S_X8_bobbinTold sc d 23 [aR 62] [aI v] m2 Q) : S_X8_bobbinTold sc d 20 [aR 62] [aR 62] m Q := x_callV (as := []) (rest := []) hM mk_X8_isWordHere mv_X8_isWordHere lk_X8_370 (Or.inl ⟨8, (RX8, TX8, 123), ic_62, Nat.le_of_ble_eq_true rfl, rfl, rfl⟩) hd rfl rfl (Nat.le_of_ble_eq_true rfl) dX8_bobbinTold_20 rfl k
theorem c_X8_bobbinTold_34 {sc : List Int} {d d2 : Nat} {m m2 : Mem} {Q : Option AV → Mem → Prop} {v : Int} (hM : C_X8_allOdds sc d2 [aR 62] m (some (aI v)) m2) (hd : d2 + 1 ≤ d) (k : S_X8_bobbinTold sc d 37 [aR 62] [aI v] m2 Q) : S_X8_bobbinTold sc d 34 [aR 62] [aR 62] m Q := x_callV (as := []) (rest := []) hM mk_X8_allOdds mv_X8_allOdds lk_X8_364 (Or.inl ⟨8, (RX8, TX8, 123), ic_62, Nat.le_of_ble_eq_true rfl, rfl, rfl⟩) hd rfl rfl (Nat.le_of_ble_eq_true rfl) dX8_bobbinTold_34 rfl k
theorem c_X8_bobbinTold_48 {sc : List Int} {d d2 : Nat} {m m2 : Mem} {Q : Option AV → Mem → Prop} {s1 s2 : Int} (hM : C_X8_fail sc d2 [aR 62, aI s1, aI s2] m none m2) (hd : d2 + 1 ≤ d) (k : S_X8_bobbinTold sc d 51 [aR 62] [] m2 Q) : S_X8_bobbinTold sc d 48 [aR 62] [aI s2, aI s1, aR 62] m Q := x_callV (as := [aI s1, aI s2]) (rest := []) hM mk_X8_fail mv_X8_fail lk_X8_320 (Or.inl ⟨8, (RX8, TX8, 123), ic_62, Nat.le_of_ble_eq_true rfl, rfl, rfl⟩) hd rfl rfl (Nat.le_of_ble_eq_true rfl) dX8_bobbinTold_48 rfl k
theorem c_X8_bobbinTold_54 {sc : List Int} {d d2 : Nat} {m m2 : Mem} {Q : Option AV → Mem → Prop} {s1 : Int} (hM : C_X8_asksSign sc d2 [aR 62, aI s1] m none m2) (hd : d2 + 1 ≤ d) (k : S_X8_bobbinTold sc d 57 [aR 62] [] m2 Q) : S_X8_bobbinTold sc d 54 [aR 62] [aI s1, aR 62] m Q := x_callV (as := [aI s1]) (rest := []) hM mk_X8_asksSign mv_X8_asksSign lk_X8_373 (Or.inl ⟨8, (RX8, TX8, 123), ic_62, Nat.le_of_ble_eq_true rfl, rfl, rfl⟩) hd rfl rfl (Nat.le_of_ble_eq_true rfl) dX8_bobbinTold_54 rfl k
set_option maxRecDepth 4000 in
theorem g_X8_isWordHere_0 {sc : List Int} {d : Nat} {m : Mem} {Q : Option AV → Mem → Prop} (k : S_X8_isWordHere sc d 1 [aR 62] [aR 62] m Q) : S_X8_isWordHere sc d 0 [aR 62] [] m Q := by
  refine x_aload_n (pc2 := 1) dX8_isWordHere_0 rfl rfl ?_
  exact k
set_option maxRecDepth 4000 in
theorem g_X8_isWordHere_4 {sc : List Int} {d : Nat} {m : Mem} {Q : Option AV → Mem → Prop} {s0 : Int} (k : S_X8_isWordHere sc d 4 [aR 62] [aI s0] m Q) : S_X8_isWordHere sc d 4 [aR 62] [aI s0] m Q := by
  exact k
set_option maxRecDepth 4000 in
theorem g_X8_isWordHere_7 {sc : List Int} {d : Nat} {m : Mem} {Q : Option AV → Mem → Prop} {s0 : Int} (k : (-2147483648 ≤ s0 ∧ s0 < 2147483648) ∧ ((s0 = 0) → (Q (some (aI 0)) m)) ∧ (¬ (s0 = 0) → ((-2147483648 ≤ (m 62 2) ∧ (m 62 2) < 2147483648) ∧ (-2147483648 ≤ (m 62 4) ∧ (m 62 4) < 2147483648) ∧ (((m 62 2) = (m 62 4)) → (Q (some (aI 0)) m)) ∧ (¬ ((m 62 2) = (m 62 4)) → (S_X8_isWordHere sc d 26 [aR 62] [aR 66, aR 62] m Q))))) : S_X8_isWordHere sc d 7 [aR 62] [aI s0] m Q := by
  obtain ⟨h1, k⟩ := k
  obtain ⟨k1, k2⟩ := k
  refine x_if_eq (tgt := 36) (pc2 := 10) dX8_isWordHere_7 (by decide) rfl h1 (fun c2 => ?_) (fun c2 => ?_)
  · replace k := k1 c2
    refine x_iconst (pc2 := 37) dX8_isWordHere_36 rfl ?_
    exact x_ireturn dX8_isWordHere_37 ⟨.boolean, rfl, rfl⟩ k
  · replace k := k2 c2
    refine x_aload_n (pc2 := 11) dX8_isWordHere_10 rfl rfl ?_
    refine x_getf (pc2 := 14) (v := aI (m 62 2)) fl_X8_296 ic_62 (fv_i _ ic_62 rfl) dX8_isWordHere_11 rfl ?_
    refine x_aload_n (pc2 := 15) dX8_isWordHere_14 rfl rfl ?_
    refine x_getf (pc2 := 18) (v := aI (m 62 4)) fl_X8_310 ic_62 (fv_i _ ic_62 rfl) dX8_isWordHere_15 rfl ?_
    obtain ⟨h3, k⟩ := k
    obtain ⟨h4, k⟩ := k
    obtain ⟨k1, k2⟩ := k
    refine x_icmp_eq (tgt := 36) (pc2 := 21) dX8_isWordHere_18 (by decide) rfl h3 h4 (fun c5 => ?_) (fun c5 => ?_)
    · replace k := k1 c5
      refine x_iconst (pc2 := 37) dX8_isWordHere_36 rfl ?_
      exact x_ireturn dX8_isWordHere_37 ⟨.boolean, rfl, rfl⟩ k
    · replace k := k2 c5
      refine x_aload_n (pc2 := 22) dX8_isWordHere_21 rfl rfl ?_
      refine x_aload_n (pc2 := 23) dX8_isWordHere_22 rfl rfl ?_
      refine x_getf (pc2 := 26) (v := aR 66) fl_X8_24 ic_62 (vr_62_12 _) dX8_isWordHere_23 rfl ?_
      exact k
set_option maxRecDepth 4000 in
theorem g_X8_isWordHere_29 {sc : List Int} {d : Nat} {m : Mem} {Q : Option AV → Mem → Prop} {s0 : Int} (k : ((-2147483648 ≤ s0 ∧ s0 < 2147483648)) ∧ Q (some (aI (if s0 = 0 then 0 else 1 : Int))) m) : S_X8_isWordHere sc d 29 [aR 62] [aI s0] m Q := by
  obtain ⟨g2, k⟩ := k
  have kj : S_X8_isWordHere sc d 37 [aR 62] [aI (if s0 = 0 then 0 else 1 : Int)] m Q := by
    exact x_ireturn dX8_isWordHere_37 (ret_z (by repeat (first | exact Or.inl rfl | exact Or.inr rfl | split))) k
  have h3 := g2 
  refine x_if_eq (tgt := 36) (pc2 := 32) dX8_isWordHere_29 (by decide) rfl h3 (fun c4 => ?_) (fun c4 => ?_)
  · skip
    refine x_iconst (pc2 := 37) dX8_isWordHere_36 rfl ?_
    exact x_topI (v := (if s0 = 0 then 0 else 1 : Int)) (if_pos c4) kj
  · skip
    refine x_iconst (pc2 := 33) dX8_isWordHere_32 rfl ?_
    refine x_goto (tgt := 37) dX8_isWordHere_33 (by decide) ?_
    exact x_topI (v := (if s0 = 0 then 0 else 1 : Int)) (if_neg c4) kj
theorem c_X8_isWordHere_1 {sc : List Int} {d d2 : Nat} {m m2 : Mem} {Q : Option AV → Mem → Prop} {v : Int} (hM : C_X8_look sc d2 [aR 62] m (some (aI v)) m2) (hd : d2 + 1 ≤ d) (k : S_X8_isWordHere sc d 4 [aR 62] [aI v] m2 Q) : S_X8_isWordHere sc d 1 [aR 62] [aR 62] m Q := x_callV (as := []) (rest := []) hM mk_X8_look mv_X8_look lk_X8_302 (Or.inl ⟨8, (RX8, TX8, 123), ic_62, Nat.le_of_ble_eq_true rfl, rfl, rfl⟩) hd rfl rfl (Nat.le_of_ble_eq_true rfl) dX8_isWordHere_1 rfl k
theorem c_X8_isWordHere_4 {sc : List Int} {d d2 : Nat} {m m2 : Mem} {Q : Option AV → Mem → Prop} {s0 : Int} {v : Int} (hM : C_X8_isLetter sc d2 [aI s0] m (some (aI v)) m2) (hd : d2 + 1 ≤ d) (k : S_X8_isWordHere sc d 7 [aR 62] [aI v] m2 Q) : S_X8_isWordHere sc d 4 [aR 62] [aI s0] m Q := x_callS (as := [aI s0]) (rest := []) hM mk_X8_isLetter ms_X8_isLetter lk_X8_306 hd rfl rfl (Nat.le_of_ble_eq_true rfl) dX8_isWordHere_4 rfl k
theorem c_X8_isWordHere_26 {sc : List Int} {d d2 : Nat} {m m2 : Mem} {Q : Option AV → Mem → Prop} {s1 : Int} {v : Int} (Hs1 : IsC s1 102) (hM : C_X8_isHere sc d2 [aR 62, aR s1] m (some (aI v)) m2) (hd : d2 + 1 ≤ d) (k : S_X8_isWordHere sc d 29 [aR 62] [aI v] m2 Q) : S_X8_isWordHere sc d 26 [aR 62] [aR s1, aR 62] m Q := x_callV (as := [aR s1]) (rest := []) hM mk_X8_isHere mv_X8_isHere lk_X8_313 (Or.inl ⟨8, (RX8, TX8, 123), ic_62, Nat.le_of_ble_eq_true rfl, rfl, rfl⟩) hd rfl rfl (Nat.le_of_ble_eq_true rfl) dX8_isWordHere_26 rfl k
set_option maxRecDepth 4000 in
theorem g_X8_placeTold_0 {sc : List Int} {d : Nat} {m : Mem} {Q : Option AV → Mem → Prop} {l1 : Int} (k : (0 ≤ (l1 + 2)) ∧ ((l1 + 2) < 140) ∧ (-2147483648 ≤ (m 99 (l1 + 2)) ∧ (m 99 (l1 + 2)) < 2147483648) ∧ (((m 99 (l1 + 2)) ≠ 4) → (S_X8_placeTold sc d 27 [aR 62, aI l1, aU, aU] [aI 9999, aI 1, aR 62] m Q)) ∧ (¬ ((m 99 (l1 + 2)) ≠ 4) → (S_X8_placeTold sc d 18 [aR 62, aU, aU, aU] [aI (m 62 2), aI 5, aR 62] m Q))) : S_X8_placeTold sc d 0 [aR 62, aI l1, aU, aU] [] m Q := by
  refine x_aload_n (pc2 := 1) dX8_placeTold_0 rfl rfl ?_
  refine x_getf (pc2 := 4) (v := aR 99) fl_X8_124 ic_62 (vr_62_46 _) dX8_placeTold_1 rfl ?_
  refine x_iload_n (pc2 := 5) dX8_placeTold_4 rfl rfl ?_
  refine x_iconst (pc2 := 6) dX8_placeTold_5 rfl ?_
  refine x_iadd (pc2 := 7) dX8_placeTold_6 rfl ?_
  obtain ⟨h1, k⟩ := k
  obtain ⟨h2, k⟩ := k
  refine x_iald (pc2 := 8) ic_99 h1 (by rw [al_99]; exact h2) dX8_placeTold_7 rfl ?_
  refine x_iconst (pc2 := 9) dX8_placeTold_8 rfl ?_
  obtain ⟨h3, k⟩ := k
  obtain ⟨k1, k2⟩ := k
  refine x_icmp_ne (tgt := 22) (pc2 := 12) dX8_placeTold_9 (by decide) rfl h3 (by decide) (fun c4 => ?_) (fun c4 => ?_)
  · replace k := k1 c4
    refine x_aload_n (pc2 := 23) dX8_placeTold_22 rfl rfl ?_
    refine x_iconst (pc2 := 24) dX8_placeTold_23 rfl ?_
    refine x_sipush (pc2 := 27) dX8_placeTold_24 rfl rfl ?_
    exact k
  · replace k := k2 c4
    refine x_aload_n (pc2 := 13) dX8_placeTold_12 rfl rfl ?_
    refine x_iconst (pc2 := 14) dX8_placeTold_13 rfl ?_
    refine x_aload_n (pc2 := 15) dX8_placeTold_14 rfl rfl ?_
    refine x_getf (pc2 := 18) (v := aI (m 62 2)) fl_X8_296 ic_62 (fv_i _ ic_62 rfl) dX8_placeTold_15 rfl ?_
    exact x_drop (drp_k (drp_u (drp_k (drp_k drp_n)))) k
set_option maxRecDepth 4000 in
theorem g_X8_placeTold_21 {sc : List Int} {d : Nat} {m : Mem} {Q : Option AV → Mem → Prop} (k : Q none m) : S_X8_placeTold sc d 21 [aR 62, aU, aU, aU] [] m Q := by
  exact x_return dX8_placeTold_21 rfl k
set_option maxRecDepth 4000 in
theorem g_X8_placeTold_30 {sc : List Int} {d : Nat} {m : Mem} {Q : Option AV → Mem → Prop} {l1 s0 : Int} (k : (0 ≤ (l1 + 2)) ∧ ((l1 + 2) < 140) ∧ ((-2147483648 ≤ (m 99 (l1 + 2)) ∧ (m 99 (l1 + 2)) < 2147483648)) ∧ (((m 99 (l1 + 2)) ≠ 0) → (0 ≤ ((l1 + 2) + (m 99 (l1 + 2))))) ∧ (((m 99 (l1 + 2)) ≠ 0) → (((l1 + 2) + (m 99 (l1 + 2))) < 140)) ∧ (-2147483648 ≤ (m 62 5) ∧ (m 62 5) < 2147483648) ∧ (((m 62 5) ≠ 0) → (S_X8_placeTold sc d 95 [aR 62, aI l1, aI s0, aU] [] m Q)) ∧ (¬ ((m 62 5) ≠ 0) → ((-2147483648 ≤ s0 ∧ s0 < 2147483648) ∧ (-2147483648 ≤ (if (m 99 (l1 + 2)) ≠ 0 then (m 99 ((l1 + 2) + (m 99 (l1 + 2)))) else 0 : Int) ∧ (if (m 99 (l1 + 2)) ≠ 0 then (m 99 ((l1 + 2) + (m 99 (l1 + 2)))) else 0 : Int) < 2147483648) ∧ ((s0 ≤ (if (m 99 (l1 + 2)) ≠ 0 then (m 99 ((l1 + 2) + (m 99 (l1 + 2)))) else 0 : Int)) → (S_X8_placeTold sc d 92 [aR 62, aI l1, aI s0, aU] [aI (m 62 10), aI 2, aR 62] m Q)) ∧ (¬ (s0 ≤ (if (m 99 (l1 + 2)) ≠ 0 then (m 99 ((l1 + 2) + (m 99 (l1 + 2)))) else 0 : Int)) → ((0 ≤ l1) ∧ (l1 < 140) ∧ (-2147483648 ≤ (m 99 l1) ∧ (m 99 l1) < 2147483648) ∧ ((s0 < (m 99 l1)) → (S_X8_placeTold sc d 95 [aR 62, aI l1, aI s0, aU] [] m Q)) ∧ (¬ (s0 < (m 99 l1)) → (S_X8_placeTold sc d 92 [aR 62, aI l1, aI s0, aU] [aI (m 62 10), aI 2, aR 62] m Q))))))) : S_X8_placeTold sc d 30 [aR 62, aI l1, aU, aU] [aI s0] m Q := by
  refine x_istore_n (pc2 := 31) (ls2 := [aR 62, aI l1, aI s0, aU]) dX8_placeTold_30 rfl (by decide) rfl ?_
  refine x_aload_n (pc2 := 32) dX8_placeTold_31 rfl rfl ?_
  refine x_getf (pc2 := 35) (v := aR 99) fl_X8_124 ic_62 (vr_62_46 _) dX8_placeTold_32 rfl ?_
  refine x_iload_n (pc2 := 36) dX8_placeTold_35 rfl rfl ?_
  refine x_iconst (pc2 := 37) dX8_placeTold_36 rfl ?_
  refine x_iadd (pc2 := 38) dX8_placeTold_37 rfl ?_
  obtain ⟨h1, k⟩ := k
  obtain ⟨h2, k⟩ := k
  refine x_iald (pc2 := 39) ic_99 h1 (by rw [al_99]; exact h2) dX8_placeTold_38 rfl ?_
  obtain ⟨g4, k⟩ := k
  obtain ⟨g7, k⟩ := k
  obtain ⟨g8, k⟩ := k
  have kj : S_X8_placeTold sc d 63 [aR 62, aI l1, aI s0, aU] [aI (if (m 99 (l1 + 2)) ≠ 0 then (m 99 ((l1 + 2) + (m 99 (l1 + 2)))) else 0 : Int)] m Q := by
    refine x_istore_n (pc2 := 64) (ls2 := [aR 62, aI l1, aI s0, aI (if (m 99 (l1 + 2)) ≠ 0 then (m 99 ((l1 + 2) + (m 99 (l1 + 2)))) else 0 : Int)]) dX8_placeTold_63 rfl (by decide) rfl ?_
    refine x_aload_n (pc2 := 65) dX8_placeTold_64 rfl rfl ?_
    refine x_getf (pc2 := 68) (v := aI (m 62 5)) fl_X8_290 ic_62 (fv_i _ ic_62 rfl) dX8_placeTold_65 rfl ?_
    obtain ⟨h9, k⟩ := k
    obtain ⟨k1, k2⟩ := k
    refine x_if_ne (tgt := 95) (pc2 := 71) dX8_placeTold_68 (by decide) rfl h9 (fun c10 => ?_) (fun c10 => ?_)
    · replace k := k1 c10
      exact x_drop (drp_k (drp_k (drp_k (drp_u drp_n)))) k
    · replace k := k2 c10
      refine x_iload_n (pc2 := 72) dX8_placeTold_71 rfl rfl ?_
      refine x_iload_n (pc2 := 73) dX8_placeTold_72 rfl rfl ?_
      obtain ⟨h11, k⟩ := k
      obtain ⟨h12, k⟩ := k
      obtain ⟨k1, k2⟩ := k
      refine x_icmp_le (tgt := 86) (pc2 := 76) dX8_placeTold_73 (by decide) rfl h11 h12 (fun c13 => ?_) (fun c13 => ?_)
      · replace k := k1 c13
        refine x_aload_n (pc2 := 87) dX8_placeTold_86 rfl rfl ?_
        refine x_iconst (pc2 := 88) dX8_placeTold_87 rfl ?_
        refine x_aload_n (pc2 := 89) dX8_placeTold_88 rfl rfl ?_
        refine x_getf (pc2 := 92) (v := aI (m 62 10)) fl_X8_330 ic_62 (fv_i _ ic_62 rfl) dX8_placeTold_89 rfl ?_
        exact x_drop (drp_k (drp_k (drp_k (drp_u drp_n)))) k
      · replace k := k2 c13
        refine x_iload_n (pc2 := 77) dX8_placeTold_76 rfl rfl ?_
        refine x_aload_n (pc2 := 78) dX8_placeTold_77 rfl rfl ?_
        refine x_getf (pc2 := 81) (v := aR 99) fl_X8_124 ic_62 (vr_62_46 _) dX8_placeTold_78 rfl ?_
        refine x_iload_n (pc2 := 82) dX8_placeTold_81 rfl rfl ?_
        obtain ⟨h14, k⟩ := k
        obtain ⟨h15, k⟩ := k
        refine x_iald (pc2 := 83) ic_99 h14 (by rw [al_99]; exact h15) dX8_placeTold_82 rfl ?_
        obtain ⟨h16, k⟩ := k
        obtain ⟨k1, k2⟩ := k
        refine x_icmp_lt (tgt := 95) (pc2 := 86) dX8_placeTold_83 (by decide) rfl h11 h16 (fun c17 => ?_) (fun c17 => ?_)
        · replace k := k1 c17
          exact x_drop (drp_k (drp_k (drp_k (drp_u drp_n)))) k
        · replace k := k2 c17
          refine x_aload_n (pc2 := 87) dX8_placeTold_86 rfl rfl ?_
          refine x_iconst (pc2 := 88) dX8_placeTold_87 rfl ?_
          refine x_aload_n (pc2 := 89) dX8_placeTold_88 rfl rfl ?_
          refine x_getf (pc2 := 92) (v := aI (m 62 10)) fl_X8_330 ic_62 (fv_i _ ic_62 rfl) dX8_placeTold_89 rfl ?_
          exact x_drop (drp_k (drp_k (drp_k (drp_u drp_n)))) k
  have h18 := g4 
  refine x_if_ne (tgt := 46) (pc2 := 42) dX8_placeTold_39 (by decide) rfl h18 (fun c19 => ?_) (fun c19 => ?_)
  · skip
    refine x_aload_n (pc2 := 47) dX8_placeTold_46 rfl rfl ?_
    refine x_getf (pc2 := 50) (v := aR 99) fl_X8_124 ic_62 (vr_62_46 _) dX8_placeTold_47 rfl ?_
    refine x_iload_n (pc2 := 51) dX8_placeTold_50 rfl rfl ?_
    refine x_iconst (pc2 := 52) dX8_placeTold_51 rfl ?_
    refine x_iadd (pc2 := 53) dX8_placeTold_52 rfl ?_
    refine x_aload_n (pc2 := 54) dX8_placeTold_53 rfl rfl ?_
    refine x_getf (pc2 := 57) (v := aR 99) fl_X8_124 ic_62 (vr_62_46 _) dX8_placeTold_54 rfl ?_
    refine x_iload_n (pc2 := 58) dX8_placeTold_57 rfl rfl ?_
    refine x_iconst (pc2 := 59) dX8_placeTold_58 rfl ?_
    refine x_iadd (pc2 := 60) dX8_placeTold_59 rfl ?_
    refine x_iald (pc2 := 61) ic_99 h1 (by rw [al_99]; exact h2) dX8_placeTold_60 rfl ?_
    refine x_iadd (pc2 := 62) dX8_placeTold_61 rfl ?_
    have h20 := g7 c19
    have h21 := g8 c19
    refine x_iald (pc2 := 63) ic_99 h20 (by rw [al_99]; exact h21) dX8_placeTold_62 rfl ?_
    exact x_topI (v := (if (m 99 (l1 + 2)) ≠ 0 then (m 99 ((l1 + 2) + (m 99 (l1 + 2)))) else 0 : Int)) (if_pos c19) kj
  · skip
    refine x_iconst (pc2 := 43) dX8_placeTold_42 rfl ?_
    refine x_goto (tgt := 63) dX8_placeTold_43 (by decide) ?_
    exact x_topI (v := (if (m 99 (l1 + 2)) ≠ 0 then (m 99 ((l1 + 2) + (m 99 (l1 + 2)))) else 0 : Int)) (if_neg c19) kj
set_option maxRecDepth 4000 in
theorem g_X8_placeTold_95 {sc : List Int} {d : Nat} {m : Mem} {Q : Option AV → Mem → Prop} {l1 l2 : Int} (k : (-2147483648 ≤ (m 62 5) ∧ (m 62 5) < 2147483648) ∧ (((m 62 5) = 0) → ((0 ≤ (l1 + 2)) ∧ ((l1 + 2) < 140) ∧ (0 ≤ ((l1 + 2) + ((wr m 99 (l1 + 2) ((m 99 (l1 + 2)) + 1)) 99 (l1 + 2)))) ∧ (((l1 + 2) + ((wr m 99 (l1 + 2) ((m 99 (l1 + 2)) + 1)) 99 (l1 + 2))) < 140) ∧ Q none (wr (wr m 99 (l1 + 2) ((m 99 (l1 + 2)) + 1)) 99 ((l1 + 2) + ((wr m 99 (l1 + 2) ((m 99 (l1 + 2)) + 1)) 99 (l1 + 2))) l2))) ∧ (¬ ((m 62 5) = 0) → (Q none m))) : S_X8_placeTold sc d 95 [aR 62, aI l1, aI l2, aU] [] m Q := by
  refine x_aload_n (pc2 := 96) dX8_placeTold_95 rfl rfl ?_
  refine x_getf (pc2 := 99) (v := aI (m 62 5)) fl_X8_290 ic_62 (fv_i _ ic_62 rfl) dX8_placeTold_96 rfl ?_
  obtain ⟨h1, k⟩ := k
  obtain ⟨k1, k2⟩ := k
  refine x_if_eq (tgt := 103) (pc2 := 102) dX8_placeTold_99 (by decide) rfl h1 (fun c2 => ?_) (fun c2 => ?_)
  · replace k := k1 c2
    refine x_aload_n (pc2 := 104) dX8_placeTold_103 rfl rfl ?_
    refine x_getf (pc2 := 107) (v := aR 99) fl_X8_124 ic_62 (vr_62_46 _) dX8_placeTold_104 rfl ?_
    refine x_iload_n (pc2 := 108) dX8_placeTold_107 rfl rfl ?_
    refine x_iconst (pc2 := 109) dX8_placeTold_108 rfl ?_
    refine x_iadd (pc2 := 110) dX8_placeTold_109 rfl ?_
    refine x_dup2_ri (pc2 := 111) dX8_placeTold_110 rfl (by decide) ?_
    obtain ⟨h3, k⟩ := k
    obtain ⟨h4, k⟩ := k
    refine x_iald (pc2 := 112) ic_99 h3 (by rw [al_99]; exact h4) dX8_placeTold_111 rfl ?_
    refine x_iconst (pc2 := 113) dX8_placeTold_112 rfl ?_
    refine x_iadd (pc2 := 114) dX8_placeTold_113 rfl ?_
    refine x_iast (pc2 := 115) ic_99 h3 (by rw [al_99]; exact h4) dX8_placeTold_114 rfl ?_
    refine x_aload_n (pc2 := 116) dX8_placeTold_115 rfl rfl ?_
    refine x_getf (pc2 := 119) (v := aR 99) fl_X8_124 ic_62 (vr_62_46 _) dX8_placeTold_116 rfl ?_
    refine x_iload_n (pc2 := 120) dX8_placeTold_119 rfl rfl ?_
    refine x_iconst (pc2 := 121) dX8_placeTold_120 rfl ?_
    refine x_iadd (pc2 := 122) dX8_placeTold_121 rfl ?_
    refine x_aload_n (pc2 := 123) dX8_placeTold_122 rfl rfl ?_
    refine x_getf (pc2 := 126) (v := aR 99) fl_X8_124 ic_62 (vr_62_46 _) dX8_placeTold_123 rfl ?_
    refine x_iload_n (pc2 := 127) dX8_placeTold_126 rfl rfl ?_
    refine x_iconst (pc2 := 128) dX8_placeTold_127 rfl ?_
    refine x_iadd (pc2 := 129) dX8_placeTold_128 rfl ?_
    refine x_iald (pc2 := 130) ic_99 h3 (by rw [al_99]; exact h4) dX8_placeTold_129 rfl ?_
    refine x_iadd (pc2 := 131) dX8_placeTold_130 rfl ?_
    refine x_iload_n (pc2 := 132) dX8_placeTold_131 rfl rfl ?_
    obtain ⟨h5, k⟩ := k
    obtain ⟨h6, k⟩ := k
    refine x_iast (pc2 := 133) ic_99 h5 (by rw [al_99]; exact h6) dX8_placeTold_132 rfl ?_
    exact x_return dX8_placeTold_133 rfl k
  · replace k := k2 c2
    exact x_return dX8_placeTold_102 rfl k
theorem c_X8_placeTold_18 {sc : List Int} {d d2 : Nat} {m m2 : Mem} {Q : Option AV → Mem → Prop} {s1 s2 : Int} (hM : C_X8_fail sc d2 [aR 62, aI s1, aI s2] m none m2) (hd : d2 + 1 ≤ d) (k : S_X8_placeTold sc d 21 [aR 62, aU, aU, aU] [] m2 Q) : S_X8_placeTold sc d 18 [aR 62, aU, aU, aU] [aI s2, aI s1, aR 62] m Q := x_callV (as := [aI s1, aI s2]) (rest := []) hM mk_X8_fail mv_X8_fail lk_X8_320 (Or.inl ⟨8, (RX8, TX8, 123), ic_62, Nat.le_of_ble_eq_true rfl, rfl, rfl⟩) hd rfl rfl (Nat.le_of_ble_eq_true rfl) dX8_placeTold_18 rfl k
theorem c_X8_placeTold_27 {sc : List Int} {d d2 : Nat} {m m2 : Mem} {Q : Option AV → Mem → Prop} {l1 s1 s2 : Int} {v : Int} (hM : C_X8_number sc d2 [aR 62, aI s1, aI s2] m (some (aI v)) m2) (hd : d2 + 1 ≤ d) (k : S_X8_placeTold sc d 30 [aR 62, aI l1, aU, aU] [aI v] m2 Q) : S_X8_placeTold sc d 27 [aR 62, aI l1, aU, aU] [aI s2, aI s1, aR 62] m Q := x_callV (as := [aI s1, aI s2]) (rest := []) hM mk_X8_number mv_X8_number lk_X8_360 (Or.inl ⟨8, (RX8, TX8, 123), ic_62, Nat.le_of_ble_eq_true rfl, rfl, rfl⟩) hd rfl rfl (Nat.le_of_ble_eq_true rfl) dX8_placeTold_27 rfl k
theorem c_X8_placeTold_92 {sc : List Int} {d d2 : Nat} {m m2 : Mem} {Q : Option AV → Mem → Prop} {l1 l2 s1 s2 : Int} (hM : C_X8_fail sc d2 [aR 62, aI s1, aI s2] m none m2) (hd : d2 + 1 ≤ d) (k : S_X8_placeTold sc d 95 [aR 62, aI l1, aI l2, aU] [] m2 Q) : S_X8_placeTold sc d 92 [aR 62, aI l1, aI l2, aU] [aI s2, aI s1, aR 62] m Q := x_callV (as := [aI s1, aI s2]) (rest := []) hM mk_X8_fail mv_X8_fail lk_X8_320 (Or.inl ⟨8, (RX8, TX8, 123), ic_62, Nat.le_of_ble_eq_true rfl, rfl, rfl⟩) hd rfl rfl (Nat.le_of_ble_eq_true rfl) dX8_placeTold_92 rfl k
set_option maxRecDepth 4000 in
theorem g_X8_seamTold_0 {sc : List Int} {d : Nat} {m : Mem} {Q : Option AV → Mem → Prop} {l1 : Int} (k : (-2147483648 ≤ (m 95 1) ∧ (m 95 1) < 2147483648) ∧ (((m 95 1) ≠ 10) → (S_X8_seamTold sc d 17 [aR 62, aU, aU, aU, aU] [] m Q)) ∧ (¬ ((m 95 1) ≠ 10) → (S_X8_seamTold sc d 14 [aR 62, aU, aU, aU, aU] [aI l1, aI 5, aR 62] m Q))) : S_X8_seamTold sc d 0 [aR 62, aI l1, aU, aU, aU] [] m Q := by
  refine x_aload_n (pc2 := 1) dX8_seamTold_0 rfl rfl ?_
  refine x_getf (pc2 := 4) (v := aR 95) fl_X8_111 ic_62 (vr_62_42 _) dX8_seamTold_1 rfl ?_
  refine x_iconst (pc2 := 5) dX8_seamTold_4 rfl ?_
  refine x_iald (pc2 := 6) ic_95 (by decide) (by rw [al_95]; decide) dX8_seamTold_5 rfl ?_
  refine x_bipush (pc2 := 8) dX8_seamTold_6 rfl rfl ?_
  obtain ⟨h1, k⟩ := k
  obtain ⟨k1, k2⟩ := k
  refine x_icmp_ne (tgt := 17) (pc2 := 11) dX8_seamTold_8 (by decide) rfl h1 (by decide) (fun c2 => ?_) (fun c2 => ?_)
  · replace k := k1 c2
    exact x_drop (drp_k (drp_u (drp_k (drp_k (drp_k drp_n))))) k
  · replace k := k2 c2
    refine x_aload_n (pc2 := 12) dX8_seamTold_11 rfl rfl ?_
    refine x_iconst (pc2 := 13) dX8_seamTold_12 rfl ?_
    refine x_iload_n (pc2 := 14) dX8_seamTold_13 rfl rfl ?_
    exact x_drop (drp_k (drp_u (drp_k (drp_k (drp_k drp_n))))) k
set_option maxRecDepth 4000 in
theorem g_X8_seamTold_17 {sc : List Int} {d : Nat} {m : Mem} {Q : Option AV → Mem → Prop} (k : (-2147483648 ≤ (m 62 5) ∧ (m 62 5) < 2147483648) ∧ (((m 62 5) = 0) → (S_X8_seamTold sc d 36 [aR 62, aU, aI (7 * (m 95 1)), aU, aU] [aR 62] m Q)) ∧ (¬ ((m 62 5) = 0) → (Q none m))) : S_X8_seamTold sc d 17 [aR 62, aU, aU, aU, aU] [] m Q := by
  refine x_aload_n (pc2 := 18) dX8_seamTold_17 rfl rfl ?_
  refine x_getf (pc2 := 21) (v := aI (m 62 5)) fl_X8_290 ic_62 (fv_i _ ic_62 rfl) dX8_seamTold_18 rfl ?_
  obtain ⟨h1, k⟩ := k
  obtain ⟨k1, k2⟩ := k
  refine x_if_eq (tgt := 25) (pc2 := 24) dX8_seamTold_21 (by decide) rfl h1 (fun c2 => ?_) (fun c2 => ?_)
  · replace k := k1 c2
    refine x_bipush (pc2 := 27) dX8_seamTold_25 rfl rfl ?_
    refine x_aload_n (pc2 := 28) dX8_seamTold_27 rfl rfl ?_
    refine x_getf (pc2 := 31) (v := aR 95) fl_X8_111 ic_62 (vr_62_42 _) dX8_seamTold_28 rfl ?_
    refine x_iconst (pc2 := 32) dX8_seamTold_31 rfl ?_
    refine x_iald (pc2 := 33) ic_95 (by decide) (by rw [al_95]; decide) dX8_seamTold_32 rfl ?_
    refine x_imul (pc2 := 34) dX8_seamTold_33 rfl ?_
    refine x_istore_n (pc2 := 35) (ls2 := [aR 62, aU, aI (7 * (m 95 1)), aU, aU]) dX8_seamTold_34 rfl (by decide) rfl ?_
    refine x_aload_n (pc2 := 36) dX8_seamTold_35 rfl rfl ?_
    exact k
  · replace k := k2 c2
    exact x_return dX8_seamTold_24 rfl k
set_option maxRecDepth 4000 in
theorem g_X8_seamTold_39 {sc : List Int} {d : Nat} {m : Mem} {Q : Option AV → Mem → Prop} {l2 s0 : Int} (k : S_X8_seamTold sc d 45 [aR 62, aU, aI l2, aJ s0, aU] [aR 69, aR 62] m Q) : S_X8_seamTold sc d 39 [aR 62, aU, aI l2, aU, aU] [aJ s0] m Q := by
  refine x_lstore_n (pc2 := 40) (ls2 := [aR 62, aU, aI l2, aJ s0, aU]) dX8_seamTold_39 rfl (by decide) rfl ?_
  refine x_aload_n (pc2 := 41) dX8_seamTold_40 rfl rfl ?_
  refine x_aload_n (pc2 := 42) dX8_seamTold_41 rfl rfl ?_
  refine x_getf (pc2 := 45) (v := aR 69) fl_X8_33 ic_62 (vr_62_15 _) dX8_seamTold_42 rfl ?_
  exact k
set_option maxRecDepth 4000 in
theorem g_X8_seamTold_48 {sc : List Int} {d : Nat} {m : Mem} {Q : Option AV → Mem → Prop} {l2 l3 : Int} (k : S_X8_seamTold sc d 57 [aR 62, aU, aI l2, aJ l3, aU] [aI 99, aI 1, aR 62, aI l2, aR 99] m Q) : S_X8_seamTold sc d 48 [aR 62, aU, aI l2, aJ l3, aU] [] m Q := by
  refine x_aload_n (pc2 := 49) dX8_seamTold_48 rfl rfl ?_
  refine x_getf (pc2 := 52) (v := aR 99) fl_X8_124 ic_62 (vr_62_46 _) dX8_seamTold_49 rfl ?_
  refine x_iload_n (pc2 := 53) dX8_seamTold_52 rfl rfl ?_
  refine x_aload_n (pc2 := 54) dX8_seamTold_53 rfl rfl ?_
  refine x_iconst (pc2 := 55) dX8_seamTold_54 rfl ?_
  refine x_bipush (pc2 := 57) dX8_seamTold_55 rfl rfl ?_
  exact k
set_option maxRecDepth 4000 in
theorem g_X8_seamTold_60 {sc : List Int} {d : Nat} {m : Mem} {Q : Option AV → Mem → Prop} {l2 l3 s0 s1 s2 : Int} (Hs0 : IsC s0 100) (k : (0 ≤ s1) ∧ (s1 < alen s0) ∧ S_X8_seamTold sc d 73 [aR 62, aU, aI l2, aJ l3, aU] [aR 70, aR 62, aI (l2 + 1), aR 99] (wr m s0 s1 s2) Q) : S_X8_seamTold sc d 60 [aR 62, aU, aI l2, aJ l3, aU] [aI s2, aI s1, aR s0] m Q := by
  obtain ⟨h1, k⟩ := k
  obtain ⟨h2, k⟩ := k
  refine x_iast (pc2 := 61) Hs0 h1 h2 dX8_seamTold_60 rfl ?_
  refine x_aload_n (pc2 := 62) dX8_seamTold_61 rfl rfl ?_
  refine x_getf (pc2 := 65) (v := aR 99) fl_X8_124 ic_62 (vr_62_46 _) dX8_seamTold_62 rfl ?_
  refine x_iload_n (pc2 := 66) dX8_seamTold_65 rfl rfl ?_
  refine x_iconst (pc2 := 67) dX8_seamTold_66 rfl ?_
  refine x_iadd (pc2 := 68) dX8_seamTold_67 rfl ?_
  refine x_aload_n (pc2 := 69) dX8_seamTold_68 rfl rfl ?_
  refine x_aload_n (pc2 := 70) dX8_seamTold_69 rfl rfl ?_
  refine x_getf (pc2 := 73) (v := aR 70) fl_X8_36 ic_62 (vr_62_16 _) dX8_seamTold_70 rfl ?_
  exact k
set_option maxRecDepth 4000 in
theorem g_X8_seamTold_76 {sc : List Int} {d : Nat} {m : Mem} {Q : Option AV → Mem → Prop} {l2 l3 s0 s1 s2 : Int} (Hs0 : IsC s0 100) (k : ((-2147483648 ≤ s2 ∧ s2 < 2147483648)) ∧ (0 ≤ s1) ∧ (s1 < alen s0) ∧ (0 ≤ (l2 + 2)) ∧ ((l2 + 2) < 140) ∧ S_X8_seamTold sc d 99 [aR 62, aU, aI l2, aJ l3, aU] [aR 71, aR 62] (wr (wr m s0 s1 (if s2 = 0 then 0 else 1 : Int)) 99 (l2 + 2) 0) Q) : S_X8_seamTold sc d 76 [aR 62, aU, aI l2, aJ l3, aU] [aI s2, aI s1, aR s0] m Q := by
  obtain ⟨g2, k⟩ := k
  have kj : S_X8_seamTold sc d 84 [aR 62, aU, aI l2, aJ l3, aU] [aI (if s2 = 0 then 0 else 1 : Int), aI s1, aR s0] m Q := by
    obtain ⟨h3, k⟩ := k
    obtain ⟨h4, k⟩ := k
    refine x_iast (pc2 := 85) Hs0 h3 h4 dX8_seamTold_84 rfl ?_
    refine x_aload_n (pc2 := 86) dX8_seamTold_85 rfl rfl ?_
    refine x_getf (pc2 := 89) (v := aR 99) fl_X8_124 ic_62 (vr_62_46 _) dX8_seamTold_86 rfl ?_
    refine x_iload_n (pc2 := 90) dX8_seamTold_89 rfl rfl ?_
    refine x_iconst (pc2 := 91) dX8_seamTold_90 rfl ?_
    refine x_iadd (pc2 := 92) dX8_seamTold_91 rfl ?_
    refine x_iconst (pc2 := 93) dX8_seamTold_92 rfl ?_
    obtain ⟨h5, k⟩ := k
    obtain ⟨h6, k⟩ := k
    refine x_iast (pc2 := 94) ic_99 h5 (by rw [al_99]; exact h6) dX8_seamTold_93 rfl ?_
    refine x_aload_n (pc2 := 95) dX8_seamTold_94 rfl rfl ?_
    refine x_aload_n (pc2 := 96) dX8_seamTold_95 rfl rfl ?_
    refine x_getf (pc2 := 99) (v := aR 71) fl_X8_39 ic_62 (vr_62_17 _) dX8_seamTold_96 rfl ?_
    exact k
  have h7 := g2 
  refine x_if_eq (tgt := 83) (pc2 := 79) dX8_seamTold_76 (by decide) rfl h7 (fun c8 => ?_) (fun c8 => ?_)
  · skip
    refine x_iconst (pc2 := 84) dX8_seamTold_83 rfl ?_
    exact x_topI (v := (if s2 = 0 then 0 else 1 : Int)) (if_pos c8) kj
  · skip
    refine x_iconst (pc2 := 80) dX8_seamTold_79 rfl ?_
    refine x_goto (tgt := 84) dX8_seamTold_80 (by decide) ?_
    exact x_topI (v := (if s2 = 0 then 0 else 1 : Int)) (if_neg c8) kj
set_option maxRecDepth 4000 in
theorem g_X8_seamTold_102 {sc : List Int} {d : Nat} {m : Mem} {Q : Option AV → Mem → Prop} {l2 l3 s0 : Int} (k : (-2147483648 ≤ s0 ∧ s0 < 2147483648) ∧ ((s0 = 0) → ((-2147483648 ≤ (m 62 5) ∧ (m 62 5) < 2147483648) ∧ (((m 62 5) = 0) → ((0 ≤ (m 95 1)) ∧ ((m 95 1) < 40) ∧ Q none (wr (wr m 96 (m 95 1) l3) 95 1 (((wr m 96 (m 95 1) l3) 95 1) + 1)))) ∧ (¬ ((m 62 5) = 0) → (Q none m)))) ∧ (¬ (s0 = 0) → (S_X8_seamTold sc d 105 [aR 62, aU, aI l2, aJ l3, aU] [] m Q))) : S_X8_seamTold sc d 102 [aR 62, aU, aI l2, aJ l3, aU] [aI s0] m Q := by
  obtain ⟨h1, k⟩ := k
  obtain ⟨k1, k2⟩ := k
  refine x_if_eq (tgt := 127) (pc2 := 105) dX8_seamTold_102 (by decide) rfl h1 (fun c2 => ?_) (fun c2 => ?_)
  · replace k := k1 c2
    refine x_aload_n (pc2 := 128) dX8_seamTold_127 rfl rfl ?_
    refine x_getf (pc2 := 131) (v := aI (m 62 5)) fl_X8_290 ic_62 (fv_i _ ic_62 rfl) dX8_seamTold_128 rfl ?_
    obtain ⟨h3, k⟩ := k
    obtain ⟨k1, k2⟩ := k
    refine x_if_eq (tgt := 135) (pc2 := 134) dX8_seamTold_131 (by decide) rfl h3 (fun c4 => ?_) (fun c4 => ?_)
    · replace k := k1 c4
      refine x_aload_n (pc2 := 136) dX8_seamTold_135 rfl rfl ?_
      refine x_getf (pc2 := 139) (v := aR 96) fl_X8_114 ic_62 (vr_62_43 _) dX8_seamTold_136 rfl ?_
      refine x_aload_n (pc2 := 140) dX8_seamTold_139 rfl rfl ?_
      refine x_getf (pc2 := 143) (v := aR 95) fl_X8_111 ic_62 (vr_62_42 _) dX8_seamTold_140 rfl ?_
      refine x_iconst (pc2 := 144) dX8_seamTold_143 rfl ?_
      refine x_iald (pc2 := 145) ic_95 (by decide) (by rw [al_95]; decide) dX8_seamTold_144 rfl ?_
      refine x_lload_n (pc2 := 146) dX8_seamTold_145 rfl rfl ?_
      obtain ⟨h5, k⟩ := k
      obtain ⟨h6, k⟩ := k
      refine x_last (pc2 := 147) ic_96 h5 (by rw [al_96]; exact h6) dX8_seamTold_146 rfl ?_
      refine x_aload_n (pc2 := 148) dX8_seamTold_147 rfl rfl ?_
      refine x_getf (pc2 := 151) (v := aR 95) fl_X8_111 ic_62 (vr_62_42 _) dX8_seamTold_148 rfl ?_
      refine x_iconst (pc2 := 152) dX8_seamTold_151 rfl ?_
      refine x_dup2_ri (pc2 := 153) dX8_seamTold_152 rfl (by decide) ?_
      refine x_iald (pc2 := 154) ic_95 (by decide) (by rw [al_95]; decide) dX8_seamTold_153 rfl ?_
      refine x_iconst (pc2 := 155) dX8_seamTold_154 rfl ?_
      refine x_iadd (pc2 := 156) dX8_seamTold_155 rfl ?_
      refine x_iast (pc2 := 157) ic_95 (by decide) (by rw [al_95]; decide) dX8_seamTold_156 rfl ?_
      exact x_return dX8_seamTold_157 rfl k
    · replace k := k2 c4
      exact x_return dX8_seamTold_134 rfl k
  · replace k := k2 c2
    exact k
set_option maxRecDepth 4000 in
theorem g_X8_seamTold_105 {sc : List Int} {d : Nat} {m : Mem} {Q : Option AV → Mem → Prop} {l2 l3 : Int} (k : S_X8_seamTold sc d 107 [aR 62, aU, aI l2, aJ l3, aU] [aI l2, aR 62] m Q) : S_X8_seamTold sc d 105 [aR 62, aU, aI l2, aJ l3, aU] [] m Q := by
  refine x_aload_n (pc2 := 106) dX8_seamTold_105 rfl rfl ?_
  refine x_iload_n (pc2 := 107) dX8_seamTold_106 rfl rfl ?_
  exact k
set_option maxRecDepth 4000 in
theorem g_X8_seamTold_110 {sc : List Int} {d : Nat} {m : Mem} {Q : Option AV → Mem → Prop} {l2 l3 : Int} (k : (-2147483648 ≤ (m 62 5) ∧ (m 62 5) < 2147483648) ∧ (((m 62 5) ≠ 0) → ((((m 62 5) = 0) → ((0 ≤ (m 95 1)) ∧ ((m 95 1) < 40) ∧ Q none (wr (wr m 96 (m 95 1) l3) 95 1 (((wr m 96 (m 95 1) l3) 95 1) + 1)))) ∧ (¬ ((m 62 5) = 0) → (Q none m)))) ∧ (¬ ((m 62 5) ≠ 0) → (S_X8_seamTold sc d 118 [aR 62, aU, aI l2, aJ l3, aU] [aR 62] m Q))) : S_X8_seamTold sc d 110 [aR 62, aU, aI l2, aJ l3, aU] [] m Q := by
  refine x_aload_n (pc2 := 111) dX8_seamTold_110 rfl rfl ?_
  refine x_getf (pc2 := 114) (v := aI (m 62 5)) fl_X8_290 ic_62 (fv_i _ ic_62 rfl) dX8_seamTold_111 rfl ?_
  obtain ⟨h1, k⟩ := k
  obtain ⟨k1, k2⟩ := k
  refine x_if_ne (tgt := 127) (pc2 := 117) dX8_seamTold_114 (by decide) rfl h1 (fun c2 => ?_) (fun c2 => ?_)
  · replace k := k1 c2
    refine x_aload_n (pc2 := 128) dX8_seamTold_127 rfl rfl ?_
    refine x_getf (pc2 := 131) (v := aI (m 62 5)) fl_X8_290 ic_62 (fv_i _ ic_62 rfl) dX8_seamTold_128 rfl ?_
    obtain ⟨k1, k2⟩ := k
    refine x_if_eq (tgt := 135) (pc2 := 134) dX8_seamTold_131 (by decide) rfl h1 (fun c3 => ?_) (fun c3 => ?_)
    · replace k := k1 c3
      refine x_aload_n (pc2 := 136) dX8_seamTold_135 rfl rfl ?_
      refine x_getf (pc2 := 139) (v := aR 96) fl_X8_114 ic_62 (vr_62_43 _) dX8_seamTold_136 rfl ?_
      refine x_aload_n (pc2 := 140) dX8_seamTold_139 rfl rfl ?_
      refine x_getf (pc2 := 143) (v := aR 95) fl_X8_111 ic_62 (vr_62_42 _) dX8_seamTold_140 rfl ?_
      refine x_iconst (pc2 := 144) dX8_seamTold_143 rfl ?_
      refine x_iald (pc2 := 145) ic_95 (by decide) (by rw [al_95]; decide) dX8_seamTold_144 rfl ?_
      refine x_lload_n (pc2 := 146) dX8_seamTold_145 rfl rfl ?_
      obtain ⟨h4, k⟩ := k
      obtain ⟨h5, k⟩ := k
      refine x_last (pc2 := 147) ic_96 h4 (by rw [al_96]; exact h5) dX8_seamTold_146 rfl ?_
      refine x_aload_n (pc2 := 148) dX8_seamTold_147 rfl rfl ?_
      refine x_getf (pc2 := 151) (v := aR 95) fl_X8_111 ic_62 (vr_62_42 _) dX8_seamTold_148 rfl ?_
      refine x_iconst (pc2 := 152) dX8_seamTold_151 rfl ?_
      refine x_dup2_ri (pc2 := 153) dX8_seamTold_152 rfl (by decide) ?_
      refine x_iald (pc2 := 154) ic_95 (by decide) (by rw [al_95]; decide) dX8_seamTold_153 rfl ?_
      refine x_iconst (pc2 := 155) dX8_seamTold_154 rfl ?_
      refine x_iadd (pc2 := 156) dX8_seamTold_155 rfl ?_
      refine x_iast (pc2 := 157) ic_95 (by decide) (by rw [al_95]; decide) dX8_seamTold_156 rfl ?_
      exact x_return dX8_seamTold_157 rfl k
    · replace k := k2 c3
      exact x_return dX8_seamTold_134 rfl k
  · replace k := k2 c2
    refine x_aload_n (pc2 := 118) dX8_seamTold_117 rfl rfl ?_
    exact k
set_option maxRecDepth 4000 in
theorem g_X8_seamTold_121 {sc : List Int} {d : Nat} {m : Mem} {Q : Option AV → Mem → Prop} {l2 l3 s0 : Int} (k : S_X8_seamTold sc d 121 [aR 62, aU, aI l2, aJ l3, aU] [aI s0] m Q) : S_X8_seamTold sc d 121 [aR 62, aU, aI l2, aJ l3, aU] [aI s0] m Q := by
  exact k
set_option maxRecDepth 4000 in
theorem g_X8_seamTold_124 {sc : List Int} {d : Nat} {m : Mem} {Q : Option AV → Mem → Prop} {l2 l3 s0 : Int} (k : (-2147483648 ≤ s0 ∧ s0 < 2147483648) ∧ ((s0 ≠ 0) → (S_X8_seamTold sc d 105 [aR 62, aU, aI l2, aJ l3, aU] [] m Q)) ∧ (¬ (s0 ≠ 0) → ((-2147483648 ≤ (m 62 5) ∧ (m 62 5) < 2147483648) ∧ (((m 62 5) = 0) → ((0 ≤ (m 95 1)) ∧ ((m 95 1) < 40) ∧ Q none (wr (wr m 96 (m 95 1) l3) 95 1 (((wr m 96 (m 95 1) l3) 95 1) + 1)))) ∧ (¬ ((m 62 5) = 0) → (Q none m))))) : S_X8_seamTold sc d 124 [aR 62, aU, aI l2, aJ l3, aU] [aI s0] m Q := by
  obtain ⟨h1, k⟩ := k
  obtain ⟨k1, k2⟩ := k
  refine x_if_ne (tgt := 105) (pc2 := 127) dX8_seamTold_124 (by decide) rfl h1 (fun c2 => ?_) (fun c2 => ?_)
  · replace k := k1 c2
    exact k
  · replace k := k2 c2
    refine x_aload_n (pc2 := 128) dX8_seamTold_127 rfl rfl ?_
    refine x_getf (pc2 := 131) (v := aI (m 62 5)) fl_X8_290 ic_62 (fv_i _ ic_62 rfl) dX8_seamTold_128 rfl ?_
    obtain ⟨h3, k⟩ := k
    obtain ⟨k1, k2⟩ := k
    refine x_if_eq (tgt := 135) (pc2 := 134) dX8_seamTold_131 (by decide) rfl h3 (fun c4 => ?_) (fun c4 => ?_)
    · replace k := k1 c4
      refine x_aload_n (pc2 := 136) dX8_seamTold_135 rfl rfl ?_
      refine x_getf (pc2 := 139) (v := aR 96) fl_X8_114 ic_62 (vr_62_43 _) dX8_seamTold_136 rfl ?_
      refine x_aload_n (pc2 := 140) dX8_seamTold_139 rfl rfl ?_
      refine x_getf (pc2 := 143) (v := aR 95) fl_X8_111 ic_62 (vr_62_42 _) dX8_seamTold_140 rfl ?_
      refine x_iconst (pc2 := 144) dX8_seamTold_143 rfl ?_
      refine x_iald (pc2 := 145) ic_95 (by decide) (by rw [al_95]; decide) dX8_seamTold_144 rfl ?_
      refine x_lload_n (pc2 := 146) dX8_seamTold_145 rfl rfl ?_
      obtain ⟨h5, k⟩ := k
      obtain ⟨h6, k⟩ := k
      refine x_last (pc2 := 147) ic_96 h5 (by rw [al_96]; exact h6) dX8_seamTold_146 rfl ?_
      refine x_aload_n (pc2 := 148) dX8_seamTold_147 rfl rfl ?_
      refine x_getf (pc2 := 151) (v := aR 95) fl_X8_111 ic_62 (vr_62_42 _) dX8_seamTold_148 rfl ?_
      refine x_iconst (pc2 := 152) dX8_seamTold_151 rfl ?_
      refine x_dup2_ri (pc2 := 153) dX8_seamTold_152 rfl (by decide) ?_
      refine x_iald (pc2 := 154) ic_95 (by decide) (by rw [al_95]; decide) dX8_seamTold_153 rfl ?_
      refine x_iconst (pc2 := 155) dX8_seamTold_154 rfl ?_
      refine x_iadd (pc2 := 156) dX8_seamTold_155 rfl ?_
      refine x_iast (pc2 := 157) ic_95 (by decide) (by rw [al_95]; decide) dX8_seamTold_156 rfl ?_
      exact x_return dX8_seamTold_157 rfl k
    · replace k := k2 c4
      exact x_return dX8_seamTold_134 rfl k
theorem c_X8_seamTold_14 {sc : List Int} {d d2 : Nat} {m m2 : Mem} {Q : Option AV → Mem → Prop} {s1 s2 : Int} (hM : C_X8_fail sc d2 [aR 62, aI s1, aI s2] m none m2) (hd : d2 + 1 ≤ d) (k : S_X8_seamTold sc d 17 [aR 62, aU, aU, aU, aU] [] m2 Q) : S_X8_seamTold sc d 14 [aR 62, aU, aU, aU, aU] [aI s2, aI s1, aR 62] m Q := x_callV (as := [aI s1, aI s2]) (rest := []) hM mk_X8_fail mv_X8_fail lk_X8_320 (Or.inl ⟨8, (RX8, TX8, 123), ic_62, Nat.le_of_ble_eq_true rfl, rfl, rfl⟩) hd rfl rfl (Nat.le_of_ble_eq_true rfl) dX8_seamTold_14 rfl k
theorem c_X8_seamTold_36 {sc : List Int} {d d2 : Nat} {m m2 : Mem} {Q : Option AV → Mem → Prop} {l2 : Int} {v : Int} (hM : C_X8_newName sc d2 [aR 62] m (some (aJ v)) m2) (hd : d2 + 1 ≤ d) (k : S_X8_seamTold sc d 39 [aR 62, aU, aI l2, aU, aU] [aJ v] m2 Q) : S_X8_seamTold sc d 36 [aR 62, aU, aI l2, aU, aU] [aR 62] m Q := x_callV (as := []) (rest := []) hM mk_X8_newName mv_X8_newName lk_X8_377 (Or.inl ⟨8, (RX8, TX8, 123), ic_62, Nat.le_of_ble_eq_true rfl, rfl, rfl⟩) hd rfl rfl (Nat.le_of_ble_eq_true rfl) dX8_seamTold_36 rfl k
theorem c_X8_seamTold_45 {sc : List Int} {d d2 : Nat} {m m2 : Mem} {Q : Option AV → Mem → Prop} {l2 l3 s1 : Int} (Hs1 : IsC s1 102) (hM : C_X8_asks sc d2 [aR 62, aR s1] m none m2) (hd : d2 + 1 ≤ d) (k : S_X8_seamTold sc d 48 [aR 62, aU, aI l2, aJ l3, aU] [] m2 Q) : S_X8_seamTold sc d 45 [aR 62, aU, aI l2, aJ l3, aU] [aR s1, aR 62] m Q := x_callV (as := [aR s1]) (rest := []) hM mk_X8_asks mv_X8_asks lk_X8_356 (Or.inl ⟨8, (RX8, TX8, 123), ic_62, Nat.le_of_ble_eq_true rfl, rfl, rfl⟩) hd rfl rfl (Nat.le_of_ble_eq_true rfl) dX8_seamTold_45 rfl k
theorem c_X8_seamTold_57 {sc : List Int} {d d2 : Nat} {m m2 : Mem} {Q : Option AV → Mem → Prop} {l2 l3 s0 s1 s3 s4 : Int} {v : Int} (Hs0 : IsC s0 100) (hM : C_X8_number sc d2 [aR 62, aI s3, aI s4] m (some (aI v)) m2) (hd : d2 + 1 ≤ d) (k : S_X8_seamTold sc d 60 [aR 62, aU, aI l2, aJ l3, aU] [aI v, aI s1, aR s0] m2 Q) : S_X8_seamTold sc d 57 [aR 62, aU, aI l2, aJ l3, aU] [aI s4, aI s3, aR 62, aI s1, aR s0] m Q := x_callV (as := [aI s3, aI s4]) (rest := [aI s1, aR s0]) hM mk_X8_number mv_X8_number lk_X8_360 (Or.inl ⟨8, (RX8, TX8, 123), ic_62, Nat.le_of_ble_eq_true rfl, rfl, rfl⟩) hd rfl rfl (Nat.le_of_ble_eq_true rfl) dX8_seamTold_57 rfl k
theorem c_X8_seamTold_73 {sc : List Int} {d d2 : Nat} {m m2 : Mem} {Q : Option AV → Mem → Prop} {l2 l3 s0 s1 s3 : Int} {v : Int} (Hs0 : IsC s0 100) (Hs3 : IsC s3 102) (hM : C_X8_takes sc d2 [aR 62, aR s3] m (some (aI v)) m2) (hd : d2 + 1 ≤ d) (k : S_X8_seamTold sc d 76 [aR 62, aU, aI l2, aJ l3, aU] [aI v, aI s1, aR s0] m2 Q) : S_X8_seamTold sc d 73 [aR 62, aU, aI l2, aJ l3, aU] [aR s3, aR 62, aI s1, aR s0] m Q := x_callV (as := [aR s3]) (rest := [aI s1, aR s0]) hM mk_X8_takes mv_X8_takes lk_X8_317 (Or.inl ⟨8, (RX8, TX8, 123), ic_62, Nat.le_of_ble_eq_true rfl, rfl, rfl⟩) hd rfl rfl (Nat.le_of_ble_eq_true rfl) dX8_seamTold_73 rfl k
theorem c_X8_seamTold_99 {sc : List Int} {d d2 : Nat} {m m2 : Mem} {Q : Option AV → Mem → Prop} {l2 l3 s1 : Int} {v : Int} (Hs1 : IsC s1 102) (hM : C_X8_takes sc d2 [aR 62, aR s1] m (some (aI v)) m2) (hd : d2 + 1 ≤ d) (k : S_X8_seamTold sc d 102 [aR 62, aU, aI l2, aJ l3, aU] [aI v] m2 Q) : S_X8_seamTold sc d 99 [aR 62, aU, aI l2, aJ l3, aU] [aR s1, aR 62] m Q := x_callV (as := [aR s1]) (rest := []) hM mk_X8_takes mv_X8_takes lk_X8_317 (Or.inl ⟨8, (RX8, TX8, 123), ic_62, Nat.le_of_ble_eq_true rfl, rfl, rfl⟩) hd rfl rfl (Nat.le_of_ble_eq_true rfl) dX8_seamTold_99 rfl k
theorem c_X8_seamTold_107 {sc : List Int} {d d2 : Nat} {m m2 : Mem} {Q : Option AV → Mem → Prop} {l2 l3 s1 : Int} (hM : C_X8_placeTold sc d2 [aR 62, aI s1] m none m2) (hd : d2 + 1 ≤ d) (k : S_X8_seamTold sc d 110 [aR 62, aU, aI l2, aJ l3, aU] [] m2 Q) : S_X8_seamTold sc d 107 [aR 62, aU, aI l2, aJ l3, aU] [aI s1, aR 62] m Q := x_callV (as := [aI s1]) (rest := []) hM mk_X8_placeTold mv_X8_placeTold lk_X8_380 (Or.inl ⟨8, (RX8, TX8, 123), ic_62, Nat.le_of_ble_eq_true rfl, rfl, rfl⟩) hd rfl rfl (Nat.le_of_ble_eq_true rfl) dX8_seamTold_107 rfl k
theorem c_X8_seamTold_118 {sc : List Int} {d d2 : Nat} {m m2 : Mem} {Q : Option AV → Mem → Prop} {l2 l3 : Int} {v : Int} (hM : C_X8_look sc d2 [aR 62] m (some (aI v)) m2) (hd : d2 + 1 ≤ d) (k : S_X8_seamTold sc d 121 [aR 62, aU, aI l2, aJ l3, aU] [aI v] m2 Q) : S_X8_seamTold sc d 118 [aR 62, aU, aI l2, aJ l3, aU] [aR 62] m Q := x_callV (as := []) (rest := []) hM mk_X8_look mv_X8_look lk_X8_302 (Or.inl ⟨8, (RX8, TX8, 123), ic_62, Nat.le_of_ble_eq_true rfl, rfl, rfl⟩) hd rfl rfl (Nat.le_of_ble_eq_true rfl) dX8_seamTold_118 rfl k
theorem c_X8_seamTold_121 {sc : List Int} {d d2 : Nat} {m m2 : Mem} {Q : Option AV → Mem → Prop} {l2 l3 s0 : Int} {v : Int} (hM : C_X8_isDigit sc d2 [aI s0] m (some (aI v)) m2) (hd : d2 + 1 ≤ d) (k : S_X8_seamTold sc d 124 [aR 62, aU, aI l2, aJ l3, aU] [aI v] m2 Q) : S_X8_seamTold sc d 121 [aR 62, aU, aI l2, aJ l3, aU] [aI s0] m Q := x_callS (as := [aI s0]) (rest := []) hM mk_X8_isDigit ms_X8_isDigit lk_X8_327 hd rfl rfl (Nat.le_of_ble_eq_true rfl) dX8_seamTold_121 rfl k
set_option maxRecDepth 4000 in
theorem g_X8_ruleTold_0 {sc : List Int} {d : Nat} {m : Mem} {Q : Option AV → Mem → Prop} {l1 : Int} (k : (-2147483648 ≤ (m 95 2) ∧ (m 95 2) < 2147483648) ∧ (((m 95 2) ≠ 4) → (S_X8_ruleTold sc d 16 [aR 62, aU, aU, aU, aU] [] m Q)) ∧ (¬ ((m 95 2) ≠ 4) → (S_X8_ruleTold sc d 13 [aR 62, aU, aU, aU, aU] [aI l1, aI 5, aR 62] m Q))) : S_X8_ruleTold sc d 0 [aR 62, aI l1, aU, aU, aU] [] m Q := by
  refine x_aload_n (pc2 := 1) dX8_ruleTold_0 rfl rfl ?_
  refine x_getf (pc2 := 4) (v := aR 95) fl_X8_111 ic_62 (vr_62_42 _) dX8_ruleTold_1 rfl ?_
  refine x_iconst (pc2 := 5) dX8_ruleTold_4 rfl ?_
  refine x_iald (pc2 := 6) ic_95 (by decide) (by rw [al_95]; decide) dX8_ruleTold_5 rfl ?_
  refine x_iconst (pc2 := 7) dX8_ruleTold_6 rfl ?_
  obtain ⟨h1, k⟩ := k
  obtain ⟨k1, k2⟩ := k
  refine x_icmp_ne (tgt := 16) (pc2 := 10) dX8_ruleTold_7 (by decide) rfl h1 (by decide) (fun c2 => ?_) (fun c2 => ?_)
  · replace k := k1 c2
    exact x_drop (drp_k (drp_u (drp_k (drp_k (drp_k drp_n))))) k
  · replace k := k2 c2
    refine x_aload_n (pc2 := 11) dX8_ruleTold_10 rfl rfl ?_
    refine x_iconst (pc2 := 12) dX8_ruleTold_11 rfl ?_
    refine x_iload_n (pc2 := 13) dX8_ruleTold_12 rfl rfl ?_
    exact x_drop (drp_k (drp_u (drp_k (drp_k (drp_k drp_n))))) k
set_option maxRecDepth 4000 in
theorem g_X8_ruleTold_16 {sc : List Int} {d : Nat} {m : Mem} {Q : Option AV → Mem → Prop} (k : (-2147483648 ≤ (m 62 5) ∧ (m 62 5) < 2147483648) ∧ (((m 62 5) = 0) → (S_X8_ruleTold sc d 25 [aR 62, aU, aU, aU, aU] [aR 62] m Q)) ∧ (¬ ((m 62 5) = 0) → (Q none m))) : S_X8_ruleTold sc d 16 [aR 62, aU, aU, aU, aU] [] m Q := by
  refine x_aload_n (pc2 := 17) dX8_ruleTold_16 rfl rfl ?_
  refine x_getf (pc2 := 20) (v := aI (m 62 5)) fl_X8_290 ic_62 (fv_i _ ic_62 rfl) dX8_ruleTold_17 rfl ?_
  obtain ⟨h1, k⟩ := k
  obtain ⟨k1, k2⟩ := k
  refine x_if_eq (tgt := 24) (pc2 := 23) dX8_ruleTold_20 (by decide) rfl h1 (fun c2 => ?_) (fun c2 => ?_)
  · replace k := k1 c2
    refine x_aload_n (pc2 := 25) dX8_ruleTold_24 rfl rfl ?_
    exact k
  · replace k := k2 c2
    exact x_return dX8_ruleTold_23 rfl k
set_option maxRecDepth 4000 in
theorem g_X8_ruleTold_28 {sc : List Int} {d : Nat} {m : Mem} {Q : Option AV → Mem → Prop} {s0 : Int} (k : S_X8_ruleTold sc d 34 [aR 62, aU, aJ s0, aU, aU] [aR 73, aR 62] m Q) : S_X8_ruleTold sc d 28 [aR 62, aU, aU, aU, aU] [aJ s0] m Q := by
  refine x_lstore_n (pc2 := 29) (ls2 := [aR 62, aU, aJ s0, aU, aU]) dX8_ruleTold_28 rfl (by decide) rfl ?_
  refine x_aload_n (pc2 := 30) dX8_ruleTold_29 rfl rfl ?_
  refine x_aload_n (pc2 := 31) dX8_ruleTold_30 rfl rfl ?_
  refine x_getf (pc2 := 34) (v := aR 73) fl_X8_45 ic_62 (vr_62_19 _) dX8_ruleTold_31 rfl ?_
  exact k
set_option maxRecDepth 4000 in
theorem g_X8_ruleTold_37 {sc : List Int} {d : Nat} {m : Mem} {Q : Option AV → Mem → Prop} {l2 : Int} (k : (-2147483648 ≤ (m 62 5) ∧ (m 62 5) < 2147483648) ∧ (((m 62 5) = 0) → (S_X8_ruleTold sc d 71 [aR 62, aU, aJ l2, aU, aU] [aR 62] (wr (wr (wr (wr (wr m 62 54 1) 62 112 0) 62 114 0) 62 115 0) 62 116 0) Q)) ∧ (¬ ((m 62 5) = 0) → (Q none m))) : S_X8_ruleTold sc d 37 [aR 62, aU, aJ l2, aU, aU] [] m Q := by
  refine x_aload_n (pc2 := 38) dX8_ruleTold_37 rfl rfl ?_
  refine x_getf (pc2 := 41) (v := aI (m 62 5)) fl_X8_290 ic_62 (fv_i _ ic_62 rfl) dX8_ruleTold_38 rfl ?_
  obtain ⟨h1, k⟩ := k
  obtain ⟨k1, k2⟩ := k
  refine x_if_eq (tgt := 45) (pc2 := 44) dX8_ruleTold_41 (by decide) rfl h1 (fun c2 => ?_) (fun c2 => ?_)
  · replace k := k1 c2
    refine x_aload_n (pc2 := 46) dX8_ruleTold_45 rfl rfl ?_
    refine x_iconst (pc2 := 47) dX8_ruleTold_46 rfl ?_
    refine x_putf (pc2 := 50) (x := 1) fl_X8_348 ft_8_54 ic_62 (pv_i _ ic_62 rfl) (pn_z (by decide)) dX8_ruleTold_47 rfl ?_
    refine x_aload_n (pc2 := 51) dX8_ruleTold_50 rfl rfl ?_
    refine x_iconst (pc2 := 52) dX8_ruleTold_51 rfl ?_
    refine x_putf (pc2 := 55) (x := 0) fl_X8_383 ft_8_112 ic_62 (pv_i _ ic_62 rfl) (pn_i _) dX8_ruleTold_52 rfl ?_
    refine x_aload_n (pc2 := 56) dX8_ruleTold_55 rfl rfl ?_
    refine x_iconst (pc2 := 57) dX8_ruleTold_56 rfl ?_
    refine x_putf (pc2 := 60) (x := 0) fl_X8_386 ft_8_114 ic_62 (pv_i _ ic_62 rfl) (pn_i _) dX8_ruleTold_57 rfl ?_
    refine x_aload_n (pc2 := 61) dX8_ruleTold_60 rfl rfl ?_
    refine x_iconst (pc2 := 62) dX8_ruleTold_61 rfl ?_
    refine x_putf (pc2 := 65) (x := 0) fl_X8_389 ft_8_115 ic_62 (pv_i _ ic_62 rfl) (pn_i _) dX8_ruleTold_62 rfl ?_
    refine x_aload_n (pc2 := 66) dX8_ruleTold_65 rfl rfl ?_
    refine x_iconst (pc2 := 67) dX8_ruleTold_66 rfl ?_
    refine x_putf (pc2 := 70) (x := 0) fl_X8_392 ft_8_116 ic_62 (pv_i _ ic_62 rfl) (pn_i _) dX8_ruleTold_67 rfl ?_
    refine x_aload_n (pc2 := 71) dX8_ruleTold_70 rfl rfl ?_
    exact k
  · replace k := k2 c2
    exact x_return dX8_ruleTold_44 rfl k
set_option maxRecDepth 4000 in
theorem g_X8_ruleTold_74 {sc : List Int} {d : Nat} {m : Mem} {Q : Option AV → Mem → Prop} {l2 : Int} (k : (-2147483648 ≤ (m 62 5) ∧ (m 62 5) < 2147483648) ∧ (((m 62 5) = 0) → ((0 ≤ (m 95 2)) ∧ ((m 95 2) < 8) ∧ S_X8_ruleTold sc d 100 [aR 62, aU, aJ l2, aU, aI 0] [] (wr m 101 (m 95 2) (m 62 51)) Q)) ∧ (¬ ((m 62 5) = 0) → (Q none m))) : S_X8_ruleTold sc d 74 [aR 62, aU, aJ l2, aU, aU] [] m Q := by
  refine x_aload_n (pc2 := 75) dX8_ruleTold_74 rfl rfl ?_
  refine x_getf (pc2 := 78) (v := aI (m 62 5)) fl_X8_290 ic_62 (fv_i _ ic_62 rfl) dX8_ruleTold_75 rfl ?_
  obtain ⟨h1, k⟩ := k
  obtain ⟨k1, k2⟩ := k
  refine x_if_eq (tgt := 82) (pc2 := 81) dX8_ruleTold_78 (by decide) rfl h1 (fun c2 => ?_) (fun c2 => ?_)
  · replace k := k1 c2
    refine x_aload_n (pc2 := 83) dX8_ruleTold_82 rfl rfl ?_
    refine x_getf (pc2 := 86) (v := aR 101) fl_X8_130 ic_62 (vr_62_48 _) dX8_ruleTold_83 rfl ?_
    refine x_aload_n (pc2 := 87) dX8_ruleTold_86 rfl rfl ?_
    refine x_getf (pc2 := 90) (v := aR 95) fl_X8_111 ic_62 (vr_62_42 _) dX8_ruleTold_87 rfl ?_
    refine x_iconst (pc2 := 91) dX8_ruleTold_90 rfl ?_
    refine x_iald (pc2 := 92) ic_95 (by decide) (by rw [al_95]; decide) dX8_ruleTold_91 rfl ?_
    refine x_aload_n (pc2 := 93) dX8_ruleTold_92 rfl rfl ?_
    refine x_getf (pc2 := 96) (v := aI (m 62 51)) fl_X8_398 ic_62 (fv_i _ ic_62 rfl) dX8_ruleTold_93 rfl ?_
    obtain ⟨h3, k⟩ := k
    obtain ⟨h4, k⟩ := k
    refine x_iast (pc2 := 97) ic_101 h3 (by rw [al_101]; exact h4) dX8_ruleTold_96 rfl ?_
    refine x_iconst (pc2 := 98) dX8_ruleTold_97 rfl ?_
    refine x_istore (pc2 := 100) (ls2 := [aR 62, aU, aJ l2, aU, aI 0]) dX8_ruleTold_98 rfl (by decide) rfl ?_
    exact k
  · replace k := k2 c2
    exact x_return dX8_ruleTold_81 rfl k
set_option maxRecDepth 4000 in
theorem g_X8_ruleTold_100 {sc : List Int} {d : Nat} {m : Mem} {Q : Option AV → Mem → Prop} {l2 l4 : Int} (k : (-2147483648 ≤ l4 ∧ l4 < 2147483648) ∧ (-2147483648 ≤ (m 62 112) ∧ (m 62 112) < 2147483648) ∧ (((m 62 112) ≤ l4) → ((0 ≤ (m 95 2)) ∧ ((m 95 2) < 8) ∧ (0 ≤ (10 + ((wr m 102 (m 95 2) (m 62 51)) 95 2))) ∧ ((10 + ((wr m 102 (m 95 2) (m 62 51)) 95 2)) < 40) ∧ Q none (wr (wr (wr m 102 (m 95 2) (m 62 51)) 96 (10 + ((wr m 102 (m 95 2) (m 62 51)) 95 2)) l2) 95 2 (((wr (wr m 102 (m 95 2) (m 62 51)) 96 (10 + ((wr m 102 (m 95 2) (m 62 51)) 95 2)) l2) 95 2) + 1)))) ∧ (¬ ((m 62 112) ≤ l4) → ((0 ≤ l4) ∧ (l4 < 1700) ∧ (0 ≤ (m 62 51)) ∧ ((m 62 51) < 3200) ∧ S_X8_ruleTold sc d 100 [aR 62, aU, aJ l2, aU, aI (l4 + 1)] [] (wr (wr m 103 (m 62 51) (m 148 l4)) 62 51 (((wr m 103 (m 62 51) (m 148 l4)) 62 51) + 1)) Q))) : S_X8_ruleTold sc d 100 [aR 62, aU, aJ l2, aU, aI l4] [] m Q := by
  refine x_iload (pc2 := 102) dX8_ruleTold_100 rfl rfl ?_
  refine x_aload_n (pc2 := 103) dX8_ruleTold_102 rfl rfl ?_
  refine x_getf (pc2 := 106) (v := aI (m 62 112)) fl_X8_383 ic_62 (fv_i _ ic_62 rfl) dX8_ruleTold_103 rfl ?_
  obtain ⟨h1, k⟩ := k
  obtain ⟨h2, k⟩ := k
  obtain ⟨k1, k2⟩ := k
  refine x_icmp_ge (tgt := 141) (pc2 := 109) dX8_ruleTold_106 (by decide) rfl h1 h2 (fun c3 => ?_) (fun c3 => ?_)
  · replace k := k1 c3
    refine x_aload_n (pc2 := 142) dX8_ruleTold_141 rfl rfl ?_
    refine x_getf (pc2 := 145) (v := aR 102) fl_X8_133 ic_62 (vr_62_49 _) dX8_ruleTold_142 rfl ?_
    refine x_aload_n (pc2 := 146) dX8_ruleTold_145 rfl rfl ?_
    refine x_getf (pc2 := 149) (v := aR 95) fl_X8_111 ic_62 (vr_62_42 _) dX8_ruleTold_146 rfl ?_
    refine x_iconst (pc2 := 150) dX8_ruleTold_149 rfl ?_
    refine x_iald (pc2 := 151) ic_95 (by decide) (by rw [al_95]; decide) dX8_ruleTold_150 rfl ?_
    refine x_aload_n (pc2 := 152) dX8_ruleTold_151 rfl rfl ?_
    refine x_getf (pc2 := 155) (v := aI (m 62 51)) fl_X8_398 ic_62 (fv_i _ ic_62 rfl) dX8_ruleTold_152 rfl ?_
    obtain ⟨h4, k⟩ := k
    obtain ⟨h5, k⟩ := k
    refine x_iast (pc2 := 156) ic_102 h4 (by rw [al_102]; exact h5) dX8_ruleTold_155 rfl ?_
    refine x_aload_n (pc2 := 157) dX8_ruleTold_156 rfl rfl ?_
    refine x_getf (pc2 := 160) (v := aR 96) fl_X8_114 ic_62 (vr_62_43 _) dX8_ruleTold_157 rfl ?_
    refine x_bipush (pc2 := 162) dX8_ruleTold_160 rfl rfl ?_
    refine x_aload_n (pc2 := 163) dX8_ruleTold_162 rfl rfl ?_
    refine x_getf (pc2 := 166) (v := aR 95) fl_X8_111 ic_62 (vr_62_42 _) dX8_ruleTold_163 rfl ?_
    refine x_iconst (pc2 := 167) dX8_ruleTold_166 rfl ?_
    refine x_iald (pc2 := 168) ic_95 (by decide) (by rw [al_95]; decide) dX8_ruleTold_167 rfl ?_
    refine x_iadd (pc2 := 169) dX8_ruleTold_168 rfl ?_
    refine x_lload_n (pc2 := 170) dX8_ruleTold_169 rfl rfl ?_
    obtain ⟨h6, k⟩ := k
    obtain ⟨h7, k⟩ := k
    refine x_last (pc2 := 171) ic_96 h6 (by rw [al_96]; exact h7) dX8_ruleTold_170 rfl ?_
    refine x_aload_n (pc2 := 172) dX8_ruleTold_171 rfl rfl ?_
    refine x_getf (pc2 := 175) (v := aR 95) fl_X8_111 ic_62 (vr_62_42 _) dX8_ruleTold_172 rfl ?_
    refine x_iconst (pc2 := 176) dX8_ruleTold_175 rfl ?_
    refine x_dup2_ri (pc2 := 177) dX8_ruleTold_176 rfl (by decide) ?_
    refine x_iald (pc2 := 178) ic_95 (by decide) (by rw [al_95]; decide) dX8_ruleTold_177 rfl ?_
    refine x_iconst (pc2 := 179) dX8_ruleTold_178 rfl ?_
    refine x_iadd (pc2 := 180) dX8_ruleTold_179 rfl ?_
    refine x_iast (pc2 := 181) ic_95 (by decide) (by rw [al_95]; decide) dX8_ruleTold_180 rfl ?_
    exact x_return dX8_ruleTold_181 rfl k
  · replace k := k2 c3
    refine x_aload_n (pc2 := 110) dX8_ruleTold_109 rfl rfl ?_
    refine x_getf (pc2 := 113) (v := aR 103) fl_X8_136 ic_62 (vr_62_50 _) dX8_ruleTold_110 rfl ?_
    refine x_aload_n (pc2 := 114) dX8_ruleTold_113 rfl rfl ?_
    refine x_getf (pc2 := 117) (v := aI (m 62 51)) fl_X8_398 ic_62 (fv_i _ ic_62 rfl) dX8_ruleTold_114 rfl ?_
    refine x_aload_n (pc2 := 118) dX8_ruleTold_117 rfl rfl ?_
    refine x_getf (pc2 := 121) (v := aR 148) fl_X8_275 ic_62 (vr_62_111 _) dX8_ruleTold_118 rfl ?_
    refine x_iload (pc2 := 123) dX8_ruleTold_121 rfl rfl ?_
    obtain ⟨h8, k⟩ := k
    obtain ⟨h9, k⟩ := k
    refine x_iald (pc2 := 124) ic_148 h8 (by rw [al_148]; exact h9) dX8_ruleTold_123 rfl ?_
    obtain ⟨h10, k⟩ := k
    obtain ⟨h11, k⟩ := k
    refine x_iast (pc2 := 125) ic_103 h10 (by rw [al_103]; exact h11) dX8_ruleTold_124 rfl ?_
    refine x_aload_n (pc2 := 126) dX8_ruleTold_125 rfl rfl ?_
    refine x_dup_r (pc2 := 127) dX8_ruleTold_126 rfl (by decide) ?_
    refine x_getf (pc2 := 130) (v := aI ((wr m 103 (m 62 51) (m 148 l4)) 62 51)) fl_X8_398 ic_62 (fv_i _ ic_62 rfl) dX8_ruleTold_127 rfl ?_
    refine x_iconst (pc2 := 131) dX8_ruleTold_130 rfl ?_
    refine x_iadd (pc2 := 132) dX8_ruleTold_131 rfl ?_
    refine x_putf (pc2 := 135) (x := (((wr m 103 (m 62 51) (m 148 l4)) 62 51) + 1)) fl_X8_398 ft_8_51 ic_62 (pv_i _ ic_62 rfl) (pn_i _) dX8_ruleTold_132 rfl ?_
    refine x_iinc (pc2 := 138) (ls2 := [aR 62, aU, aJ l2, aU, aI (l4 + 1)]) dX8_ruleTold_135 rfl rfl (by decide) rfl ?_
    refine x_goto (tgt := 100) dX8_ruleTold_138 (by decide) ?_
    exact k
theorem c_X8_ruleTold_13 {sc : List Int} {d d2 : Nat} {m m2 : Mem} {Q : Option AV → Mem → Prop} {s1 s2 : Int} (hM : C_X8_fail sc d2 [aR 62, aI s1, aI s2] m none m2) (hd : d2 + 1 ≤ d) (k : S_X8_ruleTold sc d 16 [aR 62, aU, aU, aU, aU] [] m2 Q) : S_X8_ruleTold sc d 13 [aR 62, aU, aU, aU, aU] [aI s2, aI s1, aR 62] m Q := x_callV (as := [aI s1, aI s2]) (rest := []) hM mk_X8_fail mv_X8_fail lk_X8_320 (Or.inl ⟨8, (RX8, TX8, 123), ic_62, Nat.le_of_ble_eq_true rfl, rfl, rfl⟩) hd rfl rfl (Nat.le_of_ble_eq_true rfl) dX8_ruleTold_13 rfl k
theorem c_X8_ruleTold_25 {sc : List Int} {d d2 : Nat} {m m2 : Mem} {Q : Option AV → Mem → Prop} {v : Int} (hM : C_X8_newName sc d2 [aR 62] m (some (aJ v)) m2) (hd : d2 + 1 ≤ d) (k : S_X8_ruleTold sc d 28 [aR 62, aU, aU, aU, aU] [aJ v] m2 Q) : S_X8_ruleTold sc d 25 [aR 62, aU, aU, aU, aU] [aR 62] m Q := x_callV (as := []) (rest := []) hM mk_X8_newName mv_X8_newName lk_X8_377 (Or.inl ⟨8, (RX8, TX8, 123), ic_62, Nat.le_of_ble_eq_true rfl, rfl, rfl⟩) hd rfl rfl (Nat.le_of_ble_eq_true rfl) dX8_ruleTold_25 rfl k
theorem c_X8_ruleTold_34 {sc : List Int} {d d2 : Nat} {m m2 : Mem} {Q : Option AV → Mem → Prop} {l2 s1 : Int} (Hs1 : IsC s1 102) (hM : C_X8_asks sc d2 [aR 62, aR s1] m none m2) (hd : d2 + 1 ≤ d) (k : S_X8_ruleTold sc d 37 [aR 62, aU, aJ l2, aU, aU] [] m2 Q) : S_X8_ruleTold sc d 34 [aR 62, aU, aJ l2, aU, aU] [aR s1, aR 62] m Q := x_callV (as := [aR s1]) (rest := []) hM mk_X8_asks mv_X8_asks lk_X8_356 (Or.inl ⟨8, (RX8, TX8, 123), ic_62, Nat.le_of_ble_eq_true rfl, rfl, rfl⟩) hd rfl rfl (Nat.le_of_ble_eq_true rfl) dX8_ruleTold_34 rfl k
theorem c_X8_ruleTold_71 {sc : List Int} {d d2 : Nat} {m m2 : Mem} {Q : Option AV → Mem → Prop} {l2 : Int} (hM : C_X8_qTest sc d2 [aR 62] m none m2) (hd : d2 + 1 ≤ d) (k : S_X8_ruleTold sc d 74 [aR 62, aU, aJ l2, aU, aU] [] m2 Q) : S_X8_ruleTold sc d 71 [aR 62, aU, aJ l2, aU, aU] [aR 62] m Q := x_callV (as := []) (rest := []) hM mk_X8_qTest mv_X8_qTest lk_X8_395 (Or.inl ⟨8, (RX8, TX8, 123), ic_62, Nat.le_of_ble_eq_true rfl, rfl, rfl⟩) hd rfl rfl (Nat.le_of_ble_eq_true rfl) dX8_ruleTold_71 rfl k
set_option maxRecDepth 4000 in
theorem g_X8_statementTold_0 {sc : List Int} {d : Nat} {m : Mem} {Q : Option AV → Mem → Prop} (k : (-2147483648 ≤ (m 62 52) ∧ (m 62 52) < 2147483648) ∧ (((m 62 52) ≠ 60) → (S_X8_statementTold sc d 26 [aR 62, aI (m 62 2)] [aR 68, aR 62] m Q)) ∧ (¬ ((m 62 52) ≠ 60) → (S_X8_statementTold sc d 17 [aR 62, aU] [aI (m 62 2), aI 5, aR 62] m Q))) : S_X8_statementTold sc d 0 [aR 62, aU] [] m Q := by
  refine x_aload_n (pc2 := 1) dX8_statementTold_0 rfl rfl ?_
  refine x_getf (pc2 := 4) (v := aI (m 62 2)) fl_X8_296 ic_62 (fv_i _ ic_62 rfl) dX8_statementTold_1 rfl ?_
  refine x_istore_n (pc2 := 5) (ls2 := [aR 62, aI (m 62 2)]) dX8_statementTold_4 rfl (by decide) rfl ?_
  refine x_aload_n (pc2 := 6) dX8_statementTold_5 rfl rfl ?_
  refine x_getf (pc2 := 9) (v := aI (m 62 52)) fl_X8_401 ic_62 (fv_i _ ic_62 rfl) dX8_statementTold_6 rfl ?_
  refine x_bipush (pc2 := 11) dX8_statementTold_9 rfl rfl ?_
  obtain ⟨h1, k⟩ := k
  obtain ⟨k1, k2⟩ := k
  refine x_icmp_ne (tgt := 21) (pc2 := 14) dX8_statementTold_11 (by decide) rfl h1 (by decide) (fun c2 => ?_) (fun c2 => ?_)
  · replace k := k1 c2
    refine x_aload_n (pc2 := 22) dX8_statementTold_21 rfl rfl ?_
    refine x_aload_n (pc2 := 23) dX8_statementTold_22 rfl rfl ?_
    refine x_getf (pc2 := 26) (v := aR 68) fl_X8_30 ic_62 (vr_62_14 _) dX8_statementTold_23 rfl ?_
    exact k
  · replace k := k2 c2
    refine x_aload_n (pc2 := 15) dX8_statementTold_14 rfl rfl ?_
    refine x_iconst (pc2 := 16) dX8_statementTold_15 rfl ?_
    refine x_iload_n (pc2 := 17) dX8_statementTold_16 rfl rfl ?_
    exact x_drop (drp_k (drp_u drp_n)) k
set_option maxRecDepth 4000 in
theorem g_X8_statementTold_20 {sc : List Int} {d : Nat} {m : Mem} {Q : Option AV → Mem → Prop} (k : Q none m) : S_X8_statementTold sc d 20 [aR 62, aU] [] m Q := by
  exact x_return dX8_statementTold_20 rfl k
set_option maxRecDepth 4000 in
theorem g_X8_statementTold_29 {sc : List Int} {d : Nat} {m : Mem} {Q : Option AV → Mem → Prop} {l1 s0 : Int} (k : (-2147483648 ≤ s0 ∧ s0 < 2147483648) ∧ ((s0 = 0) → (S_X8_statementTold sc d 45 [aR 62, aI l1] [aR 72, aR 62] m Q)) ∧ (¬ (s0 = 0) → (S_X8_statementTold sc d 34 [aR 62, aU] [aI l1, aR 62] m Q))) : S_X8_statementTold sc d 29 [aR 62, aI l1] [aI s0] m Q := by
  obtain ⟨h1, k⟩ := k
  obtain ⟨k1, k2⟩ := k
  refine x_if_eq (tgt := 40) (pc2 := 32) dX8_statementTold_29 (by decide) rfl h1 (fun c2 => ?_) (fun c2 => ?_)
  · replace k := k1 c2
    refine x_aload_n (pc2 := 41) dX8_statementTold_40 rfl rfl ?_
    refine x_aload_n (pc2 := 42) dX8_statementTold_41 rfl rfl ?_
    refine x_getf (pc2 := 45) (v := aR 72) fl_X8_42 ic_62 (vr_62_18 _) dX8_statementTold_42 rfl ?_
    exact k
  · replace k := k2 c2
    refine x_aload_n (pc2 := 33) dX8_statementTold_32 rfl rfl ?_
    refine x_iload_n (pc2 := 34) dX8_statementTold_33 rfl rfl ?_
    exact x_drop (drp_k (drp_u drp_n)) k
set_option maxRecDepth 4000 in
theorem g_X8_statementTold_37 {sc : List Int} {d : Nat} {m : Mem} {Q : Option AV → Mem → Prop} (k : S_X8_statementTold sc d 217 [aR 62, aU] [aI 59, aR 62] m Q) : S_X8_statementTold sc d 37 [aR 62, aU] [] m Q := by
  refine x_goto (tgt := 214) dX8_statementTold_37 (by decide) ?_
  refine x_aload_n (pc2 := 215) dX8_statementTold_214 rfl rfl ?_
  refine x_bipush (pc2 := 217) dX8_statementTold_215 rfl rfl ?_
  exact k
set_option maxRecDepth 4000 in
theorem g_X8_statementTold_48 {sc : List Int} {d : Nat} {m : Mem} {Q : Option AV → Mem → Prop} {l1 s0 : Int} (k : (-2147483648 ≤ s0 ∧ s0 < 2147483648) ∧ ((s0 = 0) → (S_X8_statementTold sc d 64 [aR 62, aU] [aR 74, aR 62] m Q)) ∧ (¬ (s0 = 0) → (S_X8_statementTold sc d 53 [aR 62, aU] [aI l1, aR 62] m Q))) : S_X8_statementTold sc d 48 [aR 62, aI l1] [aI s0] m Q := by
  obtain ⟨h1, k⟩ := k
  obtain ⟨k1, k2⟩ := k
  refine x_if_eq (tgt := 59) (pc2 := 51) dX8_statementTold_48 (by decide) rfl h1 (fun c2 => ?_) (fun c2 => ?_)
  · replace k := k1 c2
    refine x_aload_n (pc2 := 60) dX8_statementTold_59 rfl rfl ?_
    refine x_aload_n (pc2 := 61) dX8_statementTold_60 rfl rfl ?_
    refine x_getf (pc2 := 64) (v := aR 74) fl_X8_48 ic_62 (vr_62_20 _) dX8_statementTold_61 rfl ?_
    exact x_drop (drp_k (drp_u drp_n)) k
  · replace k := k2 c2
    refine x_aload_n (pc2 := 52) dX8_statementTold_51 rfl rfl ?_
    refine x_iload_n (pc2 := 53) dX8_statementTold_52 rfl rfl ?_
    exact x_drop (drp_k (drp_u drp_n)) k
set_option maxRecDepth 4000 in
theorem g_X8_statementTold_56 {sc : List Int} {d : Nat} {m : Mem} {Q : Option AV → Mem → Prop} (k : S_X8_statementTold sc d 217 [aR 62, aU] [aI 59, aR 62] m Q) : S_X8_statementTold sc d 56 [aR 62, aU] [] m Q := by
  refine x_goto (tgt := 214) dX8_statementTold_56 (by decide) ?_
  refine x_aload_n (pc2 := 215) dX8_statementTold_214 rfl rfl ?_
  refine x_bipush (pc2 := 217) dX8_statementTold_215 rfl rfl ?_
  exact k
set_option maxRecDepth 4000 in
theorem g_X8_statementTold_67 {sc : List Int} {d : Nat} {m : Mem} {Q : Option AV → Mem → Prop} {s0 : Int} (k : (-2147483648 ≤ s0 ∧ s0 < 2147483648) ∧ ((s0 = 0) → (S_X8_statementTold sc d 91 [aR 62, aU] [aR 75, aR 62] m Q)) ∧ (¬ (s0 = 0) → (S_X8_statementTold sc d 79 [aR 62, aU] [aI 99, aI 0, aR 62, aI 0, aR 100] m Q))) : S_X8_statementTold sc d 67 [aR 62, aU] [aI s0] m Q := by
  obtain ⟨h1, k⟩ := k
  obtain ⟨k1, k2⟩ := k
  refine x_if_eq (tgt := 86) (pc2 := 70) dX8_statementTold_67 (by decide) rfl h1 (fun c2 => ?_) (fun c2 => ?_)
  · replace k := k1 c2
    refine x_aload_n (pc2 := 87) dX8_statementTold_86 rfl rfl ?_
    refine x_aload_n (pc2 := 88) dX8_statementTold_87 rfl rfl ?_
    refine x_getf (pc2 := 91) (v := aR 75) fl_X8_51 ic_62 (vr_62_21 _) dX8_statementTold_88 rfl ?_
    exact k
  · replace k := k2 c2
    refine x_aload_n (pc2 := 71) dX8_statementTold_70 rfl rfl ?_
    refine x_getf (pc2 := 74) (v := aR 100) fl_X8_127 ic_62 (vr_62_47 _) dX8_statementTold_71 rfl ?_
    refine x_iconst (pc2 := 75) dX8_statementTold_74 rfl ?_
    refine x_aload_n (pc2 := 76) dX8_statementTold_75 rfl rfl ?_
    refine x_iconst (pc2 := 77) dX8_statementTold_76 rfl ?_
    refine x_bipush (pc2 := 79) dX8_statementTold_77 rfl rfl ?_
    exact k
set_option maxRecDepth 4000 in
theorem g_X8_statementTold_82 {sc : List Int} {d : Nat} {m : Mem} {Q : Option AV → Mem → Prop} {s0 s1 s2 : Int} (Hs0 : IsC s0 100) (k : (0 ≤ s1) ∧ (s1 < alen s0) ∧ S_X8_statementTold sc d 217 [aR 62, aU] [aI 59, aR 62] (wr m s0 s1 s2) Q) : S_X8_statementTold sc d 82 [aR 62, aU] [aI s2, aI s1, aR s0] m Q := by
  obtain ⟨h1, k⟩ := k
  obtain ⟨h2, k⟩ := k
  refine x_iast (pc2 := 83) Hs0 h1 h2 dX8_statementTold_82 rfl ?_
  refine x_goto (tgt := 214) dX8_statementTold_83 (by decide) ?_
  refine x_aload_n (pc2 := 215) dX8_statementTold_214 rfl rfl ?_
  refine x_bipush (pc2 := 217) dX8_statementTold_215 rfl rfl ?_
  exact k
set_option maxRecDepth 4000 in
theorem g_X8_statementTold_94 {sc : List Int} {d : Nat} {m : Mem} {Q : Option AV → Mem → Prop} {s0 : Int} (k : (-2147483648 ≤ s0 ∧ s0 < 2147483648) ∧ ((s0 = 0) → (S_X8_statementTold sc d 118 [aR 62, aU] [aR 76, aR 62] m Q)) ∧ (¬ (s0 = 0) → (S_X8_statementTold sc d 106 [aR 62, aU] [aI 99, aI 0, aR 62, aI 1, aR 100] m Q))) : S_X8_statementTold sc d 94 [aR 62, aU] [aI s0] m Q := by
  obtain ⟨h1, k⟩ := k
  obtain ⟨k1, k2⟩ := k
  refine x_if_eq (tgt := 113) (pc2 := 97) dX8_statementTold_94 (by decide) rfl h1 (fun c2 => ?_) (fun c2 => ?_)
  · replace k := k1 c2
    refine x_aload_n (pc2 := 114) dX8_statementTold_113 rfl rfl ?_
    refine x_aload_n (pc2 := 115) dX8_statementTold_114 rfl rfl ?_
    refine x_getf (pc2 := 118) (v := aR 76) fl_X8_54 ic_62 (vr_62_22 _) dX8_statementTold_115 rfl ?_
    exact k
  · replace k := k2 c2
    refine x_aload_n (pc2 := 98) dX8_statementTold_97 rfl rfl ?_
    refine x_getf (pc2 := 101) (v := aR 100) fl_X8_127 ic_62 (vr_62_47 _) dX8_statementTold_98 rfl ?_
    refine x_iconst (pc2 := 102) dX8_statementTold_101 rfl ?_
    refine x_aload_n (pc2 := 103) dX8_statementTold_102 rfl rfl ?_
    refine x_iconst (pc2 := 104) dX8_statementTold_103 rfl ?_
    refine x_bipush (pc2 := 106) dX8_statementTold_104 rfl rfl ?_
    exact k
set_option maxRecDepth 4000 in
theorem g_X8_statementTold_109 {sc : List Int} {d : Nat} {m : Mem} {Q : Option AV → Mem → Prop} {s0 s1 s2 : Int} (Hs0 : IsC s0 100) (k : (0 ≤ s1) ∧ (s1 < alen s0) ∧ S_X8_statementTold sc d 217 [aR 62, aU] [aI 59, aR 62] (wr m s0 s1 s2) Q) : S_X8_statementTold sc d 109 [aR 62, aU] [aI s2, aI s1, aR s0] m Q := by
  obtain ⟨h1, k⟩ := k
  obtain ⟨h2, k⟩ := k
  refine x_iast (pc2 := 110) Hs0 h1 h2 dX8_statementTold_109 rfl ?_
  refine x_goto (tgt := 214) dX8_statementTold_110 (by decide) ?_
  refine x_aload_n (pc2 := 215) dX8_statementTold_214 rfl rfl ?_
  refine x_bipush (pc2 := 217) dX8_statementTold_215 rfl rfl ?_
  exact k
set_option maxRecDepth 4000 in
theorem g_X8_statementTold_121 {sc : List Int} {d : Nat} {m : Mem} {Q : Option AV → Mem → Prop} {s0 : Int} (k : (-2147483648 ≤ s0 ∧ s0 < 2147483648) ∧ ((s0 = 0) → (S_X8_statementTold sc d 145 [aR 62, aU] [aR 77, aR 62] m Q)) ∧ (¬ (s0 = 0) → (S_X8_statementTold sc d 133 [aR 62, aU] [aI 99, aI 0, aR 62, aI 2, aR 100] m Q))) : S_X8_statementTold sc d 121 [aR 62, aU] [aI s0] m Q := by
  obtain ⟨h1, k⟩ := k
  obtain ⟨k1, k2⟩ := k
  refine x_if_eq (tgt := 140) (pc2 := 124) dX8_statementTold_121 (by decide) rfl h1 (fun c2 => ?_) (fun c2 => ?_)
  · replace k := k1 c2
    refine x_aload_n (pc2 := 141) dX8_statementTold_140 rfl rfl ?_
    refine x_aload_n (pc2 := 142) dX8_statementTold_141 rfl rfl ?_
    refine x_getf (pc2 := 145) (v := aR 77) fl_X8_57 ic_62 (vr_62_23 _) dX8_statementTold_142 rfl ?_
    exact k
  · replace k := k2 c2
    refine x_aload_n (pc2 := 125) dX8_statementTold_124 rfl rfl ?_
    refine x_getf (pc2 := 128) (v := aR 100) fl_X8_127 ic_62 (vr_62_47 _) dX8_statementTold_125 rfl ?_
    refine x_iconst (pc2 := 129) dX8_statementTold_128 rfl ?_
    refine x_aload_n (pc2 := 130) dX8_statementTold_129 rfl rfl ?_
    refine x_iconst (pc2 := 131) dX8_statementTold_130 rfl ?_
    refine x_bipush (pc2 := 133) dX8_statementTold_131 rfl rfl ?_
    exact k
set_option maxRecDepth 4000 in
theorem g_X8_statementTold_136 {sc : List Int} {d : Nat} {m : Mem} {Q : Option AV → Mem → Prop} {s0 s1 s2 : Int} (Hs0 : IsC s0 100) (k : (0 ≤ s1) ∧ (s1 < alen s0) ∧ S_X8_statementTold sc d 217 [aR 62, aU] [aI 59, aR 62] (wr m s0 s1 s2) Q) : S_X8_statementTold sc d 136 [aR 62, aU] [aI s2, aI s1, aR s0] m Q := by
  obtain ⟨h1, k⟩ := k
  obtain ⟨h2, k⟩ := k
  refine x_iast (pc2 := 137) Hs0 h1 h2 dX8_statementTold_136 rfl ?_
  refine x_goto (tgt := 214) dX8_statementTold_137 (by decide) ?_
  refine x_aload_n (pc2 := 215) dX8_statementTold_214 rfl rfl ?_
  refine x_bipush (pc2 := 217) dX8_statementTold_215 rfl rfl ?_
  exact k
set_option maxRecDepth 4000 in
theorem g_X8_statementTold_148 {sc : List Int} {d : Nat} {m : Mem} {Q : Option AV → Mem → Prop} {s0 : Int} (k : (-2147483648 ≤ s0 ∧ s0 < 2147483648) ∧ ((s0 = 0) → (S_X8_statementTold sc d 172 [aR 62, aU] [aR 78, aR 62] m Q)) ∧ (¬ (s0 = 0) → (S_X8_statementTold sc d 160 [aR 62, aU] [aI 99, aI 0, aR 62, aI 3, aR 100] m Q))) : S_X8_statementTold sc d 148 [aR 62, aU] [aI s0] m Q := by
  obtain ⟨h1, k⟩ := k
  obtain ⟨k1, k2⟩ := k
  refine x_if_eq (tgt := 167) (pc2 := 151) dX8_statementTold_148 (by decide) rfl h1 (fun c2 => ?_) (fun c2 => ?_)
  · replace k := k1 c2
    refine x_aload_n (pc2 := 168) dX8_statementTold_167 rfl rfl ?_
    refine x_aload_n (pc2 := 169) dX8_statementTold_168 rfl rfl ?_
    refine x_getf (pc2 := 172) (v := aR 78) fl_X8_60 ic_62 (vr_62_24 _) dX8_statementTold_169 rfl ?_
    exact k
  · replace k := k2 c2
    refine x_aload_n (pc2 := 152) dX8_statementTold_151 rfl rfl ?_
    refine x_getf (pc2 := 155) (v := aR 100) fl_X8_127 ic_62 (vr_62_47 _) dX8_statementTold_152 rfl ?_
    refine x_iconst (pc2 := 156) dX8_statementTold_155 rfl ?_
    refine x_aload_n (pc2 := 157) dX8_statementTold_156 rfl rfl ?_
    refine x_iconst (pc2 := 158) dX8_statementTold_157 rfl ?_
    refine x_bipush (pc2 := 160) dX8_statementTold_158 rfl rfl ?_
    exact k
set_option maxRecDepth 4000 in
theorem g_X8_statementTold_163 {sc : List Int} {d : Nat} {m : Mem} {Q : Option AV → Mem → Prop} {s0 s1 s2 : Int} (Hs0 : IsC s0 100) (k : (0 ≤ s1) ∧ (s1 < alen s0) ∧ S_X8_statementTold sc d 217 [aR 62, aU] [aI 59, aR 62] (wr m s0 s1 s2) Q) : S_X8_statementTold sc d 163 [aR 62, aU] [aI s2, aI s1, aR s0] m Q := by
  obtain ⟨h1, k⟩ := k
  obtain ⟨h2, k⟩ := k
  refine x_iast (pc2 := 164) Hs0 h1 h2 dX8_statementTold_163 rfl ?_
  refine x_goto (tgt := 214) dX8_statementTold_164 (by decide) ?_
  refine x_aload_n (pc2 := 215) dX8_statementTold_214 rfl rfl ?_
  refine x_bipush (pc2 := 217) dX8_statementTold_215 rfl rfl ?_
  exact k
set_option maxRecDepth 4000 in
theorem g_X8_statementTold_175 {sc : List Int} {d : Nat} {m : Mem} {Q : Option AV → Mem → Prop} {s0 : Int} (k : (-2147483648 ≤ s0 ∧ s0 < 2147483648) ∧ ((s0 = 0) → (S_X8_statementTold sc d 199 [aR 62, aU] [aR 79, aR 62] m Q)) ∧ (¬ (s0 = 0) → (S_X8_statementTold sc d 187 [aR 62, aU] [aI 9, aI 1, aR 62, aI 4, aR 100] m Q))) : S_X8_statementTold sc d 175 [aR 62, aU] [aI s0] m Q := by
  obtain ⟨h1, k⟩ := k
  obtain ⟨k1, k2⟩ := k
  refine x_if_eq (tgt := 194) (pc2 := 178) dX8_statementTold_175 (by decide) rfl h1 (fun c2 => ?_) (fun c2 => ?_)
  · replace k := k1 c2
    refine x_aload_n (pc2 := 195) dX8_statementTold_194 rfl rfl ?_
    refine x_aload_n (pc2 := 196) dX8_statementTold_195 rfl rfl ?_
    refine x_getf (pc2 := 199) (v := aR 79) fl_X8_63 ic_62 (vr_62_25 _) dX8_statementTold_196 rfl ?_
    exact k
  · replace k := k2 c2
    refine x_aload_n (pc2 := 179) dX8_statementTold_178 rfl rfl ?_
    refine x_getf (pc2 := 182) (v := aR 100) fl_X8_127 ic_62 (vr_62_47 _) dX8_statementTold_179 rfl ?_
    refine x_iconst (pc2 := 183) dX8_statementTold_182 rfl ?_
    refine x_aload_n (pc2 := 184) dX8_statementTold_183 rfl rfl ?_
    refine x_iconst (pc2 := 185) dX8_statementTold_184 rfl ?_
    refine x_bipush (pc2 := 187) dX8_statementTold_185 rfl rfl ?_
    exact k
set_option maxRecDepth 4000 in
theorem g_X8_statementTold_190 {sc : List Int} {d : Nat} {m : Mem} {Q : Option AV → Mem → Prop} {s0 s1 s2 : Int} (Hs0 : IsC s0 100) (k : (0 ≤ s1) ∧ (s1 < alen s0) ∧ S_X8_statementTold sc d 217 [aR 62, aU] [aI 59, aR 62] (wr m s0 s1 s2) Q) : S_X8_statementTold sc d 190 [aR 62, aU] [aI s2, aI s1, aR s0] m Q := by
  obtain ⟨h1, k⟩ := k
  obtain ⟨h2, k⟩ := k
  refine x_iast (pc2 := 191) Hs0 h1 h2 dX8_statementTold_190 rfl ?_
  refine x_goto (tgt := 214) dX8_statementTold_191 (by decide) ?_
  refine x_aload_n (pc2 := 215) dX8_statementTold_214 rfl rfl ?_
  refine x_bipush (pc2 := 217) dX8_statementTold_215 rfl rfl ?_
  exact k
set_option maxRecDepth 4000 in
theorem g_X8_statementTold_202 {sc : List Int} {d : Nat} {m : Mem} {Q : Option AV → Mem → Prop} (k : S_X8_statementTold sc d 210 [aR 62, aU] [aI 3, aI 1, aR 62, aI 5, aR 100] m Q) : S_X8_statementTold sc d 202 [aR 62, aU] [] m Q := by
  refine x_aload_n (pc2 := 203) dX8_statementTold_202 rfl rfl ?_
  refine x_getf (pc2 := 206) (v := aR 100) fl_X8_127 ic_62 (vr_62_47 _) dX8_statementTold_203 rfl ?_
  refine x_iconst (pc2 := 207) dX8_statementTold_206 rfl ?_
  refine x_aload_n (pc2 := 208) dX8_statementTold_207 rfl rfl ?_
  refine x_iconst (pc2 := 209) dX8_statementTold_208 rfl ?_
  refine x_iconst (pc2 := 210) dX8_statementTold_209 rfl ?_
  exact k
set_option maxRecDepth 4000 in
theorem g_X8_statementTold_213 {sc : List Int} {d : Nat} {m : Mem} {Q : Option AV → Mem → Prop} {s0 s1 s2 : Int} (Hs0 : IsC s0 100) (k : (0 ≤ s1) ∧ (s1 < alen s0) ∧ S_X8_statementTold sc d 217 [aR 62, aU] [aI 59, aR 62] (wr m s0 s1 s2) Q) : S_X8_statementTold sc d 213 [aR 62, aU] [aI s2, aI s1, aR s0] m Q := by
  obtain ⟨h1, k⟩ := k
  obtain ⟨h2, k⟩ := k
  refine x_iast (pc2 := 214) Hs0 h1 h2 dX8_statementTold_213 rfl ?_
  refine x_aload_n (pc2 := 215) dX8_statementTold_214 rfl rfl ?_
  refine x_bipush (pc2 := 217) dX8_statementTold_215 rfl rfl ?_
  exact k
set_option maxRecDepth 4000 in
theorem g_X8_statementTold_220 {sc : List Int} {d : Nat} {m : Mem} {Q : Option AV → Mem → Prop} (k : Q none (wr m 62 52 ((m 62 52) + 1))) : S_X8_statementTold sc d 220 [aR 62, aU] [] m Q := by
  refine x_aload_n (pc2 := 221) dX8_statementTold_220 rfl rfl ?_
  refine x_dup_r (pc2 := 222) dX8_statementTold_221 rfl (by decide) ?_
  refine x_getf (pc2 := 225) (v := aI (m 62 52)) fl_X8_401 ic_62 (fv_i _ ic_62 rfl) dX8_statementTold_222 rfl ?_
  refine x_iconst (pc2 := 226) dX8_statementTold_225 rfl ?_
  refine x_iadd (pc2 := 227) dX8_statementTold_226 rfl ?_
  refine x_putf (pc2 := 230) (x := ((m 62 52) + 1)) fl_X8_401 ft_8_52 ic_62 (pv_i _ ic_62 rfl) (pn_i _) dX8_statementTold_227 rfl ?_
  exact x_return dX8_statementTold_230 rfl k
theorem c_X8_statementTold_17 {sc : List Int} {d d2 : Nat} {m m2 : Mem} {Q : Option AV → Mem → Prop} {s1 s2 : Int} (hM : C_X8_fail sc d2 [aR 62, aI s1, aI s2] m none m2) (hd : d2 + 1 ≤ d) (k : S_X8_statementTold sc d 20 [aR 62, aU] [] m2 Q) : S_X8_statementTold sc d 17 [aR 62, aU] [aI s2, aI s1, aR 62] m Q := x_callV (as := [aI s1, aI s2]) (rest := []) hM mk_X8_fail mv_X8_fail lk_X8_320 (Or.inl ⟨8, (RX8, TX8, 123), ic_62, Nat.le_of_ble_eq_true rfl, rfl, rfl⟩) hd rfl rfl (Nat.le_of_ble_eq_true rfl) dX8_statementTold_17 rfl k
theorem c_X8_statementTold_26 {sc : List Int} {d d2 : Nat} {m m2 : Mem} {Q : Option AV → Mem → Prop} {l1 s1 : Int} {v : Int} (Hs1 : IsC s1 102) (hM : C_X8_takes sc d2 [aR 62, aR s1] m (some (aI v)) m2) (hd : d2 + 1 ≤ d) (k : S_X8_statementTold sc d 29 [aR 62, aI l1] [aI v] m2 Q) : S_X8_statementTold sc d 26 [aR 62, aI l1] [aR s1, aR 62] m Q := x_callV (as := [aR s1]) (rest := []) hM mk_X8_takes mv_X8_takes lk_X8_317 (Or.inl ⟨8, (RX8, TX8, 123), ic_62, Nat.le_of_ble_eq_true rfl, rfl, rfl⟩) hd rfl rfl (Nat.le_of_ble_eq_true rfl) dX8_statementTold_26 rfl k
theorem c_X8_statementTold_34 {sc : List Int} {d d2 : Nat} {m m2 : Mem} {Q : Option AV → Mem → Prop} {s1 : Int} (hM : C_X8_seamTold sc d2 [aR 62, aI s1] m none m2) (hd : d2 + 1 ≤ d) (k : S_X8_statementTold sc d 37 [aR 62, aU] [] m2 Q) : S_X8_statementTold sc d 34 [aR 62, aU] [aI s1, aR 62] m Q := x_callV (as := [aI s1]) (rest := []) hM mk_X8_seamTold mv_X8_seamTold lk_X8_404 (Or.inl ⟨8, (RX8, TX8, 123), ic_62, Nat.le_of_ble_eq_true rfl, rfl, rfl⟩) hd rfl rfl (Nat.le_of_ble_eq_true rfl) dX8_statementTold_34 rfl k
theorem c_X8_statementTold_45 {sc : List Int} {d d2 : Nat} {m m2 : Mem} {Q : Option AV → Mem → Prop} {l1 s1 : Int} {v : Int} (Hs1 : IsC s1 102) (hM : C_X8_takes sc d2 [aR 62, aR s1] m (some (aI v)) m2) (hd : d2 + 1 ≤ d) (k : S_X8_statementTold sc d 48 [aR 62, aI l1] [aI v] m2 Q) : S_X8_statementTold sc d 45 [aR 62, aI l1] [aR s1, aR 62] m Q := x_callV (as := [aR s1]) (rest := []) hM mk_X8_takes mv_X8_takes lk_X8_317 (Or.inl ⟨8, (RX8, TX8, 123), ic_62, Nat.le_of_ble_eq_true rfl, rfl, rfl⟩) hd rfl rfl (Nat.le_of_ble_eq_true rfl) dX8_statementTold_45 rfl k
theorem c_X8_statementTold_53 {sc : List Int} {d d2 : Nat} {m m2 : Mem} {Q : Option AV → Mem → Prop} {s1 : Int} (hM : C_X8_ruleTold sc d2 [aR 62, aI s1] m none m2) (hd : d2 + 1 ≤ d) (k : S_X8_statementTold sc d 56 [aR 62, aU] [] m2 Q) : S_X8_statementTold sc d 53 [aR 62, aU] [aI s1, aR 62] m Q := x_callV (as := [aI s1]) (rest := []) hM mk_X8_ruleTold mv_X8_ruleTold lk_X8_407 (Or.inl ⟨8, (RX8, TX8, 123), ic_62, Nat.le_of_ble_eq_true rfl, rfl, rfl⟩) hd rfl rfl (Nat.le_of_ble_eq_true rfl) dX8_statementTold_53 rfl k
theorem c_X8_statementTold_64 {sc : List Int} {d d2 : Nat} {m m2 : Mem} {Q : Option AV → Mem → Prop} {s1 : Int} {v : Int} (Hs1 : IsC s1 102) (hM : C_X8_takes sc d2 [aR 62, aR s1] m (some (aI v)) m2) (hd : d2 + 1 ≤ d) (k : S_X8_statementTold sc d 67 [aR 62, aU] [aI v] m2 Q) : S_X8_statementTold sc d 64 [aR 62, aU] [aR s1, aR 62] m Q := x_callV (as := [aR s1]) (rest := []) hM mk_X8_takes mv_X8_takes lk_X8_317 (Or.inl ⟨8, (RX8, TX8, 123), ic_62, Nat.le_of_ble_eq_true rfl, rfl, rfl⟩) hd rfl rfl (Nat.le_of_ble_eq_true rfl) dX8_statementTold_64 rfl k
theorem c_X8_statementTold_79 {sc : List Int} {d d2 : Nat} {m m2 : Mem} {Q : Option AV → Mem → Prop} {s0 s1 s3 s4 : Int} {v : Int} (Hs0 : IsC s0 100) (hM : C_X8_number sc d2 [aR 62, aI s3, aI s4] m (some (aI v)) m2) (hd : d2 + 1 ≤ d) (k : S_X8_statementTold sc d 82 [aR 62, aU] [aI v, aI s1, aR s0] m2 Q) : S_X8_statementTold sc d 79 [aR 62, aU] [aI s4, aI s3, aR 62, aI s1, aR s0] m Q := x_callV (as := [aI s3, aI s4]) (rest := [aI s1, aR s0]) hM mk_X8_number mv_X8_number lk_X8_360 (Or.inl ⟨8, (RX8, TX8, 123), ic_62, Nat.le_of_ble_eq_true rfl, rfl, rfl⟩) hd rfl rfl (Nat.le_of_ble_eq_true rfl) dX8_statementTold_79 rfl k
theorem c_X8_statementTold_91 {sc : List Int} {d d2 : Nat} {m m2 : Mem} {Q : Option AV → Mem → Prop} {s1 : Int} {v : Int} (Hs1 : IsC s1 102) (hM : C_X8_takes sc d2 [aR 62, aR s1] m (some (aI v)) m2) (hd : d2 + 1 ≤ d) (k : S_X8_statementTold sc d 94 [aR 62, aU] [aI v] m2 Q) : S_X8_statementTold sc d 91 [aR 62, aU] [aR s1, aR 62] m Q := x_callV (as := [aR s1]) (rest := []) hM mk_X8_takes mv_X8_takes lk_X8_317 (Or.inl ⟨8, (RX8, TX8, 123), ic_62, Nat.le_of_ble_eq_true rfl, rfl, rfl⟩) hd rfl rfl (Nat.le_of_ble_eq_true rfl) dX8_statementTold_91 rfl k
theorem c_X8_statementTold_106 {sc : List Int} {d d2 : Nat} {m m2 : Mem} {Q : Option AV → Mem → Prop} {s0 s1 s3 s4 : Int} {v : Int} (Hs0 : IsC s0 100) (hM : C_X8_number sc d2 [aR 62, aI s3, aI s4] m (some (aI v)) m2) (hd : d2 + 1 ≤ d) (k : S_X8_statementTold sc d 109 [aR 62, aU] [aI v, aI s1, aR s0] m2 Q) : S_X8_statementTold sc d 106 [aR 62, aU] [aI s4, aI s3, aR 62, aI s1, aR s0] m Q := x_callV (as := [aI s3, aI s4]) (rest := [aI s1, aR s0]) hM mk_X8_number mv_X8_number lk_X8_360 (Or.inl ⟨8, (RX8, TX8, 123), ic_62, Nat.le_of_ble_eq_true rfl, rfl, rfl⟩) hd rfl rfl (Nat.le_of_ble_eq_true rfl) dX8_statementTold_106 rfl k
theorem c_X8_statementTold_118 {sc : List Int} {d d2 : Nat} {m m2 : Mem} {Q : Option AV → Mem → Prop} {s1 : Int} {v : Int} (Hs1 : IsC s1 102) (hM : C_X8_takes sc d2 [aR 62, aR s1] m (some (aI v)) m2) (hd : d2 + 1 ≤ d) (k : S_X8_statementTold sc d 121 [aR 62, aU] [aI v] m2 Q) : S_X8_statementTold sc d 118 [aR 62, aU] [aR s1, aR 62] m Q := x_callV (as := [aR s1]) (rest := []) hM mk_X8_takes mv_X8_takes lk_X8_317 (Or.inl ⟨8, (RX8, TX8, 123), ic_62, Nat.le_of_ble_eq_true rfl, rfl, rfl⟩) hd rfl rfl (Nat.le_of_ble_eq_true rfl) dX8_statementTold_118 rfl k
theorem c_X8_statementTold_133 {sc : List Int} {d d2 : Nat} {m m2 : Mem} {Q : Option AV → Mem → Prop} {s0 s1 s3 s4 : Int} {v : Int} (Hs0 : IsC s0 100) (hM : C_X8_number sc d2 [aR 62, aI s3, aI s4] m (some (aI v)) m2) (hd : d2 + 1 ≤ d) (k : S_X8_statementTold sc d 136 [aR 62, aU] [aI v, aI s1, aR s0] m2 Q) : S_X8_statementTold sc d 133 [aR 62, aU] [aI s4, aI s3, aR 62, aI s1, aR s0] m Q := x_callV (as := [aI s3, aI s4]) (rest := [aI s1, aR s0]) hM mk_X8_number mv_X8_number lk_X8_360 (Or.inl ⟨8, (RX8, TX8, 123), ic_62, Nat.le_of_ble_eq_true rfl, rfl, rfl⟩) hd rfl rfl (Nat.le_of_ble_eq_true rfl) dX8_statementTold_133 rfl k
theorem c_X8_statementTold_145 {sc : List Int} {d d2 : Nat} {m m2 : Mem} {Q : Option AV → Mem → Prop} {s1 : Int} {v : Int} (Hs1 : IsC s1 102) (hM : C_X8_takes sc d2 [aR 62, aR s1] m (some (aI v)) m2) (hd : d2 + 1 ≤ d) (k : S_X8_statementTold sc d 148 [aR 62, aU] [aI v] m2 Q) : S_X8_statementTold sc d 145 [aR 62, aU] [aR s1, aR 62] m Q := x_callV (as := [aR s1]) (rest := []) hM mk_X8_takes mv_X8_takes lk_X8_317 (Or.inl ⟨8, (RX8, TX8, 123), ic_62, Nat.le_of_ble_eq_true rfl, rfl, rfl⟩) hd rfl rfl (Nat.le_of_ble_eq_true rfl) dX8_statementTold_145 rfl k
theorem c_X8_statementTold_160 {sc : List Int} {d d2 : Nat} {m m2 : Mem} {Q : Option AV → Mem → Prop} {s0 s1 s3 s4 : Int} {v : Int} (Hs0 : IsC s0 100) (hM : C_X8_number sc d2 [aR 62, aI s3, aI s4] m (some (aI v)) m2) (hd : d2 + 1 ≤ d) (k : S_X8_statementTold sc d 163 [aR 62, aU] [aI v, aI s1, aR s0] m2 Q) : S_X8_statementTold sc d 160 [aR 62, aU] [aI s4, aI s3, aR 62, aI s1, aR s0] m Q := x_callV (as := [aI s3, aI s4]) (rest := [aI s1, aR s0]) hM mk_X8_number mv_X8_number lk_X8_360 (Or.inl ⟨8, (RX8, TX8, 123), ic_62, Nat.le_of_ble_eq_true rfl, rfl, rfl⟩) hd rfl rfl (Nat.le_of_ble_eq_true rfl) dX8_statementTold_160 rfl k
theorem c_X8_statementTold_172 {sc : List Int} {d d2 : Nat} {m m2 : Mem} {Q : Option AV → Mem → Prop} {s1 : Int} {v : Int} (Hs1 : IsC s1 102) (hM : C_X8_takes sc d2 [aR 62, aR s1] m (some (aI v)) m2) (hd : d2 + 1 ≤ d) (k : S_X8_statementTold sc d 175 [aR 62, aU] [aI v] m2 Q) : S_X8_statementTold sc d 172 [aR 62, aU] [aR s1, aR 62] m Q := x_callV (as := [aR s1]) (rest := []) hM mk_X8_takes mv_X8_takes lk_X8_317 (Or.inl ⟨8, (RX8, TX8, 123), ic_62, Nat.le_of_ble_eq_true rfl, rfl, rfl⟩) hd rfl rfl (Nat.le_of_ble_eq_true rfl) dX8_statementTold_172 rfl k
theorem c_X8_statementTold_187 {sc : List Int} {d d2 : Nat} {m m2 : Mem} {Q : Option AV → Mem → Prop} {s0 s1 s3 s4 : Int} {v : Int} (Hs0 : IsC s0 100) (hM : C_X8_number sc d2 [aR 62, aI s3, aI s4] m (some (aI v)) m2) (hd : d2 + 1 ≤ d) (k : S_X8_statementTold sc d 190 [aR 62, aU] [aI v, aI s1, aR s0] m2 Q) : S_X8_statementTold sc d 187 [aR 62, aU] [aI s4, aI s3, aR 62, aI s1, aR s0] m Q := x_callV (as := [aI s3, aI s4]) (rest := [aI s1, aR s0]) hM mk_X8_number mv_X8_number lk_X8_360 (Or.inl ⟨8, (RX8, TX8, 123), ic_62, Nat.le_of_ble_eq_true rfl, rfl, rfl⟩) hd rfl rfl (Nat.le_of_ble_eq_true rfl) dX8_statementTold_187 rfl k
theorem c_X8_statementTold_199 {sc : List Int} {d d2 : Nat} {m m2 : Mem} {Q : Option AV → Mem → Prop} {s1 : Int} (Hs1 : IsC s1 102) (hM : C_X8_asks sc d2 [aR 62, aR s1] m none m2) (hd : d2 + 1 ≤ d) (k : S_X8_statementTold sc d 202 [aR 62, aU] [] m2 Q) : S_X8_statementTold sc d 199 [aR 62, aU] [aR s1, aR 62] m Q := x_callV (as := [aR s1]) (rest := []) hM mk_X8_asks mv_X8_asks lk_X8_356 (Or.inl ⟨8, (RX8, TX8, 123), ic_62, Nat.le_of_ble_eq_true rfl, rfl, rfl⟩) hd rfl rfl (Nat.le_of_ble_eq_true rfl) dX8_statementTold_199 rfl k
theorem c_X8_statementTold_210 {sc : List Int} {d d2 : Nat} {m m2 : Mem} {Q : Option AV → Mem → Prop} {s0 s1 s3 s4 : Int} {v : Int} (Hs0 : IsC s0 100) (hM : C_X8_number sc d2 [aR 62, aI s3, aI s4] m (some (aI v)) m2) (hd : d2 + 1 ≤ d) (k : S_X8_statementTold sc d 213 [aR 62, aU] [aI v, aI s1, aR s0] m2 Q) : S_X8_statementTold sc d 210 [aR 62, aU] [aI s4, aI s3, aR 62, aI s1, aR s0] m Q := x_callV (as := [aI s3, aI s4]) (rest := [aI s1, aR s0]) hM mk_X8_number mv_X8_number lk_X8_360 (Or.inl ⟨8, (RX8, TX8, 123), ic_62, Nat.le_of_ble_eq_true rfl, rfl, rfl⟩) hd rfl rfl (Nat.le_of_ble_eq_true rfl) dX8_statementTold_210 rfl k
theorem c_X8_statementTold_217 {sc : List Int} {d d2 : Nat} {m m2 : Mem} {Q : Option AV → Mem → Prop} {s1 : Int} (hM : C_X8_asksSign sc d2 [aR 62, aI s1] m none m2) (hd : d2 + 1 ≤ d) (k : S_X8_statementTold sc d 220 [aR 62, aU] [] m2 Q) : S_X8_statementTold sc d 217 [aR 62, aU] [aI s1, aR 62] m Q := x_callV (as := [aI s1]) (rest := []) hM mk_X8_asksSign mv_X8_asksSign lk_X8_373 (Or.inl ⟨8, (RX8, TX8, 123), ic_62, Nat.le_of_ble_eq_true rfl, rfl, rfl⟩) hd rfl rfl (Nat.le_of_ble_eq_true rfl) dX8_statementTold_217 rfl k
set_option maxRecDepth 4000 in
theorem g_X8_room_0 {sc : List Int} {d : Nat} {m : Mem} {Q : Option AV → Mem → Prop} (k : S_X8_room sc d 40 [aR 62, aI 0] [] (wr (wr (wr (wr (wr (wr (wr m 62 3 (m 62 1)) 62 1 0) 62 2 0) 62 4 (-1)) 62 5 0) 62 6 (-1)) 62 51 0) Q) : S_X8_room sc d 0 [aR 62, aU] [] m Q := by
  refine x_aload_n (pc2 := 1) dX8_room_0 rfl rfl ?_
  refine x_aload_n (pc2 := 2) dX8_room_1 rfl rfl ?_
  refine x_getf (pc2 := 5) (v := aI (m 62 1)) fl_X8_287 ic_62 (fv_i _ ic_62 rfl) dX8_room_2 rfl ?_
  refine x_putf (pc2 := 8) (x := (m 62 1)) fl_X8_299 ft_8_3 ic_62 (pv_i _ ic_62 rfl) (pn_i _) dX8_room_5 rfl ?_
  refine x_aload_n (pc2 := 9) dX8_room_8 rfl rfl ?_
  refine x_iconst (pc2 := 10) dX8_room_9 rfl ?_
  refine x_putf (pc2 := 13) (x := 0) fl_X8_287 ft_8_1 ic_62 (pv_i _ ic_62 rfl) (pn_i _) dX8_room_10 rfl ?_
  refine x_aload_n (pc2 := 14) dX8_room_13 rfl rfl ?_
  refine x_iconst (pc2 := 15) dX8_room_14 rfl ?_
  refine x_putf (pc2 := 18) (x := 0) fl_X8_296 ft_8_2 ic_62 (pv_i _ ic_62 rfl) (pn_i _) dX8_room_15 rfl ?_
  refine x_aload_n (pc2 := 19) dX8_room_18 rfl rfl ?_
  refine x_iconst (pc2 := 20) dX8_room_19 rfl ?_
  refine x_putf (pc2 := 23) (x := (-1)) fl_X8_310 ft_8_4 ic_62 (pv_i _ ic_62 rfl) (pn_i _) dX8_room_20 rfl ?_
  refine x_aload_n (pc2 := 24) dX8_room_23 rfl rfl ?_
  refine x_iconst (pc2 := 25) dX8_room_24 rfl ?_
  refine x_putf (pc2 := 28) (x := 0) fl_X8_290 ft_8_5 ic_62 (pv_i _ ic_62 rfl) (pn_i _) dX8_room_25 rfl ?_
  refine x_aload_n (pc2 := 29) dX8_room_28 rfl rfl ?_
  refine x_iconst (pc2 := 30) dX8_room_29 rfl ?_
  refine x_putf (pc2 := 33) (x := (-1)) fl_X8_293 ft_8_6 ic_62 (pv_i _ ic_62 rfl) (pn_i _) dX8_room_30 rfl ?_
  refine x_aload_n (pc2 := 34) dX8_room_33 rfl rfl ?_
  refine x_iconst (pc2 := 35) dX8_room_34 rfl ?_
  refine x_putf (pc2 := 38) (x := 0) fl_X8_398 ft_8_51 ic_62 (pv_i _ ic_62 rfl) (pn_i _) dX8_room_35 rfl ?_
  refine x_iconst (pc2 := 39) dX8_room_38 rfl ?_
  refine x_istore_n (pc2 := 40) (ls2 := [aR 62, aI 0]) dX8_room_39 rfl (by decide) rfl ?_
  exact k
set_option maxRecDepth 4000 in
theorem g_X8_room_40 {sc : List Int} {d : Nat} {m : Mem} {Q : Option AV → Mem → Prop} {l1 : Int} (k : (-2147483648 ≤ l1 ∧ l1 < 2147483648) ∧ ((3 ≤ l1) → (S_X8_room sc d 103 [aR 62, aU] [aR 62] (wr (wr (wr (wr (wr (wr m 100 0 2) 100 1 9) 100 2 1) 100 3 9) 100 4 5) 100 5 1) Q)) ∧ (¬ (3 ≤ l1) → ((0 ≤ l1) ∧ (l1 < 6) ∧ S_X8_room sc d 40 [aR 62, aI (l1 + 1)] [] (wr m 95 l1 0) Q))) : S_X8_room sc d 40 [aR 62, aI l1] [] m Q := by
  refine x_iload_n (pc2 := 41) dX8_room_40 rfl rfl ?_
  refine x_iconst (pc2 := 42) dX8_room_41 rfl ?_
  obtain ⟨h1, k⟩ := k
  obtain ⟨k1, k2⟩ := k
  refine x_icmp_ge (tgt := 58) (pc2 := 45) dX8_room_42 (by decide) rfl h1 (by decide) (fun c2 => ?_) (fun c2 => ?_)
  · replace k := k1 c2
    refine x_aload_n (pc2 := 59) dX8_room_58 rfl rfl ?_
    refine x_getf (pc2 := 62) (v := aR 100) fl_X8_127 ic_62 (vr_62_47 _) dX8_room_59 rfl ?_
    refine x_iconst (pc2 := 63) dX8_room_62 rfl ?_
    refine x_iconst (pc2 := 64) dX8_room_63 rfl ?_
    refine x_iast (pc2 := 65) ic_100 (by decide) (by rw [al_100]; decide) dX8_room_64 rfl ?_
    refine x_aload_n (pc2 := 66) dX8_room_65 rfl rfl ?_
    refine x_getf (pc2 := 69) (v := aR 100) fl_X8_127 ic_62 (vr_62_47 _) dX8_room_66 rfl ?_
    refine x_iconst (pc2 := 70) dX8_room_69 rfl ?_
    refine x_bipush (pc2 := 72) dX8_room_70 rfl rfl ?_
    refine x_iast (pc2 := 73) ic_100 (by decide) (by rw [al_100]; decide) dX8_room_72 rfl ?_
    refine x_aload_n (pc2 := 74) dX8_room_73 rfl rfl ?_
    refine x_getf (pc2 := 77) (v := aR 100) fl_X8_127 ic_62 (vr_62_47 _) dX8_room_74 rfl ?_
    refine x_iconst (pc2 := 78) dX8_room_77 rfl ?_
    refine x_iconst (pc2 := 79) dX8_room_78 rfl ?_
    refine x_iast (pc2 := 80) ic_100 (by decide) (by rw [al_100]; decide) dX8_room_79 rfl ?_
    refine x_aload_n (pc2 := 81) dX8_room_80 rfl rfl ?_
    refine x_getf (pc2 := 84) (v := aR 100) fl_X8_127 ic_62 (vr_62_47 _) dX8_room_81 rfl ?_
    refine x_iconst (pc2 := 85) dX8_room_84 rfl ?_
    refine x_bipush (pc2 := 87) dX8_room_85 rfl rfl ?_
    refine x_iast (pc2 := 88) ic_100 (by decide) (by rw [al_100]; decide) dX8_room_87 rfl ?_
    refine x_aload_n (pc2 := 89) dX8_room_88 rfl rfl ?_
    refine x_getf (pc2 := 92) (v := aR 100) fl_X8_127 ic_62 (vr_62_47 _) dX8_room_89 rfl ?_
    refine x_iconst (pc2 := 93) dX8_room_92 rfl ?_
    refine x_iconst (pc2 := 94) dX8_room_93 rfl ?_
    refine x_iast (pc2 := 95) ic_100 (by decide) (by rw [al_100]; decide) dX8_room_94 rfl ?_
    refine x_aload_n (pc2 := 96) dX8_room_95 rfl rfl ?_
    refine x_getf (pc2 := 99) (v := aR 100) fl_X8_127 ic_62 (vr_62_47 _) dX8_room_96 rfl ?_
    refine x_iconst (pc2 := 100) dX8_room_99 rfl ?_
    refine x_iconst (pc2 := 101) dX8_room_100 rfl ?_
    refine x_iast (pc2 := 102) ic_100 (by decide) (by rw [al_100]; decide) dX8_room_101 rfl ?_
    refine x_aload_n (pc2 := 103) dX8_room_102 rfl rfl ?_
    exact x_drop (drp_k (drp_u drp_n)) k
  · replace k := k2 c2
    refine x_aload_n (pc2 := 46) dX8_room_45 rfl rfl ?_
    refine x_getf (pc2 := 49) (v := aR 95) fl_X8_111 ic_62 (vr_62_42 _) dX8_room_46 rfl ?_
    refine x_iload_n (pc2 := 50) dX8_room_49 rfl rfl ?_
    refine x_iconst (pc2 := 51) dX8_room_50 rfl ?_
    obtain ⟨h3, k⟩ := k
    obtain ⟨h4, k⟩ := k
    refine x_iast (pc2 := 52) ic_95 h3 (by rw [al_95]; exact h4) dX8_room_51 rfl ?_
    refine x_iinc (pc2 := 55) (ls2 := [aR 62, aI (l1 + 1)]) dX8_room_52 rfl rfl (by decide) rfl ?_
    refine x_goto (tgt := 40) dX8_room_55 (by decide) ?_
    exact k
set_option maxRecDepth 4000 in
theorem g_X8_room_106 {sc : List Int} {d : Nat} {m : Mem} {Q : Option AV → Mem → Prop} (k : S_X8_room sc d 111 [aR 62, aU] [] (wr m 62 52 1) Q) : S_X8_room sc d 106 [aR 62, aU] [] m Q := by
  refine x_aload_n (pc2 := 107) dX8_room_106 rfl rfl ?_
  refine x_iconst (pc2 := 108) dX8_room_107 rfl ?_
  refine x_putf (pc2 := 111) (x := 1) fl_X8_401 ft_8_52 ic_62 (pv_i _ ic_62 rfl) (pn_i _) dX8_room_108 rfl ?_
  exact k
set_option maxRecDepth 4000 in
theorem g_X8_room_111 {sc : List Int} {d : Nat} {m : Mem} {Q : Option AV → Mem → Prop} (k : (-2147483648 ≤ (m 62 5) ∧ (m 62 5) < 2147483648) ∧ (((m 62 5) ≠ 0) → ((-2147483648 ≤ ((wr (wr m 62 7 (m 62 5)) 62 8 ((wr m 62 7 (m 62 5)) 62 6)) 62 5) ∧ ((wr (wr m 62 7 (m 62 5)) 62 8 ((wr m 62 7 (m 62 5)) 62 6)) 62 5) < 2147483648) ∧ ((((wr (wr m 62 7 (m 62 5)) 62 8 ((wr m 62 7 (m 62 5)) 62 6)) 62 5) = 0) → (S_X8_room sc d 169 [aR 62, aU] [aR 62] (wr (wr m 62 7 (m 62 5)) 62 8 ((wr m 62 7 (m 62 5)) 62 6)) Q)) ∧ (¬ (((wr (wr m 62 7 (m 62 5)) 62 8 ((wr m 62 7 (m 62 5)) 62 6)) 62 5) = 0) → (Q (some (aI (-1))) (wr (wr (wr m 62 7 (m 62 5)) 62 8 ((wr m 62 7 (m 62 5)) 62 6)) 64 1 (((wr (wr m 62 7 (m 62 5)) 62 8 ((wr m 62 7 (m 62 5)) 62 6)) 64 1) + 1)))))) ∧ (¬ ((m 62 5) ≠ 0) → (S_X8_room sc d 119 [aR 62, aU] [aR 62] m Q))) : S_X8_room sc d 111 [aR 62, aU] [] m Q := by
  refine x_aload_n (pc2 := 112) dX8_room_111 rfl rfl ?_
  refine x_getf (pc2 := 115) (v := aI (m 62 5)) fl_X8_290 ic_62 (fv_i _ ic_62 rfl) dX8_room_112 rfl ?_
  obtain ⟨h1, k⟩ := k
  obtain ⟨k1, k2⟩ := k
  refine x_if_ne (tgt := 133) (pc2 := 118) dX8_room_115 (by decide) rfl h1 (fun c2 => ?_) (fun c2 => ?_)
  · replace k := k1 c2
    refine x_aload_n (pc2 := 134) dX8_room_133 rfl rfl ?_
    refine x_aload_n (pc2 := 135) dX8_room_134 rfl rfl ?_
    refine x_getf (pc2 := 138) (v := aI (m 62 5)) fl_X8_290 ic_62 (fv_i _ ic_62 rfl) dX8_room_135 rfl ?_
    refine x_putf (pc2 := 141) (x := (m 62 5)) fl_X8_416 ft_8_7 ic_62 (pv_i _ ic_62 rfl) (pn_i _) dX8_room_138 rfl ?_
    refine x_aload_n (pc2 := 142) dX8_room_141 rfl rfl ?_
    refine x_aload_n (pc2 := 143) dX8_room_142 rfl rfl ?_
    refine x_getf (pc2 := 146) (v := aI ((wr m 62 7 (m 62 5)) 62 6)) fl_X8_293 ic_62 (fv_i _ ic_62 rfl) dX8_room_143 rfl ?_
    refine x_putf (pc2 := 149) (x := ((wr m 62 7 (m 62 5)) 62 6)) fl_X8_13 ft_8_8 ic_62 (pv_i _ ic_62 rfl) (pn_i _) dX8_room_146 rfl ?_
    refine x_aload_n (pc2 := 150) dX8_room_149 rfl rfl ?_
    refine x_getf (pc2 := 153) (v := aI ((wr (wr m 62 7 (m 62 5)) 62 8 ((wr m 62 7 (m 62 5)) 62 6)) 62 5)) fl_X8_290 ic_62 (fv_i _ ic_62 rfl) dX8_room_150 rfl ?_
    obtain ⟨h3, k⟩ := k
    obtain ⟨k1, k2⟩ := k
    refine x_if_eq (tgt := 168) (pc2 := 156) dX8_room_153 (by decide) rfl h3 (fun c4 => ?_) (fun c4 => ?_)
    · replace k := k1 c4
      refine x_aload_n (pc2 := 169) dX8_room_168 rfl rfl ?_
      exact k
    · replace k := k2 c4
      refine x_aload_n (pc2 := 157) dX8_room_156 rfl rfl ?_
      refine x_getf (pc2 := 160) (v := aR 64) fl_X8_17 ic_62 (vr_62_9 _) dX8_room_157 rfl ?_
      refine x_iconst (pc2 := 161) dX8_room_160 rfl ?_
      refine x_dup2_ri (pc2 := 162) dX8_room_161 rfl (by decide) ?_
      refine x_iald (pc2 := 163) ic_64 (by decide) (by rw [al_64]; decide) dX8_room_162 rfl ?_
      refine x_iconst (pc2 := 164) dX8_room_163 rfl ?_
      refine x_iadd (pc2 := 165) dX8_room_164 rfl ?_
      refine x_iast (pc2 := 166) ic_64 (by decide) (by rw [al_64]; decide) dX8_room_165 rfl ?_
      refine x_iconst (pc2 := 167) dX8_room_166 rfl ?_
      exact x_ireturn dX8_room_167 ⟨.int, rfl, rfl⟩ k
  · replace k := k2 c2
    refine x_aload_n (pc2 := 119) dX8_room_118 rfl rfl ?_
    exact k
set_option maxRecDepth 4000 in
theorem g_X8_room_122 {sc : List Int} {d : Nat} {m : Mem} {Q : Option AV → Mem → Prop} {s0 : Int} (k : (-2147483648 ≤ s0 ∧ s0 < 2147483648) ∧ ((s0 = (-1)) → ((-2147483648 ≤ ((wr (wr m 62 7 (m 62 5)) 62 8 ((wr m 62 7 (m 62 5)) 62 6)) 62 5) ∧ ((wr (wr m 62 7 (m 62 5)) 62 8 ((wr m 62 7 (m 62 5)) 62 6)) 62 5) < 2147483648) ∧ ((((wr (wr m 62 7 (m 62 5)) 62 8 ((wr m 62 7 (m 62 5)) 62 6)) 62 5) = 0) → (S_X8_room sc d 169 [aR 62, aU] [aR 62] (wr (wr m 62 7 (m 62 5)) 62 8 ((wr m 62 7 (m 62 5)) 62 6)) Q)) ∧ (¬ (((wr (wr m 62 7 (m 62 5)) 62 8 ((wr m 62 7 (m 62 5)) 62 6)) 62 5) = 0) → (Q (some (aI (-1))) (wr (wr (wr m 62 7 (m 62 5)) 62 8 ((wr m 62 7 (m 62 5)) 62 6)) 64 1 (((wr (wr m 62 7 (m 62 5)) 62 8 ((wr m 62 7 (m 62 5)) 62 6)) 64 1) + 1)))))) ∧ (¬ (s0 = (-1)) → (S_X8_room sc d 127 [aR 62, aU] [aR 62] m Q))) : S_X8_room sc d 122 [aR 62, aU] [aI s0] m Q := by
  refine x_iconst (pc2 := 123) dX8_room_122 rfl ?_
  obtain ⟨h1, k⟩ := k
  obtain ⟨k1, k2⟩ := k
  refine x_icmp_eq (tgt := 133) (pc2 := 126) dX8_room_123 (by decide) rfl h1 (by decide) (fun c2 => ?_) (fun c2 => ?_)
  · replace k := k1 c2
    refine x_aload_n (pc2 := 134) dX8_room_133 rfl rfl ?_
    refine x_aload_n (pc2 := 135) dX8_room_134 rfl rfl ?_
    refine x_getf (pc2 := 138) (v := aI (m 62 5)) fl_X8_290 ic_62 (fv_i _ ic_62 rfl) dX8_room_135 rfl ?_
    refine x_putf (pc2 := 141) (x := (m 62 5)) fl_X8_416 ft_8_7 ic_62 (pv_i _ ic_62 rfl) (pn_i _) dX8_room_138 rfl ?_
    refine x_aload_n (pc2 := 142) dX8_room_141 rfl rfl ?_
    refine x_aload_n (pc2 := 143) dX8_room_142 rfl rfl ?_
    refine x_getf (pc2 := 146) (v := aI ((wr m 62 7 (m 62 5)) 62 6)) fl_X8_293 ic_62 (fv_i _ ic_62 rfl) dX8_room_143 rfl ?_
    refine x_putf (pc2 := 149) (x := ((wr m 62 7 (m 62 5)) 62 6)) fl_X8_13 ft_8_8 ic_62 (pv_i _ ic_62 rfl) (pn_i _) dX8_room_146 rfl ?_
    refine x_aload_n (pc2 := 150) dX8_room_149 rfl rfl ?_
    refine x_getf (pc2 := 153) (v := aI ((wr (wr m 62 7 (m 62 5)) 62 8 ((wr m 62 7 (m 62 5)) 62 6)) 62 5)) fl_X8_290 ic_62 (fv_i _ ic_62 rfl) dX8_room_150 rfl ?_
    obtain ⟨h3, k⟩ := k
    obtain ⟨k1, k2⟩ := k
    refine x_if_eq (tgt := 168) (pc2 := 156) dX8_room_153 (by decide) rfl h3 (fun c4 => ?_) (fun c4 => ?_)
    · replace k := k1 c4
      refine x_aload_n (pc2 := 169) dX8_room_168 rfl rfl ?_
      exact k
    · replace k := k2 c4
      refine x_aload_n (pc2 := 157) dX8_room_156 rfl rfl ?_
      refine x_getf (pc2 := 160) (v := aR 64) fl_X8_17 ic_62 (vr_62_9 _) dX8_room_157 rfl ?_
      refine x_iconst (pc2 := 161) dX8_room_160 rfl ?_
      refine x_dup2_ri (pc2 := 162) dX8_room_161 rfl (by decide) ?_
      refine x_iald (pc2 := 163) ic_64 (by decide) (by rw [al_64]; decide) dX8_room_162 rfl ?_
      refine x_iconst (pc2 := 164) dX8_room_163 rfl ?_
      refine x_iadd (pc2 := 165) dX8_room_164 rfl ?_
      refine x_iast (pc2 := 166) ic_64 (by decide) (by rw [al_64]; decide) dX8_room_165 rfl ?_
      refine x_iconst (pc2 := 167) dX8_room_166 rfl ?_
      exact x_ireturn dX8_room_167 ⟨.int, rfl, rfl⟩ k
  · replace k := k2 c2
    refine x_aload_n (pc2 := 127) dX8_room_126 rfl rfl ?_
    exact k
set_option maxRecDepth 4000 in
theorem g_X8_room_130 {sc : List Int} {d : Nat} {m : Mem} {Q : Option AV → Mem → Prop} (k : S_X8_room sc d 111 [aR 62, aU] [] m Q) : S_X8_room sc d 130 [aR 62, aU] [] m Q := by
  refine x_goto (tgt := 111) dX8_room_130 (by decide) ?_
  exact k
set_option maxRecDepth 4000 in
theorem g_X8_room_172 {sc : List Int} {d : Nat} {m : Mem} {Q : Option AV → Mem → Prop} (k : Q (some (aI (m 62 52))) m) : S_X8_room sc d 172 [aR 62, aU] [] m Q := by
  refine x_aload_n (pc2 := 173) dX8_room_172 rfl rfl ?_
  refine x_getf (pc2 := 176) (v := aI (m 62 52)) fl_X8_401 ic_62 (fv_i _ ic_62 rfl) dX8_room_173 rfl ?_
  exact x_ireturn dX8_room_176 ⟨.int, rfl, rfl⟩ k
theorem c_X8_room_103 {sc : List Int} {d d2 : Nat} {m m2 : Mem} {Q : Option AV → Mem → Prop} (hM : C_X8_bobbinTold sc d2 [aR 62] m none m2) (hd : d2 + 1 ≤ d) (k : S_X8_room sc d 106 [aR 62, aU] [] m2 Q) : S_X8_room sc d 103 [aR 62, aU] [aR 62] m Q := x_callV (as := []) (rest := []) hM mk_X8_bobbinTold mv_X8_bobbinTold lk_X8_410 (Or.inl ⟨8, (RX8, TX8, 123), ic_62, Nat.le_of_ble_eq_true rfl, rfl, rfl⟩) hd rfl rfl (Nat.le_of_ble_eq_true rfl) dX8_room_103 rfl k
theorem c_X8_room_119 {sc : List Int} {d d2 : Nat} {m m2 : Mem} {Q : Option AV → Mem → Prop} {v : Int} (hM : C_X8_look sc d2 [aR 62] m (some (aI v)) m2) (hd : d2 + 1 ≤ d) (k : S_X8_room sc d 122 [aR 62, aU] [aI v] m2 Q) : S_X8_room sc d 119 [aR 62, aU] [aR 62] m Q := x_callV (as := []) (rest := []) hM mk_X8_look mv_X8_look lk_X8_302 (Or.inl ⟨8, (RX8, TX8, 123), ic_62, Nat.le_of_ble_eq_true rfl, rfl, rfl⟩) hd rfl rfl (Nat.le_of_ble_eq_true rfl) dX8_room_119 rfl k
theorem c_X8_room_127 {sc : List Int} {d d2 : Nat} {m m2 : Mem} {Q : Option AV → Mem → Prop} (hM : C_X8_statementTold sc d2 [aR 62] m none m2) (hd : d2 + 1 ≤ d) (k : S_X8_room sc d 130 [aR 62, aU] [] m2 Q) : S_X8_room sc d 127 [aR 62, aU] [aR 62] m Q := x_callV (as := []) (rest := []) hM mk_X8_statementTold mv_X8_statementTold lk_X8_413 (Or.inl ⟨8, (RX8, TX8, 123), ic_62, Nat.le_of_ble_eq_true rfl, rfl, rfl⟩) hd rfl rfl (Nat.le_of_ble_eq_true rfl) dX8_room_127 rfl k
theorem c_X8_room_169 {sc : List Int} {d d2 : Nat} {m m2 : Mem} {Q : Option AV → Mem → Prop} (hM : C_X8_stands sc d2 [aR 62] m none m2) (hd : d2 + 1 ≤ d) (k : S_X8_room sc d 172 [aR 62, aU] [] m2 Q) : S_X8_room sc d 169 [aR 62, aU] [aR 62] m Q := x_callV (as := []) (rest := []) hM mk_X8_stands mv_X8_stands lk_X8_419 (Or.inl ⟨8, (RX8, TX8, 123), ic_62, Nat.le_of_ble_eq_true rfl, rfl, rfl⟩) hd rfl rfl (Nat.le_of_ble_eq_true rfl) dX8_room_169 rfl k
set_option maxRecDepth 4000 in
theorem g_X8_stands_0 {sc : List Int} {d : Nat} {m : Mem} {Q : Option AV → Mem → Prop} (k : S_X8_stands sc d 7 [aR 62, aI 0] [] (wr m 62 53 1) Q) : S_X8_stands sc d 0 [aR 62, aU] [] m Q := by
  refine x_aload_n (pc2 := 1) dX8_stands_0 rfl rfl ?_
  refine x_iconst (pc2 := 2) dX8_stands_1 rfl ?_
  refine x_putf (pc2 := 5) (x := 1) fl_X8_422 ft_8_53 ic_62 (pv_i _ ic_62 rfl) (pn_z (by decide)) dX8_stands_2 rfl ?_
  refine x_iconst (pc2 := 6) dX8_stands_5 rfl ?_
  refine x_istore_n (pc2 := 7) (ls2 := [aR 62, aI 0]) dX8_stands_6 rfl (by decide) rfl ?_
  exact k
set_option maxRecDepth 4000 in
theorem g_X8_stands_7 {sc : List Int} {d : Nat} {m : Mem} {Q : Option AV → Mem → Prop} {l1 : Int} (k : (-2147483648 ≤ l1 ∧ l1 < 2147483648) ∧ ((3 ≤ l1) → (S_X8_stands sc d 34 [aR 62, aI 0] [] m Q)) ∧ (¬ (3 ≤ l1) → ((0 ≤ l1) ∧ (l1 < 6) ∧ (0 ≤ (3 + l1)) ∧ ((3 + l1) < 6) ∧ S_X8_stands sc d 7 [aR 62, aI (l1 + 1)] [] (wr m 95 (3 + l1) (m 95 l1)) Q))) : S_X8_stands sc d 7 [aR 62, aI l1] [] m Q := by
  refine x_iload_n (pc2 := 8) dX8_stands_7 rfl rfl ?_
  refine x_iconst (pc2 := 9) dX8_stands_8 rfl ?_
  obtain ⟨h1, k⟩ := k
  obtain ⟨k1, k2⟩ := k
  refine x_icmp_ge (tgt := 32) (pc2 := 12) dX8_stands_9 (by decide) rfl h1 (by decide) (fun c2 => ?_) (fun c2 => ?_)
  · replace k := k1 c2
    refine x_iconst (pc2 := 33) dX8_stands_32 rfl ?_
    refine x_istore_n (pc2 := 34) (ls2 := [aR 62, aI 0]) dX8_stands_33 rfl (by decide) rfl ?_
    exact k
  · replace k := k2 c2
    refine x_aload_n (pc2 := 13) dX8_stands_12 rfl rfl ?_
    refine x_getf (pc2 := 16) (v := aR 95) fl_X8_111 ic_62 (vr_62_42 _) dX8_stands_13 rfl ?_
    refine x_iconst (pc2 := 17) dX8_stands_16 rfl ?_
    refine x_iload_n (pc2 := 18) dX8_stands_17 rfl rfl ?_
    refine x_iadd (pc2 := 19) dX8_stands_18 rfl ?_
    refine x_aload_n (pc2 := 20) dX8_stands_19 rfl rfl ?_
    refine x_getf (pc2 := 23) (v := aR 95) fl_X8_111 ic_62 (vr_62_42 _) dX8_stands_20 rfl ?_
    refine x_iload_n (pc2 := 24) dX8_stands_23 rfl rfl ?_
    obtain ⟨h3, k⟩ := k
    obtain ⟨h4, k⟩ := k
    refine x_iald (pc2 := 25) ic_95 h3 (by rw [al_95]; exact h4) dX8_stands_24 rfl ?_
    obtain ⟨h5, k⟩ := k
    obtain ⟨h6, k⟩ := k
    refine x_iast (pc2 := 26) ic_95 h5 (by rw [al_95]; exact h6) dX8_stands_25 rfl ?_
    refine x_iinc (pc2 := 29) (ls2 := [aR 62, aI (l1 + 1)]) dX8_stands_26 rfl rfl (by decide) rfl ?_
    refine x_goto (tgt := 7) dX8_stands_29 (by decide) ?_
    exact k
set_option maxRecDepth 4000 in
theorem g_X8_stands_34 {sc : List Int} {d : Nat} {m : Mem} {Q : Option AV → Mem → Prop} {l1 : Int} (k : (-2147483648 ≤ l1 ∧ l1 < 2147483648) ∧ ((20 ≤ l1) → (S_X8_stands sc d 63 [aR 62, aI 0] [] m Q)) ∧ (¬ (20 ≤ l1) → ((0 ≤ l1) ∧ (l1 < 40) ∧ (0 ≤ (20 + l1)) ∧ ((20 + l1) < 40) ∧ S_X8_stands sc d 34 [aR 62, aI (l1 + 1)] [] (wr m 96 (20 + l1) (m 96 l1)) Q))) : S_X8_stands sc d 34 [aR 62, aI l1] [] m Q := by
  refine x_iload_n (pc2 := 35) dX8_stands_34 rfl rfl ?_
  refine x_bipush (pc2 := 37) dX8_stands_35 rfl rfl ?_
  obtain ⟨h1, k⟩ := k
  obtain ⟨k1, k2⟩ := k
  refine x_icmp_ge (tgt := 61) (pc2 := 40) dX8_stands_37 (by decide) rfl h1 (by decide) (fun c2 => ?_) (fun c2 => ?_)
  · replace k := k1 c2
    refine x_iconst (pc2 := 62) dX8_stands_61 rfl ?_
    refine x_istore_n (pc2 := 63) (ls2 := [aR 62, aI 0]) dX8_stands_62 rfl (by decide) rfl ?_
    exact k
  · replace k := k2 c2
    refine x_aload_n (pc2 := 41) dX8_stands_40 rfl rfl ?_
    refine x_getf (pc2 := 44) (v := aR 96) fl_X8_114 ic_62 (vr_62_43 _) dX8_stands_41 rfl ?_
    refine x_bipush (pc2 := 46) dX8_stands_44 rfl rfl ?_
    refine x_iload_n (pc2 := 47) dX8_stands_46 rfl rfl ?_
    refine x_iadd (pc2 := 48) dX8_stands_47 rfl ?_
    refine x_aload_n (pc2 := 49) dX8_stands_48 rfl rfl ?_
    refine x_getf (pc2 := 52) (v := aR 96) fl_X8_114 ic_62 (vr_62_43 _) dX8_stands_49 rfl ?_
    refine x_iload_n (pc2 := 53) dX8_stands_52 rfl rfl ?_
    obtain ⟨h3, k⟩ := k
    obtain ⟨h4, k⟩ := k
    refine x_lald (pc2 := 54) ic_96 h3 (by rw [al_96]; exact h4) dX8_stands_53 rfl ?_
    obtain ⟨h5, k⟩ := k
    obtain ⟨h6, k⟩ := k
    refine x_last (pc2 := 55) ic_96 h5 (by rw [al_96]; exact h6) dX8_stands_54 rfl ?_
    refine x_iinc (pc2 := 58) (ls2 := [aR 62, aI (l1 + 1)]) dX8_stands_55 rfl rfl (by decide) rfl ?_
    refine x_goto (tgt := 34) dX8_stands_58 (by decide) ?_
    exact k
set_option maxRecDepth 4000 in
theorem g_X8_stands_63 {sc : List Int} {d : Nat} {m : Mem} {Q : Option AV → Mem → Prop} {l1 : Int} (k : (-2147483648 ≤ l1 ∧ l1 < 2147483648) ∧ ((6 ≤ l1) → (S_X8_stands sc d 122 [aR 62, aI 0] [] m Q)) ∧ (¬ (6 ≤ l1) → ((0 ≤ l1) ∧ (l1 < 12) ∧ (0 ≤ (6 + l1)) ∧ ((6 + l1) < 12) ∧ S_X8_stands sc d 63 [aR 62, aI (l1 + 1)] [] (wr (wr (wr m 97 (6 + l1) (m 97 l1)) 98 (6 + l1) ((wr m 97 (6 + l1) (m 97 l1)) 98 l1)) 100 (6 + l1) ((wr (wr m 97 (6 + l1) (m 97 l1)) 98 (6 + l1) ((wr m 97 (6 + l1) (m 97 l1)) 98 l1)) 100 l1)) Q))) : S_X8_stands sc d 63 [aR 62, aI l1] [] m Q := by
  refine x_iload_n (pc2 := 64) dX8_stands_63 rfl rfl ?_
  refine x_bipush (pc2 := 66) dX8_stands_64 rfl rfl ?_
  obtain ⟨h1, k⟩ := k
  obtain ⟨k1, k2⟩ := k
  refine x_icmp_ge (tgt := 120) (pc2 := 69) dX8_stands_66 (by decide) rfl h1 (by decide) (fun c2 => ?_) (fun c2 => ?_)
  · replace k := k1 c2
    refine x_iconst (pc2 := 121) dX8_stands_120 rfl ?_
    refine x_istore_n (pc2 := 122) (ls2 := [aR 62, aI 0]) dX8_stands_121 rfl (by decide) rfl ?_
    exact k
  · replace k := k2 c2
    refine x_aload_n (pc2 := 70) dX8_stands_69 rfl rfl ?_
    refine x_getf (pc2 := 73) (v := aR 97) fl_X8_118 ic_62 (vr_62_44 _) dX8_stands_70 rfl ?_
    refine x_bipush (pc2 := 75) dX8_stands_73 rfl rfl ?_
    refine x_iload_n (pc2 := 76) dX8_stands_75 rfl rfl ?_
    refine x_iadd (pc2 := 77) dX8_stands_76 rfl ?_
    refine x_aload_n (pc2 := 78) dX8_stands_77 rfl rfl ?_
    refine x_getf (pc2 := 81) (v := aR 97) fl_X8_118 ic_62 (vr_62_44 _) dX8_stands_78 rfl ?_
    refine x_iload_n (pc2 := 82) dX8_stands_81 rfl rfl ?_
    obtain ⟨h3, k⟩ := k
    obtain ⟨h4, k⟩ := k
    refine x_iald (pc2 := 83) ic_97 h3 (by rw [al_97]; exact h4) dX8_stands_82 rfl ?_
    obtain ⟨h5, k⟩ := k
    obtain ⟨h6, k⟩ := k
    refine x_iast (pc2 := 84) ic_97 h5 (by rw [al_97]; exact h6) dX8_stands_83 rfl ?_
    refine x_aload_n (pc2 := 85) dX8_stands_84 rfl rfl ?_
    refine x_getf (pc2 := 88) (v := aR 98) fl_X8_121 ic_62 (vr_62_45 _) dX8_stands_85 rfl ?_
    refine x_bipush (pc2 := 90) dX8_stands_88 rfl rfl ?_
    refine x_iload_n (pc2 := 91) dX8_stands_90 rfl rfl ?_
    refine x_iadd (pc2 := 92) dX8_stands_91 rfl ?_
    refine x_aload_n (pc2 := 93) dX8_stands_92 rfl rfl ?_
    refine x_getf (pc2 := 96) (v := aR 98) fl_X8_121 ic_62 (vr_62_45 _) dX8_stands_93 rfl ?_
    refine x_iload_n (pc2 := 97) dX8_stands_96 rfl rfl ?_
    refine x_iald (pc2 := 98) ic_98 h3 (by rw [al_98]; exact h4) dX8_stands_97 rfl ?_
    refine x_iast (pc2 := 99) ic_98 h5 (by rw [al_98]; exact h6) dX8_stands_98 rfl ?_
    refine x_aload_n (pc2 := 100) dX8_stands_99 rfl rfl ?_
    refine x_getf (pc2 := 103) (v := aR 100) fl_X8_127 ic_62 (vr_62_47 _) dX8_stands_100 rfl ?_
    refine x_bipush (pc2 := 105) dX8_stands_103 rfl rfl ?_
    refine x_iload_n (pc2 := 106) dX8_stands_105 rfl rfl ?_
    refine x_iadd (pc2 := 107) dX8_stands_106 rfl ?_
    refine x_aload_n (pc2 := 108) dX8_stands_107 rfl rfl ?_
    refine x_getf (pc2 := 111) (v := aR 100) fl_X8_127 ic_62 (vr_62_47 _) dX8_stands_108 rfl ?_
    refine x_iload_n (pc2 := 112) dX8_stands_111 rfl rfl ?_
    refine x_iald (pc2 := 113) ic_100 h3 (by rw [al_100]; exact h4) dX8_stands_112 rfl ?_
    refine x_iast (pc2 := 114) ic_100 h5 (by rw [al_100]; exact h6) dX8_stands_113 rfl ?_
    refine x_iinc (pc2 := 117) (ls2 := [aR 62, aI (l1 + 1)]) dX8_stands_114 rfl rfl (by decide) rfl ?_
    refine x_goto (tgt := 63) dX8_stands_117 (by decide) ?_
    exact k
set_option maxRecDepth 4000 in
theorem g_X8_stands_122 {sc : List Int} {d : Nat} {m : Mem} {Q : Option AV → Mem → Prop} {l1 : Int} (k : (-2147483648 ≤ l1 ∧ l1 < 2147483648) ∧ ((70 ≤ l1) → (S_X8_stands sc d 151 [aR 62, aI 0] [] m Q)) ∧ (¬ (70 ≤ l1) → ((0 ≤ l1) ∧ (l1 < 140) ∧ (0 ≤ (70 + l1)) ∧ ((70 + l1) < 140) ∧ S_X8_stands sc d 122 [aR 62, aI (l1 + 1)] [] (wr m 99 (70 + l1) (m 99 l1)) Q))) : S_X8_stands sc d 122 [aR 62, aI l1] [] m Q := by
  refine x_iload_n (pc2 := 123) dX8_stands_122 rfl rfl ?_
  refine x_bipush (pc2 := 125) dX8_stands_123 rfl rfl ?_
  obtain ⟨h1, k⟩ := k
  obtain ⟨k1, k2⟩ := k
  refine x_icmp_ge (tgt := 149) (pc2 := 128) dX8_stands_125 (by decide) rfl h1 (by decide) (fun c2 => ?_) (fun c2 => ?_)
  · replace k := k1 c2
    refine x_iconst (pc2 := 150) dX8_stands_149 rfl ?_
    refine x_istore_n (pc2 := 151) (ls2 := [aR 62, aI 0]) dX8_stands_150 rfl (by decide) rfl ?_
    exact k
  · replace k := k2 c2
    refine x_aload_n (pc2 := 129) dX8_stands_128 rfl rfl ?_
    refine x_getf (pc2 := 132) (v := aR 99) fl_X8_124 ic_62 (vr_62_46 _) dX8_stands_129 rfl ?_
    refine x_bipush (pc2 := 134) dX8_stands_132 rfl rfl ?_
    refine x_iload_n (pc2 := 135) dX8_stands_134 rfl rfl ?_
    refine x_iadd (pc2 := 136) dX8_stands_135 rfl ?_
    refine x_aload_n (pc2 := 137) dX8_stands_136 rfl rfl ?_
    refine x_getf (pc2 := 140) (v := aR 99) fl_X8_124 ic_62 (vr_62_46 _) dX8_stands_137 rfl ?_
    refine x_iload_n (pc2 := 141) dX8_stands_140 rfl rfl ?_
    obtain ⟨h3, k⟩ := k
    obtain ⟨h4, k⟩ := k
    refine x_iald (pc2 := 142) ic_99 h3 (by rw [al_99]; exact h4) dX8_stands_141 rfl ?_
    obtain ⟨h5, k⟩ := k
    obtain ⟨h6, k⟩ := k
    refine x_iast (pc2 := 143) ic_99 h5 (by rw [al_99]; exact h6) dX8_stands_142 rfl ?_
    refine x_iinc (pc2 := 146) (ls2 := [aR 62, aI (l1 + 1)]) dX8_stands_143 rfl rfl (by decide) rfl ?_
    refine x_goto (tgt := 122) dX8_stands_146 (by decide) ?_
    exact k
set_option maxRecDepth 4000 in
theorem g_X8_stands_151 {sc : List Int} {d : Nat} {m : Mem} {Q : Option AV → Mem → Prop} {l1 : Int} (k : (-2147483648 ≤ l1 ∧ l1 < 2147483648) ∧ ((4 ≤ l1) → (S_X8_stands sc d 192 [aR 62, aI 0] [] m Q)) ∧ (¬ (4 ≤ l1) → ((0 ≤ l1) ∧ (l1 < 8) ∧ (0 ≤ (4 + l1)) ∧ ((4 + l1) < 8) ∧ S_X8_stands sc d 151 [aR 62, aI (l1 + 1)] [] (wr (wr m 101 (4 + l1) (m 101 l1)) 102 (4 + l1) ((wr m 101 (4 + l1) (m 101 l1)) 102 l1)) Q))) : S_X8_stands sc d 151 [aR 62, aI l1] [] m Q := by
  refine x_iload_n (pc2 := 152) dX8_stands_151 rfl rfl ?_
  refine x_iconst (pc2 := 153) dX8_stands_152 rfl ?_
  obtain ⟨h1, k⟩ := k
  obtain ⟨k1, k2⟩ := k
  refine x_icmp_ge (tgt := 190) (pc2 := 156) dX8_stands_153 (by decide) rfl h1 (by decide) (fun c2 => ?_) (fun c2 => ?_)
  · replace k := k1 c2
    refine x_iconst (pc2 := 191) dX8_stands_190 rfl ?_
    refine x_istore_n (pc2 := 192) (ls2 := [aR 62, aI 0]) dX8_stands_191 rfl (by decide) rfl ?_
    exact k
  · replace k := k2 c2
    refine x_aload_n (pc2 := 157) dX8_stands_156 rfl rfl ?_
    refine x_getf (pc2 := 160) (v := aR 101) fl_X8_130 ic_62 (vr_62_48 _) dX8_stands_157 rfl ?_
    refine x_iconst (pc2 := 161) dX8_stands_160 rfl ?_
    refine x_iload_n (pc2 := 162) dX8_stands_161 rfl rfl ?_
    refine x_iadd (pc2 := 163) dX8_stands_162 rfl ?_
    refine x_aload_n (pc2 := 164) dX8_stands_163 rfl rfl ?_
    refine x_getf (pc2 := 167) (v := aR 101) fl_X8_130 ic_62 (vr_62_48 _) dX8_stands_164 rfl ?_
    refine x_iload_n (pc2 := 168) dX8_stands_167 rfl rfl ?_
    obtain ⟨h3, k⟩ := k
    obtain ⟨h4, k⟩ := k
    refine x_iald (pc2 := 169) ic_101 h3 (by rw [al_101]; exact h4) dX8_stands_168 rfl ?_
    obtain ⟨h5, k⟩ := k
    obtain ⟨h6, k⟩ := k
    refine x_iast (pc2 := 170) ic_101 h5 (by rw [al_101]; exact h6) dX8_stands_169 rfl ?_
    refine x_aload_n (pc2 := 171) dX8_stands_170 rfl rfl ?_
    refine x_getf (pc2 := 174) (v := aR 102) fl_X8_133 ic_62 (vr_62_49 _) dX8_stands_171 rfl ?_
    refine x_iconst (pc2 := 175) dX8_stands_174 rfl ?_
    refine x_iload_n (pc2 := 176) dX8_stands_175 rfl rfl ?_
    refine x_iadd (pc2 := 177) dX8_stands_176 rfl ?_
    refine x_aload_n (pc2 := 178) dX8_stands_177 rfl rfl ?_
    refine x_getf (pc2 := 181) (v := aR 102) fl_X8_133 ic_62 (vr_62_49 _) dX8_stands_178 rfl ?_
    refine x_iload_n (pc2 := 182) dX8_stands_181 rfl rfl ?_
    refine x_iald (pc2 := 183) ic_102 h3 (by rw [al_102]; exact h4) dX8_stands_182 rfl ?_
    refine x_iast (pc2 := 184) ic_102 h5 (by rw [al_102]; exact h6) dX8_stands_183 rfl ?_
    refine x_iinc (pc2 := 187) (ls2 := [aR 62, aI (l1 + 1)]) dX8_stands_184 rfl rfl (by decide) rfl ?_
    refine x_goto (tgt := 151) dX8_stands_187 (by decide) ?_
    exact k
set_option maxRecDepth 4000 in
theorem g_X8_stands_192 {sc : List Int} {d : Nat} {m : Mem} {Q : Option AV → Mem → Prop} {l1 : Int} (k : (-2147483648 ≤ l1 ∧ l1 < 2147483648) ∧ (-2147483648 ≤ (m 62 51) ∧ (m 62 51) < 2147483648) ∧ (((m 62 51) ≤ l1) → (S_X8_stands sc d 224 [aR 62, aI 0] [] m Q)) ∧ (¬ ((m 62 51) ≤ l1) → ((0 ≤ l1) ∧ (l1 < 3200) ∧ (0 ≤ (1600 + l1)) ∧ ((1600 + l1) < 3200) ∧ S_X8_stands sc d 192 [aR 62, aI (l1 + 1)] [] (wr m 103 (1600 + l1) (m 103 l1)) Q))) : S_X8_stands sc d 192 [aR 62, aI l1] [] m Q := by
  refine x_iload_n (pc2 := 193) dX8_stands_192 rfl rfl ?_
  refine x_aload_n (pc2 := 194) dX8_stands_193 rfl rfl ?_
  refine x_getf (pc2 := 197) (v := aI (m 62 51)) fl_X8_398 ic_62 (fv_i _ ic_62 rfl) dX8_stands_194 rfl ?_
  obtain ⟨h1, k⟩ := k
  obtain ⟨h2, k⟩ := k
  obtain ⟨k1, k2⟩ := k
  refine x_icmp_ge (tgt := 222) (pc2 := 200) dX8_stands_197 (by decide) rfl h1 h2 (fun c3 => ?_) (fun c3 => ?_)
  · replace k := k1 c3
    refine x_iconst (pc2 := 223) dX8_stands_222 rfl ?_
    refine x_istore_n (pc2 := 224) (ls2 := [aR 62, aI 0]) dX8_stands_223 rfl (by decide) rfl ?_
    exact k
  · replace k := k2 c3
    refine x_aload_n (pc2 := 201) dX8_stands_200 rfl rfl ?_
    refine x_getf (pc2 := 204) (v := aR 103) fl_X8_136 ic_62 (vr_62_50 _) dX8_stands_201 rfl ?_
    refine x_sipush (pc2 := 207) dX8_stands_204 rfl rfl ?_
    refine x_iload_n (pc2 := 208) dX8_stands_207 rfl rfl ?_
    refine x_iadd (pc2 := 209) dX8_stands_208 rfl ?_
    refine x_aload_n (pc2 := 210) dX8_stands_209 rfl rfl ?_
    refine x_getf (pc2 := 213) (v := aR 103) fl_X8_136 ic_62 (vr_62_50 _) dX8_stands_210 rfl ?_
    refine x_iload_n (pc2 := 214) dX8_stands_213 rfl rfl ?_
    obtain ⟨h4, k⟩ := k
    obtain ⟨h5, k⟩ := k
    refine x_iald (pc2 := 215) ic_103 h4 (by rw [al_103]; exact h5) dX8_stands_214 rfl ?_
    obtain ⟨h6, k⟩ := k
    obtain ⟨h7, k⟩ := k
    refine x_iast (pc2 := 216) ic_103 h6 (by rw [al_103]; exact h7) dX8_stands_215 rfl ?_
    refine x_iinc (pc2 := 219) (ls2 := [aR 62, aI (l1 + 1)]) dX8_stands_216 rfl rfl (by decide) rfl ?_
    refine x_goto (tgt := 192) dX8_stands_219 (by decide) ?_
    exact k
set_option maxRecDepth 4000 in
theorem g_X8_stands_224 {sc : List Int} {d : Nat} {m : Mem} {Q : Option AV → Mem → Prop} {l1 : Int} (k : (-2147483648 ≤ l1 ∧ l1 < 2147483648) ∧ ((6 ≤ l1) → (Q none (wr (wr (wr m 124 2 (m 97 6)) 62 83 0) 62 88 0))) ∧ (¬ (6 ≤ l1) → ((0 ≤ l1) ∧ (l1 < 6) ∧ S_X8_stands sc d 224 [aR 62, aI (l1 + 1)] [] (wr m 124 l1 0) Q))) : S_X8_stands sc d 224 [aR 62, aI l1] [] m Q := by
  refine x_iload_n (pc2 := 225) dX8_stands_224 rfl rfl ?_
  refine x_bipush (pc2 := 227) dX8_stands_225 rfl rfl ?_
  obtain ⟨h1, k⟩ := k
  obtain ⟨k1, k2⟩ := k
  refine x_icmp_ge (tgt := 243) (pc2 := 230) dX8_stands_227 (by decide) rfl h1 (by decide) (fun c2 => ?_) (fun c2 => ?_)
  · replace k := k1 c2
    refine x_aload_n (pc2 := 244) dX8_stands_243 rfl rfl ?_
    refine x_getf (pc2 := 247) (v := aR 124) fl_X8_199 ic_62 (vr_62_81 _) dX8_stands_244 rfl ?_
    refine x_iconst (pc2 := 248) dX8_stands_247 rfl ?_
    refine x_aload_n (pc2 := 249) dX8_stands_248 rfl rfl ?_
    refine x_getf (pc2 := 252) (v := aR 97) fl_X8_118 ic_62 (vr_62_44 _) dX8_stands_249 rfl ?_
    refine x_bipush (pc2 := 254) dX8_stands_252 rfl rfl ?_
    refine x_iald (pc2 := 255) ic_97 (by decide) (by rw [al_97]; decide) dX8_stands_254 rfl ?_
    refine x_iast (pc2 := 256) ic_124 (by decide) (by rw [al_124]; decide) dX8_stands_255 rfl ?_
    refine x_aload_n (pc2 := 257) dX8_stands_256 rfl rfl ?_
    refine x_iconst (pc2 := 258) dX8_stands_257 rfl ?_
    refine x_putf (pc2 := 261) (x := 0) fl_X8_425 ft_8_83 ic_62 (pv_i _ ic_62 rfl) (pn_i _) dX8_stands_258 rfl ?_
    refine x_aload_n (pc2 := 262) dX8_stands_261 rfl rfl ?_
    refine x_iconst (pc2 := 263) dX8_stands_262 rfl ?_
    refine x_putf (pc2 := 266) (x := 0) fl_X8_428 ft_8_88 ic_62 (pv_i _ ic_62 rfl) (pn_i _) dX8_stands_263 rfl ?_
    exact x_return dX8_stands_266 rfl k
  · replace k := k2 c2
    refine x_aload_n (pc2 := 231) dX8_stands_230 rfl rfl ?_
    refine x_getf (pc2 := 234) (v := aR 124) fl_X8_199 ic_62 (vr_62_81 _) dX8_stands_231 rfl ?_
    refine x_iload_n (pc2 := 235) dX8_stands_234 rfl rfl ?_
    refine x_iconst (pc2 := 236) dX8_stands_235 rfl ?_
    obtain ⟨h3, k⟩ := k
    obtain ⟨h4, k⟩ := k
    refine x_iast (pc2 := 237) ic_124 h3 (by rw [al_124]; exact h4) dX8_stands_236 rfl ?_
    refine x_iinc (pc2 := 240) (ls2 := [aR 62, aI (l1 + 1)]) dX8_stands_237 rfl rfl (by decide) rfl ?_
    refine x_goto (tgt := 224) dX8_stands_240 (by decide) ?_
    exact k
set_option maxRecDepth 4000 in
theorem g_X8_fault_0 {sc : List Int} {d : Nat} {m : Mem} {Q : Option AV → Mem → Prop} {l1 : Int} (k : ((-2147483648 ≤ l1 ∧ l1 < 2147483648)) ∧ Q (some (aI (if l1 ≠ 0 then (if l1 ≠ 1 then (-1) else (m 62 8) : Int) else (m 62 7) : Int))) m) : S_X8_fault sc d 0 [aR 62, aI l1] [] m Q := by
  refine x_iload_n (pc2 := 1) dX8_fault_0 rfl rfl ?_
  obtain ⟨g2, k⟩ := k
  have kj : S_X8_fault sc d 24 [aR 62, aI l1] [aI (if l1 ≠ 0 then (if l1 ≠ 1 then (-1) else (m 62 8) : Int) else (m 62 7) : Int)] m Q := by
    exact x_ireturn dX8_fault_24 ⟨.int, rfl, rfl⟩ k
  have h3 := g2 
  refine x_if_ne (tgt := 11) (pc2 := 4) dX8_fault_1 (by decide) rfl h3 (fun c4 => ?_) (fun c4 => ?_)
  · skip
    refine x_iload_n (pc2 := 12) dX8_fault_11 rfl rfl ?_
    refine x_iconst (pc2 := 13) dX8_fault_12 rfl ?_
    refine x_icmp_ne (tgt := 23) (pc2 := 16) dX8_fault_13 (by decide) rfl h3 (by decide) (fun c5 => ?_) (fun c5 => ?_)
    · skip
      refine x_iconst (pc2 := 24) dX8_fault_23 rfl ?_
      exact x_topI (v := (if l1 ≠ 0 then (if l1 ≠ 1 then (-1) else (m 62 8) : Int) else (m 62 7) : Int)) ((if_pos c4).trans (if_pos c5)) kj
    · skip
      refine x_aload_n (pc2 := 17) dX8_fault_16 rfl rfl ?_
      refine x_getf (pc2 := 20) (v := aI (m 62 8)) fl_X8_13 ic_62 (fv_i _ ic_62 rfl) dX8_fault_17 rfl ?_
      refine x_goto (tgt := 24) dX8_fault_20 (by decide) ?_
      exact x_topI (v := (if l1 ≠ 0 then (if l1 ≠ 1 then (-1) else (m 62 8) : Int) else (m 62 7) : Int)) ((if_pos c4).trans (if_neg c5)) kj
  · skip
    refine x_aload_n (pc2 := 5) dX8_fault_4 rfl rfl ?_
    refine x_getf (pc2 := 8) (v := aI (m 62 7)) fl_X8_416 ic_62 (fv_i _ ic_62 rfl) dX8_fault_5 rfl ?_
    refine x_goto (tgt := 24) dX8_fault_8 (by decide) ?_
    exact x_topI (v := (if l1 ≠ 0 then (if l1 ≠ 1 then (-1) else (m 62 8) : Int) else (m 62 7) : Int)) (if_neg c4) kj
set_option maxRecDepth 4000 in
theorem g_X8_lengthMany_0 {sc : List Int} {d : Nat} {m : Mem} {Q : Option AV → Mem → Prop} (k : Q (some (aI (m 95 3))) m) : S_X8_lengthMany sc d 0 [aR 62] [] m Q := by
  refine x_aload_n (pc2 := 1) dX8_lengthMany_0 rfl rfl ?_
  refine x_getf (pc2 := 4) (v := aR 95) fl_X8_111 ic_62 (vr_62_42 _) dX8_lengthMany_1 rfl ?_
  refine x_iconst (pc2 := 5) dX8_lengthMany_4 rfl ?_
  refine x_iald (pc2 := 6) ic_95 (by decide) (by rw [al_95]; decide) dX8_lengthMany_5 rfl ?_
  exact x_ireturn dX8_lengthMany_6 ⟨.int, rfl, rfl⟩ k
set_option maxRecDepth 4000 in
theorem g_X8_seamMany_0 {sc : List Int} {d : Nat} {m : Mem} {Q : Option AV → Mem → Prop} (k : Q (some (aI (m 95 4))) m) : S_X8_seamMany sc d 0 [aR 62] [] m Q := by
  refine x_aload_n (pc2 := 1) dX8_seamMany_0 rfl rfl ?_
  refine x_getf (pc2 := 4) (v := aR 95) fl_X8_111 ic_62 (vr_62_42 _) dX8_seamMany_1 rfl ?_
  refine x_iconst (pc2 := 5) dX8_seamMany_4 rfl ?_
  refine x_iald (pc2 := 6) ic_95 (by decide) (by rw [al_95]; decide) dX8_seamMany_5 rfl ?_
  exact x_ireturn dX8_seamMany_6 ⟨.int, rfl, rfl⟩ k
set_option maxRecDepth 4000 in
theorem g_X8_ruleMany_0 {sc : List Int} {d : Nat} {m : Mem} {Q : Option AV → Mem → Prop} (k : Q (some (aI (m 95 5))) m) : S_X8_ruleMany sc d 0 [aR 62] [] m Q := by
  refine x_aload_n (pc2 := 1) dX8_ruleMany_0 rfl rfl ?_
  refine x_getf (pc2 := 4) (v := aR 95) fl_X8_111 ic_62 (vr_62_42 _) dX8_ruleMany_1 rfl ?_
  refine x_iconst (pc2 := 5) dX8_ruleMany_4 rfl ?_
  refine x_iald (pc2 := 6) ic_95 (by decide) (by rw [al_95]; decide) dX8_ruleMany_5 rfl ?_
  exact x_ireturn dX8_ruleMany_6 ⟨.int, rfl, rfl⟩ k
set_option maxRecDepth 4000 in
theorem g_X8_settingOf_0 {sc : List Int} {d : Nat} {m : Mem} {Q : Option AV → Mem → Prop} {l1 : Int} (k : (0 ≤ (6 + l1)) ∧ ((6 + l1) < 12) ∧ Q (some (aI (m 100 (6 + l1)))) m) : S_X8_settingOf sc d 0 [aR 62, aI l1] [] m Q := by
  refine x_aload_n (pc2 := 1) dX8_settingOf_0 rfl rfl ?_
  refine x_getf (pc2 := 4) (v := aR 100) fl_X8_127 ic_62 (vr_62_47 _) dX8_settingOf_1 rfl ?_
  refine x_bipush (pc2 := 6) dX8_settingOf_4 rfl rfl ?_
  refine x_iload_n (pc2 := 7) dX8_settingOf_6 rfl rfl ?_
  refine x_iadd (pc2 := 8) dX8_settingOf_7 rfl ?_
  obtain ⟨h1, k⟩ := k
  obtain ⟨h2, k⟩ := k
  refine x_iald (pc2 := 9) ic_100 h1 (by rw [al_100]; exact h2) dX8_settingOf_8 rfl ?_
  exact x_ireturn dX8_settingOf_9 ⟨.int, rfl, rfl⟩ k
set_option maxRecDepth 4000 in
theorem g_X8_takesOf_0 {sc : List Int} {d : Nat} {m : Mem} {Q : Option AV → Mem → Prop} {l1 : Int} (k : (0 ≤ (70 + (7 * l1))) ∧ ((70 + (7 * l1)) < 140) ∧ Q (some (aI (m 99 (70 + (7 * l1))))) m) : S_X8_takesOf sc d 0 [aR 62, aI l1] [] m Q := by
  refine x_aload_n (pc2 := 1) dX8_takesOf_0 rfl rfl ?_
  refine x_getf (pc2 := 4) (v := aR 99) fl_X8_124 ic_62 (vr_62_46 _) dX8_takesOf_1 rfl ?_
  refine x_bipush (pc2 := 6) dX8_takesOf_4 rfl rfl ?_
  refine x_bipush (pc2 := 8) dX8_takesOf_6 rfl rfl ?_
  refine x_iload_n (pc2 := 9) dX8_takesOf_8 rfl rfl ?_
  refine x_imul (pc2 := 10) dX8_takesOf_9 rfl ?_
  refine x_iadd (pc2 := 11) dX8_takesOf_10 rfl ?_
  obtain ⟨h1, k⟩ := k
  obtain ⟨h2, k⟩ := k
  refine x_iald (pc2 := 12) ic_99 h1 (by rw [al_99]; exact h2) dX8_takesOf_11 rfl ?_
  exact x_ireturn dX8_takesOf_12 ⟨.int, rfl, rfl⟩ k
set_option maxRecDepth 4000 in
theorem g_X8_isShown_0 {sc : List Int} {d : Nat} {m : Mem} {Q : Option AV → Mem → Prop} {l1 : Int} (k : (0 ≤ (71 + (7 * l1))) ∧ ((71 + (7 * l1)) < 140) ∧ ((-2147483648 ≤ (m 99 (71 + (7 * l1))) ∧ (m 99 (71 + (7 * l1))) < 2147483648)) ∧ Q (some (aI (if (m 99 (71 + (7 * l1))) ≠ 1 then 0 else 1 : Int))) m) : S_X8_isShown sc d 0 [aR 62, aI l1] [] m Q := by
  refine x_aload_n (pc2 := 1) dX8_isShown_0 rfl rfl ?_
  refine x_getf (pc2 := 4) (v := aR 99) fl_X8_124 ic_62 (vr_62_46 _) dX8_isShown_1 rfl ?_
  refine x_bipush (pc2 := 6) dX8_isShown_4 rfl rfl ?_
  refine x_bipush (pc2 := 8) dX8_isShown_6 rfl rfl ?_
  refine x_iload_n (pc2 := 9) dX8_isShown_8 rfl rfl ?_
  refine x_imul (pc2 := 10) dX8_isShown_9 rfl ?_
  refine x_iadd (pc2 := 11) dX8_isShown_10 rfl ?_
  obtain ⟨h1, k⟩ := k
  obtain ⟨h2, k⟩ := k
  refine x_iald (pc2 := 12) ic_99 h1 (by rw [al_99]; exact h2) dX8_isShown_11 rfl ?_
  refine x_iconst (pc2 := 13) dX8_isShown_12 rfl ?_
  obtain ⟨g4, k⟩ := k
  have kj : S_X8_isShown sc d 21 [aR 62, aI l1] [aI (if (m 99 (71 + (7 * l1))) ≠ 1 then 0 else 1 : Int)] m Q := by
    exact x_ireturn dX8_isShown_21 (ret_z (by repeat (first | exact Or.inl rfl | exact Or.inr rfl | split))) k
  have h5 := g4 
  refine x_icmp_ne (tgt := 20) (pc2 := 16) dX8_isShown_13 (by decide) rfl h5 (by decide) (fun c6 => ?_) (fun c6 => ?_)
  · skip
    refine x_iconst (pc2 := 21) dX8_isShown_20 rfl ?_
    exact x_topI (v := (if (m 99 (71 + (7 * l1))) ≠ 1 then 0 else 1 : Int)) (if_pos c6) kj
  · skip
    refine x_iconst (pc2 := 17) dX8_isShown_16 rfl ?_
    refine x_goto (tgt := 21) dX8_isShown_17 (by decide) ?_
    exact x_topI (v := (if (m 99 (71 + (7 * l1))) ≠ 1 then 0 else 1 : Int)) (if_neg c6) kj
set_option maxRecDepth 4000 in
theorem g_X8_placeMany_0 {sc : List Int} {d : Nat} {m : Mem} {Q : Option AV → Mem → Prop} {l1 : Int} (k : (0 ≤ (72 + (7 * l1))) ∧ ((72 + (7 * l1)) < 140) ∧ Q (some (aI (m 99 (72 + (7 * l1))))) m) : S_X8_placeMany sc d 0 [aR 62, aI l1] [] m Q := by
  refine x_aload_n (pc2 := 1) dX8_placeMany_0 rfl rfl ?_
  refine x_getf (pc2 := 4) (v := aR 99) fl_X8_124 ic_62 (vr_62_46 _) dX8_placeMany_1 rfl ?_
  refine x_bipush (pc2 := 6) dX8_placeMany_4 rfl rfl ?_
  refine x_bipush (pc2 := 8) dX8_placeMany_6 rfl rfl ?_
  refine x_iload_n (pc2 := 9) dX8_placeMany_8 rfl rfl ?_
  refine x_imul (pc2 := 10) dX8_placeMany_9 rfl ?_
  refine x_iadd (pc2 := 11) dX8_placeMany_10 rfl ?_
  obtain ⟨h1, k⟩ := k
  obtain ⟨h2, k⟩ := k
  refine x_iald (pc2 := 12) ic_99 h1 (by rw [al_99]; exact h2) dX8_placeMany_11 rfl ?_
  exact x_ireturn dX8_placeMany_12 ⟨.int, rfl, rfl⟩ k
set_option maxRecDepth 4000 in
theorem g_X8_placeOf_0 {sc : List Int} {d : Nat} {m : Mem} {Q : Option AV → Mem → Prop} {l1 l2 : Int} (k : (0 ≤ ((73 + (7 * l1)) + l2)) ∧ (((73 + (7 * l1)) + l2) < 140) ∧ Q (some (aI (m 99 ((73 + (7 * l1)) + l2)))) m) : S_X8_placeOf sc d 0 [aR 62, aI l1, aI l2] [] m Q := by
  refine x_aload_n (pc2 := 1) dX8_placeOf_0 rfl rfl ?_
  refine x_getf (pc2 := 4) (v := aR 99) fl_X8_124 ic_62 (vr_62_46 _) dX8_placeOf_1 rfl ?_
  refine x_bipush (pc2 := 6) dX8_placeOf_4 rfl rfl ?_
  refine x_bipush (pc2 := 8) dX8_placeOf_6 rfl rfl ?_
  refine x_iload_n (pc2 := 9) dX8_placeOf_8 rfl rfl ?_
  refine x_imul (pc2 := 10) dX8_placeOf_9 rfl ?_
  refine x_iadd (pc2 := 11) dX8_placeOf_10 rfl ?_
  refine x_iload_n (pc2 := 12) dX8_placeOf_11 rfl rfl ?_
  refine x_iadd (pc2 := 13) dX8_placeOf_12 rfl ?_
  obtain ⟨h1, k⟩ := k
  obtain ⟨h2, k⟩ := k
  refine x_iald (pc2 := 14) ic_99 h1 (by rw [al_99]; exact h2) dX8_placeOf_13 rfl ?_
  exact x_ireturn dX8_placeOf_14 ⟨.int, rfl, rfl⟩ k
set_option maxRecDepth 4000 in
theorem g_X8_restOf_0 {sc : List Int} {d : Nat} {m : Mem} {Q : Option AV → Mem → Prop} {l1 : Int} (k : S_X8_restOf sc d 4 [aR 62, aU, aI 0, aI l1] [] m Q) : S_X8_restOf sc d 0 [aR 62, aI l1, aU, aU] [] m Q := by
  refine x_iconst (pc2 := 1) dX8_restOf_0 rfl ?_
  refine x_istore_n (pc2 := 2) (ls2 := [aR 62, aI l1, aI 0, aU]) dX8_restOf_1 rfl (by decide) rfl ?_
  refine x_iload_n (pc2 := 3) dX8_restOf_2 rfl rfl ?_
  refine x_istore_n (pc2 := 4) (ls2 := [aR 62, aI l1, aI 0, aI l1]) dX8_restOf_3 rfl (by decide) rfl ?_
  exact x_drop (drp_k (drp_u (drp_k (drp_k drp_n)))) k
set_option maxRecDepth 4000 in
theorem g_X8_restOf_4 {sc : List Int} {d : Nat} {m : Mem} {Q : Option AV → Mem → Prop} {l2 l3 : Int} (k : S_X8_restOf sc d 6 [aR 62, aU, aI l2, aI l3] [aR 62, aI l3] m Q) : S_X8_restOf sc d 4 [aR 62, aU, aI l2, aI l3] [] m Q := by
  refine x_iload_n (pc2 := 5) dX8_restOf_4 rfl rfl ?_
  refine x_aload_n (pc2 := 6) dX8_restOf_5 rfl rfl ?_
  exact k
set_option maxRecDepth 4000 in
theorem g_X8_restOf_9 {sc : List Int} {d : Nat} {m : Mem} {Q : Option AV → Mem → Prop} {l2 l3 s0 s1 : Int} (k : (-2147483648 ≤ s0 ∧ s0 < 2147483648) ∧ (-2147483648 ≤ s1 ∧ s1 < 2147483648) ∧ ((s1 ≤ s0) → (Q (some (aI l2)) m)) ∧ (¬ (s1 ≤ s0) → (S_X8_restOf sc d 15 [aR 62, aU, aU, aI l3] [aI l3, aR 62, aI l2] m Q))) : S_X8_restOf sc d 9 [aR 62, aU, aI l2, aI l3] [aI s1, aI s0] m Q := by
  obtain ⟨h1, k⟩ := k
  obtain ⟨h2, k⟩ := k
  obtain ⟨k1, k2⟩ := k
  refine x_icmp_ge (tgt := 26) (pc2 := 12) dX8_restOf_9 (by decide) rfl h1 h2 (fun c3 => ?_) (fun c3 => ?_)
  · replace k := k1 c3
    refine x_iload_n (pc2 := 27) dX8_restOf_26 rfl rfl ?_
    exact x_ireturn dX8_restOf_27 ⟨.int, rfl, rfl⟩ k
  · replace k := k2 c3
    refine x_iload_n (pc2 := 13) dX8_restOf_12 rfl rfl ?_
    refine x_aload_n (pc2 := 14) dX8_restOf_13 rfl rfl ?_
    refine x_iload_n (pc2 := 15) dX8_restOf_14 rfl rfl ?_
    exact x_drop (drp_k (drp_k (drp_u (drp_k drp_n)))) k
set_option maxRecDepth 4000 in
theorem g_X8_restOf_18 {sc : List Int} {d : Nat} {m : Mem} {Q : Option AV → Mem → Prop} {l3 s0 s1 : Int} (k : S_X8_restOf sc d 4 [aR 62, aU, aI (s0 + s1), aI (l3 + 1)] [] m Q) : S_X8_restOf sc d 18 [aR 62, aU, aU, aI l3] [aI s1, aI s0] m Q := by
  refine x_iadd (pc2 := 19) dX8_restOf_18 rfl ?_
  refine x_istore_n (pc2 := 20) (ls2 := [aR 62, aU, aI (s0 + s1), aI l3]) dX8_restOf_19 rfl (by decide) rfl ?_
  refine x_iinc (pc2 := 23) (ls2 := [aR 62, aU, aI (s0 + s1), aI (l3 + 1)]) dX8_restOf_20 rfl rfl (by decide) rfl ?_
  refine x_goto (tgt := 4) dX8_restOf_23 (by decide) ?_
  exact k
theorem c_X8_restOf_6 {sc : List Int} {d d2 : Nat} {m m2 : Mem} {Q : Option AV → Mem → Prop} {l2 l3 s0 : Int} {v : Int} (hM : C_X8_seamMany sc d2 [aR 62] m (some (aI v)) m2) (hd : d2 + 1 ≤ d) (k : S_X8_restOf sc d 9 [aR 62, aU, aI l2, aI l3] [aI v, aI s0] m2 Q) : S_X8_restOf sc d 6 [aR 62, aU, aI l2, aI l3] [aR 62, aI s0] m Q := x_callV (as := []) (rest := [aI s0]) hM mk_X8_seamMany mv_X8_seamMany lk_X8_431 (Or.inl ⟨8, (RX8, TX8, 123), ic_62, Nat.le_of_ble_eq_true rfl, rfl, rfl⟩) hd rfl rfl (Nat.le_of_ble_eq_true rfl) dX8_restOf_6 rfl k
theorem c_X8_restOf_15 {sc : List Int} {d d2 : Nat} {m m2 : Mem} {Q : Option AV → Mem → Prop} {l3 s0 s2 : Int} {v : Int} (hM : C_X8_takesOf sc d2 [aR 62, aI s2] m (some (aI v)) m2) (hd : d2 + 1 ≤ d) (k : S_X8_restOf sc d 18 [aR 62, aU, aU, aI l3] [aI v, aI s0] m2 Q) : S_X8_restOf sc d 15 [aR 62, aU, aU, aI l3] [aI s2, aR 62, aI s0] m Q := x_callV (as := [aI s2]) (rest := [aI s0]) hM mk_X8_takesOf mv_X8_takesOf lk_X8_434 (Or.inl ⟨8, (RX8, TX8, 123), ic_62, Nat.le_of_ble_eq_true rfl, rfl, rfl⟩) hd rfl rfl (Nat.le_of_ble_eq_true rfl) dX8_restOf_15 rfl k
set_option maxRecDepth 4000 in
theorem g_X8_leastLength_0 {sc : List Int} {d : Nat} {m : Mem} {Q : Option AV → Mem → Prop} (k : S_X8_leastLength sc d 10 [aR 62, aI (m 97 6), aI 1] [] m Q) : S_X8_leastLength sc d 0 [aR 62, aU, aU] [] m Q := by
  refine x_aload_n (pc2 := 1) dX8_leastLength_0 rfl rfl ?_
  refine x_getf (pc2 := 4) (v := aR 97) fl_X8_118 ic_62 (vr_62_44 _) dX8_leastLength_1 rfl ?_
  refine x_bipush (pc2 := 6) dX8_leastLength_4 rfl rfl ?_
  refine x_iald (pc2 := 7) ic_97 (by decide) (by rw [al_97]; decide) dX8_leastLength_6 rfl ?_
  refine x_istore_n (pc2 := 8) (ls2 := [aR 62, aI (m 97 6), aU]) dX8_leastLength_7 rfl (by decide) rfl ?_
  refine x_iconst (pc2 := 9) dX8_leastLength_8 rfl ?_
  refine x_istore_n (pc2 := 10) (ls2 := [aR 62, aI (m 97 6), aI 1]) dX8_leastLength_9 rfl (by decide) rfl ?_
  exact k
set_option maxRecDepth 4000 in
theorem g_X8_leastLength_10 {sc : List Int} {d : Nat} {m : Mem} {Q : Option AV → Mem → Prop} {l1 l2 : Int} (k : S_X8_leastLength sc d 12 [aR 62, aI l1, aI l2] [aR 62, aI l2] m Q) : S_X8_leastLength sc d 10 [aR 62, aI l1, aI l2] [] m Q := by
  refine x_iload_n (pc2 := 11) dX8_leastLength_10 rfl rfl ?_
  refine x_aload_n (pc2 := 12) dX8_leastLength_11 rfl rfl ?_
  exact k
set_option maxRecDepth 4000 in
theorem g_X8_leastLength_15 {sc : List Int} {d : Nat} {m : Mem} {Q : Option AV → Mem → Prop} {l1 l2 s0 s1 : Int} (k : (-2147483648 ≤ s0 ∧ s0 < 2147483648) ∧ (-2147483648 ≤ s1 ∧ s1 < 2147483648) ∧ ((s1 ≤ s0) → (Q (some (aI l1)) m)) ∧ (¬ (s1 ≤ s0) → ((0 ≤ (6 + l2)) ∧ ((6 + l2) < 12) ∧ (-2147483648 ≤ (m 97 (6 + l2)) ∧ (m 97 (6 + l2)) < 2147483648) ∧ (-2147483648 ≤ l1 ∧ l1 < 2147483648) ∧ ((l1 ≤ (m 97 (6 + l2))) → (S_X8_leastLength sc d 10 [aR 62, aI l1, aI (l2 + 1)] [] m Q)) ∧ (¬ (l1 ≤ (m 97 (6 + l2))) → (S_X8_leastLength sc d 10 [aR 62, aI (m 97 (6 + l2)), aI (l2 + 1)] [] m Q))))) : S_X8_leastLength sc d 15 [aR 62, aI l1, aI l2] [aI s1, aI s0] m Q := by
  obtain ⟨h1, k⟩ := k
  obtain ⟨h2, k⟩ := k
  obtain ⟨k1, k2⟩ := k
  refine x_icmp_ge (tgt := 47) (pc2 := 18) dX8_leastLength_15 (by decide) rfl h1 h2 (fun c3 => ?_) (fun c3 => ?_)
  · replace k := k1 c3
    refine x_iload_n (pc2 := 48) dX8_leastLength_47 rfl rfl ?_
    exact x_ireturn dX8_leastLength_48 ⟨.int, rfl, rfl⟩ k
  · replace k := k2 c3
    refine x_aload_n (pc2 := 19) dX8_leastLength_18 rfl rfl ?_
    refine x_getf (pc2 := 22) (v := aR 97) fl_X8_118 ic_62 (vr_62_44 _) dX8_leastLength_19 rfl ?_
    refine x_bipush (pc2 := 24) dX8_leastLength_22 rfl rfl ?_
    refine x_iload_n (pc2 := 25) dX8_leastLength_24 rfl rfl ?_
    refine x_iadd (pc2 := 26) dX8_leastLength_25 rfl ?_
    obtain ⟨h4, k⟩ := k
    obtain ⟨h5, k⟩ := k
    refine x_iald (pc2 := 27) ic_97 h4 (by rw [al_97]; exact h5) dX8_leastLength_26 rfl ?_
    refine x_iload_n (pc2 := 28) dX8_leastLength_27 rfl rfl ?_
    obtain ⟨h6, k⟩ := k
    obtain ⟨h7, k⟩ := k
    obtain ⟨k1, k2⟩ := k
    refine x_icmp_ge (tgt := 41) (pc2 := 31) dX8_leastLength_28 (by decide) rfl h6 h7 (fun c8 => ?_) (fun c8 => ?_)
    · replace k := k1 c8
      refine x_iinc (pc2 := 44) (ls2 := [aR 62, aI l1, aI (l2 + 1)]) dX8_leastLength_41 rfl rfl (by decide) rfl ?_
      refine x_goto (tgt := 10) dX8_leastLength_44 (by decide) ?_
      exact k
    · replace k := k2 c8
      refine x_aload_n (pc2 := 32) dX8_leastLength_31 rfl rfl ?_
      refine x_getf (pc2 := 35) (v := aR 97) fl_X8_118 ic_62 (vr_62_44 _) dX8_leastLength_32 rfl ?_
      refine x_bipush (pc2 := 37) dX8_leastLength_35 rfl rfl ?_
      refine x_iload_n (pc2 := 38) dX8_leastLength_37 rfl rfl ?_
      refine x_iadd (pc2 := 39) dX8_leastLength_38 rfl ?_
      refine x_iald (pc2 := 40) ic_97 h4 (by rw [al_97]; exact h5) dX8_leastLength_39 rfl ?_
      refine x_istore_n (pc2 := 41) (ls2 := [aR 62, aI (m 97 (6 + l2)), aI l2]) dX8_leastLength_40 rfl (by decide) rfl ?_
      refine x_iinc (pc2 := 44) (ls2 := [aR 62, aI (m 97 (6 + l2)), aI (l2 + 1)]) dX8_leastLength_41 rfl rfl (by decide) rfl ?_
      refine x_goto (tgt := 10) dX8_leastLength_44 (by decide) ?_
      exact k
theorem c_X8_leastLength_12 {sc : List Int} {d d2 : Nat} {m m2 : Mem} {Q : Option AV → Mem → Prop} {l1 l2 s0 : Int} {v : Int} (hM : C_X8_lengthMany sc d2 [aR 62] m (some (aI v)) m2) (hd : d2 + 1 ≤ d) (k : S_X8_leastLength sc d 15 [aR 62, aI l1, aI l2] [aI v, aI s0] m2 Q) : S_X8_leastLength sc d 12 [aR 62, aI l1, aI l2] [aR 62, aI s0] m Q := x_callV (as := []) (rest := [aI s0]) hM mk_X8_lengthMany mv_X8_lengthMany lk_X8_438 (Or.inl ⟨8, (RX8, TX8, 123), ic_62, Nat.le_of_ble_eq_true rfl, rfl, rfl⟩) hd rfl rfl (Nat.le_of_ble_eq_true rfl) dX8_leastLength_12 rfl k
set_option maxRecDepth 4000 in
theorem g_X8_mostLength_0 {sc : List Int} {d : Nat} {m : Mem} {Q : Option AV → Mem → Prop} (k : S_X8_mostLength sc d 4 [aR 62, aI 0, aI 0] [] m Q) : S_X8_mostLength sc d 0 [aR 62, aU, aU] [] m Q := by
  refine x_iconst (pc2 := 1) dX8_mostLength_0 rfl ?_
  refine x_istore_n (pc2 := 2) (ls2 := [aR 62, aI 0, aU]) dX8_mostLength_1 rfl (by decide) rfl ?_
  refine x_iconst (pc2 := 3) dX8_mostLength_2 rfl ?_
  refine x_istore_n (pc2 := 4) (ls2 := [aR 62, aI 0, aI 0]) dX8_mostLength_3 rfl (by decide) rfl ?_
  exact k
set_option maxRecDepth 4000 in
theorem g_X8_mostLength_4 {sc : List Int} {d : Nat} {m : Mem} {Q : Option AV → Mem → Prop} {l1 l2 : Int} (k : S_X8_mostLength sc d 6 [aR 62, aI l1, aI l2] [aR 62, aI l2] m Q) : S_X8_mostLength sc d 4 [aR 62, aI l1, aI l2] [] m Q := by
  refine x_iload_n (pc2 := 5) dX8_mostLength_4 rfl rfl ?_
  refine x_aload_n (pc2 := 6) dX8_mostLength_5 rfl rfl ?_
  exact k
set_option maxRecDepth 4000 in
theorem g_X8_mostLength_9 {sc : List Int} {d : Nat} {m : Mem} {Q : Option AV → Mem → Prop} {l1 l2 s0 s1 : Int} (k : (-2147483648 ≤ s0 ∧ s0 < 2147483648) ∧ (-2147483648 ≤ s1 ∧ s1 < 2147483648) ∧ ((s1 ≤ s0) → (Q (some (aI l1)) m)) ∧ (¬ (s1 ≤ s0) → ((0 ≤ (6 + l2)) ∧ ((6 + l2) < 12) ∧ (-2147483648 ≤ (m 97 (6 + l2)) ∧ (m 97 (6 + l2)) < 2147483648) ∧ (-2147483648 ≤ l1 ∧ l1 < 2147483648) ∧ (((m 97 (6 + l2)) ≤ l1) → (S_X8_mostLength sc d 4 [aR 62, aI l1, aI (l2 + 1)] [] m Q)) ∧ (¬ ((m 97 (6 + l2)) ≤ l1) → (S_X8_mostLength sc d 4 [aR 62, aI (m 97 (6 + l2)), aI (l2 + 1)] [] m Q))))) : S_X8_mostLength sc d 9 [aR 62, aI l1, aI l2] [aI s1, aI s0] m Q := by
  obtain ⟨h1, k⟩ := k
  obtain ⟨h2, k⟩ := k
  obtain ⟨k1, k2⟩ := k
  refine x_icmp_ge (tgt := 41) (pc2 := 12) dX8_mostLength_9 (by decide) rfl h1 h2 (fun c3 => ?_) (fun c3 => ?_)
  · replace k := k1 c3
    refine x_iload_n (pc2 := 42) dX8_mostLength_41 rfl rfl ?_
    exact x_ireturn dX8_mostLength_42 ⟨.int, rfl, rfl⟩ k
  · replace k := k2 c3
    refine x_aload_n (pc2 := 13) dX8_mostLength_12 rfl rfl ?_
    refine x_getf (pc2 := 16) (v := aR 97) fl_X8_118 ic_62 (vr_62_44 _) dX8_mostLength_13 rfl ?_
    refine x_bipush (pc2 := 18) dX8_mostLength_16 rfl rfl ?_
    refine x_iload_n (pc2 := 19) dX8_mostLength_18 rfl rfl ?_
    refine x_iadd (pc2 := 20) dX8_mostLength_19 rfl ?_
    obtain ⟨h4, k⟩ := k
    obtain ⟨h5, k⟩ := k
    refine x_iald (pc2 := 21) ic_97 h4 (by rw [al_97]; exact h5) dX8_mostLength_20 rfl ?_
    refine x_iload_n (pc2 := 22) dX8_mostLength_21 rfl rfl ?_
    obtain ⟨h6, k⟩ := k
    obtain ⟨h7, k⟩ := k
    obtain ⟨k1, k2⟩ := k
    refine x_icmp_le (tgt := 35) (pc2 := 25) dX8_mostLength_22 (by decide) rfl h6 h7 (fun c8 => ?_) (fun c8 => ?_)
    · replace k := k1 c8
      refine x_iinc (pc2 := 38) (ls2 := [aR 62, aI l1, aI (l2 + 1)]) dX8_mostLength_35 rfl rfl (by decide) rfl ?_
      refine x_goto (tgt := 4) dX8_mostLength_38 (by decide) ?_
      exact k
    · replace k := k2 c8
      refine x_aload_n (pc2 := 26) dX8_mostLength_25 rfl rfl ?_
      refine x_getf (pc2 := 29) (v := aR 97) fl_X8_118 ic_62 (vr_62_44 _) dX8_mostLength_26 rfl ?_
      refine x_bipush (pc2 := 31) dX8_mostLength_29 rfl rfl ?_
      refine x_iload_n (pc2 := 32) dX8_mostLength_31 rfl rfl ?_
      refine x_iadd (pc2 := 33) dX8_mostLength_32 rfl ?_
      refine x_iald (pc2 := 34) ic_97 h4 (by rw [al_97]; exact h5) dX8_mostLength_33 rfl ?_
      refine x_istore_n (pc2 := 35) (ls2 := [aR 62, aI (m 97 (6 + l2)), aI l2]) dX8_mostLength_34 rfl (by decide) rfl ?_
      refine x_iinc (pc2 := 38) (ls2 := [aR 62, aI (m 97 (6 + l2)), aI (l2 + 1)]) dX8_mostLength_35 rfl rfl (by decide) rfl ?_
      refine x_goto (tgt := 4) dX8_mostLength_38 (by decide) ?_
      exact k
theorem c_X8_mostLength_6 {sc : List Int} {d d2 : Nat} {m m2 : Mem} {Q : Option AV → Mem → Prop} {l1 l2 s0 : Int} {v : Int} (hM : C_X8_lengthMany sc d2 [aR 62] m (some (aI v)) m2) (hd : d2 + 1 ≤ d) (k : S_X8_mostLength sc d 9 [aR 62, aI l1, aI l2] [aI v, aI s0] m2 Q) : S_X8_mostLength sc d 6 [aR 62, aI l1, aI l2] [aR 62, aI s0] m Q := x_callV (as := []) (rest := [aI s0]) hM mk_X8_lengthMany mv_X8_lengthMany lk_X8_438 (Or.inl ⟨8, (RX8, TX8, 123), ic_62, Nat.le_of_ble_eq_true rfl, rfl, rfl⟩) hd rfl rfl (Nat.le_of_ble_eq_true rfl) dX8_mostLength_6 rfl k
set_option maxRecDepth 4000 in
theorem g_X8_oddsFrom_0 {sc : List Int} {d : Nat} {m : Mem} {Q : Option AV → Mem → Prop} {l1 : Int} (k : S_X8_oddsFrom sc d 4 [aR 62, aI l1, aI 0, aI 0] [] m Q) : S_X8_oddsFrom sc d 0 [aR 62, aI l1, aU, aU] [] m Q := by
  refine x_iconst (pc2 := 1) dX8_oddsFrom_0 rfl ?_
  refine x_istore_n (pc2 := 2) (ls2 := [aR 62, aI l1, aI 0, aU]) dX8_oddsFrom_1 rfl (by decide) rfl ?_
  refine x_iconst (pc2 := 3) dX8_oddsFrom_2 rfl ?_
  refine x_istore_n (pc2 := 4) (ls2 := [aR 62, aI l1, aI 0, aI 0]) dX8_oddsFrom_3 rfl (by decide) rfl ?_
  exact k
set_option maxRecDepth 4000 in
theorem g_X8_oddsFrom_4 {sc : List Int} {d : Nat} {m : Mem} {Q : Option AV → Mem → Prop} {l1 l2 l3 : Int} (k : S_X8_oddsFrom sc d 6 [aR 62, aI l1, aI l2, aI l3] [aR 62, aI l3] m Q) : S_X8_oddsFrom sc d 4 [aR 62, aI l1, aI l2, aI l3] [] m Q := by
  refine x_iload_n (pc2 := 5) dX8_oddsFrom_4 rfl rfl ?_
  refine x_aload_n (pc2 := 6) dX8_oddsFrom_5 rfl rfl ?_
  exact k
set_option maxRecDepth 4000 in
theorem g_X8_oddsFrom_9 {sc : List Int} {d : Nat} {m : Mem} {Q : Option AV → Mem → Prop} {l1 l2 l3 s0 s1 : Int} (k : (-2147483648 ≤ s0 ∧ s0 < 2147483648) ∧ (-2147483648 ≤ s1 ∧ s1 < 2147483648) ∧ ((s1 ≤ s0) → (Q (some (aI l2)) m)) ∧ (¬ (s1 ≤ s0) → ((0 ≤ (6 + l3)) ∧ ((6 + l3) < 12) ∧ (-2147483648 ≤ (m 97 (6 + l3)) ∧ (m 97 (6 + l3)) < 2147483648) ∧ (-2147483648 ≤ l1 ∧ l1 < 2147483648) ∧ (((m 97 (6 + l3)) < l1) → (S_X8_oddsFrom sc d 4 [aR 62, aI l1, aI l2, aI (l3 + 1)] [] m Q)) ∧ (¬ ((m 97 (6 + l3)) < l1) → (S_X8_oddsFrom sc d 4 [aR 62, aI l1, aI (l2 + (m 98 (6 + l3))), aI (l3 + 1)] [] m Q))))) : S_X8_oddsFrom sc d 9 [aR 62, aI l1, aI l2, aI l3] [aI s1, aI s0] m Q := by
  obtain ⟨h1, k⟩ := k
  obtain ⟨h2, k⟩ := k
  obtain ⟨k1, k2⟩ := k
  refine x_icmp_ge (tgt := 43) (pc2 := 12) dX8_oddsFrom_9 (by decide) rfl h1 h2 (fun c3 => ?_) (fun c3 => ?_)
  · replace k := k1 c3
    refine x_iload_n (pc2 := 44) dX8_oddsFrom_43 rfl rfl ?_
    exact x_ireturn dX8_oddsFrom_44 ⟨.int, rfl, rfl⟩ k
  · replace k := k2 c3
    refine x_aload_n (pc2 := 13) dX8_oddsFrom_12 rfl rfl ?_
    refine x_getf (pc2 := 16) (v := aR 97) fl_X8_118 ic_62 (vr_62_44 _) dX8_oddsFrom_13 rfl ?_
    refine x_bipush (pc2 := 18) dX8_oddsFrom_16 rfl rfl ?_
    refine x_iload_n (pc2 := 19) dX8_oddsFrom_18 rfl rfl ?_
    refine x_iadd (pc2 := 20) dX8_oddsFrom_19 rfl ?_
    obtain ⟨h4, k⟩ := k
    obtain ⟨h5, k⟩ := k
    refine x_iald (pc2 := 21) ic_97 h4 (by rw [al_97]; exact h5) dX8_oddsFrom_20 rfl ?_
    refine x_iload_n (pc2 := 22) dX8_oddsFrom_21 rfl rfl ?_
    obtain ⟨h6, k⟩ := k
    obtain ⟨h7, k⟩ := k
    obtain ⟨k1, k2⟩ := k
    refine x_icmp_lt (tgt := 37) (pc2 := 25) dX8_oddsFrom_22 (by decide) rfl h6 h7 (fun c8 => ?_) (fun c8 => ?_)
    · replace k := k1 c8
      refine x_iinc (pc2 := 40) (ls2 := [aR 62, aI l1, aI l2, aI (l3 + 1)]) dX8_oddsFrom_37 rfl rfl (by decide) rfl ?_
      refine x_goto (tgt := 4) dX8_oddsFrom_40 (by decide) ?_
      exact k
    · replace k := k2 c8
      refine x_iload_n (pc2 := 26) dX8_oddsFrom_25 rfl rfl ?_
      refine x_aload_n (pc2 := 27) dX8_oddsFrom_26 rfl rfl ?_
      refine x_getf (pc2 := 30) (v := aR 98) fl_X8_121 ic_62 (vr_62_45 _) dX8_oddsFrom_27 rfl ?_
      refine x_bipush (pc2 := 32) dX8_oddsFrom_30 rfl rfl ?_
      refine x_iload_n (pc2 := 33) dX8_oddsFrom_32 rfl rfl ?_
      refine x_iadd (pc2 := 34) dX8_oddsFrom_33 rfl ?_
      refine x_iald (pc2 := 35) ic_98 h4 (by rw [al_98]; exact h5) dX8_oddsFrom_34 rfl ?_
      refine x_iadd (pc2 := 36) dX8_oddsFrom_35 rfl ?_
      refine x_istore_n (pc2 := 37) (ls2 := [aR 62, aI l1, aI (l2 + (m 98 (6 + l3))), aI l3]) dX8_oddsFrom_36 rfl (by decide) rfl ?_
      refine x_iinc (pc2 := 40) (ls2 := [aR 62, aI l1, aI (l2 + (m 98 (6 + l3))), aI (l3 + 1)]) dX8_oddsFrom_37 rfl rfl (by decide) rfl ?_
      refine x_goto (tgt := 4) dX8_oddsFrom_40 (by decide) ?_
      exact k
theorem c_X8_oddsFrom_6 {sc : List Int} {d d2 : Nat} {m m2 : Mem} {Q : Option AV → Mem → Prop} {l1 l2 l3 s0 : Int} {v : Int} (hM : C_X8_lengthMany sc d2 [aR 62] m (some (aI v)) m2) (hd : d2 + 1 ≤ d) (k : S_X8_oddsFrom sc d 9 [aR 62, aI l1, aI l2, aI l3] [aI v, aI s0] m2 Q) : S_X8_oddsFrom sc d 6 [aR 62, aI l1, aI l2, aI l3] [aR 62, aI s0] m Q := x_callV (as := []) (rest := [aI s0]) hM mk_X8_lengthMany mv_X8_lengthMany lk_X8_438 (Or.inl ⟨8, (RX8, TX8, 123), ic_62, Nat.le_of_ble_eq_true rfl, rfl, rfl⟩) hd rfl rfl (Nat.le_of_ble_eq_true rfl) dX8_oddsFrom_6 rfl k
set_option maxRecDepth 4000 in
theorem g_X8_isTold_0 {sc : List Int} {d : Nat} {m : Mem} {Q : Option AV → Mem → Prop} {l1 l2 l3 : Int} (k : (0 ≤ (4 + l1)) ∧ ((4 + l1) < 8) ∧ S_X8_isTold sc d 25 [aR 62, aI l1, aI l2, aU, aI ((wr (wr (wr m 62 55 l2) 62 56 l3) 62 118 0) 101 (4 + l1)), aU] [] (wr (wr (wr m 62 55 l2) 62 56 l3) 62 118 0) Q) : S_X8_isTold sc d 0 [aR 62, aI l1, aI l2, aI l3, aU, aU] [] m Q := by
  refine x_aload_n (pc2 := 1) dX8_isTold_0 rfl rfl ?_
  refine x_iload_n (pc2 := 2) dX8_isTold_1 rfl rfl ?_
  refine x_putf (pc2 := 5) (x := l2) fl_X8_441 ft_8_55 ic_62 (pv_i _ ic_62 rfl) (pn_i _) dX8_isTold_2 rfl ?_
  refine x_aload_n (pc2 := 6) dX8_isTold_5 rfl rfl ?_
  refine x_iload_n (pc2 := 7) dX8_isTold_6 rfl rfl ?_
  refine x_putf (pc2 := 10) (x := l3) fl_X8_444 ft_8_56 ic_62 (pv_i _ ic_62 rfl) (pn_i _) dX8_isTold_7 rfl ?_
  refine x_aload_n (pc2 := 11) dX8_isTold_10 rfl rfl ?_
  refine x_iconst (pc2 := 12) dX8_isTold_11 rfl ?_
  refine x_putf (pc2 := 15) (x := 0) fl_X8_447 ft_8_118 ic_62 (pv_i _ ic_62 rfl) (pn_i _) dX8_isTold_12 rfl ?_
  refine x_aload_n (pc2 := 16) dX8_isTold_15 rfl rfl ?_
  refine x_getf (pc2 := 19) (v := aR 101) fl_X8_130 ic_62 (vr_62_48 _) dX8_isTold_16 rfl ?_
  refine x_iconst (pc2 := 20) dX8_isTold_19 rfl ?_
  refine x_iload_n (pc2 := 21) dX8_isTold_20 rfl rfl ?_
  refine x_iadd (pc2 := 22) dX8_isTold_21 rfl ?_
  obtain ⟨h1, k⟩ := k
  obtain ⟨h2, k⟩ := k
  refine x_iald (pc2 := 23) ic_101 h1 (by rw [al_101]; exact h2) dX8_isTold_22 rfl ?_
  refine x_istore (pc2 := 25) (ls2 := [aR 62, aI l1, aI l2, aI l3, aI ((wr (wr (wr m 62 55 l2) 62 56 l3) 62 118 0) 101 (4 + l1)), aU]) dX8_isTold_23 rfl (by decide) rfl ?_
  exact x_drop (drp_k (drp_k (drp_k (drp_u (drp_k (drp_k drp_n)))))) k
set_option maxRecDepth 4000 in
theorem g_X8_isTold_25 {sc : List Int} {d : Nat} {m : Mem} {Q : Option AV → Mem → Prop} {l1 l2 l4 : Int} (k : (0 ≤ (4 + l1)) ∧ ((4 + l1) < 8) ∧ (-2147483648 ≤ l4 ∧ l4 < 2147483648) ∧ (-2147483648 ≤ (m 102 (4 + l1)) ∧ (m 102 (4 + l1)) < 2147483648) ∧ (((m 102 (4 + l1)) ≤ l4) → (((-9223372036854775808 ≤ (m 150 0) ∧ (m 150 0) < 9223372036854775808)) ∧ Q (some (aI (if (m 150 0) ≠ 1 then 0 else 1 : Int))) m)) ∧ (¬ ((m 102 (4 + l1)) ≤ l4) → ((0 ≤ (1600 + l4)) ∧ ((1600 + l4) < 3200) ∧ (-2147483648 ≤ (m 103 (1600 + l4)) ∧ (m 103 (1600 + l4)) < 2147483648) ∧ (((m 103 (1600 + l4)) < 1000) → ((((m 103 (1600 + l4)) < 40) → ((((m 103 (1600 + l4)) ≠ 13) → ((((m 103 (1600 + l4)) ≠ 12) → (S_X8_isTold sc d 149 [aR 62, aI l1, aI l2, aU, aI l4, aU] [aI (m 103 (1600 + l4)), aR 62] m Q)) ∧ (¬ ((m 103 (1600 + l4)) ≠ 12) → ((0 ≤ ((m 62 118) - 1)) ∧ (((m 62 118) - 1) < 1700) ∧ S_X8_isTold sc d 152 [aR 62, aI l1, aI l2, aU, aI l4, aU] [] (wr m 150 ((m 62 118) - 1) (1 - (m 150 ((m 62 118) - 1)))) Q)))) ∧ (¬ ((m 103 (1600 + l4)) ≠ 13) → (S_X8_isTold sc d 106 [aR 62, aI l1, aI l2, aU, aI l4, aU] [aJ 1, aR 62] m Q)))) ∧ (¬ ((m 103 (1600 + l4)) < 40) → (S_X8_isTold sc d 88 [aR 62, aI l1, aI l2, aU, aI l4, aU] [aI l2, aI ((m 103 (1600 + l4)) - 40), aR 62, aR 62] m Q)))) ∧ (¬ ((m 103 (1600 + l4)) < 1000) → ((-2147483648 ≤ ((m 103 (1600 + l4)) - 1000) ∧ ((m 103 (1600 + l4)) - 1000) < 2147483648) ∧ S_X8_isTold sc d 67 [aR 62, aI l1, aI l2, aU, aI l4, aU] [aJ ((m 103 (1600 + l4)) - 1000), aR 62] m Q))))) : S_X8_isTold sc d 25 [aR 62, aI l1, aI l2, aU, aI l4, aU] [] m Q := by
  refine x_iload (pc2 := 27) dX8_isTold_25 rfl rfl ?_
  refine x_aload_n (pc2 := 28) dX8_isTold_27 rfl rfl ?_
  refine x_getf (pc2 := 31) (v := aR 102) fl_X8_133 ic_62 (vr_62_49 _) dX8_isTold_28 rfl ?_
  refine x_iconst (pc2 := 32) dX8_isTold_31 rfl ?_
  refine x_iload_n (pc2 := 33) dX8_isTold_32 rfl rfl ?_
  refine x_iadd (pc2 := 34) dX8_isTold_33 rfl ?_
  obtain ⟨h1, k⟩ := k
  obtain ⟨h2, k⟩ := k
  refine x_iald (pc2 := 35) ic_102 h1 (by rw [al_102]; exact h2) dX8_isTold_34 rfl ?_
  obtain ⟨h3, k⟩ := k
  obtain ⟨h4, k⟩ := k
  obtain ⟨k1, k2⟩ := k
  refine x_icmp_ge (tgt := 158) (pc2 := 38) dX8_isTold_35 (by decide) rfl h3 h4 (fun c5 => ?_) (fun c5 => ?_)
  · replace k := k1 c5
    refine x_aload_n (pc2 := 159) dX8_isTold_158 rfl rfl ?_
    refine x_getf (pc2 := 162) (v := aR 150) fl_X8_281 ic_62 (vr_62_117 _) dX8_isTold_159 rfl ?_
    refine x_iconst (pc2 := 163) dX8_isTold_162 rfl ?_
    refine x_lald (pc2 := 164) ic_150 (by decide) (by rw [al_150]; decide) dX8_isTold_163 rfl ?_
    refine x_lconst (pc2 := 165) (v := 1) dX8_isTold_164 rfl rfl ?_
    obtain ⟨g7, k⟩ := k
    have kj : S_X8_isTold sc d 174 [aR 62, aI l1, aI l2, aU, aI l4, aU] [aI (if (m 150 0) ≠ 1 then 0 else 1 : Int)] m Q := by
      exact x_ireturn dX8_isTold_174 (ret_z (by repeat (first | exact Or.inl rfl | exact Or.inr rfl | split))) k
    have h8 := g7 
    refine x_lc_ne (tgt := 173) (pc2 := 169) dX8_isTold_165 dX8_isTold_166 (by decide) rfl h8 (by decide) (fun c9 => ?_) (fun c9 => ?_)
    · skip
      refine x_iconst (pc2 := 174) dX8_isTold_173 rfl ?_
      exact x_topI (v := (if (m 150 0) ≠ 1 then 0 else 1 : Int)) (if_pos c9) kj
    · skip
      refine x_iconst (pc2 := 170) dX8_isTold_169 rfl ?_
      refine x_goto (tgt := 174) dX8_isTold_170 (by decide) ?_
      exact x_topI (v := (if (m 150 0) ≠ 1 then 0 else 1 : Int)) (if_neg c9) kj
  · replace k := k2 c5
    refine x_aload_n (pc2 := 39) dX8_isTold_38 rfl rfl ?_
    refine x_getf (pc2 := 42) (v := aR 103) fl_X8_136 ic_62 (vr_62_50 _) dX8_isTold_39 rfl ?_
    refine x_sipush (pc2 := 45) dX8_isTold_42 rfl rfl ?_
    refine x_iload (pc2 := 47) dX8_isTold_45 rfl rfl ?_
    refine x_iadd (pc2 := 48) dX8_isTold_47 rfl ?_
    obtain ⟨h10, k⟩ := k
    obtain ⟨h11, k⟩ := k
    refine x_iald (pc2 := 49) ic_103 h10 (by rw [al_103]; exact h11) dX8_isTold_48 rfl ?_
    refine x_istore (pc2 := 51) (ls2 := [aR 62, aI l1, aI l2, aU, aI l4, aI (m 103 (1600 + l4))]) dX8_isTold_49 rfl (by decide) rfl ?_
    refine x_iload (pc2 := 53) dX8_isTold_51 rfl rfl ?_
    refine x_sipush (pc2 := 56) dX8_isTold_53 rfl rfl ?_
    obtain ⟨h12, k⟩ := k
    obtain ⟨k1, k2⟩ := k
    refine x_icmp_lt (tgt := 73) (pc2 := 59) dX8_isTold_56 (by decide) rfl h12 (by decide) (fun c13 => ?_) (fun c13 => ?_)
    · replace k := k1 c13
      refine x_iload (pc2 := 75) dX8_isTold_73 rfl rfl ?_
      refine x_bipush (pc2 := 77) dX8_isTold_75 rfl rfl ?_
      obtain ⟨k1, k2⟩ := k
      refine x_icmp_lt (tgt := 97) (pc2 := 80) dX8_isTold_77 (by decide) rfl h12 (by decide) (fun c14 => ?_) (fun c14 => ?_)
      · replace k := k1 c14
        refine x_iload (pc2 := 99) dX8_isTold_97 rfl rfl ?_
        refine x_bipush (pc2 := 101) dX8_isTold_99 rfl rfl ?_
        obtain ⟨k1, k2⟩ := k
        refine x_icmp_ne (tgt := 112) (pc2 := 104) dX8_isTold_101 (by decide) rfl h12 (by decide) (fun c15 => ?_) (fun c15 => ?_)
        · replace k := k1 c15
          refine x_iload (pc2 := 114) dX8_isTold_112 rfl rfl ?_
          refine x_bipush (pc2 := 116) dX8_isTold_114 rfl rfl ?_
          obtain ⟨k1, k2⟩ := k
          refine x_icmp_ne (tgt := 146) (pc2 := 119) dX8_isTold_116 (by decide) rfl h12 (by decide) (fun c16 => ?_) (fun c16 => ?_)
          · replace k := k1 c16
            refine x_aload_n (pc2 := 147) dX8_isTold_146 rfl rfl ?_
            refine x_iload (pc2 := 149) dX8_isTold_147 rfl rfl ?_
            exact x_drop (drp_k (drp_k (drp_k (drp_k (drp_k (drp_u drp_n)))))) k
          · replace k := k2 c16
            refine x_aload_n (pc2 := 120) dX8_isTold_119 rfl rfl ?_
            refine x_getf (pc2 := 123) (v := aR 150) fl_X8_281 ic_62 (vr_62_117 _) dX8_isTold_120 rfl ?_
            refine x_aload_n (pc2 := 124) dX8_isTold_123 rfl rfl ?_
            refine x_getf (pc2 := 127) (v := aI (m 62 118)) fl_X8_447 ic_62 (fv_i _ ic_62 rfl) dX8_isTold_124 rfl ?_
            refine x_iconst (pc2 := 128) dX8_isTold_127 rfl ?_
            refine x_isub (pc2 := 129) dX8_isTold_128 rfl ?_
            refine x_lconst (pc2 := 130) (v := 1) dX8_isTold_129 rfl rfl ?_
            refine x_aload_n (pc2 := 131) dX8_isTold_130 rfl rfl ?_
            refine x_getf (pc2 := 134) (v := aR 150) fl_X8_281 ic_62 (vr_62_117 _) dX8_isTold_131 rfl ?_
            refine x_aload_n (pc2 := 135) dX8_isTold_134 rfl rfl ?_
            refine x_getf (pc2 := 138) (v := aI (m 62 118)) fl_X8_447 ic_62 (fv_i _ ic_62 rfl) dX8_isTold_135 rfl ?_
            refine x_iconst (pc2 := 139) dX8_isTold_138 rfl ?_
            refine x_isub (pc2 := 140) dX8_isTold_139 rfl ?_
            obtain ⟨h17, k⟩ := k
            obtain ⟨h18, k⟩ := k
            refine x_lald (pc2 := 141) ic_150 h17 (by rw [al_150]; exact h18) dX8_isTold_140 rfl ?_
            refine x_lsub (pc2 := 142) dX8_isTold_141 rfl ?_
            refine x_last (pc2 := 143) ic_150 h17 (by rw [al_150]; exact h18) dX8_isTold_142 rfl ?_
            refine x_goto (tgt := 152) dX8_isTold_143 (by decide) ?_
            exact x_drop (drp_k (drp_k (drp_k (drp_k (drp_k (drp_u drp_n)))))) k
        · replace k := k2 c15
          refine x_aload_n (pc2 := 105) dX8_isTold_104 rfl rfl ?_
          refine x_lconst (pc2 := 106) (v := 1) dX8_isTold_105 rfl rfl ?_
          exact x_drop (drp_k (drp_k (drp_k (drp_k (drp_k (drp_u drp_n)))))) k
      · replace k := k2 c14
        refine x_aload_n (pc2 := 81) dX8_isTold_80 rfl rfl ?_
        refine x_aload_n (pc2 := 82) dX8_isTold_81 rfl rfl ?_
        refine x_iload (pc2 := 84) dX8_isTold_82 rfl rfl ?_
        refine x_bipush (pc2 := 86) dX8_isTold_84 rfl rfl ?_
        refine x_isub (pc2 := 87) dX8_isTold_86 rfl ?_
        refine x_iload_n (pc2 := 88) dX8_isTold_87 rfl rfl ?_
        exact x_drop (drp_k (drp_k (drp_k (drp_k (drp_k (drp_u drp_n)))))) k
    · replace k := k2 c13
      refine x_aload_n (pc2 := 60) dX8_isTold_59 rfl rfl ?_
      refine x_iload (pc2 := 62) dX8_isTold_60 rfl rfl ?_
      refine x_sipush (pc2 := 65) dX8_isTold_62 rfl rfl ?_
      refine x_isub (pc2 := 66) dX8_isTold_65 rfl ?_
      obtain ⟨h19, k⟩ := k
      refine x_i2l (pc2 := 67) dX8_isTold_66 rfl h19 ?_
      exact x_drop (drp_k (drp_k (drp_k (drp_k (drp_k (drp_u drp_n)))))) k
set_option maxRecDepth 4000 in
theorem g_X8_isTold_70 {sc : List Int} {d : Nat} {m : Mem} {Q : Option AV → Mem → Prop} {l1 l2 l4 : Int} (k : S_X8_isTold sc d 152 [aR 62, aI l1, aI l2, aU, aI l4, aU] [] m Q) : S_X8_isTold sc d 70 [aR 62, aI l1, aI l2, aU, aI l4, aU] [] m Q := by
  refine x_goto (tgt := 152) dX8_isTold_70 (by decide) ?_
  exact k
set_option maxRecDepth 4000 in
theorem g_X8_isTold_91 {sc : List Int} {d : Nat} {m : Mem} {Q : Option AV → Mem → Prop} {l1 l2 l4 s1 : Int} (k : S_X8_isTold sc d 91 [aR 62, aI l1, aI l2, aU, aI l4, aU] [aJ s1, aR 62] m Q) : S_X8_isTold sc d 91 [aR 62, aI l1, aI l2, aU, aI l4, aU] [aJ s1, aR 62] m Q := by
  exact k
set_option maxRecDepth 4000 in
theorem g_X8_isTold_94 {sc : List Int} {d : Nat} {m : Mem} {Q : Option AV → Mem → Prop} {l1 l2 l4 : Int} (k : S_X8_isTold sc d 152 [aR 62, aI l1, aI l2, aU, aI l4, aU] [] m Q) : S_X8_isTold sc d 94 [aR 62, aI l1, aI l2, aU, aI l4, aU] [] m Q := by
  refine x_goto (tgt := 152) dX8_isTold_94 (by decide) ?_
  exact k
set_option maxRecDepth 4000 in
theorem g_X8_isTold_109 {sc : List Int} {d : Nat} {m : Mem} {Q : Option AV → Mem → Prop} {l1 l2 l4 : Int} (k : S_X8_isTold sc d 152 [aR 62, aI l1, aI l2, aU, aI l4, aU] [] m Q) : S_X8_isTold sc d 109 [aR 62, aI l1, aI l2, aU, aI l4, aU] [] m Q := by
  refine x_goto (tgt := 152) dX8_isTold_109 (by decide) ?_
  exact k
set_option maxRecDepth 4000 in
theorem g_X8_isTold_152 {sc : List Int} {d : Nat} {m : Mem} {Q : Option AV → Mem → Prop} {l1 l2 l4 : Int} (k : S_X8_isTold sc d 25 [aR 62, aI l1, aI l2, aU, aI (l4 + 1), aU] [] m Q) : S_X8_isTold sc d 152 [aR 62, aI l1, aI l2, aU, aI l4, aU] [] m Q := by
  refine x_iinc (pc2 := 155) (ls2 := [aR 62, aI l1, aI l2, aU, aI (l4 + 1), aU]) dX8_isTold_152 rfl rfl (by decide) rfl ?_
  refine x_goto (tgt := 25) dX8_isTold_155 (by decide) ?_
  exact k
theorem c_X8_isTold_67 {sc : List Int} {d d2 : Nat} {m m2 : Mem} {Q : Option AV → Mem → Prop} {l1 l2 l4 s1 : Int} (hM : C_X8_qPuts sc d2 [aR 62, aJ s1] m none m2) (hd : d2 + 1 ≤ d) (k : S_X8_isTold sc d 70 [aR 62, aI l1, aI l2, aU, aI l4, aU] [] m2 Q) : S_X8_isTold sc d 67 [aR 62, aI l1, aI l2, aU, aI l4, aU] [aJ s1, aR 62] m Q := x_callV (as := [aJ s1]) (rest := []) hM mk_X8_qPuts mv_X8_qPuts lk_X8_450 (Or.inl ⟨8, (RX8, TX8, 123), ic_62, Nat.le_of_ble_eq_true rfl, rfl, rfl⟩) hd rfl rfl (Nat.le_of_ble_eq_true rfl) dX8_isTold_67 rfl k
theorem c_X8_isTold_88 {sc : List Int} {d d2 : Nat} {m m2 : Mem} {Q : Option AV → Mem → Prop} {l1 l2 l4 s2 s3 : Int} {v : Int} (hM : C_X8_qPartOf sc d2 [aR 62, aI s2, aI s3] m (some (aJ v)) m2) (hd : d2 + 1 ≤ d) (k : S_X8_isTold sc d 91 [aR 62, aI l1, aI l2, aU, aI l4, aU] [aJ v, aR 62] m2 Q) : S_X8_isTold sc d 88 [aR 62, aI l1, aI l2, aU, aI l4, aU] [aI s3, aI s2, aR 62, aR 62] m Q := x_callV (as := [aI s2, aI s3]) (rest := [aR 62]) hM mk_X8_qPartOf mv_X8_qPartOf lk_X8_454 (Or.inl ⟨8, (RX8, TX8, 123), ic_62, Nat.le_of_ble_eq_true rfl, rfl, rfl⟩) hd rfl rfl (Nat.le_of_ble_eq_true rfl) dX8_isTold_88 rfl k
theorem c_X8_isTold_91 {sc : List Int} {d d2 : Nat} {m m2 : Mem} {Q : Option AV → Mem → Prop} {l1 l2 l4 s1 : Int} (hM : C_X8_qPuts sc d2 [aR 62, aJ s1] m none m2) (hd : d2 + 1 ≤ d) (k : S_X8_isTold sc d 94 [aR 62, aI l1, aI l2, aU, aI l4, aU] [] m2 Q) : S_X8_isTold sc d 91 [aR 62, aI l1, aI l2, aU, aI l4, aU] [aJ s1, aR 62] m Q := x_callV (as := [aJ s1]) (rest := []) hM mk_X8_qPuts mv_X8_qPuts lk_X8_450 (Or.inl ⟨8, (RX8, TX8, 123), ic_62, Nat.le_of_ble_eq_true rfl, rfl, rfl⟩) hd rfl rfl (Nat.le_of_ble_eq_true rfl) dX8_isTold_91 rfl k
theorem c_X8_isTold_106 {sc : List Int} {d d2 : Nat} {m m2 : Mem} {Q : Option AV → Mem → Prop} {l1 l2 l4 s1 : Int} (hM : C_X8_qPuts sc d2 [aR 62, aJ s1] m none m2) (hd : d2 + 1 ≤ d) (k : S_X8_isTold sc d 109 [aR 62, aI l1, aI l2, aU, aI l4, aU] [] m2 Q) : S_X8_isTold sc d 106 [aR 62, aI l1, aI l2, aU, aI l4, aU] [aJ s1, aR 62] m Q := x_callV (as := [aJ s1]) (rest := []) hM mk_X8_qPuts mv_X8_qPuts lk_X8_450 (Or.inl ⟨8, (RX8, TX8, 123), ic_62, Nat.le_of_ble_eq_true rfl, rfl, rfl⟩) hd rfl rfl (Nat.le_of_ble_eq_true rfl) dX8_isTold_106 rfl k
theorem c_X8_isTold_149 {sc : List Int} {d d2 : Nat} {m m2 : Mem} {Q : Option AV → Mem → Prop} {l1 l2 l4 s1 : Int} (hM : C_X8_qJoins sc d2 [aR 62, aI s1] m none m2) (hd : d2 + 1 ≤ d) (k : S_X8_isTold sc d 152 [aR 62, aI l1, aI l2, aU, aI l4, aU] [] m2 Q) : S_X8_isTold sc d 149 [aR 62, aI l1, aI l2, aU, aI l4, aU] [aI s1, aR 62] m Q := x_callV (as := [aI s1]) (rest := []) hM mk_X8_qJoins mv_X8_qJoins lk_X8_458 (Or.inl ⟨8, (RX8, TX8, 123), ic_62, Nat.le_of_ble_eq_true rfl, rfl, rfl⟩) hd rfl rfl (Nat.le_of_ble_eq_true rfl) dX8_isTold_149 rfl k
set_option maxRecDepth 4000 in
theorem g_X8_meantAt_0 {sc : List Int} {d : Nat} {m : Mem} {Q : Option AV → Mem → Prop} {l1 l2 : Int} (k : ((-2147483648 ≤ l2 ∧ l2 < 2147483648)) ∧ ((l2 ≤ 99) → (0 ≤ ((100 * l1) + l2))) ∧ ((l2 ≤ 99) → (((100 * l1) + l2) < 700)) ∧ Q (some (aJ (if l2 ≤ 99 then (m 106 ((100 * l1) + l2)) else 0 : Int))) m) : S_X8_meantAt sc d 0 [aR 62, aI l1, aI l2] [] m Q := by
  refine x_iload_n (pc2 := 1) dX8_meantAt_0 rfl rfl ?_
  refine x_bipush (pc2 := 3) dX8_meantAt_1 rfl rfl ?_
  obtain ⟨g2, k⟩ := k
  obtain ⟨g5, k⟩ := k
  obtain ⟨g6, k⟩ := k
  have kj : S_X8_meantAt sc d 21 [aR 62, aI l1, aI l2] [aJ (if l2 ≤ 99 then (m 106 ((100 * l1) + l2)) else 0 : Int)] m Q := by
    exact x_lreturn dX8_meantAt_21 rfl k
  have h7 := g2 
  refine x_icmp_le (tgt := 10) (pc2 := 6) dX8_meantAt_3 (by decide) rfl h7 (by decide) (fun c8 => ?_) (fun c8 => ?_)
  · skip
    refine x_aload_n (pc2 := 11) dX8_meantAt_10 rfl rfl ?_
    refine x_getf (pc2 := 14) (v := aR 106) fl_X8_145 ic_62 (vr_62_60 _) dX8_meantAt_11 rfl ?_
    refine x_bipush (pc2 := 16) dX8_meantAt_14 rfl rfl ?_
    refine x_iload_n (pc2 := 17) dX8_meantAt_16 rfl rfl ?_
    refine x_imul (pc2 := 18) dX8_meantAt_17 rfl ?_
    refine x_iload_n (pc2 := 19) dX8_meantAt_18 rfl rfl ?_
    refine x_iadd (pc2 := 20) dX8_meantAt_19 rfl ?_
    have h9 := g5 c8
    have h10 := g6 c8
    refine x_lald (pc2 := 21) ic_106 h9 (by rw [al_106]; exact h10) dX8_meantAt_20 rfl ?_
    exact x_topJ (v := (if l2 ≤ 99 then (m 106 ((100 * l1) + l2)) else 0 : Int)) (if_pos c8) kj
  · skip
    refine x_lconst (pc2 := 7) (v := 0) dX8_meantAt_6 rfl rfl ?_
    refine x_goto (tgt := 21) dX8_meantAt_7 (by decide) ?_
    exact x_topJ (v := (if l2 ≤ 99 then (m 106 ((100 * l1) + l2)) else 0 : Int)) (if_neg c8) kj
set_option maxRecDepth 4000 in
theorem g_X8_behindMended_0 {sc : List Int} {d : Nat} {m : Mem} {Q : Option AV → Mem → Prop} {l1 : Int} (k : S_X8_behindMended sc d 2 [aR 62, aI l1] [aI 1, aR 62] m Q) : S_X8_behindMended sc d 0 [aR 62, aI l1] [] m Q := by
  refine x_aload_n (pc2 := 1) dX8_behindMended_0 rfl rfl ?_
  refine x_iconst (pc2 := 2) dX8_behindMended_1 rfl ?_
  exact k
set_option maxRecDepth 4000 in
theorem g_X8_behindMended_5 {sc : List Int} {d : Nat} {m : Mem} {Q : Option AV → Mem → Prop} {l1 s0 : Int} (k : S_X8_behindMended sc d 7 [aR 62, aI l1] [aI 0, aR 62, aI s0] m Q) : S_X8_behindMended sc d 5 [aR 62, aI l1] [aI s0] m Q := by
  refine x_aload_n (pc2 := 6) dX8_behindMended_5 rfl rfl ?_
  refine x_iconst (pc2 := 7) dX8_behindMended_6 rfl ?_
  exact k
set_option maxRecDepth 4000 in
theorem g_X8_behindMended_10 {sc : List Int} {d : Nat} {m : Mem} {Q : Option AV → Mem → Prop} {l1 s0 s1 : Int} (k : (-2147483648 ≤ (s0 + s1) ∧ (s0 + s1) < 2147483648) ∧ (0 ≤ (l1 + 1)) ∧ ((l1 + 1) < 7) ∧ Q (some (aJ (((s0 + s1) * (m 104 (l1 + 1))) + (m 105 (l1 + 1))))) m) : S_X8_behindMended sc d 10 [aR 62, aI l1] [aI s1, aI s0] m Q := by
  refine x_iadd (pc2 := 11) dX8_behindMended_10 rfl ?_
  obtain ⟨h1, k⟩ := k
  refine x_i2l (pc2 := 12) dX8_behindMended_11 rfl h1 ?_
  refine x_aload_n (pc2 := 13) dX8_behindMended_12 rfl rfl ?_
  refine x_getf (pc2 := 16) (v := aR 104) fl_X8_139 ic_62 (vr_62_58 _) dX8_behindMended_13 rfl ?_
  refine x_iload_n (pc2 := 17) dX8_behindMended_16 rfl rfl ?_
  refine x_iconst (pc2 := 18) dX8_behindMended_17 rfl ?_
  refine x_iadd (pc2 := 19) dX8_behindMended_18 rfl ?_
  obtain ⟨h2, k⟩ := k
  obtain ⟨h3, k⟩ := k
  refine x_lald (pc2 := 20) ic_104 h2 (by rw [al_104]; exact h3) dX8_behindMended_19 rfl ?_
  refine x_lmul (pc2 := 21) dX8_behindMended_20 rfl ?_
  refine x_aload_n (pc2 := 22) dX8_behindMended_21 rfl rfl ?_
  refine x_getf (pc2 := 25) (v := aR 105) fl_X8_142 ic_62 (vr_62_59 _) dX8_behindMended_22 rfl ?_
  refine x_iload_n (pc2 := 26) dX8_behindMended_25 rfl rfl ?_
  refine x_iconst (pc2 := 27) dX8_behindMended_26 rfl ?_
  refine x_iadd (pc2 := 28) dX8_behindMended_27 rfl ?_
  refine x_lald (pc2 := 29) ic_105 h2 (by rw [al_105]; exact h3) dX8_behindMended_28 rfl ?_
  refine x_ladd (pc2 := 30) dX8_behindMended_29 rfl ?_
  exact x_lreturn dX8_behindMended_30 rfl k
theorem c_X8_behindMended_2 {sc : List Int} {d d2 : Nat} {m m2 : Mem} {Q : Option AV → Mem → Prop} {l1 s1 : Int} {v : Int} (hM : C_X8_settingOf sc d2 [aR 62, aI s1] m (some (aI v)) m2) (hd : d2 + 1 ≤ d) (k : S_X8_behindMended sc d 5 [aR 62, aI l1] [aI v] m2 Q) : S_X8_behindMended sc d 2 [aR 62, aI l1] [aI s1, aR 62] m Q := x_callV (as := [aI s1]) (rest := []) hM mk_X8_settingOf mv_X8_settingOf lk_X8_461 (Or.inl ⟨8, (RX8, TX8, 123), ic_62, Nat.le_of_ble_eq_true rfl, rfl, rfl⟩) hd rfl rfl (Nat.le_of_ble_eq_true rfl) dX8_behindMended_2 rfl k
theorem c_X8_behindMended_7 {sc : List Int} {d d2 : Nat} {m m2 : Mem} {Q : Option AV → Mem → Prop} {l1 s0 s2 : Int} {v : Int} (hM : C_X8_settingOf sc d2 [aR 62, aI s2] m (some (aI v)) m2) (hd : d2 + 1 ≤ d) (k : S_X8_behindMended sc d 10 [aR 62, aI l1] [aI v, aI s0] m2 Q) : S_X8_behindMended sc d 7 [aR 62, aI l1] [aI s2, aR 62, aI s0] m Q := x_callV (as := [aI s2]) (rest := [aI s0]) hM mk_X8_settingOf mv_X8_settingOf lk_X8_461 (Or.inl ⟨8, (RX8, TX8, 123), ic_62, Nat.le_of_ble_eq_true rfl, rfl, rfl⟩) hd rfl rfl (Nat.le_of_ble_eq_true rfl) dX8_behindMended_7 rfl k
set_option maxRecDepth 4000 in
theorem g_X8_unchanged_0 {sc : List Int} {d : Nat} {m : Mem} {Q : Option AV → Mem → Prop} {l1 l2 : Int} (k : S_X8_unchanged sc d 3 [aR 62, aI l1, aI l2, aU] [aI l1, aR 62, aI l2] m Q) : S_X8_unchanged sc d 0 [aR 62, aI l1, aI l2, aU] [] m Q := by
  refine x_iload_n (pc2 := 1) dX8_unchanged_0 rfl rfl ?_
  refine x_aload_n (pc2 := 2) dX8_unchanged_1 rfl rfl ?_
  refine x_iload_n (pc2 := 3) dX8_unchanged_2 rfl rfl ?_
  exact k
set_option maxRecDepth 4000 in
theorem g_X8_unchanged_6 {sc : List Int} {d : Nat} {m : Mem} {Q : Option AV → Mem → Prop} {l1 l2 s0 s1 : Int} (k : S_X8_unchanged sc d 16 [aR 62, aI l1, aI l2, aI (s0 + s1)] [aI (s0 + s1), aI (l1 + 1), aR 62, aJ 100] m Q) : S_X8_unchanged sc d 6 [aR 62, aI l1, aI l2, aU] [aI s1, aI s0] m Q := by
  refine x_iadd (pc2 := 7) dX8_unchanged_6 rfl ?_
  refine x_istore_n (pc2 := 8) (ls2 := [aR 62, aI l1, aI l2, aI (s0 + s1)]) dX8_unchanged_7 rfl (by decide) rfl ?_
  refine x_ldc2 (pc2 := 11) (x := 100) kc_X8_464 rfl dX8_unchanged_8 rfl ?_
  refine x_aload_n (pc2 := 12) dX8_unchanged_11 rfl rfl ?_
  refine x_iload_n (pc2 := 13) dX8_unchanged_12 rfl rfl ?_
  refine x_iconst (pc2 := 14) dX8_unchanged_13 rfl ?_
  refine x_iadd (pc2 := 15) dX8_unchanged_14 rfl ?_
  refine x_iload_n (pc2 := 16) dX8_unchanged_15 rfl rfl ?_
  exact k
set_option maxRecDepth 4000 in
theorem g_X8_unchanged_19 {sc : List Int} {d : Nat} {m : Mem} {Q : Option AV → Mem → Prop} {l1 l2 l3 s0 s1 : Int} (k : S_X8_unchanged sc d 21 [aR 62, aI l1, aU, aI l3] [aI l2, aR 62, aJ s1, aJ s0] m Q) : S_X8_unchanged sc d 19 [aR 62, aI l1, aI l2, aI l3] [aJ s1, aJ s0] m Q := by
  refine x_aload_n (pc2 := 20) dX8_unchanged_19 rfl rfl ?_
  refine x_iload_n (pc2 := 21) dX8_unchanged_20 rfl rfl ?_
  exact x_drop (drp_k (drp_k (drp_u (drp_k drp_n)))) k
set_option maxRecDepth 4000 in
theorem g_X8_unchanged_24 {sc : List Int} {d : Nat} {m : Mem} {Q : Option AV → Mem → Prop} {l1 l3 s0 s1 s2 : Int} (k : S_X8_unchanged sc d 26 [aR 62, aI l1, aU, aU] [aI l3, aR 62, aI s2, aJ s1, aJ s0] m Q) : S_X8_unchanged sc d 24 [aR 62, aI l1, aU, aI l3] [aI s2, aJ s1, aJ s0] m Q := by
  refine x_aload_n (pc2 := 25) dX8_unchanged_24 rfl rfl ?_
  refine x_iload_n (pc2 := 26) dX8_unchanged_25 rfl rfl ?_
  exact x_drop (drp_k (drp_k (drp_k (drp_u drp_n)))) k
set_option maxRecDepth 4000 in
theorem g_X8_unchanged_29 {sc : List Int} {d : Nat} {m : Mem} {Q : Option AV → Mem → Prop} {l1 s0 s1 s2 s3 : Int} (k : (-2147483648 ≤ (s2 - s3) ∧ (s2 - s3) < 2147483648) ∧ S_X8_unchanged sc d 33 [aR 62, aU, aU, aU] [aI l1, aR 62, aJ (s2 - s3), aJ s1, aJ s0] m Q) : S_X8_unchanged sc d 29 [aR 62, aI l1, aU, aU] [aI s3, aI s2, aJ s1, aJ s0] m Q := by
  refine x_isub (pc2 := 30) dX8_unchanged_29 rfl ?_
  obtain ⟨h1, k⟩ := k
  refine x_i2l (pc2 := 31) dX8_unchanged_30 rfl h1 ?_
  refine x_aload_n (pc2 := 32) dX8_unchanged_31 rfl rfl ?_
  refine x_iload_n (pc2 := 33) dX8_unchanged_32 rfl rfl ?_
  exact x_drop (drp_k (drp_u (drp_k (drp_k drp_n)))) k
set_option maxRecDepth 4000 in
theorem g_X8_unchanged_36 {sc : List Int} {d : Nat} {m : Mem} {Q : Option AV → Mem → Prop} {s0 s1 s2 s3 : Int} (k : Q (some (aJ (s0 * (s1 + (s2 * s3))))) m) : S_X8_unchanged sc d 36 [aR 62, aU, aU, aU] [aJ s3, aJ s2, aJ s1, aJ s0] m Q := by
  refine x_lmul (pc2 := 37) dX8_unchanged_36 rfl ?_
  refine x_ladd (pc2 := 38) dX8_unchanged_37 rfl ?_
  refine x_lmul (pc2 := 39) dX8_unchanged_38 rfl ?_
  exact x_lreturn dX8_unchanged_39 rfl k
theorem c_X8_unchanged_3 {sc : List Int} {d d2 : Nat} {m m2 : Mem} {Q : Option AV → Mem → Prop} {l1 l2 s0 s2 : Int} {v : Int} (hM : C_X8_takesOf sc d2 [aR 62, aI s2] m (some (aI v)) m2) (hd : d2 + 1 ≤ d) (k : S_X8_unchanged sc d 6 [aR 62, aI l1, aI l2, aU] [aI v, aI s0] m2 Q) : S_X8_unchanged sc d 3 [aR 62, aI l1, aI l2, aU] [aI s2, aR 62, aI s0] m Q := x_callV (as := [aI s2]) (rest := [aI s0]) hM mk_X8_takesOf mv_X8_takesOf lk_X8_434 (Or.inl ⟨8, (RX8, TX8, 123), ic_62, Nat.le_of_ble_eq_true rfl, rfl, rfl⟩) hd rfl rfl (Nat.le_of_ble_eq_true rfl) dX8_unchanged_3 rfl k
theorem c_X8_unchanged_16 {sc : List Int} {d d2 : Nat} {m m2 : Mem} {Q : Option AV → Mem → Prop} {l1 l2 l3 s0 s2 s3 : Int} {v : Int} (hM : C_X8_meantAt sc d2 [aR 62, aI s2, aI s3] m (some (aJ v)) m2) (hd : d2 + 1 ≤ d) (k : S_X8_unchanged sc d 19 [aR 62, aI l1, aI l2, aI l3] [aJ v, aJ s0] m2 Q) : S_X8_unchanged sc d 16 [aR 62, aI l1, aI l2, aI l3] [aI s3, aI s2, aR 62, aJ s0] m Q := x_callV (as := [aI s2, aI s3]) (rest := [aJ s0]) hM mk_X8_meantAt mv_X8_meantAt lk_X8_466 (Or.inl ⟨8, (RX8, TX8, 123), ic_62, Nat.le_of_ble_eq_true rfl, rfl, rfl⟩) hd rfl rfl (Nat.le_of_ble_eq_true rfl) dX8_unchanged_16 rfl k
theorem c_X8_unchanged_21 {sc : List Int} {d d2 : Nat} {m m2 : Mem} {Q : Option AV → Mem → Prop} {l1 l3 s0 s1 s3 : Int} {v : Int} (hM : C_X8_oddsFrom sc d2 [aR 62, aI s3] m (some (aI v)) m2) (hd : d2 + 1 ≤ d) (k : S_X8_unchanged sc d 24 [aR 62, aI l1, aU, aI l3] [aI v, aJ s1, aJ s0] m2 Q) : S_X8_unchanged sc d 21 [aR 62, aI l1, aU, aI l3] [aI s3, aR 62, aJ s1, aJ s0] m Q := x_callV (as := [aI s3]) (rest := [aJ s1, aJ s0]) hM mk_X8_oddsFrom mv_X8_oddsFrom lk_X8_469 (Or.inl ⟨8, (RX8, TX8, 123), ic_62, Nat.le_of_ble_eq_true rfl, rfl, rfl⟩) hd rfl rfl (Nat.le_of_ble_eq_true rfl) dX8_unchanged_21 rfl k
theorem c_X8_unchanged_26 {sc : List Int} {d d2 : Nat} {m m2 : Mem} {Q : Option AV → Mem → Prop} {l1 s0 s1 s2 s4 : Int} {v : Int} (hM : C_X8_oddsFrom sc d2 [aR 62, aI s4] m (some (aI v)) m2) (hd : d2 + 1 ≤ d) (k : S_X8_unchanged sc d 29 [aR 62, aI l1, aU, aU] [aI v, aI s2, aJ s1, aJ s0] m2 Q) : S_X8_unchanged sc d 26 [aR 62, aI l1, aU, aU] [aI s4, aR 62, aI s2, aJ s1, aJ s0] m Q := x_callV (as := [aI s4]) (rest := [aI s2, aJ s1, aJ s0]) hM mk_X8_oddsFrom mv_X8_oddsFrom lk_X8_469 (Or.inl ⟨8, (RX8, TX8, 123), ic_62, Nat.le_of_ble_eq_true rfl, rfl, rfl⟩) hd rfl rfl (Nat.le_of_ble_eq_true rfl) dX8_unchanged_26 rfl k
theorem c_X8_unchanged_33 {sc : List Int} {d d2 : Nat} {m m2 : Mem} {Q : Option AV → Mem → Prop} {s0 s1 s2 s4 : Int} {v : Int} (hM : C_X8_behindMended sc d2 [aR 62, aI s4] m (some (aJ v)) m2) (hd : d2 + 1 ≤ d) (k : S_X8_unchanged sc d 36 [aR 62, aU, aU, aU] [aJ v, aJ s2, aJ s1, aJ s0] m2 Q) : S_X8_unchanged sc d 33 [aR 62, aU, aU, aU] [aI s4, aR 62, aJ s2, aJ s1, aJ s0] m Q := x_callV (as := [aI s4]) (rest := [aJ s2, aJ s1, aJ s0]) hM mk_X8_behindMended mv_X8_behindMended lk_X8_472 (Or.inl ⟨8, (RX8, TX8, 123), ic_62, Nat.le_of_ble_eq_true rfl, rfl, rfl⟩) hd rfl rfl (Nat.le_of_ble_eq_true rfl) dX8_unchanged_33 rfl k
set_option maxRecDepth 4000 in
theorem g_X8_changed_0 {sc : List Int} {d : Nat} {m : Mem} {Q : Option AV → Mem → Prop} {l1 : Int} (k : S_X8_changed sc d 2 [aR 62, aI l1] [aI 0, aR 62] m Q) : S_X8_changed sc d 0 [aR 62, aI l1] [] m Q := by
  refine x_aload_n (pc2 := 1) dX8_changed_0 rfl rfl ?_
  refine x_iconst (pc2 := 2) dX8_changed_1 rfl ?_
  exact k
set_option maxRecDepth 4000 in
theorem g_X8_changed_5 {sc : List Int} {d : Nat} {m : Mem} {Q : Option AV → Mem → Prop} {l1 s0 : Int} (k : (-2147483648 ≤ s0 ∧ s0 < 2147483648) ∧ (0 ≤ l1) ∧ (l1 < 7) ∧ Q (some (aJ ((s0 * (m 104 l1)) + (m 105 l1)))) m) : S_X8_changed sc d 5 [aR 62, aI l1] [aI s0] m Q := by
  obtain ⟨h1, k⟩ := k
  refine x_i2l (pc2 := 6) dX8_changed_5 rfl h1 ?_
  refine x_aload_n (pc2 := 7) dX8_changed_6 rfl rfl ?_
  refine x_getf (pc2 := 10) (v := aR 104) fl_X8_139 ic_62 (vr_62_58 _) dX8_changed_7 rfl ?_
  refine x_iload_n (pc2 := 11) dX8_changed_10 rfl rfl ?_
  obtain ⟨h2, k⟩ := k
  obtain ⟨h3, k⟩ := k
  refine x_lald (pc2 := 12) ic_104 h2 (by rw [al_104]; exact h3) dX8_changed_11 rfl ?_
  refine x_lmul (pc2 := 13) dX8_changed_12 rfl ?_
  refine x_aload_n (pc2 := 14) dX8_changed_13 rfl rfl ?_
  refine x_getf (pc2 := 17) (v := aR 105) fl_X8_142 ic_62 (vr_62_59 _) dX8_changed_14 rfl ?_
  refine x_iload_n (pc2 := 18) dX8_changed_17 rfl rfl ?_
  refine x_lald (pc2 := 19) ic_105 h2 (by rw [al_105]; exact h3) dX8_changed_18 rfl ?_
  refine x_ladd (pc2 := 20) dX8_changed_19 rfl ?_
  exact x_lreturn dX8_changed_20 rfl k
theorem c_X8_changed_2 {sc : List Int} {d d2 : Nat} {m m2 : Mem} {Q : Option AV → Mem → Prop} {l1 s1 : Int} {v : Int} (hM : C_X8_settingOf sc d2 [aR 62, aI s1] m (some (aI v)) m2) (hd : d2 + 1 ≤ d) (k : S_X8_changed sc d 5 [aR 62, aI l1] [aI v] m2 Q) : S_X8_changed sc d 2 [aR 62, aI l1] [aI s1, aR 62] m Q := x_callV (as := [aI s1]) (rest := []) hM mk_X8_settingOf mv_X8_settingOf lk_X8_461 (Or.inl ⟨8, (RX8, TX8, 123), ic_62, Nat.le_of_ble_eq_true rfl, rfl, rfl⟩) hd rfl rfl (Nat.le_of_ble_eq_true rfl) dX8_changed_2 rfl k
set_option maxRecDepth 4000 in
theorem g_X8_looked_0 {sc : List Int} {d : Nat} {m : Mem} {Q : Option AV → Mem → Prop} {l1 l2 : Int} (k : S_X8_looked sc d 3 [aR 62, aI l1, aI l2, aU] [aI l1, aR 62, aI l2] m Q) : S_X8_looked sc d 0 [aR 62, aI l1, aI l2, aU] [] m Q := by
  refine x_iload_n (pc2 := 1) dX8_looked_0 rfl rfl ?_
  refine x_aload_n (pc2 := 2) dX8_looked_1 rfl rfl ?_
  refine x_iload_n (pc2 := 3) dX8_looked_2 rfl rfl ?_
  exact k
set_option maxRecDepth 4000 in
theorem g_X8_looked_6 {sc : List Int} {d : Nat} {m : Mem} {Q : Option AV → Mem → Prop} {l1 l2 s0 s1 : Int} (k : S_X8_looked sc d 10 [aR 62, aI l1, aI l2, aI (s0 + s1)] [aI l2, aR 62] m Q) : S_X8_looked sc d 6 [aR 62, aI l1, aI l2, aU] [aI s1, aI s0] m Q := by
  refine x_iadd (pc2 := 7) dX8_looked_6 rfl ?_
  refine x_istore_n (pc2 := 8) (ls2 := [aR 62, aI l1, aI l2, aI (s0 + s1)]) dX8_looked_7 rfl (by decide) rfl ?_
  refine x_aload_n (pc2 := 9) dX8_looked_8 rfl rfl ?_
  refine x_iload_n (pc2 := 10) dX8_looked_9 rfl rfl ?_
  exact k
set_option maxRecDepth 4000 in
theorem g_X8_looked_13 {sc : List Int} {d : Nat} {m : Mem} {Q : Option AV → Mem → Prop} {l1 l2 l3 s0 : Int} (k : S_X8_looked sc d 15 [aR 62, aI l1, aI l2, aI l3] [aI 2, aR 62, aI s0] m Q) : S_X8_looked sc d 13 [aR 62, aI l1, aI l2, aI l3] [aI s0] m Q := by
  refine x_aload_n (pc2 := 14) dX8_looked_13 rfl rfl ?_
  refine x_iconst (pc2 := 15) dX8_looked_14 rfl ?_
  exact k
set_option maxRecDepth 4000 in
theorem g_X8_looked_18 {sc : List Int} {d : Nat} {m : Mem} {Q : Option AV → Mem → Prop} {l1 l2 l3 s0 s1 : Int} (k : (-2147483648 ≤ (s0 * s1) ∧ (s0 * s1) < 2147483648) ∧ (0 ≤ l1) ∧ (l1 < 7) ∧ S_X8_looked sc d 35 [aR 62, aI l1, aI l2, aI l3] [aI l3, aI (l1 + 1), aR 62, aJ 100, aJ ((s0 * s1) * (m 104 l1))] m Q) : S_X8_looked sc d 18 [aR 62, aI l1, aI l2, aI l3] [aI s1, aI s0] m Q := by
  refine x_imul (pc2 := 19) dX8_looked_18 rfl ?_
  obtain ⟨h1, k⟩ := k
  refine x_i2l (pc2 := 20) dX8_looked_19 rfl h1 ?_
  refine x_aload_n (pc2 := 21) dX8_looked_20 rfl rfl ?_
  refine x_getf (pc2 := 24) (v := aR 104) fl_X8_139 ic_62 (vr_62_58 _) dX8_looked_21 rfl ?_
  refine x_iload_n (pc2 := 25) dX8_looked_24 rfl rfl ?_
  obtain ⟨h2, k⟩ := k
  obtain ⟨h3, k⟩ := k
  refine x_lald (pc2 := 26) ic_104 h2 (by rw [al_104]; exact h3) dX8_looked_25 rfl ?_
  refine x_lmul (pc2 := 27) dX8_looked_26 rfl ?_
  refine x_ldc2 (pc2 := 30) (x := 100) kc_X8_464 rfl dX8_looked_27 rfl ?_
  refine x_aload_n (pc2 := 31) dX8_looked_30 rfl rfl ?_
  refine x_iload_n (pc2 := 32) dX8_looked_31 rfl rfl ?_
  refine x_iconst (pc2 := 33) dX8_looked_32 rfl ?_
  refine x_iadd (pc2 := 34) dX8_looked_33 rfl ?_
  refine x_iload_n (pc2 := 35) dX8_looked_34 rfl rfl ?_
  exact k
set_option maxRecDepth 4000 in
theorem g_X8_looked_38 {sc : List Int} {d : Nat} {m : Mem} {Q : Option AV → Mem → Prop} {l1 l2 l3 s0 s1 s2 : Int} (k : S_X8_looked sc d 42 [aR 62, aI l1, aU, aI l3] [aI l2, aR 62, aJ (s0 + (s1 * s2))] m Q) : S_X8_looked sc d 38 [aR 62, aI l1, aI l2, aI l3] [aJ s2, aJ s1, aJ s0] m Q := by
  refine x_lmul (pc2 := 39) dX8_looked_38 rfl ?_
  refine x_ladd (pc2 := 40) dX8_looked_39 rfl ?_
  refine x_aload_n (pc2 := 41) dX8_looked_40 rfl rfl ?_
  refine x_iload_n (pc2 := 42) dX8_looked_41 rfl rfl ?_
  exact x_drop (drp_k (drp_k (drp_u (drp_k drp_n)))) k
set_option maxRecDepth 4000 in
theorem g_X8_looked_45 {sc : List Int} {d : Nat} {m : Mem} {Q : Option AV → Mem → Prop} {l1 l3 s0 s1 : Int} (k : S_X8_looked sc d 47 [aR 62, aI l1, aU, aU] [aI l3, aR 62, aI s1, aJ s0] m Q) : S_X8_looked sc d 45 [aR 62, aI l1, aU, aI l3] [aI s1, aJ s0] m Q := by
  refine x_aload_n (pc2 := 46) dX8_looked_45 rfl rfl ?_
  refine x_iload_n (pc2 := 47) dX8_looked_46 rfl rfl ?_
  exact x_drop (drp_k (drp_k (drp_k (drp_u drp_n)))) k
set_option maxRecDepth 4000 in
theorem g_X8_looked_50 {sc : List Int} {d : Nat} {m : Mem} {Q : Option AV → Mem → Prop} {l1 s0 s1 s2 : Int} (k : (-2147483648 ≤ (s1 - s2) ∧ (s1 - s2) < 2147483648) ∧ S_X8_looked sc d 54 [aR 62, aU, aU, aU] [aI l1, aR 62, aJ (s1 - s2), aJ s0] m Q) : S_X8_looked sc d 50 [aR 62, aI l1, aU, aU] [aI s2, aI s1, aJ s0] m Q := by
  refine x_isub (pc2 := 51) dX8_looked_50 rfl ?_
  obtain ⟨h1, k⟩ := k
  refine x_i2l (pc2 := 52) dX8_looked_51 rfl h1 ?_
  refine x_aload_n (pc2 := 53) dX8_looked_52 rfl rfl ?_
  refine x_iload_n (pc2 := 54) dX8_looked_53 rfl rfl ?_
  exact x_drop (drp_k (drp_u (drp_k (drp_k drp_n)))) k
set_option maxRecDepth 4000 in
theorem g_X8_looked_57 {sc : List Int} {d : Nat} {m : Mem} {Q : Option AV → Mem → Prop} {s0 s1 s2 : Int} (k : Q (some (aJ (s0 + (s1 * s2)))) m) : S_X8_looked sc d 57 [aR 62, aU, aU, aU] [aJ s2, aJ s1, aJ s0] m Q := by
  refine x_lmul (pc2 := 58) dX8_looked_57 rfl ?_
  refine x_ladd (pc2 := 59) dX8_looked_58 rfl ?_
  exact x_lreturn dX8_looked_59 rfl k
theorem c_X8_looked_3 {sc : List Int} {d d2 : Nat} {m m2 : Mem} {Q : Option AV → Mem → Prop} {l1 l2 s0 s2 : Int} {v : Int} (hM : C_X8_takesOf sc d2 [aR 62, aI s2] m (some (aI v)) m2) (hd : d2 + 1 ≤ d) (k : S_X8_looked sc d 6 [aR 62, aI l1, aI l2, aU] [aI v, aI s0] m2 Q) : S_X8_looked sc d 3 [aR 62, aI l1, aI l2, aU] [aI s2, aR 62, aI s0] m Q := x_callV (as := [aI s2]) (rest := [aI s0]) hM mk_X8_takesOf mv_X8_takesOf lk_X8_434 (Or.inl ⟨8, (RX8, TX8, 123), ic_62, Nat.le_of_ble_eq_true rfl, rfl, rfl⟩) hd rfl rfl (Nat.le_of_ble_eq_true rfl) dX8_looked_3 rfl k
theorem c_X8_looked_10 {sc : List Int} {d d2 : Nat} {m m2 : Mem} {Q : Option AV → Mem → Prop} {l1 l2 l3 s1 : Int} {v : Int} (hM : C_X8_oddsFrom sc d2 [aR 62, aI s1] m (some (aI v)) m2) (hd : d2 + 1 ≤ d) (k : S_X8_looked sc d 13 [aR 62, aI l1, aI l2, aI l3] [aI v] m2 Q) : S_X8_looked sc d 10 [aR 62, aI l1, aI l2, aI l3] [aI s1, aR 62] m Q := x_callV (as := [aI s1]) (rest := []) hM mk_X8_oddsFrom mv_X8_oddsFrom lk_X8_469 (Or.inl ⟨8, (RX8, TX8, 123), ic_62, Nat.le_of_ble_eq_true rfl, rfl, rfl⟩) hd rfl rfl (Nat.le_of_ble_eq_true rfl) dX8_looked_10 rfl k
theorem c_X8_looked_15 {sc : List Int} {d d2 : Nat} {m m2 : Mem} {Q : Option AV → Mem → Prop} {l1 l2 l3 s0 s2 : Int} {v : Int} (hM : C_X8_settingOf sc d2 [aR 62, aI s2] m (some (aI v)) m2) (hd : d2 + 1 ≤ d) (k : S_X8_looked sc d 18 [aR 62, aI l1, aI l2, aI l3] [aI v, aI s0] m2 Q) : S_X8_looked sc d 15 [aR 62, aI l1, aI l2, aI l3] [aI s2, aR 62, aI s0] m Q := x_callV (as := [aI s2]) (rest := [aI s0]) hM mk_X8_settingOf mv_X8_settingOf lk_X8_461 (Or.inl ⟨8, (RX8, TX8, 123), ic_62, Nat.le_of_ble_eq_true rfl, rfl, rfl⟩) hd rfl rfl (Nat.le_of_ble_eq_true rfl) dX8_looked_15 rfl k
theorem c_X8_looked_35 {sc : List Int} {d d2 : Nat} {m m2 : Mem} {Q : Option AV → Mem → Prop} {l1 l2 l3 s0 s1 s3 s4 : Int} {v : Int} (hM : C_X8_meantAt sc d2 [aR 62, aI s3, aI s4] m (some (aJ v)) m2) (hd : d2 + 1 ≤ d) (k : S_X8_looked sc d 38 [aR 62, aI l1, aI l2, aI l3] [aJ v, aJ s1, aJ s0] m2 Q) : S_X8_looked sc d 35 [aR 62, aI l1, aI l2, aI l3] [aI s4, aI s3, aR 62, aJ s1, aJ s0] m Q := x_callV (as := [aI s3, aI s4]) (rest := [aJ s1, aJ s0]) hM mk_X8_meantAt mv_X8_meantAt lk_X8_466 (Or.inl ⟨8, (RX8, TX8, 123), ic_62, Nat.le_of_ble_eq_true rfl, rfl, rfl⟩) hd rfl rfl (Nat.le_of_ble_eq_true rfl) dX8_looked_35 rfl k
theorem c_X8_looked_42 {sc : List Int} {d d2 : Nat} {m m2 : Mem} {Q : Option AV → Mem → Prop} {l1 l3 s0 s2 : Int} {v : Int} (hM : C_X8_oddsFrom sc d2 [aR 62, aI s2] m (some (aI v)) m2) (hd : d2 + 1 ≤ d) (k : S_X8_looked sc d 45 [aR 62, aI l1, aU, aI l3] [aI v, aJ s0] m2 Q) : S_X8_looked sc d 42 [aR 62, aI l1, aU, aI l3] [aI s2, aR 62, aJ s0] m Q := x_callV (as := [aI s2]) (rest := [aJ s0]) hM mk_X8_oddsFrom mv_X8_oddsFrom lk_X8_469 (Or.inl ⟨8, (RX8, TX8, 123), ic_62, Nat.le_of_ble_eq_true rfl, rfl, rfl⟩) hd rfl rfl (Nat.le_of_ble_eq_true rfl) dX8_looked_42 rfl k
theorem c_X8_looked_47 {sc : List Int} {d d2 : Nat} {m m2 : Mem} {Q : Option AV → Mem → Prop} {l1 s0 s1 s3 : Int} {v : Int} (hM : C_X8_oddsFrom sc d2 [aR 62, aI s3] m (some (aI v)) m2) (hd : d2 + 1 ≤ d) (k : S_X8_looked sc d 50 [aR 62, aI l1, aU, aU] [aI v, aI s1, aJ s0] m2 Q) : S_X8_looked sc d 47 [aR 62, aI l1, aU, aU] [aI s3, aR 62, aI s1, aJ s0] m Q := x_callV (as := [aI s3]) (rest := [aI s1, aJ s0]) hM mk_X8_oddsFrom mv_X8_oddsFrom lk_X8_469 (Or.inl ⟨8, (RX8, TX8, 123), ic_62, Nat.le_of_ble_eq_true rfl, rfl, rfl⟩) hd rfl rfl (Nat.le_of_ble_eq_true rfl) dX8_looked_47 rfl k
theorem c_X8_looked_54 {sc : List Int} {d d2 : Nat} {m m2 : Mem} {Q : Option AV → Mem → Prop} {s0 s1 s3 : Int} {v : Int} (hM : C_X8_changed sc d2 [aR 62, aI s3] m (some (aJ v)) m2) (hd : d2 + 1 ≤ d) (k : S_X8_looked sc d 57 [aR 62, aU, aU, aU] [aJ v, aJ s1, aJ s0] m2 Q) : S_X8_looked sc d 54 [aR 62, aU, aU, aU] [aI s3, aR 62, aJ s1, aJ s0] m Q := x_callV (as := [aI s3]) (rest := [aJ s1, aJ s0]) hM mk_X8_changed mv_X8_changed lk_X8_476 (Or.inl ⟨8, (RX8, TX8, 123), ic_62, Nat.le_of_ble_eq_true rfl, rfl, rfl⟩) hd rfl rfl (Nat.le_of_ble_eq_true rfl) dX8_looked_54 rfl k
set_option maxRecDepth 4000 in
theorem g_X8_chosen_0 {sc : List Int} {d : Nat} {m : Mem} {Q : Option AV → Mem → Prop} {l1 l2 l3 : Int} (k : S_X8_chosen sc d 3 [aR 62, aI l1, aI l2, aI l3, aU, aU, aU, aU, aU, aU] [aI l3, aI l2, aR 62] m Q) : S_X8_chosen sc d 0 [aR 62, aI l1, aI l2, aI l3, aU, aU, aU, aU, aU, aU] [] m Q := by
  refine x_aload_n (pc2 := 1) dX8_chosen_0 rfl rfl ?_
  refine x_iload_n (pc2 := 2) dX8_chosen_1 rfl rfl ?_
  refine x_iload_n (pc2 := 3) dX8_chosen_2 rfl rfl ?_
  exact k
set_option maxRecDepth 4000 in
theorem g_X8_chosen_6 {sc : List Int} {d : Nat} {m : Mem} {Q : Option AV → Mem → Prop} {l1 l2 l3 s0 : Int} (k : S_X8_chosen sc d 10 [aR 62, aI l1, aI l2, aI l3, aJ s0, aU, aU, aU, aU, aU] [aI l3, aR 62] m Q) : S_X8_chosen sc d 6 [aR 62, aI l1, aI l2, aI l3, aU, aU, aU, aU, aU, aU] [aJ s0] m Q := by
  refine x_lstore (pc2 := 8) (ls2 := [aR 62, aI l1, aI l2, aI l3, aJ s0, aU, aU, aU, aU, aU]) dX8_chosen_6 rfl (by decide) rfl ?_
  refine x_aload_n (pc2 := 9) dX8_chosen_8 rfl rfl ?_
  refine x_iload_n (pc2 := 10) dX8_chosen_9 rfl rfl ?_
  exact k
set_option maxRecDepth 4000 in
theorem g_X8_chosen_13 {sc : List Int} {d : Nat} {m : Mem} {Q : Option AV → Mem → Prop} {l1 l2 l3 l4 s0 : Int} (k : (-2147483648 ≤ s0 ∧ s0 < 2147483648) ∧ S_X8_chosen sc d 16 [aR 62, aI l1, aI l2, aI l3, aJ l4, aU, aU, aU, aU, aU] [aI l2, aR 62, aJ s0] m Q) : S_X8_chosen sc d 13 [aR 62, aI l1, aI l2, aI l3, aJ l4, aU, aU, aU, aU, aU] [aI s0] m Q := by
  obtain ⟨h1, k⟩ := k
  refine x_i2l (pc2 := 14) dX8_chosen_13 rfl h1 ?_
  refine x_aload_n (pc2 := 15) dX8_chosen_14 rfl rfl ?_
  refine x_iload_n (pc2 := 16) dX8_chosen_15 rfl rfl ?_
  exact k
set_option maxRecDepth 4000 in
theorem g_X8_chosen_19 {sc : List Int} {d : Nat} {m : Mem} {Q : Option AV → Mem → Prop} {l1 l2 l3 l4 s0 s1 : Int} (k : (-2147483648 ≤ l1 ∧ l1 < 2147483648) ∧ ((l1 ≠ 2) → (((l1 = 3) → (((-9223372036854775808 ≤ (s0 * s1) ∧ (s0 * s1) < 9223372036854775808)) ∧ ((-9223372036854775808 ≤ l4 ∧ l4 < 9223372036854775808)) ∧ ((l1 ≠ 100) → (Q (some (aJ (if l4 ≤ (s0 * s1) then l4 else (s0 * s1) : Int))) m)) ∧ (¬ (l1 ≠ 100) → (S_X8_chosen sc d 71 [aR 62, aU, aI l2, aI l3, aU, aU, aU, aU, aJ (if l4 ≤ (s0 * s1) then l4 else (s0 * s1) : Int), aU] [aI l3, aI l2, aR 62] m Q)))) ∧ (¬ (l1 = 3) → (((l1 ≠ 100) → (S_X8_chosen sc d 96 [aR 62, aU, aU, aU, aJ l4, aU, aJ (s0 * s1), aU, aU, aU] [aI l3, aI l2, aI l1, aR 62] m Q)) ∧ (¬ (l1 ≠ 100) → (((-9223372036854775808 ≤ (s0 * s1) ∧ (s0 * s1) < 9223372036854775808)) ∧ ((-9223372036854775808 ≤ l4 ∧ l4 < 9223372036854775808)) ∧ ((l1 ≠ 100) → (Q (some (aJ (if l4 ≤ (s0 * s1) then l4 else (s0 * s1) : Int))) m)) ∧ (¬ (l1 ≠ 100) → (S_X8_chosen sc d 71 [aR 62, aU, aI l2, aI l3, aU, aU, aU, aU, aJ (if l4 ≤ (s0 * s1) then l4 else (s0 * s1) : Int), aU] [aI l3, aI l2, aR 62] m Q)))))))) ∧ (¬ (l1 ≠ 2) → (S_X8_chosen sc d 30 [aR 62, aU, aU, aU, aU, aU, aU, aU, aU, aU] [aI l3, aI l2, aR 62] m Q))) : S_X8_chosen sc d 19 [aR 62, aI l1, aI l2, aI l3, aJ l4, aU, aU, aU, aU, aU] [aJ s1, aJ s0] m Q := by
  refine x_lmul (pc2 := 20) dX8_chosen_19 rfl ?_
  refine x_lstore (pc2 := 22) (ls2 := [aR 62, aI l1, aI l2, aI l3, aJ l4, aU, aJ (s0 * s1), aU, aU, aU]) dX8_chosen_20 rfl (by decide) rfl ?_
  refine x_iload_n (pc2 := 23) dX8_chosen_22 rfl rfl ?_
  refine x_iconst (pc2 := 24) dX8_chosen_23 rfl ?_
  obtain ⟨h1, k⟩ := k
  obtain ⟨k1, k2⟩ := k
  refine x_icmp_ne (tgt := 34) (pc2 := 27) dX8_chosen_24 (by decide) rfl h1 (by decide) (fun c2 => ?_) (fun c2 => ?_)
  · replace k := k1 c2
    refine x_iload_n (pc2 := 35) dX8_chosen_34 rfl rfl ?_
    refine x_iconst (pc2 := 36) dX8_chosen_35 rfl ?_
    obtain ⟨k1, k2⟩ := k
    refine x_icmp_eq (tgt := 45) (pc2 := 39) dX8_chosen_36 (by decide) rfl h1 (by decide) (fun c3 => ?_) (fun c3 => ?_)
    · replace k := k1 c3
      refine x_lload (pc2 := 47) dX8_chosen_45 rfl rfl ?_
      refine x_lload (pc2 := 49) dX8_chosen_47 rfl rfl ?_
      obtain ⟨g6, k⟩ := k
      obtain ⟨g7, k⟩ := k
      have kj : S_X8_chosen sc d 60 [aR 62, aI l1, aI l2, aI l3, aJ l4, aU, aJ (s0 * s1), aU, aU, aU] [aJ (if l4 ≤ (s0 * s1) then l4 else (s0 * s1) : Int)] m Q := by
        refine x_lstore (pc2 := 62) (ls2 := [aR 62, aI l1, aI l2, aI l3, aJ l4, aU, aJ (s0 * s1), aU, aJ (if l4 ≤ (s0 * s1) then l4 else (s0 * s1) : Int), aU]) dX8_chosen_60 rfl (by decide) rfl ?_
        refine x_iload_n (pc2 := 63) dX8_chosen_62 rfl rfl ?_
        refine x_bipush (pc2 := 65) dX8_chosen_63 rfl rfl ?_
        obtain ⟨k1, k2⟩ := k
        refine x_icmp_ne (tgt := 89) (pc2 := 68) dX8_chosen_65 (by decide) rfl h1 (by decide) (fun c8 => ?_) (fun c8 => ?_)
        · replace k := k1 c8
          refine x_lload (pc2 := 91) dX8_chosen_89 rfl rfl ?_
          exact x_lreturn dX8_chosen_91 rfl k
        · replace k := k2 c8
          refine x_aload_n (pc2 := 69) dX8_chosen_68 rfl rfl ?_
          refine x_iload_n (pc2 := 70) dX8_chosen_69 rfl rfl ?_
          refine x_iload_n (pc2 := 71) dX8_chosen_70 rfl rfl ?_
          exact x_drop (drp_k (drp_u (drp_k (drp_k (drp_u (drp_k (drp_u (drp_k (drp_k (drp_k drp_n)))))))))) k
      have h9 := g6 
      have h10 := g7 
      refine x_lc_ge (tgt := 58) (pc2 := 53) dX8_chosen_49 dX8_chosen_50 (by decide) rfl h9 h10 (fun c11 => ?_) (fun c11 => ?_)
      · skip
        refine x_lload (pc2 := 60) dX8_chosen_58 rfl rfl ?_
        exact x_topJ (v := (if l4 ≤ (s0 * s1) then l4 else (s0 * s1) : Int)) (if_pos c11) kj
      · skip
        refine x_lload (pc2 := 55) dX8_chosen_53 rfl rfl ?_
        refine x_goto (tgt := 60) dX8_chosen_55 (by decide) ?_
        exact x_topJ (v := (if l4 ≤ (s0 * s1) then l4 else (s0 * s1) : Int)) (if_neg c11) kj
    · replace k := k2 c3
      refine x_iload_n (pc2 := 40) dX8_chosen_39 rfl rfl ?_
      refine x_bipush (pc2 := 42) dX8_chosen_40 rfl rfl ?_
      obtain ⟨k1, k2⟩ := k
      refine x_icmp_ne (tgt := 92) (pc2 := 45) dX8_chosen_42 (by decide) rfl h1 (by decide) (fun c12 => ?_) (fun c12 => ?_)
      · replace k := k1 c12
        refine x_aload_n (pc2 := 93) dX8_chosen_92 rfl rfl ?_
        refine x_iload_n (pc2 := 94) dX8_chosen_93 rfl rfl ?_
        refine x_iload_n (pc2 := 95) dX8_chosen_94 rfl rfl ?_
        refine x_iload_n (pc2 := 96) dX8_chosen_95 rfl rfl ?_
        exact x_drop (drp_k (drp_u (drp_u (drp_u (drp_k (drp_k (drp_k (drp_k (drp_k (drp_k drp_n)))))))))) k
      · replace k := k2 c12
        refine x_lload (pc2 := 47) dX8_chosen_45 rfl rfl ?_
        refine x_lload (pc2 := 49) dX8_chosen_47 rfl rfl ?_
        obtain ⟨g15, k⟩ := k
        obtain ⟨g16, k⟩ := k
        have kj : S_X8_chosen sc d 60 [aR 62, aI l1, aI l2, aI l3, aJ l4, aU, aJ (s0 * s1), aU, aU, aU] [aJ (if l4 ≤ (s0 * s1) then l4 else (s0 * s1) : Int)] m Q := by
          refine x_lstore (pc2 := 62) (ls2 := [aR 62, aI l1, aI l2, aI l3, aJ l4, aU, aJ (s0 * s1), aU, aJ (if l4 ≤ (s0 * s1) then l4 else (s0 * s1) : Int), aU]) dX8_chosen_60 rfl (by decide) rfl ?_
          refine x_iload_n (pc2 := 63) dX8_chosen_62 rfl rfl ?_
          refine x_bipush (pc2 := 65) dX8_chosen_63 rfl rfl ?_
          obtain ⟨k1, k2⟩ := k
          refine x_icmp_ne (tgt := 89) (pc2 := 68) dX8_chosen_65 (by decide) rfl h1 (by decide) (fun c17 => ?_) (fun c17 => ?_)
          · replace k := k1 c17
            refine x_lload (pc2 := 91) dX8_chosen_89 rfl rfl ?_
            exact x_lreturn dX8_chosen_91 rfl k
          · replace k := k2 c17
            refine x_aload_n (pc2 := 69) dX8_chosen_68 rfl rfl ?_
            refine x_iload_n (pc2 := 70) dX8_chosen_69 rfl rfl ?_
            refine x_iload_n (pc2 := 71) dX8_chosen_70 rfl rfl ?_
            exact x_drop (drp_k (drp_u (drp_k (drp_k (drp_u (drp_k (drp_u (drp_k (drp_k (drp_k drp_n)))))))))) k
        have h18 := g15 
        have h19 := g16 
        refine x_lc_ge (tgt := 58) (pc2 := 53) dX8_chosen_49 dX8_chosen_50 (by decide) rfl h18 h19 (fun c20 => ?_) (fun c20 => ?_)
        · skip
          refine x_lload (pc2 := 60) dX8_chosen_58 rfl rfl ?_
          exact x_topJ (v := (if l4 ≤ (s0 * s1) then l4 else (s0 * s1) : Int)) (if_pos c20) kj
        · skip
          refine x_lload (pc2 := 55) dX8_chosen_53 rfl rfl ?_
          refine x_goto (tgt := 60) dX8_chosen_55 (by decide) ?_
          exact x_topJ (v := (if l4 ≤ (s0 * s1) then l4 else (s0 * s1) : Int)) (if_neg c20) kj
  · replace k := k2 c2
    refine x_aload_n (pc2 := 28) dX8_chosen_27 rfl rfl ?_
    refine x_iload_n (pc2 := 29) dX8_chosen_28 rfl rfl ?_
    refine x_iload_n (pc2 := 30) dX8_chosen_29 rfl rfl ?_
    exact x_drop (drp_k (drp_u (drp_u (drp_u (drp_u (drp_k (drp_u (drp_k (drp_k (drp_k drp_n)))))))))) k
set_option maxRecDepth 4000 in
theorem g_X8_chosen_33 {sc : List Int} {d : Nat} {m : Mem} {Q : Option AV → Mem → Prop} {s0 : Int} (k : Q (some (aJ s0)) m) : S_X8_chosen sc d 33 [aR 62, aU, aU, aU, aU, aU, aU, aU, aU, aU] [aJ s0] m Q := by
  exact x_lreturn dX8_chosen_33 rfl k
set_option maxRecDepth 4000 in
theorem g_X8_chosen_74 {sc : List Int} {d : Nat} {m : Mem} {Q : Option AV → Mem → Prop} {l2 l3 l8 s0 : Int} (k : (-9223372036854775808 ≤ s0 ∧ s0 < 9223372036854775808) ∧ (-9223372036854775808 ≤ l8 ∧ l8 < 9223372036854775808) ∧ ((l8 ≤ s0) → (Q (some (aJ l8)) m)) ∧ (¬ (l8 ≤ s0) → (S_X8_chosen sc d 83 [aR 62, aU, aU, aU, aU, aU, aU, aU, aU, aU] [aI l3, aI l2, aR 62] m Q))) : S_X8_chosen sc d 74 [aR 62, aU, aI l2, aI l3, aU, aU, aU, aU, aJ l8, aU] [aJ s0] m Q := by
  refine x_lload (pc2 := 76) dX8_chosen_74 rfl rfl ?_
  obtain ⟨h1, k⟩ := k
  obtain ⟨h2, k⟩ := k
  obtain ⟨k1, k2⟩ := k
  refine x_lc_ge (tgt := 89) (pc2 := 80) dX8_chosen_76 dX8_chosen_77 (by decide) rfl h1 h2 (fun c3 => ?_) (fun c3 => ?_)
  · replace k := k1 c3
    refine x_lload (pc2 := 91) dX8_chosen_89 rfl rfl ?_
    exact x_lreturn dX8_chosen_91 rfl k
  · replace k := k2 c3
    refine x_aload_n (pc2 := 81) dX8_chosen_80 rfl rfl ?_
    refine x_iload_n (pc2 := 82) dX8_chosen_81 rfl rfl ?_
    refine x_iload_n (pc2 := 83) dX8_chosen_82 rfl rfl ?_
    exact x_drop (drp_k (drp_k (drp_u (drp_u (drp_k (drp_k (drp_k (drp_k (drp_u (drp_k drp_n)))))))))) k
set_option maxRecDepth 4000 in
theorem g_X8_chosen_86 {sc : List Int} {d : Nat} {m : Mem} {Q : Option AV → Mem → Prop} {s0 : Int} (k : Q (some (aJ s0)) m) : S_X8_chosen sc d 86 [aR 62, aU, aU, aU, aU, aU, aU, aU, aU, aU] [aJ s0] m Q := by
  refine x_goto (tgt := 91) dX8_chosen_86 (by decide) ?_
  exact x_lreturn dX8_chosen_91 rfl k
set_option maxRecDepth 4000 in
theorem g_X8_chosen_99 {sc : List Int} {d : Nat} {m : Mem} {Q : Option AV → Mem → Prop} {l4 l6 s0 : Int} (k : ((-2147483648 ≤ s0 ∧ s0 < 2147483648)) ∧ Q (some (aJ (if s0 = 0 then l4 else l6 : Int))) m) : S_X8_chosen sc d 99 [aR 62, aU, aU, aU, aJ l4, aU, aJ l6, aU, aU, aU] [aI s0] m Q := by
  obtain ⟨g2, k⟩ := k
  have kj : S_X8_chosen sc d 109 [aR 62, aU, aU, aU, aJ l4, aU, aJ l6, aU, aU, aU] [aJ (if s0 = 0 then l4 else l6 : Int)] m Q := by
    exact x_lreturn dX8_chosen_109 rfl k
  have h3 := g2 
  refine x_if_eq (tgt := 107) (pc2 := 102) dX8_chosen_99 (by decide) rfl h3 (fun c4 => ?_) (fun c4 => ?_)
  · skip
    refine x_lload (pc2 := 109) dX8_chosen_107 rfl rfl ?_
    exact x_topJ (v := (if s0 = 0 then l4 else l6 : Int)) (if_pos c4) kj
  · skip
    refine x_lload (pc2 := 104) dX8_chosen_102 rfl rfl ?_
    refine x_goto (tgt := 109) dX8_chosen_104 (by decide) ?_
    exact x_topJ (v := (if s0 = 0 then l4 else l6 : Int)) (if_neg c4) kj
theorem c_X8_chosen_3 {sc : List Int} {d d2 : Nat} {m m2 : Mem} {Q : Option AV → Mem → Prop} {l1 l2 l3 s1 s2 : Int} {v : Int} (hM : C_X8_unchanged sc d2 [aR 62, aI s1, aI s2] m (some (aJ v)) m2) (hd : d2 + 1 ≤ d) (k : S_X8_chosen sc d 6 [aR 62, aI l1, aI l2, aI l3, aU, aU, aU, aU, aU, aU] [aJ v] m2 Q) : S_X8_chosen sc d 3 [aR 62, aI l1, aI l2, aI l3, aU, aU, aU, aU, aU, aU] [aI s2, aI s1, aR 62] m Q := x_callV (as := [aI s1, aI s2]) (rest := []) hM mk_X8_unchanged mv_X8_unchanged lk_X8_479 (Or.inl ⟨8, (RX8, TX8, 123), ic_62, Nat.le_of_ble_eq_true rfl, rfl, rfl⟩) hd rfl rfl (Nat.le_of_ble_eq_true rfl) dX8_chosen_3 rfl k
theorem c_X8_chosen_10 {sc : List Int} {d d2 : Nat} {m m2 : Mem} {Q : Option AV → Mem → Prop} {l1 l2 l3 l4 s1 : Int} {v : Int} (hM : C_X8_oddsFrom sc d2 [aR 62, aI s1] m (some (aI v)) m2) (hd : d2 + 1 ≤ d) (k : S_X8_chosen sc d 13 [aR 62, aI l1, aI l2, aI l3, aJ l4, aU, aU, aU, aU, aU] [aI v] m2 Q) : S_X8_chosen sc d 10 [aR 62, aI l1, aI l2, aI l3, aJ l4, aU, aU, aU, aU, aU] [aI s1, aR 62] m Q := x_callV (as := [aI s1]) (rest := []) hM mk_X8_oddsFrom mv_X8_oddsFrom lk_X8_469 (Or.inl ⟨8, (RX8, TX8, 123), ic_62, Nat.le_of_ble_eq_true rfl, rfl, rfl⟩) hd rfl rfl (Nat.le_of_ble_eq_true rfl) dX8_chosen_10 rfl k
theorem c_X8_chosen_16 {sc : List Int} {d d2 : Nat} {m m2 : Mem} {Q : Option AV → Mem → Prop} {l1 l2 l3 l4 s0 s2 : Int} {v : Int} (hM : C_X8_changed sc d2 [aR 62, aI s2] m (some (aJ v)) m2) (hd : d2 + 1 ≤ d) (k : S_X8_chosen sc d 19 [aR 62, aI l1, aI l2, aI l3, aJ l4, aU, aU, aU, aU, aU] [aJ v, aJ s0] m2 Q) : S_X8_chosen sc d 16 [aR 62, aI l1, aI l2, aI l3, aJ l4, aU, aU, aU, aU, aU] [aI s2, aR 62, aJ s0] m Q := x_callV (as := [aI s2]) (rest := [aJ s0]) hM mk_X8_changed mv_X8_changed lk_X8_476 (Or.inl ⟨8, (RX8, TX8, 123), ic_62, Nat.le_of_ble_eq_true rfl, rfl, rfl⟩) hd rfl rfl (Nat.le_of_ble_eq_true rfl) dX8_chosen_16 rfl k
theorem c_X8_chosen_30 {sc : List Int} {d d2 : Nat} {m m2 : Mem} {Q : Option AV → Mem → Prop} {s1 s2 : Int} {v : Int} (hM : C_X8_looked sc d2 [aR 62, aI s1, aI s2] m (some (aJ v)) m2) (hd : d2 + 1 ≤ d) (k : S_X8_chosen sc d 33 [aR 62, aU, aU, aU, aU, aU, aU, aU, aU, aU] [aJ v] m2 Q) : S_X8_chosen sc d 30 [aR 62, aU, aU, aU, aU, aU, aU, aU, aU, aU] [aI s2, aI s1, aR 62] m Q := x_callV (as := [aI s1, aI s2]) (rest := []) hM mk_X8_looked mv_X8_looked lk_X8_482 (Or.inl ⟨8, (RX8, TX8, 123), ic_62, Nat.le_of_ble_eq_true rfl, rfl, rfl⟩) hd rfl rfl (Nat.le_of_ble_eq_true rfl) dX8_chosen_30 rfl k
theorem c_X8_chosen_71 {sc : List Int} {d d2 : Nat} {m m2 : Mem} {Q : Option AV → Mem → Prop} {l2 l3 l8 s1 s2 : Int} {v : Int} (hM : C_X8_looked sc d2 [aR 62, aI s1, aI s2] m (some (aJ v)) m2) (hd : d2 + 1 ≤ d) (k : S_X8_chosen sc d 74 [aR 62, aU, aI l2, aI l3, aU, aU, aU, aU, aJ l8, aU] [aJ v] m2 Q) : S_X8_chosen sc d 71 [aR 62, aU, aI l2, aI l3, aU, aU, aU, aU, aJ l8, aU] [aI s2, aI s1, aR 62] m Q := x_callV (as := [aI s1, aI s2]) (rest := []) hM mk_X8_looked mv_X8_looked lk_X8_482 (Or.inl ⟨8, (RX8, TX8, 123), ic_62, Nat.le_of_ble_eq_true rfl, rfl, rfl⟩) hd rfl rfl (Nat.le_of_ble_eq_true rfl) dX8_chosen_71 rfl k
theorem c_X8_chosen_83 {sc : List Int} {d d2 : Nat} {m m2 : Mem} {Q : Option AV → Mem → Prop} {s1 s2 : Int} {v : Int} (hM : C_X8_looked sc d2 [aR 62, aI s1, aI s2] m (some (aJ v)) m2) (hd : d2 + 1 ≤ d) (k : S_X8_chosen sc d 86 [aR 62, aU, aU, aU, aU, aU, aU, aU, aU, aU] [aJ v] m2 Q) : S_X8_chosen sc d 83 [aR 62, aU, aU, aU, aU, aU, aU, aU, aU, aU] [aI s2, aI s1, aR 62] m Q := x_callV (as := [aI s1, aI s2]) (rest := []) hM mk_X8_looked mv_X8_looked lk_X8_482 (Or.inl ⟨8, (RX8, TX8, 123), ic_62, Nat.le_of_ble_eq_true rfl, rfl, rfl⟩) hd rfl rfl (Nat.le_of_ble_eq_true rfl) dX8_chosen_83 rfl k
theorem c_X8_chosen_96 {sc : List Int} {d d2 : Nat} {m m2 : Mem} {Q : Option AV → Mem → Prop} {l4 l6 s1 s2 s3 : Int} {v : Int} (hM : C_X8_isChange sc d2 [aR 62, aI s1, aI s2, aI s3] m (some (aI v)) m2) (hd : d2 + 1 ≤ d) (k : S_X8_chosen sc d 99 [aR 62, aU, aU, aU, aJ l4, aU, aJ l6, aU, aU, aU] [aI v] m2 Q) : S_X8_chosen sc d 96 [aR 62, aU, aU, aU, aJ l4, aU, aJ l6, aU, aU, aU] [aI s3, aI s2, aI s1, aR 62] m Q := x_callV (as := [aI s1, aI s2, aI s3]) (rest := []) hM mk_X8_isChange mv_X8_isChange lk_X8_485 (Or.inl ⟨8, (RX8, TX8, 123), ic_62, Nat.le_of_ble_eq_true rfl, rfl, rfl⟩) hd rfl rfl (Nat.le_of_ble_eq_true rfl) dX8_chosen_96 rfl k
set_option maxRecDepth 4000 in
theorem g_X8_isChange_0 {sc : List Int} {d : Nat} {m : Mem} {Q : Option AV → Mem → Prop} {l1 l2 l3 : Int} (k : (-2147483648 ≤ l1 ∧ l1 < 2147483648) ∧ ((l1 ≠ 1) → (((l1 < 4) → (Q (some (aI 0)) m)) ∧ (¬ (l1 < 4) → (S_X8_isChange sc d 38 [aR 62, aU, aU, aU] [aI l3, aI l2, aI (l1 - 4), aR 62] m Q)))) ∧ (¬ (l1 ≠ 1) → (S_X8_isChange sc d 8 [aR 62, aU, aU, aU] [aI l2, aR 62, aI l3] m Q))) : S_X8_isChange sc d 0 [aR 62, aI l1, aI l2, aI l3] [] m Q := by
  refine x_iload_n (pc2 := 1) dX8_isChange_0 rfl rfl ?_
  refine x_iconst (pc2 := 2) dX8_isChange_1 rfl ?_
  obtain ⟨h1, k⟩ := k
  obtain ⟨k1, k2⟩ := k
  refine x_icmp_ne (tgt := 27) (pc2 := 5) dX8_isChange_2 (by decide) rfl h1 (by decide) (fun c2 => ?_) (fun c2 => ?_)
  · replace k := k1 c2
    refine x_iload_n (pc2 := 28) dX8_isChange_27 rfl rfl ?_
    refine x_iconst (pc2 := 29) dX8_isChange_28 rfl ?_
    obtain ⟨k1, k2⟩ := k
    refine x_icmp_lt (tgt := 48) (pc2 := 32) dX8_isChange_29 (by decide) rfl h1 (by decide) (fun c3 => ?_) (fun c3 => ?_)
    · replace k := k1 c3
      refine x_iconst (pc2 := 49) dX8_isChange_48 rfl ?_
      exact x_ireturn dX8_isChange_49 ⟨.boolean, rfl, rfl⟩ k
    · replace k := k2 c3
      refine x_aload_n (pc2 := 33) dX8_isChange_32 rfl rfl ?_
      refine x_iload_n (pc2 := 34) dX8_isChange_33 rfl rfl ?_
      refine x_iconst (pc2 := 35) dX8_isChange_34 rfl ?_
      refine x_isub (pc2 := 36) dX8_isChange_35 rfl ?_
      refine x_iload_n (pc2 := 37) dX8_isChange_36 rfl rfl ?_
      refine x_iload_n (pc2 := 38) dX8_isChange_37 rfl rfl ?_
      exact x_drop (drp_k (drp_u (drp_u (drp_u drp_n)))) k
  · replace k := k2 c2
    refine x_iload_n (pc2 := 6) dX8_isChange_5 rfl rfl ?_
    refine x_aload_n (pc2 := 7) dX8_isChange_6 rfl rfl ?_
    refine x_iload_n (pc2 := 8) dX8_isChange_7 rfl rfl ?_
    exact x_drop (drp_k (drp_u (drp_u (drp_u drp_n)))) k
set_option maxRecDepth 4000 in
theorem g_X8_isChange_11 {sc : List Int} {d : Nat} {m : Mem} {Q : Option AV → Mem → Prop} {s0 s1 : Int} (k : S_X8_isChange sc d 13 [aR 62, aU, aU, aU] [aR 62, aI (s0 + s1)] m Q) : S_X8_isChange sc d 11 [aR 62, aU, aU, aU] [aI s1, aI s0] m Q := by
  refine x_iadd (pc2 := 12) dX8_isChange_11 rfl ?_
  refine x_aload_n (pc2 := 13) dX8_isChange_12 rfl rfl ?_
  exact k
set_option maxRecDepth 4000 in
theorem g_X8_isChange_16 {sc : List Int} {d : Nat} {m : Mem} {Q : Option AV → Mem → Prop} {s0 s1 : Int} (k : ((-2147483648 ≤ s0 ∧ s0 < 2147483648)) ∧ ((-2147483648 ≤ s1 ∧ s1 < 2147483648)) ∧ Q (some (aI (if s0 ≤ s1 then 0 else 1 : Int))) m) : S_X8_isChange sc d 16 [aR 62, aU, aU, aU] [aI s1, aI s0] m Q := by
  obtain ⟨g3, k⟩ := k
  obtain ⟨g4, k⟩ := k
  have kj : S_X8_isChange sc d 49 [aR 62, aU, aU, aU] [aI (if s0 ≤ s1 then 0 else 1 : Int)] m Q := by
    exact x_ireturn dX8_isChange_49 (ret_z (by repeat (first | exact Or.inl rfl | exact Or.inr rfl | split))) k
  have h5 := g3 
  have h6 := g4 
  refine x_icmp_le (tgt := 23) (pc2 := 19) dX8_isChange_16 (by decide) rfl h5 h6 (fun c7 => ?_) (fun c7 => ?_)
  · skip
    refine x_iconst (pc2 := 24) dX8_isChange_23 rfl ?_
    refine x_goto (tgt := 49) dX8_isChange_24 (by decide) ?_
    exact x_topI (v := (if s0 ≤ s1 then 0 else 1 : Int)) (if_pos c7) kj
  · skip
    refine x_iconst (pc2 := 20) dX8_isChange_19 rfl ?_
    refine x_goto (tgt := 49) dX8_isChange_20 (by decide) ?_
    exact x_topI (v := (if s0 ≤ s1 then 0 else 1 : Int)) (if_neg c7) kj
set_option maxRecDepth 4000 in
theorem g_X8_isChange_41 {sc : List Int} {d : Nat} {m : Mem} {Q : Option AV → Mem → Prop} {s0 : Int} (k : ((-2147483648 ≤ s0 ∧ s0 < 2147483648)) ∧ Q (some (aI (if s0 = 0 then 0 else 1 : Int))) m) : S_X8_isChange sc d 41 [aR 62, aU, aU, aU] [aI s0] m Q := by
  obtain ⟨g2, k⟩ := k
  have kj : S_X8_isChange sc d 49 [aR 62, aU, aU, aU] [aI (if s0 = 0 then 0 else 1 : Int)] m Q := by
    exact x_ireturn dX8_isChange_49 (ret_z (by repeat (first | exact Or.inl rfl | exact Or.inr rfl | split))) k
  have h3 := g2 
  refine x_if_eq (tgt := 48) (pc2 := 44) dX8_isChange_41 (by decide) rfl h3 (fun c4 => ?_) (fun c4 => ?_)
  · skip
    refine x_iconst (pc2 := 49) dX8_isChange_48 rfl ?_
    exact x_topI (v := (if s0 = 0 then 0 else 1 : Int)) (if_pos c4) kj
  · skip
    refine x_iconst (pc2 := 45) dX8_isChange_44 rfl ?_
    refine x_goto (tgt := 49) dX8_isChange_45 (by decide) ?_
    exact x_topI (v := (if s0 = 0 then 0 else 1 : Int)) (if_neg c4) kj
theorem c_X8_isChange_8 {sc : List Int} {d d2 : Nat} {m m2 : Mem} {Q : Option AV → Mem → Prop} {s0 s2 : Int} {v : Int} (hM : C_X8_takesOf sc d2 [aR 62, aI s2] m (some (aI v)) m2) (hd : d2 + 1 ≤ d) (k : S_X8_isChange sc d 11 [aR 62, aU, aU, aU] [aI v, aI s0] m2 Q) : S_X8_isChange sc d 8 [aR 62, aU, aU, aU] [aI s2, aR 62, aI s0] m Q := x_callV (as := [aI s2]) (rest := [aI s0]) hM mk_X8_takesOf mv_X8_takesOf lk_X8_434 (Or.inl ⟨8, (RX8, TX8, 123), ic_62, Nat.le_of_ble_eq_true rfl, rfl, rfl⟩) hd rfl rfl (Nat.le_of_ble_eq_true rfl) dX8_isChange_8 rfl k
theorem c_X8_isChange_13 {sc : List Int} {d d2 : Nat} {m m2 : Mem} {Q : Option AV → Mem → Prop} {s0 : Int} {v : Int} (hM : C_X8_leastLength sc d2 [aR 62] m (some (aI v)) m2) (hd : d2 + 1 ≤ d) (k : S_X8_isChange sc d 16 [aR 62, aU, aU, aU] [aI v, aI s0] m2 Q) : S_X8_isChange sc d 13 [aR 62, aU, aU, aU] [aR 62, aI s0] m Q := x_callV (as := []) (rest := [aI s0]) hM mk_X8_leastLength mv_X8_leastLength lk_X8_489 (Or.inl ⟨8, (RX8, TX8, 123), ic_62, Nat.le_of_ble_eq_true rfl, rfl, rfl⟩) hd rfl rfl (Nat.le_of_ble_eq_true rfl) dX8_isChange_13 rfl k
theorem c_X8_isChange_38 {sc : List Int} {d d2 : Nat} {m m2 : Mem} {Q : Option AV → Mem → Prop} {s1 s2 s3 : Int} {v : Int} (hM : C_X8_isTold sc d2 [aR 62, aI s1, aI s2, aI s3] m (some (aI v)) m2) (hd : d2 + 1 ≤ d) (k : S_X8_isChange sc d 41 [aR 62, aU, aU, aU] [aI v] m2 Q) : S_X8_isChange sc d 38 [aR 62, aU, aU, aU] [aI s3, aI s2, aI s1, aR 62] m Q := x_callV (as := [aI s1, aI s2, aI s3]) (rest := []) hM mk_X8_isTold mv_X8_isTold lk_X8_492 (Or.inl ⟨8, (RX8, TX8, 123), ic_62, Nat.le_of_ble_eq_true rfl, rfl, rfl⟩) hd rfl rfl (Nat.le_of_ble_eq_true rfl) dX8_isChange_38 rfl k
