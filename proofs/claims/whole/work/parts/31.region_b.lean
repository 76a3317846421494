set_option maxRecDepth 4000 in
theorem g_X5_begin_0 {sc : List Int} {d : Nat} {m : Mem} {Q : Option AV → Mem → Prop} {l1 l2 l3 : Int} (Hl1 : FormAt l1) (Hl2 : IsC l2 100) (k : S_X5_begin sc d 9 [aR 32, aR l1, aU, aU] [aI (alen l2), aI l3, aR 32] (wr m 32 0 l2) Q) : S_X5_begin sc d 0 [aR 32, aR l1, aR l2, aI l3] [] m Q := by
  refine x_aload_n (pc2 := 1) dX5_begin_0 rfl rfl ?_
  refine x_aload_n (pc2 := 2) dX5_begin_1 rfl rfl ?_
  refine x_putf (pc2 := 5) (x := l2) fl_X5_9 ft_5_0 ic_32 (pv_m _ ic_32 rfl) (pn_a (Hl2).1 _) dX5_begin_2 rfl ?_
  refine x_aload_n (pc2 := 6) dX5_begin_5 rfl rfl ?_
  refine x_iload_n (pc2 := 7) dX5_begin_6 rfl rfl ?_
  refine x_aload_n (pc2 := 8) dX5_begin_7 rfl rfl ?_
  refine x_alen (pc2 := 9) (Or.inl Hl2) dX5_begin_8 rfl ?_
  exact x_drop (drp_k (drp_k (drp_u (drp_u drp_n)))) k
set_option maxRecDepth 4000 in
theorem g_X5_begin_12 {sc : List Int} {d : Nat} {m : Mem} {Q : Option AV → Mem → Prop} {l1 s1 : Int} (Hl1 : FormAt l1) (k : ((if l1 ≠ 34 then 0 else 1 : Int) = 0 ∨ (if l1 ≠ 34 then 0 else 1 : Int) = 1) ∧ S_X5_begin sc d 65 [aR 32, aU, aU, aU] [aR 32] (wr (wr (wr (wr (wr (wr (wr (wr m 32 1 s1) 32 2 0) 32 4 260) 32 7 0) 32 8 (-1)) 32 9 (if l1 ≠ 34 then 0 else 1 : Int)) 32 11 l1) l1 2 0) Q) : S_X5_begin sc d 12 [aR 32, aR l1, aU, aU] [aI s1, aR 32] m Q := by
  refine x_putf (pc2 := 15) (x := s1) fl_X5_35 ft_5_1 ic_32 (pv_i _ ic_32 rfl) (pn_i _) dX5_begin_12 rfl ?_
  refine x_aload_n (pc2 := 16) dX5_begin_15 rfl rfl ?_
  refine x_iconst (pc2 := 17) dX5_begin_16 rfl ?_
  refine x_putf (pc2 := 20) (x := 0) fl_X5_38 ft_5_2 ic_32 (pv_i _ ic_32 rfl) (pn_i _) dX5_begin_17 rfl ?_
  refine x_aload_n (pc2 := 21) dX5_begin_20 rfl rfl ?_
  refine x_sipush (pc2 := 24) dX5_begin_21 rfl rfl ?_
  refine x_putf (pc2 := 27) (x := 260) fl_X5_41 ft_5_4 ic_32 (pv_i _ ic_32 rfl) (pn_i _) dX5_begin_24 rfl ?_
  refine x_aload_n (pc2 := 28) dX5_begin_27 rfl rfl ?_
  refine x_iconst (pc2 := 29) dX5_begin_28 rfl ?_
  refine x_putf (pc2 := 32) (x := 0) fl_X5_44 ft_5_7 ic_32 (pv_i _ ic_32 rfl) (pn_i _) dX5_begin_29 rfl ?_
  refine x_aload_n (pc2 := 33) dX5_begin_32 rfl rfl ?_
  refine x_iconst (pc2 := 34) dX5_begin_33 rfl ?_
  refine x_putf (pc2 := 37) (x := (-1)) fl_X5_15 ft_5_8 ic_32 (pv_i _ ic_32 rfl) (pn_i _) dX5_begin_34 rfl ?_
  refine x_aload_n (pc2 := 38) dX5_begin_37 rfl rfl ?_
  refine x_aload_n (pc2 := 39) dX5_begin_38 rfl rfl ?_
  refine x_aload_n (pc2 := 40) dX5_begin_39 rfl rfl ?_
  refine x_getf (pc2 := 43) (v := aR 34) fl_X5_22 ic_32 (vr_32_10 _) dX5_begin_40 rfl ?_
  have kj : S_X5_begin sc d 51 [aR 32, aR l1, aU, aU] [aI (if l1 ≠ 34 then 0 else 1 : Int), aR 32] (wr (wr (wr (wr (wr m 32 1 s1) 32 2 0) 32 4 260) 32 7 0) 32 8 (-1)) Q := by
    obtain ⟨h1, k⟩ := k
    refine x_putf (pc2 := 54) (x := (if l1 ≠ 34 then 0 else 1 : Int)) fl_X5_47 ft_5_9 ic_32 (pv_i _ ic_32 rfl) (pn_z h1) dX5_begin_51 rfl ?_
    refine x_aload_n (pc2 := 55) dX5_begin_54 rfl rfl ?_
    refine x_aload_n (pc2 := 56) dX5_begin_55 rfl rfl ?_
    refine x_putf (pc2 := 59) (x := l1) fl_X5_26 ft_5_11 ic_32 (pv_m _ ic_32 rfl) (pn_o ((icf_0 Hl1)).1 _) dX5_begin_56 rfl ?_
    refine x_aload_n (pc2 := 60) dX5_begin_59 rfl rfl ?_
    refine x_iconst (pc2 := 61) dX5_begin_60 rfl ?_
    refine x_putf (pc2 := 64) (x := 0) fl_X5_51 ft_3_2 (icf_0 Hl1) (pv_i _ (icf_0 Hl1) rfl) (pn_i _) dX5_begin_61 rfl ?_
    refine x_aload_n (pc2 := 65) dX5_begin_64 rfl rfl ?_
    exact x_drop (drp_k (drp_u (drp_k (drp_k drp_n)))) k
  refine x_acmp_ne (tgt := 50) (pc2 := 46) dX5_begin_43 (by decide) rfl ((icf_0 Hl1)).1 (by decide) (fun c2 => ?_) (fun c2 => ?_)
  · skip
    refine x_iconst (pc2 := 51) dX5_begin_50 rfl ?_
    exact x_topI (if_pos c2) kj
  · skip
    refine x_iconst (pc2 := 47) dX5_begin_46 rfl ?_
    refine x_goto (tgt := 51) dX5_begin_47 (by decide) ?_
    exact x_topI (if_neg c2) kj
set_option maxRecDepth 4000 in
theorem g_X5_begin_68 {sc : List Int} {d : Nat} {m : Mem} {Q : Option AV → Mem → Prop} (k : Q none m) : S_X5_begin sc d 68 [aR 32, aU, aU, aU] [] m Q := by
  exact x_return dX5_begin_68 rfl k
theorem c_X5_begin_9 {sc : List Int} {d d2 : Nat} {m m2 : Mem} {Q : Option AV → Mem → Prop} {l1 s1 s2 : Int} {v : Int} (Hl1 : FormAt l1) (hM : C_J9_min_7cf53 sc d2 [aI s1, aI s2] m (some (aI v)) m2) (hd : d2 + 1 ≤ d) (k : S_X5_begin sc d 12 [aR 32, aR l1, aU, aU] [aI v, aR 32] m2 Q) : S_X5_begin sc d 9 [aR 32, aR l1, aU, aU] [aI s2, aI s1, aR 32] m Q := x_callS (as := [aI s1, aI s2]) (rest := [aR 32]) hM mk_J9_min_7cf53 ms_J9_min_7cf53 lk_X5_29 hd rfl rfl (Nat.le_of_ble_eq_true rfl) dX5_begin_9 rfl k
theorem c_X5_begin_65 {sc : List Int} {d d2 : Nat} {m m2 : Mem} {Q : Option AV → Mem → Prop} (hM : C_X5_advance sc d2 [aR 32] m none m2) (hd : d2 + 1 ≤ d) (k : S_X5_begin sc d 68 [aR 32, aU, aU, aU] [] m2 Q) : S_X5_begin sc d 65 [aR 32, aU, aU, aU] [aR 32] m Q := x_callV (as := []) (rest := []) hM mk_X5_advance mv_X5_advance lk_X5_54 (Or.inl ⟨5, (RX5, TX5, 12), ic_32, Nat.le_of_ble_eq_true rfl, rfl, rfl⟩) hd rfl rfl (Nat.le_of_ble_eq_true rfl) dX5_begin_65 rfl k
set_option maxRecDepth 4000 in
theorem g_X5_fail_0 {sc : List Int} {d : Nat} {m : Mem} {Q : Option AV → Mem → Prop} {l1 l2 : Int} (k : (-2147483648 ≤ (m 32 7) ∧ (m 32 7) < 2147483648) ∧ (((m 32 7) ≠ 0) → (Q none (wr m 32 4 260))) ∧ (¬ ((m 32 7) ≠ 0) → (Q none (wr (wr (wr m 32 7 l1) 32 8 l2) 32 4 260)))) : S_X5_fail sc d 0 [aR 32, aI l1, aI l2] [] m Q := by
  refine x_aload_n (pc2 := 1) dX5_fail_0 rfl rfl ?_
  refine x_getf (pc2 := 4) (v := aI (m 32 7)) fl_X5_44 ic_32 (fv_i _ ic_32 rfl) dX5_fail_1 rfl ?_
  obtain ⟨h1, k⟩ := k
  obtain ⟨k1, k2⟩ := k
  refine x_if_ne (tgt := 17) (pc2 := 7) dX5_fail_4 (by decide) rfl h1 (fun c2 => ?_) (fun c2 => ?_)
  · replace k := k1 c2
    refine x_aload_n (pc2 := 18) dX5_fail_17 rfl rfl ?_
    refine x_sipush (pc2 := 21) dX5_fail_18 rfl rfl ?_
    refine x_putf (pc2 := 24) (x := 260) fl_X5_41 ft_5_4 ic_32 (pv_i _ ic_32 rfl) (pn_i _) dX5_fail_21 rfl ?_
    exact x_return dX5_fail_24 rfl k
  · replace k := k2 c2
    refine x_aload_n (pc2 := 8) dX5_fail_7 rfl rfl ?_
    refine x_iload_n (pc2 := 9) dX5_fail_8 rfl rfl ?_
    refine x_putf (pc2 := 12) (x := l1) fl_X5_44 ft_5_7 ic_32 (pv_i _ ic_32 rfl) (pn_i _) dX5_fail_9 rfl ?_
    refine x_aload_n (pc2 := 13) dX5_fail_12 rfl rfl ?_
    refine x_iload_n (pc2 := 14) dX5_fail_13 rfl rfl ?_
    refine x_putf (pc2 := 17) (x := l2) fl_X5_15 ft_5_8 ic_32 (pv_i _ ic_32 rfl) (pn_i _) dX5_fail_14 rfl ?_
    refine x_aload_n (pc2 := 18) dX5_fail_17 rfl rfl ?_
    refine x_sipush (pc2 := 21) dX5_fail_18 rfl rfl ?_
    refine x_putf (pc2 := 24) (x := 260) fl_X5_41 ft_5_4 ic_32 (pv_i _ ic_32 rfl) (pn_i _) dX5_fail_21 rfl ?_
    exact x_return dX5_fail_24 rfl k
set_option maxRecDepth 4000 in
theorem g_X5_advance_0 {sc : List Int} {d : Nat} {m : Mem} {Q : Option AV → Mem → Prop} (k : (-2147483648 ≤ (m 32 7) ∧ (m 32 7) < 2147483648) ∧ (((m 32 7) = 0) → (((-2147483648 ≤ (m 32 4) ∧ (m 32 4) < 2147483648)) ∧ S_X5_advance sc d 34 [aR 32, aI (if (m 32 4) = 256 then 0 else (if (m 32 4) = 257 then 0 else 1 : Int) : Int), aU] [] m Q)) ∧ (¬ ((m 32 7) = 0) → (Q none m))) : S_X5_advance sc d 0 [aR 32, aU, aU] [] m Q := by
  refine x_aload_n (pc2 := 1) dX5_advance_0 rfl rfl ?_
  refine x_getf (pc2 := 4) (v := aI (m 32 7)) fl_X5_44 ic_32 (fv_i _ ic_32 rfl) dX5_advance_1 rfl ?_
  obtain ⟨h1, k⟩ := k
  obtain ⟨k1, k2⟩ := k
  refine x_if_eq (tgt := 8) (pc2 := 7) dX5_advance_4 (by decide) rfl h1 (fun c2 => ?_) (fun c2 => ?_)
  · replace k := k1 c2
    refine x_aload_n (pc2 := 9) dX5_advance_8 rfl rfl ?_
    refine x_getf (pc2 := 12) (v := aI (m 32 4)) fl_X5_41 ic_32 (fv_i _ ic_32 rfl) dX5_advance_9 rfl ?_
    refine x_sipush (pc2 := 15) dX5_advance_12 rfl rfl ?_
    obtain ⟨g4, k⟩ := k
    have kj : S_X5_advance sc d 33 [aR 32, aU, aU] [aI (if (m 32 4) = 256 then 0 else (if (m 32 4) = 257 then 0 else 1 : Int) : Int)] m Q := by
      refine x_istore_n (pc2 := 34) (ls2 := [aR 32, aI (if (m 32 4) = 256 then 0 else (if (m 32 4) = 257 then 0 else 1 : Int) : Int), aU]) dX5_advance_33 rfl (by decide) rfl ?_
      exact k
    have h5 := g4 
    refine x_icmp_eq (tgt := 32) (pc2 := 18) dX5_advance_15 (by decide) rfl h5 (by decide) (fun c6 => ?_) (fun c6 => ?_)
    · skip
      refine x_iconst (pc2 := 33) dX5_advance_32 rfl ?_
      exact x_topI (if_pos c6) kj
    · skip
      refine x_aload_n (pc2 := 19) dX5_advance_18 rfl rfl ?_
      refine x_getf (pc2 := 22) (v := aI (m 32 4)) fl_X5_41 ic_32 (fv_i _ ic_32 rfl) dX5_advance_19 rfl ?_
      refine x_sipush (pc2 := 25) dX5_advance_22 rfl rfl ?_
      refine x_icmp_eq (tgt := 32) (pc2 := 28) dX5_advance_25 (by decide) rfl h5 (by decide) (fun c7 => ?_) (fun c7 => ?_)
      · skip
        refine x_iconst (pc2 := 33) dX5_advance_32 rfl ?_
        exact x_topI ((if_neg c6).trans (if_pos c7)) kj
      · skip
        refine x_iconst (pc2 := 29) dX5_advance_28 rfl ?_
        refine x_goto (tgt := 33) dX5_advance_29 (by decide) ?_
        exact x_topI ((if_neg c6).trans (if_neg c7)) kj
  · replace k := k2 c2
    exact x_return dX5_advance_7 rfl k
set_option maxRecDepth 4000 in
theorem g_X5_advance_34 {sc : List Int} {d : Nat} {m : Mem} {Q : Option AV → Mem → Prop} {l1 : Int} (k : (-2147483648 ≤ (m 32 2) ∧ (m 32 2) < 2147483648) ∧ (-2147483648 ≤ (m 32 1) ∧ (m 32 1) < 2147483648) ∧ (((m 32 1) ≤ (m 32 2)) → ((-2147483648 ≤ ((wr (wr m 32 3 (m 32 2)) 32 5 (-1)) 32 2) ∧ ((wr (wr m 32 3 (m 32 2)) 32 5 (-1)) 32 2) < 2147483648) ∧ (-2147483648 ≤ ((wr (wr m 32 3 (m 32 2)) 32 5 (-1)) 32 1) ∧ ((wr (wr m 32 3 (m 32 2)) 32 5 (-1)) 32 1) < 2147483648) ∧ ((((wr (wr m 32 3 (m 32 2)) 32 5 (-1)) 32 2) < ((wr (wr m 32 3 (m 32 2)) 32 5 (-1)) 32 1)) → ((IsC ((wr (wr m 32 3 (m 32 2)) 32 5 (-1)) 32 0) 100) ∧ (0 ≤ ((wr (wr m 32 3 (m 32 2)) 32 5 (-1)) 32 2)) ∧ (((wr (wr m 32 3 (m 32 2)) 32 5 (-1)) 32 2) < alen ((wr (wr m 32 3 (m 32 2)) 32 5 (-1)) 32 0)) ∧ (-2147483648 ≤ ((wr (wr m 32 3 (m 32 2)) 32 5 (-1)) ((wr (wr m 32 3 (m 32 2)) 32 5 (-1)) 32 0) ((wr (wr m 32 3 (m 32 2)) 32 5 (-1)) 32 2)) ∧ ((wr (wr m 32 3 (m 32 2)) 32 5 (-1)) ((wr (wr m 32 3 (m 32 2)) 32 5 (-1)) 32 0) ((wr (wr m 32 3 (m 32 2)) 32 5 (-1)) 32 2)) < 2147483648) ∧ ((((wr (wr m 32 3 (m 32 2)) 32 5 (-1)) ((wr (wr m 32 3 (m 32 2)) 32 5 (-1)) 32 0) ((wr (wr m 32 3 (m 32 2)) 32 5 (-1)) 32 2)) < 97) → (((((wr (wr m 32 3 (m 32 2)) 32 5 (-1)) ((wr (wr m 32 3 (m 32 2)) 32 5 (-1)) 32 0) ((wr (wr m 32 3 (m 32 2)) 32 5 (-1)) 32 2)) < 48) → (Q none (wr (wr (wr (wr m 32 3 (m 32 2)) 32 5 (-1)) 32 2 (((wr (wr m 32 3 (m 32 2)) 32 5 (-1)) 32 2) + 1)) 32 4 ((wr (wr m 32 3 (m 32 2)) 32 5 (-1)) ((wr (wr m 32 3 (m 32 2)) 32 5 (-1)) 32 0) ((wr (wr m 32 3 (m 32 2)) 32 5 (-1)) 32 2))))) ∧ (¬ (((wr (wr m 32 3 (m 32 2)) 32 5 (-1)) ((wr (wr m 32 3 (m 32 2)) 32 5 (-1)) 32 0) ((wr (wr m 32 3 (m 32 2)) 32 5 (-1)) 32 2)) < 48) → (((57 < ((wr (wr m 32 3 (m 32 2)) 32 5 (-1)) ((wr (wr m 32 3 (m 32 2)) 32 5 (-1)) 32 0) ((wr (wr m 32 3 (m 32 2)) 32 5 (-1)) 32 2))) → (Q none (wr (wr (wr (wr m 32 3 (m 32 2)) 32 5 (-1)) 32 2 (((wr (wr m 32 3 (m 32 2)) 32 5 (-1)) 32 2) + 1)) 32 4 ((wr (wr m 32 3 (m 32 2)) 32 5 (-1)) ((wr (wr m 32 3 (m 32 2)) 32 5 (-1)) 32 0) ((wr (wr m 32 3 (m 32 2)) 32 5 (-1)) 32 2))))) ∧ (¬ (57 < ((wr (wr m 32 3 (m 32 2)) 32 5 (-1)) ((wr (wr m 32 3 (m 32 2)) 32 5 (-1)) 32 0) ((wr (wr m 32 3 (m 32 2)) 32 5 (-1)) 32 2))) → (S_X5_advance sc d 260 [aR 32, aI l1, aU] [] (wr (wr (wr (wr m 32 3 (m 32 2)) 32 5 (-1)) 32 2 (((wr (wr m 32 3 (m 32 2)) 32 5 (-1)) 32 2) + 1)) 32 6 (((wr (wr m 32 3 (m 32 2)) 32 5 (-1)) ((wr (wr m 32 3 (m 32 2)) 32 5 (-1)) 32 0) ((wr (wr m 32 3 (m 32 2)) 32 5 (-1)) 32 2)) - 48)) Q)))))) ∧ (¬ (((wr (wr m 32 3 (m 32 2)) 32 5 (-1)) ((wr (wr m 32 3 (m 32 2)) 32 5 (-1)) 32 0) ((wr (wr m 32 3 (m 32 2)) 32 5 (-1)) 32 2)) < 97) → (((122 < ((wr (wr m 32 3 (m 32 2)) 32 5 (-1)) ((wr (wr m 32 3 (m 32 2)) 32 5 (-1)) 32 0) ((wr (wr m 32 3 (m 32 2)) 32 5 (-1)) 32 2))) → (((((wr (wr m 32 3 (m 32 2)) 32 5 (-1)) ((wr (wr m 32 3 (m 32 2)) 32 5 (-1)) 32 0) ((wr (wr m 32 3 (m 32 2)) 32 5 (-1)) 32 2)) < 48) → (Q none (wr (wr (wr (wr m 32 3 (m 32 2)) 32 5 (-1)) 32 2 (((wr (wr m 32 3 (m 32 2)) 32 5 (-1)) 32 2) + 1)) 32 4 ((wr (wr m 32 3 (m 32 2)) 32 5 (-1)) ((wr (wr m 32 3 (m 32 2)) 32 5 (-1)) 32 0) ((wr (wr m 32 3 (m 32 2)) 32 5 (-1)) 32 2))))) ∧ (¬ (((wr (wr m 32 3 (m 32 2)) 32 5 (-1)) ((wr (wr m 32 3 (m 32 2)) 32 5 (-1)) 32 0) ((wr (wr m 32 3 (m 32 2)) 32 5 (-1)) 32 2)) < 48) → (((57 < ((wr (wr m 32 3 (m 32 2)) 32 5 (-1)) ((wr (wr m 32 3 (m 32 2)) 32 5 (-1)) 32 0) ((wr (wr m 32 3 (m 32 2)) 32 5 (-1)) 32 2))) → (Q none (wr (wr (wr (wr m 32 3 (m 32 2)) 32 5 (-1)) 32 2 (((wr (wr m 32 3 (m 32 2)) 32 5 (-1)) 32 2) + 1)) 32 4 ((wr (wr m 32 3 (m 32 2)) 32 5 (-1)) ((wr (wr m 32 3 (m 32 2)) 32 5 (-1)) 32 0) ((wr (wr m 32 3 (m 32 2)) 32 5 (-1)) 32 2))))) ∧ (¬ (57 < ((wr (wr m 32 3 (m 32 2)) 32 5 (-1)) ((wr (wr m 32 3 (m 32 2)) 32 5 (-1)) 32 0) ((wr (wr m 32 3 (m 32 2)) 32 5 (-1)) 32 2))) → (S_X5_advance sc d 260 [aR 32, aI l1, aU] [] (wr (wr (wr (wr m 32 3 (m 32 2)) 32 5 (-1)) 32 2 (((wr (wr m 32 3 (m 32 2)) 32 5 (-1)) 32 2) + 1)) 32 6 (((wr (wr m 32 3 (m 32 2)) 32 5 (-1)) ((wr (wr m 32 3 (m 32 2)) 32 5 (-1)) 32 0) ((wr (wr m 32 3 (m 32 2)) 32 5 (-1)) 32 2)) - 48)) Q)))))) ∧ (¬ (122 < ((wr (wr m 32 3 (m 32 2)) 32 5 (-1)) ((wr (wr m 32 3 (m 32 2)) 32 5 (-1)) 32 0) ((wr (wr m 32 3 (m 32 2)) 32 5 (-1)) 32 2))) → (S_X5_advance sc d 152 [aR 32, aI l1, aU] [] (wr (wr (wr m 32 3 (m 32 2)) 32 5 (-1)) 32 2 (((wr (wr m 32 3 (m 32 2)) 32 5 (-1)) 32 2) + 1)) Q)))))) ∧ (¬ (((wr (wr m 32 3 (m 32 2)) 32 5 (-1)) 32 2) < ((wr (wr m 32 3 (m 32 2)) 32 5 (-1)) 32 1)) → (Q none (wr (wr (wr m 32 3 (m 32 2)) 32 5 (-1)) 32 4 258))))) ∧ (¬ ((m 32 1) ≤ (m 32 2)) → ((IsC (m 32 0) 100) ∧ (0 ≤ (m 32 2)) ∧ ((m 32 2) < alen (m 32 0)) ∧ (-2147483648 ≤ (m (m 32 0) (m 32 2)) ∧ (m (m 32 0) (m 32 2)) < 2147483648) ∧ (((m (m 32 0) (m 32 2)) = 10) → (S_X5_advance sc d 34 [aR 32, aI 1, aU] [] (wr m 32 2 ((m 32 2) + 1)) Q)) ∧ (¬ ((m (m 32 0) (m 32 2)) = 10) → ((((m (m 32 0) (m 32 2)) ≠ 32) → ((-2147483648 ≤ ((wr (wr m 32 3 (m 32 2)) 32 5 (-1)) 32 2) ∧ ((wr (wr m 32 3 (m 32 2)) 32 5 (-1)) 32 2) < 2147483648) ∧ (-2147483648 ≤ ((wr (wr m 32 3 (m 32 2)) 32 5 (-1)) 32 1) ∧ ((wr (wr m 32 3 (m 32 2)) 32 5 (-1)) 32 1) < 2147483648) ∧ ((((wr (wr m 32 3 (m 32 2)) 32 5 (-1)) 32 2) < ((wr (wr m 32 3 (m 32 2)) 32 5 (-1)) 32 1)) → ((IsC ((wr (wr m 32 3 (m 32 2)) 32 5 (-1)) 32 0) 100) ∧ (0 ≤ ((wr (wr m 32 3 (m 32 2)) 32 5 (-1)) 32 2)) ∧ (((wr (wr m 32 3 (m 32 2)) 32 5 (-1)) 32 2) < alen ((wr (wr m 32 3 (m 32 2)) 32 5 (-1)) 32 0)) ∧ (-2147483648 ≤ ((wr (wr m 32 3 (m 32 2)) 32 5 (-1)) ((wr (wr m 32 3 (m 32 2)) 32 5 (-1)) 32 0) ((wr (wr m 32 3 (m 32 2)) 32 5 (-1)) 32 2)) ∧ ((wr (wr m 32 3 (m 32 2)) 32 5 (-1)) ((wr (wr m 32 3 (m 32 2)) 32 5 (-1)) 32 0) ((wr (wr m 32 3 (m 32 2)) 32 5 (-1)) 32 2)) < 2147483648) ∧ ((((wr (wr m 32 3 (m 32 2)) 32 5 (-1)) ((wr (wr m 32 3 (m 32 2)) 32 5 (-1)) 32 0) ((wr (wr m 32 3 (m 32 2)) 32 5 (-1)) 32 2)) < 97) → (((((wr (wr m 32 3 (m 32 2)) 32 5 (-1)) ((wr (wr m 32 3 (m 32 2)) 32 5 (-1)) 32 0) ((wr (wr m 32 3 (m 32 2)) 32 5 (-1)) 32 2)) < 48) → (Q none (wr (wr (wr (wr m 32 3 (m 32 2)) 32 5 (-1)) 32 2 (((wr (wr m 32 3 (m 32 2)) 32 5 (-1)) 32 2) + 1)) 32 4 ((wr (wr m 32 3 (m 32 2)) 32 5 (-1)) ((wr (wr m 32 3 (m 32 2)) 32 5 (-1)) 32 0) ((wr (wr m 32 3 (m 32 2)) 32 5 (-1)) 32 2))))) ∧ (¬ (((wr (wr m 32 3 (m 32 2)) 32 5 (-1)) ((wr (wr m 32 3 (m 32 2)) 32 5 (-1)) 32 0) ((wr (wr m 32 3 (m 32 2)) 32 5 (-1)) 32 2)) < 48) → (((57 < ((wr (wr m 32 3 (m 32 2)) 32 5 (-1)) ((wr (wr m 32 3 (m 32 2)) 32 5 (-1)) 32 0) ((wr (wr m 32 3 (m 32 2)) 32 5 (-1)) 32 2))) → (Q none (wr (wr (wr (wr m 32 3 (m 32 2)) 32 5 (-1)) 32 2 (((wr (wr m 32 3 (m 32 2)) 32 5 (-1)) 32 2) + 1)) 32 4 ((wr (wr m 32 3 (m 32 2)) 32 5 (-1)) ((wr (wr m 32 3 (m 32 2)) 32 5 (-1)) 32 0) ((wr (wr m 32 3 (m 32 2)) 32 5 (-1)) 32 2))))) ∧ (¬ (57 < ((wr (wr m 32 3 (m 32 2)) 32 5 (-1)) ((wr (wr m 32 3 (m 32 2)) 32 5 (-1)) 32 0) ((wr (wr m 32 3 (m 32 2)) 32 5 (-1)) 32 2))) → (S_X5_advance sc d 260 [aR 32, aI l1, aU] [] (wr (wr (wr (wr m 32 3 (m 32 2)) 32 5 (-1)) 32 2 (((wr (wr m 32 3 (m 32 2)) 32 5 (-1)) 32 2) + 1)) 32 6 (((wr (wr m 32 3 (m 32 2)) 32 5 (-1)) ((wr (wr m 32 3 (m 32 2)) 32 5 (-1)) 32 0) ((wr (wr m 32 3 (m 32 2)) 32 5 (-1)) 32 2)) - 48)) Q)))))) ∧ (¬ (((wr (wr m 32 3 (m 32 2)) 32 5 (-1)) ((wr (wr m 32 3 (m 32 2)) 32 5 (-1)) 32 0) ((wr (wr m 32 3 (m 32 2)) 32 5 (-1)) 32 2)) < 97) → (((122 < ((wr (wr m 32 3 (m 32 2)) 32 5 (-1)) ((wr (wr m 32 3 (m 32 2)) 32 5 (-1)) 32 0) ((wr (wr m 32 3 (m 32 2)) 32 5 (-1)) 32 2))) → (((((wr (wr m 32 3 (m 32 2)) 32 5 (-1)) ((wr (wr m 32 3 (m 32 2)) 32 5 (-1)) 32 0) ((wr (wr m 32 3 (m 32 2)) 32 5 (-1)) 32 2)) < 48) → (Q none (wr (wr (wr (wr m 32 3 (m 32 2)) 32 5 (-1)) 32 2 (((wr (wr m 32 3 (m 32 2)) 32 5 (-1)) 32 2) + 1)) 32 4 ((wr (wr m 32 3 (m 32 2)) 32 5 (-1)) ((wr (wr m 32 3 (m 32 2)) 32 5 (-1)) 32 0) ((wr (wr m 32 3 (m 32 2)) 32 5 (-1)) 32 2))))) ∧ (¬ (((wr (wr m 32 3 (m 32 2)) 32 5 (-1)) ((wr (wr m 32 3 (m 32 2)) 32 5 (-1)) 32 0) ((wr (wr m 32 3 (m 32 2)) 32 5 (-1)) 32 2)) < 48) → (((57 < ((wr (wr m 32 3 (m 32 2)) 32 5 (-1)) ((wr (wr m 32 3 (m 32 2)) 32 5 (-1)) 32 0) ((wr (wr m 32 3 (m 32 2)) 32 5 (-1)) 32 2))) → (Q none (wr (wr (wr (wr m 32 3 (m 32 2)) 32 5 (-1)) 32 2 (((wr (wr m 32 3 (m 32 2)) 32 5 (-1)) 32 2) + 1)) 32 4 ((wr (wr m 32 3 (m 32 2)) 32 5 (-1)) ((wr (wr m 32 3 (m 32 2)) 32 5 (-1)) 32 0) ((wr (wr m 32 3 (m 32 2)) 32 5 (-1)) 32 2))))) ∧ (¬ (57 < ((wr (wr m 32 3 (m 32 2)) 32 5 (-1)) ((wr (wr m 32 3 (m 32 2)) 32 5 (-1)) 32 0) ((wr (wr m 32 3 (m 32 2)) 32 5 (-1)) 32 2))) → (S_X5_advance sc d 260 [aR 32, aI l1, aU] [] (wr (wr (wr (wr m 32 3 (m 32 2)) 32 5 (-1)) 32 2 (((wr (wr m 32 3 (m 32 2)) 32 5 (-1)) 32 2) + 1)) 32 6 (((wr (wr m 32 3 (m 32 2)) 32 5 (-1)) ((wr (wr m 32 3 (m 32 2)) 32 5 (-1)) 32 0) ((wr (wr m 32 3 (m 32 2)) 32 5 (-1)) 32 2)) - 48)) Q)))))) ∧ (¬ (122 < ((wr (wr m 32 3 (m 32 2)) 32 5 (-1)) ((wr (wr m 32 3 (m 32 2)) 32 5 (-1)) 32 0) ((wr (wr m 32 3 (m 32 2)) 32 5 (-1)) 32 2))) → (S_X5_advance sc d 152 [aR 32, aI l1, aU] [] (wr (wr (wr m 32 3 (m 32 2)) 32 5 (-1)) 32 2 (((wr (wr m 32 3 (m 32 2)) 32 5 (-1)) 32 2) + 1)) Q)))))) ∧ (¬ (((wr (wr m 32 3 (m 32 2)) 32 5 (-1)) 32 2) < ((wr (wr m 32 3 (m 32 2)) 32 5 (-1)) 32 1)) → (Q none (wr (wr (wr m 32 3 (m 32 2)) 32 5 (-1)) 32 4 258))))) ∧ (¬ ((m (m 32 0) (m 32 2)) ≠ 32) → (S_X5_advance sc d 34 [aR 32, aI 1, aU] [] (wr m 32 2 ((m 32 2) + 1)) Q))))))) : S_X5_advance sc d 34 [aR 32, aI l1, aU] [] m Q := by
  refine x_aload_n (pc2 := 35) dX5_advance_34 rfl rfl ?_
  refine x_getf (pc2 := 38) (v := aI (m 32 2)) fl_X5_38 ic_32 (fv_i _ ic_32 rfl) dX5_advance_35 rfl ?_
  refine x_aload_n (pc2 := 39) dX5_advance_38 rfl rfl ?_
  refine x_getf (pc2 := 42) (v := aI (m 32 1)) fl_X5_35 ic_32 (fv_i _ ic_32 rfl) dX5_advance_39 rfl ?_
  obtain ⟨h1, k⟩ := k
  obtain ⟨h2, k⟩ := k
  obtain ⟨k1, k2⟩ := k
  refine x_icmp_ge (tgt := 88) (pc2 := 45) dX5_advance_42 (by decide) rfl h1 h2 (fun c3 => ?_) (fun c3 => ?_)
  · replace k := k1 c3
    refine x_aload_n (pc2 := 89) dX5_advance_88 rfl rfl ?_
    refine x_aload_n (pc2 := 90) dX5_advance_89 rfl rfl ?_
    refine x_getf (pc2 := 93) (v := aI (m 32 2)) fl_X5_38 ic_32 (fv_i _ ic_32 rfl) dX5_advance_90 rfl ?_
    refine x_putf (pc2 := 96) (x := (m 32 2)) fl_X5_57 ft_5_3 ic_32 (pv_i _ ic_32 rfl) (pn_i _) dX5_advance_93 rfl ?_
    refine x_aload_n (pc2 := 97) dX5_advance_96 rfl rfl ?_
    refine x_iconst (pc2 := 98) dX5_advance_97 rfl ?_
    refine x_putf (pc2 := 101) (x := (-1)) fl_X5_60 ft_5_5 ic_32 (pv_i _ ic_32 rfl) (pn_i _) dX5_advance_98 rfl ?_
    refine x_aload_n (pc2 := 102) dX5_advance_101 rfl rfl ?_
    refine x_getf (pc2 := 105) (v := aI ((wr (wr m 32 3 (m 32 2)) 32 5 (-1)) 32 2)) fl_X5_38 ic_32 (fv_i _ ic_32 rfl) dX5_advance_102 rfl ?_
    refine x_aload_n (pc2 := 106) dX5_advance_105 rfl rfl ?_
    refine x_getf (pc2 := 109) (v := aI ((wr (wr m 32 3 (m 32 2)) 32 5 (-1)) 32 1)) fl_X5_35 ic_32 (fv_i _ ic_32 rfl) dX5_advance_106 rfl ?_
    obtain ⟨h4, k⟩ := k
    obtain ⟨h5, k⟩ := k
    obtain ⟨k1, k2⟩ := k
    refine x_icmp_lt (tgt := 120) (pc2 := 112) dX5_advance_109 (by decide) rfl h4 h5 (fun c6 => ?_) (fun c6 => ?_)
    · replace k := k1 c6
      refine x_aload_n (pc2 := 121) dX5_advance_120 rfl rfl ?_
      refine x_getf (pc2 := 124) (v := aR ((wr (wr m 32 3 (m 32 2)) 32 5 (-1)) 32 0)) fl_X5_9 ic_32 (fv_m _ ic_32 rfl) dX5_advance_121 rfl ?_
      refine x_aload_n (pc2 := 125) dX5_advance_124 rfl rfl ?_
      refine x_getf (pc2 := 128) (v := aI ((wr (wr m 32 3 (m 32 2)) 32 5 (-1)) 32 2)) fl_X5_38 ic_32 (fv_i _ ic_32 rfl) dX5_advance_125 rfl ?_
      obtain ⟨h7, k⟩ := k
      obtain ⟨h8, k⟩ := k
      obtain ⟨h9, k⟩ := k
      refine x_iald (pc2 := 129) h7 h8 h9 dX5_advance_128 rfl ?_
      refine x_istore_n (pc2 := 130) (ls2 := [aR 32, aI l1, aI ((wr (wr m 32 3 (m 32 2)) 32 5 (-1)) ((wr (wr m 32 3 (m 32 2)) 32 5 (-1)) 32 0) ((wr (wr m 32 3 (m 32 2)) 32 5 (-1)) 32 2))]) dX5_advance_129 rfl (by decide) rfl ?_
      refine x_aload_n (pc2 := 131) dX5_advance_130 rfl rfl ?_
      refine x_dup_r (pc2 := 132) dX5_advance_131 rfl (by decide) ?_
      refine x_getf (pc2 := 135) (v := aI ((wr (wr m 32 3 (m 32 2)) 32 5 (-1)) 32 2)) fl_X5_38 ic_32 (fv_i _ ic_32 rfl) dX5_advance_132 rfl ?_
      refine x_iconst (pc2 := 136) dX5_advance_135 rfl ?_
      refine x_iadd (pc2 := 137) dX5_advance_136 rfl ?_
      refine x_putf (pc2 := 140) (x := (((wr (wr m 32 3 (m 32 2)) 32 5 (-1)) 32 2) + 1)) fl_X5_38 ft_5_2 ic_32 (pv_i _ ic_32 rfl) (pn_i _) dX5_advance_137 rfl ?_
      refine x_iload_n (pc2 := 141) dX5_advance_140 rfl rfl ?_
      refine x_bipush (pc2 := 143) dX5_advance_141 rfl rfl ?_
      obtain ⟨h10, k⟩ := k
      obtain ⟨k1, k2⟩ := k
      refine x_icmp_lt (tgt := 240) (pc2 := 146) dX5_advance_143 (by decide) rfl h10 (by decide) (fun c11 => ?_) (fun c11 => ?_)
      · replace k := k1 c11
        refine x_iload_n (pc2 := 241) dX5_advance_240 rfl rfl ?_
        refine x_bipush (pc2 := 243) dX5_advance_241 rfl rfl ?_
        obtain ⟨k1, k2⟩ := k
        refine x_icmp_lt (tgt := 376) (pc2 := 246) dX5_advance_243 (by decide) rfl h10 (by decide) (fun c12 => ?_) (fun c12 => ?_)
        · replace k := k1 c12
          refine x_aload_n (pc2 := 377) dX5_advance_376 rfl rfl ?_
          refine x_iload_n (pc2 := 378) dX5_advance_377 rfl rfl ?_
          refine x_putf (pc2 := 381) (x := ((wr (wr m 32 3 (m 32 2)) 32 5 (-1)) ((wr (wr m 32 3 (m 32 2)) 32 5 (-1)) 32 0) ((wr (wr m 32 3 (m 32 2)) 32 5 (-1)) 32 2))) fl_X5_41 ft_5_4 ic_32 (pv_i _ ic_32 rfl) (pn_i _) dX5_advance_378 rfl ?_
          exact x_return dX5_advance_381 rfl k
        · replace k := k2 c12
          refine x_iload_n (pc2 := 247) dX5_advance_246 rfl rfl ?_
          refine x_bipush (pc2 := 249) dX5_advance_247 rfl rfl ?_
          obtain ⟨k1, k2⟩ := k
          refine x_icmp_gt (tgt := 376) (pc2 := 252) dX5_advance_249 (by decide) rfl h10 (by decide) (fun c13 => ?_) (fun c13 => ?_)
          · replace k := k1 c13
            refine x_aload_n (pc2 := 377) dX5_advance_376 rfl rfl ?_
            refine x_iload_n (pc2 := 378) dX5_advance_377 rfl rfl ?_
            refine x_putf (pc2 := 381) (x := ((wr (wr m 32 3 (m 32 2)) 32 5 (-1)) ((wr (wr m 32 3 (m 32 2)) 32 5 (-1)) 32 0) ((wr (wr m 32 3 (m 32 2)) 32 5 (-1)) 32 2))) fl_X5_41 ft_5_4 ic_32 (pv_i _ ic_32 rfl) (pn_i _) dX5_advance_378 rfl ?_
            exact x_return dX5_advance_381 rfl k
          · replace k := k2 c13
            refine x_aload_n (pc2 := 253) dX5_advance_252 rfl rfl ?_
            refine x_iload_n (pc2 := 254) dX5_advance_253 rfl rfl ?_
            refine x_bipush (pc2 := 256) dX5_advance_254 rfl rfl ?_
            refine x_isub (pc2 := 257) dX5_advance_256 rfl ?_
            refine x_putf (pc2 := 260) (x := (((wr (wr m 32 3 (m 32 2)) 32 5 (-1)) ((wr (wr m 32 3 (m 32 2)) 32 5 (-1)) 32 0) ((wr (wr m 32 3 (m 32 2)) 32 5 (-1)) 32 2)) - 48)) fl_X5_66 ft_5_6 ic_32 (pv_i _ ic_32 rfl) (pn_i _) dX5_advance_257 rfl ?_
            exact x_drop (drp_k (drp_k (drp_u drp_n))) k
      · replace k := k2 c11
        refine x_iload_n (pc2 := 147) dX5_advance_146 rfl rfl ?_
        refine x_bipush (pc2 := 149) dX5_advance_147 rfl rfl ?_
        obtain ⟨k1, k2⟩ := k
        refine x_icmp_gt (tgt := 240) (pc2 := 152) dX5_advance_149 (by decide) rfl h10 (by decide) (fun c14 => ?_) (fun c14 => ?_)
        · replace k := k1 c14
          refine x_iload_n (pc2 := 241) dX5_advance_240 rfl rfl ?_
          refine x_bipush (pc2 := 243) dX5_advance_241 rfl rfl ?_
          obtain ⟨k1, k2⟩ := k
          refine x_icmp_lt (tgt := 376) (pc2 := 246) dX5_advance_243 (by decide) rfl h10 (by decide) (fun c15 => ?_) (fun c15 => ?_)
          · replace k := k1 c15
            refine x_aload_n (pc2 := 377) dX5_advance_376 rfl rfl ?_
            refine x_iload_n (pc2 := 378) dX5_advance_377 rfl rfl ?_
            refine x_putf (pc2 := 381) (x := ((wr (wr m 32 3 (m 32 2)) 32 5 (-1)) ((wr (wr m 32 3 (m 32 2)) 32 5 (-1)) 32 0) ((wr (wr m 32 3 (m 32 2)) 32 5 (-1)) 32 2))) fl_X5_41 ft_5_4 ic_32 (pv_i _ ic_32 rfl) (pn_i _) dX5_advance_378 rfl ?_
            exact x_return dX5_advance_381 rfl k
          · replace k := k2 c15
            refine x_iload_n (pc2 := 247) dX5_advance_246 rfl rfl ?_
            refine x_bipush (pc2 := 249) dX5_advance_247 rfl rfl ?_
            obtain ⟨k1, k2⟩ := k
            refine x_icmp_gt (tgt := 376) (pc2 := 252) dX5_advance_249 (by decide) rfl h10 (by decide) (fun c16 => ?_) (fun c16 => ?_)
            · replace k := k1 c16
              refine x_aload_n (pc2 := 377) dX5_advance_376 rfl rfl ?_
              refine x_iload_n (pc2 := 378) dX5_advance_377 rfl rfl ?_
              refine x_putf (pc2 := 381) (x := ((wr (wr m 32 3 (m 32 2)) 32 5 (-1)) ((wr (wr m 32 3 (m 32 2)) 32 5 (-1)) 32 0) ((wr (wr m 32 3 (m 32 2)) 32 5 (-1)) 32 2))) fl_X5_41 ft_5_4 ic_32 (pv_i _ ic_32 rfl) (pn_i _) dX5_advance_378 rfl ?_
              exact x_return dX5_advance_381 rfl k
            · replace k := k2 c16
              refine x_aload_n (pc2 := 253) dX5_advance_252 rfl rfl ?_
              refine x_iload_n (pc2 := 254) dX5_advance_253 rfl rfl ?_
              refine x_bipush (pc2 := 256) dX5_advance_254 rfl rfl ?_
              refine x_isub (pc2 := 257) dX5_advance_256 rfl ?_
              refine x_putf (pc2 := 260) (x := (((wr (wr m 32 3 (m 32 2)) 32 5 (-1)) ((wr (wr m 32 3 (m 32 2)) 32 5 (-1)) 32 0) ((wr (wr m 32 3 (m 32 2)) 32 5 (-1)) 32 2)) - 48)) fl_X5_66 ft_5_6 ic_32 (pv_i _ ic_32 rfl) (pn_i _) dX5_advance_257 rfl ?_
              exact x_drop (drp_k (drp_k (drp_u drp_n))) k
        · replace k := k2 c14
          exact x_drop (drp_k (drp_k (drp_u drp_n))) k
    · replace k := k2 c6
      refine x_aload_n (pc2 := 113) dX5_advance_112 rfl rfl ?_
      refine x_sipush (pc2 := 116) dX5_advance_113 rfl rfl ?_
      refine x_putf (pc2 := 119) (x := 258) fl_X5_41 ft_5_4 ic_32 (pv_i _ ic_32 rfl) (pn_i _) dX5_advance_116 rfl ?_
      exact x_return dX5_advance_119 rfl k
  · replace k := k2 c3
    refine x_aload_n (pc2 := 46) dX5_advance_45 rfl rfl ?_
    refine x_getf (pc2 := 49) (v := aR (m 32 0)) fl_X5_9 ic_32 (fv_m _ ic_32 rfl) dX5_advance_46 rfl ?_
    refine x_aload_n (pc2 := 50) dX5_advance_49 rfl rfl ?_
    refine x_getf (pc2 := 53) (v := aI (m 32 2)) fl_X5_38 ic_32 (fv_i _ ic_32 rfl) dX5_advance_50 rfl ?_
    obtain ⟨h17, k⟩ := k
    obtain ⟨h18, k⟩ := k
    obtain ⟨h19, k⟩ := k
    refine x_iald (pc2 := 54) h17 h18 h19 dX5_advance_53 rfl ?_
    refine x_bipush (pc2 := 56) dX5_advance_54 rfl rfl ?_
    obtain ⟨h20, k⟩ := k
    obtain ⟨k1, k2⟩ := k
    refine x_icmp_eq (tgt := 73) (pc2 := 59) dX5_advance_56 (by decide) rfl h20 (by decide) (fun c21 => ?_) (fun c21 => ?_)
    · replace k := k1 c21
      refine x_aload_n (pc2 := 74) dX5_advance_73 rfl rfl ?_
      refine x_dup_r (pc2 := 75) dX5_advance_74 rfl (by decide) ?_
      refine x_getf (pc2 := 78) (v := aI (m 32 2)) fl_X5_38 ic_32 (fv_i _ ic_32 rfl) dX5_advance_75 rfl ?_
      refine x_iconst (pc2 := 79) dX5_advance_78 rfl ?_
      refine x_iadd (pc2 := 80) dX5_advance_79 rfl ?_
      refine x_putf (pc2 := 83) (x := ((m 32 2) + 1)) fl_X5_38 ft_5_2 ic_32 (pv_i _ ic_32 rfl) (pn_i _) dX5_advance_80 rfl ?_
      refine x_iconst (pc2 := 84) dX5_advance_83 rfl ?_
      refine x_istore_n (pc2 := 85) (ls2 := [aR 32, aI 1, aU]) dX5_advance_84 rfl (by decide) rfl ?_
      refine x_goto (tgt := 34) dX5_advance_85 (by decide) ?_
      exact k
    · replace k := k2 c21
      refine x_aload_n (pc2 := 60) dX5_advance_59 rfl rfl ?_
      refine x_getf (pc2 := 63) (v := aR (m 32 0)) fl_X5_9 ic_32 (fv_m _ ic_32 rfl) dX5_advance_60 rfl ?_
      refine x_aload_n (pc2 := 64) dX5_advance_63 rfl rfl ?_
      refine x_getf (pc2 := 67) (v := aI (m 32 2)) fl_X5_38 ic_32 (fv_i _ ic_32 rfl) dX5_advance_64 rfl ?_
      refine x_iald (pc2 := 68) h17 h18 h19 dX5_advance_67 rfl ?_
      refine x_bipush (pc2 := 70) dX5_advance_68 rfl rfl ?_
      obtain ⟨k1, k2⟩ := k
      refine x_icmp_ne (tgt := 88) (pc2 := 73) dX5_advance_70 (by decide) rfl h20 (by decide) (fun c22 => ?_) (fun c22 => ?_)
      · replace k := k1 c22
        refine x_aload_n (pc2 := 89) dX5_advance_88 rfl rfl ?_
        refine x_aload_n (pc2 := 90) dX5_advance_89 rfl rfl ?_
        refine x_getf (pc2 := 93) (v := aI (m 32 2)) fl_X5_38 ic_32 (fv_i _ ic_32 rfl) dX5_advance_90 rfl ?_
        refine x_putf (pc2 := 96) (x := (m 32 2)) fl_X5_57 ft_5_3 ic_32 (pv_i _ ic_32 rfl) (pn_i _) dX5_advance_93 rfl ?_
        refine x_aload_n (pc2 := 97) dX5_advance_96 rfl rfl ?_
        refine x_iconst (pc2 := 98) dX5_advance_97 rfl ?_
        refine x_putf (pc2 := 101) (x := (-1)) fl_X5_60 ft_5_5 ic_32 (pv_i _ ic_32 rfl) (pn_i _) dX5_advance_98 rfl ?_
        refine x_aload_n (pc2 := 102) dX5_advance_101 rfl rfl ?_
        refine x_getf (pc2 := 105) (v := aI ((wr (wr m 32 3 (m 32 2)) 32 5 (-1)) 32 2)) fl_X5_38 ic_32 (fv_i _ ic_32 rfl) dX5_advance_102 rfl ?_
        refine x_aload_n (pc2 := 106) dX5_advance_105 rfl rfl ?_
        refine x_getf (pc2 := 109) (v := aI ((wr (wr m 32 3 (m 32 2)) 32 5 (-1)) 32 1)) fl_X5_35 ic_32 (fv_i _ ic_32 rfl) dX5_advance_106 rfl ?_
        obtain ⟨h23, k⟩ := k
        obtain ⟨h24, k⟩ := k
        obtain ⟨k1, k2⟩ := k
        refine x_icmp_lt (tgt := 120) (pc2 := 112) dX5_advance_109 (by decide) rfl h23 h24 (fun c25 => ?_) (fun c25 => ?_)
        · replace k := k1 c25
          refine x_aload_n (pc2 := 121) dX5_advance_120 rfl rfl ?_
          refine x_getf (pc2 := 124) (v := aR ((wr (wr m 32 3 (m 32 2)) 32 5 (-1)) 32 0)) fl_X5_9 ic_32 (fv_m _ ic_32 rfl) dX5_advance_121 rfl ?_
          refine x_aload_n (pc2 := 125) dX5_advance_124 rfl rfl ?_
          refine x_getf (pc2 := 128) (v := aI ((wr (wr m 32 3 (m 32 2)) 32 5 (-1)) 32 2)) fl_X5_38 ic_32 (fv_i _ ic_32 rfl) dX5_advance_125 rfl ?_
          obtain ⟨h26, k⟩ := k
          obtain ⟨h27, k⟩ := k
          obtain ⟨h28, k⟩ := k
          refine x_iald (pc2 := 129) h26 h27 h28 dX5_advance_128 rfl ?_
          refine x_istore_n (pc2 := 130) (ls2 := [aR 32, aI l1, aI ((wr (wr m 32 3 (m 32 2)) 32 5 (-1)) ((wr (wr m 32 3 (m 32 2)) 32 5 (-1)) 32 0) ((wr (wr m 32 3 (m 32 2)) 32 5 (-1)) 32 2))]) dX5_advance_129 rfl (by decide) rfl ?_
          refine x_aload_n (pc2 := 131) dX5_advance_130 rfl rfl ?_
          refine x_dup_r (pc2 := 132) dX5_advance_131 rfl (by decide) ?_
          refine x_getf (pc2 := 135) (v := aI ((wr (wr m 32 3 (m 32 2)) 32 5 (-1)) 32 2)) fl_X5_38 ic_32 (fv_i _ ic_32 rfl) dX5_advance_132 rfl ?_
          refine x_iconst (pc2 := 136) dX5_advance_135 rfl ?_
          refine x_iadd (pc2 := 137) dX5_advance_136 rfl ?_
          refine x_putf (pc2 := 140) (x := (((wr (wr m 32 3 (m 32 2)) 32 5 (-1)) 32 2) + 1)) fl_X5_38 ft_5_2 ic_32 (pv_i _ ic_32 rfl) (pn_i _) dX5_advance_137 rfl ?_
          refine x_iload_n (pc2 := 141) dX5_advance_140 rfl rfl ?_
          refine x_bipush (pc2 := 143) dX5_advance_141 rfl rfl ?_
          obtain ⟨h29, k⟩ := k
          obtain ⟨k1, k2⟩ := k
          refine x_icmp_lt (tgt := 240) (pc2 := 146) dX5_advance_143 (by decide) rfl h29 (by decide) (fun c30 => ?_) (fun c30 => ?_)
          · replace k := k1 c30
            refine x_iload_n (pc2 := 241) dX5_advance_240 rfl rfl ?_
            refine x_bipush (pc2 := 243) dX5_advance_241 rfl rfl ?_
            obtain ⟨k1, k2⟩ := k
            refine x_icmp_lt (tgt := 376) (pc2 := 246) dX5_advance_243 (by decide) rfl h29 (by decide) (fun c31 => ?_) (fun c31 => ?_)
            · replace k := k1 c31
              refine x_aload_n (pc2 := 377) dX5_advance_376 rfl rfl ?_
              refine x_iload_n (pc2 := 378) dX5_advance_377 rfl rfl ?_
              refine x_putf (pc2 := 381) (x := ((wr (wr m 32 3 (m 32 2)) 32 5 (-1)) ((wr (wr m 32 3 (m 32 2)) 32 5 (-1)) 32 0) ((wr (wr m 32 3 (m 32 2)) 32 5 (-1)) 32 2))) fl_X5_41 ft_5_4 ic_32 (pv_i _ ic_32 rfl) (pn_i _) dX5_advance_378 rfl ?_
              exact x_return dX5_advance_381 rfl k
            · replace k := k2 c31
              refine x_iload_n (pc2 := 247) dX5_advance_246 rfl rfl ?_
              refine x_bipush (pc2 := 249) dX5_advance_247 rfl rfl ?_
              obtain ⟨k1, k2⟩ := k
              refine x_icmp_gt (tgt := 376) (pc2 := 252) dX5_advance_249 (by decide) rfl h29 (by decide) (fun c32 => ?_) (fun c32 => ?_)
              · replace k := k1 c32
                refine x_aload_n (pc2 := 377) dX5_advance_376 rfl rfl ?_
                refine x_iload_n (pc2 := 378) dX5_advance_377 rfl rfl ?_
                refine x_putf (pc2 := 381) (x := ((wr (wr m 32 3 (m 32 2)) 32 5 (-1)) ((wr (wr m 32 3 (m 32 2)) 32 5 (-1)) 32 0) ((wr (wr m 32 3 (m 32 2)) 32 5 (-1)) 32 2))) fl_X5_41 ft_5_4 ic_32 (pv_i _ ic_32 rfl) (pn_i _) dX5_advance_378 rfl ?_
                exact x_return dX5_advance_381 rfl k
              · replace k := k2 c32
                refine x_aload_n (pc2 := 253) dX5_advance_252 rfl rfl ?_
                refine x_iload_n (pc2 := 254) dX5_advance_253 rfl rfl ?_
                refine x_bipush (pc2 := 256) dX5_advance_254 rfl rfl ?_
                refine x_isub (pc2 := 257) dX5_advance_256 rfl ?_
                refine x_putf (pc2 := 260) (x := (((wr (wr m 32 3 (m 32 2)) 32 5 (-1)) ((wr (wr m 32 3 (m 32 2)) 32 5 (-1)) 32 0) ((wr (wr m 32 3 (m 32 2)) 32 5 (-1)) 32 2)) - 48)) fl_X5_66 ft_5_6 ic_32 (pv_i _ ic_32 rfl) (pn_i _) dX5_advance_257 rfl ?_
                exact x_drop (drp_k (drp_k (drp_u drp_n))) k
          · replace k := k2 c30
            refine x_iload_n (pc2 := 147) dX5_advance_146 rfl rfl ?_
            refine x_bipush (pc2 := 149) dX5_advance_147 rfl rfl ?_
            obtain ⟨k1, k2⟩ := k
            refine x_icmp_gt (tgt := 240) (pc2 := 152) dX5_advance_149 (by decide) rfl h29 (by decide) (fun c33 => ?_) (fun c33 => ?_)
            · replace k := k1 c33
              refine x_iload_n (pc2 := 241) dX5_advance_240 rfl rfl ?_
              refine x_bipush (pc2 := 243) dX5_advance_241 rfl rfl ?_
              obtain ⟨k1, k2⟩ := k
              refine x_icmp_lt (tgt := 376) (pc2 := 246) dX5_advance_243 (by decide) rfl h29 (by decide) (fun c34 => ?_) (fun c34 => ?_)
              · replace k := k1 c34
                refine x_aload_n (pc2 := 377) dX5_advance_376 rfl rfl ?_
                refine x_iload_n (pc2 := 378) dX5_advance_377 rfl rfl ?_
                refine x_putf (pc2 := 381) (x := ((wr (wr m 32 3 (m 32 2)) 32 5 (-1)) ((wr (wr m 32 3 (m 32 2)) 32 5 (-1)) 32 0) ((wr (wr m 32 3 (m 32 2)) 32 5 (-1)) 32 2))) fl_X5_41 ft_5_4 ic_32 (pv_i _ ic_32 rfl) (pn_i _) dX5_advance_378 rfl ?_
                exact x_return dX5_advance_381 rfl k
              · replace k := k2 c34
                refine x_iload_n (pc2 := 247) dX5_advance_246 rfl rfl ?_
                refine x_bipush (pc2 := 249) dX5_advance_247 rfl rfl ?_
                obtain ⟨k1, k2⟩ := k
                refine x_icmp_gt (tgt := 376) (pc2 := 252) dX5_advance_249 (by decide) rfl h29 (by decide) (fun c35 => ?_) (fun c35 => ?_)
                · replace k := k1 c35
                  refine x_aload_n (pc2 := 377) dX5_advance_376 rfl rfl ?_
                  refine x_iload_n (pc2 := 378) dX5_advance_377 rfl rfl ?_
                  refine x_putf (pc2 := 381) (x := ((wr (wr m 32 3 (m 32 2)) 32 5 (-1)) ((wr (wr m 32 3 (m 32 2)) 32 5 (-1)) 32 0) ((wr (wr m 32 3 (m 32 2)) 32 5 (-1)) 32 2))) fl_X5_41 ft_5_4 ic_32 (pv_i _ ic_32 rfl) (pn_i _) dX5_advance_378 rfl ?_
                  exact x_return dX5_advance_381 rfl k
                · replace k := k2 c35
                  refine x_aload_n (pc2 := 253) dX5_advance_252 rfl rfl ?_
                  refine x_iload_n (pc2 := 254) dX5_advance_253 rfl rfl ?_
                  refine x_bipush (pc2 := 256) dX5_advance_254 rfl rfl ?_
                  refine x_isub (pc2 := 257) dX5_advance_256 rfl ?_
                  refine x_putf (pc2 := 260) (x := (((wr (wr m 32 3 (m 32 2)) 32 5 (-1)) ((wr (wr m 32 3 (m 32 2)) 32 5 (-1)) 32 0) ((wr (wr m 32 3 (m 32 2)) 32 5 (-1)) 32 2)) - 48)) fl_X5_66 ft_5_6 ic_32 (pv_i _ ic_32 rfl) (pn_i _) dX5_advance_257 rfl ?_
                  exact x_drop (drp_k (drp_k (drp_u drp_n))) k
            · replace k := k2 c33
              exact x_drop (drp_k (drp_k (drp_u drp_n))) k
        · replace k := k2 c25
          refine x_aload_n (pc2 := 113) dX5_advance_112 rfl rfl ?_
          refine x_sipush (pc2 := 116) dX5_advance_113 rfl rfl ?_
          refine x_putf (pc2 := 119) (x := 258) fl_X5_41 ft_5_4 ic_32 (pv_i _ ic_32 rfl) (pn_i _) dX5_advance_116 rfl ?_
          exact x_return dX5_advance_119 rfl k
      · replace k := k2 c22
        refine x_aload_n (pc2 := 74) dX5_advance_73 rfl rfl ?_
        refine x_dup_r (pc2 := 75) dX5_advance_74 rfl (by decide) ?_
        refine x_getf (pc2 := 78) (v := aI (m 32 2)) fl_X5_38 ic_32 (fv_i _ ic_32 rfl) dX5_advance_75 rfl ?_
        refine x_iconst (pc2 := 79) dX5_advance_78 rfl ?_
        refine x_iadd (pc2 := 80) dX5_advance_79 rfl ?_
        refine x_putf (pc2 := 83) (x := ((m 32 2) + 1)) fl_X5_38 ft_5_2 ic_32 (pv_i _ ic_32 rfl) (pn_i _) dX5_advance_80 rfl ?_
        refine x_iconst (pc2 := 84) dX5_advance_83 rfl ?_
        refine x_istore_n (pc2 := 85) (ls2 := [aR 32, aI 1, aU]) dX5_advance_84 rfl (by decide) rfl ?_
        refine x_goto (tgt := 34) dX5_advance_85 (by decide) ?_
        exact k
set_option maxRecDepth 4000 in
theorem g_X5_advance_152 {sc : List Int} {d : Nat} {m : Mem} {Q : Option AV → Mem → Prop} {l1 : Int} (k : (-2147483648 ≤ (m 32 2) ∧ (m 32 2) < 2147483648) ∧ (-2147483648 ≤ (m 32 1) ∧ (m 32 1) < 2147483648) ∧ (((m 32 1) ≤ (m 32 2)) → (((-2147483648 ≤ l1 ∧ l1 < 2147483648)) ∧ S_X5_advance sc d 231 [aR 32, aU, aU] [aI ((wr m 32 4 (if l1 = 0 then 259 else 256 : Int)) 32 2), aI ((wr m 32 4 (if l1 = 0 then 259 else 256 : Int)) 32 3), aR 32, aR 32] (wr m 32 4 (if l1 = 0 then 259 else 256 : Int)) Q)) ∧ (¬ ((m 32 1) ≤ (m 32 2)) → ((IsC (m 32 0) 100) ∧ (0 ≤ (m 32 2)) ∧ ((m 32 2) < alen (m 32 0)) ∧ (-2147483648 ≤ (m (m 32 0) (m 32 2)) ∧ (m (m 32 0) (m 32 2)) < 2147483648) ∧ (((m (m 32 0) (m 32 2)) < 97) → (((-2147483648 ≤ l1 ∧ l1 < 2147483648)) ∧ S_X5_advance sc d 231 [aR 32, aU, aU] [aI ((wr m 32 4 (if l1 = 0 then 259 else 256 : Int)) 32 2), aI ((wr m 32 4 (if l1 = 0 then 259 else 256 : Int)) 32 3), aR 32, aR 32] (wr m 32 4 (if l1 = 0 then 259 else 256 : Int)) Q)) ∧ (¬ ((m (m 32 0) (m 32 2)) < 97) → (((122 < (m (m 32 0) (m 32 2))) → (((-2147483648 ≤ l1 ∧ l1 < 2147483648)) ∧ S_X5_advance sc d 231 [aR 32, aU, aU] [aI ((wr m 32 4 (if l1 = 0 then 259 else 256 : Int)) 32 2), aI ((wr m 32 4 (if l1 = 0 then 259 else 256 : Int)) 32 3), aR 32, aR 32] (wr m 32 4 (if l1 = 0 then 259 else 256 : Int)) Q)) ∧ (¬ (122 < (m (m 32 0) (m 32 2))) → (S_X5_advance sc d 152 [aR 32, aI l1, aU] [] (wr m 32 2 ((m 32 2) + 1)) Q))))))) : S_X5_advance sc d 152 [aR 32, aI l1, aU] [] m Q := by
  refine x_aload_n (pc2 := 153) dX5_advance_152 rfl rfl ?_
  refine x_getf (pc2 := 156) (v := aI (m 32 2)) fl_X5_38 ic_32 (fv_i _ ic_32 rfl) dX5_advance_153 rfl ?_
  refine x_aload_n (pc2 := 157) dX5_advance_156 rfl rfl ?_
  refine x_getf (pc2 := 160) (v := aI (m 32 1)) fl_X5_35 ic_32 (fv_i _ ic_32 rfl) dX5_advance_157 rfl ?_
  obtain ⟨h1, k⟩ := k
  obtain ⟨h2, k⟩ := k
  obtain ⟨k1, k2⟩ := k
  refine x_icmp_ge (tgt := 204) (pc2 := 163) dX5_advance_160 (by decide) rfl h1 h2 (fun c3 => ?_) (fun c3 => ?_)
  · replace k := k1 c3
    refine x_aload_n (pc2 := 205) dX5_advance_204 rfl rfl ?_
    refine x_iload_n (pc2 := 206) dX5_advance_205 rfl rfl ?_
    obtain ⟨g5, k⟩ := k
    have kj : S_X5_advance sc d 218 [aR 32, aI l1, aU] [aI (if l1 = 0 then 259 else 256 : Int), aR 32] m Q := by
      refine x_putf (pc2 := 221) (x := (if l1 = 0 then 259 else 256 : Int)) fl_X5_41 ft_5_4 ic_32 (pv_i _ ic_32 rfl) (pn_i _) dX5_advance_218 rfl ?_
      refine x_aload_n (pc2 := 222) dX5_advance_221 rfl rfl ?_
      refine x_aload_n (pc2 := 223) dX5_advance_222 rfl rfl ?_
      refine x_aload_n (pc2 := 224) dX5_advance_223 rfl rfl ?_
      refine x_getf (pc2 := 227) (v := aI ((wr m 32 4 (if l1 = 0 then 259 else 256 : Int)) 32 3)) fl_X5_57 ic_32 (fv_i _ ic_32 rfl) dX5_advance_224 rfl ?_
      refine x_aload_n (pc2 := 228) dX5_advance_227 rfl rfl ?_
      refine x_getf (pc2 := 231) (v := aI ((wr m 32 4 (if l1 = 0 then 259 else 256 : Int)) 32 2)) fl_X5_38 ic_32 (fv_i _ ic_32 rfl) dX5_advance_228 rfl ?_
      exact x_drop (drp_k (drp_u (drp_k drp_n))) k
    have h6 := g5 
    refine x_if_eq (tgt := 215) (pc2 := 209) dX5_advance_206 (by decide) rfl h6 (fun c7 => ?_) (fun c7 => ?_)
    · skip
      refine x_sipush (pc2 := 218) dX5_advance_215 rfl rfl ?_
      exact x_topI (if_pos c7) kj
    · skip
      refine x_sipush (pc2 := 212) dX5_advance_209 rfl rfl ?_
      refine x_goto (tgt := 218) dX5_advance_212 (by decide) ?_
      exact x_topI (if_neg c7) kj
  · replace k := k2 c3
    refine x_aload_n (pc2 := 164) dX5_advance_163 rfl rfl ?_
    refine x_getf (pc2 := 167) (v := aR (m 32 0)) fl_X5_9 ic_32 (fv_m _ ic_32 rfl) dX5_advance_164 rfl ?_
    refine x_aload_n (pc2 := 168) dX5_advance_167 rfl rfl ?_
    refine x_getf (pc2 := 171) (v := aI (m 32 2)) fl_X5_38 ic_32 (fv_i _ ic_32 rfl) dX5_advance_168 rfl ?_
    obtain ⟨h8, k⟩ := k
    obtain ⟨h9, k⟩ := k
    obtain ⟨h10, k⟩ := k
    refine x_iald (pc2 := 172) h8 h9 h10 dX5_advance_171 rfl ?_
    refine x_bipush (pc2 := 174) dX5_advance_172 rfl rfl ?_
    obtain ⟨h11, k⟩ := k
    obtain ⟨k1, k2⟩ := k
    refine x_icmp_lt (tgt := 204) (pc2 := 177) dX5_advance_174 (by decide) rfl h11 (by decide) (fun c12 => ?_) (fun c12 => ?_)
    · replace k := k1 c12
      refine x_aload_n (pc2 := 205) dX5_advance_204 rfl rfl ?_
      refine x_iload_n (pc2 := 206) dX5_advance_205 rfl rfl ?_
      obtain ⟨g14, k⟩ := k
      have kj : S_X5_advance sc d 218 [aR 32, aI l1, aU] [aI (if l1 = 0 then 259 else 256 : Int), aR 32] m Q := by
        refine x_putf (pc2 := 221) (x := (if l1 = 0 then 259 else 256 : Int)) fl_X5_41 ft_5_4 ic_32 (pv_i _ ic_32 rfl) (pn_i _) dX5_advance_218 rfl ?_
        refine x_aload_n (pc2 := 222) dX5_advance_221 rfl rfl ?_
        refine x_aload_n (pc2 := 223) dX5_advance_222 rfl rfl ?_
        refine x_aload_n (pc2 := 224) dX5_advance_223 rfl rfl ?_
        refine x_getf (pc2 := 227) (v := aI ((wr m 32 4 (if l1 = 0 then 259 else 256 : Int)) 32 3)) fl_X5_57 ic_32 (fv_i _ ic_32 rfl) dX5_advance_224 rfl ?_
        refine x_aload_n (pc2 := 228) dX5_advance_227 rfl rfl ?_
        refine x_getf (pc2 := 231) (v := aI ((wr m 32 4 (if l1 = 0 then 259 else 256 : Int)) 32 2)) fl_X5_38 ic_32 (fv_i _ ic_32 rfl) dX5_advance_228 rfl ?_
        exact x_drop (drp_k (drp_u (drp_k drp_n))) k
      have h15 := g14 
      refine x_if_eq (tgt := 215) (pc2 := 209) dX5_advance_206 (by decide) rfl h15 (fun c16 => ?_) (fun c16 => ?_)
      · skip
        refine x_sipush (pc2 := 218) dX5_advance_215 rfl rfl ?_
        exact x_topI (if_pos c16) kj
      · skip
        refine x_sipush (pc2 := 212) dX5_advance_209 rfl rfl ?_
        refine x_goto (tgt := 218) dX5_advance_212 (by decide) ?_
        exact x_topI (if_neg c16) kj
    · replace k := k2 c12
      refine x_aload_n (pc2 := 178) dX5_advance_177 rfl rfl ?_
      refine x_getf (pc2 := 181) (v := aR (m 32 0)) fl_X5_9 ic_32 (fv_m _ ic_32 rfl) dX5_advance_178 rfl ?_
      refine x_aload_n (pc2 := 182) dX5_advance_181 rfl rfl ?_
      refine x_getf (pc2 := 185) (v := aI (m 32 2)) fl_X5_38 ic_32 (fv_i _ ic_32 rfl) dX5_advance_182 rfl ?_
      refine x_iald (pc2 := 186) h8 h9 h10 dX5_advance_185 rfl ?_
      refine x_bipush (pc2 := 188) dX5_advance_186 rfl rfl ?_
      obtain ⟨k1, k2⟩ := k
      refine x_icmp_gt (tgt := 204) (pc2 := 191) dX5_advance_188 (by decide) rfl h11 (by decide) (fun c17 => ?_) (fun c17 => ?_)
      · replace k := k1 c17
        refine x_aload_n (pc2 := 205) dX5_advance_204 rfl rfl ?_
        refine x_iload_n (pc2 := 206) dX5_advance_205 rfl rfl ?_
        obtain ⟨g19, k⟩ := k
        have kj : S_X5_advance sc d 218 [aR 32, aI l1, aU] [aI (if l1 = 0 then 259 else 256 : Int), aR 32] m Q := by
          refine x_putf (pc2 := 221) (x := (if l1 = 0 then 259 else 256 : Int)) fl_X5_41 ft_5_4 ic_32 (pv_i _ ic_32 rfl) (pn_i _) dX5_advance_218 rfl ?_
          refine x_aload_n (pc2 := 222) dX5_advance_221 rfl rfl ?_
          refine x_aload_n (pc2 := 223) dX5_advance_222 rfl rfl ?_
          refine x_aload_n (pc2 := 224) dX5_advance_223 rfl rfl ?_
          refine x_getf (pc2 := 227) (v := aI ((wr m 32 4 (if l1 = 0 then 259 else 256 : Int)) 32 3)) fl_X5_57 ic_32 (fv_i _ ic_32 rfl) dX5_advance_224 rfl ?_
          refine x_aload_n (pc2 := 228) dX5_advance_227 rfl rfl ?_
          refine x_getf (pc2 := 231) (v := aI ((wr m 32 4 (if l1 = 0 then 259 else 256 : Int)) 32 2)) fl_X5_38 ic_32 (fv_i _ ic_32 rfl) dX5_advance_228 rfl ?_
          exact x_drop (drp_k (drp_u (drp_k drp_n))) k
        have h20 := g19 
        refine x_if_eq (tgt := 215) (pc2 := 209) dX5_advance_206 (by decide) rfl h20 (fun c21 => ?_) (fun c21 => ?_)
        · skip
          refine x_sipush (pc2 := 218) dX5_advance_215 rfl rfl ?_
          exact x_topI (if_pos c21) kj
        · skip
          refine x_sipush (pc2 := 212) dX5_advance_209 rfl rfl ?_
          refine x_goto (tgt := 218) dX5_advance_212 (by decide) ?_
          exact x_topI (if_neg c21) kj
      · replace k := k2 c17
        refine x_aload_n (pc2 := 192) dX5_advance_191 rfl rfl ?_
        refine x_dup_r (pc2 := 193) dX5_advance_192 rfl (by decide) ?_
        refine x_getf (pc2 := 196) (v := aI (m 32 2)) fl_X5_38 ic_32 (fv_i _ ic_32 rfl) dX5_advance_193 rfl ?_
        refine x_iconst (pc2 := 197) dX5_advance_196 rfl ?_
        refine x_iadd (pc2 := 198) dX5_advance_197 rfl ?_
        refine x_putf (pc2 := 201) (x := ((m 32 2) + 1)) fl_X5_38 ft_5_2 ic_32 (pv_i _ ic_32 rfl) (pn_i _) dX5_advance_198 rfl ?_
        refine x_goto (tgt := 152) dX5_advance_201 (by decide) ?_
        exact k
set_option maxRecDepth 4000 in
theorem g_X5_advance_234 {sc : List Int} {d : Nat} {m : Mem} {Q : Option AV → Mem → Prop} {s1 : Int} (k : Q none (wr m 32 5 s1)) : S_X5_advance sc d 234 [aR 32, aU, aU] [aI s1, aR 32] m Q := by
  refine x_putf (pc2 := 237) (x := s1) fl_X5_60 ft_5_5 ic_32 (pv_i _ ic_32 rfl) (pn_i _) dX5_advance_234 rfl ?_
  refine x_goto (tgt := 381) dX5_advance_237 (by decide) ?_
  exact x_return dX5_advance_381 rfl k
set_option maxRecDepth 4000 in
theorem g_X5_advance_260 {sc : List Int} {d : Nat} {m : Mem} {Q : Option AV → Mem → Prop} {l1 : Int} (k : (-2147483648 ≤ (m 32 2) ∧ (m 32 2) < 2147483648) ∧ (-2147483648 ≤ (m 32 1) ∧ (m 32 1) < 2147483648) ∧ (((m 32 1) ≤ (m 32 2)) → (((-2147483648 ≤ l1 ∧ l1 < 2147483648)) ∧ Q none (wr m 32 4 (if l1 = 0 then 259 else 257 : Int)))) ∧ (¬ ((m 32 1) ≤ (m 32 2)) → ((IsC (m 32 0) 100) ∧ (0 ≤ (m 32 2)) ∧ ((m 32 2) < alen (m 32 0)) ∧ (-2147483648 ≤ (m (m 32 0) (m 32 2)) ∧ (m (m 32 0) (m 32 2)) < 2147483648) ∧ (((m (m 32 0) (m 32 2)) < 48) → (((-2147483648 ≤ l1 ∧ l1 < 2147483648)) ∧ Q none (wr m 32 4 (if l1 = 0 then 259 else 257 : Int)))) ∧ (¬ ((m (m 32 0) (m 32 2)) < 48) → (((57 < (m (m 32 0) (m 32 2))) → (((-2147483648 ≤ l1 ∧ l1 < 2147483648)) ∧ Q none (wr m 32 4 (if l1 = 0 then 259 else 257 : Int)))) ∧ (¬ (57 < (m (m 32 0) (m 32 2))) → (((-2147483648 ≤ ((m 32 2) - (m 32 3)) ∧ ((m 32 2) - (m 32 3)) < 2147483648)) ∧ S_X5_advance sc d 260 [aR 32, aI l1, aU] [] (wr (wr m 32 6 (if 4 ≤ ((m 32 2) - (m 32 3)) then (m 32 6) else (((10 * (m 32 6)) + (m (m 32 0) (m 32 2))) - 48) : Int)) 32 2 (((wr m 32 6 (if 4 ≤ ((m 32 2) - (m 32 3)) then (m 32 6) else (((10 * (m 32 6)) + (m (m 32 0) (m 32 2))) - 48) : Int)) 32 2) + 1)) Q))))))) : S_X5_advance sc d 260 [aR 32, aI l1, aU] [] m Q := by
  refine x_aload_n (pc2 := 261) dX5_advance_260 rfl rfl ?_
  refine x_getf (pc2 := 264) (v := aI (m 32 2)) fl_X5_38 ic_32 (fv_i _ ic_32 rfl) dX5_advance_261 rfl ?_
  refine x_aload_n (pc2 := 265) dX5_advance_264 rfl rfl ?_
  refine x_getf (pc2 := 268) (v := aI (m 32 1)) fl_X5_35 ic_32 (fv_i _ ic_32 rfl) dX5_advance_265 rfl ?_
  obtain ⟨h1, k⟩ := k
  obtain ⟨h2, k⟩ := k
  obtain ⟨k1, k2⟩ := k
  refine x_icmp_ge (tgt := 356) (pc2 := 271) dX5_advance_268 (by decide) rfl h1 h2 (fun c3 => ?_) (fun c3 => ?_)
  · replace k := k1 c3
    refine x_aload_n (pc2 := 357) dX5_advance_356 rfl rfl ?_
    refine x_iload_n (pc2 := 358) dX5_advance_357 rfl rfl ?_
    obtain ⟨g5, k⟩ := k
    have kj : S_X5_advance sc d 370 [aR 32, aI l1, aU] [aI (if l1 = 0 then 259 else 257 : Int), aR 32] m Q := by
      refine x_putf (pc2 := 373) (x := (if l1 = 0 then 259 else 257 : Int)) fl_X5_41 ft_5_4 ic_32 (pv_i _ ic_32 rfl) (pn_i _) dX5_advance_370 rfl ?_
      refine x_goto (tgt := 381) dX5_advance_373 (by decide) ?_
      exact x_return dX5_advance_381 rfl k
    have h6 := g5 
    refine x_if_eq (tgt := 367) (pc2 := 361) dX5_advance_358 (by decide) rfl h6 (fun c7 => ?_) (fun c7 => ?_)
    · skip
      refine x_sipush (pc2 := 370) dX5_advance_367 rfl rfl ?_
      exact x_topI (if_pos c7) kj
    · skip
      refine x_sipush (pc2 := 364) dX5_advance_361 rfl rfl ?_
      refine x_goto (tgt := 370) dX5_advance_364 (by decide) ?_
      exact x_topI (if_neg c7) kj
  · replace k := k2 c3
    refine x_aload_n (pc2 := 272) dX5_advance_271 rfl rfl ?_
    refine x_getf (pc2 := 275) (v := aR (m 32 0)) fl_X5_9 ic_32 (fv_m _ ic_32 rfl) dX5_advance_272 rfl ?_
    refine x_aload_n (pc2 := 276) dX5_advance_275 rfl rfl ?_
    refine x_getf (pc2 := 279) (v := aI (m 32 2)) fl_X5_38 ic_32 (fv_i _ ic_32 rfl) dX5_advance_276 rfl ?_
    obtain ⟨h8, k⟩ := k
    obtain ⟨h9, k⟩ := k
    obtain ⟨h10, k⟩ := k
    refine x_iald (pc2 := 280) h8 h9 h10 dX5_advance_279 rfl ?_
    refine x_bipush (pc2 := 282) dX5_advance_280 rfl rfl ?_
    obtain ⟨h11, k⟩ := k
    obtain ⟨k1, k2⟩ := k
    refine x_icmp_lt (tgt := 356) (pc2 := 285) dX5_advance_282 (by decide) rfl h11 (by decide) (fun c12 => ?_) (fun c12 => ?_)
    · replace k := k1 c12
      refine x_aload_n (pc2 := 357) dX5_advance_356 rfl rfl ?_
      refine x_iload_n (pc2 := 358) dX5_advance_357 rfl rfl ?_
      obtain ⟨g14, k⟩ := k
      have kj : S_X5_advance sc d 370 [aR 32, aI l1, aU] [aI (if l1 = 0 then 259 else 257 : Int), aR 32] m Q := by
        refine x_putf (pc2 := 373) (x := (if l1 = 0 then 259 else 257 : Int)) fl_X5_41 ft_5_4 ic_32 (pv_i _ ic_32 rfl) (pn_i _) dX5_advance_370 rfl ?_
        refine x_goto (tgt := 381) dX5_advance_373 (by decide) ?_
        exact x_return dX5_advance_381 rfl k
      have h15 := g14 
      refine x_if_eq (tgt := 367) (pc2 := 361) dX5_advance_358 (by decide) rfl h15 (fun c16 => ?_) (fun c16 => ?_)
      · skip
        refine x_sipush (pc2 := 370) dX5_advance_367 rfl rfl ?_
        exact x_topI (if_pos c16) kj
      · skip
        refine x_sipush (pc2 := 364) dX5_advance_361 rfl rfl ?_
        refine x_goto (tgt := 370) dX5_advance_364 (by decide) ?_
        exact x_topI (if_neg c16) kj
    · replace k := k2 c12
      refine x_aload_n (pc2 := 286) dX5_advance_285 rfl rfl ?_
      refine x_getf (pc2 := 289) (v := aR (m 32 0)) fl_X5_9 ic_32 (fv_m _ ic_32 rfl) dX5_advance_286 rfl ?_
      refine x_aload_n (pc2 := 290) dX5_advance_289 rfl rfl ?_
      refine x_getf (pc2 := 293) (v := aI (m 32 2)) fl_X5_38 ic_32 (fv_i _ ic_32 rfl) dX5_advance_290 rfl ?_
      refine x_iald (pc2 := 294) h8 h9 h10 dX5_advance_293 rfl ?_
      refine x_bipush (pc2 := 296) dX5_advance_294 rfl rfl ?_
      obtain ⟨k1, k2⟩ := k
      refine x_icmp_gt (tgt := 356) (pc2 := 299) dX5_advance_296 (by decide) rfl h11 (by decide) (fun c17 => ?_) (fun c17 => ?_)
      · replace k := k1 c17
        refine x_aload_n (pc2 := 357) dX5_advance_356 rfl rfl ?_
        refine x_iload_n (pc2 := 358) dX5_advance_357 rfl rfl ?_
        obtain ⟨g19, k⟩ := k
        have kj : S_X5_advance sc d 370 [aR 32, aI l1, aU] [aI (if l1 = 0 then 259 else 257 : Int), aR 32] m Q := by
          refine x_putf (pc2 := 373) (x := (if l1 = 0 then 259 else 257 : Int)) fl_X5_41 ft_5_4 ic_32 (pv_i _ ic_32 rfl) (pn_i _) dX5_advance_370 rfl ?_
          refine x_goto (tgt := 381) dX5_advance_373 (by decide) ?_
          exact x_return dX5_advance_381 rfl k
        have h20 := g19 
        refine x_if_eq (tgt := 367) (pc2 := 361) dX5_advance_358 (by decide) rfl h20 (fun c21 => ?_) (fun c21 => ?_)
        · skip
          refine x_sipush (pc2 := 370) dX5_advance_367 rfl rfl ?_
          exact x_topI (if_pos c21) kj
        · skip
          refine x_sipush (pc2 := 364) dX5_advance_361 rfl rfl ?_
          refine x_goto (tgt := 370) dX5_advance_364 (by decide) ?_
          exact x_topI (if_neg c21) kj
      · replace k := k2 c17
        refine x_aload_n (pc2 := 300) dX5_advance_299 rfl rfl ?_
        refine x_aload_n (pc2 := 301) dX5_advance_300 rfl rfl ?_
        refine x_getf (pc2 := 304) (v := aI (m 32 2)) fl_X5_38 ic_32 (fv_i _ ic_32 rfl) dX5_advance_301 rfl ?_
        refine x_aload_n (pc2 := 305) dX5_advance_304 rfl rfl ?_
        refine x_getf (pc2 := 308) (v := aI (m 32 3)) fl_X5_57 ic_32 (fv_i _ ic_32 rfl) dX5_advance_305 rfl ?_
        refine x_isub (pc2 := 309) dX5_advance_308 rfl ?_
        refine x_iconst (pc2 := 310) dX5_advance_309 rfl ?_
        obtain ⟨g23, k⟩ := k
        have kj : S_X5_advance sc d 340 [aR 32, aI l1, aU] [aI (if 4 ≤ ((m 32 2) - (m 32 3)) then (m 32 6) else (((10 * (m 32 6)) + (m (m 32 0) (m 32 2))) - 48) : Int), aR 32] m Q := by
          refine x_putf (pc2 := 343) (x := (if 4 ≤ ((m 32 2) - (m 32 3)) then (m 32 6) else (((10 * (m 32 6)) + (m (m 32 0) (m 32 2))) - 48) : Int)) fl_X5_66 ft_5_6 ic_32 (pv_i _ ic_32 rfl) (pn_i _) dX5_advance_340 rfl ?_
          refine x_aload_n (pc2 := 344) dX5_advance_343 rfl rfl ?_
          refine x_dup_r (pc2 := 345) dX5_advance_344 rfl (by decide) ?_
          refine x_getf (pc2 := 348) (v := aI ((wr m 32 6 (if 4 ≤ ((m 32 2) - (m 32 3)) then (m 32 6) else (((10 * (m 32 6)) + (m (m 32 0) (m 32 2))) - 48) : Int)) 32 2)) fl_X5_38 ic_32 (fv_i _ ic_32 rfl) dX5_advance_345 rfl ?_
          refine x_iconst (pc2 := 349) dX5_advance_348 rfl ?_
          refine x_iadd (pc2 := 350) dX5_advance_349 rfl ?_
          refine x_putf (pc2 := 353) (x := (((wr m 32 6 (if 4 ≤ ((m 32 2) - (m 32 3)) then (m 32 6) else (((10 * (m 32 6)) + (m (m 32 0) (m 32 2))) - 48) : Int)) 32 2) + 1)) fl_X5_38 ft_5_2 ic_32 (pv_i _ ic_32 rfl) (pn_i _) dX5_advance_350 rfl ?_
          refine x_goto (tgt := 260) dX5_advance_353 (by decide) ?_
          exact k
        have h24 := g23 
        refine x_icmp_ge (tgt := 336) (pc2 := 313) dX5_advance_310 (by decide) rfl h24 (by decide) (fun c25 => ?_) (fun c25 => ?_)
        · skip
          refine x_aload_n (pc2 := 337) dX5_advance_336 rfl rfl ?_
          refine x_getf (pc2 := 340) (v := aI (m 32 6)) fl_X5_66 ic_32 (fv_i _ ic_32 rfl) dX5_advance_337 rfl ?_
          exact x_topI (if_pos c25) kj
        · skip
          refine x_bipush (pc2 := 315) dX5_advance_313 rfl rfl ?_
          refine x_aload_n (pc2 := 316) dX5_advance_315 rfl rfl ?_
          refine x_getf (pc2 := 319) (v := aI (m 32 6)) fl_X5_66 ic_32 (fv_i _ ic_32 rfl) dX5_advance_316 rfl ?_
          refine x_imul (pc2 := 320) dX5_advance_319 rfl ?_
          refine x_aload_n (pc2 := 321) dX5_advance_320 rfl rfl ?_
          refine x_getf (pc2 := 324) (v := aR (m 32 0)) fl_X5_9 ic_32 (fv_m _ ic_32 rfl) dX5_advance_321 rfl ?_
          refine x_aload_n (pc2 := 325) dX5_advance_324 rfl rfl ?_
          refine x_getf (pc2 := 328) (v := aI (m 32 2)) fl_X5_38 ic_32 (fv_i _ ic_32 rfl) dX5_advance_325 rfl ?_
          refine x_iald (pc2 := 329) h8 h9 h10 dX5_advance_328 rfl ?_
          refine x_iadd (pc2 := 330) dX5_advance_329 rfl ?_
          refine x_bipush (pc2 := 332) dX5_advance_330 rfl rfl ?_
          refine x_isub (pc2 := 333) dX5_advance_332 rfl ?_
          refine x_goto (tgt := 340) dX5_advance_333 (by decide) ?_
          exact x_topI (if_neg c25) kj
theorem c_X5_advance_231 {sc : List Int} {d d2 : Nat} {m m2 : Mem} {Q : Option AV → Mem → Prop} {s2 s3 : Int} {v : Int} (hM : C_X5_wordBetween sc d2 [aR 32, aI s2, aI s3] m (some (aI v)) m2) (hd : d2 + 1 ≤ d) (k : S_X5_advance sc d 234 [aR 32, aU, aU] [aI v, aR 32] m2 Q) : S_X5_advance sc d 231 [aR 32, aU, aU] [aI s3, aI s2, aR 32, aR 32] m Q := x_callV (as := [aI s2, aI s3]) (rest := [aR 32]) hM mk_X5_wordBetween mv_X5_wordBetween lk_X5_63 (Or.inl ⟨5, (RX5, TX5, 12), ic_32, Nat.le_of_ble_eq_true rfl, rfl, rfl⟩) hd rfl rfl (Nat.le_of_ble_eq_true rfl) dX5_advance_231 rfl k
set_option maxRecDepth 4000 in
theorem g_X5_wordBetween_0 {sc : List Int} {d : Nat} {m : Mem} {Q : Option AV → Mem → Prop} {l1 l2 : Int} (k : S_X5_wordBetween sc d 11 [aR 32, aI l1, aI l2, aI 0, aI l1, aI 1, aI 0, aU] [] m Q) : S_X5_wordBetween sc d 0 [aR 32, aI l1, aI l2, aU, aU, aU, aU, aU] [] m Q := by
  refine x_iconst (pc2 := 1) dX5_wordBetween_0 rfl ?_
  refine x_istore_n (pc2 := 2) (ls2 := [aR 32, aI l1, aI l2, aI 0, aU, aU, aU, aU]) dX5_wordBetween_1 rfl (by decide) rfl ?_
  refine x_iload_n (pc2 := 3) dX5_wordBetween_2 rfl rfl ?_
  refine x_istore (pc2 := 5) (ls2 := [aR 32, aI l1, aI l2, aI 0, aI l1, aU, aU, aU]) dX5_wordBetween_3 rfl (by decide) rfl ?_
  refine x_iconst (pc2 := 6) dX5_wordBetween_5 rfl ?_
  refine x_istore (pc2 := 8) (ls2 := [aR 32, aI l1, aI l2, aI 0, aI l1, aI 1, aU, aU]) dX5_wordBetween_6 rfl (by decide) rfl ?_
  refine x_iconst (pc2 := 9) dX5_wordBetween_8 rfl ?_
  refine x_istore (pc2 := 11) (ls2 := [aR 32, aI l1, aI l2, aI 0, aI l1, aI 1, aI 0, aU]) dX5_wordBetween_9 rfl (by decide) rfl ?_
  exact k
set_option maxRecDepth 4000 in
theorem g_X5_wordBetween_11 {sc : List Int} {d : Nat} {m : Mem} {Q : Option AV → Mem → Prop} {l1 l2 l3 l4 l5 l6 : Int} (k : S_X5_wordBetween sc d 15 [aR 32, aI l1, aI l2, aI l3, aI l4, aI l5, aI l6, aU] [aR (-5), aI l6] m Q) : S_X5_wordBetween sc d 11 [aR 32, aI l1, aI l2, aI l3, aI l4, aI l5, aI l6, aU] [] m Q := by
  refine x_iload (pc2 := 13) dX5_wordBetween_11 rfl rfl ?_
  refine x_ldcS (pc2 := 15) rfl dX5_wordBetween_13 rfl ?_
  exact k
set_option maxRecDepth 4000 in
theorem g_X5_wordBetween_18 {sc : List Int} {d : Nat} {m : Mem} {Q : Option AV → Mem → Prop} {l1 l2 l3 l4 l5 l6 s0 s1 : Int} (k : (-2147483648 ≤ s0 ∧ s0 < 2147483648) ∧ (-2147483648 ≤ s1 ∧ s1 < 2147483648) ∧ ((s1 ≤ s0) → (Q (some (aI (-1))) m)) ∧ (¬ (s1 ≤ s0) → (S_X5_wordBetween sc d 25 [aR 32, aI l1, aI l2, aI l3, aI l4, aI l5, aI l6, aU] [aI l6, aR (-5)] m Q))) : S_X5_wordBetween sc d 18 [aR 32, aI l1, aI l2, aI l3, aI l4, aI l5, aI l6, aU] [aI s1, aI s0] m Q := by
  obtain ⟨h1, k⟩ := k
  obtain ⟨h2, k⟩ := k
  obtain ⟨k1, k2⟩ := k
  refine x_icmp_ge (tgt := 110) (pc2 := 21) dX5_wordBetween_18 (by decide) rfl h1 h2 (fun c3 => ?_) (fun c3 => ?_)
  · replace k := k1 c3
    refine x_iconst (pc2 := 111) dX5_wordBetween_110 rfl ?_
    exact x_ireturn dX5_wordBetween_111 ⟨.int, rfl, rfl⟩ k
  · replace k := k2 c3
    refine x_ldcS (pc2 := 23) rfl dX5_wordBetween_21 rfl ?_
    refine x_iload (pc2 := 25) dX5_wordBetween_23 rfl rfl ?_
    exact k
set_option maxRecDepth 4000 in
theorem g_X5_wordBetween_28 {sc : List Int} {d : Nat} {m : Mem} {Q : Option AV → Mem → Prop} {l1 l2 l3 l4 l5 l6 s0 : Int} (k : (-2147483648 ≤ s0 ∧ s0 < 2147483648) ∧ ((s0 = 32) → ((-2147483648 ≤ l5 ∧ l5 < 2147483648) ∧ ((l5 = 0) → (S_X5_wordBetween sc d 11 [aR 32, aI l1, aI l2, aI (l3 + 1), aI l1, aI 1, aI (l6 + 1), aU] [] m Q)) ∧ (¬ (l5 = 0) → ((-2147483648 ≤ l4 ∧ l4 < 2147483648) ∧ (-2147483648 ≤ l2 ∧ l2 < 2147483648) ∧ ((l4 ≠ l2) → (S_X5_wordBetween sc d 11 [aR 32, aI l1, aI l2, aI (l3 + 1), aI l1, aI 1, aI (l6 + 1), aU] [] m Q)) ∧ (¬ (l4 ≠ l2) → (Q (some (aI l3)) m)))))) ∧ (¬ (s0 = 32) → (((-2147483648 ≤ l5 ∧ l5 < 2147483648)) ∧ ((¬ (l5 = 0)) → (-2147483648 ≤ l4 ∧ l4 < 2147483648)) ∧ ((¬ (l5 = 0)) → (-2147483648 ≤ l2 ∧ l2 < 2147483648)) ∧ ((¬ (l5 = 0)) → (¬ (l2 ≤ l4)) → (-2147483648 ≤ (m 32 1) ∧ (m 32 1) < 2147483648)) ∧ ((¬ (l5 = 0)) → (¬ (l2 ≤ l4)) → (¬ ((m 32 1) ≤ l4)) → (IsC (m 32 0) 100)) ∧ ((¬ (l5 = 0)) → (¬ (l2 ≤ l4)) → (¬ ((m 32 1) ≤ l4)) → (0 ≤ l4)) ∧ ((¬ (l5 = 0)) → (¬ (l2 ≤ l4)) → (¬ ((m 32 1) ≤ l4)) → (l4 < alen (m 32 0))) ∧ ((¬ (l5 = 0)) → (¬ (l2 ≤ l4)) → (¬ ((m 32 1) ≤ l4)) → (-2147483648 ≤ (m (m 32 0) l4) ∧ (m (m 32 0) l4) < 2147483648)) ∧ S_X5_wordBetween sc d 11 [aR 32, aI l1, aI l2, aI l3, aI (l4 + 1), aI (if l5 = 0 then 0 else (if l2 ≤ l4 then 0 else (if (m 32 1) ≤ l4 then 0 else (if (m (m 32 0) l4) ≠ s0 then 0 else 1 : Int) : Int) : Int) : Int), aI (l6 + 1), aU] [] m Q))) : S_X5_wordBetween sc d 28 [aR 32, aI l1, aI l2, aI l3, aI l4, aI l5, aI l6, aU] [aI s0] m Q := by
  refine x_istore (pc2 := 30) (ls2 := [aR 32, aI l1, aI l2, aI l3, aI l4, aI l5, aI l6, aI s0]) dX5_wordBetween_28 rfl (by decide) rfl ?_
  refine x_iload (pc2 := 32) dX5_wordBetween_30 rfl rfl ?_
  refine x_bipush (pc2 := 34) dX5_wordBetween_32 rfl rfl ?_
  obtain ⟨h1, k⟩ := k
  obtain ⟨k1, k2⟩ := k
  refine x_icmp_eq (tgt := 82) (pc2 := 37) dX5_wordBetween_34 (by decide) rfl h1 (by decide) (fun c2 => ?_) (fun c2 => ?_)
  · replace k := k1 c2
    refine x_iload (pc2 := 84) dX5_wordBetween_82 rfl rfl ?_
    obtain ⟨h3, k⟩ := k
    obtain ⟨k1, k2⟩ := k
    refine x_if_eq (tgt := 95) (pc2 := 87) dX5_wordBetween_84 (by decide) rfl h3 (fun c4 => ?_) (fun c4 => ?_)
    · replace k := k1 c4
      refine x_iinc (pc2 := 98) (ls2 := [aR 32, aI l1, aI l2, aI (l3 + 1), aI l4, aI l5, aI l6, aI s0]) dX5_wordBetween_95 rfl rfl (by decide) rfl ?_
      refine x_iload_n (pc2 := 99) dX5_wordBetween_98 rfl rfl ?_
      refine x_istore (pc2 := 101) (ls2 := [aR 32, aI l1, aI l2, aI (l3 + 1), aI l1, aI l5, aI l6, aI s0]) dX5_wordBetween_99 rfl (by decide) rfl ?_
      refine x_iconst (pc2 := 102) dX5_wordBetween_101 rfl ?_
      refine x_istore (pc2 := 104) (ls2 := [aR 32, aI l1, aI l2, aI (l3 + 1), aI l1, aI 1, aI l6, aI s0]) dX5_wordBetween_102 rfl (by decide) rfl ?_
      refine x_iinc (pc2 := 107) (ls2 := [aR 32, aI l1, aI l2, aI (l3 + 1), aI l1, aI 1, aI (l6 + 1), aI s0]) dX5_wordBetween_104 rfl rfl (by decide) rfl ?_
      refine x_goto (tgt := 11) dX5_wordBetween_107 (by decide) ?_
      exact x_drop (drp_k (drp_k (drp_k (drp_k (drp_k (drp_k (drp_k (drp_u drp_n)))))))) k
    · replace k := k2 c4
      refine x_iload (pc2 := 89) dX5_wordBetween_87 rfl rfl ?_
      refine x_iload_n (pc2 := 90) dX5_wordBetween_89 rfl rfl ?_
      obtain ⟨h5, k⟩ := k
      obtain ⟨h6, k⟩ := k
      obtain ⟨k1, k2⟩ := k
      refine x_icmp_ne (tgt := 95) (pc2 := 93) dX5_wordBetween_90 (by decide) rfl h5 h6 (fun c7 => ?_) (fun c7 => ?_)
      · replace k := k1 c7
        refine x_iinc (pc2 := 98) (ls2 := [aR 32, aI l1, aI l2, aI (l3 + 1), aI l4, aI l5, aI l6, aI s0]) dX5_wordBetween_95 rfl rfl (by decide) rfl ?_
        refine x_iload_n (pc2 := 99) dX5_wordBetween_98 rfl rfl ?_
        refine x_istore (pc2 := 101) (ls2 := [aR 32, aI l1, aI l2, aI (l3 + 1), aI l1, aI l5, aI l6, aI s0]) dX5_wordBetween_99 rfl (by decide) rfl ?_
        refine x_iconst (pc2 := 102) dX5_wordBetween_101 rfl ?_
        refine x_istore (pc2 := 104) (ls2 := [aR 32, aI l1, aI l2, aI (l3 + 1), aI l1, aI 1, aI l6, aI s0]) dX5_wordBetween_102 rfl (by decide) rfl ?_
        refine x_iinc (pc2 := 107) (ls2 := [aR 32, aI l1, aI l2, aI (l3 + 1), aI l1, aI 1, aI (l6 + 1), aI s0]) dX5_wordBetween_104 rfl rfl (by decide) rfl ?_
        refine x_goto (tgt := 11) dX5_wordBetween_107 (by decide) ?_
        exact x_drop (drp_k (drp_k (drp_k (drp_k (drp_k (drp_k (drp_k (drp_u drp_n)))))))) k
      · replace k := k2 c7
        refine x_iload_n (pc2 := 94) dX5_wordBetween_93 rfl rfl ?_
        exact x_ireturn dX5_wordBetween_94 ⟨.int, rfl, rfl⟩ k
  · replace k := k2 c2
    refine x_iload (pc2 := 39) dX5_wordBetween_37 rfl rfl ?_
    obtain ⟨g9, k⟩ := k
    obtain ⟨g12, k⟩ := k
    obtain ⟨g13, k⟩ := k
    obtain ⟨g15, k⟩ := k
    obtain ⟨g19, k⟩ := k
    obtain ⟨g20, k⟩ := k
    obtain ⟨g21, k⟩ := k
    obtain ⟨g23, k⟩ := k
    have kj : S_X5_wordBetween sc d 74 [aR 32, aI l1, aI l2, aI l3, aI l4, aI l5, aI l6, aI s0] [aI (if l5 = 0 then 0 else (if l2 ≤ l4 then 0 else (if (m 32 1) ≤ l4 then 0 else (if (m (m 32 0) l4) ≠ s0 then 0 else 1 : Int) : Int) : Int) : Int)] m Q := by
      refine x_istore (pc2 := 76) (ls2 := [aR 32, aI l1, aI l2, aI l3, aI l4, aI (if l5 = 0 then 0 else (if l2 ≤ l4 then 0 else (if (m 32 1) ≤ l4 then 0 else (if (m (m 32 0) l4) ≠ s0 then 0 else 1 : Int) : Int) : Int) : Int), aI l6, aI s0]) dX5_wordBetween_74 rfl (by decide) rfl ?_
      refine x_iinc (pc2 := 79) (ls2 := [aR 32, aI l1, aI l2, aI l3, aI (l4 + 1), aI (if l5 = 0 then 0 else (if l2 ≤ l4 then 0 else (if (m 32 1) ≤ l4 then 0 else (if (m (m 32 0) l4) ≠ s0 then 0 else 1 : Int) : Int) : Int) : Int), aI l6, aI s0]) dX5_wordBetween_76 rfl rfl (by decide) rfl ?_
      refine x_goto (tgt := 104) dX5_wordBetween_79 (by decide) ?_
      refine x_iinc (pc2 := 107) (ls2 := [aR 32, aI l1, aI l2, aI l3, aI (l4 + 1), aI (if l5 = 0 then 0 else (if l2 ≤ l4 then 0 else (if (m 32 1) ≤ l4 then 0 else (if (m (m 32 0) l4) ≠ s0 then 0 else 1 : Int) : Int) : Int) : Int), aI (l6 + 1), aI s0]) dX5_wordBetween_104 rfl rfl (by decide) rfl ?_
      refine x_goto (tgt := 11) dX5_wordBetween_107 (by decide) ?_
      exact x_drop (drp_k (drp_k (drp_k (drp_k (drp_k (drp_k (drp_k (drp_u drp_n)))))))) k
    have h24 := g9 
    refine x_if_eq (tgt := 73) (pc2 := 42) dX5_wordBetween_39 (by decide) rfl h24 (fun c25 => ?_) (fun c25 => ?_)
    · skip
      refine x_iconst (pc2 := 74) dX5_wordBetween_73 rfl ?_
      exact x_topI (if_pos c25) kj
    · skip
      refine x_iload (pc2 := 44) dX5_wordBetween_42 rfl rfl ?_
      refine x_iload_n (pc2 := 45) dX5_wordBetween_44 rfl rfl ?_
      have h26 := g12 c25
      have h27 := g13 c25
      refine x_icmp_ge (tgt := 73) (pc2 := 48) dX5_wordBetween_45 (by decide) rfl h26 h27 (fun c28 => ?_) (fun c28 => ?_)
      · skip
        refine x_iconst (pc2 := 74) dX5_wordBetween_73 rfl ?_
        exact x_topI ((if_neg c25).trans (if_pos c28)) kj
      · skip
        refine x_iload (pc2 := 50) dX5_wordBetween_48 rfl rfl ?_
        refine x_aload_n (pc2 := 51) dX5_wordBetween_50 rfl rfl ?_
        refine x_getf (pc2 := 54) (v := aI (m 32 1)) fl_X5_35 ic_32 (fv_i _ ic_32 rfl) dX5_wordBetween_51 rfl ?_
        have h29 := g15 c25 c28
        refine x_icmp_ge (tgt := 73) (pc2 := 57) dX5_wordBetween_54 (by decide) rfl h26 h29 (fun c30 => ?_) (fun c30 => ?_)
        · skip
          refine x_iconst (pc2 := 74) dX5_wordBetween_73 rfl ?_
          exact x_topI ((if_neg c25).trans ((if_neg c28).trans (if_pos c30))) kj
        · skip
          refine x_aload_n (pc2 := 58) dX5_wordBetween_57 rfl rfl ?_
          refine x_getf (pc2 := 61) (v := aR (m 32 0)) fl_X5_9 ic_32 (fv_m _ ic_32 rfl) dX5_wordBetween_58 rfl ?_
          refine x_iload (pc2 := 63) dX5_wordBetween_61 rfl rfl ?_
          have h31 := g19 c25 c28 c30
          have h32 := g20 c25 c28 c30
          have h33 := g21 c25 c28 c30
          refine x_iald (pc2 := 64) h31 h32 h33 dX5_wordBetween_63 rfl ?_
          refine x_iload (pc2 := 66) dX5_wordBetween_64 rfl rfl ?_
          have h34 := g23 c25 c28 c30
          refine x_icmp_ne (tgt := 73) (pc2 := 69) dX5_wordBetween_66 (by decide) rfl h34 h1 (fun c35 => ?_) (fun c35 => ?_)
          · skip
            refine x_iconst (pc2 := 74) dX5_wordBetween_73 rfl ?_
            exact x_topI ((if_neg c25).trans ((if_neg c28).trans ((if_neg c30).trans (if_pos c35)))) kj
          · skip
            refine x_iconst (pc2 := 70) dX5_wordBetween_69 rfl ?_
            refine x_goto (tgt := 74) dX5_wordBetween_70 (by decide) ?_
            exact x_topI ((if_neg c25).trans ((if_neg c28).trans ((if_neg c30).trans (if_neg c35)))) kj
theorem c_X5_wordBetween_15 {sc : List Int} {d d2 : Nat} {m m2 : Mem} {Q : Option AV → Mem → Prop} {l1 l2 l3 l4 l5 l6 s0 : Int} {v : Int} (hM : C_J0_length_8abf5 sc d2 [aR (-5)] m (some (aI v)) m2) (hd : d2 + 1 ≤ d) (k : S_X5_wordBetween sc d 18 [aR 32, aI l1, aI l2, aI l3, aI l4, aI l5, aI l6, aU] [aI v, aI s0] m2 Q) : S_X5_wordBetween sc d 15 [aR 32, aI l1, aI l2, aI l3, aI l4, aI l5, aI l6, aU] [aR (-5), aI s0] m Q := x_callV (as := []) (rest := [aI s0]) hM mk_J0_length_8abf5 mv_J0_length_8abf5 lk_X5_71 (Or.inr ⟨rfl, rfl⟩) hd rfl rfl (Nat.le_of_ble_eq_true rfl) dX5_wordBetween_15 rfl k
theorem c_X5_wordBetween_25 {sc : List Int} {d d2 : Nat} {m m2 : Mem} {Q : Option AV → Mem → Prop} {l1 l2 l3 l4 l5 l6 s1 : Int} {v : Int} (hM : C_J0_charAt_5068e sc d2 [aR (-5), aI s1] m (some (aI v)) m2) (hd : d2 + 1 ≤ d) (k : S_X5_wordBetween sc d 28 [aR 32, aI l1, aI l2, aI l3, aI l4, aI l5, aI l6, aU] [aI v] m2 Q) : S_X5_wordBetween sc d 25 [aR 32, aI l1, aI l2, aI l3, aI l4, aI l5, aI l6, aU] [aI s1, aR (-5)] m Q := x_callV (as := [aI s1]) (rest := []) hM mk_J0_charAt_5068e mv_J0_charAt_5068e lk_X5_76 (Or.inr ⟨rfl, rfl⟩) hd rfl rfl (Nat.le_of_ble_eq_true rfl) dX5_wordBetween_25 rfl k
set_option maxRecDepth 4000 in
theorem g_X5_isWord_0 {sc : List Int} {d : Nat} {m : Mem} {Q : Option AV → Mem → Prop} {l1 : Int} (k : ((-2147483648 ≤ (m 32 4) ∧ (m 32 4) < 2147483648)) ∧ ((¬ ((m 32 4) ≠ 256)) → (-2147483648 ≤ (m 32 5) ∧ (m 32 5) < 2147483648)) ∧ ((¬ ((m 32 4) ≠ 256)) → (-2147483648 ≤ l1 ∧ l1 < 2147483648)) ∧ Q (some (aI (if (m 32 4) ≠ 256 then 0 else (if (m 32 5) ≠ l1 then 0 else 1 : Int) : Int))) m) : S_X5_isWord sc d 0 [aR 32, aI l1] [] m Q := by
  refine x_aload_n (pc2 := 1) dX5_isWord_0 rfl rfl ?_
  refine x_getf (pc2 := 4) (v := aI (m 32 4)) fl_X5_41 ic_32 (fv_i _ ic_32 rfl) dX5_isWord_1 rfl ?_
  refine x_sipush (pc2 := 7) dX5_isWord_4 rfl rfl ?_
  obtain ⟨g2, k⟩ := k
  obtain ⟨g5, k⟩ := k
  obtain ⟨g6, k⟩ := k
  have kj : S_X5_isWord sc d 23 [aR 32, aI l1] [aI (if (m 32 4) ≠ 256 then 0 else (if (m 32 5) ≠ l1 then 0 else 1 : Int) : Int)] m Q := by
    exact x_ireturn dX5_isWord_23 (ret_z (by repeat (first | exact Or.inl rfl | exact Or.inr rfl | split))) k
  have h7 := g2 
  refine x_icmp_ne (tgt := 22) (pc2 := 10) dX5_isWord_7 (by decide) rfl h7 (by decide) (fun c8 => ?_) (fun c8 => ?_)
  · skip
    refine x_iconst (pc2 := 23) dX5_isWord_22 rfl ?_
    exact x_topI (if_pos c8) kj
  · skip
    refine x_aload_n (pc2 := 11) dX5_isWord_10 rfl rfl ?_
    refine x_getf (pc2 := 14) (v := aI (m 32 5)) fl_X5_60 ic_32 (fv_i _ ic_32 rfl) dX5_isWord_11 rfl ?_
    refine x_iload_n (pc2 := 15) dX5_isWord_14 rfl rfl ?_
    have h9 := g5 c8
    have h10 := g6 c8
    refine x_icmp_ne (tgt := 22) (pc2 := 18) dX5_isWord_15 (by decide) rfl h9 h10 (fun c11 => ?_) (fun c11 => ?_)
    · skip
      refine x_iconst (pc2 := 23) dX5_isWord_22 rfl ?_
      exact x_topI ((if_neg c8).trans (if_pos c11)) kj
    · skip
      refine x_iconst (pc2 := 19) dX5_isWord_18 rfl ?_
      refine x_goto (tgt := 23) dX5_isWord_19 (by decide) ?_
      exact x_topI ((if_neg c8).trans (if_neg c11)) kj
set_option maxRecDepth 4000 in
theorem g_X5_expect_0 {sc : List Int} {d : Nat} {m : Mem} {Q : Option AV → Mem → Prop} {l1 : Int} (k : S_X5_expect sc d 2 [aR 32, aU] [aI l1, aR 32] m Q) : S_X5_expect sc d 0 [aR 32, aI l1] [] m Q := by
  refine x_aload_n (pc2 := 1) dX5_expect_0 rfl rfl ?_
  refine x_iload_n (pc2 := 2) dX5_expect_1 rfl rfl ?_
  exact x_drop (drp_k (drp_u drp_n)) k
set_option maxRecDepth 4000 in
theorem g_X5_expect_5 {sc : List Int} {d : Nat} {m : Mem} {Q : Option AV → Mem → Prop} {s0 : Int} (k : (-2147483648 ≤ s0 ∧ s0 < 2147483648) ∧ ((s0 = 0) → (S_X5_expect sc d 21 [aR 32, aU] [aI (m 32 3), aI 1, aR 32] m Q)) ∧ (¬ (s0 = 0) → (S_X5_expect sc d 9 [aR 32, aU] [aR 32] m Q))) : S_X5_expect sc d 5 [aR 32, aU] [aI s0] m Q := by
  obtain ⟨h1, k⟩ := k
  obtain ⟨k1, k2⟩ := k
  refine x_if_eq (tgt := 15) (pc2 := 8) dX5_expect_5 (by decide) rfl h1 (fun c2 => ?_) (fun c2 => ?_)
  · replace k := k1 c2
    refine x_aload_n (pc2 := 16) dX5_expect_15 rfl rfl ?_
    refine x_iconst (pc2 := 17) dX5_expect_16 rfl ?_
    refine x_aload_n (pc2 := 18) dX5_expect_17 rfl rfl ?_
    refine x_getf (pc2 := 21) (v := aI (m 32 3)) fl_X5_57 ic_32 (fv_i _ ic_32 rfl) dX5_expect_18 rfl ?_
    exact k
  · replace k := k2 c2
    refine x_aload_n (pc2 := 9) dX5_expect_8 rfl rfl ?_
    exact k
set_option maxRecDepth 4000 in
theorem g_X5_expect_12 {sc : List Int} {d : Nat} {m : Mem} {Q : Option AV → Mem → Prop} (k : S_X5_expect sc d 24 [aR 32, aU] [] m Q) : S_X5_expect sc d 12 [aR 32, aU] [] m Q := by
  refine x_goto (tgt := 24) dX5_expect_12 (by decide) ?_
  exact k
set_option maxRecDepth 4000 in
theorem g_X5_expect_24 {sc : List Int} {d : Nat} {m : Mem} {Q : Option AV → Mem → Prop} (k : Q none m) : S_X5_expect sc d 24 [aR 32, aU] [] m Q := by
  exact x_return dX5_expect_24 rfl k
theorem c_X5_expect_2 {sc : List Int} {d d2 : Nat} {m m2 : Mem} {Q : Option AV → Mem → Prop} {s1 : Int} {v : Int} (hM : C_X5_isWord sc d2 [aR 32, aI s1] m (some (aI v)) m2) (hd : d2 + 1 ≤ d) (k : S_X5_expect sc d 5 [aR 32, aU] [aI v] m2 Q) : S_X5_expect sc d 2 [aR 32, aU] [aI s1, aR 32] m Q := x_callV (as := [aI s1]) (rest := []) hM mk_X5_isWord mv_X5_isWord lk_X5_80 (Or.inl ⟨5, (RX5, TX5, 12), ic_32, Nat.le_of_ble_eq_true rfl, rfl, rfl⟩) hd rfl rfl (Nat.le_of_ble_eq_true rfl) dX5_expect_2 rfl k
theorem c_X5_expect_9 {sc : List Int} {d d2 : Nat} {m m2 : Mem} {Q : Option AV → Mem → Prop} (hM : C_X5_advance sc d2 [aR 32] m none m2) (hd : d2 + 1 ≤ d) (k : S_X5_expect sc d 12 [aR 32, aU] [] m2 Q) : S_X5_expect sc d 9 [aR 32, aU] [aR 32] m Q := x_callV (as := []) (rest := []) hM mk_X5_advance mv_X5_advance lk_X5_54 (Or.inl ⟨5, (RX5, TX5, 12), ic_32, Nat.le_of_ble_eq_true rfl, rfl, rfl⟩) hd rfl rfl (Nat.le_of_ble_eq_true rfl) dX5_expect_9 rfl k
theorem c_X5_expect_21 {sc : List Int} {d d2 : Nat} {m m2 : Mem} {Q : Option AV → Mem → Prop} {s1 s2 : Int} (hM : C_X5_fail sc d2 [aR 32, aI s1, aI s2] m none m2) (hd : d2 + 1 ≤ d) (k : S_X5_expect sc d 24 [aR 32, aU] [] m2 Q) : S_X5_expect sc d 21 [aR 32, aU] [aI s2, aI s1, aR 32] m Q := x_callV (as := [aI s1, aI s2]) (rest := []) hM mk_X5_fail mv_X5_fail lk_X5_84 (Or.inl ⟨5, (RX5, TX5, 12), ic_32, Nat.le_of_ble_eq_true rfl, rfl, rfl⟩) hd rfl rfl (Nat.le_of_ble_eq_true rfl) dX5_expect_21 rfl k
set_option maxRecDepth 4000 in
theorem g_X5_expectSign_0 {sc : List Int} {d : Nat} {m : Mem} {Q : Option AV → Mem → Prop} {l1 : Int} (k : (-2147483648 ≤ (m 32 4) ∧ (m 32 4) < 2147483648) ∧ (-2147483648 ≤ l1 ∧ l1 < 2147483648) ∧ (((m 32 4) ≠ l1) → (S_X5_expectSign sc d 21 [aR 32, aU] [aI (m 32 3), aI 1, aR 32] m Q)) ∧ (¬ ((m 32 4) ≠ l1) → (S_X5_expectSign sc d 9 [aR 32, aU] [aR 32] m Q))) : S_X5_expectSign sc d 0 [aR 32, aI l1] [] m Q := by
  refine x_aload_n (pc2 := 1) dX5_expectSign_0 rfl rfl ?_
  refine x_getf (pc2 := 4) (v := aI (m 32 4)) fl_X5_41 ic_32 (fv_i _ ic_32 rfl) dX5_expectSign_1 rfl ?_
  refine x_iload_n (pc2 := 5) dX5_expectSign_4 rfl rfl ?_
  obtain ⟨h1, k⟩ := k
  obtain ⟨h2, k⟩ := k
  obtain ⟨k1, k2⟩ := k
  refine x_icmp_ne (tgt := 15) (pc2 := 8) dX5_expectSign_5 (by decide) rfl h1 h2 (fun c3 => ?_) (fun c3 => ?_)
  · replace k := k1 c3
    refine x_aload_n (pc2 := 16) dX5_expectSign_15 rfl rfl ?_
    refine x_iconst (pc2 := 17) dX5_expectSign_16 rfl ?_
    refine x_aload_n (pc2 := 18) dX5_expectSign_17 rfl rfl ?_
    refine x_getf (pc2 := 21) (v := aI (m 32 3)) fl_X5_57 ic_32 (fv_i _ ic_32 rfl) dX5_expectSign_18 rfl ?_
    exact x_drop (drp_k (drp_u drp_n)) k
  · replace k := k2 c3
    refine x_aload_n (pc2 := 9) dX5_expectSign_8 rfl rfl ?_
    exact x_drop (drp_k (drp_u drp_n)) k
set_option maxRecDepth 4000 in
theorem g_X5_expectSign_12 {sc : List Int} {d : Nat} {m : Mem} {Q : Option AV → Mem → Prop} (k : S_X5_expectSign sc d 24 [aR 32, aU] [] m Q) : S_X5_expectSign sc d 12 [aR 32, aU] [] m Q := by
  refine x_goto (tgt := 24) dX5_expectSign_12 (by decide) ?_
  exact k
set_option maxRecDepth 4000 in
theorem g_X5_expectSign_24 {sc : List Int} {d : Nat} {m : Mem} {Q : Option AV → Mem → Prop} (k : Q none m) : S_X5_expectSign sc d 24 [aR 32, aU] [] m Q := by
  exact x_return dX5_expectSign_24 rfl k
theorem c_X5_expectSign_9 {sc : List Int} {d d2 : Nat} {m m2 : Mem} {Q : Option AV → Mem → Prop} (hM : C_X5_advance sc d2 [aR 32] m none m2) (hd : d2 + 1 ≤ d) (k : S_X5_expectSign sc d 12 [aR 32, aU] [] m2 Q) : S_X5_expectSign sc d 9 [aR 32, aU] [aR 32] m Q := x_callV (as := []) (rest := []) hM mk_X5_advance mv_X5_advance lk_X5_54 (Or.inl ⟨5, (RX5, TX5, 12), ic_32, Nat.le_of_ble_eq_true rfl, rfl, rfl⟩) hd rfl rfl (Nat.le_of_ble_eq_true rfl) dX5_expectSign_9 rfl k
theorem c_X5_expectSign_21 {sc : List Int} {d d2 : Nat} {m m2 : Mem} {Q : Option AV → Mem → Prop} {s1 s2 : Int} (hM : C_X5_fail sc d2 [aR 32, aI s1, aI s2] m none m2) (hd : d2 + 1 ≤ d) (k : S_X5_expectSign sc d 24 [aR 32, aU] [] m2 Q) : S_X5_expectSign sc d 21 [aR 32, aU] [aI s2, aI s1, aR 32] m Q := x_callV (as := [aI s1, aI s2]) (rest := []) hM mk_X5_fail mv_X5_fail lk_X5_84 (Or.inl ⟨5, (RX5, TX5, 12), ic_32, Nat.le_of_ble_eq_true rfl, rfl, rfl⟩) hd rfl rfl (Nat.le_of_ble_eq_true rfl) dX5_expectSign_21 rfl k
set_option maxRecDepth 4000 in
theorem g_X5_number_0 {sc : List Int} {d : Nat} {m : Mem} {Q : Option AV → Mem → Prop} {l1 l2 : Int} (k : (-2147483648 ≤ (m 32 4) ∧ (m 32 4) < 2147483648) ∧ (((m 32 4) = 257) → ((-2147483648 ≤ ((m 32 2) - (m 32 3)) ∧ ((m 32 2) - (m 32 3)) < 2147483648) ∧ ((((m 32 2) - (m 32 3)) ≤ 4) → ((-2147483648 ≤ (m 32 6) ∧ (m 32 6) < 2147483648) ∧ (-2147483648 ≤ l1 ∧ l1 < 2147483648) ∧ (((m 32 6) < l1) → (S_X5_number sc d 70 [aR 32, aU, aU, aI (m 32 6)] [aI (m 32 3), aI 2, aR 32] m Q)) ∧ (¬ ((m 32 6) < l1) → ((-2147483648 ≤ l2 ∧ l2 < 2147483648) ∧ (((m 32 6) ≤ l2) → (S_X5_number sc d 77 [aR 32, aU, aU, aI (m 32 6)] [aR 32] m Q)) ∧ (¬ ((m 32 6) ≤ l2) → (S_X5_number sc d 70 [aR 32, aU, aU, aI (m 32 6)] [aI (m 32 3), aI 2, aR 32] m Q)))))) ∧ (¬ (((m 32 2) - (m 32 3)) ≤ 4) → (S_X5_number sc d 48 [aR 32, aU, aU, aI (m 32 6)] [aI ((m 32 3) + 4), aI 1, aR 32] m Q)))) ∧ (¬ ((m 32 4) = 257) → (S_X5_number sc d 21 [aR 32, aU, aU, aI (m 32 6)] [aI (m 32 3), aI 1, aR 32] m Q))) : S_X5_number sc d 0 [aR 32, aI l1, aI l2, aU] [] m Q := by
  refine x_aload_n (pc2 := 1) dX5_number_0 rfl rfl ?_
  refine x_getf (pc2 := 4) (v := aI (m 32 6)) fl_X5_66 ic_32 (fv_i _ ic_32 rfl) dX5_number_1 rfl ?_
  refine x_istore_n (pc2 := 5) (ls2 := [aR 32, aI l1, aI l2, aI (m 32 6)]) dX5_number_4 rfl (by decide) rfl ?_
  refine x_aload_n (pc2 := 6) dX5_number_5 rfl rfl ?_
  refine x_getf (pc2 := 9) (v := aI (m 32 4)) fl_X5_41 ic_32 (fv_i _ ic_32 rfl) dX5_number_6 rfl ?_
  refine x_sipush (pc2 := 12) dX5_number_9 rfl rfl ?_
  obtain ⟨h1, k⟩ := k
  obtain ⟨k1, k2⟩ := k
  refine x_icmp_eq (tgt := 27) (pc2 := 15) dX5_number_12 (by decide) rfl h1 (by decide) (fun c2 => ?_) (fun c2 => ?_)
  · replace k := k1 c2
    refine x_aload_n (pc2 := 28) dX5_number_27 rfl rfl ?_
    refine x_getf (pc2 := 31) (v := aI (m 32 2)) fl_X5_38 ic_32 (fv_i _ ic_32 rfl) dX5_number_28 rfl ?_
    refine x_aload_n (pc2 := 32) dX5_number_31 rfl rfl ?_
    refine x_getf (pc2 := 35) (v := aI (m 32 3)) fl_X5_57 ic_32 (fv_i _ ic_32 rfl) dX5_number_32 rfl ?_
    refine x_isub (pc2 := 36) dX5_number_35 rfl ?_
    refine x_iconst (pc2 := 37) dX5_number_36 rfl ?_
    obtain ⟨h3, k⟩ := k
    obtain ⟨k1, k2⟩ := k
    refine x_icmp_le (tgt := 54) (pc2 := 40) dX5_number_37 (by decide) rfl h3 (by decide) (fun c4 => ?_) (fun c4 => ?_)
    · replace k := k1 c4
      refine x_iload_n (pc2 := 55) dX5_number_54 rfl rfl ?_
      refine x_iload_n (pc2 := 56) dX5_number_55 rfl rfl ?_
      obtain ⟨h5, k⟩ := k
      obtain ⟨h6, k⟩ := k
      obtain ⟨k1, k2⟩ := k
      refine x_icmp_lt (tgt := 64) (pc2 := 59) dX5_number_56 (by decide) rfl h5 h6 (fun c7 => ?_) (fun c7 => ?_)
      · replace k := k1 c7
        refine x_aload_n (pc2 := 65) dX5_number_64 rfl rfl ?_
        refine x_iconst (pc2 := 66) dX5_number_65 rfl ?_
        refine x_aload_n (pc2 := 67) dX5_number_66 rfl rfl ?_
        refine x_getf (pc2 := 70) (v := aI (m 32 3)) fl_X5_57 ic_32 (fv_i _ ic_32 rfl) dX5_number_67 rfl ?_
        exact x_drop (drp_k (drp_u (drp_u (drp_k drp_n)))) k
      · replace k := k2 c7
        refine x_iload_n (pc2 := 60) dX5_number_59 rfl rfl ?_
        refine x_iload_n (pc2 := 61) dX5_number_60 rfl rfl ?_
        obtain ⟨h8, k⟩ := k
        obtain ⟨k1, k2⟩ := k
        refine x_icmp_le (tgt := 76) (pc2 := 64) dX5_number_61 (by decide) rfl h5 h8 (fun c9 => ?_) (fun c9 => ?_)
        · replace k := k1 c9
          refine x_aload_n (pc2 := 77) dX5_number_76 rfl rfl ?_
          exact x_drop (drp_k (drp_u (drp_u (drp_k drp_n)))) k
        · replace k := k2 c9
          refine x_aload_n (pc2 := 65) dX5_number_64 rfl rfl ?_
          refine x_iconst (pc2 := 66) dX5_number_65 rfl ?_
          refine x_aload_n (pc2 := 67) dX5_number_66 rfl rfl ?_
          refine x_getf (pc2 := 70) (v := aI (m 32 3)) fl_X5_57 ic_32 (fv_i _ ic_32 rfl) dX5_number_67 rfl ?_
          exact x_drop (drp_k (drp_u (drp_u (drp_k drp_n)))) k
    · replace k := k2 c4
      refine x_aload_n (pc2 := 41) dX5_number_40 rfl rfl ?_
      refine x_iconst (pc2 := 42) dX5_number_41 rfl ?_
      refine x_aload_n (pc2 := 43) dX5_number_42 rfl rfl ?_
      refine x_getf (pc2 := 46) (v := aI (m 32 3)) fl_X5_57 ic_32 (fv_i _ ic_32 rfl) dX5_number_43 rfl ?_
      refine x_iconst (pc2 := 47) dX5_number_46 rfl ?_
      refine x_iadd (pc2 := 48) dX5_number_47 rfl ?_
      exact x_drop (drp_k (drp_u (drp_u (drp_k drp_n)))) k
  · replace k := k2 c2
    refine x_aload_n (pc2 := 16) dX5_number_15 rfl rfl ?_
    refine x_iconst (pc2 := 17) dX5_number_16 rfl ?_
    refine x_aload_n (pc2 := 18) dX5_number_17 rfl rfl ?_
    refine x_getf (pc2 := 21) (v := aI (m 32 3)) fl_X5_57 ic_32 (fv_i _ ic_32 rfl) dX5_number_18 rfl ?_
    exact x_drop (drp_k (drp_u (drp_u (drp_k drp_n)))) k
set_option maxRecDepth 4000 in
theorem g_X5_number_24 {sc : List Int} {d : Nat} {m : Mem} {Q : Option AV → Mem → Prop} {l3 : Int} (k : S_X5_number sc d 80 [aR 32, aU, aU, aI l3] [] m Q) : S_X5_number sc d 24 [aR 32, aU, aU, aI l3] [] m Q := by
  refine x_goto (tgt := 80) dX5_number_24 (by decide) ?_
  exact k
set_option maxRecDepth 4000 in
theorem g_X5_number_51 {sc : List Int} {d : Nat} {m : Mem} {Q : Option AV → Mem → Prop} {l3 : Int} (k : S_X5_number sc d 80 [aR 32, aU, aU, aI l3] [] m Q) : S_X5_number sc d 51 [aR 32, aU, aU, aI l3] [] m Q := by
  refine x_goto (tgt := 80) dX5_number_51 (by decide) ?_
  exact k
set_option maxRecDepth 4000 in
theorem g_X5_number_73 {sc : List Int} {d : Nat} {m : Mem} {Q : Option AV → Mem → Prop} {l3 : Int} (k : S_X5_number sc d 80 [aR 32, aU, aU, aI l3] [] m Q) : S_X5_number sc d 73 [aR 32, aU, aU, aI l3] [] m Q := by
  refine x_goto (tgt := 80) dX5_number_73 (by decide) ?_
  exact k
set_option maxRecDepth 4000 in
theorem g_X5_number_80 {sc : List Int} {d : Nat} {m : Mem} {Q : Option AV → Mem → Prop} {l3 : Int} (k : Q (some (aI l3)) m) : S_X5_number sc d 80 [aR 32, aU, aU, aI l3] [] m Q := by
  refine x_iload_n (pc2 := 81) dX5_number_80 rfl rfl ?_
  exact x_ireturn dX5_number_81 ⟨.int, rfl, rfl⟩ k
theorem c_X5_number_21 {sc : List Int} {d d2 : Nat} {m m2 : Mem} {Q : Option AV → Mem → Prop} {l3 s1 s2 : Int} (hM : C_X5_fail sc d2 [aR 32, aI s1, aI s2] m none m2) (hd : d2 + 1 ≤ d) (k : S_X5_number sc d 24 [aR 32, aU, aU, aI l3] [] m2 Q) : S_X5_number sc d 21 [aR 32, aU, aU, aI l3] [aI s2, aI s1, aR 32] m Q := x_callV (as := [aI s1, aI s2]) (rest := []) hM mk_X5_fail mv_X5_fail lk_X5_84 (Or.inl ⟨5, (RX5, TX5, 12), ic_32, Nat.le_of_ble_eq_true rfl, rfl, rfl⟩) hd rfl rfl (Nat.le_of_ble_eq_true rfl) dX5_number_21 rfl k
theorem c_X5_number_48 {sc : List Int} {d d2 : Nat} {m m2 : Mem} {Q : Option AV → Mem → Prop} {l3 s1 s2 : Int} (hM : C_X5_fail sc d2 [aR 32, aI s1, aI s2] m none m2) (hd : d2 + 1 ≤ d) (k : S_X5_number sc d 51 [aR 32, aU, aU, aI l3] [] m2 Q) : S_X5_number sc d 48 [aR 32, aU, aU, aI l3] [aI s2, aI s1, aR 32] m Q := x_callV (as := [aI s1, aI s2]) (rest := []) hM mk_X5_fail mv_X5_fail lk_X5_84 (Or.inl ⟨5, (RX5, TX5, 12), ic_32, Nat.le_of_ble_eq_true rfl, rfl, rfl⟩) hd rfl rfl (Nat.le_of_ble_eq_true rfl) dX5_number_48 rfl k
theorem c_X5_number_70 {sc : List Int} {d d2 : Nat} {m m2 : Mem} {Q : Option AV → Mem → Prop} {l3 s1 s2 : Int} (hM : C_X5_fail sc d2 [aR 32, aI s1, aI s2] m none m2) (hd : d2 + 1 ≤ d) (k : S_X5_number sc d 73 [aR 32, aU, aU, aI l3] [] m2 Q) : S_X5_number sc d 70 [aR 32, aU, aU, aI l3] [aI s2, aI s1, aR 32] m Q := x_callV (as := [aI s1, aI s2]) (rest := []) hM mk_X5_fail mv_X5_fail lk_X5_84 (Or.inl ⟨5, (RX5, TX5, 12), ic_32, Nat.le_of_ble_eq_true rfl, rfl, rfl⟩) hd rfl rfl (Nat.le_of_ble_eq_true rfl) dX5_number_70 rfl k
theorem c_X5_number_77 {sc : List Int} {d d2 : Nat} {m m2 : Mem} {Q : Option AV → Mem → Prop} {l3 : Int} (hM : C_X5_advance sc d2 [aR 32] m none m2) (hd : d2 + 1 ≤ d) (k : S_X5_number sc d 80 [aR 32, aU, aU, aI l3] [] m2 Q) : S_X5_number sc d 77 [aR 32, aU, aU, aI l3] [aR 32] m Q := x_callV (as := []) (rest := []) hM mk_X5_advance mv_X5_advance lk_X5_54 (Or.inl ⟨5, (RX5, TX5, 12), ic_32, Nat.le_of_ble_eq_true rfl, rfl, rfl⟩) hd rfl rfl (Nat.le_of_ble_eq_true rfl) dX5_number_77 rfl k
set_option maxRecDepth 4000 in
theorem g_X5_readRoom_0 {sc : List Int} {d : Nat} {m : Mem} {Q : Option AV → Mem → Prop} {l1 l2 l3 : Int} (Hl1 : RoomAt l1) (Hl2 : IsC l2 100) (k : S_X5_readRoom sc d 1 [aR 32, aR l1, aR l2, aI l3, aU, aU] [aR l1] m Q) : S_X5_readRoom sc d 0 [aR 32, aR l1, aR l2, aI l3, aU, aU] [] m Q := by
  refine x_aload_n (pc2 := 1) dX5_readRoom_0 rfl rfl ?_
  exact k
set_option maxRecDepth 4000 in
theorem g_X5_readRoom_4 {sc : List Int} {d : Nat} {m : Mem} {Q : Option AV → Mem → Prop} {l1 l2 l3 : Int} (Hl1 : RoomAt l1) (Hl2 : IsC l2 100) (k : S_X5_readRoom sc d 11 [aR 32, aR l1, aU, aU, aU, aU] [aI l3, aR l2, aR (l1 + 8), aR 32] m Q) : S_X5_readRoom sc d 4 [aR 32, aR l1, aR l2, aI l3, aU, aU] [] m Q := by
  refine x_aload_n (pc2 := 5) dX5_readRoom_4 rfl rfl ?_
  refine x_aload_n (pc2 := 6) dX5_readRoom_5 rfl rfl ?_
  refine x_getf (pc2 := 9) (v := aR (l1 + 8)) fl_X5_93 (icr_0 Hl1) (vrr_9 _ Hl1) dX5_readRoom_6 rfl ?_
  refine x_aload_n (pc2 := 10) dX5_readRoom_9 rfl rfl ?_
  refine x_iload_n (pc2 := 11) dX5_readRoom_10 rfl rfl ?_
  exact x_drop (drp_k (drp_k (drp_u (drp_u (drp_k (drp_k drp_n)))))) k
set_option maxRecDepth 4000 in
theorem g_X5_readRoom_14 {sc : List Int} {d : Nat} {m : Mem} {Q : Option AV → Mem → Prop} {l1 : Int} (Hl1 : RoomAt l1) (k : (-2147483648 ≤ (m 32 4) ∧ (m 32 4) < 2147483648) ∧ (((m 32 4) ≠ 258) → (S_X5_readRoom sc d 33 [aR 32, aR l1, aU, aU, aU, aU] [] m Q)) ∧ (¬ ((m 32 4) ≠ 258) → (S_X5_readRoom sc d 30 [aR 32, aR l1, aU, aU, aU, aU] [aI (m 32 3), aI 1, aR 32] m Q))) : S_X5_readRoom sc d 14 [aR 32, aR l1, aU, aU, aU, aU] [] m Q := by
  refine x_aload_n (pc2 := 15) dX5_readRoom_14 rfl rfl ?_
  refine x_getf (pc2 := 18) (v := aI (m 32 4)) fl_X5_41 ic_32 (fv_i _ ic_32 rfl) dX5_readRoom_15 rfl ?_
  refine x_sipush (pc2 := 21) dX5_readRoom_18 rfl rfl ?_
  obtain ⟨h1, k⟩ := k
  obtain ⟨k1, k2⟩ := k
  refine x_icmp_ne (tgt := 33) (pc2 := 24) dX5_readRoom_21 (by decide) rfl h1 (by decide) (fun c2 => ?_) (fun c2 => ?_)
  · replace k := k1 c2
    exact k
  · replace k := k2 c2
    refine x_aload_n (pc2 := 25) dX5_readRoom_24 rfl rfl ?_
    refine x_iconst (pc2 := 26) dX5_readRoom_25 rfl ?_
    refine x_aload_n (pc2 := 27) dX5_readRoom_26 rfl rfl ?_
    refine x_getf (pc2 := 30) (v := aI (m 32 3)) fl_X5_57 ic_32 (fv_i _ ic_32 rfl) dX5_readRoom_27 rfl ?_
    exact k
set_option maxRecDepth 4000 in
theorem g_X5_readRoom_33 {sc : List Int} {d : Nat} {m : Mem} {Q : Option AV → Mem → Prop} {l1 : Int} (Hl1 : RoomAt l1) (k : S_X5_readRoom sc d 36 [aR 32, aR l1, aU, aU, aI 0, aU] [] m Q) : S_X5_readRoom sc d 33 [aR 32, aR l1, aU, aU, aU, aU] [] m Q := by
  refine x_iconst (pc2 := 34) dX5_readRoom_33 rfl ?_
  refine x_istore (pc2 := 36) (ls2 := [aR 32, aR l1, aU, aU, aI 0, aU]) dX5_readRoom_34 rfl (by decide) rfl ?_
  exact k
set_option maxRecDepth 4000 in
theorem g_X5_readRoom_36 {sc : List Int} {d : Nat} {m : Mem} {Q : Option AV → Mem → Prop} {l1 l4 : Int} (Hl1 : RoomAt l1) (k : (-2147483648 ≤ l4 ∧ l4 < 2147483648) ∧ ((60 < l4) → (Q none m)) ∧ (¬ (60 < l4) → ((-2147483648 ≤ (m 32 7) ∧ (m 32 7) < 2147483648) ∧ (((m 32 7) ≠ 0) → (Q none m)) ∧ (¬ ((m 32 7) ≠ 0) → ((-2147483648 ≤ (m 32 4) ∧ (m 32 4) < 2147483648) ∧ (((m 32 4) = 258) → (Q none m)) ∧ (¬ ((m 32 4) = 258) → (((l4 ≠ 60) → (((-2147483648 ≤ (if (m 32 4) ≠ 256 then (-1) else (m 32 5) : Int) ∧ (if (m 32 4) ≠ 256 then (-1) else (m 32 5) : Int) < 2147483648)) ∧ (-2147483648 ≤ (if l4 ≠ 0 then 0 else 1 : Int) ∧ (if l4 ≠ 0 then 0 else 1 : Int) < 2147483648) ∧ (-2147483648 ≤ (if (if (m 32 4) ≠ 256 then (-1) else (m 32 5) : Int) ≠ 0 then 0 else 1 : Int) ∧ (if (if (m 32 4) ≠ 256 then (-1) else (m 32 5) : Int) ≠ 0 then 0 else 1 : Int) < 2147483648) ∧ (((if l4 ≠ 0 then 0 else 1 : Int) = (if (if (m 32 4) ≠ 256 then (-1) else (m 32 5) : Int) ≠ 0 then 0 else 1 : Int)) → ((-2147483648 ≤ (if (m 32 4) ≠ 256 then (-1) else (m 32 5) : Int) ∧ (if (m 32 4) ≠ 256 then (-1) else (m 32 5) : Int) < 2147483648) ∧ (((if (m 32 4) ≠ 256 then (-1) else (m 32 5) : Int) ≠ 0) → ((((if (m 32 4) ≠ 256 then (-1) else (m 32 5) : Int) ≠ 3) → ((((if (m 32 4) ≠ 256 then (-1) else (m 32 5) : Int) ≠ 7) → (S_X5_readRoom sc d 180 [aR 32, aR l1, aU, aU, aI l4, aU] [aI (if (m 32 4) ≠ 256 then (-1) else (m 32 5) : Int), aR l1, aR 32] m Q)) ∧ (¬ ((if (m 32 4) ≠ 256 then (-1) else (m 32 5) : Int) ≠ 7) → (S_X5_readRoom sc d 170 [aR 32, aR l1, aU, aU, aI l4, aU] [aR l1, aR 32] m Q)))) ∧ (¬ ((if (m 32 4) ≠ 256 then (-1) else (m 32 5) : Int) ≠ 3) → (S_X5_readRoom sc d 155 [aR 32, aR l1, aU, aU, aI l4, aU] [aR l1, aR 32] m Q)))) ∧ (¬ ((if (m 32 4) ≠ 256 then (-1) else (m 32 5) : Int) ≠ 0) → (S_X5_readRoom sc d 141 [aR 32, aR l1, aU, aU, aI l4, aU] [aR l1, aR 32] m Q)))) ∧ (¬ ((if l4 ≠ 0 then 0 else 1 : Int) = (if (if (m 32 4) ≠ 256 then (-1) else (m 32 5) : Int) ≠ 0 then 0 else 1 : Int)) → (S_X5_readRoom sc d 128 [aR 32, aR l1, aU, aU, aI l4, aU] [aI (m 32 3), aI 1, aR 32] m Q)))) ∧ (¬ (l4 ≠ 60) → (S_X5_readRoom sc d 93 [aR 32, aR l1, aU, aU, aI l4, aU] [aI (m 32 3), aI 5, aR 32] m Q))))))))) : S_X5_readRoom sc d 36 [aR 32, aR l1, aU, aU, aI l4, aU] [] m Q := by
  refine x_iload (pc2 := 38) dX5_readRoom_36 rfl rfl ?_
  refine x_bipush (pc2 := 40) dX5_readRoom_38 rfl rfl ?_
  obtain ⟨h1, k⟩ := k
  obtain ⟨k1, k2⟩ := k
  refine x_icmp_gt (tgt := 205) (pc2 := 43) dX5_readRoom_40 (by decide) rfl h1 (by decide) (fun c2 => ?_) (fun c2 => ?_)
  · replace k := k1 c2
    exact x_return dX5_readRoom_205 rfl k
  · replace k := k2 c2
    refine x_aload_n (pc2 := 44) dX5_readRoom_43 rfl rfl ?_
    refine x_getf (pc2 := 47) (v := aI (m 32 7)) fl_X5_44 ic_32 (fv_i _ ic_32 rfl) dX5_readRoom_44 rfl ?_
    obtain ⟨h3, k⟩ := k
    obtain ⟨k1, k2⟩ := k
    refine x_if_ne (tgt := 205) (pc2 := 50) dX5_readRoom_47 (by decide) rfl h3 (fun c4 => ?_) (fun c4 => ?_)
    · replace k := k1 c4
      exact x_return dX5_readRoom_205 rfl k
    · replace k := k2 c4
      refine x_aload_n (pc2 := 51) dX5_readRoom_50 rfl rfl ?_
      refine x_getf (pc2 := 54) (v := aI (m 32 4)) fl_X5_41 ic_32 (fv_i _ ic_32 rfl) dX5_readRoom_51 rfl ?_
      refine x_sipush (pc2 := 57) dX5_readRoom_54 rfl rfl ?_
      obtain ⟨h5, k⟩ := k
      obtain ⟨k1, k2⟩ := k
      refine x_icmp_eq (tgt := 205) (pc2 := 60) dX5_readRoom_57 (by decide) rfl h5 (by decide) (fun c6 => ?_) (fun c6 => ?_)
      · replace k := k1 c6
        exact x_return dX5_readRoom_205 rfl k
      · replace k := k2 c6
        refine x_aload_n (pc2 := 61) dX5_readRoom_60 rfl rfl ?_
        refine x_getf (pc2 := 64) (v := aI (m 32 4)) fl_X5_41 ic_32 (fv_i _ ic_32 rfl) dX5_readRoom_61 rfl ?_
        refine x_sipush (pc2 := 67) dX5_readRoom_64 rfl rfl ?_
        have kj : S_X5_readRoom sc d 78 [aR 32, aR l1, aU, aU, aI l4, aU] [aI (if (m 32 4) ≠ 256 then (-1) else (m 32 5) : Int)] m Q := by
          refine x_istore (pc2 := 80) (ls2 := [aR 32, aR l1, aU, aU, aI l4, aI (if (m 32 4) ≠ 256 then (-1) else (m 32 5) : Int)]) dX5_readRoom_78 rfl (by decide) rfl ?_
          refine x_iload (pc2 := 82) dX5_readRoom_80 rfl rfl ?_
          refine x_bipush (pc2 := 84) dX5_readRoom_82 rfl rfl ?_
          obtain ⟨k1, k2⟩ := k
          refine x_icmp_ne (tgt := 99) (pc2 := 87) dX5_readRoom_84 (by decide) rfl h1 (by decide) (fun c7 => ?_) (fun c7 => ?_)
          · replace k := k1 c7
            refine x_iload (pc2 := 101) dX5_readRoom_99 rfl rfl ?_
            have kj : S_X5_readRoom sc d 109 [aR 32, aR l1, aU, aU, aI l4, aI (if (m 32 4) ≠ 256 then (-1) else (m 32 5) : Int)] [aI (if l4 ≠ 0 then 0 else 1 : Int)] m Q := by
              refine x_iload (pc2 := 111) dX5_readRoom_109 rfl rfl ?_
              obtain ⟨g9, k⟩ := k
              have kj : S_X5_readRoom sc d 119 [aR 32, aR l1, aU, aU, aI l4, aI (if (m 32 4) ≠ 256 then (-1) else (m 32 5) : Int)] [aI (if (if (m 32 4) ≠ 256 then (-1) else (m 32 5) : Int) ≠ 0 then 0 else 1 : Int), aI (if l4 ≠ 0 then 0 else 1 : Int)] m Q := by
                obtain ⟨h10, k⟩ := k
                obtain ⟨h11, k⟩ := k
                obtain ⟨k1, k2⟩ := k
                refine x_icmp_eq (tgt := 134) (pc2 := 122) dX5_readRoom_119 (by decide) rfl h10 h11 (fun c12 => ?_) (fun c12 => ?_)
                · replace k := k1 c12
                  refine x_iload (pc2 := 136) dX5_readRoom_134 rfl rfl ?_
                  obtain ⟨h13, k⟩ := k
                  obtain ⟨k1, k2⟩ := k
                  refine x_if_ne (tgt := 147) (pc2 := 139) dX5_readRoom_136 (by decide) rfl h13 (fun c14 => ?_) (fun c14 => ?_)
                  · replace k := k1 c14
                    refine x_iload (pc2 := 149) dX5_readRoom_147 rfl rfl ?_
                    refine x_iconst (pc2 := 150) dX5_readRoom_149 rfl ?_
                    obtain ⟨k1, k2⟩ := k
                    refine x_icmp_ne (tgt := 161) (pc2 := 153) dX5_readRoom_150 (by decide) rfl h13 (by decide) (fun c15 => ?_) (fun c15 => ?_)
                    · replace k := k1 c15
                      refine x_iload (pc2 := 163) dX5_readRoom_161 rfl rfl ?_
                      refine x_bipush (pc2 := 165) dX5_readRoom_163 rfl rfl ?_
                      obtain ⟨k1, k2⟩ := k
                      refine x_icmp_ne (tgt := 176) (pc2 := 168) dX5_readRoom_165 (by decide) rfl h13 (by decide) (fun c16 => ?_) (fun c16 => ?_)
                      · replace k := k1 c16
                        refine x_aload_n (pc2 := 177) dX5_readRoom_176 rfl rfl ?_
                        refine x_aload_n (pc2 := 178) dX5_readRoom_177 rfl rfl ?_
                        refine x_iload (pc2 := 180) dX5_readRoom_178 rfl rfl ?_
                        exact x_drop (drp_k (drp_k (drp_k (drp_k (drp_k (drp_u drp_n)))))) k
                      · replace k := k2 c16
                        refine x_aload_n (pc2 := 169) dX5_readRoom_168 rfl rfl ?_
                        refine x_aload_n (pc2 := 170) dX5_readRoom_169 rfl rfl ?_
                        exact x_drop (drp_k (drp_k (drp_k (drp_k (drp_k (drp_u drp_n)))))) k
                    · replace k := k2 c15
                      refine x_aload_n (pc2 := 154) dX5_readRoom_153 rfl rfl ?_
                      refine x_aload_n (pc2 := 155) dX5_readRoom_154 rfl rfl ?_
                      exact x_drop (drp_k (drp_k (drp_k (drp_k (drp_k (drp_u drp_n)))))) k
                  · replace k := k2 c14
                    refine x_aload_n (pc2 := 140) dX5_readRoom_139 rfl rfl ?_
                    refine x_aload_n (pc2 := 141) dX5_readRoom_140 rfl rfl ?_
                    exact x_drop (drp_k (drp_k (drp_k (drp_k (drp_k (drp_u drp_n)))))) k
                · replace k := k2 c12
                  refine x_aload_n (pc2 := 123) dX5_readRoom_122 rfl rfl ?_
                  refine x_iconst (pc2 := 124) dX5_readRoom_123 rfl ?_
                  refine x_aload_n (pc2 := 125) dX5_readRoom_124 rfl rfl ?_
                  refine x_getf (pc2 := 128) (v := aI (m 32 3)) fl_X5_57 ic_32 (fv_i _ ic_32 rfl) dX5_readRoom_125 rfl ?_
                  exact x_drop (drp_k (drp_k (drp_k (drp_k (drp_k (drp_u drp_n)))))) k
              have h17 := g9 
              refine x_if_ne (tgt := 118) (pc2 := 114) dX5_readRoom_111 (by decide) rfl h17 (fun c18 => ?_) (fun c18 => ?_)
              · skip
                refine x_iconst (pc2 := 119) dX5_readRoom_118 rfl ?_
                exact x_topI (if_pos c18) kj
              · skip
                refine x_iconst (pc2 := 115) dX5_readRoom_114 rfl ?_
                refine x_goto (tgt := 119) dX5_readRoom_115 (by decide) ?_
                exact x_topI (if_neg c18) kj
            refine x_if_ne (tgt := 108) (pc2 := 104) dX5_readRoom_101 (by decide) rfl h1 (fun c19 => ?_) (fun c19 => ?_)
            · skip
              refine x_iconst (pc2 := 109) dX5_readRoom_108 rfl ?_
              exact x_topI (if_pos c19) kj
            · skip
              refine x_iconst (pc2 := 105) dX5_readRoom_104 rfl ?_
              refine x_goto (tgt := 109) dX5_readRoom_105 (by decide) ?_
              exact x_topI (if_neg c19) kj
          · replace k := k2 c7
            refine x_aload_n (pc2 := 88) dX5_readRoom_87 rfl rfl ?_
            refine x_iconst (pc2 := 89) dX5_readRoom_88 rfl ?_
            refine x_aload_n (pc2 := 90) dX5_readRoom_89 rfl rfl ?_
            refine x_getf (pc2 := 93) (v := aI (m 32 3)) fl_X5_57 ic_32 (fv_i _ ic_32 rfl) dX5_readRoom_90 rfl ?_
            exact x_drop (drp_k (drp_k (drp_k (drp_k (drp_k (drp_u drp_n)))))) k
        refine x_icmp_ne (tgt := 77) (pc2 := 70) dX5_readRoom_67 (by decide) rfl h5 (by decide) (fun c20 => ?_) (fun c20 => ?_)
        · skip
          refine x_iconst (pc2 := 78) dX5_readRoom_77 rfl ?_
          exact x_topI (if_pos c20) kj
        · skip
          refine x_aload_n (pc2 := 71) dX5_readRoom_70 rfl rfl ?_
          refine x_getf (pc2 := 74) (v := aI (m 32 5)) fl_X5_60 ic_32 (fv_i _ ic_32 rfl) dX5_readRoom_71 rfl ?_
          refine x_goto (tgt := 78) dX5_readRoom_74 (by decide) ?_
          exact x_topI (if_neg c20) kj
set_option maxRecDepth 4000 in
theorem g_X5_readRoom_96 {sc : List Int} {d : Nat} {m : Mem} {Q : Option AV → Mem → Prop} {l1 l4 : Int} (Hl1 : RoomAt l1) (k : S_X5_readRoom sc d 183 [aR 32, aR l1, aU, aU, aI l4, aU] [] m Q) : S_X5_readRoom sc d 96 [aR 32, aR l1, aU, aU, aI l4, aU] [] m Q := by
  refine x_goto (tgt := 183) dX5_readRoom_96 (by decide) ?_
  exact k
set_option maxRecDepth 4000 in
theorem g_X5_readRoom_131 {sc : List Int} {d : Nat} {m : Mem} {Q : Option AV → Mem → Prop} {l1 l4 : Int} (Hl1 : RoomAt l1) (k : S_X5_readRoom sc d 183 [aR 32, aR l1, aU, aU, aI l4, aU] [] m Q) : S_X5_readRoom sc d 131 [aR 32, aR l1, aU, aU, aI l4, aU] [] m Q := by
  refine x_goto (tgt := 183) dX5_readRoom_131 (by decide) ?_
  exact k
set_option maxRecDepth 4000 in
theorem g_X5_readRoom_144 {sc : List Int} {d : Nat} {m : Mem} {Q : Option AV → Mem → Prop} {l1 l4 : Int} (Hl1 : RoomAt l1) (k : S_X5_readRoom sc d 183 [aR 32, aR l1, aU, aU, aI l4, aU] [] m Q) : S_X5_readRoom sc d 144 [aR 32, aR l1, aU, aU, aI l4, aU] [] m Q := by
  refine x_goto (tgt := 183) dX5_readRoom_144 (by decide) ?_
  exact k
set_option maxRecDepth 4000 in
theorem g_X5_readRoom_158 {sc : List Int} {d : Nat} {m : Mem} {Q : Option AV → Mem → Prop} {l1 l4 : Int} (Hl1 : RoomAt l1) (k : S_X5_readRoom sc d 183 [aR 32, aR l1, aU, aU, aI l4, aU] [] m Q) : S_X5_readRoom sc d 158 [aR 32, aR l1, aU, aU, aI l4, aU] [] m Q := by
  refine x_goto (tgt := 183) dX5_readRoom_158 (by decide) ?_
  exact k
set_option maxRecDepth 4000 in
theorem g_X5_readRoom_173 {sc : List Int} {d : Nat} {m : Mem} {Q : Option AV → Mem → Prop} {l1 l4 : Int} (Hl1 : RoomAt l1) (k : S_X5_readRoom sc d 183 [aR 32, aR l1, aU, aU, aI l4, aU] [] m Q) : S_X5_readRoom sc d 173 [aR 32, aR l1, aU, aU, aI l4, aU] [] m Q := by
  refine x_goto (tgt := 183) dX5_readRoom_173 (by decide) ?_
  exact k
set_option maxRecDepth 4000 in
theorem g_X5_readRoom_183 {sc : List Int} {d : Nat} {m : Mem} {Q : Option AV → Mem → Prop} {l1 l4 : Int} (Hl1 : RoomAt l1) (k : S_X5_readRoom sc d 186 [aR 32, aR l1, aU, aU, aI l4, aU] [aI 59, aR 32] m Q) : S_X5_readRoom sc d 183 [aR 32, aR l1, aU, aU, aI l4, aU] [] m Q := by
  refine x_aload_n (pc2 := 184) dX5_readRoom_183 rfl rfl ?_
  refine x_bipush (pc2 := 186) dX5_readRoom_184 rfl rfl ?_
  exact k
set_option maxRecDepth 4000 in
theorem g_X5_readRoom_189 {sc : List Int} {d : Nat} {m : Mem} {Q : Option AV → Mem → Prop} {l1 l4 : Int} (Hl1 : RoomAt l1) (k : S_X5_readRoom sc d 36 [aR 32, aR l1, aU, aU, aI (l4 + 1), aU] [] (wr m l1 15 ((m l1 15) + 1)) Q) : S_X5_readRoom sc d 189 [aR 32, aR l1, aU, aU, aI l4, aU] [] m Q := by
  refine x_aload_n (pc2 := 190) dX5_readRoom_189 rfl rfl ?_
  refine x_dup_r (pc2 := 191) dX5_readRoom_190 rfl ((icr_0 Hl1)).1 ?_
  refine x_getf (pc2 := 194) (v := aI (m l1 15)) fl_X5_118 (icr_0 Hl1) (fv_i _ (icr_0 Hl1) rfl) dX5_readRoom_191 rfl ?_
  refine x_iconst (pc2 := 195) dX5_readRoom_194 rfl ?_
  refine x_iadd (pc2 := 196) dX5_readRoom_195 rfl ?_
  refine x_putf (pc2 := 199) (x := ((m l1 15) + 1)) fl_X5_118 ft_6_15 (icr_0 Hl1) (pv_i _ (icr_0 Hl1) rfl) (pn_i _) dX5_readRoom_196 rfl ?_
  refine x_iinc (pc2 := 202) (ls2 := [aR 32, aR l1, aU, aU, aI (l4 + 1), aU]) dX5_readRoom_199 rfl rfl (by decide) rfl ?_
  refine x_goto (tgt := 36) dX5_readRoom_202 (by decide) ?_
  exact k
theorem c_X5_readRoom_1 {sc : List Int} {d d2 : Nat} {m m2 : Mem} {Q : Option AV → Mem → Prop} {l1 l2 l3 s0 : Int} (Hl1 : RoomAt l1) (Hl2 : IsC l2 100) (Hs0 : RoomAt s0) (hM : C_X6_clear sc d2 [aR s0] m none m2) (hd : d2 + 1 ≤ d) (k : S_X5_readRoom sc d 4 [aR 32, aR l1, aR l2, aI l3, aU, aU] [] m2 Q) : S_X5_readRoom sc d 1 [aR 32, aR l1, aR l2, aI l3, aU, aU] [aR s0] m Q := x_callV (as := []) (rest := []) hM mk_X6_clear mv_X6_clear lk_X5_88 (Or.inl ⟨6, (RX6, TX6, 16), icr_0 Hs0, Nat.le_of_ble_eq_true rfl, rfl, rfl⟩) hd rfl rfl (Nat.le_of_ble_eq_true rfl) dX5_readRoom_1 rfl k
theorem c_X5_readRoom_11 {sc : List Int} {d d2 : Nat} {m m2 : Mem} {Q : Option AV → Mem → Prop} {l1 s1 s2 s3 : Int} (Hl1 : RoomAt l1) (Hs1 : FormAt s1) (Hs2 : IsC s2 100) (hM : C_X5_begin sc d2 [aR 32, aR s1, aR s2, aI s3] m none m2) (hd : d2 + 1 ≤ d) (k : S_X5_readRoom sc d 14 [aR 32, aR l1, aU, aU, aU, aU] [] m2 Q) : S_X5_readRoom sc d 11 [aR 32, aR l1, aU, aU, aU, aU] [aI s3, aR s2, aR s1, aR 32] m Q := x_callV (as := [aR s1, aR s2, aI s3]) (rest := []) hM mk_X5_begin mv_X5_begin lk_X5_96 (Or.inl ⟨5, (RX5, TX5, 12), ic_32, Nat.le_of_ble_eq_true rfl, rfl, rfl⟩) hd rfl rfl (Nat.le_of_ble_eq_true rfl) dX5_readRoom_11 rfl k
theorem c_X5_readRoom_30 {sc : List Int} {d d2 : Nat} {m m2 : Mem} {Q : Option AV → Mem → Prop} {l1 s1 s2 : Int} (Hl1 : RoomAt l1) (hM : C_X5_fail sc d2 [aR 32, aI s1, aI s2] m none m2) (hd : d2 + 1 ≤ d) (k : S_X5_readRoom sc d 33 [aR 32, aR l1, aU, aU, aU, aU] [] m2 Q) : S_X5_readRoom sc d 30 [aR 32, aR l1, aU, aU, aU, aU] [aI s2, aI s1, aR 32] m Q := x_callV (as := [aI s1, aI s2]) (rest := []) hM mk_X5_fail mv_X5_fail lk_X5_84 (Or.inl ⟨5, (RX5, TX5, 12), ic_32, Nat.le_of_ble_eq_true rfl, rfl, rfl⟩) hd rfl rfl (Nat.le_of_ble_eq_true rfl) dX5_readRoom_30 rfl k
theorem c_X5_readRoom_93 {sc : List Int} {d d2 : Nat} {m m2 : Mem} {Q : Option AV → Mem → Prop} {l1 l4 s1 s2 : Int} (Hl1 : RoomAt l1) (hM : C_X5_fail sc d2 [aR 32, aI s1, aI s2] m none m2) (hd : d2 + 1 ≤ d) (k : S_X5_readRoom sc d 96 [aR 32, aR l1, aU, aU, aI l4, aU] [] m2 Q) : S_X5_readRoom sc d 93 [aR 32, aR l1, aU, aU, aI l4, aU] [aI s2, aI s1, aR 32] m Q := x_callV (as := [aI s1, aI s2]) (rest := []) hM mk_X5_fail mv_X5_fail lk_X5_84 (Or.inl ⟨5, (RX5, TX5, 12), ic_32, Nat.le_of_ble_eq_true rfl, rfl, rfl⟩) hd rfl rfl (Nat.le_of_ble_eq_true rfl) dX5_readRoom_93 rfl k
theorem c_X5_readRoom_128 {sc : List Int} {d d2 : Nat} {m m2 : Mem} {Q : Option AV → Mem → Prop} {l1 l4 s1 s2 : Int} (Hl1 : RoomAt l1) (hM : C_X5_fail sc d2 [aR 32, aI s1, aI s2] m none m2) (hd : d2 + 1 ≤ d) (k : S_X5_readRoom sc d 131 [aR 32, aR l1, aU, aU, aI l4, aU] [] m2 Q) : S_X5_readRoom sc d 128 [aR 32, aR l1, aU, aU, aI l4, aU] [aI s2, aI s1, aR 32] m Q := x_callV (as := [aI s1, aI s2]) (rest := []) hM mk_X5_fail mv_X5_fail lk_X5_84 (Or.inl ⟨5, (RX5, TX5, 12), ic_32, Nat.le_of_ble_eq_true rfl, rfl, rfl⟩) hd rfl rfl (Nat.le_of_ble_eq_true rfl) dX5_readRoom_128 rfl k
theorem c_X5_readRoom_141 {sc : List Int} {d d2 : Nat} {m m2 : Mem} {Q : Option AV → Mem → Prop} {l1 l4 s1 : Int} (Hl1 : RoomAt l1) (Hs1 : RoomAt s1) (hM : C_X5_tellLengths sc d2 [aR 32, aR s1] m none m2) (hd : d2 + 1 ≤ d) (k : S_X5_readRoom sc d 144 [aR 32, aR l1, aU, aU, aI l4, aU] [] m2 Q) : S_X5_readRoom sc d 141 [aR 32, aR l1, aU, aU, aI l4, aU] [aR s1, aR 32] m Q := x_callV (as := [aR s1]) (rest := []) hM mk_X5_tellLengths mv_X5_tellLengths lk_X5_100 (Or.inl ⟨5, (RX5, TX5, 12), ic_32, Nat.le_of_ble_eq_true rfl, rfl, rfl⟩) hd rfl rfl (Nat.le_of_ble_eq_true rfl) dX5_readRoom_141 rfl k
theorem c_X5_readRoom_155 {sc : List Int} {d d2 : Nat} {m m2 : Mem} {Q : Option AV → Mem → Prop} {l1 l4 s1 : Int} (Hl1 : RoomAt l1) (Hs1 : RoomAt s1) (hM : C_X5_tellSeam sc d2 [aR 32, aR s1] m none m2) (hd : d2 + 1 ≤ d) (k : S_X5_readRoom sc d 158 [aR 32, aR l1, aU, aU, aI l4, aU] [] m2 Q) : S_X5_readRoom sc d 155 [aR 32, aR l1, aU, aU, aI l4, aU] [aR s1, aR 32] m Q := x_callV (as := [aR s1]) (rest := []) hM mk_X5_tellSeam mv_X5_tellSeam lk_X5_104 (Or.inl ⟨5, (RX5, TX5, 12), ic_32, Nat.le_of_ble_eq_true rfl, rfl, rfl⟩) hd rfl rfl (Nat.le_of_ble_eq_true rfl) dX5_readRoom_155 rfl k
theorem c_X5_readRoom_170 {sc : List Int} {d d2 : Nat} {m m2 : Mem} {Q : Option AV → Mem → Prop} {l1 l4 s1 : Int} (Hl1 : RoomAt l1) (Hs1 : RoomAt s1) (hM : C_X5_tellRule sc d2 [aR 32, aR s1] m none m2) (hd : d2 + 1 ≤ d) (k : S_X5_readRoom sc d 173 [aR 32, aR l1, aU, aU, aI l4, aU] [] m2 Q) : S_X5_readRoom sc d 170 [aR 32, aR l1, aU, aU, aI l4, aU] [aR s1, aR 32] m Q := x_callV (as := [aR s1]) (rest := []) hM mk_X5_tellRule mv_X5_tellRule lk_X5_107 (Or.inl ⟨5, (RX5, TX5, 12), ic_32, Nat.le_of_ble_eq_true rfl, rfl, rfl⟩) hd rfl rfl (Nat.le_of_ble_eq_true rfl) dX5_readRoom_170 rfl k
theorem c_X5_readRoom_180 {sc : List Int} {d d2 : Nat} {m m2 : Mem} {Q : Option AV → Mem → Prop} {l1 l4 s1 s2 : Int} (Hl1 : RoomAt l1) (Hs1 : RoomAt s1) (hM : C_X5_tellMinutes sc d2 [aR 32, aR s1, aI s2] m none m2) (hd : d2 + 1 ≤ d) (k : S_X5_readRoom sc d 183 [aR 32, aR l1, aU, aU, aI l4, aU] [] m2 Q) : S_X5_readRoom sc d 180 [aR 32, aR l1, aU, aU, aI l4, aU] [aI s2, aR s1, aR 32] m Q := x_callV (as := [aR s1, aI s2]) (rest := []) hM mk_X5_tellMinutes mv_X5_tellMinutes lk_X5_110 (Or.inl ⟨5, (RX5, TX5, 12), ic_32, Nat.le_of_ble_eq_true rfl, rfl, rfl⟩) hd rfl rfl (Nat.le_of_ble_eq_true rfl) dX5_readRoom_180 rfl k
theorem c_X5_readRoom_186 {sc : List Int} {d d2 : Nat} {m m2 : Mem} {Q : Option AV → Mem → Prop} {l1 l4 s1 : Int} (Hl1 : RoomAt l1) (hM : C_X5_expectSign sc d2 [aR 32, aI s1] m none m2) (hd : d2 + 1 ≤ d) (k : S_X5_readRoom sc d 189 [aR 32, aR l1, aU, aU, aI l4, aU] [] m2 Q) : S_X5_readRoom sc d 186 [aR 32, aR l1, aU, aU, aI l4, aU] [aI s1, aR 32] m Q := x_callV (as := [aI s1]) (rest := []) hM mk_X5_expectSign mv_X5_expectSign lk_X5_114 (Or.inl ⟨5, (RX5, TX5, 12), ic_32, Nat.le_of_ble_eq_true rfl, rfl, rfl⟩) hd rfl rfl (Nat.le_of_ble_eq_true rfl) dX5_readRoom_186 rfl k
set_option maxRecDepth 4000 in
theorem g_X5_tellMinutes_0 {sc : List Int} {d : Nat} {m : Mem} {Q : Option AV → Mem → Prop} {l1 l2 : Int} (Hl1 : RoomAt l1) (k : (-2147483648 ≤ (l2 - 9) ∧ (l2 - 9) < 2147483648) ∧ (((l2 - 9) < 0) → (S_X5_tellMinutes sc d 24 [aR 32, aU, aU, aU] [aI (m 32 3), aI 1, aR 32] m Q)) ∧ (¬ ((l2 - 9) < 0) → ((((l2 - 9) < 6) → (S_X5_tellMinutes sc d 29 [aR 32, aR l1, aU, aI (l2 - 9)] [aR 32] m Q)) ∧ (¬ ((l2 - 9) < 6) → (S_X5_tellMinutes sc d 24 [aR 32, aU, aU, aU] [aI (m 32 3), aI 1, aR 32] m Q))))) : S_X5_tellMinutes sc d 0 [aR 32, aR l1, aI l2, aU] [] m Q := by
  refine x_iload_n (pc2 := 1) dX5_tellMinutes_0 rfl rfl ?_
  refine x_bipush (pc2 := 3) dX5_tellMinutes_1 rfl rfl ?_
  refine x_isub (pc2 := 4) dX5_tellMinutes_3 rfl ?_
  refine x_istore_n (pc2 := 5) (ls2 := [aR 32, aR l1, aI l2, aI (l2 - 9)]) dX5_tellMinutes_4 rfl (by decide) rfl ?_
  refine x_iload_n (pc2 := 6) dX5_tellMinutes_5 rfl rfl ?_
  obtain ⟨h1, k⟩ := k
  obtain ⟨k1, k2⟩ := k
  refine x_if_lt (tgt := 18) (pc2 := 9) dX5_tellMinutes_6 (by decide) rfl h1 (fun c2 => ?_) (fun c2 => ?_)
  · replace k := k1 c2
    refine x_aload_n (pc2 := 19) dX5_tellMinutes_18 rfl rfl ?_
    refine x_iconst (pc2 := 20) dX5_tellMinutes_19 rfl ?_
    refine x_aload_n (pc2 := 21) dX5_tellMinutes_20 rfl rfl ?_
    refine x_getf (pc2 := 24) (v := aI (m 32 3)) fl_X5_57 ic_32 (fv_i _ ic_32 rfl) dX5_tellMinutes_21 rfl ?_
    exact x_drop (drp_k (drp_u (drp_u (drp_u drp_n)))) k
  · replace k := k2 c2
    refine x_iload_n (pc2 := 10) dX5_tellMinutes_9 rfl rfl ?_
    refine x_aload_n (pc2 := 11) dX5_tellMinutes_10 rfl rfl ?_
    refine x_getf (pc2 := 14) (v := aR (l1 + 13)) fl_X5_121 (icr_0 Hl1) (vrr_13 _ Hl1) dX5_tellMinutes_11 rfl ?_
    refine x_alenK (pc2 := 15) (n := 6) (Or.inl (icr_13 Hl1)) (alr_13 Hl1) dX5_tellMinutes_14 rfl ?_
    obtain ⟨k1, k2⟩ := k
    refine x_icmp_lt (tgt := 28) (pc2 := 18) dX5_tellMinutes_15 (by decide) rfl h1 (by decide) (fun c3 => ?_) (fun c3 => ?_)
    · replace k := k1 c3
      refine x_aload_n (pc2 := 29) dX5_tellMinutes_28 rfl rfl ?_
      exact x_drop (drp_k (drp_k (drp_u (drp_k drp_n)))) k
    · replace k := k2 c3
      refine x_aload_n (pc2 := 19) dX5_tellMinutes_18 rfl rfl ?_
      refine x_iconst (pc2 := 20) dX5_tellMinutes_19 rfl ?_
      refine x_aload_n (pc2 := 21) dX5_tellMinutes_20 rfl rfl ?_
      refine x_getf (pc2 := 24) (v := aI (m 32 3)) fl_X5_57 ic_32 (fv_i _ ic_32 rfl) dX5_tellMinutes_21 rfl ?_
      exact x_drop (drp_k (drp_u (drp_u (drp_u drp_n)))) k
set_option maxRecDepth 4000 in
theorem g_X5_tellMinutes_27 {sc : List Int} {d : Nat} {m : Mem} {Q : Option AV → Mem → Prop} (k : Q none m) : S_X5_tellMinutes sc d 27 [aR 32, aU, aU, aU] [] m Q := by
  exact x_return dX5_tellMinutes_27 rfl k
set_option maxRecDepth 4000 in
theorem g_X5_tellMinutes_32 {sc : List Int} {d : Nat} {m : Mem} {Q : Option AV → Mem → Prop} {l1 l3 : Int} (Hl1 : RoomAt l1) (k : (0 ≤ l3) ∧ (l3 < 6) ∧ S_X5_tellMinutes sc d 48 [aR 32, aU, aU, aU] [aI ((xt sc (-4)).getD l3.toNat 0), aI ((xt sc (-3)).getD l3.toNat 0), aR 32, aI l3, aR (l1 + 13)] m Q) : S_X5_tellMinutes sc d 32 [aR 32, aR l1, aU, aI l3] [] m Q := by
  refine x_aload_n (pc2 := 33) dX5_tellMinutes_32 rfl rfl ?_
  refine x_getf (pc2 := 36) (v := aR (l1 + 13)) fl_X5_121 (icr_0 Hl1) (vrr_13 _ Hl1) dX5_tellMinutes_33 rfl ?_
  refine x_iload_n (pc2 := 37) dX5_tellMinutes_36 rfl rfl ?_
  refine x_aload_n (pc2 := 38) dX5_tellMinutes_37 rfl rfl ?_
  refine x_gets (pc2 := 41) (v := aR (-3)) z_lowest zl_X5_124 dX5_tellMinutes_38 rfl ?_
  refine x_iload_n (pc2 := 42) dX5_tellMinutes_41 rfl rfl ?_
  obtain ⟨h1, k⟩ := k
  obtain ⟨h2, k⟩ := k
  refine x_xald (pc2 := 43) (by decide) h1 h2 dX5_tellMinutes_42 rfl ?_
  refine x_gets (pc2 := 46) (v := aR (-4)) z_highest zl_X5_127 dX5_tellMinutes_43 rfl ?_
  refine x_iload_n (pc2 := 47) dX5_tellMinutes_46 rfl rfl ?_
  refine x_xald (pc2 := 48) (by decide) h1 h2 dX5_tellMinutes_47 rfl ?_
  exact x_drop (drp_k (drp_u (drp_k (drp_u drp_n)))) k
set_option maxRecDepth 4000 in
theorem g_X5_tellMinutes_51 {sc : List Int} {d : Nat} {m : Mem} {Q : Option AV → Mem → Prop} {s0 s1 s2 : Int} (Hs0 : IsC s0 100) (k : (0 ≤ s1) ∧ (s1 < alen s0) ∧ Q none (wr m s0 s1 s2)) : S_X5_tellMinutes sc d 51 [aR 32, aU, aU, aU] [aI s2, aI s1, aR s0] m Q := by
  obtain ⟨h1, k⟩ := k
  obtain ⟨h2, k⟩ := k
  refine x_iast (pc2 := 52) Hs0 h1 h2 dX5_tellMinutes_51 rfl ?_
  exact x_return dX5_tellMinutes_52 rfl k
theorem c_X5_tellMinutes_24 {sc : List Int} {d d2 : Nat} {m m2 : Mem} {Q : Option AV → Mem → Prop} {s1 s2 : Int} (hM : C_X5_fail sc d2 [aR 32, aI s1, aI s2] m none m2) (hd : d2 + 1 ≤ d) (k : S_X5_tellMinutes sc d 27 [aR 32, aU, aU, aU] [] m2 Q) : S_X5_tellMinutes sc d 24 [aR 32, aU, aU, aU] [aI s2, aI s1, aR 32] m Q := x_callV (as := [aI s1, aI s2]) (rest := []) hM mk_X5_fail mv_X5_fail lk_X5_84 (Or.inl ⟨5, (RX5, TX5, 12), ic_32, Nat.le_of_ble_eq_true rfl, rfl, rfl⟩) hd rfl rfl (Nat.le_of_ble_eq_true rfl) dX5_tellMinutes_24 rfl k
theorem c_X5_tellMinutes_29 {sc : List Int} {d d2 : Nat} {m m2 : Mem} {Q : Option AV → Mem → Prop} {l1 l3 : Int} (Hl1 : RoomAt l1) (hM : C_X5_advance sc d2 [aR 32] m none m2) (hd : d2 + 1 ≤ d) (k : S_X5_tellMinutes sc d 32 [aR 32, aR l1, aU, aI l3] [] m2 Q) : S_X5_tellMinutes sc d 29 [aR 32, aR l1, aU, aI l3] [aR 32] m Q := x_callV (as := []) (rest := []) hM mk_X5_advance mv_X5_advance lk_X5_54 (Or.inl ⟨5, (RX5, TX5, 12), ic_32, Nat.le_of_ble_eq_true rfl, rfl, rfl⟩) hd rfl rfl (Nat.le_of_ble_eq_true rfl) dX5_tellMinutes_29 rfl k
theorem c_X5_tellMinutes_48 {sc : List Int} {d d2 : Nat} {m m2 : Mem} {Q : Option AV → Mem → Prop} {s0 s1 s3 s4 : Int} {v : Int} (Hs0 : IsC s0 100) (hM : C_X5_number sc d2 [aR 32, aI s3, aI s4] m (some (aI v)) m2) (hd : d2 + 1 ≤ d) (k : S_X5_tellMinutes sc d 51 [aR 32, aU, aU, aU] [aI v, aI s1, aR s0] m2 Q) : S_X5_tellMinutes sc d 48 [aR 32, aU, aU, aU] [aI s4, aI s3, aR 32, aI s1, aR s0] m Q := x_callV (as := [aI s3, aI s4]) (rest := [aI s1, aR s0]) hM mk_X5_number mv_X5_number lk_X5_130 (Or.inl ⟨5, (RX5, TX5, 12), ic_32, Nat.le_of_ble_eq_true rfl, rfl, rfl⟩) hd rfl rfl (Nat.le_of_ble_eq_true rfl) dX5_tellMinutes_48 rfl k
set_option maxRecDepth 4000 in
theorem g_X5_tellLengths_0 {sc : List Int} {d : Nat} {m : Mem} {Q : Option AV → Mem → Prop} {l1 : Int} (Hl1 : RoomAt l1) (k : S_X5_tellLengths sc d 1 [aR 32, aR l1, aU, aU, aU, aU, aU, aU] [aR 32] m Q) : S_X5_tellLengths sc d 0 [aR 32, aR l1, aU, aU, aU, aU, aU, aU] [] m Q := by
  refine x_aload_n (pc2 := 1) dX5_tellLengths_0 rfl rfl ?_
  exact k
set_option maxRecDepth 4000 in
theorem g_X5_tellLengths_4 {sc : List Int} {d : Nat} {m : Mem} {Q : Option AV → Mem → Prop} {l1 : Int} (Hl1 : RoomAt l1) (k : S_X5_tellLengths sc d 14 [aR 32, aR l1, aI 0, aI (m 32 3), aI 0, aU, aU, aU] [] m Q) : S_X5_tellLengths sc d 4 [aR 32, aR l1, aU, aU, aU, aU, aU, aU] [] m Q := by
  refine x_iconst (pc2 := 5) dX5_tellLengths_4 rfl ?_
  refine x_istore_n (pc2 := 6) (ls2 := [aR 32, aR l1, aI 0, aU, aU, aU, aU, aU]) dX5_tellLengths_5 rfl (by decide) rfl ?_
  refine x_aload_n (pc2 := 7) dX5_tellLengths_6 rfl rfl ?_
  refine x_getf (pc2 := 10) (v := aI (m 32 3)) fl_X5_57 ic_32 (fv_i _ ic_32 rfl) dX5_tellLengths_7 rfl ?_
  refine x_istore_n (pc2 := 11) (ls2 := [aR 32, aR l1, aI 0, aI (m 32 3), aU, aU, aU, aU]) dX5_tellLengths_10 rfl (by decide) rfl ?_
  refine x_iconst (pc2 := 12) dX5_tellLengths_11 rfl ?_
  refine x_istore (pc2 := 14) (ls2 := [aR 32, aR l1, aI 0, aI (m 32 3), aI 0, aU, aU, aU]) dX5_tellLengths_12 rfl (by decide) rfl ?_
  exact k
set_option maxRecDepth 4000 in
theorem g_X5_tellLengths_14 {sc : List Int} {d : Nat} {m : Mem} {Q : Option AV → Mem → Prop} {l1 l2 l3 l4 : Int} (Hl1 : RoomAt l1) (k : (-2147483648 ≤ l4 ∧ l4 < 2147483648) ∧ ((6 ≤ l4) → (S_X5_tellLengths sc d 112 [aR 32, aU, aI l2, aI l3, aU, aU, aU, aU] [aI 1, aR 32] m Q)) ∧ (¬ (6 ≤ l4) → (((l4 = 0) → (S_X5_tellLengths sc d 36 [aR 32, aR l1, aI l2, aU, aI l4, aU, aU, aU] [aI 1, aR 32] m Q)) ∧ (¬ (l4 = 0) → (S_X5_tellLengths sc d 28 [aR 32, aR l1, aI l2, aI l3, aI l4, aU, aU, aU] [aI 1, aR 32] m Q))))) : S_X5_tellLengths sc d 14 [aR 32, aR l1, aI l2, aI l3, aI l4, aU, aU, aU] [] m Q := by
  refine x_iload (pc2 := 16) dX5_tellLengths_14 rfl rfl ?_
  refine x_bipush (pc2 := 18) dX5_tellLengths_16 rfl rfl ?_
  obtain ⟨h1, k⟩ := k
  obtain ⟨k1, k2⟩ := k
  refine x_icmp_ge (tgt := 110) (pc2 := 21) dX5_tellLengths_18 (by decide) rfl h1 (by decide) (fun c2 => ?_) (fun c2 => ?_)
  · replace k := k1 c2
    refine x_aload_n (pc2 := 111) dX5_tellLengths_110 rfl rfl ?_
    refine x_iconst (pc2 := 112) dX5_tellLengths_111 rfl ?_
    exact x_drop (drp_k (drp_u (drp_k (drp_k (drp_u (drp_k (drp_k (drp_k drp_n)))))))) k
  · replace k := k2 c2
    refine x_iload (pc2 := 23) dX5_tellLengths_21 rfl rfl ?_
    obtain ⟨k1, k2⟩ := k
    refine x_if_eq (tgt := 34) (pc2 := 26) dX5_tellLengths_23 (by decide) rfl h1 (fun c3 => ?_) (fun c3 => ?_)
    · replace k := k1 c3
      refine x_aload_n (pc2 := 35) dX5_tellLengths_34 rfl rfl ?_
      refine x_iconst (pc2 := 36) dX5_tellLengths_35 rfl ?_
      exact x_drop (drp_k (drp_k (drp_k (drp_u (drp_k (drp_k (drp_k (drp_k drp_n)))))))) k
    · replace k := k2 c3
      refine x_aload_n (pc2 := 27) dX5_tellLengths_26 rfl rfl ?_
      refine x_iconst (pc2 := 28) dX5_tellLengths_27 rfl ?_
      exact k
set_option maxRecDepth 4000 in
theorem g_X5_tellLengths_31 {sc : List Int} {d : Nat} {m : Mem} {Q : Option AV → Mem → Prop} {l1 l2 l3 l4 s0 : Int} (Hl1 : RoomAt l1) (k : (-2147483648 ≤ s0 ∧ s0 < 2147483648) ∧ ((s0 = 0) → (S_X5_tellLengths sc d 112 [aR 32, aU, aI l2, aI l3, aU, aU, aU, aU] [aI 1, aR 32] m Q)) ∧ (¬ (s0 = 0) → (S_X5_tellLengths sc d 36 [aR 32, aR l1, aI l2, aU, aI l4, aU, aU, aU] [aI 1, aR 32] m Q))) : S_X5_tellLengths sc d 31 [aR 32, aR l1, aI l2, aI l3, aI l4, aU, aU, aU] [aI s0] m Q := by
  obtain ⟨h1, k⟩ := k
  obtain ⟨k1, k2⟩ := k
  refine x_if_eq (tgt := 110) (pc2 := 34) dX5_tellLengths_31 (by decide) rfl h1 (fun c2 => ?_) (fun c2 => ?_)
  · replace k := k1 c2
    refine x_aload_n (pc2 := 111) dX5_tellLengths_110 rfl rfl ?_
    refine x_iconst (pc2 := 112) dX5_tellLengths_111 rfl ?_
    exact x_drop (drp_k (drp_u (drp_k (drp_k (drp_u (drp_k (drp_k (drp_k drp_n)))))))) k
  · replace k := k2 c2
    refine x_aload_n (pc2 := 35) dX5_tellLengths_34 rfl rfl ?_
    refine x_iconst (pc2 := 36) dX5_tellLengths_35 rfl ?_
    exact x_drop (drp_k (drp_k (drp_k (drp_u (drp_k (drp_k (drp_k (drp_k drp_n)))))))) k
set_option maxRecDepth 4000 in
theorem g_X5_tellLengths_39 {sc : List Int} {d : Nat} {m : Mem} {Q : Option AV → Mem → Prop} {l1 l2 l4 : Int} (Hl1 : RoomAt l1) (k : S_X5_tellLengths sc d 49 [aR 32, aR l1, aI l2, aU, aI l4, aI (m 32 3), aU, aU] [aI 99, aI 1, aR 32] m Q) : S_X5_tellLengths sc d 39 [aR 32, aR l1, aI l2, aU, aI l4, aU, aU, aU] [] m Q := by
  refine x_aload_n (pc2 := 40) dX5_tellLengths_39 rfl rfl ?_
  refine x_getf (pc2 := 43) (v := aI (m 32 3)) fl_X5_57 ic_32 (fv_i _ ic_32 rfl) dX5_tellLengths_40 rfl ?_
  refine x_istore (pc2 := 45) (ls2 := [aR 32, aR l1, aI l2, aU, aI l4, aI (m 32 3), aU, aU]) dX5_tellLengths_43 rfl (by decide) rfl ?_
  refine x_aload_n (pc2 := 46) dX5_tellLengths_45 rfl rfl ?_
  refine x_iconst (pc2 := 47) dX5_tellLengths_46 rfl ?_
  refine x_bipush (pc2 := 49) dX5_tellLengths_47 rfl rfl ?_
  exact k
set_option maxRecDepth 4000 in
theorem g_X5_tellLengths_52 {sc : List Int} {d : Nat} {m : Mem} {Q : Option AV → Mem → Prop} {l1 l2 l4 l5 s0 : Int} (Hl1 : RoomAt l1) (k : S_X5_tellLengths sc d 57 [aR 32, aR l1, aI l2, aU, aI l4, aI l5, aI s0, aU] [aI s0, aR l1] m Q) : S_X5_tellLengths sc d 52 [aR 32, aR l1, aI l2, aU, aI l4, aI l5, aU, aU] [aI s0] m Q := by
  refine x_istore (pc2 := 54) (ls2 := [aR 32, aR l1, aI l2, aU, aI l4, aI l5, aI s0, aU]) dX5_tellLengths_52 rfl (by decide) rfl ?_
  refine x_aload_n (pc2 := 55) dX5_tellLengths_54 rfl rfl ?_
  refine x_iload (pc2 := 57) dX5_tellLengths_55 rfl rfl ?_
  exact k
set_option maxRecDepth 4000 in
theorem g_X5_tellLengths_60 {sc : List Int} {d : Nat} {m : Mem} {Q : Option AV → Mem → Prop} {l1 l2 l4 l5 l6 s0 : Int} (Hl1 : RoomAt l1) (k : (-2147483648 ≤ s0 ∧ s0 < 2147483648) ∧ ((s0 = 0) → (S_X5_tellLengths sc d 70 [aR 32, aR l1, aI l2, aU, aI l4, aU, aI l6, aU] [] m Q)) ∧ (¬ (s0 = 0) → (S_X5_tellLengths sc d 67 [aR 32, aR l1, aI l2, aU, aI l4, aU, aI l6, aU] [aI l5, aI 2, aR 32] m Q))) : S_X5_tellLengths sc d 60 [aR 32, aR l1, aI l2, aU, aI l4, aI l5, aI l6, aU] [aI s0] m Q := by
  obtain ⟨h1, k⟩ := k
  obtain ⟨k1, k2⟩ := k
  refine x_if_eq (tgt := 70) (pc2 := 63) dX5_tellLengths_60 (by decide) rfl h1 (fun c2 => ?_) (fun c2 => ?_)
  · replace k := k1 c2
    exact x_drop (drp_k (drp_k (drp_k (drp_k (drp_k (drp_u (drp_k (drp_k drp_n)))))))) k
  · replace k := k2 c2
    refine x_aload_n (pc2 := 64) dX5_tellLengths_63 rfl rfl ?_
    refine x_iconst (pc2 := 65) dX5_tellLengths_64 rfl ?_
    refine x_iload (pc2 := 67) dX5_tellLengths_65 rfl rfl ?_
    exact x_drop (drp_k (drp_k (drp_k (drp_k (drp_k (drp_u (drp_k (drp_k drp_n)))))))) k
set_option maxRecDepth 4000 in
theorem g_X5_tellLengths_70 {sc : List Int} {d : Nat} {m : Mem} {Q : Option AV → Mem → Prop} {l1 l2 l4 l6 : Int} (Hl1 : RoomAt l1) (k : S_X5_tellLengths sc d 72 [aR 32, aR l1, aI l2, aU, aI l4, aU, aI l6, aU] [aI 2, aR 32] m Q) : S_X5_tellLengths sc d 70 [aR 32, aR l1, aI l2, aU, aI l4, aU, aI l6, aU] [] m Q := by
  refine x_aload_n (pc2 := 71) dX5_tellLengths_70 rfl rfl ?_
  refine x_iconst (pc2 := 72) dX5_tellLengths_71 rfl ?_
  exact k
set_option maxRecDepth 4000 in
theorem g_X5_tellLengths_75 {sc : List Int} {d : Nat} {m : Mem} {Q : Option AV → Mem → Prop} {l1 l2 l4 l6 : Int} (Hl1 : RoomAt l1) (k : S_X5_tellLengths sc d 86 [aR 32, aR l1, aI l2, aI (m 32 3), aI l4, aU, aI l6, aU] [aI (100 - l2), aI 1, aR 32] m Q) : S_X5_tellLengths sc d 75 [aR 32, aR l1, aI l2, aU, aI l4, aU, aI l6, aU] [] m Q := by
  refine x_aload_n (pc2 := 76) dX5_tellLengths_75 rfl rfl ?_
  refine x_getf (pc2 := 79) (v := aI (m 32 3)) fl_X5_57 ic_32 (fv_i _ ic_32 rfl) dX5_tellLengths_76 rfl ?_
  refine x_istore_n (pc2 := 80) (ls2 := [aR 32, aR l1, aI l2, aI (m 32 3), aI l4, aU, aI l6, aU]) dX5_tellLengths_79 rfl (by decide) rfl ?_
  refine x_aload_n (pc2 := 81) dX5_tellLengths_80 rfl rfl ?_
  refine x_iconst (pc2 := 82) dX5_tellLengths_81 rfl ?_
  refine x_bipush (pc2 := 84) dX5_tellLengths_82 rfl rfl ?_
  refine x_iload_n (pc2 := 85) dX5_tellLengths_84 rfl rfl ?_
  refine x_isub (pc2 := 86) dX5_tellLengths_85 rfl ?_
  exact k
set_option maxRecDepth 4000 in
theorem g_X5_tellLengths_89 {sc : List Int} {d : Nat} {m : Mem} {Q : Option AV → Mem → Prop} {l1 l2 l3 l4 l6 s0 : Int} (Hl1 : RoomAt l1) (k : S_X5_tellLengths sc d 101 [aR 32, aR l1, aI (l2 + s0), aI l3, aI l4, aU, aU, aU] [aI s0, aI l6, aR l1] m Q) : S_X5_tellLengths sc d 89 [aR 32, aR l1, aI l2, aI l3, aI l4, aU, aI l6, aU] [aI s0] m Q := by
  refine x_istore (pc2 := 91) (ls2 := [aR 32, aR l1, aI l2, aI l3, aI l4, aU, aI l6, aI s0]) dX5_tellLengths_89 rfl (by decide) rfl ?_
  refine x_iload_n (pc2 := 92) dX5_tellLengths_91 rfl rfl ?_
  refine x_iload (pc2 := 94) dX5_tellLengths_92 rfl rfl ?_
  refine x_iadd (pc2 := 95) dX5_tellLengths_94 rfl ?_
  refine x_istore_n (pc2 := 96) (ls2 := [aR 32, aR l1, aI (l2 + s0), aI l3, aI l4, aU, aI l6, aI s0]) dX5_tellLengths_95 rfl (by decide) rfl ?_
  refine x_aload_n (pc2 := 97) dX5_tellLengths_96 rfl rfl ?_
  refine x_iload (pc2 := 99) dX5_tellLengths_97 rfl rfl ?_
  refine x_iload (pc2 := 101) dX5_tellLengths_99 rfl rfl ?_
  exact x_drop (drp_k (drp_k (drp_k (drp_k (drp_k (drp_k (drp_u (drp_u drp_n)))))))) k
set_option maxRecDepth 4000 in
theorem g_X5_tellLengths_104 {sc : List Int} {d : Nat} {m : Mem} {Q : Option AV → Mem → Prop} {l1 l2 l3 l4 : Int} (Hl1 : RoomAt l1) (k : S_X5_tellLengths sc d 14 [aR 32, aR l1, aI l2, aI l3, aI (l4 + 1), aU, aU, aU] [] m Q) : S_X5_tellLengths sc d 104 [aR 32, aR l1, aI l2, aI l3, aI l4, aU, aU, aU] [] m Q := by
  refine x_iinc (pc2 := 107) (ls2 := [aR 32, aR l1, aI l2, aI l3, aI (l4 + 1), aU, aU, aU]) dX5_tellLengths_104 rfl rfl (by decide) rfl ?_
  refine x_goto (tgt := 14) dX5_tellLengths_107 (by decide) ?_
  exact k
set_option maxRecDepth 4000 in
theorem g_X5_tellLengths_115 {sc : List Int} {d : Nat} {m : Mem} {Q : Option AV → Mem → Prop} {l2 l3 s0 : Int} (k : (-2147483648 ≤ s0 ∧ s0 < 2147483648) ∧ ((s0 = 0) → (S_X5_tellLengths sc d 127 [aR 32, aU, aI l2, aI l3, aU, aU, aU, aU] [] m Q)) ∧ (¬ (s0 = 0) → (S_X5_tellLengths sc d 124 [aR 32, aU, aI l2, aI l3, aU, aU, aU, aU] [aI (m 32 3), aI 5, aR 32] m Q))) : S_X5_tellLengths sc d 115 [aR 32, aU, aI l2, aI l3, aU, aU, aU, aU] [aI s0] m Q := by
  obtain ⟨h1, k⟩ := k
  obtain ⟨k1, k2⟩ := k
  refine x_if_eq (tgt := 127) (pc2 := 118) dX5_tellLengths_115 (by decide) rfl h1 (fun c2 => ?_) (fun c2 => ?_)
  · replace k := k1 c2
    exact k
  · replace k := k2 c2
    refine x_aload_n (pc2 := 119) dX5_tellLengths_118 rfl rfl ?_
    refine x_iconst (pc2 := 120) dX5_tellLengths_119 rfl ?_
    refine x_aload_n (pc2 := 121) dX5_tellLengths_120 rfl rfl ?_
    refine x_getf (pc2 := 124) (v := aI (m 32 3)) fl_X5_57 ic_32 (fv_i _ ic_32 rfl) dX5_tellLengths_121 rfl ?_
    exact k
set_option maxRecDepth 4000 in
theorem g_X5_tellLengths_127 {sc : List Int} {d : Nat} {m : Mem} {Q : Option AV → Mem → Prop} {l2 l3 : Int} (k : (-2147483648 ≤ l2 ∧ l2 < 2147483648) ∧ ((100 ≤ l2) → (S_X5_tellLengths sc d 139 [aR 32, aU, aU, aU, aU, aU, aU, aU] [] m Q)) ∧ (¬ (100 ≤ l2) → (S_X5_tellLengths sc d 136 [aR 32, aU, aU, aU, aU, aU, aU, aU] [aI l3, aI 2, aR 32] m Q))) : S_X5_tellLengths sc d 127 [aR 32, aU, aI l2, aI l3, aU, aU, aU, aU] [] m Q := by
  refine x_iload_n (pc2 := 128) dX5_tellLengths_127 rfl rfl ?_
  refine x_bipush (pc2 := 130) dX5_tellLengths_128 rfl rfl ?_
  obtain ⟨h1, k⟩ := k
  obtain ⟨k1, k2⟩ := k
  refine x_icmp_ge (tgt := 139) (pc2 := 133) dX5_tellLengths_130 (by decide) rfl h1 (by decide) (fun c2 => ?_) (fun c2 => ?_)
  · replace k := k1 c2
    exact x_drop (drp_k (drp_k (drp_u (drp_u (drp_k (drp_k (drp_k (drp_k drp_n)))))))) k
  · replace k := k2 c2
    refine x_aload_n (pc2 := 134) dX5_tellLengths_133 rfl rfl ?_
    refine x_iconst (pc2 := 135) dX5_tellLengths_134 rfl ?_
    refine x_iload_n (pc2 := 136) dX5_tellLengths_135 rfl rfl ?_
    exact x_drop (drp_k (drp_k (drp_u (drp_u (drp_k (drp_k (drp_k (drp_k drp_n)))))))) k
set_option maxRecDepth 4000 in
theorem g_X5_tellLengths_139 {sc : List Int} {d : Nat} {m : Mem} {Q : Option AV → Mem → Prop} (k : Q none m) : S_X5_tellLengths sc d 139 [aR 32, aU, aU, aU, aU, aU, aU, aU] [] m Q := by
  exact x_return dX5_tellLengths_139 rfl k
theorem c_X5_tellLengths_1 {sc : List Int} {d d2 : Nat} {m m2 : Mem} {Q : Option AV → Mem → Prop} {l1 : Int} (Hl1 : RoomAt l1) (hM : C_X5_advance sc d2 [aR 32] m none m2) (hd : d2 + 1 ≤ d) (k : S_X5_tellLengths sc d 4 [aR 32, aR l1, aU, aU, aU, aU, aU, aU] [] m2 Q) : S_X5_tellLengths sc d 1 [aR 32, aR l1, aU, aU, aU, aU, aU, aU] [aR 32] m Q := x_callV (as := []) (rest := []) hM mk_X5_advance mv_X5_advance lk_X5_54 (Or.inl ⟨5, (RX5, TX5, 12), ic_32, Nat.le_of_ble_eq_true rfl, rfl, rfl⟩) hd rfl rfl (Nat.le_of_ble_eq_true rfl) dX5_tellLengths_1 rfl k
theorem c_X5_tellLengths_28 {sc : List Int} {d d2 : Nat} {m m2 : Mem} {Q : Option AV → Mem → Prop} {l1 l2 l3 l4 s1 : Int} {v : Int} (Hl1 : RoomAt l1) (hM : C_X5_isWord sc d2 [aR 32, aI s1] m (some (aI v)) m2) (hd : d2 + 1 ≤ d) (k : S_X5_tellLengths sc d 31 [aR 32, aR l1, aI l2, aI l3, aI l4, aU, aU, aU] [aI v] m2 Q) : S_X5_tellLengths sc d 28 [aR 32, aR l1, aI l2, aI l3, aI l4, aU, aU, aU] [aI s1, aR 32] m Q := x_callV (as := [aI s1]) (rest := []) hM mk_X5_isWord mv_X5_isWord lk_X5_80 (Or.inl ⟨5, (RX5, TX5, 12), ic_32, Nat.le_of_ble_eq_true rfl, rfl, rfl⟩) hd rfl rfl (Nat.le_of_ble_eq_true rfl) dX5_tellLengths_28 rfl k
theorem c_X5_tellLengths_36 {sc : List Int} {d d2 : Nat} {m m2 : Mem} {Q : Option AV → Mem → Prop} {l1 l2 l4 s1 : Int} (Hl1 : RoomAt l1) (hM : C_X5_expect sc d2 [aR 32, aI s1] m none m2) (hd : d2 + 1 ≤ d) (k : S_X5_tellLengths sc d 39 [aR 32, aR l1, aI l2, aU, aI l4, aU, aU, aU] [] m2 Q) : S_X5_tellLengths sc d 36 [aR 32, aR l1, aI l2, aU, aI l4, aU, aU, aU] [aI s1, aR 32] m Q := x_callV (as := [aI s1]) (rest := []) hM mk_X5_expect mv_X5_expect lk_X5_133 (Or.inl ⟨5, (RX5, TX5, 12), ic_32, Nat.le_of_ble_eq_true rfl, rfl, rfl⟩) hd rfl rfl (Nat.le_of_ble_eq_true rfl) dX5_tellLengths_36 rfl k
theorem c_X5_tellLengths_49 {sc : List Int} {d d2 : Nat} {m m2 : Mem} {Q : Option AV → Mem → Prop} {l1 l2 l4 l5 s1 s2 : Int} {v : Int} (Hl1 : RoomAt l1) (hM : C_X5_number sc d2 [aR 32, aI s1, aI s2] m (some (aI v)) m2) (hd : d2 + 1 ≤ d) (k : S_X5_tellLengths sc d 52 [aR 32, aR l1, aI l2, aU, aI l4, aI l5, aU, aU] [aI v] m2 Q) : S_X5_tellLengths sc d 49 [aR 32, aR l1, aI l2, aU, aI l4, aI l5, aU, aU] [aI s2, aI s1, aR 32] m Q := x_callV (as := [aI s1, aI s2]) (rest := []) hM mk_X5_number mv_X5_number lk_X5_130 (Or.inl ⟨5, (RX5, TX5, 12), ic_32, Nat.le_of_ble_eq_true rfl, rfl, rfl⟩) hd rfl rfl (Nat.le_of_ble_eq_true rfl) dX5_tellLengths_49 rfl k
theorem c_X5_tellLengths_57 {sc : List Int} {d d2 : Nat} {m m2 : Mem} {Q : Option AV → Mem → Prop} {l1 l2 l4 l5 l6 s0 s1 : Int} {v : Int} (Hl1 : RoomAt l1) (Hs0 : RoomAt s0) (hM : C_X6_hasLength sc d2 [aR s0, aI s1] m (some (aI v)) m2) (hd : d2 + 1 ≤ d) (k : S_X5_tellLengths sc d 60 [aR 32, aR l1, aI l2, aU, aI l4, aI l5, aI l6, aU] [aI v] m2 Q) : S_X5_tellLengths sc d 57 [aR 32, aR l1, aI l2, aU, aI l4, aI l5, aI l6, aU] [aI s1, aR s0] m Q := x_callV (as := [aI s1]) (rest := []) hM mk_X6_hasLength mv_X6_hasLength lk_X5_136 (Or.inl ⟨6, (RX6, TX6, 16), icr_0 Hs0, Nat.le_of_ble_eq_true rfl, rfl, rfl⟩) hd rfl rfl (Nat.le_of_ble_eq_true rfl) dX5_tellLengths_57 rfl k
theorem c_X5_tellLengths_67 {sc : List Int} {d d2 : Nat} {m m2 : Mem} {Q : Option AV → Mem → Prop} {l1 l2 l4 l6 s1 s2 : Int} (Hl1 : RoomAt l1) (hM : C_X5_fail sc d2 [aR 32, aI s1, aI s2] m none m2) (hd : d2 + 1 ≤ d) (k : S_X5_tellLengths sc d 70 [aR 32, aR l1, aI l2, aU, aI l4, aU, aI l6, aU] [] m2 Q) : S_X5_tellLengths sc d 67 [aR 32, aR l1, aI l2, aU, aI l4, aU, aI l6, aU] [aI s2, aI s1, aR 32] m Q := x_callV (as := [aI s1, aI s2]) (rest := []) hM mk_X5_fail mv_X5_fail lk_X5_84 (Or.inl ⟨5, (RX5, TX5, 12), ic_32, Nat.le_of_ble_eq_true rfl, rfl, rfl⟩) hd rfl rfl (Nat.le_of_ble_eq_true rfl) dX5_tellLengths_67 rfl k
theorem c_X5_tellLengths_72 {sc : List Int} {d d2 : Nat} {m m2 : Mem} {Q : Option AV → Mem → Prop} {l1 l2 l4 l6 s1 : Int} (Hl1 : RoomAt l1) (hM : C_X5_expect sc d2 [aR 32, aI s1] m none m2) (hd : d2 + 1 ≤ d) (k : S_X5_tellLengths sc d 75 [aR 32, aR l1, aI l2, aU, aI l4, aU, aI l6, aU] [] m2 Q) : S_X5_tellLengths sc d 72 [aR 32, aR l1, aI l2, aU, aI l4, aU, aI l6, aU] [aI s1, aR 32] m Q := x_callV (as := [aI s1]) (rest := []) hM mk_X5_expect mv_X5_expect lk_X5_133 (Or.inl ⟨5, (RX5, TX5, 12), ic_32, Nat.le_of_ble_eq_true rfl, rfl, rfl⟩) hd rfl rfl (Nat.le_of_ble_eq_true rfl) dX5_tellLengths_72 rfl k
theorem c_X5_tellLengths_86 {sc : List Int} {d d2 : Nat} {m m2 : Mem} {Q : Option AV → Mem → Prop} {l1 l2 l3 l4 l6 s1 s2 : Int} {v : Int} (Hl1 : RoomAt l1) (hM : C_X5_number sc d2 [aR 32, aI s1, aI s2] m (some (aI v)) m2) (hd : d2 + 1 ≤ d) (k : S_X5_tellLengths sc d 89 [aR 32, aR l1, aI l2, aI l3, aI l4, aU, aI l6, aU] [aI v] m2 Q) : S_X5_tellLengths sc d 86 [aR 32, aR l1, aI l2, aI l3, aI l4, aU, aI l6, aU] [aI s2, aI s1, aR 32] m Q := x_callV (as := [aI s1, aI s2]) (rest := []) hM mk_X5_number mv_X5_number lk_X5_130 (Or.inl ⟨5, (RX5, TX5, 12), ic_32, Nat.le_of_ble_eq_true rfl, rfl, rfl⟩) hd rfl rfl (Nat.le_of_ble_eq_true rfl) dX5_tellLengths_86 rfl k
theorem c_X5_tellLengths_101 {sc : List Int} {d d2 : Nat} {m m2 : Mem} {Q : Option AV → Mem → Prop} {l1 l2 l3 l4 s0 s1 s2 : Int} (Hl1 : RoomAt l1) (Hs0 : RoomAt s0) (hM : C_X6_addLength sc d2 [aR s0, aI s1, aI s2] m none m2) (hd : d2 + 1 ≤ d) (k : S_X5_tellLengths sc d 104 [aR 32, aR l1, aI l2, aI l3, aI l4, aU, aU, aU] [] m2 Q) : S_X5_tellLengths sc d 101 [aR 32, aR l1, aI l2, aI l3, aI l4, aU, aU, aU] [aI s2, aI s1, aR s0] m Q := x_callV (as := [aI s1, aI s2]) (rest := []) hM mk_X6_addLength mv_X6_addLength lk_X5_139 (Or.inl ⟨6, (RX6, TX6, 16), icr_0 Hs0, Nat.le_of_ble_eq_true rfl, rfl, rfl⟩) hd rfl rfl (Nat.le_of_ble_eq_true rfl) dX5_tellLengths_101 rfl k
theorem c_X5_tellLengths_112 {sc : List Int} {d d2 : Nat} {m m2 : Mem} {Q : Option AV → Mem → Prop} {l2 l3 s1 : Int} {v : Int} (hM : C_X5_isWord sc d2 [aR 32, aI s1] m (some (aI v)) m2) (hd : d2 + 1 ≤ d) (k : S_X5_tellLengths sc d 115 [aR 32, aU, aI l2, aI l3, aU, aU, aU, aU] [aI v] m2 Q) : S_X5_tellLengths sc d 112 [aR 32, aU, aI l2, aI l3, aU, aU, aU, aU] [aI s1, aR 32] m Q := x_callV (as := [aI s1]) (rest := []) hM mk_X5_isWord mv_X5_isWord lk_X5_80 (Or.inl ⟨5, (RX5, TX5, 12), ic_32, Nat.le_of_ble_eq_true rfl, rfl, rfl⟩) hd rfl rfl (Nat.le_of_ble_eq_true rfl) dX5_tellLengths_112 rfl k
theorem c_X5_tellLengths_124 {sc : List Int} {d d2 : Nat} {m m2 : Mem} {Q : Option AV → Mem → Prop} {l2 l3 s1 s2 : Int} (hM : C_X5_fail sc d2 [aR 32, aI s1, aI s2] m none m2) (hd : d2 + 1 ≤ d) (k : S_X5_tellLengths sc d 127 [aR 32, aU, aI l2, aI l3, aU, aU, aU, aU] [] m2 Q) : S_X5_tellLengths sc d 124 [aR 32, aU, aI l2, aI l3, aU, aU, aU, aU] [aI s2, aI s1, aR 32] m Q := x_callV (as := [aI s1, aI s2]) (rest := []) hM mk_X5_fail mv_X5_fail lk_X5_84 (Or.inl ⟨5, (RX5, TX5, 12), ic_32, Nat.le_of_ble_eq_true rfl, rfl, rfl⟩) hd rfl rfl (Nat.le_of_ble_eq_true rfl) dX5_tellLengths_124 rfl k
theorem c_X5_tellLengths_136 {sc : List Int} {d d2 : Nat} {m m2 : Mem} {Q : Option AV → Mem → Prop} {s1 s2 : Int} (hM : C_X5_fail sc d2 [aR 32, aI s1, aI s2] m none m2) (hd : d2 + 1 ≤ d) (k : S_X5_tellLengths sc d 139 [aR 32, aU, aU, aU, aU, aU, aU, aU] [] m2 Q) : S_X5_tellLengths sc d 136 [aR 32, aU, aU, aU, aU, aU, aU, aU] [aI s2, aI s1, aR 32] m Q := x_callV (as := [aI s1, aI s2]) (rest := []) hM mk_X5_fail mv_X5_fail lk_X5_84 (Or.inl ⟨5, (RX5, TX5, 12), ic_32, Nat.le_of_ble_eq_true rfl, rfl, rfl⟩) hd rfl rfl (Nat.le_of_ble_eq_true rfl) dX5_tellLengths_136 rfl k
set_option maxRecDepth 4000 in
theorem g_X5_tellSeam_0 {sc : List Int} {d : Nat} {m : Mem} {Q : Option AV → Mem → Prop} {l1 : Int} (Hl1 : RoomAt l1) (k : (-2147483648 ≤ (m l1 8) ∧ (m l1 8) < 2147483648) ∧ (((m l1 8) < 10) → (S_X5_tellSeam sc d 20 [aR 32, aR l1, aU, aU, aU] [aR 32] m Q)) ∧ (¬ ((m l1 8) < 10) → (S_X5_tellSeam sc d 15 [aR 32, aU, aU, aU, aU] [aI (m 32 3), aI 5, aR 32] m Q))) : S_X5_tellSeam sc d 0 [aR 32, aR l1, aU, aU, aU] [] m Q := by
  refine x_aload_n (pc2 := 1) dX5_tellSeam_0 rfl rfl ?_
  refine x_getf (pc2 := 4) (v := aI (m l1 8)) fl_X5_142 (icr_0 Hl1) (fv_i _ (icr_0 Hl1) rfl) dX5_tellSeam_1 rfl ?_
  refine x_bipush (pc2 := 6) dX5_tellSeam_4 rfl rfl ?_
  obtain ⟨h1, k⟩ := k
  obtain ⟨k1, k2⟩ := k
  refine x_icmp_lt (tgt := 19) (pc2 := 9) dX5_tellSeam_6 (by decide) rfl h1 (by decide) (fun c2 => ?_) (fun c2 => ?_)
  · replace k := k1 c2
    refine x_aload_n (pc2 := 20) dX5_tellSeam_19 rfl rfl ?_
    exact k
  · replace k := k2 c2
    refine x_aload_n (pc2 := 10) dX5_tellSeam_9 rfl rfl ?_
    refine x_iconst (pc2 := 11) dX5_tellSeam_10 rfl ?_
    refine x_aload_n (pc2 := 12) dX5_tellSeam_11 rfl rfl ?_
    refine x_getf (pc2 := 15) (v := aI (m 32 3)) fl_X5_57 ic_32 (fv_i _ ic_32 rfl) dX5_tellSeam_12 rfl ?_
    exact x_drop (drp_k (drp_u (drp_k (drp_k (drp_k drp_n))))) k
set_option maxRecDepth 4000 in
theorem g_X5_tellSeam_18 {sc : List Int} {d : Nat} {m : Mem} {Q : Option AV → Mem → Prop} (k : Q none m) : S_X5_tellSeam sc d 18 [aR 32, aU, aU, aU, aU] [] m Q := by
  exact x_return dX5_tellSeam_18 rfl k
set_option maxRecDepth 4000 in
theorem g_X5_tellSeam_23 {sc : List Int} {d : Nat} {m : Mem} {Q : Option AV → Mem → Prop} {l1 : Int} (Hl1 : RoomAt l1) (k : S_X5_tellSeam sc d 29 [aR 32, aR l1, aU, aU, aU] [aI (m l1 8), aR l1, aR 32] m Q) : S_X5_tellSeam sc d 23 [aR 32, aR l1, aU, aU, aU] [] m Q := by
  refine x_aload_n (pc2 := 24) dX5_tellSeam_23 rfl rfl ?_
  refine x_aload_n (pc2 := 25) dX5_tellSeam_24 rfl rfl ?_
  refine x_aload_n (pc2 := 26) dX5_tellSeam_25 rfl rfl ?_
  refine x_getf (pc2 := 29) (v := aI (m l1 8)) fl_X5_142 (icr_0 Hl1) (fv_i _ (icr_0 Hl1) rfl) dX5_tellSeam_26 rfl ?_
  exact k
set_option maxRecDepth 4000 in
theorem g_X5_tellSeam_32 {sc : List Int} {d : Nat} {m : Mem} {Q : Option AV → Mem → Prop} {l1 : Int} (Hl1 : RoomAt l1) (k : S_X5_tellSeam sc d 34 [aR 32, aR l1, aU, aU, aU] [aI 4, aR 32] m Q) : S_X5_tellSeam sc d 32 [aR 32, aR l1, aU, aU, aU] [] m Q := by
  refine x_aload_n (pc2 := 33) dX5_tellSeam_32 rfl rfl ?_
  refine x_iconst (pc2 := 34) dX5_tellSeam_33 rfl ?_
  exact k
set_option maxRecDepth 4000 in
theorem g_X5_tellSeam_37 {sc : List Int} {d : Nat} {m : Mem} {Q : Option AV → Mem → Prop} {l1 : Int} (Hl1 : RoomAt l1) (k : S_X5_tellSeam sc d 41 [aR 32, aR l1, aU, aU, aU] [aI 99, aI 1, aR 32] m Q) : S_X5_tellSeam sc d 37 [aR 32, aR l1, aU, aU, aU] [] m Q := by
  refine x_aload_n (pc2 := 38) dX5_tellSeam_37 rfl rfl ?_
  refine x_iconst (pc2 := 39) dX5_tellSeam_38 rfl ?_
  refine x_bipush (pc2 := 41) dX5_tellSeam_39 rfl rfl ?_
  exact k
set_option maxRecDepth 4000 in
theorem g_X5_tellSeam_44 {sc : List Int} {d : Nat} {m : Mem} {Q : Option AV → Mem → Prop} {l1 s0 : Int} (Hl1 : RoomAt l1) (k : S_X5_tellSeam sc d 47 [aR 32, aR l1, aI s0, aU, aU] [aI 5, aR 32] m Q) : S_X5_tellSeam sc d 44 [aR 32, aR l1, aU, aU, aU] [aI s0] m Q := by
  refine x_istore_n (pc2 := 45) (ls2 := [aR 32, aR l1, aI s0, aU, aU]) dX5_tellSeam_44 rfl (by decide) rfl ?_
  refine x_aload_n (pc2 := 46) dX5_tellSeam_45 rfl rfl ?_
  refine x_iconst (pc2 := 47) dX5_tellSeam_46 rfl ?_
  exact k
set_option maxRecDepth 4000 in
theorem g_X5_tellSeam_50 {sc : List Int} {d : Nat} {m : Mem} {Q : Option AV → Mem → Prop} {l1 l2 s0 : Int} (Hl1 : RoomAt l1) (k : ((-2147483648 ≤ s0 ∧ s0 < 2147483648)) ∧ (-2147483648 ≤ (if s0 = 0 then 0 else 1 : Int) ∧ (if s0 = 0 then 0 else 1 : Int) < 2147483648) ∧ (((if s0 = 0 then 0 else 1 : Int) ≠ 1) → (S_X5_tellSeam sc d 68 [aR 32, aR l1, aI l2, aI (if s0 = 0 then 0 else 1 : Int), aU] [] m Q)) ∧ (¬ ((if s0 = 0 then 0 else 1 : Int) ≠ 1) → (S_X5_tellSeam sc d 65 [aR 32, aR l1, aI l2, aI (if s0 = 0 then 0 else 1 : Int), aU] [aR 32] m Q))) : S_X5_tellSeam sc d 50 [aR 32, aR l1, aI l2, aU, aU] [aI s0] m Q := by
  obtain ⟨g2, k⟩ := k
  have kj : S_X5_tellSeam sc d 58 [aR 32, aR l1, aI l2, aU, aU] [aI (if s0 = 0 then 0 else 1 : Int)] m Q := by
    refine x_istore_n (pc2 := 59) (ls2 := [aR 32, aR l1, aI l2, aI (if s0 = 0 then 0 else 1 : Int), aU]) dX5_tellSeam_58 rfl (by decide) rfl ?_
    refine x_iload_n (pc2 := 60) dX5_tellSeam_59 rfl rfl ?_
    refine x_iconst (pc2 := 61) dX5_tellSeam_60 rfl ?_
    obtain ⟨h3, k⟩ := k
    obtain ⟨k1, k2⟩ := k
    refine x_icmp_ne (tgt := 68) (pc2 := 64) dX5_tellSeam_61 (by decide) rfl h3 (by decide) (fun c4 => ?_) (fun c4 => ?_)
    · replace k := k1 c4
      exact k
    · replace k := k2 c4
      refine x_aload_n (pc2 := 65) dX5_tellSeam_64 rfl rfl ?_
      exact k
  have h5 := g2 
  refine x_if_eq (tgt := 57) (pc2 := 53) dX5_tellSeam_50 (by decide) rfl h5 (fun c6 => ?_) (fun c6 => ?_)
  · skip
    refine x_iconst (pc2 := 58) dX5_tellSeam_57 rfl ?_
    exact x_topI (if_pos c6) kj
  · skip
    refine x_iconst (pc2 := 54) dX5_tellSeam_53 rfl ?_
    refine x_goto (tgt := 58) dX5_tellSeam_54 (by decide) ?_
    exact x_topI (if_neg c6) kj
set_option maxRecDepth 4000 in
theorem g_X5_tellSeam_68 {sc : List Int} {d : Nat} {m : Mem} {Q : Option AV → Mem → Prop} {l1 l2 l3 : Int} (Hl1 : RoomAt l1) (k : S_X5_tellSeam sc d 71 [aR 32, aR l1, aI l2, aI l3, aU] [aI 6, aR 32] m Q) : S_X5_tellSeam sc d 68 [aR 32, aR l1, aI l2, aI l3, aU] [] m Q := by
  refine x_aload_n (pc2 := 69) dX5_tellSeam_68 rfl rfl ?_
  refine x_bipush (pc2 := 71) dX5_tellSeam_69 rfl rfl ?_
  exact k
set_option maxRecDepth 4000 in
theorem g_X5_tellSeam_74 {sc : List Int} {d : Nat} {m : Mem} {Q : Option AV → Mem → Prop} {l1 l2 l3 s0 : Int} (Hl1 : RoomAt l1) (k : (-2147483648 ≤ s0 ∧ s0 < 2147483648) ∧ ((s0 = 0) → (S_X5_tellSeam sc d 94 [aR 32, aU, aU, aU, aU] [aI 0, aI l3, aI l2, aR l1] m Q)) ∧ (¬ (s0 = 0) → (S_X5_tellSeam sc d 80 [aR 32, aR l1, aI l2, aI l3, aU] [aI l2, aR l1, aR 32] m Q))) : S_X5_tellSeam sc d 74 [aR 32, aR l1, aI l2, aI l3, aU] [aI s0] m Q := by
  obtain ⟨h1, k⟩ := k
  obtain ⟨k1, k2⟩ := k
  refine x_if_eq (tgt := 86) (pc2 := 77) dX5_tellSeam_74 (by decide) rfl h1 (fun c2 => ?_) (fun c2 => ?_)
  · replace k := k1 c2
    refine x_iconst (pc2 := 87) dX5_tellSeam_86 rfl ?_
    refine x_istore (pc2 := 89) (ls2 := [aR 32, aR l1, aI l2, aI l3, aI 0]) dX5_tellSeam_87 rfl (by decide) rfl ?_
    refine x_aload_n (pc2 := 90) dX5_tellSeam_89 rfl rfl ?_
    refine x_iload_n (pc2 := 91) dX5_tellSeam_90 rfl rfl ?_
    refine x_iload_n (pc2 := 92) dX5_tellSeam_91 rfl rfl ?_
    refine x_iload (pc2 := 94) dX5_tellSeam_92 rfl rfl ?_
    exact x_drop (drp_k (drp_u (drp_u (drp_u (drp_u drp_n))))) k
  · replace k := k2 c2
    refine x_aload_n (pc2 := 78) dX5_tellSeam_77 rfl rfl ?_
    refine x_aload_n (pc2 := 79) dX5_tellSeam_78 rfl rfl ?_
    refine x_iload_n (pc2 := 80) dX5_tellSeam_79 rfl rfl ?_
    exact k
set_option maxRecDepth 4000 in
theorem g_X5_tellSeam_83 {sc : List Int} {d : Nat} {m : Mem} {Q : Option AV → Mem → Prop} {l1 l2 l3 s0 : Int} (Hl1 : RoomAt l1) (k : S_X5_tellSeam sc d 94 [aR 32, aU, aU, aU, aU] [aI s0, aI l3, aI l2, aR l1] m Q) : S_X5_tellSeam sc d 83 [aR 32, aR l1, aI l2, aI l3, aU] [aI s0] m Q := by
  refine x_goto (tgt := 87) dX5_tellSeam_83 (by decide) ?_
  refine x_istore (pc2 := 89) (ls2 := [aR 32, aR l1, aI l2, aI l3, aI s0]) dX5_tellSeam_87 rfl (by decide) rfl ?_
  refine x_aload_n (pc2 := 90) dX5_tellSeam_89 rfl rfl ?_
  refine x_iload_n (pc2 := 91) dX5_tellSeam_90 rfl rfl ?_
  refine x_iload_n (pc2 := 92) dX5_tellSeam_91 rfl rfl ?_
  refine x_iload (pc2 := 94) dX5_tellSeam_92 rfl rfl ?_
  exact x_drop (drp_k (drp_u (drp_u (drp_u (drp_u drp_n))))) k
set_option maxRecDepth 4000 in
theorem g_X5_tellSeam_97 {sc : List Int} {d : Nat} {m : Mem} {Q : Option AV → Mem → Prop} (k : Q none m) : S_X5_tellSeam sc d 97 [aR 32, aU, aU, aU, aU] [] m Q := by
  exact x_return dX5_tellSeam_97 rfl k
theorem c_X5_tellSeam_15 {sc : List Int} {d d2 : Nat} {m m2 : Mem} {Q : Option AV → Mem → Prop} {s1 s2 : Int} (hM : C_X5_fail sc d2 [aR 32, aI s1, aI s2] m none m2) (hd : d2 + 1 ≤ d) (k : S_X5_tellSeam sc d 18 [aR 32, aU, aU, aU, aU] [] m2 Q) : S_X5_tellSeam sc d 15 [aR 32, aU, aU, aU, aU] [aI s2, aI s1, aR 32] m Q := x_callV (as := [aI s1, aI s2]) (rest := []) hM mk_X5_fail mv_X5_fail lk_X5_84 (Or.inl ⟨5, (RX5, TX5, 12), ic_32, Nat.le_of_ble_eq_true rfl, rfl, rfl⟩) hd rfl rfl (Nat.le_of_ble_eq_true rfl) dX5_tellSeam_15 rfl k
theorem c_X5_tellSeam_20 {sc : List Int} {d d2 : Nat} {m m2 : Mem} {Q : Option AV → Mem → Prop} {l1 : Int} (Hl1 : RoomAt l1) (hM : C_X5_advance sc d2 [aR 32] m none m2) (hd : d2 + 1 ≤ d) (k : S_X5_tellSeam sc d 23 [aR 32, aR l1, aU, aU, aU] [] m2 Q) : S_X5_tellSeam sc d 20 [aR 32, aR l1, aU, aU, aU] [aR 32] m Q := x_callV (as := []) (rest := []) hM mk_X5_advance mv_X5_advance lk_X5_54 (Or.inl ⟨5, (RX5, TX5, 12), ic_32, Nat.le_of_ble_eq_true rfl, rfl, rfl⟩) hd rfl rfl (Nat.le_of_ble_eq_true rfl) dX5_tellSeam_20 rfl k
theorem c_X5_tellSeam_29 {sc : List Int} {d d2 : Nat} {m m2 : Mem} {Q : Option AV → Mem → Prop} {l1 s1 s2 : Int} (Hl1 : RoomAt l1) (Hs1 : RoomAt s1) (hM : C_X5_name sc d2 [aR 32, aR s1, aI s2] m none m2) (hd : d2 + 1 ≤ d) (k : S_X5_tellSeam sc d 32 [aR 32, aR l1, aU, aU, aU] [] m2 Q) : S_X5_tellSeam sc d 29 [aR 32, aR l1, aU, aU, aU] [aI s2, aR s1, aR 32] m Q := x_callV (as := [aR s1, aI s2]) (rest := []) hM mk_X5_name mv_X5_name lk_X5_145 (Or.inl ⟨5, (RX5, TX5, 12), ic_32, Nat.le_of_ble_eq_true rfl, rfl, rfl⟩) hd rfl rfl (Nat.le_of_ble_eq_true rfl) dX5_tellSeam_29 rfl k
theorem c_X5_tellSeam_34 {sc : List Int} {d d2 : Nat} {m m2 : Mem} {Q : Option AV → Mem → Prop} {l1 s1 : Int} (Hl1 : RoomAt l1) (hM : C_X5_expect sc d2 [aR 32, aI s1] m none m2) (hd : d2 + 1 ≤ d) (k : S_X5_tellSeam sc d 37 [aR 32, aR l1, aU, aU, aU] [] m2 Q) : S_X5_tellSeam sc d 34 [aR 32, aR l1, aU, aU, aU] [aI s1, aR 32] m Q := x_callV (as := [aI s1]) (rest := []) hM mk_X5_expect mv_X5_expect lk_X5_133 (Or.inl ⟨5, (RX5, TX5, 12), ic_32, Nat.le_of_ble_eq_true rfl, rfl, rfl⟩) hd rfl rfl (Nat.le_of_ble_eq_true rfl) dX5_tellSeam_34 rfl k
theorem c_X5_tellSeam_41 {sc : List Int} {d d2 : Nat} {m m2 : Mem} {Q : Option AV → Mem → Prop} {l1 s1 s2 : Int} {v : Int} (Hl1 : RoomAt l1) (hM : C_X5_number sc d2 [aR 32, aI s1, aI s2] m (some (aI v)) m2) (hd : d2 + 1 ≤ d) (k : S_X5_tellSeam sc d 44 [aR 32, aR l1, aU, aU, aU] [aI v] m2 Q) : S_X5_tellSeam sc d 41 [aR 32, aR l1, aU, aU, aU] [aI s2, aI s1, aR 32] m Q := x_callV (as := [aI s1, aI s2]) (rest := []) hM mk_X5_number mv_X5_number lk_X5_130 (Or.inl ⟨5, (RX5, TX5, 12), ic_32, Nat.le_of_ble_eq_true rfl, rfl, rfl⟩) hd rfl rfl (Nat.le_of_ble_eq_true rfl) dX5_tellSeam_41 rfl k
theorem c_X5_tellSeam_47 {sc : List Int} {d d2 : Nat} {m m2 : Mem} {Q : Option AV → Mem → Prop} {l1 l2 s1 : Int} {v : Int} (Hl1 : RoomAt l1) (hM : C_X5_isWord sc d2 [aR 32, aI s1] m (some (aI v)) m2) (hd : d2 + 1 ≤ d) (k : S_X5_tellSeam sc d 50 [aR 32, aR l1, aI l2, aU, aU] [aI v] m2 Q) : S_X5_tellSeam sc d 47 [aR 32, aR l1, aI l2, aU, aU] [aI s1, aR 32] m Q := x_callV (as := [aI s1]) (rest := []) hM mk_X5_isWord mv_X5_isWord lk_X5_80 (Or.inl ⟨5, (RX5, TX5, 12), ic_32, Nat.le_of_ble_eq_true rfl, rfl, rfl⟩) hd rfl rfl (Nat.le_of_ble_eq_true rfl) dX5_tellSeam_47 rfl k
theorem c_X5_tellSeam_65 {sc : List Int} {d d2 : Nat} {m m2 : Mem} {Q : Option AV → Mem → Prop} {l1 l2 l3 : Int} (Hl1 : RoomAt l1) (hM : C_X5_advance sc d2 [aR 32] m none m2) (hd : d2 + 1 ≤ d) (k : S_X5_tellSeam sc d 68 [aR 32, aR l1, aI l2, aI l3, aU] [] m2 Q) : S_X5_tellSeam sc d 65 [aR 32, aR l1, aI l2, aI l3, aU] [aR 32] m Q := x_callV (as := []) (rest := []) hM mk_X5_advance mv_X5_advance lk_X5_54 (Or.inl ⟨5, (RX5, TX5, 12), ic_32, Nat.le_of_ble_eq_true rfl, rfl, rfl⟩) hd rfl rfl (Nat.le_of_ble_eq_true rfl) dX5_tellSeam_65 rfl k
theorem c_X5_tellSeam_71 {sc : List Int} {d d2 : Nat} {m m2 : Mem} {Q : Option AV → Mem → Prop} {l1 l2 l3 s1 : Int} {v : Int} (Hl1 : RoomAt l1) (hM : C_X5_isWord sc d2 [aR 32, aI s1] m (some (aI v)) m2) (hd : d2 + 1 ≤ d) (k : S_X5_tellSeam sc d 74 [aR 32, aR l1, aI l2, aI l3, aU] [aI v] m2 Q) : S_X5_tellSeam sc d 71 [aR 32, aR l1, aI l2, aI l3, aU] [aI s1, aR 32] m Q := x_callV (as := [aI s1]) (rest := []) hM mk_X5_isWord mv_X5_isWord lk_X5_80 (Or.inl ⟨5, (RX5, TX5, 12), ic_32, Nat.le_of_ble_eq_true rfl, rfl, rfl⟩) hd rfl rfl (Nat.le_of_ble_eq_true rfl) dX5_tellSeam_71 rfl k
theorem c_X5_tellSeam_80 {sc : List Int} {d d2 : Nat} {m m2 : Mem} {Q : Option AV → Mem → Prop} {l1 l2 l3 s1 s2 : Int} {v : Int} (Hl1 : RoomAt l1) (Hs1 : RoomAt s1) (hM : C_X5_tellPlaces sc d2 [aR 32, aR s1, aI s2] m (some (aI v)) m2) (hd : d2 + 1 ≤ d) (k : S_X5_tellSeam sc d 83 [aR 32, aR l1, aI l2, aI l3, aU] [aI v] m2 Q) : S_X5_tellSeam sc d 80 [aR 32, aR l1, aI l2, aI l3, aU] [aI s2, aR s1, aR 32] m Q := x_callV (as := [aR s1, aI s2]) (rest := []) hM mk_X5_tellPlaces mv_X5_tellPlaces lk_X5_148 (Or.inl ⟨5, (RX5, TX5, 12), ic_32, Nat.le_of_ble_eq_true rfl, rfl, rfl⟩) hd rfl rfl (Nat.le_of_ble_eq_true rfl) dX5_tellSeam_80 rfl k
theorem c_X5_tellSeam_94 {sc : List Int} {d d2 : Nat} {m m2 : Mem} {Q : Option AV → Mem → Prop} {s0 s1 s2 s3 : Int} (Hs0 : RoomAt s0) (hM : C_X6_addSeam sc d2 [aR s0, aI s1, aI s2, aI s3] m none m2) (hd : d2 + 1 ≤ d) (k : S_X5_tellSeam sc d 97 [aR 32, aU, aU, aU, aU] [] m2 Q) : S_X5_tellSeam sc d 94 [aR 32, aU, aU, aU, aU] [aI s3, aI s2, aI s1, aR s0] m Q := x_callV (as := [aI s1, aI s2, aI s3]) (rest := []) hM mk_X6_addSeam mv_X6_addSeam lk_X5_152 (Or.inl ⟨6, (RX6, TX6, 16), icr_0 Hs0, Nat.le_of_ble_eq_true rfl, rfl, rfl⟩) hd rfl rfl (Nat.le_of_ble_eq_true rfl) dX5_tellSeam_94 rfl k
set_option maxRecDepth 4000 in
theorem g_X5_tellPlaces_0 {sc : List Int} {d : Nat} {m : Mem} {Q : Option AV → Mem → Prop} {l1 l2 : Int} (Hl1 : RoomAt l1) (k : S_X5_tellPlaces sc d 1 [aR 32, aR l1, aI l2, aU, aU, aU] [aR 32] m Q) : S_X5_tellPlaces sc d 0 [aR 32, aR l1, aI l2, aU, aU, aU] [] m Q := by
  refine x_aload_n (pc2 := 1) dX5_tellPlaces_0 rfl rfl ?_
  exact k
set_option maxRecDepth 4000 in
theorem g_X5_tellPlaces_4 {sc : List Int} {d : Nat} {m : Mem} {Q : Option AV → Mem → Prop} {l1 l2 : Int} (Hl1 : RoomAt l1) (k : S_X5_tellPlaces sc d 12 [aR 32, aR l1, aI l2, aI 0, aI 0, aI 0] [] m Q) : S_X5_tellPlaces sc d 4 [aR 32, aR l1, aI l2, aU, aU, aU] [] m Q := by
  refine x_iconst (pc2 := 5) dX5_tellPlaces_4 rfl ?_
  refine x_istore_n (pc2 := 6) (ls2 := [aR 32, aR l1, aI l2, aI 0, aU, aU]) dX5_tellPlaces_5 rfl (by decide) rfl ?_
  refine x_iconst (pc2 := 7) dX5_tellPlaces_6 rfl ?_
  refine x_istore (pc2 := 9) (ls2 := [aR 32, aR l1, aI l2, aI 0, aI 0, aU]) dX5_tellPlaces_7 rfl (by decide) rfl ?_
  refine x_iconst (pc2 := 10) dX5_tellPlaces_9 rfl ?_
  refine x_istore (pc2 := 12) (ls2 := [aR 32, aR l1, aI l2, aI 0, aI 0, aI 0]) dX5_tellPlaces_10 rfl (by decide) rfl ?_
  exact k
set_option maxRecDepth 4000 in
theorem g_X5_tellPlaces_12 {sc : List Int} {d : Nat} {m : Mem} {Q : Option AV → Mem → Prop} {l1 l2 l3 l4 l5 : Int} (Hl1 : RoomAt l1) (k : (-2147483648 ≤ l5 ∧ l5 < 2147483648) ∧ ((4 ≤ l5) → ((-2147483648 ≤ (m 32 4) ∧ (m 32 4) < 2147483648) ∧ (((m 32 4) ≠ 257) → (S_X5_tellPlaces sc d 90 [aR 32, aU, aU, aI l3, aU, aU] [] m Q)) ∧ (¬ ((m 32 4) ≠ 257) → (S_X5_tellPlaces sc d 87 [aR 32, aU, aU, aI l3, aU, aU] [aI (m 32 3), aI 5, aR 32] m Q)))) ∧ (¬ (4 ≤ l5) → (((l5 = 0) → (S_X5_tellPlaces sc d 41 [aR 32, aR l1, aI l2, aI l3, aU, aI l5] [aI (l2 - 1), aI (l4 + 1), aR 32] m Q)) ∧ (¬ (l5 = 0) → ((-2147483648 ≤ (m 32 4) ∧ (m 32 4) < 2147483648) ∧ (((m 32 4) ≠ 257) → ((((m 32 4) ≠ 257) → (S_X5_tellPlaces sc d 90 [aR 32, aU, aU, aI l3, aU, aU] [] m Q)) ∧ (¬ ((m 32 4) ≠ 257) → (S_X5_tellPlaces sc d 87 [aR 32, aU, aU, aI l3, aU, aU] [aI (m 32 3), aI 5, aR 32] m Q)))) ∧ (¬ ((m 32 4) ≠ 257) → (S_X5_tellPlaces sc d 41 [aR 32, aR l1, aI l2, aI l3, aU, aI l5] [aI (l2 - 1), aI (l4 + 1), aR 32] m Q))))))) : S_X5_tellPlaces sc d 12 [aR 32, aR l1, aI l2, aI l3, aI l4, aI l5] [] m Q := by
  refine x_iload (pc2 := 14) dX5_tellPlaces_12 rfl rfl ?_
  refine x_iconst (pc2 := 15) dX5_tellPlaces_14 rfl ?_
  obtain ⟨h1, k⟩ := k
  obtain ⟨k1, k2⟩ := k
  refine x_icmp_ge (tgt := 71) (pc2 := 18) dX5_tellPlaces_15 (by decide) rfl h1 (by decide) (fun c2 => ?_) (fun c2 => ?_)
  · replace k := k1 c2
    refine x_aload_n (pc2 := 72) dX5_tellPlaces_71 rfl rfl ?_
    refine x_getf (pc2 := 75) (v := aI (m 32 4)) fl_X5_41 ic_32 (fv_i _ ic_32 rfl) dX5_tellPlaces_72 rfl ?_
    refine x_sipush (pc2 := 78) dX5_tellPlaces_75 rfl rfl ?_
    obtain ⟨h3, k⟩ := k
    obtain ⟨k1, k2⟩ := k
    refine x_icmp_ne (tgt := 90) (pc2 := 81) dX5_tellPlaces_78 (by decide) rfl h3 (by decide) (fun c4 => ?_) (fun c4 => ?_)
    · replace k := k1 c4
      exact x_drop (drp_k (drp_u (drp_u (drp_k (drp_u (drp_u drp_n)))))) k
    · replace k := k2 c4
      refine x_aload_n (pc2 := 82) dX5_tellPlaces_81 rfl rfl ?_
      refine x_iconst (pc2 := 83) dX5_tellPlaces_82 rfl ?_
      refine x_aload_n (pc2 := 84) dX5_tellPlaces_83 rfl rfl ?_
      refine x_getf (pc2 := 87) (v := aI (m 32 3)) fl_X5_57 ic_32 (fv_i _ ic_32 rfl) dX5_tellPlaces_84 rfl ?_
      exact x_drop (drp_k (drp_u (drp_u (drp_k (drp_u (drp_u drp_n)))))) k
  · replace k := k2 c2
    refine x_iload (pc2 := 20) dX5_tellPlaces_18 rfl rfl ?_
    obtain ⟨k1, k2⟩ := k
    refine x_if_eq (tgt := 33) (pc2 := 23) dX5_tellPlaces_20 (by decide) rfl h1 (fun c5 => ?_) (fun c5 => ?_)
    · replace k := k1 c5
      refine x_aload_n (pc2 := 34) dX5_tellPlaces_33 rfl rfl ?_
      refine x_iload (pc2 := 36) dX5_tellPlaces_34 rfl rfl ?_
      refine x_iconst (pc2 := 37) dX5_tellPlaces_36 rfl ?_
      refine x_iadd (pc2 := 38) dX5_tellPlaces_37 rfl ?_
      refine x_iload_n (pc2 := 39) dX5_tellPlaces_38 rfl rfl ?_
      refine x_iconst (pc2 := 40) dX5_tellPlaces_39 rfl ?_
      refine x_isub (pc2 := 41) dX5_tellPlaces_40 rfl ?_
      exact x_drop (drp_k (drp_k (drp_k (drp_k (drp_u (drp_k drp_n)))))) k
    · replace k := k2 c5
      refine x_aload_n (pc2 := 24) dX5_tellPlaces_23 rfl rfl ?_
      refine x_getf (pc2 := 27) (v := aI (m 32 4)) fl_X5_41 ic_32 (fv_i _ ic_32 rfl) dX5_tellPlaces_24 rfl ?_
      refine x_sipush (pc2 := 30) dX5_tellPlaces_27 rfl rfl ?_
      obtain ⟨h6, k⟩ := k
      obtain ⟨k1, k2⟩ := k
      refine x_icmp_ne (tgt := 71) (pc2 := 33) dX5_tellPlaces_30 (by decide) rfl h6 (by decide) (fun c7 => ?_) (fun c7 => ?_)
      · replace k := k1 c7
        refine x_aload_n (pc2 := 72) dX5_tellPlaces_71 rfl rfl ?_
        refine x_getf (pc2 := 75) (v := aI (m 32 4)) fl_X5_41 ic_32 (fv_i _ ic_32 rfl) dX5_tellPlaces_72 rfl ?_
        refine x_sipush (pc2 := 78) dX5_tellPlaces_75 rfl rfl ?_
        obtain ⟨k1, k2⟩ := k
        refine x_icmp_ne (tgt := 90) (pc2 := 81) dX5_tellPlaces_78 (by decide) rfl h6 (by decide) (fun c8 => ?_) (fun c8 => ?_)
        · replace k := k1 c8
          exact x_drop (drp_k (drp_u (drp_u (drp_k (drp_u (drp_u drp_n)))))) k
        · replace k := k2 c8
          refine x_aload_n (pc2 := 82) dX5_tellPlaces_81 rfl rfl ?_
          refine x_iconst (pc2 := 83) dX5_tellPlaces_82 rfl ?_
          refine x_aload_n (pc2 := 84) dX5_tellPlaces_83 rfl rfl ?_
          refine x_getf (pc2 := 87) (v := aI (m 32 3)) fl_X5_57 ic_32 (fv_i _ ic_32 rfl) dX5_tellPlaces_84 rfl ?_
          exact x_drop (drp_k (drp_u (drp_u (drp_k (drp_u (drp_u drp_n)))))) k
      · replace k := k2 c7
        refine x_aload_n (pc2 := 34) dX5_tellPlaces_33 rfl rfl ?_
        refine x_iload (pc2 := 36) dX5_tellPlaces_34 rfl rfl ?_
        refine x_iconst (pc2 := 37) dX5_tellPlaces_36 rfl ?_
        refine x_iadd (pc2 := 38) dX5_tellPlaces_37 rfl ?_
        refine x_iload_n (pc2 := 39) dX5_tellPlaces_38 rfl rfl ?_
        refine x_iconst (pc2 := 40) dX5_tellPlaces_39 rfl ?_
        refine x_isub (pc2 := 41) dX5_tellPlaces_40 rfl ?_
        exact x_drop (drp_k (drp_k (drp_k (drp_k (drp_u (drp_k drp_n)))))) k
set_option maxRecDepth 4000 in
theorem g_X5_tellPlaces_44 {sc : List Int} {d : Nat} {m : Mem} {Q : Option AV → Mem → Prop} {l1 l2 l3 l5 s0 : Int} (Hl1 : RoomAt l1) (k : (0 ≤ (((m l1 8) * 4) + l5)) ∧ ((((m l1 8) * 4) + l5) < 40) ∧ S_X5_tellPlaces sc d 12 [aR 32, aR l1, aI l2, aI (l3 + 1), aI s0, aI (l5 + 1)] [] (wr m (l1 + 5) (((m l1 8) * 4) + l5) s0) Q) : S_X5_tellPlaces sc d 44 [aR 32, aR l1, aI l2, aI l3, aU, aI l5] [aI s0] m Q := by
  refine x_istore (pc2 := 46) (ls2 := [aR 32, aR l1, aI l2, aI l3, aI s0, aI l5]) dX5_tellPlaces_44 rfl (by decide) rfl ?_
  refine x_aload_n (pc2 := 47) dX5_tellPlaces_46 rfl rfl ?_
  refine x_getf (pc2 := 50) (v := aR (l1 + 5)) fl_X5_156 (icr_0 Hl1) (vrr_5 _ Hl1) dX5_tellPlaces_47 rfl ?_
  refine x_aload_n (pc2 := 51) dX5_tellPlaces_50 rfl rfl ?_
  refine x_getf (pc2 := 54) (v := aI (m l1 8)) fl_X5_142 (icr_0 Hl1) (fv_i _ (icr_0 Hl1) rfl) dX5_tellPlaces_51 rfl ?_
  refine x_iconst (pc2 := 55) dX5_tellPlaces_54 rfl ?_
  refine x_imul (pc2 := 56) dX5_tellPlaces_55 rfl ?_
  refine x_iload (pc2 := 58) dX5_tellPlaces_56 rfl rfl ?_
  refine x_iadd (pc2 := 59) dX5_tellPlaces_58 rfl ?_
  refine x_iload (pc2 := 61) dX5_tellPlaces_59 rfl rfl ?_
  obtain ⟨h1, k⟩ := k
  obtain ⟨h2, k⟩ := k
  refine x_iast (pc2 := 62) (icr_5 Hl1) h1 (by rw [(alr_5 Hl1)]; exact h2) dX5_tellPlaces_61 rfl ?_
  refine x_iinc (pc2 := 65) (ls2 := [aR 32, aR l1, aI l2, aI (l3 + 1), aI s0, aI l5]) dX5_tellPlaces_62 rfl rfl (by decide) rfl ?_
  refine x_iinc (pc2 := 68) (ls2 := [aR 32, aR l1, aI l2, aI (l3 + 1), aI s0, aI (l5 + 1)]) dX5_tellPlaces_65 rfl rfl (by decide) rfl ?_
  refine x_goto (tgt := 12) dX5_tellPlaces_68 (by decide) ?_
  exact k
set_option maxRecDepth 4000 in
theorem g_X5_tellPlaces_90 {sc : List Int} {d : Nat} {m : Mem} {Q : Option AV → Mem → Prop} {l3 : Int} (k : Q (some (aI l3)) m) : S_X5_tellPlaces sc d 90 [aR 32, aU, aU, aI l3, aU, aU] [] m Q := by
  refine x_iload_n (pc2 := 91) dX5_tellPlaces_90 rfl rfl ?_
  exact x_ireturn dX5_tellPlaces_91 ⟨.int, rfl, rfl⟩ k
theorem c_X5_tellPlaces_1 {sc : List Int} {d d2 : Nat} {m m2 : Mem} {Q : Option AV → Mem → Prop} {l1 l2 : Int} (Hl1 : RoomAt l1) (hM : C_X5_advance sc d2 [aR 32] m none m2) (hd : d2 + 1 ≤ d) (k : S_X5_tellPlaces sc d 4 [aR 32, aR l1, aI l2, aU, aU, aU] [] m2 Q) : S_X5_tellPlaces sc d 1 [aR 32, aR l1, aI l2, aU, aU, aU] [aR 32] m Q := x_callV (as := []) (rest := []) hM mk_X5_advance mv_X5_advance lk_X5_54 (Or.inl ⟨5, (RX5, TX5, 12), ic_32, Nat.le_of_ble_eq_true rfl, rfl, rfl⟩) hd rfl rfl (Nat.le_of_ble_eq_true rfl) dX5_tellPlaces_1 rfl k
theorem c_X5_tellPlaces_41 {sc : List Int} {d d2 : Nat} {m m2 : Mem} {Q : Option AV → Mem → Prop} {l1 l2 l3 l5 s1 s2 : Int} {v : Int} (Hl1 : RoomAt l1) (hM : C_X5_number sc d2 [aR 32, aI s1, aI s2] m (some (aI v)) m2) (hd : d2 + 1 ≤ d) (k : S_X5_tellPlaces sc d 44 [aR 32, aR l1, aI l2, aI l3, aU, aI l5] [aI v] m2 Q) : S_X5_tellPlaces sc d 41 [aR 32, aR l1, aI l2, aI l3, aU, aI l5] [aI s2, aI s1, aR 32] m Q := x_callV (as := [aI s1, aI s2]) (rest := []) hM mk_X5_number mv_X5_number lk_X5_130 (Or.inl ⟨5, (RX5, TX5, 12), ic_32, Nat.le_of_ble_eq_true rfl, rfl, rfl⟩) hd rfl rfl (Nat.le_of_ble_eq_true rfl) dX5_tellPlaces_41 rfl k
theorem c_X5_tellPlaces_87 {sc : List Int} {d d2 : Nat} {m m2 : Mem} {Q : Option AV → Mem → Prop} {l3 s1 s2 : Int} (hM : C_X5_fail sc d2 [aR 32, aI s1, aI s2] m none m2) (hd : d2 + 1 ≤ d) (k : S_X5_tellPlaces sc d 90 [aR 32, aU, aU, aI l3, aU, aU] [] m2 Q) : S_X5_tellPlaces sc d 87 [aR 32, aU, aU, aI l3, aU, aU] [aI s2, aI s1, aR 32] m Q := x_callV (as := [aI s1, aI s2]) (rest := []) hM mk_X5_fail mv_X5_fail lk_X5_84 (Or.inl ⟨5, (RX5, TX5, 12), ic_32, Nat.le_of_ble_eq_true rfl, rfl, rfl⟩) hd rfl rfl (Nat.le_of_ble_eq_true rfl) dX5_tellPlaces_87 rfl k
set_option maxRecDepth 4000 in
theorem g_X5_tellRule_0 {sc : List Int} {d : Nat} {m : Mem} {Q : Option AV → Mem → Prop} {l1 : Int} (Hl1 : RoomAt l1) (k : (-2147483648 ≤ (m l1 11) ∧ (m l1 11) < 2147483648) ∧ (((m l1 11) < 4) → (S_X5_tellRule sc d 19 [aR 32, aR l1] [aR 32] m Q)) ∧ (¬ ((m l1 11) < 4) → (S_X5_tellRule sc d 14 [aR 32, aU] [aI (m 32 3), aI 5, aR 32] m Q))) : S_X5_tellRule sc d 0 [aR 32, aR l1] [] m Q := by
  refine x_aload_n (pc2 := 1) dX5_tellRule_0 rfl rfl ?_
  refine x_getf (pc2 := 4) (v := aI (m l1 11)) fl_X5_159 (icr_0 Hl1) (fv_i _ (icr_0 Hl1) rfl) dX5_tellRule_1 rfl ?_
  refine x_iconst (pc2 := 5) dX5_tellRule_4 rfl ?_
  obtain ⟨h1, k⟩ := k
  obtain ⟨k1, k2⟩ := k
  refine x_icmp_lt (tgt := 18) (pc2 := 8) dX5_tellRule_5 (by decide) rfl h1 (by decide) (fun c2 => ?_) (fun c2 => ?_)
  · replace k := k1 c2
    refine x_aload_n (pc2 := 19) dX5_tellRule_18 rfl rfl ?_
    exact k
  · replace k := k2 c2
    refine x_aload_n (pc2 := 9) dX5_tellRule_8 rfl rfl ?_
    refine x_iconst (pc2 := 10) dX5_tellRule_9 rfl ?_
    refine x_aload_n (pc2 := 11) dX5_tellRule_10 rfl rfl ?_
    refine x_getf (pc2 := 14) (v := aI (m 32 3)) fl_X5_57 ic_32 (fv_i _ ic_32 rfl) dX5_tellRule_11 rfl ?_
    exact x_drop (drp_k (drp_u drp_n)) k
set_option maxRecDepth 4000 in
theorem g_X5_tellRule_17 {sc : List Int} {d : Nat} {m : Mem} {Q : Option AV → Mem → Prop} (k : Q none m) : S_X5_tellRule sc d 17 [aR 32, aU] [] m Q := by
  exact x_return dX5_tellRule_17 rfl k
set_option maxRecDepth 4000 in
theorem g_X5_tellRule_22 {sc : List Int} {d : Nat} {m : Mem} {Q : Option AV → Mem → Prop} {l1 : Int} (Hl1 : RoomAt l1) (k : S_X5_tellRule sc d 31 [aR 32, aR l1] [aI (10 + (m l1 11)), aR l1, aR 32] m Q) : S_X5_tellRule sc d 22 [aR 32, aR l1] [] m Q := by
  refine x_aload_n (pc2 := 23) dX5_tellRule_22 rfl rfl ?_
  refine x_aload_n (pc2 := 24) dX5_tellRule_23 rfl rfl ?_
  refine x_bipush (pc2 := 26) dX5_tellRule_24 rfl rfl ?_
  refine x_aload_n (pc2 := 27) dX5_tellRule_26 rfl rfl ?_
  refine x_getf (pc2 := 30) (v := aI (m l1 11)) fl_X5_159 (icr_0 Hl1) (fv_i _ (icr_0 Hl1) rfl) dX5_tellRule_27 rfl ?_
  refine x_iadd (pc2 := 31) dX5_tellRule_30 rfl ?_
  exact k
set_option maxRecDepth 4000 in
theorem g_X5_tellRule_34 {sc : List Int} {d : Nat} {m : Mem} {Q : Option AV → Mem → Prop} {l1 : Int} (Hl1 : RoomAt l1) (k : S_X5_tellRule sc d 37 [aR 32, aR l1] [aI 8, aR 32] m Q) : S_X5_tellRule sc d 34 [aR 32, aR l1] [] m Q := by
  refine x_aload_n (pc2 := 35) dX5_tellRule_34 rfl rfl ?_
  refine x_bipush (pc2 := 37) dX5_tellRule_35 rfl rfl ?_
  exact k
set_option maxRecDepth 4000 in
theorem g_X5_tellRule_40 {sc : List Int} {d : Nat} {m : Mem} {Q : Option AV → Mem → Prop} {l1 : Int} (Hl1 : RoomAt l1) (k : S_X5_tellRule sc d 42 [aR 32, aR l1] [aI 0, aR 32] m Q) : S_X5_tellRule sc d 40 [aR 32, aR l1] [] m Q := by
  refine x_aload_n (pc2 := 41) dX5_tellRule_40 rfl rfl ?_
  refine x_iconst (pc2 := 42) dX5_tellRule_41 rfl ?_
  exact k
set_option maxRecDepth 4000 in
theorem g_X5_tellRule_45 {sc : List Int} {d : Nat} {m : Mem} {Q : Option AV → Mem → Prop} {l1 : Int} (Hl1 : RoomAt l1) (k : S_X5_tellRule sc d 46 [aR 32, aU] [aR l1] m Q) : S_X5_tellRule sc d 45 [aR 32, aR l1] [] m Q := by
  refine x_aload_n (pc2 := 46) dX5_tellRule_45 rfl rfl ?_
  exact x_drop (drp_k (drp_u drp_n)) k
set_option maxRecDepth 4000 in
theorem g_X5_tellRule_49 {sc : List Int} {d : Nat} {m : Mem} {Q : Option AV → Mem → Prop} (k : Q none m) : S_X5_tellRule sc d 49 [aR 32, aU] [] m Q := by
  exact x_return dX5_tellRule_49 rfl k
theorem c_X5_tellRule_14 {sc : List Int} {d d2 : Nat} {m m2 : Mem} {Q : Option AV → Mem → Prop} {s1 s2 : Int} (hM : C_X5_fail sc d2 [aR 32, aI s1, aI s2] m none m2) (hd : d2 + 1 ≤ d) (k : S_X5_tellRule sc d 17 [aR 32, aU] [] m2 Q) : S_X5_tellRule sc d 14 [aR 32, aU] [aI s2, aI s1, aR 32] m Q := x_callV (as := [aI s1, aI s2]) (rest := []) hM mk_X5_fail mv_X5_fail lk_X5_84 (Or.inl ⟨5, (RX5, TX5, 12), ic_32, Nat.le_of_ble_eq_true rfl, rfl, rfl⟩) hd rfl rfl (Nat.le_of_ble_eq_true rfl) dX5_tellRule_14 rfl k
theorem c_X5_tellRule_19 {sc : List Int} {d d2 : Nat} {m m2 : Mem} {Q : Option AV → Mem → Prop} {l1 : Int} (Hl1 : RoomAt l1) (hM : C_X5_advance sc d2 [aR 32] m none m2) (hd : d2 + 1 ≤ d) (k : S_X5_tellRule sc d 22 [aR 32, aR l1] [] m2 Q) : S_X5_tellRule sc d 19 [aR 32, aR l1] [aR 32] m Q := x_callV (as := []) (rest := []) hM mk_X5_advance mv_X5_advance lk_X5_54 (Or.inl ⟨5, (RX5, TX5, 12), ic_32, Nat.le_of_ble_eq_true rfl, rfl, rfl⟩) hd rfl rfl (Nat.le_of_ble_eq_true rfl) dX5_tellRule_19 rfl k
theorem c_X5_tellRule_31 {sc : List Int} {d d2 : Nat} {m m2 : Mem} {Q : Option AV → Mem → Prop} {l1 s1 s2 : Int} (Hl1 : RoomAt l1) (Hs1 : RoomAt s1) (hM : C_X5_name sc d2 [aR 32, aR s1, aI s2] m none m2) (hd : d2 + 1 ≤ d) (k : S_X5_tellRule sc d 34 [aR 32, aR l1] [] m2 Q) : S_X5_tellRule sc d 31 [aR 32, aR l1] [aI s2, aR s1, aR 32] m Q := x_callV (as := [aR s1, aI s2]) (rest := []) hM mk_X5_name mv_X5_name lk_X5_145 (Or.inl ⟨5, (RX5, TX5, 12), ic_32, Nat.le_of_ble_eq_true rfl, rfl, rfl⟩) hd rfl rfl (Nat.le_of_ble_eq_true rfl) dX5_tellRule_31 rfl k
theorem c_X5_tellRule_37 {sc : List Int} {d d2 : Nat} {m m2 : Mem} {Q : Option AV → Mem → Prop} {l1 s1 : Int} (Hl1 : RoomAt l1) (hM : C_X5_expect sc d2 [aR 32, aI s1] m none m2) (hd : d2 + 1 ≤ d) (k : S_X5_tellRule sc d 40 [aR 32, aR l1] [] m2 Q) : S_X5_tellRule sc d 37 [aR 32, aR l1] [aI s1, aR 32] m Q := x_callV (as := [aI s1]) (rest := []) hM mk_X5_expect mv_X5_expect lk_X5_133 (Or.inl ⟨5, (RX5, TX5, 12), ic_32, Nat.le_of_ble_eq_true rfl, rfl, rfl⟩) hd rfl rfl (Nat.le_of_ble_eq_true rfl) dX5_tellRule_37 rfl k
theorem c_X5_tellRule_42 {sc : List Int} {d d2 : Nat} {m m2 : Mem} {Q : Option AV → Mem → Prop} {l1 s1 : Int} (Hl1 : RoomAt l1) (hM : C_X5_test sc d2 [aR 32, aI s1] m none m2) (hd : d2 + 1 ≤ d) (k : S_X5_tellRule sc d 45 [aR 32, aR l1] [] m2 Q) : S_X5_tellRule sc d 42 [aR 32, aR l1] [aI s1, aR 32] m Q := x_callV (as := [aI s1]) (rest := []) hM mk_X5_test mv_X5_test lk_X5_162 (Or.inl ⟨5, (RX5, TX5, 12), ic_32, Nat.le_of_ble_eq_true rfl, rfl, rfl⟩) hd rfl rfl (Nat.le_of_ble_eq_true rfl) dX5_tellRule_42 rfl k
theorem c_X5_tellRule_46 {sc : List Int} {d d2 : Nat} {m m2 : Mem} {Q : Option AV → Mem → Prop} {s0 : Int} (Hs0 : RoomAt s0) (hM : C_X6_addRule sc d2 [aR s0] m none m2) (hd : d2 + 1 ≤ d) (k : S_X5_tellRule sc d 49 [aR 32, aU] [] m2 Q) : S_X5_tellRule sc d 46 [aR 32, aU] [aR s0] m Q := x_callV (as := []) (rest := []) hM mk_X6_addRule mv_X6_addRule lk_X5_165 (Or.inl ⟨6, (RX6, TX6, 16), icr_0 Hs0, Nat.le_of_ble_eq_true rfl, rfl, rfl⟩) hd rfl rfl (Nat.le_of_ble_eq_true rfl) dX5_tellRule_46 rfl k
set_option maxRecDepth 4000 in
theorem g_X5_name_0 {sc : List Int} {d : Nat} {m : Mem} {Q : Option AV → Mem → Prop} {l1 l2 : Int} (Hl1 : RoomAt l1) (k : (-2147483648 ≤ (m 32 4) ∧ (m 32 4) < 2147483648) ∧ (((m 32 4) ≠ 256) → (S_X5_name sc d 32 [aR 32, aU, aU, aU] [aI (m 32 3), aI 1, aR 32] m Q)) ∧ (¬ ((m 32 4) ≠ 256) → ((-2147483648 ≤ (m 32 5) ∧ (m 32 5) < 2147483648) ∧ (((m 32 5) < 0) → ((-2147483648 ≤ ((m 32 2) - (m 32 3)) ∧ ((m 32 2) - (m 32 3)) < 2147483648) ∧ ((((m 32 2) - (m 32 3)) ≤ 6) → (S_X5_name sc d 65 [aR 32, aR l1, aI l2, aI 0] [] m Q)) ∧ (¬ (((m 32 2) - (m 32 3)) ≤ 6) → (S_X5_name sc d 59 [aR 32, aU, aU, aU] [aI ((m 32 3) + 6), aI 1, aR 32] m Q)))) ∧ (¬ ((m 32 5) < 0) → (((30 ≤ (m 32 5)) → ((-2147483648 ≤ ((m 32 2) - (m 32 3)) ∧ ((m 32 2) - (m 32 3)) < 2147483648) ∧ ((((m 32 2) - (m 32 3)) ≤ 6) → (S_X5_name sc d 65 [aR 32, aR l1, aI l2, aI 0] [] m Q)) ∧ (¬ (((m 32 2) - (m 32 3)) ≤ 6) → (S_X5_name sc d 59 [aR 32, aU, aU, aU] [aI ((m 32 3) + 6), aI 1, aR 32] m Q)))) ∧ (¬ (30 ≤ (m 32 5)) → (S_X5_name sc d 32 [aR 32, aU, aU, aU] [aI (m 32 3), aI 1, aR 32] m Q))))))) : S_X5_name sc d 0 [aR 32, aR l1, aI l2, aU] [] m Q := by
  refine x_aload_n (pc2 := 1) dX5_name_0 rfl rfl ?_
  refine x_getf (pc2 := 4) (v := aI (m 32 4)) fl_X5_41 ic_32 (fv_i _ ic_32 rfl) dX5_name_1 rfl ?_
  refine x_sipush (pc2 := 7) dX5_name_4 rfl rfl ?_
  obtain ⟨h1, k⟩ := k
  obtain ⟨k1, k2⟩ := k
  refine x_icmp_ne (tgt := 26) (pc2 := 10) dX5_name_7 (by decide) rfl h1 (by decide) (fun c2 => ?_) (fun c2 => ?_)
  · replace k := k1 c2
    refine x_aload_n (pc2 := 27) dX5_name_26 rfl rfl ?_
    refine x_iconst (pc2 := 28) dX5_name_27 rfl ?_
    refine x_aload_n (pc2 := 29) dX5_name_28 rfl rfl ?_
    refine x_getf (pc2 := 32) (v := aI (m 32 3)) fl_X5_57 ic_32 (fv_i _ ic_32 rfl) dX5_name_29 rfl ?_
    exact x_drop (drp_k (drp_u (drp_u (drp_k drp_n)))) k
  · replace k := k2 c2
    refine x_aload_n (pc2 := 11) dX5_name_10 rfl rfl ?_
    refine x_getf (pc2 := 14) (v := aI (m 32 5)) fl_X5_60 ic_32 (fv_i _ ic_32 rfl) dX5_name_11 rfl ?_
    obtain ⟨h3, k⟩ := k
    obtain ⟨k1, k2⟩ := k
    refine x_if_lt (tgt := 36) (pc2 := 17) dX5_name_14 (by decide) rfl h3 (fun c4 => ?_) (fun c4 => ?_)
    · replace k := k1 c4
      refine x_aload_n (pc2 := 37) dX5_name_36 rfl rfl ?_
      refine x_getf (pc2 := 40) (v := aI (m 32 2)) fl_X5_38 ic_32 (fv_i _ ic_32 rfl) dX5_name_37 rfl ?_
      refine x_aload_n (pc2 := 41) dX5_name_40 rfl rfl ?_
      refine x_getf (pc2 := 44) (v := aI (m 32 3)) fl_X5_57 ic_32 (fv_i _ ic_32 rfl) dX5_name_41 rfl ?_
      refine x_isub (pc2 := 45) dX5_name_44 rfl ?_
      refine x_bipush (pc2 := 47) dX5_name_45 rfl rfl ?_
      obtain ⟨h5, k⟩ := k
      obtain ⟨k1, k2⟩ := k
      refine x_icmp_le (tgt := 63) (pc2 := 50) dX5_name_47 (by decide) rfl h5 (by decide) (fun c6 => ?_) (fun c6 => ?_)
      · replace k := k1 c6
        refine x_iconst (pc2 := 64) dX5_name_63 rfl ?_
        refine x_istore_n (pc2 := 65) (ls2 := [aR 32, aR l1, aI l2, aI 0]) dX5_name_64 rfl (by decide) rfl ?_
        exact k
      · replace k := k2 c6
        refine x_aload_n (pc2 := 51) dX5_name_50 rfl rfl ?_
        refine x_iconst (pc2 := 52) dX5_name_51 rfl ?_
        refine x_aload_n (pc2 := 53) dX5_name_52 rfl rfl ?_
        refine x_getf (pc2 := 56) (v := aI (m 32 3)) fl_X5_57 ic_32 (fv_i _ ic_32 rfl) dX5_name_53 rfl ?_
        refine x_bipush (pc2 := 58) dX5_name_56 rfl rfl ?_
        refine x_iadd (pc2 := 59) dX5_name_58 rfl ?_
        exact x_drop (drp_k (drp_u (drp_u (drp_k drp_n)))) k
    · replace k := k2 c4
      refine x_aload_n (pc2 := 18) dX5_name_17 rfl rfl ?_
      refine x_getf (pc2 := 21) (v := aI (m 32 5)) fl_X5_60 ic_32 (fv_i _ ic_32 rfl) dX5_name_18 rfl ?_
      refine x_bipush (pc2 := 23) dX5_name_21 rfl rfl ?_
      obtain ⟨k1, k2⟩ := k
      refine x_icmp_ge (tgt := 36) (pc2 := 26) dX5_name_23 (by decide) rfl h3 (by decide) (fun c7 => ?_) (fun c7 => ?_)
      · replace k := k1 c7
        refine x_aload_n (pc2 := 37) dX5_name_36 rfl rfl ?_
        refine x_getf (pc2 := 40) (v := aI (m 32 2)) fl_X5_38 ic_32 (fv_i _ ic_32 rfl) dX5_name_37 rfl ?_
        refine x_aload_n (pc2 := 41) dX5_name_40 rfl rfl ?_
        refine x_getf (pc2 := 44) (v := aI (m 32 3)) fl_X5_57 ic_32 (fv_i _ ic_32 rfl) dX5_name_41 rfl ?_
        refine x_isub (pc2 := 45) dX5_name_44 rfl ?_
        refine x_bipush (pc2 := 47) dX5_name_45 rfl rfl ?_
        obtain ⟨h8, k⟩ := k
        obtain ⟨k1, k2⟩ := k
        refine x_icmp_le (tgt := 63) (pc2 := 50) dX5_name_47 (by decide) rfl h8 (by decide) (fun c9 => ?_) (fun c9 => ?_)
        · replace k := k1 c9
          refine x_iconst (pc2 := 64) dX5_name_63 rfl ?_
          refine x_istore_n (pc2 := 65) (ls2 := [aR 32, aR l1, aI l2, aI 0]) dX5_name_64 rfl (by decide) rfl ?_
          exact k
        · replace k := k2 c9
          refine x_aload_n (pc2 := 51) dX5_name_50 rfl rfl ?_
          refine x_iconst (pc2 := 52) dX5_name_51 rfl ?_
          refine x_aload_n (pc2 := 53) dX5_name_52 rfl rfl ?_
          refine x_getf (pc2 := 56) (v := aI (m 32 3)) fl_X5_57 ic_32 (fv_i _ ic_32 rfl) dX5_name_53 rfl ?_
          refine x_bipush (pc2 := 58) dX5_name_56 rfl rfl ?_
          refine x_iadd (pc2 := 59) dX5_name_58 rfl ?_
          exact x_drop (drp_k (drp_u (drp_u (drp_k drp_n)))) k
      · replace k := k2 c7
        refine x_aload_n (pc2 := 27) dX5_name_26 rfl rfl ?_
        refine x_iconst (pc2 := 28) dX5_name_27 rfl ?_
        refine x_aload_n (pc2 := 29) dX5_name_28 rfl rfl ?_
        refine x_getf (pc2 := 32) (v := aI (m 32 3)) fl_X5_57 ic_32 (fv_i _ ic_32 rfl) dX5_name_29 rfl ?_
        exact x_drop (drp_k (drp_u (drp_u (drp_k drp_n)))) k
set_option maxRecDepth 4000 in
theorem g_X5_name_35 {sc : List Int} {d : Nat} {m : Mem} {Q : Option AV → Mem → Prop} (k : Q none m) : S_X5_name sc d 35 [aR 32, aU, aU, aU] [] m Q := by
  exact x_return dX5_name_35 rfl k
set_option maxRecDepth 4000 in
theorem g_X5_name_62 {sc : List Int} {d : Nat} {m : Mem} {Q : Option AV → Mem → Prop} (k : Q none m) : S_X5_name sc d 62 [aR 32, aU, aU, aU] [] m Q := by
  exact x_return dX5_name_62 rfl k
set_option maxRecDepth 4000 in
theorem g_X5_name_65 {sc : List Int} {d : Nat} {m : Mem} {Q : Option AV → Mem → Prop} {l1 l2 l3 : Int} (Hl1 : RoomAt l1) (k : (-2147483648 ≤ l3 ∧ l3 < 2147483648) ∧ ((6 ≤ l3) → (S_X5_name sc d 123 [aR 32, aU, aU, aU] [aI l2, aR l1] m Q)) ∧ (¬ (6 ≤ l3) → (((-2147483648 ≤ ((m 32 3) + l3) ∧ ((m 32 3) + l3) < 2147483648)) ∧ ((-2147483648 ≤ (m 32 2) ∧ (m 32 2) < 2147483648)) ∧ ((¬ ((m 32 2) ≤ ((m 32 3) + l3))) → (IsC (m 32 0) 100)) ∧ ((¬ ((m 32 2) ≤ ((m 32 3) + l3))) → (0 ≤ ((m 32 3) + l3))) ∧ ((¬ ((m 32 2) ≤ ((m 32 3) + l3))) → (((m 32 3) + l3) < alen (m 32 0))) ∧ (0 ≤ ((l2 * 6) + l3)) ∧ (((l2 * 6) + l3) < 84) ∧ S_X5_name sc d 65 [aR 32, aR l1, aI l2, aI (l3 + 1)] [] (wr m (l1 + 12) ((l2 * 6) + l3) (if (m 32 2) ≤ ((m 32 3) + l3) then 0 else (((m (m 32 0) ((m 32 3) + l3)) - 97) + 1) : Int)) Q))) : S_X5_name sc d 65 [aR 32, aR l1, aI l2, aI l3] [] m Q := by
  refine x_iload_n (pc2 := 66) dX5_name_65 rfl rfl ?_
  refine x_bipush (pc2 := 68) dX5_name_66 rfl rfl ?_
  obtain ⟨h1, k⟩ := k
  obtain ⟨k1, k2⟩ := k
  refine x_icmp_ge (tgt := 121) (pc2 := 71) dX5_name_68 (by decide) rfl h1 (by decide) (fun c2 => ?_) (fun c2 => ?_)
  · replace k := k1 c2
    refine x_aload_n (pc2 := 122) dX5_name_121 rfl rfl ?_
    refine x_iload_n (pc2 := 123) dX5_name_122 rfl rfl ?_
    exact x_drop (drp_k (drp_u (drp_u (drp_u drp_n)))) k
  · replace k := k2 c2
    refine x_aload_n (pc2 := 72) dX5_name_71 rfl rfl ?_
    refine x_getf (pc2 := 75) (v := aR (l1 + 12)) fl_X5_168 (icr_0 Hl1) (vrr_12 _ Hl1) dX5_name_72 rfl ?_
    refine x_iload_n (pc2 := 76) dX5_name_75 rfl rfl ?_
    refine x_bipush (pc2 := 78) dX5_name_76 rfl rfl ?_
    refine x_imul (pc2 := 79) dX5_name_78 rfl ?_
    refine x_iload_n (pc2 := 80) dX5_name_79 rfl rfl ?_
    refine x_iadd (pc2 := 81) dX5_name_80 rfl ?_
    refine x_aload_n (pc2 := 82) dX5_name_81 rfl rfl ?_
    refine x_getf (pc2 := 85) (v := aI (m 32 3)) fl_X5_57 ic_32 (fv_i _ ic_32 rfl) dX5_name_82 rfl ?_
    refine x_iload_n (pc2 := 86) dX5_name_85 rfl rfl ?_
    refine x_iadd (pc2 := 87) dX5_name_86 rfl ?_
    refine x_aload_n (pc2 := 88) dX5_name_87 rfl rfl ?_
    refine x_getf (pc2 := 91) (v := aI (m 32 2)) fl_X5_38 ic_32 (fv_i _ ic_32 rfl) dX5_name_88 rfl ?_
    obtain ⟨g5, k⟩ := k
    obtain ⟨g6, k⟩ := k
    obtain ⟨g10, k⟩ := k
    obtain ⟨g11, k⟩ := k
    obtain ⟨g12, k⟩ := k
    have kj : S_X5_name sc d 114 [aR 32, aR l1, aI l2, aI l3] [aI (if (m 32 2) ≤ ((m 32 3) + l3) then 0 else (((m (m 32 0) ((m 32 3) + l3)) - 97) + 1) : Int), aI ((l2 * 6) + l3), aR (l1 + 12)] m Q := by
      obtain ⟨h13, k⟩ := k
      obtain ⟨h14, k⟩ := k
      refine x_iast (pc2 := 115) (icr_12 Hl1) h13 (by rw [(alr_12 Hl1)]; exact h14) dX5_name_114 rfl ?_
      refine x_iinc (pc2 := 118) (ls2 := [aR 32, aR l1, aI l2, aI (l3 + 1)]) dX5_name_115 rfl rfl (by decide) rfl ?_
      refine x_goto (tgt := 65) dX5_name_118 (by decide) ?_
      exact k
    have h15 := g5 
    have h16 := g6 
    refine x_icmp_ge (tgt := 113) (pc2 := 94) dX5_name_91 (by decide) rfl h15 h16 (fun c17 => ?_) (fun c17 => ?_)
    · skip
      refine x_iconst (pc2 := 114) dX5_name_113 rfl ?_
      exact x_topI (if_pos c17) kj
    · skip
      refine x_aload_n (pc2 := 95) dX5_name_94 rfl rfl ?_
      refine x_getf (pc2 := 98) (v := aR (m 32 0)) fl_X5_9 ic_32 (fv_m _ ic_32 rfl) dX5_name_95 rfl ?_
      refine x_aload_n (pc2 := 99) dX5_name_98 rfl rfl ?_
      refine x_getf (pc2 := 102) (v := aI (m 32 3)) fl_X5_57 ic_32 (fv_i _ ic_32 rfl) dX5_name_99 rfl ?_
      refine x_iload_n (pc2 := 103) dX5_name_102 rfl rfl ?_
      refine x_iadd (pc2 := 104) dX5_name_103 rfl ?_
      have h18 := g10 c17
      have h19 := g11 c17
      have h20 := g12 c17
      refine x_iald (pc2 := 105) h18 h19 h20 dX5_name_104 rfl ?_
      refine x_bipush (pc2 := 107) dX5_name_105 rfl rfl ?_
      refine x_isub (pc2 := 108) dX5_name_107 rfl ?_
      refine x_iconst (pc2 := 109) dX5_name_108 rfl ?_
      refine x_iadd (pc2 := 110) dX5_name_109 rfl ?_
      refine x_goto (tgt := 114) dX5_name_110 (by decide) ?_
      exact x_topI (if_neg c17) kj
set_option maxRecDepth 4000 in
theorem g_X5_name_126 {sc : List Int} {d : Nat} {m : Mem} {Q : Option AV → Mem → Prop} {s0 : Int} (k : (-2147483648 ≤ s0 ∧ s0 < 2147483648) ∧ ((s0 = 0) → (S_X5_name sc d 142 [aR 32, aU, aU, aU] [aR 32] m Q)) ∧ (¬ (s0 = 0) → (S_X5_name sc d 135 [aR 32, aU, aU, aU] [aI (m 32 3), aI 3, aR 32] m Q))) : S_X5_name sc d 126 [aR 32, aU, aU, aU] [aI s0] m Q := by
  obtain ⟨h1, k⟩ := k
  obtain ⟨k1, k2⟩ := k
  refine x_if_eq (tgt := 141) (pc2 := 129) dX5_name_126 (by decide) rfl h1 (fun c2 => ?_) (fun c2 => ?_)
  · replace k := k1 c2
    refine x_aload_n (pc2 := 142) dX5_name_141 rfl rfl ?_
    exact k
  · replace k := k2 c2
    refine x_aload_n (pc2 := 130) dX5_name_129 rfl rfl ?_
    refine x_iconst (pc2 := 131) dX5_name_130 rfl ?_
    refine x_aload_n (pc2 := 132) dX5_name_131 rfl rfl ?_
    refine x_getf (pc2 := 135) (v := aI (m 32 3)) fl_X5_57 ic_32 (fv_i _ ic_32 rfl) dX5_name_132 rfl ?_
    exact k
set_option maxRecDepth 4000 in
theorem g_X5_name_138 {sc : List Int} {d : Nat} {m : Mem} {Q : Option AV → Mem → Prop} (k : S_X5_name sc d 145 [aR 32, aU, aU, aU] [] m Q) : S_X5_name sc d 138 [aR 32, aU, aU, aU] [] m Q := by
  refine x_goto (tgt := 145) dX5_name_138 (by decide) ?_
  exact k
set_option maxRecDepth 4000 in
theorem g_X5_name_145 {sc : List Int} {d : Nat} {m : Mem} {Q : Option AV → Mem → Prop} (k : Q none m) : S_X5_name sc d 145 [aR 32, aU, aU, aU] [] m Q := by
  exact x_return dX5_name_145 rfl k
theorem c_X5_name_32 {sc : List Int} {d d2 : Nat} {m m2 : Mem} {Q : Option AV → Mem → Prop} {s1 s2 : Int} (hM : C_X5_fail sc d2 [aR 32, aI s1, aI s2] m none m2) (hd : d2 + 1 ≤ d) (k : S_X5_name sc d 35 [aR 32, aU, aU, aU] [] m2 Q) : S_X5_name sc d 32 [aR 32, aU, aU, aU] [aI s2, aI s1, aR 32] m Q := x_callV (as := [aI s1, aI s2]) (rest := []) hM mk_X5_fail mv_X5_fail lk_X5_84 (Or.inl ⟨5, (RX5, TX5, 12), ic_32, Nat.le_of_ble_eq_true rfl, rfl, rfl⟩) hd rfl rfl (Nat.le_of_ble_eq_true rfl) dX5_name_32 rfl k
theorem c_X5_name_59 {sc : List Int} {d d2 : Nat} {m m2 : Mem} {Q : Option AV → Mem → Prop} {s1 s2 : Int} (hM : C_X5_fail sc d2 [aR 32, aI s1, aI s2] m none m2) (hd : d2 + 1 ≤ d) (k : S_X5_name sc d 62 [aR 32, aU, aU, aU] [] m2 Q) : S_X5_name sc d 59 [aR 32, aU, aU, aU] [aI s2, aI s1, aR 32] m Q := x_callV (as := [aI s1, aI s2]) (rest := []) hM mk_X5_fail mv_X5_fail lk_X5_84 (Or.inl ⟨5, (RX5, TX5, 12), ic_32, Nat.le_of_ble_eq_true rfl, rfl, rfl⟩) hd rfl rfl (Nat.le_of_ble_eq_true rfl) dX5_name_59 rfl k
theorem c_X5_name_123 {sc : List Int} {d d2 : Nat} {m m2 : Mem} {Q : Option AV → Mem → Prop} {s0 s1 : Int} {v : Int} (Hs0 : RoomAt s0) (hM : C_X6_isNamed sc d2 [aR s0, aI s1] m (some (aI v)) m2) (hd : d2 + 1 ≤ d) (k : S_X5_name sc d 126 [aR 32, aU, aU, aU] [aI v] m2 Q) : S_X5_name sc d 123 [aR 32, aU, aU, aU] [aI s1, aR s0] m Q := x_callV (as := [aI s1]) (rest := []) hM mk_X6_isNamed mv_X6_isNamed lk_X5_171 (Or.inl ⟨6, (RX6, TX6, 16), icr_0 Hs0, Nat.le_of_ble_eq_true rfl, rfl, rfl⟩) hd rfl rfl (Nat.le_of_ble_eq_true rfl) dX5_name_123 rfl k
theorem c_X5_name_135 {sc : List Int} {d d2 : Nat} {m m2 : Mem} {Q : Option AV → Mem → Prop} {s1 s2 : Int} (hM : C_X5_fail sc d2 [aR 32, aI s1, aI s2] m none m2) (hd : d2 + 1 ≤ d) (k : S_X5_name sc d 138 [aR 32, aU, aU, aU] [] m2 Q) : S_X5_name sc d 135 [aR 32, aU, aU, aU] [aI s2, aI s1, aR 32] m Q := x_callV (as := [aI s1, aI s2]) (rest := []) hM mk_X5_fail mv_X5_fail lk_X5_84 (Or.inl ⟨5, (RX5, TX5, 12), ic_32, Nat.le_of_ble_eq_true rfl, rfl, rfl⟩) hd rfl rfl (Nat.le_of_ble_eq_true rfl) dX5_name_135 rfl k
theorem c_X5_name_142 {sc : List Int} {d d2 : Nat} {m m2 : Mem} {Q : Option AV → Mem → Prop} (hM : C_X5_advance sc d2 [aR 32] m none m2) (hd : d2 + 1 ≤ d) (k : S_X5_name sc d 145 [aR 32, aU, aU, aU] [] m2 Q) : S_X5_name sc d 142 [aR 32, aU, aU, aU] [aR 32] m Q := x_callV (as := []) (rest := []) hM mk_X5_advance mv_X5_advance lk_X5_54 (Or.inl ⟨5, (RX5, TX5, 12), ic_32, Nat.le_of_ble_eq_true rfl, rfl, rfl⟩) hd rfl rfl (Nat.le_of_ble_eq_true rfl) dX5_name_142 rfl k
set_option maxRecDepth 4000 in
theorem g_X5_readQuestion_0 {sc : List Int} {d : Nat} {m : Mem} {Q : Option AV → Mem → Prop} {l1 l2 : Int} (Hl1 : IsC l1 100) (k : S_X5_readQuestion sc d 7 [aR 32, aU, aU, aU] [aI l2, aR l1, aR 34, aR 32] m Q) : S_X5_readQuestion sc d 0 [aR 32, aR l1, aI l2, aU] [] m Q := by
  refine x_aload_n (pc2 := 1) dX5_readQuestion_0 rfl rfl ?_
  refine x_aload_n (pc2 := 2) dX5_readQuestion_1 rfl rfl ?_
  refine x_getf (pc2 := 5) (v := aR 34) fl_X5_22 ic_32 (vr_32_10 _) dX5_readQuestion_2 rfl ?_
  refine x_aload_n (pc2 := 6) dX5_readQuestion_5 rfl rfl ?_
  refine x_iload_n (pc2 := 7) dX5_readQuestion_6 rfl rfl ?_
  exact x_drop (drp_k (drp_u (drp_u (drp_k drp_n)))) k
set_option maxRecDepth 4000 in
theorem g_X5_readQuestion_10 {sc : List Int} {d : Nat} {m : Mem} {Q : Option AV → Mem → Prop} (k : ((-2147483648 ≤ (m 32 4) ∧ (m 32 4) < 2147483648)) ∧ (-2147483648 ≤ (if (m 32 4) ≠ 256 then (-1) else (m 32 5) : Int) ∧ (if (m 32 4) ≠ 256 then (-1) else (m 32 5) : Int) < 2147483648) ∧ (((if (m 32 4) ≠ 256 then (-1) else (m 32 5) : Int) = 30) → (S_X5_readQuestion sc d 48 [aR 32, aU, aU, aI (if (m 32 4) ≠ 256 then (-1) else (m 32 5) : Int)] [aR 32] m Q)) ∧ (¬ ((if (m 32 4) ≠ 256 then (-1) else (m 32 5) : Int) = 30) → ((((if (m 32 4) ≠ 256 then (-1) else (m 32 5) : Int) = 31) → (S_X5_readQuestion sc d 48 [aR 32, aU, aU, aI (if (m 32 4) ≠ 256 then (-1) else (m 32 5) : Int)] [aR 32] m Q)) ∧ (¬ ((if (m 32 4) ≠ 256 then (-1) else (m 32 5) : Int) = 31) → ((((if (m 32 4) ≠ 256 then (-1) else (m 32 5) : Int) ≠ 32) → ((((if (m 32 4) ≠ 256 then (-1) else (m 32 5) : Int) = 33) → (S_X5_readQuestion sc d 78 [aR 32, aU, aU, aI (if (m 32 4) ≠ 256 then (-1) else (m 32 5) : Int)] [aR 32] m Q)) ∧ (¬ ((if (m 32 4) ≠ 256 then (-1) else (m 32 5) : Int) = 33) → ((((if (m 32 4) ≠ 256 then (-1) else (m 32 5) : Int) = 19) → (S_X5_readQuestion sc d 78 [aR 32, aU, aU, aI (if (m 32 4) ≠ 256 then (-1) else (m 32 5) : Int)] [aR 32] m Q)) ∧ (¬ ((if (m 32 4) ≠ 256 then (-1) else (m 32 5) : Int) = 19) → ((((if (m 32 4) ≠ 256 then (-1) else (m 32 5) : Int) ≠ 18) → (S_X5_readQuestion sc d 95 [aR 32, aU, aU, aI (if (m 32 4) ≠ 256 then (-1) else (m 32 5) : Int)] [aI (m 32 3), aI 1, aR 32] m Q)) ∧ (¬ ((if (m 32 4) ≠ 256 then (-1) else (m 32 5) : Int) ≠ 18) → (S_X5_readQuestion sc d 78 [aR 32, aU, aU, aI (if (m 32 4) ≠ 256 then (-1) else (m 32 5) : Int)] [aR 32] m Q)))))))) ∧ (¬ ((if (m 32 4) ≠ 256 then (-1) else (m 32 5) : Int) ≠ 32) → (S_X5_readQuestion sc d 48 [aR 32, aU, aU, aI (if (m 32 4) ≠ 256 then (-1) else (m 32 5) : Int)] [aR 32] m Q))))))) : S_X5_readQuestion sc d 10 [aR 32, aU, aU, aU] [] m Q := by
  refine x_aload_n (pc2 := 11) dX5_readQuestion_10 rfl rfl ?_
  refine x_getf (pc2 := 14) (v := aI (m 32 4)) fl_X5_41 ic_32 (fv_i _ ic_32 rfl) dX5_readQuestion_11 rfl ?_
  refine x_sipush (pc2 := 17) dX5_readQuestion_14 rfl rfl ?_
  obtain ⟨g2, k⟩ := k
  have kj : S_X5_readQuestion sc d 28 [aR 32, aU, aU, aU] [aI (if (m 32 4) ≠ 256 then (-1) else (m 32 5) : Int)] m Q := by
    refine x_istore_n (pc2 := 29) (ls2 := [aR 32, aU, aU, aI (if (m 32 4) ≠ 256 then (-1) else (m 32 5) : Int)]) dX5_readQuestion_28 rfl (by decide) rfl ?_
    refine x_iload_n (pc2 := 30) dX5_readQuestion_29 rfl rfl ?_
    refine x_bipush (pc2 := 32) dX5_readQuestion_30 rfl rfl ?_
    obtain ⟨h3, k⟩ := k
    obtain ⟨k1, k2⟩ := k
    refine x_icmp_eq (tgt := 47) (pc2 := 35) dX5_readQuestion_32 (by decide) rfl h3 (by decide) (fun c4 => ?_) (fun c4 => ?_)
    · replace k := k1 c4
      refine x_aload_n (pc2 := 48) dX5_readQuestion_47 rfl rfl ?_
      exact k
    · replace k := k2 c4
      refine x_iload_n (pc2 := 36) dX5_readQuestion_35 rfl rfl ?_
      refine x_bipush (pc2 := 38) dX5_readQuestion_36 rfl rfl ?_
      obtain ⟨k1, k2⟩ := k
      refine x_icmp_eq (tgt := 47) (pc2 := 41) dX5_readQuestion_38 (by decide) rfl h3 (by decide) (fun c5 => ?_) (fun c5 => ?_)
      · replace k := k1 c5
        refine x_aload_n (pc2 := 48) dX5_readQuestion_47 rfl rfl ?_
        exact k
      · replace k := k2 c5
        refine x_iload_n (pc2 := 42) dX5_readQuestion_41 rfl rfl ?_
        refine x_bipush (pc2 := 44) dX5_readQuestion_42 rfl rfl ?_
        obtain ⟨k1, k2⟩ := k
        refine x_icmp_ne (tgt := 59) (pc2 := 47) dX5_readQuestion_44 (by decide) rfl h3 (by decide) (fun c6 => ?_) (fun c6 => ?_)
        · replace k := k1 c6
          refine x_iload_n (pc2 := 60) dX5_readQuestion_59 rfl rfl ?_
          refine x_bipush (pc2 := 62) dX5_readQuestion_60 rfl rfl ?_
          obtain ⟨k1, k2⟩ := k
          refine x_icmp_eq (tgt := 77) (pc2 := 65) dX5_readQuestion_62 (by decide) rfl h3 (by decide) (fun c7 => ?_) (fun c7 => ?_)
          · replace k := k1 c7
            refine x_aload_n (pc2 := 78) dX5_readQuestion_77 rfl rfl ?_
            exact k
          · replace k := k2 c7
            refine x_iload_n (pc2 := 66) dX5_readQuestion_65 rfl rfl ?_
            refine x_bipush (pc2 := 68) dX5_readQuestion_66 rfl rfl ?_
            obtain ⟨k1, k2⟩ := k
            refine x_icmp_eq (tgt := 77) (pc2 := 71) dX5_readQuestion_68 (by decide) rfl h3 (by decide) (fun c8 => ?_) (fun c8 => ?_)
            · replace k := k1 c8
              refine x_aload_n (pc2 := 78) dX5_readQuestion_77 rfl rfl ?_
              exact k
            · replace k := k2 c8
              refine x_iload_n (pc2 := 72) dX5_readQuestion_71 rfl rfl ?_
              refine x_bipush (pc2 := 74) dX5_readQuestion_72 rfl rfl ?_
              obtain ⟨k1, k2⟩ := k
              refine x_icmp_ne (tgt := 89) (pc2 := 77) dX5_readQuestion_74 (by decide) rfl h3 (by decide) (fun c9 => ?_) (fun c9 => ?_)
              · replace k := k1 c9
                refine x_aload_n (pc2 := 90) dX5_readQuestion_89 rfl rfl ?_
                refine x_iconst (pc2 := 91) dX5_readQuestion_90 rfl ?_
                refine x_aload_n (pc2 := 92) dX5_readQuestion_91 rfl rfl ?_
                refine x_getf (pc2 := 95) (v := aI (m 32 3)) fl_X5_57 ic_32 (fv_i _ ic_32 rfl) dX5_readQuestion_92 rfl ?_
                exact k
              · replace k := k2 c9
                refine x_aload_n (pc2 := 78) dX5_readQuestion_77 rfl rfl ?_
                exact k
        · replace k := k2 c6
          refine x_aload_n (pc2 := 48) dX5_readQuestion_47 rfl rfl ?_
          exact k
  have h10 := g2 
  refine x_icmp_ne (tgt := 27) (pc2 := 20) dX5_readQuestion_17 (by decide) rfl h10 (by decide) (fun c11 => ?_) (fun c11 => ?_)
  · skip
    refine x_iconst (pc2 := 28) dX5_readQuestion_27 rfl ?_
    exact x_topI (if_pos c11) kj
  · skip
    refine x_aload_n (pc2 := 21) dX5_readQuestion_20 rfl rfl ?_
    refine x_getf (pc2 := 24) (v := aI (m 32 5)) fl_X5_60 ic_32 (fv_i _ ic_32 rfl) dX5_readQuestion_21 rfl ?_
    refine x_goto (tgt := 28) dX5_readQuestion_24 (by decide) ?_
    exact x_topI (if_neg c11) kj
set_option maxRecDepth 4000 in
theorem g_X5_readQuestion_51 {sc : List Int} {d : Nat} {m : Mem} {Q : Option AV → Mem → Prop} {l3 : Int} (k : S_X5_readQuestion sc d 53 [aR 32, aU, aU, aI l3] [aI 0, aR 32] m Q) : S_X5_readQuestion sc d 51 [aR 32, aU, aU, aI l3] [] m Q := by
  refine x_aload_n (pc2 := 52) dX5_readQuestion_51 rfl rfl ?_
  refine x_iconst (pc2 := 53) dX5_readQuestion_52 rfl ?_
  exact k
set_option maxRecDepth 4000 in
theorem g_X5_readQuestion_56 {sc : List Int} {d : Nat} {m : Mem} {Q : Option AV → Mem → Prop} {l3 : Int} (k : S_X5_readQuestion sc d 98 [aR 32, aU, aU, aI l3] [] m Q) : S_X5_readQuestion sc d 56 [aR 32, aU, aU, aI l3] [] m Q := by
  refine x_goto (tgt := 98) dX5_readQuestion_56 (by decide) ?_
  exact k
set_option maxRecDepth 4000 in
theorem g_X5_readQuestion_81 {sc : List Int} {d : Nat} {m : Mem} {Q : Option AV → Mem → Prop} {l3 : Int} (k : S_X5_readQuestion sc d 83 [aR 32, aU, aU, aI l3] [aI 0, aR 32] m Q) : S_X5_readQuestion sc d 81 [aR 32, aU, aU, aI l3] [] m Q := by
  refine x_aload_n (pc2 := 82) dX5_readQuestion_81 rfl rfl ?_
  refine x_iconst (pc2 := 83) dX5_readQuestion_82 rfl ?_
  exact k
set_option maxRecDepth 4000 in
theorem g_X5_readQuestion_86 {sc : List Int} {d : Nat} {m : Mem} {Q : Option AV → Mem → Prop} {l3 : Int} (k : S_X5_readQuestion sc d 98 [aR 32, aU, aU, aI l3] [] m Q) : S_X5_readQuestion sc d 86 [aR 32, aU, aU, aI l3] [] m Q := by
  refine x_goto (tgt := 98) dX5_readQuestion_86 (by decide) ?_
  exact k
set_option maxRecDepth 4000 in
theorem g_X5_readQuestion_98 {sc : List Int} {d : Nat} {m : Mem} {Q : Option AV → Mem → Prop} {l3 : Int} (k : (-2147483648 ≤ (m 32 4) ∧ (m 32 4) < 2147483648) ∧ (((m 32 4) = 258) → (S_X5_readQuestion sc d 117 [aR 32, aU, aU, aI l3] [] m Q)) ∧ (¬ ((m 32 4) = 258) → (S_X5_readQuestion sc d 114 [aR 32, aU, aU, aI l3] [aI (m 32 3), aI 1, aR 32] m Q))) : S_X5_readQuestion sc d 98 [aR 32, aU, aU, aI l3] [] m Q := by
  refine x_aload_n (pc2 := 99) dX5_readQuestion_98 rfl rfl ?_
  refine x_getf (pc2 := 102) (v := aI (m 32 4)) fl_X5_41 ic_32 (fv_i _ ic_32 rfl) dX5_readQuestion_99 rfl ?_
  refine x_sipush (pc2 := 105) dX5_readQuestion_102 rfl rfl ?_
  obtain ⟨h1, k⟩ := k
  obtain ⟨k1, k2⟩ := k
  refine x_icmp_eq (tgt := 117) (pc2 := 108) dX5_readQuestion_105 (by decide) rfl h1 (by decide) (fun c2 => ?_) (fun c2 => ?_)
  · replace k := k1 c2
    exact k
  · replace k := k2 c2
    refine x_aload_n (pc2 := 109) dX5_readQuestion_108 rfl rfl ?_
    refine x_iconst (pc2 := 110) dX5_readQuestion_109 rfl ?_
    refine x_aload_n (pc2 := 111) dX5_readQuestion_110 rfl rfl ?_
    refine x_getf (pc2 := 114) (v := aI (m 32 3)) fl_X5_57 ic_32 (fv_i _ ic_32 rfl) dX5_readQuestion_111 rfl ?_
    exact k
set_option maxRecDepth 4000 in
theorem g_X5_readQuestion_117 {sc : List Int} {d : Nat} {m : Mem} {Q : Option AV → Mem → Prop} {l3 : Int} (k : Q (some (aI l3)) m) : S_X5_readQuestion sc d 117 [aR 32, aU, aU, aI l3] [] m Q := by
  refine x_iload_n (pc2 := 118) dX5_readQuestion_117 rfl rfl ?_
  exact x_ireturn dX5_readQuestion_118 ⟨.int, rfl, rfl⟩ k
theorem c_X5_readQuestion_7 {sc : List Int} {d d2 : Nat} {m m2 : Mem} {Q : Option AV → Mem → Prop} {s1 s2 s3 : Int} (Hs1 : FormAt s1) (Hs2 : IsC s2 100) (hM : C_X5_begin sc d2 [aR 32, aR s1, aR s2, aI s3] m none m2) (hd : d2 + 1 ≤ d) (k : S_X5_readQuestion sc d 10 [aR 32, aU, aU, aU] [] m2 Q) : S_X5_readQuestion sc d 7 [aR 32, aU, aU, aU] [aI s3, aR s2, aR s1, aR 32] m Q := x_callV (as := [aR s1, aR s2, aI s3]) (rest := []) hM mk_X5_begin mv_X5_begin lk_X5_96 (Or.inl ⟨5, (RX5, TX5, 12), ic_32, Nat.le_of_ble_eq_true rfl, rfl, rfl⟩) hd rfl rfl (Nat.le_of_ble_eq_true rfl) dX5_readQuestion_7 rfl k
theorem c_X5_readQuestion_48 {sc : List Int} {d d2 : Nat} {m m2 : Mem} {Q : Option AV → Mem → Prop} {l3 : Int} (hM : C_X5_advance sc d2 [aR 32] m none m2) (hd : d2 + 1 ≤ d) (k : S_X5_readQuestion sc d 51 [aR 32, aU, aU, aI l3] [] m2 Q) : S_X5_readQuestion sc d 48 [aR 32, aU, aU, aI l3] [aR 32] m Q := x_callV (as := []) (rest := []) hM mk_X5_advance mv_X5_advance lk_X5_54 (Or.inl ⟨5, (RX5, TX5, 12), ic_32, Nat.le_of_ble_eq_true rfl, rfl, rfl⟩) hd rfl rfl (Nat.le_of_ble_eq_true rfl) dX5_readQuestion_48 rfl k
theorem c_X5_readQuestion_53 {sc : List Int} {d d2 : Nat} {m m2 : Mem} {Q : Option AV → Mem → Prop} {l3 s1 : Int} (hM : C_X5_test sc d2 [aR 32, aI s1] m none m2) (hd : d2 + 1 ≤ d) (k : S_X5_readQuestion sc d 56 [aR 32, aU, aU, aI l3] [] m2 Q) : S_X5_readQuestion sc d 53 [aR 32, aU, aU, aI l3] [aI s1, aR 32] m Q := x_callV (as := [aI s1]) (rest := []) hM mk_X5_test mv_X5_test lk_X5_162 (Or.inl ⟨5, (RX5, TX5, 12), ic_32, Nat.le_of_ble_eq_true rfl, rfl, rfl⟩) hd rfl rfl (Nat.le_of_ble_eq_true rfl) dX5_readQuestion_53 rfl k
theorem c_X5_readQuestion_78 {sc : List Int} {d d2 : Nat} {m m2 : Mem} {Q : Option AV → Mem → Prop} {l3 : Int} (hM : C_X5_advance sc d2 [aR 32] m none m2) (hd : d2 + 1 ≤ d) (k : S_X5_readQuestion sc d 81 [aR 32, aU, aU, aI l3] [] m2 Q) : S_X5_readQuestion sc d 78 [aR 32, aU, aU, aI l3] [aR 32] m Q := x_callV (as := []) (rest := []) hM mk_X5_advance mv_X5_advance lk_X5_54 (Or.inl ⟨5, (RX5, TX5, 12), ic_32, Nat.le_of_ble_eq_true rfl, rfl, rfl⟩) hd rfl rfl (Nat.le_of_ble_eq_true rfl) dX5_readQuestion_78 rfl k
theorem c_X5_readQuestion_83 {sc : List Int} {d d2 : Nat} {m m2 : Mem} {Q : Option AV → Mem → Prop} {l3 s1 : Int} (hM : C_X5_sum sc d2 [aR 32, aI s1] m none m2) (hd : d2 + 1 ≤ d) (k : S_X5_readQuestion sc d 86 [aR 32, aU, aU, aI l3] [] m2 Q) : S_X5_readQuestion sc d 83 [aR 32, aU, aU, aI l3] [aI s1, aR 32] m Q := x_callV (as := [aI s1]) (rest := []) hM mk_X5_sum mv_X5_sum lk_X5_174 (Or.inl ⟨5, (RX5, TX5, 12), ic_32, Nat.le_of_ble_eq_true rfl, rfl, rfl⟩) hd rfl rfl (Nat.le_of_ble_eq_true rfl) dX5_readQuestion_83 rfl k
theorem c_X5_readQuestion_95 {sc : List Int} {d d2 : Nat} {m m2 : Mem} {Q : Option AV → Mem → Prop} {l3 s1 s2 : Int} (hM : C_X5_fail sc d2 [aR 32, aI s1, aI s2] m none m2) (hd : d2 + 1 ≤ d) (k : S_X5_readQuestion sc d 98 [aR 32, aU, aU, aI l3] [] m2 Q) : S_X5_readQuestion sc d 95 [aR 32, aU, aU, aI l3] [aI s2, aI s1, aR 32] m Q := x_callV (as := [aI s1, aI s2]) (rest := []) hM mk_X5_fail mv_X5_fail lk_X5_84 (Or.inl ⟨5, (RX5, TX5, 12), ic_32, Nat.le_of_ble_eq_true rfl, rfl, rfl⟩) hd rfl rfl (Nat.le_of_ble_eq_true rfl) dX5_readQuestion_95 rfl k
theorem c_X5_readQuestion_114 {sc : List Int} {d d2 : Nat} {m m2 : Mem} {Q : Option AV → Mem → Prop} {l3 s1 s2 : Int} (hM : C_X5_fail sc d2 [aR 32, aI s1, aI s2] m none m2) (hd : d2 + 1 ≤ d) (k : S_X5_readQuestion sc d 117 [aR 32, aU, aU, aI l3] [] m2 Q) : S_X5_readQuestion sc d 114 [aR 32, aU, aU, aI l3] [aI s2, aI s1, aR 32] m Q := x_callV (as := [aI s1, aI s2]) (rest := []) hM mk_X5_fail mv_X5_fail lk_X5_84 (Or.inl ⟨5, (RX5, TX5, 12), ic_32, Nat.le_of_ble_eq_true rfl, rfl, rfl⟩) hd rfl rfl (Nat.le_of_ble_eq_true rfl) dX5_readQuestion_114 rfl k
set_option maxRecDepth 4000 in
theorem g_X5_test_0 {sc : List Int} {d : Nat} {m : Mem} {Q : Option AV → Mem → Prop} {l1 : Int} (k : S_X5_test sc d 2 [aR 32, aI l1, aU] [aI l1, aR 32] m Q) : S_X5_test sc d 0 [aR 32, aI l1, aU] [] m Q := by
  refine x_aload_n (pc2 := 1) dX5_test_0 rfl rfl ?_
  refine x_iload_n (pc2 := 2) dX5_test_1 rfl rfl ?_
  exact k
set_option maxRecDepth 4000 in
theorem g_X5_test_5 {sc : List Int} {d : Nat} {m : Mem} {Q : Option AV → Mem → Prop} {l1 : Int} (k : S_X5_test sc d 7 [aR 32, aI l1, aI 0] [] m Q) : S_X5_test sc d 5 [aR 32, aI l1, aU] [] m Q := by
  refine x_iconst (pc2 := 6) dX5_test_5 rfl ?_
  refine x_istore_n (pc2 := 7) (ls2 := [aR 32, aI l1, aI 0]) dX5_test_6 rfl (by decide) rfl ?_
  exact k
set_option maxRecDepth 4000 in
theorem g_X5_test_7 {sc : List Int} {d : Nat} {m : Mem} {Q : Option AV → Mem → Prop} {l1 l2 : Int} (k : (-2147483648 ≤ l2 ∧ l2 < 2147483648) ∧ ((1600 ≤ l2) → (Q none m)) ∧ (¬ (1600 ≤ l2) → (S_X5_test sc d 17 [aR 32, aI l1, aI l2] [aI 24, aR 32] m Q))) : S_X5_test sc d 7 [aR 32, aI l1, aI l2] [] m Q := by
  refine x_iload_n (pc2 := 8) dX5_test_7 rfl rfl ?_
  refine x_sipush (pc2 := 11) dX5_test_8 rfl rfl ?_
  obtain ⟨h1, k⟩ := k
  obtain ⟨k1, k2⟩ := k
  refine x_icmp_ge (tgt := 47) (pc2 := 14) dX5_test_11 (by decide) rfl h1 (by decide) (fun c2 => ?_) (fun c2 => ?_)
  · replace k := k1 c2
    exact x_return dX5_test_47 rfl k
  · replace k := k2 c2
    refine x_aload_n (pc2 := 15) dX5_test_14 rfl rfl ?_
    refine x_bipush (pc2 := 17) dX5_test_15 rfl rfl ?_
    exact k
set_option maxRecDepth 4000 in
theorem g_X5_test_20 {sc : List Int} {d : Nat} {m : Mem} {Q : Option AV → Mem → Prop} {l1 l2 s0 : Int} (k : (-2147483648 ≤ s0 ∧ s0 < 2147483648) ∧ ((s0 = 0) → (Q none m)) ∧ (¬ (s0 = 0) → (S_X5_test sc d 24 [aR 32, aI l1, aI l2] [aR 32] m Q))) : S_X5_test sc d 20 [aR 32, aI l1, aI l2] [aI s0] m Q := by
  obtain ⟨h1, k⟩ := k
  obtain ⟨k1, k2⟩ := k
  refine x_if_eq (tgt := 47) (pc2 := 23) dX5_test_20 (by decide) rfl h1 (fun c2 => ?_) (fun c2 => ?_)
  · replace k := k1 c2
    exact x_return dX5_test_47 rfl k
  · replace k := k2 c2
    refine x_aload_n (pc2 := 24) dX5_test_23 rfl rfl ?_
    exact k
set_option maxRecDepth 4000 in
theorem g_X5_test_27 {sc : List Int} {d : Nat} {m : Mem} {Q : Option AV → Mem → Prop} {l1 l2 : Int} (k : S_X5_test sc d 29 [aR 32, aI l1, aI l2] [aI l1, aR 32] m Q) : S_X5_test sc d 27 [aR 32, aI l1, aI l2] [] m Q := by
  refine x_aload_n (pc2 := 28) dX5_test_27 rfl rfl ?_
  refine x_iload_n (pc2 := 29) dX5_test_28 rfl rfl ?_
  exact k
set_option maxRecDepth 4000 in
theorem g_X5_test_32 {sc : List Int} {d : Nat} {m : Mem} {Q : Option AV → Mem → Prop} {l1 l2 : Int} (k : S_X5_test sc d 38 [aR 32, aI l1, aI l2] [aI (-23), aR (m 32 11)] m Q) : S_X5_test sc d 32 [aR 32, aI l1, aI l2] [] m Q := by
  refine x_aload_n (pc2 := 33) dX5_test_32 rfl rfl ?_
  refine x_getf (pc2 := 36) (v := aR (m 32 11)) fl_X5_26 ic_32 (fv_m _ ic_32 rfl) dX5_test_33 rfl ?_
  refine x_bipush (pc2 := 38) dX5_test_36 rfl rfl ?_
  exact k
set_option maxRecDepth 4000 in
theorem g_X5_test_41 {sc : List Int} {d : Nat} {m : Mem} {Q : Option AV → Mem → Prop} {l1 l2 : Int} (k : S_X5_test sc d 7 [aR 32, aI l1, aI (l2 + 1)] [] m Q) : S_X5_test sc d 41 [aR 32, aI l1, aI l2] [] m Q := by
  refine x_iinc (pc2 := 44) (ls2 := [aR 32, aI l1, aI (l2 + 1)]) dX5_test_41 rfl rfl (by decide) rfl ?_
  refine x_goto (tgt := 7) dX5_test_44 (by decide) ?_
  exact k
theorem c_X5_test_2 {sc : List Int} {d d2 : Nat} {m m2 : Mem} {Q : Option AV → Mem → Prop} {l1 s1 : Int} (hM : C_X5_both sc d2 [aR 32, aI s1] m none m2) (hd : d2 + 1 ≤ d) (k : S_X5_test sc d 5 [aR 32, aI l1, aU] [] m2 Q) : S_X5_test sc d 2 [aR 32, aI l1, aU] [aI s1, aR 32] m Q := x_callV (as := [aI s1]) (rest := []) hM mk_X5_both mv_X5_both lk_X5_177 (Or.inl ⟨5, (RX5, TX5, 12), ic_32, Nat.le_of_ble_eq_true rfl, rfl, rfl⟩) hd rfl rfl (Nat.le_of_ble_eq_true rfl) dX5_test_2 rfl k
theorem c_X5_test_17 {sc : List Int} {d d2 : Nat} {m m2 : Mem} {Q : Option AV → Mem → Prop} {l1 l2 s1 : Int} {v : Int} (hM : C_X5_isWord sc d2 [aR 32, aI s1] m (some (aI v)) m2) (hd : d2 + 1 ≤ d) (k : S_X5_test sc d 20 [aR 32, aI l1, aI l2] [aI v] m2 Q) : S_X5_test sc d 17 [aR 32, aI l1, aI l2] [aI s1, aR 32] m Q := x_callV (as := [aI s1]) (rest := []) hM mk_X5_isWord mv_X5_isWord lk_X5_80 (Or.inl ⟨5, (RX5, TX5, 12), ic_32, Nat.le_of_ble_eq_true rfl, rfl, rfl⟩) hd rfl rfl (Nat.le_of_ble_eq_true rfl) dX5_test_17 rfl k
theorem c_X5_test_24 {sc : List Int} {d d2 : Nat} {m m2 : Mem} {Q : Option AV → Mem → Prop} {l1 l2 : Int} (hM : C_X5_advance sc d2 [aR 32] m none m2) (hd : d2 + 1 ≤ d) (k : S_X5_test sc d 27 [aR 32, aI l1, aI l2] [] m2 Q) : S_X5_test sc d 24 [aR 32, aI l1, aI l2] [aR 32] m Q := x_callV (as := []) (rest := []) hM mk_X5_advance mv_X5_advance lk_X5_54 (Or.inl ⟨5, (RX5, TX5, 12), ic_32, Nat.le_of_ble_eq_true rfl, rfl, rfl⟩) hd rfl rfl (Nat.le_of_ble_eq_true rfl) dX5_test_24 rfl k
theorem c_X5_test_29 {sc : List Int} {d d2 : Nat} {m m2 : Mem} {Q : Option AV → Mem → Prop} {l1 l2 s1 : Int} (hM : C_X5_both sc d2 [aR 32, aI s1] m none m2) (hd : d2 + 1 ≤ d) (k : S_X5_test sc d 32 [aR 32, aI l1, aI l2] [] m2 Q) : S_X5_test sc d 29 [aR 32, aI l1, aI l2] [aI s1, aR 32] m Q := x_callV (as := [aI s1]) (rest := []) hM mk_X5_both mv_X5_both lk_X5_177 (Or.inl ⟨5, (RX5, TX5, 12), ic_32, Nat.le_of_ble_eq_true rfl, rfl, rfl⟩) hd rfl rfl (Nat.le_of_ble_eq_true rfl) dX5_test_29 rfl k
theorem c_X5_test_38 {sc : List Int} {d d2 : Nat} {m m2 : Mem} {Q : Option AV → Mem → Prop} {l1 l2 s0 s1 : Int} (Hs0 : FormAt s0) (hM : C_X3_put sc d2 [aR s0, aI s1] m none m2) (hd : d2 + 1 ≤ d) (k : S_X5_test sc d 41 [aR 32, aI l1, aI l2] [] m2 Q) : S_X5_test sc d 38 [aR 32, aI l1, aI l2] [aI s1, aR s0] m Q := x_callV (as := [aI s1]) (rest := []) hM mk_X3_put mv_X3_put lk_X5_180 (Or.inl ⟨3, (RX3, TX3, 3), icf_0 Hs0, Nat.le_of_ble_eq_true rfl, rfl, rfl⟩) hd rfl rfl (Nat.le_of_ble_eq_true rfl) dX5_test_38 rfl k
set_option maxRecDepth 4000 in
theorem g_X5_both_0 {sc : List Int} {d : Nat} {m : Mem} {Q : Option AV → Mem → Prop} {l1 : Int} (k : S_X5_both sc d 2 [aR 32, aI l1, aU] [aI l1, aR 32] m Q) : S_X5_both sc d 0 [aR 32, aI l1, aU] [] m Q := by
  refine x_aload_n (pc2 := 1) dX5_both_0 rfl rfl ?_
  refine x_iload_n (pc2 := 2) dX5_both_1 rfl rfl ?_
  exact k
set_option maxRecDepth 4000 in
theorem g_X5_both_5 {sc : List Int} {d : Nat} {m : Mem} {Q : Option AV → Mem → Prop} {l1 : Int} (k : S_X5_both sc d 7 [aR 32, aI l1, aI 0] [] m Q) : S_X5_both sc d 5 [aR 32, aI l1, aU] [] m Q := by
  refine x_iconst (pc2 := 6) dX5_both_5 rfl ?_
  refine x_istore_n (pc2 := 7) (ls2 := [aR 32, aI l1, aI 0]) dX5_both_6 rfl (by decide) rfl ?_
  exact k
set_option maxRecDepth 4000 in
theorem g_X5_both_7 {sc : List Int} {d : Nat} {m : Mem} {Q : Option AV → Mem → Prop} {l1 l2 : Int} (k : (-2147483648 ≤ l2 ∧ l2 < 2147483648) ∧ ((1600 ≤ l2) → (Q none m)) ∧ (¬ (1600 ≤ l2) → (S_X5_both sc d 17 [aR 32, aI l1, aI l2] [aI 25, aR 32] m Q))) : S_X5_both sc d 7 [aR 32, aI l1, aI l2] [] m Q := by
  refine x_iload_n (pc2 := 8) dX5_both_7 rfl rfl ?_
  refine x_sipush (pc2 := 11) dX5_both_8 rfl rfl ?_
  obtain ⟨h1, k⟩ := k
  obtain ⟨k1, k2⟩ := k
  refine x_icmp_ge (tgt := 47) (pc2 := 14) dX5_both_11 (by decide) rfl h1 (by decide) (fun c2 => ?_) (fun c2 => ?_)
  · replace k := k1 c2
    exact x_return dX5_both_47 rfl k
  · replace k := k2 c2
    refine x_aload_n (pc2 := 15) dX5_both_14 rfl rfl ?_
    refine x_bipush (pc2 := 17) dX5_both_15 rfl rfl ?_
    exact k
set_option maxRecDepth 4000 in
theorem g_X5_both_20 {sc : List Int} {d : Nat} {m : Mem} {Q : Option AV → Mem → Prop} {l1 l2 s0 : Int} (k : (-2147483648 ≤ s0 ∧ s0 < 2147483648) ∧ ((s0 = 0) → (Q none m)) ∧ (¬ (s0 = 0) → (S_X5_both sc d 24 [aR 32, aI l1, aI l2] [aR 32] m Q))) : S_X5_both sc d 20 [aR 32, aI l1, aI l2] [aI s0] m Q := by
  obtain ⟨h1, k⟩ := k
  obtain ⟨k1, k2⟩ := k
  refine x_if_eq (tgt := 47) (pc2 := 23) dX5_both_20 (by decide) rfl h1 (fun c2 => ?_) (fun c2 => ?_)
  · replace k := k1 c2
    exact x_return dX5_both_47 rfl k
  · replace k := k2 c2
    refine x_aload_n (pc2 := 24) dX5_both_23 rfl rfl ?_
    exact k
set_option maxRecDepth 4000 in
theorem g_X5_both_27 {sc : List Int} {d : Nat} {m : Mem} {Q : Option AV → Mem → Prop} {l1 l2 : Int} (k : S_X5_both sc d 29 [aR 32, aI l1, aI l2] [aI l1, aR 32] m Q) : S_X5_both sc d 27 [aR 32, aI l1, aI l2] [] m Q := by
  refine x_aload_n (pc2 := 28) dX5_both_27 rfl rfl ?_
  refine x_iload_n (pc2 := 29) dX5_both_28 rfl rfl ?_
  exact k
set_option maxRecDepth 4000 in
theorem g_X5_both_32 {sc : List Int} {d : Nat} {m : Mem} {Q : Option AV → Mem → Prop} {l1 l2 : Int} (k : S_X5_both sc d 38 [aR 32, aI l1, aI l2] [aI (-22), aR (m 32 11)] m Q) : S_X5_both sc d 32 [aR 32, aI l1, aI l2] [] m Q := by
  refine x_aload_n (pc2 := 33) dX5_both_32 rfl rfl ?_
  refine x_getf (pc2 := 36) (v := aR (m 32 11)) fl_X5_26 ic_32 (fv_m _ ic_32 rfl) dX5_both_33 rfl ?_
  refine x_bipush (pc2 := 38) dX5_both_36 rfl rfl ?_
  exact k
set_option maxRecDepth 4000 in
theorem g_X5_both_41 {sc : List Int} {d : Nat} {m : Mem} {Q : Option AV → Mem → Prop} {l1 l2 : Int} (k : S_X5_both sc d 7 [aR 32, aI l1, aI (l2 + 1)] [] m Q) : S_X5_both sc d 41 [aR 32, aI l1, aI l2] [] m Q := by
  refine x_iinc (pc2 := 44) (ls2 := [aR 32, aI l1, aI (l2 + 1)]) dX5_both_41 rfl rfl (by decide) rfl ?_
  refine x_goto (tgt := 7) dX5_both_44 (by decide) ?_
  exact k
theorem c_X5_both_2 {sc : List Int} {d d2 : Nat} {m m2 : Mem} {Q : Option AV → Mem → Prop} {l1 s1 : Int} (hM : C_X5_fact sc d2 [aR 32, aI s1] m none m2) (hd : d2 + 1 ≤ d) (k : S_X5_both sc d 5 [aR 32, aI l1, aU] [] m2 Q) : S_X5_both sc d 2 [aR 32, aI l1, aU] [aI s1, aR 32] m Q := x_callV (as := [aI s1]) (rest := []) hM mk_X5_fact mv_X5_fact lk_X5_183 (Or.inl ⟨5, (RX5, TX5, 12), ic_32, Nat.le_of_ble_eq_true rfl, rfl, rfl⟩) hd rfl rfl (Nat.le_of_ble_eq_true rfl) dX5_both_2 rfl k
theorem c_X5_both_17 {sc : List Int} {d d2 : Nat} {m m2 : Mem} {Q : Option AV → Mem → Prop} {l1 l2 s1 : Int} {v : Int} (hM : C_X5_isWord sc d2 [aR 32, aI s1] m (some (aI v)) m2) (hd : d2 + 1 ≤ d) (k : S_X5_both sc d 20 [aR 32, aI l1, aI l2] [aI v] m2 Q) : S_X5_both sc d 17 [aR 32, aI l1, aI l2] [aI s1, aR 32] m Q := x_callV (as := [aI s1]) (rest := []) hM mk_X5_isWord mv_X5_isWord lk_X5_80 (Or.inl ⟨5, (RX5, TX5, 12), ic_32, Nat.le_of_ble_eq_true rfl, rfl, rfl⟩) hd rfl rfl (Nat.le_of_ble_eq_true rfl) dX5_both_17 rfl k
theorem c_X5_both_24 {sc : List Int} {d d2 : Nat} {m m2 : Mem} {Q : Option AV → Mem → Prop} {l1 l2 : Int} (hM : C_X5_advance sc d2 [aR 32] m none m2) (hd : d2 + 1 ≤ d) (k : S_X5_both sc d 27 [aR 32, aI l1, aI l2] [] m2 Q) : S_X5_both sc d 24 [aR 32, aI l1, aI l2] [aR 32] m Q := x_callV (as := []) (rest := []) hM mk_X5_advance mv_X5_advance lk_X5_54 (Or.inl ⟨5, (RX5, TX5, 12), ic_32, Nat.le_of_ble_eq_true rfl, rfl, rfl⟩) hd rfl rfl (Nat.le_of_ble_eq_true rfl) dX5_both_24 rfl k
theorem c_X5_both_29 {sc : List Int} {d d2 : Nat} {m m2 : Mem} {Q : Option AV → Mem → Prop} {l1 l2 s1 : Int} (hM : C_X5_fact sc d2 [aR 32, aI s1] m none m2) (hd : d2 + 1 ≤ d) (k : S_X5_both sc d 32 [aR 32, aI l1, aI l2] [] m2 Q) : S_X5_both sc d 29 [aR 32, aI l1, aI l2] [aI s1, aR 32] m Q := x_callV (as := [aI s1]) (rest := []) hM mk_X5_fact mv_X5_fact lk_X5_183 (Or.inl ⟨5, (RX5, TX5, 12), ic_32, Nat.le_of_ble_eq_true rfl, rfl, rfl⟩) hd rfl rfl (Nat.le_of_ble_eq_true rfl) dX5_both_29 rfl k
theorem c_X5_both_38 {sc : List Int} {d d2 : Nat} {m m2 : Mem} {Q : Option AV → Mem → Prop} {l1 l2 s0 s1 : Int} (Hs0 : FormAt s0) (hM : C_X3_put sc d2 [aR s0, aI s1] m none m2) (hd : d2 + 1 ≤ d) (k : S_X5_both sc d 41 [aR 32, aI l1, aI l2] [] m2 Q) : S_X5_both sc d 38 [aR 32, aI l1, aI l2] [aI s1, aR s0] m Q := x_callV (as := [aI s1]) (rest := []) hM mk_X3_put mv_X3_put lk_X5_180 (Or.inl ⟨3, (RX3, TX3, 3), icf_0 Hs0, Nat.le_of_ble_eq_true rfl, rfl, rfl⟩) hd rfl rfl (Nat.le_of_ble_eq_true rfl) dX5_both_38 rfl k
set_option maxRecDepth 4000 in
theorem g_X5_fact_0 {sc : List Int} {d : Nat} {m : Mem} {Q : Option AV → Mem → Prop} {l1 : Int} (k : S_X5_fact sc d 3 [aR 32, aI l1, aU] [aI 26, aR 32] m Q) : S_X5_fact sc d 0 [aR 32, aI l1, aU] [] m Q := by
  refine x_aload_n (pc2 := 1) dX5_fact_0 rfl rfl ?_
  refine x_bipush (pc2 := 3) dX5_fact_1 rfl rfl ?_
  exact k
set_option maxRecDepth 4000 in
theorem g_X5_fact_6 {sc : List Int} {d : Nat} {m : Mem} {Q : Option AV → Mem → Prop} {l1 s0 : Int} (k : (-2147483648 ≤ s0 ∧ s0 < 2147483648) ∧ ((s0 = 0) → ((-2147483648 ≤ (m 32 4) ∧ (m 32 4) < 2147483648) ∧ (((m 32 4) ≠ 91) → (S_X5_fact sc d 78 [aR 32, aI l1, aU] [aI 27, aR 32] m Q)) ∧ (¬ ((m 32 4) ≠ 91) → (S_X5_fact sc d 50 [aR 32, aI l1, aU] [aI l1, aR 32] m Q)))) ∧ (¬ (s0 = 0) → (S_X5_fact sc d 11 [aR 32, aI l1, aU] [aI l1, aR 32] m Q))) : S_X5_fact sc d 6 [aR 32, aI l1, aU] [aI s0] m Q := by
  obtain ⟨h1, k⟩ := k
  obtain ⟨k1, k2⟩ := k
  refine x_if_eq (tgt := 39) (pc2 := 9) dX5_fact_6 (by decide) rfl h1 (fun c2 => ?_) (fun c2 => ?_)
  · replace k := k1 c2
    refine x_aload_n (pc2 := 40) dX5_fact_39 rfl rfl ?_
    refine x_getf (pc2 := 43) (v := aI (m 32 4)) fl_X5_41 ic_32 (fv_i _ ic_32 rfl) dX5_fact_40 rfl ?_
    refine x_bipush (pc2 := 45) dX5_fact_43 rfl rfl ?_
    obtain ⟨h3, k⟩ := k
    obtain ⟨k1, k2⟩ := k
    refine x_icmp_ne (tgt := 75) (pc2 := 48) dX5_fact_45 (by decide) rfl h3 (by decide) (fun c4 => ?_) (fun c4 => ?_)
    · replace k := k1 c4
      refine x_aload_n (pc2 := 76) dX5_fact_75 rfl rfl ?_
      refine x_bipush (pc2 := 78) dX5_fact_76 rfl rfl ?_
      exact k
    · replace k := k2 c4
      refine x_aload_n (pc2 := 49) dX5_fact_48 rfl rfl ?_
      refine x_iload_n (pc2 := 50) dX5_fact_49 rfl rfl ?_
      exact k
  · replace k := k2 c2
    refine x_aload_n (pc2 := 10) dX5_fact_9 rfl rfl ?_
    refine x_iload_n (pc2 := 11) dX5_fact_10 rfl rfl ?_
    exact k
set_option maxRecDepth 4000 in
theorem g_X5_fact_14 {sc : List Int} {d : Nat} {m : Mem} {Q : Option AV → Mem → Prop} {l1 : Int} (k : (-2147483648 ≤ l1 ∧ l1 < 2147483648) ∧ ((6 ≤ l1) → (S_X5_fact sc d 189 [aR 32, aU, aU] [] m Q)) ∧ (¬ (6 ≤ l1) → (S_X5_fact sc d 24 [aR 32, aU, aU] [aI (l1 + 1), aR 32] m Q))) : S_X5_fact sc d 14 [aR 32, aI l1, aU] [] m Q := by
  refine x_iload_n (pc2 := 15) dX5_fact_14 rfl rfl ?_
  refine x_bipush (pc2 := 17) dX5_fact_15 rfl rfl ?_
  obtain ⟨h1, k⟩ := k
  obtain ⟨k1, k2⟩ := k
  refine x_icmp_ge (tgt := 189) (pc2 := 20) dX5_fact_17 (by decide) rfl h1 (by decide) (fun c2 => ?_) (fun c2 => ?_)
  · replace k := k1 c2
    exact x_drop (drp_k (drp_u (drp_k drp_n))) k
  · replace k := k2 c2
    refine x_aload_n (pc2 := 21) dX5_fact_20 rfl rfl ?_
    refine x_iload_n (pc2 := 22) dX5_fact_21 rfl rfl ?_
    refine x_iconst (pc2 := 23) dX5_fact_22 rfl ?_
    refine x_iadd (pc2 := 24) dX5_fact_23 rfl ?_
    exact x_drop (drp_k (drp_u (drp_k drp_n))) k
set_option maxRecDepth 4000 in
theorem g_X5_fact_27 {sc : List Int} {d : Nat} {m : Mem} {Q : Option AV → Mem → Prop} (k : S_X5_fact sc d 33 [aR 32, aU, aU] [aI (-11), aR (m 32 11)] m Q) : S_X5_fact sc d 27 [aR 32, aU, aU] [] m Q := by
  refine x_aload_n (pc2 := 28) dX5_fact_27 rfl rfl ?_
  refine x_getf (pc2 := 31) (v := aR (m 32 11)) fl_X5_26 ic_32 (fv_m _ ic_32 rfl) dX5_fact_28 rfl ?_
  refine x_bipush (pc2 := 33) dX5_fact_31 rfl rfl ?_
  exact k
set_option maxRecDepth 4000 in
theorem g_X5_fact_36 {sc : List Int} {d : Nat} {m : Mem} {Q : Option AV → Mem → Prop} (k : S_X5_fact sc d 189 [aR 32, aU, aU] [] m Q) : S_X5_fact sc d 36 [aR 32, aU, aU] [] m Q := by
  refine x_goto (tgt := 189) dX5_fact_36 (by decide) ?_
  exact k
set_option maxRecDepth 4000 in
theorem g_X5_fact_53 {sc : List Int} {d : Nat} {m : Mem} {Q : Option AV → Mem → Prop} {l1 : Int} (k : (-2147483648 ≤ l1 ∧ l1 < 2147483648) ∧ ((6 ≤ l1) → (S_X5_fact sc d 189 [aR 32, aU, aU] [] m Q)) ∧ (¬ (6 ≤ l1) → (S_X5_fact sc d 63 [aR 32, aU, aU] [aI (l1 + 1), aR 32] m Q))) : S_X5_fact sc d 53 [aR 32, aI l1, aU] [] m Q := by
  refine x_iload_n (pc2 := 54) dX5_fact_53 rfl rfl ?_
  refine x_bipush (pc2 := 56) dX5_fact_54 rfl rfl ?_
  obtain ⟨h1, k⟩ := k
  obtain ⟨k1, k2⟩ := k
  refine x_icmp_ge (tgt := 189) (pc2 := 59) dX5_fact_56 (by decide) rfl h1 (by decide) (fun c2 => ?_) (fun c2 => ?_)
  · replace k := k1 c2
    exact x_drop (drp_k (drp_u (drp_k drp_n))) k
  · replace k := k2 c2
    refine x_aload_n (pc2 := 60) dX5_fact_59 rfl rfl ?_
    refine x_iload_n (pc2 := 61) dX5_fact_60 rfl rfl ?_
    refine x_iconst (pc2 := 62) dX5_fact_61 rfl ?_
    refine x_iadd (pc2 := 63) dX5_fact_62 rfl ?_
    exact x_drop (drp_k (drp_u (drp_k drp_n))) k
set_option maxRecDepth 4000 in
theorem g_X5_fact_66 {sc : List Int} {d : Nat} {m : Mem} {Q : Option AV → Mem → Prop} (k : S_X5_fact sc d 69 [aR 32, aU, aU] [aI 93, aR 32] m Q) : S_X5_fact sc d 66 [aR 32, aU, aU] [] m Q := by
  refine x_aload_n (pc2 := 67) dX5_fact_66 rfl rfl ?_
  refine x_bipush (pc2 := 69) dX5_fact_67 rfl rfl ?_
  exact k
set_option maxRecDepth 4000 in
theorem g_X5_fact_72 {sc : List Int} {d : Nat} {m : Mem} {Q : Option AV → Mem → Prop} (k : S_X5_fact sc d 189 [aR 32, aU, aU] [] m Q) : S_X5_fact sc d 72 [aR 32, aU, aU] [] m Q := by
  refine x_goto (tgt := 189) dX5_fact_72 (by decide) ?_
  exact k
set_option maxRecDepth 4000 in
theorem g_X5_fact_81 {sc : List Int} {d : Nat} {m : Mem} {Q : Option AV → Mem → Prop} {l1 s0 : Int} (k : (-2147483648 ≤ s0 ∧ s0 < 2147483648) ∧ ((s0 = 0) → (S_X5_fact sc d 101 [aR 32, aI l1, aU] [aI l1, aR 32] m Q)) ∧ (¬ (s0 = 0) → (S_X5_fact sc d 85 [aR 32, aU, aU] [aR 32] m Q))) : S_X5_fact sc d 81 [aR 32, aI l1, aU] [aI s0] m Q := by
  obtain ⟨h1, k⟩ := k
  obtain ⟨k1, k2⟩ := k
  refine x_if_eq (tgt := 99) (pc2 := 84) dX5_fact_81 (by decide) rfl h1 (fun c2 => ?_) (fun c2 => ?_)
  · replace k := k1 c2
    refine x_aload_n (pc2 := 100) dX5_fact_99 rfl rfl ?_
    refine x_iload_n (pc2 := 101) dX5_fact_100 rfl rfl ?_
    exact k
  · replace k := k2 c2
    refine x_aload_n (pc2 := 85) dX5_fact_84 rfl rfl ?_
    exact x_drop (drp_k (drp_u (drp_k drp_n))) k
set_option maxRecDepth 4000 in
theorem g_X5_fact_88 {sc : List Int} {d : Nat} {m : Mem} {Q : Option AV → Mem → Prop} (k : S_X5_fact sc d 93 [aR 32, aU, aU] [aI 1, aR (m 32 11)] m Q) : S_X5_fact sc d 88 [aR 32, aU, aU] [] m Q := by
  refine x_aload_n (pc2 := 89) dX5_fact_88 rfl rfl ?_
  refine x_getf (pc2 := 92) (v := aR (m 32 11)) fl_X5_26 ic_32 (fv_m _ ic_32 rfl) dX5_fact_89 rfl ?_
  refine x_iconst (pc2 := 93) dX5_fact_92 rfl ?_
  exact k
set_option maxRecDepth 4000 in
theorem g_X5_fact_96 {sc : List Int} {d : Nat} {m : Mem} {Q : Option AV → Mem → Prop} (k : S_X5_fact sc d 189 [aR 32, aU, aU] [] m Q) : S_X5_fact sc d 96 [aR 32, aU, aU] [] m Q := by
  refine x_goto (tgt := 189) dX5_fact_96 (by decide) ?_
  exact k
set_option maxRecDepth 4000 in
theorem g_X5_fact_104 {sc : List Int} {d : Nat} {m : Mem} {Q : Option AV → Mem → Prop} {l1 : Int} (k : ((-2147483648 ≤ (m 32 4) ∧ (m 32 4) < 2147483648)) ∧ (-2147483648 ≤ (m 32 4) ∧ (m 32 4) < 2147483648) ∧ (((m 32 4) = 60) → (S_X5_fact sc d 173 [aR 32, aI l1, aI (if (m 32 4) ≠ 60 then (if (m 32 4) ≠ 62 then (-21) else (-20) : Int) else (-19) : Int)] [aR 32] m Q)) ∧ (¬ ((m 32 4) = 60) → ((((m 32 4) = 62) → (S_X5_fact sc d 173 [aR 32, aI l1, aI (if (m 32 4) ≠ 60 then (if (m 32 4) ≠ 62 then (-21) else (-20) : Int) else (-19) : Int)] [aR 32] m Q)) ∧ (¬ ((m 32 4) = 62) → ((((m 32 4) = 61) → (S_X5_fact sc d 173 [aR 32, aI l1, aI (if (m 32 4) ≠ 60 then (if (m 32 4) ≠ 62 then (-21) else (-20) : Int) else (-19) : Int)] [aR 32] m Q)) ∧ (¬ ((m 32 4) = 61) → (S_X5_fact sc d 168 [aR 32, aU, aU] [aI (m 32 3), aI 1, aR 32] m Q))))))) : S_X5_fact sc d 104 [aR 32, aI l1, aU] [] m Q := by
  refine x_aload_n (pc2 := 105) dX5_fact_104 rfl rfl ?_
  refine x_getf (pc2 := 108) (v := aI (m 32 4)) fl_X5_41 ic_32 (fv_i _ ic_32 rfl) dX5_fact_105 rfl ?_
  refine x_bipush (pc2 := 110) dX5_fact_108 rfl rfl ?_
  obtain ⟨g2, k⟩ := k
  have kj : S_X5_fact sc d 134 [aR 32, aI l1, aU] [aI (if (m 32 4) ≠ 60 then (if (m 32 4) ≠ 62 then (-21) else (-20) : Int) else (-19) : Int)] m Q := by
    refine x_istore_n (pc2 := 135) (ls2 := [aR 32, aI l1, aI (if (m 32 4) ≠ 60 then (if (m 32 4) ≠ 62 then (-21) else (-20) : Int) else (-19) : Int)]) dX5_fact_134 rfl (by decide) rfl ?_
    refine x_aload_n (pc2 := 136) dX5_fact_135 rfl rfl ?_
    refine x_getf (pc2 := 139) (v := aI (m 32 4)) fl_X5_41 ic_32 (fv_i _ ic_32 rfl) dX5_fact_136 rfl ?_
    refine x_bipush (pc2 := 141) dX5_fact_139 rfl rfl ?_
    obtain ⟨h3, k⟩ := k
    obtain ⟨k1, k2⟩ := k
    refine x_icmp_eq (tgt := 172) (pc2 := 144) dX5_fact_141 (by decide) rfl h3 (by decide) (fun c4 => ?_) (fun c4 => ?_)
    · replace k := k1 c4
      refine x_aload_n (pc2 := 173) dX5_fact_172 rfl rfl ?_
      exact k
    · replace k := k2 c4
      refine x_aload_n (pc2 := 145) dX5_fact_144 rfl rfl ?_
      refine x_getf (pc2 := 148) (v := aI (m 32 4)) fl_X5_41 ic_32 (fv_i _ ic_32 rfl) dX5_fact_145 rfl ?_
      refine x_bipush (pc2 := 150) dX5_fact_148 rfl rfl ?_
      obtain ⟨k1, k2⟩ := k
      refine x_icmp_eq (tgt := 172) (pc2 := 153) dX5_fact_150 (by decide) rfl h3 (by decide) (fun c5 => ?_) (fun c5 => ?_)
      · replace k := k1 c5
        refine x_aload_n (pc2 := 173) dX5_fact_172 rfl rfl ?_
        exact k
      · replace k := k2 c5
        refine x_aload_n (pc2 := 154) dX5_fact_153 rfl rfl ?_
        refine x_getf (pc2 := 157) (v := aI (m 32 4)) fl_X5_41 ic_32 (fv_i _ ic_32 rfl) dX5_fact_154 rfl ?_
        refine x_bipush (pc2 := 159) dX5_fact_157 rfl rfl ?_
        obtain ⟨k1, k2⟩ := k
        refine x_icmp_eq (tgt := 172) (pc2 := 162) dX5_fact_159 (by decide) rfl h3 (by decide) (fun c6 => ?_) (fun c6 => ?_)
        · replace k := k1 c6
          refine x_aload_n (pc2 := 173) dX5_fact_172 rfl rfl ?_
          exact k
        · replace k := k2 c6
          refine x_aload_n (pc2 := 163) dX5_fact_162 rfl rfl ?_
          refine x_iconst (pc2 := 164) dX5_fact_163 rfl ?_
          refine x_aload_n (pc2 := 165) dX5_fact_164 rfl rfl ?_
          refine x_getf (pc2 := 168) (v := aI (m 32 3)) fl_X5_57 ic_32 (fv_i _ ic_32 rfl) dX5_fact_165 rfl ?_
          exact x_drop (drp_k (drp_u (drp_u drp_n))) k
  have h7 := g2 
  refine x_icmp_ne (tgt := 118) (pc2 := 113) dX5_fact_110 (by decide) rfl h7 (by decide) (fun c8 => ?_) (fun c8 => ?_)
  · skip
    refine x_aload_n (pc2 := 119) dX5_fact_118 rfl rfl ?_
    refine x_getf (pc2 := 122) (v := aI (m 32 4)) fl_X5_41 ic_32 (fv_i _ ic_32 rfl) dX5_fact_119 rfl ?_
    refine x_bipush (pc2 := 124) dX5_fact_122 rfl rfl ?_
    refine x_icmp_ne (tgt := 132) (pc2 := 127) dX5_fact_124 (by decide) rfl h7 (by decide) (fun c9 => ?_) (fun c9 => ?_)
    · skip
      refine x_bipush (pc2 := 134) dX5_fact_132 rfl rfl ?_
      exact x_topI ((if_pos c8).trans (if_pos c9)) kj
    · skip
      refine x_bipush (pc2 := 129) dX5_fact_127 rfl rfl ?_
      refine x_goto (tgt := 134) dX5_fact_129 (by decide) ?_
      exact x_topI ((if_pos c8).trans (if_neg c9)) kj
  · skip
    refine x_bipush (pc2 := 115) dX5_fact_113 rfl rfl ?_
    refine x_goto (tgt := 134) dX5_fact_115 (by decide) ?_
    exact x_topI (if_neg c8) kj
set_option maxRecDepth 4000 in
theorem g_X5_fact_171 {sc : List Int} {d : Nat} {m : Mem} {Q : Option AV → Mem → Prop} (k : Q none m) : S_X5_fact sc d 171 [aR 32, aU, aU] [] m Q := by
  exact x_return dX5_fact_171 rfl k
set_option maxRecDepth 4000 in
theorem g_X5_fact_176 {sc : List Int} {d : Nat} {m : Mem} {Q : Option AV → Mem → Prop} {l1 l2 : Int} (k : S_X5_fact sc d 178 [aR 32, aU, aI l2] [aI l1, aR 32] m Q) : S_X5_fact sc d 176 [aR 32, aI l1, aI l2] [] m Q := by
  refine x_aload_n (pc2 := 177) dX5_fact_176 rfl rfl ?_
  refine x_iload_n (pc2 := 178) dX5_fact_177 rfl rfl ?_
  exact x_drop (drp_k (drp_u (drp_k drp_n))) k
set_option maxRecDepth 4000 in
theorem g_X5_fact_181 {sc : List Int} {d : Nat} {m : Mem} {Q : Option AV → Mem → Prop} {l2 : Int} (k : S_X5_fact sc d 186 [aR 32, aU, aU] [aI l2, aR (m 32 11)] m Q) : S_X5_fact sc d 181 [aR 32, aU, aI l2] [] m Q := by
  refine x_aload_n (pc2 := 182) dX5_fact_181 rfl rfl ?_
  refine x_getf (pc2 := 185) (v := aR (m 32 11)) fl_X5_26 ic_32 (fv_m _ ic_32 rfl) dX5_fact_182 rfl ?_
  refine x_iload_n (pc2 := 186) dX5_fact_185 rfl rfl ?_
  exact x_drop (drp_k (drp_k (drp_u drp_n))) k
set_option maxRecDepth 4000 in
theorem g_X5_fact_189 {sc : List Int} {d : Nat} {m : Mem} {Q : Option AV → Mem → Prop} (k : Q none m) : S_X5_fact sc d 189 [aR 32, aU, aU] [] m Q := by
  exact x_return dX5_fact_189 rfl k
theorem c_X5_fact_3 {sc : List Int} {d d2 : Nat} {m m2 : Mem} {Q : Option AV → Mem → Prop} {l1 s1 : Int} {v : Int} (hM : C_X5_isWord sc d2 [aR 32, aI s1] m (some (aI v)) m2) (hd : d2 + 1 ≤ d) (k : S_X5_fact sc d 6 [aR 32, aI l1, aU] [aI v] m2 Q) : S_X5_fact sc d 3 [aR 32, aI l1, aU] [aI s1, aR 32] m Q := x_callV (as := [aI s1]) (rest := []) hM mk_X5_isWord mv_X5_isWord lk_X5_80 (Or.inl ⟨5, (RX5, TX5, 12), ic_32, Nat.le_of_ble_eq_true rfl, rfl, rfl⟩) hd rfl rfl (Nat.le_of_ble_eq_true rfl) dX5_fact_3 rfl k
theorem c_X5_fact_11 {sc : List Int} {d d2 : Nat} {m m2 : Mem} {Q : Option AV → Mem → Prop} {l1 s1 : Int} (hM : C_X5_enter sc d2 [aR 32, aI s1] m none m2) (hd : d2 + 1 ≤ d) (k : S_X5_fact sc d 14 [aR 32, aI l1, aU] [] m2 Q) : S_X5_fact sc d 11 [aR 32, aI l1, aU] [aI s1, aR 32] m Q := x_callV (as := [aI s1]) (rest := []) hM mk_X5_enter mv_X5_enter lk_X5_186 (Or.inl ⟨5, (RX5, TX5, 12), ic_32, Nat.le_of_ble_eq_true rfl, rfl, rfl⟩) hd rfl rfl (Nat.le_of_ble_eq_true rfl) dX5_fact_11 rfl k
theorem c_X5_fact_24 {sc : List Int} {d d2 : Nat} {m m2 : Mem} {Q : Option AV → Mem → Prop} {s1 : Int} (hM : C_X5_fact sc d2 [aR 32, aI s1] m none m2) (hd : d2 + 1 ≤ d) (k : S_X5_fact sc d 27 [aR 32, aU, aU] [] m2 Q) : S_X5_fact sc d 24 [aR 32, aU, aU] [aI s1, aR 32] m Q := x_callV (as := [aI s1]) (rest := []) hM mk_X5_fact mv_X5_fact lk_X5_183 (Or.inl ⟨5, (RX5, TX5, 12), ic_32, Nat.le_of_ble_eq_true rfl, rfl, rfl⟩) hd rfl rfl (Nat.le_of_ble_eq_true rfl) dX5_fact_24 rfl k
theorem c_X5_fact_33 {sc : List Int} {d d2 : Nat} {m m2 : Mem} {Q : Option AV → Mem → Prop} {s0 s1 : Int} (Hs0 : FormAt s0) (hM : C_X3_put sc d2 [aR s0, aI s1] m none m2) (hd : d2 + 1 ≤ d) (k : S_X5_fact sc d 36 [aR 32, aU, aU] [] m2 Q) : S_X5_fact sc d 33 [aR 32, aU, aU] [aI s1, aR s0] m Q := x_callV (as := [aI s1]) (rest := []) hM mk_X3_put mv_X3_put lk_X5_180 (Or.inl ⟨3, (RX3, TX3, 3), icf_0 Hs0, Nat.le_of_ble_eq_true rfl, rfl, rfl⟩) hd rfl rfl (Nat.le_of_ble_eq_true rfl) dX5_fact_33 rfl k
theorem c_X5_fact_50 {sc : List Int} {d d2 : Nat} {m m2 : Mem} {Q : Option AV → Mem → Prop} {l1 s1 : Int} (hM : C_X5_enter sc d2 [aR 32, aI s1] m none m2) (hd : d2 + 1 ≤ d) (k : S_X5_fact sc d 53 [aR 32, aI l1, aU] [] m2 Q) : S_X5_fact sc d 50 [aR 32, aI l1, aU] [aI s1, aR 32] m Q := x_callV (as := [aI s1]) (rest := []) hM mk_X5_enter mv_X5_enter lk_X5_186 (Or.inl ⟨5, (RX5, TX5, 12), ic_32, Nat.le_of_ble_eq_true rfl, rfl, rfl⟩) hd rfl rfl (Nat.le_of_ble_eq_true rfl) dX5_fact_50 rfl k
theorem c_X5_fact_63 {sc : List Int} {d d2 : Nat} {m m2 : Mem} {Q : Option AV → Mem → Prop} {s1 : Int} (hM : C_X5_test sc d2 [aR 32, aI s1] m none m2) (hd : d2 + 1 ≤ d) (k : S_X5_fact sc d 66 [aR 32, aU, aU] [] m2 Q) : S_X5_fact sc d 63 [aR 32, aU, aU] [aI s1, aR 32] m Q := x_callV (as := [aI s1]) (rest := []) hM mk_X5_test mv_X5_test lk_X5_162 (Or.inl ⟨5, (RX5, TX5, 12), ic_32, Nat.le_of_ble_eq_true rfl, rfl, rfl⟩) hd rfl rfl (Nat.le_of_ble_eq_true rfl) dX5_fact_63 rfl k
theorem c_X5_fact_69 {sc : List Int} {d d2 : Nat} {m m2 : Mem} {Q : Option AV → Mem → Prop} {s1 : Int} (hM : C_X5_expectSign sc d2 [aR 32, aI s1] m none m2) (hd : d2 + 1 ≤ d) (k : S_X5_fact sc d 72 [aR 32, aU, aU] [] m2 Q) : S_X5_fact sc d 69 [aR 32, aU, aU] [aI s1, aR 32] m Q := x_callV (as := [aI s1]) (rest := []) hM mk_X5_expectSign mv_X5_expectSign lk_X5_114 (Or.inl ⟨5, (RX5, TX5, 12), ic_32, Nat.le_of_ble_eq_true rfl, rfl, rfl⟩) hd rfl rfl (Nat.le_of_ble_eq_true rfl) dX5_fact_69 rfl k
theorem c_X5_fact_78 {sc : List Int} {d d2 : Nat} {m m2 : Mem} {Q : Option AV → Mem → Prop} {l1 s1 : Int} {v : Int} (hM : C_X5_isWord sc d2 [aR 32, aI s1] m (some (aI v)) m2) (hd : d2 + 1 ≤ d) (k : S_X5_fact sc d 81 [aR 32, aI l1, aU] [aI v] m2 Q) : S_X5_fact sc d 78 [aR 32, aI l1, aU] [aI s1, aR 32] m Q := x_callV (as := [aI s1]) (rest := []) hM mk_X5_isWord mv_X5_isWord lk_X5_80 (Or.inl ⟨5, (RX5, TX5, 12), ic_32, Nat.le_of_ble_eq_true rfl, rfl, rfl⟩) hd rfl rfl (Nat.le_of_ble_eq_true rfl) dX5_fact_78 rfl k
theorem c_X5_fact_85 {sc : List Int} {d d2 : Nat} {m m2 : Mem} {Q : Option AV → Mem → Prop} (hM : C_X5_advance sc d2 [aR 32] m none m2) (hd : d2 + 1 ≤ d) (k : S_X5_fact sc d 88 [aR 32, aU, aU] [] m2 Q) : S_X5_fact sc d 85 [aR 32, aU, aU] [aR 32] m Q := x_callV (as := []) (rest := []) hM mk_X5_advance mv_X5_advance lk_X5_54 (Or.inl ⟨5, (RX5, TX5, 12), ic_32, Nat.le_of_ble_eq_true rfl, rfl, rfl⟩) hd rfl rfl (Nat.le_of_ble_eq_true rfl) dX5_fact_85 rfl k
theorem c_X5_fact_93 {sc : List Int} {d d2 : Nat} {m m2 : Mem} {Q : Option AV → Mem → Prop} {s0 s1 : Int} (Hs0 : FormAt s0) (hM : C_X3_put sc d2 [aR s0, aI s1] m none m2) (hd : d2 + 1 ≤ d) (k : S_X5_fact sc d 96 [aR 32, aU, aU] [] m2 Q) : S_X5_fact sc d 93 [aR 32, aU, aU] [aI s1, aR s0] m Q := x_callV (as := [aI s1]) (rest := []) hM mk_X3_put mv_X3_put lk_X5_180 (Or.inl ⟨3, (RX3, TX3, 3), icf_0 Hs0, Nat.le_of_ble_eq_true rfl, rfl, rfl⟩) hd rfl rfl (Nat.le_of_ble_eq_true rfl) dX5_fact_93 rfl k
theorem c_X5_fact_101 {sc : List Int} {d d2 : Nat} {m m2 : Mem} {Q : Option AV → Mem → Prop} {l1 s1 : Int} (hM : C_X5_sum sc d2 [aR 32, aI s1] m none m2) (hd : d2 + 1 ≤ d) (k : S_X5_fact sc d 104 [aR 32, aI l1, aU] [] m2 Q) : S_X5_fact sc d 101 [aR 32, aI l1, aU] [aI s1, aR 32] m Q := x_callV (as := [aI s1]) (rest := []) hM mk_X5_sum mv_X5_sum lk_X5_174 (Or.inl ⟨5, (RX5, TX5, 12), ic_32, Nat.le_of_ble_eq_true rfl, rfl, rfl⟩) hd rfl rfl (Nat.le_of_ble_eq_true rfl) dX5_fact_101 rfl k
theorem c_X5_fact_168 {sc : List Int} {d d2 : Nat} {m m2 : Mem} {Q : Option AV → Mem → Prop} {s1 s2 : Int} (hM : C_X5_fail sc d2 [aR 32, aI s1, aI s2] m none m2) (hd : d2 + 1 ≤ d) (k : S_X5_fact sc d 171 [aR 32, aU, aU] [] m2 Q) : S_X5_fact sc d 168 [aR 32, aU, aU] [aI s2, aI s1, aR 32] m Q := x_callV (as := [aI s1, aI s2]) (rest := []) hM mk_X5_fail mv_X5_fail lk_X5_84 (Or.inl ⟨5, (RX5, TX5, 12), ic_32, Nat.le_of_ble_eq_true rfl, rfl, rfl⟩) hd rfl rfl (Nat.le_of_ble_eq_true rfl) dX5_fact_168 rfl k
theorem c_X5_fact_173 {sc : List Int} {d d2 : Nat} {m m2 : Mem} {Q : Option AV → Mem → Prop} {l1 l2 : Int} (hM : C_X5_advance sc d2 [aR 32] m none m2) (hd : d2 + 1 ≤ d) (k : S_X5_fact sc d 176 [aR 32, aI l1, aI l2] [] m2 Q) : S_X5_fact sc d 173 [aR 32, aI l1, aI l2] [aR 32] m Q := x_callV (as := []) (rest := []) hM mk_X5_advance mv_X5_advance lk_X5_54 (Or.inl ⟨5, (RX5, TX5, 12), ic_32, Nat.le_of_ble_eq_true rfl, rfl, rfl⟩) hd rfl rfl (Nat.le_of_ble_eq_true rfl) dX5_fact_173 rfl k
theorem c_X5_fact_178 {sc : List Int} {d d2 : Nat} {m m2 : Mem} {Q : Option AV → Mem → Prop} {l2 s1 : Int} (hM : C_X5_sum sc d2 [aR 32, aI s1] m none m2) (hd : d2 + 1 ≤ d) (k : S_X5_fact sc d 181 [aR 32, aU, aI l2] [] m2 Q) : S_X5_fact sc d 178 [aR 32, aU, aI l2] [aI s1, aR 32] m Q := x_callV (as := [aI s1]) (rest := []) hM mk_X5_sum mv_X5_sum lk_X5_174 (Or.inl ⟨5, (RX5, TX5, 12), ic_32, Nat.le_of_ble_eq_true rfl, rfl, rfl⟩) hd rfl rfl (Nat.le_of_ble_eq_true rfl) dX5_fact_178 rfl k
theorem c_X5_fact_186 {sc : List Int} {d d2 : Nat} {m m2 : Mem} {Q : Option AV → Mem → Prop} {s0 s1 : Int} (Hs0 : FormAt s0) (hM : C_X3_put sc d2 [aR s0, aI s1] m none m2) (hd : d2 + 1 ≤ d) (k : S_X5_fact sc d 189 [aR 32, aU, aU] [] m2 Q) : S_X5_fact sc d 186 [aR 32, aU, aU] [aI s1, aR s0] m Q := x_callV (as := [aI s1]) (rest := []) hM mk_X3_put mv_X3_put lk_X5_180 (Or.inl ⟨3, (RX3, TX3, 3), icf_0 Hs0, Nat.le_of_ble_eq_true rfl, rfl, rfl⟩) hd rfl rfl (Nat.le_of_ble_eq_true rfl) dX5_fact_186 rfl k
set_option maxRecDepth 4000 in
theorem g_X5_enter_0 {sc : List Int} {d : Nat} {m : Mem} {Q : Option AV → Mem → Prop} {l1 : Int} (k : (-2147483648 ≤ l1 ∧ l1 < 2147483648) ∧ ((6 ≤ l1) → (S_X5_enter sc d 19 [aR 32, aU] [aI (m 32 3), aI 4, aR 32] m Q)) ∧ (¬ (6 ≤ l1) → (S_X5_enter sc d 7 [aR 32, aU] [aR 32] m Q))) : S_X5_enter sc d 0 [aR 32, aI l1] [] m Q := by
  refine x_iload_n (pc2 := 1) dX5_enter_0 rfl rfl ?_
  refine x_bipush (pc2 := 3) dX5_enter_1 rfl rfl ?_
  obtain ⟨h1, k⟩ := k
  obtain ⟨k1, k2⟩ := k
  refine x_icmp_ge (tgt := 13) (pc2 := 6) dX5_enter_3 (by decide) rfl h1 (by decide) (fun c2 => ?_) (fun c2 => ?_)
  · replace k := k1 c2
    refine x_aload_n (pc2 := 14) dX5_enter_13 rfl rfl ?_
    refine x_iconst (pc2 := 15) dX5_enter_14 rfl ?_
    refine x_aload_n (pc2 := 16) dX5_enter_15 rfl rfl ?_
    refine x_getf (pc2 := 19) (v := aI (m 32 3)) fl_X5_57 ic_32 (fv_i _ ic_32 rfl) dX5_enter_16 rfl ?_
    exact x_drop (drp_k (drp_u drp_n)) k
  · replace k := k2 c2
    refine x_aload_n (pc2 := 7) dX5_enter_6 rfl rfl ?_
    exact x_drop (drp_k (drp_u drp_n)) k
set_option maxRecDepth 4000 in
theorem g_X5_enter_10 {sc : List Int} {d : Nat} {m : Mem} {Q : Option AV → Mem → Prop} (k : S_X5_enter sc d 22 [aR 32, aU] [] m Q) : S_X5_enter sc d 10 [aR 32, aU] [] m Q := by
  refine x_goto (tgt := 22) dX5_enter_10 (by decide) ?_
  exact k
set_option maxRecDepth 4000 in
theorem g_X5_enter_22 {sc : List Int} {d : Nat} {m : Mem} {Q : Option AV → Mem → Prop} (k : Q none m) : S_X5_enter sc d 22 [aR 32, aU] [] m Q := by
  exact x_return dX5_enter_22 rfl k
theorem c_X5_enter_7 {sc : List Int} {d d2 : Nat} {m m2 : Mem} {Q : Option AV → Mem → Prop} (hM : C_X5_advance sc d2 [aR 32] m none m2) (hd : d2 + 1 ≤ d) (k : S_X5_enter sc d 10 [aR 32, aU] [] m2 Q) : S_X5_enter sc d 7 [aR 32, aU] [aR 32] m Q := x_callV (as := []) (rest := []) hM mk_X5_advance mv_X5_advance lk_X5_54 (Or.inl ⟨5, (RX5, TX5, 12), ic_32, Nat.le_of_ble_eq_true rfl, rfl, rfl⟩) hd rfl rfl (Nat.le_of_ble_eq_true rfl) dX5_enter_7 rfl k
theorem c_X5_enter_19 {sc : List Int} {d d2 : Nat} {m m2 : Mem} {Q : Option AV → Mem → Prop} {s1 s2 : Int} (hM : C_X5_fail sc d2 [aR 32, aI s1, aI s2] m none m2) (hd : d2 + 1 ≤ d) (k : S_X5_enter sc d 22 [aR 32, aU] [] m2 Q) : S_X5_enter sc d 19 [aR 32, aU] [aI s2, aI s1, aR 32] m Q := x_callV (as := [aI s1, aI s2]) (rest := []) hM mk_X5_fail mv_X5_fail lk_X5_84 (Or.inl ⟨5, (RX5, TX5, 12), ic_32, Nat.le_of_ble_eq_true rfl, rfl, rfl⟩) hd rfl rfl (Nat.le_of_ble_eq_true rfl) dX5_enter_19 rfl k
set_option maxRecDepth 4000 in
theorem g_X5_sum_0 {sc : List Int} {d : Nat} {m : Mem} {Q : Option AV → Mem → Prop} {l1 : Int} (k : S_X5_sum sc d 2 [aR 32, aI l1, aU, aU] [aI l1, aR 32] m Q) : S_X5_sum sc d 0 [aR 32, aI l1, aU, aU] [] m Q := by
  refine x_aload_n (pc2 := 1) dX5_sum_0 rfl rfl ?_
  refine x_iload_n (pc2 := 2) dX5_sum_1 rfl rfl ?_
  exact k
set_option maxRecDepth 4000 in
theorem g_X5_sum_5 {sc : List Int} {d : Nat} {m : Mem} {Q : Option AV → Mem → Prop} {l1 : Int} (k : S_X5_sum sc d 7 [aR 32, aI l1, aI 0, aU] [] m Q) : S_X5_sum sc d 5 [aR 32, aI l1, aU, aU] [] m Q := by
  refine x_iconst (pc2 := 6) dX5_sum_5 rfl ?_
  refine x_istore_n (pc2 := 7) (ls2 := [aR 32, aI l1, aI 0, aU]) dX5_sum_6 rfl (by decide) rfl ?_
  exact k
set_option maxRecDepth 4000 in
theorem g_X5_sum_7 {sc : List Int} {d : Nat} {m : Mem} {Q : Option AV → Mem → Prop} {l1 l2 : Int} (k : (-2147483648 ≤ l2 ∧ l2 < 2147483648) ∧ ((1600 ≤ l2) → (Q none m)) ∧ (¬ (1600 ≤ l2) → ((-2147483648 ≤ (m 32 4) ∧ (m 32 4) < 2147483648) ∧ (((m 32 4) = 43) → (S_X5_sum sc d 50 [aR 32, aI l1, aI l2, aI (if (m 32 4) ≠ 43 then (-14) else (-13) : Int)] [aR 32] m Q)) ∧ (¬ ((m 32 4) = 43) → ((((m 32 4) ≠ 45) → (Q none m)) ∧ (¬ ((m 32 4) ≠ 45) → (S_X5_sum sc d 50 [aR 32, aI l1, aI l2, aI (if (m 32 4) ≠ 43 then (-14) else (-13) : Int)] [aR 32] m Q))))))) : S_X5_sum sc d 7 [aR 32, aI l1, aI l2, aU] [] m Q := by
  refine x_iload_n (pc2 := 8) dX5_sum_7 rfl rfl ?_
  refine x_sipush (pc2 := 11) dX5_sum_8 rfl rfl ?_
  obtain ⟨h1, k⟩ := k
  obtain ⟨k1, k2⟩ := k
  refine x_icmp_ge (tgt := 72) (pc2 := 14) dX5_sum_11 (by decide) rfl h1 (by decide) (fun c2 => ?_) (fun c2 => ?_)
  · replace k := k1 c2
    exact x_return dX5_sum_72 rfl k
  · replace k := k2 c2
    refine x_aload_n (pc2 := 15) dX5_sum_14 rfl rfl ?_
    refine x_getf (pc2 := 18) (v := aI (m 32 4)) fl_X5_41 ic_32 (fv_i _ ic_32 rfl) dX5_sum_15 rfl ?_
    refine x_bipush (pc2 := 20) dX5_sum_18 rfl rfl ?_
    obtain ⟨h3, k⟩ := k
    obtain ⟨k1, k2⟩ := k
    refine x_icmp_eq (tgt := 32) (pc2 := 23) dX5_sum_20 (by decide) rfl h3 (by decide) (fun c4 => ?_) (fun c4 => ?_)
    · replace k := k1 c4
      refine x_aload_n (pc2 := 33) dX5_sum_32 rfl rfl ?_
      refine x_getf (pc2 := 36) (v := aI (m 32 4)) fl_X5_41 ic_32 (fv_i _ ic_32 rfl) dX5_sum_33 rfl ?_
      refine x_bipush (pc2 := 38) dX5_sum_36 rfl rfl ?_
      have kj : S_X5_sum sc d 48 [aR 32, aI l1, aI l2, aU] [aI (if (m 32 4) ≠ 43 then (-14) else (-13) : Int)] m Q := by
        refine x_istore_n (pc2 := 49) (ls2 := [aR 32, aI l1, aI l2, aI (if (m 32 4) ≠ 43 then (-14) else (-13) : Int)]) dX5_sum_48 rfl (by decide) rfl ?_
        refine x_aload_n (pc2 := 50) dX5_sum_49 rfl rfl ?_
        exact k
      refine x_icmp_ne (tgt := 46) (pc2 := 41) dX5_sum_38 (by decide) rfl h3 (by decide) (fun c5 => ?_) (fun c5 => ?_)
      · skip
        refine x_bipush (pc2 := 48) dX5_sum_46 rfl rfl ?_
        exact x_topI (if_pos c5) kj
      · skip
        refine x_bipush (pc2 := 43) dX5_sum_41 rfl rfl ?_
        refine x_goto (tgt := 48) dX5_sum_43 (by decide) ?_
        exact x_topI (if_neg c5) kj
    · replace k := k2 c4
      refine x_aload_n (pc2 := 24) dX5_sum_23 rfl rfl ?_
      refine x_getf (pc2 := 27) (v := aI (m 32 4)) fl_X5_41 ic_32 (fv_i _ ic_32 rfl) dX5_sum_24 rfl ?_
      refine x_bipush (pc2 := 29) dX5_sum_27 rfl rfl ?_
      obtain ⟨k1, k2⟩ := k
      refine x_icmp_ne (tgt := 72) (pc2 := 32) dX5_sum_29 (by decide) rfl h3 (by decide) (fun c6 => ?_) (fun c6 => ?_)
      · replace k := k1 c6
        exact x_return dX5_sum_72 rfl k
      · replace k := k2 c6
        refine x_aload_n (pc2 := 33) dX5_sum_32 rfl rfl ?_
        refine x_getf (pc2 := 36) (v := aI (m 32 4)) fl_X5_41 ic_32 (fv_i _ ic_32 rfl) dX5_sum_33 rfl ?_
        refine x_bipush (pc2 := 38) dX5_sum_36 rfl rfl ?_
        have kj : S_X5_sum sc d 48 [aR 32, aI l1, aI l2, aU] [aI (if (m 32 4) ≠ 43 then (-14) else (-13) : Int)] m Q := by
          refine x_istore_n (pc2 := 49) (ls2 := [aR 32, aI l1, aI l2, aI (if (m 32 4) ≠ 43 then (-14) else (-13) : Int)]) dX5_sum_48 rfl (by decide) rfl ?_
          refine x_aload_n (pc2 := 50) dX5_sum_49 rfl rfl ?_
          exact k
        refine x_icmp_ne (tgt := 46) (pc2 := 41) dX5_sum_38 (by decide) rfl h3 (by decide) (fun c7 => ?_) (fun c7 => ?_)
        · skip
          refine x_bipush (pc2 := 48) dX5_sum_46 rfl rfl ?_
          exact x_topI (if_pos c7) kj
        · skip
          refine x_bipush (pc2 := 43) dX5_sum_41 rfl rfl ?_
          refine x_goto (tgt := 48) dX5_sum_43 (by decide) ?_
          exact x_topI (if_neg c7) kj
set_option maxRecDepth 4000 in
theorem g_X5_sum_53 {sc : List Int} {d : Nat} {m : Mem} {Q : Option AV → Mem → Prop} {l1 l2 l3 : Int} (k : S_X5_sum sc d 55 [aR 32, aI l1, aI l2, aI l3] [aI l1, aR 32] m Q) : S_X5_sum sc d 53 [aR 32, aI l1, aI l2, aI l3] [] m Q := by
  refine x_aload_n (pc2 := 54) dX5_sum_53 rfl rfl ?_
  refine x_iload_n (pc2 := 55) dX5_sum_54 rfl rfl ?_
  exact k
set_option maxRecDepth 4000 in
theorem g_X5_sum_58 {sc : List Int} {d : Nat} {m : Mem} {Q : Option AV → Mem → Prop} {l1 l2 l3 : Int} (k : S_X5_sum sc d 63 [aR 32, aI l1, aI l2, aU] [aI l3, aR (m 32 11)] m Q) : S_X5_sum sc d 58 [aR 32, aI l1, aI l2, aI l3] [] m Q := by
  refine x_aload_n (pc2 := 59) dX5_sum_58 rfl rfl ?_
  refine x_getf (pc2 := 62) (v := aR (m 32 11)) fl_X5_26 ic_32 (fv_m _ ic_32 rfl) dX5_sum_59 rfl ?_
  refine x_iload_n (pc2 := 63) dX5_sum_62 rfl rfl ?_
  exact x_drop (drp_k (drp_k (drp_k (drp_u drp_n)))) k
set_option maxRecDepth 4000 in
theorem g_X5_sum_66 {sc : List Int} {d : Nat} {m : Mem} {Q : Option AV → Mem → Prop} {l1 l2 : Int} (k : S_X5_sum sc d 7 [aR 32, aI l1, aI (l2 + 1), aU] [] m Q) : S_X5_sum sc d 66 [aR 32, aI l1, aI l2, aU] [] m Q := by
  refine x_iinc (pc2 := 69) (ls2 := [aR 32, aI l1, aI (l2 + 1), aU]) dX5_sum_66 rfl rfl (by decide) rfl ?_
  refine x_goto (tgt := 7) dX5_sum_69 (by decide) ?_
  exact k
theorem c_X5_sum_2 {sc : List Int} {d d2 : Nat} {m m2 : Mem} {Q : Option AV → Mem → Prop} {l1 s1 : Int} (hM : C_X5_product sc d2 [aR 32, aI s1] m none m2) (hd : d2 + 1 ≤ d) (k : S_X5_sum sc d 5 [aR 32, aI l1, aU, aU] [] m2 Q) : S_X5_sum sc d 2 [aR 32, aI l1, aU, aU] [aI s1, aR 32] m Q := x_callV (as := [aI s1]) (rest := []) hM mk_X5_product mv_X5_product lk_X5_189 (Or.inl ⟨5, (RX5, TX5, 12), ic_32, Nat.le_of_ble_eq_true rfl, rfl, rfl⟩) hd rfl rfl (Nat.le_of_ble_eq_true rfl) dX5_sum_2 rfl k
theorem c_X5_sum_50 {sc : List Int} {d d2 : Nat} {m m2 : Mem} {Q : Option AV → Mem → Prop} {l1 l2 l3 : Int} (hM : C_X5_advance sc d2 [aR 32] m none m2) (hd : d2 + 1 ≤ d) (k : S_X5_sum sc d 53 [aR 32, aI l1, aI l2, aI l3] [] m2 Q) : S_X5_sum sc d 50 [aR 32, aI l1, aI l2, aI l3] [aR 32] m Q := x_callV (as := []) (rest := []) hM mk_X5_advance mv_X5_advance lk_X5_54 (Or.inl ⟨5, (RX5, TX5, 12), ic_32, Nat.le_of_ble_eq_true rfl, rfl, rfl⟩) hd rfl rfl (Nat.le_of_ble_eq_true rfl) dX5_sum_50 rfl k
theorem c_X5_sum_55 {sc : List Int} {d d2 : Nat} {m m2 : Mem} {Q : Option AV → Mem → Prop} {l1 l2 l3 s1 : Int} (hM : C_X5_product sc d2 [aR 32, aI s1] m none m2) (hd : d2 + 1 ≤ d) (k : S_X5_sum sc d 58 [aR 32, aI l1, aI l2, aI l3] [] m2 Q) : S_X5_sum sc d 55 [aR 32, aI l1, aI l2, aI l3] [aI s1, aR 32] m Q := x_callV (as := [aI s1]) (rest := []) hM mk_X5_product mv_X5_product lk_X5_189 (Or.inl ⟨5, (RX5, TX5, 12), ic_32, Nat.le_of_ble_eq_true rfl, rfl, rfl⟩) hd rfl rfl (Nat.le_of_ble_eq_true rfl) dX5_sum_55 rfl k
theorem c_X5_sum_63 {sc : List Int} {d d2 : Nat} {m m2 : Mem} {Q : Option AV → Mem → Prop} {l1 l2 s0 s1 : Int} (Hs0 : FormAt s0) (hM : C_X3_put sc d2 [aR s0, aI s1] m none m2) (hd : d2 + 1 ≤ d) (k : S_X5_sum sc d 66 [aR 32, aI l1, aI l2, aU] [] m2 Q) : S_X5_sum sc d 63 [aR 32, aI l1, aI l2, aU] [aI s1, aR s0] m Q := x_callV (as := [aI s1]) (rest := []) hM mk_X3_put mv_X3_put lk_X5_180 (Or.inl ⟨3, (RX3, TX3, 3), icf_0 Hs0, Nat.le_of_ble_eq_true rfl, rfl, rfl⟩) hd rfl rfl (Nat.le_of_ble_eq_true rfl) dX5_sum_63 rfl k
set_option maxRecDepth 4000 in
theorem g_X5_product_0 {sc : List Int} {d : Nat} {m : Mem} {Q : Option AV → Mem → Prop} {l1 : Int} (k : S_X5_product sc d 2 [aR 32, aI l1, aU, aU] [aI l1, aR 32] m Q) : S_X5_product sc d 0 [aR 32, aI l1, aU, aU] [] m Q := by
  refine x_aload_n (pc2 := 1) dX5_product_0 rfl rfl ?_
  refine x_iload_n (pc2 := 2) dX5_product_1 rfl rfl ?_
  exact k
set_option maxRecDepth 4000 in
theorem g_X5_product_5 {sc : List Int} {d : Nat} {m : Mem} {Q : Option AV → Mem → Prop} {l1 : Int} (k : S_X5_product sc d 7 [aR 32, aI l1, aI 0, aU] [] m Q) : S_X5_product sc d 5 [aR 32, aI l1, aU, aU] [] m Q := by
  refine x_iconst (pc2 := 6) dX5_product_5 rfl ?_
  refine x_istore_n (pc2 := 7) (ls2 := [aR 32, aI l1, aI 0, aU]) dX5_product_6 rfl (by decide) rfl ?_
  exact k
set_option maxRecDepth 4000 in
theorem g_X5_product_7 {sc : List Int} {d : Nat} {m : Mem} {Q : Option AV → Mem → Prop} {l1 l2 : Int} (k : (-2147483648 ≤ l2 ∧ l2 < 2147483648) ∧ ((1600 ≤ l2) → (Q none m)) ∧ (¬ (1600 ≤ l2) → ((-2147483648 ≤ (m 32 4) ∧ (m 32 4) < 2147483648) ∧ (((m 32 4) = 42) → (S_X5_product sc d 50 [aR 32, aI l1, aI l2, aI (if (m 32 4) ≠ 42 then (-16) else (-15) : Int)] [aR 32] m Q)) ∧ (¬ ((m 32 4) = 42) → ((((m 32 4) ≠ 47) → (Q none m)) ∧ (¬ ((m 32 4) ≠ 47) → (S_X5_product sc d 50 [aR 32, aI l1, aI l2, aI (if (m 32 4) ≠ 42 then (-16) else (-15) : Int)] [aR 32] m Q))))))) : S_X5_product sc d 7 [aR 32, aI l1, aI l2, aU] [] m Q := by
  refine x_iload_n (pc2 := 8) dX5_product_7 rfl rfl ?_
  refine x_sipush (pc2 := 11) dX5_product_8 rfl rfl ?_
  obtain ⟨h1, k⟩ := k
  obtain ⟨k1, k2⟩ := k
  refine x_icmp_ge (tgt := 72) (pc2 := 14) dX5_product_11 (by decide) rfl h1 (by decide) (fun c2 => ?_) (fun c2 => ?_)
  · replace k := k1 c2
    exact x_return dX5_product_72 rfl k
  · replace k := k2 c2
    refine x_aload_n (pc2 := 15) dX5_product_14 rfl rfl ?_
    refine x_getf (pc2 := 18) (v := aI (m 32 4)) fl_X5_41 ic_32 (fv_i _ ic_32 rfl) dX5_product_15 rfl ?_
    refine x_bipush (pc2 := 20) dX5_product_18 rfl rfl ?_
    obtain ⟨h3, k⟩ := k
    obtain ⟨k1, k2⟩ := k
    refine x_icmp_eq (tgt := 32) (pc2 := 23) dX5_product_20 (by decide) rfl h3 (by decide) (fun c4 => ?_) (fun c4 => ?_)
    · replace k := k1 c4
      refine x_aload_n (pc2 := 33) dX5_product_32 rfl rfl ?_
      refine x_getf (pc2 := 36) (v := aI (m 32 4)) fl_X5_41 ic_32 (fv_i _ ic_32 rfl) dX5_product_33 rfl ?_
      refine x_bipush (pc2 := 38) dX5_product_36 rfl rfl ?_
      have kj : S_X5_product sc d 48 [aR 32, aI l1, aI l2, aU] [aI (if (m 32 4) ≠ 42 then (-16) else (-15) : Int)] m Q := by
        refine x_istore_n (pc2 := 49) (ls2 := [aR 32, aI l1, aI l2, aI (if (m 32 4) ≠ 42 then (-16) else (-15) : Int)]) dX5_product_48 rfl (by decide) rfl ?_
        refine x_aload_n (pc2 := 50) dX5_product_49 rfl rfl ?_
        exact k
      refine x_icmp_ne (tgt := 46) (pc2 := 41) dX5_product_38 (by decide) rfl h3 (by decide) (fun c5 => ?_) (fun c5 => ?_)
      · skip
        refine x_bipush (pc2 := 48) dX5_product_46 rfl rfl ?_
        exact x_topI (if_pos c5) kj
      · skip
        refine x_bipush (pc2 := 43) dX5_product_41 rfl rfl ?_
        refine x_goto (tgt := 48) dX5_product_43 (by decide) ?_
        exact x_topI (if_neg c5) kj
    · replace k := k2 c4
      refine x_aload_n (pc2 := 24) dX5_product_23 rfl rfl ?_
      refine x_getf (pc2 := 27) (v := aI (m 32 4)) fl_X5_41 ic_32 (fv_i _ ic_32 rfl) dX5_product_24 rfl ?_
      refine x_bipush (pc2 := 29) dX5_product_27 rfl rfl ?_
      obtain ⟨k1, k2⟩ := k
      refine x_icmp_ne (tgt := 72) (pc2 := 32) dX5_product_29 (by decide) rfl h3 (by decide) (fun c6 => ?_) (fun c6 => ?_)
      · replace k := k1 c6
        exact x_return dX5_product_72 rfl k
      · replace k := k2 c6
        refine x_aload_n (pc2 := 33) dX5_product_32 rfl rfl ?_
        refine x_getf (pc2 := 36) (v := aI (m 32 4)) fl_X5_41 ic_32 (fv_i _ ic_32 rfl) dX5_product_33 rfl ?_
        refine x_bipush (pc2 := 38) dX5_product_36 rfl rfl ?_
        have kj : S_X5_product sc d 48 [aR 32, aI l1, aI l2, aU] [aI (if (m 32 4) ≠ 42 then (-16) else (-15) : Int)] m Q := by
          refine x_istore_n (pc2 := 49) (ls2 := [aR 32, aI l1, aI l2, aI (if (m 32 4) ≠ 42 then (-16) else (-15) : Int)]) dX5_product_48 rfl (by decide) rfl ?_
          refine x_aload_n (pc2 := 50) dX5_product_49 rfl rfl ?_
          exact k
        refine x_icmp_ne (tgt := 46) (pc2 := 41) dX5_product_38 (by decide) rfl h3 (by decide) (fun c7 => ?_) (fun c7 => ?_)
        · skip
          refine x_bipush (pc2 := 48) dX5_product_46 rfl rfl ?_
          exact x_topI (if_pos c7) kj
        · skip
          refine x_bipush (pc2 := 43) dX5_product_41 rfl rfl ?_
          refine x_goto (tgt := 48) dX5_product_43 (by decide) ?_
          exact x_topI (if_neg c7) kj
set_option maxRecDepth 4000 in
theorem g_X5_product_53 {sc : List Int} {d : Nat} {m : Mem} {Q : Option AV → Mem → Prop} {l1 l2 l3 : Int} (k : S_X5_product sc d 55 [aR 32, aI l1, aI l2, aI l3] [aI l1, aR 32] m Q) : S_X5_product sc d 53 [aR 32, aI l1, aI l2, aI l3] [] m Q := by
  refine x_aload_n (pc2 := 54) dX5_product_53 rfl rfl ?_
  refine x_iload_n (pc2 := 55) dX5_product_54 rfl rfl ?_
  exact k
set_option maxRecDepth 4000 in
theorem g_X5_product_58 {sc : List Int} {d : Nat} {m : Mem} {Q : Option AV → Mem → Prop} {l1 l2 l3 : Int} (k : S_X5_product sc d 63 [aR 32, aI l1, aI l2, aU] [aI l3, aR (m 32 11)] m Q) : S_X5_product sc d 58 [aR 32, aI l1, aI l2, aI l3] [] m Q := by
  refine x_aload_n (pc2 := 59) dX5_product_58 rfl rfl ?_
  refine x_getf (pc2 := 62) (v := aR (m 32 11)) fl_X5_26 ic_32 (fv_m _ ic_32 rfl) dX5_product_59 rfl ?_
  refine x_iload_n (pc2 := 63) dX5_product_62 rfl rfl ?_
  exact x_drop (drp_k (drp_k (drp_k (drp_u drp_n)))) k
set_option maxRecDepth 4000 in
theorem g_X5_product_66 {sc : List Int} {d : Nat} {m : Mem} {Q : Option AV → Mem → Prop} {l1 l2 : Int} (k : S_X5_product sc d 7 [aR 32, aI l1, aI (l2 + 1), aU] [] m Q) : S_X5_product sc d 66 [aR 32, aI l1, aI l2, aU] [] m Q := by
  refine x_iinc (pc2 := 69) (ls2 := [aR 32, aI l1, aI (l2 + 1), aU]) dX5_product_66 rfl rfl (by decide) rfl ?_
  refine x_goto (tgt := 7) dX5_product_69 (by decide) ?_
  exact k
theorem c_X5_product_2 {sc : List Int} {d d2 : Nat} {m m2 : Mem} {Q : Option AV → Mem → Prop} {l1 s1 : Int} (hM : C_X5_part sc d2 [aR 32, aI s1] m none m2) (hd : d2 + 1 ≤ d) (k : S_X5_product sc d 5 [aR 32, aI l1, aU, aU] [] m2 Q) : S_X5_product sc d 2 [aR 32, aI l1, aU, aU] [aI s1, aR 32] m Q := x_callV (as := [aI s1]) (rest := []) hM mk_X5_part mv_X5_part lk_X5_192 (Or.inl ⟨5, (RX5, TX5, 12), ic_32, Nat.le_of_ble_eq_true rfl, rfl, rfl⟩) hd rfl rfl (Nat.le_of_ble_eq_true rfl) dX5_product_2 rfl k
theorem c_X5_product_50 {sc : List Int} {d d2 : Nat} {m m2 : Mem} {Q : Option AV → Mem → Prop} {l1 l2 l3 : Int} (hM : C_X5_advance sc d2 [aR 32] m none m2) (hd : d2 + 1 ≤ d) (k : S_X5_product sc d 53 [aR 32, aI l1, aI l2, aI l3] [] m2 Q) : S_X5_product sc d 50 [aR 32, aI l1, aI l2, aI l3] [aR 32] m Q := x_callV (as := []) (rest := []) hM mk_X5_advance mv_X5_advance lk_X5_54 (Or.inl ⟨5, (RX5, TX5, 12), ic_32, Nat.le_of_ble_eq_true rfl, rfl, rfl⟩) hd rfl rfl (Nat.le_of_ble_eq_true rfl) dX5_product_50 rfl k
theorem c_X5_product_55 {sc : List Int} {d d2 : Nat} {m m2 : Mem} {Q : Option AV → Mem → Prop} {l1 l2 l3 s1 : Int} (hM : C_X5_part sc d2 [aR 32, aI s1] m none m2) (hd : d2 + 1 ≤ d) (k : S_X5_product sc d 58 [aR 32, aI l1, aI l2, aI l3] [] m2 Q) : S_X5_product sc d 55 [aR 32, aI l1, aI l2, aI l3] [aI s1, aR 32] m Q := x_callV (as := [aI s1]) (rest := []) hM mk_X5_part mv_X5_part lk_X5_192 (Or.inl ⟨5, (RX5, TX5, 12), ic_32, Nat.le_of_ble_eq_true rfl, rfl, rfl⟩) hd rfl rfl (Nat.le_of_ble_eq_true rfl) dX5_product_55 rfl k
theorem c_X5_product_63 {sc : List Int} {d d2 : Nat} {m m2 : Mem} {Q : Option AV → Mem → Prop} {l1 l2 s0 s1 : Int} (Hs0 : FormAt s0) (hM : C_X3_put sc d2 [aR s0, aI s1] m none m2) (hd : d2 + 1 ≤ d) (k : S_X5_product sc d 66 [aR 32, aI l1, aI l2, aU] [] m2 Q) : S_X5_product sc d 63 [aR 32, aI l1, aI l2, aU] [aI s1, aR s0] m Q := x_callV (as := [aI s1]) (rest := []) hM mk_X3_put mv_X3_put lk_X5_180 (Or.inl ⟨3, (RX3, TX3, 3), icf_0 Hs0, Nat.le_of_ble_eq_true rfl, rfl, rfl⟩) hd rfl rfl (Nat.le_of_ble_eq_true rfl) dX5_product_63 rfl k
set_option maxRecDepth 4000 in
theorem g_X5_part_0 {sc : List Int} {d : Nat} {m : Mem} {Q : Option AV → Mem → Prop} {l1 : Int} (k : (-2147483648 ≤ (m 32 4) ∧ (m 32 4) < 2147483648) ∧ (((m 32 4) ≠ 257) → ((((m 32 4) ≠ 40) → (S_X5_part sc d 66 [aR 32, aI l1] [aI 28, aR 32] m Q)) ∧ (¬ ((m 32 4) ≠ 40) → (S_X5_part sc d 38 [aR 32, aI l1] [aI l1, aR 32] m Q)))) ∧ (¬ ((m 32 4) ≠ 257) → (S_X5_part sc d 18 [aR 32, aU] [aI 1000000, aI 0, aR 32, aR (m 32 11)] m Q))) : S_X5_part sc d 0 [aR 32, aI l1] [] m Q := by
  refine x_aload_n (pc2 := 1) dX5_part_0 rfl rfl ?_
  refine x_getf (pc2 := 4) (v := aI (m 32 4)) fl_X5_41 ic_32 (fv_i _ ic_32 rfl) dX5_part_1 rfl ?_
  refine x_sipush (pc2 := 7) dX5_part_4 rfl rfl ?_
  obtain ⟨h1, k⟩ := k
  obtain ⟨k1, k2⟩ := k
  refine x_icmp_ne (tgt := 27) (pc2 := 10) dX5_part_7 (by decide) rfl h1 (by decide) (fun c2 => ?_) (fun c2 => ?_)
  · replace k := k1 c2
    refine x_aload_n (pc2 := 28) dX5_part_27 rfl rfl ?_
    refine x_getf (pc2 := 31) (v := aI (m 32 4)) fl_X5_41 ic_32 (fv_i _ ic_32 rfl) dX5_part_28 rfl ?_
    refine x_bipush (pc2 := 33) dX5_part_31 rfl rfl ?_
    obtain ⟨k1, k2⟩ := k
    refine x_icmp_ne (tgt := 63) (pc2 := 36) dX5_part_33 (by decide) rfl h1 (by decide) (fun c3 => ?_) (fun c3 => ?_)
    · replace k := k1 c3
      refine x_aload_n (pc2 := 64) dX5_part_63 rfl rfl ?_
      refine x_bipush (pc2 := 66) dX5_part_64 rfl rfl ?_
      exact k
    · replace k := k2 c3
      refine x_aload_n (pc2 := 37) dX5_part_36 rfl rfl ?_
      refine x_iload_n (pc2 := 38) dX5_part_37 rfl rfl ?_
      exact k
  · replace k := k2 c2
    refine x_aload_n (pc2 := 11) dX5_part_10 rfl rfl ?_
    refine x_getf (pc2 := 14) (v := aR (m 32 11)) fl_X5_26 ic_32 (fv_m _ ic_32 rfl) dX5_part_11 rfl ?_
    refine x_aload_n (pc2 := 15) dX5_part_14 rfl rfl ?_
    refine x_iconst (pc2 := 16) dX5_part_15 rfl ?_
    refine x_ldc (pc2 := 18) (x := 1000000) kc_X5_195 rfl dX5_part_16 rfl ?_
    exact x_drop (drp_k (drp_u drp_n)) k
set_option maxRecDepth 4000 in
theorem g_X5_part_21 {sc : List Int} {d : Nat} {m : Mem} {Q : Option AV → Mem → Prop} {s0 s1 : Int} (Hs0 : FormAt s0) (k : S_X5_part sc d 21 [aR 32, aU] [aI s1, aR s0] m Q) : S_X5_part sc d 21 [aR 32, aU] [aI s1, aR s0] m Q := by
  exact k
set_option maxRecDepth 4000 in
theorem g_X5_part_24 {sc : List Int} {d : Nat} {m : Mem} {Q : Option AV → Mem → Prop} (k : S_X5_part sc d 155 [aR 32, aU] [] m Q) : S_X5_part sc d 24 [aR 32, aU] [] m Q := by
  refine x_goto (tgt := 155) dX5_part_24 (by decide) ?_
  exact k
set_option maxRecDepth 4000 in
theorem g_X5_part_41 {sc : List Int} {d : Nat} {m : Mem} {Q : Option AV → Mem → Prop} {l1 : Int} (k : (-2147483648 ≤ l1 ∧ l1 < 2147483648) ∧ ((6 ≤ l1) → (S_X5_part sc d 155 [aR 32, aU] [] m Q)) ∧ (¬ (6 ≤ l1) → (S_X5_part sc d 51 [aR 32, aU] [aI (l1 + 1), aR 32] m Q))) : S_X5_part sc d 41 [aR 32, aI l1] [] m Q := by
  refine x_iload_n (pc2 := 42) dX5_part_41 rfl rfl ?_
  refine x_bipush (pc2 := 44) dX5_part_42 rfl rfl ?_
  obtain ⟨h1, k⟩ := k
  obtain ⟨k1, k2⟩ := k
  refine x_icmp_ge (tgt := 155) (pc2 := 47) dX5_part_44 (by decide) rfl h1 (by decide) (fun c2 => ?_) (fun c2 => ?_)
  · replace k := k1 c2
    exact x_drop (drp_k (drp_u drp_n)) k
  · replace k := k2 c2
    refine x_aload_n (pc2 := 48) dX5_part_47 rfl rfl ?_
    refine x_iload_n (pc2 := 49) dX5_part_48 rfl rfl ?_
    refine x_iconst (pc2 := 50) dX5_part_49 rfl ?_
    refine x_iadd (pc2 := 51) dX5_part_50 rfl ?_
    exact x_drop (drp_k (drp_u drp_n)) k
set_option maxRecDepth 4000 in
theorem g_X5_part_54 {sc : List Int} {d : Nat} {m : Mem} {Q : Option AV → Mem → Prop} (k : S_X5_part sc d 57 [aR 32, aU] [aI 41, aR 32] m Q) : S_X5_part sc d 54 [aR 32, aU] [] m Q := by
  refine x_aload_n (pc2 := 55) dX5_part_54 rfl rfl ?_
  refine x_bipush (pc2 := 57) dX5_part_55 rfl rfl ?_
  exact k
set_option maxRecDepth 4000 in
theorem g_X5_part_60 {sc : List Int} {d : Nat} {m : Mem} {Q : Option AV → Mem → Prop} (k : S_X5_part sc d 155 [aR 32, aU] [] m Q) : S_X5_part sc d 60 [aR 32, aU] [] m Q := by
  refine x_goto (tgt := 155) dX5_part_60 (by decide) ?_
  exact k
set_option maxRecDepth 4000 in
theorem g_X5_part_69 {sc : List Int} {d : Nat} {m : Mem} {Q : Option AV → Mem → Prop} {l1 s0 : Int} (k : (-2147483648 ≤ s0 ∧ s0 < 2147483648) ∧ ((s0 ≠ 0) → (((-2147483648 ≤ (m 32 5) ∧ (m 32 5) < 2147483648)) ∧ S_X5_part sc d 99 [aR 32, aU] [aI (if (m 32 5) ≠ 28 then (-18) else (-17) : Int), aI l1, aR 32] m Q)) ∧ (¬ (s0 ≠ 0) → (S_X5_part sc d 75 [aR 32, aI l1] [aI 29, aR 32] m Q))) : S_X5_part sc d 69 [aR 32, aI l1] [aI s0] m Q := by
  obtain ⟨h1, k⟩ := k
  obtain ⟨k1, k2⟩ := k
  refine x_if_ne (tgt := 81) (pc2 := 72) dX5_part_69 (by decide) rfl h1 (fun c2 => ?_) (fun c2 => ?_)
  · replace k := k1 c2
    refine x_aload_n (pc2 := 82) dX5_part_81 rfl rfl ?_
    refine x_iload_n (pc2 := 83) dX5_part_82 rfl rfl ?_
    refine x_aload_n (pc2 := 84) dX5_part_83 rfl rfl ?_
    refine x_getf (pc2 := 87) (v := aI (m 32 5)) fl_X5_60 ic_32 (fv_i _ ic_32 rfl) dX5_part_84 rfl ?_
    refine x_bipush (pc2 := 89) dX5_part_87 rfl rfl ?_
    obtain ⟨g4, k⟩ := k
    have kj : S_X5_part sc d 99 [aR 32, aI l1] [aI (if (m 32 5) ≠ 28 then (-18) else (-17) : Int), aI l1, aR 32] m Q := by
      exact x_drop (drp_k (drp_u drp_n)) k
    have h5 := g4 
    refine x_icmp_ne (tgt := 97) (pc2 := 92) dX5_part_89 (by decide) rfl h5 (by decide) (fun c6 => ?_) (fun c6 => ?_)
    · skip
      refine x_bipush (pc2 := 99) dX5_part_97 rfl rfl ?_
      exact x_topI (if_pos c6) kj
    · skip
      refine x_bipush (pc2 := 94) dX5_part_92 rfl rfl ?_
      refine x_goto (tgt := 99) dX5_part_94 (by decide) ?_
      exact x_topI (if_neg c6) kj
  · replace k := k2 c2
    refine x_aload_n (pc2 := 73) dX5_part_72 rfl rfl ?_
    refine x_bipush (pc2 := 75) dX5_part_73 rfl rfl ?_
    exact k
set_option maxRecDepth 4000 in
theorem g_X5_part_78 {sc : List Int} {d : Nat} {m : Mem} {Q : Option AV → Mem → Prop} {l1 s0 : Int} (k : (-2147483648 ≤ s0 ∧ s0 < 2147483648) ∧ ((s0 = 0) → ((-2147483648 ≤ (m 32 9) ∧ (m 32 9) < 2147483648) ∧ (((m 32 9) = 0) → (S_X5_part sc d 152 [aR 32, aU] [aR 32] m Q)) ∧ (¬ ((m 32 9) = 0) → (S_X5_part sc d 115 [aR 32, aI l1] [aI 23, aR 32] m Q)))) ∧ (¬ (s0 = 0) → (((-2147483648 ≤ (m 32 5) ∧ (m 32 5) < 2147483648)) ∧ S_X5_part sc d 99 [aR 32, aU] [aI (if (m 32 5) ≠ 28 then (-18) else (-17) : Int), aI l1, aR 32] m Q))) : S_X5_part sc d 78 [aR 32, aI l1] [aI s0] m Q := by
  obtain ⟨h1, k⟩ := k
  obtain ⟨k1, k2⟩ := k
  refine x_if_eq (tgt := 105) (pc2 := 81) dX5_part_78 (by decide) rfl h1 (fun c2 => ?_) (fun c2 => ?_)
  · replace k := k1 c2
    refine x_aload_n (pc2 := 106) dX5_part_105 rfl rfl ?_
    refine x_getf (pc2 := 109) (v := aI (m 32 9)) fl_X5_47 ic_32 (fv_i _ ic_32 rfl) dX5_part_106 rfl ?_
    obtain ⟨h3, k⟩ := k
    obtain ⟨k1, k2⟩ := k
    refine x_if_eq (tgt := 151) (pc2 := 112) dX5_part_109 (by decide) rfl h3 (fun c4 => ?_) (fun c4 => ?_)
    · replace k := k1 c4
      refine x_aload_n (pc2 := 152) dX5_part_151 rfl rfl ?_
      exact x_drop (drp_k (drp_u drp_n)) k
    · replace k := k2 c4
      refine x_aload_n (pc2 := 113) dX5_part_112 rfl rfl ?_
      refine x_bipush (pc2 := 115) dX5_part_113 rfl rfl ?_
      exact k
  · replace k := k2 c2
    refine x_aload_n (pc2 := 82) dX5_part_81 rfl rfl ?_
    refine x_iload_n (pc2 := 83) dX5_part_82 rfl rfl ?_
    refine x_aload_n (pc2 := 84) dX5_part_83 rfl rfl ?_
    refine x_getf (pc2 := 87) (v := aI (m 32 5)) fl_X5_60 ic_32 (fv_i _ ic_32 rfl) dX5_part_84 rfl ?_
    refine x_bipush (pc2 := 89) dX5_part_87 rfl rfl ?_
    obtain ⟨g6, k⟩ := k
    have kj : S_X5_part sc d 99 [aR 32, aI l1] [aI (if (m 32 5) ≠ 28 then (-18) else (-17) : Int), aI l1, aR 32] m Q := by
      exact x_drop (drp_k (drp_u drp_n)) k
    have h7 := g6 
    refine x_icmp_ne (tgt := 97) (pc2 := 92) dX5_part_89 (by decide) rfl h7 (by decide) (fun c8 => ?_) (fun c8 => ?_)
    · skip
      refine x_bipush (pc2 := 99) dX5_part_97 rfl rfl ?_
      exact x_topI (if_pos c8) kj
    · skip
      refine x_bipush (pc2 := 94) dX5_part_92 rfl rfl ?_
      refine x_goto (tgt := 99) dX5_part_94 (by decide) ?_
      exact x_topI (if_neg c8) kj
set_option maxRecDepth 4000 in
theorem g_X5_part_102 {sc : List Int} {d : Nat} {m : Mem} {Q : Option AV → Mem → Prop} (k : S_X5_part sc d 155 [aR 32, aU] [] m Q) : S_X5_part sc d 102 [aR 32, aU] [] m Q := by
  refine x_goto (tgt := 155) dX5_part_102 (by decide) ?_
  exact k
set_option maxRecDepth 4000 in
theorem g_X5_part_118 {sc : List Int} {d : Nat} {m : Mem} {Q : Option AV → Mem → Prop} {l1 s0 : Int} (k : (-2147483648 ≤ s0 ∧ s0 < 2147483648) ∧ ((s0 = 0) → (S_X5_part sc d 152 [aR 32, aU] [aR 32] m Q)) ∧ (¬ (s0 = 0) → (S_X5_part sc d 123 [aR 32, aI l1] [aI l1, aR 32] m Q))) : S_X5_part sc d 118 [aR 32, aI l1] [aI s0] m Q := by
  obtain ⟨h1, k⟩ := k
  obtain ⟨k1, k2⟩ := k
  refine x_if_eq (tgt := 151) (pc2 := 121) dX5_part_118 (by decide) rfl h1 (fun c2 => ?_) (fun c2 => ?_)
  · replace k := k1 c2
    refine x_aload_n (pc2 := 152) dX5_part_151 rfl rfl ?_
    exact x_drop (drp_k (drp_u drp_n)) k
  · replace k := k2 c2
    refine x_aload_n (pc2 := 122) dX5_part_121 rfl rfl ?_
    refine x_iload_n (pc2 := 123) dX5_part_122 rfl rfl ?_
    exact k
set_option maxRecDepth 4000 in
theorem g_X5_part_126 {sc : List Int} {d : Nat} {m : Mem} {Q : Option AV → Mem → Prop} {l1 : Int} (k : (-2147483648 ≤ l1 ∧ l1 < 2147483648) ∧ ((6 ≤ l1) → (S_X5_part sc d 155 [aR 32, aU] [] m Q)) ∧ (¬ (6 ≤ l1) → (S_X5_part sc d 136 [aR 32, aU] [aI (l1 + 1), aR 32] m Q))) : S_X5_part sc d 126 [aR 32, aI l1] [] m Q := by
  refine x_iload_n (pc2 := 127) dX5_part_126 rfl rfl ?_
  refine x_bipush (pc2 := 129) dX5_part_127 rfl rfl ?_
  obtain ⟨h1, k⟩ := k
  obtain ⟨k1, k2⟩ := k
  refine x_icmp_ge (tgt := 155) (pc2 := 132) dX5_part_129 (by decide) rfl h1 (by decide) (fun c2 => ?_) (fun c2 => ?_)
  · replace k := k1 c2
    exact x_drop (drp_k (drp_u drp_n)) k
  · replace k := k2 c2
    refine x_aload_n (pc2 := 133) dX5_part_132 rfl rfl ?_
    refine x_iload_n (pc2 := 134) dX5_part_133 rfl rfl ?_
    refine x_iconst (pc2 := 135) dX5_part_134 rfl ?_
    refine x_iadd (pc2 := 136) dX5_part_135 rfl ?_
    exact x_drop (drp_k (drp_u drp_n)) k
set_option maxRecDepth 4000 in
theorem g_X5_part_139 {sc : List Int} {d : Nat} {m : Mem} {Q : Option AV → Mem → Prop} (k : S_X5_part sc d 145 [aR 32, aU] [aI (-12), aR (m 32 11)] m Q) : S_X5_part sc d 139 [aR 32, aU] [] m Q := by
  refine x_aload_n (pc2 := 140) dX5_part_139 rfl rfl ?_
  refine x_getf (pc2 := 143) (v := aR (m 32 11)) fl_X5_26 ic_32 (fv_m _ ic_32 rfl) dX5_part_140 rfl ?_
  refine x_bipush (pc2 := 145) dX5_part_143 rfl rfl ?_
  exact k
set_option maxRecDepth 4000 in
theorem g_X5_part_148 {sc : List Int} {d : Nat} {m : Mem} {Q : Option AV → Mem → Prop} (k : S_X5_part sc d 155 [aR 32, aU] [] m Q) : S_X5_part sc d 148 [aR 32, aU] [] m Q := by
  refine x_goto (tgt := 155) dX5_part_148 (by decide) ?_
  exact k
set_option maxRecDepth 4000 in
theorem g_X5_part_155 {sc : List Int} {d : Nat} {m : Mem} {Q : Option AV → Mem → Prop} (k : Q none m) : S_X5_part sc d 155 [aR 32, aU] [] m Q := by
  exact x_return dX5_part_155 rfl k
theorem c_X5_part_18 {sc : List Int} {d d2 : Nat} {m m2 : Mem} {Q : Option AV → Mem → Prop} {s0 s2 s3 : Int} {v : Int} (Hs0 : FormAt s0) (hM : C_X5_number sc d2 [aR 32, aI s2, aI s3] m (some (aI v)) m2) (hd : d2 + 1 ≤ d) (k : S_X5_part sc d 21 [aR 32, aU] [aI v, aR s0] m2 Q) : S_X5_part sc d 18 [aR 32, aU] [aI s3, aI s2, aR 32, aR s0] m Q := x_callV (as := [aI s2, aI s3]) (rest := [aR s0]) hM mk_X5_number mv_X5_number lk_X5_130 (Or.inl ⟨5, (RX5, TX5, 12), ic_32, Nat.le_of_ble_eq_true rfl, rfl, rfl⟩) hd rfl rfl (Nat.le_of_ble_eq_true rfl) dX5_part_18 rfl k
theorem c_X5_part_21 {sc : List Int} {d d2 : Nat} {m m2 : Mem} {Q : Option AV → Mem → Prop} {s0 s1 : Int} (Hs0 : FormAt s0) (hM : C_X3_put sc d2 [aR s0, aI s1] m none m2) (hd : d2 + 1 ≤ d) (k : S_X5_part sc d 24 [aR 32, aU] [] m2 Q) : S_X5_part sc d 21 [aR 32, aU] [aI s1, aR s0] m Q := x_callV (as := [aI s1]) (rest := []) hM mk_X3_put mv_X3_put lk_X5_180 (Or.inl ⟨3, (RX3, TX3, 3), icf_0 Hs0, Nat.le_of_ble_eq_true rfl, rfl, rfl⟩) hd rfl rfl (Nat.le_of_ble_eq_true rfl) dX5_part_21 rfl k
theorem c_X5_part_38 {sc : List Int} {d d2 : Nat} {m m2 : Mem} {Q : Option AV → Mem → Prop} {l1 s1 : Int} (hM : C_X5_enter sc d2 [aR 32, aI s1] m none m2) (hd : d2 + 1 ≤ d) (k : S_X5_part sc d 41 [aR 32, aI l1] [] m2 Q) : S_X5_part sc d 38 [aR 32, aI l1] [aI s1, aR 32] m Q := x_callV (as := [aI s1]) (rest := []) hM mk_X5_enter mv_X5_enter lk_X5_186 (Or.inl ⟨5, (RX5, TX5, 12), ic_32, Nat.le_of_ble_eq_true rfl, rfl, rfl⟩) hd rfl rfl (Nat.le_of_ble_eq_true rfl) dX5_part_38 rfl k
theorem c_X5_part_51 {sc : List Int} {d d2 : Nat} {m m2 : Mem} {Q : Option AV → Mem → Prop} {s1 : Int} (hM : C_X5_sum sc d2 [aR 32, aI s1] m none m2) (hd : d2 + 1 ≤ d) (k : S_X5_part sc d 54 [aR 32, aU] [] m2 Q) : S_X5_part sc d 51 [aR 32, aU] [aI s1, aR 32] m Q := x_callV (as := [aI s1]) (rest := []) hM mk_X5_sum mv_X5_sum lk_X5_174 (Or.inl ⟨5, (RX5, TX5, 12), ic_32, Nat.le_of_ble_eq_true rfl, rfl, rfl⟩) hd rfl rfl (Nat.le_of_ble_eq_true rfl) dX5_part_51 rfl k
theorem c_X5_part_57 {sc : List Int} {d d2 : Nat} {m m2 : Mem} {Q : Option AV → Mem → Prop} {s1 : Int} (hM : C_X5_expectSign sc d2 [aR 32, aI s1] m none m2) (hd : d2 + 1 ≤ d) (k : S_X5_part sc d 60 [aR 32, aU] [] m2 Q) : S_X5_part sc d 57 [aR 32, aU] [aI s1, aR 32] m Q := x_callV (as := [aI s1]) (rest := []) hM mk_X5_expectSign mv_X5_expectSign lk_X5_114 (Or.inl ⟨5, (RX5, TX5, 12), ic_32, Nat.le_of_ble_eq_true rfl, rfl, rfl⟩) hd rfl rfl (Nat.le_of_ble_eq_true rfl) dX5_part_57 rfl k
theorem c_X5_part_66 {sc : List Int} {d d2 : Nat} {m m2 : Mem} {Q : Option AV → Mem → Prop} {l1 s1 : Int} {v : Int} (hM : C_X5_isWord sc d2 [aR 32, aI s1] m (some (aI v)) m2) (hd : d2 + 1 ≤ d) (k : S_X5_part sc d 69 [aR 32, aI l1] [aI v] m2 Q) : S_X5_part sc d 66 [aR 32, aI l1] [aI s1, aR 32] m Q := x_callV (as := [aI s1]) (rest := []) hM mk_X5_isWord mv_X5_isWord lk_X5_80 (Or.inl ⟨5, (RX5, TX5, 12), ic_32, Nat.le_of_ble_eq_true rfl, rfl, rfl⟩) hd rfl rfl (Nat.le_of_ble_eq_true rfl) dX5_part_66 rfl k
theorem c_X5_part_75 {sc : List Int} {d d2 : Nat} {m m2 : Mem} {Q : Option AV → Mem → Prop} {l1 s1 : Int} {v : Int} (hM : C_X5_isWord sc d2 [aR 32, aI s1] m (some (aI v)) m2) (hd : d2 + 1 ≤ d) (k : S_X5_part sc d 78 [aR 32, aI l1] [aI v] m2 Q) : S_X5_part sc d 75 [aR 32, aI l1] [aI s1, aR 32] m Q := x_callV (as := [aI s1]) (rest := []) hM mk_X5_isWord mv_X5_isWord lk_X5_80 (Or.inl ⟨5, (RX5, TX5, 12), ic_32, Nat.le_of_ble_eq_true rfl, rfl, rfl⟩) hd rfl rfl (Nat.le_of_ble_eq_true rfl) dX5_part_75 rfl k
theorem c_X5_part_99 {sc : List Int} {d d2 : Nat} {m m2 : Mem} {Q : Option AV → Mem → Prop} {s1 s2 : Int} (hM : C_X5_pair sc d2 [aR 32, aI s1, aI s2] m none m2) (hd : d2 + 1 ≤ d) (k : S_X5_part sc d 102 [aR 32, aU] [] m2 Q) : S_X5_part sc d 99 [aR 32, aU] [aI s2, aI s1, aR 32] m Q := x_callV (as := [aI s1, aI s2]) (rest := []) hM mk_X5_pair mv_X5_pair lk_X5_196 (Or.inl ⟨5, (RX5, TX5, 12), ic_32, Nat.le_of_ble_eq_true rfl, rfl, rfl⟩) hd rfl rfl (Nat.le_of_ble_eq_true rfl) dX5_part_99 rfl k
theorem c_X5_part_115 {sc : List Int} {d d2 : Nat} {m m2 : Mem} {Q : Option AV → Mem → Prop} {l1 s1 : Int} {v : Int} (hM : C_X5_isWord sc d2 [aR 32, aI s1] m (some (aI v)) m2) (hd : d2 + 1 ≤ d) (k : S_X5_part sc d 118 [aR 32, aI l1] [aI v] m2 Q) : S_X5_part sc d 115 [aR 32, aI l1] [aI s1, aR 32] m Q := x_callV (as := [aI s1]) (rest := []) hM mk_X5_isWord mv_X5_isWord lk_X5_80 (Or.inl ⟨5, (RX5, TX5, 12), ic_32, Nat.le_of_ble_eq_true rfl, rfl, rfl⟩) hd rfl rfl (Nat.le_of_ble_eq_true rfl) dX5_part_115 rfl k
theorem c_X5_part_123 {sc : List Int} {d d2 : Nat} {m m2 : Mem} {Q : Option AV → Mem → Prop} {l1 s1 : Int} (hM : C_X5_enter sc d2 [aR 32, aI s1] m none m2) (hd : d2 + 1 ≤ d) (k : S_X5_part sc d 126 [aR 32, aI l1] [] m2 Q) : S_X5_part sc d 123 [aR 32, aI l1] [aI s1, aR 32] m Q := x_callV (as := [aI s1]) (rest := []) hM mk_X5_enter mv_X5_enter lk_X5_186 (Or.inl ⟨5, (RX5, TX5, 12), ic_32, Nat.le_of_ble_eq_true rfl, rfl, rfl⟩) hd rfl rfl (Nat.le_of_ble_eq_true rfl) dX5_part_123 rfl k
theorem c_X5_part_136 {sc : List Int} {d d2 : Nat} {m m2 : Mem} {Q : Option AV → Mem → Prop} {s1 : Int} (hM : C_X5_part sc d2 [aR 32, aI s1] m none m2) (hd : d2 + 1 ≤ d) (k : S_X5_part sc d 139 [aR 32, aU] [] m2 Q) : S_X5_part sc d 136 [aR 32, aU] [aI s1, aR 32] m Q := x_callV (as := [aI s1]) (rest := []) hM mk_X5_part mv_X5_part lk_X5_192 (Or.inl ⟨5, (RX5, TX5, 12), ic_32, Nat.le_of_ble_eq_true rfl, rfl, rfl⟩) hd rfl rfl (Nat.le_of_ble_eq_true rfl) dX5_part_136 rfl k
theorem c_X5_part_145 {sc : List Int} {d d2 : Nat} {m m2 : Mem} {Q : Option AV → Mem → Prop} {s0 s1 : Int} (Hs0 : FormAt s0) (hM : C_X3_put sc d2 [aR s0, aI s1] m none m2) (hd : d2 + 1 ≤ d) (k : S_X5_part sc d 148 [aR 32, aU] [] m2 Q) : S_X5_part sc d 145 [aR 32, aU] [aI s1, aR s0] m Q := x_callV (as := [aI s1]) (rest := []) hM mk_X3_put mv_X3_put lk_X5_180 (Or.inl ⟨3, (RX3, TX3, 3), icf_0 Hs0, Nat.le_of_ble_eq_true rfl, rfl, rfl⟩) hd rfl rfl (Nat.le_of_ble_eq_true rfl) dX5_part_145 rfl k
theorem c_X5_part_152 {sc : List Int} {d d2 : Nat} {m m2 : Mem} {Q : Option AV → Mem → Prop} (hM : C_X5_namedPart sc d2 [aR 32] m none m2) (hd : d2 + 1 ≤ d) (k : S_X5_part sc d 155 [aR 32, aU] [] m2 Q) : S_X5_part sc d 152 [aR 32, aU] [aR 32] m Q := x_callV (as := []) (rest := []) hM mk_X5_namedPart mv_X5_namedPart lk_X5_199 (Or.inl ⟨5, (RX5, TX5, 12), ic_32, Nat.le_of_ble_eq_true rfl, rfl, rfl⟩) hd rfl rfl (Nat.le_of_ble_eq_true rfl) dX5_part_152 rfl k
set_option maxRecDepth 4000 in
theorem g_X5_pair_0 {sc : List Int} {d : Nat} {m : Mem} {Q : Option AV → Mem → Prop} {l1 l2 : Int} (k : S_X5_pair sc d 1 [aR 32, aI l1, aI l2] [aR 32] m Q) : S_X5_pair sc d 0 [aR 32, aI l1, aI l2] [] m Q := by
  refine x_aload_n (pc2 := 1) dX5_pair_0 rfl rfl ?_
  exact k
set_option maxRecDepth 4000 in
theorem g_X5_pair_4 {sc : List Int} {d : Nat} {m : Mem} {Q : Option AV → Mem → Prop} {l1 l2 : Int} (k : (-2147483648 ≤ (m 32 4) ∧ (m 32 4) < 2147483648) ∧ (((m 32 4) = 40) → (S_X5_pair sc d 25 [aR 32, aI l1, aI l2] [aI l1, aR 32] m Q)) ∧ (¬ ((m 32 4) = 40) → (S_X5_pair sc d 19 [aR 32, aU, aU] [aI (m 32 3), aI 1, aR 32] m Q))) : S_X5_pair sc d 4 [aR 32, aI l1, aI l2] [] m Q := by
  refine x_aload_n (pc2 := 5) dX5_pair_4 rfl rfl ?_
  refine x_getf (pc2 := 8) (v := aI (m 32 4)) fl_X5_41 ic_32 (fv_i _ ic_32 rfl) dX5_pair_5 rfl ?_
  refine x_bipush (pc2 := 10) dX5_pair_8 rfl rfl ?_
  obtain ⟨h1, k⟩ := k
  obtain ⟨k1, k2⟩ := k
  refine x_icmp_eq (tgt := 23) (pc2 := 13) dX5_pair_10 (by decide) rfl h1 (by decide) (fun c2 => ?_) (fun c2 => ?_)
  · replace k := k1 c2
    refine x_aload_n (pc2 := 24) dX5_pair_23 rfl rfl ?_
    refine x_iload_n (pc2 := 25) dX5_pair_24 rfl rfl ?_
    exact k
  · replace k := k2 c2
    refine x_aload_n (pc2 := 14) dX5_pair_13 rfl rfl ?_
    refine x_iconst (pc2 := 15) dX5_pair_14 rfl ?_
    refine x_aload_n (pc2 := 16) dX5_pair_15 rfl rfl ?_
    refine x_getf (pc2 := 19) (v := aI (m 32 3)) fl_X5_57 ic_32 (fv_i _ ic_32 rfl) dX5_pair_16 rfl ?_
    exact x_drop (drp_k (drp_u (drp_u drp_n))) k
set_option maxRecDepth 4000 in
theorem g_X5_pair_22 {sc : List Int} {d : Nat} {m : Mem} {Q : Option AV → Mem → Prop} (k : Q none m) : S_X5_pair sc d 22 [aR 32, aU, aU] [] m Q := by
  exact x_return dX5_pair_22 rfl k
set_option maxRecDepth 4000 in
theorem g_X5_pair_28 {sc : List Int} {d : Nat} {m : Mem} {Q : Option AV → Mem → Prop} {l1 l2 : Int} (k : (-2147483648 ≤ l1 ∧ l1 < 2147483648) ∧ ((6 ≤ l1) → (S_X5_pair sc d 68 [aR 32, aU, aU] [] m Q)) ∧ (¬ (6 ≤ l1) → (S_X5_pair sc d 38 [aR 32, aI l1, aI l2] [aI (l1 + 1), aR 32] m Q))) : S_X5_pair sc d 28 [aR 32, aI l1, aI l2] [] m Q := by
  refine x_iload_n (pc2 := 29) dX5_pair_28 rfl rfl ?_
  refine x_bipush (pc2 := 31) dX5_pair_29 rfl rfl ?_
  obtain ⟨h1, k⟩ := k
  obtain ⟨k1, k2⟩ := k
  refine x_icmp_ge (tgt := 68) (pc2 := 34) dX5_pair_31 (by decide) rfl h1 (by decide) (fun c2 => ?_) (fun c2 => ?_)
  · replace k := k1 c2
    exact x_drop (drp_k (drp_u (drp_u drp_n))) k
  · replace k := k2 c2
    refine x_aload_n (pc2 := 35) dX5_pair_34 rfl rfl ?_
    refine x_iload_n (pc2 := 36) dX5_pair_35 rfl rfl ?_
    refine x_iconst (pc2 := 37) dX5_pair_36 rfl ?_
    refine x_iadd (pc2 := 38) dX5_pair_37 rfl ?_
    exact k
set_option maxRecDepth 4000 in
theorem g_X5_pair_41 {sc : List Int} {d : Nat} {m : Mem} {Q : Option AV → Mem → Prop} {l1 l2 : Int} (k : S_X5_pair sc d 44 [aR 32, aI l1, aI l2] [aI 44, aR 32] m Q) : S_X5_pair sc d 41 [aR 32, aI l1, aI l2] [] m Q := by
  refine x_aload_n (pc2 := 42) dX5_pair_41 rfl rfl ?_
  refine x_bipush (pc2 := 44) dX5_pair_42 rfl rfl ?_
  exact k
set_option maxRecDepth 4000 in
theorem g_X5_pair_47 {sc : List Int} {d : Nat} {m : Mem} {Q : Option AV → Mem → Prop} {l1 l2 : Int} (k : S_X5_pair sc d 51 [aR 32, aU, aI l2] [aI (l1 + 1), aR 32] m Q) : S_X5_pair sc d 47 [aR 32, aI l1, aI l2] [] m Q := by
  refine x_aload_n (pc2 := 48) dX5_pair_47 rfl rfl ?_
  refine x_iload_n (pc2 := 49) dX5_pair_48 rfl rfl ?_
  refine x_iconst (pc2 := 50) dX5_pair_49 rfl ?_
  refine x_iadd (pc2 := 51) dX5_pair_50 rfl ?_
  exact x_drop (drp_k (drp_u (drp_k drp_n))) k
set_option maxRecDepth 4000 in
theorem g_X5_pair_54 {sc : List Int} {d : Nat} {m : Mem} {Q : Option AV → Mem → Prop} {l2 : Int} (k : S_X5_pair sc d 57 [aR 32, aU, aI l2] [aI 41, aR 32] m Q) : S_X5_pair sc d 54 [aR 32, aU, aI l2] [] m Q := by
  refine x_aload_n (pc2 := 55) dX5_pair_54 rfl rfl ?_
  refine x_bipush (pc2 := 57) dX5_pair_55 rfl rfl ?_
  exact k
set_option maxRecDepth 4000 in
theorem g_X5_pair_60 {sc : List Int} {d : Nat} {m : Mem} {Q : Option AV → Mem → Prop} {l2 : Int} (k : S_X5_pair sc d 65 [aR 32, aU, aU] [aI l2, aR (m 32 11)] m Q) : S_X5_pair sc d 60 [aR 32, aU, aI l2] [] m Q := by
  refine x_aload_n (pc2 := 61) dX5_pair_60 rfl rfl ?_
  refine x_getf (pc2 := 64) (v := aR (m 32 11)) fl_X5_26 ic_32 (fv_m _ ic_32 rfl) dX5_pair_61 rfl ?_
  refine x_iload_n (pc2 := 65) dX5_pair_64 rfl rfl ?_
  exact x_drop (drp_k (drp_k (drp_u drp_n))) k
set_option maxRecDepth 4000 in
theorem g_X5_pair_68 {sc : List Int} {d : Nat} {m : Mem} {Q : Option AV → Mem → Prop} (k : Q none m) : S_X5_pair sc d 68 [aR 32, aU, aU] [] m Q := by
  exact x_return dX5_pair_68 rfl k
theorem c_X5_pair_1 {sc : List Int} {d d2 : Nat} {m m2 : Mem} {Q : Option AV → Mem → Prop} {l1 l2 : Int} (hM : C_X5_advance sc d2 [aR 32] m none m2) (hd : d2 + 1 ≤ d) (k : S_X5_pair sc d 4 [aR 32, aI l1, aI l2] [] m2 Q) : S_X5_pair sc d 1 [aR 32, aI l1, aI l2] [aR 32] m Q := x_callV (as := []) (rest := []) hM mk_X5_advance mv_X5_advance lk_X5_54 (Or.inl ⟨5, (RX5, TX5, 12), ic_32, Nat.le_of_ble_eq_true rfl, rfl, rfl⟩) hd rfl rfl (Nat.le_of_ble_eq_true rfl) dX5_pair_1 rfl k
theorem c_X5_pair_19 {sc : List Int} {d d2 : Nat} {m m2 : Mem} {Q : Option AV → Mem → Prop} {s1 s2 : Int} (hM : C_X5_fail sc d2 [aR 32, aI s1, aI s2] m none m2) (hd : d2 + 1 ≤ d) (k : S_X5_pair sc d 22 [aR 32, aU, aU] [] m2 Q) : S_X5_pair sc d 19 [aR 32, aU, aU] [aI s2, aI s1, aR 32] m Q := x_callV (as := [aI s1, aI s2]) (rest := []) hM mk_X5_fail mv_X5_fail lk_X5_84 (Or.inl ⟨5, (RX5, TX5, 12), ic_32, Nat.le_of_ble_eq_true rfl, rfl, rfl⟩) hd rfl rfl (Nat.le_of_ble_eq_true rfl) dX5_pair_19 rfl k
theorem c_X5_pair_25 {sc : List Int} {d d2 : Nat} {m m2 : Mem} {Q : Option AV → Mem → Prop} {l1 l2 s1 : Int} (hM : C_X5_enter sc d2 [aR 32, aI s1] m none m2) (hd : d2 + 1 ≤ d) (k : S_X5_pair sc d 28 [aR 32, aI l1, aI l2] [] m2 Q) : S_X5_pair sc d 25 [aR 32, aI l1, aI l2] [aI s1, aR 32] m Q := x_callV (as := [aI s1]) (rest := []) hM mk_X5_enter mv_X5_enter lk_X5_186 (Or.inl ⟨5, (RX5, TX5, 12), ic_32, Nat.le_of_ble_eq_true rfl, rfl, rfl⟩) hd rfl rfl (Nat.le_of_ble_eq_true rfl) dX5_pair_25 rfl k
theorem c_X5_pair_38 {sc : List Int} {d d2 : Nat} {m m2 : Mem} {Q : Option AV → Mem → Prop} {l1 l2 s1 : Int} (hM : C_X5_sum sc d2 [aR 32, aI s1] m none m2) (hd : d2 + 1 ≤ d) (k : S_X5_pair sc d 41 [aR 32, aI l1, aI l2] [] m2 Q) : S_X5_pair sc d 38 [aR 32, aI l1, aI l2] [aI s1, aR 32] m Q := x_callV (as := [aI s1]) (rest := []) hM mk_X5_sum mv_X5_sum lk_X5_174 (Or.inl ⟨5, (RX5, TX5, 12), ic_32, Nat.le_of_ble_eq_true rfl, rfl, rfl⟩) hd rfl rfl (Nat.le_of_ble_eq_true rfl) dX5_pair_38 rfl k
theorem c_X5_pair_44 {sc : List Int} {d d2 : Nat} {m m2 : Mem} {Q : Option AV → Mem → Prop} {l1 l2 s1 : Int} (hM : C_X5_expectSign sc d2 [aR 32, aI s1] m none m2) (hd : d2 + 1 ≤ d) (k : S_X5_pair sc d 47 [aR 32, aI l1, aI l2] [] m2 Q) : S_X5_pair sc d 44 [aR 32, aI l1, aI l2] [aI s1, aR 32] m Q := x_callV (as := [aI s1]) (rest := []) hM mk_X5_expectSign mv_X5_expectSign lk_X5_114 (Or.inl ⟨5, (RX5, TX5, 12), ic_32, Nat.le_of_ble_eq_true rfl, rfl, rfl⟩) hd rfl rfl (Nat.le_of_ble_eq_true rfl) dX5_pair_44 rfl k
theorem c_X5_pair_51 {sc : List Int} {d d2 : Nat} {m m2 : Mem} {Q : Option AV → Mem → Prop} {l2 s1 : Int} (hM : C_X5_sum sc d2 [aR 32, aI s1] m none m2) (hd : d2 + 1 ≤ d) (k : S_X5_pair sc d 54 [aR 32, aU, aI l2] [] m2 Q) : S_X5_pair sc d 51 [aR 32, aU, aI l2] [aI s1, aR 32] m Q := x_callV (as := [aI s1]) (rest := []) hM mk_X5_sum mv_X5_sum lk_X5_174 (Or.inl ⟨5, (RX5, TX5, 12), ic_32, Nat.le_of_ble_eq_true rfl, rfl, rfl⟩) hd rfl rfl (Nat.le_of_ble_eq_true rfl) dX5_pair_51 rfl k
theorem c_X5_pair_57 {sc : List Int} {d d2 : Nat} {m m2 : Mem} {Q : Option AV → Mem → Prop} {l2 s1 : Int} (hM : C_X5_expectSign sc d2 [aR 32, aI s1] m none m2) (hd : d2 + 1 ≤ d) (k : S_X5_pair sc d 60 [aR 32, aU, aI l2] [] m2 Q) : S_X5_pair sc d 57 [aR 32, aU, aI l2] [aI s1, aR 32] m Q := x_callV (as := [aI s1]) (rest := []) hM mk_X5_expectSign mv_X5_expectSign lk_X5_114 (Or.inl ⟨5, (RX5, TX5, 12), ic_32, Nat.le_of_ble_eq_true rfl, rfl, rfl⟩) hd rfl rfl (Nat.le_of_ble_eq_true rfl) dX5_pair_57 rfl k
theorem c_X5_pair_65 {sc : List Int} {d d2 : Nat} {m m2 : Mem} {Q : Option AV → Mem → Prop} {s0 s1 : Int} (Hs0 : FormAt s0) (hM : C_X3_put sc d2 [aR s0, aI s1] m none m2) (hd : d2 + 1 ≤ d) (k : S_X5_pair sc d 68 [aR 32, aU, aU] [] m2 Q) : S_X5_pair sc d 65 [aR 32, aU, aU] [aI s1, aR s0] m Q := x_callV (as := [aI s1]) (rest := []) hM mk_X3_put mv_X3_put lk_X5_180 (Or.inl ⟨3, (RX3, TX3, 3), icf_0 Hs0, Nat.le_of_ble_eq_true rfl, rfl, rfl⟩) hd rfl rfl (Nat.le_of_ble_eq_true rfl) dX5_pair_65 rfl k
set_option maxRecDepth 4000 in
theorem g_X5_namedPart_0 {sc : List Int} {d : Nat} {m : Mem} {Q : Option AV → Mem → Prop} (k : (-2147483648 ≤ (m 32 4) ∧ (m 32 4) < 2147483648) ∧ (((m 32 4) ≠ 256) → (S_X5_namedPart sc d 36 [aR 32, aU] [aI (m 32 3), aI 1, aR 32] m Q)) ∧ (¬ ((m 32 4) ≠ 256) → (S_X5_namedPart sc d 18 [aR 32, aU] [aI (m 32 9), aI (m 32 5)] m Q))) : S_X5_namedPart sc d 0 [aR 32, aU] [] m Q := by
  refine x_aload_n (pc2 := 1) dX5_namedPart_0 rfl rfl ?_
  refine x_getf (pc2 := 4) (v := aI (m 32 4)) fl_X5_41 ic_32 (fv_i _ ic_32 rfl) dX5_namedPart_1 rfl ?_
  refine x_sipush (pc2 := 7) dX5_namedPart_4 rfl rfl ?_
  obtain ⟨h1, k⟩ := k
  obtain ⟨k1, k2⟩ := k
  refine x_icmp_ne (tgt := 24) (pc2 := 10) dX5_namedPart_7 (by decide) rfl h1 (by decide) (fun c2 => ?_) (fun c2 => ?_)
  · replace k := k1 c2
    refine x_iconst (pc2 := 25) dX5_namedPart_24 rfl ?_
    refine x_istore_n (pc2 := 26) (ls2 := [aR 32, aI 0]) dX5_namedPart_25 rfl (by decide) rfl ?_
    refine x_iload_n (pc2 := 27) dX5_namedPart_26 rfl rfl ?_
    refine x_if_ne (tgt := 40) (pc2 := 30) dX5_namedPart_27 (by decide) rfl (by decide) (fun c3 => ?_) (fun c3 => ?_)
    · exact absurd c3 (by decide)
    · skip
      refine x_aload_n (pc2 := 31) dX5_namedPart_30 rfl rfl ?_
      refine x_iconst (pc2 := 32) dX5_namedPart_31 rfl ?_
      refine x_aload_n (pc2 := 33) dX5_namedPart_32 rfl rfl ?_
      refine x_getf (pc2 := 36) (v := aI (m 32 3)) fl_X5_57 ic_32 (fv_i _ ic_32 rfl) dX5_namedPart_33 rfl ?_
      exact x_drop (drp_k (drp_u drp_n)) k
  · replace k := k2 c2
    refine x_aload_n (pc2 := 11) dX5_namedPart_10 rfl rfl ?_
    refine x_getf (pc2 := 14) (v := aI (m 32 5)) fl_X5_60 ic_32 (fv_i _ ic_32 rfl) dX5_namedPart_11 rfl ?_
    refine x_aload_n (pc2 := 15) dX5_namedPart_14 rfl rfl ?_
    refine x_getf (pc2 := 18) (v := aI (m 32 9)) fl_X5_47 ic_32 (fv_i _ ic_32 rfl) dX5_namedPart_15 rfl ?_
    exact k
set_option maxRecDepth 4000 in
theorem g_X5_namedPart_21 {sc : List Int} {d : Nat} {m : Mem} {Q : Option AV → Mem → Prop} {s0 : Int} (k : (-2147483648 ≤ s0 ∧ s0 < 2147483648) ∧ ((s0 ≠ 0) → (S_X5_namedPart sc d 45 [aR 32, aU] [aI s0, aR (m 32 11)] m Q)) ∧ (¬ (s0 ≠ 0) → (S_X5_namedPart sc d 36 [aR 32, aU] [aI (m 32 3), aI 1, aR 32] m Q))) : S_X5_namedPart sc d 21 [aR 32, aU] [aI s0] m Q := by
  refine x_goto (tgt := 25) dX5_namedPart_21 (by decide) ?_
  refine x_istore_n (pc2 := 26) (ls2 := [aR 32, aI s0]) dX5_namedPart_25 rfl (by decide) rfl ?_
  refine x_iload_n (pc2 := 27) dX5_namedPart_26 rfl rfl ?_
  obtain ⟨h1, k⟩ := k
  obtain ⟨k1, k2⟩ := k
  refine x_if_ne (tgt := 40) (pc2 := 30) dX5_namedPart_27 (by decide) rfl h1 (fun c2 => ?_) (fun c2 => ?_)
  · replace k := k1 c2
    refine x_aload_n (pc2 := 41) dX5_namedPart_40 rfl rfl ?_
    refine x_getf (pc2 := 44) (v := aR (m 32 11)) fl_X5_26 ic_32 (fv_m _ ic_32 rfl) dX5_namedPart_41 rfl ?_
    refine x_iload_n (pc2 := 45) dX5_namedPart_44 rfl rfl ?_
    exact x_drop (drp_k (drp_u drp_n)) k
  · replace k := k2 c2
    refine x_aload_n (pc2 := 31) dX5_namedPart_30 rfl rfl ?_
    refine x_iconst (pc2 := 32) dX5_namedPart_31 rfl ?_
    refine x_aload_n (pc2 := 33) dX5_namedPart_32 rfl rfl ?_
    refine x_getf (pc2 := 36) (v := aI (m 32 3)) fl_X5_57 ic_32 (fv_i _ ic_32 rfl) dX5_namedPart_33 rfl ?_
    exact x_drop (drp_k (drp_u drp_n)) k
set_option maxRecDepth 4000 in
theorem g_X5_namedPart_39 {sc : List Int} {d : Nat} {m : Mem} {Q : Option AV → Mem → Prop} (k : Q none m) : S_X5_namedPart sc d 39 [aR 32, aU] [] m Q := by
  exact x_return dX5_namedPart_39 rfl k
set_option maxRecDepth 4000 in
theorem g_X5_namedPart_48 {sc : List Int} {d : Nat} {m : Mem} {Q : Option AV → Mem → Prop} (k : S_X5_namedPart sc d 49 [aR 32, aU] [aR 32] m Q) : S_X5_namedPart sc d 48 [aR 32, aU] [] m Q := by
  refine x_aload_n (pc2 := 49) dX5_namedPart_48 rfl rfl ?_
  exact k
set_option maxRecDepth 4000 in
theorem g_X5_namedPart_52 {sc : List Int} {d : Nat} {m : Mem} {Q : Option AV → Mem → Prop} (k : Q none m) : S_X5_namedPart sc d 52 [aR 32, aU] [] m Q := by
  exact x_return dX5_namedPart_52 rfl k
theorem c_X5_namedPart_18 {sc : List Int} {d d2 : Nat} {m m2 : Mem} {Q : Option AV → Mem → Prop} {s0 s1 : Int} {v : Int} (hM : C_X5_stepOf sc d2 [aI s0, aI s1] m (some (aI v)) m2) (hd : d2 + 1 ≤ d) (k : S_X5_namedPart sc d 21 [aR 32, aU] [aI v] m2 Q) : S_X5_namedPart sc d 18 [aR 32, aU] [aI s1, aI s0] m Q := x_callS (as := [aI s0, aI s1]) (rest := []) hM mk_X5_stepOf ms_X5_stepOf lk_X5_202 hd rfl rfl (Nat.le_of_ble_eq_true rfl) dX5_namedPart_18 rfl k
theorem c_X5_namedPart_36 {sc : List Int} {d d2 : Nat} {m m2 : Mem} {Q : Option AV → Mem → Prop} {s1 s2 : Int} (hM : C_X5_fail sc d2 [aR 32, aI s1, aI s2] m none m2) (hd : d2 + 1 ≤ d) (k : S_X5_namedPart sc d 39 [aR 32, aU] [] m2 Q) : S_X5_namedPart sc d 36 [aR 32, aU] [aI s2, aI s1, aR 32] m Q := x_callV (as := [aI s1, aI s2]) (rest := []) hM mk_X5_fail mv_X5_fail lk_X5_84 (Or.inl ⟨5, (RX5, TX5, 12), ic_32, Nat.le_of_ble_eq_true rfl, rfl, rfl⟩) hd rfl rfl (Nat.le_of_ble_eq_true rfl) dX5_namedPart_36 rfl k
theorem c_X5_namedPart_45 {sc : List Int} {d d2 : Nat} {m m2 : Mem} {Q : Option AV → Mem → Prop} {s0 s1 : Int} (Hs0 : FormAt s0) (hM : C_X3_put sc d2 [aR s0, aI s1] m none m2) (hd : d2 + 1 ≤ d) (k : S_X5_namedPart sc d 48 [aR 32, aU] [] m2 Q) : S_X5_namedPart sc d 45 [aR 32, aU] [aI s1, aR s0] m Q := x_callV (as := [aI s1]) (rest := []) hM mk_X3_put mv_X3_put lk_X5_180 (Or.inl ⟨3, (RX3, TX3, 3), icf_0 Hs0, Nat.le_of_ble_eq_true rfl, rfl, rfl⟩) hd rfl rfl (Nat.le_of_ble_eq_true rfl) dX5_namedPart_45 rfl k
theorem c_X5_namedPart_49 {sc : List Int} {d d2 : Nat} {m m2 : Mem} {Q : Option AV → Mem → Prop} (hM : C_X5_advance sc d2 [aR 32] m none m2) (hd : d2 + 1 ≤ d) (k : S_X5_namedPart sc d 52 [aR 32, aU] [] m2 Q) : S_X5_namedPart sc d 49 [aR 32, aU] [aR 32] m Q := x_callV (as := []) (rest := []) hM mk_X5_advance mv_X5_advance lk_X5_54 (Or.inl ⟨5, (RX5, TX5, 12), ic_32, Nat.le_of_ble_eq_true rfl, rfl, rfl⟩) hd rfl rfl (Nat.le_of_ble_eq_true rfl) dX5_namedPart_49 rfl k
set_option maxRecDepth 4000 in
theorem g_X5_stepOf_0 {sc : List Int} {d : Nat} {m : Mem} {Q : Option AV → Mem → Prop} {l0 l1 : Int} (k : (-2147483648 ≤ l0 ∧ l0 < 2147483648) ∧ ((l0 = 4) → (Q (some (aI (-1))) m)) ∧ ((l0 = 5) → (Q (some (aI (-2))) m)) ∧ ((l0 = 15) → (Q (some (aI (-3))) m)) ∧ ((l0 = 16) → (((-2147483648 ≤ l1 ∧ l1 < 2147483648)) ∧ Q (some (aI (if l1 = 0 then (-4) else 0 : Int))) m)) ∧ ((l0 = 17) → (Q (some (aI (-5))) m)) ∧ ((l0 = 18) → (((-2147483648 ≤ l1 ∧ l1 < 2147483648)) ∧ Q (some (aI (if l1 = 0 then (-6) else 0 : Int))) m)) ∧ ((l0 = 19) → (((-2147483648 ≤ l1 ∧ l1 < 2147483648)) ∧ Q (some (aI (if l1 = 0 then (-7) else 0 : Int))) m)) ∧ ((l0 = 20) → (((-2147483648 ≤ l1 ∧ l1 < 2147483648)) ∧ Q (some (aI (if l1 = 0 then 0 else (-8) : Int))) m)) ∧ ((l0 = 21) → (((-2147483648 ≤ l1 ∧ l1 < 2147483648)) ∧ Q (some (aI (if l1 = 0 then 0 else (-9) : Int))) m)) ∧ ((l0 = 22) → (((-2147483648 ≤ l1 ∧ l1 < 2147483648)) ∧ Q (some (aI (if l1 = 0 then 0 else (-10) : Int))) m)) ∧ ((l0 ≠ 4 ∧ l0 ≠ 5 ∧ l0 ≠ 15 ∧ l0 ≠ 16 ∧ l0 ≠ 17 ∧ l0 ≠ 18 ∧ l0 ≠ 19 ∧ l0 ≠ 20 ∧ l0 ≠ 21 ∧ l0 ≠ 22) → (Q (some (aI 0)) m))) : S_X5_stepOf sc d 0 [aI l0, aI l1] [] m Q := by
  refine x_iload_n (pc2 := 1) dX5_stepOf_0 rfl rfl ?_
  obtain ⟨h1, k⟩ := k
  obtain ⟨k26, k27, k28, k29, k30, k31, k32, k33, k34, k35, k36⟩ := k
  by_cases c37 : l0 = 4
  · replace k := k26 c37
    refine x_tin (tgt := 92) (off := 91) dX5_stepOf_1 h1 (by omega) (by omega) (by rw [c37]; rfl) (by decide) ?_
    refine x_iconst (pc2 := 93) dX5_stepOf_92 rfl ?_
    exact x_ireturn dX5_stepOf_93 ⟨.int, rfl, rfl⟩ k
  by_cases c38 : l0 = 5
  · replace k := k27 c38
    refine x_tin (tgt := 94) (off := 93) dX5_stepOf_1 h1 (by omega) (by omega) (by rw [c38]; rfl) (by decide) ?_
    refine x_bipush (pc2 := 96) dX5_stepOf_94 rfl rfl ?_
    exact x_ireturn dX5_stepOf_96 ⟨.int, rfl, rfl⟩ k
  by_cases c39 : l0 = 15
  · replace k := k28 c39
    refine x_tin (tgt := 97) (off := 96) dX5_stepOf_1 h1 (by omega) (by omega) (by rw [c39]; rfl) (by decide) ?_
    refine x_bipush (pc2 := 99) dX5_stepOf_97 rfl rfl ?_
    exact x_ireturn dX5_stepOf_99 ⟨.int, rfl, rfl⟩ k
  by_cases c40 : l0 = 16
  · replace k := k29 c40
    refine x_tin (tgt := 103) (off := 102) dX5_stepOf_1 h1 (by omega) (by omega) (by rw [c40]; rfl) (by decide) ?_
    refine x_iload_n (pc2 := 104) dX5_stepOf_103 rfl rfl ?_
    obtain ⟨g3, k⟩ := k
    have kj : S_X5_stepOf sc d 113 [aI l0, aI l1] [aI (if l1 = 0 then (-4) else 0 : Int)] m Q := by
      exact x_ireturn dX5_stepOf_113 ⟨.int, rfl, rfl⟩ k
    have h4 := g3 
    refine x_if_eq (tgt := 111) (pc2 := 107) dX5_stepOf_104 (by decide) rfl h4 (fun c5 => ?_) (fun c5 => ?_)
    · skip
      refine x_bipush (pc2 := 113) dX5_stepOf_111 rfl rfl ?_
      exact x_topI (if_pos c5) kj
    · skip
      refine x_iconst (pc2 := 108) dX5_stepOf_107 rfl ?_
      refine x_goto (tgt := 113) dX5_stepOf_108 (by decide) ?_
      exact x_topI (if_neg c5) kj
  by_cases c41 : l0 = 17
  · replace k := k30 c41
    refine x_tin (tgt := 100) (off := 99) dX5_stepOf_1 h1 (by omega) (by omega) (by rw [c41]; rfl) (by decide) ?_
    refine x_bipush (pc2 := 102) dX5_stepOf_100 rfl rfl ?_
    exact x_ireturn dX5_stepOf_102 ⟨.int, rfl, rfl⟩ k
  by_cases c42 : l0 = 18
  · replace k := k31 c42
    refine x_tin (tgt := 114) (off := 113) dX5_stepOf_1 h1 (by omega) (by omega) (by rw [c42]; rfl) (by decide) ?_
    refine x_iload_n (pc2 := 115) dX5_stepOf_114 rfl rfl ?_
    obtain ⟨g7, k⟩ := k
    have kj : S_X5_stepOf sc d 124 [aI l0, aI l1] [aI (if l1 = 0 then (-6) else 0 : Int)] m Q := by
      exact x_ireturn dX5_stepOf_124 ⟨.int, rfl, rfl⟩ k
    have h8 := g7 
    refine x_if_eq (tgt := 122) (pc2 := 118) dX5_stepOf_115 (by decide) rfl h8 (fun c9 => ?_) (fun c9 => ?_)
    · skip
      refine x_bipush (pc2 := 124) dX5_stepOf_122 rfl rfl ?_
      exact x_topI (if_pos c9) kj
    · skip
      refine x_iconst (pc2 := 119) dX5_stepOf_118 rfl ?_
      refine x_goto (tgt := 124) dX5_stepOf_119 (by decide) ?_
      exact x_topI (if_neg c9) kj
  by_cases c43 : l0 = 19
  · replace k := k32 c43
    refine x_tin (tgt := 125) (off := 124) dX5_stepOf_1 h1 (by omega) (by omega) (by rw [c43]; rfl) (by decide) ?_
    refine x_iload_n (pc2 := 126) dX5_stepOf_125 rfl rfl ?_
    obtain ⟨g11, k⟩ := k
    have kj : S_X5_stepOf sc d 135 [aI l0, aI l1] [aI (if l1 = 0 then (-7) else 0 : Int)] m Q := by
      exact x_ireturn dX5_stepOf_135 ⟨.int, rfl, rfl⟩ k
    have h12 := g11 
    refine x_if_eq (tgt := 133) (pc2 := 129) dX5_stepOf_126 (by decide) rfl h12 (fun c13 => ?_) (fun c13 => ?_)
    · skip
      refine x_bipush (pc2 := 135) dX5_stepOf_133 rfl rfl ?_
      exact x_topI (if_pos c13) kj
    · skip
      refine x_iconst (pc2 := 130) dX5_stepOf_129 rfl ?_
      refine x_goto (tgt := 135) dX5_stepOf_130 (by decide) ?_
      exact x_topI (if_neg c13) kj
  by_cases c44 : l0 = 20
  · replace k := k33 c44
    refine x_tin (tgt := 136) (off := 135) dX5_stepOf_1 h1 (by omega) (by omega) (by rw [c44]; rfl) (by decide) ?_
    refine x_iload_n (pc2 := 137) dX5_stepOf_136 rfl rfl ?_
    obtain ⟨g15, k⟩ := k
    have kj : S_X5_stepOf sc d 146 [aI l0, aI l1] [aI (if l1 = 0 then 0 else (-8) : Int)] m Q := by
      exact x_ireturn dX5_stepOf_146 ⟨.int, rfl, rfl⟩ k
    have h16 := g15 
    refine x_if_eq (tgt := 145) (pc2 := 140) dX5_stepOf_137 (by decide) rfl h16 (fun c17 => ?_) (fun c17 => ?_)
    · skip
      refine x_iconst (pc2 := 146) dX5_stepOf_145 rfl ?_
      exact x_topI (if_pos c17) kj
    · skip
      refine x_bipush (pc2 := 142) dX5_stepOf_140 rfl rfl ?_
      refine x_goto (tgt := 146) dX5_stepOf_142 (by decide) ?_
      exact x_topI (if_neg c17) kj
  by_cases c45 : l0 = 21
  · replace k := k34 c45
    refine x_tin (tgt := 147) (off := 146) dX5_stepOf_1 h1 (by omega) (by omega) (by rw [c45]; rfl) (by decide) ?_
    refine x_iload_n (pc2 := 148) dX5_stepOf_147 rfl rfl ?_
    obtain ⟨g19, k⟩ := k
    have kj : S_X5_stepOf sc d 157 [aI l0, aI l1] [aI (if l1 = 0 then 0 else (-9) : Int)] m Q := by
      exact x_ireturn dX5_stepOf_157 ⟨.int, rfl, rfl⟩ k
    have h20 := g19 
    refine x_if_eq (tgt := 156) (pc2 := 151) dX5_stepOf_148 (by decide) rfl h20 (fun c21 => ?_) (fun c21 => ?_)
    · skip
      refine x_iconst (pc2 := 157) dX5_stepOf_156 rfl ?_
      exact x_topI (if_pos c21) kj
    · skip
      refine x_bipush (pc2 := 153) dX5_stepOf_151 rfl rfl ?_
      refine x_goto (tgt := 157) dX5_stepOf_153 (by decide) ?_
      exact x_topI (if_neg c21) kj
  by_cases c46 : l0 = 22
  · replace k := k35 c46
    refine x_tin (tgt := 158) (off := 157) dX5_stepOf_1 h1 (by omega) (by omega) (by rw [c46]; rfl) (by decide) ?_
    refine x_iload_n (pc2 := 159) dX5_stepOf_158 rfl rfl ?_
    obtain ⟨g23, k⟩ := k
    have kj : S_X5_stepOf sc d 168 [aI l0, aI l1] [aI (if l1 = 0 then 0 else (-10) : Int)] m Q := by
      exact x_ireturn dX5_stepOf_168 ⟨.int, rfl, rfl⟩ k
    have h24 := g23 
    refine x_if_eq (tgt := 167) (pc2 := 162) dX5_stepOf_159 (by decide) rfl h24 (fun c25 => ?_) (fun c25 => ?_)
    · skip
      refine x_iconst (pc2 := 168) dX5_stepOf_167 rfl ?_
      exact x_topI (if_pos c25) kj
    · skip
      refine x_bipush (pc2 := 164) dX5_stepOf_162 rfl rfl ?_
      refine x_goto (tgt := 168) dX5_stepOf_164 (by decide) ?_
      exact x_topI (if_neg c25) kj
  replace k := k36 (by omega)
  have kd : S_X5_stepOf sc d 169 [aI l0, aI l1] [] m Q := by
    refine x_iconst (pc2 := 170) dX5_stepOf_169 rfl ?_
    exact x_ireturn dX5_stepOf_170 ⟨.int, rfl, rfl⟩ k
  by_cases c47 : l0 < 4 ∨ 22 < l0
  · exact x_tout (tgt := 169) dX5_stepOf_1 h1 c47 (by decide) kd
  by_cases c48 : l0 = 6
  · exact x_tin (tgt := 169) (off := 168) dX5_stepOf_1 h1 (by omega) (by omega) (by rw [c48]; rfl) (by decide) kd
  by_cases c49 : l0 = 7
  · exact x_tin (tgt := 169) (off := 168) dX5_stepOf_1 h1 (by omega) (by omega) (by rw [c49]; rfl) (by decide) kd
  by_cases c50 : l0 = 8
  · exact x_tin (tgt := 169) (off := 168) dX5_stepOf_1 h1 (by omega) (by omega) (by rw [c50]; rfl) (by decide) kd
  by_cases c51 : l0 = 9
  · exact x_tin (tgt := 169) (off := 168) dX5_stepOf_1 h1 (by omega) (by omega) (by rw [c51]; rfl) (by decide) kd
  by_cases c52 : l0 = 10
  · exact x_tin (tgt := 169) (off := 168) dX5_stepOf_1 h1 (by omega) (by omega) (by rw [c52]; rfl) (by decide) kd
  by_cases c53 : l0 = 11
  · exact x_tin (tgt := 169) (off := 168) dX5_stepOf_1 h1 (by omega) (by omega) (by rw [c53]; rfl) (by decide) kd
  by_cases c54 : l0 = 12
  · exact x_tin (tgt := 169) (off := 168) dX5_stepOf_1 h1 (by omega) (by omega) (by rw [c54]; rfl) (by decide) kd
  by_cases c55 : l0 = 13
  · exact x_tin (tgt := 169) (off := 168) dX5_stepOf_1 h1 (by omega) (by omega) (by rw [c55]; rfl) (by decide) kd
  by_cases c56 : l0 = 14
  · exact x_tin (tgt := 169) (off := 168) dX5_stepOf_1 h1 (by omega) (by omega) (by rw [c56]; rfl) (by decide) kd
  exact absurd c47 (by omega)
