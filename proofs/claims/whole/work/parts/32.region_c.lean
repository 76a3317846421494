set_option maxRecDepth 4000 in
theorem g_X0_forget_0 {sc : List Int} {d : Nat} {m : Mem} {Q : Option AV → Mem → Prop} (k : Q none (wr m 37 1 (-3))) : S_X0_forget sc d 0 [aR 37] [] m Q := by
  refine x_aload_n (pc2 := 1) dX0_forget_0 rfl rfl ?_
  refine x_bipush (pc2 := 3) dX0_forget_1 rfl rfl ?_
  refine x_putf (pc2 := 6) (x := (-3)) fl_X0_15 ft_0_1 ic_37 (pv_i _ ic_37 rfl) (pn_i _) dX0_forget_3 rfl ?_
  exact x_return dX0_forget_6 rfl k
set_option maxRecDepth 4000 in
theorem g_X0_thousandths_0 {sc : List Int} {d : Nat} {m : Mem} {Q : Option AV → Mem → Prop} {l0 : Int} (k : (-9223372036854775808 ≤ l0 ∧ l0 < 9223372036854775808) ∧ Q (some (aI (l0.tdiv 1000000000))) m) : S_X0_thousandths sc d 0 [aJ l0, aU] [] m Q := by
  refine x_lload_n (pc2 := 1) dX0_thousandths_0 rfl rfl ?_
  refine x_ldc2 (pc2 := 4) (x := 1000000000) kc_X0_19 rfl dX0_thousandths_1 rfl ?_
  obtain ⟨h1, k⟩ := k
  refine x_ldiv (pc2 := 5) dX0_thousandths_4 rfl h1 (by decide) (by decide) ?_
  refine x_l2i (pc2 := 6) dX0_thousandths_5 rfl ?_
  exact x_ireturn dX0_thousandths_6 ⟨.int, rfl, rfl⟩ k
set_option maxRecDepth 4000 in
theorem g_X0_expect_0 {sc : List Int} {d : Nat} {m : Mem} {Q : Option AV → Mem → Prop} {l1 l2 : Int} (Hl1 : RoomAt l1) (k : S_X0_expect sc d 3 [aR 37, aU, aU] [aI l2, aR l1, aR 37] m Q) : S_X0_expect sc d 0 [aR 37, aR l1, aI l2] [] m Q := by
  refine x_aload_n (pc2 := 1) dX0_expect_0 rfl rfl ?_
  refine x_aload_n (pc2 := 2) dX0_expect_1 rfl rfl ?_
  refine x_iload_n (pc2 := 3) dX0_expect_2 rfl rfl ?_
  exact x_drop (drp_k (drp_u (drp_u drp_n))) k
set_option maxRecDepth 4000 in
theorem g_X0_expect_6 {sc : List Int} {d : Nat} {m : Mem} {Q : Option AV → Mem → Prop} (k : Q (some (aJ (m 38 0))) m) : S_X0_expect sc d 6 [aR 37, aU, aU] [] m Q := by
  refine x_aload_n (pc2 := 7) dX0_expect_6 rfl rfl ?_
  refine x_getf (pc2 := 10) (v := aR 38) fl_X0_9 ic_37 (vr_37_0 _) dX0_expect_7 rfl ?_
  refine x_iconst (pc2 := 11) dX0_expect_10 rfl ?_
  refine x_lald (pc2 := 12) ic_38 (by decide) (by rw [al_38]; decide) dX0_expect_11 rfl ?_
  exact x_lreturn dX0_expect_12 rfl k
theorem c_X0_expect_3 {sc : List Int} {d d2 : Nat} {m m2 : Mem} {Q : Option AV → Mem → Prop} {s1 s2 : Int} (Hs1 : RoomAt s1) (hM : C_X0_prepare sc d2 [aR 37, aR s1, aI s2] m none m2) (hd : d2 + 1 ≤ d) (k : S_X0_expect sc d 6 [aR 37, aU, aU] [] m2 Q) : S_X0_expect sc d 3 [aR 37, aU, aU] [aI s2, aR s1, aR 37] m Q := x_callV (as := [aR s1, aI s2]) (rest := []) hM mk_X0_prepare mv_X0_prepare lk_X0_21 (Or.inl ⟨0, (RX0, TX0, 2), ic_37, Nat.le_of_ble_eq_true rfl, rfl, rfl⟩) hd rfl rfl (Nat.le_of_ble_eq_true rfl) dX0_expect_3 rfl k
set_option maxRecDepth 4000 in
theorem g_X0_prepare_0 {sc : List Int} {d : Nat} {m : Mem} {Q : Option AV → Mem → Prop} {l1 l2 : Int} (Hl1 : RoomAt l1) (k : (-2147483648 ≤ (m 37 1) ∧ (m 37 1) < 2147483648) ∧ (-2147483648 ≤ l2 ∧ l2 < 2147483648) ∧ (((m 37 1) = l2) → (Q none m)) ∧ (¬ ((m 37 1) = l2) → ((-2147483648 ≤ (m l1 8) ∧ (m l1 8) < 2147483648) ∧ (((m l1 8) ≤ 6) → ((0 ≤ (m l1 8)) ∧ ((m l1 8) < 7) ∧ S_X0_prepare sc d 32 [aR 37, aR l1, aI l2, aU, aI ((m l1 8) - 1)] [] (wr m 38 (m l1 8) 0) Q)) ∧ (¬ ((m l1 8) ≤ 6) → (Q none m))))) : S_X0_prepare sc d 0 [aR 37, aR l1, aI l2, aU, aU] [] m Q := by
  refine x_aload_n (pc2 := 1) dX0_prepare_0 rfl rfl ?_
  refine x_getf (pc2 := 4) (v := aI (m l1 8)) fl_X0_25 (icr_0 Hl1) (fv_i _ (icr_0 Hl1) rfl) dX0_prepare_1 rfl ?_
  refine x_istore_n (pc2 := 5) (ls2 := [aR 37, aR l1, aI l2, aI (m l1 8), aU]) dX0_prepare_4 rfl (by decide) rfl ?_
  refine x_aload_n (pc2 := 6) dX0_prepare_5 rfl rfl ?_
  refine x_getf (pc2 := 9) (v := aI (m 37 1)) fl_X0_15 ic_37 (fv_i _ ic_37 rfl) dX0_prepare_6 rfl ?_
  refine x_iload_n (pc2 := 10) dX0_prepare_9 rfl rfl ?_
  obtain ⟨h1, k⟩ := k
  obtain ⟨h2, k⟩ := k
  obtain ⟨k1, k2⟩ := k
  refine x_icmp_eq (tgt := 19) (pc2 := 13) dX0_prepare_10 (by decide) rfl h1 h2 (fun c3 => ?_) (fun c3 => ?_)
  · replace k := k1 c3
    exact x_return dX0_prepare_19 rfl k
  · replace k := k2 c3
    refine x_iload_n (pc2 := 14) dX0_prepare_13 rfl rfl ?_
    refine x_bipush (pc2 := 16) dX0_prepare_14 rfl rfl ?_
    obtain ⟨h4, k⟩ := k
    obtain ⟨k1, k2⟩ := k
    refine x_icmp_le (tgt := 20) (pc2 := 19) dX0_prepare_16 (by decide) rfl h4 (by decide) (fun c5 => ?_) (fun c5 => ?_)
    · replace k := k1 c5
      refine x_aload_n (pc2 := 21) dX0_prepare_20 rfl rfl ?_
      refine x_getf (pc2 := 24) (v := aR 38) fl_X0_9 ic_37 (vr_37_0 _) dX0_prepare_21 rfl ?_
      refine x_iload_n (pc2 := 25) dX0_prepare_24 rfl rfl ?_
      refine x_lconst (pc2 := 26) (v := 0) dX0_prepare_25 rfl rfl ?_
      obtain ⟨h6, k⟩ := k
      obtain ⟨h7, k⟩ := k
      refine x_last (pc2 := 27) ic_38 h6 (by rw [al_38]; exact h7) dX0_prepare_26 rfl ?_
      refine x_iload_n (pc2 := 28) dX0_prepare_27 rfl rfl ?_
      refine x_iconst (pc2 := 29) dX0_prepare_28 rfl ?_
      refine x_isub (pc2 := 30) dX0_prepare_29 rfl ?_
      refine x_istore (pc2 := 32) (ls2 := [aR 37, aR l1, aI l2, aI (m l1 8), aI ((m l1 8) - 1)]) dX0_prepare_30 rfl (by decide) rfl ?_
      exact x_drop (drp_k (drp_k (drp_k (drp_u (drp_k drp_n))))) k
    · replace k := k2 c5
      exact x_return dX0_prepare_19 rfl k
set_option maxRecDepth 4000 in
theorem g_X0_prepare_32 {sc : List Int} {d : Nat} {m : Mem} {Q : Option AV → Mem → Prop} {l1 l2 l4 : Int} (Hl1 : RoomAt l1) (k : (-2147483648 ≤ l4 ∧ l4 < 2147483648) ∧ ((l4 < 0) → (Q none (wr m 37 1 l2))) ∧ (¬ (l4 < 0) → (S_X0_prepare sc d 49 [aR 37, aR l1, aI l2, aU, aI l4] [aI 0, aI l4, aI l2, aR l1, aR 37, aI l4, aR 38] m Q))) : S_X0_prepare sc d 32 [aR 37, aR l1, aI l2, aU, aI l4] [] m Q := by
  refine x_iload (pc2 := 34) dX0_prepare_32 rfl rfl ?_
  obtain ⟨h1, k⟩ := k
  obtain ⟨k1, k2⟩ := k
  refine x_if_lt (tgt := 63) (pc2 := 37) dX0_prepare_34 (by decide) rfl h1 (fun c2 => ?_) (fun c2 => ?_)
  · replace k := k1 c2
    refine x_aload_n (pc2 := 64) dX0_prepare_63 rfl rfl ?_
    refine x_iload_n (pc2 := 65) dX0_prepare_64 rfl rfl ?_
    refine x_putf (pc2 := 68) (x := l2) fl_X0_15 ft_0_1 ic_37 (pv_i _ ic_37 rfl) (pn_i _) dX0_prepare_65 rfl ?_
    exact x_return dX0_prepare_68 rfl k
  · replace k := k2 c2
    refine x_aload_n (pc2 := 38) dX0_prepare_37 rfl rfl ?_
    refine x_getf (pc2 := 41) (v := aR 38) fl_X0_9 ic_37 (vr_37_0 _) dX0_prepare_38 rfl ?_
    refine x_iload (pc2 := 43) dX0_prepare_41 rfl rfl ?_
    refine x_aload_n (pc2 := 44) dX0_prepare_43 rfl rfl ?_
    refine x_aload_n (pc2 := 45) dX0_prepare_44 rfl rfl ?_
    refine x_iload_n (pc2 := 46) dX0_prepare_45 rfl rfl ?_
    refine x_iload (pc2 := 48) dX0_prepare_46 rfl rfl ?_
    refine x_iconst (pc2 := 49) dX0_prepare_48 rfl ?_
    exact k
set_option maxRecDepth 4000 in
theorem g_X0_prepare_52 {sc : List Int} {d : Nat} {m : Mem} {Q : Option AV → Mem → Prop} {l1 l2 l4 s0 s1 s2 : Int} (Hl1 : RoomAt l1) (Hs0 : IsC s0 101) (k : (-9223372036854775808 ≤ s2 ∧ s2 < 9223372036854775808) ∧ (0 ≤ s1) ∧ (s1 < alen s0) ∧ S_X0_prepare sc d 32 [aR 37, aR l1, aI l2, aU, aI (l4 + (-1))] [] (wr m s0 s1 (s2.tdiv 100)) Q) : S_X0_prepare sc d 52 [aR 37, aR l1, aI l2, aU, aI l4] [aJ s2, aI s1, aR s0] m Q := by
  refine x_ldc2 (pc2 := 55) (x := 100) kc_X0_34 rfl dX0_prepare_52 rfl ?_
  obtain ⟨h1, k⟩ := k
  refine x_ldiv (pc2 := 56) dX0_prepare_55 rfl h1 (by decide) (by decide) ?_
  obtain ⟨h2, k⟩ := k
  obtain ⟨h3, k⟩ := k
  refine x_last (pc2 := 57) Hs0 h2 h3 dX0_prepare_56 rfl ?_
  refine x_iinc (pc2 := 60) (ls2 := [aR 37, aR l1, aI l2, aU, aI (l4 + (-1))]) dX0_prepare_57 rfl rfl (by decide) rfl ?_
  refine x_goto (tgt := 32) dX0_prepare_60 (by decide) ?_
  exact k
theorem c_X0_prepare_49 {sc : List Int} {d d2 : Nat} {m m2 : Mem} {Q : Option AV → Mem → Prop} {l1 l2 l4 s0 s1 s3 s4 s5 s6 : Int} {v : Int} (Hl1 : RoomAt l1) (Hs0 : IsC s0 101) (Hs3 : RoomAt s3) (hM : C_X0_weigh sc d2 [aR 37, aR s3, aI s4, aI s5, aI s6] m (some (aJ v)) m2) (hd : d2 + 1 ≤ d) (k : S_X0_prepare sc d 52 [aR 37, aR l1, aI l2, aU, aI l4] [aJ v, aI s1, aR s0] m2 Q) : S_X0_prepare sc d 49 [aR 37, aR l1, aI l2, aU, aI l4] [aI s6, aI s5, aI s4, aR s3, aR 37, aI s1, aR s0] m Q := x_callV (as := [aR s3, aI s4, aI s5, aI s6]) (rest := [aI s1, aR s0]) hM mk_X0_weigh mv_X0_weigh lk_X0_30 (Or.inl ⟨0, (RX0, TX0, 2), ic_37, Nat.le_of_ble_eq_true rfl, rfl, rfl⟩) hd rfl rfl (Nat.le_of_ble_eq_true rfl) dX0_prepare_49 rfl k
set_option maxRecDepth 4000 in
theorem g_X0_weigh_0 {sc : List Int} {d : Nat} {m : Mem} {Q : Option AV → Mem → Prop} {l1 l2 l3 l4 : Int} (Hl1 : RoomAt l1) (k : S_X0_weigh sc d 11 [aR 37, aR l1, aI l2, aI l3, aI l4, aJ 0, aU, aI ((m l1 8) - 1), aU, aU, aU, aU, aU, aU, aU, aU, aU, aU, aU] [] m Q) : S_X0_weigh sc d 0 [aR 37, aR l1, aI l2, aI l3, aI l4, aU, aU, aU, aU, aU, aU, aU, aU, aU, aU, aU, aU, aU, aU] [] m Q := by
  refine x_lconst (pc2 := 1) (v := 0) dX0_weigh_0 rfl rfl ?_
  refine x_lstore (pc2 := 3) (ls2 := [aR 37, aR l1, aI l2, aI l3, aI l4, aJ 0, aU, aU, aU, aU, aU, aU, aU, aU, aU, aU, aU, aU, aU]) dX0_weigh_1 rfl (by decide) rfl ?_
  refine x_aload_n (pc2 := 4) dX0_weigh_3 rfl rfl ?_
  refine x_getf (pc2 := 7) (v := aI (m l1 8)) fl_X0_25 (icr_0 Hl1) (fv_i _ (icr_0 Hl1) rfl) dX0_weigh_4 rfl ?_
  refine x_iconst (pc2 := 8) dX0_weigh_7 rfl ?_
  refine x_isub (pc2 := 9) dX0_weigh_8 rfl ?_
  refine x_istore (pc2 := 11) (ls2 := [aR 37, aR l1, aI l2, aI l3, aI l4, aJ 0, aU, aI ((m l1 8) - 1), aU, aU, aU, aU, aU, aU, aU, aU, aU, aU, aU]) dX0_weigh_9 rfl (by decide) rfl ?_
  exact k
set_option maxRecDepth 4000 in
theorem g_X0_weigh_11 {sc : List Int} {d : Nat} {m : Mem} {Q : Option AV → Mem → Prop} {l1 l2 l3 l4 l5 l7 : Int} (Hl1 : RoomAt l1) (k : (-2147483648 ≤ l7 ∧ l7 < 2147483648) ∧ (-2147483648 ≤ l3 ∧ l3 < 2147483648) ∧ ((l7 < l3) → (Q (some (aJ l5)) m)) ∧ (¬ (l7 < l3) → ((0 ≤ l7) ∧ (l7 < 11) ∧ (0 ≤ l3) ∧ (l3 < 11) ∧ S_X0_weigh sc d 39 [aR 37, aR l1, aI l2, aI l3, aI l4, aJ l5, aU, aI l7, aI ((l4 + (m (l1 + 7) l7)) - (m (l1 + 7) l3)), aU, aU, aU, aU, aU, aU, aU, aU, aU, aU] [aI ((l4 + (m (l1 + 7) l7)) - (m (l1 + 7) l3)), aR l1] m Q))) : S_X0_weigh sc d 11 [aR 37, aR l1, aI l2, aI l3, aI l4, aJ l5, aU, aI l7, aU, aU, aU, aU, aU, aU, aU, aU, aU, aU, aU] [] m Q := by
  refine x_iload (pc2 := 13) dX0_weigh_11 rfl rfl ?_
  refine x_iload_n (pc2 := 14) dX0_weigh_13 rfl rfl ?_
  obtain ⟨h1, k⟩ := k
  obtain ⟨h2, k⟩ := k
  obtain ⟨k1, k2⟩ := k
  refine x_icmp_lt (tgt := 213) (pc2 := 17) dX0_weigh_14 (by decide) rfl h1 h2 (fun c3 => ?_) (fun c3 => ?_)
  · replace k := k1 c3
    refine x_lload (pc2 := 215) dX0_weigh_213 rfl rfl ?_
    exact x_lreturn dX0_weigh_215 rfl k
  · replace k := k2 c3
    refine x_iload (pc2 := 19) dX0_weigh_17 rfl rfl ?_
    refine x_aload_n (pc2 := 20) dX0_weigh_19 rfl rfl ?_
    refine x_getf (pc2 := 23) (v := aR (l1 + 7)) fl_X0_36 (icr_0 Hl1) (vrr_7 _ Hl1) dX0_weigh_20 rfl ?_
    refine x_iload (pc2 := 25) dX0_weigh_23 rfl rfl ?_
    obtain ⟨h4, k⟩ := k
    obtain ⟨h5, k⟩ := k
    refine x_iald (pc2 := 26) (icr_7 Hl1) h4 (by rw [(alr_7 Hl1)]; exact h5) dX0_weigh_25 rfl ?_
    refine x_iadd (pc2 := 27) dX0_weigh_26 rfl ?_
    refine x_aload_n (pc2 := 28) dX0_weigh_27 rfl rfl ?_
    refine x_getf (pc2 := 31) (v := aR (l1 + 7)) fl_X0_36 (icr_0 Hl1) (vrr_7 _ Hl1) dX0_weigh_28 rfl ?_
    refine x_iload_n (pc2 := 32) dX0_weigh_31 rfl rfl ?_
    obtain ⟨h6, k⟩ := k
    obtain ⟨h7, k⟩ := k
    refine x_iald (pc2 := 33) (icr_7 Hl1) h6 (by rw [(alr_7 Hl1)]; exact h7) dX0_weigh_32 rfl ?_
    refine x_isub (pc2 := 34) dX0_weigh_33 rfl ?_
    refine x_istore (pc2 := 36) (ls2 := [aR 37, aR l1, aI l2, aI l3, aI l4, aJ l5, aU, aI l7, aI ((l4 + (m (l1 + 7) l7)) - (m (l1 + 7) l3)), aU, aU, aU, aU, aU, aU, aU, aU, aU, aU]) dX0_weigh_34 rfl (by decide) rfl ?_
    refine x_aload_n (pc2 := 37) dX0_weigh_36 rfl rfl ?_
    refine x_iload (pc2 := 39) dX0_weigh_37 rfl rfl ?_
    exact k
set_option maxRecDepth 4000 in
theorem g_X0_weigh_42 {sc : List Int} {d : Nat} {m : Mem} {Q : Option AV → Mem → Prop} {l1 l2 l3 l4 l5 l7 l8 s0 : Int} (Hl1 : RoomAt l1) (k : (-2147483648 ≤ s0 ∧ s0 < 2147483648) ∧ (0 ≤ l7) ∧ (l7 < 10) ∧ S_X0_weigh sc d 58 [aR 37, aR l1, aI l2, aI l3, aI l4, aJ l5, aU, aI l7, aI l8, aJ s0, aU, aU, aU, aU, aU, aU, aU, aU, aU] [aI (l8 + (m (l1 + 3) l7)), aR l1, aJ s0] m Q) : S_X0_weigh sc d 42 [aR 37, aR l1, aI l2, aI l3, aI l4, aJ l5, aU, aI l7, aI l8, aU, aU, aU, aU, aU, aU, aU, aU, aU, aU] [aI s0] m Q := by
  obtain ⟨h1, k⟩ := k
  refine x_i2l (pc2 := 43) dX0_weigh_42 rfl h1 ?_
  refine x_lstore (pc2 := 45) (ls2 := [aR 37, aR l1, aI l2, aI l3, aI l4, aJ l5, aU, aI l7, aI l8, aJ s0, aU, aU, aU, aU, aU, aU, aU, aU, aU]) dX0_weigh_43 rfl (by decide) rfl ?_
  refine x_lload (pc2 := 47) dX0_weigh_45 rfl rfl ?_
  refine x_aload_n (pc2 := 48) dX0_weigh_47 rfl rfl ?_
  refine x_iload (pc2 := 50) dX0_weigh_48 rfl rfl ?_
  refine x_aload_n (pc2 := 51) dX0_weigh_50 rfl rfl ?_
  refine x_getf (pc2 := 54) (v := aR (l1 + 3)) fl_X0_44 (icr_0 Hl1) (vrr_3 _ Hl1) dX0_weigh_51 rfl ?_
  refine x_iload (pc2 := 56) dX0_weigh_54 rfl rfl ?_
  obtain ⟨h2, k⟩ := k
  obtain ⟨h3, k⟩ := k
  refine x_iald (pc2 := 57) (icr_3 Hl1) h2 (by rw [(alr_3 Hl1)]; exact h3) dX0_weigh_56 rfl ?_
  refine x_iadd (pc2 := 58) dX0_weigh_57 rfl ?_
  exact k
set_option maxRecDepth 4000 in
theorem g_X0_weigh_61 {sc : List Int} {d : Nat} {m : Mem} {Q : Option AV → Mem → Prop} {l1 l2 l3 l4 l5 l7 l8 l9 s0 s1 : Int} (Hl1 : RoomAt l1) (k : (-2147483648 ≤ s1 ∧ s1 < 2147483648) ∧ S_X0_weigh sc d 73 [aR 37, aR l1, aI l2, aI l3, aI l4, aJ l5, aU, aI l7, aI l8, aJ l9, aU, aJ (s0 - s1), aU, aU, aU, aU, aU, aU, aU] [aI l7, aR l1, aR 37, aJ (s0 - s1), aJ l5] m Q) : S_X0_weigh sc d 61 [aR 37, aR l1, aI l2, aI l3, aI l4, aJ l5, aU, aI l7, aI l8, aJ l9, aU, aU, aU, aU, aU, aU, aU, aU, aU] [aI s1, aJ s0] m Q := by
  obtain ⟨h1, k⟩ := k
  refine x_i2l (pc2 := 62) dX0_weigh_61 rfl h1 ?_
  refine x_lsub (pc2 := 63) dX0_weigh_62 rfl ?_
  refine x_lstore (pc2 := 65) (ls2 := [aR 37, aR l1, aI l2, aI l3, aI l4, aJ l5, aU, aI l7, aI l8, aJ l9, aU, aJ (s0 - s1), aU, aU, aU, aU, aU, aU, aU]) dX0_weigh_63 rfl (by decide) rfl ?_
  refine x_lload (pc2 := 67) dX0_weigh_65 rfl rfl ?_
  refine x_lload (pc2 := 69) dX0_weigh_67 rfl rfl ?_
  refine x_aload_n (pc2 := 70) dX0_weigh_69 rfl rfl ?_
  refine x_aload_n (pc2 := 71) dX0_weigh_70 rfl rfl ?_
  refine x_iload (pc2 := 73) dX0_weigh_71 rfl rfl ?_
  exact k
set_option maxRecDepth 4000 in
theorem g_X0_weigh_76 {sc : List Int} {d : Nat} {m : Mem} {Q : Option AV → Mem → Prop} {l1 l2 l3 l4 l5 l7 l8 l9 l11 s0 s1 s2 : Int} (Hl1 : RoomAt l1) (k : (-2147483648 ≤ l8 ∧ l8 < 2147483648) ∧ ((l8 ≠ 0) → (S_X0_weigh sc d 98 [aR 37, aR l1, aI l2, aI l3, aI l4, aJ l5, aU, aI l7, aI l8, aJ l9, aU, aJ l11, aU, aJ (s0 + (s1 * s2)), aU, aU, aU, aU, aU] [aI l7, aR l1, aR 37, aJ l9] m Q)) ∧ (¬ (l8 ≠ 0) → (S_X0_weigh sc d 11 [aR 37, aR l1, aI l2, aI l3, aI l4, aJ (s0 + (s1 * s2)), aU, aI (l7 + (-1)), aU, aU, aU, aU, aU, aU, aU, aU, aU, aU, aU] [] m Q))) : S_X0_weigh sc d 76 [aR 37, aR l1, aI l2, aI l3, aI l4, aJ l5, aU, aI l7, aI l8, aJ l9, aU, aJ l11, aU, aU, aU, aU, aU, aU, aU] [aJ s2, aJ s1, aJ s0] m Q := by
  refine x_lmul (pc2 := 77) dX0_weigh_76 rfl ?_
  refine x_ladd (pc2 := 78) dX0_weigh_77 rfl ?_
  refine x_lstore (pc2 := 80) (ls2 := [aR 37, aR l1, aI l2, aI l3, aI l4, aJ l5, aU, aI l7, aI l8, aJ l9, aU, aJ l11, aU, aJ (s0 + (s1 * s2)), aU, aU, aU, aU, aU]) dX0_weigh_78 rfl (by decide) rfl ?_
  refine x_iload (pc2 := 82) dX0_weigh_80 rfl rfl ?_
  obtain ⟨h1, k⟩ := k
  obtain ⟨k1, k2⟩ := k
  refine x_if_ne (tgt := 92) (pc2 := 85) dX0_weigh_82 (by decide) rfl h1 (fun c2 => ?_) (fun c2 => ?_)
  · replace k := k1 c2
    refine x_lload (pc2 := 94) dX0_weigh_92 rfl rfl ?_
    refine x_aload_n (pc2 := 95) dX0_weigh_94 rfl rfl ?_
    refine x_aload_n (pc2 := 96) dX0_weigh_95 rfl rfl ?_
    refine x_iload (pc2 := 98) dX0_weigh_96 rfl rfl ?_
    exact k
  · replace k := k2 c2
    refine x_lload (pc2 := 87) dX0_weigh_85 rfl rfl ?_
    refine x_lstore (pc2 := 89) (ls2 := [aR 37, aR l1, aI l2, aI l3, aI l4, aJ (s0 + (s1 * s2)), aU, aI l7, aI l8, aJ l9, aU, aJ l11, aU, aJ (s0 + (s1 * s2)), aU, aU, aU, aU, aU]) dX0_weigh_87 rfl (by decide) rfl ?_
    refine x_goto (tgt := 207) dX0_weigh_89 (by decide) ?_
    refine x_iinc (pc2 := 210) (ls2 := [aR 37, aR l1, aI l2, aI l3, aI l4, aJ (s0 + (s1 * s2)), aU, aI (l7 + (-1)), aI l8, aJ l9, aU, aJ l11, aU, aJ (s0 + (s1 * s2)), aU, aU, aU, aU, aU]) dX0_weigh_207 rfl rfl (by decide) rfl ?_
    refine x_goto (tgt := 11) dX0_weigh_210 (by decide) ?_
    exact x_drop (drp_k (drp_k (drp_k (drp_k (drp_k (drp_k (drp_k (drp_k (drp_u (drp_u (drp_k (drp_u (drp_k (drp_u (drp_k (drp_k (drp_k (drp_k (drp_k drp_n))))))))))))))))))) k
set_option maxRecDepth 4000 in
theorem g_X0_weigh_101 {sc : List Int} {d : Nat} {m : Mem} {Q : Option AV → Mem → Prop} {l1 l2 l3 l4 l5 l7 l8 l9 l11 l13 s0 s1 : Int} (Hl1 : RoomAt l1) (k : (-2147483648 ≤ (m (l1 + 13) 2) ∧ (m (l1 + 13) 2) < 2147483648) ∧ S_X0_weigh sc d 127 [aR 37, aR l1, aI l2, aI l3, aI l4, aU, aU, aI l7, aI l8, aU, aU, aU, aU, aJ l13, aU, aJ (s0 * s1), aU, aU, aU] [aI l7, aR l1, aR 37, aJ l11, aJ (((l9 * (m (l1 + 13) 2)) * 1000000000000) + l5)] m Q) : S_X0_weigh sc d 101 [aR 37, aR l1, aI l2, aI l3, aI l4, aJ l5, aU, aI l7, aI l8, aJ l9, aU, aJ l11, aU, aJ l13, aU, aU, aU, aU, aU] [aJ s1, aJ s0] m Q := by
  refine x_lmul (pc2 := 102) dX0_weigh_101 rfl ?_
  refine x_lstore (pc2 := 104) (ls2 := [aR 37, aR l1, aI l2, aI l3, aI l4, aJ l5, aU, aI l7, aI l8, aJ l9, aU, aJ l11, aU, aJ l13, aU, aJ (s0 * s1), aU, aU, aU]) dX0_weigh_102 rfl (by decide) rfl ?_
  refine x_lload (pc2 := 106) dX0_weigh_104 rfl rfl ?_
  refine x_aload_n (pc2 := 107) dX0_weigh_106 rfl rfl ?_
  refine x_getf (pc2 := 110) (v := aR (l1 + 13)) fl_X0_54 (icr_0 Hl1) (vrr_13 _ Hl1) dX0_weigh_107 rfl ?_
  refine x_iconst (pc2 := 111) dX0_weigh_110 rfl ?_
  refine x_iald (pc2 := 112) (icr_13 Hl1) (by decide) (by rw [(alr_13 Hl1)]; decide) dX0_weigh_111 rfl ?_
  obtain ⟨h1, k⟩ := k
  refine x_i2l (pc2 := 113) dX0_weigh_112 rfl h1 ?_
  refine x_lmul (pc2 := 114) dX0_weigh_113 rfl ?_
  refine x_ldc2 (pc2 := 117) (x := 1000000000000) kc_X0_57 rfl dX0_weigh_114 rfl ?_
  refine x_lmul (pc2 := 118) dX0_weigh_117 rfl ?_
  refine x_lload (pc2 := 120) dX0_weigh_118 rfl rfl ?_
  refine x_ladd (pc2 := 121) dX0_weigh_120 rfl ?_
  refine x_lload (pc2 := 123) dX0_weigh_121 rfl rfl ?_
  refine x_aload_n (pc2 := 124) dX0_weigh_123 rfl rfl ?_
  refine x_aload_n (pc2 := 125) dX0_weigh_124 rfl rfl ?_
  refine x_iload (pc2 := 127) dX0_weigh_125 rfl rfl ?_
  exact x_drop (drp_k (drp_k (drp_k (drp_k (drp_k (drp_u (drp_k (drp_k (drp_k (drp_u (drp_k (drp_u (drp_k (drp_k (drp_k (drp_k (drp_k (drp_k (drp_k drp_n))))))))))))))))))) k
set_option maxRecDepth 4000 in
theorem g_X0_weigh_130 {sc : List Int} {d : Nat} {m : Mem} {Q : Option AV → Mem → Prop} {l1 l2 l3 l4 l7 l8 l13 l15 s0 s1 s2 : Int} (Hl1 : RoomAt l1) (k : (-2147483648 ≤ l2 ∧ l2 < 2147483648) ∧ ((l2 ≠ 2) → (((l2 ≠ 3) → (((l2 ≠ (-2)) → (S_X0_weigh sc d 192 [aR 37, aR l1, aI l2, aI l3, aI l4, aU, aU, aI l7, aU, aU, aU, aU, aU, aJ l13, aU, aJ l15, aU, aU, aU] [aI l8, aI l7, aI l2, aR l1] m Q)) ∧ (¬ (l2 ≠ (-2)) → (S_X0_weigh sc d 175 [aR 37, aR l1, aI l2, aI l3, aI l4, aU, aU, aI l7, aU, aU, aU, aU, aU, aU, aU, aU, aU, aU, aU] [aJ l15, aJ l13, aJ (s0 + (s1 * s2))] m Q)))) ∧ (¬ (l2 ≠ 3) → (S_X0_weigh sc d 155 [aR 37, aR l1, aI l2, aI l3, aI l4, aU, aU, aI l7, aU, aU, aU, aU, aU, aU, aU, aU, aU, aU, aU] [aJ l15, aJ l13] m Q)))) ∧ (¬ (l2 ≠ 2) → (S_X0_weigh sc d 11 [aR 37, aR l1, aI l2, aI l3, aI l4, aJ (s0 + (s1 * s2)), aU, aI (l7 + (-1)), aU, aU, aU, aU, aU, aU, aU, aU, aU, aU, aU] [] m Q))) : S_X0_weigh sc d 130 [aR 37, aR l1, aI l2, aI l3, aI l4, aU, aU, aI l7, aI l8, aU, aU, aU, aU, aJ l13, aU, aJ l15, aU, aU, aU] [aJ s2, aJ s1, aJ s0] m Q := by
  refine x_lmul (pc2 := 131) dX0_weigh_130 rfl ?_
  refine x_ladd (pc2 := 132) dX0_weigh_131 rfl ?_
  refine x_lstore (pc2 := 134) (ls2 := [aR 37, aR l1, aI l2, aI l3, aI l4, aU, aU, aI l7, aI l8, aU, aU, aU, aU, aJ l13, aU, aJ l15, aU, aJ (s0 + (s1 * s2)), aU]) dX0_weigh_132 rfl (by decide) rfl ?_
  refine x_iload_n (pc2 := 135) dX0_weigh_134 rfl rfl ?_
  refine x_iconst (pc2 := 136) dX0_weigh_135 rfl ?_
  obtain ⟨h1, k⟩ := k
  obtain ⟨k1, k2⟩ := k
  refine x_icmp_ne (tgt := 146) (pc2 := 139) dX0_weigh_136 (by decide) rfl h1 (by decide) (fun c2 => ?_) (fun c2 => ?_)
  · replace k := k1 c2
    refine x_iload_n (pc2 := 147) dX0_weigh_146 rfl rfl ?_
    refine x_iconst (pc2 := 148) dX0_weigh_147 rfl ?_
    obtain ⟨k1, k2⟩ := k
    refine x_icmp_ne (tgt := 163) (pc2 := 151) dX0_weigh_148 (by decide) rfl h1 (by decide) (fun c3 => ?_) (fun c3 => ?_)
    · replace k := k1 c3
      refine x_iload_n (pc2 := 164) dX0_weigh_163 rfl rfl ?_
      refine x_bipush (pc2 := 166) dX0_weigh_164 rfl rfl ?_
      obtain ⟨k1, k2⟩ := k
      refine x_icmp_ne (tgt := 186) (pc2 := 169) dX0_weigh_166 (by decide) rfl h1 (by decide) (fun c4 => ?_) (fun c4 => ?_)
      · replace k := k1 c4
        refine x_aload_n (pc2 := 187) dX0_weigh_186 rfl rfl ?_
        refine x_iload_n (pc2 := 188) dX0_weigh_187 rfl rfl ?_
        refine x_iload (pc2 := 190) dX0_weigh_188 rfl rfl ?_
        refine x_iload (pc2 := 192) dX0_weigh_190 rfl rfl ?_
        exact x_drop (drp_k (drp_k (drp_k (drp_k (drp_k (drp_k (drp_k (drp_k (drp_u (drp_k (drp_k (drp_k (drp_k (drp_k (drp_k (drp_k (drp_k (drp_u (drp_k drp_n))))))))))))))))))) k
      · replace k := k2 c4
        refine x_lload (pc2 := 171) dX0_weigh_169 rfl rfl ?_
        refine x_lload (pc2 := 173) dX0_weigh_171 rfl rfl ?_
        refine x_lload (pc2 := 175) dX0_weigh_173 rfl rfl ?_
        exact x_drop (drp_k (drp_k (drp_k (drp_k (drp_k (drp_k (drp_k (drp_k (drp_u (drp_k (drp_k (drp_k (drp_k (drp_u (drp_k (drp_u (drp_k (drp_u (drp_k drp_n))))))))))))))))))) k
    · replace k := k2 c3
      refine x_lload (pc2 := 153) dX0_weigh_151 rfl rfl ?_
      refine x_lload (pc2 := 155) dX0_weigh_153 rfl rfl ?_
      exact x_drop (drp_k (drp_k (drp_k (drp_k (drp_k (drp_k (drp_k (drp_k (drp_u (drp_k (drp_k (drp_k (drp_k (drp_u (drp_k (drp_u (drp_k (drp_u (drp_k drp_n))))))))))))))))))) k
  · replace k := k2 c2
    refine x_lload (pc2 := 141) dX0_weigh_139 rfl rfl ?_
    refine x_lstore (pc2 := 143) (ls2 := [aR 37, aR l1, aI l2, aI l3, aI l4, aJ (s0 + (s1 * s2)), aU, aI l7, aI l8, aU, aU, aU, aU, aJ l13, aU, aJ l15, aU, aJ (s0 + (s1 * s2)), aU]) dX0_weigh_141 rfl (by decide) rfl ?_
    refine x_goto (tgt := 207) dX0_weigh_143 (by decide) ?_
    refine x_iinc (pc2 := 210) (ls2 := [aR 37, aR l1, aI l2, aI l3, aI l4, aJ (s0 + (s1 * s2)), aU, aI (l7 + (-1)), aI l8, aU, aU, aU, aU, aJ l13, aU, aJ l15, aU, aJ (s0 + (s1 * s2)), aU]) dX0_weigh_207 rfl rfl (by decide) rfl ?_
    refine x_goto (tgt := 11) dX0_weigh_210 (by decide) ?_
    exact x_drop (drp_k (drp_k (drp_k (drp_k (drp_k (drp_k (drp_k (drp_k (drp_u (drp_k (drp_k (drp_k (drp_k (drp_u (drp_k (drp_u (drp_k (drp_u (drp_k drp_n))))))))))))))))))) k
set_option maxRecDepth 4000 in
theorem g_X0_weigh_158 {sc : List Int} {d : Nat} {m : Mem} {Q : Option AV → Mem → Prop} {l1 l2 l3 l4 l7 s0 : Int} (Hl1 : RoomAt l1) (k : S_X0_weigh sc d 11 [aR 37, aR l1, aI l2, aI l3, aI l4, aJ s0, aU, aI (l7 + (-1)), aU, aU, aU, aU, aU, aU, aU, aU, aU, aU, aU] [] m Q) : S_X0_weigh sc d 158 [aR 37, aR l1, aI l2, aI l3, aI l4, aU, aU, aI l7, aU, aU, aU, aU, aU, aU, aU, aU, aU, aU, aU] [aJ s0] m Q := by
  refine x_lstore (pc2 := 160) (ls2 := [aR 37, aR l1, aI l2, aI l3, aI l4, aJ s0, aU, aI l7, aU, aU, aU, aU, aU, aU, aU, aU, aU, aU, aU]) dX0_weigh_158 rfl (by decide) rfl ?_
  refine x_goto (tgt := 207) dX0_weigh_160 (by decide) ?_
  refine x_iinc (pc2 := 210) (ls2 := [aR 37, aR l1, aI l2, aI l3, aI l4, aJ s0, aU, aI (l7 + (-1)), aU, aU, aU, aU, aU, aU, aU, aU, aU, aU, aU]) dX0_weigh_207 rfl rfl (by decide) rfl ?_
  refine x_goto (tgt := 11) dX0_weigh_210 (by decide) ?_
  exact k
set_option maxRecDepth 4000 in
theorem g_X0_weigh_178 {sc : List Int} {d : Nat} {m : Mem} {Q : Option AV → Mem → Prop} {l1 l2 l3 l4 l7 s0 s1 : Int} (Hl1 : RoomAt l1) (k : S_X0_weigh sc d 178 [aR 37, aR l1, aI l2, aI l3, aI l4, aU, aU, aI l7, aU, aU, aU, aU, aU, aU, aU, aU, aU, aU, aU] [aJ s1, aJ s0] m Q) : S_X0_weigh sc d 178 [aR 37, aR l1, aI l2, aI l3, aI l4, aU, aU, aI l7, aU, aU, aU, aU, aU, aU, aU, aU, aU, aU, aU] [aJ s1, aJ s0] m Q := by
  exact k
set_option maxRecDepth 4000 in
theorem g_X0_weigh_181 {sc : List Int} {d : Nat} {m : Mem} {Q : Option AV → Mem → Prop} {l1 l2 l3 l4 l7 s0 : Int} (Hl1 : RoomAt l1) (k : S_X0_weigh sc d 11 [aR 37, aR l1, aI l2, aI l3, aI l4, aJ s0, aU, aI (l7 + (-1)), aU, aU, aU, aU, aU, aU, aU, aU, aU, aU, aU] [] m Q) : S_X0_weigh sc d 181 [aR 37, aR l1, aI l2, aI l3, aI l4, aU, aU, aI l7, aU, aU, aU, aU, aU, aU, aU, aU, aU, aU, aU] [aJ s0] m Q := by
  refine x_lstore (pc2 := 183) (ls2 := [aR 37, aR l1, aI l2, aI l3, aI l4, aJ s0, aU, aI l7, aU, aU, aU, aU, aU, aU, aU, aU, aU, aU, aU]) dX0_weigh_181 rfl (by decide) rfl ?_
  refine x_goto (tgt := 207) dX0_weigh_183 (by decide) ?_
  refine x_iinc (pc2 := 210) (ls2 := [aR 37, aR l1, aI l2, aI l3, aI l4, aJ s0, aU, aI (l7 + (-1)), aU, aU, aU, aU, aU, aU, aU, aU, aU, aU, aU]) dX0_weigh_207 rfl rfl (by decide) rfl ?_
  refine x_goto (tgt := 11) dX0_weigh_210 (by decide) ?_
  exact k
set_option maxRecDepth 4000 in
theorem g_X0_weigh_195 {sc : List Int} {d : Nat} {m : Mem} {Q : Option AV → Mem → Prop} {l1 l2 l3 l4 l7 l13 l15 s0 : Int} (Hl1 : RoomAt l1) (k : ((-2147483648 ≤ s0 ∧ s0 < 2147483648)) ∧ S_X0_weigh sc d 11 [aR 37, aR l1, aI l2, aI l3, aI l4, aJ (if s0 = 0 then l13 else l15 : Int), aU, aI (l7 + (-1)), aU, aU, aU, aU, aU, aU, aU, aU, aU, aU, aU] [] m Q) : S_X0_weigh sc d 195 [aR 37, aR l1, aI l2, aI l3, aI l4, aU, aU, aI l7, aU, aU, aU, aU, aU, aJ l13, aU, aJ l15, aU, aU, aU] [aI s0] m Q := by
  obtain ⟨g2, k⟩ := k
  have kj : S_X0_weigh sc d 205 [aR 37, aR l1, aI l2, aI l3, aI l4, aU, aU, aI l7, aU, aU, aU, aU, aU, aJ l13, aU, aJ l15, aU, aU, aU] [aJ (if s0 = 0 then l13 else l15 : Int)] m Q := by
    refine x_lstore (pc2 := 207) (ls2 := [aR 37, aR l1, aI l2, aI l3, aI l4, aJ (if s0 = 0 then l13 else l15 : Int), aU, aI l7, aU, aU, aU, aU, aU, aJ l13, aU, aJ l15, aU, aU, aU]) dX0_weigh_205 rfl (by decide) rfl ?_
    refine x_iinc (pc2 := 210) (ls2 := [aR 37, aR l1, aI l2, aI l3, aI l4, aJ (if s0 = 0 then l13 else l15 : Int), aU, aI (l7 + (-1)), aU, aU, aU, aU, aU, aJ l13, aU, aJ l15, aU, aU, aU]) dX0_weigh_207 rfl rfl (by decide) rfl ?_
    refine x_goto (tgt := 11) dX0_weigh_210 (by decide) ?_
    exact x_drop (drp_k (drp_k (drp_k (drp_k (drp_k (drp_k (drp_k (drp_k (drp_k (drp_k (drp_k (drp_k (drp_k (drp_u (drp_k (drp_u (drp_k (drp_k (drp_k drp_n))))))))))))))))))) k
  have h3 := g2 
  refine x_if_eq (tgt := 203) (pc2 := 198) dX0_weigh_195 (by decide) rfl h3 (fun c4 => ?_) (fun c4 => ?_)
  · skip
    refine x_lload (pc2 := 205) dX0_weigh_203 rfl rfl ?_
    exact x_topJ (if_pos c4) kj
  · skip
    refine x_lload (pc2 := 200) dX0_weigh_198 rfl rfl ?_
    refine x_goto (tgt := 205) dX0_weigh_200 (by decide) ?_
    exact x_topJ (if_neg c4) kj
theorem c_X0_weigh_39 {sc : List Int} {d d2 : Nat} {m m2 : Mem} {Q : Option AV → Mem → Prop} {l1 l2 l3 l4 l5 l7 l8 s0 s1 : Int} {v : Int} (Hl1 : RoomAt l1) (Hs0 : RoomAt s0) (hM : C_X6_oddsOf sc d2 [aR s0, aI s1] m (some (aI v)) m2) (hd : d2 + 1 ≤ d) (k : S_X0_weigh sc d 42 [aR 37, aR l1, aI l2, aI l3, aI l4, aJ l5, aU, aI l7, aI l8, aU, aU, aU, aU, aU, aU, aU, aU, aU, aU] [aI v] m2 Q) : S_X0_weigh sc d 39 [aR 37, aR l1, aI l2, aI l3, aI l4, aJ l5, aU, aI l7, aI l8, aU, aU, aU, aU, aU, aU, aU, aU, aU, aU] [aI s1, aR s0] m Q := x_callV (as := [aI s1]) (rest := []) hM mk_X6_oddsOf mv_X6_oddsOf lk_X0_40 (Or.inl ⟨6, (RX6, TX6, 16), icr_0 Hs0, Nat.le_of_ble_eq_true rfl, rfl, rfl⟩) hd rfl rfl (Nat.le_of_ble_eq_true rfl) dX0_weigh_39 rfl k
theorem c_X0_weigh_58 {sc : List Int} {d d2 : Nat} {m m2 : Mem} {Q : Option AV → Mem → Prop} {l1 l2 l3 l4 l5 l7 l8 l9 s0 s1 s2 : Int} {v : Int} (Hl1 : RoomAt l1) (Hs1 : RoomAt s1) (hM : C_X6_oddsOf sc d2 [aR s1, aI s2] m (some (aI v)) m2) (hd : d2 + 1 ≤ d) (k : S_X0_weigh sc d 61 [aR 37, aR l1, aI l2, aI l3, aI l4, aJ l5, aU, aI l7, aI l8, aJ l9, aU, aU, aU, aU, aU, aU, aU, aU, aU] [aI v, aJ s0] m2 Q) : S_X0_weigh sc d 58 [aR 37, aR l1, aI l2, aI l3, aI l4, aJ l5, aU, aI l7, aI l8, aJ l9, aU, aU, aU, aU, aU, aU, aU, aU, aU] [aI s2, aR s1, aJ s0] m Q := x_callV (as := [aI s2]) (rest := [aJ s0]) hM mk_X6_oddsOf mv_X6_oddsOf lk_X0_40 (Or.inl ⟨6, (RX6, TX6, 16), icr_0 Hs1, Nat.le_of_ble_eq_true rfl, rfl, rfl⟩) hd rfl rfl (Nat.le_of_ble_eq_true rfl) dX0_weigh_58 rfl k
theorem c_X0_weigh_73 {sc : List Int} {d d2 : Nat} {m m2 : Mem} {Q : Option AV → Mem → Prop} {l1 l2 l3 l4 l5 l7 l8 l9 l11 s0 s1 s3 s4 : Int} {v : Int} (Hl1 : RoomAt l1) (Hs3 : RoomAt s3) (hM : C_X0_mended sc d2 [aR 37, aR s3, aI s4] m (some (aJ v)) m2) (hd : d2 + 1 ≤ d) (k : S_X0_weigh sc d 76 [aR 37, aR l1, aI l2, aI l3, aI l4, aJ l5, aU, aI l7, aI l8, aJ l9, aU, aJ l11, aU, aU, aU, aU, aU, aU, aU] [aJ v, aJ s1, aJ s0] m2 Q) : S_X0_weigh sc d 73 [aR 37, aR l1, aI l2, aI l3, aI l4, aJ l5, aU, aI l7, aI l8, aJ l9, aU, aJ l11, aU, aU, aU, aU, aU, aU, aU] [aI s4, aR s3, aR 37, aJ s1, aJ s0] m Q := x_callV (as := [aR s3, aI s4]) (rest := [aJ s1, aJ s0]) hM mk_X0_mended mv_X0_mended lk_X0_47 (Or.inl ⟨0, (RX0, TX0, 2), ic_37, Nat.le_of_ble_eq_true rfl, rfl, rfl⟩) hd rfl rfl (Nat.le_of_ble_eq_true rfl) dX0_weigh_73 rfl k
theorem c_X0_weigh_98 {sc : List Int} {d d2 : Nat} {m m2 : Mem} {Q : Option AV → Mem → Prop} {l1 l2 l3 l4 l5 l7 l8 l9 l11 l13 s0 s2 s3 : Int} {v : Int} (Hl1 : RoomAt l1) (Hs2 : RoomAt s2) (hM : C_X0_changed sc d2 [aR 37, aR s2, aI s3] m (some (aJ v)) m2) (hd : d2 + 1 ≤ d) (k : S_X0_weigh sc d 101 [aR 37, aR l1, aI l2, aI l3, aI l4, aJ l5, aU, aI l7, aI l8, aJ l9, aU, aJ l11, aU, aJ l13, aU, aU, aU, aU, aU] [aJ v, aJ s0] m2 Q) : S_X0_weigh sc d 98 [aR 37, aR l1, aI l2, aI l3, aI l4, aJ l5, aU, aI l7, aI l8, aJ l9, aU, aJ l11, aU, aJ l13, aU, aU, aU, aU, aU] [aI s3, aR s2, aR 37, aJ s0] m Q := x_callV (as := [aR s2, aI s3]) (rest := [aJ s0]) hM mk_X0_changed mv_X0_changed lk_X0_51 (Or.inl ⟨0, (RX0, TX0, 2), ic_37, Nat.le_of_ble_eq_true rfl, rfl, rfl⟩) hd rfl rfl (Nat.le_of_ble_eq_true rfl) dX0_weigh_98 rfl k
theorem c_X0_weigh_127 {sc : List Int} {d d2 : Nat} {m m2 : Mem} {Q : Option AV → Mem → Prop} {l1 l2 l3 l4 l7 l8 l13 l15 s0 s1 s3 s4 : Int} {v : Int} (Hl1 : RoomAt l1) (Hs3 : RoomAt s3) (hM : C_X0_changed sc d2 [aR 37, aR s3, aI s4] m (some (aJ v)) m2) (hd : d2 + 1 ≤ d) (k : S_X0_weigh sc d 130 [aR 37, aR l1, aI l2, aI l3, aI l4, aU, aU, aI l7, aI l8, aU, aU, aU, aU, aJ l13, aU, aJ l15, aU, aU, aU] [aJ v, aJ s1, aJ s0] m2 Q) : S_X0_weigh sc d 127 [aR 37, aR l1, aI l2, aI l3, aI l4, aU, aU, aI l7, aI l8, aU, aU, aU, aU, aJ l13, aU, aJ l15, aU, aU, aU] [aI s4, aR s3, aR 37, aJ s1, aJ s0] m Q := x_callV (as := [aR s3, aI s4]) (rest := [aJ s1, aJ s0]) hM mk_X0_changed mv_X0_changed lk_X0_51 (Or.inl ⟨0, (RX0, TX0, 2), ic_37, Nat.le_of_ble_eq_true rfl, rfl, rfl⟩) hd rfl rfl (Nat.le_of_ble_eq_true rfl) dX0_weigh_127 rfl k
theorem c_X0_weigh_155 {sc : List Int} {d d2 : Nat} {m m2 : Mem} {Q : Option AV → Mem → Prop} {l1 l2 l3 l4 l7 s0 s1 : Int} {v : Int} (Hl1 : RoomAt l1) (hM : C_J9_min_f86c9 sc d2 [aJ s0, aJ s1] m (some (aJ v)) m2) (hd : d2 + 1 ≤ d) (k : S_X0_weigh sc d 158 [aR 37, aR l1, aI l2, aI l3, aI l4, aU, aU, aI l7, aU, aU, aU, aU, aU, aU, aU, aU, aU, aU, aU] [aJ v] m2 Q) : S_X0_weigh sc d 155 [aR 37, aR l1, aI l2, aI l3, aI l4, aU, aU, aI l7, aU, aU, aU, aU, aU, aU, aU, aU, aU, aU, aU] [aJ s1, aJ s0] m Q := x_callS (as := [aJ s0, aJ s1]) (rest := []) hM mk_J9_min_f86c9 ms_J9_min_f86c9 lk_X0_59 hd rfl rfl (Nat.le_of_ble_eq_true rfl) dX0_weigh_155 rfl k
theorem c_X0_weigh_175 {sc : List Int} {d d2 : Nat} {m m2 : Mem} {Q : Option AV → Mem → Prop} {l1 l2 l3 l4 l7 s0 s1 s2 : Int} {v : Int} (Hl1 : RoomAt l1) (hM : C_J9_min_f86c9 sc d2 [aJ s1, aJ s2] m (some (aJ v)) m2) (hd : d2 + 1 ≤ d) (k : S_X0_weigh sc d 178 [aR 37, aR l1, aI l2, aI l3, aI l4, aU, aU, aI l7, aU, aU, aU, aU, aU, aU, aU, aU, aU, aU, aU] [aJ v, aJ s0] m2 Q) : S_X0_weigh sc d 175 [aR 37, aR l1, aI l2, aI l3, aI l4, aU, aU, aI l7, aU, aU, aU, aU, aU, aU, aU, aU, aU, aU, aU] [aJ s2, aJ s1, aJ s0] m Q := x_callS (as := [aJ s1, aJ s2]) (rest := [aJ s0]) hM mk_J9_min_f86c9 ms_J9_min_f86c9 lk_X0_59 hd rfl rfl (Nat.le_of_ble_eq_true rfl) dX0_weigh_175 rfl k
theorem c_X0_weigh_178 {sc : List Int} {d d2 : Nat} {m m2 : Mem} {Q : Option AV → Mem → Prop} {l1 l2 l3 l4 l7 s0 s1 : Int} {v : Int} (Hl1 : RoomAt l1) (hM : C_J9_min_f86c9 sc d2 [aJ s0, aJ s1] m (some (aJ v)) m2) (hd : d2 + 1 ≤ d) (k : S_X0_weigh sc d 181 [aR 37, aR l1, aI l2, aI l3, aI l4, aU, aU, aI l7, aU, aU, aU, aU, aU, aU, aU, aU, aU, aU, aU] [aJ v] m2 Q) : S_X0_weigh sc d 178 [aR 37, aR l1, aI l2, aI l3, aI l4, aU, aU, aI l7, aU, aU, aU, aU, aU, aU, aU, aU, aU, aU, aU] [aJ s1, aJ s0] m Q := x_callS (as := [aJ s0, aJ s1]) (rest := []) hM mk_J9_min_f86c9 ms_J9_min_f86c9 lk_X0_59 hd rfl rfl (Nat.le_of_ble_eq_true rfl) dX0_weigh_178 rfl k
theorem c_X0_weigh_192 {sc : List Int} {d d2 : Nat} {m m2 : Mem} {Q : Option AV → Mem → Prop} {l1 l2 l3 l4 l7 l13 l15 s0 s1 s2 s3 : Int} {v : Int} (Hl1 : RoomAt l1) (Hs0 : RoomAt s0) (hM : C_X6_wants sc d2 [aR s0, aI s1, aI s2, aI s3] m (some (aI v)) m2) (hd : d2 + 1 ≤ d) (k : S_X0_weigh sc d 195 [aR 37, aR l1, aI l2, aI l3, aI l4, aU, aU, aI l7, aU, aU, aU, aU, aU, aJ l13, aU, aJ l15, aU, aU, aU] [aI v] m2 Q) : S_X0_weigh sc d 192 [aR 37, aR l1, aI l2, aI l3, aI l4, aU, aU, aI l7, aU, aU, aU, aU, aU, aJ l13, aU, aJ l15, aU, aU, aU] [aI s3, aI s2, aI s1, aR s0] m Q := x_callV (as := [aI s1, aI s2, aI s3]) (rest := []) hM mk_X6_wants mv_X6_wants lk_X0_65 (Or.inl ⟨6, (RX6, TX6, 16), icr_0 Hs0, Nat.le_of_ble_eq_true rfl, rfl, rfl⟩) hd rfl rfl (Nat.le_of_ble_eq_true rfl) dX0_weigh_192 rfl k
set_option maxRecDepth 4000 in
theorem g_X0_mended_0 {sc : List Int} {d : Nat} {m : Mem} {Q : Option AV → Mem → Prop} {l1 l2 : Int} (Hl1 : RoomAt l1) (k : (-2147483648 ≤ ((m (l1 + 13) 1) + (m (l1 + 13) 0)) ∧ ((m (l1 + 13) 1) + (m (l1 + 13) 0)) < 2147483648) ∧ (0 ≤ (l2 + 1)) ∧ ((l2 + 1) < 7) ∧ Q (some (aJ ((((m (l1 + 13) 1) + (m (l1 + 13) 0)) * 1000000000000) + (m 38 (l2 + 1))))) m) : S_X0_mended sc d 0 [aR 37, aR l1, aI l2] [] m Q := by
  refine x_aload_n (pc2 := 1) dX0_mended_0 rfl rfl ?_
  refine x_getf (pc2 := 4) (v := aR (l1 + 13)) fl_X0_54 (icr_0 Hl1) (vrr_13 _ Hl1) dX0_mended_1 rfl ?_
  refine x_iconst (pc2 := 5) dX0_mended_4 rfl ?_
  refine x_iald (pc2 := 6) (icr_13 Hl1) (by decide) (by rw [(alr_13 Hl1)]; decide) dX0_mended_5 rfl ?_
  refine x_aload_n (pc2 := 7) dX0_mended_6 rfl rfl ?_
  refine x_getf (pc2 := 10) (v := aR (l1 + 13)) fl_X0_54 (icr_0 Hl1) (vrr_13 _ Hl1) dX0_mended_7 rfl ?_
  refine x_iconst (pc2 := 11) dX0_mended_10 rfl ?_
  refine x_iald (pc2 := 12) (icr_13 Hl1) (by decide) (by rw [(alr_13 Hl1)]; decide) dX0_mended_11 rfl ?_
  refine x_iadd (pc2 := 13) dX0_mended_12 rfl ?_
  obtain ⟨h1, k⟩ := k
  refine x_i2l (pc2 := 14) dX0_mended_13 rfl h1 ?_
  refine x_ldc2 (pc2 := 17) (x := 1000000000000) kc_X0_57 rfl dX0_mended_14 rfl ?_
  refine x_lmul (pc2 := 18) dX0_mended_17 rfl ?_
  refine x_aload_n (pc2 := 19) dX0_mended_18 rfl rfl ?_
  refine x_getf (pc2 := 22) (v := aR 38) fl_X0_9 ic_37 (vr_37_0 _) dX0_mended_19 rfl ?_
  refine x_iload_n (pc2 := 23) dX0_mended_22 rfl rfl ?_
  refine x_iconst (pc2 := 24) dX0_mended_23 rfl ?_
  refine x_iadd (pc2 := 25) dX0_mended_24 rfl ?_
  obtain ⟨h2, k⟩ := k
  obtain ⟨h3, k⟩ := k
  refine x_lald (pc2 := 26) ic_38 h2 (by rw [al_38]; exact h3) dX0_mended_25 rfl ?_
  refine x_ladd (pc2 := 27) dX0_mended_26 rfl ?_
  exact x_lreturn dX0_mended_27 rfl k
set_option maxRecDepth 4000 in
theorem g_X0_changed_0 {sc : List Int} {d : Nat} {m : Mem} {Q : Option AV → Mem → Prop} {l1 l2 : Int} (Hl1 : RoomAt l1) (k : (-2147483648 ≤ (m (l1 + 13) 0) ∧ (m (l1 + 13) 0) < 2147483648) ∧ (0 ≤ l2) ∧ (l2 < 7) ∧ Q (some (aJ (((m (l1 + 13) 0) * 1000000000000) + (m 38 l2)))) m) : S_X0_changed sc d 0 [aR 37, aR l1, aI l2] [] m Q := by
  refine x_aload_n (pc2 := 1) dX0_changed_0 rfl rfl ?_
  refine x_getf (pc2 := 4) (v := aR (l1 + 13)) fl_X0_54 (icr_0 Hl1) (vrr_13 _ Hl1) dX0_changed_1 rfl ?_
  refine x_iconst (pc2 := 5) dX0_changed_4 rfl ?_
  refine x_iald (pc2 := 6) (icr_13 Hl1) (by decide) (by rw [(alr_13 Hl1)]; decide) dX0_changed_5 rfl ?_
  obtain ⟨h1, k⟩ := k
  refine x_i2l (pc2 := 7) dX0_changed_6 rfl h1 ?_
  refine x_ldc2 (pc2 := 10) (x := 1000000000000) kc_X0_57 rfl dX0_changed_7 rfl ?_
  refine x_lmul (pc2 := 11) dX0_changed_10 rfl ?_
  refine x_aload_n (pc2 := 12) dX0_changed_11 rfl rfl ?_
  refine x_getf (pc2 := 15) (v := aR 38) fl_X0_9 ic_37 (vr_37_0 _) dX0_changed_12 rfl ?_
  refine x_iload_n (pc2 := 16) dX0_changed_15 rfl rfl ?_
  obtain ⟨h2, k⟩ := k
  obtain ⟨h3, k⟩ := k
  refine x_lald (pc2 := 17) ic_38 h2 (by rw [al_38]; exact h3) dX0_changed_16 rfl ?_
  refine x_ladd (pc2 := 18) dX0_changed_17 rfl ?_
  exact x_lreturn dX0_changed_18 rfl k
set_option maxRecDepth 4000 in
theorem g_X0_turns_0 {sc : List Int} {d : Nat} {m : Mem} {Q : Option AV → Mem → Prop} {l1 l2 l3 l4 l5 : Int} (Hl1 : RoomAt l1) (k : (-2147483648 ≤ l4 ∧ l4 < 2147483648) ∧ ((l4 = 0) → (Q (some (aI 0)) m)) ∧ (¬ (l4 = 0) → ((-2147483648 ≤ l3 ∧ l3 < 2147483648) ∧ ((l3 < 0) → (Q (some (aI 0)) m)) ∧ (¬ (l3 < 0) → ((-2147483648 ≤ (m l1 8) ∧ (m l1 8) < 2147483648) ∧ ((l3 < (m l1 8)) → ((0 ≤ l3) ∧ (l3 < 10) ∧ (-2147483648 ≤ l2 ∧ l2 < 2147483648) ∧ ((l2 ≠ 2) → (((l2 = 3) → ((((m l1 8) ≤ 6) → (S_X0_turns sc d 76 [aR 37, aR l1, aU, aI l3, aU, aU, aI (l4 + (m (l1 + 3) l3)), aU, aU, aU, aU, aU, aU] [aI l4, aR l1] m Q)) ∧ (¬ ((m l1 8) ≤ 6) → (Q (some (aI 0)) m)))) ∧ (¬ (l2 = 3) → (S_X0_turns sc d 58 [aR 37, aU, aU, aU, aU, aU, aU, aU, aU, aU, aU, aU, aU] [aI l4, aI l3, aI l2, aR l1] m Q)))) ∧ (¬ (l2 ≠ 2) → (((-2147483648 ≤ (l4 + (m (l1 + 3) l3)) ∧ (l4 + (m (l1 + 3) l3)) < 2147483648)) ∧ ((-2147483648 ≤ l5 ∧ l5 < 2147483648)) ∧ Q (some (aI (if (l4 + (m (l1 + 3) l3)) ≤ l5 then 0 else 1 : Int))) m)))) ∧ (¬ (l3 < (m l1 8)) → (Q (some (aI 0)) m))))))) : S_X0_turns sc d 0 [aR 37, aR l1, aI l2, aI l3, aI l4, aI l5, aU, aU, aU, aU, aU, aU, aU] [] m Q := by
  refine x_iload (pc2 := 2) dX0_turns_0 rfl rfl ?_
  obtain ⟨h1, k⟩ := k
  obtain ⟨k1, k2⟩ := k
  refine x_if_eq (tgt := 17) (pc2 := 5) dX0_turns_2 (by decide) rfl h1 (fun c2 => ?_) (fun c2 => ?_)
  · replace k := k1 c2
    refine x_iconst (pc2 := 18) dX0_turns_17 rfl ?_
    exact x_ireturn dX0_turns_18 ⟨.boolean, rfl, rfl⟩ k
  · replace k := k2 c2
    refine x_iload_n (pc2 := 6) dX0_turns_5 rfl rfl ?_
    obtain ⟨h3, k⟩ := k
    obtain ⟨k1, k2⟩ := k
    refine x_if_lt (tgt := 17) (pc2 := 9) dX0_turns_6 (by decide) rfl h3 (fun c4 => ?_) (fun c4 => ?_)
    · replace k := k1 c4
      refine x_iconst (pc2 := 18) dX0_turns_17 rfl ?_
      exact x_ireturn dX0_turns_18 ⟨.boolean, rfl, rfl⟩ k
    · replace k := k2 c4
      refine x_iload_n (pc2 := 10) dX0_turns_9 rfl rfl ?_
      refine x_aload_n (pc2 := 11) dX0_turns_10 rfl rfl ?_
      refine x_getf (pc2 := 14) (v := aI (m l1 8)) fl_X0_25 (icr_0 Hl1) (fv_i _ (icr_0 Hl1) rfl) dX0_turns_11 rfl ?_
      obtain ⟨h5, k⟩ := k
      obtain ⟨k1, k2⟩ := k
      refine x_icmp_lt (tgt := 19) (pc2 := 17) dX0_turns_14 (by decide) rfl h3 h5 (fun c6 => ?_) (fun c6 => ?_)
      · replace k := k1 c6
        refine x_iload (pc2 := 21) dX0_turns_19 rfl rfl ?_
        refine x_aload_n (pc2 := 22) dX0_turns_21 rfl rfl ?_
        refine x_getf (pc2 := 25) (v := aR (l1 + 3)) fl_X0_44 (icr_0 Hl1) (vrr_3 _ Hl1) dX0_turns_22 rfl ?_
        refine x_iload_n (pc2 := 26) dX0_turns_25 rfl rfl ?_
        obtain ⟨h7, k⟩ := k
        obtain ⟨h8, k⟩ := k
        refine x_iald (pc2 := 27) (icr_3 Hl1) h7 (by rw [(alr_3 Hl1)]; exact h8) dX0_turns_26 rfl ?_
        refine x_iadd (pc2 := 28) dX0_turns_27 rfl ?_
        refine x_istore (pc2 := 30) (ls2 := [aR 37, aR l1, aI l2, aI l3, aI l4, aI l5, aI (l4 + (m (l1 + 3) l3)), aU, aU, aU, aU, aU, aU]) dX0_turns_28 rfl (by decide) rfl ?_
        refine x_iload_n (pc2 := 31) dX0_turns_30 rfl rfl ?_
        refine x_iconst (pc2 := 32) dX0_turns_31 rfl ?_
        obtain ⟨h9, k⟩ := k
        obtain ⟨k1, k2⟩ := k
        refine x_icmp_ne (tgt := 48) (pc2 := 35) dX0_turns_32 (by decide) rfl h9 (by decide) (fun c10 => ?_) (fun c10 => ?_)
        · replace k := k1 c10
          refine x_iload_n (pc2 := 49) dX0_turns_48 rfl rfl ?_
          refine x_iconst (pc2 := 50) dX0_turns_49 rfl ?_
          obtain ⟨k1, k2⟩ := k
          refine x_icmp_eq (tgt := 62) (pc2 := 53) dX0_turns_50 (by decide) rfl h9 (by decide) (fun c11 => ?_) (fun c11 => ?_)
          · replace k := k1 c11
            refine x_aload_n (pc2 := 63) dX0_turns_62 rfl rfl ?_
            refine x_getf (pc2 := 66) (v := aI (m l1 8)) fl_X0_25 (icr_0 Hl1) (fv_i _ (icr_0 Hl1) rfl) dX0_turns_63 rfl ?_
            refine x_bipush (pc2 := 68) dX0_turns_66 rfl rfl ?_
            obtain ⟨k1, k2⟩ := k
            refine x_icmp_le (tgt := 73) (pc2 := 71) dX0_turns_68 (by decide) rfl h5 (by decide) (fun c12 => ?_) (fun c12 => ?_)
            · replace k := k1 c12
              refine x_aload_n (pc2 := 74) dX0_turns_73 rfl rfl ?_
              refine x_iload (pc2 := 76) dX0_turns_74 rfl rfl ?_
              exact x_drop (drp_k (drp_k (drp_u (drp_k (drp_u (drp_u (drp_k (drp_k (drp_k (drp_k (drp_k (drp_k (drp_k drp_n))))))))))))) k
            · replace k := k2 c12
              refine x_iconst (pc2 := 72) dX0_turns_71 rfl ?_
              exact x_ireturn dX0_turns_72 ⟨.boolean, rfl, rfl⟩ k
          · replace k := k2 c11
            refine x_aload_n (pc2 := 54) dX0_turns_53 rfl rfl ?_
            refine x_iload_n (pc2 := 55) dX0_turns_54 rfl rfl ?_
            refine x_iload_n (pc2 := 56) dX0_turns_55 rfl rfl ?_
            refine x_iload (pc2 := 58) dX0_turns_56 rfl rfl ?_
            exact x_drop (drp_k (drp_u (drp_u (drp_u (drp_u (drp_u (drp_u (drp_k (drp_k (drp_k (drp_k (drp_k (drp_k drp_n))))))))))))) k
        · replace k := k2 c10
          refine x_iload (pc2 := 37) dX0_turns_35 rfl rfl ?_
          refine x_iload (pc2 := 39) dX0_turns_37 rfl rfl ?_
          obtain ⟨g15, k⟩ := k
          obtain ⟨g16, k⟩ := k
          have kj : S_X0_turns sc d 47 [aR 37, aR l1, aI l2, aI l3, aI l4, aI l5, aI (l4 + (m (l1 + 3) l3)), aU, aU, aU, aU, aU, aU] [aI (if (l4 + (m (l1 + 3) l3)) ≤ l5 then 0 else 1 : Int)] m Q := by
            exact x_ireturn dX0_turns_47 (ret_z (by repeat (first | exact Or.inl rfl | exact Or.inr rfl | split))) k
          have h17 := g15 
          have h18 := g16 
          refine x_icmp_le (tgt := 46) (pc2 := 42) dX0_turns_39 (by decide) rfl h17 h18 (fun c19 => ?_) (fun c19 => ?_)
          · skip
            refine x_iconst (pc2 := 47) dX0_turns_46 rfl ?_
            exact x_topI (if_pos c19) kj
          · skip
            refine x_iconst (pc2 := 43) dX0_turns_42 rfl ?_
            refine x_goto (tgt := 47) dX0_turns_43 (by decide) ?_
            exact x_topI (if_neg c19) kj
      · replace k := k2 c6
        refine x_iconst (pc2 := 18) dX0_turns_17 rfl ?_
        exact x_ireturn dX0_turns_18 ⟨.boolean, rfl, rfl⟩ k
set_option maxRecDepth 4000 in
theorem g_X0_turns_61 {sc : List Int} {d : Nat} {m : Mem} {Q : Option AV → Mem → Prop} {s0 : Int} (k : (s0 = 0 ∨ s0 = 1) ∧ Q (some (aI s0)) m) : S_X0_turns sc d 61 [aR 37, aU, aU, aU, aU, aU, aU, aU, aU, aU, aU, aU, aU] [aI s0] m Q := by
  obtain ⟨h1, k⟩ := k
  exact x_ireturn dX0_turns_61 (ret_z h1) k
set_option maxRecDepth 4000 in
theorem g_X0_turns_79 {sc : List Int} {d : Nat} {m : Mem} {Q : Option AV → Mem → Prop} {l1 l3 l6 s0 : Int} (Hl1 : RoomAt l1) (k : (-2147483648 ≤ s0 ∧ s0 < 2147483648) ∧ ((s0 ≠ 0) → (S_X0_turns sc d 116 [aR 37, aR l1, aU, aI l3, aU, aU, aI l6, aJ s0, aU, aU, aU, aU, aU] [aI l6, aR l1, aJ s0] m Q)) ∧ (¬ (s0 ≠ 0) → (S_X0_turns sc d 92 [aR 37, aR l1, aU, aI l3, aU, aU, aU, aU, aU, aU, aU, aU, aU] [aI l3, aR l1, aR 37] m Q))) : S_X0_turns sc d 79 [aR 37, aR l1, aU, aI l3, aU, aU, aI l6, aU, aU, aU, aU, aU, aU] [aI s0] m Q := by
  obtain ⟨h1, k⟩ := k
  refine x_i2l (pc2 := 80) dX0_turns_79 rfl h1 ?_
  refine x_lstore (pc2 := 82) (ls2 := [aR 37, aR l1, aU, aI l3, aU, aU, aI l6, aJ s0, aU, aU, aU, aU, aU]) dX0_turns_80 rfl (by decide) rfl ?_
  refine x_lload (pc2 := 84) dX0_turns_82 rfl rfl ?_
  refine x_lconst (pc2 := 85) (v := 0) dX0_turns_84 rfl rfl ?_
  obtain ⟨k1, k2⟩ := k
  refine x_lc_ne (tgt := 111) (pc2 := 89) dX0_turns_85 dX0_turns_86 (by decide) rfl (by have := h1; omega) (by decide) (fun c2 => ?_) (fun c2 => ?_)
  · replace k := k1 c2
    refine x_lload (pc2 := 113) dX0_turns_111 rfl rfl ?_
    refine x_aload_n (pc2 := 114) dX0_turns_113 rfl rfl ?_
    refine x_iload (pc2 := 116) dX0_turns_114 rfl rfl ?_
    exact k
  · replace k := k2 c2
    refine x_aload_n (pc2 := 90) dX0_turns_89 rfl rfl ?_
    refine x_aload_n (pc2 := 91) dX0_turns_90 rfl rfl ?_
    refine x_iload_n (pc2 := 92) dX0_turns_91 rfl rfl ?_
    exact x_drop (drp_k (drp_k (drp_k (drp_k (drp_k (drp_k (drp_u (drp_u (drp_k (drp_k (drp_k (drp_k (drp_k drp_n))))))))))))) k
set_option maxRecDepth 4000 in
theorem g_X0_turns_95 {sc : List Int} {d : Nat} {m : Mem} {Q : Option AV → Mem → Prop} {l1 l3 s0 : Int} (Hl1 : RoomAt l1) (k : S_X0_turns sc d 98 [aR 37, aU, aU, aU, aU, aU, aU, aU, aU, aU, aU, aU, aU] [aI l3, aR l1, aR 37, aJ s0] m Q) : S_X0_turns sc d 95 [aR 37, aR l1, aU, aI l3, aU, aU, aU, aU, aU, aU, aU, aU, aU] [aJ s0] m Q := by
  refine x_aload_n (pc2 := 96) dX0_turns_95 rfl rfl ?_
  refine x_aload_n (pc2 := 97) dX0_turns_96 rfl rfl ?_
  refine x_iload_n (pc2 := 98) dX0_turns_97 rfl rfl ?_
  exact x_drop (drp_k (drp_u (drp_k (drp_u (drp_k (drp_k (drp_k (drp_k (drp_k (drp_k (drp_k (drp_k (drp_k drp_n))))))))))))) k
set_option maxRecDepth 4000 in
theorem g_X0_turns_101 {sc : List Int} {d : Nat} {m : Mem} {Q : Option AV → Mem → Prop} {s0 s1 : Int} (k : ((-9223372036854775808 ≤ s0 ∧ s0 < 9223372036854775808)) ∧ ((-9223372036854775808 ≤ s1 ∧ s1 < 9223372036854775808)) ∧ Q (some (aI (if s1 ≤ s0 then 0 else 1 : Int))) m) : S_X0_turns sc d 101 [aR 37, aU, aU, aU, aU, aU, aU, aU, aU, aU, aU, aU, aU] [aJ s1, aJ s0] m Q := by
  obtain ⟨g3, k⟩ := k
  obtain ⟨g4, k⟩ := k
  have kj : S_X0_turns sc d 110 [aR 37, aU, aU, aU, aU, aU, aU, aU, aU, aU, aU, aU, aU] [aI (if s1 ≤ s0 then 0 else 1 : Int)] m Q := by
    exact x_ireturn dX0_turns_110 (ret_z (by repeat (first | exact Or.inl rfl | exact Or.inr rfl | split))) k
  have h5 := g3 
  have h6 := g4 
  refine x_lc_ge (tgt := 109) (pc2 := 105) dX0_turns_101 dX0_turns_102 (by decide) rfl h5 h6 (fun c7 => ?_) (fun c7 => ?_)
  · skip
    refine x_iconst (pc2 := 110) dX0_turns_109 rfl ?_
    exact x_topI (if_pos c7) kj
  · skip
    refine x_iconst (pc2 := 106) dX0_turns_105 rfl ?_
    refine x_goto (tgt := 110) dX0_turns_106 (by decide) ?_
    exact x_topI (if_neg c7) kj
set_option maxRecDepth 4000 in
theorem g_X0_turns_119 {sc : List Int} {d : Nat} {m : Mem} {Q : Option AV → Mem → Prop} {l1 l3 l6 l7 s0 s1 : Int} (Hl1 : RoomAt l1) (k : (-2147483648 ≤ s1 ∧ s1 < 2147483648) ∧ S_X0_turns sc d 131 [aR 37, aR l1, aU, aI l3, aU, aU, aU, aJ l7, aU, aJ (s0 - s1), aU, aU, aU] [aI l6, aI (l3 + 1), aI 3, aR l1, aR 37] m Q) : S_X0_turns sc d 119 [aR 37, aR l1, aU, aI l3, aU, aU, aI l6, aJ l7, aU, aU, aU, aU, aU] [aI s1, aJ s0] m Q := by
  obtain ⟨h1, k⟩ := k
  refine x_i2l (pc2 := 120) dX0_turns_119 rfl h1 ?_
  refine x_lsub (pc2 := 121) dX0_turns_120 rfl ?_
  refine x_lstore (pc2 := 123) (ls2 := [aR 37, aR l1, aU, aI l3, aU, aU, aI l6, aJ l7, aU, aJ (s0 - s1), aU, aU, aU]) dX0_turns_121 rfl (by decide) rfl ?_
  refine x_aload_n (pc2 := 124) dX0_turns_123 rfl rfl ?_
  refine x_aload_n (pc2 := 125) dX0_turns_124 rfl rfl ?_
  refine x_iconst (pc2 := 126) dX0_turns_125 rfl ?_
  refine x_iload_n (pc2 := 127) dX0_turns_126 rfl rfl ?_
  refine x_iconst (pc2 := 128) dX0_turns_127 rfl ?_
  refine x_iadd (pc2 := 129) dX0_turns_128 rfl ?_
  refine x_iload (pc2 := 131) dX0_turns_129 rfl rfl ?_
  exact x_drop (drp_k (drp_k (drp_k (drp_k (drp_k (drp_k (drp_u (drp_k (drp_k (drp_k (drp_k (drp_k (drp_k drp_n))))))))))))) k
set_option maxRecDepth 4000 in
theorem g_X0_turns_134 {sc : List Int} {d : Nat} {m : Mem} {Q : Option AV → Mem → Prop} {l1 l3 l7 l9 s0 : Int} (Hl1 : RoomAt l1) (k : S_X0_turns sc d 139 [aR 37, aR l1, aU, aI l3, aU, aU, aU, aJ l7, aU, aU, aU, aU, aU] [aI l3, aR l1, aR 37, aJ l9, aJ s0] m Q) : S_X0_turns sc d 134 [aR 37, aR l1, aU, aI l3, aU, aU, aU, aJ l7, aU, aJ l9, aU, aU, aU] [aJ s0] m Q := by
  refine x_lload (pc2 := 136) dX0_turns_134 rfl rfl ?_
  refine x_aload_n (pc2 := 137) dX0_turns_136 rfl rfl ?_
  refine x_aload_n (pc2 := 138) dX0_turns_137 rfl rfl ?_
  refine x_iload_n (pc2 := 139) dX0_turns_138 rfl rfl ?_
  exact x_drop (drp_k (drp_k (drp_k (drp_k (drp_k (drp_k (drp_k (drp_k (drp_k (drp_u (drp_k (drp_k (drp_k drp_n))))))))))))) k
set_option maxRecDepth 4000 in
theorem g_X0_turns_142 {sc : List Int} {d : Nat} {m : Mem} {Q : Option AV → Mem → Prop} {l1 l3 l7 s0 s1 s2 : Int} (Hl1 : RoomAt l1) (k : S_X0_turns sc d 151 [aR 37, aU, aU, aU, aU, aU, aU, aU, aU, aU, aU, aJ (s0 + (s1 * s2)), aU] [aI l3, aR l1, aR 37, aJ l7] m Q) : S_X0_turns sc d 142 [aR 37, aR l1, aU, aI l3, aU, aU, aU, aJ l7, aU, aU, aU, aU, aU] [aJ s2, aJ s1, aJ s0] m Q := by
  refine x_lmul (pc2 := 143) dX0_turns_142 rfl ?_
  refine x_ladd (pc2 := 144) dX0_turns_143 rfl ?_
  refine x_lstore (pc2 := 146) (ls2 := [aR 37, aR l1, aU, aI l3, aU, aU, aU, aJ l7, aU, aU, aU, aJ (s0 + (s1 * s2)), aU]) dX0_turns_144 rfl (by decide) rfl ?_
  refine x_lload (pc2 := 148) dX0_turns_146 rfl rfl ?_
  refine x_aload_n (pc2 := 149) dX0_turns_148 rfl rfl ?_
  refine x_aload_n (pc2 := 150) dX0_turns_149 rfl rfl ?_
  refine x_iload_n (pc2 := 151) dX0_turns_150 rfl rfl ?_
  exact x_drop (drp_k (drp_u (drp_k (drp_u (drp_k (drp_k (drp_k (drp_u (drp_k (drp_k (drp_k (drp_k (drp_k drp_n))))))))))))) k
set_option maxRecDepth 4000 in
theorem g_X0_turns_154 {sc : List Int} {d : Nat} {m : Mem} {Q : Option AV → Mem → Prop} {l11 s0 s1 : Int} (k : ((-9223372036854775808 ≤ (s0 * s1) ∧ (s0 * s1) < 9223372036854775808)) ∧ ((-9223372036854775808 ≤ l11 ∧ l11 < 9223372036854775808)) ∧ Q (some (aI (if l11 ≤ (s0 * s1) then 0 else 1 : Int))) m) : S_X0_turns sc d 154 [aR 37, aU, aU, aU, aU, aU, aU, aU, aU, aU, aU, aJ l11, aU] [aJ s1, aJ s0] m Q := by
  refine x_lmul (pc2 := 155) dX0_turns_154 rfl ?_
  refine x_lload (pc2 := 157) dX0_turns_155 rfl rfl ?_
  obtain ⟨g3, k⟩ := k
  obtain ⟨g4, k⟩ := k
  have kj : S_X0_turns sc d 166 [aR 37, aU, aU, aU, aU, aU, aU, aU, aU, aU, aU, aJ l11, aU] [aI (if l11 ≤ (s0 * s1) then 0 else 1 : Int)] m Q := by
    exact x_ireturn dX0_turns_166 (ret_z (by repeat (first | exact Or.inl rfl | exact Or.inr rfl | split))) k
  have h5 := g3 
  have h6 := g4 
  refine x_lc_ge (tgt := 165) (pc2 := 161) dX0_turns_157 dX0_turns_158 (by decide) rfl h5 h6 (fun c7 => ?_) (fun c7 => ?_)
  · skip
    refine x_iconst (pc2 := 166) dX0_turns_165 rfl ?_
    exact x_topI (if_pos c7) kj
  · skip
    refine x_iconst (pc2 := 162) dX0_turns_161 rfl ?_
    refine x_goto (tgt := 166) dX0_turns_162 (by decide) ?_
    exact x_topI (if_neg c7) kj
theorem c_X0_turns_58 {sc : List Int} {d d2 : Nat} {m m2 : Mem} {Q : Option AV → Mem → Prop} {s0 s1 s2 s3 : Int} {v : Int} (Hs0 : RoomAt s0) (hM : C_X6_wants sc d2 [aR s0, aI s1, aI s2, aI s3] m (some (aI v)) m2) (hd : d2 + 1 ≤ d) (k : S_X0_turns sc d 61 [aR 37, aU, aU, aU, aU, aU, aU, aU, aU, aU, aU, aU, aU] [aI v] m2 Q) : S_X0_turns sc d 58 [aR 37, aU, aU, aU, aU, aU, aU, aU, aU, aU, aU, aU, aU] [aI s3, aI s2, aI s1, aR s0] m Q := x_callV (as := [aI s1, aI s2, aI s3]) (rest := []) hM mk_X6_wants mv_X6_wants lk_X0_65 (Or.inl ⟨6, (RX6, TX6, 16), icr_0 Hs0, Nat.le_of_ble_eq_true rfl, rfl, rfl⟩) hd rfl rfl (Nat.le_of_ble_eq_true rfl) dX0_turns_58 rfl k
theorem c_X0_turns_76 {sc : List Int} {d d2 : Nat} {m m2 : Mem} {Q : Option AV → Mem → Prop} {l1 l3 l6 s0 s1 : Int} {v : Int} (Hl1 : RoomAt l1) (Hs0 : RoomAt s0) (hM : C_X6_oddsOf sc d2 [aR s0, aI s1] m (some (aI v)) m2) (hd : d2 + 1 ≤ d) (k : S_X0_turns sc d 79 [aR 37, aR l1, aU, aI l3, aU, aU, aI l6, aU, aU, aU, aU, aU, aU] [aI v] m2 Q) : S_X0_turns sc d 76 [aR 37, aR l1, aU, aI l3, aU, aU, aI l6, aU, aU, aU, aU, aU, aU] [aI s1, aR s0] m Q := x_callV (as := [aI s1]) (rest := []) hM mk_X6_oddsOf mv_X6_oddsOf lk_X0_40 (Or.inl ⟨6, (RX6, TX6, 16), icr_0 Hs0, Nat.le_of_ble_eq_true rfl, rfl, rfl⟩) hd rfl rfl (Nat.le_of_ble_eq_true rfl) dX0_turns_76 rfl k
theorem c_X0_turns_92 {sc : List Int} {d d2 : Nat} {m m2 : Mem} {Q : Option AV → Mem → Prop} {l1 l3 s1 s2 : Int} {v : Int} (Hl1 : RoomAt l1) (Hs1 : RoomAt s1) (hM : C_X0_changed sc d2 [aR 37, aR s1, aI s2] m (some (aJ v)) m2) (hd : d2 + 1 ≤ d) (k : S_X0_turns sc d 95 [aR 37, aR l1, aU, aI l3, aU, aU, aU, aU, aU, aU, aU, aU, aU] [aJ v] m2 Q) : S_X0_turns sc d 92 [aR 37, aR l1, aU, aI l3, aU, aU, aU, aU, aU, aU, aU, aU, aU] [aI s2, aR s1, aR 37] m Q := x_callV (as := [aR s1, aI s2]) (rest := []) hM mk_X0_changed mv_X0_changed lk_X0_51 (Or.inl ⟨0, (RX0, TX0, 2), ic_37, Nat.le_of_ble_eq_true rfl, rfl, rfl⟩) hd rfl rfl (Nat.le_of_ble_eq_true rfl) dX0_turns_92 rfl k
theorem c_X0_turns_98 {sc : List Int} {d d2 : Nat} {m m2 : Mem} {Q : Option AV → Mem → Prop} {s0 s2 s3 : Int} {v : Int} (Hs2 : RoomAt s2) (hM : C_X0_mended sc d2 [aR 37, aR s2, aI s3] m (some (aJ v)) m2) (hd : d2 + 1 ≤ d) (k : S_X0_turns sc d 101 [aR 37, aU, aU, aU, aU, aU, aU, aU, aU, aU, aU, aU, aU] [aJ v, aJ s0] m2 Q) : S_X0_turns sc d 98 [aR 37, aU, aU, aU, aU, aU, aU, aU, aU, aU, aU, aU, aU] [aI s3, aR s2, aR 37, aJ s0] m Q := x_callV (as := [aR s2, aI s3]) (rest := [aJ s0]) hM mk_X0_mended mv_X0_mended lk_X0_47 (Or.inl ⟨0, (RX0, TX0, 2), ic_37, Nat.le_of_ble_eq_true rfl, rfl, rfl⟩) hd rfl rfl (Nat.le_of_ble_eq_true rfl) dX0_turns_98 rfl k
theorem c_X0_turns_116 {sc : List Int} {d d2 : Nat} {m m2 : Mem} {Q : Option AV → Mem → Prop} {l1 l3 l6 l7 s0 s1 s2 : Int} {v : Int} (Hl1 : RoomAt l1) (Hs1 : RoomAt s1) (hM : C_X6_oddsOf sc d2 [aR s1, aI s2] m (some (aI v)) m2) (hd : d2 + 1 ≤ d) (k : S_X0_turns sc d 119 [aR 37, aR l1, aU, aI l3, aU, aU, aI l6, aJ l7, aU, aU, aU, aU, aU] [aI v, aJ s0] m2 Q) : S_X0_turns sc d 116 [aR 37, aR l1, aU, aI l3, aU, aU, aI l6, aJ l7, aU, aU, aU, aU, aU] [aI s2, aR s1, aJ s0] m Q := x_callV (as := [aI s2]) (rest := [aJ s0]) hM mk_X6_oddsOf mv_X6_oddsOf lk_X0_40 (Or.inl ⟨6, (RX6, TX6, 16), icr_0 Hs1, Nat.le_of_ble_eq_true rfl, rfl, rfl⟩) hd rfl rfl (Nat.le_of_ble_eq_true rfl) dX0_turns_116 rfl k
theorem c_X0_turns_131 {sc : List Int} {d d2 : Nat} {m m2 : Mem} {Q : Option AV → Mem → Prop} {l1 l3 l7 l9 s1 s2 s3 s4 : Int} {v : Int} (Hl1 : RoomAt l1) (Hs1 : RoomAt s1) (hM : C_X0_weigh sc d2 [aR 37, aR s1, aI s2, aI s3, aI s4] m (some (aJ v)) m2) (hd : d2 + 1 ≤ d) (k : S_X0_turns sc d 134 [aR 37, aR l1, aU, aI l3, aU, aU, aU, aJ l7, aU, aJ l9, aU, aU, aU] [aJ v] m2 Q) : S_X0_turns sc d 131 [aR 37, aR l1, aU, aI l3, aU, aU, aU, aJ l7, aU, aJ l9, aU, aU, aU] [aI s4, aI s3, aI s2, aR s1, aR 37] m Q := x_callV (as := [aR s1, aI s2, aI s3, aI s4]) (rest := []) hM mk_X0_weigh mv_X0_weigh lk_X0_30 (Or.inl ⟨0, (RX0, TX0, 2), ic_37, Nat.le_of_ble_eq_true rfl, rfl, rfl⟩) hd rfl rfl (Nat.le_of_ble_eq_true rfl) dX0_turns_131 rfl k
theorem c_X0_turns_139 {sc : List Int} {d d2 : Nat} {m m2 : Mem} {Q : Option AV → Mem → Prop} {l1 l3 l7 s0 s1 s3 s4 : Int} {v : Int} (Hl1 : RoomAt l1) (Hs3 : RoomAt s3) (hM : C_X0_mended sc d2 [aR 37, aR s3, aI s4] m (some (aJ v)) m2) (hd : d2 + 1 ≤ d) (k : S_X0_turns sc d 142 [aR 37, aR l1, aU, aI l3, aU, aU, aU, aJ l7, aU, aU, aU, aU, aU] [aJ v, aJ s1, aJ s0] m2 Q) : S_X0_turns sc d 139 [aR 37, aR l1, aU, aI l3, aU, aU, aU, aJ l7, aU, aU, aU, aU, aU] [aI s4, aR s3, aR 37, aJ s1, aJ s0] m Q := x_callV (as := [aR s3, aI s4]) (rest := [aJ s1, aJ s0]) hM mk_X0_mended mv_X0_mended lk_X0_47 (Or.inl ⟨0, (RX0, TX0, 2), ic_37, Nat.le_of_ble_eq_true rfl, rfl, rfl⟩) hd rfl rfl (Nat.le_of_ble_eq_true rfl) dX0_turns_139 rfl k
theorem c_X0_turns_151 {sc : List Int} {d d2 : Nat} {m m2 : Mem} {Q : Option AV → Mem → Prop} {l11 s0 s2 s3 : Int} {v : Int} (Hs2 : RoomAt s2) (hM : C_X0_changed sc d2 [aR 37, aR s2, aI s3] m (some (aJ v)) m2) (hd : d2 + 1 ≤ d) (k : S_X0_turns sc d 154 [aR 37, aU, aU, aU, aU, aU, aU, aU, aU, aU, aU, aJ l11, aU] [aJ v, aJ s0] m2 Q) : S_X0_turns sc d 151 [aR 37, aU, aU, aU, aU, aU, aU, aU, aU, aU, aU, aJ l11, aU] [aI s3, aR s2, aR 37, aJ s0] m Q := x_callV (as := [aR s2, aI s3]) (rest := [aJ s0]) hM mk_X0_changed mv_X0_changed lk_X0_51 (Or.inl ⟨0, (RX0, TX0, 2), ic_37, Nat.le_of_ble_eq_true rfl, rfl, rfl⟩) hd rfl rfl (Nat.le_of_ble_eq_true rfl) dX0_turns_151 rfl k
set_option maxRecDepth 4000 in
theorem g_X1_run_0 {sc : List Int} {d : Nat} {m : Mem} {Q : Option AV → Mem → Prop} {l1 l3 l4 : Int} (Hl1 : RoomAt l1) (k : S_X1_run sc d 32 [aR 39, aR l1, aR 37, aI l3, aI l4, aI 0, aI 0, aU, aU] [] (wr (wr (wr (wr (wr m 39 4 l4) 39 5 (-1)) 39 6 0) 39 7 0) 39 8 0) Q) : S_X1_run sc d 0 [aR 39, aR l1, aR 37, aI l3, aI l4, aU, aU, aU, aU] [] m Q := by
  refine x_aload_n (pc2 := 1) dX1_run_0 rfl rfl ?_
  refine x_iload (pc2 := 3) dX1_run_1 rfl rfl ?_
  refine x_putf (pc2 := 6) (x := l4) fl_X1_24 ft_1_4 ic_39 (pv_i _ ic_39 rfl) (pn_i _) dX1_run_3 rfl ?_
  refine x_aload_n (pc2 := 7) dX1_run_6 rfl rfl ?_
  refine x_iconst (pc2 := 8) dX1_run_7 rfl ?_
  refine x_putf (pc2 := 11) (x := (-1)) fl_X1_28 ft_1_5 ic_39 (pv_i _ ic_39 rfl) (pn_i _) dX1_run_8 rfl ?_
  refine x_aload_n (pc2 := 12) dX1_run_11 rfl rfl ?_
  refine x_iconst (pc2 := 13) dX1_run_12 rfl ?_
  refine x_putf (pc2 := 16) (x := 0) fl_X1_31 ft_1_6 ic_39 (pv_i _ ic_39 rfl) (pn_i _) dX1_run_13 rfl ?_
  refine x_aload_n (pc2 := 17) dX1_run_16 rfl rfl ?_
  refine x_iconst (pc2 := 18) dX1_run_17 rfl ?_
  refine x_putf (pc2 := 21) (x := 0) fl_X1_34 ft_1_7 ic_39 (pv_i _ ic_39 rfl) (pn_i _) dX1_run_18 rfl ?_
  refine x_aload_n (pc2 := 22) dX1_run_21 rfl rfl ?_
  refine x_iconst (pc2 := 23) dX1_run_22 rfl ?_
  refine x_putf (pc2 := 26) (x := 0) fl_X1_37 ft_1_8 ic_39 (pv_i _ ic_39 rfl) (pn_i _) dX1_run_23 rfl ?_
  refine x_iconst (pc2 := 27) dX1_run_26 rfl ?_
  refine x_istore (pc2 := 29) (ls2 := [aR 39, aR l1, aR 37, aI l3, aI l4, aI 0, aU, aU, aU]) dX1_run_27 rfl (by decide) rfl ?_
  refine x_iconst (pc2 := 30) dX1_run_29 rfl ?_
  refine x_istore (pc2 := 32) (ls2 := [aR 39, aR l1, aR 37, aI l3, aI l4, aI 0, aI 0, aU, aU]) dX1_run_30 rfl (by decide) rfl ?_
  exact k
set_option maxRecDepth 4000 in
theorem g_X1_run_32 {sc : List Int} {d : Nat} {m : Mem} {Q : Option AV → Mem → Prop} {l1 l3 l4 l5 l6 : Int} (Hl1 : RoomAt l1) (k : (-2147483648 ≤ l6 ∧ l6 < 2147483648) ∧ (-2147483648 ≤ (m l1 8) ∧ (m l1 8) < 2147483648) ∧ (((m l1 8) ≤ l6) → (Q none m)) ∧ (¬ ((m l1 8) ≤ l6) → (S_X1_run sc d 50 [aR 39, aR l1, aR 37, aI l3, aI l4, aI l5, aI l6, aU, aU] [aI l5, aI l3, aR l1, aI (m 39 8), aR 39] m Q))) : S_X1_run sc d 32 [aR 39, aR l1, aR 37, aI l3, aI l4, aI l5, aI l6, aU, aU] [] m Q := by
  refine x_iload (pc2 := 34) dX1_run_32 rfl rfl ?_
  refine x_aload_n (pc2 := 35) dX1_run_34 rfl rfl ?_
  refine x_getf (pc2 := 38) (v := aI (m l1 8)) fl_X1_40 (icr_0 Hl1) (fv_i _ (icr_0 Hl1) rfl) dX1_run_35 rfl ?_
  obtain ⟨h1, k⟩ := k
  obtain ⟨h2, k⟩ := k
  obtain ⟨k1, k2⟩ := k
  refine x_icmp_ge (tgt := 149) (pc2 := 41) dX1_run_38 (by decide) rfl h1 h2 (fun c3 => ?_) (fun c3 => ?_)
  · replace k := k1 c3
    exact x_return dX1_run_149 rfl k
  · replace k := k2 c3
    refine x_aload_n (pc2 := 42) dX1_run_41 rfl rfl ?_
    refine x_dup_r (pc2 := 43) dX1_run_42 rfl (by decide) ?_
    refine x_getf (pc2 := 46) (v := aI (m 39 8)) fl_X1_37 ic_39 (fv_i _ ic_39 rfl) dX1_run_43 rfl ?_
    refine x_aload_n (pc2 := 47) dX1_run_46 rfl rfl ?_
    refine x_iload_n (pc2 := 48) dX1_run_47 rfl rfl ?_
    refine x_iload (pc2 := 50) dX1_run_48 rfl rfl ?_
    exact k
set_option maxRecDepth 4000 in
theorem g_X1_run_53 {sc : List Int} {d : Nat} {m : Mem} {Q : Option AV → Mem → Prop} {l1 l3 l4 l5 l6 s1 s2 : Int} (Hl1 : RoomAt l1) (k : S_X1_run sc d 66 [aR 39, aR l1, aR 37, aI l3, aI l4, aI l5, aI l6, aU, aU] [aI l4, aI l5, aI l6, aI l3, aR l1, aR 37] (wr m 39 8 (s1 + s2)) Q) : S_X1_run sc d 53 [aR 39, aR l1, aR 37, aI l3, aI l4, aI l5, aI l6, aU, aU] [aI s2, aI s1, aR 39] m Q := by
  refine x_iadd (pc2 := 54) dX1_run_53 rfl ?_
  refine x_putf (pc2 := 57) (x := (s1 + s2)) fl_X1_37 ft_1_8 ic_39 (pv_i _ ic_39 rfl) (pn_i _) dX1_run_54 rfl ?_
  refine x_aload_n (pc2 := 58) dX1_run_57 rfl rfl ?_
  refine x_aload_n (pc2 := 59) dX1_run_58 rfl rfl ?_
  refine x_iload_n (pc2 := 60) dX1_run_59 rfl rfl ?_
  refine x_iload (pc2 := 62) dX1_run_60 rfl rfl ?_
  refine x_iload (pc2 := 64) dX1_run_62 rfl rfl ?_
  refine x_iload (pc2 := 66) dX1_run_64 rfl rfl ?_
  exact k
set_option maxRecDepth 4000 in
theorem g_X1_run_69 {sc : List Int} {d : Nat} {m : Mem} {Q : Option AV → Mem → Prop} {l1 l3 l4 l5 l6 s0 : Int} (Hl1 : RoomAt l1) (k : ((-2147483648 ≤ s0 ∧ s0 < 2147483648)) ∧ (0 ≤ l6) ∧ (l6 < 10) ∧ ((-2147483648 ≤ ((if s0 = 0 then l5 else 0 : Int) + ((wr m 40 l6 (if s0 = 0 then l5 else 0 : Int)) (l1 + 3) l6)) ∧ ((if s0 = 0 then l5 else 0 : Int) + ((wr m 40 l6 (if s0 = 0 then l5 else 0 : Int)) (l1 + 3) l6)) < 2147483648)) ∧ ((-2147483648 ≤ l4 ∧ l4 < 2147483648)) ∧ ((-2147483648 ≤ (if ((if s0 = 0 then l5 else 0 : Int) + ((wr m 40 l6 (if s0 = 0 then l5 else 0 : Int)) (l1 + 3) l6)) ≤ l4 then 0 else 1 : Int) ∧ (if ((if s0 = 0 then l5 else 0 : Int) + ((wr m 40 l6 (if s0 = 0 then l5 else 0 : Int)) (l1 + 3) l6)) ≤ l4 then 0 else 1 : Int) < 2147483648)) ∧ S_X1_run sc d 140 [aR 39, aR l1, aR 37, aI l3, aI l4, aI (if (if ((if s0 = 0 then l5 else 0 : Int) + ((wr m 40 l6 (if s0 = 0 then l5 else 0 : Int)) (l1 + 3) l6)) ≤ l4 then 0 else 1 : Int) = 0 then ((if s0 = 0 then l5 else 0 : Int) + ((wr m 40 l6 (if s0 = 0 then l5 else 0 : Int)) (l1 + 3) l6)) else 0 : Int), aI l6, aU, aU] [aI (if ((if s0 = 0 then l5 else 0 : Int) + ((wr m 40 l6 (if s0 = 0 then l5 else 0 : Int)) (l1 + 3) l6)) ≤ l4 then 0 else 1 : Int), aI s0, aI l6, aR l1, aR 39] (wr m 40 l6 (if s0 = 0 then l5 else 0 : Int)) Q) : S_X1_run sc d 69 [aR 39, aR l1, aR 37, aI l3, aI l4, aI l5, aI l6, aU, aU] [aI s0] m Q := by
  refine x_istore (pc2 := 71) (ls2 := [aR 39, aR l1, aR 37, aI l3, aI l4, aI l5, aI l6, aI s0, aU]) dX1_run_69 rfl (by decide) rfl ?_
  refine x_iload (pc2 := 73) dX1_run_71 rfl rfl ?_
  obtain ⟨g2, k⟩ := k
  have kj : S_X1_run sc d 82 [aR 39, aR l1, aR 37, aI l3, aI l4, aI l5, aI l6, aI s0, aU] [aI (if s0 = 0 then l5 else 0 : Int)] m Q := by
    refine x_istore (pc2 := 84) (ls2 := [aR 39, aR l1, aR 37, aI l3, aI l4, aI (if s0 = 0 then l5 else 0 : Int), aI l6, aI s0, aU]) dX1_run_82 rfl (by decide) rfl ?_
    refine x_aload_n (pc2 := 85) dX1_run_84 rfl rfl ?_
    refine x_getf (pc2 := 88) (v := aR 40) fl_X1_9 ic_39 (vr_39_0 _) dX1_run_85 rfl ?_
    refine x_iload (pc2 := 90) dX1_run_88 rfl rfl ?_
    refine x_iload (pc2 := 92) dX1_run_90 rfl rfl ?_
    obtain ⟨h3, k⟩ := k
    obtain ⟨h4, k⟩ := k
    refine x_iast (pc2 := 93) ic_40 h3 (by rw [al_40]; exact h4) dX1_run_92 rfl ?_
    refine x_iload (pc2 := 95) dX1_run_93 rfl rfl ?_
    refine x_aload_n (pc2 := 96) dX1_run_95 rfl rfl ?_
    refine x_getf (pc2 := 99) (v := aR (l1 + 3)) fl_X1_55 (icr_0 Hl1) (vrr_3 _ Hl1) dX1_run_96 rfl ?_
    refine x_iload (pc2 := 101) dX1_run_99 rfl rfl ?_
    refine x_iald (pc2 := 102) (icr_3 Hl1) h3 (by rw [(alr_3 Hl1)]; exact h4) dX1_run_101 rfl ?_
    refine x_iadd (pc2 := 103) dX1_run_102 rfl ?_
    refine x_istore (pc2 := 105) (ls2 := [aR 39, aR l1, aR 37, aI l3, aI l4, aI ((if s0 = 0 then l5 else 0 : Int) + ((wr m 40 l6 (if s0 = 0 then l5 else 0 : Int)) (l1 + 3) l6)), aI l6, aI s0, aU]) dX1_run_103 rfl (by decide) rfl ?_
    refine x_iload (pc2 := 107) dX1_run_105 rfl rfl ?_
    refine x_iload (pc2 := 109) dX1_run_107 rfl rfl ?_
    obtain ⟨g7, k⟩ := k
    obtain ⟨g8, k⟩ := k
    have kj : S_X1_run sc d 117 [aR 39, aR l1, aR 37, aI l3, aI l4, aI ((if s0 = 0 then l5 else 0 : Int) + ((wr m 40 l6 (if s0 = 0 then l5 else 0 : Int)) (l1 + 3) l6)), aI l6, aI s0, aU] [aI (if ((if s0 = 0 then l5 else 0 : Int) + ((wr m 40 l6 (if s0 = 0 then l5 else 0 : Int)) (l1 + 3) l6)) ≤ l4 then 0 else 1 : Int)] (wr m 40 l6 (if s0 = 0 then l5 else 0 : Int)) Q := by
      refine x_istore (pc2 := 119) (ls2 := [aR 39, aR l1, aR 37, aI l3, aI l4, aI ((if s0 = 0 then l5 else 0 : Int) + ((wr m 40 l6 (if s0 = 0 then l5 else 0 : Int)) (l1 + 3) l6)), aI l6, aI s0, aI (if ((if s0 = 0 then l5 else 0 : Int) + ((wr m 40 l6 (if s0 = 0 then l5 else 0 : Int)) (l1 + 3) l6)) ≤ l4 then 0 else 1 : Int)]) dX1_run_117 rfl (by decide) rfl ?_
      refine x_iload (pc2 := 121) dX1_run_119 rfl rfl ?_
      obtain ⟨g10, k⟩ := k
      have kj : S_X1_run sc d 130 [aR 39, aR l1, aR 37, aI l3, aI l4, aI ((if s0 = 0 then l5 else 0 : Int) + ((wr m 40 l6 (if s0 = 0 then l5 else 0 : Int)) (l1 + 3) l6)), aI l6, aI s0, aI (if ((if s0 = 0 then l5 else 0 : Int) + ((wr m 40 l6 (if s0 = 0 then l5 else 0 : Int)) (l1 + 3) l6)) ≤ l4 then 0 else 1 : Int)] [aI (if (if ((if s0 = 0 then l5 else 0 : Int) + ((wr m 40 l6 (if s0 = 0 then l5 else 0 : Int)) (l1 + 3) l6)) ≤ l4 then 0 else 1 : Int) = 0 then ((if s0 = 0 then l5 else 0 : Int) + ((wr m 40 l6 (if s0 = 0 then l5 else 0 : Int)) (l1 + 3) l6)) else 0 : Int)] (wr m 40 l6 (if s0 = 0 then l5 else 0 : Int)) Q := by
        refine x_istore (pc2 := 132) (ls2 := [aR 39, aR l1, aR 37, aI l3, aI l4, aI (if (if ((if s0 = 0 then l5 else 0 : Int) + ((wr m 40 l6 (if s0 = 0 then l5 else 0 : Int)) (l1 + 3) l6)) ≤ l4 then 0 else 1 : Int) = 0 then ((if s0 = 0 then l5 else 0 : Int) + ((wr m 40 l6 (if s0 = 0 then l5 else 0 : Int)) (l1 + 3) l6)) else 0 : Int), aI l6, aI s0, aI (if ((if s0 = 0 then l5 else 0 : Int) + ((wr m 40 l6 (if s0 = 0 then l5 else 0 : Int)) (l1 + 3) l6)) ≤ l4 then 0 else 1 : Int)]) dX1_run_130 rfl (by decide) rfl ?_
        refine x_aload_n (pc2 := 133) dX1_run_132 rfl rfl ?_
        refine x_aload_n (pc2 := 134) dX1_run_133 rfl rfl ?_
        refine x_iload (pc2 := 136) dX1_run_134 rfl rfl ?_
        refine x_iload (pc2 := 138) dX1_run_136 rfl rfl ?_
        refine x_iload (pc2 := 140) dX1_run_138 rfl rfl ?_
        exact x_drop (drp_k (drp_k (drp_k (drp_k (drp_k (drp_k (drp_k (drp_u (drp_u drp_n))))))))) k
      have h11 := g10 
      refine x_if_eq (tgt := 128) (pc2 := 124) dX1_run_121 (by decide) rfl h11 (fun c12 => ?_) (fun c12 => ?_)
      · skip
        refine x_iload (pc2 := 130) dX1_run_128 rfl rfl ?_
        exact x_topI (if_pos c12) kj
      · skip
        refine x_iconst (pc2 := 125) dX1_run_124 rfl ?_
        refine x_goto (tgt := 130) dX1_run_125 (by decide) ?_
        exact x_topI (if_neg c12) kj
    have h13 := g7 
    have h14 := g8 
    refine x_icmp_le (tgt := 116) (pc2 := 112) dX1_run_109 (by decide) rfl h13 h14 (fun c15 => ?_) (fun c15 => ?_)
    · skip
      refine x_iconst (pc2 := 117) dX1_run_116 rfl ?_
      exact x_topI (if_pos c15) kj
    · skip
      refine x_iconst (pc2 := 113) dX1_run_112 rfl ?_
      refine x_goto (tgt := 117) dX1_run_113 (by decide) ?_
      exact x_topI (if_neg c15) kj
  have h16 := g2 
  refine x_if_eq (tgt := 80) (pc2 := 76) dX1_run_73 (by decide) rfl h16 (fun c17 => ?_) (fun c17 => ?_)
  · skip
    refine x_iload (pc2 := 82) dX1_run_80 rfl rfl ?_
    exact x_topI (if_pos c17) kj
  · skip
    refine x_iconst (pc2 := 77) dX1_run_76 rfl ?_
    refine x_goto (tgt := 82) dX1_run_77 (by decide) ?_
    exact x_topI (if_neg c17) kj
set_option maxRecDepth 4000 in
theorem g_X1_run_143 {sc : List Int} {d : Nat} {m : Mem} {Q : Option AV → Mem → Prop} {l1 l3 l4 l5 l6 : Int} (Hl1 : RoomAt l1) (k : S_X1_run sc d 32 [aR 39, aR l1, aR 37, aI l3, aI l4, aI l5, aI (l6 + 1), aU, aU] [] m Q) : S_X1_run sc d 143 [aR 39, aR l1, aR 37, aI l3, aI l4, aI l5, aI l6, aU, aU] [] m Q := by
  refine x_iinc (pc2 := 146) (ls2 := [aR 39, aR l1, aR 37, aI l3, aI l4, aI l5, aI (l6 + 1), aU, aU]) dX1_run_143 rfl rfl (by decide) rfl ?_
  refine x_goto (tgt := 32) dX1_run_146 (by decide) ?_
  exact k
theorem c_X1_run_50 {sc : List Int} {d d2 : Nat} {m m2 : Mem} {Q : Option AV → Mem → Prop} {l1 l3 l4 l5 l6 s1 s2 s3 s4 : Int} {v : Int} (Hl1 : RoomAt l1) (Hs2 : RoomAt s2) (hM : C_X6_lookCost sc d2 [aR s2, aI s3, aI s4] m (some (aI v)) m2) (hd : d2 + 1 ≤ d) (k : S_X1_run sc d 53 [aR 39, aR l1, aR 37, aI l3, aI l4, aI l5, aI l6, aU, aU] [aI v, aI s1, aR 39] m2 Q) : S_X1_run sc d 50 [aR 39, aR l1, aR 37, aI l3, aI l4, aI l5, aI l6, aU, aU] [aI s4, aI s3, aR s2, aI s1, aR 39] m Q := x_callV (as := [aI s3, aI s4]) (rest := [aI s1, aR 39]) hM mk_X6_lookCost mv_X6_lookCost lk_X1_45 (Or.inl ⟨6, (RX6, TX6, 16), icr_0 Hs2, Nat.le_of_ble_eq_true rfl, rfl, rfl⟩) hd rfl rfl (Nat.le_of_ble_eq_true rfl) dX1_run_50 rfl k
theorem c_X1_run_66 {sc : List Int} {d d2 : Nat} {m m2 : Mem} {Q : Option AV → Mem → Prop} {l1 l3 l4 l5 l6 s1 s2 s3 s4 s5 : Int} {v : Int} (Hl1 : RoomAt l1) (Hs1 : RoomAt s1) (hM : C_X0_turns sc d2 [aR 37, aR s1, aI s2, aI s3, aI s4, aI s5] m (some (aI v)) m2) (hd : d2 + 1 ≤ d) (k : S_X1_run sc d 69 [aR 39, aR l1, aR 37, aI l3, aI l4, aI l5, aI l6, aU, aU] [aI v] m2 Q) : S_X1_run sc d 66 [aR 39, aR l1, aR 37, aI l3, aI l4, aI l5, aI l6, aU, aU] [aI s5, aI s4, aI s3, aI s2, aR s1, aR 37] m Q := x_callV (as := [aR s1, aI s2, aI s3, aI s4, aI s5]) (rest := []) hM mk_X0_turns mv_X0_turns lk_X1_49 (Or.inl ⟨0, (RX0, TX0, 2), ic_37, Nat.le_of_ble_eq_true rfl, rfl, rfl⟩) hd rfl rfl (Nat.le_of_ble_eq_true rfl) dX1_run_66 rfl k
theorem c_X1_run_140 {sc : List Int} {d d2 : Nat} {m m2 : Mem} {Q : Option AV → Mem → Prop} {l1 l3 l4 l5 l6 s1 s2 s3 s4 : Int} (Hl1 : RoomAt l1) (Hs1 : RoomAt s1) (hM : C_X1_note sc d2 [aR 39, aR s1, aI s2, aI s3, aI s4] m none m2) (hd : d2 + 1 ≤ d) (k : S_X1_run sc d 143 [aR 39, aR l1, aR 37, aI l3, aI l4, aI l5, aI l6, aU, aU] [] m2 Q) : S_X1_run sc d 140 [aR 39, aR l1, aR 37, aI l3, aI l4, aI l5, aI l6, aU, aU] [aI s4, aI s3, aI s2, aR s1, aR 39] m Q := x_callV (as := [aR s1, aI s2, aI s3, aI s4]) (rest := []) hM mk_X1_note mv_X1_note lk_X1_58 (Or.inl ⟨1, (RX1, TX1, 9), ic_39, Nat.le_of_ble_eq_true rfl, rfl, rfl⟩) hd rfl rfl (Nat.le_of_ble_eq_true rfl) dX1_run_140 rfl k
set_option maxRecDepth 4000 in
theorem g_X1_note_0 {sc : List Int} {d : Nat} {m : Mem} {Q : Option AV → Mem → Prop} {l1 l2 l3 l4 : Int} (Hl1 : RoomAt l1) (k : ((-2147483648 ≤ l3 ∧ l3 < 2147483648)) ∧ (0 ≤ l2) ∧ (l2 < 10) ∧ ((-2147483648 ≤ l4 ∧ l4 < 2147483648)) ∧ (-2147483648 ≤ l4 ∧ l4 < 2147483648) ∧ ((l4 = 0) → (Q none (wr (wr (wr (wr (wr m 41 l2 (if l3 = 0 then 0 else 1 : Int)) 42 l2 (if l4 = 0 then 0 else 1 : Int)) 39 6 (((wr (wr m 41 l2 (if l3 = 0 then 0 else 1 : Int)) 42 l2 (if l4 = 0 then 0 else 1 : Int)) 39 6) + ((wr (wr m 41 l2 (if l3 = 0 then 0 else 1 : Int)) 42 l2 (if l4 = 0 then 0 else 1 : Int)) 41 l2))) 39 7 (((wr (wr (wr m 41 l2 (if l3 = 0 then 0 else 1 : Int)) 42 l2 (if l4 = 0 then 0 else 1 : Int)) 39 6 (((wr (wr m 41 l2 (if l3 = 0 then 0 else 1 : Int)) 42 l2 (if l4 = 0 then 0 else 1 : Int)) 39 6) + ((wr (wr m 41 l2 (if l3 = 0 then 0 else 1 : Int)) 42 l2 (if l4 = 0 then 0 else 1 : Int)) 41 l2))) 39 7) + ((wr (wr (wr m 41 l2 (if l3 = 0 then 0 else 1 : Int)) 42 l2 (if l4 = 0 then 0 else 1 : Int)) 39 6 (((wr (wr m 41 l2 (if l3 = 0 then 0 else 1 : Int)) 42 l2 (if l4 = 0 then 0 else 1 : Int)) 39 6) + ((wr (wr m 41 l2 (if l3 = 0 then 0 else 1 : Int)) 42 l2 (if l4 = 0 then 0 else 1 : Int)) 41 l2))) 42 l2))) 39 8 (((wr (wr (wr (wr m 41 l2 (if l3 = 0 then 0 else 1 : Int)) 42 l2 (if l4 = 0 then 0 else 1 : Int)) 39 6 (((wr (wr m 41 l2 (if l3 = 0 then 0 else 1 : Int)) 42 l2 (if l4 = 0 then 0 else 1 : Int)) 39 6) + ((wr (wr m 41 l2 (if l3 = 0 then 0 else 1 : Int)) 42 l2 (if l4 = 0 then 0 else 1 : Int)) 41 l2))) 39 7 (((wr (wr (wr m 41 l2 (if l3 = 0 then 0 else 1 : Int)) 42 l2 (if l4 = 0 then 0 else 1 : Int)) 39 6 (((wr (wr m 41 l2 (if l3 = 0 then 0 else 1 : Int)) 42 l2 (if l4 = 0 then 0 else 1 : Int)) 39 6) + ((wr (wr m 41 l2 (if l3 = 0 then 0 else 1 : Int)) 42 l2 (if l4 = 0 then 0 else 1 : Int)) 41 l2))) 39 7) + ((wr (wr (wr m 41 l2 (if l3 = 0 then 0 else 1 : Int)) 42 l2 (if l4 = 0 then 0 else 1 : Int)) 39 6 (((wr (wr m 41 l2 (if l3 = 0 then 0 else 1 : Int)) 42 l2 (if l4 = 0 then 0 else 1 : Int)) 39 6) + ((wr (wr m 41 l2 (if l3 = 0 then 0 else 1 : Int)) 42 l2 (if l4 = 0 then 0 else 1 : Int)) 41 l2))) 42 l2))) 39 8) + (((((wr (wr (wr (wr m 41 l2 (if l3 = 0 then 0 else 1 : Int)) 42 l2 (if l4 = 0 then 0 else 1 : Int)) 39 6 (((wr (wr m 41 l2 (if l3 = 0 then 0 else 1 : Int)) 42 l2 (if l4 = 0 then 0 else 1 : Int)) 39 6) + ((wr (wr m 41 l2 (if l3 = 0 then 0 else 1 : Int)) 42 l2 (if l4 = 0 then 0 else 1 : Int)) 41 l2))) 39 7 (((wr (wr (wr m 41 l2 (if l3 = 0 then 0 else 1 : Int)) 42 l2 (if l4 = 0 then 0 else 1 : Int)) 39 6 (((wr (wr m 41 l2 (if l3 = 0 then 0 else 1 : Int)) 42 l2 (if l4 = 0 then 0 else 1 : Int)) 39 6) + ((wr (wr m 41 l2 (if l3 = 0 then 0 else 1 : Int)) 42 l2 (if l4 = 0 then 0 else 1 : Int)) 41 l2))) 39 7) + ((wr (wr (wr m 41 l2 (if l3 = 0 then 0 else 1 : Int)) 42 l2 (if l4 = 0 then 0 else 1 : Int)) 39 6 (((wr (wr m 41 l2 (if l3 = 0 then 0 else 1 : Int)) 42 l2 (if l4 = 0 then 0 else 1 : Int)) 39 6) + ((wr (wr m 41 l2 (if l3 = 0 then 0 else 1 : Int)) 42 l2 (if l4 = 0 then 0 else 1 : Int)) 41 l2))) 42 l2))) 41 l2) + ((wr (wr (wr (wr m 41 l2 (if l3 = 0 then 0 else 1 : Int)) 42 l2 (if l4 = 0 then 0 else 1 : Int)) 39 6 (((wr (wr m 41 l2 (if l3 = 0 then 0 else 1 : Int)) 42 l2 (if l4 = 0 then 0 else 1 : Int)) 39 6) + ((wr (wr m 41 l2 (if l3 = 0 then 0 else 1 : Int)) 42 l2 (if l4 = 0 then 0 else 1 : Int)) 41 l2))) 39 7 (((wr (wr (wr m 41 l2 (if l3 = 0 then 0 else 1 : Int)) 42 l2 (if l4 = 0 then 0 else 1 : Int)) 39 6 (((wr (wr m 41 l2 (if l3 = 0 then 0 else 1 : Int)) 42 l2 (if l4 = 0 then 0 else 1 : Int)) 39 6) + ((wr (wr m 41 l2 (if l3 = 0 then 0 else 1 : Int)) 42 l2 (if l4 = 0 then 0 else 1 : Int)) 41 l2))) 39 7) + ((wr (wr (wr m 41 l2 (if l3 = 0 then 0 else 1 : Int)) 42 l2 (if l4 = 0 then 0 else 1 : Int)) 39 6 (((wr (wr m 41 l2 (if l3 = 0 then 0 else 1 : Int)) 42 l2 (if l4 = 0 then 0 else 1 : Int)) 39 6) + ((wr (wr m 41 l2 (if l3 = 0 then 0 else 1 : Int)) 42 l2 (if l4 = 0 then 0 else 1 : Int)) 41 l2))) 42 l2))) 42 l2)) * ((wr (wr (wr (wr m 41 l2 (if l3 = 0 then 0 else 1 : Int)) 42 l2 (if l4 = 0 then 0 else 1 : Int)) 39 6 (((wr (wr m 41 l2 (if l3 = 0 then 0 else 1 : Int)) 42 l2 (if l4 = 0 then 0 else 1 : Int)) 39 6) + ((wr (wr m 41 l2 (if l3 = 0 then 0 else 1 : Int)) 42 l2 (if l4 = 0 then 0 else 1 : Int)) 41 l2))) 39 7 (((wr (wr (wr m 41 l2 (if l3 = 0 then 0 else 1 : Int)) 42 l2 (if l4 = 0 then 0 else 1 : Int)) 39 6 (((wr (wr m 41 l2 (if l3 = 0 then 0 else 1 : Int)) 42 l2 (if l4 = 0 then 0 else 1 : Int)) 39 6) + ((wr (wr m 41 l2 (if l3 = 0 then 0 else 1 : Int)) 42 l2 (if l4 = 0 then 0 else 1 : Int)) 41 l2))) 39 7) + ((wr (wr (wr m 41 l2 (if l3 = 0 then 0 else 1 : Int)) 42 l2 (if l4 = 0 then 0 else 1 : Int)) 39 6 (((wr (wr m 41 l2 (if l3 = 0 then 0 else 1 : Int)) 42 l2 (if l4 = 0 then 0 else 1 : Int)) 39 6) + ((wr (wr m 41 l2 (if l3 = 0 then 0 else 1 : Int)) 42 l2 (if l4 = 0 then 0 else 1 : Int)) 41 l2))) 42 l2))) (l1 + 13) 0)) + (((wr (wr (wr (wr m 41 l2 (if l3 = 0 then 0 else 1 : Int)) 42 l2 (if l4 = 0 then 0 else 1 : Int)) 39 6 (((wr (wr m 41 l2 (if l3 = 0 then 0 else 1 : Int)) 42 l2 (if l4 = 0 then 0 else 1 : Int)) 39 6) + ((wr (wr m 41 l2 (if l3 = 0 then 0 else 1 : Int)) 42 l2 (if l4 = 0 then 0 else 1 : Int)) 41 l2))) 39 7 (((wr (wr (wr m 41 l2 (if l3 = 0 then 0 else 1 : Int)) 42 l2 (if l4 = 0 then 0 else 1 : Int)) 39 6 (((wr (wr m 41 l2 (if l3 = 0 then 0 else 1 : Int)) 42 l2 (if l4 = 0 then 0 else 1 : Int)) 39 6) + ((wr (wr m 41 l2 (if l3 = 0 then 0 else 1 : Int)) 42 l2 (if l4 = 0 then 0 else 1 : Int)) 41 l2))) 39 7) + ((wr (wr (wr m 41 l2 (if l3 = 0 then 0 else 1 : Int)) 42 l2 (if l4 = 0 then 0 else 1 : Int)) 39 6 (((wr (wr m 41 l2 (if l3 = 0 then 0 else 1 : Int)) 42 l2 (if l4 = 0 then 0 else 1 : Int)) 39 6) + ((wr (wr m 41 l2 (if l3 = 0 then 0 else 1 : Int)) 42 l2 (if l4 = 0 then 0 else 1 : Int)) 41 l2))) 42 l2))) 42 l2) * ((wr (wr (wr (wr m 41 l2 (if l3 = 0 then 0 else 1 : Int)) 42 l2 (if l4 = 0 then 0 else 1 : Int)) 39 6 (((wr (wr m 41 l2 (if l3 = 0 then 0 else 1 : Int)) 42 l2 (if l4 = 0 then 0 else 1 : Int)) 39 6) + ((wr (wr m 41 l2 (if l3 = 0 then 0 else 1 : Int)) 42 l2 (if l4 = 0 then 0 else 1 : Int)) 41 l2))) 39 7 (((wr (wr (wr m 41 l2 (if l3 = 0 then 0 else 1 : Int)) 42 l2 (if l4 = 0 then 0 else 1 : Int)) 39 6 (((wr (wr m 41 l2 (if l3 = 0 then 0 else 1 : Int)) 42 l2 (if l4 = 0 then 0 else 1 : Int)) 39 6) + ((wr (wr m 41 l2 (if l3 = 0 then 0 else 1 : Int)) 42 l2 (if l4 = 0 then 0 else 1 : Int)) 41 l2))) 39 7) + ((wr (wr (wr m 41 l2 (if l3 = 0 then 0 else 1 : Int)) 42 l2 (if l4 = 0 then 0 else 1 : Int)) 39 6 (((wr (wr m 41 l2 (if l3 = 0 then 0 else 1 : Int)) 42 l2 (if l4 = 0 then 0 else 1 : Int)) 39 6) + ((wr (wr m 41 l2 (if l3 = 0 then 0 else 1 : Int)) 42 l2 (if l4 = 0 then 0 else 1 : Int)) 41 l2))) 42 l2))) (l1 + 13) 1))))))) ∧ (¬ (l4 = 0) → ((-2147483648 ≤ ((wr (wr (wr (wr (wr m 41 l2 (if l3 = 0 then 0 else 1 : Int)) 42 l2 (if l4 = 0 then 0 else 1 : Int)) 39 6 (((wr (wr m 41 l2 (if l3 = 0 then 0 else 1 : Int)) 42 l2 (if l4 = 0 then 0 else 1 : Int)) 39 6) + ((wr (wr m 41 l2 (if l3 = 0 then 0 else 1 : Int)) 42 l2 (if l4 = 0 then 0 else 1 : Int)) 41 l2))) 39 7 (((wr (wr (wr m 41 l2 (if l3 = 0 then 0 else 1 : Int)) 42 l2 (if l4 = 0 then 0 else 1 : Int)) 39 6 (((wr (wr m 41 l2 (if l3 = 0 then 0 else 1 : Int)) 42 l2 (if l4 = 0 then 0 else 1 : Int)) 39 6) + ((wr (wr m 41 l2 (if l3 = 0 then 0 else 1 : Int)) 42 l2 (if l4 = 0 then 0 else 1 : Int)) 41 l2))) 39 7) + ((wr (wr (wr m 41 l2 (if l3 = 0 then 0 else 1 : Int)) 42 l2 (if l4 = 0 then 0 else 1 : Int)) 39 6 (((wr (wr m 41 l2 (if l3 = 0 then 0 else 1 : Int)) 42 l2 (if l4 = 0 then 0 else 1 : Int)) 39 6) + ((wr (wr m 41 l2 (if l3 = 0 then 0 else 1 : Int)) 42 l2 (if l4 = 0 then 0 else 1 : Int)) 41 l2))) 42 l2))) 39 8 (((wr (wr (wr (wr m 41 l2 (if l3 = 0 then 0 else 1 : Int)) 42 l2 (if l4 = 0 then 0 else 1 : Int)) 39 6 (((wr (wr m 41 l2 (if l3 = 0 then 0 else 1 : Int)) 42 l2 (if l4 = 0 then 0 else 1 : Int)) 39 6) + ((wr (wr m 41 l2 (if l3 = 0 then 0 else 1 : Int)) 42 l2 (if l4 = 0 then 0 else 1 : Int)) 41 l2))) 39 7 (((wr (wr (wr m 41 l2 (if l3 = 0 then 0 else 1 : Int)) 42 l2 (if l4 = 0 then 0 else 1 : Int)) 39 6 (((wr (wr m 41 l2 (if l3 = 0 then 0 else 1 : Int)) 42 l2 (if l4 = 0 then 0 else 1 : Int)) 39 6) + ((wr (wr m 41 l2 (if l3 = 0 then 0 else 1 : Int)) 42 l2 (if l4 = 0 then 0 else 1 : Int)) 41 l2))) 39 7) + ((wr (wr (wr m 41 l2 (if l3 = 0 then 0 else 1 : Int)) 42 l2 (if l4 = 0 then 0 else 1 : Int)) 39 6 (((wr (wr m 41 l2 (if l3 = 0 then 0 else 1 : Int)) 42 l2 (if l4 = 0 then 0 else 1 : Int)) 39 6) + ((wr (wr m 41 l2 (if l3 = 0 then 0 else 1 : Int)) 42 l2 (if l4 = 0 then 0 else 1 : Int)) 41 l2))) 42 l2))) 39 8) + (((((wr (wr (wr (wr m 41 l2 (if l3 = 0 then 0 else 1 : Int)) 42 l2 (if l4 = 0 then 0 else 1 : Int)) 39 6 (((wr (wr m 41 l2 (if l3 = 0 then 0 else 1 : Int)) 42 l2 (if l4 = 0 then 0 else 1 : Int)) 39 6) + ((wr (wr m 41 l2 (if l3 = 0 then 0 else 1 : Int)) 42 l2 (if l4 = 0 then 0 else 1 : Int)) 41 l2))) 39 7 (((wr (wr (wr m 41 l2 (if l3 = 0 then 0 else 1 : Int)) 42 l2 (if l4 = 0 then 0 else 1 : Int)) 39 6 (((wr (wr m 41 l2 (if l3 = 0 then 0 else 1 : Int)) 42 l2 (if l4 = 0 then 0 else 1 : Int)) 39 6) + ((wr (wr m 41 l2 (if l3 = 0 then 0 else 1 : Int)) 42 l2 (if l4 = 0 then 0 else 1 : Int)) 41 l2))) 39 7) + ((wr (wr (wr m 41 l2 (if l3 = 0 then 0 else 1 : Int)) 42 l2 (if l4 = 0 then 0 else 1 : Int)) 39 6 (((wr (wr m 41 l2 (if l3 = 0 then 0 else 1 : Int)) 42 l2 (if l4 = 0 then 0 else 1 : Int)) 39 6) + ((wr (wr m 41 l2 (if l3 = 0 then 0 else 1 : Int)) 42 l2 (if l4 = 0 then 0 else 1 : Int)) 41 l2))) 42 l2))) 41 l2) + ((wr (wr (wr (wr m 41 l2 (if l3 = 0 then 0 else 1 : Int)) 42 l2 (if l4 = 0 then 0 else 1 : Int)) 39 6 (((wr (wr m 41 l2 (if l3 = 0 then 0 else 1 : Int)) 42 l2 (if l4 = 0 then 0 else 1 : Int)) 39 6) + ((wr (wr m 41 l2 (if l3 = 0 then 0 else 1 : Int)) 42 l2 (if l4 = 0 then 0 else 1 : Int)) 41 l2))) 39 7 (((wr (wr (wr m 41 l2 (if l3 = 0 then 0 else 1 : Int)) 42 l2 (if l4 = 0 then 0 else 1 : Int)) 39 6 (((wr (wr m 41 l2 (if l3 = 0 then 0 else 1 : Int)) 42 l2 (if l4 = 0 then 0 else 1 : Int)) 39 6) + ((wr (wr m 41 l2 (if l3 = 0 then 0 else 1 : Int)) 42 l2 (if l4 = 0 then 0 else 1 : Int)) 41 l2))) 39 7) + ((wr (wr (wr m 41 l2 (if l3 = 0 then 0 else 1 : Int)) 42 l2 (if l4 = 0 then 0 else 1 : Int)) 39 6 (((wr (wr m 41 l2 (if l3 = 0 then 0 else 1 : Int)) 42 l2 (if l4 = 0 then 0 else 1 : Int)) 39 6) + ((wr (wr m 41 l2 (if l3 = 0 then 0 else 1 : Int)) 42 l2 (if l4 = 0 then 0 else 1 : Int)) 41 l2))) 42 l2))) 42 l2)) * ((wr (wr (wr (wr m 41 l2 (if l3 = 0 then 0 else 1 : Int)) 42 l2 (if l4 = 0 then 0 else 1 : Int)) 39 6 (((wr (wr m 41 l2 (if l3 = 0 then 0 else 1 : Int)) 42 l2 (if l4 = 0 then 0 else 1 : Int)) 39 6) + ((wr (wr m 41 l2 (if l3 = 0 then 0 else 1 : Int)) 42 l2 (if l4 = 0 then 0 else 1 : Int)) 41 l2))) 39 7 (((wr (wr (wr m 41 l2 (if l3 = 0 then 0 else 1 : Int)) 42 l2 (if l4 = 0 then 0 else 1 : Int)) 39 6 (((wr (wr m 41 l2 (if l3 = 0 then 0 else 1 : Int)) 42 l2 (if l4 = 0 then 0 else 1 : Int)) 39 6) + ((wr (wr m 41 l2 (if l3 = 0 then 0 else 1 : Int)) 42 l2 (if l4 = 0 then 0 else 1 : Int)) 41 l2))) 39 7) + ((wr (wr (wr m 41 l2 (if l3 = 0 then 0 else 1 : Int)) 42 l2 (if l4 = 0 then 0 else 1 : Int)) 39 6 (((wr (wr m 41 l2 (if l3 = 0 then 0 else 1 : Int)) 42 l2 (if l4 = 0 then 0 else 1 : Int)) 39 6) + ((wr (wr m 41 l2 (if l3 = 0 then 0 else 1 : Int)) 42 l2 (if l4 = 0 then 0 else 1 : Int)) 41 l2))) 42 l2))) (l1 + 13) 0)) + (((wr (wr (wr (wr m 41 l2 (if l3 = 0 then 0 else 1 : Int)) 42 l2 (if l4 = 0 then 0 else 1 : Int)) 39 6 (((wr (wr m 41 l2 (if l3 = 0 then 0 else 1 : Int)) 42 l2 (if l4 = 0 then 0 else 1 : Int)) 39 6) + ((wr (wr m 41 l2 (if l3 = 0 then 0 else 1 : Int)) 42 l2 (if l4 = 0 then 0 else 1 : Int)) 41 l2))) 39 7 (((wr (wr (wr m 41 l2 (if l3 = 0 then 0 else 1 : Int)) 42 l2 (if l4 = 0 then 0 else 1 : Int)) 39 6 (((wr (wr m 41 l2 (if l3 = 0 then 0 else 1 : Int)) 42 l2 (if l4 = 0 then 0 else 1 : Int)) 39 6) + ((wr (wr m 41 l2 (if l3 = 0 then 0 else 1 : Int)) 42 l2 (if l4 = 0 then 0 else 1 : Int)) 41 l2))) 39 7) + ((wr (wr (wr m 41 l2 (if l3 = 0 then 0 else 1 : Int)) 42 l2 (if l4 = 0 then 0 else 1 : Int)) 39 6 (((wr (wr m 41 l2 (if l3 = 0 then 0 else 1 : Int)) 42 l2 (if l4 = 0 then 0 else 1 : Int)) 39 6) + ((wr (wr m 41 l2 (if l3 = 0 then 0 else 1 : Int)) 42 l2 (if l4 = 0 then 0 else 1 : Int)) 41 l2))) 42 l2))) 42 l2) * ((wr (wr (wr (wr m 41 l2 (if l3 = 0 then 0 else 1 : Int)) 42 l2 (if l4 = 0 then 0 else 1 : Int)) 39 6 (((wr (wr m 41 l2 (if l3 = 0 then 0 else 1 : Int)) 42 l2 (if l4 = 0 then 0 else 1 : Int)) 39 6) + ((wr (wr m 41 l2 (if l3 = 0 then 0 else 1 : Int)) 42 l2 (if l4 = 0 then 0 else 1 : Int)) 41 l2))) 39 7 (((wr (wr (wr m 41 l2 (if l3 = 0 then 0 else 1 : Int)) 42 l2 (if l4 = 0 then 0 else 1 : Int)) 39 6 (((wr (wr m 41 l2 (if l3 = 0 then 0 else 1 : Int)) 42 l2 (if l4 = 0 then 0 else 1 : Int)) 39 6) + ((wr (wr m 41 l2 (if l3 = 0 then 0 else 1 : Int)) 42 l2 (if l4 = 0 then 0 else 1 : Int)) 41 l2))) 39 7) + ((wr (wr (wr m 41 l2 (if l3 = 0 then 0 else 1 : Int)) 42 l2 (if l4 = 0 then 0 else 1 : Int)) 39 6 (((wr (wr m 41 l2 (if l3 = 0 then 0 else 1 : Int)) 42 l2 (if l4 = 0 then 0 else 1 : Int)) 39 6) + ((wr (wr m 41 l2 (if l3 = 0 then 0 else 1 : Int)) 42 l2 (if l4 = 0 then 0 else 1 : Int)) 41 l2))) 42 l2))) (l1 + 13) 1))))) 39 5) ∧ ((wr (wr (wr (wr (wr m 41 l2 (if l3 = 0 then 0 else 1 : Int)) 42 l2 (if l4 = 0 then 0 else 1 : Int)) 39 6 (((wr (wr m 41 l2 (if l3 = 0 then 0 else 1 : Int)) 42 l2 (if l4 = 0 then 0 else 1 : Int)) 39 6) + ((wr (wr m 41 l2 (if l3 = 0 then 0 else 1 : Int)) 42 l2 (if l4 = 0 then 0 else 1 : Int)) 41 l2))) 39 7 (((wr (wr (wr m 41 l2 (if l3 = 0 then 0 else 1 : Int)) 42 l2 (if l4 = 0 then 0 else 1 : Int)) 39 6 (((wr (wr m 41 l2 (if l3 = 0 then 0 else 1 : Int)) 42 l2 (if l4 = 0 then 0 else 1 : Int)) 39 6) + ((wr (wr m 41 l2 (if l3 = 0 then 0 else 1 : Int)) 42 l2 (if l4 = 0 then 0 else 1 : Int)) 41 l2))) 39 7) + ((wr (wr (wr m 41 l2 (if l3 = 0 then 0 else 1 : Int)) 42 l2 (if l4 = 0 then 0 else 1 : Int)) 39 6 (((wr (wr m 41 l2 (if l3 = 0 then 0 else 1 : Int)) 42 l2 (if l4 = 0 then 0 else 1 : Int)) 39 6) + ((wr (wr m 41 l2 (if l3 = 0 then 0 else 1 : Int)) 42 l2 (if l4 = 0 then 0 else 1 : Int)) 41 l2))) 42 l2))) 39 8 (((wr (wr (wr (wr m 41 l2 (if l3 = 0 then 0 else 1 : Int)) 42 l2 (if l4 = 0 then 0 else 1 : Int)) 39 6 (((wr (wr m 41 l2 (if l3 = 0 then 0 else 1 : Int)) 42 l2 (if l4 = 0 then 0 else 1 : Int)) 39 6) + ((wr (wr m 41 l2 (if l3 = 0 then 0 else 1 : Int)) 42 l2 (if l4 = 0 then 0 else 1 : Int)) 41 l2))) 39 7 (((wr (wr (wr m 41 l2 (if l3 = 0 then 0 else 1 : Int)) 42 l2 (if l4 = 0 then 0 else 1 : Int)) 39 6 (((wr (wr m 41 l2 (if l3 = 0 then 0 else 1 : Int)) 42 l2 (if l4 = 0 then 0 else 1 : Int)) 39 6) + ((wr (wr m 41 l2 (if l3 = 0 then 0 else 1 : Int)) 42 l2 (if l4 = 0 then 0 else 1 : Int)) 41 l2))) 39 7) + ((wr (wr (wr m 41 l2 (if l3 = 0 then 0 else 1 : Int)) 42 l2 (if l4 = 0 then 0 else 1 : Int)) 39 6 (((wr (wr m 41 l2 (if l3 = 0 then 0 else 1 : Int)) 42 l2 (if l4 = 0 then 0 else 1 : Int)) 39 6) + ((wr (wr m 41 l2 (if l3 = 0 then 0 else 1 : Int)) 42 l2 (if l4 = 0 then 0 else 1 : Int)) 41 l2))) 42 l2))) 39 8) + (((((wr (wr (wr (wr m 41 l2 (if l3 = 0 then 0 else 1 : Int)) 42 l2 (if l4 = 0 then 0 else 1 : Int)) 39 6 (((wr (wr m 41 l2 (if l3 = 0 then 0 else 1 : Int)) 42 l2 (if l4 = 0 then 0 else 1 : Int)) 39 6) + ((wr (wr m 41 l2 (if l3 = 0 then 0 else 1 : Int)) 42 l2 (if l4 = 0 then 0 else 1 : Int)) 41 l2))) 39 7 (((wr (wr (wr m 41 l2 (if l3 = 0 then 0 else 1 : Int)) 42 l2 (if l4 = 0 then 0 else 1 : Int)) 39 6 (((wr (wr m 41 l2 (if l3 = 0 then 0 else 1 : Int)) 42 l2 (if l4 = 0 then 0 else 1 : Int)) 39 6) + ((wr (wr m 41 l2 (if l3 = 0 then 0 else 1 : Int)) 42 l2 (if l4 = 0 then 0 else 1 : Int)) 41 l2))) 39 7) + ((wr (wr (wr m 41 l2 (if l3 = 0 then 0 else 1 : Int)) 42 l2 (if l4 = 0 then 0 else 1 : Int)) 39 6 (((wr (wr m 41 l2 (if l3 = 0 then 0 else 1 : Int)) 42 l2 (if l4 = 0 then 0 else 1 : Int)) 39 6) + ((wr (wr m 41 l2 (if l3 = 0 then 0 else 1 : Int)) 42 l2 (if l4 = 0 then 0 else 1 : Int)) 41 l2))) 42 l2))) 41 l2) + ((wr (wr (wr (wr m 41 l2 (if l3 = 0 then 0 else 1 : Int)) 42 l2 (if l4 = 0 then 0 else 1 : Int)) 39 6 (((wr (wr m 41 l2 (if l3 = 0 then 0 else 1 : Int)) 42 l2 (if l4 = 0 then 0 else 1 : Int)) 39 6) + ((wr (wr m 41 l2 (if l3 = 0 then 0 else 1 : Int)) 42 l2 (if l4 = 0 then 0 else 1 : Int)) 41 l2))) 39 7 (((wr (wr (wr m 41 l2 (if l3 = 0 then 0 else 1 : Int)) 42 l2 (if l4 = 0 then 0 else 1 : Int)) 39 6 (((wr (wr m 41 l2 (if l3 = 0 then 0 else 1 : Int)) 42 l2 (if l4 = 0 then 0 else 1 : Int)) 39 6) + ((wr (wr m 41 l2 (if l3 = 0 then 0 else 1 : Int)) 42 l2 (if l4 = 0 then 0 else 1 : Int)) 41 l2))) 39 7) + ((wr (wr (wr m 41 l2 (if l3 = 0 then 0 else 1 : Int)) 42 l2 (if l4 = 0 then 0 else 1 : Int)) 39 6 (((wr (wr m 41 l2 (if l3 = 0 then 0 else 1 : Int)) 42 l2 (if l4 = 0 then 0 else 1 : Int)) 39 6) + ((wr (wr m 41 l2 (if l3 = 0 then 0 else 1 : Int)) 42 l2 (if l4 = 0 then 0 else 1 : Int)) 41 l2))) 42 l2))) 42 l2)) * ((wr (wr (wr (wr m 41 l2 (if l3 = 0 then 0 else 1 : Int)) 42 l2 (if l4 = 0 then 0 else 1 : Int)) 39 6 (((wr (wr m 41 l2 (if l3 = 0 then 0 else 1 : Int)) 42 l2 (if l4 = 0 then 0 else 1 : Int)) 39 6) + ((wr (wr m 41 l2 (if l3 = 0 then 0 else 1 : Int)) 42 l2 (if l4 = 0 then 0 else 1 : Int)) 41 l2))) 39 7 (((wr (wr (wr m 41 l2 (if l3 = 0 then 0 else 1 : Int)) 42 l2 (if l4 = 0 then 0 else 1 : Int)) 39 6 (((wr (wr m 41 l2 (if l3 = 0 then 0 else 1 : Int)) 42 l2 (if l4 = 0 then 0 else 1 : Int)) 39 6) + ((wr (wr m 41 l2 (if l3 = 0 then 0 else 1 : Int)) 42 l2 (if l4 = 0 then 0 else 1 : Int)) 41 l2))) 39 7) + ((wr (wr (wr m 41 l2 (if l3 = 0 then 0 else 1 : Int)) 42 l2 (if l4 = 0 then 0 else 1 : Int)) 39 6 (((wr (wr m 41 l2 (if l3 = 0 then 0 else 1 : Int)) 42 l2 (if l4 = 0 then 0 else 1 : Int)) 39 6) + ((wr (wr m 41 l2 (if l3 = 0 then 0 else 1 : Int)) 42 l2 (if l4 = 0 then 0 else 1 : Int)) 41 l2))) 42 l2))) (l1 + 13) 0)) + (((wr (wr (wr (wr m 41 l2 (if l3 = 0 then 0 else 1 : Int)) 42 l2 (if l4 = 0 then 0 else 1 : Int)) 39 6 (((wr (wr m 41 l2 (if l3 = 0 then 0 else 1 : Int)) 42 l2 (if l4 = 0 then 0 else 1 : Int)) 39 6) + ((wr (wr m 41 l2 (if l3 = 0 then 0 else 1 : Int)) 42 l2 (if l4 = 0 then 0 else 1 : Int)) 41 l2))) 39 7 (((wr (wr (wr m 41 l2 (if l3 = 0 then 0 else 1 : Int)) 42 l2 (if l4 = 0 then 0 else 1 : Int)) 39 6 (((wr (wr m 41 l2 (if l3 = 0 then 0 else 1 : Int)) 42 l2 (if l4 = 0 then 0 else 1 : Int)) 39 6) + ((wr (wr m 41 l2 (if l3 = 0 then 0 else 1 : Int)) 42 l2 (if l4 = 0 then 0 else 1 : Int)) 41 l2))) 39 7) + ((wr (wr (wr m 41 l2 (if l3 = 0 then 0 else 1 : Int)) 42 l2 (if l4 = 0 then 0 else 1 : Int)) 39 6 (((wr (wr m 41 l2 (if l3 = 0 then 0 else 1 : Int)) 42 l2 (if l4 = 0 then 0 else 1 : Int)) 39 6) + ((wr (wr m 41 l2 (if l3 = 0 then 0 else 1 : Int)) 42 l2 (if l4 = 0 then 0 else 1 : Int)) 41 l2))) 42 l2))) 42 l2) * ((wr (wr (wr (wr m 41 l2 (if l3 = 0 then 0 else 1 : Int)) 42 l2 (if l4 = 0 then 0 else 1 : Int)) 39 6 (((wr (wr m 41 l2 (if l3 = 0 then 0 else 1 : Int)) 42 l2 (if l4 = 0 then 0 else 1 : Int)) 39 6) + ((wr (wr m 41 l2 (if l3 = 0 then 0 else 1 : Int)) 42 l2 (if l4 = 0 then 0 else 1 : Int)) 41 l2))) 39 7 (((wr (wr (wr m 41 l2 (if l3 = 0 then 0 else 1 : Int)) 42 l2 (if l4 = 0 then 0 else 1 : Int)) 39 6 (((wr (wr m 41 l2 (if l3 = 0 then 0 else 1 : Int)) 42 l2 (if l4 = 0 then 0 else 1 : Int)) 39 6) + ((wr (wr m 41 l2 (if l3 = 0 then 0 else 1 : Int)) 42 l2 (if l4 = 0 then 0 else 1 : Int)) 41 l2))) 39 7) + ((wr (wr (wr m 41 l2 (if l3 = 0 then 0 else 1 : Int)) 42 l2 (if l4 = 0 then 0 else 1 : Int)) 39 6 (((wr (wr m 41 l2 (if l3 = 0 then 0 else 1 : Int)) 42 l2 (if l4 = 0 then 0 else 1 : Int)) 39 6) + ((wr (wr m 41 l2 (if l3 = 0 then 0 else 1 : Int)) 42 l2 (if l4 = 0 then 0 else 1 : Int)) 41 l2))) 42 l2))) (l1 + 13) 1))))) 39 5) < 2147483648) ∧ ((((wr (wr (wr (wr (wr m 41 l2 (if l3 = 0 then 0 else 1 : Int)) 42 l2 (if l4 = 0 then 0 else 1 : Int)) 39 6 (((wr (wr m 41 l2 (if l3 = 0 then 0 else 1 : Int)) 42 l2 (if l4 = 0 then 0 else 1 : Int)) 39 6) + ((wr (wr m 41 l2 (if l3 = 0 then 0 else 1 : Int)) 42 l2 (if l4 = 0 then 0 else 1 : Int)) 41 l2))) 39 7 (((wr (wr (wr m 41 l2 (if l3 = 0 then 0 else 1 : Int)) 42 l2 (if l4 = 0 then 0 else 1 : Int)) 39 6 (((wr (wr m 41 l2 (if l3 = 0 then 0 else 1 : Int)) 42 l2 (if l4 = 0 then 0 else 1 : Int)) 39 6) + ((wr (wr m 41 l2 (if l3 = 0 then 0 else 1 : Int)) 42 l2 (if l4 = 0 then 0 else 1 : Int)) 41 l2))) 39 7) + ((wr (wr (wr m 41 l2 (if l3 = 0 then 0 else 1 : Int)) 42 l2 (if l4 = 0 then 0 else 1 : Int)) 39 6 (((wr (wr m 41 l2 (if l3 = 0 then 0 else 1 : Int)) 42 l2 (if l4 = 0 then 0 else 1 : Int)) 39 6) + ((wr (wr m 41 l2 (if l3 = 0 then 0 else 1 : Int)) 42 l2 (if l4 = 0 then 0 else 1 : Int)) 41 l2))) 42 l2))) 39 8 (((wr (wr (wr (wr m 41 l2 (if l3 = 0 then 0 else 1 : Int)) 42 l2 (if l4 = 0 then 0 else 1 : Int)) 39 6 (((wr (wr m 41 l2 (if l3 = 0 then 0 else 1 : Int)) 42 l2 (if l4 = 0 then 0 else 1 : Int)) 39 6) + ((wr (wr m 41 l2 (if l3 = 0 then 0 else 1 : Int)) 42 l2 (if l4 = 0 then 0 else 1 : Int)) 41 l2))) 39 7 (((wr (wr (wr m 41 l2 (if l3 = 0 then 0 else 1 : Int)) 42 l2 (if l4 = 0 then 0 else 1 : Int)) 39 6 (((wr (wr m 41 l2 (if l3 = 0 then 0 else 1 : Int)) 42 l2 (if l4 = 0 then 0 else 1 : Int)) 39 6) + ((wr (wr m 41 l2 (if l3 = 0 then 0 else 1 : Int)) 42 l2 (if l4 = 0 then 0 else 1 : Int)) 41 l2))) 39 7) + ((wr (wr (wr m 41 l2 (if l3 = 0 then 0 else 1 : Int)) 42 l2 (if l4 = 0 then 0 else 1 : Int)) 39 6 (((wr (wr m 41 l2 (if l3 = 0 then 0 else 1 : Int)) 42 l2 (if l4 = 0 then 0 else 1 : Int)) 39 6) + ((wr (wr m 41 l2 (if l3 = 0 then 0 else 1 : Int)) 42 l2 (if l4 = 0 then 0 else 1 : Int)) 41 l2))) 42 l2))) 39 8) + (((((wr (wr (wr (wr m 41 l2 (if l3 = 0 then 0 else 1 : Int)) 42 l2 (if l4 = 0 then 0 else 1 : Int)) 39 6 (((wr (wr m 41 l2 (if l3 = 0 then 0 else 1 : Int)) 42 l2 (if l4 = 0 then 0 else 1 : Int)) 39 6) + ((wr (wr m 41 l2 (if l3 = 0 then 0 else 1 : Int)) 42 l2 (if l4 = 0 then 0 else 1 : Int)) 41 l2))) 39 7 (((wr (wr (wr m 41 l2 (if l3 = 0 then 0 else 1 : Int)) 42 l2 (if l4 = 0 then 0 else 1 : Int)) 39 6 (((wr (wr m 41 l2 (if l3 = 0 then 0 else 1 : Int)) 42 l2 (if l4 = 0 then 0 else 1 : Int)) 39 6) + ((wr (wr m 41 l2 (if l3 = 0 then 0 else 1 : Int)) 42 l2 (if l4 = 0 then 0 else 1 : Int)) 41 l2))) 39 7) + ((wr (wr (wr m 41 l2 (if l3 = 0 then 0 else 1 : Int)) 42 l2 (if l4 = 0 then 0 else 1 : Int)) 39 6 (((wr (wr m 41 l2 (if l3 = 0 then 0 else 1 : Int)) 42 l2 (if l4 = 0 then 0 else 1 : Int)) 39 6) + ((wr (wr m 41 l2 (if l3 = 0 then 0 else 1 : Int)) 42 l2 (if l4 = 0 then 0 else 1 : Int)) 41 l2))) 42 l2))) 41 l2) + ((wr (wr (wr (wr m 41 l2 (if l3 = 0 then 0 else 1 : Int)) 42 l2 (if l4 = 0 then 0 else 1 : Int)) 39 6 (((wr (wr m 41 l2 (if l3 = 0 then 0 else 1 : Int)) 42 l2 (if l4 = 0 then 0 else 1 : Int)) 39 6) + ((wr (wr m 41 l2 (if l3 = 0 then 0 else 1 : Int)) 42 l2 (if l4 = 0 then 0 else 1 : Int)) 41 l2))) 39 7 (((wr (wr (wr m 41 l2 (if l3 = 0 then 0 else 1 : Int)) 42 l2 (if l4 = 0 then 0 else 1 : Int)) 39 6 (((wr (wr m 41 l2 (if l3 = 0 then 0 else 1 : Int)) 42 l2 (if l4 = 0 then 0 else 1 : Int)) 39 6) + ((wr (wr m 41 l2 (if l3 = 0 then 0 else 1 : Int)) 42 l2 (if l4 = 0 then 0 else 1 : Int)) 41 l2))) 39 7) + ((wr (wr (wr m 41 l2 (if l3 = 0 then 0 else 1 : Int)) 42 l2 (if l4 = 0 then 0 else 1 : Int)) 39 6 (((wr (wr m 41 l2 (if l3 = 0 then 0 else 1 : Int)) 42 l2 (if l4 = 0 then 0 else 1 : Int)) 39 6) + ((wr (wr m 41 l2 (if l3 = 0 then 0 else 1 : Int)) 42 l2 (if l4 = 0 then 0 else 1 : Int)) 41 l2))) 42 l2))) 42 l2)) * ((wr (wr (wr (wr m 41 l2 (if l3 = 0 then 0 else 1 : Int)) 42 l2 (if l4 = 0 then 0 else 1 : Int)) 39 6 (((wr (wr m 41 l2 (if l3 = 0 then 0 else 1 : Int)) 42 l2 (if l4 = 0 then 0 else 1 : Int)) 39 6) + ((wr (wr m 41 l2 (if l3 = 0 then 0 else 1 : Int)) 42 l2 (if l4 = 0 then 0 else 1 : Int)) 41 l2))) 39 7 (((wr (wr (wr m 41 l2 (if l3 = 0 then 0 else 1 : Int)) 42 l2 (if l4 = 0 then 0 else 1 : Int)) 39 6 (((wr (wr m 41 l2 (if l3 = 0 then 0 else 1 : Int)) 42 l2 (if l4 = 0 then 0 else 1 : Int)) 39 6) + ((wr (wr m 41 l2 (if l3 = 0 then 0 else 1 : Int)) 42 l2 (if l4 = 0 then 0 else 1 : Int)) 41 l2))) 39 7) + ((wr (wr (wr m 41 l2 (if l3 = 0 then 0 else 1 : Int)) 42 l2 (if l4 = 0 then 0 else 1 : Int)) 39 6 (((wr (wr m 41 l2 (if l3 = 0 then 0 else 1 : Int)) 42 l2 (if l4 = 0 then 0 else 1 : Int)) 39 6) + ((wr (wr m 41 l2 (if l3 = 0 then 0 else 1 : Int)) 42 l2 (if l4 = 0 then 0 else 1 : Int)) 41 l2))) 42 l2))) (l1 + 13) 0)) + (((wr (wr (wr (wr m 41 l2 (if l3 = 0 then 0 else 1 : Int)) 42 l2 (if l4 = 0 then 0 else 1 : Int)) 39 6 (((wr (wr m 41 l2 (if l3 = 0 then 0 else 1 : Int)) 42 l2 (if l4 = 0 then 0 else 1 : Int)) 39 6) + ((wr (wr m 41 l2 (if l3 = 0 then 0 else 1 : Int)) 42 l2 (if l4 = 0 then 0 else 1 : Int)) 41 l2))) 39 7 (((wr (wr (wr m 41 l2 (if l3 = 0 then 0 else 1 : Int)) 42 l2 (if l4 = 0 then 0 else 1 : Int)) 39 6 (((wr (wr m 41 l2 (if l3 = 0 then 0 else 1 : Int)) 42 l2 (if l4 = 0 then 0 else 1 : Int)) 39 6) + ((wr (wr m 41 l2 (if l3 = 0 then 0 else 1 : Int)) 42 l2 (if l4 = 0 then 0 else 1 : Int)) 41 l2))) 39 7) + ((wr (wr (wr m 41 l2 (if l3 = 0 then 0 else 1 : Int)) 42 l2 (if l4 = 0 then 0 else 1 : Int)) 39 6 (((wr (wr m 41 l2 (if l3 = 0 then 0 else 1 : Int)) 42 l2 (if l4 = 0 then 0 else 1 : Int)) 39 6) + ((wr (wr m 41 l2 (if l3 = 0 then 0 else 1 : Int)) 42 l2 (if l4 = 0 then 0 else 1 : Int)) 41 l2))) 42 l2))) 42 l2) * ((wr (wr (wr (wr m 41 l2 (if l3 = 0 then 0 else 1 : Int)) 42 l2 (if l4 = 0 then 0 else 1 : Int)) 39 6 (((wr (wr m 41 l2 (if l3 = 0 then 0 else 1 : Int)) 42 l2 (if l4 = 0 then 0 else 1 : Int)) 39 6) + ((wr (wr m 41 l2 (if l3 = 0 then 0 else 1 : Int)) 42 l2 (if l4 = 0 then 0 else 1 : Int)) 41 l2))) 39 7 (((wr (wr (wr m 41 l2 (if l3 = 0 then 0 else 1 : Int)) 42 l2 (if l4 = 0 then 0 else 1 : Int)) 39 6 (((wr (wr m 41 l2 (if l3 = 0 then 0 else 1 : Int)) 42 l2 (if l4 = 0 then 0 else 1 : Int)) 39 6) + ((wr (wr m 41 l2 (if l3 = 0 then 0 else 1 : Int)) 42 l2 (if l4 = 0 then 0 else 1 : Int)) 41 l2))) 39 7) + ((wr (wr (wr m 41 l2 (if l3 = 0 then 0 else 1 : Int)) 42 l2 (if l4 = 0 then 0 else 1 : Int)) 39 6 (((wr (wr m 41 l2 (if l3 = 0 then 0 else 1 : Int)) 42 l2 (if l4 = 0 then 0 else 1 : Int)) 39 6) + ((wr (wr m 41 l2 (if l3 = 0 then 0 else 1 : Int)) 42 l2 (if l4 = 0 then 0 else 1 : Int)) 41 l2))) 42 l2))) (l1 + 13) 1))))) 39 5) ≠ (-1)) → (Q none (wr (wr (wr (wr (wr m 41 l2 (if l3 = 0 then 0 else 1 : Int)) 42 l2 (if l4 = 0 then 0 else 1 : Int)) 39 6 (((wr (wr m 41 l2 (if l3 = 0 then 0 else 1 : Int)) 42 l2 (if l4 = 0 then 0 else 1 : Int)) 39 6) + ((wr (wr m 41 l2 (if l3 = 0 then 0 else 1 : Int)) 42 l2 (if l4 = 0 then 0 else 1 : Int)) 41 l2))) 39 7 (((wr (wr (wr m 41 l2 (if l3 = 0 then 0 else 1 : Int)) 42 l2 (if l4 = 0 then 0 else 1 : Int)) 39 6 (((wr (wr m 41 l2 (if l3 = 0 then 0 else 1 : Int)) 42 l2 (if l4 = 0 then 0 else 1 : Int)) 39 6) + ((wr (wr m 41 l2 (if l3 = 0 then 0 else 1 : Int)) 42 l2 (if l4 = 0 then 0 else 1 : Int)) 41 l2))) 39 7) + ((wr (wr (wr m 41 l2 (if l3 = 0 then 0 else 1 : Int)) 42 l2 (if l4 = 0 then 0 else 1 : Int)) 39 6 (((wr (wr m 41 l2 (if l3 = 0 then 0 else 1 : Int)) 42 l2 (if l4 = 0 then 0 else 1 : Int)) 39 6) + ((wr (wr m 41 l2 (if l3 = 0 then 0 else 1 : Int)) 42 l2 (if l4 = 0 then 0 else 1 : Int)) 41 l2))) 42 l2))) 39 8 (((wr (wr (wr (wr m 41 l2 (if l3 = 0 then 0 else 1 : Int)) 42 l2 (if l4 = 0 then 0 else 1 : Int)) 39 6 (((wr (wr m 41 l2 (if l3 = 0 then 0 else 1 : Int)) 42 l2 (if l4 = 0 then 0 else 1 : Int)) 39 6) + ((wr (wr m 41 l2 (if l3 = 0 then 0 else 1 : Int)) 42 l2 (if l4 = 0 then 0 else 1 : Int)) 41 l2))) 39 7 (((wr (wr (wr m 41 l2 (if l3 = 0 then 0 else 1 : Int)) 42 l2 (if l4 = 0 then 0 else 1 : Int)) 39 6 (((wr (wr m 41 l2 (if l3 = 0 then 0 else 1 : Int)) 42 l2 (if l4 = 0 then 0 else 1 : Int)) 39 6) + ((wr (wr m 41 l2 (if l3 = 0 then 0 else 1 : Int)) 42 l2 (if l4 = 0 then 0 else 1 : Int)) 41 l2))) 39 7) + ((wr (wr (wr m 41 l2 (if l3 = 0 then 0 else 1 : Int)) 42 l2 (if l4 = 0 then 0 else 1 : Int)) 39 6 (((wr (wr m 41 l2 (if l3 = 0 then 0 else 1 : Int)) 42 l2 (if l4 = 0 then 0 else 1 : Int)) 39 6) + ((wr (wr m 41 l2 (if l3 = 0 then 0 else 1 : Int)) 42 l2 (if l4 = 0 then 0 else 1 : Int)) 41 l2))) 42 l2))) 39 8) + (((((wr (wr (wr (wr m 41 l2 (if l3 = 0 then 0 else 1 : Int)) 42 l2 (if l4 = 0 then 0 else 1 : Int)) 39 6 (((wr (wr m 41 l2 (if l3 = 0 then 0 else 1 : Int)) 42 l2 (if l4 = 0 then 0 else 1 : Int)) 39 6) + ((wr (wr m 41 l2 (if l3 = 0 then 0 else 1 : Int)) 42 l2 (if l4 = 0 then 0 else 1 : Int)) 41 l2))) 39 7 (((wr (wr (wr m 41 l2 (if l3 = 0 then 0 else 1 : Int)) 42 l2 (if l4 = 0 then 0 else 1 : Int)) 39 6 (((wr (wr m 41 l2 (if l3 = 0 then 0 else 1 : Int)) 42 l2 (if l4 = 0 then 0 else 1 : Int)) 39 6) + ((wr (wr m 41 l2 (if l3 = 0 then 0 else 1 : Int)) 42 l2 (if l4 = 0 then 0 else 1 : Int)) 41 l2))) 39 7) + ((wr (wr (wr m 41 l2 (if l3 = 0 then 0 else 1 : Int)) 42 l2 (if l4 = 0 then 0 else 1 : Int)) 39 6 (((wr (wr m 41 l2 (if l3 = 0 then 0 else 1 : Int)) 42 l2 (if l4 = 0 then 0 else 1 : Int)) 39 6) + ((wr (wr m 41 l2 (if l3 = 0 then 0 else 1 : Int)) 42 l2 (if l4 = 0 then 0 else 1 : Int)) 41 l2))) 42 l2))) 41 l2) + ((wr (wr (wr (wr m 41 l2 (if l3 = 0 then 0 else 1 : Int)) 42 l2 (if l4 = 0 then 0 else 1 : Int)) 39 6 (((wr (wr m 41 l2 (if l3 = 0 then 0 else 1 : Int)) 42 l2 (if l4 = 0 then 0 else 1 : Int)) 39 6) + ((wr (wr m 41 l2 (if l3 = 0 then 0 else 1 : Int)) 42 l2 (if l4 = 0 then 0 else 1 : Int)) 41 l2))) 39 7 (((wr (wr (wr m 41 l2 (if l3 = 0 then 0 else 1 : Int)) 42 l2 (if l4 = 0 then 0 else 1 : Int)) 39 6 (((wr (wr m 41 l2 (if l3 = 0 then 0 else 1 : Int)) 42 l2 (if l4 = 0 then 0 else 1 : Int)) 39 6) + ((wr (wr m 41 l2 (if l3 = 0 then 0 else 1 : Int)) 42 l2 (if l4 = 0 then 0 else 1 : Int)) 41 l2))) 39 7) + ((wr (wr (wr m 41 l2 (if l3 = 0 then 0 else 1 : Int)) 42 l2 (if l4 = 0 then 0 else 1 : Int)) 39 6 (((wr (wr m 41 l2 (if l3 = 0 then 0 else 1 : Int)) 42 l2 (if l4 = 0 then 0 else 1 : Int)) 39 6) + ((wr (wr m 41 l2 (if l3 = 0 then 0 else 1 : Int)) 42 l2 (if l4 = 0 then 0 else 1 : Int)) 41 l2))) 42 l2))) 42 l2)) * ((wr (wr (wr (wr m 41 l2 (if l3 = 0 then 0 else 1 : Int)) 42 l2 (if l4 = 0 then 0 else 1 : Int)) 39 6 (((wr (wr m 41 l2 (if l3 = 0 then 0 else 1 : Int)) 42 l2 (if l4 = 0 then 0 else 1 : Int)) 39 6) + ((wr (wr m 41 l2 (if l3 = 0 then 0 else 1 : Int)) 42 l2 (if l4 = 0 then 0 else 1 : Int)) 41 l2))) 39 7 (((wr (wr (wr m 41 l2 (if l3 = 0 then 0 else 1 : Int)) 42 l2 (if l4 = 0 then 0 else 1 : Int)) 39 6 (((wr (wr m 41 l2 (if l3 = 0 then 0 else 1 : Int)) 42 l2 (if l4 = 0 then 0 else 1 : Int)) 39 6) + ((wr (wr m 41 l2 (if l3 = 0 then 0 else 1 : Int)) 42 l2 (if l4 = 0 then 0 else 1 : Int)) 41 l2))) 39 7) + ((wr (wr (wr m 41 l2 (if l3 = 0 then 0 else 1 : Int)) 42 l2 (if l4 = 0 then 0 else 1 : Int)) 39 6 (((wr (wr m 41 l2 (if l3 = 0 then 0 else 1 : Int)) 42 l2 (if l4 = 0 then 0 else 1 : Int)) 39 6) + ((wr (wr m 41 l2 (if l3 = 0 then 0 else 1 : Int)) 42 l2 (if l4 = 0 then 0 else 1 : Int)) 41 l2))) 42 l2))) (l1 + 13) 0)) + (((wr (wr (wr (wr m 41 l2 (if l3 = 0 then 0 else 1 : Int)) 42 l2 (if l4 = 0 then 0 else 1 : Int)) 39 6 (((wr (wr m 41 l2 (if l3 = 0 then 0 else 1 : Int)) 42 l2 (if l4 = 0 then 0 else 1 : Int)) 39 6) + ((wr (wr m 41 l2 (if l3 = 0 then 0 else 1 : Int)) 42 l2 (if l4 = 0 then 0 else 1 : Int)) 41 l2))) 39 7 (((wr (wr (wr m 41 l2 (if l3 = 0 then 0 else 1 : Int)) 42 l2 (if l4 = 0 then 0 else 1 : Int)) 39 6 (((wr (wr m 41 l2 (if l3 = 0 then 0 else 1 : Int)) 42 l2 (if l4 = 0 then 0 else 1 : Int)) 39 6) + ((wr (wr m 41 l2 (if l3 = 0 then 0 else 1 : Int)) 42 l2 (if l4 = 0 then 0 else 1 : Int)) 41 l2))) 39 7) + ((wr (wr (wr m 41 l2 (if l3 = 0 then 0 else 1 : Int)) 42 l2 (if l4 = 0 then 0 else 1 : Int)) 39 6 (((wr (wr m 41 l2 (if l3 = 0 then 0 else 1 : Int)) 42 l2 (if l4 = 0 then 0 else 1 : Int)) 39 6) + ((wr (wr m 41 l2 (if l3 = 0 then 0 else 1 : Int)) 42 l2 (if l4 = 0 then 0 else 1 : Int)) 41 l2))) 42 l2))) 42 l2) * ((wr (wr (wr (wr m 41 l2 (if l3 = 0 then 0 else 1 : Int)) 42 l2 (if l4 = 0 then 0 else 1 : Int)) 39 6 (((wr (wr m 41 l2 (if l3 = 0 then 0 else 1 : Int)) 42 l2 (if l4 = 0 then 0 else 1 : Int)) 39 6) + ((wr (wr m 41 l2 (if l3 = 0 then 0 else 1 : Int)) 42 l2 (if l4 = 0 then 0 else 1 : Int)) 41 l2))) 39 7 (((wr (wr (wr m 41 l2 (if l3 = 0 then 0 else 1 : Int)) 42 l2 (if l4 = 0 then 0 else 1 : Int)) 39 6 (((wr (wr m 41 l2 (if l3 = 0 then 0 else 1 : Int)) 42 l2 (if l4 = 0 then 0 else 1 : Int)) 39 6) + ((wr (wr m 41 l2 (if l3 = 0 then 0 else 1 : Int)) 42 l2 (if l4 = 0 then 0 else 1 : Int)) 41 l2))) 39 7) + ((wr (wr (wr m 41 l2 (if l3 = 0 then 0 else 1 : Int)) 42 l2 (if l4 = 0 then 0 else 1 : Int)) 39 6 (((wr (wr m 41 l2 (if l3 = 0 then 0 else 1 : Int)) 42 l2 (if l4 = 0 then 0 else 1 : Int)) 39 6) + ((wr (wr m 41 l2 (if l3 = 0 then 0 else 1 : Int)) 42 l2 (if l4 = 0 then 0 else 1 : Int)) 41 l2))) 42 l2))) (l1 + 13) 1))))))) ∧ (¬ (((wr (wr (wr (wr (wr m 41 l2 (if l3 = 0 then 0 else 1 : Int)) 42 l2 (if l4 = 0 then 0 else 1 : Int)) 39 6 (((wr (wr m 41 l2 (if l3 = 0 then 0 else 1 : Int)) 42 l2 (if l4 = 0 then 0 else 1 : Int)) 39 6) + ((wr (wr m 41 l2 (if l3 = 0 then 0 else 1 : Int)) 42 l2 (if l4 = 0 then 0 else 1 : Int)) 41 l2))) 39 7 (((wr (wr (wr m 41 l2 (if l3 = 0 then 0 else 1 : Int)) 42 l2 (if l4 = 0 then 0 else 1 : Int)) 39 6 (((wr (wr m 41 l2 (if l3 = 0 then 0 else 1 : Int)) 42 l2 (if l4 = 0 then 0 else 1 : Int)) 39 6) + ((wr (wr m 41 l2 (if l3 = 0 then 0 else 1 : Int)) 42 l2 (if l4 = 0 then 0 else 1 : Int)) 41 l2))) 39 7) + ((wr (wr (wr m 41 l2 (if l3 = 0 then 0 else 1 : Int)) 42 l2 (if l4 = 0 then 0 else 1 : Int)) 39 6 (((wr (wr m 41 l2 (if l3 = 0 then 0 else 1 : Int)) 42 l2 (if l4 = 0 then 0 else 1 : Int)) 39 6) + ((wr (wr m 41 l2 (if l3 = 0 then 0 else 1 : Int)) 42 l2 (if l4 = 0 then 0 else 1 : Int)) 41 l2))) 42 l2))) 39 8 (((wr (wr (wr (wr m 41 l2 (if l3 = 0 then 0 else 1 : Int)) 42 l2 (if l4 = 0 then 0 else 1 : Int)) 39 6 (((wr (wr m 41 l2 (if l3 = 0 then 0 else 1 : Int)) 42 l2 (if l4 = 0 then 0 else 1 : Int)) 39 6) + ((wr (wr m 41 l2 (if l3 = 0 then 0 else 1 : Int)) 42 l2 (if l4 = 0 then 0 else 1 : Int)) 41 l2))) 39 7 (((wr (wr (wr m 41 l2 (if l3 = 0 then 0 else 1 : Int)) 42 l2 (if l4 = 0 then 0 else 1 : Int)) 39 6 (((wr (wr m 41 l2 (if l3 = 0 then 0 else 1 : Int)) 42 l2 (if l4 = 0 then 0 else 1 : Int)) 39 6) + ((wr (wr m 41 l2 (if l3 = 0 then 0 else 1 : Int)) 42 l2 (if l4 = 0 then 0 else 1 : Int)) 41 l2))) 39 7) + ((wr (wr (wr m 41 l2 (if l3 = 0 then 0 else 1 : Int)) 42 l2 (if l4 = 0 then 0 else 1 : Int)) 39 6 (((wr (wr m 41 l2 (if l3 = 0 then 0 else 1 : Int)) 42 l2 (if l4 = 0 then 0 else 1 : Int)) 39 6) + ((wr (wr m 41 l2 (if l3 = 0 then 0 else 1 : Int)) 42 l2 (if l4 = 0 then 0 else 1 : Int)) 41 l2))) 42 l2))) 39 8) + (((((wr (wr (wr (wr m 41 l2 (if l3 = 0 then 0 else 1 : Int)) 42 l2 (if l4 = 0 then 0 else 1 : Int)) 39 6 (((wr (wr m 41 l2 (if l3 = 0 then 0 else 1 : Int)) 42 l2 (if l4 = 0 then 0 else 1 : Int)) 39 6) + ((wr (wr m 41 l2 (if l3 = 0 then 0 else 1 : Int)) 42 l2 (if l4 = 0 then 0 else 1 : Int)) 41 l2))) 39 7 (((wr (wr (wr m 41 l2 (if l3 = 0 then 0 else 1 : Int)) 42 l2 (if l4 = 0 then 0 else 1 : Int)) 39 6 (((wr (wr m 41 l2 (if l3 = 0 then 0 else 1 : Int)) 42 l2 (if l4 = 0 then 0 else 1 : Int)) 39 6) + ((wr (wr m 41 l2 (if l3 = 0 then 0 else 1 : Int)) 42 l2 (if l4 = 0 then 0 else 1 : Int)) 41 l2))) 39 7) + ((wr (wr (wr m 41 l2 (if l3 = 0 then 0 else 1 : Int)) 42 l2 (if l4 = 0 then 0 else 1 : Int)) 39 6 (((wr (wr m 41 l2 (if l3 = 0 then 0 else 1 : Int)) 42 l2 (if l4 = 0 then 0 else 1 : Int)) 39 6) + ((wr (wr m 41 l2 (if l3 = 0 then 0 else 1 : Int)) 42 l2 (if l4 = 0 then 0 else 1 : Int)) 41 l2))) 42 l2))) 41 l2) + ((wr (wr (wr (wr m 41 l2 (if l3 = 0 then 0 else 1 : Int)) 42 l2 (if l4 = 0 then 0 else 1 : Int)) 39 6 (((wr (wr m 41 l2 (if l3 = 0 then 0 else 1 : Int)) 42 l2 (if l4 = 0 then 0 else 1 : Int)) 39 6) + ((wr (wr m 41 l2 (if l3 = 0 then 0 else 1 : Int)) 42 l2 (if l4 = 0 then 0 else 1 : Int)) 41 l2))) 39 7 (((wr (wr (wr m 41 l2 (if l3 = 0 then 0 else 1 : Int)) 42 l2 (if l4 = 0 then 0 else 1 : Int)) 39 6 (((wr (wr m 41 l2 (if l3 = 0 then 0 else 1 : Int)) 42 l2 (if l4 = 0 then 0 else 1 : Int)) 39 6) + ((wr (wr m 41 l2 (if l3 = 0 then 0 else 1 : Int)) 42 l2 (if l4 = 0 then 0 else 1 : Int)) 41 l2))) 39 7) + ((wr (wr (wr m 41 l2 (if l3 = 0 then 0 else 1 : Int)) 42 l2 (if l4 = 0 then 0 else 1 : Int)) 39 6 (((wr (wr m 41 l2 (if l3 = 0 then 0 else 1 : Int)) 42 l2 (if l4 = 0 then 0 else 1 : Int)) 39 6) + ((wr (wr m 41 l2 (if l3 = 0 then 0 else 1 : Int)) 42 l2 (if l4 = 0 then 0 else 1 : Int)) 41 l2))) 42 l2))) 42 l2)) * ((wr (wr (wr (wr m 41 l2 (if l3 = 0 then 0 else 1 : Int)) 42 l2 (if l4 = 0 then 0 else 1 : Int)) 39 6 (((wr (wr m 41 l2 (if l3 = 0 then 0 else 1 : Int)) 42 l2 (if l4 = 0 then 0 else 1 : Int)) 39 6) + ((wr (wr m 41 l2 (if l3 = 0 then 0 else 1 : Int)) 42 l2 (if l4 = 0 then 0 else 1 : Int)) 41 l2))) 39 7 (((wr (wr (wr m 41 l2 (if l3 = 0 then 0 else 1 : Int)) 42 l2 (if l4 = 0 then 0 else 1 : Int)) 39 6 (((wr (wr m 41 l2 (if l3 = 0 then 0 else 1 : Int)) 42 l2 (if l4 = 0 then 0 else 1 : Int)) 39 6) + ((wr (wr m 41 l2 (if l3 = 0 then 0 else 1 : Int)) 42 l2 (if l4 = 0 then 0 else 1 : Int)) 41 l2))) 39 7) + ((wr (wr (wr m 41 l2 (if l3 = 0 then 0 else 1 : Int)) 42 l2 (if l4 = 0 then 0 else 1 : Int)) 39 6 (((wr (wr m 41 l2 (if l3 = 0 then 0 else 1 : Int)) 42 l2 (if l4 = 0 then 0 else 1 : Int)) 39 6) + ((wr (wr m 41 l2 (if l3 = 0 then 0 else 1 : Int)) 42 l2 (if l4 = 0 then 0 else 1 : Int)) 41 l2))) 42 l2))) (l1 + 13) 0)) + (((wr (wr (wr (wr m 41 l2 (if l3 = 0 then 0 else 1 : Int)) 42 l2 (if l4 = 0 then 0 else 1 : Int)) 39 6 (((wr (wr m 41 l2 (if l3 = 0 then 0 else 1 : Int)) 42 l2 (if l4 = 0 then 0 else 1 : Int)) 39 6) + ((wr (wr m 41 l2 (if l3 = 0 then 0 else 1 : Int)) 42 l2 (if l4 = 0 then 0 else 1 : Int)) 41 l2))) 39 7 (((wr (wr (wr m 41 l2 (if l3 = 0 then 0 else 1 : Int)) 42 l2 (if l4 = 0 then 0 else 1 : Int)) 39 6 (((wr (wr m 41 l2 (if l3 = 0 then 0 else 1 : Int)) 42 l2 (if l4 = 0 then 0 else 1 : Int)) 39 6) + ((wr (wr m 41 l2 (if l3 = 0 then 0 else 1 : Int)) 42 l2 (if l4 = 0 then 0 else 1 : Int)) 41 l2))) 39 7) + ((wr (wr (wr m 41 l2 (if l3 = 0 then 0 else 1 : Int)) 42 l2 (if l4 = 0 then 0 else 1 : Int)) 39 6 (((wr (wr m 41 l2 (if l3 = 0 then 0 else 1 : Int)) 42 l2 (if l4 = 0 then 0 else 1 : Int)) 39 6) + ((wr (wr m 41 l2 (if l3 = 0 then 0 else 1 : Int)) 42 l2 (if l4 = 0 then 0 else 1 : Int)) 41 l2))) 42 l2))) 42 l2) * ((wr (wr (wr (wr m 41 l2 (if l3 = 0 then 0 else 1 : Int)) 42 l2 (if l4 = 0 then 0 else 1 : Int)) 39 6 (((wr (wr m 41 l2 (if l3 = 0 then 0 else 1 : Int)) 42 l2 (if l4 = 0 then 0 else 1 : Int)) 39 6) + ((wr (wr m 41 l2 (if l3 = 0 then 0 else 1 : Int)) 42 l2 (if l4 = 0 then 0 else 1 : Int)) 41 l2))) 39 7 (((wr (wr (wr m 41 l2 (if l3 = 0 then 0 else 1 : Int)) 42 l2 (if l4 = 0 then 0 else 1 : Int)) 39 6 (((wr (wr m 41 l2 (if l3 = 0 then 0 else 1 : Int)) 42 l2 (if l4 = 0 then 0 else 1 : Int)) 39 6) + ((wr (wr m 41 l2 (if l3 = 0 then 0 else 1 : Int)) 42 l2 (if l4 = 0 then 0 else 1 : Int)) 41 l2))) 39 7) + ((wr (wr (wr m 41 l2 (if l3 = 0 then 0 else 1 : Int)) 42 l2 (if l4 = 0 then 0 else 1 : Int)) 39 6 (((wr (wr m 41 l2 (if l3 = 0 then 0 else 1 : Int)) 42 l2 (if l4 = 0 then 0 else 1 : Int)) 39 6) + ((wr (wr m 41 l2 (if l3 = 0 then 0 else 1 : Int)) 42 l2 (if l4 = 0 then 0 else 1 : Int)) 41 l2))) 42 l2))) (l1 + 13) 1))))) 39 5) ≠ (-1)) → (Q none (wr (wr (wr (wr (wr (wr m 41 l2 (if l3 = 0 then 0 else 1 : Int)) 42 l2 (if l4 = 0 then 0 else 1 : Int)) 39 6 (((wr (wr m 41 l2 (if l3 = 0 then 0 else 1 : Int)) 42 l2 (if l4 = 0 then 0 else 1 : Int)) 39 6) + ((wr (wr m 41 l2 (if l3 = 0 then 0 else 1 : Int)) 42 l2 (if l4 = 0 then 0 else 1 : Int)) 41 l2))) 39 7 (((wr (wr (wr m 41 l2 (if l3 = 0 then 0 else 1 : Int)) 42 l2 (if l4 = 0 then 0 else 1 : Int)) 39 6 (((wr (wr m 41 l2 (if l3 = 0 then 0 else 1 : Int)) 42 l2 (if l4 = 0 then 0 else 1 : Int)) 39 6) + ((wr (wr m 41 l2 (if l3 = 0 then 0 else 1 : Int)) 42 l2 (if l4 = 0 then 0 else 1 : Int)) 41 l2))) 39 7) + ((wr (wr (wr m 41 l2 (if l3 = 0 then 0 else 1 : Int)) 42 l2 (if l4 = 0 then 0 else 1 : Int)) 39 6 (((wr (wr m 41 l2 (if l3 = 0 then 0 else 1 : Int)) 42 l2 (if l4 = 0 then 0 else 1 : Int)) 39 6) + ((wr (wr m 41 l2 (if l3 = 0 then 0 else 1 : Int)) 42 l2 (if l4 = 0 then 0 else 1 : Int)) 41 l2))) 42 l2))) 39 8 (((wr (wr (wr (wr m 41 l2 (if l3 = 0 then 0 else 1 : Int)) 42 l2 (if l4 = 0 then 0 else 1 : Int)) 39 6 (((wr (wr m 41 l2 (if l3 = 0 then 0 else 1 : Int)) 42 l2 (if l4 = 0 then 0 else 1 : Int)) 39 6) + ((wr (wr m 41 l2 (if l3 = 0 then 0 else 1 : Int)) 42 l2 (if l4 = 0 then 0 else 1 : Int)) 41 l2))) 39 7 (((wr (wr (wr m 41 l2 (if l3 = 0 then 0 else 1 : Int)) 42 l2 (if l4 = 0 then 0 else 1 : Int)) 39 6 (((wr (wr m 41 l2 (if l3 = 0 then 0 else 1 : Int)) 42 l2 (if l4 = 0 then 0 else 1 : Int)) 39 6) + ((wr (wr m 41 l2 (if l3 = 0 then 0 else 1 : Int)) 42 l2 (if l4 = 0 then 0 else 1 : Int)) 41 l2))) 39 7) + ((wr (wr (wr m 41 l2 (if l3 = 0 then 0 else 1 : Int)) 42 l2 (if l4 = 0 then 0 else 1 : Int)) 39 6 (((wr (wr m 41 l2 (if l3 = 0 then 0 else 1 : Int)) 42 l2 (if l4 = 0 then 0 else 1 : Int)) 39 6) + ((wr (wr m 41 l2 (if l3 = 0 then 0 else 1 : Int)) 42 l2 (if l4 = 0 then 0 else 1 : Int)) 41 l2))) 42 l2))) 39 8) + (((((wr (wr (wr (wr m 41 l2 (if l3 = 0 then 0 else 1 : Int)) 42 l2 (if l4 = 0 then 0 else 1 : Int)) 39 6 (((wr (wr m 41 l2 (if l3 = 0 then 0 else 1 : Int)) 42 l2 (if l4 = 0 then 0 else 1 : Int)) 39 6) + ((wr (wr m 41 l2 (if l3 = 0 then 0 else 1 : Int)) 42 l2 (if l4 = 0 then 0 else 1 : Int)) 41 l2))) 39 7 (((wr (wr (wr m 41 l2 (if l3 = 0 then 0 else 1 : Int)) 42 l2 (if l4 = 0 then 0 else 1 : Int)) 39 6 (((wr (wr m 41 l2 (if l3 = 0 then 0 else 1 : Int)) 42 l2 (if l4 = 0 then 0 else 1 : Int)) 39 6) + ((wr (wr m 41 l2 (if l3 = 0 then 0 else 1 : Int)) 42 l2 (if l4 = 0 then 0 else 1 : Int)) 41 l2))) 39 7) + ((wr (wr (wr m 41 l2 (if l3 = 0 then 0 else 1 : Int)) 42 l2 (if l4 = 0 then 0 else 1 : Int)) 39 6 (((wr (wr m 41 l2 (if l3 = 0 then 0 else 1 : Int)) 42 l2 (if l4 = 0 then 0 else 1 : Int)) 39 6) + ((wr (wr m 41 l2 (if l3 = 0 then 0 else 1 : Int)) 42 l2 (if l4 = 0 then 0 else 1 : Int)) 41 l2))) 42 l2))) 41 l2) + ((wr (wr (wr (wr m 41 l2 (if l3 = 0 then 0 else 1 : Int)) 42 l2 (if l4 = 0 then 0 else 1 : Int)) 39 6 (((wr (wr m 41 l2 (if l3 = 0 then 0 else 1 : Int)) 42 l2 (if l4 = 0 then 0 else 1 : Int)) 39 6) + ((wr (wr m 41 l2 (if l3 = 0 then 0 else 1 : Int)) 42 l2 (if l4 = 0 then 0 else 1 : Int)) 41 l2))) 39 7 (((wr (wr (wr m 41 l2 (if l3 = 0 then 0 else 1 : Int)) 42 l2 (if l4 = 0 then 0 else 1 : Int)) 39 6 (((wr (wr m 41 l2 (if l3 = 0 then 0 else 1 : Int)) 42 l2 (if l4 = 0 then 0 else 1 : Int)) 39 6) + ((wr (wr m 41 l2 (if l3 = 0 then 0 else 1 : Int)) 42 l2 (if l4 = 0 then 0 else 1 : Int)) 41 l2))) 39 7) + ((wr (wr (wr m 41 l2 (if l3 = 0 then 0 else 1 : Int)) 42 l2 (if l4 = 0 then 0 else 1 : Int)) 39 6 (((wr (wr m 41 l2 (if l3 = 0 then 0 else 1 : Int)) 42 l2 (if l4 = 0 then 0 else 1 : Int)) 39 6) + ((wr (wr m 41 l2 (if l3 = 0 then 0 else 1 : Int)) 42 l2 (if l4 = 0 then 0 else 1 : Int)) 41 l2))) 42 l2))) 42 l2)) * ((wr (wr (wr (wr m 41 l2 (if l3 = 0 then 0 else 1 : Int)) 42 l2 (if l4 = 0 then 0 else 1 : Int)) 39 6 (((wr (wr m 41 l2 (if l3 = 0 then 0 else 1 : Int)) 42 l2 (if l4 = 0 then 0 else 1 : Int)) 39 6) + ((wr (wr m 41 l2 (if l3 = 0 then 0 else 1 : Int)) 42 l2 (if l4 = 0 then 0 else 1 : Int)) 41 l2))) 39 7 (((wr (wr (wr m 41 l2 (if l3 = 0 then 0 else 1 : Int)) 42 l2 (if l4 = 0 then 0 else 1 : Int)) 39 6 (((wr (wr m 41 l2 (if l3 = 0 then 0 else 1 : Int)) 42 l2 (if l4 = 0 then 0 else 1 : Int)) 39 6) + ((wr (wr m 41 l2 (if l3 = 0 then 0 else 1 : Int)) 42 l2 (if l4 = 0 then 0 else 1 : Int)) 41 l2))) 39 7) + ((wr (wr (wr m 41 l2 (if l3 = 0 then 0 else 1 : Int)) 42 l2 (if l4 = 0 then 0 else 1 : Int)) 39 6 (((wr (wr m 41 l2 (if l3 = 0 then 0 else 1 : Int)) 42 l2 (if l4 = 0 then 0 else 1 : Int)) 39 6) + ((wr (wr m 41 l2 (if l3 = 0 then 0 else 1 : Int)) 42 l2 (if l4 = 0 then 0 else 1 : Int)) 41 l2))) 42 l2))) (l1 + 13) 0)) + (((wr (wr (wr (wr m 41 l2 (if l3 = 0 then 0 else 1 : Int)) 42 l2 (if l4 = 0 then 0 else 1 : Int)) 39 6 (((wr (wr m 41 l2 (if l3 = 0 then 0 else 1 : Int)) 42 l2 (if l4 = 0 then 0 else 1 : Int)) 39 6) + ((wr (wr m 41 l2 (if l3 = 0 then 0 else 1 : Int)) 42 l2 (if l4 = 0 then 0 else 1 : Int)) 41 l2))) 39 7 (((wr (wr (wr m 41 l2 (if l3 = 0 then 0 else 1 : Int)) 42 l2 (if l4 = 0 then 0 else 1 : Int)) 39 6 (((wr (wr m 41 l2 (if l3 = 0 then 0 else 1 : Int)) 42 l2 (if l4 = 0 then 0 else 1 : Int)) 39 6) + ((wr (wr m 41 l2 (if l3 = 0 then 0 else 1 : Int)) 42 l2 (if l4 = 0 then 0 else 1 : Int)) 41 l2))) 39 7) + ((wr (wr (wr m 41 l2 (if l3 = 0 then 0 else 1 : Int)) 42 l2 (if l4 = 0 then 0 else 1 : Int)) 39 6 (((wr (wr m 41 l2 (if l3 = 0 then 0 else 1 : Int)) 42 l2 (if l4 = 0 then 0 else 1 : Int)) 39 6) + ((wr (wr m 41 l2 (if l3 = 0 then 0 else 1 : Int)) 42 l2 (if l4 = 0 then 0 else 1 : Int)) 41 l2))) 42 l2))) 42 l2) * ((wr (wr (wr (wr m 41 l2 (if l3 = 0 then 0 else 1 : Int)) 42 l2 (if l4 = 0 then 0 else 1 : Int)) 39 6 (((wr (wr m 41 l2 (if l3 = 0 then 0 else 1 : Int)) 42 l2 (if l4 = 0 then 0 else 1 : Int)) 39 6) + ((wr (wr m 41 l2 (if l3 = 0 then 0 else 1 : Int)) 42 l2 (if l4 = 0 then 0 else 1 : Int)) 41 l2))) 39 7 (((wr (wr (wr m 41 l2 (if l3 = 0 then 0 else 1 : Int)) 42 l2 (if l4 = 0 then 0 else 1 : Int)) 39 6 (((wr (wr m 41 l2 (if l3 = 0 then 0 else 1 : Int)) 42 l2 (if l4 = 0 then 0 else 1 : Int)) 39 6) + ((wr (wr m 41 l2 (if l3 = 0 then 0 else 1 : Int)) 42 l2 (if l4 = 0 then 0 else 1 : Int)) 41 l2))) 39 7) + ((wr (wr (wr m 41 l2 (if l3 = 0 then 0 else 1 : Int)) 42 l2 (if l4 = 0 then 0 else 1 : Int)) 39 6 (((wr (wr m 41 l2 (if l3 = 0 then 0 else 1 : Int)) 42 l2 (if l4 = 0 then 0 else 1 : Int)) 39 6) + ((wr (wr m 41 l2 (if l3 = 0 then 0 else 1 : Int)) 42 l2 (if l4 = 0 then 0 else 1 : Int)) 41 l2))) 42 l2))) (l1 + 13) 1))))) 39 5 l2)))))) : S_X1_note sc d 0 [aR 39, aR l1, aI l2, aI l3, aI l4] [] m Q := by
  refine x_aload_n (pc2 := 1) dX1_note_0 rfl rfl ?_
  refine x_getf (pc2 := 4) (v := aR 41) fl_X1_15 ic_39 (vr_39_1 _) dX1_note_1 rfl ?_
  refine x_iload_n (pc2 := 5) dX1_note_4 rfl rfl ?_
  refine x_iload_n (pc2 := 6) dX1_note_5 rfl rfl ?_
  obtain ⟨g2, k⟩ := k
  have kj : S_X1_note sc d 14 [aR 39, aR l1, aI l2, aI l3, aI l4] [aI (if l3 = 0 then 0 else 1 : Int), aI l2, aR 41] m Q := by
    obtain ⟨h3, k⟩ := k
    obtain ⟨h4, k⟩ := k
    refine x_iast (pc2 := 15) ic_41 h3 (by rw [al_41]; exact h4) dX1_note_14 rfl ?_
    refine x_aload_n (pc2 := 16) dX1_note_15 rfl rfl ?_
    refine x_getf (pc2 := 19) (v := aR 42) fl_X1_18 ic_39 (vr_39_2 _) dX1_note_16 rfl ?_
    refine x_iload_n (pc2 := 20) dX1_note_19 rfl rfl ?_
    refine x_iload (pc2 := 22) dX1_note_20 rfl rfl ?_
    obtain ⟨g6, k⟩ := k
    have kj : S_X1_note sc d 30 [aR 39, aR l1, aI l2, aI l3, aI l4] [aI (if l4 = 0 then 0 else 1 : Int), aI l2, aR 42] (wr m 41 l2 (if l3 = 0 then 0 else 1 : Int)) Q := by
      refine x_iast (pc2 := 31) ic_42 h3 (by rw [al_42]; exact h4) dX1_note_30 rfl ?_
      refine x_aload_n (pc2 := 32) dX1_note_31 rfl rfl ?_
      refine x_dup_r (pc2 := 33) dX1_note_32 rfl (by decide) ?_
      refine x_getf (pc2 := 36) (v := aI ((wr (wr m 41 l2 (if l3 = 0 then 0 else 1 : Int)) 42 l2 (if l4 = 0 then 0 else 1 : Int)) 39 6)) fl_X1_31 ic_39 (fv_i _ ic_39 rfl) dX1_note_33 rfl ?_
      refine x_aload_n (pc2 := 37) dX1_note_36 rfl rfl ?_
      refine x_getf (pc2 := 40) (v := aR 41) fl_X1_15 ic_39 (vr_39_1 _) dX1_note_37 rfl ?_
      refine x_iload_n (pc2 := 41) dX1_note_40 rfl rfl ?_
      refine x_iald (pc2 := 42) ic_41 h3 (by rw [al_41]; exact h4) dX1_note_41 rfl ?_
      refine x_iadd (pc2 := 43) dX1_note_42 rfl ?_
      refine x_putf (pc2 := 46) (x := (((wr (wr m 41 l2 (if l3 = 0 then 0 else 1 : Int)) 42 l2 (if l4 = 0 then 0 else 1 : Int)) 39 6) + ((wr (wr m 41 l2 (if l3 = 0 then 0 else 1 : Int)) 42 l2 (if l4 = 0 then 0 else 1 : Int)) 41 l2))) fl_X1_31 ft_1_6 ic_39 (pv_i _ ic_39 rfl) (pn_i _) dX1_note_43 rfl ?_
      refine x_aload_n (pc2 := 47) dX1_note_46 rfl rfl ?_
      refine x_dup_r (pc2 := 48) dX1_note_47 rfl (by decide) ?_
      refine x_getf (pc2 := 51) (v := aI ((wr (wr (wr m 41 l2 (if l3 = 0 then 0 else 1 : Int)) 42 l2 (if l4 = 0 then 0 else 1 : Int)) 39 6 (((wr (wr m 41 l2 (if l3 = 0 then 0 else 1 : Int)) 42 l2 (if l4 = 0 then 0 else 1 : Int)) 39 6) + ((wr (wr m 41 l2 (if l3 = 0 then 0 else 1 : Int)) 42 l2 (if l4 = 0 then 0 else 1 : Int)) 41 l2))) 39 7)) fl_X1_34 ic_39 (fv_i _ ic_39 rfl) dX1_note_48 rfl ?_
      refine x_aload_n (pc2 := 52) dX1_note_51 rfl rfl ?_
      refine x_getf (pc2 := 55) (v := aR 42) fl_X1_18 ic_39 (vr_39_2 _) dX1_note_52 rfl ?_
      refine x_iload_n (pc2 := 56) dX1_note_55 rfl rfl ?_
      refine x_iald (pc2 := 57) ic_42 h3 (by rw [al_42]; exact h4) dX1_note_56 rfl ?_
      refine x_iadd (pc2 := 58) dX1_note_57 rfl ?_
      refine x_putf (pc2 := 61) (x := (((wr (wr (wr m 41 l2 (if l3 = 0 then 0 else 1 : Int)) 42 l2 (if l4 = 0 then 0 else 1 : Int)) 39 6 (((wr (wr m 41 l2 (if l3 = 0 then 0 else 1 : Int)) 42 l2 (if l4 = 0 then 0 else 1 : Int)) 39 6) + ((wr (wr m 41 l2 (if l3 = 0 then 0 else 1 : Int)) 42 l2 (if l4 = 0 then 0 else 1 : Int)) 41 l2))) 39 7) + ((wr (wr (wr m 41 l2 (if l3 = 0 then 0 else 1 : Int)) 42 l2 (if l4 = 0 then 0 else 1 : Int)) 39 6 (((wr (wr m 41 l2 (if l3 = 0 then 0 else 1 : Int)) 42 l2 (if l4 = 0 then 0 else 1 : Int)) 39 6) + ((wr (wr m 41 l2 (if l3 = 0 then 0 else 1 : Int)) 42 l2 (if l4 = 0 then 0 else 1 : Int)) 41 l2))) 42 l2))) fl_X1_34 ft_1_7 ic_39 (pv_i _ ic_39 rfl) (pn_i _) dX1_note_58 rfl ?_
      refine x_aload_n (pc2 := 62) dX1_note_61 rfl rfl ?_
      refine x_dup_r (pc2 := 63) dX1_note_62 rfl (by decide) ?_
      refine x_getf (pc2 := 66) (v := aI ((wr (wr (wr (wr m 41 l2 (if l3 = 0 then 0 else 1 : Int)) 42 l2 (if l4 = 0 then 0 else 1 : Int)) 39 6 (((wr (wr m 41 l2 (if l3 = 0 then 0 else 1 : Int)) 42 l2 (if l4 = 0 then 0 else 1 : Int)) 39 6) + ((wr (wr m 41 l2 (if l3 = 0 then 0 else 1 : Int)) 42 l2 (if l4 = 0 then 0 else 1 : Int)) 41 l2))) 39 7 (((wr (wr (wr m 41 l2 (if l3 = 0 then 0 else 1 : Int)) 42 l2 (if l4 = 0 then 0 else 1 : Int)) 39 6 (((wr (wr m 41 l2 (if l3 = 0 then 0 else 1 : Int)) 42 l2 (if l4 = 0 then 0 else 1 : Int)) 39 6) + ((wr (wr m 41 l2 (if l3 = 0 then 0 else 1 : Int)) 42 l2 (if l4 = 0 then 0 else 1 : Int)) 41 l2))) 39 7) + ((wr (wr (wr m 41 l2 (if l3 = 0 then 0 else 1 : Int)) 42 l2 (if l4 = 0 then 0 else 1 : Int)) 39 6 (((wr (wr m 41 l2 (if l3 = 0 then 0 else 1 : Int)) 42 l2 (if l4 = 0 then 0 else 1 : Int)) 39 6) + ((wr (wr m 41 l2 (if l3 = 0 then 0 else 1 : Int)) 42 l2 (if l4 = 0 then 0 else 1 : Int)) 41 l2))) 42 l2))) 39 8)) fl_X1_37 ic_39 (fv_i _ ic_39 rfl) dX1_note_63 rfl ?_
      refine x_aload_n (pc2 := 67) dX1_note_66 rfl rfl ?_
      refine x_getf (pc2 := 70) (v := aR 41) fl_X1_15 ic_39 (vr_39_1 _) dX1_note_67 rfl ?_
      refine x_iload_n (pc2 := 71) dX1_note_70 rfl rfl ?_
      refine x_iald (pc2 := 72) ic_41 h3 (by rw [al_41]; exact h4) dX1_note_71 rfl ?_
      refine x_aload_n (pc2 := 73) dX1_note_72 rfl rfl ?_
      refine x_getf (pc2 := 76) (v := aR 42) fl_X1_18 ic_39 (vr_39_2 _) dX1_note_73 rfl ?_
      refine x_iload_n (pc2 := 77) dX1_note_76 rfl rfl ?_
      refine x_iald (pc2 := 78) ic_42 h3 (by rw [al_42]; exact h4) dX1_note_77 rfl ?_
      refine x_iadd (pc2 := 79) dX1_note_78 rfl ?_
      refine x_aload_n (pc2 := 80) dX1_note_79 rfl rfl ?_
      refine x_getf (pc2 := 83) (v := aR (l1 + 13)) fl_X1_62 (icr_0 Hl1) (vrr_13 _ Hl1) dX1_note_80 rfl ?_
      refine x_iconst (pc2 := 84) dX1_note_83 rfl ?_
      refine x_iald (pc2 := 85) (icr_13 Hl1) (by decide) (by rw [(alr_13 Hl1)]; decide) dX1_note_84 rfl ?_
      refine x_imul (pc2 := 86) dX1_note_85 rfl ?_
      refine x_aload_n (pc2 := 87) dX1_note_86 rfl rfl ?_
      refine x_getf (pc2 := 90) (v := aR 42) fl_X1_18 ic_39 (vr_39_2 _) dX1_note_87 rfl ?_
      refine x_iload_n (pc2 := 91) dX1_note_90 rfl rfl ?_
      refine x_iald (pc2 := 92) ic_42 h3 (by rw [al_42]; exact h4) dX1_note_91 rfl ?_
      refine x_aload_n (pc2 := 93) dX1_note_92 rfl rfl ?_
      refine x_getf (pc2 := 96) (v := aR (l1 + 13)) fl_X1_62 (icr_0 Hl1) (vrr_13 _ Hl1) dX1_note_93 rfl ?_
      refine x_iconst (pc2 := 97) dX1_note_96 rfl ?_
      refine x_iald (pc2 := 98) (icr_13 Hl1) (by decide) (by rw [(alr_13 Hl1)]; decide) dX1_note_97 rfl ?_
      refine x_imul (pc2 := 99) dX1_note_98 rfl ?_
      refine x_iadd (pc2 := 100) dX1_note_99 rfl ?_
      refine x_iadd (pc2 := 101) dX1_note_100 rfl ?_
      refine x_putf (pc2 := 104) (x := (((wr (wr (wr (wr m 41 l2 (if l3 = 0 then 0 else 1 : Int)) 42 l2 (if l4 = 0 then 0 else 1 : Int)) 39 6 (((wr (wr m 41 l2 (if l3 = 0 then 0 else 1 : Int)) 42 l2 (if l4 = 0 then 0 else 1 : Int)) 39 6) + ((wr (wr m 41 l2 (if l3 = 0 then 0 else 1 : Int)) 42 l2 (if l4 = 0 then 0 else 1 : Int)) 41 l2))) 39 7 (((wr (wr (wr m 41 l2 (if l3 = 0 then 0 else 1 : Int)) 42 l2 (if l4 = 0 then 0 else 1 : Int)) 39 6 (((wr (wr m 41 l2 (if l3 = 0 then 0 else 1 : Int)) 42 l2 (if l4 = 0 then 0 else 1 : Int)) 39 6) + ((wr (wr m 41 l2 (if l3 = 0 then 0 else 1 : Int)) 42 l2 (if l4 = 0 then 0 else 1 : Int)) 41 l2))) 39 7) + ((wr (wr (wr m 41 l2 (if l3 = 0 then 0 else 1 : Int)) 42 l2 (if l4 = 0 then 0 else 1 : Int)) 39 6 (((wr (wr m 41 l2 (if l3 = 0 then 0 else 1 : Int)) 42 l2 (if l4 = 0 then 0 else 1 : Int)) 39 6) + ((wr (wr m 41 l2 (if l3 = 0 then 0 else 1 : Int)) 42 l2 (if l4 = 0 then 0 else 1 : Int)) 41 l2))) 42 l2))) 39 8) + (((((wr (wr (wr (wr m 41 l2 (if l3 = 0 then 0 else 1 : Int)) 42 l2 (if l4 = 0 then 0 else 1 : Int)) 39 6 (((wr (wr m 41 l2 (if l3 = 0 then 0 else 1 : Int)) 42 l2 (if l4 = 0 then 0 else 1 : Int)) 39 6) + ((wr (wr m 41 l2 (if l3 = 0 then 0 else 1 : Int)) 42 l2 (if l4 = 0 then 0 else 1 : Int)) 41 l2))) 39 7 (((wr (wr (wr m 41 l2 (if l3 = 0 then 0 else 1 : Int)) 42 l2 (if l4 = 0 then 0 else 1 : Int)) 39 6 (((wr (wr m 41 l2 (if l3 = 0 then 0 else 1 : Int)) 42 l2 (if l4 = 0 then 0 else 1 : Int)) 39 6) + ((wr (wr m 41 l2 (if l3 = 0 then 0 else 1 : Int)) 42 l2 (if l4 = 0 then 0 else 1 : Int)) 41 l2))) 39 7) + ((wr (wr (wr m 41 l2 (if l3 = 0 then 0 else 1 : Int)) 42 l2 (if l4 = 0 then 0 else 1 : Int)) 39 6 (((wr (wr m 41 l2 (if l3 = 0 then 0 else 1 : Int)) 42 l2 (if l4 = 0 then 0 else 1 : Int)) 39 6) + ((wr (wr m 41 l2 (if l3 = 0 then 0 else 1 : Int)) 42 l2 (if l4 = 0 then 0 else 1 : Int)) 41 l2))) 42 l2))) 41 l2) + ((wr (wr (wr (wr m 41 l2 (if l3 = 0 then 0 else 1 : Int)) 42 l2 (if l4 = 0 then 0 else 1 : Int)) 39 6 (((wr (wr m 41 l2 (if l3 = 0 then 0 else 1 : Int)) 42 l2 (if l4 = 0 then 0 else 1 : Int)) 39 6) + ((wr (wr m 41 l2 (if l3 = 0 then 0 else 1 : Int)) 42 l2 (if l4 = 0 then 0 else 1 : Int)) 41 l2))) 39 7 (((wr (wr (wr m 41 l2 (if l3 = 0 then 0 else 1 : Int)) 42 l2 (if l4 = 0 then 0 else 1 : Int)) 39 6 (((wr (wr m 41 l2 (if l3 = 0 then 0 else 1 : Int)) 42 l2 (if l4 = 0 then 0 else 1 : Int)) 39 6) + ((wr (wr m 41 l2 (if l3 = 0 then 0 else 1 : Int)) 42 l2 (if l4 = 0 then 0 else 1 : Int)) 41 l2))) 39 7) + ((wr (wr (wr m 41 l2 (if l3 = 0 then 0 else 1 : Int)) 42 l2 (if l4 = 0 then 0 else 1 : Int)) 39 6 (((wr (wr m 41 l2 (if l3 = 0 then 0 else 1 : Int)) 42 l2 (if l4 = 0 then 0 else 1 : Int)) 39 6) + ((wr (wr m 41 l2 (if l3 = 0 then 0 else 1 : Int)) 42 l2 (if l4 = 0 then 0 else 1 : Int)) 41 l2))) 42 l2))) 42 l2)) * ((wr (wr (wr (wr m 41 l2 (if l3 = 0 then 0 else 1 : Int)) 42 l2 (if l4 = 0 then 0 else 1 : Int)) 39 6 (((wr (wr m 41 l2 (if l3 = 0 then 0 else 1 : Int)) 42 l2 (if l4 = 0 then 0 else 1 : Int)) 39 6) + ((wr (wr m 41 l2 (if l3 = 0 then 0 else 1 : Int)) 42 l2 (if l4 = 0 then 0 else 1 : Int)) 41 l2))) 39 7 (((wr (wr (wr m 41 l2 (if l3 = 0 then 0 else 1 : Int)) 42 l2 (if l4 = 0 then 0 else 1 : Int)) 39 6 (((wr (wr m 41 l2 (if l3 = 0 then 0 else 1 : Int)) 42 l2 (if l4 = 0 then 0 else 1 : Int)) 39 6) + ((wr (wr m 41 l2 (if l3 = 0 then 0 else 1 : Int)) 42 l2 (if l4 = 0 then 0 else 1 : Int)) 41 l2))) 39 7) + ((wr (wr (wr m 41 l2 (if l3 = 0 then 0 else 1 : Int)) 42 l2 (if l4 = 0 then 0 else 1 : Int)) 39 6 (((wr (wr m 41 l2 (if l3 = 0 then 0 else 1 : Int)) 42 l2 (if l4 = 0 then 0 else 1 : Int)) 39 6) + ((wr (wr m 41 l2 (if l3 = 0 then 0 else 1 : Int)) 42 l2 (if l4 = 0 then 0 else 1 : Int)) 41 l2))) 42 l2))) (l1 + 13) 0)) + (((wr (wr (wr (wr m 41 l2 (if l3 = 0 then 0 else 1 : Int)) 42 l2 (if l4 = 0 then 0 else 1 : Int)) 39 6 (((wr (wr m 41 l2 (if l3 = 0 then 0 else 1 : Int)) 42 l2 (if l4 = 0 then 0 else 1 : Int)) 39 6) + ((wr (wr m 41 l2 (if l3 = 0 then 0 else 1 : Int)) 42 l2 (if l4 = 0 then 0 else 1 : Int)) 41 l2))) 39 7 (((wr (wr (wr m 41 l2 (if l3 = 0 then 0 else 1 : Int)) 42 l2 (if l4 = 0 then 0 else 1 : Int)) 39 6 (((wr (wr m 41 l2 (if l3 = 0 then 0 else 1 : Int)) 42 l2 (if l4 = 0 then 0 else 1 : Int)) 39 6) + ((wr (wr m 41 l2 (if l3 = 0 then 0 else 1 : Int)) 42 l2 (if l4 = 0 then 0 else 1 : Int)) 41 l2))) 39 7) + ((wr (wr (wr m 41 l2 (if l3 = 0 then 0 else 1 : Int)) 42 l2 (if l4 = 0 then 0 else 1 : Int)) 39 6 (((wr (wr m 41 l2 (if l3 = 0 then 0 else 1 : Int)) 42 l2 (if l4 = 0 then 0 else 1 : Int)) 39 6) + ((wr (wr m 41 l2 (if l3 = 0 then 0 else 1 : Int)) 42 l2 (if l4 = 0 then 0 else 1 : Int)) 41 l2))) 42 l2))) 42 l2) * ((wr (wr (wr (wr m 41 l2 (if l3 = 0 then 0 else 1 : Int)) 42 l2 (if l4 = 0 then 0 else 1 : Int)) 39 6 (((wr (wr m 41 l2 (if l3 = 0 then 0 else 1 : Int)) 42 l2 (if l4 = 0 then 0 else 1 : Int)) 39 6) + ((wr (wr m 41 l2 (if l3 = 0 then 0 else 1 : Int)) 42 l2 (if l4 = 0 then 0 else 1 : Int)) 41 l2))) 39 7 (((wr (wr (wr m 41 l2 (if l3 = 0 then 0 else 1 : Int)) 42 l2 (if l4 = 0 then 0 else 1 : Int)) 39 6 (((wr (wr m 41 l2 (if l3 = 0 then 0 else 1 : Int)) 42 l2 (if l4 = 0 then 0 else 1 : Int)) 39 6) + ((wr (wr m 41 l2 (if l3 = 0 then 0 else 1 : Int)) 42 l2 (if l4 = 0 then 0 else 1 : Int)) 41 l2))) 39 7) + ((wr (wr (wr m 41 l2 (if l3 = 0 then 0 else 1 : Int)) 42 l2 (if l4 = 0 then 0 else 1 : Int)) 39 6 (((wr (wr m 41 l2 (if l3 = 0 then 0 else 1 : Int)) 42 l2 (if l4 = 0 then 0 else 1 : Int)) 39 6) + ((wr (wr m 41 l2 (if l3 = 0 then 0 else 1 : Int)) 42 l2 (if l4 = 0 then 0 else 1 : Int)) 41 l2))) 42 l2))) (l1 + 13) 1))))) fl_X1_37 ft_1_8 ic_39 (pv_i _ ic_39 rfl) (pn_i _) dX1_note_101 rfl ?_
      refine x_iload (pc2 := 106) dX1_note_104 rfl rfl ?_
      obtain ⟨h7, k⟩ := k
      obtain ⟨k1, k2⟩ := k
      refine x_if_eq (tgt := 122) (pc2 := 109) dX1_note_106 (by decide) rfl h7 (fun c8 => ?_) (fun c8 => ?_)
      · replace k := k1 c8
        exact x_return dX1_note_122 rfl k
      · replace k := k2 c8
        refine x_aload_n (pc2 := 110) dX1_note_109 rfl rfl ?_
        refine x_getf (pc2 := 113) (v := aI ((wr (wr (wr (wr (wr m 41 l2 (if l3 = 0 then 0 else 1 : Int)) 42 l2 (if l4 = 0 then 0 else 1 : Int)) 39 6 (((wr (wr m 41 l2 (if l3 = 0 then 0 else 1 : Int)) 42 l2 (if l4 = 0 then 0 else 1 : Int)) 39 6) + ((wr (wr m 41 l2 (if l3 = 0 then 0 else 1 : Int)) 42 l2 (if l4 = 0 then 0 else 1 : Int)) 41 l2))) 39 7 (((wr (wr (wr m 41 l2 (if l3 = 0 then 0 else 1 : Int)) 42 l2 (if l4 = 0 then 0 else 1 : Int)) 39 6 (((wr (wr m 41 l2 (if l3 = 0 then 0 else 1 : Int)) 42 l2 (if l4 = 0 then 0 else 1 : Int)) 39 6) + ((wr (wr m 41 l2 (if l3 = 0 then 0 else 1 : Int)) 42 l2 (if l4 = 0 then 0 else 1 : Int)) 41 l2))) 39 7) + ((wr (wr (wr m 41 l2 (if l3 = 0 then 0 else 1 : Int)) 42 l2 (if l4 = 0 then 0 else 1 : Int)) 39 6 (((wr (wr m 41 l2 (if l3 = 0 then 0 else 1 : Int)) 42 l2 (if l4 = 0 then 0 else 1 : Int)) 39 6) + ((wr (wr m 41 l2 (if l3 = 0 then 0 else 1 : Int)) 42 l2 (if l4 = 0 then 0 else 1 : Int)) 41 l2))) 42 l2))) 39 8 (((wr (wr (wr (wr m 41 l2 (if l3 = 0 then 0 else 1 : Int)) 42 l2 (if l4 = 0 then 0 else 1 : Int)) 39 6 (((wr (wr m 41 l2 (if l3 = 0 then 0 else 1 : Int)) 42 l2 (if l4 = 0 then 0 else 1 : Int)) 39 6) + ((wr (wr m 41 l2 (if l3 = 0 then 0 else 1 : Int)) 42 l2 (if l4 = 0 then 0 else 1 : Int)) 41 l2))) 39 7 (((wr (wr (wr m 41 l2 (if l3 = 0 then 0 else 1 : Int)) 42 l2 (if l4 = 0 then 0 else 1 : Int)) 39 6 (((wr (wr m 41 l2 (if l3 = 0 then 0 else 1 : Int)) 42 l2 (if l4 = 0 then 0 else 1 : Int)) 39 6) + ((wr (wr m 41 l2 (if l3 = 0 then 0 else 1 : Int)) 42 l2 (if l4 = 0 then 0 else 1 : Int)) 41 l2))) 39 7) + ((wr (wr (wr m 41 l2 (if l3 = 0 then 0 else 1 : Int)) 42 l2 (if l4 = 0 then 0 else 1 : Int)) 39 6 (((wr (wr m 41 l2 (if l3 = 0 then 0 else 1 : Int)) 42 l2 (if l4 = 0 then 0 else 1 : Int)) 39 6) + ((wr (wr m 41 l2 (if l3 = 0 then 0 else 1 : Int)) 42 l2 (if l4 = 0 then 0 else 1 : Int)) 41 l2))) 42 l2))) 39 8) + (((((wr (wr (wr (wr m 41 l2 (if l3 = 0 then 0 else 1 : Int)) 42 l2 (if l4 = 0 then 0 else 1 : Int)) 39 6 (((wr (wr m 41 l2 (if l3 = 0 then 0 else 1 : Int)) 42 l2 (if l4 = 0 then 0 else 1 : Int)) 39 6) + ((wr (wr m 41 l2 (if l3 = 0 then 0 else 1 : Int)) 42 l2 (if l4 = 0 then 0 else 1 : Int)) 41 l2))) 39 7 (((wr (wr (wr m 41 l2 (if l3 = 0 then 0 else 1 : Int)) 42 l2 (if l4 = 0 then 0 else 1 : Int)) 39 6 (((wr (wr m 41 l2 (if l3 = 0 then 0 else 1 : Int)) 42 l2 (if l4 = 0 then 0 else 1 : Int)) 39 6) + ((wr (wr m 41 l2 (if l3 = 0 then 0 else 1 : Int)) 42 l2 (if l4 = 0 then 0 else 1 : Int)) 41 l2))) 39 7) + ((wr (wr (wr m 41 l2 (if l3 = 0 then 0 else 1 : Int)) 42 l2 (if l4 = 0 then 0 else 1 : Int)) 39 6 (((wr (wr m 41 l2 (if l3 = 0 then 0 else 1 : Int)) 42 l2 (if l4 = 0 then 0 else 1 : Int)) 39 6) + ((wr (wr m 41 l2 (if l3 = 0 then 0 else 1 : Int)) 42 l2 (if l4 = 0 then 0 else 1 : Int)) 41 l2))) 42 l2))) 41 l2) + ((wr (wr (wr (wr m 41 l2 (if l3 = 0 then 0 else 1 : Int)) 42 l2 (if l4 = 0 then 0 else 1 : Int)) 39 6 (((wr (wr m 41 l2 (if l3 = 0 then 0 else 1 : Int)) 42 l2 (if l4 = 0 then 0 else 1 : Int)) 39 6) + ((wr (wr m 41 l2 (if l3 = 0 then 0 else 1 : Int)) 42 l2 (if l4 = 0 then 0 else 1 : Int)) 41 l2))) 39 7 (((wr (wr (wr m 41 l2 (if l3 = 0 then 0 else 1 : Int)) 42 l2 (if l4 = 0 then 0 else 1 : Int)) 39 6 (((wr (wr m 41 l2 (if l3 = 0 then 0 else 1 : Int)) 42 l2 (if l4 = 0 then 0 else 1 : Int)) 39 6) + ((wr (wr m 41 l2 (if l3 = 0 then 0 else 1 : Int)) 42 l2 (if l4 = 0 then 0 else 1 : Int)) 41 l2))) 39 7) + ((wr (wr (wr m 41 l2 (if l3 = 0 then 0 else 1 : Int)) 42 l2 (if l4 = 0 then 0 else 1 : Int)) 39 6 (((wr (wr m 41 l2 (if l3 = 0 then 0 else 1 : Int)) 42 l2 (if l4 = 0 then 0 else 1 : Int)) 39 6) + ((wr (wr m 41 l2 (if l3 = 0 then 0 else 1 : Int)) 42 l2 (if l4 = 0 then 0 else 1 : Int)) 41 l2))) 42 l2))) 42 l2)) * ((wr (wr (wr (wr m 41 l2 (if l3 = 0 then 0 else 1 : Int)) 42 l2 (if l4 = 0 then 0 else 1 : Int)) 39 6 (((wr (wr m 41 l2 (if l3 = 0 then 0 else 1 : Int)) 42 l2 (if l4 = 0 then 0 else 1 : Int)) 39 6) + ((wr (wr m 41 l2 (if l3 = 0 then 0 else 1 : Int)) 42 l2 (if l4 = 0 then 0 else 1 : Int)) 41 l2))) 39 7 (((wr (wr (wr m 41 l2 (if l3 = 0 then 0 else 1 : Int)) 42 l2 (if l4 = 0 then 0 else 1 : Int)) 39 6 (((wr (wr m 41 l2 (if l3 = 0 then 0 else 1 : Int)) 42 l2 (if l4 = 0 then 0 else 1 : Int)) 39 6) + ((wr (wr m 41 l2 (if l3 = 0 then 0 else 1 : Int)) 42 l2 (if l4 = 0 then 0 else 1 : Int)) 41 l2))) 39 7) + ((wr (wr (wr m 41 l2 (if l3 = 0 then 0 else 1 : Int)) 42 l2 (if l4 = 0 then 0 else 1 : Int)) 39 6 (((wr (wr m 41 l2 (if l3 = 0 then 0 else 1 : Int)) 42 l2 (if l4 = 0 then 0 else 1 : Int)) 39 6) + ((wr (wr m 41 l2 (if l3 = 0 then 0 else 1 : Int)) 42 l2 (if l4 = 0 then 0 else 1 : Int)) 41 l2))) 42 l2))) (l1 + 13) 0)) + (((wr (wr (wr (wr m 41 l2 (if l3 = 0 then 0 else 1 : Int)) 42 l2 (if l4 = 0 then 0 else 1 : Int)) 39 6 (((wr (wr m 41 l2 (if l3 = 0 then 0 else 1 : Int)) 42 l2 (if l4 = 0 then 0 else 1 : Int)) 39 6) + ((wr (wr m 41 l2 (if l3 = 0 then 0 else 1 : Int)) 42 l2 (if l4 = 0 then 0 else 1 : Int)) 41 l2))) 39 7 (((wr (wr (wr m 41 l2 (if l3 = 0 then 0 else 1 : Int)) 42 l2 (if l4 = 0 then 0 else 1 : Int)) 39 6 (((wr (wr m 41 l2 (if l3 = 0 then 0 else 1 : Int)) 42 l2 (if l4 = 0 then 0 else 1 : Int)) 39 6) + ((wr (wr m 41 l2 (if l3 = 0 then 0 else 1 : Int)) 42 l2 (if l4 = 0 then 0 else 1 : Int)) 41 l2))) 39 7) + ((wr (wr (wr m 41 l2 (if l3 = 0 then 0 else 1 : Int)) 42 l2 (if l4 = 0 then 0 else 1 : Int)) 39 6 (((wr (wr m 41 l2 (if l3 = 0 then 0 else 1 : Int)) 42 l2 (if l4 = 0 then 0 else 1 : Int)) 39 6) + ((wr (wr m 41 l2 (if l3 = 0 then 0 else 1 : Int)) 42 l2 (if l4 = 0 then 0 else 1 : Int)) 41 l2))) 42 l2))) 42 l2) * ((wr (wr (wr (wr m 41 l2 (if l3 = 0 then 0 else 1 : Int)) 42 l2 (if l4 = 0 then 0 else 1 : Int)) 39 6 (((wr (wr m 41 l2 (if l3 = 0 then 0 else 1 : Int)) 42 l2 (if l4 = 0 then 0 else 1 : Int)) 39 6) + ((wr (wr m 41 l2 (if l3 = 0 then 0 else 1 : Int)) 42 l2 (if l4 = 0 then 0 else 1 : Int)) 41 l2))) 39 7 (((wr (wr (wr m 41 l2 (if l3 = 0 then 0 else 1 : Int)) 42 l2 (if l4 = 0 then 0 else 1 : Int)) 39 6 (((wr (wr m 41 l2 (if l3 = 0 then 0 else 1 : Int)) 42 l2 (if l4 = 0 then 0 else 1 : Int)) 39 6) + ((wr (wr m 41 l2 (if l3 = 0 then 0 else 1 : Int)) 42 l2 (if l4 = 0 then 0 else 1 : Int)) 41 l2))) 39 7) + ((wr (wr (wr m 41 l2 (if l3 = 0 then 0 else 1 : Int)) 42 l2 (if l4 = 0 then 0 else 1 : Int)) 39 6 (((wr (wr m 41 l2 (if l3 = 0 then 0 else 1 : Int)) 42 l2 (if l4 = 0 then 0 else 1 : Int)) 39 6) + ((wr (wr m 41 l2 (if l3 = 0 then 0 else 1 : Int)) 42 l2 (if l4 = 0 then 0 else 1 : Int)) 41 l2))) 42 l2))) (l1 + 13) 1))))) 39 5)) fl_X1_28 ic_39 (fv_i _ ic_39 rfl) dX1_note_110 rfl ?_
        refine x_iconst (pc2 := 114) dX1_note_113 rfl ?_
        obtain ⟨h9, k⟩ := k
        obtain ⟨k1, k2⟩ := k
        refine x_icmp_ne (tgt := 122) (pc2 := 117) dX1_note_114 (by decide) rfl h9 (by decide) (fun c10 => ?_) (fun c10 => ?_)
        · replace k := k1 c10
          exact x_return dX1_note_122 rfl k
        · replace k := k2 c10
          refine x_aload_n (pc2 := 118) dX1_note_117 rfl rfl ?_
          refine x_iload_n (pc2 := 119) dX1_note_118 rfl rfl ?_
          refine x_putf (pc2 := 122) (x := l2) fl_X1_28 ft_1_5 ic_39 (pv_i _ ic_39 rfl) (pn_i _) dX1_note_119 rfl ?_
          exact x_return dX1_note_122 rfl k
    have h11 := g6 
    refine x_if_eq (tgt := 29) (pc2 := 25) dX1_note_22 (by decide) rfl h11 (fun c12 => ?_) (fun c12 => ?_)
    · skip
      refine x_iconst (pc2 := 30) dX1_note_29 rfl ?_
      exact x_topI (if_pos c12) kj
    · skip
      refine x_iconst (pc2 := 26) dX1_note_25 rfl ?_
      refine x_goto (tgt := 30) dX1_note_26 (by decide) ?_
      exact x_topI (if_neg c12) kj
  have h13 := g2 
  refine x_if_eq (tgt := 13) (pc2 := 9) dX1_note_6 (by decide) rfl h13 (fun c14 => ?_) (fun c14 => ?_)
  · skip
    refine x_iconst (pc2 := 14) dX1_note_13 rfl ?_
    exact x_topI (if_pos c14) kj
  · skip
    refine x_iconst (pc2 := 10) dX1_note_9 rfl ?_
    refine x_goto (tgt := 14) dX1_note_10 (by decide) ?_
    exact x_topI (if_neg c14) kj
set_option maxRecDepth 4000 in
theorem g_X1_partsOf_0 {sc : List Int} {d : Nat} {m : Mem} {Q : Option AV → Mem → Prop} {l1 l2 : Int} (Hl1 : RoomAt l1) (k : (-2147483648 ≤ l2 ∧ l2 < 2147483648) ∧ ((l2 < 0) → (Q (some (aR 43)) m)) ∧ (¬ (l2 < 0) → ((-2147483648 ≤ (m l1 8) ∧ (m l1 8) < 2147483648) ∧ (((m l1 8) ≤ l2) → (Q (some (aR 43)) m)) ∧ (¬ ((m l1 8) ≤ l2) → ((0 ≤ l2) ∧ (l2 < 10) ∧ Q (some (aR 43)) (wr (wr (wr (wr (wr (wr (wr m 43 0 (m (l1 + 3) l2)) 43 1 ((wr m 43 0 (m (l1 + 3) l2)) (l1 + 4) l2)) 43 2 ((wr (wr m 43 0 (m (l1 + 3) l2)) 43 1 ((wr m 43 0 (m (l1 + 3) l2)) (l1 + 4) l2)) 40 l2)) 43 4 l2) 43 7 (((wr (wr (wr (wr m 43 0 (m (l1 + 3) l2)) 43 1 ((wr m 43 0 (m (l1 + 3) l2)) (l1 + 4) l2)) 43 2 ((wr (wr m 43 0 (m (l1 + 3) l2)) 43 1 ((wr m 43 0 (m (l1 + 3) l2)) (l1 + 4) l2)) 40 l2)) 43 4 l2) 39 4) - ((wr (wr (wr (wr m 43 0 (m (l1 + 3) l2)) 43 1 ((wr m 43 0 (m (l1 + 3) l2)) (l1 + 4) l2)) 43 2 ((wr (wr m 43 0 (m (l1 + 3) l2)) 43 1 ((wr m 43 0 (m (l1 + 3) l2)) (l1 + 4) l2)) 40 l2)) 43 4 l2) 40 l2))) 43 8 ((wr (wr (wr (wr (wr m 43 0 (m (l1 + 3) l2)) 43 1 ((wr m 43 0 (m (l1 + 3) l2)) (l1 + 4) l2)) 43 2 ((wr (wr m 43 0 (m (l1 + 3) l2)) 43 1 ((wr m 43 0 (m (l1 + 3) l2)) (l1 + 4) l2)) 40 l2)) 43 4 l2) 43 7 (((wr (wr (wr (wr m 43 0 (m (l1 + 3) l2)) 43 1 ((wr m 43 0 (m (l1 + 3) l2)) (l1 + 4) l2)) 43 2 ((wr (wr m 43 0 (m (l1 + 3) l2)) 43 1 ((wr m 43 0 (m (l1 + 3) l2)) (l1 + 4) l2)) 40 l2)) 43 4 l2) 39 4) - ((wr (wr (wr (wr m 43 0 (m (l1 + 3) l2)) 43 1 ((wr m 43 0 (m (l1 + 3) l2)) (l1 + 4) l2)) 43 2 ((wr (wr m 43 0 (m (l1 + 3) l2)) 43 1 ((wr m 43 0 (m (l1 + 3) l2)) (l1 + 4) l2)) 40 l2)) 43 4 l2) 40 l2))) 41 l2)) 43 9 ((wr (wr (wr (wr (wr (wr m 43 0 (m (l1 + 3) l2)) 43 1 ((wr m 43 0 (m (l1 + 3) l2)) (l1 + 4) l2)) 43 2 ((wr (wr m 43 0 (m (l1 + 3) l2)) 43 1 ((wr m 43 0 (m (l1 + 3) l2)) (l1 + 4) l2)) 40 l2)) 43 4 l2) 43 7 (((wr (wr (wr (wr m 43 0 (m (l1 + 3) l2)) 43 1 ((wr m 43 0 (m (l1 + 3) l2)) (l1 + 4) l2)) 43 2 ((wr (wr m 43 0 (m (l1 + 3) l2)) 43 1 ((wr m 43 0 (m (l1 + 3) l2)) (l1 + 4) l2)) 40 l2)) 43 4 l2) 39 4) - ((wr (wr (wr (wr m 43 0 (m (l1 + 3) l2)) 43 1 ((wr m 43 0 (m (l1 + 3) l2)) (l1 + 4) l2)) 43 2 ((wr (wr m 43 0 (m (l1 + 3) l2)) 43 1 ((wr m 43 0 (m (l1 + 3) l2)) (l1 + 4) l2)) 40 l2)) 43 4 l2) 40 l2))) 43 8 ((wr (wr (wr (wr (wr m 43 0 (m (l1 + 3) l2)) 43 1 ((wr m 43 0 (m (l1 + 3) l2)) (l1 + 4) l2)) 43 2 ((wr (wr m 43 0 (m (l1 + 3) l2)) 43 1 ((wr m 43 0 (m (l1 + 3) l2)) (l1 + 4) l2)) 40 l2)) 43 4 l2) 43 7 (((wr (wr (wr (wr m 43 0 (m (l1 + 3) l2)) 43 1 ((wr m 43 0 (m (l1 + 3) l2)) (l1 + 4) l2)) 43 2 ((wr (wr m 43 0 (m (l1 + 3) l2)) 43 1 ((wr m 43 0 (m (l1 + 3) l2)) (l1 + 4) l2)) 40 l2)) 43 4 l2) 39 4) - ((wr (wr (wr (wr m 43 0 (m (l1 + 3) l2)) 43 1 ((wr m 43 0 (m (l1 + 3) l2)) (l1 + 4) l2)) 43 2 ((wr (wr m 43 0 (m (l1 + 3) l2)) 43 1 ((wr m 43 0 (m (l1 + 3) l2)) (l1 + 4) l2)) 40 l2)) 43 4 l2) 40 l2))) 41 l2)) 42 l2))))))) : S_X1_partsOf sc d 0 [aR 39, aR l1, aI l2] [] m Q := by
  refine x_iload_n (pc2 := 1) dX1_partsOf_0 rfl rfl ?_
  obtain ⟨h1, k⟩ := k
  obtain ⟨k1, k2⟩ := k
  refine x_if_lt (tgt := 99) (pc2 := 4) dX1_partsOf_1 (by decide) rfl h1 (fun c2 => ?_) (fun c2 => ?_)
  · replace k := k1 c2
    refine x_aload_n (pc2 := 100) dX1_partsOf_99 rfl rfl ?_
    refine x_getf (pc2 := 103) (v := aR 43) fl_X1_21 ic_39 (vr_39_3 _) dX1_partsOf_100 rfl ?_
    exact x_areturn dX1_partsOf_103 ⟨(by decide), _, rfl⟩ k
  · replace k := k2 c2
    refine x_iload_n (pc2 := 5) dX1_partsOf_4 rfl rfl ?_
    refine x_aload_n (pc2 := 6) dX1_partsOf_5 rfl rfl ?_
    refine x_getf (pc2 := 9) (v := aI (m l1 8)) fl_X1_40 (icr_0 Hl1) (fv_i _ (icr_0 Hl1) rfl) dX1_partsOf_6 rfl ?_
    obtain ⟨h3, k⟩ := k
    obtain ⟨k1, k2⟩ := k
    refine x_icmp_ge (tgt := 99) (pc2 := 12) dX1_partsOf_9 (by decide) rfl h1 h3 (fun c4 => ?_) (fun c4 => ?_)
    · replace k := k1 c4
      refine x_aload_n (pc2 := 100) dX1_partsOf_99 rfl rfl ?_
      refine x_getf (pc2 := 103) (v := aR 43) fl_X1_21 ic_39 (vr_39_3 _) dX1_partsOf_100 rfl ?_
      exact x_areturn dX1_partsOf_103 ⟨(by decide), _, rfl⟩ k
    · replace k := k2 c4
      refine x_aload_n (pc2 := 13) dX1_partsOf_12 rfl rfl ?_
      refine x_getf (pc2 := 16) (v := aR 43) fl_X1_21 ic_39 (vr_39_3 _) dX1_partsOf_13 rfl ?_
      refine x_iconst (pc2 := 17) dX1_partsOf_16 rfl ?_
      refine x_aload_n (pc2 := 18) dX1_partsOf_17 rfl rfl ?_
      refine x_getf (pc2 := 21) (v := aR (l1 + 3)) fl_X1_55 (icr_0 Hl1) (vrr_3 _ Hl1) dX1_partsOf_18 rfl ?_
      refine x_iload_n (pc2 := 22) dX1_partsOf_21 rfl rfl ?_
      obtain ⟨h5, k⟩ := k
      obtain ⟨h6, k⟩ := k
      refine x_iald (pc2 := 23) (icr_3 Hl1) h5 (by rw [(alr_3 Hl1)]; exact h6) dX1_partsOf_22 rfl ?_
      refine x_iast (pc2 := 24) ic_43 (by decide) (by rw [al_43]; decide) dX1_partsOf_23 rfl ?_
      refine x_aload_n (pc2 := 25) dX1_partsOf_24 rfl rfl ?_
      refine x_getf (pc2 := 28) (v := aR 43) fl_X1_21 ic_39 (vr_39_3 _) dX1_partsOf_25 rfl ?_
      refine x_iconst (pc2 := 29) dX1_partsOf_28 rfl ?_
      refine x_aload_n (pc2 := 30) dX1_partsOf_29 rfl rfl ?_
      refine x_getf (pc2 := 33) (v := aR (l1 + 4)) fl_X1_65 (icr_0 Hl1) (vrr_4 _ Hl1) dX1_partsOf_30 rfl ?_
      refine x_iload_n (pc2 := 34) dX1_partsOf_33 rfl rfl ?_
      refine x_iald (pc2 := 35) (icr_4 Hl1) h5 (by rw [(alr_4 Hl1)]; exact h6) dX1_partsOf_34 rfl ?_
      refine x_iast (pc2 := 36) ic_43 (by decide) (by rw [al_43]; decide) dX1_partsOf_35 rfl ?_
      refine x_aload_n (pc2 := 37) dX1_partsOf_36 rfl rfl ?_
      refine x_getf (pc2 := 40) (v := aR 43) fl_X1_21 ic_39 (vr_39_3 _) dX1_partsOf_37 rfl ?_
      refine x_iconst (pc2 := 41) dX1_partsOf_40 rfl ?_
      refine x_aload_n (pc2 := 42) dX1_partsOf_41 rfl rfl ?_
      refine x_getf (pc2 := 45) (v := aR 40) fl_X1_9 ic_39 (vr_39_0 _) dX1_partsOf_42 rfl ?_
      refine x_iload_n (pc2 := 46) dX1_partsOf_45 rfl rfl ?_
      refine x_iald (pc2 := 47) ic_40 h5 (by rw [al_40]; exact h6) dX1_partsOf_46 rfl ?_
      refine x_iast (pc2 := 48) ic_43 (by decide) (by rw [al_43]; decide) dX1_partsOf_47 rfl ?_
      refine x_aload_n (pc2 := 49) dX1_partsOf_48 rfl rfl ?_
      refine x_getf (pc2 := 52) (v := aR 43) fl_X1_21 ic_39 (vr_39_3 _) dX1_partsOf_49 rfl ?_
      refine x_iconst (pc2 := 53) dX1_partsOf_52 rfl ?_
      refine x_iload_n (pc2 := 54) dX1_partsOf_53 rfl rfl ?_
      refine x_iast (pc2 := 55) ic_43 (by decide) (by rw [al_43]; decide) dX1_partsOf_54 rfl ?_
      refine x_aload_n (pc2 := 56) dX1_partsOf_55 rfl rfl ?_
      refine x_getf (pc2 := 59) (v := aR 43) fl_X1_21 ic_39 (vr_39_3 _) dX1_partsOf_56 rfl ?_
      refine x_bipush (pc2 := 61) dX1_partsOf_59 rfl rfl ?_
      refine x_aload_n (pc2 := 62) dX1_partsOf_61 rfl rfl ?_
      refine x_getf (pc2 := 65) (v := aI ((wr (wr (wr (wr m 43 0 (m (l1 + 3) l2)) 43 1 ((wr m 43 0 (m (l1 + 3) l2)) (l1 + 4) l2)) 43 2 ((wr (wr m 43 0 (m (l1 + 3) l2)) 43 1 ((wr m 43 0 (m (l1 + 3) l2)) (l1 + 4) l2)) 40 l2)) 43 4 l2) 39 4)) fl_X1_24 ic_39 (fv_i _ ic_39 rfl) dX1_partsOf_62 rfl ?_
      refine x_aload_n (pc2 := 66) dX1_partsOf_65 rfl rfl ?_
      refine x_getf (pc2 := 69) (v := aR 40) fl_X1_9 ic_39 (vr_39_0 _) dX1_partsOf_66 rfl ?_
      refine x_iload_n (pc2 := 70) dX1_partsOf_69 rfl rfl ?_
      refine x_iald (pc2 := 71) ic_40 h5 (by rw [al_40]; exact h6) dX1_partsOf_70 rfl ?_
      refine x_isub (pc2 := 72) dX1_partsOf_71 rfl ?_
      refine x_iast (pc2 := 73) ic_43 (by decide) (by rw [al_43]; decide) dX1_partsOf_72 rfl ?_
      refine x_aload_n (pc2 := 74) dX1_partsOf_73 rfl rfl ?_
      refine x_getf (pc2 := 77) (v := aR 43) fl_X1_21 ic_39 (vr_39_3 _) dX1_partsOf_74 rfl ?_
      refine x_bipush (pc2 := 79) dX1_partsOf_77 rfl rfl ?_
      refine x_aload_n (pc2 := 80) dX1_partsOf_79 rfl rfl ?_
      refine x_getf (pc2 := 83) (v := aR 41) fl_X1_15 ic_39 (vr_39_1 _) dX1_partsOf_80 rfl ?_
      refine x_iload_n (pc2 := 84) dX1_partsOf_83 rfl rfl ?_
      refine x_iald (pc2 := 85) ic_41 h5 (by rw [al_41]; exact h6) dX1_partsOf_84 rfl ?_
      refine x_iast (pc2 := 86) ic_43 (by decide) (by rw [al_43]; decide) dX1_partsOf_85 rfl ?_
      refine x_aload_n (pc2 := 87) dX1_partsOf_86 rfl rfl ?_
      refine x_getf (pc2 := 90) (v := aR 43) fl_X1_21 ic_39 (vr_39_3 _) dX1_partsOf_87 rfl ?_
      refine x_bipush (pc2 := 92) dX1_partsOf_90 rfl rfl ?_
      refine x_aload_n (pc2 := 93) dX1_partsOf_92 rfl rfl ?_
      refine x_getf (pc2 := 96) (v := aR 42) fl_X1_18 ic_39 (vr_39_2 _) dX1_partsOf_93 rfl ?_
      refine x_iload_n (pc2 := 97) dX1_partsOf_96 rfl rfl ?_
      refine x_iald (pc2 := 98) ic_42 h5 (by rw [al_42]; exact h6) dX1_partsOf_97 rfl ?_
      refine x_iast (pc2 := 99) ic_43 (by decide) (by rw [al_43]; decide) dX1_partsOf_98 rfl ?_
      refine x_aload_n (pc2 := 100) dX1_partsOf_99 rfl rfl ?_
      refine x_getf (pc2 := 103) (v := aR 43) fl_X1_21 ic_39 (vr_39_3 _) dX1_partsOf_100 rfl ?_
      exact x_areturn dX1_partsOf_103 ⟨(by decide), _, rfl⟩ k
set_option maxRecDepth 4000 in
theorem g_X2_enter_0 {sc : List Int} {d : Nat} {m : Mem} {Q : Option AV → Mem → Prop} {l1 : Int} (Hl1 : RoomAt l1) (k : S_X2_enter sc d 7 [aR 57, aU] [aI (m (l1 + 1) 0), aR 57] m Q) : S_X2_enter sc d 0 [aR 57, aR l1] [] m Q := by
  refine x_aload_n (pc2 := 1) dX2_enter_0 rfl rfl ?_
  refine x_aload_n (pc2 := 2) dX2_enter_1 rfl rfl ?_
  refine x_getf (pc2 := 5) (v := aR (l1 + 1)) fl_X2_19 (icr_0 Hl1) (vrr_0 _ Hl1) dX2_enter_2 rfl ?_
  refine x_iconst (pc2 := 6) dX2_enter_5 rfl ?_
  refine x_iald (pc2 := 7) (icr_1 Hl1) (by decide) (by rw [(alr_1 Hl1)]; decide) dX2_enter_6 rfl ?_
  exact x_drop (drp_k (drp_u drp_n)) k
set_option maxRecDepth 4000 in
theorem g_X2_enter_10 {sc : List Int} {d : Nat} {m : Mem} {Q : Option AV → Mem → Prop} (k : Q none (wr m 57 8 0)) : S_X2_enter sc d 10 [aR 57, aU] [] m Q := by
  refine x_aload_n (pc2 := 11) dX2_enter_10 rfl rfl ?_
  refine x_iconst (pc2 := 12) dX2_enter_11 rfl ?_
  refine x_putf (pc2 := 15) (x := 0) fl_X2_28 ft_2_8 ic_57 (pv_i _ ic_57 rfl) (pn_i _) dX2_enter_12 rfl ?_
  exact x_return dX2_enter_15 rfl k
theorem c_X2_enter_7 {sc : List Int} {d d2 : Nat} {m m2 : Mem} {Q : Option AV → Mem → Prop} {s1 : Int} (hM : C_X2_restart sc d2 [aR 57, aI s1] m none m2) (hd : d2 + 1 ≤ d) (k : S_X2_enter sc d 10 [aR 57, aU] [] m2 Q) : S_X2_enter sc d 7 [aR 57, aU] [aI s1, aR 57] m Q := x_callV (as := [aI s1]) (rest := []) hM mk_X2_restart mv_X2_restart lk_X2_24 (Or.inl ⟨2, (RX2, TX2, 9), ic_57, Nat.le_of_ble_eq_true rfl, rfl, rfl⟩) hd rfl rfl (Nat.le_of_ble_eq_true rfl) dX2_enter_7 rfl k
set_option maxRecDepth 4000 in
theorem g_X2_restart_0 {sc : List Int} {d : Nat} {m : Mem} {Q : Option AV → Mem → Prop} {l1 : Int} (k : Q none (wr (wr (wr (wr (wr (wr m 57 0 0) 57 1 0) 57 2 l1) 57 3 0) 57 4 0) 57 5 0)) : S_X2_restart sc d 0 [aR 57, aI l1] [] m Q := by
  refine x_aload_n (pc2 := 1) dX2_restart_0 rfl rfl ?_
  refine x_iconst (pc2 := 2) dX2_restart_1 rfl ?_
  refine x_putf (pc2 := 5) (x := 0) fl_X2_31 ft_2_0 ic_57 (pv_i _ ic_57 rfl) (pn_i _) dX2_restart_2 rfl ?_
  refine x_aload_n (pc2 := 6) dX2_restart_5 rfl rfl ?_
  refine x_iconst (pc2 := 7) dX2_restart_6 rfl ?_
  refine x_putf (pc2 := 10) (x := 0) fl_X2_34 ft_2_1 ic_57 (pv_i _ ic_57 rfl) (pn_i _) dX2_restart_7 rfl ?_
  refine x_aload_n (pc2 := 11) dX2_restart_10 rfl rfl ?_
  refine x_iload_n (pc2 := 12) dX2_restart_11 rfl rfl ?_
  refine x_putf (pc2 := 15) (x := l1) fl_X2_37 ft_2_2 ic_57 (pv_i _ ic_57 rfl) (pn_i _) dX2_restart_12 rfl ?_
  refine x_aload_n (pc2 := 16) dX2_restart_15 rfl rfl ?_
  refine x_iconst (pc2 := 17) dX2_restart_16 rfl ?_
  refine x_putf (pc2 := 20) (x := 0) fl_X2_40 ft_2_3 ic_57 (pv_i _ ic_57 rfl) (pn_i _) dX2_restart_17 rfl ?_
  refine x_aload_n (pc2 := 21) dX2_restart_20 rfl rfl ?_
  refine x_iconst (pc2 := 22) dX2_restart_21 rfl ?_
  refine x_putf (pc2 := 25) (x := 0) fl_X2_43 ft_2_4 ic_57 (pv_i _ ic_57 rfl) (pn_i _) dX2_restart_22 rfl ?_
  refine x_aload_n (pc2 := 26) dX2_restart_25 rfl rfl ?_
  refine x_iconst (pc2 := 27) dX2_restart_26 rfl ?_
  refine x_putf (pc2 := 30) (x := 0) fl_X2_46 ft_2_5 ic_57 (pv_i _ ic_57 rfl) (pn_i _) dX2_restart_27 rfl ?_
  exact x_return dX2_restart_30 rfl k
set_option maxRecDepth 4000 in
theorem g_X2_draw_0 {sc : List Int} {d : Nat} {m : Mem} {Q : Option AV → Mem → Prop} {l1 : Int} (Hl1 : RoomAt l1) (k : (-2147483648 ≤ (m 57 6) ∧ (m 57 6) < 2147483648) ∧ (-2147483648 ≤ ((wr m 57 6 (a_land ((1103515245 * (m 57 6)) + 12345) 2147483647)) 57 6) ∧ ((wr m 57 6 (a_land ((1103515245 * (m 57 6)) + 12345) 2147483647)) 57 6) < 2147483648) ∧ (-2147483648 ≤ (((wr m 57 6 (a_land ((1103515245 * (m 57 6)) + 12345) 2147483647)) 57 6).tdiv 64) ∧ (((wr m 57 6 (a_land ((1103515245 * (m 57 6)) + 12345) 2147483647)) 57 6).tdiv 64) < 2147483648) ∧ S_X2_draw sc d 33 [aR 57, aU] [aI ((((wr m 57 6 (a_land ((1103515245 * (m 57 6)) + 12345) 2147483647)) 57 6).tdiv 64).tmod 100), aR l1] (wr m 57 6 (a_land ((1103515245 * (m 57 6)) + 12345) 2147483647)) Q) : S_X2_draw sc d 0 [aR 57, aR l1] [] m Q := by
  refine x_aload_n (pc2 := 1) dX2_draw_0 rfl rfl ?_
  refine x_ldc2 (pc2 := 4) (x := 1103515245) kc_X2_49 rfl dX2_draw_1 rfl ?_
  refine x_aload_n (pc2 := 5) dX2_draw_4 rfl rfl ?_
  refine x_getf (pc2 := 8) (v := aI (m 57 6)) fl_X2_9 ic_57 (fv_i _ ic_57 rfl) dX2_draw_5 rfl ?_
  obtain ⟨h1, k⟩ := k
  refine x_i2l (pc2 := 9) dX2_draw_8 rfl h1 ?_
  refine x_lmul (pc2 := 10) dX2_draw_9 rfl ?_
  refine x_ldc2 (pc2 := 13) (x := 12345) kc_X2_51 rfl dX2_draw_10 rfl ?_
  refine x_ladd (pc2 := 14) dX2_draw_13 rfl ?_
  refine x_ldc2 (pc2 := 17) (x := 2147483647) kc_X2_53 rfl dX2_draw_14 rfl ?_
  refine x_land (pc2 := 18) dX2_draw_17 rfl ?_
  refine x_l2i (pc2 := 19) dX2_draw_18 rfl ?_
  refine x_putf (pc2 := 22) (x := (a_land ((1103515245 * (m 57 6)) + 12345) 2147483647)) fl_X2_9 ft_2_6 ic_57 (pv_i _ ic_57 rfl) (pn_i _) dX2_draw_19 rfl ?_
  refine x_aload_n (pc2 := 23) dX2_draw_22 rfl rfl ?_
  refine x_aload_n (pc2 := 24) dX2_draw_23 rfl rfl ?_
  refine x_getf (pc2 := 27) (v := aI ((wr m 57 6 (a_land ((1103515245 * (m 57 6)) + 12345) 2147483647)) 57 6)) fl_X2_9 ic_57 (fv_i _ ic_57 rfl) dX2_draw_24 rfl ?_
  refine x_bipush (pc2 := 29) dX2_draw_27 rfl rfl ?_
  obtain ⟨h2, k⟩ := k
  refine x_idiv (pc2 := 30) dX2_draw_29 rfl h2 (by decide) (by decide) ?_
  refine x_bipush (pc2 := 32) dX2_draw_30 rfl rfl ?_
  obtain ⟨h3, k⟩ := k
  refine x_irem (pc2 := 33) dX2_draw_32 rfl h3 (by decide) (by decide) ?_
  exact x_drop (drp_k (drp_u drp_n)) k
set_option maxRecDepth 4000 in
theorem g_X2_draw_36 {sc : List Int} {d : Nat} {m : Mem} {Q : Option AV → Mem → Prop} {s0 : Int} (k : Q (some (aI s0)) m) : S_X2_draw sc d 36 [aR 57, aU] [aI s0] m Q := by
  exact x_ireturn dX2_draw_36 ⟨.int, rfl, rfl⟩ k
theorem c_X2_draw_33 {sc : List Int} {d d2 : Nat} {m m2 : Mem} {Q : Option AV → Mem → Prop} {s0 s1 : Int} {v : Int} (Hs0 : RoomAt s0) (hM : C_X6_lengthBy sc d2 [aR s0, aI s1] m (some (aI v)) m2) (hd : d2 + 1 ≤ d) (k : S_X2_draw sc d 36 [aR 57, aU] [aI v] m2 Q) : S_X2_draw sc d 33 [aR 57, aU] [aI s1, aR s0] m Q := x_callV (as := [aI s1]) (rest := []) hM mk_X6_lengthBy mv_X6_lengthBy lk_X2_55 (Or.inl ⟨6, (RX6, TX6, 16), icr_0 Hs0, Nat.le_of_ble_eq_true rfl, rfl, rfl⟩) hd rfl rfl (Nat.le_of_ble_eq_true rfl) dX2_draw_33 rfl k
set_option maxRecDepth 4000 in
theorem g_X2_pay_0 {sc : List Int} {d : Nat} {m : Mem} {Q : Option AV → Mem → Prop} {l1 : Int} (k : S_X2_pay sc d 10 [aR 57, aU] [aI ((m 57 5) + l1), aI 9999, aR 57] m Q) : S_X2_pay sc d 0 [aR 57, aI l1] [] m Q := by
  refine x_aload_n (pc2 := 1) dX2_pay_0 rfl rfl ?_
  refine x_sipush (pc2 := 4) dX2_pay_1 rfl rfl ?_
  refine x_aload_n (pc2 := 5) dX2_pay_4 rfl rfl ?_
  refine x_getf (pc2 := 8) (v := aI (m 57 5)) fl_X2_46 ic_57 (fv_i _ ic_57 rfl) dX2_pay_5 rfl ?_
  refine x_iload_n (pc2 := 9) dX2_pay_8 rfl rfl ?_
  refine x_iadd (pc2 := 10) dX2_pay_9 rfl ?_
  exact x_drop (drp_k (drp_u drp_n)) k
set_option maxRecDepth 4000 in
theorem g_X2_pay_13 {sc : List Int} {d : Nat} {m : Mem} {Q : Option AV → Mem → Prop} {s1 : Int} (k : Q none (wr m 57 5 s1)) : S_X2_pay sc d 13 [aR 57, aU] [aI s1, aR 57] m Q := by
  refine x_putf (pc2 := 16) (x := s1) fl_X2_46 ft_2_5 ic_57 (pv_i _ ic_57 rfl) (pn_i _) dX2_pay_13 rfl ?_
  exact x_return dX2_pay_16 rfl k
theorem c_X2_pay_10 {sc : List Int} {d d2 : Nat} {m m2 : Mem} {Q : Option AV → Mem → Prop} {s1 s2 : Int} {v : Int} (hM : C_J9_min_7cf53 sc d2 [aI s1, aI s2] m (some (aI v)) m2) (hd : d2 + 1 ≤ d) (k : S_X2_pay sc d 13 [aR 57, aU] [aI v, aR 57] m2 Q) : S_X2_pay sc d 10 [aR 57, aU] [aI s2, aI s1, aR 57] m Q := x_callS (as := [aI s1, aI s2]) (rest := [aR 57]) hM mk_J9_min_7cf53 ms_J9_min_7cf53 lk_X2_59 hd rfl rfl (Nat.le_of_ble_eq_true rfl) dX2_pay_10 rfl k
set_option maxRecDepth 4000 in
theorem g_X2_stitch_0 {sc : List Int} {d : Nat} {m : Mem} {Q : Option AV → Mem → Prop} {l1 l2 : Int} (Hl1 : RoomAt l1) (k : (-2147483648 ≤ (m 57 0) ∧ (m 57 0) < 2147483648) ∧ (-2147483648 ≤ (m l1 8) ∧ (m l1 8) < 2147483648) ∧ (((m 57 0) < (m l1 8)) → ((-2147483648 ≤ l2 ∧ l2 < 2147483648) ∧ ((l2 = 0) → ((0 ≤ (m 57 0)) ∧ ((m 57 0) < 10) ∧ (-2147483648 ≤ ((wr (wr m 57 1 ((m 57 1) + (m (l1 + 3) (m 57 0)))) 57 0 (((wr m 57 1 ((m 57 1) + (m (l1 + 3) (m 57 0)))) 57 0) + 1)) 57 1) ∧ ((wr (wr m 57 1 ((m 57 1) + (m (l1 + 3) (m 57 0)))) 57 0 (((wr m 57 1 ((m 57 1) + (m (l1 + 3) (m 57 0)))) 57 0) + 1)) 57 1) < 2147483648) ∧ (-2147483648 ≤ ((wr (wr m 57 1 ((m 57 1) + (m (l1 + 3) (m 57 0)))) 57 0 (((wr m 57 1 ((m 57 1) + (m (l1 + 3) (m 57 0)))) 57 0) + 1)) 57 2) ∧ ((wr (wr m 57 1 ((m 57 1) + (m (l1 + 3) (m 57 0)))) 57 0 (((wr m 57 1 ((m 57 1) + (m (l1 + 3) (m 57 0)))) 57 0) + 1)) 57 2) < 2147483648) ∧ ((((wr (wr m 57 1 ((m 57 1) + (m (l1 + 3) (m 57 0)))) 57 0 (((wr m 57 1 ((m 57 1) + (m (l1 + 3) (m 57 0)))) 57 0) + 1)) 57 1) ≤ ((wr (wr m 57 1 ((m 57 1) + (m (l1 + 3) (m 57 0)))) 57 0 (((wr m 57 1 ((m 57 1) + (m (l1 + 3) (m 57 0)))) 57 0) + 1)) 57 2)) → (Q (some (aI 0)) (wr (wr m 57 1 ((m 57 1) + (m (l1 + 3) (m 57 0)))) 57 0 (((wr m 57 1 ((m 57 1) + (m (l1 + 3) (m 57 0)))) 57 0) + 1)))) ∧ (¬ (((wr (wr m 57 1 ((m 57 1) + (m (l1 + 3) (m 57 0)))) 57 0 (((wr m 57 1 ((m 57 1) + (m (l1 + 3) (m 57 0)))) 57 0) + 1)) 57 1) ≤ ((wr (wr m 57 1 ((m 57 1) + (m (l1 + 3) (m 57 0)))) 57 0 (((wr m 57 1 ((m 57 1) + (m (l1 + 3) (m 57 0)))) 57 0) + 1)) 57 2)) → (S_X2_stitch sc d 125 [aR 57, aU, aU, aI (0 + (((wr (wr m 57 1 ((m 57 1) + (m (l1 + 3) (m 57 0)))) 57 0 (((wr m 57 1 ((m 57 1) + (m (l1 + 3) (m 57 0)))) 57 0) + 1)) (l1 + 13) 1) + ((wr (wr m 57 1 ((m 57 1) + (m (l1 + 3) (m 57 0)))) 57 0 (((wr m 57 1 ((m 57 1) + (m (l1 + 3) (m 57 0)))) 57 0) + 1)) (l1 + 13) 0)))] [aR l1, aR 57, aR 57] (wr (wr (wr (wr m 57 1 ((m 57 1) + (m (l1 + 3) (m 57 0)))) 57 0 (((wr m 57 1 ((m 57 1) + (m (l1 + 3) (m 57 0)))) 57 0) + 1)) 57 4 (((wr (wr m 57 1 ((m 57 1) + (m (l1 + 3) (m 57 0)))) 57 0 (((wr m 57 1 ((m 57 1) + (m (l1 + 3) (m 57 0)))) 57 0) + 1)) 57 4) + 1)) 57 1 0) Q)))) ∧ (¬ (l2 = 0) → (S_X2_stitch sc d 46 [aR 57, aR l1, aU, aI (0 + (m (l1 + 13) 0))] [aR l1, aR 57, aR 57] (wr (wr m 57 3 ((m 57 3) + 1)) 57 1 0) Q)))) ∧ (¬ ((m 57 0) < (m l1 8)) → (Q (some (aI 0)) m))) : S_X2_stitch sc d 0 [aR 57, aR l1, aI l2, aU] [] m Q := by
  refine x_aload_n (pc2 := 1) dX2_stitch_0 rfl rfl ?_
  refine x_getf (pc2 := 4) (v := aI (m 57 0)) fl_X2_31 ic_57 (fv_i _ ic_57 rfl) dX2_stitch_1 rfl ?_
  refine x_aload_n (pc2 := 5) dX2_stitch_4 rfl rfl ?_
  refine x_getf (pc2 := 8) (v := aI (m l1 8)) fl_X2_65 (icr_0 Hl1) (fv_i _ (icr_0 Hl1) rfl) dX2_stitch_5 rfl ?_
  obtain ⟨h1, k⟩ := k
  obtain ⟨h2, k⟩ := k
  obtain ⟨k1, k2⟩ := k
  refine x_icmp_lt (tgt := 13) (pc2 := 11) dX2_stitch_8 (by decide) rfl h1 h2 (fun c3 => ?_) (fun c3 => ?_)
  · replace k := k1 c3
    refine x_iconst (pc2 := 14) dX2_stitch_13 rfl ?_
    refine x_istore_n (pc2 := 15) (ls2 := [aR 57, aR l1, aI l2, aI 0]) dX2_stitch_14 rfl (by decide) rfl ?_
    refine x_iload_n (pc2 := 16) dX2_stitch_15 rfl rfl ?_
    obtain ⟨h4, k⟩ := k
    obtain ⟨k1, k2⟩ := k
    refine x_if_eq (tgt := 52) (pc2 := 19) dX2_stitch_16 (by decide) rfl h4 (fun c5 => ?_) (fun c5 => ?_)
    · replace k := k1 c5
      refine x_aload_n (pc2 := 53) dX2_stitch_52 rfl rfl ?_
      refine x_dup_r (pc2 := 54) dX2_stitch_53 rfl (by decide) ?_
      refine x_getf (pc2 := 57) (v := aI (m 57 1)) fl_X2_34 ic_57 (fv_i _ ic_57 rfl) dX2_stitch_54 rfl ?_
      refine x_aload_n (pc2 := 58) dX2_stitch_57 rfl rfl ?_
      refine x_getf (pc2 := 61) (v := aR (l1 + 3)) fl_X2_75 (icr_0 Hl1) (vrr_3 _ Hl1) dX2_stitch_58 rfl ?_
      refine x_aload_n (pc2 := 62) dX2_stitch_61 rfl rfl ?_
      refine x_getf (pc2 := 65) (v := aI (m 57 0)) fl_X2_31 ic_57 (fv_i _ ic_57 rfl) dX2_stitch_62 rfl ?_
      obtain ⟨h6, k⟩ := k
      obtain ⟨h7, k⟩ := k
      refine x_iald (pc2 := 66) (icr_3 Hl1) h6 (by rw [(alr_3 Hl1)]; exact h7) dX2_stitch_65 rfl ?_
      refine x_iadd (pc2 := 67) dX2_stitch_66 rfl ?_
      refine x_putf (pc2 := 70) (x := ((m 57 1) + (m (l1 + 3) (m 57 0)))) fl_X2_34 ft_2_1 ic_57 (pv_i _ ic_57 rfl) (pn_i _) dX2_stitch_67 rfl ?_
      refine x_aload_n (pc2 := 71) dX2_stitch_70 rfl rfl ?_
      refine x_dup_r (pc2 := 72) dX2_stitch_71 rfl (by decide) ?_
      refine x_getf (pc2 := 75) (v := aI ((wr m 57 1 ((m 57 1) + (m (l1 + 3) (m 57 0)))) 57 0)) fl_X2_31 ic_57 (fv_i _ ic_57 rfl) dX2_stitch_72 rfl ?_
      refine x_iconst (pc2 := 76) dX2_stitch_75 rfl ?_
      refine x_iadd (pc2 := 77) dX2_stitch_76 rfl ?_
      refine x_putf (pc2 := 80) (x := (((wr m 57 1 ((m 57 1) + (m (l1 + 3) (m 57 0)))) 57 0) + 1)) fl_X2_31 ft_2_0 ic_57 (pv_i _ ic_57 rfl) (pn_i _) dX2_stitch_77 rfl ?_
      refine x_aload_n (pc2 := 81) dX2_stitch_80 rfl rfl ?_
      refine x_getf (pc2 := 84) (v := aI ((wr (wr m 57 1 ((m 57 1) + (m (l1 + 3) (m 57 0)))) 57 0 (((wr m 57 1 ((m 57 1) + (m (l1 + 3) (m 57 0)))) 57 0) + 1)) 57 1)) fl_X2_34 ic_57 (fv_i _ ic_57 rfl) dX2_stitch_81 rfl ?_
      refine x_aload_n (pc2 := 85) dX2_stitch_84 rfl rfl ?_
      refine x_getf (pc2 := 88) (v := aI ((wr (wr m 57 1 ((m 57 1) + (m (l1 + 3) (m 57 0)))) 57 0 (((wr m 57 1 ((m 57 1) + (m (l1 + 3) (m 57 0)))) 57 0) + 1)) 57 2)) fl_X2_37 ic_57 (fv_i _ ic_57 rfl) dX2_stitch_85 rfl ?_
      obtain ⟨h8, k⟩ := k
      obtain ⟨h9, k⟩ := k
      obtain ⟨k1, k2⟩ := k
      refine x_icmp_le (tgt := 131) (pc2 := 91) dX2_stitch_88 (by decide) rfl h8 h9 (fun c10 => ?_) (fun c10 => ?_)
      · replace k := k1 c10
        refine x_iload_n (pc2 := 132) dX2_stitch_131 rfl rfl ?_
        exact x_ireturn dX2_stitch_132 ⟨.int, rfl, rfl⟩ k
      · replace k := k2 c10
        refine x_iload_n (pc2 := 92) dX2_stitch_91 rfl rfl ?_
        refine x_aload_n (pc2 := 93) dX2_stitch_92 rfl rfl ?_
        refine x_getf (pc2 := 96) (v := aR (l1 + 13)) fl_X2_68 (icr_0 Hl1) (vrr_13 _ Hl1) dX2_stitch_93 rfl ?_
        refine x_iconst (pc2 := 97) dX2_stitch_96 rfl ?_
        refine x_iald (pc2 := 98) (icr_13 Hl1) (by decide) (by rw [(alr_13 Hl1)]; decide) dX2_stitch_97 rfl ?_
        refine x_aload_n (pc2 := 99) dX2_stitch_98 rfl rfl ?_
        refine x_getf (pc2 := 102) (v := aR (l1 + 13)) fl_X2_68 (icr_0 Hl1) (vrr_13 _ Hl1) dX2_stitch_99 rfl ?_
        refine x_iconst (pc2 := 103) dX2_stitch_102 rfl ?_
        refine x_iald (pc2 := 104) (icr_13 Hl1) (by decide) (by rw [(alr_13 Hl1)]; decide) dX2_stitch_103 rfl ?_
        refine x_iadd (pc2 := 105) dX2_stitch_104 rfl ?_
        refine x_iadd (pc2 := 106) dX2_stitch_105 rfl ?_
        refine x_istore_n (pc2 := 107) (ls2 := [aR 57, aR l1, aI l2, aI (0 + (((wr (wr m 57 1 ((m 57 1) + (m (l1 + 3) (m 57 0)))) 57 0 (((wr m 57 1 ((m 57 1) + (m (l1 + 3) (m 57 0)))) 57 0) + 1)) (l1 + 13) 1) + ((wr (wr m 57 1 ((m 57 1) + (m (l1 + 3) (m 57 0)))) 57 0 (((wr m 57 1 ((m 57 1) + (m (l1 + 3) (m 57 0)))) 57 0) + 1)) (l1 + 13) 0)))]) dX2_stitch_106 rfl (by decide) rfl ?_
        refine x_aload_n (pc2 := 108) dX2_stitch_107 rfl rfl ?_
        refine x_dup_r (pc2 := 109) dX2_stitch_108 rfl (by decide) ?_
        refine x_getf (pc2 := 112) (v := aI ((wr (wr m 57 1 ((m 57 1) + (m (l1 + 3) (m 57 0)))) 57 0 (((wr m 57 1 ((m 57 1) + (m (l1 + 3) (m 57 0)))) 57 0) + 1)) 57 4)) fl_X2_43 ic_57 (fv_i _ ic_57 rfl) dX2_stitch_109 rfl ?_
        refine x_iconst (pc2 := 113) dX2_stitch_112 rfl ?_
        refine x_iadd (pc2 := 114) dX2_stitch_113 rfl ?_
        refine x_putf (pc2 := 117) (x := (((wr (wr m 57 1 ((m 57 1) + (m (l1 + 3) (m 57 0)))) 57 0 (((wr m 57 1 ((m 57 1) + (m (l1 + 3) (m 57 0)))) 57 0) + 1)) 57 4) + 1)) fl_X2_43 ft_2_4 ic_57 (pv_i _ ic_57 rfl) (pn_i _) dX2_stitch_114 rfl ?_
        refine x_aload_n (pc2 := 118) dX2_stitch_117 rfl rfl ?_
        refine x_iconst (pc2 := 119) dX2_stitch_118 rfl ?_
        refine x_putf (pc2 := 122) (x := 0) fl_X2_34 ft_2_1 ic_57 (pv_i _ ic_57 rfl) (pn_i _) dX2_stitch_119 rfl ?_
        refine x_aload_n (pc2 := 123) dX2_stitch_122 rfl rfl ?_
        refine x_aload_n (pc2 := 124) dX2_stitch_123 rfl rfl ?_
        refine x_aload_n (pc2 := 125) dX2_stitch_124 rfl rfl ?_
        exact x_drop (drp_k (drp_u (drp_u (drp_k drp_n)))) k
    · replace k := k2 c5
      refine x_iload_n (pc2 := 20) dX2_stitch_19 rfl rfl ?_
      refine x_aload_n (pc2 := 21) dX2_stitch_20 rfl rfl ?_
      refine x_getf (pc2 := 24) (v := aR (l1 + 13)) fl_X2_68 (icr_0 Hl1) (vrr_13 _ Hl1) dX2_stitch_21 rfl ?_
      refine x_iconst (pc2 := 25) dX2_stitch_24 rfl ?_
      refine x_iald (pc2 := 26) (icr_13 Hl1) (by decide) (by rw [(alr_13 Hl1)]; decide) dX2_stitch_25 rfl ?_
      refine x_iadd (pc2 := 27) dX2_stitch_26 rfl ?_
      refine x_istore_n (pc2 := 28) (ls2 := [aR 57, aR l1, aI l2, aI (0 + (m (l1 + 13) 0))]) dX2_stitch_27 rfl (by decide) rfl ?_
      refine x_aload_n (pc2 := 29) dX2_stitch_28 rfl rfl ?_
      refine x_dup_r (pc2 := 30) dX2_stitch_29 rfl (by decide) ?_
      refine x_getf (pc2 := 33) (v := aI (m 57 3)) fl_X2_40 ic_57 (fv_i _ ic_57 rfl) dX2_stitch_30 rfl ?_
      refine x_iconst (pc2 := 34) dX2_stitch_33 rfl ?_
      refine x_iadd (pc2 := 35) dX2_stitch_34 rfl ?_
      refine x_putf (pc2 := 38) (x := ((m 57 3) + 1)) fl_X2_40 ft_2_3 ic_57 (pv_i _ ic_57 rfl) (pn_i _) dX2_stitch_35 rfl ?_
      refine x_aload_n (pc2 := 39) dX2_stitch_38 rfl rfl ?_
      refine x_iconst (pc2 := 40) dX2_stitch_39 rfl ?_
      refine x_putf (pc2 := 43) (x := 0) fl_X2_34 ft_2_1 ic_57 (pv_i _ ic_57 rfl) (pn_i _) dX2_stitch_40 rfl ?_
      refine x_aload_n (pc2 := 44) dX2_stitch_43 rfl rfl ?_
      refine x_aload_n (pc2 := 45) dX2_stitch_44 rfl rfl ?_
      refine x_aload_n (pc2 := 46) dX2_stitch_45 rfl rfl ?_
      exact x_drop (drp_k (drp_k (drp_u (drp_k drp_n)))) k
  · replace k := k2 c3
    refine x_iconst (pc2 := 12) dX2_stitch_11 rfl ?_
    exact x_ireturn dX2_stitch_12 ⟨.int, rfl, rfl⟩ k
set_option maxRecDepth 4000 in
theorem g_X2_stitch_49 {sc : List Int} {d : Nat} {m : Mem} {Q : Option AV → Mem → Prop} {l1 l3 s1 : Int} (Hl1 : RoomAt l1) (k : (0 ≤ ((wr m 57 2 s1) 57 0)) ∧ (((wr m 57 2 s1) 57 0) < 10) ∧ (-2147483648 ≤ ((wr (wr (wr m 57 2 s1) 57 1 (((wr m 57 2 s1) 57 1) + ((wr m 57 2 s1) (l1 + 3) ((wr m 57 2 s1) 57 0)))) 57 0 (((wr (wr m 57 2 s1) 57 1 (((wr m 57 2 s1) 57 1) + ((wr m 57 2 s1) (l1 + 3) ((wr m 57 2 s1) 57 0)))) 57 0) + 1)) 57 1) ∧ ((wr (wr (wr m 57 2 s1) 57 1 (((wr m 57 2 s1) 57 1) + ((wr m 57 2 s1) (l1 + 3) ((wr m 57 2 s1) 57 0)))) 57 0 (((wr (wr m 57 2 s1) 57 1 (((wr m 57 2 s1) 57 1) + ((wr m 57 2 s1) (l1 + 3) ((wr m 57 2 s1) 57 0)))) 57 0) + 1)) 57 1) < 2147483648) ∧ (-2147483648 ≤ ((wr (wr (wr m 57 2 s1) 57 1 (((wr m 57 2 s1) 57 1) + ((wr m 57 2 s1) (l1 + 3) ((wr m 57 2 s1) 57 0)))) 57 0 (((wr (wr m 57 2 s1) 57 1 (((wr m 57 2 s1) 57 1) + ((wr m 57 2 s1) (l1 + 3) ((wr m 57 2 s1) 57 0)))) 57 0) + 1)) 57 2) ∧ ((wr (wr (wr m 57 2 s1) 57 1 (((wr m 57 2 s1) 57 1) + ((wr m 57 2 s1) (l1 + 3) ((wr m 57 2 s1) 57 0)))) 57 0 (((wr (wr m 57 2 s1) 57 1 (((wr m 57 2 s1) 57 1) + ((wr m 57 2 s1) (l1 + 3) ((wr m 57 2 s1) 57 0)))) 57 0) + 1)) 57 2) < 2147483648) ∧ ((((wr (wr (wr m 57 2 s1) 57 1 (((wr m 57 2 s1) 57 1) + ((wr m 57 2 s1) (l1 + 3) ((wr m 57 2 s1) 57 0)))) 57 0 (((wr (wr m 57 2 s1) 57 1 (((wr m 57 2 s1) 57 1) + ((wr m 57 2 s1) (l1 + 3) ((wr m 57 2 s1) 57 0)))) 57 0) + 1)) 57 1) ≤ ((wr (wr (wr m 57 2 s1) 57 1 (((wr m 57 2 s1) 57 1) + ((wr m 57 2 s1) (l1 + 3) ((wr m 57 2 s1) 57 0)))) 57 0 (((wr (wr m 57 2 s1) 57 1 (((wr m 57 2 s1) 57 1) + ((wr m 57 2 s1) (l1 + 3) ((wr m 57 2 s1) 57 0)))) 57 0) + 1)) 57 2)) → (Q (some (aI l3)) (wr (wr (wr m 57 2 s1) 57 1 (((wr m 57 2 s1) 57 1) + ((wr m 57 2 s1) (l1 + 3) ((wr m 57 2 s1) 57 0)))) 57 0 (((wr (wr m 57 2 s1) 57 1 (((wr m 57 2 s1) 57 1) + ((wr m 57 2 s1) (l1 + 3) ((wr m 57 2 s1) 57 0)))) 57 0) + 1)))) ∧ (¬ (((wr (wr (wr m 57 2 s1) 57 1 (((wr m 57 2 s1) 57 1) + ((wr m 57 2 s1) (l1 + 3) ((wr m 57 2 s1) 57 0)))) 57 0 (((wr (wr m 57 2 s1) 57 1 (((wr m 57 2 s1) 57 1) + ((wr m 57 2 s1) (l1 + 3) ((wr m 57 2 s1) 57 0)))) 57 0) + 1)) 57 1) ≤ ((wr (wr (wr m 57 2 s1) 57 1 (((wr m 57 2 s1) 57 1) + ((wr m 57 2 s1) (l1 + 3) ((wr m 57 2 s1) 57 0)))) 57 0 (((wr (wr m 57 2 s1) 57 1 (((wr m 57 2 s1) 57 1) + ((wr m 57 2 s1) (l1 + 3) ((wr m 57 2 s1) 57 0)))) 57 0) + 1)) 57 2)) → (S_X2_stitch sc d 125 [aR 57, aU, aU, aI (l3 + (((wr (wr (wr m 57 2 s1) 57 1 (((wr m 57 2 s1) 57 1) + ((wr m 57 2 s1) (l1 + 3) ((wr m 57 2 s1) 57 0)))) 57 0 (((wr (wr m 57 2 s1) 57 1 (((wr m 57 2 s1) 57 1) + ((wr m 57 2 s1) (l1 + 3) ((wr m 57 2 s1) 57 0)))) 57 0) + 1)) (l1 + 13) 1) + ((wr (wr (wr m 57 2 s1) 57 1 (((wr m 57 2 s1) 57 1) + ((wr m 57 2 s1) (l1 + 3) ((wr m 57 2 s1) 57 0)))) 57 0 (((wr (wr m 57 2 s1) 57 1 (((wr m 57 2 s1) 57 1) + ((wr m 57 2 s1) (l1 + 3) ((wr m 57 2 s1) 57 0)))) 57 0) + 1)) (l1 + 13) 0)))] [aR l1, aR 57, aR 57] (wr (wr (wr (wr (wr m 57 2 s1) 57 1 (((wr m 57 2 s1) 57 1) + ((wr m 57 2 s1) (l1 + 3) ((wr m 57 2 s1) 57 0)))) 57 0 (((wr (wr m 57 2 s1) 57 1 (((wr m 57 2 s1) 57 1) + ((wr m 57 2 s1) (l1 + 3) ((wr m 57 2 s1) 57 0)))) 57 0) + 1)) 57 4 (((wr (wr (wr m 57 2 s1) 57 1 (((wr m 57 2 s1) 57 1) + ((wr m 57 2 s1) (l1 + 3) ((wr m 57 2 s1) 57 0)))) 57 0 (((wr (wr m 57 2 s1) 57 1 (((wr m 57 2 s1) 57 1) + ((wr m 57 2 s1) (l1 + 3) ((wr m 57 2 s1) 57 0)))) 57 0) + 1)) 57 4) + 1)) 57 1 0) Q))) : S_X2_stitch sc d 49 [aR 57, aR l1, aU, aI l3] [aI s1, aR 57] m Q := by
  refine x_putf (pc2 := 52) (x := s1) fl_X2_37 ft_2_2 ic_57 (pv_i _ ic_57 rfl) (pn_i _) dX2_stitch_49 rfl ?_
  refine x_aload_n (pc2 := 53) dX2_stitch_52 rfl rfl ?_
  refine x_dup_r (pc2 := 54) dX2_stitch_53 rfl (by decide) ?_
  refine x_getf (pc2 := 57) (v := aI ((wr m 57 2 s1) 57 1)) fl_X2_34 ic_57 (fv_i _ ic_57 rfl) dX2_stitch_54 rfl ?_
  refine x_aload_n (pc2 := 58) dX2_stitch_57 rfl rfl ?_
  refine x_getf (pc2 := 61) (v := aR (l1 + 3)) fl_X2_75 (icr_0 Hl1) (vrr_3 _ Hl1) dX2_stitch_58 rfl ?_
  refine x_aload_n (pc2 := 62) dX2_stitch_61 rfl rfl ?_
  refine x_getf (pc2 := 65) (v := aI ((wr m 57 2 s1) 57 0)) fl_X2_31 ic_57 (fv_i _ ic_57 rfl) dX2_stitch_62 rfl ?_
  obtain ⟨h1, k⟩ := k
  obtain ⟨h2, k⟩ := k
  refine x_iald (pc2 := 66) (icr_3 Hl1) h1 (by rw [(alr_3 Hl1)]; exact h2) dX2_stitch_65 rfl ?_
  refine x_iadd (pc2 := 67) dX2_stitch_66 rfl ?_
  refine x_putf (pc2 := 70) (x := (((wr m 57 2 s1) 57 1) + ((wr m 57 2 s1) (l1 + 3) ((wr m 57 2 s1) 57 0)))) fl_X2_34 ft_2_1 ic_57 (pv_i _ ic_57 rfl) (pn_i _) dX2_stitch_67 rfl ?_
  refine x_aload_n (pc2 := 71) dX2_stitch_70 rfl rfl ?_
  refine x_dup_r (pc2 := 72) dX2_stitch_71 rfl (by decide) ?_
  refine x_getf (pc2 := 75) (v := aI ((wr (wr m 57 2 s1) 57 1 (((wr m 57 2 s1) 57 1) + ((wr m 57 2 s1) (l1 + 3) ((wr m 57 2 s1) 57 0)))) 57 0)) fl_X2_31 ic_57 (fv_i _ ic_57 rfl) dX2_stitch_72 rfl ?_
  refine x_iconst (pc2 := 76) dX2_stitch_75 rfl ?_
  refine x_iadd (pc2 := 77) dX2_stitch_76 rfl ?_
  refine x_putf (pc2 := 80) (x := (((wr (wr m 57 2 s1) 57 1 (((wr m 57 2 s1) 57 1) + ((wr m 57 2 s1) (l1 + 3) ((wr m 57 2 s1) 57 0)))) 57 0) + 1)) fl_X2_31 ft_2_0 ic_57 (pv_i _ ic_57 rfl) (pn_i _) dX2_stitch_77 rfl ?_
  refine x_aload_n (pc2 := 81) dX2_stitch_80 rfl rfl ?_
  refine x_getf (pc2 := 84) (v := aI ((wr (wr (wr m 57 2 s1) 57 1 (((wr m 57 2 s1) 57 1) + ((wr m 57 2 s1) (l1 + 3) ((wr m 57 2 s1) 57 0)))) 57 0 (((wr (wr m 57 2 s1) 57 1 (((wr m 57 2 s1) 57 1) + ((wr m 57 2 s1) (l1 + 3) ((wr m 57 2 s1) 57 0)))) 57 0) + 1)) 57 1)) fl_X2_34 ic_57 (fv_i _ ic_57 rfl) dX2_stitch_81 rfl ?_
  refine x_aload_n (pc2 := 85) dX2_stitch_84 rfl rfl ?_
  refine x_getf (pc2 := 88) (v := aI ((wr (wr (wr m 57 2 s1) 57 1 (((wr m 57 2 s1) 57 1) + ((wr m 57 2 s1) (l1 + 3) ((wr m 57 2 s1) 57 0)))) 57 0 (((wr (wr m 57 2 s1) 57 1 (((wr m 57 2 s1) 57 1) + ((wr m 57 2 s1) (l1 + 3) ((wr m 57 2 s1) 57 0)))) 57 0) + 1)) 57 2)) fl_X2_37 ic_57 (fv_i _ ic_57 rfl) dX2_stitch_85 rfl ?_
  obtain ⟨h3, k⟩ := k
  obtain ⟨h4, k⟩ := k
  obtain ⟨k1, k2⟩ := k
  refine x_icmp_le (tgt := 131) (pc2 := 91) dX2_stitch_88 (by decide) rfl h3 h4 (fun c5 => ?_) (fun c5 => ?_)
  · replace k := k1 c5
    refine x_iload_n (pc2 := 132) dX2_stitch_131 rfl rfl ?_
    exact x_ireturn dX2_stitch_132 ⟨.int, rfl, rfl⟩ k
  · replace k := k2 c5
    refine x_iload_n (pc2 := 92) dX2_stitch_91 rfl rfl ?_
    refine x_aload_n (pc2 := 93) dX2_stitch_92 rfl rfl ?_
    refine x_getf (pc2 := 96) (v := aR (l1 + 13)) fl_X2_68 (icr_0 Hl1) (vrr_13 _ Hl1) dX2_stitch_93 rfl ?_
    refine x_iconst (pc2 := 97) dX2_stitch_96 rfl ?_
    refine x_iald (pc2 := 98) (icr_13 Hl1) (by decide) (by rw [(alr_13 Hl1)]; decide) dX2_stitch_97 rfl ?_
    refine x_aload_n (pc2 := 99) dX2_stitch_98 rfl rfl ?_
    refine x_getf (pc2 := 102) (v := aR (l1 + 13)) fl_X2_68 (icr_0 Hl1) (vrr_13 _ Hl1) dX2_stitch_99 rfl ?_
    refine x_iconst (pc2 := 103) dX2_stitch_102 rfl ?_
    refine x_iald (pc2 := 104) (icr_13 Hl1) (by decide) (by rw [(alr_13 Hl1)]; decide) dX2_stitch_103 rfl ?_
    refine x_iadd (pc2 := 105) dX2_stitch_104 rfl ?_
    refine x_iadd (pc2 := 106) dX2_stitch_105 rfl ?_
    refine x_istore_n (pc2 := 107) (ls2 := [aR 57, aR l1, aU, aI (l3 + (((wr (wr (wr m 57 2 s1) 57 1 (((wr m 57 2 s1) 57 1) + ((wr m 57 2 s1) (l1 + 3) ((wr m 57 2 s1) 57 0)))) 57 0 (((wr (wr m 57 2 s1) 57 1 (((wr m 57 2 s1) 57 1) + ((wr m 57 2 s1) (l1 + 3) ((wr m 57 2 s1) 57 0)))) 57 0) + 1)) (l1 + 13) 1) + ((wr (wr (wr m 57 2 s1) 57 1 (((wr m 57 2 s1) 57 1) + ((wr m 57 2 s1) (l1 + 3) ((wr m 57 2 s1) 57 0)))) 57 0 (((wr (wr m 57 2 s1) 57 1 (((wr m 57 2 s1) 57 1) + ((wr m 57 2 s1) (l1 + 3) ((wr m 57 2 s1) 57 0)))) 57 0) + 1)) (l1 + 13) 0)))]) dX2_stitch_106 rfl (by decide) rfl ?_
    refine x_aload_n (pc2 := 108) dX2_stitch_107 rfl rfl ?_
    refine x_dup_r (pc2 := 109) dX2_stitch_108 rfl (by decide) ?_
    refine x_getf (pc2 := 112) (v := aI ((wr (wr (wr m 57 2 s1) 57 1 (((wr m 57 2 s1) 57 1) + ((wr m 57 2 s1) (l1 + 3) ((wr m 57 2 s1) 57 0)))) 57 0 (((wr (wr m 57 2 s1) 57 1 (((wr m 57 2 s1) 57 1) + ((wr m 57 2 s1) (l1 + 3) ((wr m 57 2 s1) 57 0)))) 57 0) + 1)) 57 4)) fl_X2_43 ic_57 (fv_i _ ic_57 rfl) dX2_stitch_109 rfl ?_
    refine x_iconst (pc2 := 113) dX2_stitch_112 rfl ?_
    refine x_iadd (pc2 := 114) dX2_stitch_113 rfl ?_
    refine x_putf (pc2 := 117) (x := (((wr (wr (wr m 57 2 s1) 57 1 (((wr m 57 2 s1) 57 1) + ((wr m 57 2 s1) (l1 + 3) ((wr m 57 2 s1) 57 0)))) 57 0 (((wr (wr m 57 2 s1) 57 1 (((wr m 57 2 s1) 57 1) + ((wr m 57 2 s1) (l1 + 3) ((wr m 57 2 s1) 57 0)))) 57 0) + 1)) 57 4) + 1)) fl_X2_43 ft_2_4 ic_57 (pv_i _ ic_57 rfl) (pn_i _) dX2_stitch_114 rfl ?_
    refine x_aload_n (pc2 := 118) dX2_stitch_117 rfl rfl ?_
    refine x_iconst (pc2 := 119) dX2_stitch_118 rfl ?_
    refine x_putf (pc2 := 122) (x := 0) fl_X2_34 ft_2_1 ic_57 (pv_i _ ic_57 rfl) (pn_i _) dX2_stitch_119 rfl ?_
    refine x_aload_n (pc2 := 123) dX2_stitch_122 rfl rfl ?_
    refine x_aload_n (pc2 := 124) dX2_stitch_123 rfl rfl ?_
    refine x_aload_n (pc2 := 125) dX2_stitch_124 rfl rfl ?_
    exact x_drop (drp_k (drp_u (drp_k (drp_k drp_n)))) k
set_option maxRecDepth 4000 in
theorem g_X2_stitch_128 {sc : List Int} {d : Nat} {m : Mem} {Q : Option AV → Mem → Prop} {l3 s1 : Int} (k : Q (some (aI l3)) (wr m 57 2 s1)) : S_X2_stitch sc d 128 [aR 57, aU, aU, aI l3] [aI s1, aR 57] m Q := by
  refine x_putf (pc2 := 131) (x := s1) fl_X2_37 ft_2_2 ic_57 (pv_i _ ic_57 rfl) (pn_i _) dX2_stitch_128 rfl ?_
  refine x_iload_n (pc2 := 132) dX2_stitch_131 rfl rfl ?_
  exact x_ireturn dX2_stitch_132 ⟨.int, rfl, rfl⟩ k
theorem c_X2_stitch_46 {sc : List Int} {d d2 : Nat} {m m2 : Mem} {Q : Option AV → Mem → Prop} {l1 l3 s2 : Int} {v : Int} (Hl1 : RoomAt l1) (Hs2 : RoomAt s2) (hM : C_X2_draw sc d2 [aR 57, aR s2] m (some (aI v)) m2) (hd : d2 + 1 ≤ d) (k : S_X2_stitch sc d 49 [aR 57, aR l1, aU, aI l3] [aI v, aR 57] m2 Q) : S_X2_stitch sc d 46 [aR 57, aR l1, aU, aI l3] [aR s2, aR 57, aR 57] m Q := x_callV (as := [aR s2]) (rest := [aR 57]) hM mk_X2_draw mv_X2_draw lk_X2_71 (Or.inl ⟨2, (RX2, TX2, 9), ic_57, Nat.le_of_ble_eq_true rfl, rfl, rfl⟩) hd rfl rfl (Nat.le_of_ble_eq_true rfl) dX2_stitch_46 rfl k
theorem c_X2_stitch_125 {sc : List Int} {d d2 : Nat} {m m2 : Mem} {Q : Option AV → Mem → Prop} {l3 s2 : Int} {v : Int} (Hs2 : RoomAt s2) (hM : C_X2_draw sc d2 [aR 57, aR s2] m (some (aI v)) m2) (hd : d2 + 1 ≤ d) (k : S_X2_stitch sc d 128 [aR 57, aU, aU, aI l3] [aI v, aR 57] m2 Q) : S_X2_stitch sc d 125 [aR 57, aU, aU, aI l3] [aR s2, aR 57, aR 57] m Q := x_callV (as := [aR s2]) (rest := [aR 57]) hM mk_X2_draw mv_X2_draw lk_X2_71 (Or.inl ⟨2, (RX2, TX2, 9), ic_57, Nat.le_of_ble_eq_true rfl, rfl, rfl⟩) hd rfl rfl (Nat.le_of_ble_eq_true rfl) dX2_stitch_125 rfl k
set_option maxRecDepth 4000 in
theorem g_X2_keep_0 {sc : List Int} {d : Nat} {m : Mem} {Q : Option AV → Mem → Prop} (k : (-2147483648 ≤ (m 57 8) ∧ (m 57 8) < 2147483648) ∧ (((m 57 8) < 20) → ((0 ≤ ((m 57 8) * 6)) ∧ (((m 57 8) * 6) < 120) ∧ (0 ≤ (((m 57 8) * 6) + 1)) ∧ ((((m 57 8) * 6) + 1) < 120) ∧ (0 ≤ (((m 57 8) * 6) + 2)) ∧ ((((m 57 8) * 6) + 2) < 120) ∧ (0 ≤ (((m 57 8) * 6) + 3)) ∧ ((((m 57 8) * 6) + 3) < 120) ∧ (0 ≤ (((m 57 8) * 6) + 4)) ∧ ((((m 57 8) * 6) + 4) < 120) ∧ (0 ≤ (((m 57 8) * 6) + 5)) ∧ ((((m 57 8) * 6) + 5) < 120) ∧ Q none (wr (wr (wr (wr (wr (wr (wr m 58 ((m 57 8) * 6) (m 57 0)) 58 (((m 57 8) * 6) + 1) ((wr m 58 ((m 57 8) * 6) (m 57 0)) 57 1)) 58 (((m 57 8) * 6) + 2) ((wr (wr m 58 ((m 57 8) * 6) (m 57 0)) 58 (((m 57 8) * 6) + 1) ((wr m 58 ((m 57 8) * 6) (m 57 0)) 57 1)) 57 2)) 58 (((m 57 8) * 6) + 3) ((wr (wr (wr m 58 ((m 57 8) * 6) (m 57 0)) 58 (((m 57 8) * 6) + 1) ((wr m 58 ((m 57 8) * 6) (m 57 0)) 57 1)) 58 (((m 57 8) * 6) + 2) ((wr (wr m 58 ((m 57 8) * 6) (m 57 0)) 58 (((m 57 8) * 6) + 1) ((wr m 58 ((m 57 8) * 6) (m 57 0)) 57 1)) 57 2)) 57 3)) 58 (((m 57 8) * 6) + 4) ((wr (wr (wr (wr m 58 ((m 57 8) * 6) (m 57 0)) 58 (((m 57 8) * 6) + 1) ((wr m 58 ((m 57 8) * 6) (m 57 0)) 57 1)) 58 (((m 57 8) * 6) + 2) ((wr (wr m 58 ((m 57 8) * 6) (m 57 0)) 58 (((m 57 8) * 6) + 1) ((wr m 58 ((m 57 8) * 6) (m 57 0)) 57 1)) 57 2)) 58 (((m 57 8) * 6) + 3) ((wr (wr (wr m 58 ((m 57 8) * 6) (m 57 0)) 58 (((m 57 8) * 6) + 1) ((wr m 58 ((m 57 8) * 6) (m 57 0)) 57 1)) 58 (((m 57 8) * 6) + 2) ((wr (wr m 58 ((m 57 8) * 6) (m 57 0)) 58 (((m 57 8) * 6) + 1) ((wr m 58 ((m 57 8) * 6) (m 57 0)) 57 1)) 57 2)) 57 3)) 57 4)) 58 (((m 57 8) * 6) + 5) ((wr (wr (wr (wr (wr m 58 ((m 57 8) * 6) (m 57 0)) 58 (((m 57 8) * 6) + 1) ((wr m 58 ((m 57 8) * 6) (m 57 0)) 57 1)) 58 (((m 57 8) * 6) + 2) ((wr (wr m 58 ((m 57 8) * 6) (m 57 0)) 58 (((m 57 8) * 6) + 1) ((wr m 58 ((m 57 8) * 6) (m 57 0)) 57 1)) 57 2)) 58 (((m 57 8) * 6) + 3) ((wr (wr (wr m 58 ((m 57 8) * 6) (m 57 0)) 58 (((m 57 8) * 6) + 1) ((wr m 58 ((m 57 8) * 6) (m 57 0)) 57 1)) 58 (((m 57 8) * 6) + 2) ((wr (wr m 58 ((m 57 8) * 6) (m 57 0)) 58 (((m 57 8) * 6) + 1) ((wr m 58 ((m 57 8) * 6) (m 57 0)) 57 1)) 57 2)) 57 3)) 58 (((m 57 8) * 6) + 4) ((wr (wr (wr (wr m 58 ((m 57 8) * 6) (m 57 0)) 58 (((m 57 8) * 6) + 1) ((wr m 58 ((m 57 8) * 6) (m 57 0)) 57 1)) 58 (((m 57 8) * 6) + 2) ((wr (wr m 58 ((m 57 8) * 6) (m 57 0)) 58 (((m 57 8) * 6) + 1) ((wr m 58 ((m 57 8) * 6) (m 57 0)) 57 1)) 57 2)) 58 (((m 57 8) * 6) + 3) ((wr (wr (wr m 58 ((m 57 8) * 6) (m 57 0)) 58 (((m 57 8) * 6) + 1) ((wr m 58 ((m 57 8) * 6) (m 57 0)) 57 1)) 58 (((m 57 8) * 6) + 2) ((wr (wr m 58 ((m 57 8) * 6) (m 57 0)) 58 (((m 57 8) * 6) + 1) ((wr m 58 ((m 57 8) * 6) (m 57 0)) 57 1)) 57 2)) 57 3)) 57 4)) 57 5)) 57 8 (((wr (wr (wr (wr (wr (wr m 58 ((m 57 8) * 6) (m 57 0)) 58 (((m 57 8) * 6) + 1) ((wr m 58 ((m 57 8) * 6) (m 57 0)) 57 1)) 58 (((m 57 8) * 6) + 2) ((wr (wr m 58 ((m 57 8) * 6) (m 57 0)) 58 (((m 57 8) * 6) + 1) ((wr m 58 ((m 57 8) * 6) (m 57 0)) 57 1)) 57 2)) 58 (((m 57 8) * 6) + 3) ((wr (wr (wr m 58 ((m 57 8) * 6) (m 57 0)) 58 (((m 57 8) * 6) + 1) ((wr m 58 ((m 57 8) * 6) (m 57 0)) 57 1)) 58 (((m 57 8) * 6) + 2) ((wr (wr m 58 ((m 57 8) * 6) (m 57 0)) 58 (((m 57 8) * 6) + 1) ((wr m 58 ((m 57 8) * 6) (m 57 0)) 57 1)) 57 2)) 57 3)) 58 (((m 57 8) * 6) + 4) ((wr (wr (wr (wr m 58 ((m 57 8) * 6) (m 57 0)) 58 (((m 57 8) * 6) + 1) ((wr m 58 ((m 57 8) * 6) (m 57 0)) 57 1)) 58 (((m 57 8) * 6) + 2) ((wr (wr m 58 ((m 57 8) * 6) (m 57 0)) 58 (((m 57 8) * 6) + 1) ((wr m 58 ((m 57 8) * 6) (m 57 0)) 57 1)) 57 2)) 58 (((m 57 8) * 6) + 3) ((wr (wr (wr m 58 ((m 57 8) * 6) (m 57 0)) 58 (((m 57 8) * 6) + 1) ((wr m 58 ((m 57 8) * 6) (m 57 0)) 57 1)) 58 (((m 57 8) * 6) + 2) ((wr (wr m 58 ((m 57 8) * 6) (m 57 0)) 58 (((m 57 8) * 6) + 1) ((wr m 58 ((m 57 8) * 6) (m 57 0)) 57 1)) 57 2)) 57 3)) 57 4)) 58 (((m 57 8) * 6) + 5) ((wr (wr (wr (wr (wr m 58 ((m 57 8) * 6) (m 57 0)) 58 (((m 57 8) * 6) + 1) ((wr m 58 ((m 57 8) * 6) (m 57 0)) 57 1)) 58 (((m 57 8) * 6) + 2) ((wr (wr m 58 ((m 57 8) * 6) (m 57 0)) 58 (((m 57 8) * 6) + 1) ((wr m 58 ((m 57 8) * 6) (m 57 0)) 57 1)) 57 2)) 58 (((m 57 8) * 6) + 3) ((wr (wr (wr m 58 ((m 57 8) * 6) (m 57 0)) 58 (((m 57 8) * 6) + 1) ((wr m 58 ((m 57 8) * 6) (m 57 0)) 57 1)) 58 (((m 57 8) * 6) + 2) ((wr (wr m 58 ((m 57 8) * 6) (m 57 0)) 58 (((m 57 8) * 6) + 1) ((wr m 58 ((m 57 8) * 6) (m 57 0)) 57 1)) 57 2)) 57 3)) 58 (((m 57 8) * 6) + 4) ((wr (wr (wr (wr m 58 ((m 57 8) * 6) (m 57 0)) 58 (((m 57 8) * 6) + 1) ((wr m 58 ((m 57 8) * 6) (m 57 0)) 57 1)) 58 (((m 57 8) * 6) + 2) ((wr (wr m 58 ((m 57 8) * 6) (m 57 0)) 58 (((m 57 8) * 6) + 1) ((wr m 58 ((m 57 8) * 6) (m 57 0)) 57 1)) 57 2)) 58 (((m 57 8) * 6) + 3) ((wr (wr (wr m 58 ((m 57 8) * 6) (m 57 0)) 58 (((m 57 8) * 6) + 1) ((wr m 58 ((m 57 8) * 6) (m 57 0)) 57 1)) 58 (((m 57 8) * 6) + 2) ((wr (wr m 58 ((m 57 8) * 6) (m 57 0)) 58 (((m 57 8) * 6) + 1) ((wr m 58 ((m 57 8) * 6) (m 57 0)) 57 1)) 57 2)) 57 3)) 57 4)) 57 5)) 57 8) + 1)))) ∧ (¬ ((m 57 8) < 20) → ((1 ≤ d) ∧ (0 ≤ (((wr (acp m (m 58) 6 58 0 114) 57 8 19) 57 8) * 6)) ∧ ((((wr (acp m (m 58) 6 58 0 114) 57 8 19) 57 8) * 6) < 120) ∧ (0 ≤ ((((wr (acp m (m 58) 6 58 0 114) 57 8 19) 57 8) * 6) + 1)) ∧ (((((wr (acp m (m 58) 6 58 0 114) 57 8 19) 57 8) * 6) + 1) < 120) ∧ (0 ≤ ((((wr (acp m (m 58) 6 58 0 114) 57 8 19) 57 8) * 6) + 2)) ∧ (((((wr (acp m (m 58) 6 58 0 114) 57 8 19) 57 8) * 6) + 2) < 120) ∧ (0 ≤ ((((wr (acp m (m 58) 6 58 0 114) 57 8 19) 57 8) * 6) + 3)) ∧ (((((wr (acp m (m 58) 6 58 0 114) 57 8 19) 57 8) * 6) + 3) < 120) ∧ (0 ≤ ((((wr (acp m (m 58) 6 58 0 114) 57 8 19) 57 8) * 6) + 4)) ∧ (((((wr (acp m (m 58) 6 58 0 114) 57 8 19) 57 8) * 6) + 4) < 120) ∧ (0 ≤ ((((wr (acp m (m 58) 6 58 0 114) 57 8 19) 57 8) * 6) + 5)) ∧ (((((wr (acp m (m 58) 6 58 0 114) 57 8 19) 57 8) * 6) + 5) < 120) ∧ Q none (wr (wr (wr (wr (wr (wr (wr (wr (acp m (m 58) 6 58 0 114) 57 8 19) 58 (((wr (acp m (m 58) 6 58 0 114) 57 8 19) 57 8) * 6) ((wr (acp m (m 58) 6 58 0 114) 57 8 19) 57 0)) 58 ((((wr (acp m (m 58) 6 58 0 114) 57 8 19) 57 8) * 6) + 1) ((wr (wr (acp m (m 58) 6 58 0 114) 57 8 19) 58 (((wr (acp m (m 58) 6 58 0 114) 57 8 19) 57 8) * 6) ((wr (acp m (m 58) 6 58 0 114) 57 8 19) 57 0)) 57 1)) 58 ((((wr (acp m (m 58) 6 58 0 114) 57 8 19) 57 8) * 6) + 2) ((wr (wr (wr (acp m (m 58) 6 58 0 114) 57 8 19) 58 (((wr (acp m (m 58) 6 58 0 114) 57 8 19) 57 8) * 6) ((wr (acp m (m 58) 6 58 0 114) 57 8 19) 57 0)) 58 ((((wr (acp m (m 58) 6 58 0 114) 57 8 19) 57 8) * 6) + 1) ((wr (wr (acp m (m 58) 6 58 0 114) 57 8 19) 58 (((wr (acp m (m 58) 6 58 0 114) 57 8 19) 57 8) * 6) ((wr (acp m (m 58) 6 58 0 114) 57 8 19) 57 0)) 57 1)) 57 2)) 58 ((((wr (acp m (m 58) 6 58 0 114) 57 8 19) 57 8) * 6) + 3) ((wr (wr (wr (wr (acp m (m 58) 6 58 0 114) 57 8 19) 58 (((wr (acp m (m 58) 6 58 0 114) 57 8 19) 57 8) * 6) ((wr (acp m (m 58) 6 58 0 114) 57 8 19) 57 0)) 58 ((((wr (acp m (m 58) 6 58 0 114) 57 8 19) 57 8) * 6) + 1) ((wr (wr (acp m (m 58) 6 58 0 114) 57 8 19) 58 (((wr (acp m (m 58) 6 58 0 114) 57 8 19) 57 8) * 6) ((wr (acp m (m 58) 6 58 0 114) 57 8 19) 57 0)) 57 1)) 58 ((((wr (acp m (m 58) 6 58 0 114) 57 8 19) 57 8) * 6) + 2) ((wr (wr (wr (acp m (m 58) 6 58 0 114) 57 8 19) 58 (((wr (acp m (m 58) 6 58 0 114) 57 8 19) 57 8) * 6) ((wr (acp m (m 58) 6 58 0 114) 57 8 19) 57 0)) 58 ((((wr (acp m (m 58) 6 58 0 114) 57 8 19) 57 8) * 6) + 1) ((wr (wr (acp m (m 58) 6 58 0 114) 57 8 19) 58 (((wr (acp m (m 58) 6 58 0 114) 57 8 19) 57 8) * 6) ((wr (acp m (m 58) 6 58 0 114) 57 8 19) 57 0)) 57 1)) 57 2)) 57 3)) 58 ((((wr (acp m (m 58) 6 58 0 114) 57 8 19) 57 8) * 6) + 4) ((wr (wr (wr (wr (wr (acp m (m 58) 6 58 0 114) 57 8 19) 58 (((wr (acp m (m 58) 6 58 0 114) 57 8 19) 57 8) * 6) ((wr (acp m (m 58) 6 58 0 114) 57 8 19) 57 0)) 58 ((((wr (acp m (m 58) 6 58 0 114) 57 8 19) 57 8) * 6) + 1) ((wr (wr (acp m (m 58) 6 58 0 114) 57 8 19) 58 (((wr (acp m (m 58) 6 58 0 114) 57 8 19) 57 8) * 6) ((wr (acp m (m 58) 6 58 0 114) 57 8 19) 57 0)) 57 1)) 58 ((((wr (acp m (m 58) 6 58 0 114) 57 8 19) 57 8) * 6) + 2) ((wr (wr (wr (acp m (m 58) 6 58 0 114) 57 8 19) 58 (((wr (acp m (m 58) 6 58 0 114) 57 8 19) 57 8) * 6) ((wr (acp m (m 58) 6 58 0 114) 57 8 19) 57 0)) 58 ((((wr (acp m (m 58) 6 58 0 114) 57 8 19) 57 8) * 6) + 1) ((wr (wr (acp m (m 58) 6 58 0 114) 57 8 19) 58 (((wr (acp m (m 58) 6 58 0 114) 57 8 19) 57 8) * 6) ((wr (acp m (m 58) 6 58 0 114) 57 8 19) 57 0)) 57 1)) 57 2)) 58 ((((wr (acp m (m 58) 6 58 0 114) 57 8 19) 57 8) * 6) + 3) ((wr (wr (wr (wr (acp m (m 58) 6 58 0 114) 57 8 19) 58 (((wr (acp m (m 58) 6 58 0 114) 57 8 19) 57 8) * 6) ((wr (acp m (m 58) 6 58 0 114) 57 8 19) 57 0)) 58 ((((wr (acp m (m 58) 6 58 0 114) 57 8 19) 57 8) * 6) + 1) ((wr (wr (acp m (m 58) 6 58 0 114) 57 8 19) 58 (((wr (acp m (m 58) 6 58 0 114) 57 8 19) 57 8) * 6) ((wr (acp m (m 58) 6 58 0 114) 57 8 19) 57 0)) 57 1)) 58 ((((wr (acp m (m 58) 6 58 0 114) 57 8 19) 57 8) * 6) + 2) ((wr (wr (wr (acp m (m 58) 6 58 0 114) 57 8 19) 58 (((wr (acp m (m 58) 6 58 0 114) 57 8 19) 57 8) * 6) ((wr (acp m (m 58) 6 58 0 114) 57 8 19) 57 0)) 58 ((((wr (acp m (m 58) 6 58 0 114) 57 8 19) 57 8) * 6) + 1) ((wr (wr (acp m (m 58) 6 58 0 114) 57 8 19) 58 (((wr (acp m (m 58) 6 58 0 114) 57 8 19) 57 8) * 6) ((wr (acp m (m 58) 6 58 0 114) 57 8 19) 57 0)) 57 1)) 57 2)) 57 3)) 57 4)) 58 ((((wr (acp m (m 58) 6 58 0 114) 57 8 19) 57 8) * 6) + 5) ((wr (wr (wr (wr (wr (wr (acp m (m 58) 6 58 0 114) 57 8 19) 58 (((wr (acp m (m 58) 6 58 0 114) 57 8 19) 57 8) * 6) ((wr (acp m (m 58) 6 58 0 114) 57 8 19) 57 0)) 58 ((((wr (acp m (m 58) 6 58 0 114) 57 8 19) 57 8) * 6) + 1) ((wr (wr (acp m (m 58) 6 58 0 114) 57 8 19) 58 (((wr (acp m (m 58) 6 58 0 114) 57 8 19) 57 8) * 6) ((wr (acp m (m 58) 6 58 0 114) 57 8 19) 57 0)) 57 1)) 58 ((((wr (acp m (m 58) 6 58 0 114) 57 8 19) 57 8) * 6) + 2) ((wr (wr (wr (acp m (m 58) 6 58 0 114) 57 8 19) 58 (((wr (acp m (m 58) 6 58 0 114) 57 8 19) 57 8) * 6) ((wr (acp m (m 58) 6 58 0 114) 57 8 19) 57 0)) 58 ((((wr (acp m (m 58) 6 58 0 114) 57 8 19) 57 8) * 6) + 1) ((wr (wr (acp m (m 58) 6 58 0 114) 57 8 19) 58 (((wr (acp m (m 58) 6 58 0 114) 57 8 19) 57 8) * 6) ((wr (acp m (m 58) 6 58 0 114) 57 8 19) 57 0)) 57 1)) 57 2)) 58 ((((wr (acp m (m 58) 6 58 0 114) 57 8 19) 57 8) * 6) + 3) ((wr (wr (wr (wr (acp m (m 58) 6 58 0 114) 57 8 19) 58 (((wr (acp m (m 58) 6 58 0 114) 57 8 19) 57 8) * 6) ((wr (acp m (m 58) 6 58 0 114) 57 8 19) 57 0)) 58 ((((wr (acp m (m 58) 6 58 0 114) 57 8 19) 57 8) * 6) + 1) ((wr (wr (acp m (m 58) 6 58 0 114) 57 8 19) 58 (((wr (acp m (m 58) 6 58 0 114) 57 8 19) 57 8) * 6) ((wr (acp m (m 58) 6 58 0 114) 57 8 19) 57 0)) 57 1)) 58 ((((wr (acp m (m 58) 6 58 0 114) 57 8 19) 57 8) * 6) + 2) ((wr (wr (wr (acp m (m 58) 6 58 0 114) 57 8 19) 58 (((wr (acp m (m 58) 6 58 0 114) 57 8 19) 57 8) * 6) ((wr (acp m (m 58) 6 58 0 114) 57 8 19) 57 0)) 58 ((((wr (acp m (m 58) 6 58 0 114) 57 8 19) 57 8) * 6) + 1) ((wr (wr (acp m (m 58) 6 58 0 114) 57 8 19) 58 (((wr (acp m (m 58) 6 58 0 114) 57 8 19) 57 8) * 6) ((wr (acp m (m 58) 6 58 0 114) 57 8 19) 57 0)) 57 1)) 57 2)) 57 3)) 58 ((((wr (acp m (m 58) 6 58 0 114) 57 8 19) 57 8) * 6) + 4) ((wr (wr (wr (wr (wr (acp m (m 58) 6 58 0 114) 57 8 19) 58 (((wr (acp m (m 58) 6 58 0 114) 57 8 19) 57 8) * 6) ((wr (acp m (m 58) 6 58 0 114) 57 8 19) 57 0)) 58 ((((wr (acp m (m 58) 6 58 0 114) 57 8 19) 57 8) * 6) + 1) ((wr (wr (acp m (m 58) 6 58 0 114) 57 8 19) 58 (((wr (acp m (m 58) 6 58 0 114) 57 8 19) 57 8) * 6) ((wr (acp m (m 58) 6 58 0 114) 57 8 19) 57 0)) 57 1)) 58 ((((wr (acp m (m 58) 6 58 0 114) 57 8 19) 57 8) * 6) + 2) ((wr (wr (wr (acp m (m 58) 6 58 0 114) 57 8 19) 58 (((wr (acp m (m 58) 6 58 0 114) 57 8 19) 57 8) * 6) ((wr (acp m (m 58) 6 58 0 114) 57 8 19) 57 0)) 58 ((((wr (acp m (m 58) 6 58 0 114) 57 8 19) 57 8) * 6) + 1) ((wr (wr (acp m (m 58) 6 58 0 114) 57 8 19) 58 (((wr (acp m (m 58) 6 58 0 114) 57 8 19) 57 8) * 6) ((wr (acp m (m 58) 6 58 0 114) 57 8 19) 57 0)) 57 1)) 57 2)) 58 ((((wr (acp m (m 58) 6 58 0 114) 57 8 19) 57 8) * 6) + 3) ((wr (wr (wr (wr (acp m (m 58) 6 58 0 114) 57 8 19) 58 (((wr (acp m (m 58) 6 58 0 114) 57 8 19) 57 8) * 6) ((wr (acp m (m 58) 6 58 0 114) 57 8 19) 57 0)) 58 ((((wr (acp m (m 58) 6 58 0 114) 57 8 19) 57 8) * 6) + 1) ((wr (wr (acp m (m 58) 6 58 0 114) 57 8 19) 58 (((wr (acp m (m 58) 6 58 0 114) 57 8 19) 57 8) * 6) ((wr (acp m (m 58) 6 58 0 114) 57 8 19) 57 0)) 57 1)) 58 ((((wr (acp m (m 58) 6 58 0 114) 57 8 19) 57 8) * 6) + 2) ((wr (wr (wr (acp m (m 58) 6 58 0 114) 57 8 19) 58 (((wr (acp m (m 58) 6 58 0 114) 57 8 19) 57 8) * 6) ((wr (acp m (m 58) 6 58 0 114) 57 8 19) 57 0)) 58 ((((wr (acp m (m 58) 6 58 0 114) 57 8 19) 57 8) * 6) + 1) ((wr (wr (acp m (m 58) 6 58 0 114) 57 8 19) 58 (((wr (acp m (m 58) 6 58 0 114) 57 8 19) 57 8) * 6) ((wr (acp m (m 58) 6 58 0 114) 57 8 19) 57 0)) 57 1)) 57 2)) 57 3)) 57 4)) 57 5)) 57 8 (((wr (wr (wr (wr (wr (wr (wr (acp m (m 58) 6 58 0 114) 57 8 19) 58 (((wr (acp m (m 58) 6 58 0 114) 57 8 19) 57 8) * 6) ((wr (acp m (m 58) 6 58 0 114) 57 8 19) 57 0)) 58 ((((wr (acp m (m 58) 6 58 0 114) 57 8 19) 57 8) * 6) + 1) ((wr (wr (acp m (m 58) 6 58 0 114) 57 8 19) 58 (((wr (acp m (m 58) 6 58 0 114) 57 8 19) 57 8) * 6) ((wr (acp m (m 58) 6 58 0 114) 57 8 19) 57 0)) 57 1)) 58 ((((wr (acp m (m 58) 6 58 0 114) 57 8 19) 57 8) * 6) + 2) ((wr (wr (wr (acp m (m 58) 6 58 0 114) 57 8 19) 58 (((wr (acp m (m 58) 6 58 0 114) 57 8 19) 57 8) * 6) ((wr (acp m (m 58) 6 58 0 114) 57 8 19) 57 0)) 58 ((((wr (acp m (m 58) 6 58 0 114) 57 8 19) 57 8) * 6) + 1) ((wr (wr (acp m (m 58) 6 58 0 114) 57 8 19) 58 (((wr (acp m (m 58) 6 58 0 114) 57 8 19) 57 8) * 6) ((wr (acp m (m 58) 6 58 0 114) 57 8 19) 57 0)) 57 1)) 57 2)) 58 ((((wr (acp m (m 58) 6 58 0 114) 57 8 19) 57 8) * 6) + 3) ((wr (wr (wr (wr (acp m (m 58) 6 58 0 114) 57 8 19) 58 (((wr (acp m (m 58) 6 58 0 114) 57 8 19) 57 8) * 6) ((wr (acp m (m 58) 6 58 0 114) 57 8 19) 57 0)) 58 ((((wr (acp m (m 58) 6 58 0 114) 57 8 19) 57 8) * 6) + 1) ((wr (wr (acp m (m 58) 6 58 0 114) 57 8 19) 58 (((wr (acp m (m 58) 6 58 0 114) 57 8 19) 57 8) * 6) ((wr (acp m (m 58) 6 58 0 114) 57 8 19) 57 0)) 57 1)) 58 ((((wr (acp m (m 58) 6 58 0 114) 57 8 19) 57 8) * 6) + 2) ((wr (wr (wr (acp m (m 58) 6 58 0 114) 57 8 19) 58 (((wr (acp m (m 58) 6 58 0 114) 57 8 19) 57 8) * 6) ((wr (acp m (m 58) 6 58 0 114) 57 8 19) 57 0)) 58 ((((wr (acp m (m 58) 6 58 0 114) 57 8 19) 57 8) * 6) + 1) ((wr (wr (acp m (m 58) 6 58 0 114) 57 8 19) 58 (((wr (acp m (m 58) 6 58 0 114) 57 8 19) 57 8) * 6) ((wr (acp m (m 58) 6 58 0 114) 57 8 19) 57 0)) 57 1)) 57 2)) 57 3)) 58 ((((wr (acp m (m 58) 6 58 0 114) 57 8 19) 57 8) * 6) + 4) ((wr (wr (wr (wr (wr (acp m (m 58) 6 58 0 114) 57 8 19) 58 (((wr (acp m (m 58) 6 58 0 114) 57 8 19) 57 8) * 6) ((wr (acp m (m 58) 6 58 0 114) 57 8 19) 57 0)) 58 ((((wr (acp m (m 58) 6 58 0 114) 57 8 19) 57 8) * 6) + 1) ((wr (wr (acp m (m 58) 6 58 0 114) 57 8 19) 58 (((wr (acp m (m 58) 6 58 0 114) 57 8 19) 57 8) * 6) ((wr (acp m (m 58) 6 58 0 114) 57 8 19) 57 0)) 57 1)) 58 ((((wr (acp m (m 58) 6 58 0 114) 57 8 19) 57 8) * 6) + 2) ((wr (wr (wr (acp m (m 58) 6 58 0 114) 57 8 19) 58 (((wr (acp m (m 58) 6 58 0 114) 57 8 19) 57 8) * 6) ((wr (acp m (m 58) 6 58 0 114) 57 8 19) 57 0)) 58 ((((wr (acp m (m 58) 6 58 0 114) 57 8 19) 57 8) * 6) + 1) ((wr (wr (acp m (m 58) 6 58 0 114) 57 8 19) 58 (((wr (acp m (m 58) 6 58 0 114) 57 8 19) 57 8) * 6) ((wr (acp m (m 58) 6 58 0 114) 57 8 19) 57 0)) 57 1)) 57 2)) 58 ((((wr (acp m (m 58) 6 58 0 114) 57 8 19) 57 8) * 6) + 3) ((wr (wr (wr (wr (acp m (m 58) 6 58 0 114) 57 8 19) 58 (((wr (acp m (m 58) 6 58 0 114) 57 8 19) 57 8) * 6) ((wr (acp m (m 58) 6 58 0 114) 57 8 19) 57 0)) 58 ((((wr (acp m (m 58) 6 58 0 114) 57 8 19) 57 8) * 6) + 1) ((wr (wr (acp m (m 58) 6 58 0 114) 57 8 19) 58 (((wr (acp m (m 58) 6 58 0 114) 57 8 19) 57 8) * 6) ((wr (acp m (m 58) 6 58 0 114) 57 8 19) 57 0)) 57 1)) 58 ((((wr (acp m (m 58) 6 58 0 114) 57 8 19) 57 8) * 6) + 2) ((wr (wr (wr (acp m (m 58) 6 58 0 114) 57 8 19) 58 (((wr (acp m (m 58) 6 58 0 114) 57 8 19) 57 8) * 6) ((wr (acp m (m 58) 6 58 0 114) 57 8 19) 57 0)) 58 ((((wr (acp m (m 58) 6 58 0 114) 57 8 19) 57 8) * 6) + 1) ((wr (wr (acp m (m 58) 6 58 0 114) 57 8 19) 58 (((wr (acp m (m 58) 6 58 0 114) 57 8 19) 57 8) * 6) ((wr (acp m (m 58) 6 58 0 114) 57 8 19) 57 0)) 57 1)) 57 2)) 57 3)) 57 4)) 58 ((((wr (acp m (m 58) 6 58 0 114) 57 8 19) 57 8) * 6) + 5) ((wr (wr (wr (wr (wr (wr (acp m (m 58) 6 58 0 114) 57 8 19) 58 (((wr (acp m (m 58) 6 58 0 114) 57 8 19) 57 8) * 6) ((wr (acp m (m 58) 6 58 0 114) 57 8 19) 57 0)) 58 ((((wr (acp m (m 58) 6 58 0 114) 57 8 19) 57 8) * 6) + 1) ((wr (wr (acp m (m 58) 6 58 0 114) 57 8 19) 58 (((wr (acp m (m 58) 6 58 0 114) 57 8 19) 57 8) * 6) ((wr (acp m (m 58) 6 58 0 114) 57 8 19) 57 0)) 57 1)) 58 ((((wr (acp m (m 58) 6 58 0 114) 57 8 19) 57 8) * 6) + 2) ((wr (wr (wr (acp m (m 58) 6 58 0 114) 57 8 19) 58 (((wr (acp m (m 58) 6 58 0 114) 57 8 19) 57 8) * 6) ((wr (acp m (m 58) 6 58 0 114) 57 8 19) 57 0)) 58 ((((wr (acp m (m 58) 6 58 0 114) 57 8 19) 57 8) * 6) + 1) ((wr (wr (acp m (m 58) 6 58 0 114) 57 8 19) 58 (((wr (acp m (m 58) 6 58 0 114) 57 8 19) 57 8) * 6) ((wr (acp m (m 58) 6 58 0 114) 57 8 19) 57 0)) 57 1)) 57 2)) 58 ((((wr (acp m (m 58) 6 58 0 114) 57 8 19) 57 8) * 6) + 3) ((wr (wr (wr (wr (acp m (m 58) 6 58 0 114) 57 8 19) 58 (((wr (acp m (m 58) 6 58 0 114) 57 8 19) 57 8) * 6) ((wr (acp m (m 58) 6 58 0 114) 57 8 19) 57 0)) 58 ((((wr (acp m (m 58) 6 58 0 114) 57 8 19) 57 8) * 6) + 1) ((wr (wr (acp m (m 58) 6 58 0 114) 57 8 19) 58 (((wr (acp m (m 58) 6 58 0 114) 57 8 19) 57 8) * 6) ((wr (acp m (m 58) 6 58 0 114) 57 8 19) 57 0)) 57 1)) 58 ((((wr (acp m (m 58) 6 58 0 114) 57 8 19) 57 8) * 6) + 2) ((wr (wr (wr (acp m (m 58) 6 58 0 114) 57 8 19) 58 (((wr (acp m (m 58) 6 58 0 114) 57 8 19) 57 8) * 6) ((wr (acp m (m 58) 6 58 0 114) 57 8 19) 57 0)) 58 ((((wr (acp m (m 58) 6 58 0 114) 57 8 19) 57 8) * 6) + 1) ((wr (wr (acp m (m 58) 6 58 0 114) 57 8 19) 58 (((wr (acp m (m 58) 6 58 0 114) 57 8 19) 57 8) * 6) ((wr (acp m (m 58) 6 58 0 114) 57 8 19) 57 0)) 57 1)) 57 2)) 57 3)) 58 ((((wr (acp m (m 58) 6 58 0 114) 57 8 19) 57 8) * 6) + 4) ((wr (wr (wr (wr (wr (acp m (m 58) 6 58 0 114) 57 8 19) 58 (((wr (acp m (m 58) 6 58 0 114) 57 8 19) 57 8) * 6) ((wr (acp m (m 58) 6 58 0 114) 57 8 19) 57 0)) 58 ((((wr (acp m (m 58) 6 58 0 114) 57 8 19) 57 8) * 6) + 1) ((wr (wr (acp m (m 58) 6 58 0 114) 57 8 19) 58 (((wr (acp m (m 58) 6 58 0 114) 57 8 19) 57 8) * 6) ((wr (acp m (m 58) 6 58 0 114) 57 8 19) 57 0)) 57 1)) 58 ((((wr (acp m (m 58) 6 58 0 114) 57 8 19) 57 8) * 6) + 2) ((wr (wr (wr (acp m (m 58) 6 58 0 114) 57 8 19) 58 (((wr (acp m (m 58) 6 58 0 114) 57 8 19) 57 8) * 6) ((wr (acp m (m 58) 6 58 0 114) 57 8 19) 57 0)) 58 ((((wr (acp m (m 58) 6 58 0 114) 57 8 19) 57 8) * 6) + 1) ((wr (wr (acp m (m 58) 6 58 0 114) 57 8 19) 58 (((wr (acp m (m 58) 6 58 0 114) 57 8 19) 57 8) * 6) ((wr (acp m (m 58) 6 58 0 114) 57 8 19) 57 0)) 57 1)) 57 2)) 58 ((((wr (acp m (m 58) 6 58 0 114) 57 8 19) 57 8) * 6) + 3) ((wr (wr (wr (wr (acp m (m 58) 6 58 0 114) 57 8 19) 58 (((wr (acp m (m 58) 6 58 0 114) 57 8 19) 57 8) * 6) ((wr (acp m (m 58) 6 58 0 114) 57 8 19) 57 0)) 58 ((((wr (acp m (m 58) 6 58 0 114) 57 8 19) 57 8) * 6) + 1) ((wr (wr (acp m (m 58) 6 58 0 114) 57 8 19) 58 (((wr (acp m (m 58) 6 58 0 114) 57 8 19) 57 8) * 6) ((wr (acp m (m 58) 6 58 0 114) 57 8 19) 57 0)) 57 1)) 58 ((((wr (acp m (m 58) 6 58 0 114) 57 8 19) 57 8) * 6) + 2) ((wr (wr (wr (acp m (m 58) 6 58 0 114) 57 8 19) 58 (((wr (acp m (m 58) 6 58 0 114) 57 8 19) 57 8) * 6) ((wr (acp m (m 58) 6 58 0 114) 57 8 19) 57 0)) 58 ((((wr (acp m (m 58) 6 58 0 114) 57 8 19) 57 8) * 6) + 1) ((wr (wr (acp m (m 58) 6 58 0 114) 57 8 19) 58 (((wr (acp m (m 58) 6 58 0 114) 57 8 19) 57 8) * 6) ((wr (acp m (m 58) 6 58 0 114) 57 8 19) 57 0)) 57 1)) 57 2)) 57 3)) 57 4)) 57 5)) 57 8) + 1))))) : S_X2_keep sc d 0 [aR 57, aU] [] m Q := by
  refine x_aload_n (pc2 := 1) dX2_keep_0 rfl rfl ?_
  refine x_getf (pc2 := 4) (v := aI (m 57 8)) fl_X2_28 ic_57 (fv_i _ ic_57 rfl) dX2_keep_1 rfl ?_
  refine x_bipush (pc2 := 6) dX2_keep_4 rfl rfl ?_
  obtain ⟨h1, k⟩ := k
  obtain ⟨k1, k2⟩ := k
  refine x_icmp_lt (tgt := 37) (pc2 := 9) dX2_keep_6 (by decide) rfl h1 (by decide) (fun c2 => ?_) (fun c2 => ?_)
  · replace k := k1 c2
    refine x_aload_n (pc2 := 38) dX2_keep_37 rfl rfl ?_
    refine x_getf (pc2 := 41) (v := aI (m 57 8)) fl_X2_28 ic_57 (fv_i _ ic_57 rfl) dX2_keep_38 rfl ?_
    refine x_bipush (pc2 := 43) dX2_keep_41 rfl rfl ?_
    refine x_imul (pc2 := 44) dX2_keep_43 rfl ?_
    refine x_istore_n (pc2 := 45) (ls2 := [aR 57, aI ((m 57 8) * 6)]) dX2_keep_44 rfl (by decide) rfl ?_
    refine x_aload_n (pc2 := 46) dX2_keep_45 rfl rfl ?_
    refine x_getf (pc2 := 49) (v := aR 58) fl_X2_15 ic_57 (vr_57_7 _) dX2_keep_46 rfl ?_
    refine x_iload_n (pc2 := 50) dX2_keep_49 rfl rfl ?_
    refine x_aload_n (pc2 := 51) dX2_keep_50 rfl rfl ?_
    refine x_getf (pc2 := 54) (v := aI (m 57 0)) fl_X2_31 ic_57 (fv_i _ ic_57 rfl) dX2_keep_51 rfl ?_
    obtain ⟨h3, k⟩ := k
    obtain ⟨h4, k⟩ := k
    refine x_iast (pc2 := 55) ic_58 h3 (by rw [al_58]; exact h4) dX2_keep_54 rfl ?_
    refine x_aload_n (pc2 := 56) dX2_keep_55 rfl rfl ?_
    refine x_getf (pc2 := 59) (v := aR 58) fl_X2_15 ic_57 (vr_57_7 _) dX2_keep_56 rfl ?_
    refine x_iload_n (pc2 := 60) dX2_keep_59 rfl rfl ?_
    refine x_iconst (pc2 := 61) dX2_keep_60 rfl ?_
    refine x_iadd (pc2 := 62) dX2_keep_61 rfl ?_
    refine x_aload_n (pc2 := 63) dX2_keep_62 rfl rfl ?_
    refine x_getf (pc2 := 66) (v := aI ((wr m 58 ((m 57 8) * 6) (m 57 0)) 57 1)) fl_X2_34 ic_57 (fv_i _ ic_57 rfl) dX2_keep_63 rfl ?_
    obtain ⟨h5, k⟩ := k
    obtain ⟨h6, k⟩ := k
    refine x_iast (pc2 := 67) ic_58 h5 (by rw [al_58]; exact h6) dX2_keep_66 rfl ?_
    refine x_aload_n (pc2 := 68) dX2_keep_67 rfl rfl ?_
    refine x_getf (pc2 := 71) (v := aR 58) fl_X2_15 ic_57 (vr_57_7 _) dX2_keep_68 rfl ?_
    refine x_iload_n (pc2 := 72) dX2_keep_71 rfl rfl ?_
    refine x_iconst (pc2 := 73) dX2_keep_72 rfl ?_
    refine x_iadd (pc2 := 74) dX2_keep_73 rfl ?_
    refine x_aload_n (pc2 := 75) dX2_keep_74 rfl rfl ?_
    refine x_getf (pc2 := 78) (v := aI ((wr (wr m 58 ((m 57 8) * 6) (m 57 0)) 58 (((m 57 8) * 6) + 1) ((wr m 58 ((m 57 8) * 6) (m 57 0)) 57 1)) 57 2)) fl_X2_37 ic_57 (fv_i _ ic_57 rfl) dX2_keep_75 rfl ?_
    obtain ⟨h7, k⟩ := k
    obtain ⟨h8, k⟩ := k
    refine x_iast (pc2 := 79) ic_58 h7 (by rw [al_58]; exact h8) dX2_keep_78 rfl ?_
    refine x_aload_n (pc2 := 80) dX2_keep_79 rfl rfl ?_
    refine x_getf (pc2 := 83) (v := aR 58) fl_X2_15 ic_57 (vr_57_7 _) dX2_keep_80 rfl ?_
    refine x_iload_n (pc2 := 84) dX2_keep_83 rfl rfl ?_
    refine x_iconst (pc2 := 85) dX2_keep_84 rfl ?_
    refine x_iadd (pc2 := 86) dX2_keep_85 rfl ?_
    refine x_aload_n (pc2 := 87) dX2_keep_86 rfl rfl ?_
    refine x_getf (pc2 := 90) (v := aI ((wr (wr (wr m 58 ((m 57 8) * 6) (m 57 0)) 58 (((m 57 8) * 6) + 1) ((wr m 58 ((m 57 8) * 6) (m 57 0)) 57 1)) 58 (((m 57 8) * 6) + 2) ((wr (wr m 58 ((m 57 8) * 6) (m 57 0)) 58 (((m 57 8) * 6) + 1) ((wr m 58 ((m 57 8) * 6) (m 57 0)) 57 1)) 57 2)) 57 3)) fl_X2_40 ic_57 (fv_i _ ic_57 rfl) dX2_keep_87 rfl ?_
    obtain ⟨h9, k⟩ := k
    obtain ⟨h10, k⟩ := k
    refine x_iast (pc2 := 91) ic_58 h9 (by rw [al_58]; exact h10) dX2_keep_90 rfl ?_
    refine x_aload_n (pc2 := 92) dX2_keep_91 rfl rfl ?_
    refine x_getf (pc2 := 95) (v := aR 58) fl_X2_15 ic_57 (vr_57_7 _) dX2_keep_92 rfl ?_
    refine x_iload_n (pc2 := 96) dX2_keep_95 rfl rfl ?_
    refine x_iconst (pc2 := 97) dX2_keep_96 rfl ?_
    refine x_iadd (pc2 := 98) dX2_keep_97 rfl ?_
    refine x_aload_n (pc2 := 99) dX2_keep_98 rfl rfl ?_
    refine x_getf (pc2 := 102) (v := aI ((wr (wr (wr (wr m 58 ((m 57 8) * 6) (m 57 0)) 58 (((m 57 8) * 6) + 1) ((wr m 58 ((m 57 8) * 6) (m 57 0)) 57 1)) 58 (((m 57 8) * 6) + 2) ((wr (wr m 58 ((m 57 8) * 6) (m 57 0)) 58 (((m 57 8) * 6) + 1) ((wr m 58 ((m 57 8) * 6) (m 57 0)) 57 1)) 57 2)) 58 (((m 57 8) * 6) + 3) ((wr (wr (wr m 58 ((m 57 8) * 6) (m 57 0)) 58 (((m 57 8) * 6) + 1) ((wr m 58 ((m 57 8) * 6) (m 57 0)) 57 1)) 58 (((m 57 8) * 6) + 2) ((wr (wr m 58 ((m 57 8) * 6) (m 57 0)) 58 (((m 57 8) * 6) + 1) ((wr m 58 ((m 57 8) * 6) (m 57 0)) 57 1)) 57 2)) 57 3)) 57 4)) fl_X2_43 ic_57 (fv_i _ ic_57 rfl) dX2_keep_99 rfl ?_
    obtain ⟨h11, k⟩ := k
    obtain ⟨h12, k⟩ := k
    refine x_iast (pc2 := 103) ic_58 h11 (by rw [al_58]; exact h12) dX2_keep_102 rfl ?_
    refine x_aload_n (pc2 := 104) dX2_keep_103 rfl rfl ?_
    refine x_getf (pc2 := 107) (v := aR 58) fl_X2_15 ic_57 (vr_57_7 _) dX2_keep_104 rfl ?_
    refine x_iload_n (pc2 := 108) dX2_keep_107 rfl rfl ?_
    refine x_iconst (pc2 := 109) dX2_keep_108 rfl ?_
    refine x_iadd (pc2 := 110) dX2_keep_109 rfl ?_
    refine x_aload_n (pc2 := 111) dX2_keep_110 rfl rfl ?_
    refine x_getf (pc2 := 114) (v := aI ((wr (wr (wr (wr (wr m 58 ((m 57 8) * 6) (m 57 0)) 58 (((m 57 8) * 6) + 1) ((wr m 58 ((m 57 8) * 6) (m 57 0)) 57 1)) 58 (((m 57 8) * 6) + 2) ((wr (wr m 58 ((m 57 8) * 6) (m 57 0)) 58 (((m 57 8) * 6) + 1) ((wr m 58 ((m 57 8) * 6) (m 57 0)) 57 1)) 57 2)) 58 (((m 57 8) * 6) + 3) ((wr (wr (wr m 58 ((m 57 8) * 6) (m 57 0)) 58 (((m 57 8) * 6) + 1) ((wr m 58 ((m 57 8) * 6) (m 57 0)) 57 1)) 58 (((m 57 8) * 6) + 2) ((wr (wr m 58 ((m 57 8) * 6) (m 57 0)) 58 (((m 57 8) * 6) + 1) ((wr m 58 ((m 57 8) * 6) (m 57 0)) 57 1)) 57 2)) 57 3)) 58 (((m 57 8) * 6) + 4) ((wr (wr (wr (wr m 58 ((m 57 8) * 6) (m 57 0)) 58 (((m 57 8) * 6) + 1) ((wr m 58 ((m 57 8) * 6) (m 57 0)) 57 1)) 58 (((m 57 8) * 6) + 2) ((wr (wr m 58 ((m 57 8) * 6) (m 57 0)) 58 (((m 57 8) * 6) + 1) ((wr m 58 ((m 57 8) * 6) (m 57 0)) 57 1)) 57 2)) 58 (((m 57 8) * 6) + 3) ((wr (wr (wr m 58 ((m 57 8) * 6) (m 57 0)) 58 (((m 57 8) * 6) + 1) ((wr m 58 ((m 57 8) * 6) (m 57 0)) 57 1)) 58 (((m 57 8) * 6) + 2) ((wr (wr m 58 ((m 57 8) * 6) (m 57 0)) 58 (((m 57 8) * 6) + 1) ((wr m 58 ((m 57 8) * 6) (m 57 0)) 57 1)) 57 2)) 57 3)) 57 4)) 57 5)) fl_X2_46 ic_57 (fv_i _ ic_57 rfl) dX2_keep_111 rfl ?_
    obtain ⟨h13, k⟩ := k
    obtain ⟨h14, k⟩ := k
    refine x_iast (pc2 := 115) ic_58 h13 (by rw [al_58]; exact h14) dX2_keep_114 rfl ?_
    refine x_aload_n (pc2 := 116) dX2_keep_115 rfl rfl ?_
    refine x_dup_r (pc2 := 117) dX2_keep_116 rfl (by decide) ?_
    refine x_getf (pc2 := 120) (v := aI ((wr (wr (wr (wr (wr (wr m 58 ((m 57 8) * 6) (m 57 0)) 58 (((m 57 8) * 6) + 1) ((wr m 58 ((m 57 8) * 6) (m 57 0)) 57 1)) 58 (((m 57 8) * 6) + 2) ((wr (wr m 58 ((m 57 8) * 6) (m 57 0)) 58 (((m 57 8) * 6) + 1) ((wr m 58 ((m 57 8) * 6) (m 57 0)) 57 1)) 57 2)) 58 (((m 57 8) * 6) + 3) ((wr (wr (wr m 58 ((m 57 8) * 6) (m 57 0)) 58 (((m 57 8) * 6) + 1) ((wr m 58 ((m 57 8) * 6) (m 57 0)) 57 1)) 58 (((m 57 8) * 6) + 2) ((wr (wr m 58 ((m 57 8) * 6) (m 57 0)) 58 (((m 57 8) * 6) + 1) ((wr m 58 ((m 57 8) * 6) (m 57 0)) 57 1)) 57 2)) 57 3)) 58 (((m 57 8) * 6) + 4) ((wr (wr (wr (wr m 58 ((m 57 8) * 6) (m 57 0)) 58 (((m 57 8) * 6) + 1) ((wr m 58 ((m 57 8) * 6) (m 57 0)) 57 1)) 58 (((m 57 8) * 6) + 2) ((wr (wr m 58 ((m 57 8) * 6) (m 57 0)) 58 (((m 57 8) * 6) + 1) ((wr m 58 ((m 57 8) * 6) (m 57 0)) 57 1)) 57 2)) 58 (((m 57 8) * 6) + 3) ((wr (wr (wr m 58 ((m 57 8) * 6) (m 57 0)) 58 (((m 57 8) * 6) + 1) ((wr m 58 ((m 57 8) * 6) (m 57 0)) 57 1)) 58 (((m 57 8) * 6) + 2) ((wr (wr m 58 ((m 57 8) * 6) (m 57 0)) 58 (((m 57 8) * 6) + 1) ((wr m 58 ((m 57 8) * 6) (m 57 0)) 57 1)) 57 2)) 57 3)) 57 4)) 58 (((m 57 8) * 6) + 5) ((wr (wr (wr (wr (wr m 58 ((m 57 8) * 6) (m 57 0)) 58 (((m 57 8) * 6) + 1) ((wr m 58 ((m 57 8) * 6) (m 57 0)) 57 1)) 58 (((m 57 8) * 6) + 2) ((wr (wr m 58 ((m 57 8) * 6) (m 57 0)) 58 (((m 57 8) * 6) + 1) ((wr m 58 ((m 57 8) * 6) (m 57 0)) 57 1)) 57 2)) 58 (((m 57 8) * 6) + 3) ((wr (wr (wr m 58 ((m 57 8) * 6) (m 57 0)) 58 (((m 57 8) * 6) + 1) ((wr m 58 ((m 57 8) * 6) (m 57 0)) 57 1)) 58 (((m 57 8) * 6) + 2) ((wr (wr m 58 ((m 57 8) * 6) (m 57 0)) 58 (((m 57 8) * 6) + 1) ((wr m 58 ((m 57 8) * 6) (m 57 0)) 57 1)) 57 2)) 57 3)) 58 (((m 57 8) * 6) + 4) ((wr (wr (wr (wr m 58 ((m 57 8) * 6) (m 57 0)) 58 (((m 57 8) * 6) + 1) ((wr m 58 ((m 57 8) * 6) (m 57 0)) 57 1)) 58 (((m 57 8) * 6) + 2) ((wr (wr m 58 ((m 57 8) * 6) (m 57 0)) 58 (((m 57 8) * 6) + 1) ((wr m 58 ((m 57 8) * 6) (m 57 0)) 57 1)) 57 2)) 58 (((m 57 8) * 6) + 3) ((wr (wr (wr m 58 ((m 57 8) * 6) (m 57 0)) 58 (((m 57 8) * 6) + 1) ((wr m 58 ((m 57 8) * 6) (m 57 0)) 57 1)) 58 (((m 57 8) * 6) + 2) ((wr (wr m 58 ((m 57 8) * 6) (m 57 0)) 58 (((m 57 8) * 6) + 1) ((wr m 58 ((m 57 8) * 6) (m 57 0)) 57 1)) 57 2)) 57 3)) 57 4)) 57 5)) 57 8)) fl_X2_28 ic_57 (fv_i _ ic_57 rfl) dX2_keep_117 rfl ?_
    refine x_iconst (pc2 := 121) dX2_keep_120 rfl ?_
    refine x_iadd (pc2 := 122) dX2_keep_121 rfl ?_
    refine x_putf (pc2 := 125) (x := (((wr (wr (wr (wr (wr (wr m 58 ((m 57 8) * 6) (m 57 0)) 58 (((m 57 8) * 6) + 1) ((wr m 58 ((m 57 8) * 6) (m 57 0)) 57 1)) 58 (((m 57 8) * 6) + 2) ((wr (wr m 58 ((m 57 8) * 6) (m 57 0)) 58 (((m 57 8) * 6) + 1) ((wr m 58 ((m 57 8) * 6) (m 57 0)) 57 1)) 57 2)) 58 (((m 57 8) * 6) + 3) ((wr (wr (wr m 58 ((m 57 8) * 6) (m 57 0)) 58 (((m 57 8) * 6) + 1) ((wr m 58 ((m 57 8) * 6) (m 57 0)) 57 1)) 58 (((m 57 8) * 6) + 2) ((wr (wr m 58 ((m 57 8) * 6) (m 57 0)) 58 (((m 57 8) * 6) + 1) ((wr m 58 ((m 57 8) * 6) (m 57 0)) 57 1)) 57 2)) 57 3)) 58 (((m 57 8) * 6) + 4) ((wr (wr (wr (wr m 58 ((m 57 8) * 6) (m 57 0)) 58 (((m 57 8) * 6) + 1) ((wr m 58 ((m 57 8) * 6) (m 57 0)) 57 1)) 58 (((m 57 8) * 6) + 2) ((wr (wr m 58 ((m 57 8) * 6) (m 57 0)) 58 (((m 57 8) * 6) + 1) ((wr m 58 ((m 57 8) * 6) (m 57 0)) 57 1)) 57 2)) 58 (((m 57 8) * 6) + 3) ((wr (wr (wr m 58 ((m 57 8) * 6) (m 57 0)) 58 (((m 57 8) * 6) + 1) ((wr m 58 ((m 57 8) * 6) (m 57 0)) 57 1)) 58 (((m 57 8) * 6) + 2) ((wr (wr m 58 ((m 57 8) * 6) (m 57 0)) 58 (((m 57 8) * 6) + 1) ((wr m 58 ((m 57 8) * 6) (m 57 0)) 57 1)) 57 2)) 57 3)) 57 4)) 58 (((m 57 8) * 6) + 5) ((wr (wr (wr (wr (wr m 58 ((m 57 8) * 6) (m 57 0)) 58 (((m 57 8) * 6) + 1) ((wr m 58 ((m 57 8) * 6) (m 57 0)) 57 1)) 58 (((m 57 8) * 6) + 2) ((wr (wr m 58 ((m 57 8) * 6) (m 57 0)) 58 (((m 57 8) * 6) + 1) ((wr m 58 ((m 57 8) * 6) (m 57 0)) 57 1)) 57 2)) 58 (((m 57 8) * 6) + 3) ((wr (wr (wr m 58 ((m 57 8) * 6) (m 57 0)) 58 (((m 57 8) * 6) + 1) ((wr m 58 ((m 57 8) * 6) (m 57 0)) 57 1)) 58 (((m 57 8) * 6) + 2) ((wr (wr m 58 ((m 57 8) * 6) (m 57 0)) 58 (((m 57 8) * 6) + 1) ((wr m 58 ((m 57 8) * 6) (m 57 0)) 57 1)) 57 2)) 57 3)) 58 (((m 57 8) * 6) + 4) ((wr (wr (wr (wr m 58 ((m 57 8) * 6) (m 57 0)) 58 (((m 57 8) * 6) + 1) ((wr m 58 ((m 57 8) * 6) (m 57 0)) 57 1)) 58 (((m 57 8) * 6) + 2) ((wr (wr m 58 ((m 57 8) * 6) (m 57 0)) 58 (((m 57 8) * 6) + 1) ((wr m 58 ((m 57 8) * 6) (m 57 0)) 57 1)) 57 2)) 58 (((m 57 8) * 6) + 3) ((wr (wr (wr m 58 ((m 57 8) * 6) (m 57 0)) 58 (((m 57 8) * 6) + 1) ((wr m 58 ((m 57 8) * 6) (m 57 0)) 57 1)) 58 (((m 57 8) * 6) + 2) ((wr (wr m 58 ((m 57 8) * 6) (m 57 0)) 58 (((m 57 8) * 6) + 1) ((wr m 58 ((m 57 8) * 6) (m 57 0)) 57 1)) 57 2)) 57 3)) 57 4)) 57 5)) 57 8) + 1)) fl_X2_28 ft_2_8 ic_57 (pv_i _ ic_57 rfl) (pn_i _) dX2_keep_122 rfl ?_
    exact x_return dX2_keep_125 rfl k
  · replace k := k2 c2
    refine x_aload_n (pc2 := 10) dX2_keep_9 rfl rfl ?_
    refine x_getf (pc2 := 13) (v := aR 58) fl_X2_15 ic_57 (vr_57_7 _) dX2_keep_10 rfl ?_
    refine x_bipush (pc2 := 15) dX2_keep_13 rfl rfl ?_
    refine x_aload_n (pc2 := 16) dX2_keep_15 rfl rfl ?_
    refine x_getf (pc2 := 19) (v := aR 58) fl_X2_15 ic_57 (vr_57_7 _) dX2_keep_16 rfl ?_
    refine x_iconst (pc2 := 20) dX2_keep_19 rfl ?_
    refine x_aload_n (pc2 := 21) dX2_keep_20 rfl rfl ?_
    refine x_getf (pc2 := 24) (v := aR 58) fl_X2_15 ic_57 (vr_57_7 _) dX2_keep_21 rfl ?_
    refine x_alenK (pc2 := 25) (n := 120) (Or.inl ic_58) al_58 dX2_keep_24 rfl ?_
    refine x_bipush (pc2 := 27) dX2_keep_25 rfl rfl ?_
    refine x_isub (pc2 := 28) dX2_keep_27 rfl ?_
    obtain ⟨h15, k⟩ := k
    refine x_acopy (pc2 := 31) ac_X2_78 acw ic_58 ic_58 (by decide) (by decide) (by decide) (by rw [al_58]; exact (by decide)) (by rw [al_58]; exact (by decide)) h15 (Nat.le_of_ble_eq_true rfl) dX2_keep_28 rfl ?_
    refine x_aload_n (pc2 := 32) dX2_keep_31 rfl rfl ?_
    refine x_bipush (pc2 := 34) dX2_keep_32 rfl rfl ?_
    refine x_putf (pc2 := 37) (x := 19) fl_X2_28 ft_2_8 ic_57 (pv_i _ ic_57 rfl) (pn_i _) dX2_keep_34 rfl ?_
    refine x_aload_n (pc2 := 38) dX2_keep_37 rfl rfl ?_
    refine x_getf (pc2 := 41) (v := aI ((wr (acp m (m 58) 6 58 0 114) 57 8 19) 57 8)) fl_X2_28 ic_57 (fv_i _ ic_57 rfl) dX2_keep_38 rfl ?_
    refine x_bipush (pc2 := 43) dX2_keep_41 rfl rfl ?_
    refine x_imul (pc2 := 44) dX2_keep_43 rfl ?_
    refine x_istore_n (pc2 := 45) (ls2 := [aR 57, aI (((wr (acp m (m 58) 6 58 0 114) 57 8 19) 57 8) * 6)]) dX2_keep_44 rfl (by decide) rfl ?_
    refine x_aload_n (pc2 := 46) dX2_keep_45 rfl rfl ?_
    refine x_getf (pc2 := 49) (v := aR 58) fl_X2_15 ic_57 (vr_57_7 _) dX2_keep_46 rfl ?_
    refine x_iload_n (pc2 := 50) dX2_keep_49 rfl rfl ?_
    refine x_aload_n (pc2 := 51) dX2_keep_50 rfl rfl ?_
    refine x_getf (pc2 := 54) (v := aI ((wr (acp m (m 58) 6 58 0 114) 57 8 19) 57 0)) fl_X2_31 ic_57 (fv_i _ ic_57 rfl) dX2_keep_51 rfl ?_
    obtain ⟨h16, k⟩ := k
    obtain ⟨h17, k⟩ := k
    refine x_iast (pc2 := 55) ic_58 h16 (by rw [al_58]; exact h17) dX2_keep_54 rfl ?_
    refine x_aload_n (pc2 := 56) dX2_keep_55 rfl rfl ?_
    refine x_getf (pc2 := 59) (v := aR 58) fl_X2_15 ic_57 (vr_57_7 _) dX2_keep_56 rfl ?_
    refine x_iload_n (pc2 := 60) dX2_keep_59 rfl rfl ?_
    refine x_iconst (pc2 := 61) dX2_keep_60 rfl ?_
    refine x_iadd (pc2 := 62) dX2_keep_61 rfl ?_
    refine x_aload_n (pc2 := 63) dX2_keep_62 rfl rfl ?_
    refine x_getf (pc2 := 66) (v := aI ((wr (wr (acp m (m 58) 6 58 0 114) 57 8 19) 58 (((wr (acp m (m 58) 6 58 0 114) 57 8 19) 57 8) * 6) ((wr (acp m (m 58) 6 58 0 114) 57 8 19) 57 0)) 57 1)) fl_X2_34 ic_57 (fv_i _ ic_57 rfl) dX2_keep_63 rfl ?_
    obtain ⟨h18, k⟩ := k
    obtain ⟨h19, k⟩ := k
    refine x_iast (pc2 := 67) ic_58 h18 (by rw [al_58]; exact h19) dX2_keep_66 rfl ?_
    refine x_aload_n (pc2 := 68) dX2_keep_67 rfl rfl ?_
    refine x_getf (pc2 := 71) (v := aR 58) fl_X2_15 ic_57 (vr_57_7 _) dX2_keep_68 rfl ?_
    refine x_iload_n (pc2 := 72) dX2_keep_71 rfl rfl ?_
    refine x_iconst (pc2 := 73) dX2_keep_72 rfl ?_
    refine x_iadd (pc2 := 74) dX2_keep_73 rfl ?_
    refine x_aload_n (pc2 := 75) dX2_keep_74 rfl rfl ?_
    refine x_getf (pc2 := 78) (v := aI ((wr (wr (wr (acp m (m 58) 6 58 0 114) 57 8 19) 58 (((wr (acp m (m 58) 6 58 0 114) 57 8 19) 57 8) * 6) ((wr (acp m (m 58) 6 58 0 114) 57 8 19) 57 0)) 58 ((((wr (acp m (m 58) 6 58 0 114) 57 8 19) 57 8) * 6) + 1) ((wr (wr (acp m (m 58) 6 58 0 114) 57 8 19) 58 (((wr (acp m (m 58) 6 58 0 114) 57 8 19) 57 8) * 6) ((wr (acp m (m 58) 6 58 0 114) 57 8 19) 57 0)) 57 1)) 57 2)) fl_X2_37 ic_57 (fv_i _ ic_57 rfl) dX2_keep_75 rfl ?_
    obtain ⟨h20, k⟩ := k
    obtain ⟨h21, k⟩ := k
    refine x_iast (pc2 := 79) ic_58 h20 (by rw [al_58]; exact h21) dX2_keep_78 rfl ?_
    refine x_aload_n (pc2 := 80) dX2_keep_79 rfl rfl ?_
    refine x_getf (pc2 := 83) (v := aR 58) fl_X2_15 ic_57 (vr_57_7 _) dX2_keep_80 rfl ?_
    refine x_iload_n (pc2 := 84) dX2_keep_83 rfl rfl ?_
    refine x_iconst (pc2 := 85) dX2_keep_84 rfl ?_
    refine x_iadd (pc2 := 86) dX2_keep_85 rfl ?_
    refine x_aload_n (pc2 := 87) dX2_keep_86 rfl rfl ?_
    refine x_getf (pc2 := 90) (v := aI ((wr (wr (wr (wr (acp m (m 58) 6 58 0 114) 57 8 19) 58 (((wr (acp m (m 58) 6 58 0 114) 57 8 19) 57 8) * 6) ((wr (acp m (m 58) 6 58 0 114) 57 8 19) 57 0)) 58 ((((wr (acp m (m 58) 6 58 0 114) 57 8 19) 57 8) * 6) + 1) ((wr (wr (acp m (m 58) 6 58 0 114) 57 8 19) 58 (((wr (acp m (m 58) 6 58 0 114) 57 8 19) 57 8) * 6) ((wr (acp m (m 58) 6 58 0 114) 57 8 19) 57 0)) 57 1)) 58 ((((wr (acp m (m 58) 6 58 0 114) 57 8 19) 57 8) * 6) + 2) ((wr (wr (wr (acp m (m 58) 6 58 0 114) 57 8 19) 58 (((wr (acp m (m 58) 6 58 0 114) 57 8 19) 57 8) * 6) ((wr (acp m (m 58) 6 58 0 114) 57 8 19) 57 0)) 58 ((((wr (acp m (m 58) 6 58 0 114) 57 8 19) 57 8) * 6) + 1) ((wr (wr (acp m (m 58) 6 58 0 114) 57 8 19) 58 (((wr (acp m (m 58) 6 58 0 114) 57 8 19) 57 8) * 6) ((wr (acp m (m 58) 6 58 0 114) 57 8 19) 57 0)) 57 1)) 57 2)) 57 3)) fl_X2_40 ic_57 (fv_i _ ic_57 rfl) dX2_keep_87 rfl ?_
    obtain ⟨h22, k⟩ := k
    obtain ⟨h23, k⟩ := k
    refine x_iast (pc2 := 91) ic_58 h22 (by rw [al_58]; exact h23) dX2_keep_90 rfl ?_
    refine x_aload_n (pc2 := 92) dX2_keep_91 rfl rfl ?_
    refine x_getf (pc2 := 95) (v := aR 58) fl_X2_15 ic_57 (vr_57_7 _) dX2_keep_92 rfl ?_
    refine x_iload_n (pc2 := 96) dX2_keep_95 rfl rfl ?_
    refine x_iconst (pc2 := 97) dX2_keep_96 rfl ?_
    refine x_iadd (pc2 := 98) dX2_keep_97 rfl ?_
    refine x_aload_n (pc2 := 99) dX2_keep_98 rfl rfl ?_
    refine x_getf (pc2 := 102) (v := aI ((wr (wr (wr (wr (wr (acp m (m 58) 6 58 0 114) 57 8 19) 58 (((wr (acp m (m 58) 6 58 0 114) 57 8 19) 57 8) * 6) ((wr (acp m (m 58) 6 58 0 114) 57 8 19) 57 0)) 58 ((((wr (acp m (m 58) 6 58 0 114) 57 8 19) 57 8) * 6) + 1) ((wr (wr (acp m (m 58) 6 58 0 114) 57 8 19) 58 (((wr (acp m (m 58) 6 58 0 114) 57 8 19) 57 8) * 6) ((wr (acp m (m 58) 6 58 0 114) 57 8 19) 57 0)) 57 1)) 58 ((((wr (acp m (m 58) 6 58 0 114) 57 8 19) 57 8) * 6) + 2) ((wr (wr (wr (acp m (m 58) 6 58 0 114) 57 8 19) 58 (((wr (acp m (m 58) 6 58 0 114) 57 8 19) 57 8) * 6) ((wr (acp m (m 58) 6 58 0 114) 57 8 19) 57 0)) 58 ((((wr (acp m (m 58) 6 58 0 114) 57 8 19) 57 8) * 6) + 1) ((wr (wr (acp m (m 58) 6 58 0 114) 57 8 19) 58 (((wr (acp m (m 58) 6 58 0 114) 57 8 19) 57 8) * 6) ((wr (acp m (m 58) 6 58 0 114) 57 8 19) 57 0)) 57 1)) 57 2)) 58 ((((wr (acp m (m 58) 6 58 0 114) 57 8 19) 57 8) * 6) + 3) ((wr (wr (wr (wr (acp m (m 58) 6 58 0 114) 57 8 19) 58 (((wr (acp m (m 58) 6 58 0 114) 57 8 19) 57 8) * 6) ((wr (acp m (m 58) 6 58 0 114) 57 8 19) 57 0)) 58 ((((wr (acp m (m 58) 6 58 0 114) 57 8 19) 57 8) * 6) + 1) ((wr (wr (acp m (m 58) 6 58 0 114) 57 8 19) 58 (((wr (acp m (m 58) 6 58 0 114) 57 8 19) 57 8) * 6) ((wr (acp m (m 58) 6 58 0 114) 57 8 19) 57 0)) 57 1)) 58 ((((wr (acp m (m 58) 6 58 0 114) 57 8 19) 57 8) * 6) + 2) ((wr (wr (wr (acp m (m 58) 6 58 0 114) 57 8 19) 58 (((wr (acp m (m 58) 6 58 0 114) 57 8 19) 57 8) * 6) ((wr (acp m (m 58) 6 58 0 114) 57 8 19) 57 0)) 58 ((((wr (acp m (m 58) 6 58 0 114) 57 8 19) 57 8) * 6) + 1) ((wr (wr (acp m (m 58) 6 58 0 114) 57 8 19) 58 (((wr (acp m (m 58) 6 58 0 114) 57 8 19) 57 8) * 6) ((wr (acp m (m 58) 6 58 0 114) 57 8 19) 57 0)) 57 1)) 57 2)) 57 3)) 57 4)) fl_X2_43 ic_57 (fv_i _ ic_57 rfl) dX2_keep_99 rfl ?_
    obtain ⟨h24, k⟩ := k
    obtain ⟨h25, k⟩ := k
    refine x_iast (pc2 := 103) ic_58 h24 (by rw [al_58]; exact h25) dX2_keep_102 rfl ?_
    refine x_aload_n (pc2 := 104) dX2_keep_103 rfl rfl ?_
    refine x_getf (pc2 := 107) (v := aR 58) fl_X2_15 ic_57 (vr_57_7 _) dX2_keep_104 rfl ?_
    refine x_iload_n (pc2 := 108) dX2_keep_107 rfl rfl ?_
    refine x_iconst (pc2 := 109) dX2_keep_108 rfl ?_
    refine x_iadd (pc2 := 110) dX2_keep_109 rfl ?_
    refine x_aload_n (pc2 := 111) dX2_keep_110 rfl rfl ?_
    refine x_getf (pc2 := 114) (v := aI ((wr (wr (wr (wr (wr (wr (acp m (m 58) 6 58 0 114) 57 8 19) 58 (((wr (acp m (m 58) 6 58 0 114) 57 8 19) 57 8) * 6) ((wr (acp m (m 58) 6 58 0 114) 57 8 19) 57 0)) 58 ((((wr (acp m (m 58) 6 58 0 114) 57 8 19) 57 8) * 6) + 1) ((wr (wr (acp m (m 58) 6 58 0 114) 57 8 19) 58 (((wr (acp m (m 58) 6 58 0 114) 57 8 19) 57 8) * 6) ((wr (acp m (m 58) 6 58 0 114) 57 8 19) 57 0)) 57 1)) 58 ((((wr (acp m (m 58) 6 58 0 114) 57 8 19) 57 8) * 6) + 2) ((wr (wr (wr (acp m (m 58) 6 58 0 114) 57 8 19) 58 (((wr (acp m (m 58) 6 58 0 114) 57 8 19) 57 8) * 6) ((wr (acp m (m 58) 6 58 0 114) 57 8 19) 57 0)) 58 ((((wr (acp m (m 58) 6 58 0 114) 57 8 19) 57 8) * 6) + 1) ((wr (wr (acp m (m 58) 6 58 0 114) 57 8 19) 58 (((wr (acp m (m 58) 6 58 0 114) 57 8 19) 57 8) * 6) ((wr (acp m (m 58) 6 58 0 114) 57 8 19) 57 0)) 57 1)) 57 2)) 58 ((((wr (acp m (m 58) 6 58 0 114) 57 8 19) 57 8) * 6) + 3) ((wr (wr (wr (wr (acp m (m 58) 6 58 0 114) 57 8 19) 58 (((wr (acp m (m 58) 6 58 0 114) 57 8 19) 57 8) * 6) ((wr (acp m (m 58) 6 58 0 114) 57 8 19) 57 0)) 58 ((((wr (acp m (m 58) 6 58 0 114) 57 8 19) 57 8) * 6) + 1) ((wr (wr (acp m (m 58) 6 58 0 114) 57 8 19) 58 (((wr (acp m (m 58) 6 58 0 114) 57 8 19) 57 8) * 6) ((wr (acp m (m 58) 6 58 0 114) 57 8 19) 57 0)) 57 1)) 58 ((((wr (acp m (m 58) 6 58 0 114) 57 8 19) 57 8) * 6) + 2) ((wr (wr (wr (acp m (m 58) 6 58 0 114) 57 8 19) 58 (((wr (acp m (m 58) 6 58 0 114) 57 8 19) 57 8) * 6) ((wr (acp m (m 58) 6 58 0 114) 57 8 19) 57 0)) 58 ((((wr (acp m (m 58) 6 58 0 114) 57 8 19) 57 8) * 6) + 1) ((wr (wr (acp m (m 58) 6 58 0 114) 57 8 19) 58 (((wr (acp m (m 58) 6 58 0 114) 57 8 19) 57 8) * 6) ((wr (acp m (m 58) 6 58 0 114) 57 8 19) 57 0)) 57 1)) 57 2)) 57 3)) 58 ((((wr (acp m (m 58) 6 58 0 114) 57 8 19) 57 8) * 6) + 4) ((wr (wr (wr (wr (wr (acp m (m 58) 6 58 0 114) 57 8 19) 58 (((wr (acp m (m 58) 6 58 0 114) 57 8 19) 57 8) * 6) ((wr (acp m (m 58) 6 58 0 114) 57 8 19) 57 0)) 58 ((((wr (acp m (m 58) 6 58 0 114) 57 8 19) 57 8) * 6) + 1) ((wr (wr (acp m (m 58) 6 58 0 114) 57 8 19) 58 (((wr (acp m (m 58) 6 58 0 114) 57 8 19) 57 8) * 6) ((wr (acp m (m 58) 6 58 0 114) 57 8 19) 57 0)) 57 1)) 58 ((((wr (acp m (m 58) 6 58 0 114) 57 8 19) 57 8) * 6) + 2) ((wr (wr (wr (acp m (m 58) 6 58 0 114) 57 8 19) 58 (((wr (acp m (m 58) 6 58 0 114) 57 8 19) 57 8) * 6) ((wr (acp m (m 58) 6 58 0 114) 57 8 19) 57 0)) 58 ((((wr (acp m (m 58) 6 58 0 114) 57 8 19) 57 8) * 6) + 1) ((wr (wr (acp m (m 58) 6 58 0 114) 57 8 19) 58 (((wr (acp m (m 58) 6 58 0 114) 57 8 19) 57 8) * 6) ((wr (acp m (m 58) 6 58 0 114) 57 8 19) 57 0)) 57 1)) 57 2)) 58 ((((wr (acp m (m 58) 6 58 0 114) 57 8 19) 57 8) * 6) + 3) ((wr (wr (wr (wr (acp m (m 58) 6 58 0 114) 57 8 19) 58 (((wr (acp m (m 58) 6 58 0 114) 57 8 19) 57 8) * 6) ((wr (acp m (m 58) 6 58 0 114) 57 8 19) 57 0)) 58 ((((wr (acp m (m 58) 6 58 0 114) 57 8 19) 57 8) * 6) + 1) ((wr (wr (acp m (m 58) 6 58 0 114) 57 8 19) 58 (((wr (acp m (m 58) 6 58 0 114) 57 8 19) 57 8) * 6) ((wr (acp m (m 58) 6 58 0 114) 57 8 19) 57 0)) 57 1)) 58 ((((wr (acp m (m 58) 6 58 0 114) 57 8 19) 57 8) * 6) + 2) ((wr (wr (wr (acp m (m 58) 6 58 0 114) 57 8 19) 58 (((wr (acp m (m 58) 6 58 0 114) 57 8 19) 57 8) * 6) ((wr (acp m (m 58) 6 58 0 114) 57 8 19) 57 0)) 58 ((((wr (acp m (m 58) 6 58 0 114) 57 8 19) 57 8) * 6) + 1) ((wr (wr (acp m (m 58) 6 58 0 114) 57 8 19) 58 (((wr (acp m (m 58) 6 58 0 114) 57 8 19) 57 8) * 6) ((wr (acp m (m 58) 6 58 0 114) 57 8 19) 57 0)) 57 1)) 57 2)) 57 3)) 57 4)) 57 5)) fl_X2_46 ic_57 (fv_i _ ic_57 rfl) dX2_keep_111 rfl ?_
    obtain ⟨h26, k⟩ := k
    obtain ⟨h27, k⟩ := k
    refine x_iast (pc2 := 115) ic_58 h26 (by rw [al_58]; exact h27) dX2_keep_114 rfl ?_
    refine x_aload_n (pc2 := 116) dX2_keep_115 rfl rfl ?_
    refine x_dup_r (pc2 := 117) dX2_keep_116 rfl (by decide) ?_
    refine x_getf (pc2 := 120) (v := aI ((wr (wr (wr (wr (wr (wr (wr (acp m (m 58) 6 58 0 114) 57 8 19) 58 (((wr (acp m (m 58) 6 58 0 114) 57 8 19) 57 8) * 6) ((wr (acp m (m 58) 6 58 0 114) 57 8 19) 57 0)) 58 ((((wr (acp m (m 58) 6 58 0 114) 57 8 19) 57 8) * 6) + 1) ((wr (wr (acp m (m 58) 6 58 0 114) 57 8 19) 58 (((wr (acp m (m 58) 6 58 0 114) 57 8 19) 57 8) * 6) ((wr (acp m (m 58) 6 58 0 114) 57 8 19) 57 0)) 57 1)) 58 ((((wr (acp m (m 58) 6 58 0 114) 57 8 19) 57 8) * 6) + 2) ((wr (wr (wr (acp m (m 58) 6 58 0 114) 57 8 19) 58 (((wr (acp m (m 58) 6 58 0 114) 57 8 19) 57 8) * 6) ((wr (acp m (m 58) 6 58 0 114) 57 8 19) 57 0)) 58 ((((wr (acp m (m 58) 6 58 0 114) 57 8 19) 57 8) * 6) + 1) ((wr (wr (acp m (m 58) 6 58 0 114) 57 8 19) 58 (((wr (acp m (m 58) 6 58 0 114) 57 8 19) 57 8) * 6) ((wr (acp m (m 58) 6 58 0 114) 57 8 19) 57 0)) 57 1)) 57 2)) 58 ((((wr (acp m (m 58) 6 58 0 114) 57 8 19) 57 8) * 6) + 3) ((wr (wr (wr (wr (acp m (m 58) 6 58 0 114) 57 8 19) 58 (((wr (acp m (m 58) 6 58 0 114) 57 8 19) 57 8) * 6) ((wr (acp m (m 58) 6 58 0 114) 57 8 19) 57 0)) 58 ((((wr (acp m (m 58) 6 58 0 114) 57 8 19) 57 8) * 6) + 1) ((wr (wr (acp m (m 58) 6 58 0 114) 57 8 19) 58 (((wr (acp m (m 58) 6 58 0 114) 57 8 19) 57 8) * 6) ((wr (acp m (m 58) 6 58 0 114) 57 8 19) 57 0)) 57 1)) 58 ((((wr (acp m (m 58) 6 58 0 114) 57 8 19) 57 8) * 6) + 2) ((wr (wr (wr (acp m (m 58) 6 58 0 114) 57 8 19) 58 (((wr (acp m (m 58) 6 58 0 114) 57 8 19) 57 8) * 6) ((wr (acp m (m 58) 6 58 0 114) 57 8 19) 57 0)) 58 ((((wr (acp m (m 58) 6 58 0 114) 57 8 19) 57 8) * 6) + 1) ((wr (wr (acp m (m 58) 6 58 0 114) 57 8 19) 58 (((wr (acp m (m 58) 6 58 0 114) 57 8 19) 57 8) * 6) ((wr (acp m (m 58) 6 58 0 114) 57 8 19) 57 0)) 57 1)) 57 2)) 57 3)) 58 ((((wr (acp m (m 58) 6 58 0 114) 57 8 19) 57 8) * 6) + 4) ((wr (wr (wr (wr (wr (acp m (m 58) 6 58 0 114) 57 8 19) 58 (((wr (acp m (m 58) 6 58 0 114) 57 8 19) 57 8) * 6) ((wr (acp m (m 58) 6 58 0 114) 57 8 19) 57 0)) 58 ((((wr (acp m (m 58) 6 58 0 114) 57 8 19) 57 8) * 6) + 1) ((wr (wr (acp m (m 58) 6 58 0 114) 57 8 19) 58 (((wr (acp m (m 58) 6 58 0 114) 57 8 19) 57 8) * 6) ((wr (acp m (m 58) 6 58 0 114) 57 8 19) 57 0)) 57 1)) 58 ((((wr (acp m (m 58) 6 58 0 114) 57 8 19) 57 8) * 6) + 2) ((wr (wr (wr (acp m (m 58) 6 58 0 114) 57 8 19) 58 (((wr (acp m (m 58) 6 58 0 114) 57 8 19) 57 8) * 6) ((wr (acp m (m 58) 6 58 0 114) 57 8 19) 57 0)) 58 ((((wr (acp m (m 58) 6 58 0 114) 57 8 19) 57 8) * 6) + 1) ((wr (wr (acp m (m 58) 6 58 0 114) 57 8 19) 58 (((wr (acp m (m 58) 6 58 0 114) 57 8 19) 57 8) * 6) ((wr (acp m (m 58) 6 58 0 114) 57 8 19) 57 0)) 57 1)) 57 2)) 58 ((((wr (acp m (m 58) 6 58 0 114) 57 8 19) 57 8) * 6) + 3) ((wr (wr (wr (wr (acp m (m 58) 6 58 0 114) 57 8 19) 58 (((wr (acp m (m 58) 6 58 0 114) 57 8 19) 57 8) * 6) ((wr (acp m (m 58) 6 58 0 114) 57 8 19) 57 0)) 58 ((((wr (acp m (m 58) 6 58 0 114) 57 8 19) 57 8) * 6) + 1) ((wr (wr (acp m (m 58) 6 58 0 114) 57 8 19) 58 (((wr (acp m (m 58) 6 58 0 114) 57 8 19) 57 8) * 6) ((wr (acp m (m 58) 6 58 0 114) 57 8 19) 57 0)) 57 1)) 58 ((((wr (acp m (m 58) 6 58 0 114) 57 8 19) 57 8) * 6) + 2) ((wr (wr (wr (acp m (m 58) 6 58 0 114) 57 8 19) 58 (((wr (acp m (m 58) 6 58 0 114) 57 8 19) 57 8) * 6) ((wr (acp m (m 58) 6 58 0 114) 57 8 19) 57 0)) 58 ((((wr (acp m (m 58) 6 58 0 114) 57 8 19) 57 8) * 6) + 1) ((wr (wr (acp m (m 58) 6 58 0 114) 57 8 19) 58 (((wr (acp m (m 58) 6 58 0 114) 57 8 19) 57 8) * 6) ((wr (acp m (m 58) 6 58 0 114) 57 8 19) 57 0)) 57 1)) 57 2)) 57 3)) 57 4)) 58 ((((wr (acp m (m 58) 6 58 0 114) 57 8 19) 57 8) * 6) + 5) ((wr (wr (wr (wr (wr (wr (acp m (m 58) 6 58 0 114) 57 8 19) 58 (((wr (acp m (m 58) 6 58 0 114) 57 8 19) 57 8) * 6) ((wr (acp m (m 58) 6 58 0 114) 57 8 19) 57 0)) 58 ((((wr (acp m (m 58) 6 58 0 114) 57 8 19) 57 8) * 6) + 1) ((wr (wr (acp m (m 58) 6 58 0 114) 57 8 19) 58 (((wr (acp m (m 58) 6 58 0 114) 57 8 19) 57 8) * 6) ((wr (acp m (m 58) 6 58 0 114) 57 8 19) 57 0)) 57 1)) 58 ((((wr (acp m (m 58) 6 58 0 114) 57 8 19) 57 8) * 6) + 2) ((wr (wr (wr (acp m (m 58) 6 58 0 114) 57 8 19) 58 (((wr (acp m (m 58) 6 58 0 114) 57 8 19) 57 8) * 6) ((wr (acp m (m 58) 6 58 0 114) 57 8 19) 57 0)) 58 ((((wr (acp m (m 58) 6 58 0 114) 57 8 19) 57 8) * 6) + 1) ((wr (wr (acp m (m 58) 6 58 0 114) 57 8 19) 58 (((wr (acp m (m 58) 6 58 0 114) 57 8 19) 57 8) * 6) ((wr (acp m (m 58) 6 58 0 114) 57 8 19) 57 0)) 57 1)) 57 2)) 58 ((((wr (acp m (m 58) 6 58 0 114) 57 8 19) 57 8) * 6) + 3) ((wr (wr (wr (wr (acp m (m 58) 6 58 0 114) 57 8 19) 58 (((wr (acp m (m 58) 6 58 0 114) 57 8 19) 57 8) * 6) ((wr (acp m (m 58) 6 58 0 114) 57 8 19) 57 0)) 58 ((((wr (acp m (m 58) 6 58 0 114) 57 8 19) 57 8) * 6) + 1) ((wr (wr (acp m (m 58) 6 58 0 114) 57 8 19) 58 (((wr (acp m (m 58) 6 58 0 114) 57 8 19) 57 8) * 6) ((wr (acp m (m 58) 6 58 0 114) 57 8 19) 57 0)) 57 1)) 58 ((((wr (acp m (m 58) 6 58 0 114) 57 8 19) 57 8) * 6) + 2) ((wr (wr (wr (acp m (m 58) 6 58 0 114) 57 8 19) 58 (((wr (acp m (m 58) 6 58 0 114) 57 8 19) 57 8) * 6) ((wr (acp m (m 58) 6 58 0 114) 57 8 19) 57 0)) 58 ((((wr (acp m (m 58) 6 58 0 114) 57 8 19) 57 8) * 6) + 1) ((wr (wr (acp m (m 58) 6 58 0 114) 57 8 19) 58 (((wr (acp m (m 58) 6 58 0 114) 57 8 19) 57 8) * 6) ((wr (acp m (m 58) 6 58 0 114) 57 8 19) 57 0)) 57 1)) 57 2)) 57 3)) 58 ((((wr (acp m (m 58) 6 58 0 114) 57 8 19) 57 8) * 6) + 4) ((wr (wr (wr (wr (wr (acp m (m 58) 6 58 0 114) 57 8 19) 58 (((wr (acp m (m 58) 6 58 0 114) 57 8 19) 57 8) * 6) ((wr (acp m (m 58) 6 58 0 114) 57 8 19) 57 0)) 58 ((((wr (acp m (m 58) 6 58 0 114) 57 8 19) 57 8) * 6) + 1) ((wr (wr (acp m (m 58) 6 58 0 114) 57 8 19) 58 (((wr (acp m (m 58) 6 58 0 114) 57 8 19) 57 8) * 6) ((wr (acp m (m 58) 6 58 0 114) 57 8 19) 57 0)) 57 1)) 58 ((((wr (acp m (m 58) 6 58 0 114) 57 8 19) 57 8) * 6) + 2) ((wr (wr (wr (acp m (m 58) 6 58 0 114) 57 8 19) 58 (((wr (acp m (m 58) 6 58 0 114) 57 8 19) 57 8) * 6) ((wr (acp m (m 58) 6 58 0 114) 57 8 19) 57 0)) 58 ((((wr (acp m (m 58) 6 58 0 114) 57 8 19) 57 8) * 6) + 1) ((wr (wr (acp m (m 58) 6 58 0 114) 57 8 19) 58 (((wr (acp m (m 58) 6 58 0 114) 57 8 19) 57 8) * 6) ((wr (acp m (m 58) 6 58 0 114) 57 8 19) 57 0)) 57 1)) 57 2)) 58 ((((wr (acp m (m 58) 6 58 0 114) 57 8 19) 57 8) * 6) + 3) ((wr (wr (wr (wr (acp m (m 58) 6 58 0 114) 57 8 19) 58 (((wr (acp m (m 58) 6 58 0 114) 57 8 19) 57 8) * 6) ((wr (acp m (m 58) 6 58 0 114) 57 8 19) 57 0)) 58 ((((wr (acp m (m 58) 6 58 0 114) 57 8 19) 57 8) * 6) + 1) ((wr (wr (acp m (m 58) 6 58 0 114) 57 8 19) 58 (((wr (acp m (m 58) 6 58 0 114) 57 8 19) 57 8) * 6) ((wr (acp m (m 58) 6 58 0 114) 57 8 19) 57 0)) 57 1)) 58 ((((wr (acp m (m 58) 6 58 0 114) 57 8 19) 57 8) * 6) + 2) ((wr (wr (wr (acp m (m 58) 6 58 0 114) 57 8 19) 58 (((wr (acp m (m 58) 6 58 0 114) 57 8 19) 57 8) * 6) ((wr (acp m (m 58) 6 58 0 114) 57 8 19) 57 0)) 58 ((((wr (acp m (m 58) 6 58 0 114) 57 8 19) 57 8) * 6) + 1) ((wr (wr (acp m (m 58) 6 58 0 114) 57 8 19) 58 (((wr (acp m (m 58) 6 58 0 114) 57 8 19) 57 8) * 6) ((wr (acp m (m 58) 6 58 0 114) 57 8 19) 57 0)) 57 1)) 57 2)) 57 3)) 57 4)) 57 5)) 57 8)) fl_X2_28 ic_57 (fv_i _ ic_57 rfl) dX2_keep_117 rfl ?_
    refine x_iconst (pc2 := 121) dX2_keep_120 rfl ?_
    refine x_iadd (pc2 := 122) dX2_keep_121 rfl ?_
    refine x_putf (pc2 := 125) (x := (((wr (wr (wr (wr (wr (wr (wr (acp m (m 58) 6 58 0 114) 57 8 19) 58 (((wr (acp m (m 58) 6 58 0 114) 57 8 19) 57 8) * 6) ((wr (acp m (m 58) 6 58 0 114) 57 8 19) 57 0)) 58 ((((wr (acp m (m 58) 6 58 0 114) 57 8 19) 57 8) * 6) + 1) ((wr (wr (acp m (m 58) 6 58 0 114) 57 8 19) 58 (((wr (acp m (m 58) 6 58 0 114) 57 8 19) 57 8) * 6) ((wr (acp m (m 58) 6 58 0 114) 57 8 19) 57 0)) 57 1)) 58 ((((wr (acp m (m 58) 6 58 0 114) 57 8 19) 57 8) * 6) + 2) ((wr (wr (wr (acp m (m 58) 6 58 0 114) 57 8 19) 58 (((wr (acp m (m 58) 6 58 0 114) 57 8 19) 57 8) * 6) ((wr (acp m (m 58) 6 58 0 114) 57 8 19) 57 0)) 58 ((((wr (acp m (m 58) 6 58 0 114) 57 8 19) 57 8) * 6) + 1) ((wr (wr (acp m (m 58) 6 58 0 114) 57 8 19) 58 (((wr (acp m (m 58) 6 58 0 114) 57 8 19) 57 8) * 6) ((wr (acp m (m 58) 6 58 0 114) 57 8 19) 57 0)) 57 1)) 57 2)) 58 ((((wr (acp m (m 58) 6 58 0 114) 57 8 19) 57 8) * 6) + 3) ((wr (wr (wr (wr (acp m (m 58) 6 58 0 114) 57 8 19) 58 (((wr (acp m (m 58) 6 58 0 114) 57 8 19) 57 8) * 6) ((wr (acp m (m 58) 6 58 0 114) 57 8 19) 57 0)) 58 ((((wr (acp m (m 58) 6 58 0 114) 57 8 19) 57 8) * 6) + 1) ((wr (wr (acp m (m 58) 6 58 0 114) 57 8 19) 58 (((wr (acp m (m 58) 6 58 0 114) 57 8 19) 57 8) * 6) ((wr (acp m (m 58) 6 58 0 114) 57 8 19) 57 0)) 57 1)) 58 ((((wr (acp m (m 58) 6 58 0 114) 57 8 19) 57 8) * 6) + 2) ((wr (wr (wr (acp m (m 58) 6 58 0 114) 57 8 19) 58 (((wr (acp m (m 58) 6 58 0 114) 57 8 19) 57 8) * 6) ((wr (acp m (m 58) 6 58 0 114) 57 8 19) 57 0)) 58 ((((wr (acp m (m 58) 6 58 0 114) 57 8 19) 57 8) * 6) + 1) ((wr (wr (acp m (m 58) 6 58 0 114) 57 8 19) 58 (((wr (acp m (m 58) 6 58 0 114) 57 8 19) 57 8) * 6) ((wr (acp m (m 58) 6 58 0 114) 57 8 19) 57 0)) 57 1)) 57 2)) 57 3)) 58 ((((wr (acp m (m 58) 6 58 0 114) 57 8 19) 57 8) * 6) + 4) ((wr (wr (wr (wr (wr (acp m (m 58) 6 58 0 114) 57 8 19) 58 (((wr (acp m (m 58) 6 58 0 114) 57 8 19) 57 8) * 6) ((wr (acp m (m 58) 6 58 0 114) 57 8 19) 57 0)) 58 ((((wr (acp m (m 58) 6 58 0 114) 57 8 19) 57 8) * 6) + 1) ((wr (wr (acp m (m 58) 6 58 0 114) 57 8 19) 58 (((wr (acp m (m 58) 6 58 0 114) 57 8 19) 57 8) * 6) ((wr (acp m (m 58) 6 58 0 114) 57 8 19) 57 0)) 57 1)) 58 ((((wr (acp m (m 58) 6 58 0 114) 57 8 19) 57 8) * 6) + 2) ((wr (wr (wr (acp m (m 58) 6 58 0 114) 57 8 19) 58 (((wr (acp m (m 58) 6 58 0 114) 57 8 19) 57 8) * 6) ((wr (acp m (m 58) 6 58 0 114) 57 8 19) 57 0)) 58 ((((wr (acp m (m 58) 6 58 0 114) 57 8 19) 57 8) * 6) + 1) ((wr (wr (acp m (m 58) 6 58 0 114) 57 8 19) 58 (((wr (acp m (m 58) 6 58 0 114) 57 8 19) 57 8) * 6) ((wr (acp m (m 58) 6 58 0 114) 57 8 19) 57 0)) 57 1)) 57 2)) 58 ((((wr (acp m (m 58) 6 58 0 114) 57 8 19) 57 8) * 6) + 3) ((wr (wr (wr (wr (acp m (m 58) 6 58 0 114) 57 8 19) 58 (((wr (acp m (m 58) 6 58 0 114) 57 8 19) 57 8) * 6) ((wr (acp m (m 58) 6 58 0 114) 57 8 19) 57 0)) 58 ((((wr (acp m (m 58) 6 58 0 114) 57 8 19) 57 8) * 6) + 1) ((wr (wr (acp m (m 58) 6 58 0 114) 57 8 19) 58 (((wr (acp m (m 58) 6 58 0 114) 57 8 19) 57 8) * 6) ((wr (acp m (m 58) 6 58 0 114) 57 8 19) 57 0)) 57 1)) 58 ((((wr (acp m (m 58) 6 58 0 114) 57 8 19) 57 8) * 6) + 2) ((wr (wr (wr (acp m (m 58) 6 58 0 114) 57 8 19) 58 (((wr (acp m (m 58) 6 58 0 114) 57 8 19) 57 8) * 6) ((wr (acp m (m 58) 6 58 0 114) 57 8 19) 57 0)) 58 ((((wr (acp m (m 58) 6 58 0 114) 57 8 19) 57 8) * 6) + 1) ((wr (wr (acp m (m 58) 6 58 0 114) 57 8 19) 58 (((wr (acp m (m 58) 6 58 0 114) 57 8 19) 57 8) * 6) ((wr (acp m (m 58) 6 58 0 114) 57 8 19) 57 0)) 57 1)) 57 2)) 57 3)) 57 4)) 58 ((((wr (acp m (m 58) 6 58 0 114) 57 8 19) 57 8) * 6) + 5) ((wr (wr (wr (wr (wr (wr (acp m (m 58) 6 58 0 114) 57 8 19) 58 (((wr (acp m (m 58) 6 58 0 114) 57 8 19) 57 8) * 6) ((wr (acp m (m 58) 6 58 0 114) 57 8 19) 57 0)) 58 ((((wr (acp m (m 58) 6 58 0 114) 57 8 19) 57 8) * 6) + 1) ((wr (wr (acp m (m 58) 6 58 0 114) 57 8 19) 58 (((wr (acp m (m 58) 6 58 0 114) 57 8 19) 57 8) * 6) ((wr (acp m (m 58) 6 58 0 114) 57 8 19) 57 0)) 57 1)) 58 ((((wr (acp m (m 58) 6 58 0 114) 57 8 19) 57 8) * 6) + 2) ((wr (wr (wr (acp m (m 58) 6 58 0 114) 57 8 19) 58 (((wr (acp m (m 58) 6 58 0 114) 57 8 19) 57 8) * 6) ((wr (acp m (m 58) 6 58 0 114) 57 8 19) 57 0)) 58 ((((wr (acp m (m 58) 6 58 0 114) 57 8 19) 57 8) * 6) + 1) ((wr (wr (acp m (m 58) 6 58 0 114) 57 8 19) 58 (((wr (acp m (m 58) 6 58 0 114) 57 8 19) 57 8) * 6) ((wr (acp m (m 58) 6 58 0 114) 57 8 19) 57 0)) 57 1)) 57 2)) 58 ((((wr (acp m (m 58) 6 58 0 114) 57 8 19) 57 8) * 6) + 3) ((wr (wr (wr (wr (acp m (m 58) 6 58 0 114) 57 8 19) 58 (((wr (acp m (m 58) 6 58 0 114) 57 8 19) 57 8) * 6) ((wr (acp m (m 58) 6 58 0 114) 57 8 19) 57 0)) 58 ((((wr (acp m (m 58) 6 58 0 114) 57 8 19) 57 8) * 6) + 1) ((wr (wr (acp m (m 58) 6 58 0 114) 57 8 19) 58 (((wr (acp m (m 58) 6 58 0 114) 57 8 19) 57 8) * 6) ((wr (acp m (m 58) 6 58 0 114) 57 8 19) 57 0)) 57 1)) 58 ((((wr (acp m (m 58) 6 58 0 114) 57 8 19) 57 8) * 6) + 2) ((wr (wr (wr (acp m (m 58) 6 58 0 114) 57 8 19) 58 (((wr (acp m (m 58) 6 58 0 114) 57 8 19) 57 8) * 6) ((wr (acp m (m 58) 6 58 0 114) 57 8 19) 57 0)) 58 ((((wr (acp m (m 58) 6 58 0 114) 57 8 19) 57 8) * 6) + 1) ((wr (wr (acp m (m 58) 6 58 0 114) 57 8 19) 58 (((wr (acp m (m 58) 6 58 0 114) 57 8 19) 57 8) * 6) ((wr (acp m (m 58) 6 58 0 114) 57 8 19) 57 0)) 57 1)) 57 2)) 57 3)) 58 ((((wr (acp m (m 58) 6 58 0 114) 57 8 19) 57 8) * 6) + 4) ((wr (wr (wr (wr (wr (acp m (m 58) 6 58 0 114) 57 8 19) 58 (((wr (acp m (m 58) 6 58 0 114) 57 8 19) 57 8) * 6) ((wr (acp m (m 58) 6 58 0 114) 57 8 19) 57 0)) 58 ((((wr (acp m (m 58) 6 58 0 114) 57 8 19) 57 8) * 6) + 1) ((wr (wr (acp m (m 58) 6 58 0 114) 57 8 19) 58 (((wr (acp m (m 58) 6 58 0 114) 57 8 19) 57 8) * 6) ((wr (acp m (m 58) 6 58 0 114) 57 8 19) 57 0)) 57 1)) 58 ((((wr (acp m (m 58) 6 58 0 114) 57 8 19) 57 8) * 6) + 2) ((wr (wr (wr (acp m (m 58) 6 58 0 114) 57 8 19) 58 (((wr (acp m (m 58) 6 58 0 114) 57 8 19) 57 8) * 6) ((wr (acp m (m 58) 6 58 0 114) 57 8 19) 57 0)) 58 ((((wr (acp m (m 58) 6 58 0 114) 57 8 19) 57 8) * 6) + 1) ((wr (wr (acp m (m 58) 6 58 0 114) 57 8 19) 58 (((wr (acp m (m 58) 6 58 0 114) 57 8 19) 57 8) * 6) ((wr (acp m (m 58) 6 58 0 114) 57 8 19) 57 0)) 57 1)) 57 2)) 58 ((((wr (acp m (m 58) 6 58 0 114) 57 8 19) 57 8) * 6) + 3) ((wr (wr (wr (wr (acp m (m 58) 6 58 0 114) 57 8 19) 58 (((wr (acp m (m 58) 6 58 0 114) 57 8 19) 57 8) * 6) ((wr (acp m (m 58) 6 58 0 114) 57 8 19) 57 0)) 58 ((((wr (acp m (m 58) 6 58 0 114) 57 8 19) 57 8) * 6) + 1) ((wr (wr (acp m (m 58) 6 58 0 114) 57 8 19) 58 (((wr (acp m (m 58) 6 58 0 114) 57 8 19) 57 8) * 6) ((wr (acp m (m 58) 6 58 0 114) 57 8 19) 57 0)) 57 1)) 58 ((((wr (acp m (m 58) 6 58 0 114) 57 8 19) 57 8) * 6) + 2) ((wr (wr (wr (acp m (m 58) 6 58 0 114) 57 8 19) 58 (((wr (acp m (m 58) 6 58 0 114) 57 8 19) 57 8) * 6) ((wr (acp m (m 58) 6 58 0 114) 57 8 19) 57 0)) 58 ((((wr (acp m (m 58) 6 58 0 114) 57 8 19) 57 8) * 6) + 1) ((wr (wr (acp m (m 58) 6 58 0 114) 57 8 19) 58 (((wr (acp m (m 58) 6 58 0 114) 57 8 19) 57 8) * 6) ((wr (acp m (m 58) 6 58 0 114) 57 8 19) 57 0)) 57 1)) 57 2)) 57 3)) 57 4)) 57 5)) 57 8) + 1)) fl_X2_28 ft_2_8 ic_57 (pv_i _ ic_57 rfl) (pn_i _) dX2_keep_122 rfl ?_
    exact x_return dX2_keep_125 rfl k
set_option maxRecDepth 4000 in
theorem g_X2_back_0 {sc : List Int} {d : Nat} {m : Mem} {Q : Option AV → Mem → Prop} (k : (-2147483648 ≤ (m 57 8) ∧ (m 57 8) < 2147483648) ∧ ((0 < (m 57 8)) → ((0 ≤ (((wr m 57 8 ((m 57 8) - 1)) 57 8) * 6)) ∧ ((((wr m 57 8 ((m 57 8) - 1)) 57 8) * 6) < 120) ∧ (0 ≤ ((((wr m 57 8 ((m 57 8) - 1)) 57 8) * 6) + 1)) ∧ (((((wr m 57 8 ((m 57 8) - 1)) 57 8) * 6) + 1) < 120) ∧ (0 ≤ ((((wr m 57 8 ((m 57 8) - 1)) 57 8) * 6) + 2)) ∧ (((((wr m 57 8 ((m 57 8) - 1)) 57 8) * 6) + 2) < 120) ∧ (0 ≤ ((((wr m 57 8 ((m 57 8) - 1)) 57 8) * 6) + 3)) ∧ (((((wr m 57 8 ((m 57 8) - 1)) 57 8) * 6) + 3) < 120) ∧ (0 ≤ ((((wr m 57 8 ((m 57 8) - 1)) 57 8) * 6) + 4)) ∧ (((((wr m 57 8 ((m 57 8) - 1)) 57 8) * 6) + 4) < 120) ∧ (0 ≤ ((((wr m 57 8 ((m 57 8) - 1)) 57 8) * 6) + 5)) ∧ (((((wr m 57 8 ((m 57 8) - 1)) 57 8) * 6) + 5) < 120) ∧ Q none (wr (wr (wr (wr (wr (wr (wr m 57 8 ((m 57 8) - 1)) 57 0 ((wr m 57 8 ((m 57 8) - 1)) 58 (((wr m 57 8 ((m 57 8) - 1)) 57 8) * 6))) 57 1 ((wr (wr m 57 8 ((m 57 8) - 1)) 57 0 ((wr m 57 8 ((m 57 8) - 1)) 58 (((wr m 57 8 ((m 57 8) - 1)) 57 8) * 6))) 58 ((((wr m 57 8 ((m 57 8) - 1)) 57 8) * 6) + 1))) 57 2 ((wr (wr (wr m 57 8 ((m 57 8) - 1)) 57 0 ((wr m 57 8 ((m 57 8) - 1)) 58 (((wr m 57 8 ((m 57 8) - 1)) 57 8) * 6))) 57 1 ((wr (wr m 57 8 ((m 57 8) - 1)) 57 0 ((wr m 57 8 ((m 57 8) - 1)) 58 (((wr m 57 8 ((m 57 8) - 1)) 57 8) * 6))) 58 ((((wr m 57 8 ((m 57 8) - 1)) 57 8) * 6) + 1))) 58 ((((wr m 57 8 ((m 57 8) - 1)) 57 8) * 6) + 2))) 57 3 ((wr (wr (wr (wr m 57 8 ((m 57 8) - 1)) 57 0 ((wr m 57 8 ((m 57 8) - 1)) 58 (((wr m 57 8 ((m 57 8) - 1)) 57 8) * 6))) 57 1 ((wr (wr m 57 8 ((m 57 8) - 1)) 57 0 ((wr m 57 8 ((m 57 8) - 1)) 58 (((wr m 57 8 ((m 57 8) - 1)) 57 8) * 6))) 58 ((((wr m 57 8 ((m 57 8) - 1)) 57 8) * 6) + 1))) 57 2 ((wr (wr (wr m 57 8 ((m 57 8) - 1)) 57 0 ((wr m 57 8 ((m 57 8) - 1)) 58 (((wr m 57 8 ((m 57 8) - 1)) 57 8) * 6))) 57 1 ((wr (wr m 57 8 ((m 57 8) - 1)) 57 0 ((wr m 57 8 ((m 57 8) - 1)) 58 (((wr m 57 8 ((m 57 8) - 1)) 57 8) * 6))) 58 ((((wr m 57 8 ((m 57 8) - 1)) 57 8) * 6) + 1))) 58 ((((wr m 57 8 ((m 57 8) - 1)) 57 8) * 6) + 2))) 58 ((((wr m 57 8 ((m 57 8) - 1)) 57 8) * 6) + 3))) 57 4 ((wr (wr (wr (wr (wr m 57 8 ((m 57 8) - 1)) 57 0 ((wr m 57 8 ((m 57 8) - 1)) 58 (((wr m 57 8 ((m 57 8) - 1)) 57 8) * 6))) 57 1 ((wr (wr m 57 8 ((m 57 8) - 1)) 57 0 ((wr m 57 8 ((m 57 8) - 1)) 58 (((wr m 57 8 ((m 57 8) - 1)) 57 8) * 6))) 58 ((((wr m 57 8 ((m 57 8) - 1)) 57 8) * 6) + 1))) 57 2 ((wr (wr (wr m 57 8 ((m 57 8) - 1)) 57 0 ((wr m 57 8 ((m 57 8) - 1)) 58 (((wr m 57 8 ((m 57 8) - 1)) 57 8) * 6))) 57 1 ((wr (wr m 57 8 ((m 57 8) - 1)) 57 0 ((wr m 57 8 ((m 57 8) - 1)) 58 (((wr m 57 8 ((m 57 8) - 1)) 57 8) * 6))) 58 ((((wr m 57 8 ((m 57 8) - 1)) 57 8) * 6) + 1))) 58 ((((wr m 57 8 ((m 57 8) - 1)) 57 8) * 6) + 2))) 57 3 ((wr (wr (wr (wr m 57 8 ((m 57 8) - 1)) 57 0 ((wr m 57 8 ((m 57 8) - 1)) 58 (((wr m 57 8 ((m 57 8) - 1)) 57 8) * 6))) 57 1 ((wr (wr m 57 8 ((m 57 8) - 1)) 57 0 ((wr m 57 8 ((m 57 8) - 1)) 58 (((wr m 57 8 ((m 57 8) - 1)) 57 8) * 6))) 58 ((((wr m 57 8 ((m 57 8) - 1)) 57 8) * 6) + 1))) 57 2 ((wr (wr (wr m 57 8 ((m 57 8) - 1)) 57 0 ((wr m 57 8 ((m 57 8) - 1)) 58 (((wr m 57 8 ((m 57 8) - 1)) 57 8) * 6))) 57 1 ((wr (wr m 57 8 ((m 57 8) - 1)) 57 0 ((wr m 57 8 ((m 57 8) - 1)) 58 (((wr m 57 8 ((m 57 8) - 1)) 57 8) * 6))) 58 ((((wr m 57 8 ((m 57 8) - 1)) 57 8) * 6) + 1))) 58 ((((wr m 57 8 ((m 57 8) - 1)) 57 8) * 6) + 2))) 58 ((((wr m 57 8 ((m 57 8) - 1)) 57 8) * 6) + 3))) 58 ((((wr m 57 8 ((m 57 8) - 1)) 57 8) * 6) + 4))) 57 5 ((wr (wr (wr (wr (wr (wr m 57 8 ((m 57 8) - 1)) 57 0 ((wr m 57 8 ((m 57 8) - 1)) 58 (((wr m 57 8 ((m 57 8) - 1)) 57 8) * 6))) 57 1 ((wr (wr m 57 8 ((m 57 8) - 1)) 57 0 ((wr m 57 8 ((m 57 8) - 1)) 58 (((wr m 57 8 ((m 57 8) - 1)) 57 8) * 6))) 58 ((((wr m 57 8 ((m 57 8) - 1)) 57 8) * 6) + 1))) 57 2 ((wr (wr (wr m 57 8 ((m 57 8) - 1)) 57 0 ((wr m 57 8 ((m 57 8) - 1)) 58 (((wr m 57 8 ((m 57 8) - 1)) 57 8) * 6))) 57 1 ((wr (wr m 57 8 ((m 57 8) - 1)) 57 0 ((wr m 57 8 ((m 57 8) - 1)) 58 (((wr m 57 8 ((m 57 8) - 1)) 57 8) * 6))) 58 ((((wr m 57 8 ((m 57 8) - 1)) 57 8) * 6) + 1))) 58 ((((wr m 57 8 ((m 57 8) - 1)) 57 8) * 6) + 2))) 57 3 ((wr (wr (wr (wr m 57 8 ((m 57 8) - 1)) 57 0 ((wr m 57 8 ((m 57 8) - 1)) 58 (((wr m 57 8 ((m 57 8) - 1)) 57 8) * 6))) 57 1 ((wr (wr m 57 8 ((m 57 8) - 1)) 57 0 ((wr m 57 8 ((m 57 8) - 1)) 58 (((wr m 57 8 ((m 57 8) - 1)) 57 8) * 6))) 58 ((((wr m 57 8 ((m 57 8) - 1)) 57 8) * 6) + 1))) 57 2 ((wr (wr (wr m 57 8 ((m 57 8) - 1)) 57 0 ((wr m 57 8 ((m 57 8) - 1)) 58 (((wr m 57 8 ((m 57 8) - 1)) 57 8) * 6))) 57 1 ((wr (wr m 57 8 ((m 57 8) - 1)) 57 0 ((wr m 57 8 ((m 57 8) - 1)) 58 (((wr m 57 8 ((m 57 8) - 1)) 57 8) * 6))) 58 ((((wr m 57 8 ((m 57 8) - 1)) 57 8) * 6) + 1))) 58 ((((wr m 57 8 ((m 57 8) - 1)) 57 8) * 6) + 2))) 58 ((((wr m 57 8 ((m 57 8) - 1)) 57 8) * 6) + 3))) 57 4 ((wr (wr (wr (wr (wr m 57 8 ((m 57 8) - 1)) 57 0 ((wr m 57 8 ((m 57 8) - 1)) 58 (((wr m 57 8 ((m 57 8) - 1)) 57 8) * 6))) 57 1 ((wr (wr m 57 8 ((m 57 8) - 1)) 57 0 ((wr m 57 8 ((m 57 8) - 1)) 58 (((wr m 57 8 ((m 57 8) - 1)) 57 8) * 6))) 58 ((((wr m 57 8 ((m 57 8) - 1)) 57 8) * 6) + 1))) 57 2 ((wr (wr (wr m 57 8 ((m 57 8) - 1)) 57 0 ((wr m 57 8 ((m 57 8) - 1)) 58 (((wr m 57 8 ((m 57 8) - 1)) 57 8) * 6))) 57 1 ((wr (wr m 57 8 ((m 57 8) - 1)) 57 0 ((wr m 57 8 ((m 57 8) - 1)) 58 (((wr m 57 8 ((m 57 8) - 1)) 57 8) * 6))) 58 ((((wr m 57 8 ((m 57 8) - 1)) 57 8) * 6) + 1))) 58 ((((wr m 57 8 ((m 57 8) - 1)) 57 8) * 6) + 2))) 57 3 ((wr (wr (wr (wr m 57 8 ((m 57 8) - 1)) 57 0 ((wr m 57 8 ((m 57 8) - 1)) 58 (((wr m 57 8 ((m 57 8) - 1)) 57 8) * 6))) 57 1 ((wr (wr m 57 8 ((m 57 8) - 1)) 57 0 ((wr m 57 8 ((m 57 8) - 1)) 58 (((wr m 57 8 ((m 57 8) - 1)) 57 8) * 6))) 58 ((((wr m 57 8 ((m 57 8) - 1)) 57 8) * 6) + 1))) 57 2 ((wr (wr (wr m 57 8 ((m 57 8) - 1)) 57 0 ((wr m 57 8 ((m 57 8) - 1)) 58 (((wr m 57 8 ((m 57 8) - 1)) 57 8) * 6))) 57 1 ((wr (wr m 57 8 ((m 57 8) - 1)) 57 0 ((wr m 57 8 ((m 57 8) - 1)) 58 (((wr m 57 8 ((m 57 8) - 1)) 57 8) * 6))) 58 ((((wr m 57 8 ((m 57 8) - 1)) 57 8) * 6) + 1))) 58 ((((wr m 57 8 ((m 57 8) - 1)) 57 8) * 6) + 2))) 58 ((((wr m 57 8 ((m 57 8) - 1)) 57 8) * 6) + 3))) 58 ((((wr m 57 8 ((m 57 8) - 1)) 57 8) * 6) + 4))) 58 ((((wr m 57 8 ((m 57 8) - 1)) 57 8) * 6) + 5))))) ∧ (¬ (0 < (m 57 8)) → (Q none m))) : S_X2_back sc d 0 [aR 57, aU] [] m Q := by
  refine x_aload_n (pc2 := 1) dX2_back_0 rfl rfl ?_
  refine x_getf (pc2 := 4) (v := aI (m 57 8)) fl_X2_28 ic_57 (fv_i _ ic_57 rfl) dX2_back_1 rfl ?_
  obtain ⟨h1, k⟩ := k
  obtain ⟨k1, k2⟩ := k
  refine x_if_gt (tgt := 8) (pc2 := 7) dX2_back_4 (by decide) rfl h1 (fun c2 => ?_) (fun c2 => ?_)
  · replace k := k1 c2
    refine x_aload_n (pc2 := 9) dX2_back_8 rfl rfl ?_
    refine x_dup_r (pc2 := 10) dX2_back_9 rfl (by decide) ?_
    refine x_getf (pc2 := 13) (v := aI (m 57 8)) fl_X2_28 ic_57 (fv_i _ ic_57 rfl) dX2_back_10 rfl ?_
    refine x_iconst (pc2 := 14) dX2_back_13 rfl ?_
    refine x_isub (pc2 := 15) dX2_back_14 rfl ?_
    refine x_putf (pc2 := 18) (x := ((m 57 8) - 1)) fl_X2_28 ft_2_8 ic_57 (pv_i _ ic_57 rfl) (pn_i _) dX2_back_15 rfl ?_
    refine x_aload_n (pc2 := 19) dX2_back_18 rfl rfl ?_
    refine x_getf (pc2 := 22) (v := aI ((wr m 57 8 ((m 57 8) - 1)) 57 8)) fl_X2_28 ic_57 (fv_i _ ic_57 rfl) dX2_back_19 rfl ?_
    refine x_bipush (pc2 := 24) dX2_back_22 rfl rfl ?_
    refine x_imul (pc2 := 25) dX2_back_24 rfl ?_
    refine x_istore_n (pc2 := 26) (ls2 := [aR 57, aI (((wr m 57 8 ((m 57 8) - 1)) 57 8) * 6)]) dX2_back_25 rfl (by decide) rfl ?_
    refine x_aload_n (pc2 := 27) dX2_back_26 rfl rfl ?_
    refine x_aload_n (pc2 := 28) dX2_back_27 rfl rfl ?_
    refine x_getf (pc2 := 31) (v := aR 58) fl_X2_15 ic_57 (vr_57_7 _) dX2_back_28 rfl ?_
    refine x_iload_n (pc2 := 32) dX2_back_31 rfl rfl ?_
    obtain ⟨h3, k⟩ := k
    obtain ⟨h4, k⟩ := k
    refine x_iald (pc2 := 33) ic_58 h3 (by rw [al_58]; exact h4) dX2_back_32 rfl ?_
    refine x_putf (pc2 := 36) (x := ((wr m 57 8 ((m 57 8) - 1)) 58 (((wr m 57 8 ((m 57 8) - 1)) 57 8) * 6))) fl_X2_31 ft_2_0 ic_57 (pv_i _ ic_57 rfl) (pn_i _) dX2_back_33 rfl ?_
    refine x_aload_n (pc2 := 37) dX2_back_36 rfl rfl ?_
    refine x_aload_n (pc2 := 38) dX2_back_37 rfl rfl ?_
    refine x_getf (pc2 := 41) (v := aR 58) fl_X2_15 ic_57 (vr_57_7 _) dX2_back_38 rfl ?_
    refine x_iload_n (pc2 := 42) dX2_back_41 rfl rfl ?_
    refine x_iconst (pc2 := 43) dX2_back_42 rfl ?_
    refine x_iadd (pc2 := 44) dX2_back_43 rfl ?_
    obtain ⟨h5, k⟩ := k
    obtain ⟨h6, k⟩ := k
    refine x_iald (pc2 := 45) ic_58 h5 (by rw [al_58]; exact h6) dX2_back_44 rfl ?_
    refine x_putf (pc2 := 48) (x := ((wr (wr m 57 8 ((m 57 8) - 1)) 57 0 ((wr m 57 8 ((m 57 8) - 1)) 58 (((wr m 57 8 ((m 57 8) - 1)) 57 8) * 6))) 58 ((((wr m 57 8 ((m 57 8) - 1)) 57 8) * 6) + 1))) fl_X2_34 ft_2_1 ic_57 (pv_i _ ic_57 rfl) (pn_i _) dX2_back_45 rfl ?_
    refine x_aload_n (pc2 := 49) dX2_back_48 rfl rfl ?_
    refine x_aload_n (pc2 := 50) dX2_back_49 rfl rfl ?_
    refine x_getf (pc2 := 53) (v := aR 58) fl_X2_15 ic_57 (vr_57_7 _) dX2_back_50 rfl ?_
    refine x_iload_n (pc2 := 54) dX2_back_53 rfl rfl ?_
    refine x_iconst (pc2 := 55) dX2_back_54 rfl ?_
    refine x_iadd (pc2 := 56) dX2_back_55 rfl ?_
    obtain ⟨h7, k⟩ := k
    obtain ⟨h8, k⟩ := k
    refine x_iald (pc2 := 57) ic_58 h7 (by rw [al_58]; exact h8) dX2_back_56 rfl ?_
    refine x_putf (pc2 := 60) (x := ((wr (wr (wr m 57 8 ((m 57 8) - 1)) 57 0 ((wr m 57 8 ((m 57 8) - 1)) 58 (((wr m 57 8 ((m 57 8) - 1)) 57 8) * 6))) 57 1 ((wr (wr m 57 8 ((m 57 8) - 1)) 57 0 ((wr m 57 8 ((m 57 8) - 1)) 58 (((wr m 57 8 ((m 57 8) - 1)) 57 8) * 6))) 58 ((((wr m 57 8 ((m 57 8) - 1)) 57 8) * 6) + 1))) 58 ((((wr m 57 8 ((m 57 8) - 1)) 57 8) * 6) + 2))) fl_X2_37 ft_2_2 ic_57 (pv_i _ ic_57 rfl) (pn_i _) dX2_back_57 rfl ?_
    refine x_aload_n (pc2 := 61) dX2_back_60 rfl rfl ?_
    refine x_aload_n (pc2 := 62) dX2_back_61 rfl rfl ?_
    refine x_getf (pc2 := 65) (v := aR 58) fl_X2_15 ic_57 (vr_57_7 _) dX2_back_62 rfl ?_
    refine x_iload_n (pc2 := 66) dX2_back_65 rfl rfl ?_
    refine x_iconst (pc2 := 67) dX2_back_66 rfl ?_
    refine x_iadd (pc2 := 68) dX2_back_67 rfl ?_
    obtain ⟨h9, k⟩ := k
    obtain ⟨h10, k⟩ := k
    refine x_iald (pc2 := 69) ic_58 h9 (by rw [al_58]; exact h10) dX2_back_68 rfl ?_
    refine x_putf (pc2 := 72) (x := ((wr (wr (wr (wr m 57 8 ((m 57 8) - 1)) 57 0 ((wr m 57 8 ((m 57 8) - 1)) 58 (((wr m 57 8 ((m 57 8) - 1)) 57 8) * 6))) 57 1 ((wr (wr m 57 8 ((m 57 8) - 1)) 57 0 ((wr m 57 8 ((m 57 8) - 1)) 58 (((wr m 57 8 ((m 57 8) - 1)) 57 8) * 6))) 58 ((((wr m 57 8 ((m 57 8) - 1)) 57 8) * 6) + 1))) 57 2 ((wr (wr (wr m 57 8 ((m 57 8) - 1)) 57 0 ((wr m 57 8 ((m 57 8) - 1)) 58 (((wr m 57 8 ((m 57 8) - 1)) 57 8) * 6))) 57 1 ((wr (wr m 57 8 ((m 57 8) - 1)) 57 0 ((wr m 57 8 ((m 57 8) - 1)) 58 (((wr m 57 8 ((m 57 8) - 1)) 57 8) * 6))) 58 ((((wr m 57 8 ((m 57 8) - 1)) 57 8) * 6) + 1))) 58 ((((wr m 57 8 ((m 57 8) - 1)) 57 8) * 6) + 2))) 58 ((((wr m 57 8 ((m 57 8) - 1)) 57 8) * 6) + 3))) fl_X2_40 ft_2_3 ic_57 (pv_i _ ic_57 rfl) (pn_i _) dX2_back_69 rfl ?_
    refine x_aload_n (pc2 := 73) dX2_back_72 rfl rfl ?_
    refine x_aload_n (pc2 := 74) dX2_back_73 rfl rfl ?_
    refine x_getf (pc2 := 77) (v := aR 58) fl_X2_15 ic_57 (vr_57_7 _) dX2_back_74 rfl ?_
    refine x_iload_n (pc2 := 78) dX2_back_77 rfl rfl ?_
    refine x_iconst (pc2 := 79) dX2_back_78 rfl ?_
    refine x_iadd (pc2 := 80) dX2_back_79 rfl ?_
    obtain ⟨h11, k⟩ := k
    obtain ⟨h12, k⟩ := k
    refine x_iald (pc2 := 81) ic_58 h11 (by rw [al_58]; exact h12) dX2_back_80 rfl ?_
    refine x_putf (pc2 := 84) (x := ((wr (wr (wr (wr (wr m 57 8 ((m 57 8) - 1)) 57 0 ((wr m 57 8 ((m 57 8) - 1)) 58 (((wr m 57 8 ((m 57 8) - 1)) 57 8) * 6))) 57 1 ((wr (wr m 57 8 ((m 57 8) - 1)) 57 0 ((wr m 57 8 ((m 57 8) - 1)) 58 (((wr m 57 8 ((m 57 8) - 1)) 57 8) * 6))) 58 ((((wr m 57 8 ((m 57 8) - 1)) 57 8) * 6) + 1))) 57 2 ((wr (wr (wr m 57 8 ((m 57 8) - 1)) 57 0 ((wr m 57 8 ((m 57 8) - 1)) 58 (((wr m 57 8 ((m 57 8) - 1)) 57 8) * 6))) 57 1 ((wr (wr m 57 8 ((m 57 8) - 1)) 57 0 ((wr m 57 8 ((m 57 8) - 1)) 58 (((wr m 57 8 ((m 57 8) - 1)) 57 8) * 6))) 58 ((((wr m 57 8 ((m 57 8) - 1)) 57 8) * 6) + 1))) 58 ((((wr m 57 8 ((m 57 8) - 1)) 57 8) * 6) + 2))) 57 3 ((wr (wr (wr (wr m 57 8 ((m 57 8) - 1)) 57 0 ((wr m 57 8 ((m 57 8) - 1)) 58 (((wr m 57 8 ((m 57 8) - 1)) 57 8) * 6))) 57 1 ((wr (wr m 57 8 ((m 57 8) - 1)) 57 0 ((wr m 57 8 ((m 57 8) - 1)) 58 (((wr m 57 8 ((m 57 8) - 1)) 57 8) * 6))) 58 ((((wr m 57 8 ((m 57 8) - 1)) 57 8) * 6) + 1))) 57 2 ((wr (wr (wr m 57 8 ((m 57 8) - 1)) 57 0 ((wr m 57 8 ((m 57 8) - 1)) 58 (((wr m 57 8 ((m 57 8) - 1)) 57 8) * 6))) 57 1 ((wr (wr m 57 8 ((m 57 8) - 1)) 57 0 ((wr m 57 8 ((m 57 8) - 1)) 58 (((wr m 57 8 ((m 57 8) - 1)) 57 8) * 6))) 58 ((((wr m 57 8 ((m 57 8) - 1)) 57 8) * 6) + 1))) 58 ((((wr m 57 8 ((m 57 8) - 1)) 57 8) * 6) + 2))) 58 ((((wr m 57 8 ((m 57 8) - 1)) 57 8) * 6) + 3))) 58 ((((wr m 57 8 ((m 57 8) - 1)) 57 8) * 6) + 4))) fl_X2_43 ft_2_4 ic_57 (pv_i _ ic_57 rfl) (pn_i _) dX2_back_81 rfl ?_
    refine x_aload_n (pc2 := 85) dX2_back_84 rfl rfl ?_
    refine x_aload_n (pc2 := 86) dX2_back_85 rfl rfl ?_
    refine x_getf (pc2 := 89) (v := aR 58) fl_X2_15 ic_57 (vr_57_7 _) dX2_back_86 rfl ?_
    refine x_iload_n (pc2 := 90) dX2_back_89 rfl rfl ?_
    refine x_iconst (pc2 := 91) dX2_back_90 rfl ?_
    refine x_iadd (pc2 := 92) dX2_back_91 rfl ?_
    obtain ⟨h13, k⟩ := k
    obtain ⟨h14, k⟩ := k
    refine x_iald (pc2 := 93) ic_58 h13 (by rw [al_58]; exact h14) dX2_back_92 rfl ?_
    refine x_putf (pc2 := 96) (x := ((wr (wr (wr (wr (wr (wr m 57 8 ((m 57 8) - 1)) 57 0 ((wr m 57 8 ((m 57 8) - 1)) 58 (((wr m 57 8 ((m 57 8) - 1)) 57 8) * 6))) 57 1 ((wr (wr m 57 8 ((m 57 8) - 1)) 57 0 ((wr m 57 8 ((m 57 8) - 1)) 58 (((wr m 57 8 ((m 57 8) - 1)) 57 8) * 6))) 58 ((((wr m 57 8 ((m 57 8) - 1)) 57 8) * 6) + 1))) 57 2 ((wr (wr (wr m 57 8 ((m 57 8) - 1)) 57 0 ((wr m 57 8 ((m 57 8) - 1)) 58 (((wr m 57 8 ((m 57 8) - 1)) 57 8) * 6))) 57 1 ((wr (wr m 57 8 ((m 57 8) - 1)) 57 0 ((wr m 57 8 ((m 57 8) - 1)) 58 (((wr m 57 8 ((m 57 8) - 1)) 57 8) * 6))) 58 ((((wr m 57 8 ((m 57 8) - 1)) 57 8) * 6) + 1))) 58 ((((wr m 57 8 ((m 57 8) - 1)) 57 8) * 6) + 2))) 57 3 ((wr (wr (wr (wr m 57 8 ((m 57 8) - 1)) 57 0 ((wr m 57 8 ((m 57 8) - 1)) 58 (((wr m 57 8 ((m 57 8) - 1)) 57 8) * 6))) 57 1 ((wr (wr m 57 8 ((m 57 8) - 1)) 57 0 ((wr m 57 8 ((m 57 8) - 1)) 58 (((wr m 57 8 ((m 57 8) - 1)) 57 8) * 6))) 58 ((((wr m 57 8 ((m 57 8) - 1)) 57 8) * 6) + 1))) 57 2 ((wr (wr (wr m 57 8 ((m 57 8) - 1)) 57 0 ((wr m 57 8 ((m 57 8) - 1)) 58 (((wr m 57 8 ((m 57 8) - 1)) 57 8) * 6))) 57 1 ((wr (wr m 57 8 ((m 57 8) - 1)) 57 0 ((wr m 57 8 ((m 57 8) - 1)) 58 (((wr m 57 8 ((m 57 8) - 1)) 57 8) * 6))) 58 ((((wr m 57 8 ((m 57 8) - 1)) 57 8) * 6) + 1))) 58 ((((wr m 57 8 ((m 57 8) - 1)) 57 8) * 6) + 2))) 58 ((((wr m 57 8 ((m 57 8) - 1)) 57 8) * 6) + 3))) 57 4 ((wr (wr (wr (wr (wr m 57 8 ((m 57 8) - 1)) 57 0 ((wr m 57 8 ((m 57 8) - 1)) 58 (((wr m 57 8 ((m 57 8) - 1)) 57 8) * 6))) 57 1 ((wr (wr m 57 8 ((m 57 8) - 1)) 57 0 ((wr m 57 8 ((m 57 8) - 1)) 58 (((wr m 57 8 ((m 57 8) - 1)) 57 8) * 6))) 58 ((((wr m 57 8 ((m 57 8) - 1)) 57 8) * 6) + 1))) 57 2 ((wr (wr (wr m 57 8 ((m 57 8) - 1)) 57 0 ((wr m 57 8 ((m 57 8) - 1)) 58 (((wr m 57 8 ((m 57 8) - 1)) 57 8) * 6))) 57 1 ((wr (wr m 57 8 ((m 57 8) - 1)) 57 0 ((wr m 57 8 ((m 57 8) - 1)) 58 (((wr m 57 8 ((m 57 8) - 1)) 57 8) * 6))) 58 ((((wr m 57 8 ((m 57 8) - 1)) 57 8) * 6) + 1))) 58 ((((wr m 57 8 ((m 57 8) - 1)) 57 8) * 6) + 2))) 57 3 ((wr (wr (wr (wr m 57 8 ((m 57 8) - 1)) 57 0 ((wr m 57 8 ((m 57 8) - 1)) 58 (((wr m 57 8 ((m 57 8) - 1)) 57 8) * 6))) 57 1 ((wr (wr m 57 8 ((m 57 8) - 1)) 57 0 ((wr m 57 8 ((m 57 8) - 1)) 58 (((wr m 57 8 ((m 57 8) - 1)) 57 8) * 6))) 58 ((((wr m 57 8 ((m 57 8) - 1)) 57 8) * 6) + 1))) 57 2 ((wr (wr (wr m 57 8 ((m 57 8) - 1)) 57 0 ((wr m 57 8 ((m 57 8) - 1)) 58 (((wr m 57 8 ((m 57 8) - 1)) 57 8) * 6))) 57 1 ((wr (wr m 57 8 ((m 57 8) - 1)) 57 0 ((wr m 57 8 ((m 57 8) - 1)) 58 (((wr m 57 8 ((m 57 8) - 1)) 57 8) * 6))) 58 ((((wr m 57 8 ((m 57 8) - 1)) 57 8) * 6) + 1))) 58 ((((wr m 57 8 ((m 57 8) - 1)) 57 8) * 6) + 2))) 58 ((((wr m 57 8 ((m 57 8) - 1)) 57 8) * 6) + 3))) 58 ((((wr m 57 8 ((m 57 8) - 1)) 57 8) * 6) + 4))) 58 ((((wr m 57 8 ((m 57 8) - 1)) 57 8) * 6) + 5))) fl_X2_46 ft_2_5 ic_57 (pv_i _ ic_57 rfl) (pn_i _) dX2_back_93 rfl ?_
    exact x_return dX2_back_96 rfl k
  · replace k := k2 c2
    exact x_return dX2_back_7 rfl k
set_option maxRecDepth 4000 in
theorem g_X4_forget_0 {sc : List Int} {d : Nat} {m : Mem} {Q : Option AV → Mem → Prop} (k : Q none (wr (wr m 44 5 0) 44 11 0)) : S_X4_forget sc d 0 [aR 44] [] m Q := by
  refine x_aload_n (pc2 := 1) dX4_forget_0 rfl rfl ?_
  refine x_iconst (pc2 := 2) dX4_forget_1 rfl ?_
  refine x_putf (pc2 := 5) (x := 0) fl_X4_48 ft_4_5 ic_44 (pv_i _ ic_44 rfl) (pn_i _) dX4_forget_2 rfl ?_
  refine x_aload_n (pc2 := 6) dX4_forget_5 rfl rfl ?_
  refine x_iconst (pc2 := 7) dX4_forget_6 rfl ?_
  refine x_putf (pc2 := 10) (x := 0) fl_X4_52 ft_4_11 ic_44 (pv_i _ ic_44 rfl) (pn_i _) dX4_forget_7 rfl ?_
  exact x_return dX4_forget_10 rfl k
set_option maxRecDepth 4000 in
theorem g_X4_inOrder_0 {sc : List Int} {d : Nat} {m : Mem} {Q : Option AV → Mem → Prop} {l1 l2 : Int} (Hl1 : RoomAt l1) (k : S_X4_inOrder sc d 10 [aR 44, aR l1, aI l2, aI 0, aI 0] [] (wr m 44 1 0) Q) : S_X4_inOrder sc d 0 [aR 44, aR l1, aI l2, aU, aU] [] m Q := by
  refine x_iconst (pc2 := 1) dX4_inOrder_0 rfl ?_
  refine x_istore_n (pc2 := 2) (ls2 := [aR 44, aR l1, aI l2, aI 0, aU]) dX4_inOrder_1 rfl (by decide) rfl ?_
  refine x_aload_n (pc2 := 3) dX4_inOrder_2 rfl rfl ?_
  refine x_iconst (pc2 := 4) dX4_inOrder_3 rfl ?_
  refine x_putf (pc2 := 7) (x := 0) fl_X4_55 ft_4_1 ic_44 (pv_i _ ic_44 rfl) (pn_i _) dX4_inOrder_4 rfl ?_
  refine x_iconst (pc2 := 8) dX4_inOrder_7 rfl ?_
  refine x_istore (pc2 := 10) (ls2 := [aR 44, aR l1, aI l2, aI 0, aI 0]) dX4_inOrder_8 rfl (by decide) rfl ?_
  exact k
set_option maxRecDepth 4000 in
theorem g_X4_inOrder_10 {sc : List Int} {d : Nat} {m : Mem} {Q : Option AV → Mem → Prop} {l1 l2 l3 l4 : Int} (Hl1 : RoomAt l1) (k : (-2147483648 ≤ l4 ∧ l4 < 2147483648) ∧ (-2147483648 ≤ (m l1 8) ∧ (m l1 8) < 2147483648) ∧ (((m l1 8) ≤ l4) → (Q none m)) ∧ (¬ ((m l1 8) ≤ l4) → ((0 ≤ l4) ∧ (l4 < 10) ∧ ((-2147483648 ≤ (m (l1 + 3) l4) ∧ (m (l1 + 3) l4) < 2147483648)) ∧ ((-2147483648 ≤ l3 ∧ l3 < 2147483648)) ∧ ((-2147483648 ≤ ((wr (wr m 45 l4 (if (m (l1 + 3) l4) ≤ l3 then 0 else 1 : Int)) 44 1 (((wr m 45 l4 (if (m (l1 + 3) l4) ≤ l3 then 0 else 1 : Int)) 44 1) + ((wr m 45 l4 (if (m (l1 + 3) l4) ≤ l3 then 0 else 1 : Int)) 45 l4))) 45 l4) ∧ ((wr (wr m 45 l4 (if (m (l1 + 3) l4) ≤ l3 then 0 else 1 : Int)) 44 1 (((wr m 45 l4 (if (m (l1 + 3) l4) ≤ l3 then 0 else 1 : Int)) 44 1) + ((wr m 45 l4 (if (m (l1 + 3) l4) ≤ l3 then 0 else 1 : Int)) 45 l4))) 45 l4) < 2147483648)) ∧ S_X4_inOrder sc d 10 [aR 44, aR l1, aI l2, aI ((if ((wr (wr m 45 l4 (if (m (l1 + 3) l4) ≤ l3 then 0 else 1 : Int)) 44 1 (((wr m 45 l4 (if (m (l1 + 3) l4) ≤ l3 then 0 else 1 : Int)) 44 1) + ((wr m 45 l4 (if (m (l1 + 3) l4) ≤ l3 then 0 else 1 : Int)) 45 l4))) 45 l4) ≠ 1 then l3 else l2 : Int) - ((wr (wr m 45 l4 (if (m (l1 + 3) l4) ≤ l3 then 0 else 1 : Int)) 44 1 (((wr m 45 l4 (if (m (l1 + 3) l4) ≤ l3 then 0 else 1 : Int)) 44 1) + ((wr m 45 l4 (if (m (l1 + 3) l4) ≤ l3 then 0 else 1 : Int)) 45 l4))) (l1 + 3) l4)), aI (l4 + 1)] [] (wr (wr m 45 l4 (if (m (l1 + 3) l4) ≤ l3 then 0 else 1 : Int)) 44 1 (((wr m 45 l4 (if (m (l1 + 3) l4) ≤ l3 then 0 else 1 : Int)) 44 1) + ((wr m 45 l4 (if (m (l1 + 3) l4) ≤ l3 then 0 else 1 : Int)) 45 l4))) Q))) : S_X4_inOrder sc d 10 [aR 44, aR l1, aI l2, aI l3, aI l4] [] m Q := by
  refine x_iload (pc2 := 12) dX4_inOrder_10 rfl rfl ?_
  refine x_aload_n (pc2 := 13) dX4_inOrder_12 rfl rfl ?_
  refine x_getf (pc2 := 16) (v := aI (m l1 8)) fl_X4_58 (icr_0 Hl1) (fv_i _ (icr_0 Hl1) rfl) dX4_inOrder_13 rfl ?_
  obtain ⟨h1, k⟩ := k
  obtain ⟨h2, k⟩ := k
  obtain ⟨k1, k2⟩ := k
  refine x_icmp_ge (tgt := 89) (pc2 := 19) dX4_inOrder_16 (by decide) rfl h1 h2 (fun c3 => ?_) (fun c3 => ?_)
  · replace k := k1 c3
    exact x_return dX4_inOrder_89 rfl k
  · replace k := k2 c3
    refine x_aload_n (pc2 := 20) dX4_inOrder_19 rfl rfl ?_
    refine x_getf (pc2 := 23) (v := aR 45) fl_X4_9 ic_44 (vr_44_0 _) dX4_inOrder_20 rfl ?_
    refine x_iload (pc2 := 25) dX4_inOrder_23 rfl rfl ?_
    refine x_aload_n (pc2 := 26) dX4_inOrder_25 rfl rfl ?_
    refine x_getf (pc2 := 29) (v := aR (l1 + 3)) fl_X4_63 (icr_0 Hl1) (vrr_3 _ Hl1) dX4_inOrder_26 rfl ?_
    refine x_iload (pc2 := 31) dX4_inOrder_29 rfl rfl ?_
    obtain ⟨h4, k⟩ := k
    obtain ⟨h5, k⟩ := k
    refine x_iald (pc2 := 32) (icr_3 Hl1) h4 (by rw [(alr_3 Hl1)]; exact h5) dX4_inOrder_31 rfl ?_
    refine x_iload_n (pc2 := 33) dX4_inOrder_32 rfl rfl ?_
    obtain ⟨g8, k⟩ := k
    obtain ⟨g9, k⟩ := k
    have kj : S_X4_inOrder sc d 41 [aR 44, aR l1, aI l2, aI l3, aI l4] [aI (if (m (l1 + 3) l4) ≤ l3 then 0 else 1 : Int), aI l4, aR 45] m Q := by
      refine x_iast (pc2 := 42) ic_45 h4 (by rw [al_45]; exact h5) dX4_inOrder_41 rfl ?_
      refine x_aload_n (pc2 := 43) dX4_inOrder_42 rfl rfl ?_
      refine x_dup_r (pc2 := 44) dX4_inOrder_43 rfl (by decide) ?_
      refine x_getf (pc2 := 47) (v := aI ((wr m 45 l4 (if (m (l1 + 3) l4) ≤ l3 then 0 else 1 : Int)) 44 1)) fl_X4_55 ic_44 (fv_i _ ic_44 rfl) dX4_inOrder_44 rfl ?_
      refine x_aload_n (pc2 := 48) dX4_inOrder_47 rfl rfl ?_
      refine x_getf (pc2 := 51) (v := aR 45) fl_X4_9 ic_44 (vr_44_0 _) dX4_inOrder_48 rfl ?_
      refine x_iload (pc2 := 53) dX4_inOrder_51 rfl rfl ?_
      refine x_iald (pc2 := 54) ic_45 h4 (by rw [al_45]; exact h5) dX4_inOrder_53 rfl ?_
      refine x_iadd (pc2 := 55) dX4_inOrder_54 rfl ?_
      refine x_putf (pc2 := 58) (x := (((wr m 45 l4 (if (m (l1 + 3) l4) ≤ l3 then 0 else 1 : Int)) 44 1) + ((wr m 45 l4 (if (m (l1 + 3) l4) ≤ l3 then 0 else 1 : Int)) 45 l4))) fl_X4_55 ft_4_1 ic_44 (pv_i _ ic_44 rfl) (pn_i _) dX4_inOrder_55 rfl ?_
      refine x_aload_n (pc2 := 59) dX4_inOrder_58 rfl rfl ?_
      refine x_getf (pc2 := 62) (v := aR 45) fl_X4_9 ic_44 (vr_44_0 _) dX4_inOrder_59 rfl ?_
      refine x_iload (pc2 := 64) dX4_inOrder_62 rfl rfl ?_
      refine x_iald (pc2 := 65) ic_45 h4 (by rw [al_45]; exact h5) dX4_inOrder_64 rfl ?_
      refine x_iconst (pc2 := 66) dX4_inOrder_65 rfl ?_
      obtain ⟨g11, k⟩ := k
      have kj : S_X4_inOrder sc d 74 [aR 44, aR l1, aI l2, aI l3, aI l4] [aI (if ((wr (wr m 45 l4 (if (m (l1 + 3) l4) ≤ l3 then 0 else 1 : Int)) 44 1 (((wr m 45 l4 (if (m (l1 + 3) l4) ≤ l3 then 0 else 1 : Int)) 44 1) + ((wr m 45 l4 (if (m (l1 + 3) l4) ≤ l3 then 0 else 1 : Int)) 45 l4))) 45 l4) ≠ 1 then l3 else l2 : Int)] (wr (wr m 45 l4 (if (m (l1 + 3) l4) ≤ l3 then 0 else 1 : Int)) 44 1 (((wr m 45 l4 (if (m (l1 + 3) l4) ≤ l3 then 0 else 1 : Int)) 44 1) + ((wr m 45 l4 (if (m (l1 + 3) l4) ≤ l3 then 0 else 1 : Int)) 45 l4))) Q := by
        refine x_aload_n (pc2 := 75) dX4_inOrder_74 rfl rfl ?_
        refine x_getf (pc2 := 78) (v := aR (l1 + 3)) fl_X4_63 (icr_0 Hl1) (vrr_3 _ Hl1) dX4_inOrder_75 rfl ?_
        refine x_iload (pc2 := 80) dX4_inOrder_78 rfl rfl ?_
        refine x_iald (pc2 := 81) (icr_3 Hl1) h4 (by rw [(alr_3 Hl1)]; exact h5) dX4_inOrder_80 rfl ?_
        refine x_isub (pc2 := 82) dX4_inOrder_81 rfl ?_
        refine x_istore_n (pc2 := 83) (ls2 := [aR 44, aR l1, aI l2, aI ((if ((wr (wr m 45 l4 (if (m (l1 + 3) l4) ≤ l3 then 0 else 1 : Int)) 44 1 (((wr m 45 l4 (if (m (l1 + 3) l4) ≤ l3 then 0 else 1 : Int)) 44 1) + ((wr m 45 l4 (if (m (l1 + 3) l4) ≤ l3 then 0 else 1 : Int)) 45 l4))) 45 l4) ≠ 1 then l3 else l2 : Int) - ((wr (wr m 45 l4 (if (m (l1 + 3) l4) ≤ l3 then 0 else 1 : Int)) 44 1 (((wr m 45 l4 (if (m (l1 + 3) l4) ≤ l3 then 0 else 1 : Int)) 44 1) + ((wr m 45 l4 (if (m (l1 + 3) l4) ≤ l3 then 0 else 1 : Int)) 45 l4))) (l1 + 3) l4)), aI l4]) dX4_inOrder_82 rfl (by decide) rfl ?_
        refine x_iinc (pc2 := 86) (ls2 := [aR 44, aR l1, aI l2, aI ((if ((wr (wr m 45 l4 (if (m (l1 + 3) l4) ≤ l3 then 0 else 1 : Int)) 44 1 (((wr m 45 l4 (if (m (l1 + 3) l4) ≤ l3 then 0 else 1 : Int)) 44 1) + ((wr m 45 l4 (if (m (l1 + 3) l4) ≤ l3 then 0 else 1 : Int)) 45 l4))) 45 l4) ≠ 1 then l3 else l2 : Int) - ((wr (wr m 45 l4 (if (m (l1 + 3) l4) ≤ l3 then 0 else 1 : Int)) 44 1 (((wr m 45 l4 (if (m (l1 + 3) l4) ≤ l3 then 0 else 1 : Int)) 44 1) + ((wr m 45 l4 (if (m (l1 + 3) l4) ≤ l3 then 0 else 1 : Int)) 45 l4))) (l1 + 3) l4)), aI (l4 + 1)]) dX4_inOrder_83 rfl rfl (by decide) rfl ?_
        refine x_goto (tgt := 10) dX4_inOrder_86 (by decide) ?_
        exact k
      have h12 := g11 
      refine x_icmp_ne (tgt := 73) (pc2 := 69) dX4_inOrder_66 (by decide) rfl h12 (by decide) (fun c13 => ?_) (fun c13 => ?_)
      · skip
        refine x_iload_n (pc2 := 74) dX4_inOrder_73 rfl rfl ?_
        exact x_topI (if_pos c13) kj
      · skip
        refine x_iload_n (pc2 := 70) dX4_inOrder_69 rfl rfl ?_
        refine x_goto (tgt := 74) dX4_inOrder_70 (by decide) ?_
        exact x_topI (if_neg c13) kj
    have h14 := g8 
    have h15 := g9 
    refine x_icmp_le (tgt := 40) (pc2 := 36) dX4_inOrder_33 (by decide) rfl h14 h15 (fun c16 => ?_) (fun c16 => ?_)
    · skip
      refine x_iconst (pc2 := 41) dX4_inOrder_40 rfl ?_
      exact x_topI (if_pos c16) kj
    · skip
      refine x_iconst (pc2 := 37) dX4_inOrder_36 rfl ?_
      refine x_goto (tgt := 41) dX4_inOrder_37 (by decide) ?_
      exact x_topI (if_neg c16) kj
set_option maxRecDepth 4000 in
theorem g_X4_anyOrder_0 {sc : List Int} {d : Nat} {m : Mem} {Q : Option AV → Mem → Prop} {l1 l2 : Int} (Hl1 : RoomAt l1) (k : (-2147483648 ≤ (m 44 5) ∧ (m 44 5) < 2147483648) ∧ (-2147483648 ≤ l2 ∧ l2 < 2147483648) ∧ (((m 44 5) ≠ l2) → ((0 ≤ ((wr m 44 5 l2) l1 8)) ∧ (((wr m 44 5 l2) l1 8) < 11) ∧ S_X4_anyOrder sc d 30 [aR 44, aR l1, aI l2, aU, aU] [aI l2, aI 1, aI ((((wr m 44 5 l2) (l1 + 7) ((wr m 44 5 l2) l1 8)) + l2) - 1), aR 44] (wr m 44 5 l2) Q)) ∧ (¬ ((m 44 5) ≠ l2) → (Q none m))) : S_X4_anyOrder sc d 0 [aR 44, aR l1, aI l2, aU, aU] [] m Q := by
  refine x_aload_n (pc2 := 1) dX4_anyOrder_0 rfl rfl ?_
  refine x_getf (pc2 := 4) (v := aI (m 44 5)) fl_X4_48 ic_44 (fv_i _ ic_44 rfl) dX4_anyOrder_1 rfl ?_
  refine x_iload_n (pc2 := 5) dX4_anyOrder_4 rfl rfl ?_
  obtain ⟨h1, k⟩ := k
  obtain ⟨h2, k⟩ := k
  obtain ⟨k1, k2⟩ := k
  refine x_icmp_ne (tgt := 9) (pc2 := 8) dX4_anyOrder_5 (by decide) rfl h1 h2 (fun c3 => ?_) (fun c3 => ?_)
  · replace k := k1 c3
    refine x_aload_n (pc2 := 10) dX4_anyOrder_9 rfl rfl ?_
    refine x_iload_n (pc2 := 11) dX4_anyOrder_10 rfl rfl ?_
    refine x_putf (pc2 := 14) (x := l2) fl_X4_48 ft_4_5 ic_44 (pv_i _ ic_44 rfl) (pn_i _) dX4_anyOrder_11 rfl ?_
    refine x_aload_n (pc2 := 15) dX4_anyOrder_14 rfl rfl ?_
    refine x_aload_n (pc2 := 16) dX4_anyOrder_15 rfl rfl ?_
    refine x_getf (pc2 := 19) (v := aR (l1 + 7)) fl_X4_66 (icr_0 Hl1) (vrr_7 _ Hl1) dX4_anyOrder_16 rfl ?_
    refine x_aload_n (pc2 := 20) dX4_anyOrder_19 rfl rfl ?_
    refine x_getf (pc2 := 23) (v := aI ((wr m 44 5 l2) l1 8)) fl_X4_58 (icr_0 Hl1) (fv_i _ (icr_0 Hl1) rfl) dX4_anyOrder_20 rfl ?_
    obtain ⟨h4, k⟩ := k
    obtain ⟨h5, k⟩ := k
    refine x_iald (pc2 := 24) (icr_7 Hl1) h4 (by rw [(alr_7 Hl1)]; exact h5) dX4_anyOrder_23 rfl ?_
    refine x_iload_n (pc2 := 25) dX4_anyOrder_24 rfl rfl ?_
    refine x_iadd (pc2 := 26) dX4_anyOrder_25 rfl ?_
    refine x_iconst (pc2 := 27) dX4_anyOrder_26 rfl ?_
    refine x_isub (pc2 := 28) dX4_anyOrder_27 rfl ?_
    refine x_iconst (pc2 := 29) dX4_anyOrder_28 rfl ?_
    refine x_iload_n (pc2 := 30) dX4_anyOrder_29 rfl rfl ?_
    exact k
  · replace k := k2 c3
    exact x_return dX4_anyOrder_8 rfl k
set_option maxRecDepth 4000 in
theorem g_X4_anyOrder_33 {sc : List Int} {d : Nat} {m : Mem} {Q : Option AV → Mem → Prop} {l1 l2 s1 s2 : Int} (Hl1 : RoomAt l1) (k : (-2147483648 ≤ s1 ∧ s1 < 2147483648) ∧ (-2147483648 ≤ s2 ∧ s2 < 2147483648) ∧ (s2 ≠ 0) ∧ S_X4_anyOrder sc d 39 [aR 44, aR l1, aI l2, aI 0, aU] [] (wr m 44 4 (s1.tdiv s2)) Q) : S_X4_anyOrder sc d 33 [aR 44, aR l1, aI l2, aU, aU] [aI s2, aI s1, aR 44] m Q := by
  obtain ⟨h1, k⟩ := k
  obtain ⟨h2, k⟩ := k
  obtain ⟨h3, k⟩ := k
  refine x_idiv (pc2 := 34) dX4_anyOrder_33 rfl h1 h2 h3 ?_
  refine x_putf (pc2 := 37) (x := (s1.tdiv s2)) fl_X4_75 ft_4_4 ic_44 (pv_i _ ic_44 rfl) (pn_i _) dX4_anyOrder_34 rfl ?_
  refine x_iconst (pc2 := 38) dX4_anyOrder_37 rfl ?_
  refine x_istore_n (pc2 := 39) (ls2 := [aR 44, aR l1, aI l2, aI 0, aU]) dX4_anyOrder_38 rfl (by decide) rfl ?_
  exact k
set_option maxRecDepth 4000 in
theorem g_X4_anyOrder_39 {sc : List Int} {d : Nat} {m : Mem} {Q : Option AV → Mem → Prop} {l1 l2 l3 : Int} (Hl1 : RoomAt l1) (k : (-2147483648 ≤ l3 ∧ l3 < 2147483648) ∧ ((10 ≤ l3) → (Q none m)) ∧ (¬ (10 ≤ l3) → (S_X4_anyOrder sc d 48 [aR 44, aR l1, aI l2, aI l3, aI 0] [] m Q))) : S_X4_anyOrder sc d 39 [aR 44, aR l1, aI l2, aI l3, aU] [] m Q := by
  refine x_iload_n (pc2 := 40) dX4_anyOrder_39 rfl rfl ?_
  refine x_bipush (pc2 := 42) dX4_anyOrder_40 rfl rfl ?_
  obtain ⟨h1, k⟩ := k
  obtain ⟨k1, k2⟩ := k
  refine x_icmp_ge (tgt := 96) (pc2 := 45) dX4_anyOrder_42 (by decide) rfl h1 (by decide) (fun c2 => ?_) (fun c2 => ?_)
  · replace k := k1 c2
    exact x_return dX4_anyOrder_96 rfl k
  · replace k := k2 c2
    refine x_iconst (pc2 := 46) dX4_anyOrder_45 rfl ?_
    refine x_istore (pc2 := 48) (ls2 := [aR 44, aR l1, aI l2, aI l3, aI 0]) dX4_anyOrder_46 rfl (by decide) rfl ?_
    exact k
set_option maxRecDepth 4000 in
theorem g_X4_anyOrder_48 {sc : List Int} {d : Nat} {m : Mem} {Q : Option AV → Mem → Prop} {l1 l2 l3 l4 : Int} (Hl1 : RoomAt l1) (k : (-2147483648 ≤ l4 ∧ l4 < 2147483648) ∧ ((10 ≤ l4) → (S_X4_anyOrder sc d 73 [aR 44, aR l1, aI l2, aI l3, aU] [aI 0, aI l2, aR l1, aR 44] m Q)) ∧ (¬ (10 ≤ l4) → ((0 ≤ l4) ∧ (l4 < 10) ∧ S_X4_anyOrder sc d 48 [aR 44, aR l1, aI l2, aI l3, aI (l4 + 1)] [] (wr m 47 l4 0) Q))) : S_X4_anyOrder sc d 48 [aR 44, aR l1, aI l2, aI l3, aI l4] [] m Q := by
  refine x_iload (pc2 := 50) dX4_anyOrder_48 rfl rfl ?_
  refine x_bipush (pc2 := 52) dX4_anyOrder_50 rfl rfl ?_
  obtain ⟨h1, k⟩ := k
  obtain ⟨k1, k2⟩ := k
  refine x_icmp_ge (tgt := 69) (pc2 := 55) dX4_anyOrder_52 (by decide) rfl h1 (by decide) (fun c2 => ?_) (fun c2 => ?_)
  · replace k := k1 c2
    refine x_aload_n (pc2 := 70) dX4_anyOrder_69 rfl rfl ?_
    refine x_aload_n (pc2 := 71) dX4_anyOrder_70 rfl rfl ?_
    refine x_iload_n (pc2 := 72) dX4_anyOrder_71 rfl rfl ?_
    refine x_iconst (pc2 := 73) dX4_anyOrder_72 rfl ?_
    exact x_drop (drp_k (drp_k (drp_k (drp_k (drp_u drp_n))))) k
  · replace k := k2 c2
    refine x_aload_n (pc2 := 56) dX4_anyOrder_55 rfl rfl ?_
    refine x_getf (pc2 := 59) (v := aR 47) fl_X4_18 ic_44 (vr_44_3 _) dX4_anyOrder_56 rfl ?_
    refine x_iload (pc2 := 61) dX4_anyOrder_59 rfl rfl ?_
    refine x_iconst (pc2 := 62) dX4_anyOrder_61 rfl ?_
    obtain ⟨h3, k⟩ := k
    obtain ⟨h4, k⟩ := k
    refine x_iast (pc2 := 63) ic_47 h3 (by rw [al_47]; exact h4) dX4_anyOrder_62 rfl ?_
    refine x_iinc (pc2 := 66) (ls2 := [aR 44, aR l1, aI l2, aI l3, aI (l4 + 1)]) dX4_anyOrder_63 rfl rfl (by decide) rfl ?_
    refine x_goto (tgt := 48) dX4_anyOrder_66 (by decide) ?_
    exact k
set_option maxRecDepth 4000 in
theorem g_X4_anyOrder_76 {sc : List Int} {d : Nat} {m : Mem} {Q : Option AV → Mem → Prop} {l1 l2 l3 s0 : Int} (Hl1 : RoomAt l1) (k : (-2147483648 ≤ s0 ∧ s0 < 2147483648) ∧ ((s0 = 0) → (S_X4_anyOrder sc d 39 [aR 44, aR l1, aI l2, aI (l3 + 1), aU] [] (wr m 44 4 ((m 44 4) + 1)) Q)) ∧ (¬ (s0 = 0) → (Q none m))) : S_X4_anyOrder sc d 76 [aR 44, aR l1, aI l2, aI l3, aU] [aI s0] m Q := by
  obtain ⟨h1, k⟩ := k
  obtain ⟨k1, k2⟩ := k
  refine x_if_eq (tgt := 80) (pc2 := 79) dX4_anyOrder_76 (by decide) rfl h1 (fun c2 => ?_) (fun c2 => ?_)
  · replace k := k1 c2
    refine x_aload_n (pc2 := 81) dX4_anyOrder_80 rfl rfl ?_
    refine x_dup_r (pc2 := 82) dX4_anyOrder_81 rfl (by decide) ?_
    refine x_getf (pc2 := 85) (v := aI (m 44 4)) fl_X4_75 ic_44 (fv_i _ ic_44 rfl) dX4_anyOrder_82 rfl ?_
    refine x_iconst (pc2 := 86) dX4_anyOrder_85 rfl ?_
    refine x_iadd (pc2 := 87) dX4_anyOrder_86 rfl ?_
    refine x_putf (pc2 := 90) (x := ((m 44 4) + 1)) fl_X4_75 ft_4_4 ic_44 (pv_i _ ic_44 rfl) (pn_i _) dX4_anyOrder_87 rfl ?_
    refine x_iinc (pc2 := 93) (ls2 := [aR 44, aR l1, aI l2, aI (l3 + 1), aU]) dX4_anyOrder_90 rfl rfl (by decide) rfl ?_
    refine x_goto (tgt := 39) dX4_anyOrder_93 (by decide) ?_
    exact k
  · replace k := k2 c2
    exact x_return dX4_anyOrder_79 rfl k
theorem c_X4_anyOrder_30 {sc : List Int} {d d2 : Nat} {m m2 : Mem} {Q : Option AV → Mem → Prop} {l1 l2 s1 s2 s3 : Int} {v : Int} (Hl1 : RoomAt l1) (hM : C_J9_max_7cf53 sc d2 [aI s2, aI s3] m (some (aI v)) m2) (hd : d2 + 1 ≤ d) (k : S_X4_anyOrder sc d 33 [aR 44, aR l1, aI l2, aU, aU] [aI v, aI s1, aR 44] m2 Q) : S_X4_anyOrder sc d 30 [aR 44, aR l1, aI l2, aU, aU] [aI s3, aI s2, aI s1, aR 44] m Q := x_callS (as := [aI s2, aI s3]) (rest := [aI s1, aR 44]) hM mk_J9_max_7cf53 ms_J9_max_7cf53 lk_X4_69 hd rfl rfl (Nat.le_of_ble_eq_true rfl) dX4_anyOrder_30 rfl k
theorem c_X4_anyOrder_73 {sc : List Int} {d d2 : Nat} {m m2 : Mem} {Q : Option AV → Mem → Prop} {l1 l2 l3 s1 s2 s3 : Int} {v : Int} (Hl1 : RoomAt l1) (Hs1 : RoomAt s1) (hM : C_X4_packs sc d2 [aR 44, aR s1, aI s2, aI s3] m (some (aI v)) m2) (hd : d2 + 1 ≤ d) (k : S_X4_anyOrder sc d 76 [aR 44, aR l1, aI l2, aI l3, aU] [aI v] m2 Q) : S_X4_anyOrder sc d 73 [aR 44, aR l1, aI l2, aI l3, aU] [aI s3, aI s2, aR s1, aR 44] m Q := x_callV (as := [aR s1, aI s2, aI s3]) (rest := []) hM mk_X4_packs mv_X4_packs lk_X4_78 (Or.inl ⟨4, (RX4, TX4, 19), ic_44, Nat.le_of_ble_eq_true rfl, rfl, rfl⟩) hd rfl rfl (Nat.le_of_ble_eq_true rfl) dX4_anyOrder_73 rfl k
set_option maxRecDepth 4000 in
theorem g_X4_packs_0 {sc : List Int} {d : Nat} {m : Mem} {Q : Option AV → Mem → Prop} {l1 l2 l3 : Int} (Hl1 : RoomAt l1) (k : (-2147483648 ≤ l3 ∧ l3 < 2147483648) ∧ (-2147483648 ≤ (m l1 8) ∧ (m l1 8) < 2147483648) ∧ ((l3 < (m l1 8)) → ((0 ≤ l3) ∧ (l3 < 10) ∧ S_X4_packs sc d 21 [aR 44, aR l1, aI l2, aI l3, aI (m (l1 + 3) l3), aI 0] [] m Q)) ∧ (¬ (l3 < (m l1 8)) → (Q (some (aI 1)) m))) : S_X4_packs sc d 0 [aR 44, aR l1, aI l2, aI l3, aU, aU] [] m Q := by
  refine x_iload_n (pc2 := 1) dX4_packs_0 rfl rfl ?_
  refine x_aload_n (pc2 := 2) dX4_packs_1 rfl rfl ?_
  refine x_getf (pc2 := 5) (v := aI (m l1 8)) fl_X4_58 (icr_0 Hl1) (fv_i _ (icr_0 Hl1) rfl) dX4_packs_2 rfl ?_
  obtain ⟨h1, k⟩ := k
  obtain ⟨h2, k⟩ := k
  obtain ⟨k1, k2⟩ := k
  refine x_icmp_lt (tgt := 10) (pc2 := 8) dX4_packs_5 (by decide) rfl h1 h2 (fun c3 => ?_) (fun c3 => ?_)
  · replace k := k1 c3
    refine x_aload_n (pc2 := 11) dX4_packs_10 rfl rfl ?_
    refine x_getf (pc2 := 14) (v := aR (l1 + 3)) fl_X4_63 (icr_0 Hl1) (vrr_3 _ Hl1) dX4_packs_11 rfl ?_
    refine x_iload_n (pc2 := 15) dX4_packs_14 rfl rfl ?_
    obtain ⟨h4, k⟩ := k
    obtain ⟨h5, k⟩ := k
    refine x_iald (pc2 := 16) (icr_3 Hl1) h4 (by rw [(alr_3 Hl1)]; exact h5) dX4_packs_15 rfl ?_
    refine x_istore (pc2 := 18) (ls2 := [aR 44, aR l1, aI l2, aI l3, aI (m (l1 + 3) l3), aU]) dX4_packs_16 rfl (by decide) rfl ?_
    refine x_iconst (pc2 := 19) dX4_packs_18 rfl ?_
    refine x_istore (pc2 := 21) (ls2 := [aR 44, aR l1, aI l2, aI l3, aI (m (l1 + 3) l3), aI 0]) dX4_packs_19 rfl (by decide) rfl ?_
    exact k
  · replace k := k2 c3
    refine x_iconst (pc2 := 9) dX4_packs_8 rfl ?_
    exact x_ireturn dX4_packs_9 ⟨.boolean, rfl, rfl⟩ k
set_option maxRecDepth 4000 in
theorem g_X4_packs_21 {sc : List Int} {d : Nat} {m : Mem} {Q : Option AV → Mem → Prop} {l1 l2 l3 l4 l5 : Int} (Hl1 : RoomAt l1) (k : (-2147483648 ≤ l5 ∧ l5 < 2147483648) ∧ (-2147483648 ≤ (m 44 4) ∧ (m 44 4) < 2147483648) ∧ (((m 44 4) ≤ l5) → (Q (some (aI 0)) m)) ∧ (¬ ((m 44 4) ≤ l5) → (((10 ≤ l5) → (Q (some (aI 0)) m)) ∧ (¬ (10 ≤ l5) → ((0 ≤ l5) ∧ (l5 < 10) ∧ (-2147483648 ≤ ((m 47 l5) + l4) ∧ ((m 47 l5) + l4) < 2147483648) ∧ (-2147483648 ≤ l2 ∧ l2 < 2147483648) ∧ ((l2 < ((m 47 l5) + l4)) → (S_X4_packs sc d 21 [aR 44, aR l1, aI l2, aI l3, aI l4, aI (l5 + 1)] [] m Q)) ∧ (¬ (l2 < ((m 47 l5) + l4)) → (S_X4_packs sc d 54 [aR 44, aR l1, aI l2, aI l3, aI l4, aI l5] [aI l5, aR 44] m Q))))))) : S_X4_packs sc d 21 [aR 44, aR l1, aI l2, aI l3, aI l4, aI l5] [] m Q := by
  refine x_iload (pc2 := 23) dX4_packs_21 rfl rfl ?_
  refine x_aload_n (pc2 := 24) dX4_packs_23 rfl rfl ?_
  refine x_getf (pc2 := 27) (v := aI (m 44 4)) fl_X4_75 ic_44 (fv_i _ ic_44 rfl) dX4_packs_24 rfl ?_
  obtain ⟨h1, k⟩ := k
  obtain ⟨h2, k⟩ := k
  obtain ⟨k1, k2⟩ := k
  refine x_icmp_ge (tgt := 112) (pc2 := 30) dX4_packs_27 (by decide) rfl h1 h2 (fun c3 => ?_) (fun c3 => ?_)
  · replace k := k1 c3
    refine x_iconst (pc2 := 113) dX4_packs_112 rfl ?_
    exact x_ireturn dX4_packs_113 ⟨.boolean, rfl, rfl⟩ k
  · replace k := k2 c3
    refine x_iload (pc2 := 32) dX4_packs_30 rfl rfl ?_
    refine x_bipush (pc2 := 34) dX4_packs_32 rfl rfl ?_
    obtain ⟨k1, k2⟩ := k
    refine x_icmp_ge (tgt := 112) (pc2 := 37) dX4_packs_34 (by decide) rfl h1 (by decide) (fun c4 => ?_) (fun c4 => ?_)
    · replace k := k1 c4
      refine x_iconst (pc2 := 113) dX4_packs_112 rfl ?_
      exact x_ireturn dX4_packs_113 ⟨.boolean, rfl, rfl⟩ k
    · replace k := k2 c4
      refine x_aload_n (pc2 := 38) dX4_packs_37 rfl rfl ?_
      refine x_getf (pc2 := 41) (v := aR 47) fl_X4_18 ic_44 (vr_44_3 _) dX4_packs_38 rfl ?_
      refine x_iload (pc2 := 43) dX4_packs_41 rfl rfl ?_
      obtain ⟨h5, k⟩ := k
      obtain ⟨h6, k⟩ := k
      refine x_iald (pc2 := 44) ic_47 h5 (by rw [al_47]; exact h6) dX4_packs_43 rfl ?_
      refine x_iload (pc2 := 46) dX4_packs_44 rfl rfl ?_
      refine x_iadd (pc2 := 47) dX4_packs_46 rfl ?_
      refine x_iload_n (pc2 := 48) dX4_packs_47 rfl rfl ?_
      obtain ⟨h7, k⟩ := k
      obtain ⟨h8, k⟩ := k
      obtain ⟨k1, k2⟩ := k
      refine x_icmp_gt (tgt := 106) (pc2 := 51) dX4_packs_48 (by decide) rfl h7 h8 (fun c9 => ?_) (fun c9 => ?_)
      · replace k := k1 c9
        refine x_iinc (pc2 := 109) (ls2 := [aR 44, aR l1, aI l2, aI l3, aI l4, aI (l5 + 1)]) dX4_packs_106 rfl rfl (by decide) rfl ?_
        refine x_goto (tgt := 21) dX4_packs_109 (by decide) ?_
        exact k
      · replace k := k2 c9
        refine x_aload_n (pc2 := 52) dX4_packs_51 rfl rfl ?_
        refine x_iload (pc2 := 54) dX4_packs_52 rfl rfl ?_
        exact k
set_option maxRecDepth 4000 in
theorem g_X4_packs_57 {sc : List Int} {d : Nat} {m : Mem} {Q : Option AV → Mem → Prop} {l1 l2 l3 l4 l5 s0 : Int} (Hl1 : RoomAt l1) (k : (-2147483648 ≤ s0 ∧ s0 < 2147483648) ∧ ((s0 ≠ 0) → (S_X4_packs sc d 21 [aR 44, aR l1, aI l2, aI l3, aI l4, aI (l5 + 1)] [] m Q)) ∧ (¬ (s0 ≠ 0) → ((0 ≤ l5) ∧ (l5 < 10) ∧ (0 ≤ l3) ∧ (l3 < 10) ∧ S_X4_packs sc d 86 [aR 44, aR l1, aI l2, aI l3, aI l4, aI l5] [aI (l3 + 1), aI l2, aR l1, aR 44] (wr (wr m 47 l5 ((m 47 l5) + l4)) 46 l3 l5) Q))) : S_X4_packs sc d 57 [aR 44, aR l1, aI l2, aI l3, aI l4, aI l5] [aI s0] m Q := by
  obtain ⟨h1, k⟩ := k
  obtain ⟨k1, k2⟩ := k
  refine x_if_ne (tgt := 106) (pc2 := 60) dX4_packs_57 (by decide) rfl h1 (fun c2 => ?_) (fun c2 => ?_)
  · replace k := k1 c2
    refine x_iinc (pc2 := 109) (ls2 := [aR 44, aR l1, aI l2, aI l3, aI l4, aI (l5 + 1)]) dX4_packs_106 rfl rfl (by decide) rfl ?_
    refine x_goto (tgt := 21) dX4_packs_109 (by decide) ?_
    exact k
  · replace k := k2 c2
    refine x_aload_n (pc2 := 61) dX4_packs_60 rfl rfl ?_
    refine x_getf (pc2 := 64) (v := aR 47) fl_X4_18 ic_44 (vr_44_3 _) dX4_packs_61 rfl ?_
    refine x_iload (pc2 := 66) dX4_packs_64 rfl rfl ?_
    refine x_dup2_ri (pc2 := 67) dX4_packs_66 rfl (by decide) ?_
    obtain ⟨h3, k⟩ := k
    obtain ⟨h4, k⟩ := k
    refine x_iald (pc2 := 68) ic_47 h3 (by rw [al_47]; exact h4) dX4_packs_67 rfl ?_
    refine x_iload (pc2 := 70) dX4_packs_68 rfl rfl ?_
    refine x_iadd (pc2 := 71) dX4_packs_70 rfl ?_
    refine x_iast (pc2 := 72) ic_47 h3 (by rw [al_47]; exact h4) dX4_packs_71 rfl ?_
    refine x_aload_n (pc2 := 73) dX4_packs_72 rfl rfl ?_
    refine x_getf (pc2 := 76) (v := aR 46) fl_X4_15 ic_44 (vr_44_2 _) dX4_packs_73 rfl ?_
    refine x_iload_n (pc2 := 77) dX4_packs_76 rfl rfl ?_
    refine x_iload (pc2 := 79) dX4_packs_77 rfl rfl ?_
    obtain ⟨h5, k⟩ := k
    obtain ⟨h6, k⟩ := k
    refine x_iast (pc2 := 80) ic_46 h5 (by rw [al_46]; exact h6) dX4_packs_79 rfl ?_
    refine x_aload_n (pc2 := 81) dX4_packs_80 rfl rfl ?_
    refine x_aload_n (pc2 := 82) dX4_packs_81 rfl rfl ?_
    refine x_iload_n (pc2 := 83) dX4_packs_82 rfl rfl ?_
    refine x_iload_n (pc2 := 84) dX4_packs_83 rfl rfl ?_
    refine x_iconst (pc2 := 85) dX4_packs_84 rfl ?_
    refine x_iadd (pc2 := 86) dX4_packs_85 rfl ?_
    exact k
set_option maxRecDepth 4000 in
theorem g_X4_packs_89 {sc : List Int} {d : Nat} {m : Mem} {Q : Option AV → Mem → Prop} {l1 l2 l3 l4 l5 s0 : Int} (Hl1 : RoomAt l1) (k : (-2147483648 ≤ s0 ∧ s0 < 2147483648) ∧ ((s0 = 0) → ((0 ≤ l5) ∧ (l5 < 10) ∧ S_X4_packs sc d 21 [aR 44, aR l1, aI l2, aI l3, aI l4, aI (l5 + 1)] [] (wr m 47 l5 ((m 47 l5) - l4)) Q)) ∧ (¬ (s0 = 0) → (Q (some (aI 1)) m))) : S_X4_packs sc d 89 [aR 44, aR l1, aI l2, aI l3, aI l4, aI l5] [aI s0] m Q := by
  obtain ⟨h1, k⟩ := k
  obtain ⟨k1, k2⟩ := k
  refine x_if_eq (tgt := 94) (pc2 := 92) dX4_packs_89 (by decide) rfl h1 (fun c2 => ?_) (fun c2 => ?_)
  · replace k := k1 c2
    refine x_aload_n (pc2 := 95) dX4_packs_94 rfl rfl ?_
    refine x_getf (pc2 := 98) (v := aR 47) fl_X4_18 ic_44 (vr_44_3 _) dX4_packs_95 rfl ?_
    refine x_iload (pc2 := 100) dX4_packs_98 rfl rfl ?_
    refine x_dup2_ri (pc2 := 101) dX4_packs_100 rfl (by decide) ?_
    obtain ⟨h3, k⟩ := k
    obtain ⟨h4, k⟩ := k
    refine x_iald (pc2 := 102) ic_47 h3 (by rw [al_47]; exact h4) dX4_packs_101 rfl ?_
    refine x_iload (pc2 := 104) dX4_packs_102 rfl rfl ?_
    refine x_isub (pc2 := 105) dX4_packs_104 rfl ?_
    refine x_iast (pc2 := 106) ic_47 h3 (by rw [al_47]; exact h4) dX4_packs_105 rfl ?_
    refine x_iinc (pc2 := 109) (ls2 := [aR 44, aR l1, aI l2, aI l3, aI l4, aI (l5 + 1)]) dX4_packs_106 rfl rfl (by decide) rfl ?_
    refine x_goto (tgt := 21) dX4_packs_109 (by decide) ?_
    exact k
  · replace k := k2 c2
    refine x_iconst (pc2 := 93) dX4_packs_92 rfl ?_
    exact x_ireturn dX4_packs_93 ⟨.boolean, rfl, rfl⟩ k
theorem c_X4_packs_54 {sc : List Int} {d d2 : Nat} {m m2 : Mem} {Q : Option AV → Mem → Prop} {l1 l2 l3 l4 l5 s1 : Int} {v : Int} (Hl1 : RoomAt l1) (hM : C_X4_isLoadAhead sc d2 [aR 44, aI s1] m (some (aI v)) m2) (hd : d2 + 1 ≤ d) (k : S_X4_packs sc d 57 [aR 44, aR l1, aI l2, aI l3, aI l4, aI l5] [aI v] m2 Q) : S_X4_packs sc d 54 [aR 44, aR l1, aI l2, aI l3, aI l4, aI l5] [aI s1, aR 44] m Q := x_callV (as := [aI s1]) (rest := []) hM mk_X4_isLoadAhead mv_X4_isLoadAhead lk_X4_82 (Or.inl ⟨4, (RX4, TX4, 19), ic_44, Nat.le_of_ble_eq_true rfl, rfl, rfl⟩) hd rfl rfl (Nat.le_of_ble_eq_true rfl) dX4_packs_54 rfl k
theorem c_X4_packs_86 {sc : List Int} {d d2 : Nat} {m m2 : Mem} {Q : Option AV → Mem → Prop} {l1 l2 l3 l4 l5 s1 s2 s3 : Int} {v : Int} (Hl1 : RoomAt l1) (Hs1 : RoomAt s1) (hM : C_X4_packs sc d2 [aR 44, aR s1, aI s2, aI s3] m (some (aI v)) m2) (hd : d2 + 1 ≤ d) (k : S_X4_packs sc d 89 [aR 44, aR l1, aI l2, aI l3, aI l4, aI l5] [aI v] m2 Q) : S_X4_packs sc d 86 [aR 44, aR l1, aI l2, aI l3, aI l4, aI l5] [aI s3, aI s2, aR s1, aR 44] m Q := x_callV (as := [aR s1, aI s2, aI s3]) (rest := []) hM mk_X4_packs mv_X4_packs lk_X4_78 (Or.inl ⟨4, (RX4, TX4, 19), ic_44, Nat.le_of_ble_eq_true rfl, rfl, rfl⟩) hd rfl rfl (Nat.le_of_ble_eq_true rfl) dX4_packs_86 rfl k
set_option maxRecDepth 4000 in
theorem g_X4_isLoadAhead_0 {sc : List Int} {d : Nat} {m : Mem} {Q : Option AV → Mem → Prop} {l1 : Int} (k : S_X4_isLoadAhead sc d 2 [aR 44, aI l1, aI 0] [] m Q) : S_X4_isLoadAhead sc d 0 [aR 44, aI l1, aU] [] m Q := by
  refine x_iconst (pc2 := 1) dX4_isLoadAhead_0 rfl ?_
  refine x_istore_n (pc2 := 2) (ls2 := [aR 44, aI l1, aI 0]) dX4_isLoadAhead_1 rfl (by decide) rfl ?_
  exact k
set_option maxRecDepth 4000 in
theorem g_X4_isLoadAhead_2 {sc : List Int} {d : Nat} {m : Mem} {Q : Option AV → Mem → Prop} {l1 l2 : Int} (k : (-2147483648 ≤ l2 ∧ l2 < 2147483648) ∧ (-2147483648 ≤ l1 ∧ l1 < 2147483648) ∧ ((l1 ≤ l2) → (Q (some (aI 0)) m)) ∧ (¬ (l1 ≤ l2) → ((0 ≤ l2) ∧ (l2 < 10) ∧ (0 ≤ l1) ∧ (l1 < 10) ∧ (-2147483648 ≤ (m 47 l2) ∧ (m 47 l2) < 2147483648) ∧ (-2147483648 ≤ (m 47 l1) ∧ (m 47 l1) < 2147483648) ∧ (((m 47 l2) ≠ (m 47 l1)) → (S_X4_isLoadAhead sc d 2 [aR 44, aI l1, aI (l2 + 1)] [] m Q)) ∧ (¬ ((m 47 l2) ≠ (m 47 l1)) → (Q (some (aI 1)) m))))) : S_X4_isLoadAhead sc d 2 [aR 44, aI l1, aI l2] [] m Q := by
  refine x_iload_n (pc2 := 3) dX4_isLoadAhead_2 rfl rfl ?_
  refine x_iload_n (pc2 := 4) dX4_isLoadAhead_3 rfl rfl ?_
  obtain ⟨h1, k⟩ := k
  obtain ⟨h2, k⟩ := k
  obtain ⟨k1, k2⟩ := k
  refine x_icmp_ge (tgt := 30) (pc2 := 7) dX4_isLoadAhead_4 (by decide) rfl h1 h2 (fun c3 => ?_) (fun c3 => ?_)
  · replace k := k1 c3
    refine x_iconst (pc2 := 31) dX4_isLoadAhead_30 rfl ?_
    exact x_ireturn dX4_isLoadAhead_31 ⟨.boolean, rfl, rfl⟩ k
  · replace k := k2 c3
    refine x_aload_n (pc2 := 8) dX4_isLoadAhead_7 rfl rfl ?_
    refine x_getf (pc2 := 11) (v := aR 47) fl_X4_18 ic_44 (vr_44_3 _) dX4_isLoadAhead_8 rfl ?_
    refine x_iload_n (pc2 := 12) dX4_isLoadAhead_11 rfl rfl ?_
    obtain ⟨h4, k⟩ := k
    obtain ⟨h5, k⟩ := k
    refine x_iald (pc2 := 13) ic_47 h4 (by rw [al_47]; exact h5) dX4_isLoadAhead_12 rfl ?_
    refine x_aload_n (pc2 := 14) dX4_isLoadAhead_13 rfl rfl ?_
    refine x_getf (pc2 := 17) (v := aR 47) fl_X4_18 ic_44 (vr_44_3 _) dX4_isLoadAhead_14 rfl ?_
    refine x_iload_n (pc2 := 18) dX4_isLoadAhead_17 rfl rfl ?_
    obtain ⟨h6, k⟩ := k
    obtain ⟨h7, k⟩ := k
    refine x_iald (pc2 := 19) ic_47 h6 (by rw [al_47]; exact h7) dX4_isLoadAhead_18 rfl ?_
    obtain ⟨h8, k⟩ := k
    obtain ⟨h9, k⟩ := k
    obtain ⟨k1, k2⟩ := k
    refine x_icmp_ne (tgt := 24) (pc2 := 22) dX4_isLoadAhead_19 (by decide) rfl h8 h9 (fun c10 => ?_) (fun c10 => ?_)
    · replace k := k1 c10
      refine x_iinc (pc2 := 27) (ls2 := [aR 44, aI l1, aI (l2 + 1)]) dX4_isLoadAhead_24 rfl rfl (by decide) rfl ?_
      refine x_goto (tgt := 2) dX4_isLoadAhead_27 (by decide) ?_
      exact k
    · replace k := k2 c10
      refine x_iconst (pc2 := 23) dX4_isLoadAhead_22 rfl ?_
      exact x_ireturn dX4_isLoadAhead_23 ⟨.boolean, rfl, rfl⟩ k
set_option maxRecDepth 4000 in
theorem g_X4_share_0 {sc : List Int} {d : Nat} {m : Mem} {Q : Option AV → Mem → Prop} {l1 l2 : Int} (Hl1 : RoomAt l1) (k : (-2147483648 ≤ (m 44 11) ∧ (m 44 11) < 2147483648) ∧ (-2147483648 ≤ l2 ∧ l2 < 2147483648) ∧ (((m 44 11) ≠ l2) → (S_X4_share sc d 25 [aR 44, aU, aU] [aI 0, aI 0, aI l2, aR l1, aR 44] (wr (wr m 44 11 l2) 44 10 2147483647) Q)) ∧ (¬ ((m 44 11) ≠ l2) → (Q none m))) : S_X4_share sc d 0 [aR 44, aR l1, aI l2] [] m Q := by
  refine x_aload_n (pc2 := 1) dX4_share_0 rfl rfl ?_
  refine x_getf (pc2 := 4) (v := aI (m 44 11)) fl_X4_52 ic_44 (fv_i _ ic_44 rfl) dX4_share_1 rfl ?_
  refine x_iload_n (pc2 := 5) dX4_share_4 rfl rfl ?_
  obtain ⟨h1, k⟩ := k
  obtain ⟨h2, k⟩ := k
  obtain ⟨k1, k2⟩ := k
  refine x_icmp_ne (tgt := 9) (pc2 := 8) dX4_share_5 (by decide) rfl h1 h2 (fun c3 => ?_) (fun c3 => ?_)
  · replace k := k1 c3
    refine x_aload_n (pc2 := 10) dX4_share_9 rfl rfl ?_
    refine x_iload_n (pc2 := 11) dX4_share_10 rfl rfl ?_
    refine x_putf (pc2 := 14) (x := l2) fl_X4_52 ft_4_11 ic_44 (pv_i _ ic_44 rfl) (pn_i _) dX4_share_11 rfl ?_
    refine x_aload_n (pc2 := 15) dX4_share_14 rfl rfl ?_
    refine x_ldc (pc2 := 17) (x := 2147483647) kc_X4_88 rfl dX4_share_15 rfl ?_
    refine x_putf (pc2 := 20) (x := 2147483647) fl_X4_89 ft_4_10 ic_44 (pv_i _ ic_44 rfl) (pn_i _) dX4_share_17 rfl ?_
    refine x_aload_n (pc2 := 21) dX4_share_20 rfl rfl ?_
    refine x_aload_n (pc2 := 22) dX4_share_21 rfl rfl ?_
    refine x_iload_n (pc2 := 23) dX4_share_22 rfl rfl ?_
    refine x_iconst (pc2 := 24) dX4_share_23 rfl ?_
    refine x_iconst (pc2 := 25) dX4_share_24 rfl ?_
    exact x_drop (drp_k (drp_u (drp_u drp_n))) k
  · replace k := k2 c3
    exact x_return dX4_share_8 rfl k
set_option maxRecDepth 4000 in
theorem g_X4_share_28 {sc : List Int} {d : Nat} {m : Mem} {Q : Option AV → Mem → Prop} (k : Q none m) : S_X4_share sc d 28 [aR 44, aU, aU] [] m Q := by
  exact x_return dX4_share_28 rfl k
theorem c_X4_share_25 {sc : List Int} {d d2 : Nat} {m m2 : Mem} {Q : Option AV → Mem → Prop} {s1 s2 s3 s4 : Int} (Hs1 : RoomAt s1) (hM : C_X4_giveOut sc d2 [aR 44, aR s1, aI s2, aI s3, aI s4] m none m2) (hd : d2 + 1 ≤ d) (k : S_X4_share sc d 28 [aR 44, aU, aU] [] m2 Q) : S_X4_share sc d 25 [aR 44, aU, aU] [aI s4, aI s3, aI s2, aR s1, aR 44] m Q := x_callV (as := [aR s1, aI s2, aI s3, aI s4]) (rest := []) hM mk_X4_giveOut mv_X4_giveOut lk_X4_92 (Or.inl ⟨4, (RX4, TX4, 19), ic_44, Nat.le_of_ble_eq_true rfl, rfl, rfl⟩) hd rfl rfl (Nat.le_of_ble_eq_true rfl) dX4_share_25 rfl k
set_option maxRecDepth 4000 in
theorem g_X4_giveOut_0 {sc : List Int} {d : Nat} {m : Mem} {Q : Option AV → Mem → Prop} {l1 l2 l3 l4 : Int} (Hl1 : RoomAt l1) (k : (-2147483648 ≤ l3 ∧ l3 < 2147483648) ∧ (-2147483648 ≤ (m l1 8) ∧ (m l1 8) < 2147483648) ∧ ((l3 < (m l1 8)) → ((0 ≤ l3) ∧ (l3 < 10) ∧ S_X4_giveOut sc d 76 [aR 44, aR l1, aI l2, aI l3, aI l4, aI (m (l1 + 3) l3), aI 0, aU, aU, aU] [] m Q)) ∧ (¬ (l3 < (m l1 8)) → (S_X4_giveOut sc d 26 [aR 44, aU, aU, aU, aU, aU, aU, aU, aU, aU] [aI (m 50 2), aI (m 50 1), aI (m 50 0)] m Q))) : S_X4_giveOut sc d 0 [aR 44, aR l1, aI l2, aI l3, aI l4, aU, aU, aU, aU, aU] [] m Q := by
  refine x_iload_n (pc2 := 1) dX4_giveOut_0 rfl rfl ?_
  refine x_aload_n (pc2 := 2) dX4_giveOut_1 rfl rfl ?_
  refine x_getf (pc2 := 5) (v := aI (m l1 8)) fl_X4_58 (icr_0 Hl1) (fv_i _ (icr_0 Hl1) rfl) dX4_giveOut_2 rfl ?_
  obtain ⟨h1, k⟩ := k
  obtain ⟨h2, k⟩ := k
  obtain ⟨k1, k2⟩ := k
  refine x_icmp_lt (tgt := 65) (pc2 := 8) dX4_giveOut_5 (by decide) rfl h1 h2 (fun c3 => ?_) (fun c3 => ?_)
  · replace k := k1 c3
    refine x_aload_n (pc2 := 66) dX4_giveOut_65 rfl rfl ?_
    refine x_getf (pc2 := 69) (v := aR (l1 + 3)) fl_X4_63 (icr_0 Hl1) (vrr_3 _ Hl1) dX4_giveOut_66 rfl ?_
    refine x_iload_n (pc2 := 70) dX4_giveOut_69 rfl rfl ?_
    obtain ⟨h4, k⟩ := k
    obtain ⟨h5, k⟩ := k
    refine x_iald (pc2 := 71) (icr_3 Hl1) h4 (by rw [(alr_3 Hl1)]; exact h5) dX4_giveOut_70 rfl ?_
    refine x_istore (pc2 := 73) (ls2 := [aR 44, aR l1, aI l2, aI l3, aI l4, aI (m (l1 + 3) l3), aU, aU, aU, aU]) dX4_giveOut_71 rfl (by decide) rfl ?_
    refine x_iconst (pc2 := 74) dX4_giveOut_73 rfl ?_
    refine x_istore (pc2 := 76) (ls2 := [aR 44, aR l1, aI l2, aI l3, aI l4, aI (m (l1 + 3) l3), aI 0, aU, aU, aU]) dX4_giveOut_74 rfl (by decide) rfl ?_
    exact k
  · replace k := k2 c3
    refine x_aload_n (pc2 := 9) dX4_giveOut_8 rfl rfl ?_
    refine x_getf (pc2 := 12) (v := aR 50) fl_X4_27 ic_44 (vr_44_8 _) dX4_giveOut_9 rfl ?_
    refine x_iconst (pc2 := 13) dX4_giveOut_12 rfl ?_
    refine x_iald (pc2 := 14) ic_50 (by decide) (by rw [al_50]; decide) dX4_giveOut_13 rfl ?_
    refine x_aload_n (pc2 := 15) dX4_giveOut_14 rfl rfl ?_
    refine x_getf (pc2 := 18) (v := aR 50) fl_X4_27 ic_44 (vr_44_8 _) dX4_giveOut_15 rfl ?_
    refine x_iconst (pc2 := 19) dX4_giveOut_18 rfl ?_
    refine x_iald (pc2 := 20) ic_50 (by decide) (by rw [al_50]; decide) dX4_giveOut_19 rfl ?_
    refine x_aload_n (pc2 := 21) dX4_giveOut_20 rfl rfl ?_
    refine x_getf (pc2 := 24) (v := aR 50) fl_X4_27 ic_44 (vr_44_8 _) dX4_giveOut_21 rfl ?_
    refine x_iconst (pc2 := 25) dX4_giveOut_24 rfl ?_
    refine x_iald (pc2 := 26) ic_50 (by decide) (by rw [al_50]; decide) dX4_giveOut_25 rfl ?_
    exact x_drop (drp_k (drp_u (drp_u (drp_u (drp_u (drp_k (drp_k (drp_k (drp_k (drp_k drp_n)))))))))) k
set_option maxRecDepth 4000 in
theorem g_X4_giveOut_29 {sc : List Int} {d : Nat} {m : Mem} {Q : Option AV → Mem → Prop} {s0 s1 : Int} (k : S_X4_giveOut sc d 29 [aR 44, aU, aU, aU, aU, aU, aU, aU, aU, aU] [aI s1, aI s0] m Q) : S_X4_giveOut sc d 29 [aR 44, aU, aU, aU, aU, aU, aU, aU, aU, aU] [aI s1, aI s0] m Q := by
  exact k
set_option maxRecDepth 4000 in
theorem g_X4_giveOut_32 {sc : List Int} {d : Nat} {m : Mem} {Q : Option AV → Mem → Prop} {s0 : Int} (k : (-2147483648 ≤ s0 ∧ s0 < 2147483648) ∧ (-2147483648 ≤ (m 44 10) ∧ (m 44 10) < 2147483648) ∧ (((m 44 10) ≤ s0) → (Q none m)) ∧ (¬ ((m 44 10) ≤ s0) → ((1 ≤ d) ∧ Q none (acp (wr m 44 10 s0) ((wr m 44 10 s0) 49) 0 48 0 10)))) : S_X4_giveOut sc d 32 [aR 44, aU, aU, aU, aU, aU, aU, aU, aU, aU] [aI s0] m Q := by
  refine x_istore (pc2 := 34) (ls2 := [aR 44, aU, aU, aU, aU, aI s0, aU, aU, aU, aU]) dX4_giveOut_32 rfl (by decide) rfl ?_
  refine x_iload (pc2 := 36) dX4_giveOut_34 rfl rfl ?_
  refine x_aload_n (pc2 := 37) dX4_giveOut_36 rfl rfl ?_
  refine x_getf (pc2 := 40) (v := aI (m 44 10)) fl_X4_89 ic_44 (fv_i _ ic_44 rfl) dX4_giveOut_37 rfl ?_
  obtain ⟨h1, k⟩ := k
  obtain ⟨h2, k⟩ := k
  obtain ⟨k1, k2⟩ := k
  refine x_icmp_ge (tgt := 64) (pc2 := 43) dX4_giveOut_40 (by decide) rfl h1 h2 (fun c3 => ?_) (fun c3 => ?_)
  · replace k := k1 c3
    exact x_return dX4_giveOut_64 rfl k
  · replace k := k2 c3
    refine x_aload_n (pc2 := 44) dX4_giveOut_43 rfl rfl ?_
    refine x_iload (pc2 := 46) dX4_giveOut_44 rfl rfl ?_
    refine x_putf (pc2 := 49) (x := s0) fl_X4_89 ft_4_10 ic_44 (pv_i _ ic_44 rfl) (pn_i _) dX4_giveOut_46 rfl ?_
    refine x_aload_n (pc2 := 50) dX4_giveOut_49 rfl rfl ?_
    refine x_getf (pc2 := 53) (v := aR 49) fl_X4_24 ic_44 (vr_44_7 _) dX4_giveOut_50 rfl ?_
    refine x_iconst (pc2 := 54) dX4_giveOut_53 rfl ?_
    refine x_aload_n (pc2 := 55) dX4_giveOut_54 rfl rfl ?_
    refine x_getf (pc2 := 58) (v := aR 48) fl_X4_21 ic_44 (vr_44_6 _) dX4_giveOut_55 rfl ?_
    refine x_iconst (pc2 := 59) dX4_giveOut_58 rfl ?_
    refine x_bipush (pc2 := 61) dX4_giveOut_59 rfl rfl ?_
    obtain ⟨h4, k⟩ := k
    refine x_acopy (pc2 := 64) ac_X4_96 acw ic_49 ic_48 (by decide) (by decide) (by decide) (by rw [al_49]; exact (by decide)) (by rw [al_48]; exact (by decide)) h4 (Nat.le_of_ble_eq_true rfl) dX4_giveOut_61 rfl ?_
    exact x_return dX4_giveOut_64 rfl k
set_option maxRecDepth 4000 in
theorem g_X4_giveOut_76 {sc : List Int} {d : Nat} {m : Mem} {Q : Option AV → Mem → Prop} {l1 l2 l3 l4 l5 l6 : Int} (Hl1 : RoomAt l1) (k : (-2147483648 ≤ l6 ∧ l6 < 2147483648) ∧ (-2147483648 ≤ l4 ∧ l4 < 2147483648) ∧ ((l4 < l6) → (Q none m)) ∧ (¬ (l4 < l6) → ((-2147483648 ≤ (m (l1 + 13) 5) ∧ (m (l1 + 13) 5) < 2147483648) ∧ (((m (l1 + 13) 5) ≤ l6) → (Q none m)) ∧ (¬ ((m (l1 + 13) 5) ≤ l6) → (((3 ≤ l6) → (Q none m)) ∧ (¬ (3 ≤ l6) → ((0 ≤ l6) ∧ (l6 < 3) ∧ ((-2147483648 ≤ (m 50 l6) ∧ (m 50 l6) < 2147483648)) ∧ ((¬ ((m 50 l6) ≤ 0)) → (-2147483648 ≤ ((m 51 l6) + l5) ∧ ((m 51 l6) + l5) < 2147483648)) ∧ ((¬ ((m 50 l6) ≤ 0)) → (-2147483648 ≤ l2 ∧ l2 < 2147483648)) ∧ ((-2147483648 ≤ (if (m 50 l6) ≤ 0 then 0 else (if ((m 51 l6) + l5) ≤ l2 then 0 else 1 : Int) : Int) ∧ (if (m 50 l6) ≤ 0 then 0 else (if ((m 51 l6) + l5) ≤ l2 then 0 else 1 : Int) : Int) < 2147483648)) ∧ ((-2147483648 ≤ (if (m 50 l6) ≤ 0 then 0 else (if ((m 51 l6) + l5) ≤ l2 then 0 else 1 : Int) : Int) ∧ (if (m 50 l6) ≤ 0 then 0 else (if ((m 51 l6) + l5) ≤ l2 then 0 else 1 : Int) : Int) < 2147483648)) ∧ (0 ≤ l3) ∧ (l3 < 10) ∧ (-2147483648 ≤ ((wr (wr (wr m 50 l6 (((m 50 l6) + l5) + (if (if (m 50 l6) ≤ 0 then 0 else (if ((m 51 l6) + l5) ≤ l2 then 0 else 1 : Int) : Int) = 0 then 0 else (m (l1 + 13) 0) : Int))) 51 l6 (if (if (m 50 l6) ≤ 0 then 0 else (if ((m 51 l6) + l5) ≤ l2 then 0 else 1 : Int) : Int) = 0 then ((m 51 l6) + l5) else l5 : Int)) 49 l3 l6) 50 l6) ∧ ((wr (wr (wr m 50 l6 (((m 50 l6) + l5) + (if (if (m 50 l6) ≤ 0 then 0 else (if ((m 51 l6) + l5) ≤ l2 then 0 else 1 : Int) : Int) = 0 then 0 else (m (l1 + 13) 0) : Int))) 51 l6 (if (if (m 50 l6) ≤ 0 then 0 else (if ((m 51 l6) + l5) ≤ l2 then 0 else 1 : Int) : Int) = 0 then ((m 51 l6) + l5) else l5 : Int)) 49 l3 l6) 50 l6) < 2147483648) ∧ (-2147483648 ≤ ((wr (wr (wr m 50 l6 (((m 50 l6) + l5) + (if (if (m 50 l6) ≤ 0 then 0 else (if ((m 51 l6) + l5) ≤ l2 then 0 else 1 : Int) : Int) = 0 then 0 else (m (l1 + 13) 0) : Int))) 51 l6 (if (if (m 50 l6) ≤ 0 then 0 else (if ((m 51 l6) + l5) ≤ l2 then 0 else 1 : Int) : Int) = 0 then ((m 51 l6) + l5) else l5 : Int)) 49 l3 l6) 44 10) ∧ ((wr (wr (wr m 50 l6 (((m 50 l6) + l5) + (if (if (m 50 l6) ≤ 0 then 0 else (if ((m 51 l6) + l5) ≤ l2 then 0 else 1 : Int) : Int) = 0 then 0 else (m (l1 + 13) 0) : Int))) 51 l6 (if (if (m 50 l6) ≤ 0 then 0 else (if ((m 51 l6) + l5) ≤ l2 then 0 else 1 : Int) : Int) = 0 then ((m 51 l6) + l5) else l5 : Int)) 49 l3 l6) 44 10) < 2147483648) ∧ ((((wr (wr (wr m 50 l6 (((m 50 l6) + l5) + (if (if (m 50 l6) ≤ 0 then 0 else (if ((m 51 l6) + l5) ≤ l2 then 0 else 1 : Int) : Int) = 0 then 0 else (m (l1 + 13) 0) : Int))) 51 l6 (if (if (m 50 l6) ≤ 0 then 0 else (if ((m 51 l6) + l5) ≤ l2 then 0 else 1 : Int) : Int) = 0 then ((m 51 l6) + l5) else l5 : Int)) 49 l3 l6) 44 10) ≤ ((wr (wr (wr m 50 l6 (((m 50 l6) + l5) + (if (if (m 50 l6) ≤ 0 then 0 else (if ((m 51 l6) + l5) ≤ l2 then 0 else 1 : Int) : Int) = 0 then 0 else (m (l1 + 13) 0) : Int))) 51 l6 (if (if (m 50 l6) ≤ 0 then 0 else (if ((m 51 l6) + l5) ≤ l2 then 0 else 1 : Int) : Int) = 0 then ((m 51 l6) + l5) else l5 : Int)) 49 l3 l6) 50 l6)) → (S_X4_giveOut sc d 240 [aR 44, aR l1, aI l2, aI l3, aI l4, aI l5, aI l6, aI (m 50 l6), aI (m 51 l6), aU] [] (wr (wr (wr m 50 l6 (((m 50 l6) + l5) + (if (if (m 50 l6) ≤ 0 then 0 else (if ((m 51 l6) + l5) ≤ l2 then 0 else 1 : Int) : Int) = 0 then 0 else (m (l1 + 13) 0) : Int))) 51 l6 (if (if (m 50 l6) ≤ 0 then 0 else (if ((m 51 l6) + l5) ≤ l2 then 0 else 1 : Int) : Int) = 0 then ((m 51 l6) + l5) else l5 : Int)) 49 l3 l6) Q)) ∧ (¬ (((wr (wr (wr m 50 l6 (((m 50 l6) + l5) + (if (if (m 50 l6) ≤ 0 then 0 else (if ((m 51 l6) + l5) ≤ l2 then 0 else 1 : Int) : Int) = 0 then 0 else (m (l1 + 13) 0) : Int))) 51 l6 (if (if (m 50 l6) ≤ 0 then 0 else (if ((m 51 l6) + l5) ≤ l2 then 0 else 1 : Int) : Int) = 0 then ((m 51 l6) + l5) else l5 : Int)) 49 l3 l6) 44 10) ≤ ((wr (wr (wr m 50 l6 (((m 50 l6) + l5) + (if (if (m 50 l6) ≤ 0 then 0 else (if ((m 51 l6) + l5) ≤ l2 then 0 else 1 : Int) : Int) = 0 then 0 else (m (l1 + 13) 0) : Int))) 51 l6 (if (if (m 50 l6) ≤ 0 then 0 else (if ((m 51 l6) + l5) ≤ l2 then 0 else 1 : Int) : Int) = 0 then ((m 51 l6) + l5) else l5 : Int)) 49 l3 l6) 50 l6)) → (S_X4_giveOut sc d 237 [aR 44, aR l1, aI l2, aI l3, aI l4, aI l5, aI l6, aI (m 50 l6), aI (m 51 l6), aU] [aI (if l6 ≠ l4 then l4 else (l4 + 1) : Int), aI (l3 + 1), aI l2, aR l1, aR 44] (wr (wr (wr m 50 l6 (((m 50 l6) + l5) + (if (if (m 50 l6) ≤ 0 then 0 else (if ((m 51 l6) + l5) ≤ l2 then 0 else 1 : Int) : Int) = 0 then 0 else (m (l1 + 13) 0) : Int))) 51 l6 (if (if (m 50 l6) ≤ 0 then 0 else (if ((m 51 l6) + l5) ≤ l2 then 0 else 1 : Int) : Int) = 0 then ((m 51 l6) + l5) else l5 : Int)) 49 l3 l6) Q))))))))) : S_X4_giveOut sc d 76 [aR 44, aR l1, aI l2, aI l3, aI l4, aI l5, aI l6, aU, aU, aU] [] m Q := by
  refine x_iload (pc2 := 78) dX4_giveOut_76 rfl rfl ?_
  refine x_iload (pc2 := 80) dX4_giveOut_78 rfl rfl ?_
  obtain ⟨h1, k⟩ := k
  obtain ⟨h2, k⟩ := k
  obtain ⟨k1, k2⟩ := k
  refine x_icmp_gt (tgt := 264) (pc2 := 83) dX4_giveOut_80 (by decide) rfl h1 h2 (fun c3 => ?_) (fun c3 => ?_)
  · replace k := k1 c3
    exact x_return dX4_giveOut_264 rfl k
  · replace k := k2 c3
    refine x_iload (pc2 := 85) dX4_giveOut_83 rfl rfl ?_
    refine x_aload_n (pc2 := 86) dX4_giveOut_85 rfl rfl ?_
    refine x_getf (pc2 := 89) (v := aR (l1 + 13)) fl_X4_102 (icr_0 Hl1) (vrr_13 _ Hl1) dX4_giveOut_86 rfl ?_
    refine x_iconst (pc2 := 90) dX4_giveOut_89 rfl ?_
    refine x_iald (pc2 := 91) (icr_13 Hl1) (by decide) (by rw [(alr_13 Hl1)]; decide) dX4_giveOut_90 rfl ?_
    obtain ⟨h4, k⟩ := k
    obtain ⟨k1, k2⟩ := k
    refine x_icmp_ge (tgt := 264) (pc2 := 94) dX4_giveOut_91 (by decide) rfl h1 h4 (fun c5 => ?_) (fun c5 => ?_)
    · replace k := k1 c5
      exact x_return dX4_giveOut_264 rfl k
    · replace k := k2 c5
      refine x_iload (pc2 := 96) dX4_giveOut_94 rfl rfl ?_
      refine x_aload_n (pc2 := 97) dX4_giveOut_96 rfl rfl ?_
      refine x_getf (pc2 := 100) (v := aR 50) fl_X4_27 ic_44 (vr_44_8 _) dX4_giveOut_97 rfl ?_
      refine x_alenK (pc2 := 101) (n := 3) (Or.inl ic_50) al_50 dX4_giveOut_100 rfl ?_
      obtain ⟨k1, k2⟩ := k
      refine x_icmp_ge (tgt := 264) (pc2 := 104) dX4_giveOut_101 (by decide) rfl h1 (by decide) (fun c6 => ?_) (fun c6 => ?_)
      · replace k := k1 c6
        exact x_return dX4_giveOut_264 rfl k
      · replace k := k2 c6
        refine x_aload_n (pc2 := 105) dX4_giveOut_104 rfl rfl ?_
        refine x_getf (pc2 := 108) (v := aR 50) fl_X4_27 ic_44 (vr_44_8 _) dX4_giveOut_105 rfl ?_
        refine x_iload (pc2 := 110) dX4_giveOut_108 rfl rfl ?_
        obtain ⟨h7, k⟩ := k
        obtain ⟨h8, k⟩ := k
        refine x_iald (pc2 := 111) ic_50 h7 (by rw [al_50]; exact h8) dX4_giveOut_110 rfl ?_
        refine x_istore (pc2 := 113) (ls2 := [aR 44, aR l1, aI l2, aI l3, aI l4, aI l5, aI l6, aI (m 50 l6), aU, aU]) dX4_giveOut_111 rfl (by decide) rfl ?_
        refine x_aload_n (pc2 := 114) dX4_giveOut_113 rfl rfl ?_
        refine x_getf (pc2 := 117) (v := aR 51) fl_X4_30 ic_44 (vr_44_9 _) dX4_giveOut_114 rfl ?_
        refine x_iload (pc2 := 119) dX4_giveOut_117 rfl rfl ?_
        refine x_iald (pc2 := 120) ic_51 h7 (by rw [al_51]; exact h8) dX4_giveOut_119 rfl ?_
        refine x_istore (pc2 := 122) (ls2 := [aR 44, aR l1, aI l2, aI l3, aI l4, aI l5, aI l6, aI (m 50 l6), aI (m 51 l6), aU]) dX4_giveOut_120 rfl (by decide) rfl ?_
        refine x_iload (pc2 := 124) dX4_giveOut_122 rfl rfl ?_
        obtain ⟨g10, k⟩ := k
        obtain ⟨g13, k⟩ := k
        obtain ⟨g14, k⟩ := k
        have kj : S_X4_giveOut sc d 141 [aR 44, aR l1, aI l2, aI l3, aI l4, aI l5, aI l6, aI (m 50 l6), aI (m 51 l6), aU] [aI (if (m 50 l6) ≤ 0 then 0 else (if ((m 51 l6) + l5) ≤ l2 then 0 else 1 : Int) : Int)] m Q := by
          refine x_istore (pc2 := 143) (ls2 := [aR 44, aR l1, aI l2, aI l3, aI l4, aI l5, aI l6, aI (m 50 l6), aI (m 51 l6), aI (if (m 50 l6) ≤ 0 then 0 else (if ((m 51 l6) + l5) ≤ l2 then 0 else 1 : Int) : Int)]) dX4_giveOut_141 rfl (by decide) rfl ?_
          refine x_aload_n (pc2 := 144) dX4_giveOut_143 rfl rfl ?_
          refine x_getf (pc2 := 147) (v := aR 50) fl_X4_27 ic_44 (vr_44_8 _) dX4_giveOut_144 rfl ?_
          refine x_iload (pc2 := 149) dX4_giveOut_147 rfl rfl ?_
          refine x_iload (pc2 := 151) dX4_giveOut_149 rfl rfl ?_
          refine x_iload (pc2 := 153) dX4_giveOut_151 rfl rfl ?_
          refine x_iadd (pc2 := 154) dX4_giveOut_153 rfl ?_
          refine x_iload (pc2 := 156) dX4_giveOut_154 rfl rfl ?_
          obtain ⟨g16, k⟩ := k
          have kj : S_X4_giveOut sc d 169 [aR 44, aR l1, aI l2, aI l3, aI l4, aI l5, aI l6, aI (m 50 l6), aI (m 51 l6), aI (if (m 50 l6) ≤ 0 then 0 else (if ((m 51 l6) + l5) ≤ l2 then 0 else 1 : Int) : Int)] [aI (if (if (m 50 l6) ≤ 0 then 0 else (if ((m 51 l6) + l5) ≤ l2 then 0 else 1 : Int) : Int) = 0 then 0 else (m (l1 + 13) 0) : Int), aI ((m 50 l6) + l5), aI l6, aR 50] m Q := by
            refine x_iadd (pc2 := 170) dX4_giveOut_169 rfl ?_
            refine x_iast (pc2 := 171) ic_50 h7 (by rw [al_50]; exact h8) dX4_giveOut_170 rfl ?_
            refine x_aload_n (pc2 := 172) dX4_giveOut_171 rfl rfl ?_
            refine x_getf (pc2 := 175) (v := aR 51) fl_X4_30 ic_44 (vr_44_9 _) dX4_giveOut_172 rfl ?_
            refine x_iload (pc2 := 177) dX4_giveOut_175 rfl rfl ?_
            refine x_iload (pc2 := 179) dX4_giveOut_177 rfl rfl ?_
            obtain ⟨g18, k⟩ := k
            have kj : S_X4_giveOut sc d 192 [aR 44, aR l1, aI l2, aI l3, aI l4, aI l5, aI l6, aI (m 50 l6), aI (m 51 l6), aI (if (m 50 l6) ≤ 0 then 0 else (if ((m 51 l6) + l5) ≤ l2 then 0 else 1 : Int) : Int)] [aI (if (if (m 50 l6) ≤ 0 then 0 else (if ((m 51 l6) + l5) ≤ l2 then 0 else 1 : Int) : Int) = 0 then ((m 51 l6) + l5) else l5 : Int), aI l6, aR 51] (wr m 50 l6 (((m 50 l6) + l5) + (if (if (m 50 l6) ≤ 0 then 0 else (if ((m 51 l6) + l5) ≤ l2 then 0 else 1 : Int) : Int) = 0 then 0 else (m (l1 + 13) 0) : Int))) Q := by
              refine x_iast (pc2 := 193) ic_51 h7 (by rw [al_51]; exact h8) dX4_giveOut_192 rfl ?_
              refine x_aload_n (pc2 := 194) dX4_giveOut_193 rfl rfl ?_
              refine x_getf (pc2 := 197) (v := aR 49) fl_X4_24 ic_44 (vr_44_7 _) dX4_giveOut_194 rfl ?_
              refine x_iload_n (pc2 := 198) dX4_giveOut_197 rfl rfl ?_
              refine x_iload (pc2 := 200) dX4_giveOut_198 rfl rfl ?_
              obtain ⟨h19, k⟩ := k
              obtain ⟨h20, k⟩ := k
              refine x_iast (pc2 := 201) ic_49 h19 (by rw [al_49]; exact h20) dX4_giveOut_200 rfl ?_
              refine x_aload_n (pc2 := 202) dX4_giveOut_201 rfl rfl ?_
              refine x_getf (pc2 := 205) (v := aR 50) fl_X4_27 ic_44 (vr_44_8 _) dX4_giveOut_202 rfl ?_
              refine x_iload (pc2 := 207) dX4_giveOut_205 rfl rfl ?_
              refine x_iald (pc2 := 208) ic_50 h7 (by rw [al_50]; exact h8) dX4_giveOut_207 rfl ?_
              refine x_aload_n (pc2 := 209) dX4_giveOut_208 rfl rfl ?_
              refine x_getf (pc2 := 212) (v := aI ((wr (wr (wr m 50 l6 (((m 50 l6) + l5) + (if (if (m 50 l6) ≤ 0 then 0 else (if ((m 51 l6) + l5) ≤ l2 then 0 else 1 : Int) : Int) = 0 then 0 else (m (l1 + 13) 0) : Int))) 51 l6 (if (if (m 50 l6) ≤ 0 then 0 else (if ((m 51 l6) + l5) ≤ l2 then 0 else 1 : Int) : Int) = 0 then ((m 51 l6) + l5) else l5 : Int)) 49 l3 l6) 44 10)) fl_X4_89 ic_44 (fv_i _ ic_44 rfl) dX4_giveOut_209 rfl ?_
              obtain ⟨h21, k⟩ := k
              obtain ⟨h22, k⟩ := k
              obtain ⟨k1, k2⟩ := k
              refine x_icmp_ge (tgt := 240) (pc2 := 215) dX4_giveOut_212 (by decide) rfl h21 h22 (fun c23 => ?_) (fun c23 => ?_)
              · replace k := k1 c23
                exact x_drop (drp_k (drp_k (drp_k (drp_k (drp_k (drp_k (drp_k (drp_k (drp_k (drp_u drp_n)))))))))) k
              · replace k := k2 c23
                refine x_aload_n (pc2 := 216) dX4_giveOut_215 rfl rfl ?_
                refine x_aload_n (pc2 := 217) dX4_giveOut_216 rfl rfl ?_
                refine x_iload_n (pc2 := 218) dX4_giveOut_217 rfl rfl ?_
                refine x_iload_n (pc2 := 219) dX4_giveOut_218 rfl rfl ?_
                refine x_iconst (pc2 := 220) dX4_giveOut_219 rfl ?_
                refine x_iadd (pc2 := 221) dX4_giveOut_220 rfl ?_
                refine x_iload (pc2 := 223) dX4_giveOut_221 rfl rfl ?_
                refine x_iload (pc2 := 225) dX4_giveOut_223 rfl rfl ?_
                have kj : S_X4_giveOut sc d 237 [aR 44, aR l1, aI l2, aI l3, aI l4, aI l5, aI l6, aI (m 50 l6), aI (m 51 l6), aI (if (m 50 l6) ≤ 0 then 0 else (if ((m 51 l6) + l5) ≤ l2 then 0 else 1 : Int) : Int)] [aI (if l6 ≠ l4 then l4 else (l4 + 1) : Int), aI (l3 + 1), aI l2, aR l1, aR 44] (wr (wr (wr m 50 l6 (((m 50 l6) + l5) + (if (if (m 50 l6) ≤ 0 then 0 else (if ((m 51 l6) + l5) ≤ l2 then 0 else 1 : Int) : Int) = 0 then 0 else (m (l1 + 13) 0) : Int))) 51 l6 (if (if (m 50 l6) ≤ 0 then 0 else (if ((m 51 l6) + l5) ≤ l2 then 0 else 1 : Int) : Int) = 0 then ((m 51 l6) + l5) else l5 : Int)) 49 l3 l6) Q := by
                  exact x_drop (drp_k (drp_k (drp_k (drp_k (drp_k (drp_k (drp_k (drp_k (drp_k (drp_u drp_n)))))))))) k
                refine x_icmp_ne (tgt := 235) (pc2 := 228) dX4_giveOut_225 (by decide) rfl h1 h2 (fun c24 => ?_) (fun c24 => ?_)
                · skip
                  refine x_iload (pc2 := 237) dX4_giveOut_235 rfl rfl ?_
                  exact x_topI (if_pos c24) kj
                · skip
                  refine x_iload (pc2 := 230) dX4_giveOut_228 rfl rfl ?_
                  refine x_iconst (pc2 := 231) dX4_giveOut_230 rfl ?_
                  refine x_iadd (pc2 := 232) dX4_giveOut_231 rfl ?_
                  refine x_goto (tgt := 237) dX4_giveOut_232 (by decide) ?_
                  exact x_topI (if_neg c24) kj
            have h25 := g18 
            refine x_if_eq (tgt := 187) (pc2 := 182) dX4_giveOut_179 (by decide) rfl h25 (fun c26 => ?_) (fun c26 => ?_)
            · skip
              refine x_iload (pc2 := 189) dX4_giveOut_187 rfl rfl ?_
              refine x_iload (pc2 := 191) dX4_giveOut_189 rfl rfl ?_
              refine x_iadd (pc2 := 192) dX4_giveOut_191 rfl ?_
              exact x_topI (if_pos c26) kj
            · skip
              refine x_iload (pc2 := 184) dX4_giveOut_182 rfl rfl ?_
              refine x_goto (tgt := 192) dX4_giveOut_184 (by decide) ?_
              exact x_topI (if_neg c26) kj
          have h27 := g16 
          refine x_if_eq (tgt := 168) (pc2 := 159) dX4_giveOut_156 (by decide) rfl h27 (fun c28 => ?_) (fun c28 => ?_)
          · skip
            refine x_iconst (pc2 := 169) dX4_giveOut_168 rfl ?_
            exact x_topI (if_pos c28) kj
          · skip
            refine x_aload_n (pc2 := 160) dX4_giveOut_159 rfl rfl ?_
            refine x_getf (pc2 := 163) (v := aR (l1 + 13)) fl_X4_102 (icr_0 Hl1) (vrr_13 _ Hl1) dX4_giveOut_160 rfl ?_
            refine x_iconst (pc2 := 164) dX4_giveOut_163 rfl ?_
            refine x_iald (pc2 := 165) (icr_13 Hl1) (by decide) (by rw [(alr_13 Hl1)]; decide) dX4_giveOut_164 rfl ?_
            refine x_goto (tgt := 169) dX4_giveOut_165 (by decide) ?_
            exact x_topI (if_neg c28) kj
        have h29 := g10 
        refine x_if_le (tgt := 140) (pc2 := 127) dX4_giveOut_124 (by decide) rfl h29 (fun c30 => ?_) (fun c30 => ?_)
        · skip
          refine x_iconst (pc2 := 141) dX4_giveOut_140 rfl ?_
          exact x_topI (if_pos c30) kj
        · skip
          refine x_iload (pc2 := 129) dX4_giveOut_127 rfl rfl ?_
          refine x_iload (pc2 := 131) dX4_giveOut_129 rfl rfl ?_
          refine x_iadd (pc2 := 132) dX4_giveOut_131 rfl ?_
          refine x_iload_n (pc2 := 133) dX4_giveOut_132 rfl rfl ?_
          have h31 := g13 c30
          have h32 := g14 c30
          refine x_icmp_le (tgt := 140) (pc2 := 136) dX4_giveOut_133 (by decide) rfl h31 h32 (fun c33 => ?_) (fun c33 => ?_)
          · skip
            refine x_iconst (pc2 := 141) dX4_giveOut_140 rfl ?_
            exact x_topI ((if_neg c30).trans (if_pos c33)) kj
          · skip
            refine x_iconst (pc2 := 137) dX4_giveOut_136 rfl ?_
            refine x_goto (tgt := 141) dX4_giveOut_137 (by decide) ?_
            exact x_topI ((if_neg c30).trans (if_neg c33)) kj
set_option maxRecDepth 4000 in
theorem g_X4_giveOut_240 {sc : List Int} {d : Nat} {m : Mem} {Q : Option AV → Mem → Prop} {l1 l2 l3 l4 l5 l6 l7 l8 : Int} (Hl1 : RoomAt l1) (k : (0 ≤ l6) ∧ (l6 < 3) ∧ S_X4_giveOut sc d 76 [aR 44, aR l1, aI l2, aI l3, aI l4, aI l5, aI (l6 + 1), aU, aU, aU] [] (wr (wr m 50 l6 l7) 51 l6 l8) Q) : S_X4_giveOut sc d 240 [aR 44, aR l1, aI l2, aI l3, aI l4, aI l5, aI l6, aI l7, aI l8, aU] [] m Q := by
  refine x_aload_n (pc2 := 241) dX4_giveOut_240 rfl rfl ?_
  refine x_getf (pc2 := 244) (v := aR 50) fl_X4_27 ic_44 (vr_44_8 _) dX4_giveOut_241 rfl ?_
  refine x_iload (pc2 := 246) dX4_giveOut_244 rfl rfl ?_
  refine x_iload (pc2 := 248) dX4_giveOut_246 rfl rfl ?_
  obtain ⟨h1, k⟩ := k
  obtain ⟨h2, k⟩ := k
  refine x_iast (pc2 := 249) ic_50 h1 (by rw [al_50]; exact h2) dX4_giveOut_248 rfl ?_
  refine x_aload_n (pc2 := 250) dX4_giveOut_249 rfl rfl ?_
  refine x_getf (pc2 := 253) (v := aR 51) fl_X4_30 ic_44 (vr_44_9 _) dX4_giveOut_250 rfl ?_
  refine x_iload (pc2 := 255) dX4_giveOut_253 rfl rfl ?_
  refine x_iload (pc2 := 257) dX4_giveOut_255 rfl rfl ?_
  refine x_iast (pc2 := 258) ic_51 h1 (by rw [al_51]; exact h2) dX4_giveOut_257 rfl ?_
  refine x_iinc (pc2 := 261) (ls2 := [aR 44, aR l1, aI l2, aI l3, aI l4, aI l5, aI (l6 + 1), aI l7, aI l8, aU]) dX4_giveOut_258 rfl rfl (by decide) rfl ?_
  refine x_goto (tgt := 76) dX4_giveOut_261 (by decide) ?_
  exact x_drop (drp_k (drp_k (drp_k (drp_k (drp_k (drp_k (drp_k (drp_u (drp_u (drp_k drp_n)))))))))) k
theorem c_X4_giveOut_26 {sc : List Int} {d d2 : Nat} {m m2 : Mem} {Q : Option AV → Mem → Prop} {s0 s1 s2 : Int} {v : Int} (hM : C_J9_max_7cf53 sc d2 [aI s1, aI s2] m (some (aI v)) m2) (hd : d2 + 1 ≤ d) (k : S_X4_giveOut sc d 29 [aR 44, aU, aU, aU, aU, aU, aU, aU, aU, aU] [aI v, aI s0] m2 Q) : S_X4_giveOut sc d 26 [aR 44, aU, aU, aU, aU, aU, aU, aU, aU, aU] [aI s2, aI s1, aI s0] m Q := x_callS (as := [aI s1, aI s2]) (rest := [aI s0]) hM mk_J9_max_7cf53 ms_J9_max_7cf53 lk_X4_69 hd rfl rfl (Nat.le_of_ble_eq_true rfl) dX4_giveOut_26 rfl k
theorem c_X4_giveOut_29 {sc : List Int} {d d2 : Nat} {m m2 : Mem} {Q : Option AV → Mem → Prop} {s0 s1 : Int} {v : Int} (hM : C_J9_max_7cf53 sc d2 [aI s0, aI s1] m (some (aI v)) m2) (hd : d2 + 1 ≤ d) (k : S_X4_giveOut sc d 32 [aR 44, aU, aU, aU, aU, aU, aU, aU, aU, aU] [aI v] m2 Q) : S_X4_giveOut sc d 29 [aR 44, aU, aU, aU, aU, aU, aU, aU, aU, aU] [aI s1, aI s0] m Q := x_callS (as := [aI s0, aI s1]) (rest := []) hM mk_J9_max_7cf53 ms_J9_max_7cf53 lk_X4_69 hd rfl rfl (Nat.le_of_ble_eq_true rfl) dX4_giveOut_29 rfl k
theorem c_X4_giveOut_237 {sc : List Int} {d d2 : Nat} {m m2 : Mem} {Q : Option AV → Mem → Prop} {l1 l2 l3 l4 l5 l6 l7 l8 s1 s2 s3 s4 : Int} (Hl1 : RoomAt l1) (Hs1 : RoomAt s1) (hM : C_X4_giveOut sc d2 [aR 44, aR s1, aI s2, aI s3, aI s4] m none m2) (hd : d2 + 1 ≤ d) (k : S_X4_giveOut sc d 240 [aR 44, aR l1, aI l2, aI l3, aI l4, aI l5, aI l6, aI l7, aI l8, aU] [] m2 Q) : S_X4_giveOut sc d 237 [aR 44, aR l1, aI l2, aI l3, aI l4, aI l5, aI l6, aI l7, aI l8, aU] [aI s4, aI s3, aI s2, aR s1, aR 44] m Q := x_callV (as := [aR s1, aI s2, aI s3, aI s4]) (rest := []) hM mk_X4_giveOut mv_X4_giveOut lk_X4_92 (Or.inl ⟨4, (RX4, TX4, 19), ic_44, Nat.le_of_ble_eq_true rfl, rfl, rfl⟩) hd rfl rfl (Nat.le_of_ble_eq_true rfl) dX4_giveOut_237 rfl k
set_option maxRecDepth 4000 in
theorem g_X4_hide_0 {sc : List Int} {d : Nat} {m : Mem} {Q : Option AV → Mem → Prop} {l1 l2 : Int} (Hl1 : RoomAt l1) (k : (0 ≤ (m l1 8)) ∧ ((m l1 8) < 11) ∧ S_X4_hide sc d 12 [aR 44, aR l1, aI l2, aI (m (l1 + 7) (m l1 8)), aU, aU, aU, aU, aU] [aR l1, aR 44] m Q) : S_X4_hide sc d 0 [aR 44, aR l1, aI l2, aU, aU, aU, aU, aU, aU] [] m Q := by
  refine x_aload_n (pc2 := 1) dX4_hide_0 rfl rfl ?_
  refine x_getf (pc2 := 4) (v := aR (l1 + 7)) fl_X4_66 (icr_0 Hl1) (vrr_7 _ Hl1) dX4_hide_1 rfl ?_
  refine x_aload_n (pc2 := 5) dX4_hide_4 rfl rfl ?_
  refine x_getf (pc2 := 8) (v := aI (m l1 8)) fl_X4_58 (icr_0 Hl1) (fv_i _ (icr_0 Hl1) rfl) dX4_hide_5 rfl ?_
  obtain ⟨h1, k⟩ := k
  obtain ⟨h2, k⟩ := k
  refine x_iald (pc2 := 9) (icr_7 Hl1) h1 (by rw [(alr_7 Hl1)]; exact h2) dX4_hide_8 rfl ?_
  refine x_istore_n (pc2 := 10) (ls2 := [aR 44, aR l1, aI l2, aI (m (l1 + 7) (m l1 8)), aU, aU, aU, aU, aU]) dX4_hide_9 rfl (by decide) rfl ?_
  refine x_aload_n (pc2 := 11) dX4_hide_10 rfl rfl ?_
  refine x_aload_n (pc2 := 12) dX4_hide_11 rfl rfl ?_
  exact k
set_option maxRecDepth 4000 in
theorem g_X4_hide_15 {sc : List Int} {d : Nat} {m : Mem} {Q : Option AV → Mem → Prop} {l1 l2 l3 s0 : Int} (Hl1 : RoomAt l1) (k : S_X4_hide sc d 23 [aR 44, aR l1, aI l2, aI l3, aI s0, aI (s0 - 1), aU, aU, aU] [] m Q) : S_X4_hide sc d 15 [aR 44, aR l1, aI l2, aI l3, aU, aU, aU, aU, aU] [aI s0] m Q := by
  refine x_istore (pc2 := 17) (ls2 := [aR 44, aR l1, aI l2, aI l3, aI s0, aU, aU, aU, aU]) dX4_hide_15 rfl (by decide) rfl ?_
  refine x_iload (pc2 := 19) dX4_hide_17 rfl rfl ?_
  refine x_iconst (pc2 := 20) dX4_hide_19 rfl ?_
  refine x_isub (pc2 := 21) dX4_hide_20 rfl ?_
  refine x_istore (pc2 := 23) (ls2 := [aR 44, aR l1, aI l2, aI l3, aI s0, aI (s0 - 1), aU, aU, aU]) dX4_hide_21 rfl (by decide) rfl ?_
  exact k
set_option maxRecDepth 4000 in
theorem g_X4_hide_23 {sc : List Int} {d : Nat} {m : Mem} {Q : Option AV → Mem → Prop} {l1 l2 l3 l4 l5 : Int} (Hl1 : RoomAt l1) (k : (-2147483648 ≤ l5 ∧ l5 < 2147483648) ∧ ((l5 < 0) → (((-2147483648 ≤ l4 ∧ l4 < 2147483648)) ∧ ((¬ (l4 ≤ 0)) → (-2147483648 ≤ (m 54 0) ∧ (m 54 0) < 2147483648)) ∧ (-2147483648 ≤ l4 ∧ l4 < 2147483648) ∧ ((l4 ≤ 0) → (S_X4_hide sc d 244 [aR 44, aU, aU, aU, aU, aU, aU, aU, aU] [] (wr (wr m 44 17 (if l4 ≤ 0 then 0 else (if (m 54 0) ≠ 2147483647 then 0 else (-1) : Int) : Int)) 44 18 0) Q)) ∧ (¬ (l4 ≤ 0) → ((-2147483648 ≤ ((wr (wr m 44 17 (if l4 ≤ 0 then 0 else (if (m 54 0) ≠ 2147483647 then 0 else (-1) : Int) : Int)) 44 18 0) 44 17) ∧ ((wr (wr m 44 17 (if l4 ≤ 0 then 0 else (if (m 54 0) ≠ 2147483647 then 0 else (-1) : Int) : Int)) 44 18 0) 44 17) < 2147483648) ∧ ((((wr (wr m 44 17 (if l4 ≤ 0 then 0 else (if (m 54 0) ≠ 2147483647 then 0 else (-1) : Int) : Int)) 44 18 0) 44 17) ≠ 0) → (S_X4_hide sc d 244 [aR 44, aU, aU, aU, aU, aU, aU, aU, aU] [] (wr (wr m 44 17 (if l4 ≤ 0 then 0 else (if (m 54 0) ≠ 2147483647 then 0 else (-1) : Int) : Int)) 44 18 0) Q)) ∧ (¬ (((wr (wr m 44 17 (if l4 ≤ 0 then 0 else (if (m 54 0) ≠ 2147483647 then 0 else (-1) : Int) : Int)) 44 18 0) 44 17) ≠ 0) → (S_X4_hide sc d 241 [aR 44, aU, aU, aU, aU, aU, aU, aU, aU] [aR l1, aR 44] (wr (wr m 44 17 (if l4 ≤ 0 then 0 else (if (m 54 0) ≠ 2147483647 then 0 else (-1) : Int) : Int)) 44 18 0) Q)))))) ∧ (¬ (l5 < 0) → ((0 ≤ l5) ∧ (l5 < 50) ∧ ((-2147483648 ≤ (l3 - ((wr m 55 l5 (-1)) 52 l5)) ∧ (l3 - ((wr m 55 l5 (-1)) 52 l5)) < 2147483648)) ∧ ((-2147483648 ≤ l2 ∧ l2 < 2147483648)) ∧ S_X4_hide sc d 68 [aR 44, aR l1, aI l2, aI l3, aI l4, aI l5, aI (l5 + 1), aU, aU] [] (wr (wr m 55 l5 (-1)) 54 l5 (if l2 < (l3 - ((wr m 55 l5 (-1)) 52 l5)) then 2147483647 else 0 : Int)) Q))) : S_X4_hide sc d 23 [aR 44, aR l1, aI l2, aI l3, aI l4, aI l5, aU, aU, aU] [] m Q := by
  refine x_iload (pc2 := 25) dX4_hide_23 rfl rfl ?_
  obtain ⟨h1, k⟩ := k
  obtain ⟨k1, k2⟩ := k
  refine x_if_lt (tgt := 197) (pc2 := 28) dX4_hide_25 (by decide) rfl h1 (fun c2 => ?_) (fun c2 => ?_)
  · replace k := k1 c2
    refine x_aload_n (pc2 := 198) dX4_hide_197 rfl rfl ?_
    refine x_iload (pc2 := 200) dX4_hide_198 rfl rfl ?_
    obtain ⟨g4, k⟩ := k
    obtain ⟨g6, k⟩ := k
    have kj : S_X4_hide sc d 219 [aR 44, aR l1, aI l2, aI l3, aI l4, aI l5, aU, aU, aU] [aI (if l4 ≤ 0 then 0 else (if (m 54 0) ≠ 2147483647 then 0 else (-1) : Int) : Int), aR 44] m Q := by
      refine x_putf (pc2 := 222) (x := (if l4 ≤ 0 then 0 else (if (m 54 0) ≠ 2147483647 then 0 else (-1) : Int) : Int)) fl_X4_113 ft_4_17 ic_44 (pv_i _ ic_44 rfl) (pn_i _) dX4_hide_219 rfl ?_
      refine x_aload_n (pc2 := 223) dX4_hide_222 rfl rfl ?_
      refine x_iconst (pc2 := 224) dX4_hide_223 rfl ?_
      refine x_putf (pc2 := 227) (x := 0) fl_X4_116 ft_4_18 ic_44 (pv_i _ ic_44 rfl) (pn_i _) dX4_hide_224 rfl ?_
      refine x_iload (pc2 := 229) dX4_hide_227 rfl rfl ?_
      obtain ⟨h7, k⟩ := k
      obtain ⟨k1, k2⟩ := k
      refine x_if_le (tgt := 244) (pc2 := 232) dX4_hide_229 (by decide) rfl h7 (fun c8 => ?_) (fun c8 => ?_)
      · replace k := k1 c8
        exact x_drop (drp_k (drp_u (drp_u (drp_u (drp_u (drp_u (drp_k (drp_k (drp_k drp_n))))))))) k
      · replace k := k2 c8
        refine x_aload_n (pc2 := 233) dX4_hide_232 rfl rfl ?_
        refine x_getf (pc2 := 236) (v := aI ((wr (wr m 44 17 (if l4 ≤ 0 then 0 else (if (m 54 0) ≠ 2147483647 then 0 else (-1) : Int) : Int)) 44 18 0) 44 17)) fl_X4_113 ic_44 (fv_i _ ic_44 rfl) dX4_hide_233 rfl ?_
        obtain ⟨h9, k⟩ := k
        obtain ⟨k1, k2⟩ := k
        refine x_if_ne (tgt := 244) (pc2 := 239) dX4_hide_236 (by decide) rfl h9 (fun c10 => ?_) (fun c10 => ?_)
        · replace k := k1 c10
          exact x_drop (drp_k (drp_u (drp_u (drp_u (drp_u (drp_u (drp_k (drp_k (drp_k drp_n))))))))) k
        · replace k := k2 c10
          refine x_aload_n (pc2 := 240) dX4_hide_239 rfl rfl ?_
          refine x_aload_n (pc2 := 241) dX4_hide_240 rfl rfl ?_
          exact x_drop (drp_k (drp_u (drp_u (drp_u (drp_u (drp_u (drp_k (drp_k (drp_k drp_n))))))))) k
    have h11 := g4 
    refine x_if_le (tgt := 218) (pc2 := 203) dX4_hide_200 (by decide) rfl h11 (fun c12 => ?_) (fun c12 => ?_)
    · skip
      refine x_iconst (pc2 := 219) dX4_hide_218 rfl ?_
      exact x_topI (if_pos c12) kj
    · skip
      refine x_aload_n (pc2 := 204) dX4_hide_203 rfl rfl ?_
      refine x_getf (pc2 := 207) (v := aR 54) fl_X4_39 ic_44 (vr_44_14 _) dX4_hide_204 rfl ?_
      refine x_iconst (pc2 := 208) dX4_hide_207 rfl ?_
      refine x_iald (pc2 := 209) ic_54 (by decide) (by rw [al_54]; decide) dX4_hide_208 rfl ?_
      refine x_ldc (pc2 := 211) (x := 2147483647) kc_X4_88 rfl dX4_hide_209 rfl ?_
      have h13 := g6 c12
      refine x_icmp_ne (tgt := 218) (pc2 := 214) dX4_hide_211 (by decide) rfl h13 (by decide) (fun c14 => ?_) (fun c14 => ?_)
      · skip
        refine x_iconst (pc2 := 219) dX4_hide_218 rfl ?_
        exact x_topI ((if_neg c12).trans (if_pos c14)) kj
      · skip
        refine x_iconst (pc2 := 215) dX4_hide_214 rfl ?_
        refine x_goto (tgt := 219) dX4_hide_215 (by decide) ?_
        exact x_topI ((if_neg c12).trans (if_neg c14)) kj
  · replace k := k2 c2
    refine x_aload_n (pc2 := 29) dX4_hide_28 rfl rfl ?_
    refine x_getf (pc2 := 32) (v := aR 55) fl_X4_42 ic_44 (vr_44_15 _) dX4_hide_29 rfl ?_
    refine x_iload (pc2 := 34) dX4_hide_32 rfl rfl ?_
    refine x_iconst (pc2 := 35) dX4_hide_34 rfl ?_
    obtain ⟨h15, k⟩ := k
    obtain ⟨h16, k⟩ := k
    refine x_iast (pc2 := 36) ic_55 h15 (by rw [al_55]; exact h16) dX4_hide_35 rfl ?_
    refine x_aload_n (pc2 := 37) dX4_hide_36 rfl rfl ?_
    refine x_getf (pc2 := 40) (v := aR 54) fl_X4_39 ic_44 (vr_44_14 _) dX4_hide_37 rfl ?_
    refine x_iload (pc2 := 42) dX4_hide_40 rfl rfl ?_
    refine x_iload_n (pc2 := 43) dX4_hide_42 rfl rfl ?_
    refine x_aload_n (pc2 := 44) dX4_hide_43 rfl rfl ?_
    refine x_getf (pc2 := 47) (v := aR 52) fl_X4_33 ic_44 (vr_44_12 _) dX4_hide_44 rfl ?_
    refine x_iload (pc2 := 49) dX4_hide_47 rfl rfl ?_
    refine x_iald (pc2 := 50) ic_52 h15 (by rw [al_52]; exact h16) dX4_hide_49 rfl ?_
    refine x_isub (pc2 := 51) dX4_hide_50 rfl ?_
    refine x_iload_n (pc2 := 52) dX4_hide_51 rfl rfl ?_
    obtain ⟨g19, k⟩ := k
    obtain ⟨g20, k⟩ := k
    have kj : S_X4_hide sc d 61 [aR 44, aR l1, aI l2, aI l3, aI l4, aI l5, aU, aU, aU] [aI (if l2 < (l3 - ((wr m 55 l5 (-1)) 52 l5)) then 2147483647 else 0 : Int), aI l5, aR 54] (wr m 55 l5 (-1)) Q := by
      refine x_iast (pc2 := 62) ic_54 h15 (by rw [al_54]; exact h16) dX4_hide_61 rfl ?_
      refine x_iload (pc2 := 64) dX4_hide_62 rfl rfl ?_
      refine x_iconst (pc2 := 65) dX4_hide_64 rfl ?_
      refine x_iadd (pc2 := 66) dX4_hide_65 rfl ?_
      refine x_istore (pc2 := 68) (ls2 := [aR 44, aR l1, aI l2, aI l3, aI l4, aI l5, aI (l5 + 1), aU, aU]) dX4_hide_66 rfl (by decide) rfl ?_
      exact k
    have h21 := g19 
    have h22 := g20 
    refine x_icmp_gt (tgt := 59) (pc2 := 55) dX4_hide_52 (by decide) rfl h21 h22 (fun c23 => ?_) (fun c23 => ?_)
    · skip
      refine x_ldc (pc2 := 61) (x := 2147483647) kc_X4_88 rfl dX4_hide_59 rfl ?_
      exact x_topI (if_pos c23) kj
    · skip
      refine x_iconst (pc2 := 56) dX4_hide_55 rfl ?_
      refine x_goto (tgt := 61) dX4_hide_56 (by decide) ?_
      exact x_topI (if_neg c23) kj
set_option maxRecDepth 4000 in
theorem g_X4_hide_68 {sc : List Int} {d : Nat} {m : Mem} {Q : Option AV → Mem → Prop} {l1 l2 l3 l4 l5 l6 : Int} (Hl1 : RoomAt l1) (k : (-2147483648 ≤ l6 ∧ l6 < 2147483648) ∧ (-2147483648 ≤ l4 ∧ l4 < 2147483648) ∧ ((l4 ≤ l6) → (S_X4_hide sc d 23 [aR 44, aR l1, aI l2, aI l3, aI l4, aI (l5 + (-1)), aU, aU, aU] [] m Q)) ∧ (¬ (l4 ≤ l6) → ((0 ≤ l5) ∧ (l5 < 50) ∧ (-2147483648 ≤ (m 54 l5) ∧ (m 54 l5) < 2147483648) ∧ (((m 54 l5) ≤ 0) → (S_X4_hide sc d 23 [aR 44, aR l1, aI l2, aI l3, aI l4, aI (l5 + (-1)), aU, aU, aU] [] m Q)) ∧ (¬ ((m 54 l5) ≤ 0) → ((0 ≤ l6) ∧ (l6 < 50) ∧ ((-2147483648 ≤ ((m 52 l6) - (m 52 l5)) ∧ ((m 52 l6) - (m 52 l5)) < 2147483648)) ∧ ((-2147483648 ≤ l2 ∧ l2 < 2147483648)) ∧ ((¬ (l2 < ((m 52 l6) - (m 52 l5)))) → (-2147483648 ≤ (m 54 l6) ∧ (m 54 l6) < 2147483648)) ∧ (-2147483648 ≤ (if l2 < ((m 52 l6) - (m 52 l5)) then 0 else (if 2147483647 ≤ (m 54 l6) then 0 else 1 : Int) : Int) ∧ (if l2 < ((m 52 l6) - (m 52 l5)) then 0 else (if 2147483647 ≤ (m 54 l6) then 0 else 1 : Int) : Int) < 2147483648) ∧ (((if l2 < ((m 52 l6) - (m 52 l5)) then 0 else (if 2147483647 ≤ (m 54 l6) then 0 else 1 : Int) : Int) = 0) → ((((if l2 < ((m 52 l6) - (m 52 l5)) then 0 else (if 2147483647 ≤ (m 54 l6) then 0 else 1 : Int) : Int) = 0) → (S_X4_hide sc d 68 [aR 44, aR l1, aI l2, aI l3, aI l4, aI l5, aI (l6 + 1), aU, aU] [] m Q)) ∧ (¬ ((if l2 < ((m 52 l6) - (m 52 l5)) then 0 else (if 2147483647 ≤ (m 54 l6) then 0 else 1 : Int) : Int) = 0) → ((((m 54 l5) < 2147483647) → (S_X4_hide sc d 68 [aR 44, aR l1, aI l2, aI l3, aI l4, aI l5, aI (l6 + 1), aU, aU] [] m Q)) ∧ (¬ ((m 54 l5) < 2147483647) → (S_X4_hide sc d 68 [aR 44, aR l1, aI l2, aI l3, aI l4, aI l5, aI (l6 + 1), aU, aU] [] (wr (wr m 54 l5 2147483647) 55 l5 l6) Q)))))) ∧ (¬ ((if l2 < ((m 52 l6) - (m 52 l5)) then 0 else (if 2147483647 ≤ (m 54 l6) then 0 else 1 : Int) : Int) = 0) → (S_X4_hide sc d 139 [aR 44, aR l1, aI l2, aI l3, aI l4, aI l5, aI l6, aI (if l2 < ((m 52 l6) - (m 52 l5)) then 0 else (if 2147483647 ≤ (m 54 l6) then 0 else 1 : Int) : Int), aU] [aI l6, aR l1, aR 44, aI (m 54 l6)] m Q))))))) : S_X4_hide sc d 68 [aR 44, aR l1, aI l2, aI l3, aI l4, aI l5, aI l6, aU, aU] [] m Q := by
  refine x_iload (pc2 := 70) dX4_hide_68 rfl rfl ?_
  refine x_iload (pc2 := 72) dX4_hide_70 rfl rfl ?_
  obtain ⟨h1, k⟩ := k
  obtain ⟨h2, k⟩ := k
  obtain ⟨k1, k2⟩ := k
  refine x_icmp_ge (tgt := 191) (pc2 := 75) dX4_hide_72 (by decide) rfl h1 h2 (fun c3 => ?_) (fun c3 => ?_)
  · replace k := k1 c3
    refine x_iinc (pc2 := 194) (ls2 := [aR 44, aR l1, aI l2, aI l3, aI l4, aI (l5 + (-1)), aI l6, aU, aU]) dX4_hide_191 rfl rfl (by decide) rfl ?_
    refine x_goto (tgt := 23) dX4_hide_194 (by decide) ?_
    exact x_drop (drp_k (drp_k (drp_k (drp_k (drp_k (drp_k (drp_u (drp_k (drp_k drp_n))))))))) k
  · replace k := k2 c3
    refine x_aload_n (pc2 := 76) dX4_hide_75 rfl rfl ?_
    refine x_getf (pc2 := 79) (v := aR 54) fl_X4_39 ic_44 (vr_44_14 _) dX4_hide_76 rfl ?_
    refine x_iload (pc2 := 81) dX4_hide_79 rfl rfl ?_
    obtain ⟨h4, k⟩ := k
    obtain ⟨h5, k⟩ := k
    refine x_iald (pc2 := 82) ic_54 h4 (by rw [al_54]; exact h5) dX4_hide_81 rfl ?_
    obtain ⟨h6, k⟩ := k
    obtain ⟨k1, k2⟩ := k
    refine x_if_le (tgt := 191) (pc2 := 85) dX4_hide_82 (by decide) rfl h6 (fun c7 => ?_) (fun c7 => ?_)
    · replace k := k1 c7
      refine x_iinc (pc2 := 194) (ls2 := [aR 44, aR l1, aI l2, aI l3, aI l4, aI (l5 + (-1)), aI l6, aU, aU]) dX4_hide_191 rfl rfl (by decide) rfl ?_
      refine x_goto (tgt := 23) dX4_hide_194 (by decide) ?_
      exact x_drop (drp_k (drp_k (drp_k (drp_k (drp_k (drp_k (drp_u (drp_k (drp_k drp_n))))))))) k
    · replace k := k2 c7
      refine x_aload_n (pc2 := 86) dX4_hide_85 rfl rfl ?_
      refine x_getf (pc2 := 89) (v := aR 52) fl_X4_33 ic_44 (vr_44_12 _) dX4_hide_86 rfl ?_
      refine x_iload (pc2 := 91) dX4_hide_89 rfl rfl ?_
      obtain ⟨h8, k⟩ := k
      obtain ⟨h9, k⟩ := k
      refine x_iald (pc2 := 92) ic_52 h8 (by rw [al_52]; exact h9) dX4_hide_91 rfl ?_
      refine x_aload_n (pc2 := 93) dX4_hide_92 rfl rfl ?_
      refine x_getf (pc2 := 96) (v := aR 52) fl_X4_33 ic_44 (vr_44_12 _) dX4_hide_93 rfl ?_
      refine x_iload (pc2 := 98) dX4_hide_96 rfl rfl ?_
      refine x_iald (pc2 := 99) ic_52 h4 (by rw [al_52]; exact h5) dX4_hide_98 rfl ?_
      refine x_isub (pc2 := 100) dX4_hide_99 rfl ?_
      refine x_iload_n (pc2 := 101) dX4_hide_100 rfl rfl ?_
      obtain ⟨g12, k⟩ := k
      obtain ⟨g13, k⟩ := k
      obtain ⟨g15, k⟩ := k
      have kj : S_X4_hide sc d 121 [aR 44, aR l1, aI l2, aI l3, aI l4, aI l5, aI l6, aU, aU] [aI (if l2 < ((m 52 l6) - (m 52 l5)) then 0 else (if 2147483647 ≤ (m 54 l6) then 0 else 1 : Int) : Int)] m Q := by
        refine x_istore (pc2 := 123) (ls2 := [aR 44, aR l1, aI l2, aI l3, aI l4, aI l5, aI l6, aI (if l2 < ((m 52 l6) - (m 52 l5)) then 0 else (if 2147483647 ≤ (m 54 l6) then 0 else 1 : Int) : Int), aU]) dX4_hide_121 rfl (by decide) rfl ?_
        refine x_iload (pc2 := 125) dX4_hide_123 rfl rfl ?_
        obtain ⟨h16, k⟩ := k
        obtain ⟨k1, k2⟩ := k
        refine x_if_eq (tgt := 146) (pc2 := 128) dX4_hide_125 (by decide) rfl h16 (fun c17 => ?_) (fun c17 => ?_)
        · replace k := k1 c17
          refine x_ldc (pc2 := 148) (x := 2147483647) kc_X4_88 rfl dX4_hide_146 rfl ?_
          refine x_istore (pc2 := 150) (ls2 := [aR 44, aR l1, aI l2, aI l3, aI l4, aI l5, aI l6, aI (if l2 < ((m 52 l6) - (m 52 l5)) then 0 else (if 2147483647 ≤ (m 54 l6) then 0 else 1 : Int) : Int), aI 2147483647]) dX4_hide_148 rfl (by decide) rfl ?_
          refine x_iload (pc2 := 152) dX4_hide_150 rfl rfl ?_
          obtain ⟨k1, k2⟩ := k
          refine x_if_eq (tgt := 185) (pc2 := 155) dX4_hide_152 (by decide) rfl h16 (fun c18 => ?_) (fun c18 => ?_)
          · replace k := k1 c18
            refine x_iinc (pc2 := 188) (ls2 := [aR 44, aR l1, aI l2, aI l3, aI l4, aI l5, aI (l6 + 1), aI (if l2 < ((m 52 l6) - (m 52 l5)) then 0 else (if 2147483647 ≤ (m 54 l6) then 0 else 1 : Int) : Int), aI 2147483647]) dX4_hide_185 rfl rfl (by decide) rfl ?_
            refine x_goto (tgt := 68) dX4_hide_188 (by decide) ?_
            exact x_drop (drp_k (drp_k (drp_k (drp_k (drp_k (drp_k (drp_k (drp_u (drp_u drp_n))))))))) k
          · replace k := k2 c18
            refine x_iload (pc2 := 157) dX4_hide_155 rfl rfl ?_
            refine x_aload_n (pc2 := 158) dX4_hide_157 rfl rfl ?_
            refine x_getf (pc2 := 161) (v := aR 54) fl_X4_39 ic_44 (vr_44_14 _) dX4_hide_158 rfl ?_
            refine x_iload (pc2 := 163) dX4_hide_161 rfl rfl ?_
            refine x_iald (pc2 := 164) ic_54 h4 (by rw [al_54]; exact h5) dX4_hide_163 rfl ?_
            obtain ⟨k1, k2⟩ := k
            refine x_icmp_gt (tgt := 185) (pc2 := 167) dX4_hide_164 (by decide) rfl (by decide) h6 (fun c19 => ?_) (fun c19 => ?_)
            · replace k := k1 c19
              refine x_iinc (pc2 := 188) (ls2 := [aR 44, aR l1, aI l2, aI l3, aI l4, aI l5, aI (l6 + 1), aI (if l2 < ((m 52 l6) - (m 52 l5)) then 0 else (if 2147483647 ≤ (m 54 l6) then 0 else 1 : Int) : Int), aI 2147483647]) dX4_hide_185 rfl rfl (by decide) rfl ?_
              refine x_goto (tgt := 68) dX4_hide_188 (by decide) ?_
              exact x_drop (drp_k (drp_k (drp_k (drp_k (drp_k (drp_k (drp_k (drp_u (drp_u drp_n))))))))) k
            · replace k := k2 c19
              refine x_aload_n (pc2 := 168) dX4_hide_167 rfl rfl ?_
              refine x_getf (pc2 := 171) (v := aR 54) fl_X4_39 ic_44 (vr_44_14 _) dX4_hide_168 rfl ?_
              refine x_iload (pc2 := 173) dX4_hide_171 rfl rfl ?_
              refine x_iload (pc2 := 175) dX4_hide_173 rfl rfl ?_
              refine x_iast (pc2 := 176) ic_54 h4 (by rw [al_54]; exact h5) dX4_hide_175 rfl ?_
              refine x_aload_n (pc2 := 177) dX4_hide_176 rfl rfl ?_
              refine x_getf (pc2 := 180) (v := aR 55) fl_X4_42 ic_44 (vr_44_15 _) dX4_hide_177 rfl ?_
              refine x_iload (pc2 := 182) dX4_hide_180 rfl rfl ?_
              refine x_iload (pc2 := 184) dX4_hide_182 rfl rfl ?_
              refine x_iast (pc2 := 185) ic_55 h4 (by rw [al_55]; exact h5) dX4_hide_184 rfl ?_
              refine x_iinc (pc2 := 188) (ls2 := [aR 44, aR l1, aI l2, aI l3, aI l4, aI l5, aI (l6 + 1), aI (if l2 < ((m 52 l6) - (m 52 l5)) then 0 else (if 2147483647 ≤ (m 54 l6) then 0 else 1 : Int) : Int), aI 2147483647]) dX4_hide_185 rfl rfl (by decide) rfl ?_
              refine x_goto (tgt := 68) dX4_hide_188 (by decide) ?_
              exact x_drop (drp_k (drp_k (drp_k (drp_k (drp_k (drp_k (drp_k (drp_u (drp_u drp_n))))))))) k
        · replace k := k2 c17
          refine x_aload_n (pc2 := 129) dX4_hide_128 rfl rfl ?_
          refine x_getf (pc2 := 132) (v := aR 54) fl_X4_39 ic_44 (vr_44_14 _) dX4_hide_129 rfl ?_
          refine x_iload (pc2 := 134) dX4_hide_132 rfl rfl ?_
          refine x_iald (pc2 := 135) ic_54 h8 (by rw [al_54]; exact h9) dX4_hide_134 rfl ?_
          refine x_aload_n (pc2 := 136) dX4_hide_135 rfl rfl ?_
          refine x_aload_n (pc2 := 137) dX4_hide_136 rfl rfl ?_
          refine x_iload (pc2 := 139) dX4_hide_137 rfl rfl ?_
          exact k
      have h20 := g12 
      have h21 := g13 
      refine x_icmp_gt (tgt := 120) (pc2 := 104) dX4_hide_101 (by decide) rfl h20 h21 (fun c22 => ?_) (fun c22 => ?_)
      · skip
        refine x_iconst (pc2 := 121) dX4_hide_120 rfl ?_
        exact x_topI (if_pos c22) kj
      · skip
        refine x_aload_n (pc2 := 105) dX4_hide_104 rfl rfl ?_
        refine x_getf (pc2 := 108) (v := aR 54) fl_X4_39 ic_44 (vr_44_14 _) dX4_hide_105 rfl ?_
        refine x_iload (pc2 := 110) dX4_hide_108 rfl rfl ?_
        refine x_iald (pc2 := 111) ic_54 h8 (by rw [al_54]; exact h9) dX4_hide_110 rfl ?_
        refine x_ldc (pc2 := 113) (x := 2147483647) kc_X4_88 rfl dX4_hide_111 rfl ?_
        have h23 := g15 c22
        refine x_icmp_ge (tgt := 120) (pc2 := 116) dX4_hide_113 (by decide) rfl h23 (by decide) (fun c24 => ?_) (fun c24 => ?_)
        · skip
          refine x_iconst (pc2 := 121) dX4_hide_120 rfl ?_
          exact x_topI ((if_neg c22).trans (if_pos c24)) kj
        · skip
          refine x_iconst (pc2 := 117) dX4_hide_116 rfl ?_
          refine x_goto (tgt := 121) dX4_hide_117 (by decide) ?_
          exact x_topI ((if_neg c22).trans (if_neg c24)) kj
set_option maxRecDepth 4000 in
theorem g_X4_hide_142 {sc : List Int} {d : Nat} {m : Mem} {Q : Option AV → Mem → Prop} {l1 l2 l3 l4 l5 l6 l7 s0 s1 : Int} (Hl1 : RoomAt l1) (k : (-2147483648 ≤ l7 ∧ l7 < 2147483648) ∧ ((l7 = 0) → (S_X4_hide sc d 68 [aR 44, aR l1, aI l2, aI l3, aI l4, aI l5, aI (l6 + 1), aU, aU] [] m Q)) ∧ (¬ (l7 = 0) → ((0 ≤ l5) ∧ (l5 < 50) ∧ (-2147483648 ≤ (s0 + s1) ∧ (s0 + s1) < 2147483648) ∧ (-2147483648 ≤ (m 54 l5) ∧ (m 54 l5) < 2147483648) ∧ (((m 54 l5) < (s0 + s1)) → (S_X4_hide sc d 68 [aR 44, aR l1, aI l2, aI l3, aI l4, aI l5, aI (l6 + 1), aU, aU] [] m Q)) ∧ (¬ ((m 54 l5) < (s0 + s1)) → (S_X4_hide sc d 68 [aR 44, aR l1, aI l2, aI l3, aI l4, aI l5, aI (l6 + 1), aU, aU] [] (wr (wr m 54 l5 (s0 + s1)) 55 l5 l6) Q))))) : S_X4_hide sc d 142 [aR 44, aR l1, aI l2, aI l3, aI l4, aI l5, aI l6, aI l7, aU] [aI s1, aI s0] m Q := by
  refine x_iadd (pc2 := 143) dX4_hide_142 rfl ?_
  refine x_goto (tgt := 148) dX4_hide_143 (by decide) ?_
  refine x_istore (pc2 := 150) (ls2 := [aR 44, aR l1, aI l2, aI l3, aI l4, aI l5, aI l6, aI l7, aI (s0 + s1)]) dX4_hide_148 rfl (by decide) rfl ?_
  refine x_iload (pc2 := 152) dX4_hide_150 rfl rfl ?_
  obtain ⟨h1, k⟩ := k
  obtain ⟨k1, k2⟩ := k
  refine x_if_eq (tgt := 185) (pc2 := 155) dX4_hide_152 (by decide) rfl h1 (fun c2 => ?_) (fun c2 => ?_)
  · replace k := k1 c2
    refine x_iinc (pc2 := 188) (ls2 := [aR 44, aR l1, aI l2, aI l3, aI l4, aI l5, aI (l6 + 1), aI l7, aI (s0 + s1)]) dX4_hide_185 rfl rfl (by decide) rfl ?_
    refine x_goto (tgt := 68) dX4_hide_188 (by decide) ?_
    exact x_drop (drp_k (drp_k (drp_k (drp_k (drp_k (drp_k (drp_k (drp_u (drp_u drp_n))))))))) k
  · replace k := k2 c2
    refine x_iload (pc2 := 157) dX4_hide_155 rfl rfl ?_
    refine x_aload_n (pc2 := 158) dX4_hide_157 rfl rfl ?_
    refine x_getf (pc2 := 161) (v := aR 54) fl_X4_39 ic_44 (vr_44_14 _) dX4_hide_158 rfl ?_
    refine x_iload (pc2 := 163) dX4_hide_161 rfl rfl ?_
    obtain ⟨h3, k⟩ := k
    obtain ⟨h4, k⟩ := k
    refine x_iald (pc2 := 164) ic_54 h3 (by rw [al_54]; exact h4) dX4_hide_163 rfl ?_
    obtain ⟨h5, k⟩ := k
    obtain ⟨h6, k⟩ := k
    obtain ⟨k1, k2⟩ := k
    refine x_icmp_gt (tgt := 185) (pc2 := 167) dX4_hide_164 (by decide) rfl h5 h6 (fun c7 => ?_) (fun c7 => ?_)
    · replace k := k1 c7
      refine x_iinc (pc2 := 188) (ls2 := [aR 44, aR l1, aI l2, aI l3, aI l4, aI l5, aI (l6 + 1), aI l7, aI (s0 + s1)]) dX4_hide_185 rfl rfl (by decide) rfl ?_
      refine x_goto (tgt := 68) dX4_hide_188 (by decide) ?_
      exact x_drop (drp_k (drp_k (drp_k (drp_k (drp_k (drp_k (drp_k (drp_u (drp_u drp_n))))))))) k
    · replace k := k2 c7
      refine x_aload_n (pc2 := 168) dX4_hide_167 rfl rfl ?_
      refine x_getf (pc2 := 171) (v := aR 54) fl_X4_39 ic_44 (vr_44_14 _) dX4_hide_168 rfl ?_
      refine x_iload (pc2 := 173) dX4_hide_171 rfl rfl ?_
      refine x_iload (pc2 := 175) dX4_hide_173 rfl rfl ?_
      refine x_iast (pc2 := 176) ic_54 h3 (by rw [al_54]; exact h4) dX4_hide_175 rfl ?_
      refine x_aload_n (pc2 := 177) dX4_hide_176 rfl rfl ?_
      refine x_getf (pc2 := 180) (v := aR 55) fl_X4_42 ic_44 (vr_44_15 _) dX4_hide_177 rfl ?_
      refine x_iload (pc2 := 182) dX4_hide_180 rfl rfl ?_
      refine x_iload (pc2 := 184) dX4_hide_182 rfl rfl ?_
      refine x_iast (pc2 := 185) ic_55 h3 (by rw [al_55]; exact h4) dX4_hide_184 rfl ?_
      refine x_iinc (pc2 := 188) (ls2 := [aR 44, aR l1, aI l2, aI l3, aI l4, aI l5, aI (l6 + 1), aI l7, aI (s0 + s1)]) dX4_hide_185 rfl rfl (by decide) rfl ?_
      refine x_goto (tgt := 68) dX4_hide_188 (by decide) ?_
      exact x_drop (drp_k (drp_k (drp_k (drp_k (drp_k (drp_k (drp_k (drp_u (drp_u drp_n))))))))) k
set_option maxRecDepth 4000 in
theorem g_X4_hide_244 {sc : List Int} {d : Nat} {m : Mem} {Q : Option AV → Mem → Prop} (k : Q none m) : S_X4_hide sc d 244 [aR 44, aU, aU, aU, aU, aU, aU, aU, aU] [] m Q := by
  exact x_return dX4_hide_244 rfl k
theorem c_X4_hide_12 {sc : List Int} {d d2 : Nat} {m m2 : Mem} {Q : Option AV → Mem → Prop} {l1 l2 l3 s1 : Int} {v : Int} (Hl1 : RoomAt l1) (Hs1 : RoomAt s1) (hM : C_X4_listSpots sc d2 [aR 44, aR s1] m (some (aI v)) m2) (hd : d2 + 1 ≤ d) (k : S_X4_hide sc d 15 [aR 44, aR l1, aI l2, aI l3, aU, aU, aU, aU, aU] [aI v] m2 Q) : S_X4_hide sc d 12 [aR 44, aR l1, aI l2, aI l3, aU, aU, aU, aU, aU] [aR s1, aR 44] m Q := x_callV (as := [aR s1]) (rest := []) hM mk_X4_listSpots mv_X4_listSpots lk_X4_105 (Or.inl ⟨4, (RX4, TX4, 19), ic_44, Nat.le_of_ble_eq_true rfl, rfl, rfl⟩) hd rfl rfl (Nat.le_of_ble_eq_true rfl) dX4_hide_12 rfl k
theorem c_X4_hide_139 {sc : List Int} {d d2 : Nat} {m m2 : Mem} {Q : Option AV → Mem → Prop} {l1 l2 l3 l4 l5 l6 l7 s0 s2 s3 : Int} {v : Int} (Hl1 : RoomAt l1) (Hs2 : RoomAt s2) (hM : C_X4_costOf sc d2 [aR 44, aR s2, aI s3] m (some (aI v)) m2) (hd : d2 + 1 ≤ d) (k : S_X4_hide sc d 142 [aR 44, aR l1, aI l2, aI l3, aI l4, aI l5, aI l6, aI l7, aU] [aI v, aI s0] m2 Q) : S_X4_hide sc d 139 [aR 44, aR l1, aI l2, aI l3, aI l4, aI l5, aI l6, aI l7, aU] [aI s3, aR s2, aR 44, aI s0] m Q := x_callV (as := [aR s2, aI s3]) (rest := [aI s0]) hM mk_X4_costOf mv_X4_costOf lk_X4_109 (Or.inl ⟨4, (RX4, TX4, 19), ic_44, Nat.le_of_ble_eq_true rfl, rfl, rfl⟩) hd rfl rfl (Nat.le_of_ble_eq_true rfl) dX4_hide_139 rfl k
theorem c_X4_hide_241 {sc : List Int} {d d2 : Nat} {m m2 : Mem} {Q : Option AV → Mem → Prop} {s1 : Int} (Hs1 : RoomAt s1) (hM : C_X4_listStarts sc d2 [aR 44, aR s1] m none m2) (hd : d2 + 1 ≤ d) (k : S_X4_hide sc d 244 [aR 44, aU, aU, aU, aU, aU, aU, aU, aU] [] m2 Q) : S_X4_hide sc d 241 [aR 44, aU, aU, aU, aU, aU, aU, aU, aU] [aR s1, aR 44] m Q := x_callV (as := [aR s1]) (rest := []) hM mk_X4_listStarts mv_X4_listStarts lk_X4_119 (Or.inl ⟨4, (RX4, TX4, 19), ic_44, Nat.le_of_ble_eq_true rfl, rfl, rfl⟩) hd rfl rfl (Nat.le_of_ble_eq_true rfl) dX4_hide_241 rfl k
set_option maxRecDepth 4000 in
theorem g_X4_listStarts_0 {sc : List Int} {d : Nat} {m : Mem} {Q : Option AV → Mem → Prop} {l1 : Int} (Hl1 : RoomAt l1) (k : S_X4_listStarts sc d 9 [aR 44, aR l1, aI (m 55 0), aI 0] [] m Q) : S_X4_listStarts sc d 0 [aR 44, aR l1, aU, aU] [] m Q := by
  refine x_aload_n (pc2 := 1) dX4_listStarts_0 rfl rfl ?_
  refine x_getf (pc2 := 4) (v := aR 55) fl_X4_42 ic_44 (vr_44_15 _) dX4_listStarts_1 rfl ?_
  refine x_iconst (pc2 := 5) dX4_listStarts_4 rfl ?_
  refine x_iald (pc2 := 6) ic_55 (by decide) (by rw [al_55]; decide) dX4_listStarts_5 rfl ?_
  refine x_istore_n (pc2 := 7) (ls2 := [aR 44, aR l1, aI (m 55 0), aU]) dX4_listStarts_6 rfl (by decide) rfl ?_
  refine x_iconst (pc2 := 8) dX4_listStarts_7 rfl ?_
  refine x_istore_n (pc2 := 9) (ls2 := [aR 44, aR l1, aI (m 55 0), aI 0]) dX4_listStarts_8 rfl (by decide) rfl ?_
  exact k
set_option maxRecDepth 4000 in
theorem g_X4_listStarts_9 {sc : List Int} {d : Nat} {m : Mem} {Q : Option AV → Mem → Prop} {l1 l2 l3 : Int} (Hl1 : RoomAt l1) (k : (-2147483648 ≤ l3 ∧ l3 < 2147483648) ∧ ((50 ≤ l3) → (Q none m)) ∧ (¬ (50 ≤ l3) → ((-2147483648 ≤ l2 ∧ l2 < 2147483648) ∧ ((l2 ≤ 0) → (Q none m)) ∧ (¬ (l2 ≤ 0) → ((0 ≤ l2) ∧ (l2 < 50) ∧ (0 ≤ (m 44 17)) ∧ ((m 44 17) < 50) ∧ S_X4_listStarts sc d 52 [aR 44, aR l1, aI l2, aI l3] [aI l2, aR l1, aR 44, aI ((wr (wr m 56 (m 44 17) (m 53 l2)) 44 17 (((wr m 56 (m 44 17) (m 53 l2)) 44 17) + 1)) 44 18), aR 44] (wr (wr m 56 (m 44 17) (m 53 l2)) 44 17 (((wr m 56 (m 44 17) (m 53 l2)) 44 17) + 1)) Q))))) : S_X4_listStarts sc d 9 [aR 44, aR l1, aI l2, aI l3] [] m Q := by
  refine x_iload_n (pc2 := 10) dX4_listStarts_9 rfl rfl ?_
  refine x_bipush (pc2 := 12) dX4_listStarts_10 rfl rfl ?_
  obtain ⟨h1, k⟩ := k
  obtain ⟨k1, k2⟩ := k
  refine x_icmp_ge (tgt := 75) (pc2 := 15) dX4_listStarts_12 (by decide) rfl h1 (by decide) (fun c2 => ?_) (fun c2 => ?_)
  · replace k := k1 c2
    exact x_return dX4_listStarts_75 rfl k
  · replace k := k2 c2
    refine x_iload_n (pc2 := 16) dX4_listStarts_15 rfl rfl ?_
    obtain ⟨h3, k⟩ := k
    obtain ⟨k1, k2⟩ := k
    refine x_if_le (tgt := 75) (pc2 := 19) dX4_listStarts_16 (by decide) rfl h3 (fun c4 => ?_) (fun c4 => ?_)
    · replace k := k1 c4
      exact x_return dX4_listStarts_75 rfl k
    · replace k := k2 c4
      refine x_aload_n (pc2 := 20) dX4_listStarts_19 rfl rfl ?_
      refine x_getf (pc2 := 23) (v := aR 56) fl_X4_45 ic_44 (vr_44_16 _) dX4_listStarts_20 rfl ?_
      refine x_aload_n (pc2 := 24) dX4_listStarts_23 rfl rfl ?_
      refine x_getf (pc2 := 27) (v := aI (m 44 17)) fl_X4_113 ic_44 (fv_i _ ic_44 rfl) dX4_listStarts_24 rfl ?_
      refine x_aload_n (pc2 := 28) dX4_listStarts_27 rfl rfl ?_
      refine x_getf (pc2 := 31) (v := aR 53) fl_X4_36 ic_44 (vr_44_13 _) dX4_listStarts_28 rfl ?_
      refine x_iload_n (pc2 := 32) dX4_listStarts_31 rfl rfl ?_
      obtain ⟨h5, k⟩ := k
      obtain ⟨h6, k⟩ := k
      refine x_iald (pc2 := 33) ic_53 h5 (by rw [al_53]; exact h6) dX4_listStarts_32 rfl ?_
      obtain ⟨h7, k⟩ := k
      obtain ⟨h8, k⟩ := k
      refine x_iast (pc2 := 34) ic_56 h7 (by rw [al_56]; exact h8) dX4_listStarts_33 rfl ?_
      refine x_aload_n (pc2 := 35) dX4_listStarts_34 rfl rfl ?_
      refine x_dup_r (pc2 := 36) dX4_listStarts_35 rfl (by decide) ?_
      refine x_getf (pc2 := 39) (v := aI ((wr m 56 (m 44 17) (m 53 l2)) 44 17)) fl_X4_113 ic_44 (fv_i _ ic_44 rfl) dX4_listStarts_36 rfl ?_
      refine x_iconst (pc2 := 40) dX4_listStarts_39 rfl ?_
      refine x_iadd (pc2 := 41) dX4_listStarts_40 rfl ?_
      refine x_putf (pc2 := 44) (x := (((wr m 56 (m 44 17) (m 53 l2)) 44 17) + 1)) fl_X4_113 ft_4_17 ic_44 (pv_i _ ic_44 rfl) (pn_i _) dX4_listStarts_41 rfl ?_
      refine x_aload_n (pc2 := 45) dX4_listStarts_44 rfl rfl ?_
      refine x_dup_r (pc2 := 46) dX4_listStarts_45 rfl (by decide) ?_
      refine x_getf (pc2 := 49) (v := aI ((wr (wr m 56 (m 44 17) (m 53 l2)) 44 17 (((wr m 56 (m 44 17) (m 53 l2)) 44 17) + 1)) 44 18)) fl_X4_116 ic_44 (fv_i _ ic_44 rfl) dX4_listStarts_46 rfl ?_
      refine x_aload_n (pc2 := 50) dX4_listStarts_49 rfl rfl ?_
      refine x_aload_n (pc2 := 51) dX4_listStarts_50 rfl rfl ?_
      refine x_iload_n (pc2 := 52) dX4_listStarts_51 rfl rfl ?_
      exact k
set_option maxRecDepth 4000 in
theorem g_X4_listStarts_55 {sc : List Int} {d : Nat} {m : Mem} {Q : Option AV → Mem → Prop} {l1 l2 l3 s1 s2 : Int} (Hl1 : RoomAt l1) (k : (-2147483648 ≤ s2 ∧ s2 < 2147483648) ∧ (0 ≤ l2) ∧ (l2 < 50) ∧ S_X4_listStarts sc d 9 [aR 44, aR l1, aI ((wr m 44 18 (s1 + (s2.tmod 100))) 55 l2), aI (l3 + 1)] [] (wr m 44 18 (s1 + (s2.tmod 100))) Q) : S_X4_listStarts sc d 55 [aR 44, aR l1, aI l2, aI l3] [aI s2, aI s1, aR 44] m Q := by
  refine x_bipush (pc2 := 57) dX4_listStarts_55 rfl rfl ?_
  obtain ⟨h1, k⟩ := k
  refine x_irem (pc2 := 58) dX4_listStarts_57 rfl h1 (by decide) (by decide) ?_
  refine x_iadd (pc2 := 59) dX4_listStarts_58 rfl ?_
  refine x_putf (pc2 := 62) (x := (s1 + (s2.tmod 100))) fl_X4_116 ft_4_18 ic_44 (pv_i _ ic_44 rfl) (pn_i _) dX4_listStarts_59 rfl ?_
  refine x_aload_n (pc2 := 63) dX4_listStarts_62 rfl rfl ?_
  refine x_getf (pc2 := 66) (v := aR 55) fl_X4_42 ic_44 (vr_44_15 _) dX4_listStarts_63 rfl ?_
  refine x_iload_n (pc2 := 67) dX4_listStarts_66 rfl rfl ?_
  obtain ⟨h2, k⟩ := k
  obtain ⟨h3, k⟩ := k
  refine x_iald (pc2 := 68) ic_55 h2 (by rw [al_55]; exact h3) dX4_listStarts_67 rfl ?_
  refine x_istore_n (pc2 := 69) (ls2 := [aR 44, aR l1, aI ((wr m 44 18 (s1 + (s2.tmod 100))) 55 l2), aI l3]) dX4_listStarts_68 rfl (by decide) rfl ?_
  refine x_iinc (pc2 := 72) (ls2 := [aR 44, aR l1, aI ((wr m 44 18 (s1 + (s2.tmod 100))) 55 l2), aI (l3 + 1)]) dX4_listStarts_69 rfl rfl (by decide) rfl ?_
  refine x_goto (tgt := 9) dX4_listStarts_72 (by decide) ?_
  exact k
theorem c_X4_listStarts_52 {sc : List Int} {d d2 : Nat} {m m2 : Mem} {Q : Option AV → Mem → Prop} {l1 l2 l3 s1 s3 s4 : Int} {v : Int} (Hl1 : RoomAt l1) (Hs3 : RoomAt s3) (hM : C_X4_costOf sc d2 [aR 44, aR s3, aI s4] m (some (aI v)) m2) (hd : d2 + 1 ≤ d) (k : S_X4_listStarts sc d 55 [aR 44, aR l1, aI l2, aI l3] [aI v, aI s1, aR 44] m2 Q) : S_X4_listStarts sc d 52 [aR 44, aR l1, aI l2, aI l3] [aI s4, aR s3, aR 44, aI s1, aR 44] m Q := x_callV (as := [aR s3, aI s4]) (rest := [aI s1, aR 44]) hM mk_X4_costOf mv_X4_costOf lk_X4_109 (Or.inl ⟨4, (RX4, TX4, 19), ic_44, Nat.le_of_ble_eq_true rfl, rfl, rfl⟩) hd rfl rfl (Nat.le_of_ble_eq_true rfl) dX4_listStarts_52 rfl k
set_option maxRecDepth 4000 in
theorem g_X4_costOf_0 {sc : List Int} {d : Nat} {m : Mem} {Q : Option AV → Mem → Prop} {l1 l2 : Int} (Hl1 : RoomAt l1) (k : (0 ≤ l2) ∧ (l2 < 50) ∧ (-2147483648 ≤ (m 53 l2) ∧ (m 53 l2) < 2147483648) ∧ ((-2147483648 ≤ ((m 53 l2).tmod 100) ∧ ((m 53 l2).tmod 100) < 2147483648)) ∧ ((-2147483648 ≤ (if ((m 53 l2).tmod 100) = 0 then 0 else 1 : Int) ∧ (if ((m 53 l2).tmod 100) = 0 then 0 else 1 : Int) < 2147483648)) ∧ ((¬ ((if ((m 53 l2).tmod 100) = 0 then 0 else 1 : Int) = 0)) → (-2147483648 ≤ ((m 53 l2).tdiv 100) ∧ ((m 53 l2).tdiv 100) < 2147483648)) ∧ ((¬ ((if ((m 53 l2).tmod 100) = 0 then 0 else 1 : Int) = 0)) → (-2147483648 ≤ (m l1 8) ∧ (m l1 8) < 2147483648)) ∧ ((¬ ((if ((m 53 l2).tmod 100) = 0 then 0 else 1 : Int) = 0)) → (¬ ((m l1 8) ≤ ((m 53 l2).tdiv 100))) → (0 ≤ ((m 53 l2).tdiv 100))) ∧ ((¬ ((if ((m 53 l2).tmod 100) = 0 then 0 else 1 : Int) = 0)) → (¬ ((m l1 8) ≤ ((m 53 l2).tdiv 100))) → (((m 53 l2).tdiv 100) < 10)) ∧ Q (some (aI (100 + (if (if ((m 53 l2).tmod 100) = 0 then 0 else 1 : Int) = 0 then 0 else (if (m l1 8) ≤ ((m 53 l2).tdiv 100) then 0 else (m (l1 + 4) ((m 53 l2).tdiv 100)) : Int) : Int)))) m) : S_X4_costOf sc d 0 [aR 44, aR l1, aI l2, aU, aU, aU] [] m Q := by
  refine x_aload_n (pc2 := 1) dX4_costOf_0 rfl rfl ?_
  refine x_getf (pc2 := 4) (v := aR 53) fl_X4_36 ic_44 (vr_44_13 _) dX4_costOf_1 rfl ?_
  refine x_iload_n (pc2 := 5) dX4_costOf_4 rfl rfl ?_
  obtain ⟨h1, k⟩ := k
  obtain ⟨h2, k⟩ := k
  refine x_iald (pc2 := 6) ic_53 h1 (by rw [al_53]; exact h2) dX4_costOf_5 rfl ?_
  refine x_istore_n (pc2 := 7) (ls2 := [aR 44, aR l1, aI l2, aI (m 53 l2), aU, aU]) dX4_costOf_6 rfl (by decide) rfl ?_
  refine x_iload_n (pc2 := 8) dX4_costOf_7 rfl rfl ?_
  refine x_bipush (pc2 := 10) dX4_costOf_8 rfl rfl ?_
  obtain ⟨h3, k⟩ := k
  refine x_irem (pc2 := 11) dX4_costOf_10 rfl h3 (by decide) (by decide) ?_
  obtain ⟨g5, k⟩ := k
  have kj : S_X4_costOf sc d 19 [aR 44, aR l1, aI l2, aI (m 53 l2), aU, aU] [aI (if ((m 53 l2).tmod 100) = 0 then 0 else 1 : Int)] m Q := by
    refine x_istore (pc2 := 21) (ls2 := [aR 44, aR l1, aI l2, aI (m 53 l2), aI (if ((m 53 l2).tmod 100) = 0 then 0 else 1 : Int), aU]) dX4_costOf_19 rfl (by decide) rfl ?_
    refine x_iload_n (pc2 := 22) dX4_costOf_21 rfl rfl ?_
    refine x_bipush (pc2 := 24) dX4_costOf_22 rfl rfl ?_
    refine x_idiv (pc2 := 25) dX4_costOf_24 rfl h3 (by decide) (by decide) ?_
    refine x_istore (pc2 := 27) (ls2 := [aR 44, aR l1, aI l2, aI (m 53 l2), aI (if ((m 53 l2).tmod 100) = 0 then 0 else 1 : Int), aI ((m 53 l2).tdiv 100)]) dX4_costOf_25 rfl (by decide) rfl ?_
    refine x_bipush (pc2 := 29) dX4_costOf_27 rfl rfl ?_
    refine x_iload (pc2 := 31) dX4_costOf_29 rfl rfl ?_
    obtain ⟨g7, k⟩ := k
    obtain ⟨g10, k⟩ := k
    obtain ⟨g11, k⟩ := k
    obtain ⟨g14, k⟩ := k
    obtain ⟨g15, k⟩ := k
    have kj : S_X4_costOf sc d 54 [aR 44, aR l1, aI l2, aI (m 53 l2), aI (if ((m 53 l2).tmod 100) = 0 then 0 else 1 : Int), aI ((m 53 l2).tdiv 100)] [aI (if (if ((m 53 l2).tmod 100) = 0 then 0 else 1 : Int) = 0 then 0 else (if (m l1 8) ≤ ((m 53 l2).tdiv 100) then 0 else (m (l1 + 4) ((m 53 l2).tdiv 100)) : Int) : Int), aI 100] m Q := by
      refine x_iadd (pc2 := 55) dX4_costOf_54 rfl ?_
      exact x_ireturn dX4_costOf_55 ⟨.int, rfl, rfl⟩ k
    have h16 := g7 
    refine x_if_eq (tgt := 53) (pc2 := 34) dX4_costOf_31 (by decide) rfl h16 (fun c17 => ?_) (fun c17 => ?_)
    · skip
      refine x_iconst (pc2 := 54) dX4_costOf_53 rfl ?_
      exact x_topI (if_pos c17) kj
    · skip
      refine x_iload (pc2 := 36) dX4_costOf_34 rfl rfl ?_
      refine x_aload_n (pc2 := 37) dX4_costOf_36 rfl rfl ?_
      refine x_getf (pc2 := 40) (v := aI (m l1 8)) fl_X4_58 (icr_0 Hl1) (fv_i _ (icr_0 Hl1) rfl) dX4_costOf_37 rfl ?_
      have h18 := g10 c17
      have h19 := g11 c17
      refine x_icmp_ge (tgt := 53) (pc2 := 43) dX4_costOf_40 (by decide) rfl h18 h19 (fun c20 => ?_) (fun c20 => ?_)
      · skip
        refine x_iconst (pc2 := 54) dX4_costOf_53 rfl ?_
        exact x_topI ((if_neg c17).trans (if_pos c20)) kj
      · skip
        refine x_aload_n (pc2 := 44) dX4_costOf_43 rfl rfl ?_
        refine x_getf (pc2 := 47) (v := aR (l1 + 4)) fl_X4_123 (icr_0 Hl1) (vrr_4 _ Hl1) dX4_costOf_44 rfl ?_
        refine x_iload (pc2 := 49) dX4_costOf_47 rfl rfl ?_
        have h21 := g14 c17 c20
        have h22 := g15 c17 c20
        refine x_iald (pc2 := 50) (icr_4 Hl1) h21 (by rw [(alr_4 Hl1)]; exact h22) dX4_costOf_49 rfl ?_
        refine x_goto (tgt := 54) dX4_costOf_50 (by decide) ?_
        exact x_topI ((if_neg c17).trans (if_neg c20)) kj
  have h23 := g5 
  refine x_if_eq (tgt := 18) (pc2 := 14) dX4_costOf_11 (by decide) rfl h23 (fun c24 => ?_) (fun c24 => ?_)
  · skip
    refine x_iconst (pc2 := 19) dX4_costOf_18 rfl ?_
    exact x_topI (if_pos c24) kj
  · skip
    refine x_iconst (pc2 := 15) dX4_costOf_14 rfl ?_
    refine x_goto (tgt := 19) dX4_costOf_15 (by decide) ?_
    exact x_topI (if_neg c24) kj
set_option maxRecDepth 4000 in
theorem g_X4_listSpots_0 {sc : List Int} {d : Nat} {m : Mem} {Q : Option AV → Mem → Prop} {l1 : Int} (Hl1 : RoomAt l1) (k : S_X4_listSpots sc d 4 [aR 44, aR l1, aI 0, aI 0, aU, aU] [] m Q) : S_X4_listSpots sc d 0 [aR 44, aR l1, aU, aU, aU, aU] [] m Q := by
  refine x_iconst (pc2 := 1) dX4_listSpots_0 rfl ?_
  refine x_istore_n (pc2 := 2) (ls2 := [aR 44, aR l1, aI 0, aU, aU, aU]) dX4_listSpots_1 rfl (by decide) rfl ?_
  refine x_iconst (pc2 := 3) dX4_listSpots_2 rfl ?_
  refine x_istore_n (pc2 := 4) (ls2 := [aR 44, aR l1, aI 0, aI 0, aU, aU]) dX4_listSpots_3 rfl (by decide) rfl ?_
  exact k
set_option maxRecDepth 4000 in
theorem g_X4_listSpots_4 {sc : List Int} {d : Nat} {m : Mem} {Q : Option AV → Mem → Prop} {l1 l2 l3 : Int} (Hl1 : RoomAt l1) (k : (-2147483648 ≤ l3 ∧ l3 < 2147483648) ∧ (-2147483648 ≤ (m l1 8) ∧ (m l1 8) < 2147483648) ∧ (((m l1 8) ≤ l3) → (Q (some (aI l2)) m)) ∧ (¬ ((m l1 8) ≤ l3) → ((0 ≤ l3) ∧ (l3 < 11) ∧ (0 ≤ l2) ∧ (l2 < 50) ∧ S_X4_listSpots sc d 40 [aR 44, aR l1, aI (l2 + 1), aI l3, aI 0, aU] [] (wr (wr m 52 l2 (m (l1 + 7) l3)) 53 l2 (100 * l3)) Q))) : S_X4_listSpots sc d 4 [aR 44, aR l1, aI l2, aI l3, aU, aU] [] m Q := by
  refine x_iload_n (pc2 := 5) dX4_listSpots_4 rfl rfl ?_
  refine x_aload_n (pc2 := 6) dX4_listSpots_5 rfl rfl ?_
  refine x_getf (pc2 := 9) (v := aI (m l1 8)) fl_X4_58 (icr_0 Hl1) (fv_i _ (icr_0 Hl1) rfl) dX4_listSpots_6 rfl ?_
  obtain ⟨h1, k⟩ := k
  obtain ⟨h2, k⟩ := k
  obtain ⟨k1, k2⟩ := k
  refine x_icmp_ge (tgt := 113) (pc2 := 12) dX4_listSpots_9 (by decide) rfl h1 h2 (fun c3 => ?_) (fun c3 => ?_)
  · replace k := k1 c3
    refine x_iload_n (pc2 := 114) dX4_listSpots_113 rfl rfl ?_
    exact x_ireturn dX4_listSpots_114 ⟨.int, rfl, rfl⟩ k
  · replace k := k2 c3
    refine x_aload_n (pc2 := 13) dX4_listSpots_12 rfl rfl ?_
    refine x_getf (pc2 := 16) (v := aR 52) fl_X4_33 ic_44 (vr_44_12 _) dX4_listSpots_13 rfl ?_
    refine x_iload_n (pc2 := 17) dX4_listSpots_16 rfl rfl ?_
    refine x_aload_n (pc2 := 18) dX4_listSpots_17 rfl rfl ?_
    refine x_getf (pc2 := 21) (v := aR (l1 + 7)) fl_X4_66 (icr_0 Hl1) (vrr_7 _ Hl1) dX4_listSpots_18 rfl ?_
    refine x_iload_n (pc2 := 22) dX4_listSpots_21 rfl rfl ?_
    obtain ⟨h4, k⟩ := k
    obtain ⟨h5, k⟩ := k
    refine x_iald (pc2 := 23) (icr_7 Hl1) h4 (by rw [(alr_7 Hl1)]; exact h5) dX4_listSpots_22 rfl ?_
    obtain ⟨h6, k⟩ := k
    obtain ⟨h7, k⟩ := k
    refine x_iast (pc2 := 24) ic_52 h6 (by rw [al_52]; exact h7) dX4_listSpots_23 rfl ?_
    refine x_aload_n (pc2 := 25) dX4_listSpots_24 rfl rfl ?_
    refine x_getf (pc2 := 28) (v := aR 53) fl_X4_36 ic_44 (vr_44_13 _) dX4_listSpots_25 rfl ?_
    refine x_iload_n (pc2 := 29) dX4_listSpots_28 rfl rfl ?_
    refine x_bipush (pc2 := 31) dX4_listSpots_29 rfl rfl ?_
    refine x_iload_n (pc2 := 32) dX4_listSpots_31 rfl rfl ?_
    refine x_imul (pc2 := 33) dX4_listSpots_32 rfl ?_
    refine x_iast (pc2 := 34) ic_53 h6 (by rw [al_53]; exact h7) dX4_listSpots_33 rfl ?_
    refine x_iinc (pc2 := 37) (ls2 := [aR 44, aR l1, aI (l2 + 1), aI l3, aU, aU]) dX4_listSpots_34 rfl rfl (by decide) rfl ?_
    refine x_iconst (pc2 := 38) dX4_listSpots_37 rfl ?_
    refine x_istore (pc2 := 40) (ls2 := [aR 44, aR l1, aI (l2 + 1), aI l3, aI 0, aU]) dX4_listSpots_38 rfl (by decide) rfl ?_
    exact k
set_option maxRecDepth 4000 in
theorem g_X4_listSpots_40 {sc : List Int} {d : Nat} {m : Mem} {Q : Option AV → Mem → Prop} {l1 l2 l3 l4 : Int} (Hl1 : RoomAt l1) (k : (0 ≤ l3) ∧ (l3 < 10) ∧ (-2147483648 ≤ l4 ∧ l4 < 2147483648) ∧ (-2147483648 ≤ (m (l1 + 6) l3) ∧ (m (l1 + 6) l3) < 2147483648) ∧ (((m (l1 + 6) l3) ≤ l4) → (S_X4_listSpots sc d 4 [aR 44, aR l1, aI l2, aI (l3 + 1), aU, aU] [] m Q)) ∧ (¬ ((m (l1 + 6) l3) ≤ l4) → (((4 ≤ l4) → (S_X4_listSpots sc d 4 [aR 44, aR l1, aI l2, aI (l3 + 1), aU, aU] [] m Q)) ∧ (¬ (4 ≤ l4) → ((0 ≤ ((l3 * 4) + l4)) ∧ (((l3 * 4) + l4) < 40) ∧ (l3 < 11) ∧ (0 ≤ l2) ∧ (l2 < 50) ∧ S_X4_listSpots sc d 40 [aR 44, aR l1, aI (l2 + 1), aI l3, aI (l4 + 1), aU] [] (wr (wr m 52 l2 ((m (l1 + 7) l3) + (m (l1 + 5) ((l3 * 4) + l4)))) 53 l2 ((100 * l3) + (m (l1 + 5) ((l3 * 4) + l4)))) Q))))) : S_X4_listSpots sc d 40 [aR 44, aR l1, aI l2, aI l3, aI l4, aU] [] m Q := by
  refine x_iload (pc2 := 42) dX4_listSpots_40 rfl rfl ?_
  refine x_aload_n (pc2 := 43) dX4_listSpots_42 rfl rfl ?_
  refine x_getf (pc2 := 46) (v := aR (l1 + 6)) fl_X4_126 (icr_0 Hl1) (vrr_6 _ Hl1) dX4_listSpots_43 rfl ?_
  refine x_iload_n (pc2 := 47) dX4_listSpots_46 rfl rfl ?_
  obtain ⟨h1, k⟩ := k
  obtain ⟨h2, k⟩ := k
  refine x_iald (pc2 := 48) (icr_6 Hl1) h1 (by rw [(alr_6 Hl1)]; exact h2) dX4_listSpots_47 rfl ?_
  obtain ⟨h3, k⟩ := k
  obtain ⟨h4, k⟩ := k
  obtain ⟨k1, k2⟩ := k
  refine x_icmp_ge (tgt := 107) (pc2 := 51) dX4_listSpots_48 (by decide) rfl h3 h4 (fun c5 => ?_) (fun c5 => ?_)
  · replace k := k1 c5
    refine x_iinc (pc2 := 110) (ls2 := [aR 44, aR l1, aI l2, aI (l3 + 1), aI l4, aU]) dX4_listSpots_107 rfl rfl (by decide) rfl ?_
    refine x_goto (tgt := 4) dX4_listSpots_110 (by decide) ?_
    exact x_drop (drp_k (drp_k (drp_k (drp_k (drp_u (drp_k drp_n)))))) k
  · replace k := k2 c5
    refine x_iload (pc2 := 53) dX4_listSpots_51 rfl rfl ?_
    refine x_iconst (pc2 := 54) dX4_listSpots_53 rfl ?_
    obtain ⟨k1, k2⟩ := k
    refine x_icmp_ge (tgt := 107) (pc2 := 57) dX4_listSpots_54 (by decide) rfl h3 (by decide) (fun c6 => ?_) (fun c6 => ?_)
    · replace k := k1 c6
      refine x_iinc (pc2 := 110) (ls2 := [aR 44, aR l1, aI l2, aI (l3 + 1), aI l4, aU]) dX4_listSpots_107 rfl rfl (by decide) rfl ?_
      refine x_goto (tgt := 4) dX4_listSpots_110 (by decide) ?_
      exact x_drop (drp_k (drp_k (drp_k (drp_k (drp_u (drp_k drp_n)))))) k
    · replace k := k2 c6
      refine x_aload_n (pc2 := 58) dX4_listSpots_57 rfl rfl ?_
      refine x_getf (pc2 := 61) (v := aR (l1 + 5)) fl_X4_129 (icr_0 Hl1) (vrr_5 _ Hl1) dX4_listSpots_58 rfl ?_
      refine x_iload_n (pc2 := 62) dX4_listSpots_61 rfl rfl ?_
      refine x_iconst (pc2 := 63) dX4_listSpots_62 rfl ?_
      refine x_imul (pc2 := 64) dX4_listSpots_63 rfl ?_
      refine x_iload (pc2 := 66) dX4_listSpots_64 rfl rfl ?_
      refine x_iadd (pc2 := 67) dX4_listSpots_66 rfl ?_
      obtain ⟨h7, k⟩ := k
      obtain ⟨h8, k⟩ := k
      refine x_iald (pc2 := 68) (icr_5 Hl1) h7 (by rw [(alr_5 Hl1)]; exact h8) dX4_listSpots_67 rfl ?_
      refine x_istore (pc2 := 70) (ls2 := [aR 44, aR l1, aI l2, aI l3, aI l4, aI (m (l1 + 5) ((l3 * 4) + l4))]) dX4_listSpots_68 rfl (by decide) rfl ?_
      refine x_aload_n (pc2 := 71) dX4_listSpots_70 rfl rfl ?_
      refine x_getf (pc2 := 74) (v := aR 52) fl_X4_33 ic_44 (vr_44_12 _) dX4_listSpots_71 rfl ?_
      refine x_iload_n (pc2 := 75) dX4_listSpots_74 rfl rfl ?_
      refine x_aload_n (pc2 := 76) dX4_listSpots_75 rfl rfl ?_
      refine x_getf (pc2 := 79) (v := aR (l1 + 7)) fl_X4_66 (icr_0 Hl1) (vrr_7 _ Hl1) dX4_listSpots_76 rfl ?_
      refine x_iload_n (pc2 := 80) dX4_listSpots_79 rfl rfl ?_
      obtain ⟨h9, k⟩ := k
      refine x_iald (pc2 := 81) (icr_7 Hl1) h1 (by rw [(alr_7 Hl1)]; exact h9) dX4_listSpots_80 rfl ?_
      refine x_iload (pc2 := 83) dX4_listSpots_81 rfl rfl ?_
      refine x_iadd (pc2 := 84) dX4_listSpots_83 rfl ?_
      obtain ⟨h10, k⟩ := k
      obtain ⟨h11, k⟩ := k
      refine x_iast (pc2 := 85) ic_52 h10 (by rw [al_52]; exact h11) dX4_listSpots_84 rfl ?_
      refine x_aload_n (pc2 := 86) dX4_listSpots_85 rfl rfl ?_
      refine x_getf (pc2 := 89) (v := aR 53) fl_X4_36 ic_44 (vr_44_13 _) dX4_listSpots_86 rfl ?_
      refine x_iload_n (pc2 := 90) dX4_listSpots_89 rfl rfl ?_
      refine x_bipush (pc2 := 92) dX4_listSpots_90 rfl rfl ?_
      refine x_iload_n (pc2 := 93) dX4_listSpots_92 rfl rfl ?_
      refine x_imul (pc2 := 94) dX4_listSpots_93 rfl ?_
      refine x_iload (pc2 := 96) dX4_listSpots_94 rfl rfl ?_
      refine x_iadd (pc2 := 97) dX4_listSpots_96 rfl ?_
      refine x_iast (pc2 := 98) ic_53 h10 (by rw [al_53]; exact h11) dX4_listSpots_97 rfl ?_
      refine x_iinc (pc2 := 101) (ls2 := [aR 44, aR l1, aI (l2 + 1), aI l3, aI l4, aI (m (l1 + 5) ((l3 * 4) + l4))]) dX4_listSpots_98 rfl rfl (by decide) rfl ?_
      refine x_iinc (pc2 := 104) (ls2 := [aR 44, aR l1, aI (l2 + 1), aI l3, aI (l4 + 1), aI (m (l1 + 5) ((l3 * 4) + l4))]) dX4_listSpots_101 rfl rfl (by decide) rfl ?_
      refine x_goto (tgt := 40) dX4_listSpots_104 (by decide) ?_
      exact x_drop (drp_k (drp_k (drp_k (drp_k (drp_k (drp_u drp_n)))))) k
