set_option maxRecDepth 4000 in
theorem g_X6_clear_0 {sc : List Int} {d : Nat} {m : Mem} {Q : Option AV → Mem → Prop} {l0 : Int} (Hl0 : RoomAt l0) (k : (1 ≤ d) ∧ Q none (acp (wr (wr (wr (wr (wr m l0 2 0) l0 8 0) l0 11 0) l0 15 0) (l0 + 8) 2 0) (fun j => (xt sc (-2)).getD j.toNat 0) 0 (l0 + 13) 0 6)) : S_X6_clear sc d 0 [aR l0] [] m Q := by
  refine x_aload_n (pc2 := 1) dX6_clear_0 rfl rfl ?_
  refine x_iconst (pc2 := 2) dX6_clear_1 rfl ?_
  refine x_putf (pc2 := 5) (x := 0) fl_X6_52 ft_6_2 (icr_0 Hl0) (pv_i _ (icr_0 Hl0) rfl) (pn_i _) dX6_clear_2 rfl ?_
  refine x_aload_n (pc2 := 6) dX6_clear_5 rfl rfl ?_
  refine x_iconst (pc2 := 7) dX6_clear_6 rfl ?_
  refine x_putf (pc2 := 10) (x := 0) fl_X6_56 ft_6_8 (icr_0 Hl0) (pv_i _ (icr_0 Hl0) rfl) (pn_i _) dX6_clear_7 rfl ?_
  refine x_aload_n (pc2 := 11) dX6_clear_10 rfl rfl ?_
  refine x_iconst (pc2 := 12) dX6_clear_11 rfl ?_
  refine x_putf (pc2 := 15) (x := 0) fl_X6_59 ft_6_11 (icr_0 Hl0) (pv_i _ (icr_0 Hl0) rfl) (pn_i _) dX6_clear_12 rfl ?_
  refine x_aload_n (pc2 := 16) dX6_clear_15 rfl rfl ?_
  refine x_iconst (pc2 := 17) dX6_clear_16 rfl ?_
  refine x_putf (pc2 := 20) (x := 0) fl_X6_62 ft_6_15 (icr_0 Hl0) (pv_i _ (icr_0 Hl0) rfl) (pn_i _) dX6_clear_17 rfl ?_
  refine x_aload_n (pc2 := 21) dX6_clear_20 rfl rfl ?_
  refine x_getf (pc2 := 24) (v := aR (l0 + 8)) fl_X6_36 (icr_0 Hl0) (vrr_9 _ Hl0) dX6_clear_21 rfl ?_
  refine x_iconst (pc2 := 25) dX6_clear_24 rfl ?_
  refine x_putf (pc2 := 28) (x := 0) fl_X6_65 ft_3_2 (icf_0 (fmr Hl0)) (pv_i _ (icf_0 (fmr Hl0)) rfl) (pn_i _) dX6_clear_25 rfl ?_
  refine x_gets (pc2 := 31) (v := aR (-2)) z_without zl_X6_68 dX6_clear_28 rfl ?_
  refine x_iconst (pc2 := 32) dX6_clear_31 rfl ?_
  refine x_aload_n (pc2 := 33) dX6_clear_32 rfl rfl ?_
  refine x_getf (pc2 := 36) (v := aR (l0 + 13)) fl_X6_46 (icr_0 Hl0) (vrr_13 _ Hl0) dX6_clear_33 rfl ?_
  refine x_iconst (pc2 := 37) dX6_clear_36 rfl ?_
  refine x_aload_n (pc2 := 38) dX6_clear_37 rfl rfl ?_
  refine x_getf (pc2 := 41) (v := aR (l0 + 13)) fl_X6_46 (icr_0 Hl0) (vrr_13 _ Hl0) dX6_clear_38 rfl ?_
  refine x_alenK (pc2 := 42) (n := 6) (Or.inl (icr_13 Hl0)) (alr_13 Hl0) dX6_clear_41 rfl ?_
  obtain ⟨h1, k⟩ := k
  refine x_xcopy (pc2 := 45) ac_X6_71 acw (by decide) (icr_13 Hl0) (by decide) (by decide) (by decide) (by rw [xl_2]; exact (by decide)) (by rw [(alr_13 Hl0)]; exact (by decide)) h1 (Nat.le_of_ble_eq_true rfl) dX6_clear_42 rfl ?_
  exact x_return dX6_clear_45 rfl k
set_option maxRecDepth 4000 in
theorem g_X6_addLength_0 {sc : List Int} {d : Nat} {m : Mem} {Q : Option AV → Mem → Prop} {l0 l1 l2 : Int} (Hl0 : RoomAt l0) (k : (-2147483648 ≤ (m l0 2) ∧ (m l0 2) < 2147483648) ∧ ((6 ≤ (m l0 2)) → (Q none m)) ∧ (¬ (6 ≤ (m l0 2)) → ((0 ≤ (m l0 2)) ∧ ((m l0 2) < 6) ∧ (0 ≤ ((wr m (l0 + 1) (m l0 2) l1) l0 2)) ∧ (((wr m (l0 + 1) (m l0 2) l1) l0 2) < 6) ∧ Q none (wr (wr (wr m (l0 + 1) (m l0 2) l1) (l0 + 2) ((wr m (l0 + 1) (m l0 2) l1) l0 2) l2) l0 2 (((wr (wr m (l0 + 1) (m l0 2) l1) (l0 + 2) ((wr m (l0 + 1) (m l0 2) l1) l0 2) l2) l0 2) + 1))))) : S_X6_addLength sc d 0 [aR l0, aI l1, aI l2] [] m Q := by
  refine x_aload_n (pc2 := 1) dX6_addLength_0 rfl rfl ?_
  refine x_getf (pc2 := 4) (v := aI (m l0 2)) fl_X6_52 (icr_0 Hl0) (fv_i _ (icr_0 Hl0) rfl) dX6_addLength_1 rfl ?_
  refine x_bipush (pc2 := 6) dX6_addLength_4 rfl rfl ?_
  obtain ⟨h1, k⟩ := k
  obtain ⟨k1, k2⟩ := k
  refine x_icmp_ge (tgt := 39) (pc2 := 9) dX6_addLength_6 (by decide) rfl h1 (by decide) (fun c2 => ?_) (fun c2 => ?_)
  · replace k := k1 c2
    exact x_return dX6_addLength_39 rfl k
  · replace k := k2 c2
    refine x_aload_n (pc2 := 10) dX6_addLength_9 rfl rfl ?_
    refine x_getf (pc2 := 13) (v := aR (l0 + 1)) fl_X6_9 (icr_0 Hl0) (vrr_0 _ Hl0) dX6_addLength_10 rfl ?_
    refine x_aload_n (pc2 := 14) dX6_addLength_13 rfl rfl ?_
    refine x_getf (pc2 := 17) (v := aI (m l0 2)) fl_X6_52 (icr_0 Hl0) (fv_i _ (icr_0 Hl0) rfl) dX6_addLength_14 rfl ?_
    refine x_iload_n (pc2 := 18) dX6_addLength_17 rfl rfl ?_
    obtain ⟨h3, k⟩ := k
    obtain ⟨h4, k⟩ := k
    refine x_iast (pc2 := 19) (icr_1 Hl0) h3 (by rw [(alr_1 Hl0)]; exact h4) dX6_addLength_18 rfl ?_
    refine x_aload_n (pc2 := 20) dX6_addLength_19 rfl rfl ?_
    refine x_getf (pc2 := 23) (v := aR (l0 + 2)) fl_X6_15 (icr_0 Hl0) (vrr_1 _ Hl0) dX6_addLength_20 rfl ?_
    refine x_aload_n (pc2 := 24) dX6_addLength_23 rfl rfl ?_
    refine x_getf (pc2 := 27) (v := aI ((wr m (l0 + 1) (m l0 2) l1) l0 2)) fl_X6_52 (icr_0 Hl0) (fv_i _ (icr_0 Hl0) rfl) dX6_addLength_24 rfl ?_
    refine x_iload_n (pc2 := 28) dX6_addLength_27 rfl rfl ?_
    obtain ⟨h5, k⟩ := k
    obtain ⟨h6, k⟩ := k
    refine x_iast (pc2 := 29) (icr_2 Hl0) h5 (by rw [(alr_2 Hl0)]; exact h6) dX6_addLength_28 rfl ?_
    refine x_aload_n (pc2 := 30) dX6_addLength_29 rfl rfl ?_
    refine x_dup_r (pc2 := 31) dX6_addLength_30 rfl ((icr_0 Hl0)).1 ?_
    refine x_getf (pc2 := 34) (v := aI ((wr (wr m (l0 + 1) (m l0 2) l1) (l0 + 2) ((wr m (l0 + 1) (m l0 2) l1) l0 2) l2) l0 2)) fl_X6_52 (icr_0 Hl0) (fv_i _ (icr_0 Hl0) rfl) dX6_addLength_31 rfl ?_
    refine x_iconst (pc2 := 35) dX6_addLength_34 rfl ?_
    refine x_iadd (pc2 := 36) dX6_addLength_35 rfl ?_
    refine x_putf (pc2 := 39) (x := (((wr (wr m (l0 + 1) (m l0 2) l1) (l0 + 2) ((wr m (l0 + 1) (m l0 2) l1) l0 2) l2) l0 2) + 1)) fl_X6_52 ft_6_2 (icr_0 Hl0) (pv_i _ (icr_0 Hl0) rfl) (pn_i _) dX6_addLength_36 rfl ?_
    exact x_return dX6_addLength_39 rfl k
set_option maxRecDepth 4000 in
theorem g_X6_addSeam_0 {sc : List Int} {d : Nat} {m : Mem} {Q : Option AV → Mem → Prop} {l0 l1 l2 l3 : Int} (Hl0 : RoomAt l0) (k : (-2147483648 ≤ (m l0 8) ∧ (m l0 8) < 2147483648) ∧ ((10 ≤ (m l0 8)) → (Q none m)) ∧ (¬ (10 ≤ (m l0 8)) → ((0 ≤ (m l0 8)) ∧ ((m l0 8) < 10) ∧ (0 ≤ ((wr m (l0 + 3) (m l0 8) l1) l0 8)) ∧ (((wr m (l0 + 3) (m l0 8) l1) l0 8) < 10) ∧ (0 ≤ ((wr (wr m (l0 + 3) (m l0 8) l1) (l0 + 4) ((wr m (l0 + 3) (m l0 8) l1) l0 8) l2) l0 8)) ∧ (((wr (wr m (l0 + 3) (m l0 8) l1) (l0 + 4) ((wr m (l0 + 3) (m l0 8) l1) l0 8) l2) l0 8) < 10) ∧ (0 ≤ ((wr (wr (wr m (l0 + 3) (m l0 8) l1) (l0 + 4) ((wr m (l0 + 3) (m l0 8) l1) l0 8) l2) (l0 + 6) ((wr (wr m (l0 + 3) (m l0 8) l1) (l0 + 4) ((wr m (l0 + 3) (m l0 8) l1) l0 8) l2) l0 8) l3) l0 8)) ∧ (((wr (wr (wr m (l0 + 3) (m l0 8) l1) (l0 + 4) ((wr m (l0 + 3) (m l0 8) l1) l0 8) l2) (l0 + 6) ((wr (wr m (l0 + 3) (m l0 8) l1) (l0 + 4) ((wr m (l0 + 3) (m l0 8) l1) l0 8) l2) l0 8) l3) l0 8) < 11) ∧ (0 ≤ (((wr (wr (wr m (l0 + 3) (m l0 8) l1) (l0 + 4) ((wr m (l0 + 3) (m l0 8) l1) l0 8) l2) (l0 + 6) ((wr (wr m (l0 + 3) (m l0 8) l1) (l0 + 4) ((wr m (l0 + 3) (m l0 8) l1) l0 8) l2) l0 8) l3) l0 8) + 1)) ∧ ((((wr (wr (wr m (l0 + 3) (m l0 8) l1) (l0 + 4) ((wr m (l0 + 3) (m l0 8) l1) l0 8) l2) (l0 + 6) ((wr (wr m (l0 + 3) (m l0 8) l1) (l0 + 4) ((wr m (l0 + 3) (m l0 8) l1) l0 8) l2) l0 8) l3) l0 8) + 1) < 11) ∧ Q none (wr (wr (wr (wr (wr m (l0 + 3) (m l0 8) l1) (l0 + 4) ((wr m (l0 + 3) (m l0 8) l1) l0 8) l2) (l0 + 6) ((wr (wr m (l0 + 3) (m l0 8) l1) (l0 + 4) ((wr m (l0 + 3) (m l0 8) l1) l0 8) l2) l0 8) l3) (l0 + 7) (((wr (wr (wr m (l0 + 3) (m l0 8) l1) (l0 + 4) ((wr m (l0 + 3) (m l0 8) l1) l0 8) l2) (l0 + 6) ((wr (wr m (l0 + 3) (m l0 8) l1) (l0 + 4) ((wr m (l0 + 3) (m l0 8) l1) l0 8) l2) l0 8) l3) l0 8) + 1) (((wr (wr (wr m (l0 + 3) (m l0 8) l1) (l0 + 4) ((wr m (l0 + 3) (m l0 8) l1) l0 8) l2) (l0 + 6) ((wr (wr m (l0 + 3) (m l0 8) l1) (l0 + 4) ((wr m (l0 + 3) (m l0 8) l1) l0 8) l2) l0 8) l3) (l0 + 7) ((wr (wr (wr m (l0 + 3) (m l0 8) l1) (l0 + 4) ((wr m (l0 + 3) (m l0 8) l1) l0 8) l2) (l0 + 6) ((wr (wr m (l0 + 3) (m l0 8) l1) (l0 + 4) ((wr m (l0 + 3) (m l0 8) l1) l0 8) l2) l0 8) l3) l0 8)) + l1)) l0 8 (((wr (wr (wr (wr m (l0 + 3) (m l0 8) l1) (l0 + 4) ((wr m (l0 + 3) (m l0 8) l1) l0 8) l2) (l0 + 6) ((wr (wr m (l0 + 3) (m l0 8) l1) (l0 + 4) ((wr m (l0 + 3) (m l0 8) l1) l0 8) l2) l0 8) l3) (l0 + 7) (((wr (wr (wr m (l0 + 3) (m l0 8) l1) (l0 + 4) ((wr m (l0 + 3) (m l0 8) l1) l0 8) l2) (l0 + 6) ((wr (wr m (l0 + 3) (m l0 8) l1) (l0 + 4) ((wr m (l0 + 3) (m l0 8) l1) l0 8) l2) l0 8) l3) l0 8) + 1) (((wr (wr (wr m (l0 + 3) (m l0 8) l1) (l0 + 4) ((wr m (l0 + 3) (m l0 8) l1) l0 8) l2) (l0 + 6) ((wr (wr m (l0 + 3) (m l0 8) l1) (l0 + 4) ((wr m (l0 + 3) (m l0 8) l1) l0 8) l2) l0 8) l3) (l0 + 7) ((wr (wr (wr m (l0 + 3) (m l0 8) l1) (l0 + 4) ((wr m (l0 + 3) (m l0 8) l1) l0 8) l2) (l0 + 6) ((wr (wr m (l0 + 3) (m l0 8) l1) (l0 + 4) ((wr m (l0 + 3) (m l0 8) l1) l0 8) l2) l0 8) l3) l0 8)) + l1)) l0 8) + 1))))) : S_X6_addSeam sc d 0 [aR l0, aI l1, aI l2, aI l3] [] m Q := by
  refine x_aload_n (pc2 := 1) dX6_addSeam_0 rfl rfl ?_
  refine x_getf (pc2 := 4) (v := aI (m l0 8)) fl_X6_56 (icr_0 Hl0) (fv_i _ (icr_0 Hl0) rfl) dX6_addSeam_1 rfl ?_
  refine x_bipush (pc2 := 6) dX6_addSeam_4 rfl rfl ?_
  obtain ⟨h1, k⟩ := k
  obtain ⟨k1, k2⟩ := k
  refine x_icmp_ge (tgt := 71) (pc2 := 9) dX6_addSeam_6 (by decide) rfl h1 (by decide) (fun c2 => ?_) (fun c2 => ?_)
  · replace k := k1 c2
    exact x_return dX6_addSeam_71 rfl k
  · replace k := k2 c2
    refine x_aload_n (pc2 := 10) dX6_addSeam_9 rfl rfl ?_
    refine x_getf (pc2 := 13) (v := aR (l0 + 3)) fl_X6_18 (icr_0 Hl0) (vrr_3 _ Hl0) dX6_addSeam_10 rfl ?_
    refine x_aload_n (pc2 := 14) dX6_addSeam_13 rfl rfl ?_
    refine x_getf (pc2 := 17) (v := aI (m l0 8)) fl_X6_56 (icr_0 Hl0) (fv_i _ (icr_0 Hl0) rfl) dX6_addSeam_14 rfl ?_
    refine x_iload_n (pc2 := 18) dX6_addSeam_17 rfl rfl ?_
    obtain ⟨h3, k⟩ := k
    obtain ⟨h4, k⟩ := k
    refine x_iast (pc2 := 19) (icr_3 Hl0) h3 (by rw [(alr_3 Hl0)]; exact h4) dX6_addSeam_18 rfl ?_
    refine x_aload_n (pc2 := 20) dX6_addSeam_19 rfl rfl ?_
    refine x_getf (pc2 := 23) (v := aR (l0 + 4)) fl_X6_21 (icr_0 Hl0) (vrr_4 _ Hl0) dX6_addSeam_20 rfl ?_
    refine x_aload_n (pc2 := 24) dX6_addSeam_23 rfl rfl ?_
    refine x_getf (pc2 := 27) (v := aI ((wr m (l0 + 3) (m l0 8) l1) l0 8)) fl_X6_56 (icr_0 Hl0) (fv_i _ (icr_0 Hl0) rfl) dX6_addSeam_24 rfl ?_
    refine x_iload_n (pc2 := 28) dX6_addSeam_27 rfl rfl ?_
    obtain ⟨h5, k⟩ := k
    obtain ⟨h6, k⟩ := k
    refine x_iast (pc2 := 29) (icr_4 Hl0) h5 (by rw [(alr_4 Hl0)]; exact h6) dX6_addSeam_28 rfl ?_
    refine x_aload_n (pc2 := 30) dX6_addSeam_29 rfl rfl ?_
    refine x_getf (pc2 := 33) (v := aR (l0 + 6)) fl_X6_27 (icr_0 Hl0) (vrr_6 _ Hl0) dX6_addSeam_30 rfl ?_
    refine x_aload_n (pc2 := 34) dX6_addSeam_33 rfl rfl ?_
    refine x_getf (pc2 := 37) (v := aI ((wr (wr m (l0 + 3) (m l0 8) l1) (l0 + 4) ((wr m (l0 + 3) (m l0 8) l1) l0 8) l2) l0 8)) fl_X6_56 (icr_0 Hl0) (fv_i _ (icr_0 Hl0) rfl) dX6_addSeam_34 rfl ?_
    refine x_iload_n (pc2 := 38) dX6_addSeam_37 rfl rfl ?_
    obtain ⟨h7, k⟩ := k
    obtain ⟨h8, k⟩ := k
    refine x_iast (pc2 := 39) (icr_6 Hl0) h7 (by rw [(alr_6 Hl0)]; exact h8) dX6_addSeam_38 rfl ?_
    refine x_aload_n (pc2 := 40) dX6_addSeam_39 rfl rfl ?_
    refine x_getf (pc2 := 43) (v := aR (l0 + 7)) fl_X6_30 (icr_0 Hl0) (vrr_7 _ Hl0) dX6_addSeam_40 rfl ?_
    refine x_aload_n (pc2 := 44) dX6_addSeam_43 rfl rfl ?_
    refine x_getf (pc2 := 47) (v := aI ((wr (wr (wr m (l0 + 3) (m l0 8) l1) (l0 + 4) ((wr m (l0 + 3) (m l0 8) l1) l0 8) l2) (l0 + 6) ((wr (wr m (l0 + 3) (m l0 8) l1) (l0 + 4) ((wr m (l0 + 3) (m l0 8) l1) l0 8) l2) l0 8) l3) l0 8)) fl_X6_56 (icr_0 Hl0) (fv_i _ (icr_0 Hl0) rfl) dX6_addSeam_44 rfl ?_
    refine x_iconst (pc2 := 48) dX6_addSeam_47 rfl ?_
    refine x_iadd (pc2 := 49) dX6_addSeam_48 rfl ?_
    refine x_aload_n (pc2 := 50) dX6_addSeam_49 rfl rfl ?_
    refine x_getf (pc2 := 53) (v := aR (l0 + 7)) fl_X6_30 (icr_0 Hl0) (vrr_7 _ Hl0) dX6_addSeam_50 rfl ?_
    refine x_aload_n (pc2 := 54) dX6_addSeam_53 rfl rfl ?_
    refine x_getf (pc2 := 57) (v := aI ((wr (wr (wr m (l0 + 3) (m l0 8) l1) (l0 + 4) ((wr m (l0 + 3) (m l0 8) l1) l0 8) l2) (l0 + 6) ((wr (wr m (l0 + 3) (m l0 8) l1) (l0 + 4) ((wr m (l0 + 3) (m l0 8) l1) l0 8) l2) l0 8) l3) l0 8)) fl_X6_56 (icr_0 Hl0) (fv_i _ (icr_0 Hl0) rfl) dX6_addSeam_54 rfl ?_
    obtain ⟨h9, k⟩ := k
    obtain ⟨h10, k⟩ := k
    refine x_iald (pc2 := 58) (icr_7 Hl0) h9 (by rw [(alr_7 Hl0)]; exact h10) dX6_addSeam_57 rfl ?_
    refine x_iload_n (pc2 := 59) dX6_addSeam_58 rfl rfl ?_
    refine x_iadd (pc2 := 60) dX6_addSeam_59 rfl ?_
    obtain ⟨h11, k⟩ := k
    obtain ⟨h12, k⟩ := k
    refine x_iast (pc2 := 61) (icr_7 Hl0) h11 (by rw [(alr_7 Hl0)]; exact h12) dX6_addSeam_60 rfl ?_
    refine x_aload_n (pc2 := 62) dX6_addSeam_61 rfl rfl ?_
    refine x_dup_r (pc2 := 63) dX6_addSeam_62 rfl ((icr_0 Hl0)).1 ?_
    refine x_getf (pc2 := 66) (v := aI ((wr (wr (wr (wr m (l0 + 3) (m l0 8) l1) (l0 + 4) ((wr m (l0 + 3) (m l0 8) l1) l0 8) l2) (l0 + 6) ((wr (wr m (l0 + 3) (m l0 8) l1) (l0 + 4) ((wr m (l0 + 3) (m l0 8) l1) l0 8) l2) l0 8) l3) (l0 + 7) (((wr (wr (wr m (l0 + 3) (m l0 8) l1) (l0 + 4) ((wr m (l0 + 3) (m l0 8) l1) l0 8) l2) (l0 + 6) ((wr (wr m (l0 + 3) (m l0 8) l1) (l0 + 4) ((wr m (l0 + 3) (m l0 8) l1) l0 8) l2) l0 8) l3) l0 8) + 1) (((wr (wr (wr m (l0 + 3) (m l0 8) l1) (l0 + 4) ((wr m (l0 + 3) (m l0 8) l1) l0 8) l2) (l0 + 6) ((wr (wr m (l0 + 3) (m l0 8) l1) (l0 + 4) ((wr m (l0 + 3) (m l0 8) l1) l0 8) l2) l0 8) l3) (l0 + 7) ((wr (wr (wr m (l0 + 3) (m l0 8) l1) (l0 + 4) ((wr m (l0 + 3) (m l0 8) l1) l0 8) l2) (l0 + 6) ((wr (wr m (l0 + 3) (m l0 8) l1) (l0 + 4) ((wr m (l0 + 3) (m l0 8) l1) l0 8) l2) l0 8) l3) l0 8)) + l1)) l0 8)) fl_X6_56 (icr_0 Hl0) (fv_i _ (icr_0 Hl0) rfl) dX6_addSeam_63 rfl ?_
    refine x_iconst (pc2 := 67) dX6_addSeam_66 rfl ?_
    refine x_iadd (pc2 := 68) dX6_addSeam_67 rfl ?_
    refine x_putf (pc2 := 71) (x := (((wr (wr (wr (wr m (l0 + 3) (m l0 8) l1) (l0 + 4) ((wr m (l0 + 3) (m l0 8) l1) l0 8) l2) (l0 + 6) ((wr (wr m (l0 + 3) (m l0 8) l1) (l0 + 4) ((wr m (l0 + 3) (m l0 8) l1) l0 8) l2) l0 8) l3) (l0 + 7) (((wr (wr (wr m (l0 + 3) (m l0 8) l1) (l0 + 4) ((wr m (l0 + 3) (m l0 8) l1) l0 8) l2) (l0 + 6) ((wr (wr m (l0 + 3) (m l0 8) l1) (l0 + 4) ((wr m (l0 + 3) (m l0 8) l1) l0 8) l2) l0 8) l3) l0 8) + 1) (((wr (wr (wr m (l0 + 3) (m l0 8) l1) (l0 + 4) ((wr m (l0 + 3) (m l0 8) l1) l0 8) l2) (l0 + 6) ((wr (wr m (l0 + 3) (m l0 8) l1) (l0 + 4) ((wr m (l0 + 3) (m l0 8) l1) l0 8) l2) l0 8) l3) (l0 + 7) ((wr (wr (wr m (l0 + 3) (m l0 8) l1) (l0 + 4) ((wr m (l0 + 3) (m l0 8) l1) l0 8) l2) (l0 + 6) ((wr (wr m (l0 + 3) (m l0 8) l1) (l0 + 4) ((wr m (l0 + 3) (m l0 8) l1) l0 8) l2) l0 8) l3) l0 8)) + l1)) l0 8) + 1)) fl_X6_56 ft_6_8 (icr_0 Hl0) (pv_i _ (icr_0 Hl0) rfl) (pn_i _) dX6_addSeam_68 rfl ?_
    exact x_return dX6_addSeam_71 rfl k
set_option maxRecDepth 4000 in
theorem g_X6_addRule_0 {sc : List Int} {d : Nat} {m : Mem} {Q : Option AV → Mem → Prop} {l0 : Int} (Hl0 : RoomAt l0) (k : (-2147483648 ≤ (m l0 11) ∧ (m l0 11) < 2147483648) ∧ ((4 ≤ (m l0 11)) → (Q none m)) ∧ (¬ (4 ≤ (m l0 11)) → ((0 ≤ ((wr m l0 11 ((m l0 11) + 1)) l0 11)) ∧ (((wr m l0 11 ((m l0 11) + 1)) l0 11) < 5) ∧ Q none (wr (wr m l0 11 ((m l0 11) + 1)) (l0 + 11) ((wr m l0 11 ((m l0 11) + 1)) l0 11) ((wr m l0 11 ((m l0 11) + 1)) (l0 + 8) 2))))) : S_X6_addRule sc d 0 [aR l0] [] m Q := by
  refine x_aload_n (pc2 := 1) dX6_addRule_0 rfl rfl ?_
  refine x_getf (pc2 := 4) (v := aI (m l0 11)) fl_X6_59 (icr_0 Hl0) (fv_i _ (icr_0 Hl0) rfl) dX6_addRule_1 rfl ?_
  refine x_iconst (pc2 := 5) dX6_addRule_4 rfl ?_
  obtain ⟨h1, k⟩ := k
  obtain ⟨k1, k2⟩ := k
  refine x_icmp_ge (tgt := 34) (pc2 := 8) dX6_addRule_5 (by decide) rfl h1 (by decide) (fun c2 => ?_) (fun c2 => ?_)
  · replace k := k1 c2
    exact x_return dX6_addRule_34 rfl k
  · replace k := k2 c2
    refine x_aload_n (pc2 := 9) dX6_addRule_8 rfl rfl ?_
    refine x_dup_r (pc2 := 10) dX6_addRule_9 rfl ((icr_0 Hl0)).1 ?_
    refine x_getf (pc2 := 13) (v := aI (m l0 11)) fl_X6_59 (icr_0 Hl0) (fv_i _ (icr_0 Hl0) rfl) dX6_addRule_10 rfl ?_
    refine x_iconst (pc2 := 14) dX6_addRule_13 rfl ?_
    refine x_iadd (pc2 := 15) dX6_addRule_14 rfl ?_
    refine x_putf (pc2 := 18) (x := ((m l0 11) + 1)) fl_X6_59 ft_6_11 (icr_0 Hl0) (pv_i _ (icr_0 Hl0) rfl) (pn_i _) dX6_addRule_15 rfl ?_
    refine x_aload_n (pc2 := 19) dX6_addRule_18 rfl rfl ?_
    refine x_getf (pc2 := 22) (v := aR (l0 + 11)) fl_X6_40 (icr_0 Hl0) (vrr_10 _ Hl0) dX6_addRule_19 rfl ?_
    refine x_aload_n (pc2 := 23) dX6_addRule_22 rfl rfl ?_
    refine x_getf (pc2 := 26) (v := aI ((wr m l0 11 ((m l0 11) + 1)) l0 11)) fl_X6_59 (icr_0 Hl0) (fv_i _ (icr_0 Hl0) rfl) dX6_addRule_23 rfl ?_
    refine x_aload_n (pc2 := 27) dX6_addRule_26 rfl rfl ?_
    refine x_getf (pc2 := 30) (v := aR (l0 + 8)) fl_X6_36 (icr_0 Hl0) (vrr_9 _ Hl0) dX6_addRule_27 rfl ?_
    refine x_getf (pc2 := 33) (v := aI ((wr m l0 11 ((m l0 11) + 1)) (l0 + 8) 2)) fl_X6_65 (icf_0 (fmr Hl0)) (fv_i _ (icf_0 (fmr Hl0)) rfl) dX6_addRule_30 rfl ?_
    obtain ⟨h3, k⟩ := k
    obtain ⟨h4, k⟩ := k
    refine x_iast (pc2 := 34) (icr_11 Hl0) h3 (by rw [(alr_11 Hl0)]; exact h4) dX6_addRule_33 rfl ?_
    exact x_return dX6_addRule_34 rfl k
set_option maxRecDepth 4000 in
theorem g_X6_isNamed_0 {sc : List Int} {d : Nat} {m : Mem} {Q : Option AV → Mem → Prop} {l0 l1 : Int} (Hl0 : RoomAt l0) (k : S_X6_isNamed sc d 2 [aR l0, aI l1, aI 0, aU] [] m Q) : S_X6_isNamed sc d 0 [aR l0, aI l1, aU, aU] [] m Q := by
  refine x_iconst (pc2 := 1) dX6_isNamed_0 rfl ?_
  refine x_istore_n (pc2 := 2) (ls2 := [aR l0, aI l1, aI 0, aU]) dX6_isNamed_1 rfl (by decide) rfl ?_
  exact k
set_option maxRecDepth 4000 in
theorem g_X6_isNamed_2 {sc : List Int} {d : Nat} {m : Mem} {Q : Option AV → Mem → Prop} {l0 l1 l2 : Int} (Hl0 : RoomAt l0) (k : (-2147483648 ≤ l2 ∧ l2 < 2147483648) ∧ ((14 ≤ l2) → (Q (some (aI 0)) m)) ∧ (¬ (14 ≤ l2) → (((10 ≤ l2) → (-2147483648 ≤ (l2 - 10) ∧ (l2 - 10) < 2147483648)) ∧ ((10 ≤ l2) → (-2147483648 ≤ (m l0 11) ∧ (m l0 11) < 2147483648)) ∧ ((¬ (10 ≤ l2)) → (-2147483648 ≤ (m l0 8) ∧ (m l0 8) < 2147483648)) ∧ (-2147483648 ≤ (if 10 ≤ l2 then (if (m l0 11) ≤ (l2 - 10) then 0 else 1 : Int) else (if (m l0 8) ≤ l2 then 0 else 1 : Int) : Int) ∧ (if 10 ≤ l2 then (if (m l0 11) ≤ (l2 - 10) then 0 else 1 : Int) else (if (m l0 8) ≤ l2 then 0 else 1 : Int) : Int) < 2147483648) ∧ (((if 10 ≤ l2 then (if (m l0 11) ≤ (l2 - 10) then 0 else 1 : Int) else (if (m l0 8) ≤ l2 then 0 else 1 : Int) : Int) = 0) → (S_X6_isNamed sc d 2 [aR l0, aI l1, aI (l2 + 1), aU] [] m Q)) ∧ (¬ ((if 10 ≤ l2 then (if (m l0 11) ≤ (l2 - 10) then 0 else 1 : Int) else (if (m l0 8) ≤ l2 then 0 else 1 : Int) : Int) = 0) → (S_X6_isNamed sc d 54 [aR l0, aI l1, aI l2, aU] [aI l2, aI l1, aR l0] m Q))))) : S_X6_isNamed sc d 2 [aR l0, aI l1, aI l2, aU] [] m Q := by
  refine x_iload_n (pc2 := 3) dX6_isNamed_2 rfl rfl ?_
  refine x_bipush (pc2 := 5) dX6_isNamed_3 rfl rfl ?_
  obtain ⟨h1, k⟩ := k
  obtain ⟨k1, k2⟩ := k
  refine x_icmp_ge (tgt := 68) (pc2 := 8) dX6_isNamed_5 (by decide) rfl h1 (by decide) (fun c2 => ?_) (fun c2 => ?_)
  · replace k := k1 c2
    refine x_iconst (pc2 := 69) dX6_isNamed_68 rfl ?_
    exact x_ireturn dX6_isNamed_69 ⟨.boolean, rfl, rfl⟩ k
  · replace k := k2 c2
    refine x_iload_n (pc2 := 9) dX6_isNamed_8 rfl rfl ?_
    refine x_bipush (pc2 := 11) dX6_isNamed_9 rfl rfl ?_
    obtain ⟨g5, k⟩ := k
    obtain ⟨g6, k⟩ := k
    obtain ⟨g8, k⟩ := k
    have kj : S_X6_isNamed sc d 46 [aR l0, aI l1, aI l2, aU] [aI (if 10 ≤ l2 then (if (m l0 11) ≤ (l2 - 10) then 0 else 1 : Int) else (if (m l0 8) ≤ l2 then 0 else 1 : Int) : Int)] m Q := by
      refine x_istore_n (pc2 := 47) (ls2 := [aR l0, aI l1, aI l2, aI (if 10 ≤ l2 then (if (m l0 11) ≤ (l2 - 10) then 0 else 1 : Int) else (if (m l0 8) ≤ l2 then 0 else 1 : Int) : Int)]) dX6_isNamed_46 rfl (by decide) rfl ?_
      refine x_iload_n (pc2 := 48) dX6_isNamed_47 rfl rfl ?_
      obtain ⟨h9, k⟩ := k
      obtain ⟨k1, k2⟩ := k
      refine x_if_eq (tgt := 62) (pc2 := 51) dX6_isNamed_48 (by decide) rfl h9 (fun c10 => ?_) (fun c10 => ?_)
      · replace k := k1 c10
        refine x_iinc (pc2 := 65) (ls2 := [aR l0, aI l1, aI (l2 + 1), aI (if 10 ≤ l2 then (if (m l0 11) ≤ (l2 - 10) then 0 else 1 : Int) else (if (m l0 8) ≤ l2 then 0 else 1 : Int) : Int)]) dX6_isNamed_62 rfl rfl (by decide) rfl ?_
        refine x_goto (tgt := 2) dX6_isNamed_65 (by decide) ?_
        exact x_drop (drp_k (drp_k (drp_k (drp_u drp_n)))) k
      · replace k := k2 c10
        refine x_aload_n (pc2 := 52) dX6_isNamed_51 rfl rfl ?_
        refine x_iload_n (pc2 := 53) dX6_isNamed_52 rfl rfl ?_
        refine x_iload_n (pc2 := 54) dX6_isNamed_53 rfl rfl ?_
        exact x_drop (drp_k (drp_k (drp_k (drp_u drp_n)))) k
    refine x_icmp_ge (tgt := 30) (pc2 := 14) dX6_isNamed_11 (by decide) rfl h1 (by decide) (fun c11 => ?_) (fun c11 => ?_)
    · skip
      refine x_iload_n (pc2 := 31) dX6_isNamed_30 rfl rfl ?_
      refine x_bipush (pc2 := 33) dX6_isNamed_31 rfl rfl ?_
      refine x_isub (pc2 := 34) dX6_isNamed_33 rfl ?_
      refine x_aload_n (pc2 := 35) dX6_isNamed_34 rfl rfl ?_
      refine x_getf (pc2 := 38) (v := aI (m l0 11)) fl_X6_59 (icr_0 Hl0) (fv_i _ (icr_0 Hl0) rfl) dX6_isNamed_35 rfl ?_
      have h12 := g5 c11
      have h13 := g6 c11
      refine x_icmp_ge (tgt := 45) (pc2 := 41) dX6_isNamed_38 (by decide) rfl h12 h13 (fun c14 => ?_) (fun c14 => ?_)
      · skip
        refine x_iconst (pc2 := 46) dX6_isNamed_45 rfl ?_
        exact x_topI ((if_pos c11).trans (if_pos c14)) kj
      · skip
        refine x_iconst (pc2 := 42) dX6_isNamed_41 rfl ?_
        refine x_goto (tgt := 46) dX6_isNamed_42 (by decide) ?_
        exact x_topI ((if_pos c11).trans (if_neg c14)) kj
    · skip
      refine x_iload_n (pc2 := 15) dX6_isNamed_14 rfl rfl ?_
      refine x_aload_n (pc2 := 16) dX6_isNamed_15 rfl rfl ?_
      refine x_getf (pc2 := 19) (v := aI (m l0 8)) fl_X6_56 (icr_0 Hl0) (fv_i _ (icr_0 Hl0) rfl) dX6_isNamed_16 rfl ?_
      have h15 := g8 c11
      refine x_icmp_ge (tgt := 26) (pc2 := 22) dX6_isNamed_19 (by decide) rfl h1 h15 (fun c16 => ?_) (fun c16 => ?_)
      · skip
        refine x_iconst (pc2 := 27) dX6_isNamed_26 rfl ?_
        refine x_goto (tgt := 46) dX6_isNamed_27 (by decide) ?_
        exact x_topI ((if_neg c11).trans (if_pos c16)) kj
      · skip
        refine x_iconst (pc2 := 23) dX6_isNamed_22 rfl ?_
        refine x_goto (tgt := 46) dX6_isNamed_23 (by decide) ?_
        exact x_topI ((if_neg c11).trans (if_neg c16)) kj
set_option maxRecDepth 4000 in
theorem g_X6_isNamed_57 {sc : List Int} {d : Nat} {m : Mem} {Q : Option AV → Mem → Prop} {l0 l1 l2 s0 : Int} (Hl0 : RoomAt l0) (k : (-2147483648 ≤ s0 ∧ s0 < 2147483648) ∧ ((s0 = 0) → (S_X6_isNamed sc d 2 [aR l0, aI l1, aI (l2 + 1), aU] [] m Q)) ∧ (¬ (s0 = 0) → (Q (some (aI 1)) m))) : S_X6_isNamed sc d 57 [aR l0, aI l1, aI l2, aU] [aI s0] m Q := by
  obtain ⟨h1, k⟩ := k
  obtain ⟨k1, k2⟩ := k
  refine x_if_eq (tgt := 62) (pc2 := 60) dX6_isNamed_57 (by decide) rfl h1 (fun c2 => ?_) (fun c2 => ?_)
  · replace k := k1 c2
    refine x_iinc (pc2 := 65) (ls2 := [aR l0, aI l1, aI (l2 + 1), aU]) dX6_isNamed_62 rfl rfl (by decide) rfl ?_
    refine x_goto (tgt := 2) dX6_isNamed_65 (by decide) ?_
    exact k
  · replace k := k2 c2
    refine x_iconst (pc2 := 61) dX6_isNamed_60 rfl ?_
    exact x_ireturn dX6_isNamed_61 ⟨.boolean, rfl, rfl⟩ k
theorem c_X6_isNamed_54 {sc : List Int} {d d2 : Nat} {m m2 : Mem} {Q : Option AV → Mem → Prop} {l0 l1 l2 s0 s1 s2 : Int} {v : Int} (Hl0 : RoomAt l0) (Hs0 : RoomAt s0) (hM : C_X6_sameLetters sc d2 [aR s0, aI s1, aI s2] m (some (aI v)) m2) (hd : d2 + 1 ≤ d) (k : S_X6_isNamed sc d 57 [aR l0, aI l1, aI l2, aU] [aI v] m2 Q) : S_X6_isNamed sc d 54 [aR l0, aI l1, aI l2, aU] [aI s2, aI s1, aR s0] m Q := x_callV (as := [aI s1, aI s2]) (rest := []) hM mk_X6_sameLetters mv_X6_sameLetters lk_X6_77 (Or.inl ⟨6, (RX6, TX6, 16), icr_0 Hs0, Nat.le_of_ble_eq_true rfl, rfl, rfl⟩) hd rfl rfl (Nat.le_of_ble_eq_true rfl) dX6_isNamed_54 rfl k
set_option maxRecDepth 4000 in
theorem g_X6_sameLetters_0 {sc : List Int} {d : Nat} {m : Mem} {Q : Option AV → Mem → Prop} {l0 l1 l2 : Int} (Hl0 : RoomAt l0) (k : S_X6_sameLetters sc d 2 [aR l0, aI l1, aI l2, aI 0] [] m Q) : S_X6_sameLetters sc d 0 [aR l0, aI l1, aI l2, aU] [] m Q := by
  refine x_iconst (pc2 := 1) dX6_sameLetters_0 rfl ?_
  refine x_istore_n (pc2 := 2) (ls2 := [aR l0, aI l1, aI l2, aI 0]) dX6_sameLetters_1 rfl (by decide) rfl ?_
  exact k
set_option maxRecDepth 4000 in
theorem g_X6_sameLetters_2 {sc : List Int} {d : Nat} {m : Mem} {Q : Option AV → Mem → Prop} {l0 l1 l2 l3 : Int} (Hl0 : RoomAt l0) (k : (-2147483648 ≤ l3 ∧ l3 < 2147483648) ∧ ((6 ≤ l3) → (Q (some (aI 1)) m)) ∧ (¬ (6 ≤ l3) → ((0 ≤ ((l1 * 6) + l3)) ∧ (((l1 * 6) + l3) < 84) ∧ (0 ≤ ((l2 * 6) + l3)) ∧ (((l2 * 6) + l3) < 84) ∧ (-2147483648 ≤ (m (l0 + 12) ((l1 * 6) + l3)) ∧ (m (l0 + 12) ((l1 * 6) + l3)) < 2147483648) ∧ (-2147483648 ≤ (m (l0 + 12) ((l2 * 6) + l3)) ∧ (m (l0 + 12) ((l2 * 6) + l3)) < 2147483648) ∧ (((m (l0 + 12) ((l1 * 6) + l3)) = (m (l0 + 12) ((l2 * 6) + l3))) → (S_X6_sameLetters sc d 2 [aR l0, aI l1, aI l2, aI (l3 + 1)] [] m Q)) ∧ (¬ ((m (l0 + 12) ((l1 * 6) + l3)) = (m (l0 + 12) ((l2 * 6) + l3))) → (Q (some (aI 0)) m))))) : S_X6_sameLetters sc d 2 [aR l0, aI l1, aI l2, aI l3] [] m Q := by
  refine x_iload_n (pc2 := 3) dX6_sameLetters_2 rfl rfl ?_
  refine x_bipush (pc2 := 5) dX6_sameLetters_3 rfl rfl ?_
  obtain ⟨h1, k⟩ := k
  obtain ⟨k1, k2⟩ := k
  refine x_icmp_ge (tgt := 41) (pc2 := 8) dX6_sameLetters_5 (by decide) rfl h1 (by decide) (fun c2 => ?_) (fun c2 => ?_)
  · replace k := k1 c2
    refine x_iconst (pc2 := 42) dX6_sameLetters_41 rfl ?_
    exact x_ireturn dX6_sameLetters_42 ⟨.boolean, rfl, rfl⟩ k
  · replace k := k2 c2
    refine x_aload_n (pc2 := 9) dX6_sameLetters_8 rfl rfl ?_
    refine x_getf (pc2 := 12) (v := aR (l0 + 12)) fl_X6_43 (icr_0 Hl0) (vrr_12 _ Hl0) dX6_sameLetters_9 rfl ?_
    refine x_iload_n (pc2 := 13) dX6_sameLetters_12 rfl rfl ?_
    refine x_bipush (pc2 := 15) dX6_sameLetters_13 rfl rfl ?_
    refine x_imul (pc2 := 16) dX6_sameLetters_15 rfl ?_
    refine x_iload_n (pc2 := 17) dX6_sameLetters_16 rfl rfl ?_
    refine x_iadd (pc2 := 18) dX6_sameLetters_17 rfl ?_
    obtain ⟨h3, k⟩ := k
    obtain ⟨h4, k⟩ := k
    refine x_iald (pc2 := 19) (icr_12 Hl0) h3 (by rw [(alr_12 Hl0)]; exact h4) dX6_sameLetters_18 rfl ?_
    refine x_aload_n (pc2 := 20) dX6_sameLetters_19 rfl rfl ?_
    refine x_getf (pc2 := 23) (v := aR (l0 + 12)) fl_X6_43 (icr_0 Hl0) (vrr_12 _ Hl0) dX6_sameLetters_20 rfl ?_
    refine x_iload_n (pc2 := 24) dX6_sameLetters_23 rfl rfl ?_
    refine x_bipush (pc2 := 26) dX6_sameLetters_24 rfl rfl ?_
    refine x_imul (pc2 := 27) dX6_sameLetters_26 rfl ?_
    refine x_iload_n (pc2 := 28) dX6_sameLetters_27 rfl rfl ?_
    refine x_iadd (pc2 := 29) dX6_sameLetters_28 rfl ?_
    obtain ⟨h5, k⟩ := k
    obtain ⟨h6, k⟩ := k
    refine x_iald (pc2 := 30) (icr_12 Hl0) h5 (by rw [(alr_12 Hl0)]; exact h6) dX6_sameLetters_29 rfl ?_
    obtain ⟨h7, k⟩ := k
    obtain ⟨h8, k⟩ := k
    obtain ⟨k1, k2⟩ := k
    refine x_icmp_eq (tgt := 35) (pc2 := 33) dX6_sameLetters_30 (by decide) rfl h7 h8 (fun c9 => ?_) (fun c9 => ?_)
    · replace k := k1 c9
      refine x_iinc (pc2 := 38) (ls2 := [aR l0, aI l1, aI l2, aI (l3 + 1)]) dX6_sameLetters_35 rfl rfl (by decide) rfl ?_
      refine x_goto (tgt := 2) dX6_sameLetters_38 (by decide) ?_
      exact k
    · replace k := k2 c9
      refine x_iconst (pc2 := 34) dX6_sameLetters_33 rfl ?_
      exact x_ireturn dX6_sameLetters_34 ⟨.boolean, rfl, rfl⟩ k
set_option maxRecDepth 4000 in
theorem g_X6_hasLength_0 {sc : List Int} {d : Nat} {m : Mem} {Q : Option AV → Mem → Prop} {l0 l1 : Int} (Hl0 : RoomAt l0) (k : S_X6_hasLength sc d 2 [aR l0, aI l1, aI 0] [] m Q) : S_X6_hasLength sc d 0 [aR l0, aI l1, aU] [] m Q := by
  refine x_iconst (pc2 := 1) dX6_hasLength_0 rfl ?_
  refine x_istore_n (pc2 := 2) (ls2 := [aR l0, aI l1, aI 0]) dX6_hasLength_1 rfl (by decide) rfl ?_
  exact k
set_option maxRecDepth 4000 in
theorem g_X6_hasLength_2 {sc : List Int} {d : Nat} {m : Mem} {Q : Option AV → Mem → Prop} {l0 l1 l2 : Int} (Hl0 : RoomAt l0) (k : (-2147483648 ≤ l2 ∧ l2 < 2147483648) ∧ (-2147483648 ≤ (m l0 2) ∧ (m l0 2) < 2147483648) ∧ (((m l0 2) ≤ l2) → (Q (some (aI 0)) m)) ∧ (¬ ((m l0 2) ≤ l2) → ((0 ≤ l2) ∧ (l2 < 6) ∧ (-2147483648 ≤ (m (l0 + 1) l2) ∧ (m (l0 + 1) l2) < 2147483648) ∧ (-2147483648 ≤ l1 ∧ l1 < 2147483648) ∧ (((m (l0 + 1) l2) ≠ l1) → (S_X6_hasLength sc d 2 [aR l0, aI l1, aI (l2 + 1)] [] m Q)) ∧ (¬ ((m (l0 + 1) l2) ≠ l1) → (Q (some (aI 1)) m))))) : S_X6_hasLength sc d 2 [aR l0, aI l1, aI l2] [] m Q := by
  refine x_iload_n (pc2 := 3) dX6_hasLength_2 rfl rfl ?_
  refine x_aload_n (pc2 := 4) dX6_hasLength_3 rfl rfl ?_
  refine x_getf (pc2 := 7) (v := aI (m l0 2)) fl_X6_52 (icr_0 Hl0) (fv_i _ (icr_0 Hl0) rfl) dX6_hasLength_4 rfl ?_
  obtain ⟨h1, k⟩ := k
  obtain ⟨h2, k⟩ := k
  obtain ⟨k1, k2⟩ := k
  refine x_icmp_ge (tgt := 28) (pc2 := 10) dX6_hasLength_7 (by decide) rfl h1 h2 (fun c3 => ?_) (fun c3 => ?_)
  · replace k := k1 c3
    refine x_iconst (pc2 := 29) dX6_hasLength_28 rfl ?_
    exact x_ireturn dX6_hasLength_29 ⟨.boolean, rfl, rfl⟩ k
  · replace k := k2 c3
    refine x_aload_n (pc2 := 11) dX6_hasLength_10 rfl rfl ?_
    refine x_getf (pc2 := 14) (v := aR (l0 + 1)) fl_X6_9 (icr_0 Hl0) (vrr_0 _ Hl0) dX6_hasLength_11 rfl ?_
    refine x_iload_n (pc2 := 15) dX6_hasLength_14 rfl rfl ?_
    obtain ⟨h4, k⟩ := k
    obtain ⟨h5, k⟩ := k
    refine x_iald (pc2 := 16) (icr_1 Hl0) h4 (by rw [(alr_1 Hl0)]; exact h5) dX6_hasLength_15 rfl ?_
    refine x_iload_n (pc2 := 17) dX6_hasLength_16 rfl rfl ?_
    obtain ⟨h6, k⟩ := k
    obtain ⟨h7, k⟩ := k
    obtain ⟨k1, k2⟩ := k
    refine x_icmp_ne (tgt := 22) (pc2 := 20) dX6_hasLength_17 (by decide) rfl h6 h7 (fun c8 => ?_) (fun c8 => ?_)
    · replace k := k1 c8
      refine x_iinc (pc2 := 25) (ls2 := [aR l0, aI l1, aI (l2 + 1)]) dX6_hasLength_22 rfl rfl (by decide) rfl ?_
      refine x_goto (tgt := 2) dX6_hasLength_25 (by decide) ?_
      exact k
    · replace k := k2 c8
      refine x_iconst (pc2 := 21) dX6_hasLength_20 rfl ?_
      exact x_ireturn dX6_hasLength_21 ⟨.boolean, rfl, rfl⟩ k
set_option maxRecDepth 4000 in
theorem g_X6_knows_0 {sc : List Int} {d : Nat} {m : Mem} {Q : Option AV → Mem → Prop} {l0 l1 : Int} (Hl0 : RoomAt l0) (k : ((-2147483648 ≤ (m l0 15) ∧ (m l0 15) < 2147483648)) ∧ ((¬ ((m l0 15) ≤ 0)) → (-2147483648 ≤ l1 ∧ l1 < 2147483648)) ∧ ((¬ ((m l0 15) ≤ 0)) → (¬ (l1 < 0)) → (-2147483648 ≤ (4 + (m l0 11)) ∧ (4 + (m l0 11)) < 2147483648)) ∧ ((¬ ((m l0 15) ≤ 0)) → (¬ (l1 < 0)) → (¬ ((4 + (m l0 11)) ≤ l1)) → (¬ (l1 ≠ 3)) → (-2147483648 ≤ (m l0 8) ∧ (m l0 8) < 2147483648)) ∧ Q (some (aI (if (m l0 15) ≤ 0 then 0 else (if l1 < 0 then 0 else (if (4 + (m l0 11)) ≤ l1 then 0 else (if l1 ≠ 3 then 1 else (if 6 < (m l0 8) then 0 else 1 : Int) : Int) : Int) : Int) : Int))) m) : S_X6_knows sc d 0 [aR l0, aI l1] [] m Q := by
  refine x_aload_n (pc2 := 1) dX6_knows_0 rfl rfl ?_
  refine x_getf (pc2 := 4) (v := aI (m l0 15)) fl_X6_62 (icr_0 Hl0) (fv_i _ (icr_0 Hl0) rfl) dX6_knows_1 rfl ?_
  obtain ⟨g2, k⟩ := k
  obtain ⟨g4, k⟩ := k
  obtain ⟨g6, k⟩ := k
  obtain ⟨g8, k⟩ := k
  have kj : S_X6_knows sc d 40 [aR l0, aI l1] [aI (if (m l0 15) ≤ 0 then 0 else (if l1 < 0 then 0 else (if (4 + (m l0 11)) ≤ l1 then 0 else (if l1 ≠ 3 then 1 else (if 6 < (m l0 8) then 0 else 1 : Int) : Int) : Int) : Int) : Int)] m Q := by
    exact x_ireturn dX6_knows_40 (ret_z (by repeat (first | exact Or.inl rfl | exact Or.inr rfl | split))) k
  have h9 := g2 
  refine x_if_le (tgt := 39) (pc2 := 7) dX6_knows_4 (by decide) rfl h9 (fun c10 => ?_) (fun c10 => ?_)
  · skip
    refine x_iconst (pc2 := 40) dX6_knows_39 rfl ?_
    exact x_topI (if_pos c10) kj
  · skip
    refine x_iload_n (pc2 := 8) dX6_knows_7 rfl rfl ?_
    have h11 := g4 c10
    refine x_if_lt (tgt := 39) (pc2 := 11) dX6_knows_8 (by decide) rfl h11 (fun c12 => ?_) (fun c12 => ?_)
    · skip
      refine x_iconst (pc2 := 40) dX6_knows_39 rfl ?_
      exact x_topI ((if_neg c10).trans (if_pos c12)) kj
    · skip
      refine x_iload_n (pc2 := 12) dX6_knows_11 rfl rfl ?_
      refine x_iconst (pc2 := 13) dX6_knows_12 rfl ?_
      refine x_aload_n (pc2 := 14) dX6_knows_13 rfl rfl ?_
      refine x_getf (pc2 := 17) (v := aI (m l0 11)) fl_X6_59 (icr_0 Hl0) (fv_i _ (icr_0 Hl0) rfl) dX6_knows_14 rfl ?_
      refine x_iadd (pc2 := 18) dX6_knows_17 rfl ?_
      have h13 := g6 c10 c12
      refine x_icmp_ge (tgt := 39) (pc2 := 21) dX6_knows_18 (by decide) rfl h11 h13 (fun c14 => ?_) (fun c14 => ?_)
      · skip
        refine x_iconst (pc2 := 40) dX6_knows_39 rfl ?_
        exact x_topI ((if_neg c10).trans ((if_neg c12).trans (if_pos c14))) kj
      · skip
        refine x_iload_n (pc2 := 22) dX6_knows_21 rfl rfl ?_
        refine x_iconst (pc2 := 23) dX6_knows_22 rfl ?_
        refine x_icmp_ne (tgt := 35) (pc2 := 26) dX6_knows_23 (by decide) rfl h11 (by decide) (fun c15 => ?_) (fun c15 => ?_)
        · skip
          refine x_iconst (pc2 := 36) dX6_knows_35 rfl ?_
          refine x_goto (tgt := 40) dX6_knows_36 (by decide) ?_
          exact x_topI ((if_neg c10).trans ((if_neg c12).trans ((if_neg c14).trans (if_pos c15)))) kj
        · skip
          refine x_aload_n (pc2 := 27) dX6_knows_26 rfl rfl ?_
          refine x_getf (pc2 := 30) (v := aI (m l0 8)) fl_X6_56 (icr_0 Hl0) (fv_i _ (icr_0 Hl0) rfl) dX6_knows_27 rfl ?_
          refine x_bipush (pc2 := 32) dX6_knows_30 rfl rfl ?_
          have h16 := g8 c10 c12 c14 c15
          refine x_icmp_gt (tgt := 39) (pc2 := 35) dX6_knows_32 (by decide) rfl h16 (by decide) (fun c17 => ?_) (fun c17 => ?_)
          · skip
            refine x_iconst (pc2 := 40) dX6_knows_39 rfl ?_
            exact x_topI ((if_neg c10).trans ((if_neg c12).trans ((if_neg c14).trans ((if_neg c15).trans (if_pos c17))))) kj
          · skip
            refine x_iconst (pc2 := 36) dX6_knows_35 rfl ?_
            refine x_goto (tgt := 40) dX6_knows_36 (by decide) ?_
            exact x_topI ((if_neg c10).trans ((if_neg c12).trans ((if_neg c14).trans ((if_neg c15).trans (if_neg c17))))) kj
set_option maxRecDepth 4000 in
theorem g_X6_longest_0 {sc : List Int} {d : Nat} {m : Mem} {Q : Option AV → Mem → Prop} {l0 : Int} (Hl0 : RoomAt l0) (k : S_X6_longest sc d 4 [aR l0, aI 0, aI 0] [] m Q) : S_X6_longest sc d 0 [aR l0, aU, aU] [] m Q := by
  refine x_iconst (pc2 := 1) dX6_longest_0 rfl ?_
  refine x_istore_n (pc2 := 2) (ls2 := [aR l0, aI 0, aU]) dX6_longest_1 rfl (by decide) rfl ?_
  refine x_iconst (pc2 := 3) dX6_longest_2 rfl ?_
  refine x_istore_n (pc2 := 4) (ls2 := [aR l0, aI 0, aI 0]) dX6_longest_3 rfl (by decide) rfl ?_
  exact k
set_option maxRecDepth 4000 in
theorem g_X6_longest_4 {sc : List Int} {d : Nat} {m : Mem} {Q : Option AV → Mem → Prop} {l0 l1 l2 : Int} (Hl0 : RoomAt l0) (k : (-2147483648 ≤ l2 ∧ l2 < 2147483648) ∧ (-2147483648 ≤ (m l0 8) ∧ (m l0 8) < 2147483648) ∧ (((m l0 8) ≤ l2) → (Q (some (aI l1)) m)) ∧ (¬ ((m l0 8) ≤ l2) → ((0 ≤ l2) ∧ (l2 < 10) ∧ S_X6_longest sc d 19 [aR l0, aU, aI l2] [aI (m (l0 + 3) l2), aI l1] m Q))) : S_X6_longest sc d 4 [aR l0, aI l1, aI l2] [] m Q := by
  refine x_iload_n (pc2 := 5) dX6_longest_4 rfl rfl ?_
  refine x_aload_n (pc2 := 6) dX6_longest_5 rfl rfl ?_
  refine x_getf (pc2 := 9) (v := aI (m l0 8)) fl_X6_56 (icr_0 Hl0) (fv_i _ (icr_0 Hl0) rfl) dX6_longest_6 rfl ?_
  obtain ⟨h1, k⟩ := k
  obtain ⟨h2, k⟩ := k
  obtain ⟨k1, k2⟩ := k
  refine x_icmp_ge (tgt := 29) (pc2 := 12) dX6_longest_9 (by decide) rfl h1 h2 (fun c3 => ?_) (fun c3 => ?_)
  · replace k := k1 c3
    refine x_iload_n (pc2 := 30) dX6_longest_29 rfl rfl ?_
    exact x_ireturn dX6_longest_30 ⟨.int, rfl, rfl⟩ k
  · replace k := k2 c3
    refine x_iload_n (pc2 := 13) dX6_longest_12 rfl rfl ?_
    refine x_aload_n (pc2 := 14) dX6_longest_13 rfl rfl ?_
    refine x_getf (pc2 := 17) (v := aR (l0 + 3)) fl_X6_18 (icr_0 Hl0) (vrr_3 _ Hl0) dX6_longest_14 rfl ?_
    refine x_iload_n (pc2 := 18) dX6_longest_17 rfl rfl ?_
    obtain ⟨h4, k⟩ := k
    obtain ⟨h5, k⟩ := k
    refine x_iald (pc2 := 19) (icr_3 Hl0) h4 (by rw [(alr_3 Hl0)]; exact h5) dX6_longest_18 rfl ?_
    exact x_drop (drp_k (drp_u (drp_k drp_n))) k
set_option maxRecDepth 4000 in
theorem g_X6_longest_22 {sc : List Int} {d : Nat} {m : Mem} {Q : Option AV → Mem → Prop} {l0 l2 s0 : Int} (Hl0 : RoomAt l0) (k : S_X6_longest sc d 4 [aR l0, aI s0, aI (l2 + 1)] [] m Q) : S_X6_longest sc d 22 [aR l0, aU, aI l2] [aI s0] m Q := by
  refine x_istore_n (pc2 := 23) (ls2 := [aR l0, aI s0, aI l2]) dX6_longest_22 rfl (by decide) rfl ?_
  refine x_iinc (pc2 := 26) (ls2 := [aR l0, aI s0, aI (l2 + 1)]) dX6_longest_23 rfl rfl (by decide) rfl ?_
  refine x_goto (tgt := 4) dX6_longest_26 (by decide) ?_
  exact k
theorem c_X6_longest_19 {sc : List Int} {d d2 : Nat} {m m2 : Mem} {Q : Option AV → Mem → Prop} {l0 l2 s0 s1 : Int} {v : Int} (Hl0 : RoomAt l0) (hM : C_J9_max_7cf53 sc d2 [aI s0, aI s1] m (some (aI v)) m2) (hd : d2 + 1 ≤ d) (k : S_X6_longest sc d 22 [aR l0, aU, aI l2] [aI v] m2 Q) : S_X6_longest sc d 19 [aR l0, aU, aI l2] [aI s1, aI s0] m Q := x_callS (as := [aI s0, aI s1]) (rest := []) hM mk_J9_max_7cf53 ms_J9_max_7cf53 lk_X6_81 hd rfl rfl (Nat.le_of_ble_eq_true rfl) dX6_longest_19 rfl k
set_option maxRecDepth 4000 in
theorem g_X6_leastLength_0 {sc : List Int} {d : Nat} {m : Mem} {Q : Option AV → Mem → Prop} {l0 : Int} (Hl0 : RoomAt l0) (k : S_X6_leastLength sc d 5 [aR l0, aI 99, aI 0] [] m Q) : S_X6_leastLength sc d 0 [aR l0, aU, aU] [] m Q := by
  refine x_bipush (pc2 := 2) dX6_leastLength_0 rfl rfl ?_
  refine x_istore_n (pc2 := 3) (ls2 := [aR l0, aI 99, aU]) dX6_leastLength_2 rfl (by decide) rfl ?_
  refine x_iconst (pc2 := 4) dX6_leastLength_3 rfl ?_
  refine x_istore_n (pc2 := 5) (ls2 := [aR l0, aI 99, aI 0]) dX6_leastLength_4 rfl (by decide) rfl ?_
  exact k
set_option maxRecDepth 4000 in
theorem g_X6_leastLength_5 {sc : List Int} {d : Nat} {m : Mem} {Q : Option AV → Mem → Prop} {l0 l1 l2 : Int} (Hl0 : RoomAt l0) (k : (-2147483648 ≤ l2 ∧ l2 < 2147483648) ∧ (-2147483648 ≤ (m l0 2) ∧ (m l0 2) < 2147483648) ∧ (((m l0 2) ≤ l2) → (Q (some (aI l1)) m)) ∧ (¬ ((m l0 2) ≤ l2) → ((0 ≤ l2) ∧ (l2 < 6) ∧ S_X6_leastLength sc d 20 [aR l0, aU, aI l2] [aI (m (l0 + 1) l2), aI l1] m Q))) : S_X6_leastLength sc d 5 [aR l0, aI l1, aI l2] [] m Q := by
  refine x_iload_n (pc2 := 6) dX6_leastLength_5 rfl rfl ?_
  refine x_aload_n (pc2 := 7) dX6_leastLength_6 rfl rfl ?_
  refine x_getf (pc2 := 10) (v := aI (m l0 2)) fl_X6_52 (icr_0 Hl0) (fv_i _ (icr_0 Hl0) rfl) dX6_leastLength_7 rfl ?_
  obtain ⟨h1, k⟩ := k
  obtain ⟨h2, k⟩ := k
  obtain ⟨k1, k2⟩ := k
  refine x_icmp_ge (tgt := 30) (pc2 := 13) dX6_leastLength_10 (by decide) rfl h1 h2 (fun c3 => ?_) (fun c3 => ?_)
  · replace k := k1 c3
    refine x_iload_n (pc2 := 31) dX6_leastLength_30 rfl rfl ?_
    exact x_ireturn dX6_leastLength_31 ⟨.int, rfl, rfl⟩ k
  · replace k := k2 c3
    refine x_iload_n (pc2 := 14) dX6_leastLength_13 rfl rfl ?_
    refine x_aload_n (pc2 := 15) dX6_leastLength_14 rfl rfl ?_
    refine x_getf (pc2 := 18) (v := aR (l0 + 1)) fl_X6_9 (icr_0 Hl0) (vrr_0 _ Hl0) dX6_leastLength_15 rfl ?_
    refine x_iload_n (pc2 := 19) dX6_leastLength_18 rfl rfl ?_
    obtain ⟨h4, k⟩ := k
    obtain ⟨h5, k⟩ := k
    refine x_iald (pc2 := 20) (icr_1 Hl0) h4 (by rw [(alr_1 Hl0)]; exact h5) dX6_leastLength_19 rfl ?_
    exact x_drop (drp_k (drp_u (drp_k drp_n))) k
set_option maxRecDepth 4000 in
theorem g_X6_leastLength_23 {sc : List Int} {d : Nat} {m : Mem} {Q : Option AV → Mem → Prop} {l0 l2 s0 : Int} (Hl0 : RoomAt l0) (k : S_X6_leastLength sc d 5 [aR l0, aI s0, aI (l2 + 1)] [] m Q) : S_X6_leastLength sc d 23 [aR l0, aU, aI l2] [aI s0] m Q := by
  refine x_istore_n (pc2 := 24) (ls2 := [aR l0, aI s0, aI l2]) dX6_leastLength_23 rfl (by decide) rfl ?_
  refine x_iinc (pc2 := 27) (ls2 := [aR l0, aI s0, aI (l2 + 1)]) dX6_leastLength_24 rfl rfl (by decide) rfl ?_
  refine x_goto (tgt := 5) dX6_leastLength_27 (by decide) ?_
  exact k
theorem c_X6_leastLength_20 {sc : List Int} {d d2 : Nat} {m m2 : Mem} {Q : Option AV → Mem → Prop} {l0 l2 s0 s1 : Int} {v : Int} (Hl0 : RoomAt l0) (hM : C_J9_min_7cf53 sc d2 [aI s0, aI s1] m (some (aI v)) m2) (hd : d2 + 1 ≤ d) (k : S_X6_leastLength sc d 23 [aR l0, aU, aI l2] [aI v] m2 Q) : S_X6_leastLength sc d 20 [aR l0, aU, aI l2] [aI s1, aI s0] m Q := x_callS (as := [aI s0, aI s1]) (rest := []) hM mk_J9_min_7cf53 ms_J9_min_7cf53 lk_X6_87 hd rfl rfl (Nat.le_of_ble_eq_true rfl) dX6_leastLength_20 rfl k
set_option maxRecDepth 4000 in
theorem g_X6_greatestLength_0 {sc : List Int} {d : Nat} {m : Mem} {Q : Option AV → Mem → Prop} {l0 : Int} (Hl0 : RoomAt l0) (k : S_X6_greatestLength sc d 4 [aR l0, aI 0, aI 0] [] m Q) : S_X6_greatestLength sc d 0 [aR l0, aU, aU] [] m Q := by
  refine x_iconst (pc2 := 1) dX6_greatestLength_0 rfl ?_
  refine x_istore_n (pc2 := 2) (ls2 := [aR l0, aI 0, aU]) dX6_greatestLength_1 rfl (by decide) rfl ?_
  refine x_iconst (pc2 := 3) dX6_greatestLength_2 rfl ?_
  refine x_istore_n (pc2 := 4) (ls2 := [aR l0, aI 0, aI 0]) dX6_greatestLength_3 rfl (by decide) rfl ?_
  exact k
set_option maxRecDepth 4000 in
theorem g_X6_greatestLength_4 {sc : List Int} {d : Nat} {m : Mem} {Q : Option AV → Mem → Prop} {l0 l1 l2 : Int} (Hl0 : RoomAt l0) (k : (-2147483648 ≤ l2 ∧ l2 < 2147483648) ∧ (-2147483648 ≤ (m l0 2) ∧ (m l0 2) < 2147483648) ∧ (((m l0 2) ≤ l2) → (Q (some (aI l1)) m)) ∧ (¬ ((m l0 2) ≤ l2) → ((0 ≤ l2) ∧ (l2 < 6) ∧ S_X6_greatestLength sc d 19 [aR l0, aU, aI l2] [aI (m (l0 + 1) l2), aI l1] m Q))) : S_X6_greatestLength sc d 4 [aR l0, aI l1, aI l2] [] m Q := by
  refine x_iload_n (pc2 := 5) dX6_greatestLength_4 rfl rfl ?_
  refine x_aload_n (pc2 := 6) dX6_greatestLength_5 rfl rfl ?_
  refine x_getf (pc2 := 9) (v := aI (m l0 2)) fl_X6_52 (icr_0 Hl0) (fv_i _ (icr_0 Hl0) rfl) dX6_greatestLength_6 rfl ?_
  obtain ⟨h1, k⟩ := k
  obtain ⟨h2, k⟩ := k
  obtain ⟨k1, k2⟩ := k
  refine x_icmp_ge (tgt := 29) (pc2 := 12) dX6_greatestLength_9 (by decide) rfl h1 h2 (fun c3 => ?_) (fun c3 => ?_)
  · replace k := k1 c3
    refine x_iload_n (pc2 := 30) dX6_greatestLength_29 rfl rfl ?_
    exact x_ireturn dX6_greatestLength_30 ⟨.int, rfl, rfl⟩ k
  · replace k := k2 c3
    refine x_iload_n (pc2 := 13) dX6_greatestLength_12 rfl rfl ?_
    refine x_aload_n (pc2 := 14) dX6_greatestLength_13 rfl rfl ?_
    refine x_getf (pc2 := 17) (v := aR (l0 + 1)) fl_X6_9 (icr_0 Hl0) (vrr_0 _ Hl0) dX6_greatestLength_14 rfl ?_
    refine x_iload_n (pc2 := 18) dX6_greatestLength_17 rfl rfl ?_
    obtain ⟨h4, k⟩ := k
    obtain ⟨h5, k⟩ := k
    refine x_iald (pc2 := 19) (icr_1 Hl0) h4 (by rw [(alr_1 Hl0)]; exact h5) dX6_greatestLength_18 rfl ?_
    exact x_drop (drp_k (drp_u (drp_k drp_n))) k
set_option maxRecDepth 4000 in
theorem g_X6_greatestLength_22 {sc : List Int} {d : Nat} {m : Mem} {Q : Option AV → Mem → Prop} {l0 l2 s0 : Int} (Hl0 : RoomAt l0) (k : S_X6_greatestLength sc d 4 [aR l0, aI s0, aI (l2 + 1)] [] m Q) : S_X6_greatestLength sc d 22 [aR l0, aU, aI l2] [aI s0] m Q := by
  refine x_istore_n (pc2 := 23) (ls2 := [aR l0, aI s0, aI l2]) dX6_greatestLength_22 rfl (by decide) rfl ?_
  refine x_iinc (pc2 := 26) (ls2 := [aR l0, aI s0, aI (l2 + 1)]) dX6_greatestLength_23 rfl rfl (by decide) rfl ?_
  refine x_goto (tgt := 4) dX6_greatestLength_26 (by decide) ?_
  exact k
theorem c_X6_greatestLength_19 {sc : List Int} {d d2 : Nat} {m m2 : Mem} {Q : Option AV → Mem → Prop} {l0 l2 s0 s1 : Int} {v : Int} (Hl0 : RoomAt l0) (hM : C_J9_max_7cf53 sc d2 [aI s0, aI s1] m (some (aI v)) m2) (hd : d2 + 1 ≤ d) (k : S_X6_greatestLength sc d 22 [aR l0, aU, aI l2] [aI v] m2 Q) : S_X6_greatestLength sc d 19 [aR l0, aU, aI l2] [aI s1, aI s0] m Q := x_callS (as := [aI s0, aI s1]) (rest := []) hM mk_J9_max_7cf53 ms_J9_max_7cf53 lk_X6_81 hd rfl rfl (Nat.le_of_ble_eq_true rfl) dX6_greatestLength_19 rfl k
set_option maxRecDepth 4000 in
theorem g_X6_oddsOf_0 {sc : List Int} {d : Nat} {m : Mem} {Q : Option AV → Mem → Prop} {l0 l1 : Int} (Hl0 : RoomAt l0) (k : S_X6_oddsOf sc d 4 [aR l0, aI l1, aI 0, aI 0] [] m Q) : S_X6_oddsOf sc d 0 [aR l0, aI l1, aU, aU] [] m Q := by
  refine x_iconst (pc2 := 1) dX6_oddsOf_0 rfl ?_
  refine x_istore_n (pc2 := 2) (ls2 := [aR l0, aI l1, aI 0, aU]) dX6_oddsOf_1 rfl (by decide) rfl ?_
  refine x_iconst (pc2 := 3) dX6_oddsOf_2 rfl ?_
  refine x_istore_n (pc2 := 4) (ls2 := [aR l0, aI l1, aI 0, aI 0]) dX6_oddsOf_3 rfl (by decide) rfl ?_
  exact k
set_option maxRecDepth 4000 in
theorem g_X6_oddsOf_4 {sc : List Int} {d : Nat} {m : Mem} {Q : Option AV → Mem → Prop} {l0 l1 l2 l3 : Int} (Hl0 : RoomAt l0) (k : (-2147483648 ≤ l3 ∧ l3 < 2147483648) ∧ (-2147483648 ≤ (m l0 2) ∧ (m l0 2) < 2147483648) ∧ (((m l0 2) ≤ l3) → (Q (some (aI l2)) m)) ∧ (¬ ((m l0 2) ≤ l3) → ((0 ≤ l3) ∧ (l3 < 6) ∧ ((-2147483648 ≤ (m (l0 + 1) l3) ∧ (m (l0 + 1) l3) < 2147483648)) ∧ ((-2147483648 ≤ l1 ∧ l1 < 2147483648)) ∧ S_X6_oddsOf sc d 4 [aR l0, aI l1, aI (l2 + (if (m (l0 + 1) l3) < l1 then 0 else (m (l0 + 2) l3) : Int)), aI (l3 + 1)] [] m Q))) : S_X6_oddsOf sc d 4 [aR l0, aI l1, aI l2, aI l3] [] m Q := by
  refine x_iload_n (pc2 := 5) dX6_oddsOf_4 rfl rfl ?_
  refine x_aload_n (pc2 := 6) dX6_oddsOf_5 rfl rfl ?_
  refine x_getf (pc2 := 9) (v := aI (m l0 2)) fl_X6_52 (icr_0 Hl0) (fv_i _ (icr_0 Hl0) rfl) dX6_oddsOf_6 rfl ?_
  obtain ⟨h1, k⟩ := k
  obtain ⟨h2, k⟩ := k
  obtain ⟨k1, k2⟩ := k
  refine x_icmp_ge (tgt := 41) (pc2 := 12) dX6_oddsOf_9 (by decide) rfl h1 h2 (fun c3 => ?_) (fun c3 => ?_)
  · replace k := k1 c3
    refine x_iload_n (pc2 := 42) dX6_oddsOf_41 rfl rfl ?_
    exact x_ireturn dX6_oddsOf_42 ⟨.int, rfl, rfl⟩ k
  · replace k := k2 c3
    refine x_iload_n (pc2 := 13) dX6_oddsOf_12 rfl rfl ?_
    refine x_aload_n (pc2 := 14) dX6_oddsOf_13 rfl rfl ?_
    refine x_getf (pc2 := 17) (v := aR (l0 + 1)) fl_X6_9 (icr_0 Hl0) (vrr_0 _ Hl0) dX6_oddsOf_14 rfl ?_
    refine x_iload_n (pc2 := 18) dX6_oddsOf_17 rfl rfl ?_
    obtain ⟨h4, k⟩ := k
    obtain ⟨h5, k⟩ := k
    refine x_iald (pc2 := 19) (icr_1 Hl0) h4 (by rw [(alr_1 Hl0)]; exact h5) dX6_oddsOf_18 rfl ?_
    refine x_iload_n (pc2 := 20) dX6_oddsOf_19 rfl rfl ?_
    obtain ⟨g8, k⟩ := k
    obtain ⟨g9, k⟩ := k
    have kj : S_X6_oddsOf sc d 33 [aR l0, aI l1, aI l2, aI l3] [aI (if (m (l0 + 1) l3) < l1 then 0 else (m (l0 + 2) l3) : Int), aI l2] m Q := by
      refine x_iadd (pc2 := 34) dX6_oddsOf_33 rfl ?_
      refine x_istore_n (pc2 := 35) (ls2 := [aR l0, aI l1, aI (l2 + (if (m (l0 + 1) l3) < l1 then 0 else (m (l0 + 2) l3) : Int)), aI l3]) dX6_oddsOf_34 rfl (by decide) rfl ?_
      refine x_iinc (pc2 := 38) (ls2 := [aR l0, aI l1, aI (l2 + (if (m (l0 + 1) l3) < l1 then 0 else (m (l0 + 2) l3) : Int)), aI (l3 + 1)]) dX6_oddsOf_35 rfl rfl (by decide) rfl ?_
      refine x_goto (tgt := 4) dX6_oddsOf_38 (by decide) ?_
      exact k
    have h10 := g8 
    have h11 := g9 
    refine x_icmp_lt (tgt := 32) (pc2 := 23) dX6_oddsOf_20 (by decide) rfl h10 h11 (fun c12 => ?_) (fun c12 => ?_)
    · skip
      refine x_iconst (pc2 := 33) dX6_oddsOf_32 rfl ?_
      exact x_topI (if_pos c12) kj
    · skip
      refine x_aload_n (pc2 := 24) dX6_oddsOf_23 rfl rfl ?_
      refine x_getf (pc2 := 27) (v := aR (l0 + 2)) fl_X6_15 (icr_0 Hl0) (vrr_1 _ Hl0) dX6_oddsOf_24 rfl ?_
      refine x_iload_n (pc2 := 28) dX6_oddsOf_27 rfl rfl ?_
      refine x_iald (pc2 := 29) (icr_2 Hl0) h4 (by rw [(alr_2 Hl0)]; exact h5) dX6_oddsOf_28 rfl ?_
      refine x_goto (tgt := 33) dX6_oddsOf_29 (by decide) ?_
      exact x_topI (if_neg c12) kj
set_option maxRecDepth 4000 in
theorem g_X6_lengthBy_0 {sc : List Int} {d : Nat} {m : Mem} {Q : Option AV → Mem → Prop} {l0 l1 : Int} (Hl0 : RoomAt l0) (k : S_X6_lengthBy sc d 4 [aR l0, aI l1, aI 0, aI 0] [] m Q) : S_X6_lengthBy sc d 0 [aR l0, aI l1, aU, aU] [] m Q := by
  refine x_iconst (pc2 := 1) dX6_lengthBy_0 rfl ?_
  refine x_istore_n (pc2 := 2) (ls2 := [aR l0, aI l1, aI 0, aU]) dX6_lengthBy_1 rfl (by decide) rfl ?_
  refine x_iconst (pc2 := 3) dX6_lengthBy_2 rfl ?_
  refine x_istore_n (pc2 := 4) (ls2 := [aR l0, aI l1, aI 0, aI 0]) dX6_lengthBy_3 rfl (by decide) rfl ?_
  exact k
set_option maxRecDepth 4000 in
theorem g_X6_lengthBy_4 {sc : List Int} {d : Nat} {m : Mem} {Q : Option AV → Mem → Prop} {l0 l1 l2 l3 : Int} (Hl0 : RoomAt l0) (k : (-2147483648 ≤ l3 ∧ l3 < 2147483648) ∧ (-2147483648 ≤ (m l0 2) ∧ (m l0 2) < 2147483648) ∧ (((m l0 2) ≤ l3) → (Q (some (aI 0)) m)) ∧ (¬ ((m l0 2) ≤ l3) → ((0 ≤ l3) ∧ (l3 < 6) ∧ (-2147483648 ≤ (l2 + (m (l0 + 2) l3)) ∧ (l2 + (m (l0 + 2) l3)) < 2147483648) ∧ (-2147483648 ≤ l1 ∧ l1 < 2147483648) ∧ (((l2 + (m (l0 + 2) l3)) ≤ l1) → (S_X6_lengthBy sc d 4 [aR l0, aI l1, aI (l2 + (m (l0 + 2) l3)), aI (l3 + 1)] [] m Q)) ∧ (¬ ((l2 + (m (l0 + 2) l3)) ≤ l1) → (Q (some (aI (m (l0 + 1) l3))) m))))) : S_X6_lengthBy sc d 4 [aR l0, aI l1, aI l2, aI l3] [] m Q := by
  refine x_iload_n (pc2 := 5) dX6_lengthBy_4 rfl rfl ?_
  refine x_aload_n (pc2 := 6) dX6_lengthBy_5 rfl rfl ?_
  refine x_getf (pc2 := 9) (v := aI (m l0 2)) fl_X6_52 (icr_0 Hl0) (fv_i _ (icr_0 Hl0) rfl) dX6_lengthBy_6 rfl ?_
  obtain ⟨h1, k⟩ := k
  obtain ⟨h2, k⟩ := k
  obtain ⟨k1, k2⟩ := k
  refine x_icmp_ge (tgt := 39) (pc2 := 12) dX6_lengthBy_9 (by decide) rfl h1 h2 (fun c3 => ?_) (fun c3 => ?_)
  · replace k := k1 c3
    refine x_iconst (pc2 := 40) dX6_lengthBy_39 rfl ?_
    exact x_ireturn dX6_lengthBy_40 ⟨.int, rfl, rfl⟩ k
  · replace k := k2 c3
    refine x_iload_n (pc2 := 13) dX6_lengthBy_12 rfl rfl ?_
    refine x_aload_n (pc2 := 14) dX6_lengthBy_13 rfl rfl ?_
    refine x_getf (pc2 := 17) (v := aR (l0 + 2)) fl_X6_15 (icr_0 Hl0) (vrr_1 _ Hl0) dX6_lengthBy_14 rfl ?_
    refine x_iload_n (pc2 := 18) dX6_lengthBy_17 rfl rfl ?_
    obtain ⟨h4, k⟩ := k
    obtain ⟨h5, k⟩ := k
    refine x_iald (pc2 := 19) (icr_2 Hl0) h4 (by rw [(alr_2 Hl0)]; exact h5) dX6_lengthBy_18 rfl ?_
    refine x_iadd (pc2 := 20) dX6_lengthBy_19 rfl ?_
    refine x_istore_n (pc2 := 21) (ls2 := [aR l0, aI l1, aI (l2 + (m (l0 + 2) l3)), aI l3]) dX6_lengthBy_20 rfl (by decide) rfl ?_
    refine x_iload_n (pc2 := 22) dX6_lengthBy_21 rfl rfl ?_
    refine x_iload_n (pc2 := 23) dX6_lengthBy_22 rfl rfl ?_
    obtain ⟨h6, k⟩ := k
    obtain ⟨h7, k⟩ := k
    obtain ⟨k1, k2⟩ := k
    refine x_icmp_le (tgt := 33) (pc2 := 26) dX6_lengthBy_23 (by decide) rfl h6 h7 (fun c8 => ?_) (fun c8 => ?_)
    · replace k := k1 c8
      refine x_iinc (pc2 := 36) (ls2 := [aR l0, aI l1, aI (l2 + (m (l0 + 2) l3)), aI (l3 + 1)]) dX6_lengthBy_33 rfl rfl (by decide) rfl ?_
      refine x_goto (tgt := 4) dX6_lengthBy_36 (by decide) ?_
      exact k
    · replace k := k2 c8
      refine x_aload_n (pc2 := 27) dX6_lengthBy_26 rfl rfl ?_
      refine x_getf (pc2 := 30) (v := aR (l0 + 1)) fl_X6_9 (icr_0 Hl0) (vrr_0 _ Hl0) dX6_lengthBy_27 rfl ?_
      refine x_iload_n (pc2 := 31) dX6_lengthBy_30 rfl rfl ?_
      refine x_iald (pc2 := 32) (icr_1 Hl0) h4 (by rw [(alr_1 Hl0)]; exact h5) dX6_lengthBy_31 rfl ?_
      exact x_ireturn dX6_lengthBy_32 ⟨.int, rfl, rfl⟩ k
set_option maxRecDepth 4000 in
theorem g_X6_lookCost_0 {sc : List Int} {d : Nat} {m : Mem} {Q : Option AV → Mem → Prop} {l0 l1 l2 : Int} (Hl0 : RoomAt l0) (k : ((-2147483648 ≤ l1 ∧ l1 < 2147483648)) ∧ ((¬ (l1 ≠ 2)) → (-2147483648 ≤ l2 ∧ l2 < 2147483648)) ∧ Q (some (aI (if l1 ≠ 2 then 0 else (if l2 ≤ 0 then 0 else (m (l0 + 13) 2) : Int) : Int))) m) : S_X6_lookCost sc d 0 [aR l0, aI l1, aI l2] [] m Q := by
  refine x_iload_n (pc2 := 1) dX6_lookCost_0 rfl rfl ?_
  refine x_iconst (pc2 := 2) dX6_lookCost_1 rfl ?_
  obtain ⟨g2, k⟩ := k
  obtain ⟨g4, k⟩ := k
  have kj : S_X6_lookCost sc d 19 [aR l0, aI l1, aI l2] [aI (if l1 ≠ 2 then 0 else (if l2 ≤ 0 then 0 else (m (l0 + 13) 2) : Int) : Int)] m Q := by
    exact x_ireturn dX6_lookCost_19 ⟨.int, rfl, rfl⟩ k
  have h5 := g2 
  refine x_icmp_ne (tgt := 18) (pc2 := 5) dX6_lookCost_2 (by decide) rfl h5 (by decide) (fun c6 => ?_) (fun c6 => ?_)
  · skip
    refine x_iconst (pc2 := 19) dX6_lookCost_18 rfl ?_
    exact x_topI (if_pos c6) kj
  · skip
    refine x_iload_n (pc2 := 6) dX6_lookCost_5 rfl rfl ?_
    have h7 := g4 c6
    refine x_if_le (tgt := 18) (pc2 := 9) dX6_lookCost_6 (by decide) rfl h7 (fun c8 => ?_) (fun c8 => ?_)
    · skip
      refine x_iconst (pc2 := 19) dX6_lookCost_18 rfl ?_
      exact x_topI ((if_neg c6).trans (if_pos c8)) kj
    · skip
      refine x_aload_n (pc2 := 10) dX6_lookCost_9 rfl rfl ?_
      refine x_getf (pc2 := 13) (v := aR (l0 + 13)) fl_X6_46 (icr_0 Hl0) (vrr_13 _ Hl0) dX6_lookCost_10 rfl ?_
      refine x_iconst (pc2 := 14) dX6_lookCost_13 rfl ?_
      refine x_iald (pc2 := 15) (icr_13 Hl0) (by decide) (by rw [(alr_13 Hl0)]; decide) dX6_lookCost_14 rfl ?_
      refine x_goto (tgt := 19) dX6_lookCost_15 (by decide) ?_
      exact x_topI ((if_neg c6).trans (if_neg c8)) kj
set_option maxRecDepth 4000 in
theorem g_X6_wants_0 {sc : List Int} {d : Nat} {m : Mem} {Q : Option AV → Mem → Prop} {l0 l1 l2 l3 : Int} (Hl0 : RoomAt l0) (k : (-2147483648 ≤ l3 ∧ l3 < 2147483648) ∧ ((l3 = 0) → (Q (some (aI 0)) m)) ∧ (¬ (l3 = 0) → ((-2147483648 ≤ l2 ∧ l2 < 2147483648) ∧ ((l2 < 0) → (Q (some (aI 0)) m)) ∧ (¬ (l2 < 0) → ((-2147483648 ≤ (m l0 8) ∧ (m l0 8) < 2147483648) ∧ ((l2 < (m l0 8)) → ((-2147483648 ≤ l1 ∧ l1 < 2147483648) ∧ ((l1 ≠ 1) → ((-2147483648 ≤ (l1 - 4) ∧ (l1 - 4) < 2147483648) ∧ (((l1 - 4) < 0) → (Q (some (aI 0)) m)) ∧ (¬ ((l1 - 4) < 0) → ((-2147483648 ≤ (m l0 11) ∧ (m l0 11) < 2147483648) ∧ (((l1 - 4) < (m l0 11)) → ((0 ≤ l2) ∧ (l2 < 10) ∧ (0 ≤ ((wr (wr (wr m (l0 + 14) 0 (m (l0 + 3) l2)) (l0 + 14) 1 ((wr m (l0 + 14) 0 (m (l0 + 3) l2)) (l0 + 4) l2)) (l0 + 14) 2 l3) l0 8)) ∧ (((wr (wr (wr m (l0 + 14) 0 (m (l0 + 3) l2)) (l0 + 14) 1 ((wr m (l0 + 14) 0 (m (l0 + 3) l2)) (l0 + 4) l2)) (l0 + 14) 2 l3) l0 8) < 11) ∧ (l2 < 11) ∧ S_X6_wants sc d 131 [aR l0, aU, aU, aU, aI (l1 - 4)] [aR l0, aI 5, aR (l0 + 14)] (wr (wr (wr (wr (wr m (l0 + 14) 0 (m (l0 + 3) l2)) (l0 + 14) 1 ((wr m (l0 + 14) 0 (m (l0 + 3) l2)) (l0 + 4) l2)) (l0 + 14) 2 l3) (l0 + 14) 3 (((wr (wr (wr m (l0 + 14) 0 (m (l0 + 3) l2)) (l0 + 14) 1 ((wr m (l0 + 14) 0 (m (l0 + 3) l2)) (l0 + 4) l2)) (l0 + 14) 2 l3) (l0 + 7) ((wr (wr (wr m (l0 + 14) 0 (m (l0 + 3) l2)) (l0 + 14) 1 ((wr m (l0 + 14) 0 (m (l0 + 3) l2)) (l0 + 4) l2)) (l0 + 14) 2 l3) l0 8)) - ((wr (wr (wr m (l0 + 14) 0 (m (l0 + 3) l2)) (l0 + 14) 1 ((wr m (l0 + 14) 0 (m (l0 + 3) l2)) (l0 + 4) l2)) (l0 + 14) 2 l3) (l0 + 7) l2))) (l0 + 14) 4 l2) Q)) ∧ (¬ ((l1 - 4) < (m l0 11)) → (Q (some (aI 0)) m)))))) ∧ (¬ (l1 ≠ 1) → ((0 ≤ l2) ∧ (l2 < 10) ∧ S_X6_wants sc d 32 [aR l0, aU, aU, aU, aU] [aR l0, aI (l3 + (m (l0 + 3) l2))] m Q)))) ∧ (¬ (l2 < (m l0 8)) → (Q (some (aI 0)) m))))))) : S_X6_wants sc d 0 [aR l0, aI l1, aI l2, aI l3, aU] [] m Q := by
  refine x_iload_n (pc2 := 1) dX6_wants_0 rfl rfl ?_
  obtain ⟨h1, k⟩ := k
  obtain ⟨k1, k2⟩ := k
  refine x_if_eq (tgt := 16) (pc2 := 4) dX6_wants_1 (by decide) rfl h1 (fun c2 => ?_) (fun c2 => ?_)
  · replace k := k1 c2
    refine x_iconst (pc2 := 17) dX6_wants_16 rfl ?_
    exact x_ireturn dX6_wants_17 ⟨.boolean, rfl, rfl⟩ k
  · replace k := k2 c2
    refine x_iload_n (pc2 := 5) dX6_wants_4 rfl rfl ?_
    obtain ⟨h3, k⟩ := k
    obtain ⟨k1, k2⟩ := k
    refine x_if_lt (tgt := 16) (pc2 := 8) dX6_wants_5 (by decide) rfl h3 (fun c4 => ?_) (fun c4 => ?_)
    · replace k := k1 c4
      refine x_iconst (pc2 := 17) dX6_wants_16 rfl ?_
      exact x_ireturn dX6_wants_17 ⟨.boolean, rfl, rfl⟩ k
    · replace k := k2 c4
      refine x_iload_n (pc2 := 9) dX6_wants_8 rfl rfl ?_
      refine x_aload_n (pc2 := 10) dX6_wants_9 rfl rfl ?_
      refine x_getf (pc2 := 13) (v := aI (m l0 8)) fl_X6_56 (icr_0 Hl0) (fv_i _ (icr_0 Hl0) rfl) dX6_wants_10 rfl ?_
      obtain ⟨h5, k⟩ := k
      obtain ⟨k1, k2⟩ := k
      refine x_icmp_lt (tgt := 18) (pc2 := 16) dX6_wants_13 (by decide) rfl h3 h5 (fun c6 => ?_) (fun c6 => ?_)
      · replace k := k1 c6
        refine x_iload_n (pc2 := 19) dX6_wants_18 rfl rfl ?_
        refine x_iconst (pc2 := 20) dX6_wants_19 rfl ?_
        obtain ⟨h7, k⟩ := k
        obtain ⟨k1, k2⟩ := k
        refine x_icmp_ne (tgt := 44) (pc2 := 23) dX6_wants_20 (by decide) rfl h7 (by decide) (fun c8 => ?_) (fun c8 => ?_)
        · replace k := k1 c8
          refine x_iload_n (pc2 := 45) dX6_wants_44 rfl rfl ?_
          refine x_iconst (pc2 := 46) dX6_wants_45 rfl ?_
          refine x_isub (pc2 := 47) dX6_wants_46 rfl ?_
          refine x_istore (pc2 := 49) (ls2 := [aR l0, aI l1, aI l2, aI l3, aI (l1 - 4)]) dX6_wants_47 rfl (by decide) rfl ?_
          refine x_iload (pc2 := 51) dX6_wants_49 rfl rfl ?_
          obtain ⟨h9, k⟩ := k
          obtain ⟨k1, k2⟩ := k
          refine x_if_lt (tgt := 63) (pc2 := 54) dX6_wants_51 (by decide) rfl h9 (fun c10 => ?_) (fun c10 => ?_)
          · replace k := k1 c10
            refine x_iconst (pc2 := 64) dX6_wants_63 rfl ?_
            exact x_ireturn dX6_wants_64 ⟨.boolean, rfl, rfl⟩ k
          · replace k := k2 c10
            refine x_iload (pc2 := 56) dX6_wants_54 rfl rfl ?_
            refine x_aload_n (pc2 := 57) dX6_wants_56 rfl rfl ?_
            refine x_getf (pc2 := 60) (v := aI (m l0 11)) fl_X6_59 (icr_0 Hl0) (fv_i _ (icr_0 Hl0) rfl) dX6_wants_57 rfl ?_
            obtain ⟨h11, k⟩ := k
            obtain ⟨k1, k2⟩ := k
            refine x_icmp_lt (tgt := 65) (pc2 := 63) dX6_wants_60 (by decide) rfl h9 h11 (fun c12 => ?_) (fun c12 => ?_)
            · replace k := k1 c12
              refine x_aload_n (pc2 := 66) dX6_wants_65 rfl rfl ?_
              refine x_getf (pc2 := 69) (v := aR (l0 + 14)) fl_X6_49 (icr_0 Hl0) (vrr_14 _ Hl0) dX6_wants_66 rfl ?_
              refine x_iconst (pc2 := 70) dX6_wants_69 rfl ?_
              refine x_aload_n (pc2 := 71) dX6_wants_70 rfl rfl ?_
              refine x_getf (pc2 := 74) (v := aR (l0 + 3)) fl_X6_18 (icr_0 Hl0) (vrr_3 _ Hl0) dX6_wants_71 rfl ?_
              refine x_iload_n (pc2 := 75) dX6_wants_74 rfl rfl ?_
              obtain ⟨h13, k⟩ := k
              obtain ⟨h14, k⟩ := k
              refine x_iald (pc2 := 76) (icr_3 Hl0) h13 (by rw [(alr_3 Hl0)]; exact h14) dX6_wants_75 rfl ?_
              refine x_iast (pc2 := 77) (icr_14 Hl0) (by decide) (by rw [(alr_14 Hl0)]; decide) dX6_wants_76 rfl ?_
              refine x_aload_n (pc2 := 78) dX6_wants_77 rfl rfl ?_
              refine x_getf (pc2 := 81) (v := aR (l0 + 14)) fl_X6_49 (icr_0 Hl0) (vrr_14 _ Hl0) dX6_wants_78 rfl ?_
              refine x_iconst (pc2 := 82) dX6_wants_81 rfl ?_
              refine x_aload_n (pc2 := 83) dX6_wants_82 rfl rfl ?_
              refine x_getf (pc2 := 86) (v := aR (l0 + 4)) fl_X6_21 (icr_0 Hl0) (vrr_4 _ Hl0) dX6_wants_83 rfl ?_
              refine x_iload_n (pc2 := 87) dX6_wants_86 rfl rfl ?_
              refine x_iald (pc2 := 88) (icr_4 Hl0) h13 (by rw [(alr_4 Hl0)]; exact h14) dX6_wants_87 rfl ?_
              refine x_iast (pc2 := 89) (icr_14 Hl0) (by decide) (by rw [(alr_14 Hl0)]; decide) dX6_wants_88 rfl ?_
              refine x_aload_n (pc2 := 90) dX6_wants_89 rfl rfl ?_
              refine x_getf (pc2 := 93) (v := aR (l0 + 14)) fl_X6_49 (icr_0 Hl0) (vrr_14 _ Hl0) dX6_wants_90 rfl ?_
              refine x_iconst (pc2 := 94) dX6_wants_93 rfl ?_
              refine x_iload_n (pc2 := 95) dX6_wants_94 rfl rfl ?_
              refine x_iast (pc2 := 96) (icr_14 Hl0) (by decide) (by rw [(alr_14 Hl0)]; decide) dX6_wants_95 rfl ?_
              refine x_aload_n (pc2 := 97) dX6_wants_96 rfl rfl ?_
              refine x_getf (pc2 := 100) (v := aR (l0 + 14)) fl_X6_49 (icr_0 Hl0) (vrr_14 _ Hl0) dX6_wants_97 rfl ?_
              refine x_iconst (pc2 := 101) dX6_wants_100 rfl ?_
              refine x_aload_n (pc2 := 102) dX6_wants_101 rfl rfl ?_
              refine x_getf (pc2 := 105) (v := aR (l0 + 7)) fl_X6_30 (icr_0 Hl0) (vrr_7 _ Hl0) dX6_wants_102 rfl ?_
              refine x_aload_n (pc2 := 106) dX6_wants_105 rfl rfl ?_
              refine x_getf (pc2 := 109) (v := aI ((wr (wr (wr m (l0 + 14) 0 (m (l0 + 3) l2)) (l0 + 14) 1 ((wr m (l0 + 14) 0 (m (l0 + 3) l2)) (l0 + 4) l2)) (l0 + 14) 2 l3) l0 8)) fl_X6_56 (icr_0 Hl0) (fv_i _ (icr_0 Hl0) rfl) dX6_wants_106 rfl ?_
              obtain ⟨h15, k⟩ := k
              obtain ⟨h16, k⟩ := k
              refine x_iald (pc2 := 110) (icr_7 Hl0) h15 (by rw [(alr_7 Hl0)]; exact h16) dX6_wants_109 rfl ?_
              refine x_aload_n (pc2 := 111) dX6_wants_110 rfl rfl ?_
              refine x_getf (pc2 := 114) (v := aR (l0 + 7)) fl_X6_30 (icr_0 Hl0) (vrr_7 _ Hl0) dX6_wants_111 rfl ?_
              refine x_iload_n (pc2 := 115) dX6_wants_114 rfl rfl ?_
              obtain ⟨h17, k⟩ := k
              refine x_iald (pc2 := 116) (icr_7 Hl0) h13 (by rw [(alr_7 Hl0)]; exact h17) dX6_wants_115 rfl ?_
              refine x_isub (pc2 := 117) dX6_wants_116 rfl ?_
              refine x_iast (pc2 := 118) (icr_14 Hl0) (by decide) (by rw [(alr_14 Hl0)]; decide) dX6_wants_117 rfl ?_
              refine x_aload_n (pc2 := 119) dX6_wants_118 rfl rfl ?_
              refine x_getf (pc2 := 122) (v := aR (l0 + 14)) fl_X6_49 (icr_0 Hl0) (vrr_14 _ Hl0) dX6_wants_119 rfl ?_
              refine x_iconst (pc2 := 123) dX6_wants_122 rfl ?_
              refine x_iload_n (pc2 := 124) dX6_wants_123 rfl rfl ?_
              refine x_iast (pc2 := 125) (icr_14 Hl0) (by decide) (by rw [(alr_14 Hl0)]; decide) dX6_wants_124 rfl ?_
              refine x_aload_n (pc2 := 126) dX6_wants_125 rfl rfl ?_
              refine x_getf (pc2 := 129) (v := aR (l0 + 14)) fl_X6_49 (icr_0 Hl0) (vrr_14 _ Hl0) dX6_wants_126 rfl ?_
              refine x_iconst (pc2 := 130) dX6_wants_129 rfl ?_
              refine x_aload_n (pc2 := 131) dX6_wants_130 rfl rfl ?_
              exact x_drop (drp_k (drp_u (drp_u (drp_u (drp_k drp_n))))) k
            · replace k := k2 c12
              refine x_iconst (pc2 := 64) dX6_wants_63 rfl ?_
              exact x_ireturn dX6_wants_64 ⟨.boolean, rfl, rfl⟩ k
        · replace k := k2 c8
          refine x_iload_n (pc2 := 24) dX6_wants_23 rfl rfl ?_
          refine x_aload_n (pc2 := 25) dX6_wants_24 rfl rfl ?_
          refine x_getf (pc2 := 28) (v := aR (l0 + 3)) fl_X6_18 (icr_0 Hl0) (vrr_3 _ Hl0) dX6_wants_25 rfl ?_
          refine x_iload_n (pc2 := 29) dX6_wants_28 rfl rfl ?_
          obtain ⟨h18, k⟩ := k
          obtain ⟨h19, k⟩ := k
          refine x_iald (pc2 := 30) (icr_3 Hl0) h18 (by rw [(alr_3 Hl0)]; exact h19) dX6_wants_29 rfl ?_
          refine x_iadd (pc2 := 31) dX6_wants_30 rfl ?_
          refine x_aload_n (pc2 := 32) dX6_wants_31 rfl rfl ?_
          exact x_drop (drp_k (drp_u (drp_u (drp_u (drp_k drp_n))))) k
      · replace k := k2 c6
        refine x_iconst (pc2 := 17) dX6_wants_16 rfl ?_
        exact x_ireturn dX6_wants_17 ⟨.boolean, rfl, rfl⟩ k
set_option maxRecDepth 4000 in
theorem g_X6_wants_35 {sc : List Int} {d : Nat} {m : Mem} {Q : Option AV → Mem → Prop} {l0 s0 s1 : Int} (Hl0 : RoomAt l0) (k : ((-2147483648 ≤ s0 ∧ s0 < 2147483648)) ∧ ((-2147483648 ≤ s1 ∧ s1 < 2147483648)) ∧ Q (some (aI (if s0 ≤ s1 then 0 else 1 : Int))) m) : S_X6_wants sc d 35 [aR l0, aU, aU, aU, aU] [aI s1, aI s0] m Q := by
  obtain ⟨g3, k⟩ := k
  obtain ⟨g4, k⟩ := k
  have kj : S_X6_wants sc d 43 [aR l0, aU, aU, aU, aU] [aI (if s0 ≤ s1 then 0 else 1 : Int)] m Q := by
    exact x_ireturn dX6_wants_43 (ret_z (by repeat (first | exact Or.inl rfl | exact Or.inr rfl | split))) k
  have h5 := g3 
  have h6 := g4 
  refine x_icmp_le (tgt := 42) (pc2 := 38) dX6_wants_35 (by decide) rfl h5 h6 (fun c7 => ?_) (fun c7 => ?_)
  · skip
    refine x_iconst (pc2 := 43) dX6_wants_42 rfl ?_
    exact x_topI (if_pos c7) kj
  · skip
    refine x_iconst (pc2 := 39) dX6_wants_38 rfl ?_
    refine x_goto (tgt := 43) dX6_wants_39 (by decide) ?_
    exact x_topI (if_neg c7) kj
set_option maxRecDepth 4000 in
theorem g_X6_wants_134 {sc : List Int} {d : Nat} {m : Mem} {Q : Option AV → Mem → Prop} {l0 l4 s0 s1 s2 : Int} (Hl0 : RoomAt l0) (Hs0 : IsC s0 100) (k : (0 ≤ s1) ∧ (s1 < alen s0) ∧ S_X6_wants sc d 142 [aR l0, aU, aU, aU, aI l4] [aR l0, aI 6, aR (l0 + 14)] (wr m s0 s1 s2) Q) : S_X6_wants sc d 134 [aR l0, aU, aU, aU, aI l4] [aI s2, aI s1, aR s0] m Q := by
  obtain ⟨h1, k⟩ := k
  obtain ⟨h2, k⟩ := k
  refine x_iast (pc2 := 135) Hs0 h1 h2 dX6_wants_134 rfl ?_
  refine x_aload_n (pc2 := 136) dX6_wants_135 rfl rfl ?_
  refine x_getf (pc2 := 139) (v := aR (l0 + 14)) fl_X6_49 (icr_0 Hl0) (vrr_14 _ Hl0) dX6_wants_136 rfl ?_
  refine x_bipush (pc2 := 141) dX6_wants_139 rfl rfl ?_
  refine x_aload_n (pc2 := 142) dX6_wants_141 rfl rfl ?_
  exact k
set_option maxRecDepth 4000 in
theorem g_X6_wants_145 {sc : List Int} {d : Nat} {m : Mem} {Q : Option AV → Mem → Prop} {l0 l4 s0 s1 s2 : Int} (Hl0 : RoomAt l0) (Hs0 : IsC s0 100) (k : (0 ≤ s1) ∧ (s1 < alen s0) ∧ (0 ≤ l4) ∧ (l4 < 5) ∧ (0 ≤ (l4 + 1)) ∧ ((l4 + 1) < 5) ∧ S_X6_wants sc d 171 [aR l0, aU, aU, aU, aU] [aR l0, aR (l0 + 14), aI ((wr m s0 s1 s2) (l0 + 11) (l4 + 1)), aI ((wr m s0 s1 s2) (l0 + 11) l4), aR (l0 + 8)] (wr m s0 s1 s2) Q) : S_X6_wants sc d 145 [aR l0, aU, aU, aU, aI l4] [aI s2, aI s1, aR s0] m Q := by
  obtain ⟨h1, k⟩ := k
  obtain ⟨h2, k⟩ := k
  refine x_iast (pc2 := 146) Hs0 h1 h2 dX6_wants_145 rfl ?_
  refine x_aload_n (pc2 := 147) dX6_wants_146 rfl rfl ?_
  refine x_getf (pc2 := 150) (v := aR (l0 + 8)) fl_X6_36 (icr_0 Hl0) (vrr_9 _ Hl0) dX6_wants_147 rfl ?_
  refine x_aload_n (pc2 := 151) dX6_wants_150 rfl rfl ?_
  refine x_getf (pc2 := 154) (v := aR (l0 + 11)) fl_X6_40 (icr_0 Hl0) (vrr_10 _ Hl0) dX6_wants_151 rfl ?_
  refine x_iload (pc2 := 156) dX6_wants_154 rfl rfl ?_
  obtain ⟨h3, k⟩ := k
  obtain ⟨h4, k⟩ := k
  refine x_iald (pc2 := 157) (icr_11 Hl0) h3 (by rw [(alr_11 Hl0)]; exact h4) dX6_wants_156 rfl ?_
  refine x_aload_n (pc2 := 158) dX6_wants_157 rfl rfl ?_
  refine x_getf (pc2 := 161) (v := aR (l0 + 11)) fl_X6_40 (icr_0 Hl0) (vrr_10 _ Hl0) dX6_wants_158 rfl ?_
  refine x_iload (pc2 := 163) dX6_wants_161 rfl rfl ?_
  refine x_iconst (pc2 := 164) dX6_wants_163 rfl ?_
  refine x_iadd (pc2 := 165) dX6_wants_164 rfl ?_
  obtain ⟨h5, k⟩ := k
  obtain ⟨h6, k⟩ := k
  refine x_iald (pc2 := 166) (icr_11 Hl0) h5 (by rw [(alr_11 Hl0)]; exact h6) dX6_wants_165 rfl ?_
  refine x_aload_n (pc2 := 167) dX6_wants_166 rfl rfl ?_
  refine x_getf (pc2 := 170) (v := aR (l0 + 14)) fl_X6_49 (icr_0 Hl0) (vrr_14 _ Hl0) dX6_wants_167 rfl ?_
  refine x_aload_n (pc2 := 171) dX6_wants_170 rfl rfl ?_
  exact x_drop (drp_k (drp_k (drp_k (drp_k (drp_u drp_n))))) k
set_option maxRecDepth 4000 in
theorem g_X6_wants_174 {sc : List Int} {d : Nat} {m : Mem} {Q : Option AV → Mem → Prop} {l0 s0 : Int} (Hl0 : RoomAt l0) (k : ((-2147483648 ≤ s0 ∧ s0 < 2147483648)) ∧ Q (some (aI (if s0 = 0 then 0 else 1 : Int))) m) : S_X6_wants sc d 174 [aR l0, aU, aU, aU, aU] [aI s0] m Q := by
  obtain ⟨g2, k⟩ := k
  have kj : S_X6_wants sc d 182 [aR l0, aU, aU, aU, aU] [aI (if s0 = 0 then 0 else 1 : Int)] m Q := by
    exact x_ireturn dX6_wants_182 (ret_z (by repeat (first | exact Or.inl rfl | exact Or.inr rfl | split))) k
  have h3 := g2 
  refine x_if_eq (tgt := 181) (pc2 := 177) dX6_wants_174 (by decide) rfl h3 (fun c4 => ?_) (fun c4 => ?_)
  · skip
    refine x_iconst (pc2 := 182) dX6_wants_181 rfl ?_
    exact x_topI (if_pos c4) kj
  · skip
    refine x_iconst (pc2 := 178) dX6_wants_177 rfl ?_
    refine x_goto (tgt := 182) dX6_wants_178 (by decide) ?_
    exact x_topI (if_neg c4) kj
theorem c_X6_wants_32 {sc : List Int} {d d2 : Nat} {m m2 : Mem} {Q : Option AV → Mem → Prop} {l0 s0 s1 : Int} {v : Int} (Hl0 : RoomAt l0) (Hs1 : RoomAt s1) (hM : C_X6_leastLength sc d2 [aR s1] m (some (aI v)) m2) (hd : d2 + 1 ≤ d) (k : S_X6_wants sc d 35 [aR l0, aU, aU, aU, aU] [aI v, aI s0] m2 Q) : S_X6_wants sc d 32 [aR l0, aU, aU, aU, aU] [aR s1, aI s0] m Q := x_callV (as := []) (rest := [aI s0]) hM mk_X6_leastLength mv_X6_leastLength lk_X6_90 (Or.inl ⟨6, (RX6, TX6, 16), icr_0 Hs1, Nat.le_of_ble_eq_true rfl, rfl, rfl⟩) hd rfl rfl (Nat.le_of_ble_eq_true rfl) dX6_wants_32 rfl k
theorem c_X6_wants_131 {sc : List Int} {d d2 : Nat} {m m2 : Mem} {Q : Option AV → Mem → Prop} {l0 l4 s0 s1 s2 : Int} {v : Int} (Hl0 : RoomAt l0) (Hs0 : IsC s0 100) (Hs2 : RoomAt s2) (hM : C_X6_leastLength sc d2 [aR s2] m (some (aI v)) m2) (hd : d2 + 1 ≤ d) (k : S_X6_wants sc d 134 [aR l0, aU, aU, aU, aI l4] [aI v, aI s1, aR s0] m2 Q) : S_X6_wants sc d 131 [aR l0, aU, aU, aU, aI l4] [aR s2, aI s1, aR s0] m Q := x_callV (as := []) (rest := [aI s1, aR s0]) hM mk_X6_leastLength mv_X6_leastLength lk_X6_90 (Or.inl ⟨6, (RX6, TX6, 16), icr_0 Hs2, Nat.le_of_ble_eq_true rfl, rfl, rfl⟩) hd rfl rfl (Nat.le_of_ble_eq_true rfl) dX6_wants_131 rfl k
theorem c_X6_wants_142 {sc : List Int} {d d2 : Nat} {m m2 : Mem} {Q : Option AV → Mem → Prop} {l0 l4 s0 s1 s2 : Int} {v : Int} (Hl0 : RoomAt l0) (Hs0 : IsC s0 100) (Hs2 : RoomAt s2) (hM : C_X6_greatestLength sc d2 [aR s2] m (some (aI v)) m2) (hd : d2 + 1 ≤ d) (k : S_X6_wants sc d 145 [aR l0, aU, aU, aU, aI l4] [aI v, aI s1, aR s0] m2 Q) : S_X6_wants sc d 142 [aR l0, aU, aU, aU, aI l4] [aR s2, aI s1, aR s0] m Q := x_callV (as := []) (rest := [aI s1, aR s0]) hM mk_X6_greatestLength mv_X6_greatestLength lk_X6_94 (Or.inl ⟨6, (RX6, TX6, 16), icr_0 Hs2, Nat.le_of_ble_eq_true rfl, rfl, rfl⟩) hd rfl rfl (Nat.le_of_ble_eq_true rfl) dX6_wants_142 rfl k
theorem c_X6_wants_171 {sc : List Int} {d d2 : Nat} {m m2 : Mem} {Q : Option AV → Mem → Prop} {l0 s0 s1 s2 s3 s4 : Int} {v : Int} (Hl0 : RoomAt l0) (Hs0 : FormAt s0) (Hs3 : IsC s3 100) (Hs4 : RoomAt s4) (hM : C_X3_worth sc d2 [aR s0, aI s1, aI s2, aR s3, aR s4] m (some (aI v)) m2) (hd : d2 + 1 ≤ d) (k : S_X6_wants sc d 174 [aR l0, aU, aU, aU, aU] [aI v] m2 Q) : S_X6_wants sc d 171 [aR l0, aU, aU, aU, aU] [aR s4, aR s3, aI s2, aI s1, aR s0] m Q := x_callV (as := [aI s1, aI s2, aR s3, aR s4]) (rest := []) hM mk_X3_worth mv_X3_worth lk_X6_97 (Or.inl ⟨3, (RX3, TX3, 3), icf_0 Hs0, Nat.le_of_ble_eq_true rfl, rfl, rfl⟩) hd rfl rfl (Nat.le_of_ble_eq_true rfl) dX6_wants_171 rfl k
set_option maxRecDepth 4000 in
theorem g_X3_put_0 {sc : List Int} {d : Nat} {m : Mem} {Q : Option AV → Mem → Prop} {l0 l1 : Int} (Hl0 : FormAt l0) (k : (-2147483648 ≤ (m l0 2) ∧ (m l0 2) < 2147483648) ∧ ((1600 ≤ (m l0 2)) → (Q none m)) ∧ (¬ (1600 ≤ (m l0 2)) → ((0 ≤ (m l0 2)) ∧ ((m l0 2) < 1600) ∧ Q none (wr (wr m (l0 + 1) (m l0 2) l1) l0 2 (((wr m (l0 + 1) (m l0 2) l1) l0 2) + 1))))) : S_X3_put sc d 0 [aR l0, aI l1] [] m Q := by
  refine x_aload_n (pc2 := 1) dX3_put_0 rfl rfl ?_
  refine x_getf (pc2 := 4) (v := aI (m l0 2)) fl_X3_18 (icf_0 Hl0) (fv_i _ (icf_0 Hl0) rfl) dX3_put_1 rfl ?_
  refine x_aload_n (pc2 := 5) dX3_put_4 rfl rfl ?_
  refine x_getf (pc2 := 8) (v := aR (l0 + 1)) fl_X3_9 (icf_0 Hl0) (vrf_0 _ Hl0) dX3_put_5 rfl ?_
  refine x_alenK (pc2 := 9) (n := 1600) (Or.inl (icf_1 Hl0)) (alf_1 Hl0) dX3_put_8 rfl ?_
  obtain ⟨h1, k⟩ := k
  obtain ⟨k1, k2⟩ := k
  refine x_icmp_ge (tgt := 32) (pc2 := 12) dX3_put_9 (by decide) rfl h1 (by decide) (fun c2 => ?_) (fun c2 => ?_)
  · replace k := k1 c2
    exact x_return dX3_put_32 rfl k
  · replace k := k2 c2
    refine x_aload_n (pc2 := 13) dX3_put_12 rfl rfl ?_
    refine x_getf (pc2 := 16) (v := aR (l0 + 1)) fl_X3_9 (icf_0 Hl0) (vrf_0 _ Hl0) dX3_put_13 rfl ?_
    refine x_aload_n (pc2 := 17) dX3_put_16 rfl rfl ?_
    refine x_getf (pc2 := 20) (v := aI (m l0 2)) fl_X3_18 (icf_0 Hl0) (fv_i _ (icf_0 Hl0) rfl) dX3_put_17 rfl ?_
    refine x_iload_n (pc2 := 21) dX3_put_20 rfl rfl ?_
    obtain ⟨h3, k⟩ := k
    obtain ⟨h4, k⟩ := k
    refine x_iast (pc2 := 22) (icf_1 Hl0) h3 (by rw [(alf_1 Hl0)]; exact h4) dX3_put_21 rfl ?_
    refine x_aload_n (pc2 := 23) dX3_put_22 rfl rfl ?_
    refine x_dup_r (pc2 := 24) dX3_put_23 rfl ((icf_0 Hl0)).1 ?_
    refine x_getf (pc2 := 27) (v := aI ((wr m (l0 + 1) (m l0 2) l1) l0 2)) fl_X3_18 (icf_0 Hl0) (fv_i _ (icf_0 Hl0) rfl) dX3_put_24 rfl ?_
    refine x_iconst (pc2 := 28) dX3_put_27 rfl ?_
    refine x_iadd (pc2 := 29) dX3_put_28 rfl ?_
    refine x_putf (pc2 := 32) (x := (((wr m (l0 + 1) (m l0 2) l1) l0 2) + 1)) fl_X3_18 ft_3_2 (icf_0 Hl0) (pv_i _ (icf_0 Hl0) rfl) (pn_i _) dX3_put_29 rfl ?_
    exact x_return dX3_put_32 rfl k
set_option maxRecDepth 4000 in
theorem g_X3_worth_0 {sc : List Int} {d : Nat} {m : Mem} {Q : Option AV → Mem → Prop} {l0 l1 l2 l3 l4 : Int} (Hl0 : FormAt l0) (Hl3 : IsC l3 100) (Hl4 : RoomAt l4) (k : S_X3_worth sc d 5 [aR l0, aU, aI l2, aR l3, aR l4, aI 0, aU, aU, aU, aU, aU, aU, aU, aU] [aI l1, aI 0] m Q) : S_X3_worth sc d 0 [aR l0, aI l1, aI l2, aR l3, aR l4, aU, aU, aU, aU, aU, aU, aU, aU, aU] [] m Q := by
  refine x_iconst (pc2 := 1) dX3_worth_0 rfl ?_
  refine x_istore (pc2 := 3) (ls2 := [aR l0, aI l1, aI l2, aR l3, aR l4, aI 0, aU, aU, aU, aU, aU, aU, aU, aU]) dX3_worth_1 rfl (by decide) rfl ?_
  refine x_iconst (pc2 := 4) dX3_worth_3 rfl ?_
  refine x_iload_n (pc2 := 5) dX3_worth_4 rfl rfl ?_
  exact x_drop (drp_k (drp_u (drp_k (drp_k (drp_k (drp_k (drp_k (drp_k (drp_k (drp_k (drp_k (drp_k (drp_k (drp_k drp_n)))))))))))))) k
set_option maxRecDepth 4000 in
theorem g_X3_worth_8 {sc : List Int} {d : Nat} {m : Mem} {Q : Option AV → Mem → Prop} {l0 l2 l3 l4 l5 s0 : Int} (Hl0 : FormAt l0) (Hl3 : IsC l3 100) (Hl4 : RoomAt l4) (k : S_X3_worth sc d 10 [aR l0, aU, aI l2, aR l3, aR l4, aI l5, aI s0, aU, aU, aU, aU, aU, aU, aU] [] m Q) : S_X3_worth sc d 8 [aR l0, aU, aI l2, aR l3, aR l4, aI l5, aU, aU, aU, aU, aU, aU, aU, aU] [aI s0] m Q := by
  refine x_istore (pc2 := 10) (ls2 := [aR l0, aU, aI l2, aR l3, aR l4, aI l5, aI s0, aU, aU, aU, aU, aU, aU, aU]) dX3_worth_8 rfl (by decide) rfl ?_
  exact k
set_option maxRecDepth 4000 in
theorem g_X3_worth_10 {sc : List Int} {d : Nat} {m : Mem} {Q : Option AV → Mem → Prop} {l0 l2 l3 l4 l5 l6 : Int} (Hl0 : FormAt l0) (Hl3 : IsC l3 100) (Hl4 : RoomAt l4) (k : (-2147483648 ≤ l6 ∧ l6 < 2147483648) ∧ (-2147483648 ≤ l2 ∧ l2 < 2147483648) ∧ ((l2 ≤ l6) → (((-2147483648 ≤ l5 ∧ l5 < 2147483648)) ∧ ((¬ (l5 ≤ 0)) → (0 ≤ (l5 - 1))) ∧ ((¬ (l5 ≤ 0)) → ((l5 - 1) < 64)) ∧ Q (some (aI (if l5 ≤ 0 then 0 else (m (l0 + 2) (l5 - 1)) : Int))) m)) ∧ (¬ (l2 ≤ l6) → (((1600 ≤ l6) → (((-2147483648 ≤ l5 ∧ l5 < 2147483648)) ∧ ((¬ (l5 ≤ 0)) → (0 ≤ (l5 - 1))) ∧ ((¬ (l5 ≤ 0)) → ((l5 - 1) < 64)) ∧ Q (some (aI (if l5 ≤ 0 then 0 else (m (l0 + 2) (l5 - 1)) : Int))) m)) ∧ (¬ (1600 ≤ l6) → ((0 ≤ l6) ∧ (l6 < 1600) ∧ ((-2147483648 ≤ (m (l0 + 1) l6) ∧ (m (l0 + 1) l6) < 2147483648)) ∧ ((-2147483648 ≤ (m (l0 + 1) l6) ∧ (m (l0 + 1) l6) < 2147483648)) ∧ (-2147483648 ≤ (if (-13) < (m (l0 + 1) l6) then 0 else 1 : Int) ∧ (if (-13) < (m (l0 + 1) l6) then 0 else 1 : Int) < 2147483648) ∧ (((if (-13) < (m (l0 + 1) l6) then 0 else 1 : Int) ≠ 0) → ((-2147483648 ≤ l5 ∧ l5 < 2147483648) ∧ ((l5 ≤ 0) → ((((if (-13) < (m (l0 + 1) l6) then 0 else 1 : Int) = 0) → (((l5 < 64) → ((((if (-13) < (m (l0 + 1) l6) then 0 else 1 : Int) = 0) → ((-2147483648 ≤ (if (m (l0 + 1) l6) = (-11) then 1 else (if (m (l0 + 1) l6) ≠ (-12) then 0 else 1 : Int) : Int) ∧ (if (m (l0 + 1) l6) = (-11) then 1 else (if (m (l0 + 1) l6) ≠ (-12) then 0 else 1 : Int) : Int) < 2147483648) ∧ (((if (m (l0 + 1) l6) = (-11) then 1 else (if (m (l0 + 1) l6) ≠ (-12) then 0 else 1 : Int) : Int) = 0) → (((-2147483648 ≤ (m (l0 + 1) l6) ∧ (m (l0 + 1) l6) < 2147483648)) ∧ (((m (l0 + 1) l6) < 0) → (-2147483648 ≤ ((-1) - (m (l0 + 1) l6)) ∧ ((-1) - (m (l0 + 1) l6)) < 2147483648)) ∧ (((m (l0 + 1) l6) < 0) → (-2147483648 ≤ (alen l3) ∧ (alen l3) < 2147483648)) ∧ (((m (l0 + 1) l6) < 0) → (¬ ((alen l3) ≤ ((-1) - (m (l0 + 1) l6)))) → (0 ≤ ((-1) - (m (l0 + 1) l6)))) ∧ (((m (l0 + 1) l6) < 0) → (¬ ((alen l3) ≤ ((-1) - (m (l0 + 1) l6)))) → (((-1) - (m (l0 + 1) l6)) < alen l3)) ∧ (0 ≤ l5) ∧ (l5 < 64) ∧ S_X3_worth sc d 10 [aR l0, aU, aI l2, aR l3, aR l4, aI (l5 + 1), aI (l6 + 1), aU, aU, aU, aU, aU, aU, aU] [] (wr m (l0 + 2) l5 (if (m (l0 + 1) l6) < 0 then (if (alen l3) ≤ ((-1) - (m (l0 + 1) l6)) then 0 else (m l3 ((-1) - (m (l0 + 1) l6))) : Int) else (m (l0 + 1) l6) : Int)) Q)) ∧ (¬ ((if (m (l0 + 1) l6) = (-11) then 1 else (if (m (l0 + 1) l6) ≠ (-12) then 0 else 1 : Int) : Int) = 0) → (S_X3_worth sc d 199 [aR l0, aU, aI l2, aR l3, aR l4, aI l5, aI l6, aU, aU, aU, aU, aU, aU, aU] [aR l4, aI 0, aI (m (l0 + 1) l6), aI l5, aR (l0 + 2)] m Q)))) ∧ (¬ ((if (-13) < (m (l0 + 1) l6) then 0 else 1 : Int) = 0) → (S_X3_worth sc d 152 [aR l0, aU, aI l2, aR l3, aR l4, aI l5, aI l6, aU, aU, aU, aU, aU, aU, aU] [aJ 0, aJ 0, aI (m (l0 + 1) l6)] m Q)))) ∧ (¬ (l5 < 64) → (Q (some (aI 0)) m)))) ∧ (¬ ((if (-13) < (m (l0 + 1) l6) then 0 else 1 : Int) = 0) → (((l5 ≤ 0) → (((l5 < 64) → ((((if (-13) < (m (l0 + 1) l6) then 0 else 1 : Int) = 0) → ((-2147483648 ≤ (if (m (l0 + 1) l6) = (-11) then 1 else (if (m (l0 + 1) l6) ≠ (-12) then 0 else 1 : Int) : Int) ∧ (if (m (l0 + 1) l6) = (-11) then 1 else (if (m (l0 + 1) l6) ≠ (-12) then 0 else 1 : Int) : Int) < 2147483648) ∧ (((if (m (l0 + 1) l6) = (-11) then 1 else (if (m (l0 + 1) l6) ≠ (-12) then 0 else 1 : Int) : Int) = 0) → (((-2147483648 ≤ (m (l0 + 1) l6) ∧ (m (l0 + 1) l6) < 2147483648)) ∧ (((m (l0 + 1) l6) < 0) → (-2147483648 ≤ ((-1) - (m (l0 + 1) l6)) ∧ ((-1) - (m (l0 + 1) l6)) < 2147483648)) ∧ (((m (l0 + 1) l6) < 0) → (-2147483648 ≤ (alen l3) ∧ (alen l3) < 2147483648)) ∧ (((m (l0 + 1) l6) < 0) → (¬ ((alen l3) ≤ ((-1) - (m (l0 + 1) l6)))) → (0 ≤ ((-1) - (m (l0 + 1) l6)))) ∧ (((m (l0 + 1) l6) < 0) → (¬ ((alen l3) ≤ ((-1) - (m (l0 + 1) l6)))) → (((-1) - (m (l0 + 1) l6)) < alen l3)) ∧ (0 ≤ l5) ∧ (l5 < 64) ∧ S_X3_worth sc d 10 [aR l0, aU, aI l2, aR l3, aR l4, aI (l5 + 1), aI (l6 + 1), aU, aU, aU, aU, aU, aU, aU] [] (wr m (l0 + 2) l5 (if (m (l0 + 1) l6) < 0 then (if (alen l3) ≤ ((-1) - (m (l0 + 1) l6)) then 0 else (m l3 ((-1) - (m (l0 + 1) l6))) : Int) else (m (l0 + 1) l6) : Int)) Q)) ∧ (¬ ((if (m (l0 + 1) l6) = (-11) then 1 else (if (m (l0 + 1) l6) ≠ (-12) then 0 else 1 : Int) : Int) = 0) → (S_X3_worth sc d 199 [aR l0, aU, aI l2, aR l3, aR l4, aI l5, aI l6, aU, aU, aU, aU, aU, aU, aU] [aR l4, aI 0, aI (m (l0 + 1) l6), aI l5, aR (l0 + 2)] m Q)))) ∧ (¬ ((if (-13) < (m (l0 + 1) l6) then 0 else 1 : Int) = 0) → (S_X3_worth sc d 152 [aR l0, aU, aI l2, aR l3, aR l4, aI l5, aI l6, aU, aU, aU, aU, aU, aU, aU] [aJ 0, aJ 0, aI (m (l0 + 1) l6)] m Q)))) ∧ (¬ (l5 < 64) → (Q (some (aI 0)) m)))) ∧ (¬ (l5 ≤ 0) → ((0 ≤ (l5 + (-1))) ∧ ((l5 + (-1)) < 64) ∧ (-2147483648 ≤ (l5 + (-1)) ∧ (l5 + (-1)) < 2147483648) ∧ (((l5 + (-1)) < 64) → ((((if (-13) < (m (l0 + 1) l6) then 0 else 1 : Int) = 0) → ((-2147483648 ≤ (if (m (l0 + 1) l6) = (-11) then 1 else (if (m (l0 + 1) l6) ≠ (-12) then 0 else 1 : Int) : Int) ∧ (if (m (l0 + 1) l6) = (-11) then 1 else (if (m (l0 + 1) l6) ≠ (-12) then 0 else 1 : Int) : Int) < 2147483648) ∧ (((if (m (l0 + 1) l6) = (-11) then 1 else (if (m (l0 + 1) l6) ≠ (-12) then 0 else 1 : Int) : Int) = 0) → (((-2147483648 ≤ (m (l0 + 1) l6) ∧ (m (l0 + 1) l6) < 2147483648)) ∧ (((m (l0 + 1) l6) < 0) → (-2147483648 ≤ ((-1) - (m (l0 + 1) l6)) ∧ ((-1) - (m (l0 + 1) l6)) < 2147483648)) ∧ (((m (l0 + 1) l6) < 0) → (-2147483648 ≤ (alen l3) ∧ (alen l3) < 2147483648)) ∧ (((m (l0 + 1) l6) < 0) → (¬ ((alen l3) ≤ ((-1) - (m (l0 + 1) l6)))) → (0 ≤ ((-1) - (m (l0 + 1) l6)))) ∧ (((m (l0 + 1) l6) < 0) → (¬ ((alen l3) ≤ ((-1) - (m (l0 + 1) l6)))) → (((-1) - (m (l0 + 1) l6)) < alen l3)) ∧ S_X3_worth sc d 10 [aR l0, aU, aI l2, aR l3, aR l4, aI ((l5 + (-1)) + 1), aI (l6 + 1), aU, aU, aU, aU, aU, aU, aU] [] (wr m (l0 + 2) (l5 + (-1)) (if (m (l0 + 1) l6) < 0 then (if (alen l3) ≤ ((-1) - (m (l0 + 1) l6)) then 0 else (m l3 ((-1) - (m (l0 + 1) l6))) : Int) else (m (l0 + 1) l6) : Int)) Q)) ∧ (¬ ((if (m (l0 + 1) l6) = (-11) then 1 else (if (m (l0 + 1) l6) ≠ (-12) then 0 else 1 : Int) : Int) = 0) → (S_X3_worth sc d 199 [aR l0, aU, aI l2, aR l3, aR l4, aI (l5 + (-1)), aI l6, aU, aU, aU, aU, aU, aU, aU] [aR l4, aI 0, aI (m (l0 + 1) l6), aI (l5 + (-1)), aR (l0 + 2)] m Q)))) ∧ (¬ ((if (-13) < (m (l0 + 1) l6) then 0 else 1 : Int) = 0) → ((-2147483648 ≤ (m (l0 + 2) (l5 + (-1))) ∧ (m (l0 + 2) (l5 + (-1))) < 2147483648) ∧ S_X3_worth sc d 152 [aR l0, aU, aI l2, aR l3, aR l4, aI (l5 + (-1)), aI l6, aU, aU, aU, aU, aU, aU, aU] [aJ 0, aJ (m (l0 + 2) (l5 + (-1))), aI (m (l0 + 1) l6)] m Q)))) ∧ (¬ ((l5 + (-1)) < 64) → (Q (some (aI 0)) m)))))))) ∧ (¬ (l5 ≤ 0) → ((0 ≤ (l5 + (-1))) ∧ ((l5 + (-1)) < 64) ∧ (((if (-13) < (m (l0 + 1) l6) then 0 else 1 : Int) = 0) → ((-2147483648 ≤ (l5 + (-1)) ∧ (l5 + (-1)) < 2147483648) ∧ (((l5 + (-1)) < 64) → ((((if (-13) < (m (l0 + 1) l6) then 0 else 1 : Int) = 0) → ((-2147483648 ≤ (if (m (l0 + 1) l6) = (-11) then 1 else (if (m (l0 + 1) l6) ≠ (-12) then 0 else 1 : Int) : Int) ∧ (if (m (l0 + 1) l6) = (-11) then 1 else (if (m (l0 + 1) l6) ≠ (-12) then 0 else 1 : Int) : Int) < 2147483648) ∧ (((if (m (l0 + 1) l6) = (-11) then 1 else (if (m (l0 + 1) l6) ≠ (-12) then 0 else 1 : Int) : Int) = 0) → (((-2147483648 ≤ (m (l0 + 1) l6) ∧ (m (l0 + 1) l6) < 2147483648)) ∧ (((m (l0 + 1) l6) < 0) → (-2147483648 ≤ ((-1) - (m (l0 + 1) l6)) ∧ ((-1) - (m (l0 + 1) l6)) < 2147483648)) ∧ (((m (l0 + 1) l6) < 0) → (-2147483648 ≤ (alen l3) ∧ (alen l3) < 2147483648)) ∧ (((m (l0 + 1) l6) < 0) → (¬ ((alen l3) ≤ ((-1) - (m (l0 + 1) l6)))) → (0 ≤ ((-1) - (m (l0 + 1) l6)))) ∧ (((m (l0 + 1) l6) < 0) → (¬ ((alen l3) ≤ ((-1) - (m (l0 + 1) l6)))) → (((-1) - (m (l0 + 1) l6)) < alen l3)) ∧ S_X3_worth sc d 10 [aR l0, aU, aI l2, aR l3, aR l4, aI ((l5 + (-1)) + 1), aI (l6 + 1), aU, aU, aU, aU, aU, aU, aU] [] (wr m (l0 + 2) (l5 + (-1)) (if (m (l0 + 1) l6) < 0 then (if (alen l3) ≤ ((-1) - (m (l0 + 1) l6)) then 0 else (m l3 ((-1) - (m (l0 + 1) l6))) : Int) else (m (l0 + 1) l6) : Int)) Q)) ∧ (¬ ((if (m (l0 + 1) l6) = (-11) then 1 else (if (m (l0 + 1) l6) ≠ (-12) then 0 else 1 : Int) : Int) = 0) → (S_X3_worth sc d 199 [aR l0, aU, aI l2, aR l3, aR l4, aI (l5 + (-1)), aI l6, aU, aU, aU, aU, aU, aU, aU] [aR l4, aI (m (l0 + 2) (l5 + (-1))), aI (m (l0 + 1) l6), aI (l5 + (-1)), aR (l0 + 2)] m Q)))) ∧ (¬ ((if (-13) < (m (l0 + 1) l6) then 0 else 1 : Int) = 0) → ((-2147483648 ≤ (m (l0 + 2) (l5 + (-1))) ∧ (m (l0 + 2) (l5 + (-1))) < 2147483648) ∧ S_X3_worth sc d 152 [aR l0, aU, aI l2, aR l3, aR l4, aI (l5 + (-1)), aI l6, aU, aU, aU, aU, aU, aU, aU] [aJ (m (l0 + 2) (l5 + (-1))), aJ 0, aI (m (l0 + 1) l6)] m Q)))) ∧ (¬ ((l5 + (-1)) < 64) → (Q (some (aI 0)) m)))) ∧ (¬ ((if (-13) < (m (l0 + 1) l6) then 0 else 1 : Int) = 0) → ((-2147483648 ≤ (l5 + (-1)) ∧ (l5 + (-1)) < 2147483648) ∧ (((l5 + (-1)) ≤ 0) → ((((l5 + (-1)) < 64) → ((((if (-13) < (m (l0 + 1) l6) then 0 else 1 : Int) = 0) → ((-2147483648 ≤ (if (m (l0 + 1) l6) = (-11) then 1 else (if (m (l0 + 1) l6) ≠ (-12) then 0 else 1 : Int) : Int) ∧ (if (m (l0 + 1) l6) = (-11) then 1 else (if (m (l0 + 1) l6) ≠ (-12) then 0 else 1 : Int) : Int) < 2147483648) ∧ (((if (m (l0 + 1) l6) = (-11) then 1 else (if (m (l0 + 1) l6) ≠ (-12) then 0 else 1 : Int) : Int) = 0) → (((-2147483648 ≤ (m (l0 + 1) l6) ∧ (m (l0 + 1) l6) < 2147483648)) ∧ (((m (l0 + 1) l6) < 0) → (-2147483648 ≤ ((-1) - (m (l0 + 1) l6)) ∧ ((-1) - (m (l0 + 1) l6)) < 2147483648)) ∧ (((m (l0 + 1) l6) < 0) → (-2147483648 ≤ (alen l3) ∧ (alen l3) < 2147483648)) ∧ (((m (l0 + 1) l6) < 0) → (¬ ((alen l3) ≤ ((-1) - (m (l0 + 1) l6)))) → (0 ≤ ((-1) - (m (l0 + 1) l6)))) ∧ (((m (l0 + 1) l6) < 0) → (¬ ((alen l3) ≤ ((-1) - (m (l0 + 1) l6)))) → (((-1) - (m (l0 + 1) l6)) < alen l3)) ∧ S_X3_worth sc d 10 [aR l0, aU, aI l2, aR l3, aR l4, aI ((l5 + (-1)) + 1), aI (l6 + 1), aU, aU, aU, aU, aU, aU, aU] [] (wr m (l0 + 2) (l5 + (-1)) (if (m (l0 + 1) l6) < 0 then (if (alen l3) ≤ ((-1) - (m (l0 + 1) l6)) then 0 else (m l3 ((-1) - (m (l0 + 1) l6))) : Int) else (m (l0 + 1) l6) : Int)) Q)) ∧ (¬ ((if (m (l0 + 1) l6) = (-11) then 1 else (if (m (l0 + 1) l6) ≠ (-12) then 0 else 1 : Int) : Int) = 0) → (S_X3_worth sc d 199 [aR l0, aU, aI l2, aR l3, aR l4, aI (l5 + (-1)), aI l6, aU, aU, aU, aU, aU, aU, aU] [aR l4, aI (m (l0 + 2) (l5 + (-1))), aI (m (l0 + 1) l6), aI (l5 + (-1)), aR (l0 + 2)] m Q)))) ∧ (¬ ((if (-13) < (m (l0 + 1) l6) then 0 else 1 : Int) = 0) → ((-2147483648 ≤ (m (l0 + 2) (l5 + (-1))) ∧ (m (l0 + 2) (l5 + (-1))) < 2147483648) ∧ S_X3_worth sc d 152 [aR l0, aU, aI l2, aR l3, aR l4, aI (l5 + (-1)), aI l6, aU, aU, aU, aU, aU, aU, aU] [aJ (m (l0 + 2) (l5 + (-1))), aJ 0, aI (m (l0 + 1) l6)] m Q)))) ∧ (¬ ((l5 + (-1)) < 64) → (Q (some (aI 0)) m)))) ∧ (¬ ((l5 + (-1)) ≤ 0) → ((0 ≤ ((l5 + (-1)) + (-1))) ∧ (((l5 + (-1)) + (-1)) < 64) ∧ (-2147483648 ≤ ((l5 + (-1)) + (-1)) ∧ ((l5 + (-1)) + (-1)) < 2147483648) ∧ ((((l5 + (-1)) + (-1)) < 64) → ((((if (-13) < (m (l0 + 1) l6) then 0 else 1 : Int) = 0) → ((-2147483648 ≤ (if (m (l0 + 1) l6) = (-11) then 1 else (if (m (l0 + 1) l6) ≠ (-12) then 0 else 1 : Int) : Int) ∧ (if (m (l0 + 1) l6) = (-11) then 1 else (if (m (l0 + 1) l6) ≠ (-12) then 0 else 1 : Int) : Int) < 2147483648) ∧ (((if (m (l0 + 1) l6) = (-11) then 1 else (if (m (l0 + 1) l6) ≠ (-12) then 0 else 1 : Int) : Int) = 0) → (((-2147483648 ≤ (m (l0 + 1) l6) ∧ (m (l0 + 1) l6) < 2147483648)) ∧ (((m (l0 + 1) l6) < 0) → (-2147483648 ≤ ((-1) - (m (l0 + 1) l6)) ∧ ((-1) - (m (l0 + 1) l6)) < 2147483648)) ∧ (((m (l0 + 1) l6) < 0) → (-2147483648 ≤ (alen l3) ∧ (alen l3) < 2147483648)) ∧ (((m (l0 + 1) l6) < 0) → (¬ ((alen l3) ≤ ((-1) - (m (l0 + 1) l6)))) → (0 ≤ ((-1) - (m (l0 + 1) l6)))) ∧ (((m (l0 + 1) l6) < 0) → (¬ ((alen l3) ≤ ((-1) - (m (l0 + 1) l6)))) → (((-1) - (m (l0 + 1) l6)) < alen l3)) ∧ S_X3_worth sc d 10 [aR l0, aU, aI l2, aR l3, aR l4, aI (((l5 + (-1)) + (-1)) + 1), aI (l6 + 1), aU, aU, aU, aU, aU, aU, aU] [] (wr m (l0 + 2) ((l5 + (-1)) + (-1)) (if (m (l0 + 1) l6) < 0 then (if (alen l3) ≤ ((-1) - (m (l0 + 1) l6)) then 0 else (m l3 ((-1) - (m (l0 + 1) l6))) : Int) else (m (l0 + 1) l6) : Int)) Q)) ∧ (¬ ((if (m (l0 + 1) l6) = (-11) then 1 else (if (m (l0 + 1) l6) ≠ (-12) then 0 else 1 : Int) : Int) = 0) → (S_X3_worth sc d 199 [aR l0, aU, aI l2, aR l3, aR l4, aI ((l5 + (-1)) + (-1)), aI l6, aU, aU, aU, aU, aU, aU, aU] [aR l4, aI (m (l0 + 2) (l5 + (-1))), aI (m (l0 + 1) l6), aI ((l5 + (-1)) + (-1)), aR (l0 + 2)] m Q)))) ∧ (¬ ((if (-13) < (m (l0 + 1) l6) then 0 else 1 : Int) = 0) → ((-2147483648 ≤ (m (l0 + 2) ((l5 + (-1)) + (-1))) ∧ (m (l0 + 2) ((l5 + (-1)) + (-1))) < 2147483648) ∧ (-2147483648 ≤ (m (l0 + 2) (l5 + (-1))) ∧ (m (l0 + 2) (l5 + (-1))) < 2147483648) ∧ S_X3_worth sc d 152 [aR l0, aU, aI l2, aR l3, aR l4, aI ((l5 + (-1)) + (-1)), aI l6, aU, aU, aU, aU, aU, aU, aU] [aJ (m (l0 + 2) (l5 + (-1))), aJ (m (l0 + 2) ((l5 + (-1)) + (-1))), aI (m (l0 + 1) l6)] m Q)))) ∧ (¬ (((l5 + (-1)) + (-1)) < 64) → (Q (some (aI 0)) m)))))))))) ∧ (¬ ((if (-13) < (m (l0 + 1) l6) then 0 else 1 : Int) ≠ 0) → ((-2147483648 ≤ (if (m (l0 + 1) l6) = (-11) then 1 else (if (m (l0 + 1) l6) ≠ (-12) then 0 else 1 : Int) : Int) ∧ (if (m (l0 + 1) l6) = (-11) then 1 else (if (m (l0 + 1) l6) ≠ (-12) then 0 else 1 : Int) : Int) < 2147483648) ∧ (((if (m (l0 + 1) l6) = (-11) then 1 else (if (m (l0 + 1) l6) ≠ (-12) then 0 else 1 : Int) : Int) = 0) → ((((if (-13) < (m (l0 + 1) l6) then 0 else 1 : Int) = 0) → ((-2147483648 ≤ l5 ∧ l5 < 2147483648) ∧ ((l5 < 64) → ((((if (-13) < (m (l0 + 1) l6) then 0 else 1 : Int) = 0) → ((((if (m (l0 + 1) l6) = (-11) then 1 else (if (m (l0 + 1) l6) ≠ (-12) then 0 else 1 : Int) : Int) = 0) → (((-2147483648 ≤ (m (l0 + 1) l6) ∧ (m (l0 + 1) l6) < 2147483648)) ∧ (((m (l0 + 1) l6) < 0) → (-2147483648 ≤ ((-1) - (m (l0 + 1) l6)) ∧ ((-1) - (m (l0 + 1) l6)) < 2147483648)) ∧ (((m (l0 + 1) l6) < 0) → (-2147483648 ≤ (alen l3) ∧ (alen l3) < 2147483648)) ∧ (((m (l0 + 1) l6) < 0) → (¬ ((alen l3) ≤ ((-1) - (m (l0 + 1) l6)))) → (0 ≤ ((-1) - (m (l0 + 1) l6)))) ∧ (((m (l0 + 1) l6) < 0) → (¬ ((alen l3) ≤ ((-1) - (m (l0 + 1) l6)))) → (((-1) - (m (l0 + 1) l6)) < alen l3)) ∧ (0 ≤ l5) ∧ (l5 < 64) ∧ S_X3_worth sc d 10 [aR l0, aU, aI l2, aR l3, aR l4, aI (l5 + 1), aI (l6 + 1), aU, aU, aU, aU, aU, aU, aU] [] (wr m (l0 + 2) l5 (if (m (l0 + 1) l6) < 0 then (if (alen l3) ≤ ((-1) - (m (l0 + 1) l6)) then 0 else (m l3 ((-1) - (m (l0 + 1) l6))) : Int) else (m (l0 + 1) l6) : Int)) Q)) ∧ (¬ ((if (m (l0 + 1) l6) = (-11) then 1 else (if (m (l0 + 1) l6) ≠ (-12) then 0 else 1 : Int) : Int) = 0) → (S_X3_worth sc d 199 [aR l0, aU, aI l2, aR l3, aR l4, aI l5, aI l6, aU, aU, aU, aU, aU, aU, aU] [aR l4, aI 0, aI (m (l0 + 1) l6), aI l5, aR (l0 + 2)] m Q)))) ∧ (¬ ((if (-13) < (m (l0 + 1) l6) then 0 else 1 : Int) = 0) → (S_X3_worth sc d 152 [aR l0, aU, aI l2, aR l3, aR l4, aI l5, aI l6, aU, aU, aU, aU, aU, aU, aU] [aJ 0, aJ 0, aI (m (l0 + 1) l6)] m Q)))) ∧ (¬ (l5 < 64) → (Q (some (aI 0)) m)))) ∧ (¬ ((if (-13) < (m (l0 + 1) l6) then 0 else 1 : Int) = 0) → ((-2147483648 ≤ l5 ∧ l5 < 2147483648) ∧ ((l5 ≤ 0) → (((l5 < 64) → ((((if (-13) < (m (l0 + 1) l6) then 0 else 1 : Int) = 0) → ((((if (m (l0 + 1) l6) = (-11) then 1 else (if (m (l0 + 1) l6) ≠ (-12) then 0 else 1 : Int) : Int) = 0) → (((-2147483648 ≤ (m (l0 + 1) l6) ∧ (m (l0 + 1) l6) < 2147483648)) ∧ (((m (l0 + 1) l6) < 0) → (-2147483648 ≤ ((-1) - (m (l0 + 1) l6)) ∧ ((-1) - (m (l0 + 1) l6)) < 2147483648)) ∧ (((m (l0 + 1) l6) < 0) → (-2147483648 ≤ (alen l3) ∧ (alen l3) < 2147483648)) ∧ (((m (l0 + 1) l6) < 0) → (¬ ((alen l3) ≤ ((-1) - (m (l0 + 1) l6)))) → (0 ≤ ((-1) - (m (l0 + 1) l6)))) ∧ (((m (l0 + 1) l6) < 0) → (¬ ((alen l3) ≤ ((-1) - (m (l0 + 1) l6)))) → (((-1) - (m (l0 + 1) l6)) < alen l3)) ∧ (0 ≤ l5) ∧ (l5 < 64) ∧ S_X3_worth sc d 10 [aR l0, aU, aI l2, aR l3, aR l4, aI (l5 + 1), aI (l6 + 1), aU, aU, aU, aU, aU, aU, aU] [] (wr m (l0 + 2) l5 (if (m (l0 + 1) l6) < 0 then (if (alen l3) ≤ ((-1) - (m (l0 + 1) l6)) then 0 else (m l3 ((-1) - (m (l0 + 1) l6))) : Int) else (m (l0 + 1) l6) : Int)) Q)) ∧ (¬ ((if (m (l0 + 1) l6) = (-11) then 1 else (if (m (l0 + 1) l6) ≠ (-12) then 0 else 1 : Int) : Int) = 0) → (S_X3_worth sc d 199 [aR l0, aU, aI l2, aR l3, aR l4, aI l5, aI l6, aU, aU, aU, aU, aU, aU, aU] [aR l4, aI 0, aI (m (l0 + 1) l6), aI l5, aR (l0 + 2)] m Q)))) ∧ (¬ ((if (-13) < (m (l0 + 1) l6) then 0 else 1 : Int) = 0) → (S_X3_worth sc d 152 [aR l0, aU, aI l2, aR l3, aR l4, aI l5, aI l6, aU, aU, aU, aU, aU, aU, aU] [aJ 0, aJ 0, aI (m (l0 + 1) l6)] m Q)))) ∧ (¬ (l5 < 64) → (Q (some (aI 0)) m)))) ∧ (¬ (l5 ≤ 0) → ((0 ≤ (l5 + (-1))) ∧ ((l5 + (-1)) < 64) ∧ (-2147483648 ≤ (l5 + (-1)) ∧ (l5 + (-1)) < 2147483648) ∧ (((l5 + (-1)) < 64) → ((((if (-13) < (m (l0 + 1) l6) then 0 else 1 : Int) = 0) → ((((if (m (l0 + 1) l6) = (-11) then 1 else (if (m (l0 + 1) l6) ≠ (-12) then 0 else 1 : Int) : Int) = 0) → (((-2147483648 ≤ (m (l0 + 1) l6) ∧ (m (l0 + 1) l6) < 2147483648)) ∧ (((m (l0 + 1) l6) < 0) → (-2147483648 ≤ ((-1) - (m (l0 + 1) l6)) ∧ ((-1) - (m (l0 + 1) l6)) < 2147483648)) ∧ (((m (l0 + 1) l6) < 0) → (-2147483648 ≤ (alen l3) ∧ (alen l3) < 2147483648)) ∧ (((m (l0 + 1) l6) < 0) → (¬ ((alen l3) ≤ ((-1) - (m (l0 + 1) l6)))) → (0 ≤ ((-1) - (m (l0 + 1) l6)))) ∧ (((m (l0 + 1) l6) < 0) → (¬ ((alen l3) ≤ ((-1) - (m (l0 + 1) l6)))) → (((-1) - (m (l0 + 1) l6)) < alen l3)) ∧ S_X3_worth sc d 10 [aR l0, aU, aI l2, aR l3, aR l4, aI ((l5 + (-1)) + 1), aI (l6 + 1), aU, aU, aU, aU, aU, aU, aU] [] (wr m (l0 + 2) (l5 + (-1)) (if (m (l0 + 1) l6) < 0 then (if (alen l3) ≤ ((-1) - (m (l0 + 1) l6)) then 0 else (m l3 ((-1) - (m (l0 + 1) l6))) : Int) else (m (l0 + 1) l6) : Int)) Q)) ∧ (¬ ((if (m (l0 + 1) l6) = (-11) then 1 else (if (m (l0 + 1) l6) ≠ (-12) then 0 else 1 : Int) : Int) = 0) → (S_X3_worth sc d 199 [aR l0, aU, aI l2, aR l3, aR l4, aI (l5 + (-1)), aI l6, aU, aU, aU, aU, aU, aU, aU] [aR l4, aI 0, aI (m (l0 + 1) l6), aI (l5 + (-1)), aR (l0 + 2)] m Q)))) ∧ (¬ ((if (-13) < (m (l0 + 1) l6) then 0 else 1 : Int) = 0) → ((-2147483648 ≤ (m (l0 + 2) (l5 + (-1))) ∧ (m (l0 + 2) (l5 + (-1))) < 2147483648) ∧ S_X3_worth sc d 152 [aR l0, aU, aI l2, aR l3, aR l4, aI (l5 + (-1)), aI l6, aU, aU, aU, aU, aU, aU, aU] [aJ 0, aJ (m (l0 + 2) (l5 + (-1))), aI (m (l0 + 1) l6)] m Q)))) ∧ (¬ ((l5 + (-1)) < 64) → (Q (some (aI 0)) m)))))))) ∧ (¬ ((if (m (l0 + 1) l6) = (-11) then 1 else (if (m (l0 + 1) l6) ≠ (-12) then 0 else 1 : Int) : Int) = 0) → ((-2147483648 ≤ l5 ∧ l5 < 2147483648) ∧ ((l5 ≤ 0) → ((((if (-13) < (m (l0 + 1) l6) then 0 else 1 : Int) = 0) → (((l5 < 64) → ((((if (-13) < (m (l0 + 1) l6) then 0 else 1 : Int) = 0) → ((((if (m (l0 + 1) l6) = (-11) then 1 else (if (m (l0 + 1) l6) ≠ (-12) then 0 else 1 : Int) : Int) = 0) → (((-2147483648 ≤ (m (l0 + 1) l6) ∧ (m (l0 + 1) l6) < 2147483648)) ∧ (((m (l0 + 1) l6) < 0) → (-2147483648 ≤ ((-1) - (m (l0 + 1) l6)) ∧ ((-1) - (m (l0 + 1) l6)) < 2147483648)) ∧ (((m (l0 + 1) l6) < 0) → (-2147483648 ≤ (alen l3) ∧ (alen l3) < 2147483648)) ∧ (((m (l0 + 1) l6) < 0) → (¬ ((alen l3) ≤ ((-1) - (m (l0 + 1) l6)))) → (0 ≤ ((-1) - (m (l0 + 1) l6)))) ∧ (((m (l0 + 1) l6) < 0) → (¬ ((alen l3) ≤ ((-1) - (m (l0 + 1) l6)))) → (((-1) - (m (l0 + 1) l6)) < alen l3)) ∧ (0 ≤ l5) ∧ (l5 < 64) ∧ S_X3_worth sc d 10 [aR l0, aU, aI l2, aR l3, aR l4, aI (l5 + 1), aI (l6 + 1), aU, aU, aU, aU, aU, aU, aU] [] (wr m (l0 + 2) l5 (if (m (l0 + 1) l6) < 0 then (if (alen l3) ≤ ((-1) - (m (l0 + 1) l6)) then 0 else (m l3 ((-1) - (m (l0 + 1) l6))) : Int) else (m (l0 + 1) l6) : Int)) Q)) ∧ (¬ ((if (m (l0 + 1) l6) = (-11) then 1 else (if (m (l0 + 1) l6) ≠ (-12) then 0 else 1 : Int) : Int) = 0) → (S_X3_worth sc d 199 [aR l0, aU, aI l2, aR l3, aR l4, aI l5, aI l6, aU, aU, aU, aU, aU, aU, aU] [aR l4, aI 0, aI (m (l0 + 1) l6), aI l5, aR (l0 + 2)] m Q)))) ∧ (¬ ((if (-13) < (m (l0 + 1) l6) then 0 else 1 : Int) = 0) → (S_X3_worth sc d 152 [aR l0, aU, aI l2, aR l3, aR l4, aI l5, aI l6, aU, aU, aU, aU, aU, aU, aU] [aJ 0, aJ 0, aI (m (l0 + 1) l6)] m Q)))) ∧ (¬ (l5 < 64) → (Q (some (aI 0)) m)))) ∧ (¬ ((if (-13) < (m (l0 + 1) l6) then 0 else 1 : Int) = 0) → (((l5 ≤ 0) → (((l5 < 64) → ((((if (-13) < (m (l0 + 1) l6) then 0 else 1 : Int) = 0) → ((((if (m (l0 + 1) l6) = (-11) then 1 else (if (m (l0 + 1) l6) ≠ (-12) then 0 else 1 : Int) : Int) = 0) → (((-2147483648 ≤ (m (l0 + 1) l6) ∧ (m (l0 + 1) l6) < 2147483648)) ∧ (((m (l0 + 1) l6) < 0) → (-2147483648 ≤ ((-1) - (m (l0 + 1) l6)) ∧ ((-1) - (m (l0 + 1) l6)) < 2147483648)) ∧ (((m (l0 + 1) l6) < 0) → (-2147483648 ≤ (alen l3) ∧ (alen l3) < 2147483648)) ∧ (((m (l0 + 1) l6) < 0) → (¬ ((alen l3) ≤ ((-1) - (m (l0 + 1) l6)))) → (0 ≤ ((-1) - (m (l0 + 1) l6)))) ∧ (((m (l0 + 1) l6) < 0) → (¬ ((alen l3) ≤ ((-1) - (m (l0 + 1) l6)))) → (((-1) - (m (l0 + 1) l6)) < alen l3)) ∧ (0 ≤ l5) ∧ (l5 < 64) ∧ S_X3_worth sc d 10 [aR l0, aU, aI l2, aR l3, aR l4, aI (l5 + 1), aI (l6 + 1), aU, aU, aU, aU, aU, aU, aU] [] (wr m (l0 + 2) l5 (if (m (l0 + 1) l6) < 0 then (if (alen l3) ≤ ((-1) - (m (l0 + 1) l6)) then 0 else (m l3 ((-1) - (m (l0 + 1) l6))) : Int) else (m (l0 + 1) l6) : Int)) Q)) ∧ (¬ ((if (m (l0 + 1) l6) = (-11) then 1 else (if (m (l0 + 1) l6) ≠ (-12) then 0 else 1 : Int) : Int) = 0) → (S_X3_worth sc d 199 [aR l0, aU, aI l2, aR l3, aR l4, aI l5, aI l6, aU, aU, aU, aU, aU, aU, aU] [aR l4, aI 0, aI (m (l0 + 1) l6), aI l5, aR (l0 + 2)] m Q)))) ∧ (¬ ((if (-13) < (m (l0 + 1) l6) then 0 else 1 : Int) = 0) → (S_X3_worth sc d 152 [aR l0, aU, aI l2, aR l3, aR l4, aI l5, aI l6, aU, aU, aU, aU, aU, aU, aU] [aJ 0, aJ 0, aI (m (l0 + 1) l6)] m Q)))) ∧ (¬ (l5 < 64) → (Q (some (aI 0)) m)))) ∧ (¬ (l5 ≤ 0) → ((0 ≤ (l5 + (-1))) ∧ ((l5 + (-1)) < 64) ∧ (-2147483648 ≤ (l5 + (-1)) ∧ (l5 + (-1)) < 2147483648) ∧ (((l5 + (-1)) < 64) → ((((if (-13) < (m (l0 + 1) l6) then 0 else 1 : Int) = 0) → ((((if (m (l0 + 1) l6) = (-11) then 1 else (if (m (l0 + 1) l6) ≠ (-12) then 0 else 1 : Int) : Int) = 0) → (((-2147483648 ≤ (m (l0 + 1) l6) ∧ (m (l0 + 1) l6) < 2147483648)) ∧ (((m (l0 + 1) l6) < 0) → (-2147483648 ≤ ((-1) - (m (l0 + 1) l6)) ∧ ((-1) - (m (l0 + 1) l6)) < 2147483648)) ∧ (((m (l0 + 1) l6) < 0) → (-2147483648 ≤ (alen l3) ∧ (alen l3) < 2147483648)) ∧ (((m (l0 + 1) l6) < 0) → (¬ ((alen l3) ≤ ((-1) - (m (l0 + 1) l6)))) → (0 ≤ ((-1) - (m (l0 + 1) l6)))) ∧ (((m (l0 + 1) l6) < 0) → (¬ ((alen l3) ≤ ((-1) - (m (l0 + 1) l6)))) → (((-1) - (m (l0 + 1) l6)) < alen l3)) ∧ S_X3_worth sc d 10 [aR l0, aU, aI l2, aR l3, aR l4, aI ((l5 + (-1)) + 1), aI (l6 + 1), aU, aU, aU, aU, aU, aU, aU] [] (wr m (l0 + 2) (l5 + (-1)) (if (m (l0 + 1) l6) < 0 then (if (alen l3) ≤ ((-1) - (m (l0 + 1) l6)) then 0 else (m l3 ((-1) - (m (l0 + 1) l6))) : Int) else (m (l0 + 1) l6) : Int)) Q)) ∧ (¬ ((if (m (l0 + 1) l6) = (-11) then 1 else (if (m (l0 + 1) l6) ≠ (-12) then 0 else 1 : Int) : Int) = 0) → (S_X3_worth sc d 199 [aR l0, aU, aI l2, aR l3, aR l4, aI (l5 + (-1)), aI l6, aU, aU, aU, aU, aU, aU, aU] [aR l4, aI 0, aI (m (l0 + 1) l6), aI (l5 + (-1)), aR (l0 + 2)] m Q)))) ∧ (¬ ((if (-13) < (m (l0 + 1) l6) then 0 else 1 : Int) = 0) → ((-2147483648 ≤ (m (l0 + 2) (l5 + (-1))) ∧ (m (l0 + 2) (l5 + (-1))) < 2147483648) ∧ S_X3_worth sc d 152 [aR l0, aU, aI l2, aR l3, aR l4, aI (l5 + (-1)), aI l6, aU, aU, aU, aU, aU, aU, aU] [aJ 0, aJ (m (l0 + 2) (l5 + (-1))), aI (m (l0 + 1) l6)] m Q)))) ∧ (¬ ((l5 + (-1)) < 64) → (Q (some (aI 0)) m)))))))) ∧ (¬ (l5 ≤ 0) → ((0 ≤ (l5 + (-1))) ∧ ((l5 + (-1)) < 64) ∧ (((if (-13) < (m (l0 + 1) l6) then 0 else 1 : Int) = 0) → ((-2147483648 ≤ (l5 + (-1)) ∧ (l5 + (-1)) < 2147483648) ∧ (((l5 + (-1)) < 64) → ((((if (-13) < (m (l0 + 1) l6) then 0 else 1 : Int) = 0) → ((((if (m (l0 + 1) l6) = (-11) then 1 else (if (m (l0 + 1) l6) ≠ (-12) then 0 else 1 : Int) : Int) = 0) → (((-2147483648 ≤ (m (l0 + 1) l6) ∧ (m (l0 + 1) l6) < 2147483648)) ∧ (((m (l0 + 1) l6) < 0) → (-2147483648 ≤ ((-1) - (m (l0 + 1) l6)) ∧ ((-1) - (m (l0 + 1) l6)) < 2147483648)) ∧ (((m (l0 + 1) l6) < 0) → (-2147483648 ≤ (alen l3) ∧ (alen l3) < 2147483648)) ∧ (((m (l0 + 1) l6) < 0) → (¬ ((alen l3) ≤ ((-1) - (m (l0 + 1) l6)))) → (0 ≤ ((-1) - (m (l0 + 1) l6)))) ∧ (((m (l0 + 1) l6) < 0) → (¬ ((alen l3) ≤ ((-1) - (m (l0 + 1) l6)))) → (((-1) - (m (l0 + 1) l6)) < alen l3)) ∧ S_X3_worth sc d 10 [aR l0, aU, aI l2, aR l3, aR l4, aI ((l5 + (-1)) + 1), aI (l6 + 1), aU, aU, aU, aU, aU, aU, aU] [] (wr m (l0 + 2) (l5 + (-1)) (if (m (l0 + 1) l6) < 0 then (if (alen l3) ≤ ((-1) - (m (l0 + 1) l6)) then 0 else (m l3 ((-1) - (m (l0 + 1) l6))) : Int) else (m (l0 + 1) l6) : Int)) Q)) ∧ (¬ ((if (m (l0 + 1) l6) = (-11) then 1 else (if (m (l0 + 1) l6) ≠ (-12) then 0 else 1 : Int) : Int) = 0) → (S_X3_worth sc d 199 [aR l0, aU, aI l2, aR l3, aR l4, aI (l5 + (-1)), aI l6, aU, aU, aU, aU, aU, aU, aU] [aR l4, aI (m (l0 + 2) (l5 + (-1))), aI (m (l0 + 1) l6), aI (l5 + (-1)), aR (l0 + 2)] m Q)))) ∧ (¬ ((if (-13) < (m (l0 + 1) l6) then 0 else 1 : Int) = 0) → ((-2147483648 ≤ (m (l0 + 2) (l5 + (-1))) ∧ (m (l0 + 2) (l5 + (-1))) < 2147483648) ∧ S_X3_worth sc d 152 [aR l0, aU, aI l2, aR l3, aR l4, aI (l5 + (-1)), aI l6, aU, aU, aU, aU, aU, aU, aU] [aJ (m (l0 + 2) (l5 + (-1))), aJ 0, aI (m (l0 + 1) l6)] m Q)))) ∧ (¬ ((l5 + (-1)) < 64) → (Q (some (aI 0)) m)))) ∧ (¬ ((if (-13) < (m (l0 + 1) l6) then 0 else 1 : Int) = 0) → ((-2147483648 ≤ (l5 + (-1)) ∧ (l5 + (-1)) < 2147483648) ∧ (((l5 + (-1)) ≤ 0) → ((((l5 + (-1)) < 64) → ((((if (-13) < (m (l0 + 1) l6) then 0 else 1 : Int) = 0) → ((((if (m (l0 + 1) l6) = (-11) then 1 else (if (m (l0 + 1) l6) ≠ (-12) then 0 else 1 : Int) : Int) = 0) → (((-2147483648 ≤ (m (l0 + 1) l6) ∧ (m (l0 + 1) l6) < 2147483648)) ∧ (((m (l0 + 1) l6) < 0) → (-2147483648 ≤ ((-1) - (m (l0 + 1) l6)) ∧ ((-1) - (m (l0 + 1) l6)) < 2147483648)) ∧ (((m (l0 + 1) l6) < 0) → (-2147483648 ≤ (alen l3) ∧ (alen l3) < 2147483648)) ∧ (((m (l0 + 1) l6) < 0) → (¬ ((alen l3) ≤ ((-1) - (m (l0 + 1) l6)))) → (0 ≤ ((-1) - (m (l0 + 1) l6)))) ∧ (((m (l0 + 1) l6) < 0) → (¬ ((alen l3) ≤ ((-1) - (m (l0 + 1) l6)))) → (((-1) - (m (l0 + 1) l6)) < alen l3)) ∧ S_X3_worth sc d 10 [aR l0, aU, aI l2, aR l3, aR l4, aI ((l5 + (-1)) + 1), aI (l6 + 1), aU, aU, aU, aU, aU, aU, aU] [] (wr m (l0 + 2) (l5 + (-1)) (if (m (l0 + 1) l6) < 0 then (if (alen l3) ≤ ((-1) - (m (l0 + 1) l6)) then 0 else (m l3 ((-1) - (m (l0 + 1) l6))) : Int) else (m (l0 + 1) l6) : Int)) Q)) ∧ (¬ ((if (m (l0 + 1) l6) = (-11) then 1 else (if (m (l0 + 1) l6) ≠ (-12) then 0 else 1 : Int) : Int) = 0) → (S_X3_worth sc d 199 [aR l0, aU, aI l2, aR l3, aR l4, aI (l5 + (-1)), aI l6, aU, aU, aU, aU, aU, aU, aU] [aR l4, aI (m (l0 + 2) (l5 + (-1))), aI (m (l0 + 1) l6), aI (l5 + (-1)), aR (l0 + 2)] m Q)))) ∧ (¬ ((if (-13) < (m (l0 + 1) l6) then 0 else 1 : Int) = 0) → ((-2147483648 ≤ (m (l0 + 2) (l5 + (-1))) ∧ (m (l0 + 2) (l5 + (-1))) < 2147483648) ∧ S_X3_worth sc d 152 [aR l0, aU, aI l2, aR l3, aR l4, aI (l5 + (-1)), aI l6, aU, aU, aU, aU, aU, aU, aU] [aJ (m (l0 + 2) (l5 + (-1))), aJ 0, aI (m (l0 + 1) l6)] m Q)))) ∧ (¬ ((l5 + (-1)) < 64) → (Q (some (aI 0)) m)))) ∧ (¬ ((l5 + (-1)) ≤ 0) → ((0 ≤ ((l5 + (-1)) + (-1))) ∧ (((l5 + (-1)) + (-1)) < 64) ∧ (-2147483648 ≤ ((l5 + (-1)) + (-1)) ∧ ((l5 + (-1)) + (-1)) < 2147483648) ∧ ((((l5 + (-1)) + (-1)) < 64) → ((((if (-13) < (m (l0 + 1) l6) then 0 else 1 : Int) = 0) → ((((if (m (l0 + 1) l6) = (-11) then 1 else (if (m (l0 + 1) l6) ≠ (-12) then 0 else 1 : Int) : Int) = 0) → (((-2147483648 ≤ (m (l0 + 1) l6) ∧ (m (l0 + 1) l6) < 2147483648)) ∧ (((m (l0 + 1) l6) < 0) → (-2147483648 ≤ ((-1) - (m (l0 + 1) l6)) ∧ ((-1) - (m (l0 + 1) l6)) < 2147483648)) ∧ (((m (l0 + 1) l6) < 0) → (-2147483648 ≤ (alen l3) ∧ (alen l3) < 2147483648)) ∧ (((m (l0 + 1) l6) < 0) → (¬ ((alen l3) ≤ ((-1) - (m (l0 + 1) l6)))) → (0 ≤ ((-1) - (m (l0 + 1) l6)))) ∧ (((m (l0 + 1) l6) < 0) → (¬ ((alen l3) ≤ ((-1) - (m (l0 + 1) l6)))) → (((-1) - (m (l0 + 1) l6)) < alen l3)) ∧ S_X3_worth sc d 10 [aR l0, aU, aI l2, aR l3, aR l4, aI (((l5 + (-1)) + (-1)) + 1), aI (l6 + 1), aU, aU, aU, aU, aU, aU, aU] [] (wr m (l0 + 2) ((l5 + (-1)) + (-1)) (if (m (l0 + 1) l6) < 0 then (if (alen l3) ≤ ((-1) - (m (l0 + 1) l6)) then 0 else (m l3 ((-1) - (m (l0 + 1) l6))) : Int) else (m (l0 + 1) l6) : Int)) Q)) ∧ (¬ ((if (m (l0 + 1) l6) = (-11) then 1 else (if (m (l0 + 1) l6) ≠ (-12) then 0 else 1 : Int) : Int) = 0) → (S_X3_worth sc d 199 [aR l0, aU, aI l2, aR l3, aR l4, aI ((l5 + (-1)) + (-1)), aI l6, aU, aU, aU, aU, aU, aU, aU] [aR l4, aI (m (l0 + 2) (l5 + (-1))), aI (m (l0 + 1) l6), aI ((l5 + (-1)) + (-1)), aR (l0 + 2)] m Q)))) ∧ (¬ ((if (-13) < (m (l0 + 1) l6) then 0 else 1 : Int) = 0) → ((-2147483648 ≤ (m (l0 + 2) ((l5 + (-1)) + (-1))) ∧ (m (l0 + 2) ((l5 + (-1)) + (-1))) < 2147483648) ∧ (-2147483648 ≤ (m (l0 + 2) (l5 + (-1))) ∧ (m (l0 + 2) (l5 + (-1))) < 2147483648) ∧ S_X3_worth sc d 152 [aR l0, aU, aI l2, aR l3, aR l4, aI ((l5 + (-1)) + (-1)), aI l6, aU, aU, aU, aU, aU, aU, aU] [aJ (m (l0 + 2) (l5 + (-1))), aJ (m (l0 + 2) ((l5 + (-1)) + (-1))), aI (m (l0 + 1) l6)] m Q)))) ∧ (¬ (((l5 + (-1)) + (-1)) < 64) → (Q (some (aI 0)) m))))))))))))))))) : S_X3_worth sc d 10 [aR l0, aU, aI l2, aR l3, aR l4, aI l5, aI l6, aU, aU, aU, aU, aU, aU, aU] [] m Q := by
  refine x_iload (pc2 := 12) dX3_worth_10 rfl rfl ?_
  refine x_iload_n (pc2 := 13) dX3_worth_12 rfl rfl ?_
  obtain ⟨h1, k⟩ := k
  obtain ⟨h2, k⟩ := k
  obtain ⟨k1, k2⟩ := k
  refine x_icmp_ge (tgt := 253) (pc2 := 16) dX3_worth_13 (by decide) rfl h1 h2 (fun c3 => ?_) (fun c3 => ?_)
  · replace k := k1 c3
    refine x_iload (pc2 := 255) dX3_worth_253 rfl rfl ?_
    obtain ⟨g5, k⟩ := k
    obtain ⟨g8, k⟩ := k
    obtain ⟨g9, k⟩ := k
    have kj : S_X3_worth sc d 271 [aR l0, aU, aI l2, aR l3, aR l4, aI l5, aI l6, aU, aU, aU, aU, aU, aU, aU] [aI (if l5 ≤ 0 then 0 else (m (l0 + 2) (l5 - 1)) : Int)] m Q := by
      exact x_ireturn dX3_worth_271 ⟨.int, rfl, rfl⟩ k
    have h10 := g5 
    refine x_if_le (tgt := 270) (pc2 := 258) dX3_worth_255 (by decide) rfl h10 (fun c11 => ?_) (fun c11 => ?_)
    · skip
      refine x_iconst (pc2 := 271) dX3_worth_270 rfl ?_
      exact x_topI (if_pos c11) kj
    · skip
      refine x_aload_n (pc2 := 259) dX3_worth_258 rfl rfl ?_
      refine x_getf (pc2 := 262) (v := aR (l0 + 2)) fl_X3_15 (icf_0 Hl0) (vrf_1 _ Hl0) dX3_worth_259 rfl ?_
      refine x_iload (pc2 := 264) dX3_worth_262 rfl rfl ?_
      refine x_iconst (pc2 := 265) dX3_worth_264 rfl ?_
      refine x_isub (pc2 := 266) dX3_worth_265 rfl ?_
      have h12 := g8 c11
      have h13 := g9 c11
      refine x_iald (pc2 := 267) (icf_2 Hl0) h12 (by rw [(alf_2 Hl0)]; exact h13) dX3_worth_266 rfl ?_
      refine x_goto (tgt := 271) dX3_worth_267 (by decide) ?_
      exact x_topI (if_neg c11) kj
  · replace k := k2 c3
    refine x_iload (pc2 := 18) dX3_worth_16 rfl rfl ?_
    refine x_aload_n (pc2 := 19) dX3_worth_18 rfl rfl ?_
    refine x_getf (pc2 := 22) (v := aR (l0 + 1)) fl_X3_9 (icf_0 Hl0) (vrf_0 _ Hl0) dX3_worth_19 rfl ?_
    refine x_alenK (pc2 := 23) (n := 1600) (Or.inl (icf_1 Hl0)) (alf_1 Hl0) dX3_worth_22 rfl ?_
    obtain ⟨k1, k2⟩ := k
    refine x_icmp_ge (tgt := 253) (pc2 := 26) dX3_worth_23 (by decide) rfl h1 (by decide) (fun c14 => ?_) (fun c14 => ?_)
    · replace k := k1 c14
      refine x_iload (pc2 := 255) dX3_worth_253 rfl rfl ?_
      obtain ⟨g16, k⟩ := k
      obtain ⟨g19, k⟩ := k
      obtain ⟨g20, k⟩ := k
      have kj : S_X3_worth sc d 271 [aR l0, aU, aI l2, aR l3, aR l4, aI l5, aI l6, aU, aU, aU, aU, aU, aU, aU] [aI (if l5 ≤ 0 then 0 else (m (l0 + 2) (l5 - 1)) : Int)] m Q := by
        exact x_ireturn dX3_worth_271 ⟨.int, rfl, rfl⟩ k
      have h21 := g16 
      refine x_if_le (tgt := 270) (pc2 := 258) dX3_worth_255 (by decide) rfl h21 (fun c22 => ?_) (fun c22 => ?_)
      · skip
        refine x_iconst (pc2 := 271) dX3_worth_270 rfl ?_
        exact x_topI (if_pos c22) kj
      · skip
        refine x_aload_n (pc2 := 259) dX3_worth_258 rfl rfl ?_
        refine x_getf (pc2 := 262) (v := aR (l0 + 2)) fl_X3_15 (icf_0 Hl0) (vrf_1 _ Hl0) dX3_worth_259 rfl ?_
        refine x_iload (pc2 := 264) dX3_worth_262 rfl rfl ?_
        refine x_iconst (pc2 := 265) dX3_worth_264 rfl ?_
        refine x_isub (pc2 := 266) dX3_worth_265 rfl ?_
        have h23 := g19 c22
        have h24 := g20 c22
        refine x_iald (pc2 := 267) (icf_2 Hl0) h23 (by rw [(alf_2 Hl0)]; exact h24) dX3_worth_266 rfl ?_
        refine x_goto (tgt := 271) dX3_worth_267 (by decide) ?_
        exact x_topI (if_neg c22) kj
    · replace k := k2 c14
      refine x_aload_n (pc2 := 27) dX3_worth_26 rfl rfl ?_
      refine x_getf (pc2 := 30) (v := aR (l0 + 1)) fl_X3_9 (icf_0 Hl0) (vrf_0 _ Hl0) dX3_worth_27 rfl ?_
      refine x_iload (pc2 := 32) dX3_worth_30 rfl rfl ?_
      obtain ⟨h25, k⟩ := k
      obtain ⟨h26, k⟩ := k
      refine x_iald (pc2 := 33) (icf_1 Hl0) h25 (by rw [(alf_1 Hl0)]; exact h26) dX3_worth_32 rfl ?_
      refine x_istore (pc2 := 35) (ls2 := [aR l0, aU, aI l2, aR l3, aR l4, aI l5, aI l6, aI (m (l0 + 1) l6), aU, aU, aU, aU, aU, aU]) dX3_worth_33 rfl (by decide) rfl ?_
      refine x_iload (pc2 := 37) dX3_worth_35 rfl rfl ?_
      refine x_bipush (pc2 := 39) dX3_worth_37 rfl rfl ?_
      obtain ⟨g28, k⟩ := k
      have kj : S_X3_worth sc d 47 [aR l0, aU, aI l2, aR l3, aR l4, aI l5, aI l6, aI (m (l0 + 1) l6), aU, aU, aU, aU, aU, aU] [aI (if (-13) < (m (l0 + 1) l6) then 0 else 1 : Int)] m Q := by
        refine x_istore (pc2 := 49) (ls2 := [aR l0, aU, aI l2, aR l3, aR l4, aI l5, aI l6, aI (m (l0 + 1) l6), aI (if (-13) < (m (l0 + 1) l6) then 0 else 1 : Int), aU, aU, aU, aU, aU]) dX3_worth_47 rfl (by decide) rfl ?_
        refine x_iload (pc2 := 51) dX3_worth_49 rfl rfl ?_
        refine x_bipush (pc2 := 53) dX3_worth_51 rfl rfl ?_
        obtain ⟨g30, k⟩ := k
        have kj : S_X3_worth sc d 68 [aR l0, aU, aI l2, aR l3, aR l4, aI l5, aI l6, aI (m (l0 + 1) l6), aI (if (-13) < (m (l0 + 1) l6) then 0 else 1 : Int), aU, aU, aU, aU, aU] [aI (if (m (l0 + 1) l6) = (-11) then 1 else (if (m (l0 + 1) l6) ≠ (-12) then 0 else 1 : Int) : Int)] m Q := by
          refine x_istore (pc2 := 70) (ls2 := [aR l0, aU, aI l2, aR l3, aR l4, aI l5, aI l6, aI (m (l0 + 1) l6), aI (if (-13) < (m (l0 + 1) l6) then 0 else 1 : Int), aI (if (m (l0 + 1) l6) = (-11) then 1 else (if (m (l0 + 1) l6) ≠ (-12) then 0 else 1 : Int) : Int), aU, aU, aU, aU]) dX3_worth_68 rfl (by decide) rfl ?_
          refine x_iload (pc2 := 72) dX3_worth_70 rfl rfl ?_
          obtain ⟨h31, k⟩ := k
          obtain ⟨k1, k2⟩ := k
          refine x_if_ne (tgt := 80) (pc2 := 75) dX3_worth_72 (by decide) rfl h31 (fun c32 => ?_) (fun c32 => ?_)
          · replace k := k1 c32
            refine x_iload (pc2 := 82) dX3_worth_80 rfl rfl ?_
            obtain ⟨h33, k⟩ := k
            obtain ⟨k1, k2⟩ := k
            refine x_if_le (tgt := 98) (pc2 := 85) dX3_worth_82 (by decide) rfl h33 (fun c34 => ?_) (fun c34 => ?_)
            · replace k := k1 c34
              refine x_iconst (pc2 := 99) dX3_worth_98 rfl ?_
              refine x_istore (pc2 := 101) (ls2 := [aR l0, aU, aI l2, aR l3, aR l4, aI l5, aI l6, aI (m (l0 + 1) l6), aI (if (-13) < (m (l0 + 1) l6) then 0 else 1 : Int), aI (if (m (l0 + 1) l6) = (-11) then 1 else (if (m (l0 + 1) l6) ≠ (-12) then 0 else 1 : Int) : Int), aI 0, aU, aU, aU]) dX3_worth_99 rfl (by decide) rfl ?_
              refine x_iload (pc2 := 103) dX3_worth_101 rfl rfl ?_
              obtain ⟨k1, k2⟩ := k
              refine x_if_eq (tgt := 124) (pc2 := 106) dX3_worth_103 (by decide) rfl h31 (fun c35 => ?_) (fun c35 => ?_)
              · replace k := k1 c35
                refine x_iconst (pc2 := 125) dX3_worth_124 rfl ?_
                refine x_istore (pc2 := 127) (ls2 := [aR l0, aU, aI l2, aR l3, aR l4, aI l5, aI l6, aI (m (l0 + 1) l6), aI (if (-13) < (m (l0 + 1) l6) then 0 else 1 : Int), aI (if (m (l0 + 1) l6) = (-11) then 1 else (if (m (l0 + 1) l6) ≠ (-12) then 0 else 1 : Int) : Int), aI 0, aI 0, aU, aU]) dX3_worth_125 rfl (by decide) rfl ?_
                refine x_iload (pc2 := 129) dX3_worth_127 rfl rfl ?_
                refine x_aload_n (pc2 := 130) dX3_worth_129 rfl rfl ?_
                refine x_getf (pc2 := 133) (v := aR (l0 + 2)) fl_X3_15 (icf_0 Hl0) (vrf_1 _ Hl0) dX3_worth_130 rfl ?_
                refine x_alenK (pc2 := 134) (n := 64) (Or.inl (icf_2 Hl0)) (alf_2 Hl0) dX3_worth_133 rfl ?_
                obtain ⟨k1, k2⟩ := k
                refine x_icmp_lt (tgt := 139) (pc2 := 137) dX3_worth_134 (by decide) rfl h33 (by decide) (fun c36 => ?_) (fun c36 => ?_)
                · replace k := k1 c36
                  refine x_iload (pc2 := 141) dX3_worth_139 rfl rfl ?_
                  obtain ⟨k1, k2⟩ := k
                  refine x_if_eq (tgt := 182) (pc2 := 144) dX3_worth_141 (by decide) rfl h31 (fun c37 => ?_) (fun c37 => ?_)
                  · replace k := k1 c37
                    refine x_iload (pc2 := 184) dX3_worth_182 rfl rfl ?_
                    obtain ⟨h38, k⟩ := k
                    obtain ⟨k1, k2⟩ := k
                    refine x_if_eq (tgt := 206) (pc2 := 187) dX3_worth_184 (by decide) rfl h38 (fun c39 => ?_) (fun c39 => ?_)
                    · replace k := k1 c39
                      refine x_iconst (pc2 := 207) dX3_worth_206 rfl ?_
                      refine x_iload (pc2 := 209) dX3_worth_207 rfl rfl ?_
                      refine x_isub (pc2 := 210) dX3_worth_209 rfl ?_
                      refine x_istore (pc2 := 212) (ls2 := [aR l0, aU, aI l2, aR l3, aR l4, aI l5, aI l6, aI (m (l0 + 1) l6), aI (if (-13) < (m (l0 + 1) l6) then 0 else 1 : Int), aI (if (m (l0 + 1) l6) = (-11) then 1 else (if (m (l0 + 1) l6) ≠ (-12) then 0 else 1 : Int) : Int), aI 0, aI 0, aI ((-1) - (m (l0 + 1) l6)), aU]) dX3_worth_210 rfl (by decide) rfl ?_
                      refine x_aload_n (pc2 := 213) dX3_worth_212 rfl rfl ?_
                      refine x_getf (pc2 := 216) (v := aR (l0 + 2)) fl_X3_15 (icf_0 Hl0) (vrf_1 _ Hl0) dX3_worth_213 rfl ?_
                      refine x_iload (pc2 := 218) dX3_worth_216 rfl rfl ?_
                      refine x_iload (pc2 := 220) dX3_worth_218 rfl rfl ?_
                      obtain ⟨g41, k⟩ := k
                      obtain ⟨g44, k⟩ := k
                      obtain ⟨g45, k⟩ := k
                      obtain ⟨g48, k⟩ := k
                      obtain ⟨g49, k⟩ := k
                      have kj : S_X3_worth sc d 243 [aR l0, aU, aI l2, aR l3, aR l4, aI l5, aI l6, aI (m (l0 + 1) l6), aI (if (-13) < (m (l0 + 1) l6) then 0 else 1 : Int), aI (if (m (l0 + 1) l6) = (-11) then 1 else (if (m (l0 + 1) l6) ≠ (-12) then 0 else 1 : Int) : Int), aI 0, aI 0, aI ((-1) - (m (l0 + 1) l6)), aU] [aI (if (m (l0 + 1) l6) < 0 then (if (alen l3) ≤ ((-1) - (m (l0 + 1) l6)) then 0 else (m l3 ((-1) - (m (l0 + 1) l6))) : Int) else (m (l0 + 1) l6) : Int), aI l5, aR (l0 + 2)] m Q := by
                        obtain ⟨h50, k⟩ := k
                        obtain ⟨h51, k⟩ := k
                        refine x_iast (pc2 := 244) (icf_2 Hl0) h50 (by rw [(alf_2 Hl0)]; exact h51) dX3_worth_243 rfl ?_
                        refine x_iinc (pc2 := 247) (ls2 := [aR l0, aU, aI l2, aR l3, aR l4, aI (l5 + 1), aI l6, aI (m (l0 + 1) l6), aI (if (-13) < (m (l0 + 1) l6) then 0 else 1 : Int), aI (if (m (l0 + 1) l6) = (-11) then 1 else (if (m (l0 + 1) l6) ≠ (-12) then 0 else 1 : Int) : Int), aI 0, aI 0, aI ((-1) - (m (l0 + 1) l6)), aU]) dX3_worth_244 rfl rfl (by decide) rfl ?_
                        refine x_iinc (pc2 := 250) (ls2 := [aR l0, aU, aI l2, aR l3, aR l4, aI (l5 + 1), aI (l6 + 1), aI (m (l0 + 1) l6), aI (if (-13) < (m (l0 + 1) l6) then 0 else 1 : Int), aI (if (m (l0 + 1) l6) = (-11) then 1 else (if (m (l0 + 1) l6) ≠ (-12) then 0 else 1 : Int) : Int), aI 0, aI 0, aI ((-1) - (m (l0 + 1) l6)), aU]) dX3_worth_247 rfl rfl (by decide) rfl ?_
                        refine x_goto (tgt := 10) dX3_worth_250 (by decide) ?_
                        exact x_drop (drp_k (drp_k (drp_k (drp_k (drp_k (drp_k (drp_k (drp_u (drp_u (drp_u (drp_u (drp_u (drp_u (drp_k drp_n)))))))))))))) k
                      have h52 := g41 
                      refine x_if_lt (tgt := 228) (pc2 := 223) dX3_worth_220 (by decide) rfl h52 (fun c53 => ?_) (fun c53 => ?_)
                      · skip
                        refine x_iload (pc2 := 230) dX3_worth_228 rfl rfl ?_
                        refine x_aload_n (pc2 := 231) dX3_worth_230 rfl rfl ?_
                        refine x_alen (pc2 := 232) (Or.inl Hl3) dX3_worth_231 rfl ?_
                        have h54 := g44 c53
                        have h55 := g45 c53
                        refine x_icmp_ge (tgt := 242) (pc2 := 235) dX3_worth_232 (by decide) rfl h54 h55 (fun c56 => ?_) (fun c56 => ?_)
                        · skip
                          refine x_iconst (pc2 := 243) dX3_worth_242 rfl ?_
                          exact x_topI ((if_pos c53).trans (if_pos c56)) kj
                        · skip
                          refine x_aload_n (pc2 := 236) dX3_worth_235 rfl rfl ?_
                          refine x_iload (pc2 := 238) dX3_worth_236 rfl rfl ?_
                          have h57 := g48 c53 c56
                          have h58 := g49 c53 c56
                          refine x_iald (pc2 := 239) Hl3 h57 h58 dX3_worth_238 rfl ?_
                          refine x_goto (tgt := 243) dX3_worth_239 (by decide) ?_
                          exact x_topI ((if_pos c53).trans (if_neg c56)) kj
                      · skip
                        refine x_iload (pc2 := 225) dX3_worth_223 rfl rfl ?_
                        refine x_goto (tgt := 243) dX3_worth_225 (by decide) ?_
                        exact x_topI (if_neg c53) kj
                    · replace k := k2 c39
                      refine x_aload_n (pc2 := 188) dX3_worth_187 rfl rfl ?_
                      refine x_getf (pc2 := 191) (v := aR (l0 + 2)) fl_X3_15 (icf_0 Hl0) (vrf_1 _ Hl0) dX3_worth_188 rfl ?_
                      refine x_iload (pc2 := 193) dX3_worth_191 rfl rfl ?_
                      refine x_iload (pc2 := 195) dX3_worth_193 rfl rfl ?_
                      refine x_iload (pc2 := 197) dX3_worth_195 rfl rfl ?_
                      refine x_aload (pc2 := 199) dX3_worth_197 rfl rfl ((icr_0 Hl4)).1 ?_
                      exact x_drop (drp_k (drp_k (drp_k (drp_k (drp_k (drp_k (drp_k (drp_u (drp_u (drp_u (drp_u (drp_u (drp_k (drp_k drp_n)))))))))))))) k
                  · replace k := k2 c37
                    refine x_iload (pc2 := 146) dX3_worth_144 rfl rfl ?_
                    refine x_iload (pc2 := 148) dX3_worth_146 rfl rfl ?_
                    refine x_i2l (pc2 := 149) dX3_worth_148 rfl (by decide) ?_
                    refine x_iload (pc2 := 151) dX3_worth_149 rfl rfl ?_
                    refine x_i2l (pc2 := 152) dX3_worth_151 rfl (by decide) ?_
                    exact x_drop (drp_k (drp_k (drp_k (drp_k (drp_k (drp_k (drp_k (drp_u (drp_u (drp_u (drp_u (drp_u (drp_k (drp_k drp_n)))))))))))))) k
                · replace k := k2 c36
                  refine x_iconst (pc2 := 138) dX3_worth_137 rfl ?_
                  exact x_ireturn dX3_worth_138 ⟨.int, rfl, rfl⟩ k
              · replace k := k2 c35
                refine x_iload (pc2 := 108) dX3_worth_106 rfl rfl ?_
                obtain ⟨k1, k2⟩ := k
                refine x_if_le (tgt := 124) (pc2 := 111) dX3_worth_108 (by decide) rfl h33 (fun c59 => ?_) (fun c59 => ?_)
                · replace k := k1 c59
                  refine x_iconst (pc2 := 125) dX3_worth_124 rfl ?_
                  refine x_istore (pc2 := 127) (ls2 := [aR l0, aU, aI l2, aR l3, aR l4, aI l5, aI l6, aI (m (l0 + 1) l6), aI (if (-13) < (m (l0 + 1) l6) then 0 else 1 : Int), aI (if (m (l0 + 1) l6) = (-11) then 1 else (if (m (l0 + 1) l6) ≠ (-12) then 0 else 1 : Int) : Int), aI 0, aI 0, aU, aU]) dX3_worth_125 rfl (by decide) rfl ?_
                  refine x_iload (pc2 := 129) dX3_worth_127 rfl rfl ?_
                  refine x_aload_n (pc2 := 130) dX3_worth_129 rfl rfl ?_
                  refine x_getf (pc2 := 133) (v := aR (l0 + 2)) fl_X3_15 (icf_0 Hl0) (vrf_1 _ Hl0) dX3_worth_130 rfl ?_
                  refine x_alenK (pc2 := 134) (n := 64) (Or.inl (icf_2 Hl0)) (alf_2 Hl0) dX3_worth_133 rfl ?_
                  obtain ⟨k1, k2⟩ := k
                  refine x_icmp_lt (tgt := 139) (pc2 := 137) dX3_worth_134 (by decide) rfl h33 (by decide) (fun c60 => ?_) (fun c60 => ?_)
                  · replace k := k1 c60
                    refine x_iload (pc2 := 141) dX3_worth_139 rfl rfl ?_
                    obtain ⟨k1, k2⟩ := k
                    refine x_if_eq (tgt := 182) (pc2 := 144) dX3_worth_141 (by decide) rfl h31 (fun c61 => ?_) (fun c61 => ?_)
                    · replace k := k1 c61
                      refine x_iload (pc2 := 184) dX3_worth_182 rfl rfl ?_
                      obtain ⟨h62, k⟩ := k
                      obtain ⟨k1, k2⟩ := k
                      refine x_if_eq (tgt := 206) (pc2 := 187) dX3_worth_184 (by decide) rfl h62 (fun c63 => ?_) (fun c63 => ?_)
                      · replace k := k1 c63
                        refine x_iconst (pc2 := 207) dX3_worth_206 rfl ?_
                        refine x_iload (pc2 := 209) dX3_worth_207 rfl rfl ?_
                        refine x_isub (pc2 := 210) dX3_worth_209 rfl ?_
                        refine x_istore (pc2 := 212) (ls2 := [aR l0, aU, aI l2, aR l3, aR l4, aI l5, aI l6, aI (m (l0 + 1) l6), aI (if (-13) < (m (l0 + 1) l6) then 0 else 1 : Int), aI (if (m (l0 + 1) l6) = (-11) then 1 else (if (m (l0 + 1) l6) ≠ (-12) then 0 else 1 : Int) : Int), aI 0, aI 0, aI ((-1) - (m (l0 + 1) l6)), aU]) dX3_worth_210 rfl (by decide) rfl ?_
                        refine x_aload_n (pc2 := 213) dX3_worth_212 rfl rfl ?_
                        refine x_getf (pc2 := 216) (v := aR (l0 + 2)) fl_X3_15 (icf_0 Hl0) (vrf_1 _ Hl0) dX3_worth_213 rfl ?_
                        refine x_iload (pc2 := 218) dX3_worth_216 rfl rfl ?_
                        refine x_iload (pc2 := 220) dX3_worth_218 rfl rfl ?_
                        obtain ⟨g65, k⟩ := k
                        obtain ⟨g68, k⟩ := k
                        obtain ⟨g69, k⟩ := k
                        obtain ⟨g72, k⟩ := k
                        obtain ⟨g73, k⟩ := k
                        have kj : S_X3_worth sc d 243 [aR l0, aU, aI l2, aR l3, aR l4, aI l5, aI l6, aI (m (l0 + 1) l6), aI (if (-13) < (m (l0 + 1) l6) then 0 else 1 : Int), aI (if (m (l0 + 1) l6) = (-11) then 1 else (if (m (l0 + 1) l6) ≠ (-12) then 0 else 1 : Int) : Int), aI 0, aI 0, aI ((-1) - (m (l0 + 1) l6)), aU] [aI (if (m (l0 + 1) l6) < 0 then (if (alen l3) ≤ ((-1) - (m (l0 + 1) l6)) then 0 else (m l3 ((-1) - (m (l0 + 1) l6))) : Int) else (m (l0 + 1) l6) : Int), aI l5, aR (l0 + 2)] m Q := by
                          obtain ⟨h74, k⟩ := k
                          obtain ⟨h75, k⟩ := k
                          refine x_iast (pc2 := 244) (icf_2 Hl0) h74 (by rw [(alf_2 Hl0)]; exact h75) dX3_worth_243 rfl ?_
                          refine x_iinc (pc2 := 247) (ls2 := [aR l0, aU, aI l2, aR l3, aR l4, aI (l5 + 1), aI l6, aI (m (l0 + 1) l6), aI (if (-13) < (m (l0 + 1) l6) then 0 else 1 : Int), aI (if (m (l0 + 1) l6) = (-11) then 1 else (if (m (l0 + 1) l6) ≠ (-12) then 0 else 1 : Int) : Int), aI 0, aI 0, aI ((-1) - (m (l0 + 1) l6)), aU]) dX3_worth_244 rfl rfl (by decide) rfl ?_
                          refine x_iinc (pc2 := 250) (ls2 := [aR l0, aU, aI l2, aR l3, aR l4, aI (l5 + 1), aI (l6 + 1), aI (m (l0 + 1) l6), aI (if (-13) < (m (l0 + 1) l6) then 0 else 1 : Int), aI (if (m (l0 + 1) l6) = (-11) then 1 else (if (m (l0 + 1) l6) ≠ (-12) then 0 else 1 : Int) : Int), aI 0, aI 0, aI ((-1) - (m (l0 + 1) l6)), aU]) dX3_worth_247 rfl rfl (by decide) rfl ?_
                          refine x_goto (tgt := 10) dX3_worth_250 (by decide) ?_
                          exact x_drop (drp_k (drp_k (drp_k (drp_k (drp_k (drp_k (drp_k (drp_u (drp_u (drp_u (drp_u (drp_u (drp_u (drp_k drp_n)))))))))))))) k
                        have h76 := g65 
                        refine x_if_lt (tgt := 228) (pc2 := 223) dX3_worth_220 (by decide) rfl h76 (fun c77 => ?_) (fun c77 => ?_)
                        · skip
                          refine x_iload (pc2 := 230) dX3_worth_228 rfl rfl ?_
                          refine x_aload_n (pc2 := 231) dX3_worth_230 rfl rfl ?_
                          refine x_alen (pc2 := 232) (Or.inl Hl3) dX3_worth_231 rfl ?_
                          have h78 := g68 c77
                          have h79 := g69 c77
                          refine x_icmp_ge (tgt := 242) (pc2 := 235) dX3_worth_232 (by decide) rfl h78 h79 (fun c80 => ?_) (fun c80 => ?_)
                          · skip
                            refine x_iconst (pc2 := 243) dX3_worth_242 rfl ?_
                            exact x_topI ((if_pos c77).trans (if_pos c80)) kj
                          · skip
                            refine x_aload_n (pc2 := 236) dX3_worth_235 rfl rfl ?_
                            refine x_iload (pc2 := 238) dX3_worth_236 rfl rfl ?_
                            have h81 := g72 c77 c80
                            have h82 := g73 c77 c80
                            refine x_iald (pc2 := 239) Hl3 h81 h82 dX3_worth_238 rfl ?_
                            refine x_goto (tgt := 243) dX3_worth_239 (by decide) ?_
                            exact x_topI ((if_pos c77).trans (if_neg c80)) kj
                        · skip
                          refine x_iload (pc2 := 225) dX3_worth_223 rfl rfl ?_
                          refine x_goto (tgt := 243) dX3_worth_225 (by decide) ?_
                          exact x_topI (if_neg c77) kj
                      · replace k := k2 c63
                        refine x_aload_n (pc2 := 188) dX3_worth_187 rfl rfl ?_
                        refine x_getf (pc2 := 191) (v := aR (l0 + 2)) fl_X3_15 (icf_0 Hl0) (vrf_1 _ Hl0) dX3_worth_188 rfl ?_
                        refine x_iload (pc2 := 193) dX3_worth_191 rfl rfl ?_
                        refine x_iload (pc2 := 195) dX3_worth_193 rfl rfl ?_
                        refine x_iload (pc2 := 197) dX3_worth_195 rfl rfl ?_
                        refine x_aload (pc2 := 199) dX3_worth_197 rfl rfl ((icr_0 Hl4)).1 ?_
                        exact x_drop (drp_k (drp_k (drp_k (drp_k (drp_k (drp_k (drp_k (drp_u (drp_u (drp_u (drp_u (drp_u (drp_k (drp_k drp_n)))))))))))))) k
                    · replace k := k2 c61
                      refine x_iload (pc2 := 146) dX3_worth_144 rfl rfl ?_
                      refine x_iload (pc2 := 148) dX3_worth_146 rfl rfl ?_
                      refine x_i2l (pc2 := 149) dX3_worth_148 rfl (by decide) ?_
                      refine x_iload (pc2 := 151) dX3_worth_149 rfl rfl ?_
                      refine x_i2l (pc2 := 152) dX3_worth_151 rfl (by decide) ?_
                      exact x_drop (drp_k (drp_k (drp_k (drp_k (drp_k (drp_k (drp_k (drp_u (drp_u (drp_u (drp_u (drp_u (drp_k (drp_k drp_n)))))))))))))) k
                  · replace k := k2 c60
                    refine x_iconst (pc2 := 138) dX3_worth_137 rfl ?_
                    exact x_ireturn dX3_worth_138 ⟨.int, rfl, rfl⟩ k
                · replace k := k2 c59
                  refine x_aload_n (pc2 := 112) dX3_worth_111 rfl rfl ?_
                  refine x_getf (pc2 := 115) (v := aR (l0 + 2)) fl_X3_15 (icf_0 Hl0) (vrf_1 _ Hl0) dX3_worth_112 rfl ?_
                  refine x_iinc (pc2 := 118) (ls2 := [aR l0, aU, aI l2, aR l3, aR l4, aI (l5 + (-1)), aI l6, aI (m (l0 + 1) l6), aI (if (-13) < (m (l0 + 1) l6) then 0 else 1 : Int), aI (if (m (l0 + 1) l6) = (-11) then 1 else (if (m (l0 + 1) l6) ≠ (-12) then 0 else 1 : Int) : Int), aI 0, aU, aU, aU]) dX3_worth_115 rfl rfl (by decide) rfl ?_
                  refine x_iload (pc2 := 120) dX3_worth_118 rfl rfl ?_
                  obtain ⟨h83, k⟩ := k
                  obtain ⟨h84, k⟩ := k
                  refine x_iald (pc2 := 121) (icf_2 Hl0) h83 (by rw [(alf_2 Hl0)]; exact h84) dX3_worth_120 rfl ?_
                  refine x_goto (tgt := 125) dX3_worth_121 (by decide) ?_
                  refine x_istore (pc2 := 127) (ls2 := [aR l0, aU, aI l2, aR l3, aR l4, aI (l5 + (-1)), aI l6, aI (m (l0 + 1) l6), aI (if (-13) < (m (l0 + 1) l6) then 0 else 1 : Int), aI (if (m (l0 + 1) l6) = (-11) then 1 else (if (m (l0 + 1) l6) ≠ (-12) then 0 else 1 : Int) : Int), aI 0, aI (m (l0 + 2) (l5 + (-1))), aU, aU]) dX3_worth_125 rfl (by decide) rfl ?_
                  refine x_iload (pc2 := 129) dX3_worth_127 rfl rfl ?_
                  refine x_aload_n (pc2 := 130) dX3_worth_129 rfl rfl ?_
                  refine x_getf (pc2 := 133) (v := aR (l0 + 2)) fl_X3_15 (icf_0 Hl0) (vrf_1 _ Hl0) dX3_worth_130 rfl ?_
                  refine x_alenK (pc2 := 134) (n := 64) (Or.inl (icf_2 Hl0)) (alf_2 Hl0) dX3_worth_133 rfl ?_
                  obtain ⟨h85, k⟩ := k
                  obtain ⟨k1, k2⟩ := k
                  refine x_icmp_lt (tgt := 139) (pc2 := 137) dX3_worth_134 (by decide) rfl h85 (by decide) (fun c86 => ?_) (fun c86 => ?_)
                  · replace k := k1 c86
                    refine x_iload (pc2 := 141) dX3_worth_139 rfl rfl ?_
                    obtain ⟨k1, k2⟩ := k
                    refine x_if_eq (tgt := 182) (pc2 := 144) dX3_worth_141 (by decide) rfl h31 (fun c87 => ?_) (fun c87 => ?_)
                    · replace k := k1 c87
                      refine x_iload (pc2 := 184) dX3_worth_182 rfl rfl ?_
                      obtain ⟨h88, k⟩ := k
                      obtain ⟨k1, k2⟩ := k
                      refine x_if_eq (tgt := 206) (pc2 := 187) dX3_worth_184 (by decide) rfl h88 (fun c89 => ?_) (fun c89 => ?_)
                      · replace k := k1 c89
                        refine x_iconst (pc2 := 207) dX3_worth_206 rfl ?_
                        refine x_iload (pc2 := 209) dX3_worth_207 rfl rfl ?_
                        refine x_isub (pc2 := 210) dX3_worth_209 rfl ?_
                        refine x_istore (pc2 := 212) (ls2 := [aR l0, aU, aI l2, aR l3, aR l4, aI (l5 + (-1)), aI l6, aI (m (l0 + 1) l6), aI (if (-13) < (m (l0 + 1) l6) then 0 else 1 : Int), aI (if (m (l0 + 1) l6) = (-11) then 1 else (if (m (l0 + 1) l6) ≠ (-12) then 0 else 1 : Int) : Int), aI 0, aI (m (l0 + 2) (l5 + (-1))), aI ((-1) - (m (l0 + 1) l6)), aU]) dX3_worth_210 rfl (by decide) rfl ?_
                        refine x_aload_n (pc2 := 213) dX3_worth_212 rfl rfl ?_
                        refine x_getf (pc2 := 216) (v := aR (l0 + 2)) fl_X3_15 (icf_0 Hl0) (vrf_1 _ Hl0) dX3_worth_213 rfl ?_
                        refine x_iload (pc2 := 218) dX3_worth_216 rfl rfl ?_
                        refine x_iload (pc2 := 220) dX3_worth_218 rfl rfl ?_
                        obtain ⟨g91, k⟩ := k
                        obtain ⟨g94, k⟩ := k
                        obtain ⟨g95, k⟩ := k
                        obtain ⟨g98, k⟩ := k
                        obtain ⟨g99, k⟩ := k
                        have kj : S_X3_worth sc d 243 [aR l0, aU, aI l2, aR l3, aR l4, aI (l5 + (-1)), aI l6, aI (m (l0 + 1) l6), aI (if (-13) < (m (l0 + 1) l6) then 0 else 1 : Int), aI (if (m (l0 + 1) l6) = (-11) then 1 else (if (m (l0 + 1) l6) ≠ (-12) then 0 else 1 : Int) : Int), aI 0, aI (m (l0 + 2) (l5 + (-1))), aI ((-1) - (m (l0 + 1) l6)), aU] [aI (if (m (l0 + 1) l6) < 0 then (if (alen l3) ≤ ((-1) - (m (l0 + 1) l6)) then 0 else (m l3 ((-1) - (m (l0 + 1) l6))) : Int) else (m (l0 + 1) l6) : Int), aI (l5 + (-1)), aR (l0 + 2)] m Q := by
                          refine x_iast (pc2 := 244) (icf_2 Hl0) h83 (by rw [(alf_2 Hl0)]; exact h84) dX3_worth_243 rfl ?_
                          refine x_iinc (pc2 := 247) (ls2 := [aR l0, aU, aI l2, aR l3, aR l4, aI ((l5 + (-1)) + 1), aI l6, aI (m (l0 + 1) l6), aI (if (-13) < (m (l0 + 1) l6) then 0 else 1 : Int), aI (if (m (l0 + 1) l6) = (-11) then 1 else (if (m (l0 + 1) l6) ≠ (-12) then 0 else 1 : Int) : Int), aI 0, aI (m (l0 + 2) (l5 + (-1))), aI ((-1) - (m (l0 + 1) l6)), aU]) dX3_worth_244 rfl rfl (by decide) rfl ?_
                          refine x_iinc (pc2 := 250) (ls2 := [aR l0, aU, aI l2, aR l3, aR l4, aI ((l5 + (-1)) + 1), aI (l6 + 1), aI (m (l0 + 1) l6), aI (if (-13) < (m (l0 + 1) l6) then 0 else 1 : Int), aI (if (m (l0 + 1) l6) = (-11) then 1 else (if (m (l0 + 1) l6) ≠ (-12) then 0 else 1 : Int) : Int), aI 0, aI (m (l0 + 2) (l5 + (-1))), aI ((-1) - (m (l0 + 1) l6)), aU]) dX3_worth_247 rfl rfl (by decide) rfl ?_
                          refine x_goto (tgt := 10) dX3_worth_250 (by decide) ?_
                          exact x_drop (drp_k (drp_k (drp_k (drp_k (drp_k (drp_k (drp_k (drp_u (drp_u (drp_u (drp_u (drp_u (drp_u (drp_k drp_n)))))))))))))) k
                        have h100 := g91 
                        refine x_if_lt (tgt := 228) (pc2 := 223) dX3_worth_220 (by decide) rfl h100 (fun c101 => ?_) (fun c101 => ?_)
                        · skip
                          refine x_iload (pc2 := 230) dX3_worth_228 rfl rfl ?_
                          refine x_aload_n (pc2 := 231) dX3_worth_230 rfl rfl ?_
                          refine x_alen (pc2 := 232) (Or.inl Hl3) dX3_worth_231 rfl ?_
                          have h102 := g94 c101
                          have h103 := g95 c101
                          refine x_icmp_ge (tgt := 242) (pc2 := 235) dX3_worth_232 (by decide) rfl h102 h103 (fun c104 => ?_) (fun c104 => ?_)
                          · skip
                            refine x_iconst (pc2 := 243) dX3_worth_242 rfl ?_
                            exact x_topI ((if_pos c101).trans (if_pos c104)) kj
                          · skip
                            refine x_aload_n (pc2 := 236) dX3_worth_235 rfl rfl ?_
                            refine x_iload (pc2 := 238) dX3_worth_236 rfl rfl ?_
                            have h105 := g98 c101 c104
                            have h106 := g99 c101 c104
                            refine x_iald (pc2 := 239) Hl3 h105 h106 dX3_worth_238 rfl ?_
                            refine x_goto (tgt := 243) dX3_worth_239 (by decide) ?_
                            exact x_topI ((if_pos c101).trans (if_neg c104)) kj
                        · skip
                          refine x_iload (pc2 := 225) dX3_worth_223 rfl rfl ?_
                          refine x_goto (tgt := 243) dX3_worth_225 (by decide) ?_
                          exact x_topI (if_neg c101) kj
                      · replace k := k2 c89
                        refine x_aload_n (pc2 := 188) dX3_worth_187 rfl rfl ?_
                        refine x_getf (pc2 := 191) (v := aR (l0 + 2)) fl_X3_15 (icf_0 Hl0) (vrf_1 _ Hl0) dX3_worth_188 rfl ?_
                        refine x_iload (pc2 := 193) dX3_worth_191 rfl rfl ?_
                        refine x_iload (pc2 := 195) dX3_worth_193 rfl rfl ?_
                        refine x_iload (pc2 := 197) dX3_worth_195 rfl rfl ?_
                        refine x_aload (pc2 := 199) dX3_worth_197 rfl rfl ((icr_0 Hl4)).1 ?_
                        exact x_drop (drp_k (drp_k (drp_k (drp_k (drp_k (drp_k (drp_k (drp_u (drp_u (drp_u (drp_u (drp_u (drp_k (drp_k drp_n)))))))))))))) k
                    · replace k := k2 c87
                      refine x_iload (pc2 := 146) dX3_worth_144 rfl rfl ?_
                      refine x_iload (pc2 := 148) dX3_worth_146 rfl rfl ?_
                      obtain ⟨h107, k⟩ := k
                      refine x_i2l (pc2 := 149) dX3_worth_148 rfl h107 ?_
                      refine x_iload (pc2 := 151) dX3_worth_149 rfl rfl ?_
                      refine x_i2l (pc2 := 152) dX3_worth_151 rfl (by decide) ?_
                      exact x_drop (drp_k (drp_k (drp_k (drp_k (drp_k (drp_k (drp_k (drp_u (drp_u (drp_u (drp_u (drp_u (drp_k (drp_k drp_n)))))))))))))) k
                  · replace k := k2 c86
                    refine x_iconst (pc2 := 138) dX3_worth_137 rfl ?_
                    exact x_ireturn dX3_worth_138 ⟨.int, rfl, rfl⟩ k
            · replace k := k2 c34
              refine x_aload_n (pc2 := 86) dX3_worth_85 rfl rfl ?_
              refine x_getf (pc2 := 89) (v := aR (l0 + 2)) fl_X3_15 (icf_0 Hl0) (vrf_1 _ Hl0) dX3_worth_86 rfl ?_
              refine x_iinc (pc2 := 92) (ls2 := [aR l0, aU, aI l2, aR l3, aR l4, aI (l5 + (-1)), aI l6, aI (m (l0 + 1) l6), aI (if (-13) < (m (l0 + 1) l6) then 0 else 1 : Int), aI (if (m (l0 + 1) l6) = (-11) then 1 else (if (m (l0 + 1) l6) ≠ (-12) then 0 else 1 : Int) : Int), aU, aU, aU, aU]) dX3_worth_89 rfl rfl (by decide) rfl ?_
              refine x_iload (pc2 := 94) dX3_worth_92 rfl rfl ?_
              obtain ⟨h108, k⟩ := k
              obtain ⟨h109, k⟩ := k
              refine x_iald (pc2 := 95) (icf_2 Hl0) h108 (by rw [(alf_2 Hl0)]; exact h109) dX3_worth_94 rfl ?_
              refine x_goto (tgt := 99) dX3_worth_95 (by decide) ?_
              refine x_istore (pc2 := 101) (ls2 := [aR l0, aU, aI l2, aR l3, aR l4, aI (l5 + (-1)), aI l6, aI (m (l0 + 1) l6), aI (if (-13) < (m (l0 + 1) l6) then 0 else 1 : Int), aI (if (m (l0 + 1) l6) = (-11) then 1 else (if (m (l0 + 1) l6) ≠ (-12) then 0 else 1 : Int) : Int), aI (m (l0 + 2) (l5 + (-1))), aU, aU, aU]) dX3_worth_99 rfl (by decide) rfl ?_
              refine x_iload (pc2 := 103) dX3_worth_101 rfl rfl ?_
              obtain ⟨k1, k2⟩ := k
              refine x_if_eq (tgt := 124) (pc2 := 106) dX3_worth_103 (by decide) rfl h31 (fun c110 => ?_) (fun c110 => ?_)
              · replace k := k1 c110
                refine x_iconst (pc2 := 125) dX3_worth_124 rfl ?_
                refine x_istore (pc2 := 127) (ls2 := [aR l0, aU, aI l2, aR l3, aR l4, aI (l5 + (-1)), aI l6, aI (m (l0 + 1) l6), aI (if (-13) < (m (l0 + 1) l6) then 0 else 1 : Int), aI (if (m (l0 + 1) l6) = (-11) then 1 else (if (m (l0 + 1) l6) ≠ (-12) then 0 else 1 : Int) : Int), aI (m (l0 + 2) (l5 + (-1))), aI 0, aU, aU]) dX3_worth_125 rfl (by decide) rfl ?_
                refine x_iload (pc2 := 129) dX3_worth_127 rfl rfl ?_
                refine x_aload_n (pc2 := 130) dX3_worth_129 rfl rfl ?_
                refine x_getf (pc2 := 133) (v := aR (l0 + 2)) fl_X3_15 (icf_0 Hl0) (vrf_1 _ Hl0) dX3_worth_130 rfl ?_
                refine x_alenK (pc2 := 134) (n := 64) (Or.inl (icf_2 Hl0)) (alf_2 Hl0) dX3_worth_133 rfl ?_
                obtain ⟨h111, k⟩ := k
                obtain ⟨k1, k2⟩ := k
                refine x_icmp_lt (tgt := 139) (pc2 := 137) dX3_worth_134 (by decide) rfl h111 (by decide) (fun c112 => ?_) (fun c112 => ?_)
                · replace k := k1 c112
                  refine x_iload (pc2 := 141) dX3_worth_139 rfl rfl ?_
                  obtain ⟨k1, k2⟩ := k
                  refine x_if_eq (tgt := 182) (pc2 := 144) dX3_worth_141 (by decide) rfl h31 (fun c113 => ?_) (fun c113 => ?_)
                  · replace k := k1 c113
                    refine x_iload (pc2 := 184) dX3_worth_182 rfl rfl ?_
                    obtain ⟨h114, k⟩ := k
                    obtain ⟨k1, k2⟩ := k
                    refine x_if_eq (tgt := 206) (pc2 := 187) dX3_worth_184 (by decide) rfl h114 (fun c115 => ?_) (fun c115 => ?_)
                    · replace k := k1 c115
                      refine x_iconst (pc2 := 207) dX3_worth_206 rfl ?_
                      refine x_iload (pc2 := 209) dX3_worth_207 rfl rfl ?_
                      refine x_isub (pc2 := 210) dX3_worth_209 rfl ?_
                      refine x_istore (pc2 := 212) (ls2 := [aR l0, aU, aI l2, aR l3, aR l4, aI (l5 + (-1)), aI l6, aI (m (l0 + 1) l6), aI (if (-13) < (m (l0 + 1) l6) then 0 else 1 : Int), aI (if (m (l0 + 1) l6) = (-11) then 1 else (if (m (l0 + 1) l6) ≠ (-12) then 0 else 1 : Int) : Int), aI (m (l0 + 2) (l5 + (-1))), aI 0, aI ((-1) - (m (l0 + 1) l6)), aU]) dX3_worth_210 rfl (by decide) rfl ?_
                      refine x_aload_n (pc2 := 213) dX3_worth_212 rfl rfl ?_
                      refine x_getf (pc2 := 216) (v := aR (l0 + 2)) fl_X3_15 (icf_0 Hl0) (vrf_1 _ Hl0) dX3_worth_213 rfl ?_
                      refine x_iload (pc2 := 218) dX3_worth_216 rfl rfl ?_
                      refine x_iload (pc2 := 220) dX3_worth_218 rfl rfl ?_
                      obtain ⟨g117, k⟩ := k
                      obtain ⟨g120, k⟩ := k
                      obtain ⟨g121, k⟩ := k
                      obtain ⟨g124, k⟩ := k
                      obtain ⟨g125, k⟩ := k
                      have kj : S_X3_worth sc d 243 [aR l0, aU, aI l2, aR l3, aR l4, aI (l5 + (-1)), aI l6, aI (m (l0 + 1) l6), aI (if (-13) < (m (l0 + 1) l6) then 0 else 1 : Int), aI (if (m (l0 + 1) l6) = (-11) then 1 else (if (m (l0 + 1) l6) ≠ (-12) then 0 else 1 : Int) : Int), aI (m (l0 + 2) (l5 + (-1))), aI 0, aI ((-1) - (m (l0 + 1) l6)), aU] [aI (if (m (l0 + 1) l6) < 0 then (if (alen l3) ≤ ((-1) - (m (l0 + 1) l6)) then 0 else (m l3 ((-1) - (m (l0 + 1) l6))) : Int) else (m (l0 + 1) l6) : Int), aI (l5 + (-1)), aR (l0 + 2)] m Q := by
                        refine x_iast (pc2 := 244) (icf_2 Hl0) h108 (by rw [(alf_2 Hl0)]; exact h109) dX3_worth_243 rfl ?_
                        refine x_iinc (pc2 := 247) (ls2 := [aR l0, aU, aI l2, aR l3, aR l4, aI ((l5 + (-1)) + 1), aI l6, aI (m (l0 + 1) l6), aI (if (-13) < (m (l0 + 1) l6) then 0 else 1 : Int), aI (if (m (l0 + 1) l6) = (-11) then 1 else (if (m (l0 + 1) l6) ≠ (-12) then 0 else 1 : Int) : Int), aI (m (l0 + 2) (l5 + (-1))), aI 0, aI ((-1) - (m (l0 + 1) l6)), aU]) dX3_worth_244 rfl rfl (by decide) rfl ?_
                        refine x_iinc (pc2 := 250) (ls2 := [aR l0, aU, aI l2, aR l3, aR l4, aI ((l5 + (-1)) + 1), aI (l6 + 1), aI (m (l0 + 1) l6), aI (if (-13) < (m (l0 + 1) l6) then 0 else 1 : Int), aI (if (m (l0 + 1) l6) = (-11) then 1 else (if (m (l0 + 1) l6) ≠ (-12) then 0 else 1 : Int) : Int), aI (m (l0 + 2) (l5 + (-1))), aI 0, aI ((-1) - (m (l0 + 1) l6)), aU]) dX3_worth_247 rfl rfl (by decide) rfl ?_
                        refine x_goto (tgt := 10) dX3_worth_250 (by decide) ?_
                        exact x_drop (drp_k (drp_k (drp_k (drp_k (drp_k (drp_k (drp_k (drp_u (drp_u (drp_u (drp_u (drp_u (drp_u (drp_k drp_n)))))))))))))) k
                      have h126 := g117 
                      refine x_if_lt (tgt := 228) (pc2 := 223) dX3_worth_220 (by decide) rfl h126 (fun c127 => ?_) (fun c127 => ?_)
                      · skip
                        refine x_iload (pc2 := 230) dX3_worth_228 rfl rfl ?_
                        refine x_aload_n (pc2 := 231) dX3_worth_230 rfl rfl ?_
                        refine x_alen (pc2 := 232) (Or.inl Hl3) dX3_worth_231 rfl ?_
                        have h128 := g120 c127
                        have h129 := g121 c127
                        refine x_icmp_ge (tgt := 242) (pc2 := 235) dX3_worth_232 (by decide) rfl h128 h129 (fun c130 => ?_) (fun c130 => ?_)
                        · skip
                          refine x_iconst (pc2 := 243) dX3_worth_242 rfl ?_
                          exact x_topI ((if_pos c127).trans (if_pos c130)) kj
                        · skip
                          refine x_aload_n (pc2 := 236) dX3_worth_235 rfl rfl ?_
                          refine x_iload (pc2 := 238) dX3_worth_236 rfl rfl ?_
                          have h131 := g124 c127 c130
                          have h132 := g125 c127 c130
                          refine x_iald (pc2 := 239) Hl3 h131 h132 dX3_worth_238 rfl ?_
                          refine x_goto (tgt := 243) dX3_worth_239 (by decide) ?_
                          exact x_topI ((if_pos c127).trans (if_neg c130)) kj
                      · skip
                        refine x_iload (pc2 := 225) dX3_worth_223 rfl rfl ?_
                        refine x_goto (tgt := 243) dX3_worth_225 (by decide) ?_
                        exact x_topI (if_neg c127) kj
                    · replace k := k2 c115
                      refine x_aload_n (pc2 := 188) dX3_worth_187 rfl rfl ?_
                      refine x_getf (pc2 := 191) (v := aR (l0 + 2)) fl_X3_15 (icf_0 Hl0) (vrf_1 _ Hl0) dX3_worth_188 rfl ?_
                      refine x_iload (pc2 := 193) dX3_worth_191 rfl rfl ?_
                      refine x_iload (pc2 := 195) dX3_worth_193 rfl rfl ?_
                      refine x_iload (pc2 := 197) dX3_worth_195 rfl rfl ?_
                      refine x_aload (pc2 := 199) dX3_worth_197 rfl rfl ((icr_0 Hl4)).1 ?_
                      exact x_drop (drp_k (drp_k (drp_k (drp_k (drp_k (drp_k (drp_k (drp_u (drp_u (drp_u (drp_u (drp_u (drp_k (drp_k drp_n)))))))))))))) k
                  · replace k := k2 c113
                    refine x_iload (pc2 := 146) dX3_worth_144 rfl rfl ?_
                    refine x_iload (pc2 := 148) dX3_worth_146 rfl rfl ?_
                    refine x_i2l (pc2 := 149) dX3_worth_148 rfl (by decide) ?_
                    refine x_iload (pc2 := 151) dX3_worth_149 rfl rfl ?_
                    obtain ⟨h133, k⟩ := k
                    refine x_i2l (pc2 := 152) dX3_worth_151 rfl h133 ?_
                    exact x_drop (drp_k (drp_k (drp_k (drp_k (drp_k (drp_k (drp_k (drp_u (drp_u (drp_u (drp_u (drp_u (drp_k (drp_k drp_n)))))))))))))) k
                · replace k := k2 c112
                  refine x_iconst (pc2 := 138) dX3_worth_137 rfl ?_
                  exact x_ireturn dX3_worth_138 ⟨.int, rfl, rfl⟩ k
              · replace k := k2 c110
                refine x_iload (pc2 := 108) dX3_worth_106 rfl rfl ?_
                obtain ⟨h134, k⟩ := k
                obtain ⟨k1, k2⟩ := k
                refine x_if_le (tgt := 124) (pc2 := 111) dX3_worth_108 (by decide) rfl h134 (fun c135 => ?_) (fun c135 => ?_)
                · replace k := k1 c135
                  refine x_iconst (pc2 := 125) dX3_worth_124 rfl ?_
                  refine x_istore (pc2 := 127) (ls2 := [aR l0, aU, aI l2, aR l3, aR l4, aI (l5 + (-1)), aI l6, aI (m (l0 + 1) l6), aI (if (-13) < (m (l0 + 1) l6) then 0 else 1 : Int), aI (if (m (l0 + 1) l6) = (-11) then 1 else (if (m (l0 + 1) l6) ≠ (-12) then 0 else 1 : Int) : Int), aI (m (l0 + 2) (l5 + (-1))), aI 0, aU, aU]) dX3_worth_125 rfl (by decide) rfl ?_
                  refine x_iload (pc2 := 129) dX3_worth_127 rfl rfl ?_
                  refine x_aload_n (pc2 := 130) dX3_worth_129 rfl rfl ?_
                  refine x_getf (pc2 := 133) (v := aR (l0 + 2)) fl_X3_15 (icf_0 Hl0) (vrf_1 _ Hl0) dX3_worth_130 rfl ?_
                  refine x_alenK (pc2 := 134) (n := 64) (Or.inl (icf_2 Hl0)) (alf_2 Hl0) dX3_worth_133 rfl ?_
                  obtain ⟨k1, k2⟩ := k
                  refine x_icmp_lt (tgt := 139) (pc2 := 137) dX3_worth_134 (by decide) rfl h134 (by decide) (fun c136 => ?_) (fun c136 => ?_)
                  · replace k := k1 c136
                    refine x_iload (pc2 := 141) dX3_worth_139 rfl rfl ?_
                    obtain ⟨k1, k2⟩ := k
                    refine x_if_eq (tgt := 182) (pc2 := 144) dX3_worth_141 (by decide) rfl h31 (fun c137 => ?_) (fun c137 => ?_)
                    · replace k := k1 c137
                      refine x_iload (pc2 := 184) dX3_worth_182 rfl rfl ?_
                      obtain ⟨h138, k⟩ := k
                      obtain ⟨k1, k2⟩ := k
                      refine x_if_eq (tgt := 206) (pc2 := 187) dX3_worth_184 (by decide) rfl h138 (fun c139 => ?_) (fun c139 => ?_)
                      · replace k := k1 c139
                        refine x_iconst (pc2 := 207) dX3_worth_206 rfl ?_
                        refine x_iload (pc2 := 209) dX3_worth_207 rfl rfl ?_
                        refine x_isub (pc2 := 210) dX3_worth_209 rfl ?_
                        refine x_istore (pc2 := 212) (ls2 := [aR l0, aU, aI l2, aR l3, aR l4, aI (l5 + (-1)), aI l6, aI (m (l0 + 1) l6), aI (if (-13) < (m (l0 + 1) l6) then 0 else 1 : Int), aI (if (m (l0 + 1) l6) = (-11) then 1 else (if (m (l0 + 1) l6) ≠ (-12) then 0 else 1 : Int) : Int), aI (m (l0 + 2) (l5 + (-1))), aI 0, aI ((-1) - (m (l0 + 1) l6)), aU]) dX3_worth_210 rfl (by decide) rfl ?_
                        refine x_aload_n (pc2 := 213) dX3_worth_212 rfl rfl ?_
                        refine x_getf (pc2 := 216) (v := aR (l0 + 2)) fl_X3_15 (icf_0 Hl0) (vrf_1 _ Hl0) dX3_worth_213 rfl ?_
                        refine x_iload (pc2 := 218) dX3_worth_216 rfl rfl ?_
                        refine x_iload (pc2 := 220) dX3_worth_218 rfl rfl ?_
                        obtain ⟨g141, k⟩ := k
                        obtain ⟨g144, k⟩ := k
                        obtain ⟨g145, k⟩ := k
                        obtain ⟨g148, k⟩ := k
                        obtain ⟨g149, k⟩ := k
                        have kj : S_X3_worth sc d 243 [aR l0, aU, aI l2, aR l3, aR l4, aI (l5 + (-1)), aI l6, aI (m (l0 + 1) l6), aI (if (-13) < (m (l0 + 1) l6) then 0 else 1 : Int), aI (if (m (l0 + 1) l6) = (-11) then 1 else (if (m (l0 + 1) l6) ≠ (-12) then 0 else 1 : Int) : Int), aI (m (l0 + 2) (l5 + (-1))), aI 0, aI ((-1) - (m (l0 + 1) l6)), aU] [aI (if (m (l0 + 1) l6) < 0 then (if (alen l3) ≤ ((-1) - (m (l0 + 1) l6)) then 0 else (m l3 ((-1) - (m (l0 + 1) l6))) : Int) else (m (l0 + 1) l6) : Int), aI (l5 + (-1)), aR (l0 + 2)] m Q := by
                          refine x_iast (pc2 := 244) (icf_2 Hl0) h108 (by rw [(alf_2 Hl0)]; exact h109) dX3_worth_243 rfl ?_
                          refine x_iinc (pc2 := 247) (ls2 := [aR l0, aU, aI l2, aR l3, aR l4, aI ((l5 + (-1)) + 1), aI l6, aI (m (l0 + 1) l6), aI (if (-13) < (m (l0 + 1) l6) then 0 else 1 : Int), aI (if (m (l0 + 1) l6) = (-11) then 1 else (if (m (l0 + 1) l6) ≠ (-12) then 0 else 1 : Int) : Int), aI (m (l0 + 2) (l5 + (-1))), aI 0, aI ((-1) - (m (l0 + 1) l6)), aU]) dX3_worth_244 rfl rfl (by decide) rfl ?_
                          refine x_iinc (pc2 := 250) (ls2 := [aR l0, aU, aI l2, aR l3, aR l4, aI ((l5 + (-1)) + 1), aI (l6 + 1), aI (m (l0 + 1) l6), aI (if (-13) < (m (l0 + 1) l6) then 0 else 1 : Int), aI (if (m (l0 + 1) l6) = (-11) then 1 else (if (m (l0 + 1) l6) ≠ (-12) then 0 else 1 : Int) : Int), aI (m (l0 + 2) (l5 + (-1))), aI 0, aI ((-1) - (m (l0 + 1) l6)), aU]) dX3_worth_247 rfl rfl (by decide) rfl ?_
                          refine x_goto (tgt := 10) dX3_worth_250 (by decide) ?_
                          exact x_drop (drp_k (drp_k (drp_k (drp_k (drp_k (drp_k (drp_k (drp_u (drp_u (drp_u (drp_u (drp_u (drp_u (drp_k drp_n)))))))))))))) k
                        have h150 := g141 
                        refine x_if_lt (tgt := 228) (pc2 := 223) dX3_worth_220 (by decide) rfl h150 (fun c151 => ?_) (fun c151 => ?_)
                        · skip
                          refine x_iload (pc2 := 230) dX3_worth_228 rfl rfl ?_
                          refine x_aload_n (pc2 := 231) dX3_worth_230 rfl rfl ?_
                          refine x_alen (pc2 := 232) (Or.inl Hl3) dX3_worth_231 rfl ?_
                          have h152 := g144 c151
                          have h153 := g145 c151
                          refine x_icmp_ge (tgt := 242) (pc2 := 235) dX3_worth_232 (by decide) rfl h152 h153 (fun c154 => ?_) (fun c154 => ?_)
                          · skip
                            refine x_iconst (pc2 := 243) dX3_worth_242 rfl ?_
                            exact x_topI ((if_pos c151).trans (if_pos c154)) kj
                          · skip
                            refine x_aload_n (pc2 := 236) dX3_worth_235 rfl rfl ?_
                            refine x_iload (pc2 := 238) dX3_worth_236 rfl rfl ?_
                            have h155 := g148 c151 c154
                            have h156 := g149 c151 c154
                            refine x_iald (pc2 := 239) Hl3 h155 h156 dX3_worth_238 rfl ?_
                            refine x_goto (tgt := 243) dX3_worth_239 (by decide) ?_
                            exact x_topI ((if_pos c151).trans (if_neg c154)) kj
                        · skip
                          refine x_iload (pc2 := 225) dX3_worth_223 rfl rfl ?_
                          refine x_goto (tgt := 243) dX3_worth_225 (by decide) ?_
                          exact x_topI (if_neg c151) kj
                      · replace k := k2 c139
                        refine x_aload_n (pc2 := 188) dX3_worth_187 rfl rfl ?_
                        refine x_getf (pc2 := 191) (v := aR (l0 + 2)) fl_X3_15 (icf_0 Hl0) (vrf_1 _ Hl0) dX3_worth_188 rfl ?_
                        refine x_iload (pc2 := 193) dX3_worth_191 rfl rfl ?_
                        refine x_iload (pc2 := 195) dX3_worth_193 rfl rfl ?_
                        refine x_iload (pc2 := 197) dX3_worth_195 rfl rfl ?_
                        refine x_aload (pc2 := 199) dX3_worth_197 rfl rfl ((icr_0 Hl4)).1 ?_
                        exact x_drop (drp_k (drp_k (drp_k (drp_k (drp_k (drp_k (drp_k (drp_u (drp_u (drp_u (drp_u (drp_u (drp_k (drp_k drp_n)))))))))))))) k
                    · replace k := k2 c137
                      refine x_iload (pc2 := 146) dX3_worth_144 rfl rfl ?_
                      refine x_iload (pc2 := 148) dX3_worth_146 rfl rfl ?_
                      refine x_i2l (pc2 := 149) dX3_worth_148 rfl (by decide) ?_
                      refine x_iload (pc2 := 151) dX3_worth_149 rfl rfl ?_
                      obtain ⟨h157, k⟩ := k
                      refine x_i2l (pc2 := 152) dX3_worth_151 rfl h157 ?_
                      exact x_drop (drp_k (drp_k (drp_k (drp_k (drp_k (drp_k (drp_k (drp_u (drp_u (drp_u (drp_u (drp_u (drp_k (drp_k drp_n)))))))))))))) k
                  · replace k := k2 c136
                    refine x_iconst (pc2 := 138) dX3_worth_137 rfl ?_
                    exact x_ireturn dX3_worth_138 ⟨.int, rfl, rfl⟩ k
                · replace k := k2 c135
                  refine x_aload_n (pc2 := 112) dX3_worth_111 rfl rfl ?_
                  refine x_getf (pc2 := 115) (v := aR (l0 + 2)) fl_X3_15 (icf_0 Hl0) (vrf_1 _ Hl0) dX3_worth_112 rfl ?_
                  refine x_iinc (pc2 := 118) (ls2 := [aR l0, aU, aI l2, aR l3, aR l4, aI ((l5 + (-1)) + (-1)), aI l6, aI (m (l0 + 1) l6), aI (if (-13) < (m (l0 + 1) l6) then 0 else 1 : Int), aI (if (m (l0 + 1) l6) = (-11) then 1 else (if (m (l0 + 1) l6) ≠ (-12) then 0 else 1 : Int) : Int), aI (m (l0 + 2) (l5 + (-1))), aU, aU, aU]) dX3_worth_115 rfl rfl (by decide) rfl ?_
                  refine x_iload (pc2 := 120) dX3_worth_118 rfl rfl ?_
                  obtain ⟨h158, k⟩ := k
                  obtain ⟨h159, k⟩ := k
                  refine x_iald (pc2 := 121) (icf_2 Hl0) h158 (by rw [(alf_2 Hl0)]; exact h159) dX3_worth_120 rfl ?_
                  refine x_goto (tgt := 125) dX3_worth_121 (by decide) ?_
                  refine x_istore (pc2 := 127) (ls2 := [aR l0, aU, aI l2, aR l3, aR l4, aI ((l5 + (-1)) + (-1)), aI l6, aI (m (l0 + 1) l6), aI (if (-13) < (m (l0 + 1) l6) then 0 else 1 : Int), aI (if (m (l0 + 1) l6) = (-11) then 1 else (if (m (l0 + 1) l6) ≠ (-12) then 0 else 1 : Int) : Int), aI (m (l0 + 2) (l5 + (-1))), aI (m (l0 + 2) ((l5 + (-1)) + (-1))), aU, aU]) dX3_worth_125 rfl (by decide) rfl ?_
                  refine x_iload (pc2 := 129) dX3_worth_127 rfl rfl ?_
                  refine x_aload_n (pc2 := 130) dX3_worth_129 rfl rfl ?_
                  refine x_getf (pc2 := 133) (v := aR (l0 + 2)) fl_X3_15 (icf_0 Hl0) (vrf_1 _ Hl0) dX3_worth_130 rfl ?_
                  refine x_alenK (pc2 := 134) (n := 64) (Or.inl (icf_2 Hl0)) (alf_2 Hl0) dX3_worth_133 rfl ?_
                  obtain ⟨h160, k⟩ := k
                  obtain ⟨k1, k2⟩ := k
                  refine x_icmp_lt (tgt := 139) (pc2 := 137) dX3_worth_134 (by decide) rfl h160 (by decide) (fun c161 => ?_) (fun c161 => ?_)
                  · replace k := k1 c161
                    refine x_iload (pc2 := 141) dX3_worth_139 rfl rfl ?_
                    obtain ⟨k1, k2⟩ := k
                    refine x_if_eq (tgt := 182) (pc2 := 144) dX3_worth_141 (by decide) rfl h31 (fun c162 => ?_) (fun c162 => ?_)
                    · replace k := k1 c162
                      refine x_iload (pc2 := 184) dX3_worth_182 rfl rfl ?_
                      obtain ⟨h163, k⟩ := k
                      obtain ⟨k1, k2⟩ := k
                      refine x_if_eq (tgt := 206) (pc2 := 187) dX3_worth_184 (by decide) rfl h163 (fun c164 => ?_) (fun c164 => ?_)
                      · replace k := k1 c164
                        refine x_iconst (pc2 := 207) dX3_worth_206 rfl ?_
                        refine x_iload (pc2 := 209) dX3_worth_207 rfl rfl ?_
                        refine x_isub (pc2 := 210) dX3_worth_209 rfl ?_
                        refine x_istore (pc2 := 212) (ls2 := [aR l0, aU, aI l2, aR l3, aR l4, aI ((l5 + (-1)) + (-1)), aI l6, aI (m (l0 + 1) l6), aI (if (-13) < (m (l0 + 1) l6) then 0 else 1 : Int), aI (if (m (l0 + 1) l6) = (-11) then 1 else (if (m (l0 + 1) l6) ≠ (-12) then 0 else 1 : Int) : Int), aI (m (l0 + 2) (l5 + (-1))), aI (m (l0 + 2) ((l5 + (-1)) + (-1))), aI ((-1) - (m (l0 + 1) l6)), aU]) dX3_worth_210 rfl (by decide) rfl ?_
                        refine x_aload_n (pc2 := 213) dX3_worth_212 rfl rfl ?_
                        refine x_getf (pc2 := 216) (v := aR (l0 + 2)) fl_X3_15 (icf_0 Hl0) (vrf_1 _ Hl0) dX3_worth_213 rfl ?_
                        refine x_iload (pc2 := 218) dX3_worth_216 rfl rfl ?_
                        refine x_iload (pc2 := 220) dX3_worth_218 rfl rfl ?_
                        obtain ⟨g166, k⟩ := k
                        obtain ⟨g169, k⟩ := k
                        obtain ⟨g170, k⟩ := k
                        obtain ⟨g173, k⟩ := k
                        obtain ⟨g174, k⟩ := k
                        have kj : S_X3_worth sc d 243 [aR l0, aU, aI l2, aR l3, aR l4, aI ((l5 + (-1)) + (-1)), aI l6, aI (m (l0 + 1) l6), aI (if (-13) < (m (l0 + 1) l6) then 0 else 1 : Int), aI (if (m (l0 + 1) l6) = (-11) then 1 else (if (m (l0 + 1) l6) ≠ (-12) then 0 else 1 : Int) : Int), aI (m (l0 + 2) (l5 + (-1))), aI (m (l0 + 2) ((l5 + (-1)) + (-1))), aI ((-1) - (m (l0 + 1) l6)), aU] [aI (if (m (l0 + 1) l6) < 0 then (if (alen l3) ≤ ((-1) - (m (l0 + 1) l6)) then 0 else (m l3 ((-1) - (m (l0 + 1) l6))) : Int) else (m (l0 + 1) l6) : Int), aI ((l5 + (-1)) + (-1)), aR (l0 + 2)] m Q := by
                          refine x_iast (pc2 := 244) (icf_2 Hl0) h158 (by rw [(alf_2 Hl0)]; exact h159) dX3_worth_243 rfl ?_
                          refine x_iinc (pc2 := 247) (ls2 := [aR l0, aU, aI l2, aR l3, aR l4, aI (((l5 + (-1)) + (-1)) + 1), aI l6, aI (m (l0 + 1) l6), aI (if (-13) < (m (l0 + 1) l6) then 0 else 1 : Int), aI (if (m (l0 + 1) l6) = (-11) then 1 else (if (m (l0 + 1) l6) ≠ (-12) then 0 else 1 : Int) : Int), aI (m (l0 + 2) (l5 + (-1))), aI (m (l0 + 2) ((l5 + (-1)) + (-1))), aI ((-1) - (m (l0 + 1) l6)), aU]) dX3_worth_244 rfl rfl (by decide) rfl ?_
                          refine x_iinc (pc2 := 250) (ls2 := [aR l0, aU, aI l2, aR l3, aR l4, aI (((l5 + (-1)) + (-1)) + 1), aI (l6 + 1), aI (m (l0 + 1) l6), aI (if (-13) < (m (l0 + 1) l6) then 0 else 1 : Int), aI (if (m (l0 + 1) l6) = (-11) then 1 else (if (m (l0 + 1) l6) ≠ (-12) then 0 else 1 : Int) : Int), aI (m (l0 + 2) (l5 + (-1))), aI (m (l0 + 2) ((l5 + (-1)) + (-1))), aI ((-1) - (m (l0 + 1) l6)), aU]) dX3_worth_247 rfl rfl (by decide) rfl ?_
                          refine x_goto (tgt := 10) dX3_worth_250 (by decide) ?_
                          exact x_drop (drp_k (drp_k (drp_k (drp_k (drp_k (drp_k (drp_k (drp_u (drp_u (drp_u (drp_u (drp_u (drp_u (drp_k drp_n)))))))))))))) k
                        have h175 := g166 
                        refine x_if_lt (tgt := 228) (pc2 := 223) dX3_worth_220 (by decide) rfl h175 (fun c176 => ?_) (fun c176 => ?_)
                        · skip
                          refine x_iload (pc2 := 230) dX3_worth_228 rfl rfl ?_
                          refine x_aload_n (pc2 := 231) dX3_worth_230 rfl rfl ?_
                          refine x_alen (pc2 := 232) (Or.inl Hl3) dX3_worth_231 rfl ?_
                          have h177 := g169 c176
                          have h178 := g170 c176
                          refine x_icmp_ge (tgt := 242) (pc2 := 235) dX3_worth_232 (by decide) rfl h177 h178 (fun c179 => ?_) (fun c179 => ?_)
                          · skip
                            refine x_iconst (pc2 := 243) dX3_worth_242 rfl ?_
                            exact x_topI ((if_pos c176).trans (if_pos c179)) kj
                          · skip
                            refine x_aload_n (pc2 := 236) dX3_worth_235 rfl rfl ?_
                            refine x_iload (pc2 := 238) dX3_worth_236 rfl rfl ?_
                            have h180 := g173 c176 c179
                            have h181 := g174 c176 c179
                            refine x_iald (pc2 := 239) Hl3 h180 h181 dX3_worth_238 rfl ?_
                            refine x_goto (tgt := 243) dX3_worth_239 (by decide) ?_
                            exact x_topI ((if_pos c176).trans (if_neg c179)) kj
                        · skip
                          refine x_iload (pc2 := 225) dX3_worth_223 rfl rfl ?_
                          refine x_goto (tgt := 243) dX3_worth_225 (by decide) ?_
                          exact x_topI (if_neg c176) kj
                      · replace k := k2 c164
                        refine x_aload_n (pc2 := 188) dX3_worth_187 rfl rfl ?_
                        refine x_getf (pc2 := 191) (v := aR (l0 + 2)) fl_X3_15 (icf_0 Hl0) (vrf_1 _ Hl0) dX3_worth_188 rfl ?_
                        refine x_iload (pc2 := 193) dX3_worth_191 rfl rfl ?_
                        refine x_iload (pc2 := 195) dX3_worth_193 rfl rfl ?_
                        refine x_iload (pc2 := 197) dX3_worth_195 rfl rfl ?_
                        refine x_aload (pc2 := 199) dX3_worth_197 rfl rfl ((icr_0 Hl4)).1 ?_
                        exact x_drop (drp_k (drp_k (drp_k (drp_k (drp_k (drp_k (drp_k (drp_u (drp_u (drp_u (drp_u (drp_u (drp_k (drp_k drp_n)))))))))))))) k
                    · replace k := k2 c162
                      refine x_iload (pc2 := 146) dX3_worth_144 rfl rfl ?_
                      refine x_iload (pc2 := 148) dX3_worth_146 rfl rfl ?_
                      obtain ⟨h182, k⟩ := k
                      refine x_i2l (pc2 := 149) dX3_worth_148 rfl h182 ?_
                      refine x_iload (pc2 := 151) dX3_worth_149 rfl rfl ?_
                      obtain ⟨h183, k⟩ := k
                      refine x_i2l (pc2 := 152) dX3_worth_151 rfl h183 ?_
                      exact x_drop (drp_k (drp_k (drp_k (drp_k (drp_k (drp_k (drp_k (drp_u (drp_u (drp_u (drp_u (drp_u (drp_k (drp_k drp_n)))))))))))))) k
                  · replace k := k2 c161
                    refine x_iconst (pc2 := 138) dX3_worth_137 rfl ?_
                    exact x_ireturn dX3_worth_138 ⟨.int, rfl, rfl⟩ k
          · replace k := k2 c32
            refine x_iload (pc2 := 77) dX3_worth_75 rfl rfl ?_
            obtain ⟨h184, k⟩ := k
            obtain ⟨k1, k2⟩ := k
            refine x_if_eq (tgt := 98) (pc2 := 80) dX3_worth_77 (by decide) rfl h184 (fun c185 => ?_) (fun c185 => ?_)
            · replace k := k1 c185
              refine x_iconst (pc2 := 99) dX3_worth_98 rfl ?_
              refine x_istore (pc2 := 101) (ls2 := [aR l0, aU, aI l2, aR l3, aR l4, aI l5, aI l6, aI (m (l0 + 1) l6), aI (if (-13) < (m (l0 + 1) l6) then 0 else 1 : Int), aI (if (m (l0 + 1) l6) = (-11) then 1 else (if (m (l0 + 1) l6) ≠ (-12) then 0 else 1 : Int) : Int), aI 0, aU, aU, aU]) dX3_worth_99 rfl (by decide) rfl ?_
              refine x_iload (pc2 := 103) dX3_worth_101 rfl rfl ?_
              obtain ⟨k1, k2⟩ := k
              refine x_if_eq (tgt := 124) (pc2 := 106) dX3_worth_103 (by decide) rfl h31 (fun c186 => ?_) (fun c186 => ?_)
              · replace k := k1 c186
                refine x_iconst (pc2 := 125) dX3_worth_124 rfl ?_
                refine x_istore (pc2 := 127) (ls2 := [aR l0, aU, aI l2, aR l3, aR l4, aI l5, aI l6, aI (m (l0 + 1) l6), aI (if (-13) < (m (l0 + 1) l6) then 0 else 1 : Int), aI (if (m (l0 + 1) l6) = (-11) then 1 else (if (m (l0 + 1) l6) ≠ (-12) then 0 else 1 : Int) : Int), aI 0, aI 0, aU, aU]) dX3_worth_125 rfl (by decide) rfl ?_
                refine x_iload (pc2 := 129) dX3_worth_127 rfl rfl ?_
                refine x_aload_n (pc2 := 130) dX3_worth_129 rfl rfl ?_
                refine x_getf (pc2 := 133) (v := aR (l0 + 2)) fl_X3_15 (icf_0 Hl0) (vrf_1 _ Hl0) dX3_worth_130 rfl ?_
                refine x_alenK (pc2 := 134) (n := 64) (Or.inl (icf_2 Hl0)) (alf_2 Hl0) dX3_worth_133 rfl ?_
                obtain ⟨h187, k⟩ := k
                obtain ⟨k1, k2⟩ := k
                refine x_icmp_lt (tgt := 139) (pc2 := 137) dX3_worth_134 (by decide) rfl h187 (by decide) (fun c188 => ?_) (fun c188 => ?_)
                · replace k := k1 c188
                  refine x_iload (pc2 := 141) dX3_worth_139 rfl rfl ?_
                  obtain ⟨k1, k2⟩ := k
                  refine x_if_eq (tgt := 182) (pc2 := 144) dX3_worth_141 (by decide) rfl h31 (fun c189 => ?_) (fun c189 => ?_)
                  · replace k := k1 c189
                    refine x_iload (pc2 := 184) dX3_worth_182 rfl rfl ?_
                    obtain ⟨k1, k2⟩ := k
                    refine x_if_eq (tgt := 206) (pc2 := 187) dX3_worth_184 (by decide) rfl h184 (fun c190 => ?_) (fun c190 => ?_)
                    · replace k := k1 c190
                      refine x_iconst (pc2 := 207) dX3_worth_206 rfl ?_
                      refine x_iload (pc2 := 209) dX3_worth_207 rfl rfl ?_
                      refine x_isub (pc2 := 210) dX3_worth_209 rfl ?_
                      refine x_istore (pc2 := 212) (ls2 := [aR l0, aU, aI l2, aR l3, aR l4, aI l5, aI l6, aI (m (l0 + 1) l6), aI (if (-13) < (m (l0 + 1) l6) then 0 else 1 : Int), aI (if (m (l0 + 1) l6) = (-11) then 1 else (if (m (l0 + 1) l6) ≠ (-12) then 0 else 1 : Int) : Int), aI 0, aI 0, aI ((-1) - (m (l0 + 1) l6)), aU]) dX3_worth_210 rfl (by decide) rfl ?_
                      refine x_aload_n (pc2 := 213) dX3_worth_212 rfl rfl ?_
                      refine x_getf (pc2 := 216) (v := aR (l0 + 2)) fl_X3_15 (icf_0 Hl0) (vrf_1 _ Hl0) dX3_worth_213 rfl ?_
                      refine x_iload (pc2 := 218) dX3_worth_216 rfl rfl ?_
                      refine x_iload (pc2 := 220) dX3_worth_218 rfl rfl ?_
                      obtain ⟨g192, k⟩ := k
                      obtain ⟨g195, k⟩ := k
                      obtain ⟨g196, k⟩ := k
                      obtain ⟨g199, k⟩ := k
                      obtain ⟨g200, k⟩ := k
                      have kj : S_X3_worth sc d 243 [aR l0, aU, aI l2, aR l3, aR l4, aI l5, aI l6, aI (m (l0 + 1) l6), aI (if (-13) < (m (l0 + 1) l6) then 0 else 1 : Int), aI (if (m (l0 + 1) l6) = (-11) then 1 else (if (m (l0 + 1) l6) ≠ (-12) then 0 else 1 : Int) : Int), aI 0, aI 0, aI ((-1) - (m (l0 + 1) l6)), aU] [aI (if (m (l0 + 1) l6) < 0 then (if (alen l3) ≤ ((-1) - (m (l0 + 1) l6)) then 0 else (m l3 ((-1) - (m (l0 + 1) l6))) : Int) else (m (l0 + 1) l6) : Int), aI l5, aR (l0 + 2)] m Q := by
                        obtain ⟨h201, k⟩ := k
                        obtain ⟨h202, k⟩ := k
                        refine x_iast (pc2 := 244) (icf_2 Hl0) h201 (by rw [(alf_2 Hl0)]; exact h202) dX3_worth_243 rfl ?_
                        refine x_iinc (pc2 := 247) (ls2 := [aR l0, aU, aI l2, aR l3, aR l4, aI (l5 + 1), aI l6, aI (m (l0 + 1) l6), aI (if (-13) < (m (l0 + 1) l6) then 0 else 1 : Int), aI (if (m (l0 + 1) l6) = (-11) then 1 else (if (m (l0 + 1) l6) ≠ (-12) then 0 else 1 : Int) : Int), aI 0, aI 0, aI ((-1) - (m (l0 + 1) l6)), aU]) dX3_worth_244 rfl rfl (by decide) rfl ?_
                        refine x_iinc (pc2 := 250) (ls2 := [aR l0, aU, aI l2, aR l3, aR l4, aI (l5 + 1), aI (l6 + 1), aI (m (l0 + 1) l6), aI (if (-13) < (m (l0 + 1) l6) then 0 else 1 : Int), aI (if (m (l0 + 1) l6) = (-11) then 1 else (if (m (l0 + 1) l6) ≠ (-12) then 0 else 1 : Int) : Int), aI 0, aI 0, aI ((-1) - (m (l0 + 1) l6)), aU]) dX3_worth_247 rfl rfl (by decide) rfl ?_
                        refine x_goto (tgt := 10) dX3_worth_250 (by decide) ?_
                        exact x_drop (drp_k (drp_k (drp_k (drp_k (drp_k (drp_k (drp_k (drp_u (drp_u (drp_u (drp_u (drp_u (drp_u (drp_k drp_n)))))))))))))) k
                      have h203 := g192 
                      refine x_if_lt (tgt := 228) (pc2 := 223) dX3_worth_220 (by decide) rfl h203 (fun c204 => ?_) (fun c204 => ?_)
                      · skip
                        refine x_iload (pc2 := 230) dX3_worth_228 rfl rfl ?_
                        refine x_aload_n (pc2 := 231) dX3_worth_230 rfl rfl ?_
                        refine x_alen (pc2 := 232) (Or.inl Hl3) dX3_worth_231 rfl ?_
                        have h205 := g195 c204
                        have h206 := g196 c204
                        refine x_icmp_ge (tgt := 242) (pc2 := 235) dX3_worth_232 (by decide) rfl h205 h206 (fun c207 => ?_) (fun c207 => ?_)
                        · skip
                          refine x_iconst (pc2 := 243) dX3_worth_242 rfl ?_
                          exact x_topI ((if_pos c204).trans (if_pos c207)) kj
                        · skip
                          refine x_aload_n (pc2 := 236) dX3_worth_235 rfl rfl ?_
                          refine x_iload (pc2 := 238) dX3_worth_236 rfl rfl ?_
                          have h208 := g199 c204 c207
                          have h209 := g200 c204 c207
                          refine x_iald (pc2 := 239) Hl3 h208 h209 dX3_worth_238 rfl ?_
                          refine x_goto (tgt := 243) dX3_worth_239 (by decide) ?_
                          exact x_topI ((if_pos c204).trans (if_neg c207)) kj
                      · skip
                        refine x_iload (pc2 := 225) dX3_worth_223 rfl rfl ?_
                        refine x_goto (tgt := 243) dX3_worth_225 (by decide) ?_
                        exact x_topI (if_neg c204) kj
                    · replace k := k2 c190
                      refine x_aload_n (pc2 := 188) dX3_worth_187 rfl rfl ?_
                      refine x_getf (pc2 := 191) (v := aR (l0 + 2)) fl_X3_15 (icf_0 Hl0) (vrf_1 _ Hl0) dX3_worth_188 rfl ?_
                      refine x_iload (pc2 := 193) dX3_worth_191 rfl rfl ?_
                      refine x_iload (pc2 := 195) dX3_worth_193 rfl rfl ?_
                      refine x_iload (pc2 := 197) dX3_worth_195 rfl rfl ?_
                      refine x_aload (pc2 := 199) dX3_worth_197 rfl rfl ((icr_0 Hl4)).1 ?_
                      exact x_drop (drp_k (drp_k (drp_k (drp_k (drp_k (drp_k (drp_k (drp_u (drp_u (drp_u (drp_u (drp_u (drp_k (drp_k drp_n)))))))))))))) k
                  · replace k := k2 c189
                    refine x_iload (pc2 := 146) dX3_worth_144 rfl rfl ?_
                    refine x_iload (pc2 := 148) dX3_worth_146 rfl rfl ?_
                    refine x_i2l (pc2 := 149) dX3_worth_148 rfl (by decide) ?_
                    refine x_iload (pc2 := 151) dX3_worth_149 rfl rfl ?_
                    refine x_i2l (pc2 := 152) dX3_worth_151 rfl (by decide) ?_
                    exact x_drop (drp_k (drp_k (drp_k (drp_k (drp_k (drp_k (drp_k (drp_u (drp_u (drp_u (drp_u (drp_u (drp_k (drp_k drp_n)))))))))))))) k
                · replace k := k2 c188
                  refine x_iconst (pc2 := 138) dX3_worth_137 rfl ?_
                  exact x_ireturn dX3_worth_138 ⟨.int, rfl, rfl⟩ k
              · replace k := k2 c186
                refine x_iload (pc2 := 108) dX3_worth_106 rfl rfl ?_
                obtain ⟨h210, k⟩ := k
                obtain ⟨k1, k2⟩ := k
                refine x_if_le (tgt := 124) (pc2 := 111) dX3_worth_108 (by decide) rfl h210 (fun c211 => ?_) (fun c211 => ?_)
                · replace k := k1 c211
                  refine x_iconst (pc2 := 125) dX3_worth_124 rfl ?_
                  refine x_istore (pc2 := 127) (ls2 := [aR l0, aU, aI l2, aR l3, aR l4, aI l5, aI l6, aI (m (l0 + 1) l6), aI (if (-13) < (m (l0 + 1) l6) then 0 else 1 : Int), aI (if (m (l0 + 1) l6) = (-11) then 1 else (if (m (l0 + 1) l6) ≠ (-12) then 0 else 1 : Int) : Int), aI 0, aI 0, aU, aU]) dX3_worth_125 rfl (by decide) rfl ?_
                  refine x_iload (pc2 := 129) dX3_worth_127 rfl rfl ?_
                  refine x_aload_n (pc2 := 130) dX3_worth_129 rfl rfl ?_
                  refine x_getf (pc2 := 133) (v := aR (l0 + 2)) fl_X3_15 (icf_0 Hl0) (vrf_1 _ Hl0) dX3_worth_130 rfl ?_
                  refine x_alenK (pc2 := 134) (n := 64) (Or.inl (icf_2 Hl0)) (alf_2 Hl0) dX3_worth_133 rfl ?_
                  obtain ⟨k1, k2⟩ := k
                  refine x_icmp_lt (tgt := 139) (pc2 := 137) dX3_worth_134 (by decide) rfl h210 (by decide) (fun c212 => ?_) (fun c212 => ?_)
                  · replace k := k1 c212
                    refine x_iload (pc2 := 141) dX3_worth_139 rfl rfl ?_
                    obtain ⟨k1, k2⟩ := k
                    refine x_if_eq (tgt := 182) (pc2 := 144) dX3_worth_141 (by decide) rfl h31 (fun c213 => ?_) (fun c213 => ?_)
                    · replace k := k1 c213
                      refine x_iload (pc2 := 184) dX3_worth_182 rfl rfl ?_
                      obtain ⟨k1, k2⟩ := k
                      refine x_if_eq (tgt := 206) (pc2 := 187) dX3_worth_184 (by decide) rfl h184 (fun c214 => ?_) (fun c214 => ?_)
                      · replace k := k1 c214
                        refine x_iconst (pc2 := 207) dX3_worth_206 rfl ?_
                        refine x_iload (pc2 := 209) dX3_worth_207 rfl rfl ?_
                        refine x_isub (pc2 := 210) dX3_worth_209 rfl ?_
                        refine x_istore (pc2 := 212) (ls2 := [aR l0, aU, aI l2, aR l3, aR l4, aI l5, aI l6, aI (m (l0 + 1) l6), aI (if (-13) < (m (l0 + 1) l6) then 0 else 1 : Int), aI (if (m (l0 + 1) l6) = (-11) then 1 else (if (m (l0 + 1) l6) ≠ (-12) then 0 else 1 : Int) : Int), aI 0, aI 0, aI ((-1) - (m (l0 + 1) l6)), aU]) dX3_worth_210 rfl (by decide) rfl ?_
                        refine x_aload_n (pc2 := 213) dX3_worth_212 rfl rfl ?_
                        refine x_getf (pc2 := 216) (v := aR (l0 + 2)) fl_X3_15 (icf_0 Hl0) (vrf_1 _ Hl0) dX3_worth_213 rfl ?_
                        refine x_iload (pc2 := 218) dX3_worth_216 rfl rfl ?_
                        refine x_iload (pc2 := 220) dX3_worth_218 rfl rfl ?_
                        obtain ⟨g216, k⟩ := k
                        obtain ⟨g219, k⟩ := k
                        obtain ⟨g220, k⟩ := k
                        obtain ⟨g223, k⟩ := k
                        obtain ⟨g224, k⟩ := k
                        have kj : S_X3_worth sc d 243 [aR l0, aU, aI l2, aR l3, aR l4, aI l5, aI l6, aI (m (l0 + 1) l6), aI (if (-13) < (m (l0 + 1) l6) then 0 else 1 : Int), aI (if (m (l0 + 1) l6) = (-11) then 1 else (if (m (l0 + 1) l6) ≠ (-12) then 0 else 1 : Int) : Int), aI 0, aI 0, aI ((-1) - (m (l0 + 1) l6)), aU] [aI (if (m (l0 + 1) l6) < 0 then (if (alen l3) ≤ ((-1) - (m (l0 + 1) l6)) then 0 else (m l3 ((-1) - (m (l0 + 1) l6))) : Int) else (m (l0 + 1) l6) : Int), aI l5, aR (l0 + 2)] m Q := by
                          obtain ⟨h225, k⟩ := k
                          obtain ⟨h226, k⟩ := k
                          refine x_iast (pc2 := 244) (icf_2 Hl0) h225 (by rw [(alf_2 Hl0)]; exact h226) dX3_worth_243 rfl ?_
                          refine x_iinc (pc2 := 247) (ls2 := [aR l0, aU, aI l2, aR l3, aR l4, aI (l5 + 1), aI l6, aI (m (l0 + 1) l6), aI (if (-13) < (m (l0 + 1) l6) then 0 else 1 : Int), aI (if (m (l0 + 1) l6) = (-11) then 1 else (if (m (l0 + 1) l6) ≠ (-12) then 0 else 1 : Int) : Int), aI 0, aI 0, aI ((-1) - (m (l0 + 1) l6)), aU]) dX3_worth_244 rfl rfl (by decide) rfl ?_
                          refine x_iinc (pc2 := 250) (ls2 := [aR l0, aU, aI l2, aR l3, aR l4, aI (l5 + 1), aI (l6 + 1), aI (m (l0 + 1) l6), aI (if (-13) < (m (l0 + 1) l6) then 0 else 1 : Int), aI (if (m (l0 + 1) l6) = (-11) then 1 else (if (m (l0 + 1) l6) ≠ (-12) then 0 else 1 : Int) : Int), aI 0, aI 0, aI ((-1) - (m (l0 + 1) l6)), aU]) dX3_worth_247 rfl rfl (by decide) rfl ?_
                          refine x_goto (tgt := 10) dX3_worth_250 (by decide) ?_
                          exact x_drop (drp_k (drp_k (drp_k (drp_k (drp_k (drp_k (drp_k (drp_u (drp_u (drp_u (drp_u (drp_u (drp_u (drp_k drp_n)))))))))))))) k
                        have h227 := g216 
                        refine x_if_lt (tgt := 228) (pc2 := 223) dX3_worth_220 (by decide) rfl h227 (fun c228 => ?_) (fun c228 => ?_)
                        · skip
                          refine x_iload (pc2 := 230) dX3_worth_228 rfl rfl ?_
                          refine x_aload_n (pc2 := 231) dX3_worth_230 rfl rfl ?_
                          refine x_alen (pc2 := 232) (Or.inl Hl3) dX3_worth_231 rfl ?_
                          have h229 := g219 c228
                          have h230 := g220 c228
                          refine x_icmp_ge (tgt := 242) (pc2 := 235) dX3_worth_232 (by decide) rfl h229 h230 (fun c231 => ?_) (fun c231 => ?_)
                          · skip
                            refine x_iconst (pc2 := 243) dX3_worth_242 rfl ?_
                            exact x_topI ((if_pos c228).trans (if_pos c231)) kj
                          · skip
                            refine x_aload_n (pc2 := 236) dX3_worth_235 rfl rfl ?_
                            refine x_iload (pc2 := 238) dX3_worth_236 rfl rfl ?_
                            have h232 := g223 c228 c231
                            have h233 := g224 c228 c231
                            refine x_iald (pc2 := 239) Hl3 h232 h233 dX3_worth_238 rfl ?_
                            refine x_goto (tgt := 243) dX3_worth_239 (by decide) ?_
                            exact x_topI ((if_pos c228).trans (if_neg c231)) kj
                        · skip
                          refine x_iload (pc2 := 225) dX3_worth_223 rfl rfl ?_
                          refine x_goto (tgt := 243) dX3_worth_225 (by decide) ?_
                          exact x_topI (if_neg c228) kj
                      · replace k := k2 c214
                        refine x_aload_n (pc2 := 188) dX3_worth_187 rfl rfl ?_
                        refine x_getf (pc2 := 191) (v := aR (l0 + 2)) fl_X3_15 (icf_0 Hl0) (vrf_1 _ Hl0) dX3_worth_188 rfl ?_
                        refine x_iload (pc2 := 193) dX3_worth_191 rfl rfl ?_
                        refine x_iload (pc2 := 195) dX3_worth_193 rfl rfl ?_
                        refine x_iload (pc2 := 197) dX3_worth_195 rfl rfl ?_
                        refine x_aload (pc2 := 199) dX3_worth_197 rfl rfl ((icr_0 Hl4)).1 ?_
                        exact x_drop (drp_k (drp_k (drp_k (drp_k (drp_k (drp_k (drp_k (drp_u (drp_u (drp_u (drp_u (drp_u (drp_k (drp_k drp_n)))))))))))))) k
                    · replace k := k2 c213
                      refine x_iload (pc2 := 146) dX3_worth_144 rfl rfl ?_
                      refine x_iload (pc2 := 148) dX3_worth_146 rfl rfl ?_
                      refine x_i2l (pc2 := 149) dX3_worth_148 rfl (by decide) ?_
                      refine x_iload (pc2 := 151) dX3_worth_149 rfl rfl ?_
                      refine x_i2l (pc2 := 152) dX3_worth_151 rfl (by decide) ?_
                      exact x_drop (drp_k (drp_k (drp_k (drp_k (drp_k (drp_k (drp_k (drp_u (drp_u (drp_u (drp_u (drp_u (drp_k (drp_k drp_n)))))))))))))) k
                  · replace k := k2 c212
                    refine x_iconst (pc2 := 138) dX3_worth_137 rfl ?_
                    exact x_ireturn dX3_worth_138 ⟨.int, rfl, rfl⟩ k
                · replace k := k2 c211
                  refine x_aload_n (pc2 := 112) dX3_worth_111 rfl rfl ?_
                  refine x_getf (pc2 := 115) (v := aR (l0 + 2)) fl_X3_15 (icf_0 Hl0) (vrf_1 _ Hl0) dX3_worth_112 rfl ?_
                  refine x_iinc (pc2 := 118) (ls2 := [aR l0, aU, aI l2, aR l3, aR l4, aI (l5 + (-1)), aI l6, aI (m (l0 + 1) l6), aI (if (-13) < (m (l0 + 1) l6) then 0 else 1 : Int), aI (if (m (l0 + 1) l6) = (-11) then 1 else (if (m (l0 + 1) l6) ≠ (-12) then 0 else 1 : Int) : Int), aI 0, aU, aU, aU]) dX3_worth_115 rfl rfl (by decide) rfl ?_
                  refine x_iload (pc2 := 120) dX3_worth_118 rfl rfl ?_
                  obtain ⟨h234, k⟩ := k
                  obtain ⟨h235, k⟩ := k
                  refine x_iald (pc2 := 121) (icf_2 Hl0) h234 (by rw [(alf_2 Hl0)]; exact h235) dX3_worth_120 rfl ?_
                  refine x_goto (tgt := 125) dX3_worth_121 (by decide) ?_
                  refine x_istore (pc2 := 127) (ls2 := [aR l0, aU, aI l2, aR l3, aR l4, aI (l5 + (-1)), aI l6, aI (m (l0 + 1) l6), aI (if (-13) < (m (l0 + 1) l6) then 0 else 1 : Int), aI (if (m (l0 + 1) l6) = (-11) then 1 else (if (m (l0 + 1) l6) ≠ (-12) then 0 else 1 : Int) : Int), aI 0, aI (m (l0 + 2) (l5 + (-1))), aU, aU]) dX3_worth_125 rfl (by decide) rfl ?_
                  refine x_iload (pc2 := 129) dX3_worth_127 rfl rfl ?_
                  refine x_aload_n (pc2 := 130) dX3_worth_129 rfl rfl ?_
                  refine x_getf (pc2 := 133) (v := aR (l0 + 2)) fl_X3_15 (icf_0 Hl0) (vrf_1 _ Hl0) dX3_worth_130 rfl ?_
                  refine x_alenK (pc2 := 134) (n := 64) (Or.inl (icf_2 Hl0)) (alf_2 Hl0) dX3_worth_133 rfl ?_
                  obtain ⟨h236, k⟩ := k
                  obtain ⟨k1, k2⟩ := k
                  refine x_icmp_lt (tgt := 139) (pc2 := 137) dX3_worth_134 (by decide) rfl h236 (by decide) (fun c237 => ?_) (fun c237 => ?_)
                  · replace k := k1 c237
                    refine x_iload (pc2 := 141) dX3_worth_139 rfl rfl ?_
                    obtain ⟨k1, k2⟩ := k
                    refine x_if_eq (tgt := 182) (pc2 := 144) dX3_worth_141 (by decide) rfl h31 (fun c238 => ?_) (fun c238 => ?_)
                    · replace k := k1 c238
                      refine x_iload (pc2 := 184) dX3_worth_182 rfl rfl ?_
                      obtain ⟨k1, k2⟩ := k
                      refine x_if_eq (tgt := 206) (pc2 := 187) dX3_worth_184 (by decide) rfl h184 (fun c239 => ?_) (fun c239 => ?_)
                      · replace k := k1 c239
                        refine x_iconst (pc2 := 207) dX3_worth_206 rfl ?_
                        refine x_iload (pc2 := 209) dX3_worth_207 rfl rfl ?_
                        refine x_isub (pc2 := 210) dX3_worth_209 rfl ?_
                        refine x_istore (pc2 := 212) (ls2 := [aR l0, aU, aI l2, aR l3, aR l4, aI (l5 + (-1)), aI l6, aI (m (l0 + 1) l6), aI (if (-13) < (m (l0 + 1) l6) then 0 else 1 : Int), aI (if (m (l0 + 1) l6) = (-11) then 1 else (if (m (l0 + 1) l6) ≠ (-12) then 0 else 1 : Int) : Int), aI 0, aI (m (l0 + 2) (l5 + (-1))), aI ((-1) - (m (l0 + 1) l6)), aU]) dX3_worth_210 rfl (by decide) rfl ?_
                        refine x_aload_n (pc2 := 213) dX3_worth_212 rfl rfl ?_
                        refine x_getf (pc2 := 216) (v := aR (l0 + 2)) fl_X3_15 (icf_0 Hl0) (vrf_1 _ Hl0) dX3_worth_213 rfl ?_
                        refine x_iload (pc2 := 218) dX3_worth_216 rfl rfl ?_
                        refine x_iload (pc2 := 220) dX3_worth_218 rfl rfl ?_
                        obtain ⟨g241, k⟩ := k
                        obtain ⟨g244, k⟩ := k
                        obtain ⟨g245, k⟩ := k
                        obtain ⟨g248, k⟩ := k
                        obtain ⟨g249, k⟩ := k
                        have kj : S_X3_worth sc d 243 [aR l0, aU, aI l2, aR l3, aR l4, aI (l5 + (-1)), aI l6, aI (m (l0 + 1) l6), aI (if (-13) < (m (l0 + 1) l6) then 0 else 1 : Int), aI (if (m (l0 + 1) l6) = (-11) then 1 else (if (m (l0 + 1) l6) ≠ (-12) then 0 else 1 : Int) : Int), aI 0, aI (m (l0 + 2) (l5 + (-1))), aI ((-1) - (m (l0 + 1) l6)), aU] [aI (if (m (l0 + 1) l6) < 0 then (if (alen l3) ≤ ((-1) - (m (l0 + 1) l6)) then 0 else (m l3 ((-1) - (m (l0 + 1) l6))) : Int) else (m (l0 + 1) l6) : Int), aI (l5 + (-1)), aR (l0 + 2)] m Q := by
                          refine x_iast (pc2 := 244) (icf_2 Hl0) h234 (by rw [(alf_2 Hl0)]; exact h235) dX3_worth_243 rfl ?_
                          refine x_iinc (pc2 := 247) (ls2 := [aR l0, aU, aI l2, aR l3, aR l4, aI ((l5 + (-1)) + 1), aI l6, aI (m (l0 + 1) l6), aI (if (-13) < (m (l0 + 1) l6) then 0 else 1 : Int), aI (if (m (l0 + 1) l6) = (-11) then 1 else (if (m (l0 + 1) l6) ≠ (-12) then 0 else 1 : Int) : Int), aI 0, aI (m (l0 + 2) (l5 + (-1))), aI ((-1) - (m (l0 + 1) l6)), aU]) dX3_worth_244 rfl rfl (by decide) rfl ?_
                          refine x_iinc (pc2 := 250) (ls2 := [aR l0, aU, aI l2, aR l3, aR l4, aI ((l5 + (-1)) + 1), aI (l6 + 1), aI (m (l0 + 1) l6), aI (if (-13) < (m (l0 + 1) l6) then 0 else 1 : Int), aI (if (m (l0 + 1) l6) = (-11) then 1 else (if (m (l0 + 1) l6) ≠ (-12) then 0 else 1 : Int) : Int), aI 0, aI (m (l0 + 2) (l5 + (-1))), aI ((-1) - (m (l0 + 1) l6)), aU]) dX3_worth_247 rfl rfl (by decide) rfl ?_
                          refine x_goto (tgt := 10) dX3_worth_250 (by decide) ?_
                          exact x_drop (drp_k (drp_k (drp_k (drp_k (drp_k (drp_k (drp_k (drp_u (drp_u (drp_u (drp_u (drp_u (drp_u (drp_k drp_n)))))))))))))) k
                        have h250 := g241 
                        refine x_if_lt (tgt := 228) (pc2 := 223) dX3_worth_220 (by decide) rfl h250 (fun c251 => ?_) (fun c251 => ?_)
                        · skip
                          refine x_iload (pc2 := 230) dX3_worth_228 rfl rfl ?_
                          refine x_aload_n (pc2 := 231) dX3_worth_230 rfl rfl ?_
                          refine x_alen (pc2 := 232) (Or.inl Hl3) dX3_worth_231 rfl ?_
                          have h252 := g244 c251
                          have h253 := g245 c251
                          refine x_icmp_ge (tgt := 242) (pc2 := 235) dX3_worth_232 (by decide) rfl h252 h253 (fun c254 => ?_) (fun c254 => ?_)
                          · skip
                            refine x_iconst (pc2 := 243) dX3_worth_242 rfl ?_
                            exact x_topI ((if_pos c251).trans (if_pos c254)) kj
                          · skip
                            refine x_aload_n (pc2 := 236) dX3_worth_235 rfl rfl ?_
                            refine x_iload (pc2 := 238) dX3_worth_236 rfl rfl ?_
                            have h255 := g248 c251 c254
                            have h256 := g249 c251 c254
                            refine x_iald (pc2 := 239) Hl3 h255 h256 dX3_worth_238 rfl ?_
                            refine x_goto (tgt := 243) dX3_worth_239 (by decide) ?_
                            exact x_topI ((if_pos c251).trans (if_neg c254)) kj
                        · skip
                          refine x_iload (pc2 := 225) dX3_worth_223 rfl rfl ?_
                          refine x_goto (tgt := 243) dX3_worth_225 (by decide) ?_
                          exact x_topI (if_neg c251) kj
                      · replace k := k2 c239
                        refine x_aload_n (pc2 := 188) dX3_worth_187 rfl rfl ?_
                        refine x_getf (pc2 := 191) (v := aR (l0 + 2)) fl_X3_15 (icf_0 Hl0) (vrf_1 _ Hl0) dX3_worth_188 rfl ?_
                        refine x_iload (pc2 := 193) dX3_worth_191 rfl rfl ?_
                        refine x_iload (pc2 := 195) dX3_worth_193 rfl rfl ?_
                        refine x_iload (pc2 := 197) dX3_worth_195 rfl rfl ?_
                        refine x_aload (pc2 := 199) dX3_worth_197 rfl rfl ((icr_0 Hl4)).1 ?_
                        exact x_drop (drp_k (drp_k (drp_k (drp_k (drp_k (drp_k (drp_k (drp_u (drp_u (drp_u (drp_u (drp_u (drp_k (drp_k drp_n)))))))))))))) k
                    · replace k := k2 c238
                      refine x_iload (pc2 := 146) dX3_worth_144 rfl rfl ?_
                      refine x_iload (pc2 := 148) dX3_worth_146 rfl rfl ?_
                      obtain ⟨h257, k⟩ := k
                      refine x_i2l (pc2 := 149) dX3_worth_148 rfl h257 ?_
                      refine x_iload (pc2 := 151) dX3_worth_149 rfl rfl ?_
                      refine x_i2l (pc2 := 152) dX3_worth_151 rfl (by decide) ?_
                      exact x_drop (drp_k (drp_k (drp_k (drp_k (drp_k (drp_k (drp_k (drp_u (drp_u (drp_u (drp_u (drp_u (drp_k (drp_k drp_n)))))))))))))) k
                  · replace k := k2 c237
                    refine x_iconst (pc2 := 138) dX3_worth_137 rfl ?_
                    exact x_ireturn dX3_worth_138 ⟨.int, rfl, rfl⟩ k
            · replace k := k2 c185
              refine x_iload (pc2 := 82) dX3_worth_80 rfl rfl ?_
              obtain ⟨h258, k⟩ := k
              obtain ⟨k1, k2⟩ := k
              refine x_if_le (tgt := 98) (pc2 := 85) dX3_worth_82 (by decide) rfl h258 (fun c259 => ?_) (fun c259 => ?_)
              · replace k := k1 c259
                refine x_iconst (pc2 := 99) dX3_worth_98 rfl ?_
                refine x_istore (pc2 := 101) (ls2 := [aR l0, aU, aI l2, aR l3, aR l4, aI l5, aI l6, aI (m (l0 + 1) l6), aI (if (-13) < (m (l0 + 1) l6) then 0 else 1 : Int), aI (if (m (l0 + 1) l6) = (-11) then 1 else (if (m (l0 + 1) l6) ≠ (-12) then 0 else 1 : Int) : Int), aI 0, aU, aU, aU]) dX3_worth_99 rfl (by decide) rfl ?_
                refine x_iload (pc2 := 103) dX3_worth_101 rfl rfl ?_
                obtain ⟨k1, k2⟩ := k
                refine x_if_eq (tgt := 124) (pc2 := 106) dX3_worth_103 (by decide) rfl h31 (fun c260 => ?_) (fun c260 => ?_)
                · replace k := k1 c260
                  refine x_iconst (pc2 := 125) dX3_worth_124 rfl ?_
                  refine x_istore (pc2 := 127) (ls2 := [aR l0, aU, aI l2, aR l3, aR l4, aI l5, aI l6, aI (m (l0 + 1) l6), aI (if (-13) < (m (l0 + 1) l6) then 0 else 1 : Int), aI (if (m (l0 + 1) l6) = (-11) then 1 else (if (m (l0 + 1) l6) ≠ (-12) then 0 else 1 : Int) : Int), aI 0, aI 0, aU, aU]) dX3_worth_125 rfl (by decide) rfl ?_
                  refine x_iload (pc2 := 129) dX3_worth_127 rfl rfl ?_
                  refine x_aload_n (pc2 := 130) dX3_worth_129 rfl rfl ?_
                  refine x_getf (pc2 := 133) (v := aR (l0 + 2)) fl_X3_15 (icf_0 Hl0) (vrf_1 _ Hl0) dX3_worth_130 rfl ?_
                  refine x_alenK (pc2 := 134) (n := 64) (Or.inl (icf_2 Hl0)) (alf_2 Hl0) dX3_worth_133 rfl ?_
                  obtain ⟨k1, k2⟩ := k
                  refine x_icmp_lt (tgt := 139) (pc2 := 137) dX3_worth_134 (by decide) rfl h258 (by decide) (fun c261 => ?_) (fun c261 => ?_)
                  · replace k := k1 c261
                    refine x_iload (pc2 := 141) dX3_worth_139 rfl rfl ?_
                    obtain ⟨k1, k2⟩ := k
                    refine x_if_eq (tgt := 182) (pc2 := 144) dX3_worth_141 (by decide) rfl h31 (fun c262 => ?_) (fun c262 => ?_)
                    · replace k := k1 c262
                      refine x_iload (pc2 := 184) dX3_worth_182 rfl rfl ?_
                      obtain ⟨k1, k2⟩ := k
                      refine x_if_eq (tgt := 206) (pc2 := 187) dX3_worth_184 (by decide) rfl h184 (fun c263 => ?_) (fun c263 => ?_)
                      · replace k := k1 c263
                        refine x_iconst (pc2 := 207) dX3_worth_206 rfl ?_
                        refine x_iload (pc2 := 209) dX3_worth_207 rfl rfl ?_
                        refine x_isub (pc2 := 210) dX3_worth_209 rfl ?_
                        refine x_istore (pc2 := 212) (ls2 := [aR l0, aU, aI l2, aR l3, aR l4, aI l5, aI l6, aI (m (l0 + 1) l6), aI (if (-13) < (m (l0 + 1) l6) then 0 else 1 : Int), aI (if (m (l0 + 1) l6) = (-11) then 1 else (if (m (l0 + 1) l6) ≠ (-12) then 0 else 1 : Int) : Int), aI 0, aI 0, aI ((-1) - (m (l0 + 1) l6)), aU]) dX3_worth_210 rfl (by decide) rfl ?_
                        refine x_aload_n (pc2 := 213) dX3_worth_212 rfl rfl ?_
                        refine x_getf (pc2 := 216) (v := aR (l0 + 2)) fl_X3_15 (icf_0 Hl0) (vrf_1 _ Hl0) dX3_worth_213 rfl ?_
                        refine x_iload (pc2 := 218) dX3_worth_216 rfl rfl ?_
                        refine x_iload (pc2 := 220) dX3_worth_218 rfl rfl ?_
                        obtain ⟨g265, k⟩ := k
                        obtain ⟨g268, k⟩ := k
                        obtain ⟨g269, k⟩ := k
                        obtain ⟨g272, k⟩ := k
                        obtain ⟨g273, k⟩ := k
                        have kj : S_X3_worth sc d 243 [aR l0, aU, aI l2, aR l3, aR l4, aI l5, aI l6, aI (m (l0 + 1) l6), aI (if (-13) < (m (l0 + 1) l6) then 0 else 1 : Int), aI (if (m (l0 + 1) l6) = (-11) then 1 else (if (m (l0 + 1) l6) ≠ (-12) then 0 else 1 : Int) : Int), aI 0, aI 0, aI ((-1) - (m (l0 + 1) l6)), aU] [aI (if (m (l0 + 1) l6) < 0 then (if (alen l3) ≤ ((-1) - (m (l0 + 1) l6)) then 0 else (m l3 ((-1) - (m (l0 + 1) l6))) : Int) else (m (l0 + 1) l6) : Int), aI l5, aR (l0 + 2)] m Q := by
                          obtain ⟨h274, k⟩ := k
                          obtain ⟨h275, k⟩ := k
                          refine x_iast (pc2 := 244) (icf_2 Hl0) h274 (by rw [(alf_2 Hl0)]; exact h275) dX3_worth_243 rfl ?_
                          refine x_iinc (pc2 := 247) (ls2 := [aR l0, aU, aI l2, aR l3, aR l4, aI (l5 + 1), aI l6, aI (m (l0 + 1) l6), aI (if (-13) < (m (l0 + 1) l6) then 0 else 1 : Int), aI (if (m (l0 + 1) l6) = (-11) then 1 else (if (m (l0 + 1) l6) ≠ (-12) then 0 else 1 : Int) : Int), aI 0, aI 0, aI ((-1) - (m (l0 + 1) l6)), aU]) dX3_worth_244 rfl rfl (by decide) rfl ?_
                          refine x_iinc (pc2 := 250) (ls2 := [aR l0, aU, aI l2, aR l3, aR l4, aI (l5 + 1), aI (l6 + 1), aI (m (l0 + 1) l6), aI (if (-13) < (m (l0 + 1) l6) then 0 else 1 : Int), aI (if (m (l0 + 1) l6) = (-11) then 1 else (if (m (l0 + 1) l6) ≠ (-12) then 0 else 1 : Int) : Int), aI 0, aI 0, aI ((-1) - (m (l0 + 1) l6)), aU]) dX3_worth_247 rfl rfl (by decide) rfl ?_
                          refine x_goto (tgt := 10) dX3_worth_250 (by decide) ?_
                          exact x_drop (drp_k (drp_k (drp_k (drp_k (drp_k (drp_k (drp_k (drp_u (drp_u (drp_u (drp_u (drp_u (drp_u (drp_k drp_n)))))))))))))) k
                        have h276 := g265 
                        refine x_if_lt (tgt := 228) (pc2 := 223) dX3_worth_220 (by decide) rfl h276 (fun c277 => ?_) (fun c277 => ?_)
                        · skip
                          refine x_iload (pc2 := 230) dX3_worth_228 rfl rfl ?_
                          refine x_aload_n (pc2 := 231) dX3_worth_230 rfl rfl ?_
                          refine x_alen (pc2 := 232) (Or.inl Hl3) dX3_worth_231 rfl ?_
                          have h278 := g268 c277
                          have h279 := g269 c277
                          refine x_icmp_ge (tgt := 242) (pc2 := 235) dX3_worth_232 (by decide) rfl h278 h279 (fun c280 => ?_) (fun c280 => ?_)
                          · skip
                            refine x_iconst (pc2 := 243) dX3_worth_242 rfl ?_
                            exact x_topI ((if_pos c277).trans (if_pos c280)) kj
                          · skip
                            refine x_aload_n (pc2 := 236) dX3_worth_235 rfl rfl ?_
                            refine x_iload (pc2 := 238) dX3_worth_236 rfl rfl ?_
                            have h281 := g272 c277 c280
                            have h282 := g273 c277 c280
                            refine x_iald (pc2 := 239) Hl3 h281 h282 dX3_worth_238 rfl ?_
                            refine x_goto (tgt := 243) dX3_worth_239 (by decide) ?_
                            exact x_topI ((if_pos c277).trans (if_neg c280)) kj
                        · skip
                          refine x_iload (pc2 := 225) dX3_worth_223 rfl rfl ?_
                          refine x_goto (tgt := 243) dX3_worth_225 (by decide) ?_
                          exact x_topI (if_neg c277) kj
                      · replace k := k2 c263
                        refine x_aload_n (pc2 := 188) dX3_worth_187 rfl rfl ?_
                        refine x_getf (pc2 := 191) (v := aR (l0 + 2)) fl_X3_15 (icf_0 Hl0) (vrf_1 _ Hl0) dX3_worth_188 rfl ?_
                        refine x_iload (pc2 := 193) dX3_worth_191 rfl rfl ?_
                        refine x_iload (pc2 := 195) dX3_worth_193 rfl rfl ?_
                        refine x_iload (pc2 := 197) dX3_worth_195 rfl rfl ?_
                        refine x_aload (pc2 := 199) dX3_worth_197 rfl rfl ((icr_0 Hl4)).1 ?_
                        exact x_drop (drp_k (drp_k (drp_k (drp_k (drp_k (drp_k (drp_k (drp_u (drp_u (drp_u (drp_u (drp_u (drp_k (drp_k drp_n)))))))))))))) k
                    · replace k := k2 c262
                      refine x_iload (pc2 := 146) dX3_worth_144 rfl rfl ?_
                      refine x_iload (pc2 := 148) dX3_worth_146 rfl rfl ?_
                      refine x_i2l (pc2 := 149) dX3_worth_148 rfl (by decide) ?_
                      refine x_iload (pc2 := 151) dX3_worth_149 rfl rfl ?_
                      refine x_i2l (pc2 := 152) dX3_worth_151 rfl (by decide) ?_
                      exact x_drop (drp_k (drp_k (drp_k (drp_k (drp_k (drp_k (drp_k (drp_u (drp_u (drp_u (drp_u (drp_u (drp_k (drp_k drp_n)))))))))))))) k
                  · replace k := k2 c261
                    refine x_iconst (pc2 := 138) dX3_worth_137 rfl ?_
                    exact x_ireturn dX3_worth_138 ⟨.int, rfl, rfl⟩ k
                · replace k := k2 c260
                  refine x_iload (pc2 := 108) dX3_worth_106 rfl rfl ?_
                  obtain ⟨k1, k2⟩ := k
                  refine x_if_le (tgt := 124) (pc2 := 111) dX3_worth_108 (by decide) rfl h258 (fun c283 => ?_) (fun c283 => ?_)
                  · replace k := k1 c283
                    refine x_iconst (pc2 := 125) dX3_worth_124 rfl ?_
                    refine x_istore (pc2 := 127) (ls2 := [aR l0, aU, aI l2, aR l3, aR l4, aI l5, aI l6, aI (m (l0 + 1) l6), aI (if (-13) < (m (l0 + 1) l6) then 0 else 1 : Int), aI (if (m (l0 + 1) l6) = (-11) then 1 else (if (m (l0 + 1) l6) ≠ (-12) then 0 else 1 : Int) : Int), aI 0, aI 0, aU, aU]) dX3_worth_125 rfl (by decide) rfl ?_
                    refine x_iload (pc2 := 129) dX3_worth_127 rfl rfl ?_
                    refine x_aload_n (pc2 := 130) dX3_worth_129 rfl rfl ?_
                    refine x_getf (pc2 := 133) (v := aR (l0 + 2)) fl_X3_15 (icf_0 Hl0) (vrf_1 _ Hl0) dX3_worth_130 rfl ?_
                    refine x_alenK (pc2 := 134) (n := 64) (Or.inl (icf_2 Hl0)) (alf_2 Hl0) dX3_worth_133 rfl ?_
                    obtain ⟨k1, k2⟩ := k
                    refine x_icmp_lt (tgt := 139) (pc2 := 137) dX3_worth_134 (by decide) rfl h258 (by decide) (fun c284 => ?_) (fun c284 => ?_)
                    · replace k := k1 c284
                      refine x_iload (pc2 := 141) dX3_worth_139 rfl rfl ?_
                      obtain ⟨k1, k2⟩ := k
                      refine x_if_eq (tgt := 182) (pc2 := 144) dX3_worth_141 (by decide) rfl h31 (fun c285 => ?_) (fun c285 => ?_)
                      · replace k := k1 c285
                        refine x_iload (pc2 := 184) dX3_worth_182 rfl rfl ?_
                        obtain ⟨k1, k2⟩ := k
                        refine x_if_eq (tgt := 206) (pc2 := 187) dX3_worth_184 (by decide) rfl h184 (fun c286 => ?_) (fun c286 => ?_)
                        · replace k := k1 c286
                          refine x_iconst (pc2 := 207) dX3_worth_206 rfl ?_
                          refine x_iload (pc2 := 209) dX3_worth_207 rfl rfl ?_
                          refine x_isub (pc2 := 210) dX3_worth_209 rfl ?_
                          refine x_istore (pc2 := 212) (ls2 := [aR l0, aU, aI l2, aR l3, aR l4, aI l5, aI l6, aI (m (l0 + 1) l6), aI (if (-13) < (m (l0 + 1) l6) then 0 else 1 : Int), aI (if (m (l0 + 1) l6) = (-11) then 1 else (if (m (l0 + 1) l6) ≠ (-12) then 0 else 1 : Int) : Int), aI 0, aI 0, aI ((-1) - (m (l0 + 1) l6)), aU]) dX3_worth_210 rfl (by decide) rfl ?_
                          refine x_aload_n (pc2 := 213) dX3_worth_212 rfl rfl ?_
                          refine x_getf (pc2 := 216) (v := aR (l0 + 2)) fl_X3_15 (icf_0 Hl0) (vrf_1 _ Hl0) dX3_worth_213 rfl ?_
                          refine x_iload (pc2 := 218) dX3_worth_216 rfl rfl ?_
                          refine x_iload (pc2 := 220) dX3_worth_218 rfl rfl ?_
                          obtain ⟨g288, k⟩ := k
                          obtain ⟨g291, k⟩ := k
                          obtain ⟨g292, k⟩ := k
                          obtain ⟨g295, k⟩ := k
                          obtain ⟨g296, k⟩ := k
                          have kj : S_X3_worth sc d 243 [aR l0, aU, aI l2, aR l3, aR l4, aI l5, aI l6, aI (m (l0 + 1) l6), aI (if (-13) < (m (l0 + 1) l6) then 0 else 1 : Int), aI (if (m (l0 + 1) l6) = (-11) then 1 else (if (m (l0 + 1) l6) ≠ (-12) then 0 else 1 : Int) : Int), aI 0, aI 0, aI ((-1) - (m (l0 + 1) l6)), aU] [aI (if (m (l0 + 1) l6) < 0 then (if (alen l3) ≤ ((-1) - (m (l0 + 1) l6)) then 0 else (m l3 ((-1) - (m (l0 + 1) l6))) : Int) else (m (l0 + 1) l6) : Int), aI l5, aR (l0 + 2)] m Q := by
                            obtain ⟨h297, k⟩ := k
                            obtain ⟨h298, k⟩ := k
                            refine x_iast (pc2 := 244) (icf_2 Hl0) h297 (by rw [(alf_2 Hl0)]; exact h298) dX3_worth_243 rfl ?_
                            refine x_iinc (pc2 := 247) (ls2 := [aR l0, aU, aI l2, aR l3, aR l4, aI (l5 + 1), aI l6, aI (m (l0 + 1) l6), aI (if (-13) < (m (l0 + 1) l6) then 0 else 1 : Int), aI (if (m (l0 + 1) l6) = (-11) then 1 else (if (m (l0 + 1) l6) ≠ (-12) then 0 else 1 : Int) : Int), aI 0, aI 0, aI ((-1) - (m (l0 + 1) l6)), aU]) dX3_worth_244 rfl rfl (by decide) rfl ?_
                            refine x_iinc (pc2 := 250) (ls2 := [aR l0, aU, aI l2, aR l3, aR l4, aI (l5 + 1), aI (l6 + 1), aI (m (l0 + 1) l6), aI (if (-13) < (m (l0 + 1) l6) then 0 else 1 : Int), aI (if (m (l0 + 1) l6) = (-11) then 1 else (if (m (l0 + 1) l6) ≠ (-12) then 0 else 1 : Int) : Int), aI 0, aI 0, aI ((-1) - (m (l0 + 1) l6)), aU]) dX3_worth_247 rfl rfl (by decide) rfl ?_
                            refine x_goto (tgt := 10) dX3_worth_250 (by decide) ?_
                            exact x_drop (drp_k (drp_k (drp_k (drp_k (drp_k (drp_k (drp_k (drp_u (drp_u (drp_u (drp_u (drp_u (drp_u (drp_k drp_n)))))))))))))) k
                          have h299 := g288 
                          refine x_if_lt (tgt := 228) (pc2 := 223) dX3_worth_220 (by decide) rfl h299 (fun c300 => ?_) (fun c300 => ?_)
                          · skip
                            refine x_iload (pc2 := 230) dX3_worth_228 rfl rfl ?_
                            refine x_aload_n (pc2 := 231) dX3_worth_230 rfl rfl ?_
                            refine x_alen (pc2 := 232) (Or.inl Hl3) dX3_worth_231 rfl ?_
                            have h301 := g291 c300
                            have h302 := g292 c300
                            refine x_icmp_ge (tgt := 242) (pc2 := 235) dX3_worth_232 (by decide) rfl h301 h302 (fun c303 => ?_) (fun c303 => ?_)
                            · skip
                              refine x_iconst (pc2 := 243) dX3_worth_242 rfl ?_
                              exact x_topI ((if_pos c300).trans (if_pos c303)) kj
                            · skip
                              refine x_aload_n (pc2 := 236) dX3_worth_235 rfl rfl ?_
                              refine x_iload (pc2 := 238) dX3_worth_236 rfl rfl ?_
                              have h304 := g295 c300 c303
                              have h305 := g296 c300 c303
                              refine x_iald (pc2 := 239) Hl3 h304 h305 dX3_worth_238 rfl ?_
                              refine x_goto (tgt := 243) dX3_worth_239 (by decide) ?_
                              exact x_topI ((if_pos c300).trans (if_neg c303)) kj
                          · skip
                            refine x_iload (pc2 := 225) dX3_worth_223 rfl rfl ?_
                            refine x_goto (tgt := 243) dX3_worth_225 (by decide) ?_
                            exact x_topI (if_neg c300) kj
                        · replace k := k2 c286
                          refine x_aload_n (pc2 := 188) dX3_worth_187 rfl rfl ?_
                          refine x_getf (pc2 := 191) (v := aR (l0 + 2)) fl_X3_15 (icf_0 Hl0) (vrf_1 _ Hl0) dX3_worth_188 rfl ?_
                          refine x_iload (pc2 := 193) dX3_worth_191 rfl rfl ?_
                          refine x_iload (pc2 := 195) dX3_worth_193 rfl rfl ?_
                          refine x_iload (pc2 := 197) dX3_worth_195 rfl rfl ?_
                          refine x_aload (pc2 := 199) dX3_worth_197 rfl rfl ((icr_0 Hl4)).1 ?_
                          exact x_drop (drp_k (drp_k (drp_k (drp_k (drp_k (drp_k (drp_k (drp_u (drp_u (drp_u (drp_u (drp_u (drp_k (drp_k drp_n)))))))))))))) k
                      · replace k := k2 c285
                        refine x_iload (pc2 := 146) dX3_worth_144 rfl rfl ?_
                        refine x_iload (pc2 := 148) dX3_worth_146 rfl rfl ?_
                        refine x_i2l (pc2 := 149) dX3_worth_148 rfl (by decide) ?_
                        refine x_iload (pc2 := 151) dX3_worth_149 rfl rfl ?_
                        refine x_i2l (pc2 := 152) dX3_worth_151 rfl (by decide) ?_
                        exact x_drop (drp_k (drp_k (drp_k (drp_k (drp_k (drp_k (drp_k (drp_u (drp_u (drp_u (drp_u (drp_u (drp_k (drp_k drp_n)))))))))))))) k
                    · replace k := k2 c284
                      refine x_iconst (pc2 := 138) dX3_worth_137 rfl ?_
                      exact x_ireturn dX3_worth_138 ⟨.int, rfl, rfl⟩ k
                  · replace k := k2 c283
                    refine x_aload_n (pc2 := 112) dX3_worth_111 rfl rfl ?_
                    refine x_getf (pc2 := 115) (v := aR (l0 + 2)) fl_X3_15 (icf_0 Hl0) (vrf_1 _ Hl0) dX3_worth_112 rfl ?_
                    refine x_iinc (pc2 := 118) (ls2 := [aR l0, aU, aI l2, aR l3, aR l4, aI (l5 + (-1)), aI l6, aI (m (l0 + 1) l6), aI (if (-13) < (m (l0 + 1) l6) then 0 else 1 : Int), aI (if (m (l0 + 1) l6) = (-11) then 1 else (if (m (l0 + 1) l6) ≠ (-12) then 0 else 1 : Int) : Int), aI 0, aU, aU, aU]) dX3_worth_115 rfl rfl (by decide) rfl ?_
                    refine x_iload (pc2 := 120) dX3_worth_118 rfl rfl ?_
                    obtain ⟨h306, k⟩ := k
                    obtain ⟨h307, k⟩ := k
                    refine x_iald (pc2 := 121) (icf_2 Hl0) h306 (by rw [(alf_2 Hl0)]; exact h307) dX3_worth_120 rfl ?_
                    refine x_goto (tgt := 125) dX3_worth_121 (by decide) ?_
                    refine x_istore (pc2 := 127) (ls2 := [aR l0, aU, aI l2, aR l3, aR l4, aI (l5 + (-1)), aI l6, aI (m (l0 + 1) l6), aI (if (-13) < (m (l0 + 1) l6) then 0 else 1 : Int), aI (if (m (l0 + 1) l6) = (-11) then 1 else (if (m (l0 + 1) l6) ≠ (-12) then 0 else 1 : Int) : Int), aI 0, aI (m (l0 + 2) (l5 + (-1))), aU, aU]) dX3_worth_125 rfl (by decide) rfl ?_
                    refine x_iload (pc2 := 129) dX3_worth_127 rfl rfl ?_
                    refine x_aload_n (pc2 := 130) dX3_worth_129 rfl rfl ?_
                    refine x_getf (pc2 := 133) (v := aR (l0 + 2)) fl_X3_15 (icf_0 Hl0) (vrf_1 _ Hl0) dX3_worth_130 rfl ?_
                    refine x_alenK (pc2 := 134) (n := 64) (Or.inl (icf_2 Hl0)) (alf_2 Hl0) dX3_worth_133 rfl ?_
                    obtain ⟨h308, k⟩ := k
                    obtain ⟨k1, k2⟩ := k
                    refine x_icmp_lt (tgt := 139) (pc2 := 137) dX3_worth_134 (by decide) rfl h308 (by decide) (fun c309 => ?_) (fun c309 => ?_)
                    · replace k := k1 c309
                      refine x_iload (pc2 := 141) dX3_worth_139 rfl rfl ?_
                      obtain ⟨k1, k2⟩ := k
                      refine x_if_eq (tgt := 182) (pc2 := 144) dX3_worth_141 (by decide) rfl h31 (fun c310 => ?_) (fun c310 => ?_)
                      · replace k := k1 c310
                        refine x_iload (pc2 := 184) dX3_worth_182 rfl rfl ?_
                        obtain ⟨k1, k2⟩ := k
                        refine x_if_eq (tgt := 206) (pc2 := 187) dX3_worth_184 (by decide) rfl h184 (fun c311 => ?_) (fun c311 => ?_)
                        · replace k := k1 c311
                          refine x_iconst (pc2 := 207) dX3_worth_206 rfl ?_
                          refine x_iload (pc2 := 209) dX3_worth_207 rfl rfl ?_
                          refine x_isub (pc2 := 210) dX3_worth_209 rfl ?_
                          refine x_istore (pc2 := 212) (ls2 := [aR l0, aU, aI l2, aR l3, aR l4, aI (l5 + (-1)), aI l6, aI (m (l0 + 1) l6), aI (if (-13) < (m (l0 + 1) l6) then 0 else 1 : Int), aI (if (m (l0 + 1) l6) = (-11) then 1 else (if (m (l0 + 1) l6) ≠ (-12) then 0 else 1 : Int) : Int), aI 0, aI (m (l0 + 2) (l5 + (-1))), aI ((-1) - (m (l0 + 1) l6)), aU]) dX3_worth_210 rfl (by decide) rfl ?_
                          refine x_aload_n (pc2 := 213) dX3_worth_212 rfl rfl ?_
                          refine x_getf (pc2 := 216) (v := aR (l0 + 2)) fl_X3_15 (icf_0 Hl0) (vrf_1 _ Hl0) dX3_worth_213 rfl ?_
                          refine x_iload (pc2 := 218) dX3_worth_216 rfl rfl ?_
                          refine x_iload (pc2 := 220) dX3_worth_218 rfl rfl ?_
                          obtain ⟨g313, k⟩ := k
                          obtain ⟨g316, k⟩ := k
                          obtain ⟨g317, k⟩ := k
                          obtain ⟨g320, k⟩ := k
                          obtain ⟨g321, k⟩ := k
                          have kj : S_X3_worth sc d 243 [aR l0, aU, aI l2, aR l3, aR l4, aI (l5 + (-1)), aI l6, aI (m (l0 + 1) l6), aI (if (-13) < (m (l0 + 1) l6) then 0 else 1 : Int), aI (if (m (l0 + 1) l6) = (-11) then 1 else (if (m (l0 + 1) l6) ≠ (-12) then 0 else 1 : Int) : Int), aI 0, aI (m (l0 + 2) (l5 + (-1))), aI ((-1) - (m (l0 + 1) l6)), aU] [aI (if (m (l0 + 1) l6) < 0 then (if (alen l3) ≤ ((-1) - (m (l0 + 1) l6)) then 0 else (m l3 ((-1) - (m (l0 + 1) l6))) : Int) else (m (l0 + 1) l6) : Int), aI (l5 + (-1)), aR (l0 + 2)] m Q := by
                            refine x_iast (pc2 := 244) (icf_2 Hl0) h306 (by rw [(alf_2 Hl0)]; exact h307) dX3_worth_243 rfl ?_
                            refine x_iinc (pc2 := 247) (ls2 := [aR l0, aU, aI l2, aR l3, aR l4, aI ((l5 + (-1)) + 1), aI l6, aI (m (l0 + 1) l6), aI (if (-13) < (m (l0 + 1) l6) then 0 else 1 : Int), aI (if (m (l0 + 1) l6) = (-11) then 1 else (if (m (l0 + 1) l6) ≠ (-12) then 0 else 1 : Int) : Int), aI 0, aI (m (l0 + 2) (l5 + (-1))), aI ((-1) - (m (l0 + 1) l6)), aU]) dX3_worth_244 rfl rfl (by decide) rfl ?_
                            refine x_iinc (pc2 := 250) (ls2 := [aR l0, aU, aI l2, aR l3, aR l4, aI ((l5 + (-1)) + 1), aI (l6 + 1), aI (m (l0 + 1) l6), aI (if (-13) < (m (l0 + 1) l6) then 0 else 1 : Int), aI (if (m (l0 + 1) l6) = (-11) then 1 else (if (m (l0 + 1) l6) ≠ (-12) then 0 else 1 : Int) : Int), aI 0, aI (m (l0 + 2) (l5 + (-1))), aI ((-1) - (m (l0 + 1) l6)), aU]) dX3_worth_247 rfl rfl (by decide) rfl ?_
                            refine x_goto (tgt := 10) dX3_worth_250 (by decide) ?_
                            exact x_drop (drp_k (drp_k (drp_k (drp_k (drp_k (drp_k (drp_k (drp_u (drp_u (drp_u (drp_u (drp_u (drp_u (drp_k drp_n)))))))))))))) k
                          have h322 := g313 
                          refine x_if_lt (tgt := 228) (pc2 := 223) dX3_worth_220 (by decide) rfl h322 (fun c323 => ?_) (fun c323 => ?_)
                          · skip
                            refine x_iload (pc2 := 230) dX3_worth_228 rfl rfl ?_
                            refine x_aload_n (pc2 := 231) dX3_worth_230 rfl rfl ?_
                            refine x_alen (pc2 := 232) (Or.inl Hl3) dX3_worth_231 rfl ?_
                            have h324 := g316 c323
                            have h325 := g317 c323
                            refine x_icmp_ge (tgt := 242) (pc2 := 235) dX3_worth_232 (by decide) rfl h324 h325 (fun c326 => ?_) (fun c326 => ?_)
                            · skip
                              refine x_iconst (pc2 := 243) dX3_worth_242 rfl ?_
                              exact x_topI ((if_pos c323).trans (if_pos c326)) kj
                            · skip
                              refine x_aload_n (pc2 := 236) dX3_worth_235 rfl rfl ?_
                              refine x_iload (pc2 := 238) dX3_worth_236 rfl rfl ?_
                              have h327 := g320 c323 c326
                              have h328 := g321 c323 c326
                              refine x_iald (pc2 := 239) Hl3 h327 h328 dX3_worth_238 rfl ?_
                              refine x_goto (tgt := 243) dX3_worth_239 (by decide) ?_
                              exact x_topI ((if_pos c323).trans (if_neg c326)) kj
                          · skip
                            refine x_iload (pc2 := 225) dX3_worth_223 rfl rfl ?_
                            refine x_goto (tgt := 243) dX3_worth_225 (by decide) ?_
                            exact x_topI (if_neg c323) kj
                        · replace k := k2 c311
                          refine x_aload_n (pc2 := 188) dX3_worth_187 rfl rfl ?_
                          refine x_getf (pc2 := 191) (v := aR (l0 + 2)) fl_X3_15 (icf_0 Hl0) (vrf_1 _ Hl0) dX3_worth_188 rfl ?_
                          refine x_iload (pc2 := 193) dX3_worth_191 rfl rfl ?_
                          refine x_iload (pc2 := 195) dX3_worth_193 rfl rfl ?_
                          refine x_iload (pc2 := 197) dX3_worth_195 rfl rfl ?_
                          refine x_aload (pc2 := 199) dX3_worth_197 rfl rfl ((icr_0 Hl4)).1 ?_
                          exact x_drop (drp_k (drp_k (drp_k (drp_k (drp_k (drp_k (drp_k (drp_u (drp_u (drp_u (drp_u (drp_u (drp_k (drp_k drp_n)))))))))))))) k
                      · replace k := k2 c310
                        refine x_iload (pc2 := 146) dX3_worth_144 rfl rfl ?_
                        refine x_iload (pc2 := 148) dX3_worth_146 rfl rfl ?_
                        obtain ⟨h329, k⟩ := k
                        refine x_i2l (pc2 := 149) dX3_worth_148 rfl h329 ?_
                        refine x_iload (pc2 := 151) dX3_worth_149 rfl rfl ?_
                        refine x_i2l (pc2 := 152) dX3_worth_151 rfl (by decide) ?_
                        exact x_drop (drp_k (drp_k (drp_k (drp_k (drp_k (drp_k (drp_k (drp_u (drp_u (drp_u (drp_u (drp_u (drp_k (drp_k drp_n)))))))))))))) k
                    · replace k := k2 c309
                      refine x_iconst (pc2 := 138) dX3_worth_137 rfl ?_
                      exact x_ireturn dX3_worth_138 ⟨.int, rfl, rfl⟩ k
              · replace k := k2 c259
                refine x_aload_n (pc2 := 86) dX3_worth_85 rfl rfl ?_
                refine x_getf (pc2 := 89) (v := aR (l0 + 2)) fl_X3_15 (icf_0 Hl0) (vrf_1 _ Hl0) dX3_worth_86 rfl ?_
                refine x_iinc (pc2 := 92) (ls2 := [aR l0, aU, aI l2, aR l3, aR l4, aI (l5 + (-1)), aI l6, aI (m (l0 + 1) l6), aI (if (-13) < (m (l0 + 1) l6) then 0 else 1 : Int), aI (if (m (l0 + 1) l6) = (-11) then 1 else (if (m (l0 + 1) l6) ≠ (-12) then 0 else 1 : Int) : Int), aU, aU, aU, aU]) dX3_worth_89 rfl rfl (by decide) rfl ?_
                refine x_iload (pc2 := 94) dX3_worth_92 rfl rfl ?_
                obtain ⟨h330, k⟩ := k
                obtain ⟨h331, k⟩ := k
                refine x_iald (pc2 := 95) (icf_2 Hl0) h330 (by rw [(alf_2 Hl0)]; exact h331) dX3_worth_94 rfl ?_
                refine x_goto (tgt := 99) dX3_worth_95 (by decide) ?_
                refine x_istore (pc2 := 101) (ls2 := [aR l0, aU, aI l2, aR l3, aR l4, aI (l5 + (-1)), aI l6, aI (m (l0 + 1) l6), aI (if (-13) < (m (l0 + 1) l6) then 0 else 1 : Int), aI (if (m (l0 + 1) l6) = (-11) then 1 else (if (m (l0 + 1) l6) ≠ (-12) then 0 else 1 : Int) : Int), aI (m (l0 + 2) (l5 + (-1))), aU, aU, aU]) dX3_worth_99 rfl (by decide) rfl ?_
                refine x_iload (pc2 := 103) dX3_worth_101 rfl rfl ?_
                obtain ⟨k1, k2⟩ := k
                refine x_if_eq (tgt := 124) (pc2 := 106) dX3_worth_103 (by decide) rfl h31 (fun c332 => ?_) (fun c332 => ?_)
                · replace k := k1 c332
                  refine x_iconst (pc2 := 125) dX3_worth_124 rfl ?_
                  refine x_istore (pc2 := 127) (ls2 := [aR l0, aU, aI l2, aR l3, aR l4, aI (l5 + (-1)), aI l6, aI (m (l0 + 1) l6), aI (if (-13) < (m (l0 + 1) l6) then 0 else 1 : Int), aI (if (m (l0 + 1) l6) = (-11) then 1 else (if (m (l0 + 1) l6) ≠ (-12) then 0 else 1 : Int) : Int), aI (m (l0 + 2) (l5 + (-1))), aI 0, aU, aU]) dX3_worth_125 rfl (by decide) rfl ?_
                  refine x_iload (pc2 := 129) dX3_worth_127 rfl rfl ?_
                  refine x_aload_n (pc2 := 130) dX3_worth_129 rfl rfl ?_
                  refine x_getf (pc2 := 133) (v := aR (l0 + 2)) fl_X3_15 (icf_0 Hl0) (vrf_1 _ Hl0) dX3_worth_130 rfl ?_
                  refine x_alenK (pc2 := 134) (n := 64) (Or.inl (icf_2 Hl0)) (alf_2 Hl0) dX3_worth_133 rfl ?_
                  obtain ⟨h333, k⟩ := k
                  obtain ⟨k1, k2⟩ := k
                  refine x_icmp_lt (tgt := 139) (pc2 := 137) dX3_worth_134 (by decide) rfl h333 (by decide) (fun c334 => ?_) (fun c334 => ?_)
                  · replace k := k1 c334
                    refine x_iload (pc2 := 141) dX3_worth_139 rfl rfl ?_
                    obtain ⟨k1, k2⟩ := k
                    refine x_if_eq (tgt := 182) (pc2 := 144) dX3_worth_141 (by decide) rfl h31 (fun c335 => ?_) (fun c335 => ?_)
                    · replace k := k1 c335
                      refine x_iload (pc2 := 184) dX3_worth_182 rfl rfl ?_
                      obtain ⟨k1, k2⟩ := k
                      refine x_if_eq (tgt := 206) (pc2 := 187) dX3_worth_184 (by decide) rfl h184 (fun c336 => ?_) (fun c336 => ?_)
                      · replace k := k1 c336
                        refine x_iconst (pc2 := 207) dX3_worth_206 rfl ?_
                        refine x_iload (pc2 := 209) dX3_worth_207 rfl rfl ?_
                        refine x_isub (pc2 := 210) dX3_worth_209 rfl ?_
                        refine x_istore (pc2 := 212) (ls2 := [aR l0, aU, aI l2, aR l3, aR l4, aI (l5 + (-1)), aI l6, aI (m (l0 + 1) l6), aI (if (-13) < (m (l0 + 1) l6) then 0 else 1 : Int), aI (if (m (l0 + 1) l6) = (-11) then 1 else (if (m (l0 + 1) l6) ≠ (-12) then 0 else 1 : Int) : Int), aI (m (l0 + 2) (l5 + (-1))), aI 0, aI ((-1) - (m (l0 + 1) l6)), aU]) dX3_worth_210 rfl (by decide) rfl ?_
                        refine x_aload_n (pc2 := 213) dX3_worth_212 rfl rfl ?_
                        refine x_getf (pc2 := 216) (v := aR (l0 + 2)) fl_X3_15 (icf_0 Hl0) (vrf_1 _ Hl0) dX3_worth_213 rfl ?_
                        refine x_iload (pc2 := 218) dX3_worth_216 rfl rfl ?_
                        refine x_iload (pc2 := 220) dX3_worth_218 rfl rfl ?_
                        obtain ⟨g338, k⟩ := k
                        obtain ⟨g341, k⟩ := k
                        obtain ⟨g342, k⟩ := k
                        obtain ⟨g345, k⟩ := k
                        obtain ⟨g346, k⟩ := k
                        have kj : S_X3_worth sc d 243 [aR l0, aU, aI l2, aR l3, aR l4, aI (l5 + (-1)), aI l6, aI (m (l0 + 1) l6), aI (if (-13) < (m (l0 + 1) l6) then 0 else 1 : Int), aI (if (m (l0 + 1) l6) = (-11) then 1 else (if (m (l0 + 1) l6) ≠ (-12) then 0 else 1 : Int) : Int), aI (m (l0 + 2) (l5 + (-1))), aI 0, aI ((-1) - (m (l0 + 1) l6)), aU] [aI (if (m (l0 + 1) l6) < 0 then (if (alen l3) ≤ ((-1) - (m (l0 + 1) l6)) then 0 else (m l3 ((-1) - (m (l0 + 1) l6))) : Int) else (m (l0 + 1) l6) : Int), aI (l5 + (-1)), aR (l0 + 2)] m Q := by
                          refine x_iast (pc2 := 244) (icf_2 Hl0) h330 (by rw [(alf_2 Hl0)]; exact h331) dX3_worth_243 rfl ?_
                          refine x_iinc (pc2 := 247) (ls2 := [aR l0, aU, aI l2, aR l3, aR l4, aI ((l5 + (-1)) + 1), aI l6, aI (m (l0 + 1) l6), aI (if (-13) < (m (l0 + 1) l6) then 0 else 1 : Int), aI (if (m (l0 + 1) l6) = (-11) then 1 else (if (m (l0 + 1) l6) ≠ (-12) then 0 else 1 : Int) : Int), aI (m (l0 + 2) (l5 + (-1))), aI 0, aI ((-1) - (m (l0 + 1) l6)), aU]) dX3_worth_244 rfl rfl (by decide) rfl ?_
                          refine x_iinc (pc2 := 250) (ls2 := [aR l0, aU, aI l2, aR l3, aR l4, aI ((l5 + (-1)) + 1), aI (l6 + 1), aI (m (l0 + 1) l6), aI (if (-13) < (m (l0 + 1) l6) then 0 else 1 : Int), aI (if (m (l0 + 1) l6) = (-11) then 1 else (if (m (l0 + 1) l6) ≠ (-12) then 0 else 1 : Int) : Int), aI (m (l0 + 2) (l5 + (-1))), aI 0, aI ((-1) - (m (l0 + 1) l6)), aU]) dX3_worth_247 rfl rfl (by decide) rfl ?_
                          refine x_goto (tgt := 10) dX3_worth_250 (by decide) ?_
                          exact x_drop (drp_k (drp_k (drp_k (drp_k (drp_k (drp_k (drp_k (drp_u (drp_u (drp_u (drp_u (drp_u (drp_u (drp_k drp_n)))))))))))))) k
                        have h347 := g338 
                        refine x_if_lt (tgt := 228) (pc2 := 223) dX3_worth_220 (by decide) rfl h347 (fun c348 => ?_) (fun c348 => ?_)
                        · skip
                          refine x_iload (pc2 := 230) dX3_worth_228 rfl rfl ?_
                          refine x_aload_n (pc2 := 231) dX3_worth_230 rfl rfl ?_
                          refine x_alen (pc2 := 232) (Or.inl Hl3) dX3_worth_231 rfl ?_
                          have h349 := g341 c348
                          have h350 := g342 c348
                          refine x_icmp_ge (tgt := 242) (pc2 := 235) dX3_worth_232 (by decide) rfl h349 h350 (fun c351 => ?_) (fun c351 => ?_)
                          · skip
                            refine x_iconst (pc2 := 243) dX3_worth_242 rfl ?_
                            exact x_topI ((if_pos c348).trans (if_pos c351)) kj
                          · skip
                            refine x_aload_n (pc2 := 236) dX3_worth_235 rfl rfl ?_
                            refine x_iload (pc2 := 238) dX3_worth_236 rfl rfl ?_
                            have h352 := g345 c348 c351
                            have h353 := g346 c348 c351
                            refine x_iald (pc2 := 239) Hl3 h352 h353 dX3_worth_238 rfl ?_
                            refine x_goto (tgt := 243) dX3_worth_239 (by decide) ?_
                            exact x_topI ((if_pos c348).trans (if_neg c351)) kj
                        · skip
                          refine x_iload (pc2 := 225) dX3_worth_223 rfl rfl ?_
                          refine x_goto (tgt := 243) dX3_worth_225 (by decide) ?_
                          exact x_topI (if_neg c348) kj
                      · replace k := k2 c336
                        refine x_aload_n (pc2 := 188) dX3_worth_187 rfl rfl ?_
                        refine x_getf (pc2 := 191) (v := aR (l0 + 2)) fl_X3_15 (icf_0 Hl0) (vrf_1 _ Hl0) dX3_worth_188 rfl ?_
                        refine x_iload (pc2 := 193) dX3_worth_191 rfl rfl ?_
                        refine x_iload (pc2 := 195) dX3_worth_193 rfl rfl ?_
                        refine x_iload (pc2 := 197) dX3_worth_195 rfl rfl ?_
                        refine x_aload (pc2 := 199) dX3_worth_197 rfl rfl ((icr_0 Hl4)).1 ?_
                        exact x_drop (drp_k (drp_k (drp_k (drp_k (drp_k (drp_k (drp_k (drp_u (drp_u (drp_u (drp_u (drp_u (drp_k (drp_k drp_n)))))))))))))) k
                    · replace k := k2 c335
                      refine x_iload (pc2 := 146) dX3_worth_144 rfl rfl ?_
                      refine x_iload (pc2 := 148) dX3_worth_146 rfl rfl ?_
                      refine x_i2l (pc2 := 149) dX3_worth_148 rfl (by decide) ?_
                      refine x_iload (pc2 := 151) dX3_worth_149 rfl rfl ?_
                      obtain ⟨h354, k⟩ := k
                      refine x_i2l (pc2 := 152) dX3_worth_151 rfl h354 ?_
                      exact x_drop (drp_k (drp_k (drp_k (drp_k (drp_k (drp_k (drp_k (drp_u (drp_u (drp_u (drp_u (drp_u (drp_k (drp_k drp_n)))))))))))))) k
                  · replace k := k2 c334
                    refine x_iconst (pc2 := 138) dX3_worth_137 rfl ?_
                    exact x_ireturn dX3_worth_138 ⟨.int, rfl, rfl⟩ k
                · replace k := k2 c332
                  refine x_iload (pc2 := 108) dX3_worth_106 rfl rfl ?_
                  obtain ⟨h355, k⟩ := k
                  obtain ⟨k1, k2⟩ := k
                  refine x_if_le (tgt := 124) (pc2 := 111) dX3_worth_108 (by decide) rfl h355 (fun c356 => ?_) (fun c356 => ?_)
                  · replace k := k1 c356
                    refine x_iconst (pc2 := 125) dX3_worth_124 rfl ?_
                    refine x_istore (pc2 := 127) (ls2 := [aR l0, aU, aI l2, aR l3, aR l4, aI (l5 + (-1)), aI l6, aI (m (l0 + 1) l6), aI (if (-13) < (m (l0 + 1) l6) then 0 else 1 : Int), aI (if (m (l0 + 1) l6) = (-11) then 1 else (if (m (l0 + 1) l6) ≠ (-12) then 0 else 1 : Int) : Int), aI (m (l0 + 2) (l5 + (-1))), aI 0, aU, aU]) dX3_worth_125 rfl (by decide) rfl ?_
                    refine x_iload (pc2 := 129) dX3_worth_127 rfl rfl ?_
                    refine x_aload_n (pc2 := 130) dX3_worth_129 rfl rfl ?_
                    refine x_getf (pc2 := 133) (v := aR (l0 + 2)) fl_X3_15 (icf_0 Hl0) (vrf_1 _ Hl0) dX3_worth_130 rfl ?_
                    refine x_alenK (pc2 := 134) (n := 64) (Or.inl (icf_2 Hl0)) (alf_2 Hl0) dX3_worth_133 rfl ?_
                    obtain ⟨k1, k2⟩ := k
                    refine x_icmp_lt (tgt := 139) (pc2 := 137) dX3_worth_134 (by decide) rfl h355 (by decide) (fun c357 => ?_) (fun c357 => ?_)
                    · replace k := k1 c357
                      refine x_iload (pc2 := 141) dX3_worth_139 rfl rfl ?_
                      obtain ⟨k1, k2⟩ := k
                      refine x_if_eq (tgt := 182) (pc2 := 144) dX3_worth_141 (by decide) rfl h31 (fun c358 => ?_) (fun c358 => ?_)
                      · replace k := k1 c358
                        refine x_iload (pc2 := 184) dX3_worth_182 rfl rfl ?_
                        obtain ⟨k1, k2⟩ := k
                        refine x_if_eq (tgt := 206) (pc2 := 187) dX3_worth_184 (by decide) rfl h184 (fun c359 => ?_) (fun c359 => ?_)
                        · replace k := k1 c359
                          refine x_iconst (pc2 := 207) dX3_worth_206 rfl ?_
                          refine x_iload (pc2 := 209) dX3_worth_207 rfl rfl ?_
                          refine x_isub (pc2 := 210) dX3_worth_209 rfl ?_
                          refine x_istore (pc2 := 212) (ls2 := [aR l0, aU, aI l2, aR l3, aR l4, aI (l5 + (-1)), aI l6, aI (m (l0 + 1) l6), aI (if (-13) < (m (l0 + 1) l6) then 0 else 1 : Int), aI (if (m (l0 + 1) l6) = (-11) then 1 else (if (m (l0 + 1) l6) ≠ (-12) then 0 else 1 : Int) : Int), aI (m (l0 + 2) (l5 + (-1))), aI 0, aI ((-1) - (m (l0 + 1) l6)), aU]) dX3_worth_210 rfl (by decide) rfl ?_
                          refine x_aload_n (pc2 := 213) dX3_worth_212 rfl rfl ?_
                          refine x_getf (pc2 := 216) (v := aR (l0 + 2)) fl_X3_15 (icf_0 Hl0) (vrf_1 _ Hl0) dX3_worth_213 rfl ?_
                          refine x_iload (pc2 := 218) dX3_worth_216 rfl rfl ?_
                          refine x_iload (pc2 := 220) dX3_worth_218 rfl rfl ?_
                          obtain ⟨g361, k⟩ := k
                          obtain ⟨g364, k⟩ := k
                          obtain ⟨g365, k⟩ := k
                          obtain ⟨g368, k⟩ := k
                          obtain ⟨g369, k⟩ := k
                          have kj : S_X3_worth sc d 243 [aR l0, aU, aI l2, aR l3, aR l4, aI (l5 + (-1)), aI l6, aI (m (l0 + 1) l6), aI (if (-13) < (m (l0 + 1) l6) then 0 else 1 : Int), aI (if (m (l0 + 1) l6) = (-11) then 1 else (if (m (l0 + 1) l6) ≠ (-12) then 0 else 1 : Int) : Int), aI (m (l0 + 2) (l5 + (-1))), aI 0, aI ((-1) - (m (l0 + 1) l6)), aU] [aI (if (m (l0 + 1) l6) < 0 then (if (alen l3) ≤ ((-1) - (m (l0 + 1) l6)) then 0 else (m l3 ((-1) - (m (l0 + 1) l6))) : Int) else (m (l0 + 1) l6) : Int), aI (l5 + (-1)), aR (l0 + 2)] m Q := by
                            refine x_iast (pc2 := 244) (icf_2 Hl0) h330 (by rw [(alf_2 Hl0)]; exact h331) dX3_worth_243 rfl ?_
                            refine x_iinc (pc2 := 247) (ls2 := [aR l0, aU, aI l2, aR l3, aR l4, aI ((l5 + (-1)) + 1), aI l6, aI (m (l0 + 1) l6), aI (if (-13) < (m (l0 + 1) l6) then 0 else 1 : Int), aI (if (m (l0 + 1) l6) = (-11) then 1 else (if (m (l0 + 1) l6) ≠ (-12) then 0 else 1 : Int) : Int), aI (m (l0 + 2) (l5 + (-1))), aI 0, aI ((-1) - (m (l0 + 1) l6)), aU]) dX3_worth_244 rfl rfl (by decide) rfl ?_
                            refine x_iinc (pc2 := 250) (ls2 := [aR l0, aU, aI l2, aR l3, aR l4, aI ((l5 + (-1)) + 1), aI (l6 + 1), aI (m (l0 + 1) l6), aI (if (-13) < (m (l0 + 1) l6) then 0 else 1 : Int), aI (if (m (l0 + 1) l6) = (-11) then 1 else (if (m (l0 + 1) l6) ≠ (-12) then 0 else 1 : Int) : Int), aI (m (l0 + 2) (l5 + (-1))), aI 0, aI ((-1) - (m (l0 + 1) l6)), aU]) dX3_worth_247 rfl rfl (by decide) rfl ?_
                            refine x_goto (tgt := 10) dX3_worth_250 (by decide) ?_
                            exact x_drop (drp_k (drp_k (drp_k (drp_k (drp_k (drp_k (drp_k (drp_u (drp_u (drp_u (drp_u (drp_u (drp_u (drp_k drp_n)))))))))))))) k
                          have h370 := g361 
                          refine x_if_lt (tgt := 228) (pc2 := 223) dX3_worth_220 (by decide) rfl h370 (fun c371 => ?_) (fun c371 => ?_)
                          · skip
                            refine x_iload (pc2 := 230) dX3_worth_228 rfl rfl ?_
                            refine x_aload_n (pc2 := 231) dX3_worth_230 rfl rfl ?_
                            refine x_alen (pc2 := 232) (Or.inl Hl3) dX3_worth_231 rfl ?_
                            have h372 := g364 c371
                            have h373 := g365 c371
                            refine x_icmp_ge (tgt := 242) (pc2 := 235) dX3_worth_232 (by decide) rfl h372 h373 (fun c374 => ?_) (fun c374 => ?_)
                            · skip
                              refine x_iconst (pc2 := 243) dX3_worth_242 rfl ?_
                              exact x_topI ((if_pos c371).trans (if_pos c374)) kj
                            · skip
                              refine x_aload_n (pc2 := 236) dX3_worth_235 rfl rfl ?_
                              refine x_iload (pc2 := 238) dX3_worth_236 rfl rfl ?_
                              have h375 := g368 c371 c374
                              have h376 := g369 c371 c374
                              refine x_iald (pc2 := 239) Hl3 h375 h376 dX3_worth_238 rfl ?_
                              refine x_goto (tgt := 243) dX3_worth_239 (by decide) ?_
                              exact x_topI ((if_pos c371).trans (if_neg c374)) kj
                          · skip
                            refine x_iload (pc2 := 225) dX3_worth_223 rfl rfl ?_
                            refine x_goto (tgt := 243) dX3_worth_225 (by decide) ?_
                            exact x_topI (if_neg c371) kj
                        · replace k := k2 c359
                          refine x_aload_n (pc2 := 188) dX3_worth_187 rfl rfl ?_
                          refine x_getf (pc2 := 191) (v := aR (l0 + 2)) fl_X3_15 (icf_0 Hl0) (vrf_1 _ Hl0) dX3_worth_188 rfl ?_
                          refine x_iload (pc2 := 193) dX3_worth_191 rfl rfl ?_
                          refine x_iload (pc2 := 195) dX3_worth_193 rfl rfl ?_
                          refine x_iload (pc2 := 197) dX3_worth_195 rfl rfl ?_
                          refine x_aload (pc2 := 199) dX3_worth_197 rfl rfl ((icr_0 Hl4)).1 ?_
                          exact x_drop (drp_k (drp_k (drp_k (drp_k (drp_k (drp_k (drp_k (drp_u (drp_u (drp_u (drp_u (drp_u (drp_k (drp_k drp_n)))))))))))))) k
                      · replace k := k2 c358
                        refine x_iload (pc2 := 146) dX3_worth_144 rfl rfl ?_
                        refine x_iload (pc2 := 148) dX3_worth_146 rfl rfl ?_
                        refine x_i2l (pc2 := 149) dX3_worth_148 rfl (by decide) ?_
                        refine x_iload (pc2 := 151) dX3_worth_149 rfl rfl ?_
                        obtain ⟨h377, k⟩ := k
                        refine x_i2l (pc2 := 152) dX3_worth_151 rfl h377 ?_
                        exact x_drop (drp_k (drp_k (drp_k (drp_k (drp_k (drp_k (drp_k (drp_u (drp_u (drp_u (drp_u (drp_u (drp_k (drp_k drp_n)))))))))))))) k
                    · replace k := k2 c357
                      refine x_iconst (pc2 := 138) dX3_worth_137 rfl ?_
                      exact x_ireturn dX3_worth_138 ⟨.int, rfl, rfl⟩ k
                  · replace k := k2 c356
                    refine x_aload_n (pc2 := 112) dX3_worth_111 rfl rfl ?_
                    refine x_getf (pc2 := 115) (v := aR (l0 + 2)) fl_X3_15 (icf_0 Hl0) (vrf_1 _ Hl0) dX3_worth_112 rfl ?_
                    refine x_iinc (pc2 := 118) (ls2 := [aR l0, aU, aI l2, aR l3, aR l4, aI ((l5 + (-1)) + (-1)), aI l6, aI (m (l0 + 1) l6), aI (if (-13) < (m (l0 + 1) l6) then 0 else 1 : Int), aI (if (m (l0 + 1) l6) = (-11) then 1 else (if (m (l0 + 1) l6) ≠ (-12) then 0 else 1 : Int) : Int), aI (m (l0 + 2) (l5 + (-1))), aU, aU, aU]) dX3_worth_115 rfl rfl (by decide) rfl ?_
                    refine x_iload (pc2 := 120) dX3_worth_118 rfl rfl ?_
                    obtain ⟨h378, k⟩ := k
                    obtain ⟨h379, k⟩ := k
                    refine x_iald (pc2 := 121) (icf_2 Hl0) h378 (by rw [(alf_2 Hl0)]; exact h379) dX3_worth_120 rfl ?_
                    refine x_goto (tgt := 125) dX3_worth_121 (by decide) ?_
                    refine x_istore (pc2 := 127) (ls2 := [aR l0, aU, aI l2, aR l3, aR l4, aI ((l5 + (-1)) + (-1)), aI l6, aI (m (l0 + 1) l6), aI (if (-13) < (m (l0 + 1) l6) then 0 else 1 : Int), aI (if (m (l0 + 1) l6) = (-11) then 1 else (if (m (l0 + 1) l6) ≠ (-12) then 0 else 1 : Int) : Int), aI (m (l0 + 2) (l5 + (-1))), aI (m (l0 + 2) ((l5 + (-1)) + (-1))), aU, aU]) dX3_worth_125 rfl (by decide) rfl ?_
                    refine x_iload (pc2 := 129) dX3_worth_127 rfl rfl ?_
                    refine x_aload_n (pc2 := 130) dX3_worth_129 rfl rfl ?_
                    refine x_getf (pc2 := 133) (v := aR (l0 + 2)) fl_X3_15 (icf_0 Hl0) (vrf_1 _ Hl0) dX3_worth_130 rfl ?_
                    refine x_alenK (pc2 := 134) (n := 64) (Or.inl (icf_2 Hl0)) (alf_2 Hl0) dX3_worth_133 rfl ?_
                    obtain ⟨h380, k⟩ := k
                    obtain ⟨k1, k2⟩ := k
                    refine x_icmp_lt (tgt := 139) (pc2 := 137) dX3_worth_134 (by decide) rfl h380 (by decide) (fun c381 => ?_) (fun c381 => ?_)
                    · replace k := k1 c381
                      refine x_iload (pc2 := 141) dX3_worth_139 rfl rfl ?_
                      obtain ⟨k1, k2⟩ := k
                      refine x_if_eq (tgt := 182) (pc2 := 144) dX3_worth_141 (by decide) rfl h31 (fun c382 => ?_) (fun c382 => ?_)
                      · replace k := k1 c382
                        refine x_iload (pc2 := 184) dX3_worth_182 rfl rfl ?_
                        obtain ⟨k1, k2⟩ := k
                        refine x_if_eq (tgt := 206) (pc2 := 187) dX3_worth_184 (by decide) rfl h184 (fun c383 => ?_) (fun c383 => ?_)
                        · replace k := k1 c383
                          refine x_iconst (pc2 := 207) dX3_worth_206 rfl ?_
                          refine x_iload (pc2 := 209) dX3_worth_207 rfl rfl ?_
                          refine x_isub (pc2 := 210) dX3_worth_209 rfl ?_
                          refine x_istore (pc2 := 212) (ls2 := [aR l0, aU, aI l2, aR l3, aR l4, aI ((l5 + (-1)) + (-1)), aI l6, aI (m (l0 + 1) l6), aI (if (-13) < (m (l0 + 1) l6) then 0 else 1 : Int), aI (if (m (l0 + 1) l6) = (-11) then 1 else (if (m (l0 + 1) l6) ≠ (-12) then 0 else 1 : Int) : Int), aI (m (l0 + 2) (l5 + (-1))), aI (m (l0 + 2) ((l5 + (-1)) + (-1))), aI ((-1) - (m (l0 + 1) l6)), aU]) dX3_worth_210 rfl (by decide) rfl ?_
                          refine x_aload_n (pc2 := 213) dX3_worth_212 rfl rfl ?_
                          refine x_getf (pc2 := 216) (v := aR (l0 + 2)) fl_X3_15 (icf_0 Hl0) (vrf_1 _ Hl0) dX3_worth_213 rfl ?_
                          refine x_iload (pc2 := 218) dX3_worth_216 rfl rfl ?_
                          refine x_iload (pc2 := 220) dX3_worth_218 rfl rfl ?_
                          obtain ⟨g385, k⟩ := k
                          obtain ⟨g388, k⟩ := k
                          obtain ⟨g389, k⟩ := k
                          obtain ⟨g392, k⟩ := k
                          obtain ⟨g393, k⟩ := k
                          have kj : S_X3_worth sc d 243 [aR l0, aU, aI l2, aR l3, aR l4, aI ((l5 + (-1)) + (-1)), aI l6, aI (m (l0 + 1) l6), aI (if (-13) < (m (l0 + 1) l6) then 0 else 1 : Int), aI (if (m (l0 + 1) l6) = (-11) then 1 else (if (m (l0 + 1) l6) ≠ (-12) then 0 else 1 : Int) : Int), aI (m (l0 + 2) (l5 + (-1))), aI (m (l0 + 2) ((l5 + (-1)) + (-1))), aI ((-1) - (m (l0 + 1) l6)), aU] [aI (if (m (l0 + 1) l6) < 0 then (if (alen l3) ≤ ((-1) - (m (l0 + 1) l6)) then 0 else (m l3 ((-1) - (m (l0 + 1) l6))) : Int) else (m (l0 + 1) l6) : Int), aI ((l5 + (-1)) + (-1)), aR (l0 + 2)] m Q := by
                            refine x_iast (pc2 := 244) (icf_2 Hl0) h378 (by rw [(alf_2 Hl0)]; exact h379) dX3_worth_243 rfl ?_
                            refine x_iinc (pc2 := 247) (ls2 := [aR l0, aU, aI l2, aR l3, aR l4, aI (((l5 + (-1)) + (-1)) + 1), aI l6, aI (m (l0 + 1) l6), aI (if (-13) < (m (l0 + 1) l6) then 0 else 1 : Int), aI (if (m (l0 + 1) l6) = (-11) then 1 else (if (m (l0 + 1) l6) ≠ (-12) then 0 else 1 : Int) : Int), aI (m (l0 + 2) (l5 + (-1))), aI (m (l0 + 2) ((l5 + (-1)) + (-1))), aI ((-1) - (m (l0 + 1) l6)), aU]) dX3_worth_244 rfl rfl (by decide) rfl ?_
                            refine x_iinc (pc2 := 250) (ls2 := [aR l0, aU, aI l2, aR l3, aR l4, aI (((l5 + (-1)) + (-1)) + 1), aI (l6 + 1), aI (m (l0 + 1) l6), aI (if (-13) < (m (l0 + 1) l6) then 0 else 1 : Int), aI (if (m (l0 + 1) l6) = (-11) then 1 else (if (m (l0 + 1) l6) ≠ (-12) then 0 else 1 : Int) : Int), aI (m (l0 + 2) (l5 + (-1))), aI (m (l0 + 2) ((l5 + (-1)) + (-1))), aI ((-1) - (m (l0 + 1) l6)), aU]) dX3_worth_247 rfl rfl (by decide) rfl ?_
                            refine x_goto (tgt := 10) dX3_worth_250 (by decide) ?_
                            exact x_drop (drp_k (drp_k (drp_k (drp_k (drp_k (drp_k (drp_k (drp_u (drp_u (drp_u (drp_u (drp_u (drp_u (drp_k drp_n)))))))))))))) k
                          have h394 := g385 
                          refine x_if_lt (tgt := 228) (pc2 := 223) dX3_worth_220 (by decide) rfl h394 (fun c395 => ?_) (fun c395 => ?_)
                          · skip
                            refine x_iload (pc2 := 230) dX3_worth_228 rfl rfl ?_
                            refine x_aload_n (pc2 := 231) dX3_worth_230 rfl rfl ?_
                            refine x_alen (pc2 := 232) (Or.inl Hl3) dX3_worth_231 rfl ?_
                            have h396 := g388 c395
                            have h397 := g389 c395
                            refine x_icmp_ge (tgt := 242) (pc2 := 235) dX3_worth_232 (by decide) rfl h396 h397 (fun c398 => ?_) (fun c398 => ?_)
                            · skip
                              refine x_iconst (pc2 := 243) dX3_worth_242 rfl ?_
                              exact x_topI ((if_pos c395).trans (if_pos c398)) kj
                            · skip
                              refine x_aload_n (pc2 := 236) dX3_worth_235 rfl rfl ?_
                              refine x_iload (pc2 := 238) dX3_worth_236 rfl rfl ?_
                              have h399 := g392 c395 c398
                              have h400 := g393 c395 c398
                              refine x_iald (pc2 := 239) Hl3 h399 h400 dX3_worth_238 rfl ?_
                              refine x_goto (tgt := 243) dX3_worth_239 (by decide) ?_
                              exact x_topI ((if_pos c395).trans (if_neg c398)) kj
                          · skip
                            refine x_iload (pc2 := 225) dX3_worth_223 rfl rfl ?_
                            refine x_goto (tgt := 243) dX3_worth_225 (by decide) ?_
                            exact x_topI (if_neg c395) kj
                        · replace k := k2 c383
                          refine x_aload_n (pc2 := 188) dX3_worth_187 rfl rfl ?_
                          refine x_getf (pc2 := 191) (v := aR (l0 + 2)) fl_X3_15 (icf_0 Hl0) (vrf_1 _ Hl0) dX3_worth_188 rfl ?_
                          refine x_iload (pc2 := 193) dX3_worth_191 rfl rfl ?_
                          refine x_iload (pc2 := 195) dX3_worth_193 rfl rfl ?_
                          refine x_iload (pc2 := 197) dX3_worth_195 rfl rfl ?_
                          refine x_aload (pc2 := 199) dX3_worth_197 rfl rfl ((icr_0 Hl4)).1 ?_
                          exact x_drop (drp_k (drp_k (drp_k (drp_k (drp_k (drp_k (drp_k (drp_u (drp_u (drp_u (drp_u (drp_u (drp_k (drp_k drp_n)))))))))))))) k
                      · replace k := k2 c382
                        refine x_iload (pc2 := 146) dX3_worth_144 rfl rfl ?_
                        refine x_iload (pc2 := 148) dX3_worth_146 rfl rfl ?_
                        obtain ⟨h401, k⟩ := k
                        refine x_i2l (pc2 := 149) dX3_worth_148 rfl h401 ?_
                        refine x_iload (pc2 := 151) dX3_worth_149 rfl rfl ?_
                        obtain ⟨h402, k⟩ := k
                        refine x_i2l (pc2 := 152) dX3_worth_151 rfl h402 ?_
                        exact x_drop (drp_k (drp_k (drp_k (drp_k (drp_k (drp_k (drp_k (drp_u (drp_u (drp_u (drp_u (drp_u (drp_k (drp_k drp_n)))))))))))))) k
                    · replace k := k2 c381
                      refine x_iconst (pc2 := 138) dX3_worth_137 rfl ?_
                      exact x_ireturn dX3_worth_138 ⟨.int, rfl, rfl⟩ k
        have h403 := g30 
        refine x_icmp_eq (tgt := 63) (pc2 := 56) dX3_worth_53 (by decide) rfl h403 (by decide) (fun c404 => ?_) (fun c404 => ?_)
        · skip
          refine x_iconst (pc2 := 64) dX3_worth_63 rfl ?_
          refine x_goto (tgt := 68) dX3_worth_64 (by decide) ?_
          exact x_topI (if_pos c404) kj
        · skip
          refine x_iload (pc2 := 58) dX3_worth_56 rfl rfl ?_
          refine x_bipush (pc2 := 60) dX3_worth_58 rfl rfl ?_
          refine x_icmp_ne (tgt := 67) (pc2 := 63) dX3_worth_60 (by decide) rfl h403 (by decide) (fun c405 => ?_) (fun c405 => ?_)
          · skip
            refine x_iconst (pc2 := 68) dX3_worth_67 rfl ?_
            exact x_topI ((if_neg c404).trans (if_pos c405)) kj
          · skip
            refine x_iconst (pc2 := 64) dX3_worth_63 rfl ?_
            refine x_goto (tgt := 68) dX3_worth_64 (by decide) ?_
            exact x_topI ((if_neg c404).trans (if_neg c405)) kj
      have h406 := g28 
      refine x_icmp_gt (tgt := 46) (pc2 := 42) dX3_worth_39 (by decide) rfl h406 (by decide) (fun c407 => ?_) (fun c407 => ?_)
      · skip
        refine x_iconst (pc2 := 47) dX3_worth_46 rfl ?_
        exact x_topI (if_pos c407) kj
      · skip
        refine x_iconst (pc2 := 43) dX3_worth_42 rfl ?_
        refine x_goto (tgt := 47) dX3_worth_43 (by decide) ?_
        exact x_topI (if_neg c407) kj
set_option maxRecDepth 4000 in
theorem g_X3_worth_155 {sc : List Int} {d : Nat} {m : Mem} {Q : Option AV → Mem → Prop} {l0 l2 l3 l4 l5 l6 s0 : Int} (Hl0 : FormAt l0) (Hl3 : IsC l3 100) (Hl4 : RoomAt l4) (k : S_X3_worth sc d 171 [aR l0, aU, aI l2, aR l3, aR l4, aI l5, aI l6, aU, aU, aU, aU, aU, aU, aU] [aJ s0, aJ 1000000, aJ (-1000000), aI l5, aR (l0 + 2)] m Q) : S_X3_worth sc d 155 [aR l0, aU, aI l2, aR l3, aR l4, aI l5, aI l6, aU, aU, aU, aU, aU, aU, aU] [aJ s0] m Q := by
  refine x_lstore (pc2 := 157) (ls2 := [aR l0, aU, aI l2, aR l3, aR l4, aI l5, aI l6, aU, aU, aU, aU, aU, aJ s0, aU]) dX3_worth_155 rfl (by decide) rfl ?_
  refine x_aload_n (pc2 := 158) dX3_worth_157 rfl rfl ?_
  refine x_getf (pc2 := 161) (v := aR (l0 + 2)) fl_X3_15 (icf_0 Hl0) (vrf_1 _ Hl0) dX3_worth_158 rfl ?_
  refine x_iload (pc2 := 163) dX3_worth_161 rfl rfl ?_
  refine x_ldc2 (pc2 := 166) (x := (-1000000)) kc_X3_32 rfl dX3_worth_163 rfl ?_
  refine x_ldc2 (pc2 := 169) (x := 1000000) kc_X3_34 rfl dX3_worth_166 rfl ?_
  refine x_lload (pc2 := 171) dX3_worth_169 rfl rfl ?_
  exact x_drop (drp_k (drp_k (drp_k (drp_k (drp_k (drp_k (drp_k (drp_k (drp_k (drp_k (drp_k (drp_k (drp_u (drp_k drp_n)))))))))))))) k
set_option maxRecDepth 4000 in
theorem g_X3_worth_174 {sc : List Int} {d : Nat} {m : Mem} {Q : Option AV → Mem → Prop} {l0 l2 l3 l4 l5 l6 s0 s1 s2 s3 : Int} (Hl0 : FormAt l0) (Hl3 : IsC l3 100) (Hl4 : RoomAt l4) (Hs0 : IsC s0 100) (k : S_X3_worth sc d 174 [aR l0, aU, aI l2, aR l3, aR l4, aI l5, aI l6, aU, aU, aU, aU, aU, aU, aU] [aJ s3, aJ s2, aI s1, aR s0] m Q) : S_X3_worth sc d 174 [aR l0, aU, aI l2, aR l3, aR l4, aI l5, aI l6, aU, aU, aU, aU, aU, aU, aU] [aJ s3, aJ s2, aI s1, aR s0] m Q := by
  exact k
set_option maxRecDepth 4000 in
theorem g_X3_worth_177 {sc : List Int} {d : Nat} {m : Mem} {Q : Option AV → Mem → Prop} {l0 l2 l3 l4 l5 l6 s0 s1 s2 : Int} (Hl0 : FormAt l0) (Hl3 : IsC l3 100) (Hl4 : RoomAt l4) (Hs0 : IsC s0 100) (k : (0 ≤ s1) ∧ (s1 < alen s0) ∧ S_X3_worth sc d 10 [aR l0, aU, aI l2, aR l3, aR l4, aI (l5 + 1), aI (l6 + 1), aU, aU, aU, aU, aU, aU, aU] [] (wr m s0 s1 s2) Q) : S_X3_worth sc d 177 [aR l0, aU, aI l2, aR l3, aR l4, aI l5, aI l6, aU, aU, aU, aU, aU, aU, aU] [aJ s2, aI s1, aR s0] m Q := by
  refine x_l2i (pc2 := 178) dX3_worth_177 rfl ?_
  obtain ⟨h1, k⟩ := k
  obtain ⟨h2, k⟩ := k
  refine x_iast (pc2 := 179) Hs0 h1 h2 dX3_worth_178 rfl ?_
  refine x_goto (tgt := 244) dX3_worth_179 (by decide) ?_
  refine x_iinc (pc2 := 247) (ls2 := [aR l0, aU, aI l2, aR l3, aR l4, aI (l5 + 1), aI l6, aU, aU, aU, aU, aU, aU, aU]) dX3_worth_244 rfl rfl (by decide) rfl ?_
  refine x_iinc (pc2 := 250) (ls2 := [aR l0, aU, aI l2, aR l3, aR l4, aI (l5 + 1), aI (l6 + 1), aU, aU, aU, aU, aU, aU, aU]) dX3_worth_247 rfl rfl (by decide) rfl ?_
  refine x_goto (tgt := 10) dX3_worth_250 (by decide) ?_
  exact k
set_option maxRecDepth 4000 in
theorem g_X3_worth_202 {sc : List Int} {d : Nat} {m : Mem} {Q : Option AV → Mem → Prop} {l0 l2 l3 l4 l5 l6 s0 s1 s2 : Int} (Hl0 : FormAt l0) (Hl3 : IsC l3 100) (Hl4 : RoomAt l4) (Hs0 : IsC s0 100) (k : (0 ≤ s1) ∧ (s1 < alen s0) ∧ S_X3_worth sc d 10 [aR l0, aU, aI l2, aR l3, aR l4, aI (l5 + 1), aI (l6 + 1), aU, aU, aU, aU, aU, aU, aU] [] (wr m s0 s1 s2) Q) : S_X3_worth sc d 202 [aR l0, aU, aI l2, aR l3, aR l4, aI l5, aI l6, aU, aU, aU, aU, aU, aU, aU] [aI s2, aI s1, aR s0] m Q := by
  obtain ⟨h1, k⟩ := k
  obtain ⟨h2, k⟩ := k
  refine x_iast (pc2 := 203) Hs0 h1 h2 dX3_worth_202 rfl ?_
  refine x_goto (tgt := 244) dX3_worth_203 (by decide) ?_
  refine x_iinc (pc2 := 247) (ls2 := [aR l0, aU, aI l2, aR l3, aR l4, aI (l5 + 1), aI l6, aU, aU, aU, aU, aU, aU, aU]) dX3_worth_244 rfl rfl (by decide) rfl ?_
  refine x_iinc (pc2 := 250) (ls2 := [aR l0, aU, aI l2, aR l3, aR l4, aI (l5 + 1), aI (l6 + 1), aU, aU, aU, aU, aU, aU, aU]) dX3_worth_247 rfl rfl (by decide) rfl ?_
  refine x_goto (tgt := 10) dX3_worth_250 (by decide) ?_
  exact k
theorem c_X3_worth_5 {sc : List Int} {d d2 : Nat} {m m2 : Mem} {Q : Option AV → Mem → Prop} {l0 l2 l3 l4 l5 s0 s1 : Int} {v : Int} (Hl0 : FormAt l0) (Hl3 : IsC l3 100) (Hl4 : RoomAt l4) (hM : C_J9_max_7cf53 sc d2 [aI s0, aI s1] m (some (aI v)) m2) (hd : d2 + 1 ≤ d) (k : S_X3_worth sc d 8 [aR l0, aU, aI l2, aR l3, aR l4, aI l5, aU, aU, aU, aU, aU, aU, aU, aU] [aI v] m2 Q) : S_X3_worth sc d 5 [aR l0, aU, aI l2, aR l3, aR l4, aI l5, aU, aU, aU, aU, aU, aU, aU, aU] [aI s1, aI s0] m Q := x_callS (as := [aI s0, aI s1]) (rest := []) hM mk_J9_max_7cf53 ms_J9_max_7cf53 lk_X3_22 hd rfl rfl (Nat.le_of_ble_eq_true rfl) dX3_worth_5 rfl k
theorem c_X3_worth_152 {sc : List Int} {d d2 : Nat} {m m2 : Mem} {Q : Option AV → Mem → Prop} {l0 l2 l3 l4 l5 l6 s0 s1 s2 : Int} {v : Int} (Hl0 : FormAt l0) (Hl3 : IsC l3 100) (Hl4 : RoomAt l4) (hM : C_X3_joined sc d2 [aI s0, aJ s1, aJ s2] m (some (aJ v)) m2) (hd : d2 + 1 ≤ d) (k : S_X3_worth sc d 155 [aR l0, aU, aI l2, aR l3, aR l4, aI l5, aI l6, aU, aU, aU, aU, aU, aU, aU] [aJ v] m2 Q) : S_X3_worth sc d 152 [aR l0, aU, aI l2, aR l3, aR l4, aI l5, aI l6, aU, aU, aU, aU, aU, aU, aU] [aJ s2, aJ s1, aI s0] m Q := x_callS (as := [aI s0, aJ s1, aJ s2]) (rest := []) hM mk_X3_joined ms_X3_joined lk_X3_28 hd rfl rfl (Nat.le_of_ble_eq_true rfl) dX3_worth_152 rfl k
theorem c_X3_worth_171 {sc : List Int} {d d2 : Nat} {m m2 : Mem} {Q : Option AV → Mem → Prop} {l0 l2 l3 l4 l5 l6 s0 s1 s2 s3 s4 : Int} {v : Int} (Hl0 : FormAt l0) (Hl3 : IsC l3 100) (Hl4 : RoomAt l4) (Hs0 : IsC s0 100) (hM : C_J9_min_f86c9 sc d2 [aJ s3, aJ s4] m (some (aJ v)) m2) (hd : d2 + 1 ≤ d) (k : S_X3_worth sc d 174 [aR l0, aU, aI l2, aR l3, aR l4, aI l5, aI l6, aU, aU, aU, aU, aU, aU, aU] [aJ v, aJ s2, aI s1, aR s0] m2 Q) : S_X3_worth sc d 171 [aR l0, aU, aI l2, aR l3, aR l4, aI l5, aI l6, aU, aU, aU, aU, aU, aU, aU] [aJ s4, aJ s3, aJ s2, aI s1, aR s0] m Q := x_callS (as := [aJ s3, aJ s4]) (rest := [aJ s2, aI s1, aR s0]) hM mk_J9_min_f86c9 ms_J9_min_f86c9 lk_X3_36 hd rfl rfl (Nat.le_of_ble_eq_true rfl) dX3_worth_171 rfl k
theorem c_X3_worth_174 {sc : List Int} {d d2 : Nat} {m m2 : Mem} {Q : Option AV → Mem → Prop} {l0 l2 l3 l4 l5 l6 s0 s1 s2 s3 : Int} {v : Int} (Hl0 : FormAt l0) (Hl3 : IsC l3 100) (Hl4 : RoomAt l4) (Hs0 : IsC s0 100) (hM : C_J9_max_f86c9 sc d2 [aJ s2, aJ s3] m (some (aJ v)) m2) (hd : d2 + 1 ≤ d) (k : S_X3_worth sc d 177 [aR l0, aU, aI l2, aR l3, aR l4, aI l5, aI l6, aU, aU, aU, aU, aU, aU, aU] [aJ v, aI s1, aR s0] m2 Q) : S_X3_worth sc d 174 [aR l0, aU, aI l2, aR l3, aR l4, aI l5, aI l6, aU, aU, aU, aU, aU, aU, aU] [aJ s3, aJ s2, aI s1, aR s0] m Q := x_callS (as := [aJ s2, aJ s3]) (rest := [aI s1, aR s0]) hM mk_J9_max_f86c9 ms_J9_max_f86c9 lk_X3_40 hd rfl rfl (Nat.le_of_ble_eq_true rfl) dX3_worth_174 rfl k
theorem c_X3_worth_199 {sc : List Int} {d d2 : Nat} {m m2 : Mem} {Q : Option AV → Mem → Prop} {l0 l2 l3 l4 l5 l6 s0 s1 s2 s3 s4 : Int} {v : Int} (Hl0 : FormAt l0) (Hl3 : IsC l3 100) (Hl4 : RoomAt l4) (Hs0 : IsC s0 100) (Hs4 : RoomAt s4) (hM : C_X3_turned sc d2 [aI s2, aI s3, aR s4] m (some (aI v)) m2) (hd : d2 + 1 ≤ d) (k : S_X3_worth sc d 202 [aR l0, aU, aI l2, aR l3, aR l4, aI l5, aI l6, aU, aU, aU, aU, aU, aU, aU] [aI v, aI s1, aR s0] m2 Q) : S_X3_worth sc d 199 [aR l0, aU, aI l2, aR l3, aR l4, aI l5, aI l6, aU, aU, aU, aU, aU, aU, aU] [aR s4, aI s3, aI s2, aI s1, aR s0] m Q := x_callS (as := [aI s2, aI s3, aR s4]) (rest := [aI s1, aR s0]) hM mk_X3_turned ms_X3_turned lk_X3_42 hd rfl rfl (Nat.le_of_ble_eq_true rfl) dX3_worth_199 rfl k
set_option maxRecDepth 4000 in
theorem g_X3_turned_0 {sc : List Int} {d : Nat} {m : Mem} {Q : Option AV → Mem → Prop} {l0 l1 l2 : Int} (Hl2 : RoomAt l2) (k : (-2147483648 ≤ l0 ∧ l0 < 2147483648) ∧ ((l0 ≠ (-11)) → (((-2147483648 ≤ l1 ∧ l1 < 2147483648)) ∧ ((¬ (l1 < 0)) → (-2147483648 ≤ (m l2 8) ∧ (m l2 8) < 2147483648)) ∧ ((¬ (l1 < 0)) → (¬ ((m l2 8) ≤ l1)) → (0 ≤ l1)) ∧ ((¬ (l1 < 0)) → (¬ ((m l2 8) ≤ l1)) → (l1 < 10)) ∧ Q (some (aI (if l1 < 0 then 0 else (if (m l2 8) ≤ l1 then 0 else (m (l2 + 3) l1) : Int) : Int))) m)) ∧ (¬ (l0 ≠ (-11)) → (((-2147483648 ≤ l1 ∧ l1 < 2147483648)) ∧ Q (some (aI (if l1 ≠ 0 then 0 else 1 : Int))) m))) : S_X3_turned sc d 0 [aI l0, aI l1, aR l2] [] m Q := by
  refine x_iload_n (pc2 := 1) dX3_turned_0 rfl rfl ?_
  refine x_bipush (pc2 := 3) dX3_turned_1 rfl rfl ?_
  obtain ⟨h1, k⟩ := k
  obtain ⟨k1, k2⟩ := k
  refine x_icmp_ne (tgt := 16) (pc2 := 6) dX3_turned_3 (by decide) rfl h1 (by decide) (fun c2 => ?_) (fun c2 => ?_)
  · replace k := k1 c2
    refine x_iload_n (pc2 := 17) dX3_turned_16 rfl rfl ?_
    obtain ⟨g4, k⟩ := k
    obtain ⟨g6, k⟩ := k
    obtain ⟨g9, k⟩ := k
    obtain ⟨g10, k⟩ := k
    have kj : S_X3_turned sc d 38 [aI l0, aI l1, aR l2] [aI (if l1 < 0 then 0 else (if (m l2 8) ≤ l1 then 0 else (m (l2 + 3) l1) : Int) : Int)] m Q := by
      exact x_ireturn dX3_turned_38 ⟨.int, rfl, rfl⟩ k
    have h11 := g4 
    refine x_if_lt (tgt := 37) (pc2 := 20) dX3_turned_17 (by decide) rfl h11 (fun c12 => ?_) (fun c12 => ?_)
    · skip
      refine x_iconst (pc2 := 38) dX3_turned_37 rfl ?_
      exact x_topI (if_pos c12) kj
    · skip
      refine x_iload_n (pc2 := 21) dX3_turned_20 rfl rfl ?_
      refine x_aload_n (pc2 := 22) dX3_turned_21 rfl rfl ?_
      refine x_getf (pc2 := 25) (v := aI (m l2 8)) fl_X3_46 (icr_0 Hl2) (fv_i _ (icr_0 Hl2) rfl) dX3_turned_22 rfl ?_
      have h13 := g6 c12
      refine x_icmp_ge (tgt := 37) (pc2 := 28) dX3_turned_25 (by decide) rfl h11 h13 (fun c14 => ?_) (fun c14 => ?_)
      · skip
        refine x_iconst (pc2 := 38) dX3_turned_37 rfl ?_
        exact x_topI ((if_neg c12).trans (if_pos c14)) kj
      · skip
        refine x_aload_n (pc2 := 29) dX3_turned_28 rfl rfl ?_
        refine x_getf (pc2 := 32) (v := aR (l2 + 3)) fl_X3_51 (icr_0 Hl2) (vrr_3 _ Hl2) dX3_turned_29 rfl ?_
        refine x_iload_n (pc2 := 33) dX3_turned_32 rfl rfl ?_
        have h15 := g9 c12 c14
        have h16 := g10 c12 c14
        refine x_iald (pc2 := 34) (icr_3 Hl2) h15 (by rw [(alr_3 Hl2)]; exact h16) dX3_turned_33 rfl ?_
        refine x_goto (tgt := 38) dX3_turned_34 (by decide) ?_
        exact x_topI ((if_neg c12).trans (if_neg c14)) kj
  · replace k := k2 c2
    refine x_iload_n (pc2 := 7) dX3_turned_6 rfl rfl ?_
    obtain ⟨g18, k⟩ := k
    have kj : S_X3_turned sc d 15 [aI l0, aI l1, aR l2] [aI (if l1 ≠ 0 then 0 else 1 : Int)] m Q := by
      exact x_ireturn dX3_turned_15 ⟨.int, rfl, rfl⟩ k
    have h19 := g18 
    refine x_if_ne (tgt := 14) (pc2 := 10) dX3_turned_7 (by decide) rfl h19 (fun c20 => ?_) (fun c20 => ?_)
    · skip
      refine x_iconst (pc2 := 15) dX3_turned_14 rfl ?_
      exact x_topI (if_pos c20) kj
    · skip
      refine x_iconst (pc2 := 11) dX3_turned_10 rfl ?_
      refine x_goto (tgt := 15) dX3_turned_11 (by decide) ?_
      exact x_topI (if_neg c20) kj
set_option maxRecDepth 4000 in
theorem g_X3_joined_0 {sc : List Int} {d : Nat} {m : Mem} {Q : Option AV → Mem → Prop} {l0 l1 l3 : Int} (k : (-2147483648 ≤ l0 ∧ l0 < 2147483648) ∧ ((l0 = (-23)) → (Q (some (aJ (a_lor l1 l3))) m)) ∧ ((l0 = (-22)) → (Q (some (aJ (a_land l1 l3))) m)) ∧ ((l0 = (-21)) → (((-9223372036854775808 ≤ l1 ∧ l1 < 9223372036854775808)) ∧ ((-9223372036854775808 ≤ l3 ∧ l3 < 9223372036854775808)) ∧ Q (some (aJ (if l1 ≠ l3 then 0 else 1 : Int))) m)) ∧ ((l0 = (-20)) → (((-9223372036854775808 ≤ l1 ∧ l1 < 9223372036854775808)) ∧ ((-9223372036854775808 ≤ l3 ∧ l3 < 9223372036854775808)) ∧ Q (some (aJ (if l1 ≤ l3 then 0 else 1 : Int))) m)) ∧ ((l0 = (-19)) → (((-9223372036854775808 ≤ l1 ∧ l1 < 9223372036854775808)) ∧ ((-9223372036854775808 ≤ l3 ∧ l3 < 9223372036854775808)) ∧ Q (some (aJ (if l3 ≤ l1 then 0 else 1 : Int))) m)) ∧ ((l0 = (-18)) → (S_X3_joined sc d 96 [aU, aU, aU, aU, aU] [aJ l3, aJ l1] m Q)) ∧ ((l0 = (-17)) → (S_X3_joined sc d 90 [aU, aU, aU, aU, aU] [aJ l3, aJ l1] m Q)) ∧ ((l0 = (-16)) → ((-9223372036854775808 ≤ l3 ∧ l3 < 9223372036854775808) ∧ ((l3 ≠ 0) → (S_X3_joined sc d 84 [aU, aU, aU, aU, aU] [aJ l3, aJ l1] m Q)) ∧ (¬ (l3 ≠ 0) → (S_X3_joined sc d 87 [aU, aU, aU, aU, aU] [aJ 0] m Q)))) ∧ ((l0 = (-15)) → (Q (some (aJ (l1 * l3))) m)) ∧ ((l0 = (-14)) → (Q (some (aJ (l1 - l3))) m)) ∧ ((l0 = (-13)) → (Q (some (aJ (l1 + l3))) m)) ∧ ((l0 ≠ (-23) ∧ l0 ≠ (-22) ∧ l0 ≠ (-21) ∧ l0 ≠ (-20) ∧ l0 ≠ (-19) ∧ l0 ≠ (-18) ∧ l0 ≠ (-17) ∧ l0 ≠ (-16) ∧ l0 ≠ (-15) ∧ l0 ≠ (-14) ∧ l0 ≠ (-13)) → (Q (some (aJ 0)) m))) : S_X3_joined sc d 0 [aI l0, aJ l1, aU, aJ l3, aU] [] m Q := by
  refine x_iload_n (pc2 := 1) dX3_joined_0 rfl rfl ?_
  obtain ⟨h1, k⟩ := k
  obtain ⟨k25, k26, k27, k28, k29, k30, k31, k32, k33, k34, k35, k36⟩ := k
  by_cases c37 : l0 = (-23)
  · replace k := k25 c37
    refine x_tin (tgt := 140) (off := 139) dX3_joined_1 h1 (by omega) (by omega) (by rw [c37]; rfl) (by decide) ?_
    refine x_lload_n (pc2 := 141) dX3_joined_140 rfl rfl ?_
    refine x_lload_n (pc2 := 142) dX3_joined_141 rfl rfl ?_
    refine x_lor (pc2 := 143) dX3_joined_142 rfl ?_
    exact x_lreturn dX3_joined_143 rfl k
  by_cases c38 : l0 = (-22)
  · replace k := k26 c38
    refine x_tin (tgt := 136) (off := 135) dX3_joined_1 h1 (by omega) (by omega) (by rw [c38]; rfl) (by decide) ?_
    refine x_lload_n (pc2 := 137) dX3_joined_136 rfl rfl ?_
    refine x_lload_n (pc2 := 138) dX3_joined_137 rfl rfl ?_
    refine x_land (pc2 := 139) dX3_joined_138 rfl ?_
    exact x_lreturn dX3_joined_139 rfl k
  by_cases c39 : l0 = (-21)
  · replace k := k27 c39
    refine x_tin (tgt := 124) (off := 123) dX3_joined_1 h1 (by omega) (by omega) (by rw [c39]; rfl) (by decide) ?_
    refine x_lload_n (pc2 := 125) dX3_joined_124 rfl rfl ?_
    refine x_lload_n (pc2 := 126) dX3_joined_125 rfl rfl ?_
    obtain ⟨g4, k⟩ := k
    obtain ⟨g5, k⟩ := k
    have kj : S_X3_joined sc d 135 [aI l0, aJ l1, aU, aJ l3, aU] [aJ (if l1 ≠ l3 then 0 else 1 : Int)] m Q := by
      exact x_lreturn dX3_joined_135 rfl k
    have h6 := g4 
    have h7 := g5 
    refine x_lc_ne (tgt := 134) (pc2 := 130) dX3_joined_126 dX3_joined_127 (by decide) rfl h6 h7 (fun c8 => ?_) (fun c8 => ?_)
    · skip
      refine x_lconst (pc2 := 135) (v := 0) dX3_joined_134 rfl rfl ?_
      exact x_topJ (if_pos c8) kj
    · skip
      refine x_lconst (pc2 := 131) (v := 1) dX3_joined_130 rfl rfl ?_
      refine x_goto (tgt := 135) dX3_joined_131 (by decide) ?_
      exact x_topJ (if_neg c8) kj
  by_cases c40 : l0 = (-20)
  · replace k := k28 c40
    refine x_tin (tgt := 112) (off := 111) dX3_joined_1 h1 (by omega) (by omega) (by rw [c40]; rfl) (by decide) ?_
    refine x_lload_n (pc2 := 113) dX3_joined_112 rfl rfl ?_
    refine x_lload_n (pc2 := 114) dX3_joined_113 rfl rfl ?_
    obtain ⟨g11, k⟩ := k
    obtain ⟨g12, k⟩ := k
    have kj : S_X3_joined sc d 123 [aI l0, aJ l1, aU, aJ l3, aU] [aJ (if l1 ≤ l3 then 0 else 1 : Int)] m Q := by
      exact x_lreturn dX3_joined_123 rfl k
    have h13 := g11 
    have h14 := g12 
    refine x_lc_le (tgt := 122) (pc2 := 118) dX3_joined_114 dX3_joined_115 (by decide) rfl h13 h14 (fun c15 => ?_) (fun c15 => ?_)
    · skip
      refine x_lconst (pc2 := 123) (v := 0) dX3_joined_122 rfl rfl ?_
      exact x_topJ (if_pos c15) kj
    · skip
      refine x_lconst (pc2 := 119) (v := 1) dX3_joined_118 rfl rfl ?_
      refine x_goto (tgt := 123) dX3_joined_119 (by decide) ?_
      exact x_topJ (if_neg c15) kj
  by_cases c41 : l0 = (-19)
  · replace k := k29 c41
    refine x_tin (tgt := 100) (off := 99) dX3_joined_1 h1 (by omega) (by omega) (by rw [c41]; rfl) (by decide) ?_
    refine x_lload_n (pc2 := 101) dX3_joined_100 rfl rfl ?_
    refine x_lload_n (pc2 := 102) dX3_joined_101 rfl rfl ?_
    obtain ⟨g18, k⟩ := k
    obtain ⟨g19, k⟩ := k
    have kj : S_X3_joined sc d 111 [aI l0, aJ l1, aU, aJ l3, aU] [aJ (if l3 ≤ l1 then 0 else 1 : Int)] m Q := by
      exact x_lreturn dX3_joined_111 rfl k
    have h20 := g18 
    have h21 := g19 
    refine x_lc_ge (tgt := 110) (pc2 := 106) dX3_joined_102 dX3_joined_103 (by decide) rfl h20 h21 (fun c22 => ?_) (fun c22 => ?_)
    · skip
      refine x_lconst (pc2 := 111) (v := 0) dX3_joined_110 rfl rfl ?_
      exact x_topJ (if_pos c22) kj
    · skip
      refine x_lconst (pc2 := 107) (v := 1) dX3_joined_106 rfl rfl ?_
      refine x_goto (tgt := 111) dX3_joined_107 (by decide) ?_
      exact x_topJ (if_neg c22) kj
  by_cases c42 : l0 = (-18)
  · replace k := k30 c42
    refine x_tin (tgt := 94) (off := 93) dX3_joined_1 h1 (by omega) (by omega) (by rw [c42]; rfl) (by decide) ?_
    refine x_lload_n (pc2 := 95) dX3_joined_94 rfl rfl ?_
    refine x_lload_n (pc2 := 96) dX3_joined_95 rfl rfl ?_
    exact x_drop (drp_u (drp_u (drp_k (drp_u (drp_k drp_n))))) k
  by_cases c43 : l0 = (-17)
  · replace k := k31 c43
    refine x_tin (tgt := 88) (off := 87) dX3_joined_1 h1 (by omega) (by omega) (by rw [c43]; rfl) (by decide) ?_
    refine x_lload_n (pc2 := 89) dX3_joined_88 rfl rfl ?_
    refine x_lload_n (pc2 := 90) dX3_joined_89 rfl rfl ?_
    exact x_drop (drp_u (drp_u (drp_k (drp_u (drp_k drp_n))))) k
  by_cases c44 : l0 = (-16)
  · replace k := k32 c44
    refine x_tin (tgt := 72) (off := 71) dX3_joined_1 h1 (by omega) (by omega) (by rw [c44]; rfl) (by decide) ?_
    refine x_lload_n (pc2 := 73) dX3_joined_72 rfl rfl ?_
    refine x_lconst (pc2 := 74) (v := 0) dX3_joined_73 rfl rfl ?_
    obtain ⟨h23, k⟩ := k
    obtain ⟨k1, k2⟩ := k
    refine x_lc_ne (tgt := 82) (pc2 := 78) dX3_joined_74 dX3_joined_75 (by decide) rfl h23 (by decide) (fun c24 => ?_) (fun c24 => ?_)
    · replace k := k1 c24
      refine x_lload_n (pc2 := 83) dX3_joined_82 rfl rfl ?_
      refine x_lload_n (pc2 := 84) dX3_joined_83 rfl rfl ?_
      exact x_drop (drp_u (drp_u (drp_k (drp_u (drp_k drp_n))))) k
    · replace k := k2 c24
      refine x_lconst (pc2 := 79) (v := 0) dX3_joined_78 rfl rfl ?_
      refine x_goto (tgt := 87) dX3_joined_79 (by decide) ?_
      exact x_drop (drp_u (drp_u (drp_k (drp_u (drp_k drp_n))))) k
  by_cases c45 : l0 = (-15)
  · replace k := k33 c45
    refine x_tin (tgt := 68) (off := 67) dX3_joined_1 h1 (by omega) (by omega) (by rw [c45]; rfl) (by decide) ?_
    refine x_lload_n (pc2 := 69) dX3_joined_68 rfl rfl ?_
    refine x_lload_n (pc2 := 70) dX3_joined_69 rfl rfl ?_
    refine x_lmul (pc2 := 71) dX3_joined_70 rfl ?_
    exact x_lreturn dX3_joined_71 rfl k
  by_cases c46 : l0 = (-14)
  · replace k := k34 c46
    refine x_tin (tgt := 64) (off := 63) dX3_joined_1 h1 (by omega) (by omega) (by rw [c46]; rfl) (by decide) ?_
    refine x_lload_n (pc2 := 65) dX3_joined_64 rfl rfl ?_
    refine x_lload_n (pc2 := 66) dX3_joined_65 rfl rfl ?_
    refine x_lsub (pc2 := 67) dX3_joined_66 rfl ?_
    exact x_lreturn dX3_joined_67 rfl k
  by_cases c47 : l0 = (-13)
  · replace k := k35 c47
    refine x_tin (tgt := 60) (off := 59) dX3_joined_1 h1 (by omega) (by omega) (by rw [c47]; rfl) (by decide) ?_
    refine x_lload_n (pc2 := 61) dX3_joined_60 rfl rfl ?_
    refine x_lload_n (pc2 := 62) dX3_joined_61 rfl rfl ?_
    refine x_ladd (pc2 := 63) dX3_joined_62 rfl ?_
    exact x_lreturn dX3_joined_63 rfl k
  replace k := k36 (by omega)
  have kd : S_X3_joined sc d 144 [aI l0, aJ l1, aU, aJ l3, aU] [] m Q := by
    refine x_lconst (pc2 := 145) (v := 0) dX3_joined_144 rfl rfl ?_
    exact x_lreturn dX3_joined_145 rfl k
  by_cases c48 : l0 < (-23) ∨ (-13) < l0
  · exact x_tout (tgt := 144) dX3_joined_1 h1 c48 (by decide) kd
  exact absurd c48 (by omega)
set_option maxRecDepth 4000 in
theorem g_X3_joined_87 {sc : List Int} {d : Nat} {m : Mem} {Q : Option AV → Mem → Prop} {s0 : Int} (k : Q (some (aJ s0)) m) : S_X3_joined sc d 87 [aU, aU, aU, aU, aU] [aJ s0] m Q := by
  exact x_lreturn dX3_joined_87 rfl k
set_option maxRecDepth 4000 in
theorem g_X3_joined_93 {sc : List Int} {d : Nat} {m : Mem} {Q : Option AV → Mem → Prop} {s0 : Int} (k : Q (some (aJ s0)) m) : S_X3_joined sc d 93 [aU, aU, aU, aU, aU] [aJ s0] m Q := by
  exact x_lreturn dX3_joined_93 rfl k
set_option maxRecDepth 4000 in
theorem g_X3_joined_99 {sc : List Int} {d : Nat} {m : Mem} {Q : Option AV → Mem → Prop} {s0 : Int} (k : Q (some (aJ s0)) m) : S_X3_joined sc d 99 [aU, aU, aU, aU, aU] [aJ s0] m Q := by
  exact x_lreturn dX3_joined_99 rfl k
theorem c_X3_joined_84 {sc : List Int} {d d2 : Nat} {m m2 : Mem} {Q : Option AV → Mem → Prop} {s0 s1 : Int} {v : Int} (hM : C_J9_floorDiv_f86c9 sc d2 [aJ s0, aJ s1] m (some (aJ v)) m2) (hd : d2 + 1 ≤ d) (k : S_X3_joined sc d 87 [aU, aU, aU, aU, aU] [aJ v] m2 Q) : S_X3_joined sc d 84 [aU, aU, aU, aU, aU] [aJ s1, aJ s0] m Q := x_callS (as := [aJ s0, aJ s1]) (rest := []) hM mk_J9_floorDiv_f86c9 ms_J9_floorDiv_f86c9 lk_X3_54 hd rfl rfl (Nat.le_of_ble_eq_true rfl) dX3_joined_84 rfl k
theorem c_X3_joined_90 {sc : List Int} {d d2 : Nat} {m m2 : Mem} {Q : Option AV → Mem → Prop} {s0 s1 : Int} {v : Int} (hM : C_J9_min_f86c9 sc d2 [aJ s0, aJ s1] m (some (aJ v)) m2) (hd : d2 + 1 ≤ d) (k : S_X3_joined sc d 93 [aU, aU, aU, aU, aU] [aJ v] m2 Q) : S_X3_joined sc d 90 [aU, aU, aU, aU, aU] [aJ s1, aJ s0] m Q := x_callS (as := [aJ s0, aJ s1]) (rest := []) hM mk_J9_min_f86c9 ms_J9_min_f86c9 lk_X3_36 hd rfl rfl (Nat.le_of_ble_eq_true rfl) dX3_joined_90 rfl k
theorem c_X3_joined_96 {sc : List Int} {d d2 : Nat} {m m2 : Mem} {Q : Option AV → Mem → Prop} {s0 s1 : Int} {v : Int} (hM : C_J9_max_f86c9 sc d2 [aJ s0, aJ s1] m (some (aJ v)) m2) (hd : d2 + 1 ≤ d) (k : S_X3_joined sc d 99 [aU, aU, aU, aU, aU] [aJ v] m2 Q) : S_X3_joined sc d 96 [aU, aU, aU, aU, aU] [aJ s1, aJ s0] m Q := x_callS (as := [aJ s0, aJ s1]) (rest := []) hM mk_J9_max_f86c9 ms_J9_max_f86c9 lk_X3_40 hd rfl rfl (Nat.le_of_ble_eq_true rfl) dX3_joined_96 rfl k
