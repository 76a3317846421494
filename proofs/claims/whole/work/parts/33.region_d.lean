set_option maxRecDepth 4000 in
theorem g_X7_feed_0 {sc : List Int} {d : Nat} {m : Mem} {Q : Option AV → Mem → Prop} {l1 l2 l3 l4 l5 : Int} (k : (-2147483648 ≤ ((m 0 1) + 20) ∧ ((m 0 1) + 20) < 2147483648) ∧ ((((m 0 1) + 20) ≤ 1600) → (S_X7_feed sc d 21 [aR 0, aU, aI l2, aI l3, aI l4, aI l5] [aI l1, aR 0] m Q)) ∧ (¬ (((m 0 1) + 20) ≤ 1600) → (S_X7_feed sc d 15 [aR 0, aU, aU, aU, aU, aU] [aI 0, aR 0] m Q))) : S_X7_feed sc d 0 [aR 0, aI l1, aI l2, aI l3, aI l4, aI l5] [] m Q := by
  refine x_aload_n (pc2 := 1) dX7_feed_0 rfl rfl ?_
  refine x_getf (pc2 := 4) (v := aI (m 0 1)) fl_X7_70 ic_0 (fv_i _ ic_0 rfl) dX7_feed_1 rfl ?_
  refine x_bipush (pc2 := 6) dX7_feed_4 rfl rfl ?_
  refine x_iadd (pc2 := 7) dX7_feed_6 rfl ?_
  refine x_sipush (pc2 := 10) dX7_feed_7 rfl rfl ?_
  obtain ⟨h1, k⟩ := k
  obtain ⟨k1, k2⟩ := k
  refine x_icmp_le (tgt := 19) (pc2 := 13) dX7_feed_10 (by decide) rfl h1 (by decide) (fun c2 => ?_) (fun c2 => ?_)
  · replace k := k1 c2
    refine x_aload_n (pc2 := 20) dX7_feed_19 rfl rfl ?_
    refine x_iload_n (pc2 := 21) dX7_feed_20 rfl rfl ?_
    exact x_drop (drp_k (drp_u (drp_k (drp_k (drp_k (drp_k drp_n)))))) k
  · replace k := k2 c2
    refine x_aload_n (pc2 := 14) dX7_feed_13 rfl rfl ?_
    refine x_iconst (pc2 := 15) dX7_feed_14 rfl ?_
    exact x_drop (drp_k (drp_u (drp_u (drp_u (drp_u (drp_u drp_n)))))) k
set_option maxRecDepth 4000 in
theorem g_X7_feed_18 {sc : List Int} {d : Nat} {m : Mem} {Q : Option AV → Mem → Prop} {s0 : Int} (k : Q (some (aI s0)) m) : S_X7_feed sc d 18 [aR 0, aU, aU, aU, aU, aU] [aI s0] m Q := by
  exact x_ireturn dX7_feed_18 ⟨.int, rfl, rfl⟩ k
set_option maxRecDepth 4000 in
theorem g_X7_feed_24 {sc : List Int} {d : Nat} {m : Mem} {Q : Option AV → Mem → Prop} {l2 l3 l4 l5 : Int} (k : S_X7_feed sc d 26 [aR 0, aU, aU, aI l3, aI l4, aI l5] [aI l2, aR 0] m Q) : S_X7_feed sc d 24 [aR 0, aU, aI l2, aI l3, aI l4, aI l5] [] m Q := by
  refine x_aload_n (pc2 := 25) dX7_feed_24 rfl rfl ?_
  refine x_iload_n (pc2 := 26) dX7_feed_25 rfl rfl ?_
  exact x_drop (drp_k (drp_k (drp_u (drp_k (drp_k (drp_k drp_n)))))) k
set_option maxRecDepth 4000 in
theorem g_X7_feed_29 {sc : List Int} {d : Nat} {m : Mem} {Q : Option AV → Mem → Prop} {l3 l4 l5 : Int} (k : S_X7_feed sc d 31 [aR 0, aU, aU, aU, aI l4, aI l5] [aI l3, aR 0] m Q) : S_X7_feed sc d 29 [aR 0, aU, aU, aI l3, aI l4, aI l5] [] m Q := by
  refine x_aload_n (pc2 := 30) dX7_feed_29 rfl rfl ?_
  refine x_iload_n (pc2 := 31) dX7_feed_30 rfl rfl ?_
  exact x_drop (drp_k (drp_k (drp_k (drp_u (drp_k (drp_k drp_n)))))) k
set_option maxRecDepth 4000 in
theorem g_X7_feed_34 {sc : List Int} {d : Nat} {m : Mem} {Q : Option AV → Mem → Prop} {l4 l5 : Int} (k : S_X7_feed sc d 37 [aR 0, aU, aU, aU, aU, aI l5] [aI l4, aR 0] m Q) : S_X7_feed sc d 34 [aR 0, aU, aU, aU, aI l4, aI l5] [] m Q := by
  refine x_aload_n (pc2 := 35) dX7_feed_34 rfl rfl ?_
  refine x_iload (pc2 := 37) dX7_feed_35 rfl rfl ?_
  exact x_drop (drp_k (drp_k (drp_k (drp_k (drp_u (drp_k drp_n)))))) k
set_option maxRecDepth 4000 in
theorem g_X7_feed_40 {sc : List Int} {d : Nat} {m : Mem} {Q : Option AV → Mem → Prop} {l5 : Int} (k : S_X7_feed sc d 43 [aR 0, aU, aU, aU, aU, aU] [aI l5, aR 0] m Q) : S_X7_feed sc d 40 [aR 0, aU, aU, aU, aU, aI l5] [] m Q := by
  refine x_aload_n (pc2 := 41) dX7_feed_40 rfl rfl ?_
  refine x_iload (pc2 := 43) dX7_feed_41 rfl rfl ?_
  exact x_drop (drp_k (drp_k (drp_k (drp_k (drp_k (drp_u drp_n)))))) k
set_option maxRecDepth 4000 in
theorem g_X7_feed_46 {sc : List Int} {d : Nat} {m : Mem} {Q : Option AV → Mem → Prop} (k : Q (some (aI (m 0 1))) m) : S_X7_feed sc d 46 [aR 0, aU, aU, aU, aU, aU] [] m Q := by
  refine x_aload_n (pc2 := 47) dX7_feed_46 rfl rfl ?_
  refine x_getf (pc2 := 50) (v := aI (m 0 1)) fl_X7_70 ic_0 (fv_i _ ic_0 rfl) dX7_feed_47 rfl ?_
  exact x_ireturn dX7_feed_50 ⟨.int, rfl, rfl⟩ k
theorem c_X7_feed_15 {sc : List Int} {d d2 : Nat} {m m2 : Mem} {Q : Option AV → Mem → Prop} {s1 : Int} {v : Int} (hM : C_X7_refuse sc d2 [aR 0, aI s1] m (some (aI v)) m2) (hd : d2 + 1 ≤ d) (k : S_X7_feed sc d 18 [aR 0, aU, aU, aU, aU, aU] [aI v] m2 Q) : S_X7_feed sc d 15 [aR 0, aU, aU, aU, aU, aU] [aI s1, aR 0] m Q := x_callV (as := [aI s1]) (rest := []) hM mk_X7_refuse mv_X7_refuse lk_X7_74 (Or.inl ⟨7, (RX7, TX7, 14), ic_0, Nat.le_of_ble_eq_true rfl, rfl, rfl⟩) hd rfl rfl (Nat.le_of_ble_eq_true rfl) dX7_feed_15 rfl k
theorem c_X7_feed_21 {sc : List Int} {d d2 : Nat} {m m2 : Mem} {Q : Option AV → Mem → Prop} {l2 l3 l4 l5 s1 : Int} (hM : C_X7_append sc d2 [aR 0, aI s1] m none m2) (hd : d2 + 1 ≤ d) (k : S_X7_feed sc d 24 [aR 0, aU, aI l2, aI l3, aI l4, aI l5] [] m2 Q) : S_X7_feed sc d 21 [aR 0, aU, aI l2, aI l3, aI l4, aI l5] [aI s1, aR 0] m Q := x_callV (as := [aI s1]) (rest := []) hM mk_X7_append mv_X7_append lk_X7_78 (Or.inl ⟨7, (RX7, TX7, 14), ic_0, Nat.le_of_ble_eq_true rfl, rfl, rfl⟩) hd rfl rfl (Nat.le_of_ble_eq_true rfl) dX7_feed_21 rfl k
theorem c_X7_feed_26 {sc : List Int} {d d2 : Nat} {m m2 : Mem} {Q : Option AV → Mem → Prop} {l3 l4 l5 s1 : Int} (hM : C_X7_append sc d2 [aR 0, aI s1] m none m2) (hd : d2 + 1 ≤ d) (k : S_X7_feed sc d 29 [aR 0, aU, aU, aI l3, aI l4, aI l5] [] m2 Q) : S_X7_feed sc d 26 [aR 0, aU, aU, aI l3, aI l4, aI l5] [aI s1, aR 0] m Q := x_callV (as := [aI s1]) (rest := []) hM mk_X7_append mv_X7_append lk_X7_78 (Or.inl ⟨7, (RX7, TX7, 14), ic_0, Nat.le_of_ble_eq_true rfl, rfl, rfl⟩) hd rfl rfl (Nat.le_of_ble_eq_true rfl) dX7_feed_26 rfl k
theorem c_X7_feed_31 {sc : List Int} {d d2 : Nat} {m m2 : Mem} {Q : Option AV → Mem → Prop} {l4 l5 s1 : Int} (hM : C_X7_append sc d2 [aR 0, aI s1] m none m2) (hd : d2 + 1 ≤ d) (k : S_X7_feed sc d 34 [aR 0, aU, aU, aU, aI l4, aI l5] [] m2 Q) : S_X7_feed sc d 31 [aR 0, aU, aU, aU, aI l4, aI l5] [aI s1, aR 0] m Q := x_callV (as := [aI s1]) (rest := []) hM mk_X7_append mv_X7_append lk_X7_78 (Or.inl ⟨7, (RX7, TX7, 14), ic_0, Nat.le_of_ble_eq_true rfl, rfl, rfl⟩) hd rfl rfl (Nat.le_of_ble_eq_true rfl) dX7_feed_31 rfl k
theorem c_X7_feed_37 {sc : List Int} {d d2 : Nat} {m m2 : Mem} {Q : Option AV → Mem → Prop} {l5 s1 : Int} (hM : C_X7_append sc d2 [aR 0, aI s1] m none m2) (hd : d2 + 1 ≤ d) (k : S_X7_feed sc d 40 [aR 0, aU, aU, aU, aU, aI l5] [] m2 Q) : S_X7_feed sc d 37 [aR 0, aU, aU, aU, aU, aI l5] [aI s1, aR 0] m Q := x_callV (as := [aI s1]) (rest := []) hM mk_X7_append mv_X7_append lk_X7_78 (Or.inl ⟨7, (RX7, TX7, 14), ic_0, Nat.le_of_ble_eq_true rfl, rfl, rfl⟩) hd rfl rfl (Nat.le_of_ble_eq_true rfl) dX7_feed_37 rfl k
theorem c_X7_feed_43 {sc : List Int} {d d2 : Nat} {m m2 : Mem} {Q : Option AV → Mem → Prop} {s1 : Int} (hM : C_X7_append sc d2 [aR 0, aI s1] m none m2) (hd : d2 + 1 ≤ d) (k : S_X7_feed sc d 46 [aR 0, aU, aU, aU, aU, aU] [] m2 Q) : S_X7_feed sc d 43 [aR 0, aU, aU, aU, aU, aU] [aI s1, aR 0] m Q := x_callV (as := [aI s1]) (rest := []) hM mk_X7_append mv_X7_append lk_X7_78 (Or.inl ⟨7, (RX7, TX7, 14), ic_0, Nat.le_of_ble_eq_true rfl, rfl, rfl⟩) hd rfl rfl (Nat.le_of_ble_eq_true rfl) dX7_feed_43 rfl k
set_option maxRecDepth 4000 in
theorem g_X7_append_0 {sc : List Int} {d : Nat} {m : Mem} {Q : Option AV → Mem → Prop} {l1 : Int} (k : S_X7_append sc d 3 [aR 0, aI l1, aI 24] [] m Q) : S_X7_append sc d 0 [aR 0, aI l1, aU] [] m Q := by
  refine x_bipush (pc2 := 2) dX7_append_0 rfl rfl ?_
  refine x_istore_n (pc2 := 3) (ls2 := [aR 0, aI l1, aI 24]) dX7_append_2 rfl (by decide) rfl ?_
  exact k
set_option maxRecDepth 4000 in
theorem g_X7_append_3 {sc : List Int} {d : Nat} {m : Mem} {Q : Option AV → Mem → Prop} {l1 l2 : Int} (k : (-2147483648 ≤ l2 ∧ l2 < 2147483648) ∧ ((l2 < 0) → (Q none m)) ∧ (¬ (l2 < 0) → ((-2147483648 ≤ (m 0 1) ∧ (m 0 1) < 2147483648) ∧ ((1600 ≤ (m 0 1)) → (S_X7_append sc d 3 [aR 0, aI l1, aI (l2 + (-8))] [] m Q)) ∧ (¬ (1600 ≤ (m 0 1)) → ((0 ≤ (m 0 1)) ∧ ((m 0 1) < 1600) ∧ S_X7_append sc d 3 [aR 0, aI l1, aI (l2 + (-8))] [] (wr (wr m 1 (m 0 1) (a_and (a_ushr l1 l2) 255)) 0 1 (((wr m 1 (m 0 1) (a_and (a_ushr l1 l2) 255)) 0 1) + 1)) Q))))) : S_X7_append sc d 3 [aR 0, aI l1, aI l2] [] m Q := by
  refine x_iload_n (pc2 := 4) dX7_append_3 rfl rfl ?_
  obtain ⟨h1, k⟩ := k
  obtain ⟨k1, k2⟩ := k
  refine x_if_lt (tgt := 51) (pc2 := 7) dX7_append_4 (by decide) rfl h1 (fun c2 => ?_) (fun c2 => ?_)
  · replace k := k1 c2
    exact x_return dX7_append_51 rfl k
  · replace k := k2 c2
    refine x_aload_n (pc2 := 8) dX7_append_7 rfl rfl ?_
    refine x_getf (pc2 := 11) (v := aI (m 0 1)) fl_X7_70 ic_0 (fv_i _ ic_0 rfl) dX7_append_8 rfl ?_
    refine x_aload_n (pc2 := 12) dX7_append_11 rfl rfl ?_
    refine x_getf (pc2 := 15) (v := aR 1) fl_X7_9 ic_0 (vr_0_0 _) dX7_append_12 rfl ?_
    refine x_alenK (pc2 := 16) (n := 1600) (Or.inl ic_1) al_1 dX7_append_15 rfl ?_
    obtain ⟨h3, k⟩ := k
    obtain ⟨k1, k2⟩ := k
    refine x_icmp_ge (tgt := 45) (pc2 := 19) dX7_append_16 (by decide) rfl h3 (by decide) (fun c4 => ?_) (fun c4 => ?_)
    · replace k := k1 c4
      refine x_iinc (pc2 := 48) (ls2 := [aR 0, aI l1, aI (l2 + (-8))]) dX7_append_45 rfl rfl (by decide) rfl ?_
      refine x_goto (tgt := 3) dX7_append_48 (by decide) ?_
      exact k
    · replace k := k2 c4
      refine x_aload_n (pc2 := 20) dX7_append_19 rfl rfl ?_
      refine x_getf (pc2 := 23) (v := aR 1) fl_X7_9 ic_0 (vr_0_0 _) dX7_append_20 rfl ?_
      refine x_aload_n (pc2 := 24) dX7_append_23 rfl rfl ?_
      refine x_getf (pc2 := 27) (v := aI (m 0 1)) fl_X7_70 ic_0 (fv_i _ ic_0 rfl) dX7_append_24 rfl ?_
      refine x_iload_n (pc2 := 28) dX7_append_27 rfl rfl ?_
      refine x_iload_n (pc2 := 29) dX7_append_28 rfl rfl ?_
      refine x_iushr (pc2 := 30) dX7_append_29 rfl ?_
      refine x_sipush (pc2 := 33) dX7_append_30 rfl rfl ?_
      refine x_iand (pc2 := 34) dX7_append_33 rfl ?_
      obtain ⟨h5, k⟩ := k
      obtain ⟨h6, k⟩ := k
      refine x_iast (pc2 := 35) ic_1 h5 (by rw [al_1]; exact h6) dX7_append_34 rfl ?_
      refine x_aload_n (pc2 := 36) dX7_append_35 rfl rfl ?_
      refine x_dup_r (pc2 := 37) dX7_append_36 rfl (by decide) ?_
      refine x_getf (pc2 := 40) (v := aI ((wr m 1 (m 0 1) (a_and (a_ushr l1 l2) 255)) 0 1)) fl_X7_70 ic_0 (fv_i _ ic_0 rfl) dX7_append_37 rfl ?_
      refine x_iconst (pc2 := 41) dX7_append_40 rfl ?_
      refine x_iadd (pc2 := 42) dX7_append_41 rfl ?_
      refine x_putf (pc2 := 45) (x := (((wr m 1 (m 0 1) (a_and (a_ushr l1 l2) 255)) 0 1) + 1)) fl_X7_70 ft_7_1 ic_0 (pv_i _ ic_0 rfl) (pn_i _) dX7_append_42 rfl ?_
      refine x_iinc (pc2 := 48) (ls2 := [aR 0, aI l1, aI (l2 + (-8))]) dX7_append_45 rfl rfl (by decide) rfl ?_
      refine x_goto (tgt := 3) dX7_append_48 (by decide) ?_
      exact k
set_option maxRecDepth 4000 in
theorem g_X7_refuse_0 {sc : List Int} {d : Nat} {m : Mem} {Q : Option AV → Mem → Prop} {l1 : Int} (k : (-2147483648 ≤ l1 ∧ l1 < 2147483648) ∧ ((l1 < 0) → (Q (some (aI (-1))) m)) ∧ (¬ (l1 < 0) → (((6 ≤ l1) → (Q (some (aI (-1))) m)) ∧ (¬ (6 ≤ l1) → ((0 ≤ l1) ∧ (l1 < 6) ∧ Q (some (aI (-1))) (wr m 61 l1 ((m 61 l1) + 1))))))) : S_X7_refuse sc d 0 [aR 0, aI l1] [] m Q := by
  refine x_iload_n (pc2 := 1) dX7_refuse_0 rfl rfl ?_
  obtain ⟨h1, k⟩ := k
  obtain ⟨k1, k2⟩ := k
  refine x_if_lt (tgt := 23) (pc2 := 4) dX7_refuse_1 (by decide) rfl h1 (fun c2 => ?_) (fun c2 => ?_)
  · replace k := k1 c2
    refine x_iconst (pc2 := 24) dX7_refuse_23 rfl ?_
    exact x_ireturn dX7_refuse_24 ⟨.int, rfl, rfl⟩ k
  · replace k := k2 c2
    refine x_iload_n (pc2 := 5) dX7_refuse_4 rfl rfl ?_
    refine x_aload_n (pc2 := 6) dX7_refuse_5 rfl rfl ?_
    refine x_getf (pc2 := 9) (v := aR 61) fl_X7_64 ic_0 (vr_0_13 _) dX7_refuse_6 rfl ?_
    refine x_alenK (pc2 := 10) (n := 6) (Or.inl ic_61) al_61 dX7_refuse_9 rfl ?_
    obtain ⟨k1, k2⟩ := k
    refine x_icmp_ge (tgt := 23) (pc2 := 13) dX7_refuse_10 (by decide) rfl h1 (by decide) (fun c3 => ?_) (fun c3 => ?_)
    · replace k := k1 c3
      refine x_iconst (pc2 := 24) dX7_refuse_23 rfl ?_
      exact x_ireturn dX7_refuse_24 ⟨.int, rfl, rfl⟩ k
    · replace k := k2 c3
      refine x_aload_n (pc2 := 14) dX7_refuse_13 rfl rfl ?_
      refine x_getf (pc2 := 17) (v := aR 61) fl_X7_64 ic_0 (vr_0_13 _) dX7_refuse_14 rfl ?_
      refine x_iload_n (pc2 := 18) dX7_refuse_17 rfl rfl ?_
      refine x_dup2_ri (pc2 := 19) dX7_refuse_18 rfl (by decide) ?_
      obtain ⟨h4, k⟩ := k
      obtain ⟨h5, k⟩ := k
      refine x_iald (pc2 := 20) ic_61 h4 (by rw [al_61]; exact h5) dX7_refuse_19 rfl ?_
      refine x_iconst (pc2 := 21) dX7_refuse_20 rfl ?_
      refine x_iadd (pc2 := 22) dX7_refuse_21 rfl ?_
      refine x_iast (pc2 := 23) ic_61 h4 (by rw [al_61]; exact h5) dX7_refuse_22 rfl ?_
      refine x_iconst (pc2 := 24) dX7_refuse_23 rfl ?_
      exact x_ireturn dX7_refuse_24 ⟨.int, rfl, rfl⟩ k
set_option maxRecDepth 4000 in
theorem g_X7_end_0 {sc : List Int} {d : Nat} {m : Mem} {Q : Option AV → Mem → Prop} {l1 : Int} (k : (-2147483648 ≤ l1 ∧ l1 < 2147483648) ∧ ((l1 < 0) → (S_X7_end sc d 14 [aR 0, aU] [aI 0, aR 0] m Q)) ∧ (¬ (l1 < 0) → ((-2147483648 ≤ (m 0 1) ∧ (m 0 1) < 2147483648) ∧ ((l1 ≤ (m 0 1)) → (Q (some (aI 1)) (wr m 0 1 l1))) ∧ (¬ (l1 ≤ (m 0 1)) → (S_X7_end sc d 14 [aR 0, aU] [aI 0, aR 0] m Q))))) : S_X7_end sc d 0 [aR 0, aI l1] [] m Q := by
  refine x_iload_n (pc2 := 1) dX7_end_0 rfl rfl ?_
  obtain ⟨h1, k⟩ := k
  obtain ⟨k1, k2⟩ := k
  refine x_if_lt (tgt := 12) (pc2 := 4) dX7_end_1 (by decide) rfl h1 (fun c2 => ?_) (fun c2 => ?_)
  · replace k := k1 c2
    refine x_aload_n (pc2 := 13) dX7_end_12 rfl rfl ?_
    refine x_iconst (pc2 := 14) dX7_end_13 rfl ?_
    exact x_drop (drp_k (drp_u drp_n)) k
  · replace k := k2 c2
    refine x_iload_n (pc2 := 5) dX7_end_4 rfl rfl ?_
    refine x_aload_n (pc2 := 6) dX7_end_5 rfl rfl ?_
    refine x_getf (pc2 := 9) (v := aI (m 0 1)) fl_X7_70 ic_0 (fv_i _ ic_0 rfl) dX7_end_6 rfl ?_
    obtain ⟨h3, k⟩ := k
    obtain ⟨k1, k2⟩ := k
    refine x_icmp_le (tgt := 20) (pc2 := 12) dX7_end_9 (by decide) rfl h1 h3 (fun c4 => ?_) (fun c4 => ?_)
    · replace k := k1 c4
      refine x_aload_n (pc2 := 21) dX7_end_20 rfl rfl ?_
      refine x_iload_n (pc2 := 22) dX7_end_21 rfl rfl ?_
      refine x_putf (pc2 := 25) (x := l1) fl_X7_70 ft_7_1 ic_0 (pv_i _ ic_0 rfl) (pn_i _) dX7_end_22 rfl ?_
      refine x_iconst (pc2 := 26) dX7_end_25 rfl ?_
      exact x_ireturn dX7_end_26 ⟨.boolean, rfl, rfl⟩ k
    · replace k := k2 c4
      refine x_aload_n (pc2 := 13) dX7_end_12 rfl rfl ?_
      refine x_iconst (pc2 := 14) dX7_end_13 rfl ?_
      exact x_drop (drp_k (drp_u drp_n)) k
set_option maxRecDepth 4000 in
theorem g_X7_end_17 {sc : List Int} {d : Nat} {m : Mem} {Q : Option AV → Mem → Prop} {s0 : Int} (k : Q (some (aI 0)) m) : S_X7_end sc d 17 [aR 0, aU] [aI s0] m Q := by
  refine x_pop_i (pc2 := 18) dX7_end_17 rfl ?_
  refine x_iconst (pc2 := 19) dX7_end_18 rfl ?_
  exact x_ireturn dX7_end_19 ⟨.boolean, rfl, rfl⟩ k
theorem c_X7_end_14 {sc : List Int} {d d2 : Nat} {m m2 : Mem} {Q : Option AV → Mem → Prop} {s1 : Int} {v : Int} (hM : C_X7_refuse sc d2 [aR 0, aI s1] m (some (aI v)) m2) (hd : d2 + 1 ≤ d) (k : S_X7_end sc d 17 [aR 0, aU] [aI v] m2 Q) : S_X7_end sc d 14 [aR 0, aU] [aI s1, aR 0] m Q := x_callV (as := [aI s1]) (rest := []) hM mk_X7_refuse mv_X7_refuse lk_X7_74 (Or.inl ⟨7, (RX7, TX7, 14), ic_0, Nat.le_of_ble_eq_true rfl, rfl, rfl⟩) hd rfl rfl (Nat.le_of_ble_eq_true rfl) dX7_end_14 rfl k
set_option maxRecDepth 4000 in
theorem g_X7_room_0 {sc : List Int} {d : Nat} {m : Mem} {Q : Option AV → Mem → Prop} (k : S_X7_room sc d 16 [aR 0, aU] [aI (m 0 1), aR 1, aR (m 0 3), aR 32] m Q) : S_X7_room sc d 0 [aR 0, aU] [] m Q := by
  refine x_aload_n (pc2 := 1) dX7_room_0 rfl rfl ?_
  refine x_getf (pc2 := 4) (v := aR 32) fl_X7_26 ic_0 (vr_0_4 _) dX7_room_1 rfl ?_
  refine x_aload_n (pc2 := 5) dX7_room_4 rfl rfl ?_
  refine x_getf (pc2 := 8) (v := aR (m 0 3)) fl_X7_20 ic_0 (fv_m _ ic_0 rfl) dX7_room_5 rfl ?_
  refine x_aload_n (pc2 := 9) dX7_room_8 rfl rfl ?_
  refine x_getf (pc2 := 12) (v := aR 1) fl_X7_9 ic_0 (vr_0_0 _) dX7_room_9 rfl ?_
  refine x_aload_n (pc2 := 13) dX7_room_12 rfl rfl ?_
  refine x_getf (pc2 := 16) (v := aI (m 0 1)) fl_X7_70 ic_0 (fv_i _ ic_0 rfl) dX7_room_13 rfl ?_
  exact k
set_option maxRecDepth 4000 in
theorem g_X7_room_19 {sc : List Int} {d : Nat} {m : Mem} {Q : Option AV → Mem → Prop} (k : (-2147483648 ≤ ((wr m 0 1 0) 32 7) ∧ ((wr m 0 1 0) 32 7) < 2147483648) ∧ ((((wr m 0 1 0) 32 7) = 0) → ((RoomAt ((wr m 0 1 0) 0 2)) ∧ (RoomAt ((wr m 0 1 0) 0 3)) ∧ S_X7_room sc d 62 [aR 0, aU] [aR 37] (wr (wr (wr m 0 1 0) 0 2 ((wr m 0 1 0) 0 3)) 0 3 ((wr m 0 1 0) 0 2)) Q)) ∧ (¬ (((wr m 0 1 0) 32 7) = 0) → (S_X7_room sc d 36 [aR 0, aU] [aI 1, aR 0] (wr m 0 1 0) Q))) : S_X7_room sc d 19 [aR 0, aU] [] m Q := by
  refine x_aload_n (pc2 := 20) dX7_room_19 rfl rfl ?_
  refine x_iconst (pc2 := 21) dX7_room_20 rfl ?_
  refine x_putf (pc2 := 24) (x := 0) fl_X7_70 ft_7_1 ic_0 (pv_i _ ic_0 rfl) (pn_i _) dX7_room_21 rfl ?_
  refine x_aload_n (pc2 := 25) dX7_room_24 rfl rfl ?_
  refine x_getf (pc2 := 28) (v := aR 32) fl_X7_26 ic_0 (vr_0_4 _) dX7_room_25 rfl ?_
  refine x_getf (pc2 := 31) (v := aI ((wr m 0 1 0) 32 7)) fl_X7_86 ic_32 (fv_i _ ic_32 rfl) dX7_room_28 rfl ?_
  obtain ⟨h1, k⟩ := k
  obtain ⟨k1, k2⟩ := k
  refine x_if_eq (tgt := 40) (pc2 := 34) dX7_room_31 (by decide) rfl h1 (fun c2 => ?_) (fun c2 => ?_)
  · replace k := k1 c2
    refine x_aload_n (pc2 := 41) dX7_room_40 rfl rfl ?_
    refine x_getf (pc2 := 44) (v := aR ((wr m 0 1 0) 0 2)) fl_X7_16 ic_0 (fv_m _ ic_0 rfl) dX7_room_41 rfl ?_
    obtain ⟨h3, k⟩ := k
    refine x_astore_n (pc2 := 45) (ls2 := [aR 0, aR ((wr m 0 1 0) 0 2)]) dX7_room_44 rfl (by decide) rfl ((icr_0 h3)).1 ?_
    refine x_aload_n (pc2 := 46) dX7_room_45 rfl rfl ?_
    refine x_aload_n (pc2 := 47) dX7_room_46 rfl rfl ?_
    refine x_getf (pc2 := 50) (v := aR ((wr m 0 1 0) 0 3)) fl_X7_20 ic_0 (fv_m _ ic_0 rfl) dX7_room_47 rfl ?_
    obtain ⟨h4, k⟩ := k
    refine x_putf (pc2 := 53) (x := ((wr m 0 1 0) 0 3)) fl_X7_16 ft_7_2 ic_0 (pv_m _ ic_0 rfl) (pn_o ((icr_0 h4)).1 _) dX7_room_50 rfl ?_
    refine x_aload_n (pc2 := 54) dX7_room_53 rfl rfl ?_
    refine x_aload_n (pc2 := 55) dX7_room_54 rfl rfl ?_
    refine x_putf (pc2 := 58) (x := ((wr m 0 1 0) 0 2)) fl_X7_20 ft_7_3 ic_0 (pv_m _ ic_0 rfl) (pn_o ((icr_0 h3)).1 _) dX7_room_55 rfl ?_
    refine x_aload_n (pc2 := 59) dX7_room_58 rfl rfl ?_
    refine x_getf (pc2 := 62) (v := aR 37) fl_X7_33 ic_0 (vr_0_5 _) dX7_room_59 rfl ?_
    exact x_drop (drp_k (drp_u drp_n)) k
  · replace k := k2 c2
    refine x_aload_n (pc2 := 35) dX7_room_34 rfl rfl ?_
    refine x_iconst (pc2 := 36) dX7_room_35 rfl ?_
    exact k
set_option maxRecDepth 4000 in
theorem g_X7_room_39 {sc : List Int} {d : Nat} {m : Mem} {Q : Option AV → Mem → Prop} {s0 : Int} (k : Q (some (aI s0)) m) : S_X7_room sc d 39 [aR 0, aU] [aI s0] m Q := by
  exact x_ireturn dX7_room_39 ⟨.int, rfl, rfl⟩ k
set_option maxRecDepth 4000 in
theorem g_X7_room_65 {sc : List Int} {d : Nat} {m : Mem} {Q : Option AV → Mem → Prop} (k : S_X7_room sc d 69 [aR 0, aU] [aR 44] m Q) : S_X7_room sc d 65 [aR 0, aU] [] m Q := by
  refine x_aload_n (pc2 := 66) dX7_room_65 rfl rfl ?_
  refine x_getf (pc2 := 69) (v := aR 44) fl_X7_47 ic_0 (vr_0_7 _) dX7_room_66 rfl ?_
  exact k
set_option maxRecDepth 4000 in
theorem g_X7_room_72 {sc : List Int} {d : Nat} {m : Mem} {Q : Option AV → Mem → Prop} (k : S_X7_room sc d 80 [aR 0, aU] [aR (m 0 2), aR 57] m Q) : S_X7_room sc d 72 [aR 0, aU] [] m Q := by
  refine x_aload_n (pc2 := 73) dX7_room_72 rfl rfl ?_
  refine x_getf (pc2 := 76) (v := aR 57) fl_X7_54 ic_0 (vr_0_8 _) dX7_room_73 rfl ?_
  refine x_aload_n (pc2 := 77) dX7_room_76 rfl rfl ?_
  refine x_getf (pc2 := 80) (v := aR (m 0 2)) fl_X7_16 ic_0 (fv_m _ ic_0 rfl) dX7_room_77 rfl ?_
  exact k
set_option maxRecDepth 4000 in
theorem g_X7_room_83 {sc : List Int} {d : Nat} {m : Mem} {Q : Option AV → Mem → Prop} (k : (RoomAt ((wr m 0 10 0) 0 2)) ∧ Q (some (aI ((wr m 0 10 0) ((wr m 0 10 0) 0 2) 15))) (wr m 0 10 0)) : S_X7_room sc d 83 [aR 0, aU] [] m Q := by
  refine x_aload_n (pc2 := 84) dX7_room_83 rfl rfl ?_
  refine x_iconst (pc2 := 85) dX7_room_84 rfl ?_
  refine x_putf (pc2 := 88) (x := 0) fl_X7_97 ft_7_10 ic_0 (pv_i _ ic_0 rfl) (pn_i _) dX7_room_85 rfl ?_
  refine x_aload_n (pc2 := 89) dX7_room_88 rfl rfl ?_
  refine x_getf (pc2 := 92) (v := aR ((wr m 0 10 0) 0 2)) fl_X7_16 ic_0 (fv_m _ ic_0 rfl) dX7_room_89 rfl ?_
  obtain ⟨h1, k⟩ := k
  refine x_getf (pc2 := 95) (v := aI ((wr m 0 10 0) ((wr m 0 10 0) 0 2) 15)) fl_X7_100 (icr_0 h1) (fv_i _ (icr_0 h1) rfl) dX7_room_92 rfl ?_
  exact x_ireturn dX7_room_95 ⟨.int, rfl, rfl⟩ k
theorem c_X7_room_16 {sc : List Int} {d d2 : Nat} {m m2 : Mem} {Q : Option AV → Mem → Prop} {s1 s2 s3 : Int} (Hs1 : RoomAt s1) (Hs2 : IsC s2 100) (hM : C_X5_readRoom sc d2 [aR 32, aR s1, aR s2, aI s3] m none m2) (hd : d2 + 1 ≤ d) (k : S_X7_room sc d 19 [aR 0, aU] [] m2 Q) : S_X7_room sc d 16 [aR 0, aU] [aI s3, aR s2, aR s1, aR 32] m Q := x_callV (as := [aR s1, aR s2, aI s3]) (rest := []) hM mk_X5_readRoom mv_X5_readRoom lk_X7_82 (Or.inl ⟨5, (RX5, TX5, 12), ic_32, Nat.le_of_ble_eq_true rfl, rfl, rfl⟩) hd rfl rfl (Nat.le_of_ble_eq_true rfl) dX7_room_16 rfl k
theorem c_X7_room_36 {sc : List Int} {d d2 : Nat} {m m2 : Mem} {Q : Option AV → Mem → Prop} {s1 : Int} {v : Int} (hM : C_X7_refuse sc d2 [aR 0, aI s1] m (some (aI v)) m2) (hd : d2 + 1 ≤ d) (k : S_X7_room sc d 39 [aR 0, aU] [aI v] m2 Q) : S_X7_room sc d 36 [aR 0, aU] [aI s1, aR 0] m Q := x_callV (as := [aI s1]) (rest := []) hM mk_X7_refuse mv_X7_refuse lk_X7_74 (Or.inl ⟨7, (RX7, TX7, 14), ic_0, Nat.le_of_ble_eq_true rfl, rfl, rfl⟩) hd rfl rfl (Nat.le_of_ble_eq_true rfl) dX7_room_36 rfl k
theorem c_X7_room_62 {sc : List Int} {d d2 : Nat} {m m2 : Mem} {Q : Option AV → Mem → Prop} (hM : C_X0_forget sc d2 [aR 37] m none m2) (hd : d2 + 1 ≤ d) (k : S_X7_room sc d 65 [aR 0, aU] [] m2 Q) : S_X7_room sc d 62 [aR 0, aU] [aR 37] m Q := x_callV (as := []) (rest := []) hM mk_X0_forget mv_X0_forget lk_X7_89 (Or.inl ⟨0, (RX0, TX0, 2), ic_37, Nat.le_of_ble_eq_true rfl, rfl, rfl⟩) hd rfl rfl (Nat.le_of_ble_eq_true rfl) dX7_room_62 rfl k
theorem c_X7_room_69 {sc : List Int} {d d2 : Nat} {m m2 : Mem} {Q : Option AV → Mem → Prop} (hM : C_X4_forget sc d2 [aR 44] m none m2) (hd : d2 + 1 ≤ d) (k : S_X7_room sc d 72 [aR 0, aU] [] m2 Q) : S_X7_room sc d 69 [aR 0, aU] [aR 44] m Q := x_callV (as := []) (rest := []) hM mk_X4_forget mv_X4_forget lk_X7_92 (Or.inl ⟨4, (RX4, TX4, 19), ic_44, Nat.le_of_ble_eq_true rfl, rfl, rfl⟩) hd rfl rfl (Nat.le_of_ble_eq_true rfl) dX7_room_69 rfl k
theorem c_X7_room_80 {sc : List Int} {d d2 : Nat} {m m2 : Mem} {Q : Option AV → Mem → Prop} {s1 : Int} (Hs1 : RoomAt s1) (hM : C_X2_enter sc d2 [aR 57, aR s1] m none m2) (hd : d2 + 1 ≤ d) (k : S_X7_room sc d 83 [aR 0, aU] [] m2 Q) : S_X7_room sc d 80 [aR 0, aU] [aR s1, aR 57] m Q := x_callV (as := [aR s1]) (rest := []) hM mk_X2_enter mv_X2_enter lk_X7_93 (Or.inl ⟨2, (RX2, TX2, 9), ic_57, Nat.le_of_ble_eq_true rfl, rfl, rfl⟩) hd rfl rfl (Nat.le_of_ble_eq_true rfl) dX7_room_80 rfl k
set_option maxRecDepth 4000 in
theorem g_X7_fault_0 {sc : List Int} {d : Nat} {m : Mem} {Q : Option AV → Mem → Prop} {l1 : Int} (k : (-2147483648 ≤ l1 ∧ l1 < 2147483648) ∧ ((l1 ≠ 0) → (Q (some (aI (if l1 ≠ 1 then (-1) else (m 32 8) : Int))) m)) ∧ (¬ (l1 ≠ 0) → (Q (some (aI (m 32 7))) m))) : S_X7_fault sc d 0 [aR 0, aI l1] [] m Q := by
  refine x_iload_n (pc2 := 1) dX7_fault_0 rfl rfl ?_
  obtain ⟨h1, k⟩ := k
  obtain ⟨k1, k2⟩ := k
  refine x_if_ne (tgt := 12) (pc2 := 4) dX7_fault_1 (by decide) rfl h1 (fun c2 => ?_) (fun c2 => ?_)
  · replace k := k1 c2
    refine x_iload_n (pc2 := 13) dX7_fault_12 rfl rfl ?_
    refine x_iconst (pc2 := 14) dX7_fault_13 rfl ?_
    have kj : S_X7_fault sc d 28 [aR 0, aI l1] [aI (if l1 ≠ 1 then (-1) else (m 32 8) : Int)] m Q := by
      exact x_ireturn dX7_fault_28 ⟨.int, rfl, rfl⟩ k
    refine x_icmp_ne (tgt := 27) (pc2 := 17) dX7_fault_14 (by decide) rfl h1 (by decide) (fun c3 => ?_) (fun c3 => ?_)
    · skip
      refine x_iconst (pc2 := 28) dX7_fault_27 rfl ?_
      exact x_topI (v := (if l1 ≠ 1 then (-1) else (m 32 8) : Int)) (if_pos c3) kj
    · skip
      refine x_aload_n (pc2 := 18) dX7_fault_17 rfl rfl ?_
      refine x_getf (pc2 := 21) (v := aR 32) fl_X7_26 ic_0 (vr_0_4 _) dX7_fault_18 rfl ?_
      refine x_getf (pc2 := 24) (v := aI (m 32 8)) fl_X7_103 ic_32 (fv_i _ ic_32 rfl) dX7_fault_21 rfl ?_
      refine x_goto (tgt := 28) dX7_fault_24 (by decide) ?_
      exact x_topI (v := (if l1 ≠ 1 then (-1) else (m 32 8) : Int)) (if_neg c3) kj
  · replace k := k2 c2
    refine x_aload_n (pc2 := 5) dX7_fault_4 rfl rfl ?_
    refine x_getf (pc2 := 8) (v := aR 32) fl_X7_26 ic_0 (vr_0_4 _) dX7_fault_5 rfl ?_
    refine x_getf (pc2 := 11) (v := aI (m 32 7)) fl_X7_86 ic_32 (fv_i _ ic_32 rfl) dX7_fault_8 rfl ?_
    exact x_ireturn dX7_fault_11 ⟨.int, rfl, rfl⟩ k
set_option maxRecDepth 4000 in
theorem g_X7_has_0 {sc : List Int} {d : Nat} {m : Mem} {Q : Option AV → Mem → Prop} {l1 : Int} (k : (-2147483648 ≤ l1 ∧ l1 < 2147483648) ∧ ((l1 < 3) → (((l1 = 0) → ((RoomAt (m 0 2)) ∧ Q (some (aI (m (m 0 2) 2))) m)) ∧ ((l1 = 1) → ((RoomAt (m 0 2)) ∧ Q (some (aI (m (m 0 2) 8))) m)) ∧ ((l1 = 2) → ((RoomAt (m 0 2)) ∧ Q (some (aI (m (m 0 2) 11))) m)) ∧ ((l1 = 9) → ((RoomAt (m 0 2)) ∧ (0 ≤ (m (m 0 2) 8)) ∧ ((m (m 0 2) 8) < 11) ∧ Q (some (aI (m ((m 0 2) + 7) (m (m 0 2) 8)))) m)) ∧ ((l1 = 10) → (Q (some (aI (m 0 10))) m)) ∧ ((l1 = 11) → (Q (some (aI (m 57 8))) m)) ∧ ((l1 ≠ 0 ∧ l1 ≠ 1 ∧ l1 ≠ 2 ∧ l1 ≠ 9 ∧ l1 ≠ 10 ∧ l1 ≠ 11) → (Q (some (aI (-1))) m)))) ∧ (¬ (l1 < 3) → (((8 < l1) → (((l1 = 0) → ((RoomAt (m 0 2)) ∧ Q (some (aI (m (m 0 2) 2))) m)) ∧ ((l1 = 1) → ((RoomAt (m 0 2)) ∧ Q (some (aI (m (m 0 2) 8))) m)) ∧ ((l1 = 2) → ((RoomAt (m 0 2)) ∧ Q (some (aI (m (m 0 2) 11))) m)) ∧ ((l1 = 9) → ((RoomAt (m 0 2)) ∧ (0 ≤ (m (m 0 2) 8)) ∧ ((m (m 0 2) 8) < 11) ∧ Q (some (aI (m ((m 0 2) + 7) (m (m 0 2) 8)))) m)) ∧ ((l1 = 10) → (Q (some (aI (m 0 10))) m)) ∧ ((l1 = 11) → (Q (some (aI (m 57 8))) m)) ∧ ((l1 ≠ 0 ∧ l1 ≠ 1 ∧ l1 ≠ 2 ∧ l1 ≠ 9 ∧ l1 ≠ 10 ∧ l1 ≠ 11) → (Q (some (aI (-1))) m)))) ∧ (¬ (8 < l1) → ((RoomAt (m 0 2)) ∧ (0 ≤ (l1 - 3)) ∧ ((l1 - 3) < 6) ∧ Q (some (aI (m ((m 0 2) + 13) (l1 - 3)))) m))))) : S_X7_has sc d 0 [aR 0, aI l1] [] m Q := by
  refine x_iload_n (pc2 := 1) dX7_has_0 rfl rfl ?_
  refine x_iconst (pc2 := 2) dX7_has_1 rfl ?_
  obtain ⟨h1, k⟩ := k
  obtain ⟨k1, k2⟩ := k
  refine x_icmp_lt (tgt := 23) (pc2 := 5) dX7_has_2 (by decide) rfl h1 (by decide) (fun c2 => ?_) (fun c2 => ?_)
  · replace k := k1 c2
    refine x_iload_n (pc2 := 24) dX7_has_23 rfl rfl ?_
    obtain ⟨k9, k10, k11, k12, k13, k14, k15⟩ := k
    by_cases c16 : l1 = 0
    · replace k := k9 c16
      refine x_tin (tgt := 88) (off := 64) dX7_has_24 h1 (by omega) (by omega) (by rw [c16]; rfl) (by decide) ?_
      refine x_aload_n (pc2 := 89) dX7_has_88 rfl rfl ?_
      refine x_getf (pc2 := 92) (v := aR (m 0 2)) fl_X7_16 ic_0 (fv_m _ ic_0 rfl) dX7_has_89 rfl ?_
      obtain ⟨h3, k⟩ := k
      refine x_getf (pc2 := 95) (v := aI (m (m 0 2) 2)) fl_X7_109 (icr_0 h3) (fv_i _ (icr_0 h3) rfl) dX7_has_92 rfl ?_
      exact x_ireturn dX7_has_95 ⟨.int, rfl, rfl⟩ k
    by_cases c17 : l1 = 1
    · replace k := k10 c17
      refine x_tin (tgt := 96) (off := 72) dX7_has_24 h1 (by omega) (by omega) (by rw [c17]; rfl) (by decide) ?_
      refine x_aload_n (pc2 := 97) dX7_has_96 rfl rfl ?_
      refine x_getf (pc2 := 100) (v := aR (m 0 2)) fl_X7_16 ic_0 (fv_m _ ic_0 rfl) dX7_has_97 rfl ?_
      obtain ⟨h4, k⟩ := k
      refine x_getf (pc2 := 103) (v := aI (m (m 0 2) 8)) fl_X7_112 (icr_0 h4) (fv_i _ (icr_0 h4) rfl) dX7_has_100 rfl ?_
      exact x_ireturn dX7_has_103 ⟨.int, rfl, rfl⟩ k
    by_cases c18 : l1 = 2
    · replace k := k11 c18
      refine x_tin (tgt := 104) (off := 80) dX7_has_24 h1 (by omega) (by omega) (by rw [c18]; rfl) (by decide) ?_
      refine x_aload_n (pc2 := 105) dX7_has_104 rfl rfl ?_
      refine x_getf (pc2 := 108) (v := aR (m 0 2)) fl_X7_16 ic_0 (fv_m _ ic_0 rfl) dX7_has_105 rfl ?_
      obtain ⟨h5, k⟩ := k
      refine x_getf (pc2 := 111) (v := aI (m (m 0 2) 11)) fl_X7_115 (icr_0 h5) (fv_i _ (icr_0 h5) rfl) dX7_has_108 rfl ?_
      exact x_ireturn dX7_has_111 ⟨.int, rfl, rfl⟩ k
    by_cases c19 : l1 = 9
    · replace k := k12 c19
      refine x_tin (tgt := 112) (off := 88) dX7_has_24 h1 (by omega) (by omega) (by rw [c19]; rfl) (by decide) ?_
      refine x_aload_n (pc2 := 113) dX7_has_112 rfl rfl ?_
      refine x_getf (pc2 := 116) (v := aR (m 0 2)) fl_X7_16 ic_0 (fv_m _ ic_0 rfl) dX7_has_113 rfl ?_
      obtain ⟨h6, k⟩ := k
      refine x_getf (pc2 := 119) (v := aR ((m 0 2) + 7)) fl_X7_118 (icr_0 h6) (vrr_7 _ h6) dX7_has_116 rfl ?_
      refine x_aload_n (pc2 := 120) dX7_has_119 rfl rfl ?_
      refine x_getf (pc2 := 123) (v := aR (m 0 2)) fl_X7_16 ic_0 (fv_m _ ic_0 rfl) dX7_has_120 rfl ?_
      refine x_getf (pc2 := 126) (v := aI (m (m 0 2) 8)) fl_X7_112 (icr_0 h6) (fv_i _ (icr_0 h6) rfl) dX7_has_123 rfl ?_
      obtain ⟨h7, k⟩ := k
      obtain ⟨h8, k⟩ := k
      refine x_iald (pc2 := 127) (icr_7 h6) h7 (by rw [(alr_7 h6)]; exact h8) dX7_has_126 rfl ?_
      exact x_ireturn dX7_has_127 ⟨.int, rfl, rfl⟩ k
    by_cases c20 : l1 = 10
    · replace k := k13 c20
      refine x_tin (tgt := 128) (off := 104) dX7_has_24 h1 (by omega) (by omega) (by rw [c20]; rfl) (by decide) ?_
      refine x_aload_n (pc2 := 129) dX7_has_128 rfl rfl ?_
      refine x_getf (pc2 := 132) (v := aI (m 0 10)) fl_X7_97 ic_0 (fv_i _ ic_0 rfl) dX7_has_129 rfl ?_
      exact x_ireturn dX7_has_132 ⟨.int, rfl, rfl⟩ k
    by_cases c21 : l1 = 11
    · replace k := k14 c21
      refine x_tin (tgt := 133) (off := 109) dX7_has_24 h1 (by omega) (by omega) (by rw [c21]; rfl) (by decide) ?_
      refine x_aload_n (pc2 := 134) dX7_has_133 rfl rfl ?_
      refine x_getf (pc2 := 137) (v := aR 57) fl_X7_54 ic_0 (vr_0_8 _) dX7_has_134 rfl ?_
      refine x_getf (pc2 := 140) (v := aI (m 57 8)) fl_X7_121 ic_57 (fv_i _ ic_57 rfl) dX7_has_137 rfl ?_
      exact x_ireturn dX7_has_140 ⟨.int, rfl, rfl⟩ k
    replace k := k15 (by omega)
    have kd : S_X7_has sc d 141 [aR 0, aI l1] [] m Q := by
      refine x_iconst (pc2 := 142) dX7_has_141 rfl ?_
      exact x_ireturn dX7_has_142 ⟨.int, rfl, rfl⟩ k
    by_cases c22 : l1 < 0 ∨ 11 < l1
    · exact x_tout (tgt := 141) dX7_has_24 h1 c22 (by decide) kd
    by_cases c23 : l1 = 3
    · exact x_tin (tgt := 141) (off := 117) dX7_has_24 h1 (by omega) (by omega) (by rw [c23]; rfl) (by decide) kd
    by_cases c24 : l1 = 4
    · exact x_tin (tgt := 141) (off := 117) dX7_has_24 h1 (by omega) (by omega) (by rw [c24]; rfl) (by decide) kd
    by_cases c25 : l1 = 5
    · exact x_tin (tgt := 141) (off := 117) dX7_has_24 h1 (by omega) (by omega) (by rw [c25]; rfl) (by decide) kd
    by_cases c26 : l1 = 6
    · exact x_tin (tgt := 141) (off := 117) dX7_has_24 h1 (by omega) (by omega) (by rw [c26]; rfl) (by decide) kd
    by_cases c27 : l1 = 7
    · exact x_tin (tgt := 141) (off := 117) dX7_has_24 h1 (by omega) (by omega) (by rw [c27]; rfl) (by decide) kd
    by_cases c28 : l1 = 8
    · exact x_tin (tgt := 141) (off := 117) dX7_has_24 h1 (by omega) (by omega) (by rw [c28]; rfl) (by decide) kd
    exact absurd c22 (by omega)
  · replace k := k2 c2
    refine x_iload_n (pc2 := 6) dX7_has_5 rfl rfl ?_
    refine x_bipush (pc2 := 8) dX7_has_6 rfl rfl ?_
    obtain ⟨k1, k2⟩ := k
    refine x_icmp_gt (tgt := 23) (pc2 := 11) dX7_has_8 (by decide) rfl h1 (by decide) (fun c29 => ?_) (fun c29 => ?_)
    · replace k := k1 c29
      refine x_iload_n (pc2 := 24) dX7_has_23 rfl rfl ?_
      obtain ⟨k36, k37, k38, k39, k40, k41, k42⟩ := k
      by_cases c43 : l1 = 0
      · replace k := k36 c43
        refine x_tin (tgt := 88) (off := 64) dX7_has_24 h1 (by omega) (by omega) (by rw [c43]; rfl) (by decide) ?_
        refine x_aload_n (pc2 := 89) dX7_has_88 rfl rfl ?_
        refine x_getf (pc2 := 92) (v := aR (m 0 2)) fl_X7_16 ic_0 (fv_m _ ic_0 rfl) dX7_has_89 rfl ?_
        obtain ⟨h30, k⟩ := k
        refine x_getf (pc2 := 95) (v := aI (m (m 0 2) 2)) fl_X7_109 (icr_0 h30) (fv_i _ (icr_0 h30) rfl) dX7_has_92 rfl ?_
        exact x_ireturn dX7_has_95 ⟨.int, rfl, rfl⟩ k
      by_cases c44 : l1 = 1
      · replace k := k37 c44
        refine x_tin (tgt := 96) (off := 72) dX7_has_24 h1 (by omega) (by omega) (by rw [c44]; rfl) (by decide) ?_
        refine x_aload_n (pc2 := 97) dX7_has_96 rfl rfl ?_
        refine x_getf (pc2 := 100) (v := aR (m 0 2)) fl_X7_16 ic_0 (fv_m _ ic_0 rfl) dX7_has_97 rfl ?_
        obtain ⟨h31, k⟩ := k
        refine x_getf (pc2 := 103) (v := aI (m (m 0 2) 8)) fl_X7_112 (icr_0 h31) (fv_i _ (icr_0 h31) rfl) dX7_has_100 rfl ?_
        exact x_ireturn dX7_has_103 ⟨.int, rfl, rfl⟩ k
      by_cases c45 : l1 = 2
      · replace k := k38 c45
        refine x_tin (tgt := 104) (off := 80) dX7_has_24 h1 (by omega) (by omega) (by rw [c45]; rfl) (by decide) ?_
        refine x_aload_n (pc2 := 105) dX7_has_104 rfl rfl ?_
        refine x_getf (pc2 := 108) (v := aR (m 0 2)) fl_X7_16 ic_0 (fv_m _ ic_0 rfl) dX7_has_105 rfl ?_
        obtain ⟨h32, k⟩ := k
        refine x_getf (pc2 := 111) (v := aI (m (m 0 2) 11)) fl_X7_115 (icr_0 h32) (fv_i _ (icr_0 h32) rfl) dX7_has_108 rfl ?_
        exact x_ireturn dX7_has_111 ⟨.int, rfl, rfl⟩ k
      by_cases c46 : l1 = 9
      · replace k := k39 c46
        refine x_tin (tgt := 112) (off := 88) dX7_has_24 h1 (by omega) (by omega) (by rw [c46]; rfl) (by decide) ?_
        refine x_aload_n (pc2 := 113) dX7_has_112 rfl rfl ?_
        refine x_getf (pc2 := 116) (v := aR (m 0 2)) fl_X7_16 ic_0 (fv_m _ ic_0 rfl) dX7_has_113 rfl ?_
        obtain ⟨h33, k⟩ := k
        refine x_getf (pc2 := 119) (v := aR ((m 0 2) + 7)) fl_X7_118 (icr_0 h33) (vrr_7 _ h33) dX7_has_116 rfl ?_
        refine x_aload_n (pc2 := 120) dX7_has_119 rfl rfl ?_
        refine x_getf (pc2 := 123) (v := aR (m 0 2)) fl_X7_16 ic_0 (fv_m _ ic_0 rfl) dX7_has_120 rfl ?_
        refine x_getf (pc2 := 126) (v := aI (m (m 0 2) 8)) fl_X7_112 (icr_0 h33) (fv_i _ (icr_0 h33) rfl) dX7_has_123 rfl ?_
        obtain ⟨h34, k⟩ := k
        obtain ⟨h35, k⟩ := k
        refine x_iald (pc2 := 127) (icr_7 h33) h34 (by rw [(alr_7 h33)]; exact h35) dX7_has_126 rfl ?_
        exact x_ireturn dX7_has_127 ⟨.int, rfl, rfl⟩ k
      by_cases c47 : l1 = 10
      · replace k := k40 c47
        refine x_tin (tgt := 128) (off := 104) dX7_has_24 h1 (by omega) (by omega) (by rw [c47]; rfl) (by decide) ?_
        refine x_aload_n (pc2 := 129) dX7_has_128 rfl rfl ?_
        refine x_getf (pc2 := 132) (v := aI (m 0 10)) fl_X7_97 ic_0 (fv_i _ ic_0 rfl) dX7_has_129 rfl ?_
        exact x_ireturn dX7_has_132 ⟨.int, rfl, rfl⟩ k
      by_cases c48 : l1 = 11
      · replace k := k41 c48
        refine x_tin (tgt := 133) (off := 109) dX7_has_24 h1 (by omega) (by omega) (by rw [c48]; rfl) (by decide) ?_
        refine x_aload_n (pc2 := 134) dX7_has_133 rfl rfl ?_
        refine x_getf (pc2 := 137) (v := aR 57) fl_X7_54 ic_0 (vr_0_8 _) dX7_has_134 rfl ?_
        refine x_getf (pc2 := 140) (v := aI (m 57 8)) fl_X7_121 ic_57 (fv_i _ ic_57 rfl) dX7_has_137 rfl ?_
        exact x_ireturn dX7_has_140 ⟨.int, rfl, rfl⟩ k
      replace k := k42 (by omega)
      have kd : S_X7_has sc d 141 [aR 0, aI l1] [] m Q := by
        refine x_iconst (pc2 := 142) dX7_has_141 rfl ?_
        exact x_ireturn dX7_has_142 ⟨.int, rfl, rfl⟩ k
      by_cases c49 : l1 < 0 ∨ 11 < l1
      · exact x_tout (tgt := 141) dX7_has_24 h1 c49 (by decide) kd
      by_cases c50 : l1 = 3
      · exact x_tin (tgt := 141) (off := 117) dX7_has_24 h1 (by omega) (by omega) (by rw [c50]; rfl) (by decide) kd
      by_cases c51 : l1 = 4
      · exact x_tin (tgt := 141) (off := 117) dX7_has_24 h1 (by omega) (by omega) (by rw [c51]; rfl) (by decide) kd
      by_cases c52 : l1 = 5
      · exact x_tin (tgt := 141) (off := 117) dX7_has_24 h1 (by omega) (by omega) (by rw [c52]; rfl) (by decide) kd
      by_cases c53 : l1 = 6
      · exact x_tin (tgt := 141) (off := 117) dX7_has_24 h1 (by omega) (by omega) (by rw [c53]; rfl) (by decide) kd
      by_cases c54 : l1 = 7
      · exact x_tin (tgt := 141) (off := 117) dX7_has_24 h1 (by omega) (by omega) (by rw [c54]; rfl) (by decide) kd
      by_cases c55 : l1 = 8
      · exact x_tin (tgt := 141) (off := 117) dX7_has_24 h1 (by omega) (by omega) (by rw [c55]; rfl) (by decide) kd
      exact absurd c49 (by omega)
    · replace k := k2 c29
      refine x_aload_n (pc2 := 12) dX7_has_11 rfl rfl ?_
      refine x_getf (pc2 := 15) (v := aR (m 0 2)) fl_X7_16 ic_0 (fv_m _ ic_0 rfl) dX7_has_12 rfl ?_
      obtain ⟨h56, k⟩ := k
      refine x_getf (pc2 := 18) (v := aR ((m 0 2) + 13)) fl_X7_106 (icr_0 h56) (vrr_13 _ h56) dX7_has_15 rfl ?_
      refine x_iload_n (pc2 := 19) dX7_has_18 rfl rfl ?_
      refine x_iconst (pc2 := 20) dX7_has_19 rfl ?_
      refine x_isub (pc2 := 21) dX7_has_20 rfl ?_
      obtain ⟨h57, k⟩ := k
      obtain ⟨h58, k⟩ := k
      refine x_iald (pc2 := 22) (icr_13 h56) h57 (by rw [(alr_13 h56)]; exact h58) dX7_has_21 rfl ?_
      exact x_ireturn dX7_has_22 ⟨.int, rfl, rfl⟩ k
set_option maxRecDepth 4000 in
theorem g_X7_letter_0 {sc : List Int} {d : Nat} {m : Mem} {Q : Option AV → Mem → Prop} {l1 l2 l3 : Int} (k : (-2147483648 ≤ l3 ∧ l3 < 2147483648) ∧ ((l3 < 0) → (Q (some (aI (-1))) m)) ∧ (¬ (l3 < 0) → (((6 ≤ l3) → (Q (some (aI (-1))) m)) ∧ (¬ (6 ≤ l3) → ((-2147483648 ≤ l2 ∧ l2 < 2147483648) ∧ ((0 ≤ l2) → ((-2147483648 ≤ l1 ∧ l1 < 2147483648) ∧ ((l1 ≠ 0) → (((l1 ≠ 1) → (Q (some (aI (-1))) m)) ∧ (¬ (l1 ≠ 1) → ((RoomAt (m 0 2)) ∧ (-2147483648 ≤ (m (m 0 2) 11) ∧ (m (m 0 2) 11) < 2147483648) ∧ (((m (m 0 2) 11) ≤ l2) → (Q (some (aI (-1))) m)) ∧ (¬ ((m (m 0 2) 11) ≤ l2) → ((0 ≤ (((10 + l2) * 6) + l3)) ∧ ((((10 + l2) * 6) + l3) < 84) ∧ Q (some (aI (m ((m 0 2) + 12) (((10 + l2) * 6) + l3)))) m)))))) ∧ (¬ (l1 ≠ 0) → ((RoomAt (m 0 2)) ∧ (-2147483648 ≤ (m (m 0 2) 8) ∧ (m (m 0 2) 8) < 2147483648) ∧ (((m (m 0 2) 8) ≤ l2) → (((l1 ≠ 1) → (Q (some (aI (-1))) m)) ∧ (¬ (l1 ≠ 1) → ((-2147483648 ≤ (m (m 0 2) 11) ∧ (m (m 0 2) 11) < 2147483648) ∧ (((m (m 0 2) 11) ≤ l2) → (Q (some (aI (-1))) m)) ∧ (¬ ((m (m 0 2) 11) ≤ l2) → ((0 ≤ (((10 + l2) * 6) + l3)) ∧ ((((10 + l2) * 6) + l3) < 84) ∧ Q (some (aI (m ((m 0 2) + 12) (((10 + l2) * 6) + l3)))) m)))))) ∧ (¬ ((m (m 0 2) 8) ≤ l2) → ((0 ≤ ((l2 * 6) + l3)) ∧ (((l2 * 6) + l3) < 84) ∧ Q (some (aI (m ((m 0 2) + 12) ((l2 * 6) + l3)))) m)))))) ∧ (¬ (0 ≤ l2) → (Q (some (aI (-1))) m))))))) : S_X7_letter sc d 0 [aR 0, aI l1, aI l2, aI l3] [] m Q := by
  refine x_iload_n (pc2 := 1) dX7_letter_0 rfl rfl ?_
  obtain ⟨h1, k⟩ := k
  obtain ⟨k1, k2⟩ := k
  refine x_if_lt (tgt := 14) (pc2 := 4) dX7_letter_1 (by decide) rfl h1 (fun c2 => ?_) (fun c2 => ?_)
  · replace k := k1 c2
    refine x_iconst (pc2 := 15) dX7_letter_14 rfl ?_
    exact x_ireturn dX7_letter_15 ⟨.int, rfl, rfl⟩ k
  · replace k := k2 c2
    refine x_iload_n (pc2 := 5) dX7_letter_4 rfl rfl ?_
    refine x_bipush (pc2 := 7) dX7_letter_5 rfl rfl ?_
    obtain ⟨k1, k2⟩ := k
    refine x_icmp_ge (tgt := 14) (pc2 := 10) dX7_letter_7 (by decide) rfl h1 (by decide) (fun c3 => ?_) (fun c3 => ?_)
    · replace k := k1 c3
      refine x_iconst (pc2 := 15) dX7_letter_14 rfl ?_
      exact x_ireturn dX7_letter_15 ⟨.int, rfl, rfl⟩ k
    · replace k := k2 c3
      refine x_iload_n (pc2 := 11) dX7_letter_10 rfl rfl ?_
      obtain ⟨h4, k⟩ := k
      obtain ⟨k1, k2⟩ := k
      refine x_if_ge (tgt := 16) (pc2 := 14) dX7_letter_11 (by decide) rfl h4 (fun c5 => ?_) (fun c5 => ?_)
      · replace k := k1 c5
        refine x_iload_n (pc2 := 17) dX7_letter_16 rfl rfl ?_
        obtain ⟨h6, k⟩ := k
        obtain ⟨k1, k2⟩ := k
        refine x_if_ne (tgt := 46) (pc2 := 20) dX7_letter_17 (by decide) rfl h6 (fun c7 => ?_) (fun c7 => ?_)
        · replace k := k1 c7
          refine x_iload_n (pc2 := 47) dX7_letter_46 rfl rfl ?_
          refine x_iconst (pc2 := 48) dX7_letter_47 rfl ?_
          obtain ⟨k1, k2⟩ := k
          refine x_icmp_ne (tgt := 80) (pc2 := 51) dX7_letter_48 (by decide) rfl h6 (by decide) (fun c8 => ?_) (fun c8 => ?_)
          · replace k := k1 c8
            refine x_iconst (pc2 := 81) dX7_letter_80 rfl ?_
            exact x_ireturn dX7_letter_81 ⟨.int, rfl, rfl⟩ k
          · replace k := k2 c8
            refine x_iload_n (pc2 := 52) dX7_letter_51 rfl rfl ?_
            refine x_aload_n (pc2 := 53) dX7_letter_52 rfl rfl ?_
            refine x_getf (pc2 := 56) (v := aR (m 0 2)) fl_X7_16 ic_0 (fv_m _ ic_0 rfl) dX7_letter_53 rfl ?_
            obtain ⟨h9, k⟩ := k
            refine x_getf (pc2 := 59) (v := aI (m (m 0 2) 11)) fl_X7_115 (icr_0 h9) (fv_i _ (icr_0 h9) rfl) dX7_letter_56 rfl ?_
            obtain ⟨h10, k⟩ := k
            obtain ⟨k1, k2⟩ := k
            refine x_icmp_ge (tgt := 80) (pc2 := 62) dX7_letter_59 (by decide) rfl h4 h10 (fun c11 => ?_) (fun c11 => ?_)
            · replace k := k1 c11
              refine x_iconst (pc2 := 81) dX7_letter_80 rfl ?_
              exact x_ireturn dX7_letter_81 ⟨.int, rfl, rfl⟩ k
            · replace k := k2 c11
              refine x_aload_n (pc2 := 63) dX7_letter_62 rfl rfl ?_
              refine x_getf (pc2 := 66) (v := aR (m 0 2)) fl_X7_16 ic_0 (fv_m _ ic_0 rfl) dX7_letter_63 rfl ?_
              refine x_getf (pc2 := 69) (v := aR ((m 0 2) + 12)) fl_X7_124 (icr_0 h9) (vrr_12 _ h9) dX7_letter_66 rfl ?_
              refine x_bipush (pc2 := 71) dX7_letter_69 rfl rfl ?_
              refine x_iload_n (pc2 := 72) dX7_letter_71 rfl rfl ?_
              refine x_iadd (pc2 := 73) dX7_letter_72 rfl ?_
              refine x_bipush (pc2 := 75) dX7_letter_73 rfl rfl ?_
              refine x_imul (pc2 := 76) dX7_letter_75 rfl ?_
              refine x_iload_n (pc2 := 77) dX7_letter_76 rfl rfl ?_
              refine x_iadd (pc2 := 78) dX7_letter_77 rfl ?_
              obtain ⟨h12, k⟩ := k
              obtain ⟨h13, k⟩ := k
              refine x_iald (pc2 := 79) (icr_12 h9) h12 (by rw [(alr_12 h9)]; exact h13) dX7_letter_78 rfl ?_
              exact x_ireturn dX7_letter_79 ⟨.int, rfl, rfl⟩ k
        · replace k := k2 c7
          refine x_iload_n (pc2 := 21) dX7_letter_20 rfl rfl ?_
          refine x_aload_n (pc2 := 22) dX7_letter_21 rfl rfl ?_
          refine x_getf (pc2 := 25) (v := aR (m 0 2)) fl_X7_16 ic_0 (fv_m _ ic_0 rfl) dX7_letter_22 rfl ?_
          obtain ⟨h14, k⟩ := k
          refine x_getf (pc2 := 28) (v := aI (m (m 0 2) 8)) fl_X7_112 (icr_0 h14) (fv_i _ (icr_0 h14) rfl) dX7_letter_25 rfl ?_
          obtain ⟨h15, k⟩ := k
          obtain ⟨k1, k2⟩ := k
          refine x_icmp_ge (tgt := 46) (pc2 := 31) dX7_letter_28 (by decide) rfl h4 h15 (fun c16 => ?_) (fun c16 => ?_)
          · replace k := k1 c16
            refine x_iload_n (pc2 := 47) dX7_letter_46 rfl rfl ?_
            refine x_iconst (pc2 := 48) dX7_letter_47 rfl ?_
            obtain ⟨k1, k2⟩ := k
            refine x_icmp_ne (tgt := 80) (pc2 := 51) dX7_letter_48 (by decide) rfl h6 (by decide) (fun c17 => ?_) (fun c17 => ?_)
            · replace k := k1 c17
              refine x_iconst (pc2 := 81) dX7_letter_80 rfl ?_
              exact x_ireturn dX7_letter_81 ⟨.int, rfl, rfl⟩ k
            · replace k := k2 c17
              refine x_iload_n (pc2 := 52) dX7_letter_51 rfl rfl ?_
              refine x_aload_n (pc2 := 53) dX7_letter_52 rfl rfl ?_
              refine x_getf (pc2 := 56) (v := aR (m 0 2)) fl_X7_16 ic_0 (fv_m _ ic_0 rfl) dX7_letter_53 rfl ?_
              refine x_getf (pc2 := 59) (v := aI (m (m 0 2) 11)) fl_X7_115 (icr_0 h14) (fv_i _ (icr_0 h14) rfl) dX7_letter_56 rfl ?_
              obtain ⟨h18, k⟩ := k
              obtain ⟨k1, k2⟩ := k
              refine x_icmp_ge (tgt := 80) (pc2 := 62) dX7_letter_59 (by decide) rfl h4 h18 (fun c19 => ?_) (fun c19 => ?_)
              · replace k := k1 c19
                refine x_iconst (pc2 := 81) dX7_letter_80 rfl ?_
                exact x_ireturn dX7_letter_81 ⟨.int, rfl, rfl⟩ k
              · replace k := k2 c19
                refine x_aload_n (pc2 := 63) dX7_letter_62 rfl rfl ?_
                refine x_getf (pc2 := 66) (v := aR (m 0 2)) fl_X7_16 ic_0 (fv_m _ ic_0 rfl) dX7_letter_63 rfl ?_
                refine x_getf (pc2 := 69) (v := aR ((m 0 2) + 12)) fl_X7_124 (icr_0 h14) (vrr_12 _ h14) dX7_letter_66 rfl ?_
                refine x_bipush (pc2 := 71) dX7_letter_69 rfl rfl ?_
                refine x_iload_n (pc2 := 72) dX7_letter_71 rfl rfl ?_
                refine x_iadd (pc2 := 73) dX7_letter_72 rfl ?_
                refine x_bipush (pc2 := 75) dX7_letter_73 rfl rfl ?_
                refine x_imul (pc2 := 76) dX7_letter_75 rfl ?_
                refine x_iload_n (pc2 := 77) dX7_letter_76 rfl rfl ?_
                refine x_iadd (pc2 := 78) dX7_letter_77 rfl ?_
                obtain ⟨h20, k⟩ := k
                obtain ⟨h21, k⟩ := k
                refine x_iald (pc2 := 79) (icr_12 h14) h20 (by rw [(alr_12 h14)]; exact h21) dX7_letter_78 rfl ?_
                exact x_ireturn dX7_letter_79 ⟨.int, rfl, rfl⟩ k
          · replace k := k2 c16
            refine x_aload_n (pc2 := 32) dX7_letter_31 rfl rfl ?_
            refine x_getf (pc2 := 35) (v := aR (m 0 2)) fl_X7_16 ic_0 (fv_m _ ic_0 rfl) dX7_letter_32 rfl ?_
            refine x_getf (pc2 := 38) (v := aR ((m 0 2) + 12)) fl_X7_124 (icr_0 h14) (vrr_12 _ h14) dX7_letter_35 rfl ?_
            refine x_iload_n (pc2 := 39) dX7_letter_38 rfl rfl ?_
            refine x_bipush (pc2 := 41) dX7_letter_39 rfl rfl ?_
            refine x_imul (pc2 := 42) dX7_letter_41 rfl ?_
            refine x_iload_n (pc2 := 43) dX7_letter_42 rfl rfl ?_
            refine x_iadd (pc2 := 44) dX7_letter_43 rfl ?_
            obtain ⟨h22, k⟩ := k
            obtain ⟨h23, k⟩ := k
            refine x_iald (pc2 := 45) (icr_12 h14) h22 (by rw [(alr_12 h14)]; exact h23) dX7_letter_44 rfl ?_
            exact x_ireturn dX7_letter_45 ⟨.int, rfl, rfl⟩ k
      · replace k := k2 c5
        refine x_iconst (pc2 := 15) dX7_letter_14 rfl ?_
        exact x_ireturn dX7_letter_15 ⟨.int, rfl, rfl⟩ k
set_option maxRecDepth 4000 in
theorem g_X7_bobbin_0 {sc : List Int} {d : Nat} {m : Mem} {Q : Option AV → Mem → Prop} {l1 l2 : Int} (k : (-2147483648 ≤ l1 ∧ l1 < 2147483648) ∧ ((l1 < 0) → (Q (some (aI (-1))) m)) ∧ (¬ (l1 < 0) → ((RoomAt (m 0 2)) ∧ (-2147483648 ≤ (m (m 0 2) 2) ∧ (m (m 0 2) 2) < 2147483648) ∧ ((l1 < (m (m 0 2) 2)) → ((-2147483648 ≤ l2 ∧ l2 < 2147483648) ∧ ((l2 ≠ 0) → (((¬ (l2 ≠ 1)) → (0 ≤ l1)) ∧ ((¬ (l2 ≠ 1)) → (l1 < 6)) ∧ Q (some (aI (if l2 ≠ 1 then (-1) else (m ((m 0 2) + 2) l1) : Int))) m)) ∧ (¬ (l2 ≠ 0) → ((0 ≤ l1) ∧ (l1 < 6) ∧ Q (some (aI (m ((m 0 2) + 1) l1))) m)))) ∧ (¬ (l1 < (m (m 0 2) 2)) → (Q (some (aI (-1))) m))))) : S_X7_bobbin sc d 0 [aR 0, aI l1, aI l2] [] m Q := by
  refine x_iload_n (pc2 := 1) dX7_bobbin_0 rfl rfl ?_
  obtain ⟨h1, k⟩ := k
  obtain ⟨k1, k2⟩ := k
  refine x_if_lt (tgt := 15) (pc2 := 4) dX7_bobbin_1 (by decide) rfl h1 (fun c2 => ?_) (fun c2 => ?_)
  · replace k := k1 c2
    refine x_iconst (pc2 := 16) dX7_bobbin_15 rfl ?_
    exact x_ireturn dX7_bobbin_16 ⟨.int, rfl, rfl⟩ k
  · replace k := k2 c2
    refine x_iload_n (pc2 := 5) dX7_bobbin_4 rfl rfl ?_
    refine x_aload_n (pc2 := 6) dX7_bobbin_5 rfl rfl ?_
    refine x_getf (pc2 := 9) (v := aR (m 0 2)) fl_X7_16 ic_0 (fv_m _ ic_0 rfl) dX7_bobbin_6 rfl ?_
    obtain ⟨h3, k⟩ := k
    refine x_getf (pc2 := 12) (v := aI (m (m 0 2) 2)) fl_X7_109 (icr_0 h3) (fv_i _ (icr_0 h3) rfl) dX7_bobbin_9 rfl ?_
    obtain ⟨h4, k⟩ := k
    obtain ⟨k1, k2⟩ := k
    refine x_icmp_lt (tgt := 17) (pc2 := 15) dX7_bobbin_12 (by decide) rfl h1 h4 (fun c5 => ?_) (fun c5 => ?_)
    · replace k := k1 c5
      refine x_iload_n (pc2 := 18) dX7_bobbin_17 rfl rfl ?_
      obtain ⟨h6, k⟩ := k
      obtain ⟨k1, k2⟩ := k
      refine x_if_ne (tgt := 31) (pc2 := 21) dX7_bobbin_18 (by decide) rfl h6 (fun c7 => ?_) (fun c7 => ?_)
      · replace k := k1 c7
        refine x_iload_n (pc2 := 32) dX7_bobbin_31 rfl rfl ?_
        refine x_iconst (pc2 := 33) dX7_bobbin_32 rfl ?_
        obtain ⟨g10, k⟩ := k
        obtain ⟨g11, k⟩ := k
        have kj : S_X7_bobbin sc d 49 [aR 0, aI l1, aI l2] [aI (if l2 ≠ 1 then (-1) else (m ((m 0 2) + 2) l1) : Int)] m Q := by
          exact x_ireturn dX7_bobbin_49 ⟨.int, rfl, rfl⟩ k
        refine x_icmp_ne (tgt := 48) (pc2 := 36) dX7_bobbin_33 (by decide) rfl h6 (by decide) (fun c12 => ?_) (fun c12 => ?_)
        · skip
          refine x_iconst (pc2 := 49) dX7_bobbin_48 rfl ?_
          exact x_topI (v := (if l2 ≠ 1 then (-1) else (m ((m 0 2) + 2) l1) : Int)) (if_pos c12) kj
        · skip
          refine x_aload_n (pc2 := 37) dX7_bobbin_36 rfl rfl ?_
          refine x_getf (pc2 := 40) (v := aR (m 0 2)) fl_X7_16 ic_0 (fv_m _ ic_0 rfl) dX7_bobbin_37 rfl ?_
          refine x_getf (pc2 := 43) (v := aR ((m 0 2) + 2)) fl_X7_130 (icr_0 h3) (vrr_1 _ h3) dX7_bobbin_40 rfl ?_
          refine x_iload_n (pc2 := 44) dX7_bobbin_43 rfl rfl ?_
          have h13 := g10 c12
          have h14 := g11 c12
          refine x_iald (pc2 := 45) (icr_2 h3) h13 (by rw [(alr_2 h3)]; exact h14) dX7_bobbin_44 rfl ?_
          refine x_goto (tgt := 49) dX7_bobbin_45 (by decide) ?_
          exact x_topI (v := (if l2 ≠ 1 then (-1) else (m ((m 0 2) + 2) l1) : Int)) (if_neg c12) kj
      · replace k := k2 c7
        refine x_aload_n (pc2 := 22) dX7_bobbin_21 rfl rfl ?_
        refine x_getf (pc2 := 25) (v := aR (m 0 2)) fl_X7_16 ic_0 (fv_m _ ic_0 rfl) dX7_bobbin_22 rfl ?_
        refine x_getf (pc2 := 28) (v := aR ((m 0 2) + 1)) fl_X7_127 (icr_0 h3) (vrr_0 _ h3) dX7_bobbin_25 rfl ?_
        refine x_iload_n (pc2 := 29) dX7_bobbin_28 rfl rfl ?_
        obtain ⟨h15, k⟩ := k
        obtain ⟨h16, k⟩ := k
        refine x_iald (pc2 := 30) (icr_1 h3) h15 (by rw [(alr_1 h3)]; exact h16) dX7_bobbin_29 rfl ?_
        exact x_ireturn dX7_bobbin_30 ⟨.int, rfl, rfl⟩ k
    · replace k := k2 c5
      refine x_iconst (pc2 := 16) dX7_bobbin_15 rfl ?_
      exact x_ireturn dX7_bobbin_16 ⟨.int, rfl, rfl⟩ k
set_option maxRecDepth 4000 in
theorem g_X7_seam_0 {sc : List Int} {d : Nat} {m : Mem} {Q : Option AV → Mem → Prop} {l1 l2 : Int} (k : (-2147483648 ≤ l1 ∧ l1 < 2147483648) ∧ ((l1 < 0) → (Q (some (aI (-1))) m)) ∧ (¬ (l1 < 0) → ((RoomAt (m 0 2)) ∧ (-2147483648 ≤ (m (m 0 2) 8) ∧ (m (m 0 2) 8) < 2147483648) ∧ ((l1 < (m (m 0 2) 8)) → ((-2147483648 ≤ l2 ∧ l2 < 2147483648) ∧ ((l2 = 0) → ((0 ≤ l1) ∧ (l1 < 10) ∧ Q (some (aI (m ((m 0 2) + 3) l1))) m)) ∧ ((l2 = 1) → ((0 ≤ l1) ∧ (l1 < 10) ∧ Q (some (aI (m ((m 0 2) + 4) l1))) m)) ∧ ((l2 = 2) → ((0 ≤ l1) ∧ (l1 < 10) ∧ Q (some (aI (m ((m 0 2) + 6) l1))) m)) ∧ ((l2 ≠ 0 ∧ l2 ≠ 1 ∧ l2 ≠ 2) → (((l2 < 10) → (Q (some (aI (-1))) m)) ∧ (¬ (l2 < 10) → ((0 ≤ l1) ∧ (l1 < 10) ∧ (-2147483648 ≤ (l2 - 10) ∧ (l2 - 10) < 2147483648) ∧ (-2147483648 ≤ (m ((m 0 2) + 6) l1) ∧ (m ((m 0 2) + 6) l1) < 2147483648) ∧ (((l2 - 10) < (m ((m 0 2) + 6) l1)) → ((0 ≤ (((l1 * 4) + l2) - 10)) ∧ ((((l1 * 4) + l2) - 10) < 40) ∧ Q (some (aI (m ((m 0 2) + 5) (((l1 * 4) + l2) - 10)))) m)) ∧ (¬ ((l2 - 10) < (m ((m 0 2) + 6) l1)) → (Q (some (aI (-1))) m)))))))) ∧ (¬ (l1 < (m (m 0 2) 8)) → (Q (some (aI (-1))) m))))) : S_X7_seam sc d 0 [aR 0, aI l1, aI l2] [] m Q := by
  refine x_iload_n (pc2 := 1) dX7_seam_0 rfl rfl ?_
  obtain ⟨h1, k⟩ := k
  obtain ⟨k1, k2⟩ := k
  refine x_if_lt (tgt := 15) (pc2 := 4) dX7_seam_1 (by decide) rfl h1 (fun c2 => ?_) (fun c2 => ?_)
  · replace k := k1 c2
    refine x_iconst (pc2 := 16) dX7_seam_15 rfl ?_
    exact x_ireturn dX7_seam_16 ⟨.int, rfl, rfl⟩ k
  · replace k := k2 c2
    refine x_iload_n (pc2 := 5) dX7_seam_4 rfl rfl ?_
    refine x_aload_n (pc2 := 6) dX7_seam_5 rfl rfl ?_
    refine x_getf (pc2 := 9) (v := aR (m 0 2)) fl_X7_16 ic_0 (fv_m _ ic_0 rfl) dX7_seam_6 rfl ?_
    obtain ⟨h3, k⟩ := k
    refine x_getf (pc2 := 12) (v := aI (m (m 0 2) 8)) fl_X7_112 (icr_0 h3) (fv_i _ (icr_0 h3) rfl) dX7_seam_9 rfl ?_
    obtain ⟨h4, k⟩ := k
    obtain ⟨k1, k2⟩ := k
    refine x_icmp_lt (tgt := 17) (pc2 := 15) dX7_seam_12 (by decide) rfl h1 h4 (fun c5 => ?_) (fun c5 => ?_)
    · replace k := k1 c5
      refine x_iload_n (pc2 := 18) dX7_seam_17 rfl rfl ?_
      obtain ⟨h6, k⟩ := k
      obtain ⟨k21, k22, k23, k24⟩ := k
      by_cases c25 : l2 = 0
      · replace k := k21 c25
        refine x_tin (tgt := 44) (off := 26) dX7_seam_18 h6 (by omega) (by omega) (by rw [c25]; rfl) (by decide) ?_
        refine x_aload_n (pc2 := 45) dX7_seam_44 rfl rfl ?_
        refine x_getf (pc2 := 48) (v := aR (m 0 2)) fl_X7_16 ic_0 (fv_m _ ic_0 rfl) dX7_seam_45 rfl ?_
        refine x_getf (pc2 := 51) (v := aR ((m 0 2) + 3)) fl_X7_133 (icr_0 h3) (vrr_3 _ h3) dX7_seam_48 rfl ?_
        refine x_iload_n (pc2 := 52) dX7_seam_51 rfl rfl ?_
        obtain ⟨h7, k⟩ := k
        obtain ⟨h8, k⟩ := k
        refine x_iald (pc2 := 53) (icr_3 h3) h7 (by rw [(alr_3 h3)]; exact h8) dX7_seam_52 rfl ?_
        exact x_ireturn dX7_seam_53 ⟨.int, rfl, rfl⟩ k
      by_cases c26 : l2 = 1
      · replace k := k22 c26
        refine x_tin (tgt := 54) (off := 36) dX7_seam_18 h6 (by omega) (by omega) (by rw [c26]; rfl) (by decide) ?_
        refine x_aload_n (pc2 := 55) dX7_seam_54 rfl rfl ?_
        refine x_getf (pc2 := 58) (v := aR (m 0 2)) fl_X7_16 ic_0 (fv_m _ ic_0 rfl) dX7_seam_55 rfl ?_
        refine x_getf (pc2 := 61) (v := aR ((m 0 2) + 4)) fl_X7_136 (icr_0 h3) (vrr_4 _ h3) dX7_seam_58 rfl ?_
        refine x_iload_n (pc2 := 62) dX7_seam_61 rfl rfl ?_
        obtain ⟨h9, k⟩ := k
        obtain ⟨h10, k⟩ := k
        refine x_iald (pc2 := 63) (icr_4 h3) h9 (by rw [(alr_4 h3)]; exact h10) dX7_seam_62 rfl ?_
        exact x_ireturn dX7_seam_63 ⟨.int, rfl, rfl⟩ k
      by_cases c27 : l2 = 2
      · replace k := k23 c27
        refine x_tin (tgt := 64) (off := 46) dX7_seam_18 h6 (by omega) (by omega) (by rw [c27]; rfl) (by decide) ?_
        refine x_aload_n (pc2 := 65) dX7_seam_64 rfl rfl ?_
        refine x_getf (pc2 := 68) (v := aR (m 0 2)) fl_X7_16 ic_0 (fv_m _ ic_0 rfl) dX7_seam_65 rfl ?_
        refine x_getf (pc2 := 71) (v := aR ((m 0 2) + 6)) fl_X7_139 (icr_0 h3) (vrr_6 _ h3) dX7_seam_68 rfl ?_
        refine x_iload_n (pc2 := 72) dX7_seam_71 rfl rfl ?_
        obtain ⟨h11, k⟩ := k
        obtain ⟨h12, k⟩ := k
        refine x_iald (pc2 := 73) (icr_6 h3) h11 (by rw [(alr_6 h3)]; exact h12) dX7_seam_72 rfl ?_
        exact x_ireturn dX7_seam_73 ⟨.int, rfl, rfl⟩ k
      replace k := k24 (by omega)
      have kd : S_X7_seam sc d 74 [aR 0, aI l1, aI l2] [] m Q := by
        refine x_iload_n (pc2 := 75) dX7_seam_74 rfl rfl ?_
        refine x_bipush (pc2 := 77) dX7_seam_75 rfl rfl ?_
        obtain ⟨k1, k2⟩ := k
        refine x_icmp_lt (tgt := 96) (pc2 := 80) dX7_seam_77 (by decide) rfl h6 (by decide) (fun c13 => ?_) (fun c13 => ?_)
        · replace k := k1 c13
          refine x_iconst (pc2 := 97) dX7_seam_96 rfl ?_
          exact x_ireturn dX7_seam_97 ⟨.int, rfl, rfl⟩ k
        · replace k := k2 c13
          refine x_iload_n (pc2 := 81) dX7_seam_80 rfl rfl ?_
          refine x_bipush (pc2 := 83) dX7_seam_81 rfl rfl ?_
          refine x_isub (pc2 := 84) dX7_seam_83 rfl ?_
          refine x_aload_n (pc2 := 85) dX7_seam_84 rfl rfl ?_
          refine x_getf (pc2 := 88) (v := aR (m 0 2)) fl_X7_16 ic_0 (fv_m _ ic_0 rfl) dX7_seam_85 rfl ?_
          refine x_getf (pc2 := 91) (v := aR ((m 0 2) + 6)) fl_X7_139 (icr_0 h3) (vrr_6 _ h3) dX7_seam_88 rfl ?_
          refine x_iload_n (pc2 := 92) dX7_seam_91 rfl rfl ?_
          obtain ⟨h14, k⟩ := k
          obtain ⟨h15, k⟩ := k
          refine x_iald (pc2 := 93) (icr_6 h3) h14 (by rw [(alr_6 h3)]; exact h15) dX7_seam_92 rfl ?_
          obtain ⟨h16, k⟩ := k
          obtain ⟨h17, k⟩ := k
          obtain ⟨k1, k2⟩ := k
          refine x_icmp_lt (tgt := 98) (pc2 := 96) dX7_seam_93 (by decide) rfl h16 h17 (fun c18 => ?_) (fun c18 => ?_)
          · replace k := k1 c18
            refine x_aload_n (pc2 := 99) dX7_seam_98 rfl rfl ?_
            refine x_getf (pc2 := 102) (v := aR (m 0 2)) fl_X7_16 ic_0 (fv_m _ ic_0 rfl) dX7_seam_99 rfl ?_
            refine x_getf (pc2 := 105) (v := aR ((m 0 2) + 5)) fl_X7_142 (icr_0 h3) (vrr_5 _ h3) dX7_seam_102 rfl ?_
            refine x_iload_n (pc2 := 106) dX7_seam_105 rfl rfl ?_
            refine x_iconst (pc2 := 107) dX7_seam_106 rfl ?_
            refine x_imul (pc2 := 108) dX7_seam_107 rfl ?_
            refine x_iload_n (pc2 := 109) dX7_seam_108 rfl rfl ?_
            refine x_iadd (pc2 := 110) dX7_seam_109 rfl ?_
            refine x_bipush (pc2 := 112) dX7_seam_110 rfl rfl ?_
            refine x_isub (pc2 := 113) dX7_seam_112 rfl ?_
            obtain ⟨h19, k⟩ := k
            obtain ⟨h20, k⟩ := k
            refine x_iald (pc2 := 114) (icr_5 h3) h19 (by rw [(alr_5 h3)]; exact h20) dX7_seam_113 rfl ?_
            exact x_ireturn dX7_seam_114 ⟨.int, rfl, rfl⟩ k
          · replace k := k2 c18
            refine x_iconst (pc2 := 97) dX7_seam_96 rfl ?_
            exact x_ireturn dX7_seam_97 ⟨.int, rfl, rfl⟩ k
      by_cases c28 : l2 < 0 ∨ 2 < l2
      · exact x_tout (tgt := 74) dX7_seam_18 h6 c28 (by decide) kd
      exact absurd c28 (by omega)
    · replace k := k2 c5
      refine x_iconst (pc2 := 16) dX7_seam_15 rfl ?_
      exact x_ireturn dX7_seam_16 ⟨.int, rfl, rfl⟩ k
set_option maxRecDepth 4000 in
theorem g_X7_row_0 {sc : List Int} {d : Nat} {m : Mem} {Q : Option AV → Mem → Prop} {l1 l2 l3 l4 : Int} (k : (-2147483648 ≤ l3 ∧ l3 < 2147483648) ∧ ((l3 < 0) → (Q (some (aI (-1))) m)) ∧ (¬ (l3 < 0) → ((RoomAt (m 0 2)) ∧ (-2147483648 ≤ (m (m 0 2) 8) ∧ (m (m 0 2) 8) < 2147483648) ∧ (((m (m 0 2) 8) ≤ l3) → (Q (some (aI (-1))) m)) ∧ (¬ ((m (m 0 2) 8) ≤ l3) → (S_X7_row sc d 18 [aR 0, aU, aU, aI l3, aI l4] [aI l2, aI l1, aR 0] m Q))))) : S_X7_row sc d 0 [aR 0, aI l1, aI l2, aI l3, aI l4] [] m Q := by
  refine x_iload_n (pc2 := 1) dX7_row_0 rfl rfl ?_
  obtain ⟨h1, k⟩ := k
  obtain ⟨k1, k2⟩ := k
  refine x_if_lt (tgt := 24) (pc2 := 4) dX7_row_1 (by decide) rfl h1 (fun c2 => ?_) (fun c2 => ?_)
  · replace k := k1 c2
    refine x_iconst (pc2 := 25) dX7_row_24 rfl ?_
    exact x_ireturn dX7_row_25 ⟨.int, rfl, rfl⟩ k
  · replace k := k2 c2
    refine x_iload_n (pc2 := 5) dX7_row_4 rfl rfl ?_
    refine x_aload_n (pc2 := 6) dX7_row_5 rfl rfl ?_
    refine x_getf (pc2 := 9) (v := aR (m 0 2)) fl_X7_16 ic_0 (fv_m _ ic_0 rfl) dX7_row_6 rfl ?_
    obtain ⟨h3, k⟩ := k
    refine x_getf (pc2 := 12) (v := aI (m (m 0 2) 8)) fl_X7_112 (icr_0 h3) (fv_i _ (icr_0 h3) rfl) dX7_row_9 rfl ?_
    obtain ⟨h4, k⟩ := k
    obtain ⟨k1, k2⟩ := k
    refine x_icmp_ge (tgt := 24) (pc2 := 15) dX7_row_12 (by decide) rfl h1 h4 (fun c5 => ?_) (fun c5 => ?_)
    · replace k := k1 c5
      refine x_iconst (pc2 := 25) dX7_row_24 rfl ?_
      exact x_ireturn dX7_row_25 ⟨.int, rfl, rfl⟩ k
    · replace k := k2 c5
      refine x_aload_n (pc2 := 16) dX7_row_15 rfl rfl ?_
      refine x_iload_n (pc2 := 17) dX7_row_16 rfl rfl ?_
      refine x_iload_n (pc2 := 18) dX7_row_17 rfl rfl ?_
      exact x_drop (drp_k (drp_u (drp_u (drp_k (drp_k drp_n))))) k
set_option maxRecDepth 4000 in
theorem g_X7_row_21 {sc : List Int} {d : Nat} {m : Mem} {Q : Option AV → Mem → Prop} {l3 l4 s0 : Int} (k : (-2147483648 ≤ s0 ∧ s0 < 2147483648) ∧ ((s0 ≠ 0) → ((-2147483648 ≤ l4 ∧ l4 < 2147483648) ∧ ((l4 = 0) → ((0 ≤ l3) ∧ (l3 < 10) ∧ Q (some (aI (m 40 l3))) m)) ∧ ((l4 = 1) → ((0 ≤ l3) ∧ (l3 < 10) ∧ Q (some (aI (m 41 l3))) m)) ∧ ((l4 = 2) → ((0 ≤ l3) ∧ (l3 < 10) ∧ Q (some (aI (m 42 l3))) m)) ∧ ((l4 ≠ 0 ∧ l4 ≠ 1 ∧ l4 ≠ 2) → (Q (some (aI (-1))) m)))) ∧ (¬ (s0 ≠ 0) → (Q (some (aI (-1))) m))) : S_X7_row sc d 21 [aR 0, aU, aU, aI l3, aI l4] [aI s0] m Q := by
  obtain ⟨h1, k⟩ := k
  obtain ⟨k1, k2⟩ := k
  refine x_if_ne (tgt := 26) (pc2 := 24) dX7_row_21 (by decide) rfl h1 (fun c2 => ?_) (fun c2 => ?_)
  · replace k := k1 c2
    refine x_iload (pc2 := 28) dX7_row_26 rfl rfl ?_
    obtain ⟨h3, k⟩ := k
    obtain ⟨k10, k11, k12, k13⟩ := k
    by_cases c14 : l4 = 0
    · replace k := k10 c14
      refine x_tin (tgt := 56) (off := 28) dX7_row_28 h3 (by omega) (by omega) (by rw [c14]; rfl) (by decide) ?_
      refine x_aload_n (pc2 := 57) dX7_row_56 rfl rfl ?_
      refine x_getf (pc2 := 60) (v := aR 39) fl_X7_40 ic_0 (vr_0_6 _) dX7_row_57 rfl ?_
      refine x_getf (pc2 := 63) (v := aR 40) fl_X7_149 ic_39 (vr_39_0 _) dX7_row_60 rfl ?_
      refine x_iload_n (pc2 := 64) dX7_row_63 rfl rfl ?_
      obtain ⟨h4, k⟩ := k
      obtain ⟨h5, k⟩ := k
      refine x_iald (pc2 := 65) ic_40 h4 (by rw [al_40]; exact h5) dX7_row_64 rfl ?_
      exact x_ireturn dX7_row_65 ⟨.int, rfl, rfl⟩ k
    by_cases c15 : l4 = 1
    · replace k := k11 c15
      refine x_tin (tgt := 66) (off := 38) dX7_row_28 h3 (by omega) (by omega) (by rw [c15]; rfl) (by decide) ?_
      refine x_aload_n (pc2 := 67) dX7_row_66 rfl rfl ?_
      refine x_getf (pc2 := 70) (v := aR 39) fl_X7_40 ic_0 (vr_0_6 _) dX7_row_67 rfl ?_
      refine x_getf (pc2 := 73) (v := aR 41) fl_X7_152 ic_39 (vr_39_1 _) dX7_row_70 rfl ?_
      refine x_iload_n (pc2 := 74) dX7_row_73 rfl rfl ?_
      obtain ⟨h6, k⟩ := k
      obtain ⟨h7, k⟩ := k
      refine x_iald (pc2 := 75) ic_41 h6 (by rw [al_41]; exact h7) dX7_row_74 rfl ?_
      exact x_ireturn dX7_row_75 ⟨.int, rfl, rfl⟩ k
    by_cases c16 : l4 = 2
    · replace k := k12 c16
      refine x_tin (tgt := 76) (off := 48) dX7_row_28 h3 (by omega) (by omega) (by rw [c16]; rfl) (by decide) ?_
      refine x_aload_n (pc2 := 77) dX7_row_76 rfl rfl ?_
      refine x_getf (pc2 := 80) (v := aR 39) fl_X7_40 ic_0 (vr_0_6 _) dX7_row_77 rfl ?_
      refine x_getf (pc2 := 83) (v := aR 42) fl_X7_155 ic_39 (vr_39_2 _) dX7_row_80 rfl ?_
      refine x_iload_n (pc2 := 84) dX7_row_83 rfl rfl ?_
      obtain ⟨h8, k⟩ := k
      obtain ⟨h9, k⟩ := k
      refine x_iald (pc2 := 85) ic_42 h8 (by rw [al_42]; exact h9) dX7_row_84 rfl ?_
      exact x_ireturn dX7_row_85 ⟨.int, rfl, rfl⟩ k
    replace k := k13 (by omega)
    have kd : S_X7_row sc d 86 [aR 0, aU, aU, aI l3, aI l4] [] m Q := by
      refine x_iconst (pc2 := 87) dX7_row_86 rfl ?_
      exact x_ireturn dX7_row_87 ⟨.int, rfl, rfl⟩ k
    by_cases c17 : l4 < 0 ∨ 2 < l4
    · exact x_tout (tgt := 86) dX7_row_28 h3 c17 (by decide) kd
    exact absurd c17 (by omega)
  · replace k := k2 c2
    refine x_iconst (pc2 := 25) dX7_row_24 rfl ?_
    exact x_ireturn dX7_row_25 ⟨.int, rfl, rfl⟩ k
theorem c_X7_row_18 {sc : List Int} {d d2 : Nat} {m m2 : Mem} {Q : Option AV → Mem → Prop} {l3 l4 s1 s2 : Int} {v : Int} (hM : C_X7_follow sc d2 [aR 0, aI s1, aI s2] m (some (aI v)) m2) (hd : d2 + 1 ≤ d) (k : S_X7_row sc d 21 [aR 0, aU, aU, aI l3, aI l4] [aI v] m2 Q) : S_X7_row sc d 18 [aR 0, aU, aU, aI l3, aI l4] [aI s2, aI s1, aR 0] m Q := x_callV (as := [aI s1, aI s2]) (rest := []) hM mk_X7_follow mv_X7_follow lk_X7_145 (Or.inl ⟨7, (RX7, TX7, 14), ic_0, Nat.le_of_ble_eq_true rfl, rfl, rfl⟩) hd rfl rfl (Nat.le_of_ble_eq_true rfl) dX7_row_18 rfl k
set_option maxRecDepth 4000 in
theorem g_X7_judge_0 {sc : List Int} {d : Nat} {m : Mem} {Q : Option AV → Mem → Prop} {l1 l2 l3 : Int} (k : S_X7_judge sc d 3 [aR 0, aU, aU, aI l3] [aI l2, aI l1, aR 0] m Q) : S_X7_judge sc d 0 [aR 0, aI l1, aI l2, aI l3] [] m Q := by
  refine x_aload_n (pc2 := 1) dX7_judge_0 rfl rfl ?_
  refine x_iload_n (pc2 := 2) dX7_judge_1 rfl rfl ?_
  refine x_iload_n (pc2 := 3) dX7_judge_2 rfl rfl ?_
  exact x_drop (drp_k (drp_u (drp_u (drp_k drp_n)))) k
set_option maxRecDepth 4000 in
theorem g_X7_judge_6 {sc : List Int} {d : Nat} {m : Mem} {Q : Option AV → Mem → Prop} {l3 s0 : Int} (k : (-2147483648 ≤ s0 ∧ s0 < 2147483648) ∧ ((s0 ≠ 0) → ((-2147483648 ≤ l3 ∧ l3 < 2147483648) ∧ ((l3 = 0) → (Q (some (aI (m 39 5))) m)) ∧ ((l3 = 1) → (Q (some (aI (m 39 6))) m)) ∧ ((l3 = 2) → (Q (some (aI (m 39 7))) m)) ∧ ((l3 = 3) → (Q (some (aI (m 39 8))) m)) ∧ ((l3 ≠ 0 ∧ l3 ≠ 1 ∧ l3 ≠ 2 ∧ l3 ≠ 3) → (Q (some (aI (-1))) m)))) ∧ (¬ (s0 ≠ 0) → (Q (some (aI (-1))) m))) : S_X7_judge sc d 6 [aR 0, aU, aU, aI l3] [aI s0] m Q := by
  obtain ⟨h1, k⟩ := k
  obtain ⟨k1, k2⟩ := k
  refine x_if_ne (tgt := 11) (pc2 := 9) dX7_judge_6 (by decide) rfl h1 (fun c2 => ?_) (fun c2 => ?_)
  · replace k := k1 c2
    refine x_iload_n (pc2 := 12) dX7_judge_11 rfl rfl ?_
    obtain ⟨h3, k⟩ := k
    obtain ⟨k4, k5, k6, k7, k8⟩ := k
    by_cases c9 : l3 = 0
    · replace k := k4 c9
      refine x_tin (tgt := 44) (off := 32) dX7_judge_12 h3 (by omega) (by omega) (by rw [c9]; rfl) (by decide) ?_
      refine x_aload_n (pc2 := 45) dX7_judge_44 rfl rfl ?_
      refine x_getf (pc2 := 48) (v := aR 39) fl_X7_40 ic_0 (vr_0_6 _) dX7_judge_45 rfl ?_
      refine x_getf (pc2 := 51) (v := aI (m 39 5)) fl_X7_158 ic_39 (fv_i _ ic_39 rfl) dX7_judge_48 rfl ?_
      exact x_ireturn dX7_judge_51 ⟨.int, rfl, rfl⟩ k
    by_cases c10 : l3 = 1
    · replace k := k5 c10
      refine x_tin (tgt := 52) (off := 40) dX7_judge_12 h3 (by omega) (by omega) (by rw [c10]; rfl) (by decide) ?_
      refine x_aload_n (pc2 := 53) dX7_judge_52 rfl rfl ?_
      refine x_getf (pc2 := 56) (v := aR 39) fl_X7_40 ic_0 (vr_0_6 _) dX7_judge_53 rfl ?_
      refine x_getf (pc2 := 59) (v := aI (m 39 6)) fl_X7_161 ic_39 (fv_i _ ic_39 rfl) dX7_judge_56 rfl ?_
      exact x_ireturn dX7_judge_59 ⟨.int, rfl, rfl⟩ k
    by_cases c11 : l3 = 2
    · replace k := k6 c11
      refine x_tin (tgt := 60) (off := 48) dX7_judge_12 h3 (by omega) (by omega) (by rw [c11]; rfl) (by decide) ?_
      refine x_aload_n (pc2 := 61) dX7_judge_60 rfl rfl ?_
      refine x_getf (pc2 := 64) (v := aR 39) fl_X7_40 ic_0 (vr_0_6 _) dX7_judge_61 rfl ?_
      refine x_getf (pc2 := 67) (v := aI (m 39 7)) fl_X7_164 ic_39 (fv_i _ ic_39 rfl) dX7_judge_64 rfl ?_
      exact x_ireturn dX7_judge_67 ⟨.int, rfl, rfl⟩ k
    by_cases c12 : l3 = 3
    · replace k := k7 c12
      refine x_tin (tgt := 68) (off := 56) dX7_judge_12 h3 (by omega) (by omega) (by rw [c12]; rfl) (by decide) ?_
      refine x_aload_n (pc2 := 69) dX7_judge_68 rfl rfl ?_
      refine x_getf (pc2 := 72) (v := aR 39) fl_X7_40 ic_0 (vr_0_6 _) dX7_judge_69 rfl ?_
      refine x_getf (pc2 := 75) (v := aI (m 39 8)) fl_X7_167 ic_39 (fv_i _ ic_39 rfl) dX7_judge_72 rfl ?_
      exact x_ireturn dX7_judge_75 ⟨.int, rfl, rfl⟩ k
    replace k := k8 (by omega)
    have kd : S_X7_judge sc d 76 [aR 0, aU, aU, aI l3] [] m Q := by
      refine x_iconst (pc2 := 77) dX7_judge_76 rfl ?_
      exact x_ireturn dX7_judge_77 ⟨.int, rfl, rfl⟩ k
    by_cases c13 : l3 < 0 ∨ 3 < l3
    · exact x_tout (tgt := 76) dX7_judge_12 h3 c13 (by decide) kd
    exact absurd c13 (by omega)
  · replace k := k2 c2
    refine x_iconst (pc2 := 10) dX7_judge_9 rfl ?_
    exact x_ireturn dX7_judge_10 ⟨.int, rfl, rfl⟩ k
theorem c_X7_judge_3 {sc : List Int} {d d2 : Nat} {m m2 : Mem} {Q : Option AV → Mem → Prop} {l3 s1 s2 : Int} {v : Int} (hM : C_X7_follow sc d2 [aR 0, aI s1, aI s2] m (some (aI v)) m2) (hd : d2 + 1 ≤ d) (k : S_X7_judge sc d 6 [aR 0, aU, aU, aI l3] [aI v] m2 Q) : S_X7_judge sc d 3 [aR 0, aU, aU, aI l3] [aI s2, aI s1, aR 0] m Q := x_callV (as := [aI s1, aI s2]) (rest := []) hM mk_X7_follow mv_X7_follow lk_X7_145 (Or.inl ⟨7, (RX7, TX7, 14), ic_0, Nat.le_of_ble_eq_true rfl, rfl, rfl⟩) hd rfl rfl (Nat.le_of_ble_eq_true rfl) dX7_judge_3 rfl k
set_option maxRecDepth 4000 in
theorem g_X7_follow_0 {sc : List Int} {d : Nat} {m : Mem} {Q : Option AV → Mem → Prop} {l1 l2 : Int} (k : S_X7_follow sc d 5 [aR 0, aI l1, aI l2] [aI l1, aR (m 0 2)] m Q) : S_X7_follow sc d 0 [aR 0, aI l1, aI l2] [] m Q := by
  refine x_aload_n (pc2 := 1) dX7_follow_0 rfl rfl ?_
  refine x_getf (pc2 := 4) (v := aR (m 0 2)) fl_X7_16 ic_0 (fv_m _ ic_0 rfl) dX7_follow_1 rfl ?_
  refine x_iload_n (pc2 := 5) dX7_follow_4 rfl rfl ?_
  exact k
set_option maxRecDepth 4000 in
theorem g_X7_follow_8 {sc : List Int} {d : Nat} {m : Mem} {Q : Option AV → Mem → Prop} {l1 l2 s0 : Int} (k : (-2147483648 ≤ s0 ∧ s0 < 2147483648) ∧ ((s0 = 0) → (Q (some (aI 0)) m)) ∧ (¬ (s0 = 0) → (S_X7_follow sc d 12 [aR 0, aI l1, aI l2] [aI l2] m Q))) : S_X7_follow sc d 8 [aR 0, aI l1, aI l2] [aI s0] m Q := by
  obtain ⟨h1, k⟩ := k
  obtain ⟨k1, k2⟩ := k
  refine x_if_eq (tgt := 18) (pc2 := 11) dX7_follow_8 (by decide) rfl h1 (fun c2 => ?_) (fun c2 => ?_)
  · replace k := k1 c2
    refine x_iconst (pc2 := 19) dX7_follow_18 rfl ?_
    exact x_ireturn dX7_follow_19 ⟨.boolean, rfl, rfl⟩ k
  · replace k := k2 c2
    refine x_iload_n (pc2 := 12) dX7_follow_11 rfl rfl ?_
    exact k
set_option maxRecDepth 4000 in
theorem g_X7_follow_15 {sc : List Int} {d : Nat} {m : Mem} {Q : Option AV → Mem → Prop} {l1 l2 s0 : Int} (k : (-2147483648 ≤ s0 ∧ s0 < 2147483648) ∧ ((s0 ≠ 0) → ((-2147483648 ≤ l1 ∧ l1 < 2147483648) ∧ ((l1 ≠ 3) → (S_X7_follow sc d 37 [aR 0, aI l1, aI l2] [] m Q)) ∧ (¬ (l1 ≠ 3) → (S_X7_follow sc d 34 [aR 0, aI l1, aI l2] [aI 3, aR (m 0 2), aR 37] m Q)))) ∧ (¬ (s0 ≠ 0) → (Q (some (aI 0)) m))) : S_X7_follow sc d 15 [aR 0, aI l1, aI l2] [aI s0] m Q := by
  obtain ⟨h1, k⟩ := k
  obtain ⟨k1, k2⟩ := k
  refine x_if_ne (tgt := 20) (pc2 := 18) dX7_follow_15 (by decide) rfl h1 (fun c2 => ?_) (fun c2 => ?_)
  · replace k := k1 c2
    refine x_iload_n (pc2 := 21) dX7_follow_20 rfl rfl ?_
    refine x_iconst (pc2 := 22) dX7_follow_21 rfl ?_
    obtain ⟨h3, k⟩ := k
    obtain ⟨k1, k2⟩ := k
    refine x_icmp_ne (tgt := 37) (pc2 := 25) dX7_follow_22 (by decide) rfl h3 (by decide) (fun c4 => ?_) (fun c4 => ?_)
    · replace k := k1 c4
      exact k
    · replace k := k2 c4
      refine x_aload_n (pc2 := 26) dX7_follow_25 rfl rfl ?_
      refine x_getf (pc2 := 29) (v := aR 37) fl_X7_33 ic_0 (vr_0_5 _) dX7_follow_26 rfl ?_
      refine x_aload_n (pc2 := 30) dX7_follow_29 rfl rfl ?_
      refine x_getf (pc2 := 33) (v := aR (m 0 2)) fl_X7_16 ic_0 (fv_m _ ic_0 rfl) dX7_follow_30 rfl ?_
      refine x_iconst (pc2 := 34) dX7_follow_33 rfl ?_
      exact k
  · replace k := k2 c2
    refine x_iconst (pc2 := 19) dX7_follow_18 rfl ?_
    exact x_ireturn dX7_follow_19 ⟨.boolean, rfl, rfl⟩ k
set_option maxRecDepth 4000 in
theorem g_X7_follow_37 {sc : List Int} {d : Nat} {m : Mem} {Q : Option AV → Mem → Prop} {l1 l2 : Int} (k : S_X7_follow sc d 51 [aR 0, aU, aU] [aI l2, aI l1, aR 37, aR (m 0 2), aR 39] m Q) : S_X7_follow sc d 37 [aR 0, aI l1, aI l2] [] m Q := by
  refine x_aload_n (pc2 := 38) dX7_follow_37 rfl rfl ?_
  refine x_getf (pc2 := 41) (v := aR 39) fl_X7_40 ic_0 (vr_0_6 _) dX7_follow_38 rfl ?_
  refine x_aload_n (pc2 := 42) dX7_follow_41 rfl rfl ?_
  refine x_getf (pc2 := 45) (v := aR (m 0 2)) fl_X7_16 ic_0 (fv_m _ ic_0 rfl) dX7_follow_42 rfl ?_
  refine x_aload_n (pc2 := 46) dX7_follow_45 rfl rfl ?_
  refine x_getf (pc2 := 49) (v := aR 37) fl_X7_33 ic_0 (vr_0_5 _) dX7_follow_46 rfl ?_
  refine x_iload_n (pc2 := 50) dX7_follow_49 rfl rfl ?_
  refine x_iload_n (pc2 := 51) dX7_follow_50 rfl rfl ?_
  exact x_drop (drp_k (drp_u (drp_u drp_n))) k
set_option maxRecDepth 4000 in
theorem g_X7_follow_54 {sc : List Int} {d : Nat} {m : Mem} {Q : Option AV → Mem → Prop} (k : Q (some (aI 1)) m) : S_X7_follow sc d 54 [aR 0, aU, aU] [] m Q := by
  refine x_iconst (pc2 := 55) dX7_follow_54 rfl ?_
  exact x_ireturn dX7_follow_55 ⟨.boolean, rfl, rfl⟩ k
theorem c_X7_follow_5 {sc : List Int} {d d2 : Nat} {m m2 : Mem} {Q : Option AV → Mem → Prop} {l1 l2 s0 s1 : Int} {v : Int} (Hs0 : RoomAt s0) (hM : C_X6_knows sc d2 [aR s0, aI s1] m (some (aI v)) m2) (hd : d2 + 1 ≤ d) (k : S_X7_follow sc d 8 [aR 0, aI l1, aI l2] [aI v] m2 Q) : S_X7_follow sc d 5 [aR 0, aI l1, aI l2] [aI s1, aR s0] m Q := x_callV (as := [aI s1]) (rest := []) hM mk_X6_knows mv_X6_knows lk_X7_170 (Or.inl ⟨6, (RX6, TX6, 16), icr_0 Hs0, Nat.le_of_ble_eq_true rfl, rfl, rfl⟩) hd rfl rfl (Nat.le_of_ble_eq_true rfl) dX7_follow_5 rfl k
theorem c_X7_follow_12 {sc : List Int} {d d2 : Nat} {m m2 : Mem} {Q : Option AV → Mem → Prop} {l1 l2 s0 : Int} {v : Int} (hM : C_X7_isLength sc d2 [aI s0] m (some (aI v)) m2) (hd : d2 + 1 ≤ d) (k : S_X7_follow sc d 15 [aR 0, aI l1, aI l2] [aI v] m2 Q) : S_X7_follow sc d 12 [aR 0, aI l1, aI l2] [aI s0] m Q := x_callS (as := [aI s0]) (rest := []) hM mk_X7_isLength ms_X7_isLength lk_X7_174 hd rfl rfl (Nat.le_of_ble_eq_true rfl) dX7_follow_12 rfl k
theorem c_X7_follow_34 {sc : List Int} {d d2 : Nat} {m m2 : Mem} {Q : Option AV → Mem → Prop} {l1 l2 s1 s2 : Int} (Hs1 : RoomAt s1) (hM : C_X0_prepare sc d2 [aR 37, aR s1, aI s2] m none m2) (hd : d2 + 1 ≤ d) (k : S_X7_follow sc d 37 [aR 0, aI l1, aI l2] [] m2 Q) : S_X7_follow sc d 34 [aR 0, aI l1, aI l2] [aI s2, aR s1, aR 37] m Q := x_callV (as := [aR s1, aI s2]) (rest := []) hM mk_X0_prepare mv_X0_prepare lk_X7_177 (Or.inl ⟨0, (RX0, TX0, 2), ic_37, Nat.le_of_ble_eq_true rfl, rfl, rfl⟩) hd rfl rfl (Nat.le_of_ble_eq_true rfl) dX7_follow_34 rfl k
theorem c_X7_follow_51 {sc : List Int} {d d2 : Nat} {m m2 : Mem} {Q : Option AV → Mem → Prop} {s1 s3 s4 : Int} (Hs1 : RoomAt s1) (hM : C_X1_run sc d2 [aR 39, aR s1, aR 37, aI s3, aI s4] m none m2) (hd : d2 + 1 ≤ d) (k : S_X7_follow sc d 54 [aR 0, aU, aU] [] m2 Q) : S_X7_follow sc d 51 [aR 0, aU, aU] [aI s4, aI s3, aR 37, aR s1, aR 39] m Q := x_callV (as := [aR s1, aR 37, aI s3, aI s4]) (rest := []) hM mk_X1_run mv_X1_run lk_X7_181 (Or.inl ⟨1, (RX1, TX1, 9), ic_39, Nat.le_of_ble_eq_true rfl, rfl, rfl⟩) hd rfl rfl (Nat.le_of_ble_eq_true rfl) dX7_follow_51 rfl k
set_option maxRecDepth 4000 in
theorem g_X7_isLength_0 {sc : List Int} {d : Nat} {m : Mem} {Q : Option AV → Mem → Prop} {l0 : Int} (k : ((-2147483648 ≤ l0 ∧ l0 < 2147483648)) ∧ Q (some (aI (if l0 < 1 then 0 else (if 99 < l0 then 0 else 1 : Int) : Int))) m) : S_X7_isLength sc d 0 [aI l0] [] m Q := by
  refine x_iload_n (pc2 := 1) dX7_isLength_0 rfl rfl ?_
  refine x_iconst (pc2 := 2) dX7_isLength_1 rfl ?_
  obtain ⟨g2, k⟩ := k
  have kj : S_X7_isLength sc d 16 [aI l0] [aI (if l0 < 1 then 0 else (if 99 < l0 then 0 else 1 : Int) : Int)] m Q := by
    exact x_ireturn dX7_isLength_16 (ret_z (by repeat (first | exact Or.inl rfl | exact Or.inr rfl | split))) k
  have h3 := g2 
  refine x_icmp_lt (tgt := 15) (pc2 := 5) dX7_isLength_2 (by decide) rfl h3 (by decide) (fun c4 => ?_) (fun c4 => ?_)
  · skip
    refine x_iconst (pc2 := 16) dX7_isLength_15 rfl ?_
    exact x_topI (v := (if l0 < 1 then 0 else (if 99 < l0 then 0 else 1 : Int) : Int)) (if_pos c4) kj
  · skip
    refine x_iload_n (pc2 := 6) dX7_isLength_5 rfl rfl ?_
    refine x_bipush (pc2 := 8) dX7_isLength_6 rfl rfl ?_
    refine x_icmp_gt (tgt := 15) (pc2 := 11) dX7_isLength_8 (by decide) rfl h3 (by decide) (fun c5 => ?_) (fun c5 => ?_)
    · skip
      refine x_iconst (pc2 := 16) dX7_isLength_15 rfl ?_
      exact x_topI (v := (if l0 < 1 then 0 else (if 99 < l0 then 0 else 1 : Int) : Int)) ((if_neg c4).trans (if_pos c5)) kj
    · skip
      refine x_iconst (pc2 := 12) dX7_isLength_11 rfl ?_
      refine x_goto (tgt := 16) dX7_isLength_12 (by decide) ?_
      exact x_topI (v := (if l0 < 1 then 0 else (if 99 < l0 then 0 else 1 : Int) : Int)) ((if_neg c4).trans (if_neg c5)) kj
set_option maxRecDepth 4000 in
theorem g_X7_weighs_0 {sc : List Int} {d : Nat} {m : Mem} {Q : Option AV → Mem → Prop} (k : (RoomAt (m 0 2)) ∧ ((-2147483648 ≤ (m (m 0 2) 15) ∧ (m (m 0 2) 15) < 2147483648)) ∧ ((¬ ((m (m 0 2) 15) ≤ 0)) → (-2147483648 ≤ (m (m 0 2) 8) ∧ (m (m 0 2) 8) < 2147483648)) ∧ Q (some (aI (if (m (m 0 2) 15) ≤ 0 then 0 else (if 6 < (m (m 0 2) 8) then 0 else 1 : Int) : Int))) m) : S_X7_weighs sc d 0 [aR 0] [] m Q := by
  refine x_aload_n (pc2 := 1) dX7_weighs_0 rfl rfl ?_
  refine x_getf (pc2 := 4) (v := aR (m 0 2)) fl_X7_16 ic_0 (fv_m _ ic_0 rfl) dX7_weighs_1 rfl ?_
  obtain ⟨h1, k⟩ := k
  refine x_getf (pc2 := 7) (v := aI (m (m 0 2) 15)) fl_X7_100 (icr_0 h1) (fv_i _ (icr_0 h1) rfl) dX7_weighs_4 rfl ?_
  obtain ⟨g3, k⟩ := k
  obtain ⟨g5, k⟩ := k
  have kj : S_X7_weighs sc d 27 [aR 0] [aI (if (m (m 0 2) 15) ≤ 0 then 0 else (if 6 < (m (m 0 2) 8) then 0 else 1 : Int) : Int)] m Q := by
    exact x_ireturn dX7_weighs_27 (ret_z (by repeat (first | exact Or.inl rfl | exact Or.inr rfl | split))) k
  have h6 := g3 
  refine x_if_le (tgt := 26) (pc2 := 10) dX7_weighs_7 (by decide) rfl h6 (fun c7 => ?_) (fun c7 => ?_)
  · skip
    refine x_iconst (pc2 := 27) dX7_weighs_26 rfl ?_
    exact x_topI (v := (if (m (m 0 2) 15) ≤ 0 then 0 else (if 6 < (m (m 0 2) 8) then 0 else 1 : Int) : Int)) (if_pos c7) kj
  · skip
    refine x_aload_n (pc2 := 11) dX7_weighs_10 rfl rfl ?_
    refine x_getf (pc2 := 14) (v := aR (m 0 2)) fl_X7_16 ic_0 (fv_m _ ic_0 rfl) dX7_weighs_11 rfl ?_
    refine x_getf (pc2 := 17) (v := aI (m (m 0 2) 8)) fl_X7_112 (icr_0 h1) (fv_i _ (icr_0 h1) rfl) dX7_weighs_14 rfl ?_
    refine x_bipush (pc2 := 19) dX7_weighs_17 rfl rfl ?_
    have h8 := g5 c7
    refine x_icmp_gt (tgt := 26) (pc2 := 22) dX7_weighs_19 (by decide) rfl h8 (by decide) (fun c9 => ?_) (fun c9 => ?_)
    · skip
      refine x_iconst (pc2 := 27) dX7_weighs_26 rfl ?_
      exact x_topI (v := (if (m (m 0 2) 15) ≤ 0 then 0 else (if 6 < (m (m 0 2) 8) then 0 else 1 : Int) : Int)) ((if_neg c7).trans (if_pos c9)) kj
    · skip
      refine x_iconst (pc2 := 23) dX7_weighs_22 rfl ?_
      refine x_goto (tgt := 27) dX7_weighs_23 (by decide) ?_
      exact x_topI (v := (if (m (m 0 2) 15) ≤ 0 then 0 else (if 6 < (m (m 0 2) 8) then 0 else 1 : Int) : Int)) ((if_neg c7).trans (if_neg c9)) kj
set_option maxRecDepth 4000 in
theorem g_X7_mean_0 {sc : List Int} {d : Nat} {m : Mem} {Q : Option AV → Mem → Prop} {l1 : Int} (k : S_X7_mean sc d 1 [aR 0, aI l1] [aR 0] m Q) : S_X7_mean sc d 0 [aR 0, aI l1] [] m Q := by
  refine x_aload_n (pc2 := 1) dX7_mean_0 rfl rfl ?_
  exact k
set_option maxRecDepth 4000 in
theorem g_X7_mean_4 {sc : List Int} {d : Nat} {m : Mem} {Q : Option AV → Mem → Prop} {l1 s0 : Int} (k : (-2147483648 ≤ s0 ∧ s0 < 2147483648) ∧ ((s0 = 0) → (Q (some (aI (-1))) m)) ∧ (¬ (s0 = 0) → (S_X7_mean sc d 12 [aR 0, aI l1] [aI l1, aR (m 0 2)] m Q))) : S_X7_mean sc d 4 [aR 0, aI l1] [aI s0] m Q := by
  obtain ⟨h1, k⟩ := k
  obtain ⟨k1, k2⟩ := k
  refine x_if_eq (tgt := 18) (pc2 := 7) dX7_mean_4 (by decide) rfl h1 (fun c2 => ?_) (fun c2 => ?_)
  · replace k := k1 c2
    refine x_iconst (pc2 := 19) dX7_mean_18 rfl ?_
    exact x_ireturn dX7_mean_19 ⟨.int, rfl, rfl⟩ k
  · replace k := k2 c2
    refine x_aload_n (pc2 := 8) dX7_mean_7 rfl rfl ?_
    refine x_getf (pc2 := 11) (v := aR (m 0 2)) fl_X7_16 ic_0 (fv_m _ ic_0 rfl) dX7_mean_8 rfl ?_
    refine x_iload_n (pc2 := 12) dX7_mean_11 rfl rfl ?_
    exact k
set_option maxRecDepth 4000 in
theorem g_X7_mean_15 {sc : List Int} {d : Nat} {m : Mem} {Q : Option AV → Mem → Prop} {l1 s0 : Int} (k : (-2147483648 ≤ s0 ∧ s0 < 2147483648) ∧ ((s0 ≠ 0) → (S_X7_mean sc d 29 [aR 0, aU] [aI l1, aR (m 0 2), aR 37] m Q)) ∧ (¬ (s0 ≠ 0) → (Q (some (aI (-1))) m))) : S_X7_mean sc d 15 [aR 0, aI l1] [aI s0] m Q := by
  obtain ⟨h1, k⟩ := k
  obtain ⟨k1, k2⟩ := k
  refine x_if_ne (tgt := 20) (pc2 := 18) dX7_mean_15 (by decide) rfl h1 (fun c2 => ?_) (fun c2 => ?_)
  · replace k := k1 c2
    refine x_aload_n (pc2 := 21) dX7_mean_20 rfl rfl ?_
    refine x_getf (pc2 := 24) (v := aR 37) fl_X7_33 ic_0 (vr_0_5 _) dX7_mean_21 rfl ?_
    refine x_aload_n (pc2 := 25) dX7_mean_24 rfl rfl ?_
    refine x_getf (pc2 := 28) (v := aR (m 0 2)) fl_X7_16 ic_0 (fv_m _ ic_0 rfl) dX7_mean_25 rfl ?_
    refine x_iload_n (pc2 := 29) dX7_mean_28 rfl rfl ?_
    exact x_drop (drp_k (drp_u drp_n)) k
  · replace k := k2 c2
    refine x_iconst (pc2 := 19) dX7_mean_18 rfl ?_
    exact x_ireturn dX7_mean_19 ⟨.int, rfl, rfl⟩ k
set_option maxRecDepth 4000 in
theorem g_X7_mean_32 {sc : List Int} {d : Nat} {m : Mem} {Q : Option AV → Mem → Prop} {s0 : Int} (k : S_X7_mean sc d 32 [aR 0, aU] [aJ s0] m Q) : S_X7_mean sc d 32 [aR 0, aU] [aJ s0] m Q := by
  exact k
set_option maxRecDepth 4000 in
theorem g_X7_mean_35 {sc : List Int} {d : Nat} {m : Mem} {Q : Option AV → Mem → Prop} {s0 : Int} (k : Q (some (aI s0)) m) : S_X7_mean sc d 35 [aR 0, aU] [aI s0] m Q := by
  exact x_ireturn dX7_mean_35 ⟨.int, rfl, rfl⟩ k
theorem c_X7_mean_1 {sc : List Int} {d d2 : Nat} {m m2 : Mem} {Q : Option AV → Mem → Prop} {l1 : Int} {v : Int} (hM : C_X7_weighs sc d2 [aR 0] m (some (aI v)) m2) (hd : d2 + 1 ≤ d) (k : S_X7_mean sc d 4 [aR 0, aI l1] [aI v] m2 Q) : S_X7_mean sc d 1 [aR 0, aI l1] [aR 0] m Q := x_callV (as := []) (rest := []) hM mk_X7_weighs mv_X7_weighs lk_X7_185 (Or.inl ⟨7, (RX7, TX7, 14), ic_0, Nat.le_of_ble_eq_true rfl, rfl, rfl⟩) hd rfl rfl (Nat.le_of_ble_eq_true rfl) dX7_mean_1 rfl k
theorem c_X7_mean_12 {sc : List Int} {d d2 : Nat} {m m2 : Mem} {Q : Option AV → Mem → Prop} {l1 s0 s1 : Int} {v : Int} (Hs0 : RoomAt s0) (hM : C_X6_knows sc d2 [aR s0, aI s1] m (some (aI v)) m2) (hd : d2 + 1 ≤ d) (k : S_X7_mean sc d 15 [aR 0, aI l1] [aI v] m2 Q) : S_X7_mean sc d 12 [aR 0, aI l1] [aI s1, aR s0] m Q := x_callV (as := [aI s1]) (rest := []) hM mk_X6_knows mv_X6_knows lk_X7_170 (Or.inl ⟨6, (RX6, TX6, 16), icr_0 Hs0, Nat.le_of_ble_eq_true rfl, rfl, rfl⟩) hd rfl rfl (Nat.le_of_ble_eq_true rfl) dX7_mean_12 rfl k
theorem c_X7_mean_29 {sc : List Int} {d d2 : Nat} {m m2 : Mem} {Q : Option AV → Mem → Prop} {s1 s2 : Int} {v : Int} (Hs1 : RoomAt s1) (hM : C_X0_expect sc d2 [aR 37, aR s1, aI s2] m (some (aJ v)) m2) (hd : d2 + 1 ≤ d) (k : S_X7_mean sc d 32 [aR 0, aU] [aJ v] m2 Q) : S_X7_mean sc d 29 [aR 0, aU] [aI s2, aR s1, aR 37] m Q := x_callV (as := [aR s1, aI s2]) (rest := []) hM mk_X0_expect mv_X0_expect lk_X7_189 (Or.inl ⟨0, (RX0, TX0, 2), ic_37, Nat.le_of_ble_eq_true rfl, rfl, rfl⟩) hd rfl rfl (Nat.le_of_ble_eq_true rfl) dX7_mean_29 rfl k
theorem c_X7_mean_32 {sc : List Int} {d d2 : Nat} {m m2 : Mem} {Q : Option AV → Mem → Prop} {s0 : Int} {v : Int} (hM : C_X0_thousandths sc d2 [aJ s0] m (some (aI v)) m2) (hd : d2 + 1 ≤ d) (k : S_X7_mean sc d 35 [aR 0, aU] [aI v] m2 Q) : S_X7_mean sc d 32 [aR 0, aU] [aJ s0] m Q := x_callS (as := [aJ s0]) (rest := []) hM mk_X0_thousandths ms_X0_thousandths lk_X7_193 hd rfl rfl (Nat.le_of_ble_eq_true rfl) dX7_mean_32 rfl k
set_option maxRecDepth 4000 in
theorem g_X7_when_0 {sc : List Int} {d : Nat} {m : Mem} {Q : Option AV → Mem → Prop} {l1 l2 : Int} (k : S_X7_when sc d 1 [aR 0, aI l1, aI l2] [aR 0] m Q) : S_X7_when sc d 0 [aR 0, aI l1, aI l2] [] m Q := by
  refine x_aload_n (pc2 := 1) dX7_when_0 rfl rfl ?_
  exact k
set_option maxRecDepth 4000 in
theorem g_X7_when_4 {sc : List Int} {d : Nat} {m : Mem} {Q : Option AV → Mem → Prop} {l1 l2 s0 : Int} (k : (-2147483648 ≤ s0 ∧ s0 < 2147483648) ∧ ((s0 = 0) → (Q (some (aI (-1))) m)) ∧ (¬ (s0 = 0) → ((-2147483648 ≤ l1 ∧ l1 < 2147483648) ∧ ((l1 < 0) → (Q (some (aI (-1))) m)) ∧ (¬ (l1 < 0) → ((RoomAt (m 0 2)) ∧ (-2147483648 ≤ (m (m 0 2) 8) ∧ (m (m 0 2) 8) < 2147483648) ∧ (((m (m 0 2) 8) ≤ l1) → (Q (some (aI (-1))) m)) ∧ (¬ ((m (m 0 2) 8) ≤ l1) → ((-2147483648 ≤ l2 ∧ l2 < 2147483648) ∧ ((l2 < 0) → (Q (some (aI (-1))) m)) ∧ (¬ (l2 < 0) → (((l2 ≤ 99) → (S_X7_when sc d 43 [aR 0, aI l1, aI l2] [aI 3, aR (m 0 2), aR 37] m Q)) ∧ (¬ (l2 ≤ 99) → (Q (some (aI (-1))) m))))))))))) : S_X7_when sc d 4 [aR 0, aI l1, aI l2] [aI s0] m Q := by
  obtain ⟨h1, k⟩ := k
  obtain ⟨k1, k2⟩ := k
  refine x_if_eq (tgt := 32) (pc2 := 7) dX7_when_4 (by decide) rfl h1 (fun c2 => ?_) (fun c2 => ?_)
  · replace k := k1 c2
    refine x_iconst (pc2 := 33) dX7_when_32 rfl ?_
    exact x_ireturn dX7_when_33 ⟨.int, rfl, rfl⟩ k
  · replace k := k2 c2
    refine x_iload_n (pc2 := 8) dX7_when_7 rfl rfl ?_
    obtain ⟨h3, k⟩ := k
    obtain ⟨k1, k2⟩ := k
    refine x_if_lt (tgt := 32) (pc2 := 11) dX7_when_8 (by decide) rfl h3 (fun c4 => ?_) (fun c4 => ?_)
    · replace k := k1 c4
      refine x_iconst (pc2 := 33) dX7_when_32 rfl ?_
      exact x_ireturn dX7_when_33 ⟨.int, rfl, rfl⟩ k
    · replace k := k2 c4
      refine x_iload_n (pc2 := 12) dX7_when_11 rfl rfl ?_
      refine x_aload_n (pc2 := 13) dX7_when_12 rfl rfl ?_
      refine x_getf (pc2 := 16) (v := aR (m 0 2)) fl_X7_16 ic_0 (fv_m _ ic_0 rfl) dX7_when_13 rfl ?_
      obtain ⟨h5, k⟩ := k
      refine x_getf (pc2 := 19) (v := aI (m (m 0 2) 8)) fl_X7_112 (icr_0 h5) (fv_i _ (icr_0 h5) rfl) dX7_when_16 rfl ?_
      obtain ⟨h6, k⟩ := k
      obtain ⟨k1, k2⟩ := k
      refine x_icmp_ge (tgt := 32) (pc2 := 22) dX7_when_19 (by decide) rfl h3 h6 (fun c7 => ?_) (fun c7 => ?_)
      · replace k := k1 c7
        refine x_iconst (pc2 := 33) dX7_when_32 rfl ?_
        exact x_ireturn dX7_when_33 ⟨.int, rfl, rfl⟩ k
      · replace k := k2 c7
        refine x_iload_n (pc2 := 23) dX7_when_22 rfl rfl ?_
        obtain ⟨h8, k⟩ := k
        obtain ⟨k1, k2⟩ := k
        refine x_if_lt (tgt := 32) (pc2 := 26) dX7_when_23 (by decide) rfl h8 (fun c9 => ?_) (fun c9 => ?_)
        · replace k := k1 c9
          refine x_iconst (pc2 := 33) dX7_when_32 rfl ?_
          exact x_ireturn dX7_when_33 ⟨.int, rfl, rfl⟩ k
        · replace k := k2 c9
          refine x_iload_n (pc2 := 27) dX7_when_26 rfl rfl ?_
          refine x_bipush (pc2 := 29) dX7_when_27 rfl rfl ?_
          obtain ⟨k1, k2⟩ := k
          refine x_icmp_le (tgt := 34) (pc2 := 32) dX7_when_29 (by decide) rfl h8 (by decide) (fun c10 => ?_) (fun c10 => ?_)
          · replace k := k1 c10
            refine x_aload_n (pc2 := 35) dX7_when_34 rfl rfl ?_
            refine x_getf (pc2 := 38) (v := aR 37) fl_X7_33 ic_0 (vr_0_5 _) dX7_when_35 rfl ?_
            refine x_aload_n (pc2 := 39) dX7_when_38 rfl rfl ?_
            refine x_getf (pc2 := 42) (v := aR (m 0 2)) fl_X7_16 ic_0 (fv_m _ ic_0 rfl) dX7_when_39 rfl ?_
            refine x_iconst (pc2 := 43) dX7_when_42 rfl ?_
            exact k
          · replace k := k2 c10
            refine x_iconst (pc2 := 33) dX7_when_32 rfl ?_
            exact x_ireturn dX7_when_33 ⟨.int, rfl, rfl⟩ k
set_option maxRecDepth 4000 in
theorem g_X7_when_46 {sc : List Int} {d : Nat} {m : Mem} {Q : Option AV → Mem → Prop} {l1 l2 : Int} (k : S_X7_when sc d 58 [aR 0, aU, aU] [aI 0, aI l2, aI l1, aI 3, aR (m 0 2), aR 37] m Q) : S_X7_when sc d 46 [aR 0, aI l1, aI l2] [] m Q := by
  refine x_aload_n (pc2 := 47) dX7_when_46 rfl rfl ?_
  refine x_getf (pc2 := 50) (v := aR 37) fl_X7_33 ic_0 (vr_0_5 _) dX7_when_47 rfl ?_
  refine x_aload_n (pc2 := 51) dX7_when_50 rfl rfl ?_
  refine x_getf (pc2 := 54) (v := aR (m 0 2)) fl_X7_16 ic_0 (fv_m _ ic_0 rfl) dX7_when_51 rfl ?_
  refine x_iconst (pc2 := 55) dX7_when_54 rfl ?_
  refine x_iload_n (pc2 := 56) dX7_when_55 rfl rfl ?_
  refine x_iload_n (pc2 := 57) dX7_when_56 rfl rfl ?_
  refine x_iconst (pc2 := 58) dX7_when_57 rfl ?_
  exact x_drop (drp_k (drp_u (drp_u drp_n))) k
set_option maxRecDepth 4000 in
theorem g_X7_when_61 {sc : List Int} {d : Nat} {m : Mem} {Q : Option AV → Mem → Prop} {s0 : Int} (k : ((-2147483648 ≤ s0 ∧ s0 < 2147483648)) ∧ Q (some (aI (if s0 = 0 then 0 else 1 : Int))) m) : S_X7_when sc d 61 [aR 0, aU, aU] [aI s0] m Q := by
  obtain ⟨g2, k⟩ := k
  have kj : S_X7_when sc d 69 [aR 0, aU, aU] [aI (if s0 = 0 then 0 else 1 : Int)] m Q := by
    exact x_ireturn dX7_when_69 ⟨.int, rfl, rfl⟩ k
  have h3 := g2 
  refine x_if_eq (tgt := 68) (pc2 := 64) dX7_when_61 (by decide) rfl h3 (fun c4 => ?_) (fun c4 => ?_)
  · skip
    refine x_iconst (pc2 := 69) dX7_when_68 rfl ?_
    exact x_topI (v := (if s0 = 0 then 0 else 1 : Int)) (if_pos c4) kj
  · skip
    refine x_iconst (pc2 := 65) dX7_when_64 rfl ?_
    refine x_goto (tgt := 69) dX7_when_65 (by decide) ?_
    exact x_topI (v := (if s0 = 0 then 0 else 1 : Int)) (if_neg c4) kj
theorem c_X7_when_1 {sc : List Int} {d d2 : Nat} {m m2 : Mem} {Q : Option AV → Mem → Prop} {l1 l2 : Int} {v : Int} (hM : C_X7_weighs sc d2 [aR 0] m (some (aI v)) m2) (hd : d2 + 1 ≤ d) (k : S_X7_when sc d 4 [aR 0, aI l1, aI l2] [aI v] m2 Q) : S_X7_when sc d 1 [aR 0, aI l1, aI l2] [aR 0] m Q := x_callV (as := []) (rest := []) hM mk_X7_weighs mv_X7_weighs lk_X7_185 (Or.inl ⟨7, (RX7, TX7, 14), ic_0, Nat.le_of_ble_eq_true rfl, rfl, rfl⟩) hd rfl rfl (Nat.le_of_ble_eq_true rfl) dX7_when_1 rfl k
theorem c_X7_when_43 {sc : List Int} {d d2 : Nat} {m m2 : Mem} {Q : Option AV → Mem → Prop} {l1 l2 s1 s2 : Int} (Hs1 : RoomAt s1) (hM : C_X0_prepare sc d2 [aR 37, aR s1, aI s2] m none m2) (hd : d2 + 1 ≤ d) (k : S_X7_when sc d 46 [aR 0, aI l1, aI l2] [] m2 Q) : S_X7_when sc d 43 [aR 0, aI l1, aI l2] [aI s2, aR s1, aR 37] m Q := x_callV (as := [aR s1, aI s2]) (rest := []) hM mk_X0_prepare mv_X0_prepare lk_X7_177 (Or.inl ⟨0, (RX0, TX0, 2), ic_37, Nat.le_of_ble_eq_true rfl, rfl, rfl⟩) hd rfl rfl (Nat.le_of_ble_eq_true rfl) dX7_when_43 rfl k
theorem c_X7_when_58 {sc : List Int} {d d2 : Nat} {m m2 : Mem} {Q : Option AV → Mem → Prop} {s1 s2 s3 s4 s5 : Int} {v : Int} (Hs1 : RoomAt s1) (hM : C_X0_turns sc d2 [aR 37, aR s1, aI s2, aI s3, aI s4, aI s5] m (some (aI v)) m2) (hd : d2 + 1 ≤ d) (k : S_X7_when sc d 61 [aR 0, aU, aU] [aI v] m2 Q) : S_X7_when sc d 58 [aR 0, aU, aU] [aI s5, aI s4, aI s3, aI s2, aR s1, aR 37] m Q := x_callV (as := [aR s1, aI s2, aI s3, aI s4, aI s5]) (rest := []) hM mk_X0_turns mv_X0_turns lk_X7_197 (Or.inl ⟨0, (RX0, TX0, 2), ic_37, Nat.le_of_ble_eq_true rfl, rfl, rfl⟩) hd rfl rfl (Nat.le_of_ble_eq_true rfl) dX7_when_58 rfl k
set_option maxRecDepth 4000 in
theorem g_X7_looks_0 {sc : List Int} {d : Nat} {m : Mem} {Q : Option AV → Mem → Prop} {l1 : Int} (k : S_X7_looks sc d 1 [aR 0, aI l1, aU, aU] [aR 0] m Q) : S_X7_looks sc d 0 [aR 0, aI l1, aU, aU] [] m Q := by
  refine x_aload_n (pc2 := 1) dX7_looks_0 rfl rfl ?_
  exact k
set_option maxRecDepth 4000 in
theorem g_X7_looks_4 {sc : List Int} {d : Nat} {m : Mem} {Q : Option AV → Mem → Prop} {l1 s0 : Int} (k : (-2147483648 ≤ s0 ∧ s0 < 2147483648) ∧ ((s0 = 0) → (Q (some (aI (-1))) m)) ∧ (¬ (s0 = 0) → ((-2147483648 ≤ l1 ∧ l1 < 2147483648) ∧ ((l1 < 0) → (Q (some (aI (-1))) m)) ∧ (¬ (l1 < 0) → (((l1 ≤ 1) → (S_X7_looks sc d 28 [aR 0, aI l1, aU, aU] [aI (-2), aR (m 0 2), aR 37] m Q)) ∧ (¬ (l1 ≤ 1) → (Q (some (aI (-1))) m))))))) : S_X7_looks sc d 4 [aR 0, aI l1, aU, aU] [aI s0] m Q := by
  obtain ⟨h1, k⟩ := k
  obtain ⟨k1, k2⟩ := k
  refine x_if_eq (tgt := 16) (pc2 := 7) dX7_looks_4 (by decide) rfl h1 (fun c2 => ?_) (fun c2 => ?_)
  · replace k := k1 c2
    refine x_iconst (pc2 := 17) dX7_looks_16 rfl ?_
    exact x_ireturn dX7_looks_17 ⟨.int, rfl, rfl⟩ k
  · replace k := k2 c2
    refine x_iload_n (pc2 := 8) dX7_looks_7 rfl rfl ?_
    obtain ⟨h3, k⟩ := k
    obtain ⟨k1, k2⟩ := k
    refine x_if_lt (tgt := 16) (pc2 := 11) dX7_looks_8 (by decide) rfl h3 (fun c4 => ?_) (fun c4 => ?_)
    · replace k := k1 c4
      refine x_iconst (pc2 := 17) dX7_looks_16 rfl ?_
      exact x_ireturn dX7_looks_17 ⟨.int, rfl, rfl⟩ k
    · replace k := k2 c4
      refine x_iload_n (pc2 := 12) dX7_looks_11 rfl rfl ?_
      refine x_iconst (pc2 := 13) dX7_looks_12 rfl ?_
      obtain ⟨k1, k2⟩ := k
      refine x_icmp_le (tgt := 18) (pc2 := 16) dX7_looks_13 (by decide) rfl h3 (by decide) (fun c5 => ?_) (fun c5 => ?_)
      · replace k := k1 c5
        refine x_aload_n (pc2 := 19) dX7_looks_18 rfl rfl ?_
        refine x_getf (pc2 := 22) (v := aR 37) fl_X7_33 ic_0 (vr_0_5 _) dX7_looks_19 rfl ?_
        refine x_aload_n (pc2 := 23) dX7_looks_22 rfl rfl ?_
        refine x_getf (pc2 := 26) (v := aR (m 0 2)) fl_X7_16 ic_0 (fv_m _ ic_0 rfl) dX7_looks_23 rfl ?_
        refine x_bipush (pc2 := 28) dX7_looks_26 rfl rfl ?_
        exact k
      · replace k := k2 c5
        refine x_iconst (pc2 := 17) dX7_looks_16 rfl ?_
        exact x_ireturn dX7_looks_17 ⟨.int, rfl, rfl⟩ k
set_option maxRecDepth 4000 in
theorem g_X7_looks_31 {sc : List Int} {d : Nat} {m : Mem} {Q : Option AV → Mem → Prop} {l1 s0 : Int} (k : (-2147483648 ≤ l1 ∧ l1 < 2147483648) ∧ ((l1 ≠ 0) → (S_X7_looks sc d 49 [aR 0, aU, aJ s0, aU] [aI 3, aR (m 0 2), aR 37] m Q)) ∧ (¬ (l1 ≠ 0) → (S_X7_looks sc d 54 [aR 0, aU, aU, aU] [aJ s0] m Q))) : S_X7_looks sc d 31 [aR 0, aI l1, aU, aU] [aJ s0] m Q := by
  refine x_lstore_n (pc2 := 32) (ls2 := [aR 0, aI l1, aJ s0, aU]) dX7_looks_31 rfl (by decide) rfl ?_
  refine x_iload_n (pc2 := 33) dX7_looks_32 rfl rfl ?_
  obtain ⟨h1, k⟩ := k
  obtain ⟨k1, k2⟩ := k
  refine x_if_ne (tgt := 40) (pc2 := 36) dX7_looks_33 (by decide) rfl h1 (fun c2 => ?_) (fun c2 => ?_)
  · replace k := k1 c2
    refine x_aload_n (pc2 := 41) dX7_looks_40 rfl rfl ?_
    refine x_getf (pc2 := 44) (v := aR 37) fl_X7_33 ic_0 (vr_0_5 _) dX7_looks_41 rfl ?_
    refine x_aload_n (pc2 := 45) dX7_looks_44 rfl rfl ?_
    refine x_getf (pc2 := 48) (v := aR (m 0 2)) fl_X7_16 ic_0 (fv_m _ ic_0 rfl) dX7_looks_45 rfl ?_
    refine x_iconst (pc2 := 49) dX7_looks_48 rfl ?_
    exact x_drop (drp_k (drp_u (drp_k (drp_k drp_n)))) k
  · replace k := k2 c2
    refine x_lload_n (pc2 := 37) dX7_looks_36 rfl rfl ?_
    refine x_goto (tgt := 54) dX7_looks_37 (by decide) ?_
    exact x_drop (drp_k (drp_u (drp_u (drp_k drp_n)))) k
set_option maxRecDepth 4000 in
theorem g_X7_looks_52 {sc : List Int} {d : Nat} {m : Mem} {Q : Option AV → Mem → Prop} {l2 s0 : Int} (k : S_X7_looks sc d 54 [aR 0, aU, aU, aU] [aJ (s0 - l2)] m Q) : S_X7_looks sc d 52 [aR 0, aU, aJ l2, aU] [aJ s0] m Q := by
  refine x_lload_n (pc2 := 53) dX7_looks_52 rfl rfl ?_
  refine x_lsub (pc2 := 54) dX7_looks_53 rfl ?_
  exact x_drop (drp_k (drp_k (drp_u (drp_k drp_n)))) k
set_option maxRecDepth 4000 in
theorem g_X7_looks_57 {sc : List Int} {d : Nat} {m : Mem} {Q : Option AV → Mem → Prop} {s0 : Int} (k : Q (some (aI s0)) m) : S_X7_looks sc d 57 [aR 0, aU, aU, aU] [aI s0] m Q := by
  exact x_ireturn dX7_looks_57 ⟨.int, rfl, rfl⟩ k
theorem c_X7_looks_1 {sc : List Int} {d d2 : Nat} {m m2 : Mem} {Q : Option AV → Mem → Prop} {l1 : Int} {v : Int} (hM : C_X7_weighs sc d2 [aR 0] m (some (aI v)) m2) (hd : d2 + 1 ≤ d) (k : S_X7_looks sc d 4 [aR 0, aI l1, aU, aU] [aI v] m2 Q) : S_X7_looks sc d 1 [aR 0, aI l1, aU, aU] [aR 0] m Q := x_callV (as := []) (rest := []) hM mk_X7_weighs mv_X7_weighs lk_X7_185 (Or.inl ⟨7, (RX7, TX7, 14), ic_0, Nat.le_of_ble_eq_true rfl, rfl, rfl⟩) hd rfl rfl (Nat.le_of_ble_eq_true rfl) dX7_looks_1 rfl k
theorem c_X7_looks_28 {sc : List Int} {d d2 : Nat} {m m2 : Mem} {Q : Option AV → Mem → Prop} {l1 s1 s2 : Int} {v : Int} (Hs1 : RoomAt s1) (hM : C_X0_expect sc d2 [aR 37, aR s1, aI s2] m (some (aJ v)) m2) (hd : d2 + 1 ≤ d) (k : S_X7_looks sc d 31 [aR 0, aI l1, aU, aU] [aJ v] m2 Q) : S_X7_looks sc d 28 [aR 0, aI l1, aU, aU] [aI s2, aR s1, aR 37] m Q := x_callV (as := [aR s1, aI s2]) (rest := []) hM mk_X0_expect mv_X0_expect lk_X7_189 (Or.inl ⟨0, (RX0, TX0, 2), ic_37, Nat.le_of_ble_eq_true rfl, rfl, rfl⟩) hd rfl rfl (Nat.le_of_ble_eq_true rfl) dX7_looks_28 rfl k
theorem c_X7_looks_49 {sc : List Int} {d d2 : Nat} {m m2 : Mem} {Q : Option AV → Mem → Prop} {l2 s1 s2 : Int} {v : Int} (Hs1 : RoomAt s1) (hM : C_X0_expect sc d2 [aR 37, aR s1, aI s2] m (some (aJ v)) m2) (hd : d2 + 1 ≤ d) (k : S_X7_looks sc d 52 [aR 0, aU, aJ l2, aU] [aJ v] m2 Q) : S_X7_looks sc d 49 [aR 0, aU, aJ l2, aU] [aI s2, aR s1, aR 37] m Q := x_callV (as := [aR s1, aI s2]) (rest := []) hM mk_X0_expect mv_X0_expect lk_X7_189 (Or.inl ⟨0, (RX0, TX0, 2), ic_37, Nat.le_of_ble_eq_true rfl, rfl, rfl⟩) hd rfl rfl (Nat.le_of_ble_eq_true rfl) dX7_looks_49 rfl k
theorem c_X7_looks_54 {sc : List Int} {d d2 : Nat} {m m2 : Mem} {Q : Option AV → Mem → Prop} {s0 : Int} {v : Int} (hM : C_X0_thousandths sc d2 [aJ s0] m (some (aI v)) m2) (hd : d2 + 1 ≤ d) (k : S_X7_looks sc d 57 [aR 0, aU, aU, aU] [aI v] m2 Q) : S_X7_looks sc d 54 [aR 0, aU, aU, aU] [aJ s0] m Q := x_callS (as := [aJ s0]) (rest := []) hM mk_X0_thousandths ms_X0_thousandths lk_X7_193 hd rfl rfl (Nat.le_of_ble_eq_true rfl) dX7_looks_54 rfl k
set_option maxRecDepth 4000 in
theorem g_X7_rule_0 {sc : List Int} {d : Nat} {m : Mem} {Q : Option AV → Mem → Prop} (k : S_X7_rule sc d 1 [aR 0, aU, aU, aU, aU, aU, aU] [aR 0] m Q) : S_X7_rule sc d 0 [aR 0, aU, aU, aU, aU, aU, aU] [] m Q := by
  refine x_aload_n (pc2 := 1) dX7_rule_0 rfl rfl ?_
  exact k
set_option maxRecDepth 4000 in
theorem g_X7_rule_4 {sc : List Int} {d : Nat} {m : Mem} {Q : Option AV → Mem → Prop} {s0 : Int} (k : (-2147483648 ≤ s0 ∧ s0 < 2147483648) ∧ ((s0 ≠ 0) → (S_X7_rule sc d 16 [aR 0, aI (-1), aJ 0, aU, aI 0, aU, aU] [] m Q)) ∧ (¬ (s0 ≠ 0) → (Q (some (aI (-1))) m))) : S_X7_rule sc d 4 [aR 0, aU, aU, aU, aU, aU, aU] [aI s0] m Q := by
  obtain ⟨h1, k⟩ := k
  obtain ⟨k1, k2⟩ := k
  refine x_if_ne (tgt := 9) (pc2 := 7) dX7_rule_4 (by decide) rfl h1 (fun c2 => ?_) (fun c2 => ?_)
  · replace k := k1 c2
    refine x_iconst (pc2 := 10) dX7_rule_9 rfl ?_
    refine x_istore_n (pc2 := 11) (ls2 := [aR 0, aI (-1), aU, aU, aU, aU, aU]) dX7_rule_10 rfl (by decide) rfl ?_
    refine x_lconst (pc2 := 12) (v := 0) dX7_rule_11 rfl rfl ?_
    refine x_lstore_n (pc2 := 13) (ls2 := [aR 0, aI (-1), aJ 0, aU, aU, aU, aU]) dX7_rule_12 rfl (by decide) rfl ?_
    refine x_iconst (pc2 := 14) dX7_rule_13 rfl ?_
    refine x_istore (pc2 := 16) (ls2 := [aR 0, aI (-1), aJ 0, aU, aI 0, aU, aU]) dX7_rule_14 rfl (by decide) rfl ?_
    exact k
  · replace k := k2 c2
    refine x_iconst (pc2 := 8) dX7_rule_7 rfl ?_
    exact x_ireturn dX7_rule_8 ⟨.int, rfl, rfl⟩ k
set_option maxRecDepth 4000 in
theorem g_X7_rule_16 {sc : List Int} {d : Nat} {m : Mem} {Q : Option AV → Mem → Prop} {l1 l2 l4 : Int} (k : (RoomAt (m 0 2)) ∧ (-2147483648 ≤ l4 ∧ l4 < 2147483648) ∧ (-2147483648 ≤ (m (m 0 2) 11) ∧ (m (m 0 2) 11) < 2147483648) ∧ (((m (m 0 2) 11) ≤ l4) → (Q (some (aI l1)) m)) ∧ (¬ ((m (m 0 2) 11) ≤ l4) → (S_X7_rule sc d 40 [aR 0, aI l1, aJ l2, aU, aI l4, aU, aU] [aI (4 + l4), aR (m 0 2), aR 37] m Q))) : S_X7_rule sc d 16 [aR 0, aI l1, aJ l2, aU, aI l4, aU, aU] [] m Q := by
  refine x_iload (pc2 := 18) dX7_rule_16 rfl rfl ?_
  refine x_aload_n (pc2 := 19) dX7_rule_18 rfl rfl ?_
  refine x_getf (pc2 := 22) (v := aR (m 0 2)) fl_X7_16 ic_0 (fv_m _ ic_0 rfl) dX7_rule_19 rfl ?_
  obtain ⟨h1, k⟩ := k
  refine x_getf (pc2 := 25) (v := aI (m (m 0 2) 11)) fl_X7_115 (icr_0 h1) (fv_i _ (icr_0 h1) rfl) dX7_rule_22 rfl ?_
  obtain ⟨h2, k⟩ := k
  obtain ⟨h3, k⟩ := k
  obtain ⟨k1, k2⟩ := k
  refine x_icmp_ge (tgt := 69) (pc2 := 28) dX7_rule_25 (by decide) rfl h2 h3 (fun c4 => ?_) (fun c4 => ?_)
  · replace k := k1 c4
    refine x_iload_n (pc2 := 70) dX7_rule_69 rfl rfl ?_
    exact x_ireturn dX7_rule_70 ⟨.int, rfl, rfl⟩ k
  · replace k := k2 c4
    refine x_aload_n (pc2 := 29) dX7_rule_28 rfl rfl ?_
    refine x_getf (pc2 := 32) (v := aR 37) fl_X7_33 ic_0 (vr_0_5 _) dX7_rule_29 rfl ?_
    refine x_aload_n (pc2 := 33) dX7_rule_32 rfl rfl ?_
    refine x_getf (pc2 := 36) (v := aR (m 0 2)) fl_X7_16 ic_0 (fv_m _ ic_0 rfl) dX7_rule_33 rfl ?_
    refine x_iconst (pc2 := 37) dX7_rule_36 rfl ?_
    refine x_iload (pc2 := 39) dX7_rule_37 rfl rfl ?_
    refine x_iadd (pc2 := 40) dX7_rule_39 rfl ?_
    exact k
set_option maxRecDepth 4000 in
theorem g_X7_rule_43 {sc : List Int} {d : Nat} {m : Mem} {Q : Option AV → Mem → Prop} {l1 l2 l4 s0 : Int} (k : (-2147483648 ≤ l1 ∧ l1 < 2147483648) ∧ ((l1 = (-1)) → (S_X7_rule sc d 16 [aR 0, aI l4, aJ s0, aU, aI (l4 + 1), aU, aU] [] m Q)) ∧ (¬ (l1 = (-1)) → ((-9223372036854775808 ≤ s0 ∧ s0 < 9223372036854775808) ∧ (-9223372036854775808 ≤ l2 ∧ l2 < 9223372036854775808) ∧ ((l2 ≤ s0) → (S_X7_rule sc d 16 [aR 0, aI l1, aJ l2, aU, aI (l4 + 1), aU, aU] [] m Q)) ∧ (¬ (l2 ≤ s0) → (S_X7_rule sc d 16 [aR 0, aI l4, aJ s0, aU, aI (l4 + 1), aU, aU] [] m Q))))) : S_X7_rule sc d 43 [aR 0, aI l1, aJ l2, aU, aI l4, aU, aU] [aJ s0] m Q := by
  refine x_lstore (pc2 := 45) (ls2 := [aR 0, aI l1, aJ l2, aU, aI l4, aJ s0, aU]) dX7_rule_43 rfl (by decide) rfl ?_
  refine x_iload_n (pc2 := 46) dX7_rule_45 rfl rfl ?_
  refine x_iconst (pc2 := 47) dX7_rule_46 rfl ?_
  obtain ⟨h1, k⟩ := k
  obtain ⟨k1, k2⟩ := k
  refine x_icmp_eq (tgt := 57) (pc2 := 50) dX7_rule_47 (by decide) rfl h1 (by decide) (fun c2 => ?_) (fun c2 => ?_)
  · replace k := k1 c2
    refine x_iload (pc2 := 59) dX7_rule_57 rfl rfl ?_
    refine x_istore_n (pc2 := 60) (ls2 := [aR 0, aI l4, aJ l2, aU, aI l4, aJ s0, aU]) dX7_rule_59 rfl (by decide) rfl ?_
    refine x_lload (pc2 := 62) dX7_rule_60 rfl rfl ?_
    refine x_lstore_n (pc2 := 63) (ls2 := [aR 0, aI l4, aJ s0, aU, aI l4, aJ s0, aU]) dX7_rule_62 rfl (by decide) rfl ?_
    refine x_iinc (pc2 := 66) (ls2 := [aR 0, aI l4, aJ s0, aU, aI (l4 + 1), aJ s0, aU]) dX7_rule_63 rfl rfl (by decide) rfl ?_
    refine x_goto (tgt := 16) dX7_rule_66 (by decide) ?_
    exact x_drop (drp_k (drp_k (drp_k (drp_k (drp_k (drp_u (drp_k drp_n))))))) k
  · replace k := k2 c2
    refine x_lload (pc2 := 52) dX7_rule_50 rfl rfl ?_
    refine x_lload_n (pc2 := 53) dX7_rule_52 rfl rfl ?_
    obtain ⟨h3, k⟩ := k
    obtain ⟨h4, k⟩ := k
    obtain ⟨k1, k2⟩ := k
    refine x_lc_ge (tgt := 63) (pc2 := 57) dX7_rule_53 dX7_rule_54 (by decide) rfl h3 h4 (fun c5 => ?_) (fun c5 => ?_)
    · replace k := k1 c5
      refine x_iinc (pc2 := 66) (ls2 := [aR 0, aI l1, aJ l2, aU, aI (l4 + 1), aJ s0, aU]) dX7_rule_63 rfl rfl (by decide) rfl ?_
      refine x_goto (tgt := 16) dX7_rule_66 (by decide) ?_
      exact x_drop (drp_k (drp_k (drp_k (drp_k (drp_k (drp_u (drp_k drp_n))))))) k
    · replace k := k2 c5
      refine x_iload (pc2 := 59) dX7_rule_57 rfl rfl ?_
      refine x_istore_n (pc2 := 60) (ls2 := [aR 0, aI l4, aJ l2, aU, aI l4, aJ s0, aU]) dX7_rule_59 rfl (by decide) rfl ?_
      refine x_lload (pc2 := 62) dX7_rule_60 rfl rfl ?_
      refine x_lstore_n (pc2 := 63) (ls2 := [aR 0, aI l4, aJ s0, aU, aI l4, aJ s0, aU]) dX7_rule_62 rfl (by decide) rfl ?_
      refine x_iinc (pc2 := 66) (ls2 := [aR 0, aI l4, aJ s0, aU, aI (l4 + 1), aJ s0, aU]) dX7_rule_63 rfl rfl (by decide) rfl ?_
      refine x_goto (tgt := 16) dX7_rule_66 (by decide) ?_
      exact x_drop (drp_k (drp_k (drp_k (drp_k (drp_k (drp_u (drp_k drp_n))))))) k
theorem c_X7_rule_1 {sc : List Int} {d d2 : Nat} {m m2 : Mem} {Q : Option AV → Mem → Prop} {v : Int} (hM : C_X7_weighs sc d2 [aR 0] m (some (aI v)) m2) (hd : d2 + 1 ≤ d) (k : S_X7_rule sc d 4 [aR 0, aU, aU, aU, aU, aU, aU] [aI v] m2 Q) : S_X7_rule sc d 1 [aR 0, aU, aU, aU, aU, aU, aU] [aR 0] m Q := x_callV (as := []) (rest := []) hM mk_X7_weighs mv_X7_weighs lk_X7_185 (Or.inl ⟨7, (RX7, TX7, 14), ic_0, Nat.le_of_ble_eq_true rfl, rfl, rfl⟩) hd rfl rfl (Nat.le_of_ble_eq_true rfl) dX7_rule_1 rfl k
theorem c_X7_rule_40 {sc : List Int} {d d2 : Nat} {m m2 : Mem} {Q : Option AV → Mem → Prop} {l1 l2 l4 s1 s2 : Int} {v : Int} (Hs1 : RoomAt s1) (hM : C_X0_expect sc d2 [aR 37, aR s1, aI s2] m (some (aJ v)) m2) (hd : d2 + 1 ≤ d) (k : S_X7_rule sc d 43 [aR 0, aI l1, aJ l2, aU, aI l4, aU, aU] [aJ v] m2 Q) : S_X7_rule sc d 40 [aR 0, aI l1, aJ l2, aU, aI l4, aU, aU] [aI s2, aR s1, aR 37] m Q := x_callV (as := [aR s1, aI s2]) (rest := []) hM mk_X0_expect mv_X0_expect lk_X7_189 (Or.inl ⟨0, (RX0, TX0, 2), ic_37, Nat.le_of_ble_eq_true rfl, rfl, rfl⟩) hd rfl rfl (Nat.le_of_ble_eq_true rfl) dX7_rule_40 rfl k
set_option maxRecDepth 4000 in
theorem g_X7_fewest_0 {sc : List Int} {d : Nat} {m : Mem} {Q : Option AV → Mem → Prop} {l1 l2 : Int} (k : S_X7_fewest sc d 3 [aR 0, aI l1, aI l2] [aI l2, aI l1, aR 0] m Q) : S_X7_fewest sc d 0 [aR 0, aI l1, aI l2] [] m Q := by
  refine x_aload_n (pc2 := 1) dX7_fewest_0 rfl rfl ?_
  refine x_iload_n (pc2 := 2) dX7_fewest_1 rfl rfl ?_
  refine x_iload_n (pc2 := 3) dX7_fewest_2 rfl rfl ?_
  exact k
set_option maxRecDepth 4000 in
theorem g_X7_fewest_6 {sc : List Int} {d : Nat} {m : Mem} {Q : Option AV → Mem → Prop} {l1 l2 s0 : Int} (k : (-2147483648 ≤ s0 ∧ s0 < 2147483648) ∧ ((s0 ≠ 0) → (S_X7_fewest sc d 20 [aR 0, aU, aI l2] [aI l1, aR (m 0 2), aR 44] m Q)) ∧ (¬ (s0 ≠ 0) → (Q (some (aI (-1))) m))) : S_X7_fewest sc d 6 [aR 0, aI l1, aI l2] [aI s0] m Q := by
  obtain ⟨h1, k⟩ := k
  obtain ⟨k1, k2⟩ := k
  refine x_if_ne (tgt := 11) (pc2 := 9) dX7_fewest_6 (by decide) rfl h1 (fun c2 => ?_) (fun c2 => ?_)
  · replace k := k1 c2
    refine x_aload_n (pc2 := 12) dX7_fewest_11 rfl rfl ?_
    refine x_getf (pc2 := 15) (v := aR 44) fl_X7_47 ic_0 (vr_0_7 _) dX7_fewest_12 rfl ?_
    refine x_aload_n (pc2 := 16) dX7_fewest_15 rfl rfl ?_
    refine x_getf (pc2 := 19) (v := aR (m 0 2)) fl_X7_16 ic_0 (fv_m _ ic_0 rfl) dX7_fewest_16 rfl ?_
    refine x_iload_n (pc2 := 20) dX7_fewest_19 rfl rfl ?_
    exact x_drop (drp_k (drp_u (drp_k drp_n))) k
  · replace k := k2 c2
    refine x_iconst (pc2 := 10) dX7_fewest_9 rfl ?_
    exact x_ireturn dX7_fewest_10 ⟨.int, rfl, rfl⟩ k
set_option maxRecDepth 4000 in
theorem g_X7_fewest_23 {sc : List Int} {d : Nat} {m : Mem} {Q : Option AV → Mem → Prop} {l2 : Int} (k : ((-2147483648 ≤ l2 ∧ l2 < 2147483648)) ∧ ((l2 ≠ (-1)) → (0 ≤ l2)) ∧ ((l2 ≠ (-1)) → (l2 < 10)) ∧ Q (some (aI (if l2 ≠ (-1) then (m 45 l2) else (m 44 1) : Int))) m) : S_X7_fewest sc d 23 [aR 0, aU, aI l2] [] m Q := by
  refine x_iload_n (pc2 := 24) dX7_fewest_23 rfl rfl ?_
  refine x_iconst (pc2 := 25) dX7_fewest_24 rfl ?_
  obtain ⟨g2, k⟩ := k
  obtain ⟨g5, k⟩ := k
  obtain ⟨g6, k⟩ := k
  have kj : S_X7_fewest sc d 47 [aR 0, aU, aI l2] [aI (if l2 ≠ (-1) then (m 45 l2) else (m 44 1) : Int)] m Q := by
    exact x_ireturn dX7_fewest_47 ⟨.int, rfl, rfl⟩ k
  have h7 := g2 
  refine x_icmp_ne (tgt := 38) (pc2 := 28) dX7_fewest_25 (by decide) rfl h7 (by decide) (fun c8 => ?_) (fun c8 => ?_)
  · skip
    refine x_aload_n (pc2 := 39) dX7_fewest_38 rfl rfl ?_
    refine x_getf (pc2 := 42) (v := aR 44) fl_X7_47 ic_0 (vr_0_7 _) dX7_fewest_39 rfl ?_
    refine x_getf (pc2 := 45) (v := aR 45) fl_X7_210 ic_44 (vr_44_0 _) dX7_fewest_42 rfl ?_
    refine x_iload_n (pc2 := 46) dX7_fewest_45 rfl rfl ?_
    have h9 := g5 c8
    have h10 := g6 c8
    refine x_iald (pc2 := 47) ic_45 h9 (by rw [al_45]; exact h10) dX7_fewest_46 rfl ?_
    exact x_topI (v := (if l2 ≠ (-1) then (m 45 l2) else (m 44 1) : Int)) (if_pos c8) kj
  · skip
    refine x_aload_n (pc2 := 29) dX7_fewest_28 rfl rfl ?_
    refine x_getf (pc2 := 32) (v := aR 44) fl_X7_47 ic_0 (vr_0_7 _) dX7_fewest_29 rfl ?_
    refine x_getf (pc2 := 35) (v := aI (m 44 1)) fl_X7_207 ic_44 (fv_i _ ic_44 rfl) dX7_fewest_32 rfl ?_
    refine x_goto (tgt := 47) dX7_fewest_35 (by decide) ?_
    exact x_topI (v := (if l2 ≠ (-1) then (m 45 l2) else (m 44 1) : Int)) (if_neg c8) kj
theorem c_X7_fewest_3 {sc : List Int} {d d2 : Nat} {m m2 : Mem} {Q : Option AV → Mem → Prop} {l1 l2 s1 s2 : Int} {v : Int} (hM : C_X7_canPlan sc d2 [aR 0, aI s1, aI s2] m (some (aI v)) m2) (hd : d2 + 1 ≤ d) (k : S_X7_fewest sc d 6 [aR 0, aI l1, aI l2] [aI v] m2 Q) : S_X7_fewest sc d 3 [aR 0, aI l1, aI l2] [aI s2, aI s1, aR 0] m Q := x_callV (as := [aI s1, aI s2]) (rest := []) hM mk_X7_canPlan mv_X7_canPlan lk_X7_201 (Or.inl ⟨7, (RX7, TX7, 14), ic_0, Nat.le_of_ble_eq_true rfl, rfl, rfl⟩) hd rfl rfl (Nat.le_of_ble_eq_true rfl) dX7_fewest_3 rfl k
theorem c_X7_fewest_20 {sc : List Int} {d d2 : Nat} {m m2 : Mem} {Q : Option AV → Mem → Prop} {l2 s1 s2 : Int} (Hs1 : RoomAt s1) (hM : C_X4_inOrder sc d2 [aR 44, aR s1, aI s2] m none m2) (hd : d2 + 1 ≤ d) (k : S_X7_fewest sc d 23 [aR 0, aU, aI l2] [] m2 Q) : S_X7_fewest sc d 20 [aR 0, aU, aI l2] [aI s2, aR s1, aR 44] m Q := x_callV (as := [aR s1, aI s2]) (rest := []) hM mk_X4_inOrder mv_X4_inOrder lk_X7_204 (Or.inl ⟨4, (RX4, TX4, 19), ic_44, Nat.le_of_ble_eq_true rfl, rfl, rfl⟩) hd rfl rfl (Nat.le_of_ble_eq_true rfl) dX7_fewest_20 rfl k
set_option maxRecDepth 4000 in
theorem g_X7_free_0 {sc : List Int} {d : Nat} {m : Mem} {Q : Option AV → Mem → Prop} {l1 l2 : Int} (k : S_X7_free sc d 3 [aR 0, aI l1, aI l2] [aI l2, aI l1, aR 0] m Q) : S_X7_free sc d 0 [aR 0, aI l1, aI l2] [] m Q := by
  refine x_aload_n (pc2 := 1) dX7_free_0 rfl rfl ?_
  refine x_iload_n (pc2 := 2) dX7_free_1 rfl rfl ?_
  refine x_iload_n (pc2 := 3) dX7_free_2 rfl rfl ?_
  exact k
set_option maxRecDepth 4000 in
theorem g_X7_free_6 {sc : List Int} {d : Nat} {m : Mem} {Q : Option AV → Mem → Prop} {l1 l2 s0 : Int} (k : (-2147483648 ≤ s0 ∧ s0 < 2147483648) ∧ ((s0 ≠ 0) → (S_X7_free sc d 20 [aR 0, aU, aI l2] [aI l1, aR (m 0 2), aR 44] m Q)) ∧ (¬ (s0 ≠ 0) → (Q (some (aI (-1))) m))) : S_X7_free sc d 6 [aR 0, aI l1, aI l2] [aI s0] m Q := by
  obtain ⟨h1, k⟩ := k
  obtain ⟨k1, k2⟩ := k
  refine x_if_ne (tgt := 11) (pc2 := 9) dX7_free_6 (by decide) rfl h1 (fun c2 => ?_) (fun c2 => ?_)
  · replace k := k1 c2
    refine x_aload_n (pc2 := 12) dX7_free_11 rfl rfl ?_
    refine x_getf (pc2 := 15) (v := aR 44) fl_X7_47 ic_0 (vr_0_7 _) dX7_free_12 rfl ?_
    refine x_aload_n (pc2 := 16) dX7_free_15 rfl rfl ?_
    refine x_getf (pc2 := 19) (v := aR (m 0 2)) fl_X7_16 ic_0 (fv_m _ ic_0 rfl) dX7_free_16 rfl ?_
    refine x_iload_n (pc2 := 20) dX7_free_19 rfl rfl ?_
    exact x_drop (drp_k (drp_u (drp_k drp_n))) k
  · replace k := k2 c2
    refine x_iconst (pc2 := 10) dX7_free_9 rfl ?_
    exact x_ireturn dX7_free_10 ⟨.int, rfl, rfl⟩ k
set_option maxRecDepth 4000 in
theorem g_X7_free_23 {sc : List Int} {d : Nat} {m : Mem} {Q : Option AV → Mem → Prop} {l2 : Int} (k : ((-2147483648 ≤ l2 ∧ l2 < 2147483648)) ∧ ((l2 ≠ (-1)) → (0 ≤ l2)) ∧ ((l2 ≠ (-1)) → (l2 < 10)) ∧ Q (some (aI (if l2 ≠ (-1) then (m 46 l2) else (m 44 4) : Int))) m) : S_X7_free sc d 23 [aR 0, aU, aI l2] [] m Q := by
  refine x_iload_n (pc2 := 24) dX7_free_23 rfl rfl ?_
  refine x_iconst (pc2 := 25) dX7_free_24 rfl ?_
  obtain ⟨g2, k⟩ := k
  obtain ⟨g5, k⟩ := k
  obtain ⟨g6, k⟩ := k
  have kj : S_X7_free sc d 47 [aR 0, aU, aI l2] [aI (if l2 ≠ (-1) then (m 46 l2) else (m 44 4) : Int)] m Q := by
    exact x_ireturn dX7_free_47 ⟨.int, rfl, rfl⟩ k
  have h7 := g2 
  refine x_icmp_ne (tgt := 38) (pc2 := 28) dX7_free_25 (by decide) rfl h7 (by decide) (fun c8 => ?_) (fun c8 => ?_)
  · skip
    refine x_aload_n (pc2 := 39) dX7_free_38 rfl rfl ?_
    refine x_getf (pc2 := 42) (v := aR 44) fl_X7_47 ic_0 (vr_0_7 _) dX7_free_39 rfl ?_
    refine x_getf (pc2 := 45) (v := aR 46) fl_X7_219 ic_44 (vr_44_2 _) dX7_free_42 rfl ?_
    refine x_iload_n (pc2 := 46) dX7_free_45 rfl rfl ?_
    have h9 := g5 c8
    have h10 := g6 c8
    refine x_iald (pc2 := 47) ic_46 h9 (by rw [al_46]; exact h10) dX7_free_46 rfl ?_
    exact x_topI (v := (if l2 ≠ (-1) then (m 46 l2) else (m 44 4) : Int)) (if_pos c8) kj
  · skip
    refine x_aload_n (pc2 := 29) dX7_free_28 rfl rfl ?_
    refine x_getf (pc2 := 32) (v := aR 44) fl_X7_47 ic_0 (vr_0_7 _) dX7_free_29 rfl ?_
    refine x_getf (pc2 := 35) (v := aI (m 44 4)) fl_X7_216 ic_44 (fv_i _ ic_44 rfl) dX7_free_32 rfl ?_
    refine x_goto (tgt := 47) dX7_free_35 (by decide) ?_
    exact x_topI (v := (if l2 ≠ (-1) then (m 46 l2) else (m 44 4) : Int)) (if_neg c8) kj
theorem c_X7_free_3 {sc : List Int} {d d2 : Nat} {m m2 : Mem} {Q : Option AV → Mem → Prop} {l1 l2 s1 s2 : Int} {v : Int} (hM : C_X7_canPlan sc d2 [aR 0, aI s1, aI s2] m (some (aI v)) m2) (hd : d2 + 1 ≤ d) (k : S_X7_free sc d 6 [aR 0, aI l1, aI l2] [aI v] m2 Q) : S_X7_free sc d 3 [aR 0, aI l1, aI l2] [aI s2, aI s1, aR 0] m Q := x_callV (as := [aI s1, aI s2]) (rest := []) hM mk_X7_canPlan mv_X7_canPlan lk_X7_201 (Or.inl ⟨7, (RX7, TX7, 14), ic_0, Nat.le_of_ble_eq_true rfl, rfl, rfl⟩) hd rfl rfl (Nat.le_of_ble_eq_true rfl) dX7_free_3 rfl k
theorem c_X7_free_20 {sc : List Int} {d d2 : Nat} {m m2 : Mem} {Q : Option AV → Mem → Prop} {l2 s1 s2 : Int} (Hs1 : RoomAt s1) (hM : C_X4_anyOrder sc d2 [aR 44, aR s1, aI s2] m none m2) (hd : d2 + 1 ≤ d) (k : S_X7_free sc d 23 [aR 0, aU, aI l2] [] m2 Q) : S_X7_free sc d 20 [aR 0, aU, aI l2] [aI s2, aR s1, aR 44] m Q := x_callV (as := [aR s1, aI s2]) (rest := []) hM mk_X4_anyOrder mv_X4_anyOrder lk_X7_213 (Or.inl ⟨4, (RX4, TX4, 19), ic_44, Nat.le_of_ble_eq_true rfl, rfl, rfl⟩) hd rfl rfl (Nat.le_of_ble_eq_true rfl) dX7_free_20 rfl k
set_option maxRecDepth 4000 in
theorem g_X7_hidden_0 {sc : List Int} {d : Nat} {m : Mem} {Q : Option AV → Mem → Prop} {l1 l2 : Int} (k : (RoomAt (m 0 2)) ∧ (-2147483648 ≤ (m (m 0 2) 15) ∧ (m (m 0 2) 15) < 2147483648) ∧ (((m (m 0 2) 15) = 0) → (Q (some (aI (-1))) m)) ∧ (¬ ((m (m 0 2) 15) = 0) → (S_X7_hidden sc d 11 [aR 0, aI l1, aI l2] [aI l1] m Q))) : S_X7_hidden sc d 0 [aR 0, aI l1, aI l2] [] m Q := by
  refine x_aload_n (pc2 := 1) dX7_hidden_0 rfl rfl ?_
  refine x_getf (pc2 := 4) (v := aR (m 0 2)) fl_X7_16 ic_0 (fv_m _ ic_0 rfl) dX7_hidden_1 rfl ?_
  obtain ⟨h1, k⟩ := k
  refine x_getf (pc2 := 7) (v := aI (m (m 0 2) 15)) fl_X7_100 (icr_0 h1) (fv_i _ (icr_0 h1) rfl) dX7_hidden_4 rfl ?_
  obtain ⟨h2, k⟩ := k
  obtain ⟨k1, k2⟩ := k
  refine x_if_eq (tgt := 17) (pc2 := 10) dX7_hidden_7 (by decide) rfl h2 (fun c3 => ?_) (fun c3 => ?_)
  · replace k := k1 c3
    refine x_iconst (pc2 := 18) dX7_hidden_17 rfl ?_
    exact x_ireturn dX7_hidden_18 ⟨.int, rfl, rfl⟩ k
  · replace k := k2 c3
    refine x_iload_n (pc2 := 11) dX7_hidden_10 rfl rfl ?_
    exact k
set_option maxRecDepth 4000 in
theorem g_X7_hidden_14 {sc : List Int} {d : Nat} {m : Mem} {Q : Option AV → Mem → Prop} {l1 l2 s0 : Int} (k : (-2147483648 ≤ s0 ∧ s0 < 2147483648) ∧ ((s0 ≠ 0) → (S_X7_hidden sc d 28 [aR 0, aU, aI l2] [aI l1, aR (m 0 2), aR 44] m Q)) ∧ (¬ (s0 ≠ 0) → (Q (some (aI (-1))) m))) : S_X7_hidden sc d 14 [aR 0, aI l1, aI l2] [aI s0] m Q := by
  obtain ⟨h1, k⟩ := k
  obtain ⟨k1, k2⟩ := k
  refine x_if_ne (tgt := 19) (pc2 := 17) dX7_hidden_14 (by decide) rfl h1 (fun c2 => ?_) (fun c2 => ?_)
  · replace k := k1 c2
    refine x_aload_n (pc2 := 20) dX7_hidden_19 rfl rfl ?_
    refine x_getf (pc2 := 23) (v := aR 44) fl_X7_47 ic_0 (vr_0_7 _) dX7_hidden_20 rfl ?_
    refine x_aload_n (pc2 := 24) dX7_hidden_23 rfl rfl ?_
    refine x_getf (pc2 := 27) (v := aR (m 0 2)) fl_X7_16 ic_0 (fv_m _ ic_0 rfl) dX7_hidden_24 rfl ?_
    refine x_iload_n (pc2 := 28) dX7_hidden_27 rfl rfl ?_
    exact x_drop (drp_k (drp_u (drp_k drp_n))) k
  · replace k := k2 c2
    refine x_iconst (pc2 := 18) dX7_hidden_17 rfl ?_
    exact x_ireturn dX7_hidden_18 ⟨.int, rfl, rfl⟩ k
set_option maxRecDepth 4000 in
theorem g_X7_hidden_31 {sc : List Int} {d : Nat} {m : Mem} {Q : Option AV → Mem → Prop} {l2 : Int} (k : (-2147483648 ≤ (m 44 17) ∧ (m 44 17) < 2147483648) ∧ ((0 ≤ (m 44 17)) → ((-2147483648 ≤ l2 ∧ l2 < 2147483648) ∧ ((l2 ≠ 0) → (((l2 ≠ 1) → (((¬ (l2 < 10)) → (-2147483648 ≤ (l2 - 10) ∧ (l2 - 10) < 2147483648)) ∧ ((¬ (l2 < 10)) → (¬ ((m 44 17) ≤ (l2 - 10))) → (0 ≤ (l2 - 10))) ∧ ((¬ (l2 < 10)) → (¬ ((m 44 17) ≤ (l2 - 10))) → ((l2 - 10) < 50)) ∧ Q (some (aI (if l2 < 10 then (-1) else (if (m 44 17) ≤ (l2 - 10) then (-1) else (m 56 (l2 - 10)) : Int) : Int))) m)) ∧ (¬ (l2 ≠ 1) → (Q (some (aI (m 44 18))) m)))) ∧ (¬ (l2 ≠ 0) → ((RoomAt (m 0 2)) ∧ ((-2147483648 ≤ (m (m 0 2) 8) ∧ (m (m 0 2) 8) < 2147483648)) ∧ Q (some (aI (if (m (m 0 2) 8) ≠ 0 then ((m 44 17) + 1) else 0 : Int))) m)))) ∧ (¬ (0 ≤ (m 44 17)) → (Q (some (aI (-1))) m))) : S_X7_hidden sc d 31 [aR 0, aU, aI l2] [] m Q := by
  refine x_aload_n (pc2 := 32) dX7_hidden_31 rfl rfl ?_
  refine x_getf (pc2 := 35) (v := aR 44) fl_X7_47 ic_0 (vr_0_7 _) dX7_hidden_32 rfl ?_
  refine x_getf (pc2 := 38) (v := aI (m 44 17)) fl_X7_225 ic_44 (fv_i _ ic_44 rfl) dX7_hidden_35 rfl ?_
  obtain ⟨h1, k⟩ := k
  obtain ⟨k1, k2⟩ := k
  refine x_if_ge (tgt := 43) (pc2 := 41) dX7_hidden_38 (by decide) rfl h1 (fun c2 => ?_) (fun c2 => ?_)
  · replace k := k1 c2
    refine x_iload_n (pc2 := 44) dX7_hidden_43 rfl rfl ?_
    obtain ⟨h3, k⟩ := k
    obtain ⟨k1, k2⟩ := k
    refine x_if_ne (tgt := 71) (pc2 := 47) dX7_hidden_44 (by decide) rfl h3 (fun c4 => ?_) (fun c4 => ?_)
    · replace k := k1 c4
      refine x_iload_n (pc2 := 72) dX7_hidden_71 rfl rfl ?_
      refine x_iconst (pc2 := 73) dX7_hidden_72 rfl ?_
      obtain ⟨k1, k2⟩ := k
      refine x_icmp_ne (tgt := 84) (pc2 := 76) dX7_hidden_73 (by decide) rfl h3 (by decide) (fun c5 => ?_) (fun c5 => ?_)
      · replace k := k1 c5
        refine x_iload_n (pc2 := 85) dX7_hidden_84 rfl rfl ?_
        refine x_bipush (pc2 := 87) dX7_hidden_85 rfl rfl ?_
        obtain ⟨g7, k⟩ := k
        obtain ⟨g10, k⟩ := k
        obtain ⟨g11, k⟩ := k
        have kj : S_X7_hidden sc d 120 [aR 0, aU, aI l2] [aI (if l2 < 10 then (-1) else (if (m 44 17) ≤ (l2 - 10) then (-1) else (m 56 (l2 - 10)) : Int) : Int)] m Q := by
          exact x_ireturn dX7_hidden_120 ⟨.int, rfl, rfl⟩ k
        refine x_icmp_lt (tgt := 119) (pc2 := 90) dX7_hidden_87 (by decide) rfl h3 (by decide) (fun c12 => ?_) (fun c12 => ?_)
        · skip
          refine x_iconst (pc2 := 120) dX7_hidden_119 rfl ?_
          exact x_topI (v := (if l2 < 10 then (-1) else (if (m 44 17) ≤ (l2 - 10) then (-1) else (m 56 (l2 - 10)) : Int) : Int)) (if_pos c12) kj
        · skip
          refine x_iload_n (pc2 := 91) dX7_hidden_90 rfl rfl ?_
          refine x_bipush (pc2 := 93) dX7_hidden_91 rfl rfl ?_
          refine x_isub (pc2 := 94) dX7_hidden_93 rfl ?_
          refine x_aload_n (pc2 := 95) dX7_hidden_94 rfl rfl ?_
          refine x_getf (pc2 := 98) (v := aR 44) fl_X7_47 ic_0 (vr_0_7 _) dX7_hidden_95 rfl ?_
          refine x_getf (pc2 := 101) (v := aI (m 44 17)) fl_X7_225 ic_44 (fv_i _ ic_44 rfl) dX7_hidden_98 rfl ?_
          have h13 := g7 c12
          refine x_icmp_ge (tgt := 119) (pc2 := 104) dX7_hidden_101 (by decide) rfl h13 h1 (fun c14 => ?_) (fun c14 => ?_)
          · skip
            refine x_iconst (pc2 := 120) dX7_hidden_119 rfl ?_
            exact x_topI (v := (if l2 < 10 then (-1) else (if (m 44 17) ≤ (l2 - 10) then (-1) else (m 56 (l2 - 10)) : Int) : Int)) ((if_neg c12).trans (if_pos c14)) kj
          · skip
            refine x_aload_n (pc2 := 105) dX7_hidden_104 rfl rfl ?_
            refine x_getf (pc2 := 108) (v := aR 44) fl_X7_47 ic_0 (vr_0_7 _) dX7_hidden_105 rfl ?_
            refine x_getf (pc2 := 111) (v := aR 56) fl_X7_231 ic_44 (vr_44_16 _) dX7_hidden_108 rfl ?_
            refine x_iload_n (pc2 := 112) dX7_hidden_111 rfl rfl ?_
            refine x_bipush (pc2 := 114) dX7_hidden_112 rfl rfl ?_
            refine x_isub (pc2 := 115) dX7_hidden_114 rfl ?_
            have h15 := g10 c12 c14
            have h16 := g11 c12 c14
            refine x_iald (pc2 := 116) ic_56 h15 (by rw [al_56]; exact h16) dX7_hidden_115 rfl ?_
            refine x_goto (tgt := 120) dX7_hidden_116 (by decide) ?_
            exact x_topI (v := (if l2 < 10 then (-1) else (if (m 44 17) ≤ (l2 - 10) then (-1) else (m 56 (l2 - 10)) : Int) : Int)) ((if_neg c12).trans (if_neg c14)) kj
      · replace k := k2 c5
        refine x_aload_n (pc2 := 77) dX7_hidden_76 rfl rfl ?_
        refine x_getf (pc2 := 80) (v := aR 44) fl_X7_47 ic_0 (vr_0_7 _) dX7_hidden_77 rfl ?_
        refine x_getf (pc2 := 83) (v := aI (m 44 18)) fl_X7_228 ic_44 (fv_i _ ic_44 rfl) dX7_hidden_80 rfl ?_
        exact x_ireturn dX7_hidden_83 ⟨.int, rfl, rfl⟩ k
    · replace k := k2 c4
      refine x_aload_n (pc2 := 48) dX7_hidden_47 rfl rfl ?_
      refine x_getf (pc2 := 51) (v := aR (m 0 2)) fl_X7_16 ic_0 (fv_m _ ic_0 rfl) dX7_hidden_48 rfl ?_
      obtain ⟨h17, k⟩ := k
      refine x_getf (pc2 := 54) (v := aI (m (m 0 2) 8)) fl_X7_112 (icr_0 h17) (fv_i _ (icr_0 h17) rfl) dX7_hidden_51 rfl ?_
      obtain ⟨g19, k⟩ := k
      have kj : S_X7_hidden sc d 70 [aR 0, aU, aI l2] [aI (if (m (m 0 2) 8) ≠ 0 then ((m 44 17) + 1) else 0 : Int)] m Q := by
        exact x_ireturn dX7_hidden_70 ⟨.int, rfl, rfl⟩ k
      have h20 := g19 
      refine x_if_ne (tgt := 61) (pc2 := 57) dX7_hidden_54 (by decide) rfl h20 (fun c21 => ?_) (fun c21 => ?_)
      · skip
        refine x_aload_n (pc2 := 62) dX7_hidden_61 rfl rfl ?_
        refine x_getf (pc2 := 65) (v := aR 44) fl_X7_47 ic_0 (vr_0_7 _) dX7_hidden_62 rfl ?_
        refine x_getf (pc2 := 68) (v := aI (m 44 17)) fl_X7_225 ic_44 (fv_i _ ic_44 rfl) dX7_hidden_65 rfl ?_
        refine x_iconst (pc2 := 69) dX7_hidden_68 rfl ?_
        refine x_iadd (pc2 := 70) dX7_hidden_69 rfl ?_
        exact x_topI (v := (if (m (m 0 2) 8) ≠ 0 then ((m 44 17) + 1) else 0 : Int)) (if_pos c21) kj
      · skip
        refine x_iconst (pc2 := 58) dX7_hidden_57 rfl ?_
        refine x_goto (tgt := 70) dX7_hidden_58 (by decide) ?_
        exact x_topI (v := (if (m (m 0 2) 8) ≠ 0 then ((m 44 17) + 1) else 0 : Int)) (if_neg c21) kj
  · replace k := k2 c2
    refine x_iconst (pc2 := 42) dX7_hidden_41 rfl ?_
    exact x_ireturn dX7_hidden_42 ⟨.int, rfl, rfl⟩ k
theorem c_X7_hidden_11 {sc : List Int} {d d2 : Nat} {m m2 : Mem} {Q : Option AV → Mem → Prop} {l1 l2 s0 : Int} {v : Int} (hM : C_X7_isLength sc d2 [aI s0] m (some (aI v)) m2) (hd : d2 + 1 ≤ d) (k : S_X7_hidden sc d 14 [aR 0, aI l1, aI l2] [aI v] m2 Q) : S_X7_hidden sc d 11 [aR 0, aI l1, aI l2] [aI s0] m Q := x_callS (as := [aI s0]) (rest := []) hM mk_X7_isLength ms_X7_isLength lk_X7_174 hd rfl rfl (Nat.le_of_ble_eq_true rfl) dX7_hidden_11 rfl k
theorem c_X7_hidden_28 {sc : List Int} {d d2 : Nat} {m m2 : Mem} {Q : Option AV → Mem → Prop} {l2 s1 s2 : Int} (Hs1 : RoomAt s1) (hM : C_X4_hide sc d2 [aR 44, aR s1, aI s2] m none m2) (hd : d2 + 1 ≤ d) (k : S_X7_hidden sc d 31 [aR 0, aU, aI l2] [] m2 Q) : S_X7_hidden sc d 28 [aR 0, aU, aI l2] [aI s2, aR s1, aR 44] m Q := x_callV (as := [aR s1, aI s2]) (rest := []) hM mk_X4_hide mv_X4_hide lk_X7_222 (Or.inl ⟨4, (RX4, TX4, 19), ic_44, Nat.le_of_ble_eq_true rfl, rfl, rfl⟩) hd rfl rfl (Nat.le_of_ble_eq_true rfl) dX7_hidden_28 rfl k
set_option maxRecDepth 4000 in
theorem g_X7_several_0 {sc : List Int} {d : Nat} {m : Mem} {Q : Option AV → Mem → Prop} {l1 l2 : Int} (k : S_X7_several sc d 3 [aR 0, aI l1, aI l2] [aI l2, aI l1, aR 0] m Q) : S_X7_several sc d 0 [aR 0, aI l1, aI l2] [] m Q := by
  refine x_aload_n (pc2 := 1) dX7_several_0 rfl rfl ?_
  refine x_iload_n (pc2 := 2) dX7_several_1 rfl rfl ?_
  refine x_iload_n (pc2 := 3) dX7_several_2 rfl rfl ?_
  exact k
set_option maxRecDepth 4000 in
theorem g_X7_several_6 {sc : List Int} {d : Nat} {m : Mem} {Q : Option AV → Mem → Prop} {l1 l2 s0 : Int} (k : (-2147483648 ≤ s0 ∧ s0 < 2147483648) ∧ ((s0 ≠ 0) → (S_X7_several sc d 20 [aR 0, aU, aI l2] [aI l1, aR (m 0 2), aR 44] m Q)) ∧ (¬ (s0 ≠ 0) → (Q (some (aI (-1))) m))) : S_X7_several sc d 6 [aR 0, aI l1, aI l2] [aI s0] m Q := by
  obtain ⟨h1, k⟩ := k
  obtain ⟨k1, k2⟩ := k
  refine x_if_ne (tgt := 11) (pc2 := 9) dX7_several_6 (by decide) rfl h1 (fun c2 => ?_) (fun c2 => ?_)
  · replace k := k1 c2
    refine x_aload_n (pc2 := 12) dX7_several_11 rfl rfl ?_
    refine x_getf (pc2 := 15) (v := aR 44) fl_X7_47 ic_0 (vr_0_7 _) dX7_several_12 rfl ?_
    refine x_aload_n (pc2 := 16) dX7_several_15 rfl rfl ?_
    refine x_getf (pc2 := 19) (v := aR (m 0 2)) fl_X7_16 ic_0 (fv_m _ ic_0 rfl) dX7_several_16 rfl ?_
    refine x_iload_n (pc2 := 20) dX7_several_19 rfl rfl ?_
    exact x_drop (drp_k (drp_u (drp_k drp_n))) k
  · replace k := k2 c2
    refine x_iconst (pc2 := 10) dX7_several_9 rfl ?_
    exact x_ireturn dX7_several_10 ⟨.int, rfl, rfl⟩ k
set_option maxRecDepth 4000 in
theorem g_X7_several_23 {sc : List Int} {d : Nat} {m : Mem} {Q : Option AV → Mem → Prop} {l2 : Int} (k : ((-2147483648 ≤ l2 ∧ l2 < 2147483648)) ∧ ((l2 ≠ (-1)) → (0 ≤ l2)) ∧ ((l2 ≠ (-1)) → (l2 < 10)) ∧ Q (some (aI (if l2 ≠ (-1) then (m 48 l2) else (m 44 10) : Int))) m) : S_X7_several sc d 23 [aR 0, aU, aI l2] [] m Q := by
  refine x_iload_n (pc2 := 24) dX7_several_23 rfl rfl ?_
  refine x_iconst (pc2 := 25) dX7_several_24 rfl ?_
  obtain ⟨g2, k⟩ := k
  obtain ⟨g5, k⟩ := k
  obtain ⟨g6, k⟩ := k
  have kj : S_X7_several sc d 47 [aR 0, aU, aI l2] [aI (if l2 ≠ (-1) then (m 48 l2) else (m 44 10) : Int)] m Q := by
    exact x_ireturn dX7_several_47 ⟨.int, rfl, rfl⟩ k
  have h7 := g2 
  refine x_icmp_ne (tgt := 38) (pc2 := 28) dX7_several_25 (by decide) rfl h7 (by decide) (fun c8 => ?_) (fun c8 => ?_)
  · skip
    refine x_aload_n (pc2 := 39) dX7_several_38 rfl rfl ?_
    refine x_getf (pc2 := 42) (v := aR 44) fl_X7_47 ic_0 (vr_0_7 _) dX7_several_39 rfl ?_
    refine x_getf (pc2 := 45) (v := aR 48) fl_X7_240 ic_44 (vr_44_6 _) dX7_several_42 rfl ?_
    refine x_iload_n (pc2 := 46) dX7_several_45 rfl rfl ?_
    have h9 := g5 c8
    have h10 := g6 c8
    refine x_iald (pc2 := 47) ic_48 h9 (by rw [al_48]; exact h10) dX7_several_46 rfl ?_
    exact x_topI (v := (if l2 ≠ (-1) then (m 48 l2) else (m 44 10) : Int)) (if_pos c8) kj
  · skip
    refine x_aload_n (pc2 := 29) dX7_several_28 rfl rfl ?_
    refine x_getf (pc2 := 32) (v := aR 44) fl_X7_47 ic_0 (vr_0_7 _) dX7_several_29 rfl ?_
    refine x_getf (pc2 := 35) (v := aI (m 44 10)) fl_X7_237 ic_44 (fv_i _ ic_44 rfl) dX7_several_32 rfl ?_
    refine x_goto (tgt := 47) dX7_several_35 (by decide) ?_
    exact x_topI (v := (if l2 ≠ (-1) then (m 48 l2) else (m 44 10) : Int)) (if_neg c8) kj
theorem c_X7_several_3 {sc : List Int} {d d2 : Nat} {m m2 : Mem} {Q : Option AV → Mem → Prop} {l1 l2 s1 s2 : Int} {v : Int} (hM : C_X7_canPlan sc d2 [aR 0, aI s1, aI s2] m (some (aI v)) m2) (hd : d2 + 1 ≤ d) (k : S_X7_several sc d 6 [aR 0, aI l1, aI l2] [aI v] m2 Q) : S_X7_several sc d 3 [aR 0, aI l1, aI l2] [aI s2, aI s1, aR 0] m Q := x_callV (as := [aI s1, aI s2]) (rest := []) hM mk_X7_canPlan mv_X7_canPlan lk_X7_201 (Or.inl ⟨7, (RX7, TX7, 14), ic_0, Nat.le_of_ble_eq_true rfl, rfl, rfl⟩) hd rfl rfl (Nat.le_of_ble_eq_true rfl) dX7_several_3 rfl k
theorem c_X7_several_20 {sc : List Int} {d d2 : Nat} {m m2 : Mem} {Q : Option AV → Mem → Prop} {l2 s1 s2 : Int} (Hs1 : RoomAt s1) (hM : C_X4_share sc d2 [aR 44, aR s1, aI s2] m none m2) (hd : d2 + 1 ≤ d) (k : S_X7_several sc d 23 [aR 0, aU, aI l2] [] m2 Q) : S_X7_several sc d 20 [aR 0, aU, aI l2] [aI s2, aR s1, aR 44] m Q := x_callV (as := [aR s1, aI s2]) (rest := []) hM mk_X4_share mv_X4_share lk_X7_234 (Or.inl ⟨4, (RX4, TX4, 19), ic_44, Nat.le_of_ble_eq_true rfl, rfl, rfl⟩) hd rfl rfl (Nat.le_of_ble_eq_true rfl) dX7_several_20 rfl k
set_option maxRecDepth 4000 in
theorem g_X7_canPlan_0 {sc : List Int} {d : Nat} {m : Mem} {Q : Option AV → Mem → Prop} {l1 l2 : Int} (k : (RoomAt (m 0 2)) ∧ (-2147483648 ≤ (m (m 0 2) 15) ∧ (m (m 0 2) 15) < 2147483648) ∧ (((m (m 0 2) 15) ≤ 0) → (Q (some (aI 0)) m)) ∧ (¬ ((m (m 0 2) 15) ≤ 0) → (S_X7_canPlan sc d 11 [aR 0, aI l1, aI l2] [aI l1] m Q))) : S_X7_canPlan sc d 0 [aR 0, aI l1, aI l2] [] m Q := by
  refine x_aload_n (pc2 := 1) dX7_canPlan_0 rfl rfl ?_
  refine x_getf (pc2 := 4) (v := aR (m 0 2)) fl_X7_16 ic_0 (fv_m _ ic_0 rfl) dX7_canPlan_1 rfl ?_
  obtain ⟨h1, k⟩ := k
  refine x_getf (pc2 := 7) (v := aI (m (m 0 2) 15)) fl_X7_100 (icr_0 h1) (fv_i _ (icr_0 h1) rfl) dX7_canPlan_4 rfl ?_
  obtain ⟨h2, k⟩ := k
  obtain ⟨k1, k2⟩ := k
  refine x_if_le (tgt := 48) (pc2 := 10) dX7_canPlan_7 (by decide) rfl h2 (fun c3 => ?_) (fun c3 => ?_)
  · replace k := k1 c3
    refine x_iconst (pc2 := 49) dX7_canPlan_48 rfl ?_
    exact x_ireturn dX7_canPlan_49 ⟨.boolean, rfl, rfl⟩ k
  · replace k := k2 c3
    refine x_iload_n (pc2 := 11) dX7_canPlan_10 rfl rfl ?_
    exact k
set_option maxRecDepth 4000 in
theorem g_X7_canPlan_14 {sc : List Int} {d : Nat} {m : Mem} {Q : Option AV → Mem → Prop} {l1 l2 s0 : Int} (k : (-2147483648 ≤ s0 ∧ s0 < 2147483648) ∧ ((s0 = 0) → (Q (some (aI 0)) m)) ∧ (¬ (s0 = 0) → (S_X7_canPlan sc d 21 [aR 0, aI l1, aI l2] [aR (m 0 2)] m Q))) : S_X7_canPlan sc d 14 [aR 0, aI l1, aI l2] [aI s0] m Q := by
  obtain ⟨h1, k⟩ := k
  obtain ⟨k1, k2⟩ := k
  refine x_if_eq (tgt := 48) (pc2 := 17) dX7_canPlan_14 (by decide) rfl h1 (fun c2 => ?_) (fun c2 => ?_)
  · replace k := k1 c2
    refine x_iconst (pc2 := 49) dX7_canPlan_48 rfl ?_
    exact x_ireturn dX7_canPlan_49 ⟨.boolean, rfl, rfl⟩ k
  · replace k := k2 c2
    refine x_aload_n (pc2 := 18) dX7_canPlan_17 rfl rfl ?_
    refine x_getf (pc2 := 21) (v := aR (m 0 2)) fl_X7_16 ic_0 (fv_m _ ic_0 rfl) dX7_canPlan_18 rfl ?_
    exact k
set_option maxRecDepth 4000 in
theorem g_X7_canPlan_24 {sc : List Int} {d : Nat} {m : Mem} {Q : Option AV → Mem → Prop} {l1 l2 s0 : Int} (k : ((-2147483648 ≤ s0 ∧ s0 < 2147483648)) ∧ ((-2147483648 ≤ l1 ∧ l1 < 2147483648)) ∧ ((¬ (l1 < s0)) → (-2147483648 ≤ l2 ∧ l2 < 2147483648)) ∧ ((¬ (l1 < s0)) → (¬ (l2 < (-1))) → (RoomAt (m 0 2))) ∧ ((¬ (l1 < s0)) → (¬ (l2 < (-1))) → (-2147483648 ≤ (m (m 0 2) 8) ∧ (m (m 0 2) 8) < 2147483648)) ∧ Q (some (aI (if l1 < s0 then 0 else (if l2 < (-1) then 0 else (if (m (m 0 2) 8) ≤ l2 then 0 else 1 : Int) : Int) : Int))) m) : S_X7_canPlan sc d 24 [aR 0, aI l1, aI l2] [aI s0] m Q := by
  refine x_iload_n (pc2 := 25) dX7_canPlan_24 rfl rfl ?_
  obtain ⟨g3, k⟩ := k
  obtain ⟨g4, k⟩ := k
  obtain ⟨g6, k⟩ := k
  obtain ⟨g8, k⟩ := k
  obtain ⟨g10, k⟩ := k
  have kj : S_X7_canPlan sc d 49 [aR 0, aI l1, aI l2] [aI (if l1 < s0 then 0 else (if l2 < (-1) then 0 else (if (m (m 0 2) 8) ≤ l2 then 0 else 1 : Int) : Int) : Int)] m Q := by
    exact x_ireturn dX7_canPlan_49 (ret_z (by repeat (first | exact Or.inl rfl | exact Or.inr rfl | split))) k
  have h11 := g3 
  have h12 := g4 
  refine x_icmp_gt (tgt := 48) (pc2 := 28) dX7_canPlan_25 (by decide) rfl h11 h12 (fun c13 => ?_) (fun c13 => ?_)
  · skip
    refine x_iconst (pc2 := 49) dX7_canPlan_48 rfl ?_
    exact x_topI (v := (if l1 < s0 then 0 else (if l2 < (-1) then 0 else (if (m (m 0 2) 8) ≤ l2 then 0 else 1 : Int) : Int) : Int)) (if_pos c13) kj
  · skip
    refine x_iload_n (pc2 := 29) dX7_canPlan_28 rfl rfl ?_
    refine x_iconst (pc2 := 30) dX7_canPlan_29 rfl ?_
    have h14 := g6 c13
    refine x_icmp_lt (tgt := 48) (pc2 := 33) dX7_canPlan_30 (by decide) rfl h14 (by decide) (fun c15 => ?_) (fun c15 => ?_)
    · skip
      refine x_iconst (pc2 := 49) dX7_canPlan_48 rfl ?_
      exact x_topI (v := (if l1 < s0 then 0 else (if l2 < (-1) then 0 else (if (m (m 0 2) 8) ≤ l2 then 0 else 1 : Int) : Int) : Int)) ((if_neg c13).trans (if_pos c15)) kj
    · skip
      refine x_iload_n (pc2 := 34) dX7_canPlan_33 rfl rfl ?_
      refine x_aload_n (pc2 := 35) dX7_canPlan_34 rfl rfl ?_
      refine x_getf (pc2 := 38) (v := aR (m 0 2)) fl_X7_16 ic_0 (fv_m _ ic_0 rfl) dX7_canPlan_35 rfl ?_
      have h16 := g8 c13 c15
      refine x_getf (pc2 := 41) (v := aI (m (m 0 2) 8)) fl_X7_112 (icr_0 h16) (fv_i _ (icr_0 h16) rfl) dX7_canPlan_38 rfl ?_
      have h17 := g10 c13 c15
      refine x_icmp_ge (tgt := 48) (pc2 := 44) dX7_canPlan_41 (by decide) rfl h14 h17 (fun c18 => ?_) (fun c18 => ?_)
      · skip
        refine x_iconst (pc2 := 49) dX7_canPlan_48 rfl ?_
        exact x_topI (v := (if l1 < s0 then 0 else (if l2 < (-1) then 0 else (if (m (m 0 2) 8) ≤ l2 then 0 else 1 : Int) : Int) : Int)) ((if_neg c13).trans ((if_neg c15).trans (if_pos c18))) kj
      · skip
        refine x_iconst (pc2 := 45) dX7_canPlan_44 rfl ?_
        refine x_goto (tgt := 49) dX7_canPlan_45 (by decide) ?_
        exact x_topI (v := (if l1 < s0 then 0 else (if l2 < (-1) then 0 else (if (m (m 0 2) 8) ≤ l2 then 0 else 1 : Int) : Int) : Int)) ((if_neg c13).trans ((if_neg c15).trans (if_neg c18))) kj
theorem c_X7_canPlan_11 {sc : List Int} {d d2 : Nat} {m m2 : Mem} {Q : Option AV → Mem → Prop} {l1 l2 s0 : Int} {v : Int} (hM : C_X7_isLength sc d2 [aI s0] m (some (aI v)) m2) (hd : d2 + 1 ≤ d) (k : S_X7_canPlan sc d 14 [aR 0, aI l1, aI l2] [aI v] m2 Q) : S_X7_canPlan sc d 11 [aR 0, aI l1, aI l2] [aI s0] m Q := x_callS (as := [aI s0]) (rest := []) hM mk_X7_isLength ms_X7_isLength lk_X7_174 hd rfl rfl (Nat.le_of_ble_eq_true rfl) dX7_canPlan_11 rfl k
theorem c_X7_canPlan_21 {sc : List Int} {d d2 : Nat} {m m2 : Mem} {Q : Option AV → Mem → Prop} {l1 l2 s0 : Int} {v : Int} (Hs0 : RoomAt s0) (hM : C_X6_longest sc d2 [aR s0] m (some (aI v)) m2) (hd : d2 + 1 ≤ d) (k : S_X7_canPlan sc d 24 [aR 0, aI l1, aI l2] [aI v] m2 Q) : S_X7_canPlan sc d 21 [aR 0, aI l1, aI l2] [aR s0] m Q := x_callV (as := []) (rest := []) hM mk_X6_longest mv_X6_longest lk_X7_243 (Or.inl ⟨6, (RX6, TX6, 16), icr_0 Hs0, Nat.le_of_ble_eq_true rfl, rfl, rfl⟩) hd rfl rfl (Nat.le_of_ble_eq_true rfl) dX7_canPlan_21 rfl k
set_option maxRecDepth 4000 in
theorem g_X7_wound_0 {sc : List Int} {d : Nat} {m : Mem} {Q : Option AV → Mem → Prop} {l1 : Int} (k : (-2147483648 ≤ l1 ∧ l1 < 2147483648) ∧ ((l1 < 0) → (Q (some (aI (-1))) m)) ∧ (¬ (l1 < 0) → (((l1 ≤ 99) → ((RoomAt (m 0 2)) ∧ S_X7_wound sc d 22 [aR 0, aI l1, aU, aU, aU, aU, aU] [aI (m ((m 0 2) + 13) 4), aI 1] m Q)) ∧ (¬ (l1 ≤ 99) → (Q (some (aI (-1))) m))))) : S_X7_wound sc d 0 [aR 0, aI l1, aU, aU, aU, aU, aU] [] m Q := by
  refine x_iload_n (pc2 := 1) dX7_wound_0 rfl rfl ?_
  obtain ⟨h1, k⟩ := k
  obtain ⟨k1, k2⟩ := k
  refine x_if_lt (tgt := 10) (pc2 := 4) dX7_wound_1 (by decide) rfl h1 (fun c2 => ?_) (fun c2 => ?_)
  · replace k := k1 c2
    refine x_iconst (pc2 := 11) dX7_wound_10 rfl ?_
    exact x_ireturn dX7_wound_11 ⟨.int, rfl, rfl⟩ k
  · replace k := k2 c2
    refine x_iload_n (pc2 := 5) dX7_wound_4 rfl rfl ?_
    refine x_bipush (pc2 := 7) dX7_wound_5 rfl rfl ?_
    obtain ⟨k1, k2⟩ := k
    refine x_icmp_le (tgt := 12) (pc2 := 10) dX7_wound_7 (by decide) rfl h1 (by decide) (fun c3 => ?_) (fun c3 => ?_)
    · replace k := k1 c3
      refine x_iconst (pc2 := 13) dX7_wound_12 rfl ?_
      refine x_aload_n (pc2 := 14) dX7_wound_13 rfl rfl ?_
      refine x_getf (pc2 := 17) (v := aR (m 0 2)) fl_X7_16 ic_0 (fv_m _ ic_0 rfl) dX7_wound_14 rfl ?_
      obtain ⟨h4, k⟩ := k
      refine x_getf (pc2 := 20) (v := aR ((m 0 2) + 13)) fl_X7_106 (icr_0 h4) (vrr_13 _ h4) dX7_wound_17 rfl ?_
      refine x_iconst (pc2 := 21) dX7_wound_20 rfl ?_
      refine x_iald (pc2 := 22) (icr_13 h4) (by decide) (by rw [(alr_13 h4)]; decide) dX7_wound_21 rfl ?_
      exact k
    · replace k := k2 c3
      refine x_iconst (pc2 := 11) dX7_wound_10 rfl ?_
      exact x_ireturn dX7_wound_11 ⟨.int, rfl, rfl⟩ k
set_option maxRecDepth 4000 in
theorem g_X7_wound_25 {sc : List Int} {d : Nat} {m : Mem} {Q : Option AV → Mem → Prop} {l1 s0 : Int} (k : (RoomAt (m 0 2)) ∧ S_X7_wound sc d 44 [aR 0, aU, aI s0, aI (l1 * (m ((m 0 2) + 13) 0)), aI 0, aI l1, aU] [] m Q) : S_X7_wound sc d 25 [aR 0, aI l1, aU, aU, aU, aU, aU] [aI s0] m Q := by
  refine x_istore_n (pc2 := 26) (ls2 := [aR 0, aI l1, aI s0, aU, aU, aU, aU]) dX7_wound_25 rfl (by decide) rfl ?_
  refine x_iload_n (pc2 := 27) dX7_wound_26 rfl rfl ?_
  refine x_aload_n (pc2 := 28) dX7_wound_27 rfl rfl ?_
  refine x_getf (pc2 := 31) (v := aR (m 0 2)) fl_X7_16 ic_0 (fv_m _ ic_0 rfl) dX7_wound_28 rfl ?_
  obtain ⟨h1, k⟩ := k
  refine x_getf (pc2 := 34) (v := aR ((m 0 2) + 13)) fl_X7_106 (icr_0 h1) (vrr_13 _ h1) dX7_wound_31 rfl ?_
  refine x_iconst (pc2 := 35) dX7_wound_34 rfl ?_
  refine x_iald (pc2 := 36) (icr_13 h1) (by decide) (by rw [(alr_13 h1)]; decide) dX7_wound_35 rfl ?_
  refine x_imul (pc2 := 37) dX7_wound_36 rfl ?_
  refine x_istore_n (pc2 := 38) (ls2 := [aR 0, aI l1, aI s0, aI (l1 * (m ((m 0 2) + 13) 0)), aU, aU, aU]) dX7_wound_37 rfl (by decide) rfl ?_
  refine x_iconst (pc2 := 39) dX7_wound_38 rfl ?_
  refine x_istore (pc2 := 41) (ls2 := [aR 0, aI l1, aI s0, aI (l1 * (m ((m 0 2) + 13) 0)), aI 0, aU, aU]) dX7_wound_39 rfl (by decide) rfl ?_
  refine x_iload_n (pc2 := 42) dX7_wound_41 rfl rfl ?_
  refine x_istore (pc2 := 44) (ls2 := [aR 0, aI l1, aI s0, aI (l1 * (m ((m 0 2) + 13) 0)), aI 0, aI l1, aU]) dX7_wound_42 rfl (by decide) rfl ?_
  exact x_drop (drp_k (drp_u (drp_k (drp_k (drp_k (drp_k (drp_k drp_n))))))) k
set_option maxRecDepth 4000 in
theorem g_X7_wound_44 {sc : List Int} {d : Nat} {m : Mem} {Q : Option AV → Mem → Prop} {l2 l3 l4 l5 : Int} (k : (-2147483648 ≤ l5 ∧ l5 < 2147483648) ∧ ((l5 ≤ 0) → (Q (some (aI l3)) m)) ∧ (¬ (l5 ≤ 0) → (S_X7_wound sc d 57 [aR 0, aU, aI l2, aI l3, aI (l4 + 1), aI l5, aU] [aI (l5 - l2), aI 0] m Q))) : S_X7_wound sc d 44 [aR 0, aU, aI l2, aI l3, aI l4, aI l5, aU] [] m Q := by
  refine x_iload (pc2 := 46) dX7_wound_44 rfl rfl ?_
  obtain ⟨h1, k⟩ := k
  obtain ⟨k1, k2⟩ := k
  refine x_if_le (tgt := 101) (pc2 := 49) dX7_wound_46 (by decide) rfl h1 (fun c2 => ?_) (fun c2 => ?_)
  · replace k := k1 c2
    refine x_iload_n (pc2 := 102) dX7_wound_101 rfl rfl ?_
    exact x_ireturn dX7_wound_102 ⟨.int, rfl, rfl⟩ k
  · replace k := k2 c2
    refine x_iinc (pc2 := 52) (ls2 := [aR 0, aU, aI l2, aI l3, aI (l4 + 1), aI l5, aU]) dX7_wound_49 rfl rfl (by decide) rfl ?_
    refine x_iconst (pc2 := 53) dX7_wound_52 rfl ?_
    refine x_iload (pc2 := 55) dX7_wound_53 rfl rfl ?_
    refine x_iload_n (pc2 := 56) dX7_wound_55 rfl rfl ?_
    refine x_isub (pc2 := 57) dX7_wound_56 rfl ?_
    exact k
set_option maxRecDepth 4000 in
theorem g_X7_wound_60 {sc : List Int} {d : Nat} {m : Mem} {Q : Option AV → Mem → Prop} {l2 l3 l4 l5 s0 : Int} (k : (RoomAt (m 0 2)) ∧ S_X7_wound sc d 88 [aR 0, aU, aI l2, aU, aI l4, aI l5, aU] [aI ((l4 * (m ((m 0 2) + 13) 3)) + (s0 * (m ((m 0 2) + 13) 0))), aI l3] m Q) : S_X7_wound sc d 60 [aR 0, aU, aI l2, aI l3, aI l4, aI l5, aU] [aI s0] m Q := by
  refine x_istore (pc2 := 62) (ls2 := [aR 0, aU, aI l2, aI l3, aI l4, aI l5, aI s0]) dX7_wound_60 rfl (by decide) rfl ?_
  refine x_iload_n (pc2 := 63) dX7_wound_62 rfl rfl ?_
  refine x_iload (pc2 := 65) dX7_wound_63 rfl rfl ?_
  refine x_aload_n (pc2 := 66) dX7_wound_65 rfl rfl ?_
  refine x_getf (pc2 := 69) (v := aR (m 0 2)) fl_X7_16 ic_0 (fv_m _ ic_0 rfl) dX7_wound_66 rfl ?_
  obtain ⟨h1, k⟩ := k
  refine x_getf (pc2 := 72) (v := aR ((m 0 2) + 13)) fl_X7_106 (icr_0 h1) (vrr_13 _ h1) dX7_wound_69 rfl ?_
  refine x_iconst (pc2 := 73) dX7_wound_72 rfl ?_
  refine x_iald (pc2 := 74) (icr_13 h1) (by decide) (by rw [(alr_13 h1)]; decide) dX7_wound_73 rfl ?_
  refine x_imul (pc2 := 75) dX7_wound_74 rfl ?_
  refine x_iload (pc2 := 77) dX7_wound_75 rfl rfl ?_
  refine x_aload_n (pc2 := 78) dX7_wound_77 rfl rfl ?_
  refine x_getf (pc2 := 81) (v := aR (m 0 2)) fl_X7_16 ic_0 (fv_m _ ic_0 rfl) dX7_wound_78 rfl ?_
  refine x_getf (pc2 := 84) (v := aR ((m 0 2) + 13)) fl_X7_106 (icr_0 h1) (vrr_13 _ h1) dX7_wound_81 rfl ?_
  refine x_iconst (pc2 := 85) dX7_wound_84 rfl ?_
  refine x_iald (pc2 := 86) (icr_13 h1) (by decide) (by rw [(alr_13 h1)]; decide) dX7_wound_85 rfl ?_
  refine x_imul (pc2 := 87) dX7_wound_86 rfl ?_
  refine x_iadd (pc2 := 88) dX7_wound_87 rfl ?_
  exact x_drop (drp_k (drp_k (drp_k (drp_u (drp_k (drp_k (drp_u drp_n))))))) k
set_option maxRecDepth 4000 in
theorem g_X7_wound_91 {sc : List Int} {d : Nat} {m : Mem} {Q : Option AV → Mem → Prop} {l2 l4 l5 s0 : Int} (k : S_X7_wound sc d 44 [aR 0, aU, aI l2, aI s0, aI l4, aI (l5 - l2), aU] [] m Q) : S_X7_wound sc d 91 [aR 0, aU, aI l2, aU, aI l4, aI l5, aU] [aI s0] m Q := by
  refine x_istore_n (pc2 := 92) (ls2 := [aR 0, aU, aI l2, aI s0, aI l4, aI l5, aU]) dX7_wound_91 rfl (by decide) rfl ?_
  refine x_iload (pc2 := 94) dX7_wound_92 rfl rfl ?_
  refine x_iload_n (pc2 := 95) dX7_wound_94 rfl rfl ?_
  refine x_isub (pc2 := 96) dX7_wound_95 rfl ?_
  refine x_istore (pc2 := 98) (ls2 := [aR 0, aU, aI l2, aI s0, aI l4, aI (l5 - l2), aU]) dX7_wound_96 rfl (by decide) rfl ?_
  refine x_goto (tgt := 44) dX7_wound_98 (by decide) ?_
  exact k
theorem c_X7_wound_22 {sc : List Int} {d d2 : Nat} {m m2 : Mem} {Q : Option AV → Mem → Prop} {l1 s0 s1 : Int} {v : Int} (hM : C_J9_max_7cf53 sc d2 [aI s0, aI s1] m (some (aI v)) m2) (hd : d2 + 1 ≤ d) (k : S_X7_wound sc d 25 [aR 0, aI l1, aU, aU, aU, aU, aU] [aI v] m2 Q) : S_X7_wound sc d 22 [aR 0, aI l1, aU, aU, aU, aU, aU] [aI s1, aI s0] m Q := x_callS (as := [aI s0, aI s1]) (rest := []) hM mk_J9_max_7cf53 ms_J9_max_7cf53 lk_X7_247 hd rfl rfl (Nat.le_of_ble_eq_true rfl) dX7_wound_22 rfl k
theorem c_X7_wound_57 {sc : List Int} {d d2 : Nat} {m m2 : Mem} {Q : Option AV → Mem → Prop} {l2 l3 l4 l5 s0 s1 : Int} {v : Int} (hM : C_J9_max_7cf53 sc d2 [aI s0, aI s1] m (some (aI v)) m2) (hd : d2 + 1 ≤ d) (k : S_X7_wound sc d 60 [aR 0, aU, aI l2, aI l3, aI l4, aI l5, aU] [aI v] m2 Q) : S_X7_wound sc d 57 [aR 0, aU, aI l2, aI l3, aI l4, aI l5, aU] [aI s1, aI s0] m Q := x_callS (as := [aI s0, aI s1]) (rest := []) hM mk_J9_max_7cf53 ms_J9_max_7cf53 lk_X7_247 hd rfl rfl (Nat.le_of_ble_eq_true rfl) dX7_wound_57 rfl k
theorem c_X7_wound_88 {sc : List Int} {d d2 : Nat} {m m2 : Mem} {Q : Option AV → Mem → Prop} {l2 l4 l5 s0 s1 : Int} {v : Int} (hM : C_J9_min_7cf53 sc d2 [aI s0, aI s1] m (some (aI v)) m2) (hd : d2 + 1 ≤ d) (k : S_X7_wound sc d 91 [aR 0, aU, aI l2, aU, aI l4, aI l5, aU] [aI v] m2 Q) : S_X7_wound sc d 88 [aR 0, aU, aI l2, aU, aI l4, aI l5, aU] [aI s1, aI s0] m Q := x_callS (as := [aI s0, aI s1]) (rest := []) hM mk_J9_min_7cf53 ms_J9_min_7cf53 lk_X7_253 hd rfl rfl (Nat.le_of_ble_eq_true rfl) dX7_wound_88 rfl k
set_option maxRecDepth 4000 in
theorem g_X7_day_0 {sc : List Int} {d : Nat} {m : Mem} {Q : Option AV → Mem → Prop} {l1 : Int} (k : (-2147483648 ≤ l1 ∧ l1 < 2147483648) ∧ ((l1 = 0) → (Q (some (aI (m 57 0))) m)) ∧ ((l1 = 1) → (Q (some (aI (m 57 1))) m)) ∧ ((l1 = 2) → (Q (some (aI (m 57 3))) m)) ∧ ((l1 = 3) → (Q (some (aI (m 57 4))) m)) ∧ ((l1 = 4) → (Q (some (aI (m 57 5))) m)) ∧ ((l1 = 5) → ((RoomAt (m 0 2)) ∧ ((-2147483648 ≤ (m 57 0) ∧ (m 57 0) < 2147483648)) ∧ ((-2147483648 ≤ (m (m 0 2) 8) ∧ (m (m 0 2) 8) < 2147483648)) ∧ Q (some (aI (if (m (m 0 2) 8) ≤ (m 57 0) then 0 else 1 : Int))) m)) ∧ ((l1 ≠ 0 ∧ l1 ≠ 1 ∧ l1 ≠ 2 ∧ l1 ≠ 3 ∧ l1 ≠ 4 ∧ l1 ≠ 5) → (Q (some (aI (-1))) m))) : S_X7_day sc d 0 [aR 0, aI l1] [] m Q := by
  refine x_iload_n (pc2 := 1) dX7_day_0 rfl rfl ?_
  obtain ⟨h1, k⟩ := k
  obtain ⟨k10, k11, k12, k13, k14, k15, k16⟩ := k
  by_cases c17 : l1 = 0
  · replace k := k10 c17
    refine x_tin (tgt := 40) (off := 39) dX7_day_1 h1 (by omega) (by omega) (by rw [c17]; rfl) (by decide) ?_
    refine x_aload_n (pc2 := 41) dX7_day_40 rfl rfl ?_
    refine x_getf (pc2 := 44) (v := aR 57) fl_X7_54 ic_0 (vr_0_8 _) dX7_day_41 rfl ?_
    refine x_getf (pc2 := 47) (v := aI (m 57 0)) fl_X7_256 ic_57 (fv_i _ ic_57 rfl) dX7_day_44 rfl ?_
    exact x_ireturn dX7_day_47 ⟨.int, rfl, rfl⟩ k
  by_cases c18 : l1 = 1
  · replace k := k11 c18
    refine x_tin (tgt := 48) (off := 47) dX7_day_1 h1 (by omega) (by omega) (by rw [c18]; rfl) (by decide) ?_
    refine x_aload_n (pc2 := 49) dX7_day_48 rfl rfl ?_
    refine x_getf (pc2 := 52) (v := aR 57) fl_X7_54 ic_0 (vr_0_8 _) dX7_day_49 rfl ?_
    refine x_getf (pc2 := 55) (v := aI (m 57 1)) fl_X7_259 ic_57 (fv_i _ ic_57 rfl) dX7_day_52 rfl ?_
    exact x_ireturn dX7_day_55 ⟨.int, rfl, rfl⟩ k
  by_cases c19 : l1 = 2
  · replace k := k12 c19
    refine x_tin (tgt := 56) (off := 55) dX7_day_1 h1 (by omega) (by omega) (by rw [c19]; rfl) (by decide) ?_
    refine x_aload_n (pc2 := 57) dX7_day_56 rfl rfl ?_
    refine x_getf (pc2 := 60) (v := aR 57) fl_X7_54 ic_0 (vr_0_8 _) dX7_day_57 rfl ?_
    refine x_getf (pc2 := 63) (v := aI (m 57 3)) fl_X7_261 ic_57 (fv_i _ ic_57 rfl) dX7_day_60 rfl ?_
    exact x_ireturn dX7_day_63 ⟨.int, rfl, rfl⟩ k
  by_cases c20 : l1 = 3
  · replace k := k13 c20
    refine x_tin (tgt := 64) (off := 63) dX7_day_1 h1 (by omega) (by omega) (by rw [c20]; rfl) (by decide) ?_
    refine x_aload_n (pc2 := 65) dX7_day_64 rfl rfl ?_
    refine x_getf (pc2 := 68) (v := aR 57) fl_X7_54 ic_0 (vr_0_8 _) dX7_day_65 rfl ?_
    refine x_getf (pc2 := 71) (v := aI (m 57 4)) fl_X7_262 ic_57 (fv_i _ ic_57 rfl) dX7_day_68 rfl ?_
    exact x_ireturn dX7_day_71 ⟨.int, rfl, rfl⟩ k
  by_cases c21 : l1 = 4
  · replace k := k14 c21
    refine x_tin (tgt := 72) (off := 71) dX7_day_1 h1 (by omega) (by omega) (by rw [c21]; rfl) (by decide) ?_
    refine x_aload_n (pc2 := 73) dX7_day_72 rfl rfl ?_
    refine x_getf (pc2 := 76) (v := aR 57) fl_X7_54 ic_0 (vr_0_8 _) dX7_day_73 rfl ?_
    refine x_getf (pc2 := 79) (v := aI (m 57 5)) fl_X7_263 ic_57 (fv_i _ ic_57 rfl) dX7_day_76 rfl ?_
    exact x_ireturn dX7_day_79 ⟨.int, rfl, rfl⟩ k
  by_cases c22 : l1 = 5
  · replace k := k15 c22
    refine x_tin (tgt := 80) (off := 79) dX7_day_1 h1 (by omega) (by omega) (by rw [c22]; rfl) (by decide) ?_
    refine x_aload_n (pc2 := 81) dX7_day_80 rfl rfl ?_
    refine x_getf (pc2 := 84) (v := aR 57) fl_X7_54 ic_0 (vr_0_8 _) dX7_day_81 rfl ?_
    refine x_getf (pc2 := 87) (v := aI (m 57 0)) fl_X7_256 ic_57 (fv_i _ ic_57 rfl) dX7_day_84 rfl ?_
    refine x_aload_n (pc2 := 88) dX7_day_87 rfl rfl ?_
    refine x_getf (pc2 := 91) (v := aR (m 0 2)) fl_X7_16 ic_0 (fv_m _ ic_0 rfl) dX7_day_88 rfl ?_
    obtain ⟨h2, k⟩ := k
    refine x_getf (pc2 := 94) (v := aI (m (m 0 2) 8)) fl_X7_112 (icr_0 h2) (fv_i _ (icr_0 h2) rfl) dX7_day_91 rfl ?_
    obtain ⟨g5, k⟩ := k
    obtain ⟨g6, k⟩ := k
    have kj : S_X7_day sc d 102 [aR 0, aI l1] [aI (if (m (m 0 2) 8) ≤ (m 57 0) then 0 else 1 : Int)] m Q := by
      exact x_ireturn dX7_day_102 ⟨.int, rfl, rfl⟩ k
    have h7 := g5 
    have h8 := g6 
    refine x_icmp_ge (tgt := 101) (pc2 := 97) dX7_day_94 (by decide) rfl h7 h8 (fun c9 => ?_) (fun c9 => ?_)
    · skip
      refine x_iconst (pc2 := 102) dX7_day_101 rfl ?_
      exact x_topI (v := (if (m (m 0 2) 8) ≤ (m 57 0) then 0 else 1 : Int)) (if_pos c9) kj
    · skip
      refine x_iconst (pc2 := 98) dX7_day_97 rfl ?_
      refine x_goto (tgt := 102) dX7_day_98 (by decide) ?_
      exact x_topI (v := (if (m (m 0 2) 8) ≤ (m 57 0) then 0 else 1 : Int)) (if_neg c9) kj
  replace k := k16 (by omega)
  have kd : S_X7_day sc d 103 [aR 0, aI l1] [] m Q := by
    refine x_iconst (pc2 := 104) dX7_day_103 rfl ?_
    exact x_ireturn dX7_day_104 ⟨.int, rfl, rfl⟩ k
  by_cases c23 : l1 < 0 ∨ 5 < l1
  · exact x_tout (tgt := 103) dX7_day_1 h1 c23 (by decide) kd
  exact absurd c23 (by omega)
set_option maxRecDepth 4000 in
theorem g_X7_sew_0 {sc : List Int} {d : Nat} {m : Mem} {Q : Option AV → Mem → Prop} {l1 : Int} (k : (RoomAt (m 0 2)) ∧ (-2147483648 ≤ (m 57 0) ∧ (m 57 0) < 2147483648) ∧ (-2147483648 ≤ (m (m 0 2) 8) ∧ (m (m 0 2) 8) < 2147483648) ∧ (((m (m 0 2) 8) ≤ (m 57 0)) → (S_X7_sew sc d 33 [aR 0, aU, aU] [aI 2, aR 0] m Q)) ∧ (¬ ((m (m 0 2) 8) ≤ (m 57 0)) → ((-2147483648 ≤ l1 ∧ l1 < 2147483648) ∧ ((l1 = 0) → (S_X7_sew sc d 49 [aR 0, aI l1, aI (m 57 4)] [aR 57] m Q)) ∧ (¬ (l1 = 0) → ((-2147483648 ≤ (m 57 1) ∧ (m 57 1) < 2147483648) ∧ (((m 57 1) ≠ 0) → (S_X7_sew sc d 49 [aR 0, aI l1, aI (m 57 4)] [aR 57] m Q)) ∧ (¬ ((m 57 1) ≠ 0) → (S_X7_sew sc d 33 [aR 0, aU, aU] [aI 2, aR 0] m Q))))))) : S_X7_sew sc d 0 [aR 0, aI l1, aU] [] m Q := by
  refine x_aload_n (pc2 := 1) dX7_sew_0 rfl rfl ?_
  refine x_getf (pc2 := 4) (v := aR 57) fl_X7_54 ic_0 (vr_0_8 _) dX7_sew_1 rfl ?_
  refine x_getf (pc2 := 7) (v := aI (m 57 0)) fl_X7_256 ic_57 (fv_i _ ic_57 rfl) dX7_sew_4 rfl ?_
  refine x_aload_n (pc2 := 8) dX7_sew_7 rfl rfl ?_
  refine x_getf (pc2 := 11) (v := aR (m 0 2)) fl_X7_16 ic_0 (fv_m _ ic_0 rfl) dX7_sew_8 rfl ?_
  obtain ⟨h1, k⟩ := k
  refine x_getf (pc2 := 14) (v := aI (m (m 0 2) 8)) fl_X7_112 (icr_0 h1) (fv_i _ (icr_0 h1) rfl) dX7_sew_11 rfl ?_
  obtain ⟨h2, k⟩ := k
  obtain ⟨h3, k⟩ := k
  obtain ⟨k1, k2⟩ := k
  refine x_icmp_ge (tgt := 31) (pc2 := 17) dX7_sew_14 (by decide) rfl h2 h3 (fun c4 => ?_) (fun c4 => ?_)
  · replace k := k1 c4
    refine x_aload_n (pc2 := 32) dX7_sew_31 rfl rfl ?_
    refine x_iconst (pc2 := 33) dX7_sew_32 rfl ?_
    exact x_drop (drp_k (drp_u (drp_k drp_n))) k
  · replace k := k2 c4
    refine x_iload_n (pc2 := 18) dX7_sew_17 rfl rfl ?_
    obtain ⟨h5, k⟩ := k
    obtain ⟨k1, k2⟩ := k
    refine x_if_eq (tgt := 37) (pc2 := 21) dX7_sew_18 (by decide) rfl h5 (fun c6 => ?_) (fun c6 => ?_)
    · replace k := k1 c6
      refine x_aload_n (pc2 := 38) dX7_sew_37 rfl rfl ?_
      refine x_getf (pc2 := 41) (v := aR 57) fl_X7_54 ic_0 (vr_0_8 _) dX7_sew_38 rfl ?_
      refine x_getf (pc2 := 44) (v := aI (m 57 4)) fl_X7_262 ic_57 (fv_i _ ic_57 rfl) dX7_sew_41 rfl ?_
      refine x_istore_n (pc2 := 45) (ls2 := [aR 0, aI l1, aI (m 57 4)]) dX7_sew_44 rfl (by decide) rfl ?_
      refine x_aload_n (pc2 := 46) dX7_sew_45 rfl rfl ?_
      refine x_getf (pc2 := 49) (v := aR 57) fl_X7_54 ic_0 (vr_0_8 _) dX7_sew_46 rfl ?_
      exact k
    · replace k := k2 c6
      refine x_aload_n (pc2 := 22) dX7_sew_21 rfl rfl ?_
      refine x_getf (pc2 := 25) (v := aR 57) fl_X7_54 ic_0 (vr_0_8 _) dX7_sew_22 rfl ?_
      refine x_getf (pc2 := 28) (v := aI (m 57 1)) fl_X7_259 ic_57 (fv_i _ ic_57 rfl) dX7_sew_25 rfl ?_
      obtain ⟨h7, k⟩ := k
      obtain ⟨k1, k2⟩ := k
      refine x_if_ne (tgt := 37) (pc2 := 31) dX7_sew_28 (by decide) rfl h7 (fun c8 => ?_) (fun c8 => ?_)
      · replace k := k1 c8
        refine x_aload_n (pc2 := 38) dX7_sew_37 rfl rfl ?_
        refine x_getf (pc2 := 41) (v := aR 57) fl_X7_54 ic_0 (vr_0_8 _) dX7_sew_38 rfl ?_
        refine x_getf (pc2 := 44) (v := aI (m 57 4)) fl_X7_262 ic_57 (fv_i _ ic_57 rfl) dX7_sew_41 rfl ?_
        refine x_istore_n (pc2 := 45) (ls2 := [aR 0, aI l1, aI (m 57 4)]) dX7_sew_44 rfl (by decide) rfl ?_
        refine x_aload_n (pc2 := 46) dX7_sew_45 rfl rfl ?_
        refine x_getf (pc2 := 49) (v := aR 57) fl_X7_54 ic_0 (vr_0_8 _) dX7_sew_46 rfl ?_
        exact k
      · replace k := k2 c8
        refine x_aload_n (pc2 := 32) dX7_sew_31 rfl rfl ?_
        refine x_iconst (pc2 := 33) dX7_sew_32 rfl ?_
        exact x_drop (drp_k (drp_u (drp_k drp_n))) k
set_option maxRecDepth 4000 in
theorem g_X7_sew_36 {sc : List Int} {d : Nat} {m : Mem} {Q : Option AV → Mem → Prop} {s0 : Int} (k : Q (some (aI s0)) m) : S_X7_sew sc d 36 [aR 0, aU, aU] [aI s0] m Q := by
  exact x_ireturn dX7_sew_36 ⟨.int, rfl, rfl⟩ k
set_option maxRecDepth 4000 in
theorem g_X7_sew_52 {sc : List Int} {d : Nat} {m : Mem} {Q : Option AV → Mem → Prop} {l1 l2 : Int} (k : S_X7_sew sc d 65 [aR 0, aU, aI l2] [aI l1, aR (m 0 2), aR 57, aR 57] m Q) : S_X7_sew sc d 52 [aR 0, aI l1, aI l2] [] m Q := by
  refine x_aload_n (pc2 := 53) dX7_sew_52 rfl rfl ?_
  refine x_getf (pc2 := 56) (v := aR 57) fl_X7_54 ic_0 (vr_0_8 _) dX7_sew_53 rfl ?_
  refine x_aload_n (pc2 := 57) dX7_sew_56 rfl rfl ?_
  refine x_getf (pc2 := 60) (v := aR 57) fl_X7_54 ic_0 (vr_0_8 _) dX7_sew_57 rfl ?_
  refine x_aload_n (pc2 := 61) dX7_sew_60 rfl rfl ?_
  refine x_getf (pc2 := 64) (v := aR (m 0 2)) fl_X7_16 ic_0 (fv_m _ ic_0 rfl) dX7_sew_61 rfl ?_
  refine x_iload_n (pc2 := 65) dX7_sew_64 rfl rfl ?_
  exact x_drop (drp_k (drp_u (drp_k drp_n))) k
set_option maxRecDepth 4000 in
theorem g_X7_sew_68 {sc : List Int} {d : Nat} {m : Mem} {Q : Option AV → Mem → Prop} {l2 s1 : Int} (k : S_X7_sew sc d 68 [aR 0, aU, aI l2] [aI s1, aR 57] m Q) : S_X7_sew sc d 68 [aR 0, aU, aI l2] [aI s1, aR 57] m Q := by
  exact k
set_option maxRecDepth 4000 in
theorem g_X7_sew_71 {sc : List Int} {d : Nat} {m : Mem} {Q : Option AV → Mem → Prop} {l2 : Int} (k : Q (some (aI ((m 57 4) - l2))) m) : S_X7_sew sc d 71 [aR 0, aU, aI l2] [] m Q := by
  refine x_aload_n (pc2 := 72) dX7_sew_71 rfl rfl ?_
  refine x_getf (pc2 := 75) (v := aR 57) fl_X7_54 ic_0 (vr_0_8 _) dX7_sew_72 rfl ?_
  refine x_getf (pc2 := 78) (v := aI (m 57 4)) fl_X7_262 ic_57 (fv_i _ ic_57 rfl) dX7_sew_75 rfl ?_
  refine x_iload_n (pc2 := 79) dX7_sew_78 rfl rfl ?_
  refine x_isub (pc2 := 80) dX7_sew_79 rfl ?_
  exact x_ireturn dX7_sew_80 ⟨.int, rfl, rfl⟩ k
theorem c_X7_sew_33 {sc : List Int} {d d2 : Nat} {m m2 : Mem} {Q : Option AV → Mem → Prop} {s1 : Int} {v : Int} (hM : C_X7_refuse sc d2 [aR 0, aI s1] m (some (aI v)) m2) (hd : d2 + 1 ≤ d) (k : S_X7_sew sc d 36 [aR 0, aU, aU] [aI v] m2 Q) : S_X7_sew sc d 33 [aR 0, aU, aU] [aI s1, aR 0] m Q := x_callV (as := [aI s1]) (rest := []) hM mk_X7_refuse mv_X7_refuse lk_X7_74 (Or.inl ⟨7, (RX7, TX7, 14), ic_0, Nat.le_of_ble_eq_true rfl, rfl, rfl⟩) hd rfl rfl (Nat.le_of_ble_eq_true rfl) dX7_sew_33 rfl k
theorem c_X7_sew_49 {sc : List Int} {d d2 : Nat} {m m2 : Mem} {Q : Option AV → Mem → Prop} {l1 l2 : Int} (hM : C_X2_keep sc d2 [aR 57] m none m2) (hd : d2 + 1 ≤ d) (k : S_X7_sew sc d 52 [aR 0, aI l1, aI l2] [] m2 Q) : S_X7_sew sc d 49 [aR 0, aI l1, aI l2] [aR 57] m Q := x_callV (as := []) (rest := []) hM mk_X2_keep mv_X2_keep lk_X7_264 (Or.inl ⟨2, (RX2, TX2, 9), ic_57, Nat.le_of_ble_eq_true rfl, rfl, rfl⟩) hd rfl rfl (Nat.le_of_ble_eq_true rfl) dX7_sew_49 rfl k
theorem c_X7_sew_65 {sc : List Int} {d d2 : Nat} {m m2 : Mem} {Q : Option AV → Mem → Prop} {l2 s2 s3 : Int} {v : Int} (Hs2 : RoomAt s2) (hM : C_X2_stitch sc d2 [aR 57, aR s2, aI s3] m (some (aI v)) m2) (hd : d2 + 1 ≤ d) (k : S_X7_sew sc d 68 [aR 0, aU, aI l2] [aI v, aR 57] m2 Q) : S_X7_sew sc d 65 [aR 0, aU, aI l2] [aI s3, aR s2, aR 57, aR 57] m Q := x_callV (as := [aR s2, aI s3]) (rest := [aR 57]) hM mk_X2_stitch mv_X2_stitch lk_X7_267 (Or.inl ⟨2, (RX2, TX2, 9), ic_57, Nat.le_of_ble_eq_true rfl, rfl, rfl⟩) hd rfl rfl (Nat.le_of_ble_eq_true rfl) dX7_sew_65 rfl k
theorem c_X7_sew_68 {sc : List Int} {d d2 : Nat} {m m2 : Mem} {Q : Option AV → Mem → Prop} {l2 s1 : Int} (hM : C_X2_pay sc d2 [aR 57, aI s1] m none m2) (hd : d2 + 1 ≤ d) (k : S_X7_sew sc d 71 [aR 0, aU, aI l2] [] m2 Q) : S_X7_sew sc d 68 [aR 0, aU, aI l2] [aI s1, aR 57] m Q := x_callV (as := [aI s1]) (rest := []) hM mk_X2_pay mv_X2_pay lk_X7_271 (Or.inl ⟨2, (RX2, TX2, 9), ic_57, Nat.le_of_ble_eq_true rfl, rfl, rfl⟩) hd rfl rfl (Nat.le_of_ble_eq_true rfl) dX7_sew_68 rfl k
set_option maxRecDepth 4000 in
theorem g_X7_glance_0 {sc : List Int} {d : Nat} {m : Mem} {Q : Option AV → Mem → Prop} (k : (RoomAt (m 0 2)) ∧ (-2147483648 ≤ (m 57 0) ∧ (m 57 0) < 2147483648) ∧ (-2147483648 ≤ (m (m 0 2) 8) ∧ (m (m 0 2) 8) < 2147483648) ∧ (((m 57 0) < (m (m 0 2) 8)) → (S_X7_glance sc d 27 [aR 0] [aR 57] m Q)) ∧ (¬ ((m 57 0) < (m (m 0 2) 8)) → (S_X7_glance sc d 19 [aR 0] [aI 2, aR 0] m Q))) : S_X7_glance sc d 0 [aR 0] [] m Q := by
  refine x_aload_n (pc2 := 1) dX7_glance_0 rfl rfl ?_
  refine x_getf (pc2 := 4) (v := aR 57) fl_X7_54 ic_0 (vr_0_8 _) dX7_glance_1 rfl ?_
  refine x_getf (pc2 := 7) (v := aI (m 57 0)) fl_X7_256 ic_57 (fv_i _ ic_57 rfl) dX7_glance_4 rfl ?_
  refine x_aload_n (pc2 := 8) dX7_glance_7 rfl rfl ?_
  refine x_getf (pc2 := 11) (v := aR (m 0 2)) fl_X7_16 ic_0 (fv_m _ ic_0 rfl) dX7_glance_8 rfl ?_
  obtain ⟨h1, k⟩ := k
  refine x_getf (pc2 := 14) (v := aI (m (m 0 2) 8)) fl_X7_112 (icr_0 h1) (fv_i _ (icr_0 h1) rfl) dX7_glance_11 rfl ?_
  obtain ⟨h2, k⟩ := k
  obtain ⟨h3, k⟩ := k
  obtain ⟨k1, k2⟩ := k
  refine x_icmp_lt (tgt := 23) (pc2 := 17) dX7_glance_14 (by decide) rfl h2 h3 (fun c4 => ?_) (fun c4 => ?_)
  · replace k := k1 c4
    refine x_aload_n (pc2 := 24) dX7_glance_23 rfl rfl ?_
    refine x_getf (pc2 := 27) (v := aR 57) fl_X7_54 ic_0 (vr_0_8 _) dX7_glance_24 rfl ?_
    exact k
  · replace k := k2 c4
    refine x_aload_n (pc2 := 18) dX7_glance_17 rfl rfl ?_
    refine x_iconst (pc2 := 19) dX7_glance_18 rfl ?_
    exact k
set_option maxRecDepth 4000 in
theorem g_X7_glance_22 {sc : List Int} {d : Nat} {m : Mem} {Q : Option AV → Mem → Prop} {s0 : Int} (k : Q (some (aI s0)) m) : S_X7_glance sc d 22 [aR 0] [aI s0] m Q := by
  exact x_ireturn dX7_glance_22 ⟨.int, rfl, rfl⟩ k
set_option maxRecDepth 4000 in
theorem g_X7_glance_30 {sc : List Int} {d : Nat} {m : Mem} {Q : Option AV → Mem → Prop} (k : (RoomAt (m 0 2)) ∧ S_X7_glance sc d 43 [aR 0] [aI (m ((m 0 2) + 13) 2), aR 57] m Q) : S_X7_glance sc d 30 [aR 0] [] m Q := by
  refine x_aload_n (pc2 := 31) dX7_glance_30 rfl rfl ?_
  refine x_getf (pc2 := 34) (v := aR 57) fl_X7_54 ic_0 (vr_0_8 _) dX7_glance_31 rfl ?_
  refine x_aload_n (pc2 := 35) dX7_glance_34 rfl rfl ?_
  refine x_getf (pc2 := 38) (v := aR (m 0 2)) fl_X7_16 ic_0 (fv_m _ ic_0 rfl) dX7_glance_35 rfl ?_
  obtain ⟨h1, k⟩ := k
  refine x_getf (pc2 := 41) (v := aR ((m 0 2) + 13)) fl_X7_106 (icr_0 h1) (vrr_13 _ h1) dX7_glance_38 rfl ?_
  refine x_iconst (pc2 := 42) dX7_glance_41 rfl ?_
  refine x_iald (pc2 := 43) (icr_13 h1) (by decide) (by rw [(alr_13 h1)]; decide) dX7_glance_42 rfl ?_
  exact k
set_option maxRecDepth 4000 in
theorem g_X7_glance_46 {sc : List Int} {d : Nat} {m : Mem} {Q : Option AV → Mem → Prop} (k : (RoomAt (m 0 2)) ∧ (0 ≤ (m 57 0)) ∧ ((m 57 0) < 10) ∧ ((-2147483648 ≤ ((m 57 1) + (m ((m 0 2) + 3) (m 57 0))) ∧ ((m 57 1) + (m ((m 0 2) + 3) (m 57 0))) < 2147483648)) ∧ ((-2147483648 ≤ (m 57 2) ∧ (m 57 2) < 2147483648)) ∧ Q (some (aI (if (m 57 2) < ((m 57 1) + (m ((m 0 2) + 3) (m 57 0))) then 0 else 1 : Int))) m) : S_X7_glance sc d 46 [aR 0] [] m Q := by
  refine x_aload_n (pc2 := 47) dX7_glance_46 rfl rfl ?_
  refine x_getf (pc2 := 50) (v := aR 57) fl_X7_54 ic_0 (vr_0_8 _) dX7_glance_47 rfl ?_
  refine x_getf (pc2 := 53) (v := aI (m 57 1)) fl_X7_259 ic_57 (fv_i _ ic_57 rfl) dX7_glance_50 rfl ?_
  refine x_aload_n (pc2 := 54) dX7_glance_53 rfl rfl ?_
  refine x_getf (pc2 := 57) (v := aR (m 0 2)) fl_X7_16 ic_0 (fv_m _ ic_0 rfl) dX7_glance_54 rfl ?_
  obtain ⟨h1, k⟩ := k
  refine x_getf (pc2 := 60) (v := aR ((m 0 2) + 3)) fl_X7_133 (icr_0 h1) (vrr_3 _ h1) dX7_glance_57 rfl ?_
  refine x_aload_n (pc2 := 61) dX7_glance_60 rfl rfl ?_
  refine x_getf (pc2 := 64) (v := aR 57) fl_X7_54 ic_0 (vr_0_8 _) dX7_glance_61 rfl ?_
  refine x_getf (pc2 := 67) (v := aI (m 57 0)) fl_X7_256 ic_57 (fv_i _ ic_57 rfl) dX7_glance_64 rfl ?_
  obtain ⟨h2, k⟩ := k
  obtain ⟨h3, k⟩ := k
  refine x_iald (pc2 := 68) (icr_3 h1) h2 (by rw [(alr_3 h1)]; exact h3) dX7_glance_67 rfl ?_
  refine x_iadd (pc2 := 69) dX7_glance_68 rfl ?_
  refine x_aload_n (pc2 := 70) dX7_glance_69 rfl rfl ?_
  refine x_getf (pc2 := 73) (v := aR 57) fl_X7_54 ic_0 (vr_0_8 _) dX7_glance_70 rfl ?_
  refine x_getf (pc2 := 76) (v := aI (m 57 2)) fl_X7_274 ic_57 (fv_i _ ic_57 rfl) dX7_glance_73 rfl ?_
  obtain ⟨g6, k⟩ := k
  obtain ⟨g7, k⟩ := k
  have kj : S_X7_glance sc d 84 [aR 0] [aI (if (m 57 2) < ((m 57 1) + (m ((m 0 2) + 3) (m 57 0))) then 0 else 1 : Int)] m Q := by
    exact x_ireturn dX7_glance_84 ⟨.int, rfl, rfl⟩ k
  have h8 := g6 
  have h9 := g7 
  refine x_icmp_gt (tgt := 83) (pc2 := 79) dX7_glance_76 (by decide) rfl h8 h9 (fun c10 => ?_) (fun c10 => ?_)
  · skip
    refine x_iconst (pc2 := 84) dX7_glance_83 rfl ?_
    exact x_topI (v := (if (m 57 2) < ((m 57 1) + (m ((m 0 2) + 3) (m 57 0))) then 0 else 1 : Int)) (if_pos c10) kj
  · skip
    refine x_iconst (pc2 := 80) dX7_glance_79 rfl ?_
    refine x_goto (tgt := 84) dX7_glance_80 (by decide) ?_
    exact x_topI (v := (if (m 57 2) < ((m 57 1) + (m ((m 0 2) + 3) (m 57 0))) then 0 else 1 : Int)) (if_neg c10) kj
theorem c_X7_glance_19 {sc : List Int} {d d2 : Nat} {m m2 : Mem} {Q : Option AV → Mem → Prop} {s1 : Int} {v : Int} (hM : C_X7_refuse sc d2 [aR 0, aI s1] m (some (aI v)) m2) (hd : d2 + 1 ≤ d) (k : S_X7_glance sc d 22 [aR 0] [aI v] m2 Q) : S_X7_glance sc d 19 [aR 0] [aI s1, aR 0] m Q := x_callV (as := [aI s1]) (rest := []) hM mk_X7_refuse mv_X7_refuse lk_X7_74 (Or.inl ⟨7, (RX7, TX7, 14), ic_0, Nat.le_of_ble_eq_true rfl, rfl, rfl⟩) hd rfl rfl (Nat.le_of_ble_eq_true rfl) dX7_glance_19 rfl k
theorem c_X7_glance_27 {sc : List Int} {d d2 : Nat} {m m2 : Mem} {Q : Option AV → Mem → Prop} (hM : C_X2_keep sc d2 [aR 57] m none m2) (hd : d2 + 1 ≤ d) (k : S_X7_glance sc d 30 [aR 0] [] m2 Q) : S_X7_glance sc d 27 [aR 0] [aR 57] m Q := x_callV (as := []) (rest := []) hM mk_X2_keep mv_X2_keep lk_X7_264 (Or.inl ⟨2, (RX2, TX2, 9), ic_57, Nat.le_of_ble_eq_true rfl, rfl, rfl⟩) hd rfl rfl (Nat.le_of_ble_eq_true rfl) dX7_glance_27 rfl k
theorem c_X7_glance_43 {sc : List Int} {d d2 : Nat} {m m2 : Mem} {Q : Option AV → Mem → Prop} {s1 : Int} (hM : C_X2_pay sc d2 [aR 57, aI s1] m none m2) (hd : d2 + 1 ≤ d) (k : S_X7_glance sc d 46 [aR 0] [] m2 Q) : S_X7_glance sc d 43 [aR 0] [aI s1, aR 57] m Q := x_callV (as := [aI s1]) (rest := []) hM mk_X2_pay mv_X2_pay lk_X7_271 (Or.inl ⟨2, (RX2, TX2, 9), ic_57, Nat.le_of_ble_eq_true rfl, rfl, rfl⟩) hd rfl rfl (Nat.le_of_ble_eq_true rfl) dX7_glance_43 rfl k
set_option maxRecDepth 4000 in
theorem g_X7_sews_0 {sc : List Int} {d : Nat} {m : Mem} {Q : Option AV → Mem → Prop} {l1 : Int} (k : (RoomAt (m 0 2)) ∧ (-2147483648 ≤ (m 57 0) ∧ (m 57 0) < 2147483648) ∧ (-2147483648 ≤ (m (m 0 2) 8) ∧ (m (m 0 2) 8) < 2147483648) ∧ (((m (m 0 2) 8) ≤ (m 57 0)) → (S_X7_sews sc d 30 [aR 0, aU, aU, aU, aU] [aI 2, aR 0] m Q)) ∧ (¬ ((m (m 0 2) 8) ≤ (m 57 0)) → (S_X7_sews sc d 22 [aR 0, aI l1, aU, aU, aU] [aI l1, aR (m 0 2)] m Q))) : S_X7_sews sc d 0 [aR 0, aI l1, aU, aU, aU] [] m Q := by
  refine x_aload_n (pc2 := 1) dX7_sews_0 rfl rfl ?_
  refine x_getf (pc2 := 4) (v := aR 57) fl_X7_54 ic_0 (vr_0_8 _) dX7_sews_1 rfl ?_
  refine x_getf (pc2 := 7) (v := aI (m 57 0)) fl_X7_256 ic_57 (fv_i _ ic_57 rfl) dX7_sews_4 rfl ?_
  refine x_aload_n (pc2 := 8) dX7_sews_7 rfl rfl ?_
  refine x_getf (pc2 := 11) (v := aR (m 0 2)) fl_X7_16 ic_0 (fv_m _ ic_0 rfl) dX7_sews_8 rfl ?_
  obtain ⟨h1, k⟩ := k
  refine x_getf (pc2 := 14) (v := aI (m (m 0 2) 8)) fl_X7_112 (icr_0 h1) (fv_i _ (icr_0 h1) rfl) dX7_sews_11 rfl ?_
  obtain ⟨h2, k⟩ := k
  obtain ⟨h3, k⟩ := k
  obtain ⟨k1, k2⟩ := k
  refine x_icmp_ge (tgt := 28) (pc2 := 17) dX7_sews_14 (by decide) rfl h2 h3 (fun c4 => ?_) (fun c4 => ?_)
  · replace k := k1 c4
    refine x_aload_n (pc2 := 29) dX7_sews_28 rfl rfl ?_
    refine x_iconst (pc2 := 30) dX7_sews_29 rfl ?_
    exact x_drop (drp_k (drp_u (drp_k (drp_k (drp_k drp_n))))) k
  · replace k := k2 c4
    refine x_aload_n (pc2 := 18) dX7_sews_17 rfl rfl ?_
    refine x_getf (pc2 := 21) (v := aR (m 0 2)) fl_X7_16 ic_0 (fv_m _ ic_0 rfl) dX7_sews_18 rfl ?_
    refine x_iload_n (pc2 := 22) dX7_sews_21 rfl rfl ?_
    exact k
set_option maxRecDepth 4000 in
theorem g_X7_sews_25 {sc : List Int} {d : Nat} {m : Mem} {Q : Option AV → Mem → Prop} {l1 s0 : Int} (k : (-2147483648 ≤ s0 ∧ s0 < 2147483648) ∧ ((s0 ≠ 0) → ((-2147483648 ≤ l1 ∧ l1 < 2147483648) ∧ ((l1 ≠ 3) → (S_X7_sews sc d 51 [aR 0, aI l1, aU, aU, aU] [] m Q)) ∧ (¬ (l1 ≠ 3) → (S_X7_sews sc d 48 [aR 0, aI l1, aU, aU, aU] [aI 3, aR (m 0 2), aR 37] m Q)))) ∧ (¬ (s0 ≠ 0) → (S_X7_sews sc d 30 [aR 0, aU, aU, aU, aU] [aI 2, aR 0] m Q))) : S_X7_sews sc d 25 [aR 0, aI l1, aU, aU, aU] [aI s0] m Q := by
  obtain ⟨h1, k⟩ := k
  obtain ⟨k1, k2⟩ := k
  refine x_if_ne (tgt := 34) (pc2 := 28) dX7_sews_25 (by decide) rfl h1 (fun c2 => ?_) (fun c2 => ?_)
  · replace k := k1 c2
    refine x_iload_n (pc2 := 35) dX7_sews_34 rfl rfl ?_
    refine x_iconst (pc2 := 36) dX7_sews_35 rfl ?_
    obtain ⟨h3, k⟩ := k
    obtain ⟨k1, k2⟩ := k
    refine x_icmp_ne (tgt := 51) (pc2 := 39) dX7_sews_36 (by decide) rfl h3 (by decide) (fun c4 => ?_) (fun c4 => ?_)
    · replace k := k1 c4
      exact k
    · replace k := k2 c4
      refine x_aload_n (pc2 := 40) dX7_sews_39 rfl rfl ?_
      refine x_getf (pc2 := 43) (v := aR 37) fl_X7_33 ic_0 (vr_0_5 _) dX7_sews_40 rfl ?_
      refine x_aload_n (pc2 := 44) dX7_sews_43 rfl rfl ?_
      refine x_getf (pc2 := 47) (v := aR (m 0 2)) fl_X7_16 ic_0 (fv_m _ ic_0 rfl) dX7_sews_44 rfl ?_
      refine x_iconst (pc2 := 48) dX7_sews_47 rfl ?_
      exact k
  · replace k := k2 c2
    refine x_aload_n (pc2 := 29) dX7_sews_28 rfl rfl ?_
    refine x_iconst (pc2 := 30) dX7_sews_29 rfl ?_
    exact x_drop (drp_k (drp_u (drp_k (drp_k (drp_k drp_n))))) k
set_option maxRecDepth 4000 in
theorem g_X7_sews_33 {sc : List Int} {d : Nat} {m : Mem} {Q : Option AV → Mem → Prop} {s0 : Int} (k : Q (some (aI s0)) m) : S_X7_sews sc d 33 [aR 0, aU, aU, aU, aU] [aI s0] m Q := by
  exact x_ireturn dX7_sews_33 ⟨.int, rfl, rfl⟩ k
set_option maxRecDepth 4000 in
theorem g_X7_sews_51 {sc : List Int} {d : Nat} {m : Mem} {Q : Option AV → Mem → Prop} {l1 : Int} (k : S_X7_sews sc d 55 [aR 0, aI l1, aU, aU, aU] [aR 57] m Q) : S_X7_sews sc d 51 [aR 0, aI l1, aU, aU, aU] [] m Q := by
  refine x_aload_n (pc2 := 52) dX7_sews_51 rfl rfl ?_
  refine x_getf (pc2 := 55) (v := aR 57) fl_X7_54 ic_0 (vr_0_8 _) dX7_sews_52 rfl ?_
  exact k
set_option maxRecDepth 4000 in
theorem g_X7_sews_58 {sc : List Int} {d : Nat} {m : Mem} {Q : Option AV → Mem → Prop} {l1 : Int} (k : S_X7_sews sc d 68 [aR 0, aI l1, aI 0, aI (m 57 0), aU] [] m Q) : S_X7_sews sc d 58 [aR 0, aI l1, aU, aU, aU] [] m Q := by
  refine x_iconst (pc2 := 59) dX7_sews_58 rfl ?_
  refine x_istore_n (pc2 := 60) (ls2 := [aR 0, aI l1, aI 0, aU, aU]) dX7_sews_59 rfl (by decide) rfl ?_
  refine x_aload_n (pc2 := 61) dX7_sews_60 rfl rfl ?_
  refine x_getf (pc2 := 64) (v := aR 57) fl_X7_54 ic_0 (vr_0_8 _) dX7_sews_61 rfl ?_
  refine x_getf (pc2 := 67) (v := aI (m 57 0)) fl_X7_256 ic_57 (fv_i _ ic_57 rfl) dX7_sews_64 rfl ?_
  refine x_istore_n (pc2 := 68) (ls2 := [aR 0, aI l1, aI 0, aI (m 57 0), aU]) dX7_sews_67 rfl (by decide) rfl ?_
  exact k
set_option maxRecDepth 4000 in
theorem g_X7_sews_68 {sc : List Int} {d : Nat} {m : Mem} {Q : Option AV → Mem → Prop} {l1 l2 l3 : Int} (k : (RoomAt (m 0 2)) ∧ (-2147483648 ≤ l3 ∧ l3 < 2147483648) ∧ (-2147483648 ≤ (m (m 0 2) 8) ∧ (m (m 0 2) 8) < 2147483648) ∧ (((m (m 0 2) 8) ≤ l3) → (S_X7_sews sc d 153 [aR 0, aU, aI l2, aU, aU] [aI l2, aR 57] m Q)) ∧ (¬ ((m (m 0 2) 8) ≤ l3) → (S_X7_sews sc d 92 [aR 0, aI l1, aU, aI l3, aU] [aI (m 57 1), aI l1, aR (m 0 2), aI l2] m Q))) : S_X7_sews sc d 68 [aR 0, aI l1, aI l2, aI l3, aU] [] m Q := by
  refine x_iload_n (pc2 := 69) dX7_sews_68 rfl rfl ?_
  refine x_aload_n (pc2 := 70) dX7_sews_69 rfl rfl ?_
  refine x_getf (pc2 := 73) (v := aR (m 0 2)) fl_X7_16 ic_0 (fv_m _ ic_0 rfl) dX7_sews_70 rfl ?_
  obtain ⟨h1, k⟩ := k
  refine x_getf (pc2 := 76) (v := aI (m (m 0 2) 8)) fl_X7_112 (icr_0 h1) (fv_i _ (icr_0 h1) rfl) dX7_sews_73 rfl ?_
  obtain ⟨h2, k⟩ := k
  obtain ⟨h3, k⟩ := k
  obtain ⟨k1, k2⟩ := k
  refine x_icmp_ge (tgt := 148) (pc2 := 79) dX7_sews_76 (by decide) rfl h2 h3 (fun c4 => ?_) (fun c4 => ?_)
  · replace k := k1 c4
    refine x_aload_n (pc2 := 149) dX7_sews_148 rfl rfl ?_
    refine x_getf (pc2 := 152) (v := aR 57) fl_X7_54 ic_0 (vr_0_8 _) dX7_sews_149 rfl ?_
    refine x_iload_n (pc2 := 153) dX7_sews_152 rfl rfl ?_
    exact x_drop (drp_k (drp_u (drp_k (drp_u (drp_k drp_n))))) k
  · replace k := k2 c4
    refine x_iload_n (pc2 := 80) dX7_sews_79 rfl rfl ?_
    refine x_aload_n (pc2 := 81) dX7_sews_80 rfl rfl ?_
    refine x_getf (pc2 := 84) (v := aR (m 0 2)) fl_X7_16 ic_0 (fv_m _ ic_0 rfl) dX7_sews_81 rfl ?_
    refine x_iload_n (pc2 := 85) dX7_sews_84 rfl rfl ?_
    refine x_aload_n (pc2 := 86) dX7_sews_85 rfl rfl ?_
    refine x_getf (pc2 := 89) (v := aR 57) fl_X7_54 ic_0 (vr_0_8 _) dX7_sews_86 rfl ?_
    refine x_getf (pc2 := 92) (v := aI (m 57 1)) fl_X7_259 ic_57 (fv_i _ ic_57 rfl) dX7_sews_89 rfl ?_
    exact x_drop (drp_k (drp_k (drp_u (drp_k (drp_k drp_n))))) k
set_option maxRecDepth 4000 in
theorem g_X7_sews_95 {sc : List Int} {d : Nat} {m : Mem} {Q : Option AV → Mem → Prop} {l1 l3 s0 s1 : Int} (k : S_X7_sews sc d 121 [aR 0, aI l1, aI (s0 + s1), aI l3, aU] [aI (m 57 2), aI (m 57 1), aI l3, aI l1, aR (m 0 2), aR 37] m Q) : S_X7_sews sc d 95 [aR 0, aI l1, aU, aI l3, aU] [aI s1, aI s0] m Q := by
  refine x_iadd (pc2 := 96) dX7_sews_95 rfl ?_
  refine x_istore_n (pc2 := 97) (ls2 := [aR 0, aI l1, aI (s0 + s1), aI l3, aU]) dX7_sews_96 rfl (by decide) rfl ?_
  refine x_aload_n (pc2 := 98) dX7_sews_97 rfl rfl ?_
  refine x_getf (pc2 := 101) (v := aR 37) fl_X7_33 ic_0 (vr_0_5 _) dX7_sews_98 rfl ?_
  refine x_aload_n (pc2 := 102) dX7_sews_101 rfl rfl ?_
  refine x_getf (pc2 := 105) (v := aR (m 0 2)) fl_X7_16 ic_0 (fv_m _ ic_0 rfl) dX7_sews_102 rfl ?_
  refine x_iload_n (pc2 := 106) dX7_sews_105 rfl rfl ?_
  refine x_iload_n (pc2 := 107) dX7_sews_106 rfl rfl ?_
  refine x_aload_n (pc2 := 108) dX7_sews_107 rfl rfl ?_
  refine x_getf (pc2 := 111) (v := aR 57) fl_X7_54 ic_0 (vr_0_8 _) dX7_sews_108 rfl ?_
  refine x_getf (pc2 := 114) (v := aI (m 57 1)) fl_X7_259 ic_57 (fv_i _ ic_57 rfl) dX7_sews_111 rfl ?_
  refine x_aload_n (pc2 := 115) dX7_sews_114 rfl rfl ?_
  refine x_getf (pc2 := 118) (v := aR 57) fl_X7_54 ic_0 (vr_0_8 _) dX7_sews_115 rfl ?_
  refine x_getf (pc2 := 121) (v := aI (m 57 2)) fl_X7_274 ic_57 (fv_i _ ic_57 rfl) dX7_sews_118 rfl ?_
  exact k
set_option maxRecDepth 4000 in
theorem g_X7_sews_124 {sc : List Int} {d : Nat} {m : Mem} {Q : Option AV → Mem → Prop} {l1 l2 l3 s0 : Int} (k : S_X7_sews sc d 137 [aR 0, aI l1, aU, aI l3, aU] [aI s0, aR (m 0 2), aR 57, aI l2] m Q) : S_X7_sews sc d 124 [aR 0, aI l1, aI l2, aI l3, aU] [aI s0] m Q := by
  refine x_istore (pc2 := 126) (ls2 := [aR 0, aI l1, aI l2, aI l3, aI s0]) dX7_sews_124 rfl (by decide) rfl ?_
  refine x_iload_n (pc2 := 127) dX7_sews_126 rfl rfl ?_
  refine x_aload_n (pc2 := 128) dX7_sews_127 rfl rfl ?_
  refine x_getf (pc2 := 131) (v := aR 57) fl_X7_54 ic_0 (vr_0_8 _) dX7_sews_128 rfl ?_
  refine x_aload_n (pc2 := 132) dX7_sews_131 rfl rfl ?_
  refine x_getf (pc2 := 135) (v := aR (m 0 2)) fl_X7_16 ic_0 (fv_m _ ic_0 rfl) dX7_sews_132 rfl ?_
  refine x_iload (pc2 := 137) dX7_sews_135 rfl rfl ?_
  exact x_drop (drp_k (drp_k (drp_u (drp_k (drp_u drp_n))))) k
set_option maxRecDepth 4000 in
theorem g_X7_sews_140 {sc : List Int} {d : Nat} {m : Mem} {Q : Option AV → Mem → Prop} {l1 l3 s0 s1 : Int} (k : S_X7_sews sc d 68 [aR 0, aI l1, aI (s0 + s1), aI (l3 + 1), aU] [] m Q) : S_X7_sews sc d 140 [aR 0, aI l1, aU, aI l3, aU] [aI s1, aI s0] m Q := by
  refine x_iadd (pc2 := 141) dX7_sews_140 rfl ?_
  refine x_istore_n (pc2 := 142) (ls2 := [aR 0, aI l1, aI (s0 + s1), aI l3, aU]) dX7_sews_141 rfl (by decide) rfl ?_
  refine x_iinc (pc2 := 145) (ls2 := [aR 0, aI l1, aI (s0 + s1), aI (l3 + 1), aU]) dX7_sews_142 rfl rfl (by decide) rfl ?_
  refine x_goto (tgt := 68) dX7_sews_145 (by decide) ?_
  exact k
set_option maxRecDepth 4000 in
theorem g_X7_sews_156 {sc : List Int} {d : Nat} {m : Mem} {Q : Option AV → Mem → Prop} {l2 : Int} (k : Q (some (aI l2)) m) : S_X7_sews sc d 156 [aR 0, aU, aI l2, aU, aU] [] m Q := by
  refine x_iload_n (pc2 := 157) dX7_sews_156 rfl rfl ?_
  exact x_ireturn dX7_sews_157 ⟨.int, rfl, rfl⟩ k
theorem c_X7_sews_22 {sc : List Int} {d d2 : Nat} {m m2 : Mem} {Q : Option AV → Mem → Prop} {l1 s0 s1 : Int} {v : Int} (Hs0 : RoomAt s0) (hM : C_X6_knows sc d2 [aR s0, aI s1] m (some (aI v)) m2) (hd : d2 + 1 ≤ d) (k : S_X7_sews sc d 25 [aR 0, aI l1, aU, aU, aU] [aI v] m2 Q) : S_X7_sews sc d 22 [aR 0, aI l1, aU, aU, aU] [aI s1, aR s0] m Q := x_callV (as := [aI s1]) (rest := []) hM mk_X6_knows mv_X6_knows lk_X7_170 (Or.inl ⟨6, (RX6, TX6, 16), icr_0 Hs0, Nat.le_of_ble_eq_true rfl, rfl, rfl⟩) hd rfl rfl (Nat.le_of_ble_eq_true rfl) dX7_sews_22 rfl k
theorem c_X7_sews_30 {sc : List Int} {d d2 : Nat} {m m2 : Mem} {Q : Option AV → Mem → Prop} {s1 : Int} {v : Int} (hM : C_X7_refuse sc d2 [aR 0, aI s1] m (some (aI v)) m2) (hd : d2 + 1 ≤ d) (k : S_X7_sews sc d 33 [aR 0, aU, aU, aU, aU] [aI v] m2 Q) : S_X7_sews sc d 30 [aR 0, aU, aU, aU, aU] [aI s1, aR 0] m Q := x_callV (as := [aI s1]) (rest := []) hM mk_X7_refuse mv_X7_refuse lk_X7_74 (Or.inl ⟨7, (RX7, TX7, 14), ic_0, Nat.le_of_ble_eq_true rfl, rfl, rfl⟩) hd rfl rfl (Nat.le_of_ble_eq_true rfl) dX7_sews_30 rfl k
theorem c_X7_sews_48 {sc : List Int} {d d2 : Nat} {m m2 : Mem} {Q : Option AV → Mem → Prop} {l1 s1 s2 : Int} (Hs1 : RoomAt s1) (hM : C_X0_prepare sc d2 [aR 37, aR s1, aI s2] m none m2) (hd : d2 + 1 ≤ d) (k : S_X7_sews sc d 51 [aR 0, aI l1, aU, aU, aU] [] m2 Q) : S_X7_sews sc d 48 [aR 0, aI l1, aU, aU, aU] [aI s2, aR s1, aR 37] m Q := x_callV (as := [aR s1, aI s2]) (rest := []) hM mk_X0_prepare mv_X0_prepare lk_X7_177 (Or.inl ⟨0, (RX0, TX0, 2), ic_37, Nat.le_of_ble_eq_true rfl, rfl, rfl⟩) hd rfl rfl (Nat.le_of_ble_eq_true rfl) dX7_sews_48 rfl k
theorem c_X7_sews_55 {sc : List Int} {d d2 : Nat} {m m2 : Mem} {Q : Option AV → Mem → Prop} {l1 : Int} (hM : C_X2_keep sc d2 [aR 57] m none m2) (hd : d2 + 1 ≤ d) (k : S_X7_sews sc d 58 [aR 0, aI l1, aU, aU, aU] [] m2 Q) : S_X7_sews sc d 55 [aR 0, aI l1, aU, aU, aU] [aR 57] m Q := x_callV (as := []) (rest := []) hM mk_X2_keep mv_X2_keep lk_X7_264 (Or.inl ⟨2, (RX2, TX2, 9), ic_57, Nat.le_of_ble_eq_true rfl, rfl, rfl⟩) hd rfl rfl (Nat.le_of_ble_eq_true rfl) dX7_sews_55 rfl k
theorem c_X7_sews_92 {sc : List Int} {d d2 : Nat} {m m2 : Mem} {Q : Option AV → Mem → Prop} {l1 l3 s0 s1 s2 s3 : Int} {v : Int} (Hs1 : RoomAt s1) (hM : C_X6_lookCost sc d2 [aR s1, aI s2, aI s3] m (some (aI v)) m2) (hd : d2 + 1 ≤ d) (k : S_X7_sews sc d 95 [aR 0, aI l1, aU, aI l3, aU] [aI v, aI s0] m2 Q) : S_X7_sews sc d 92 [aR 0, aI l1, aU, aI l3, aU] [aI s3, aI s2, aR s1, aI s0] m Q := x_callV (as := [aI s2, aI s3]) (rest := [aI s0]) hM mk_X6_lookCost mv_X6_lookCost lk_X7_277 (Or.inl ⟨6, (RX6, TX6, 16), icr_0 Hs1, Nat.le_of_ble_eq_true rfl, rfl, rfl⟩) hd rfl rfl (Nat.le_of_ble_eq_true rfl) dX7_sews_92 rfl k
theorem c_X7_sews_121 {sc : List Int} {d d2 : Nat} {m m2 : Mem} {Q : Option AV → Mem → Prop} {l1 l2 l3 s1 s2 s3 s4 s5 : Int} {v : Int} (Hs1 : RoomAt s1) (hM : C_X0_turns sc d2 [aR 37, aR s1, aI s2, aI s3, aI s4, aI s5] m (some (aI v)) m2) (hd : d2 + 1 ≤ d) (k : S_X7_sews sc d 124 [aR 0, aI l1, aI l2, aI l3, aU] [aI v] m2 Q) : S_X7_sews sc d 121 [aR 0, aI l1, aI l2, aI l3, aU] [aI s5, aI s4, aI s3, aI s2, aR s1, aR 37] m Q := x_callV (as := [aR s1, aI s2, aI s3, aI s4, aI s5]) (rest := []) hM mk_X0_turns mv_X0_turns lk_X7_197 (Or.inl ⟨0, (RX0, TX0, 2), ic_37, Nat.le_of_ble_eq_true rfl, rfl, rfl⟩) hd rfl rfl (Nat.le_of_ble_eq_true rfl) dX7_sews_121 rfl k
theorem c_X7_sews_137 {sc : List Int} {d d2 : Nat} {m m2 : Mem} {Q : Option AV → Mem → Prop} {l1 l3 s0 s2 s3 : Int} {v : Int} (Hs2 : RoomAt s2) (hM : C_X2_stitch sc d2 [aR 57, aR s2, aI s3] m (some (aI v)) m2) (hd : d2 + 1 ≤ d) (k : S_X7_sews sc d 140 [aR 0, aI l1, aU, aI l3, aU] [aI v, aI s0] m2 Q) : S_X7_sews sc d 137 [aR 0, aI l1, aU, aI l3, aU] [aI s3, aR s2, aR 57, aI s0] m Q := x_callV (as := [aR s2, aI s3]) (rest := [aI s0]) hM mk_X2_stitch mv_X2_stitch lk_X7_267 (Or.inl ⟨2, (RX2, TX2, 9), ic_57, Nat.le_of_ble_eq_true rfl, rfl, rfl⟩) hd rfl rfl (Nat.le_of_ble_eq_true rfl) dX7_sews_137 rfl k
theorem c_X7_sews_153 {sc : List Int} {d d2 : Nat} {m m2 : Mem} {Q : Option AV → Mem → Prop} {l2 s1 : Int} (hM : C_X2_pay sc d2 [aR 57, aI s1] m none m2) (hd : d2 + 1 ≤ d) (k : S_X7_sews sc d 156 [aR 0, aU, aI l2, aU, aU] [] m2 Q) : S_X7_sews sc d 153 [aR 0, aU, aI l2, aU, aU] [aI s1, aR 57] m Q := x_callV (as := [aI s1]) (rest := []) hM mk_X2_pay mv_X2_pay lk_X7_271 (Or.inl ⟨2, (RX2, TX2, 9), ic_57, Nat.le_of_ble_eq_true rfl, rfl, rfl⟩) hd rfl rfl (Nat.le_of_ble_eq_true rfl) dX7_sews_153 rfl k
set_option maxRecDepth 4000 in
theorem g_X7_anew_0 {sc : List Int} {d : Nat} {m : Mem} {Q : Option AV → Mem → Prop} (k : (RoomAt (m 0 2)) ∧ (-2147483648 ≤ (m (m 0 2) 15) ∧ (m (m 0 2) 15) < 2147483648) ∧ (((m (m 0 2) 15) ≠ 0) → (S_X7_anew sc d 20 [aR 0] [aR 57] m Q)) ∧ (¬ ((m (m 0 2) 15) ≠ 0) → (S_X7_anew sc d 12 [aR 0] [aI 2, aR 0] m Q))) : S_X7_anew sc d 0 [aR 0] [] m Q := by
  refine x_aload_n (pc2 := 1) dX7_anew_0 rfl rfl ?_
  refine x_getf (pc2 := 4) (v := aR (m 0 2)) fl_X7_16 ic_0 (fv_m _ ic_0 rfl) dX7_anew_1 rfl ?_
  obtain ⟨h1, k⟩ := k
  refine x_getf (pc2 := 7) (v := aI (m (m 0 2) 15)) fl_X7_100 (icr_0 h1) (fv_i _ (icr_0 h1) rfl) dX7_anew_4 rfl ?_
  obtain ⟨h2, k⟩ := k
  obtain ⟨k1, k2⟩ := k
  refine x_if_ne (tgt := 16) (pc2 := 10) dX7_anew_7 (by decide) rfl h2 (fun c3 => ?_) (fun c3 => ?_)
  · replace k := k1 c3
    refine x_aload_n (pc2 := 17) dX7_anew_16 rfl rfl ?_
    refine x_getf (pc2 := 20) (v := aR 57) fl_X7_54 ic_0 (vr_0_8 _) dX7_anew_17 rfl ?_
    exact k
  · replace k := k2 c3
    refine x_aload_n (pc2 := 11) dX7_anew_10 rfl rfl ?_
    refine x_iconst (pc2 := 12) dX7_anew_11 rfl ?_
    exact k
set_option maxRecDepth 4000 in
theorem g_X7_anew_15 {sc : List Int} {d : Nat} {m : Mem} {Q : Option AV → Mem → Prop} {s0 : Int} (k : Q (some (aI s0)) m) : S_X7_anew sc d 15 [aR 0] [aI s0] m Q := by
  exact x_ireturn dX7_anew_15 ⟨.int, rfl, rfl⟩ k
set_option maxRecDepth 4000 in
theorem g_X7_anew_23 {sc : List Int} {d : Nat} {m : Mem} {Q : Option AV → Mem → Prop} (k : S_X7_anew sc d 35 [aR 0] [aR (m 0 2), aR 57, aR 57] m Q) : S_X7_anew sc d 23 [aR 0] [] m Q := by
  refine x_aload_n (pc2 := 24) dX7_anew_23 rfl rfl ?_
  refine x_getf (pc2 := 27) (v := aR 57) fl_X7_54 ic_0 (vr_0_8 _) dX7_anew_24 rfl ?_
  refine x_aload_n (pc2 := 28) dX7_anew_27 rfl rfl ?_
  refine x_getf (pc2 := 31) (v := aR 57) fl_X7_54 ic_0 (vr_0_8 _) dX7_anew_28 rfl ?_
  refine x_aload_n (pc2 := 32) dX7_anew_31 rfl rfl ?_
  refine x_getf (pc2 := 35) (v := aR (m 0 2)) fl_X7_16 ic_0 (fv_m _ ic_0 rfl) dX7_anew_32 rfl ?_
  exact k
set_option maxRecDepth 4000 in
theorem g_X7_anew_38 {sc : List Int} {d : Nat} {m : Mem} {Q : Option AV → Mem → Prop} {s1 : Int} (k : S_X7_anew sc d 38 [aR 0] [aI s1, aR 57] m Q) : S_X7_anew sc d 38 [aR 0] [aI s1, aR 57] m Q := by
  exact k
set_option maxRecDepth 4000 in
theorem g_X7_anew_41 {sc : List Int} {d : Nat} {m : Mem} {Q : Option AV → Mem → Prop} (k : Q (some (aI (m 57 2))) m) : S_X7_anew sc d 41 [aR 0] [] m Q := by
  refine x_aload_n (pc2 := 42) dX7_anew_41 rfl rfl ?_
  refine x_getf (pc2 := 45) (v := aR 57) fl_X7_54 ic_0 (vr_0_8 _) dX7_anew_42 rfl ?_
  refine x_getf (pc2 := 48) (v := aI (m 57 2)) fl_X7_274 ic_57 (fv_i _ ic_57 rfl) dX7_anew_45 rfl ?_
  exact x_ireturn dX7_anew_48 ⟨.int, rfl, rfl⟩ k
theorem c_X7_anew_12 {sc : List Int} {d d2 : Nat} {m m2 : Mem} {Q : Option AV → Mem → Prop} {s1 : Int} {v : Int} (hM : C_X7_refuse sc d2 [aR 0, aI s1] m (some (aI v)) m2) (hd : d2 + 1 ≤ d) (k : S_X7_anew sc d 15 [aR 0] [aI v] m2 Q) : S_X7_anew sc d 12 [aR 0] [aI s1, aR 0] m Q := x_callV (as := [aI s1]) (rest := []) hM mk_X7_refuse mv_X7_refuse lk_X7_74 (Or.inl ⟨7, (RX7, TX7, 14), ic_0, Nat.le_of_ble_eq_true rfl, rfl, rfl⟩) hd rfl rfl (Nat.le_of_ble_eq_true rfl) dX7_anew_12 rfl k
theorem c_X7_anew_20 {sc : List Int} {d d2 : Nat} {m m2 : Mem} {Q : Option AV → Mem → Prop} (hM : C_X2_keep sc d2 [aR 57] m none m2) (hd : d2 + 1 ≤ d) (k : S_X7_anew sc d 23 [aR 0] [] m2 Q) : S_X7_anew sc d 20 [aR 0] [aR 57] m Q := x_callV (as := []) (rest := []) hM mk_X2_keep mv_X2_keep lk_X7_264 (Or.inl ⟨2, (RX2, TX2, 9), ic_57, Nat.le_of_ble_eq_true rfl, rfl, rfl⟩) hd rfl rfl (Nat.le_of_ble_eq_true rfl) dX7_anew_20 rfl k
theorem c_X7_anew_35 {sc : List Int} {d d2 : Nat} {m m2 : Mem} {Q : Option AV → Mem → Prop} {s2 : Int} {v : Int} (Hs2 : RoomAt s2) (hM : C_X2_draw sc d2 [aR 57, aR s2] m (some (aI v)) m2) (hd : d2 + 1 ≤ d) (k : S_X7_anew sc d 38 [aR 0] [aI v, aR 57] m2 Q) : S_X7_anew sc d 35 [aR 0] [aR s2, aR 57, aR 57] m Q := x_callV (as := [aR s2]) (rest := [aR 57]) hM mk_X2_draw mv_X2_draw lk_X7_280 (Or.inl ⟨2, (RX2, TX2, 9), ic_57, Nat.le_of_ble_eq_true rfl, rfl, rfl⟩) hd rfl rfl (Nat.le_of_ble_eq_true rfl) dX7_anew_35 rfl k
theorem c_X7_anew_38 {sc : List Int} {d d2 : Nat} {m m2 : Mem} {Q : Option AV → Mem → Prop} {s1 : Int} (hM : C_X2_restart sc d2 [aR 57, aI s1] m none m2) (hd : d2 + 1 ≤ d) (k : S_X7_anew sc d 41 [aR 0] [] m2 Q) : S_X7_anew sc d 38 [aR 0] [aI s1, aR 57] m Q := x_callV (as := [aI s1]) (rest := []) hM mk_X2_restart mv_X2_restart lk_X7_284 (Or.inl ⟨2, (RX2, TX2, 9), ic_57, Nat.le_of_ble_eq_true rfl, rfl, rfl⟩) hd rfl rfl (Nat.le_of_ble_eq_true rfl) dX7_anew_38 rfl k
set_option maxRecDepth 4000 in
theorem g_X7_undo_0 {sc : List Int} {d : Nat} {m : Mem} {Q : Option AV → Mem → Prop} (k : (-2147483648 ≤ (m 57 8) ∧ (m 57 8) < 2147483648) ∧ (((m 57 8) ≠ 0) → (S_X7_undo sc d 22 [aR 0] [aR 57] m Q)) ∧ (¬ ((m 57 8) ≠ 0) → (S_X7_undo sc d 12 [aR 0] [aI 3, aR 0] m Q))) : S_X7_undo sc d 0 [aR 0] [] m Q := by
  refine x_aload_n (pc2 := 1) dX7_undo_0 rfl rfl ?_
  refine x_getf (pc2 := 4) (v := aR 57) fl_X7_54 ic_0 (vr_0_8 _) dX7_undo_1 rfl ?_
  refine x_getf (pc2 := 7) (v := aI (m 57 8)) fl_X7_121 ic_57 (fv_i _ ic_57 rfl) dX7_undo_4 rfl ?_
  obtain ⟨h1, k⟩ := k
  obtain ⟨k1, k2⟩ := k
  refine x_if_ne (tgt := 18) (pc2 := 10) dX7_undo_7 (by decide) rfl h1 (fun c2 => ?_) (fun c2 => ?_)
  · replace k := k1 c2
    refine x_aload_n (pc2 := 19) dX7_undo_18 rfl rfl ?_
    refine x_getf (pc2 := 22) (v := aR 57) fl_X7_54 ic_0 (vr_0_8 _) dX7_undo_19 rfl ?_
    exact k
  · replace k := k2 c2
    refine x_aload_n (pc2 := 11) dX7_undo_10 rfl rfl ?_
    refine x_iconst (pc2 := 12) dX7_undo_11 rfl ?_
    exact k
set_option maxRecDepth 4000 in
theorem g_X7_undo_15 {sc : List Int} {d : Nat} {m : Mem} {Q : Option AV → Mem → Prop} {s0 : Int} (k : Q (some (aI 0)) m) : S_X7_undo sc d 15 [aR 0] [aI s0] m Q := by
  refine x_pop_i (pc2 := 16) dX7_undo_15 rfl ?_
  refine x_iconst (pc2 := 17) dX7_undo_16 rfl ?_
  exact x_ireturn dX7_undo_17 ⟨.boolean, rfl, rfl⟩ k
set_option maxRecDepth 4000 in
theorem g_X7_undo_25 {sc : List Int} {d : Nat} {m : Mem} {Q : Option AV → Mem → Prop} (k : Q (some (aI 1)) m) : S_X7_undo sc d 25 [aR 0] [] m Q := by
  refine x_iconst (pc2 := 26) dX7_undo_25 rfl ?_
  exact x_ireturn dX7_undo_26 ⟨.boolean, rfl, rfl⟩ k
theorem c_X7_undo_12 {sc : List Int} {d d2 : Nat} {m m2 : Mem} {Q : Option AV → Mem → Prop} {s1 : Int} {v : Int} (hM : C_X7_refuse sc d2 [aR 0, aI s1] m (some (aI v)) m2) (hd : d2 + 1 ≤ d) (k : S_X7_undo sc d 15 [aR 0] [aI v] m2 Q) : S_X7_undo sc d 12 [aR 0] [aI s1, aR 0] m Q := x_callV (as := [aI s1]) (rest := []) hM mk_X7_refuse mv_X7_refuse lk_X7_74 (Or.inl ⟨7, (RX7, TX7, 14), ic_0, Nat.le_of_ble_eq_true rfl, rfl, rfl⟩) hd rfl rfl (Nat.le_of_ble_eq_true rfl) dX7_undo_12 rfl k
theorem c_X7_undo_22 {sc : List Int} {d d2 : Nat} {m m2 : Mem} {Q : Option AV → Mem → Prop} (hM : C_X2_back sc d2 [aR 57] m none m2) (hd : d2 + 1 ≤ d) (k : S_X7_undo sc d 25 [aR 0] [] m2 Q) : S_X7_undo sc d 22 [aR 0] [aR 57] m Q := x_callV (as := []) (rest := []) hM mk_X2_back mv_X2_back lk_X7_287 (Or.inl ⟨2, (RX2, TX2, 9), ic_57, Nat.le_of_ble_eq_true rfl, rfl, rfl⟩) hd rfl rfl (Nat.le_of_ble_eq_true rfl) dX7_undo_22 rfl k
set_option maxRecDepth 4000 in
theorem g_X7_seed_0 {sc : List Int} {d : Nat} {m : Mem} {Q : Option AV → Mem → Prop} {l1 : Int} (k : (-2147483648 ≤ l1 ∧ l1 < 2147483648) ∧ ((0 ≤ l1) → (Q (some (aI 1)) (wr m 57 6 l1))) ∧ (¬ (0 ≤ l1) → (S_X7_seed sc d 6 [aR 0, aU] [aI 4, aR 0] m Q))) : S_X7_seed sc d 0 [aR 0, aI l1] [] m Q := by
  refine x_iload_n (pc2 := 1) dX7_seed_0 rfl rfl ?_
  obtain ⟨h1, k⟩ := k
  obtain ⟨k1, k2⟩ := k
  refine x_if_ge (tgt := 12) (pc2 := 4) dX7_seed_1 (by decide) rfl h1 (fun c2 => ?_) (fun c2 => ?_)
  · replace k := k1 c2
    refine x_aload_n (pc2 := 13) dX7_seed_12 rfl rfl ?_
    refine x_getf (pc2 := 16) (v := aR 57) fl_X7_54 ic_0 (vr_0_8 _) dX7_seed_13 rfl ?_
    refine x_iload_n (pc2 := 17) dX7_seed_16 rfl rfl ?_
    refine x_putf (pc2 := 20) (x := l1) fl_X7_290 ft_2_6 ic_57 (pv_i _ ic_57 rfl) (pn_i _) dX7_seed_17 rfl ?_
    refine x_iconst (pc2 := 21) dX7_seed_20 rfl ?_
    exact x_ireturn dX7_seed_21 ⟨.boolean, rfl, rfl⟩ k
  · replace k := k2 c2
    refine x_aload_n (pc2 := 5) dX7_seed_4 rfl rfl ?_
    refine x_iconst (pc2 := 6) dX7_seed_5 rfl ?_
    exact x_drop (drp_k (drp_u drp_n)) k
set_option maxRecDepth 4000 in
theorem g_X7_seed_9 {sc : List Int} {d : Nat} {m : Mem} {Q : Option AV → Mem → Prop} {s0 : Int} (k : Q (some (aI 0)) m) : S_X7_seed sc d 9 [aR 0, aU] [aI s0] m Q := by
  refine x_pop_i (pc2 := 10) dX7_seed_9 rfl ?_
  refine x_iconst (pc2 := 11) dX7_seed_10 rfl ?_
  exact x_ireturn dX7_seed_11 ⟨.boolean, rfl, rfl⟩ k
theorem c_X7_seed_6 {sc : List Int} {d d2 : Nat} {m m2 : Mem} {Q : Option AV → Mem → Prop} {s1 : Int} {v : Int} (hM : C_X7_refuse sc d2 [aR 0, aI s1] m (some (aI v)) m2) (hd : d2 + 1 ≤ d) (k : S_X7_seed sc d 9 [aR 0, aU] [aI v] m2 Q) : S_X7_seed sc d 6 [aR 0, aU] [aI s1, aR 0] m Q := x_callV (as := [aI s1]) (rest := []) hM mk_X7_refuse mv_X7_refuse lk_X7_74 (Or.inl ⟨7, (RX7, TX7, 14), ic_0, Nat.le_of_ble_eq_true rfl, rfl, rfl⟩) hd rfl rfl (Nat.le_of_ble_eq_true rfl) dX7_seed_6 rfl k
set_option maxRecDepth 4000 in
theorem g_X7_see_0 {sc : List Int} {d : Nat} {m : Mem} {Q : Option AV → Mem → Prop} (k : S_X7_see sc d 12 [aR 0, aI (m 0 1)] [aI (m 0 1), aR 0] (wr m 0 1 0) Q) : S_X7_see sc d 0 [aR 0, aU] [] m Q := by
  refine x_aload_n (pc2 := 1) dX7_see_0 rfl rfl ?_
  refine x_getf (pc2 := 4) (v := aI (m 0 1)) fl_X7_70 ic_0 (fv_i _ ic_0 rfl) dX7_see_1 rfl ?_
  refine x_istore_n (pc2 := 5) (ls2 := [aR 0, aI (m 0 1)]) dX7_see_4 rfl (by decide) rfl ?_
  refine x_aload_n (pc2 := 6) dX7_see_5 rfl rfl ?_
  refine x_iconst (pc2 := 7) dX7_see_6 rfl ?_
  refine x_putf (pc2 := 10) (x := 0) fl_X7_70 ft_7_1 ic_0 (pv_i _ ic_0 rfl) (pn_i _) dX7_see_7 rfl ?_
  refine x_aload_n (pc2 := 11) dX7_see_10 rfl rfl ?_
  refine x_iload_n (pc2 := 12) dX7_see_11 rfl rfl ?_
  exact k
set_option maxRecDepth 4000 in
theorem g_X7_see_15 {sc : List Int} {d : Nat} {m : Mem} {Q : Option AV → Mem → Prop} {l1 s0 : Int} (k : (-2147483648 ≤ s0 ∧ s0 < 2147483648) ∧ ((s0 ≠ 0) → ((-2147483648 ≤ l1 ∧ l1 < 2147483648) ∧ (0 ≤ l1) ∧ (1 ≤ d) ∧ (0 + l1 ≤ 40) ∧ (0 + l1 ≤ 1600) ∧ Q (some (aI ((acp (wr m 0 10 (l1.tdiv 2)) ((wr m 0 10 (l1.tdiv 2)) 1) 0 59 0 l1) 0 10))) (acp (wr m 0 10 (l1.tdiv 2)) ((wr m 0 10 (l1.tdiv 2)) 1) 0 59 0 l1))) ∧ (¬ (s0 ≠ 0) → (S_X7_see sc d 20 [aR 0, aU] [aI 1, aR 0] m Q))) : S_X7_see sc d 15 [aR 0, aI l1] [aI s0] m Q := by
  obtain ⟨h1, k⟩ := k
  obtain ⟨k1, k2⟩ := k
  refine x_if_ne (tgt := 24) (pc2 := 18) dX7_see_15 (by decide) rfl h1 (fun c2 => ?_) (fun c2 => ?_)
  · replace k := k1 c2
    refine x_aload_n (pc2 := 25) dX7_see_24 rfl rfl ?_
    refine x_iload_n (pc2 := 26) dX7_see_25 rfl rfl ?_
    refine x_iconst (pc2 := 27) dX7_see_26 rfl ?_
    obtain ⟨h3, k⟩ := k
    refine x_idiv (pc2 := 28) dX7_see_27 rfl h3 (by decide) (by decide) ?_
    refine x_putf (pc2 := 31) (x := (l1.tdiv 2)) fl_X7_97 ft_7_10 ic_0 (pv_i _ ic_0 rfl) (pn_i _) dX7_see_28 rfl ?_
    refine x_aload_n (pc2 := 32) dX7_see_31 rfl rfl ?_
    refine x_getf (pc2 := 35) (v := aR 1) fl_X7_9 ic_0 (vr_0_0 _) dX7_see_32 rfl ?_
    refine x_iconst (pc2 := 36) dX7_see_35 rfl ?_
    refine x_aload_n (pc2 := 37) dX7_see_36 rfl rfl ?_
    refine x_getf (pc2 := 40) (v := aR 59) fl_X7_58 ic_0 (vr_0_9 _) dX7_see_37 rfl ?_
    refine x_iconst (pc2 := 41) dX7_see_40 rfl ?_
    refine x_iload_n (pc2 := 42) dX7_see_41 rfl rfl ?_
    obtain ⟨h4, k⟩ := k
    obtain ⟨h5, k⟩ := k
    obtain ⟨h6, k⟩ := k
    obtain ⟨h7, k⟩ := k
    refine x_acopy (pc2 := 45) ac_X7_296 acw ic_1 ic_59 (by decide) (by decide) h4 (by rw [al_1]; exact h7) (by rw [al_59]; exact h6) h5 (Nat.le_of_ble_eq_true rfl) dX7_see_42 rfl ?_
    refine x_aload_n (pc2 := 46) dX7_see_45 rfl rfl ?_
    refine x_getf (pc2 := 49) (v := aI ((acp (wr m 0 10 (l1.tdiv 2)) ((wr m 0 10 (l1.tdiv 2)) 1) 0 59 0 l1) 0 10)) fl_X7_97 ic_0 (fv_i _ ic_0 rfl) dX7_see_46 rfl ?_
    exact x_ireturn dX7_see_49 ⟨.int, rfl, rfl⟩ k
  · replace k := k2 c2
    refine x_aload_n (pc2 := 19) dX7_see_18 rfl rfl ?_
    refine x_iconst (pc2 := 20) dX7_see_19 rfl ?_
    exact x_drop (drp_k (drp_u drp_n)) k
set_option maxRecDepth 4000 in
theorem g_X7_see_23 {sc : List Int} {d : Nat} {m : Mem} {Q : Option AV → Mem → Prop} {s0 : Int} (k : Q (some (aI s0)) m) : S_X7_see sc d 23 [aR 0, aU] [aI s0] m Q := by
  exact x_ireturn dX7_see_23 ⟨.int, rfl, rfl⟩ k
theorem c_X7_see_12 {sc : List Int} {d d2 : Nat} {m m2 : Mem} {Q : Option AV → Mem → Prop} {l1 s1 : Int} {v : Int} (hM : C_X7_tellsRows sc d2 [aR 0, aI s1] m (some (aI v)) m2) (hd : d2 + 1 ≤ d) (k : S_X7_see sc d 15 [aR 0, aI l1] [aI v] m2 Q) : S_X7_see sc d 12 [aR 0, aI l1] [aI s1, aR 0] m Q := x_callV (as := [aI s1]) (rest := []) hM mk_X7_tellsRows mv_X7_tellsRows lk_X7_293 (Or.inl ⟨7, (RX7, TX7, 14), ic_0, Nat.le_of_ble_eq_true rfl, rfl, rfl⟩) hd rfl rfl (Nat.le_of_ble_eq_true rfl) dX7_see_12 rfl k
theorem c_X7_see_20 {sc : List Int} {d d2 : Nat} {m m2 : Mem} {Q : Option AV → Mem → Prop} {s1 : Int} {v : Int} (hM : C_X7_refuse sc d2 [aR 0, aI s1] m (some (aI v)) m2) (hd : d2 + 1 ≤ d) (k : S_X7_see sc d 23 [aR 0, aU] [aI v] m2 Q) : S_X7_see sc d 20 [aR 0, aU] [aI s1, aR 0] m Q := x_callV (as := [aI s1]) (rest := []) hM mk_X7_refuse mv_X7_refuse lk_X7_74 (Or.inl ⟨7, (RX7, TX7, 14), ic_0, Nat.le_of_ble_eq_true rfl, rfl, rfl⟩) hd rfl rfl (Nat.le_of_ble_eq_true rfl) dX7_see_20 rfl k
set_option maxRecDepth 4000 in
theorem g_X7_tellsRows_0 {sc : List Int} {d : Nat} {m : Mem} {Q : Option AV → Mem → Prop} {l1 : Int} (k : (-2147483648 ≤ l1 ∧ l1 < 2147483648) ∧ ((l1 < 2) → (Q (some (aI 0)) m)) ∧ (¬ (l1 < 2) → (((40 < l1) → (Q (some (aI 0)) m)) ∧ (¬ (40 < l1) → ((-2147483648 ≤ (l1.tmod 2) ∧ (l1.tmod 2) < 2147483648) ∧ (((l1.tmod 2) = 0) → (S_X7_tellsRows sc d 21 [aR 0, aI l1, aI 0] [] m Q)) ∧ (¬ ((l1.tmod 2) = 0) → (Q (some (aI 0)) m))))))) : S_X7_tellsRows sc d 0 [aR 0, aI l1, aU] [] m Q := by
  refine x_iload_n (pc2 := 1) dX7_tellsRows_0 rfl rfl ?_
  refine x_iconst (pc2 := 2) dX7_tellsRows_1 rfl ?_
  obtain ⟨h1, k⟩ := k
  obtain ⟨k1, k2⟩ := k
  refine x_icmp_lt (tgt := 17) (pc2 := 5) dX7_tellsRows_2 (by decide) rfl h1 (by decide) (fun c2 => ?_) (fun c2 => ?_)
  · replace k := k1 c2
    refine x_iconst (pc2 := 18) dX7_tellsRows_17 rfl ?_
    exact x_ireturn dX7_tellsRows_18 ⟨.boolean, rfl, rfl⟩ k
  · replace k := k2 c2
    refine x_iload_n (pc2 := 6) dX7_tellsRows_5 rfl rfl ?_
    refine x_bipush (pc2 := 8) dX7_tellsRows_6 rfl rfl ?_
    obtain ⟨k1, k2⟩ := k
    refine x_icmp_gt (tgt := 17) (pc2 := 11) dX7_tellsRows_8 (by decide) rfl h1 (by decide) (fun c3 => ?_) (fun c3 => ?_)
    · replace k := k1 c3
      refine x_iconst (pc2 := 18) dX7_tellsRows_17 rfl ?_
      exact x_ireturn dX7_tellsRows_18 ⟨.boolean, rfl, rfl⟩ k
    · replace k := k2 c3
      refine x_iload_n (pc2 := 12) dX7_tellsRows_11 rfl rfl ?_
      refine x_iconst (pc2 := 13) dX7_tellsRows_12 rfl ?_
      refine x_irem (pc2 := 14) dX7_tellsRows_13 rfl h1 (by decide) (by decide) ?_
      obtain ⟨h4, k⟩ := k
      obtain ⟨k1, k2⟩ := k
      refine x_if_eq (tgt := 19) (pc2 := 17) dX7_tellsRows_14 (by decide) rfl h4 (fun c5 => ?_) (fun c5 => ?_)
      · replace k := k1 c5
        refine x_iconst (pc2 := 20) dX7_tellsRows_19 rfl ?_
        refine x_istore_n (pc2 := 21) (ls2 := [aR 0, aI l1, aI 0]) dX7_tellsRows_20 rfl (by decide) rfl ?_
        exact k
      · replace k := k2 c5
        refine x_iconst (pc2 := 18) dX7_tellsRows_17 rfl ?_
        exact x_ireturn dX7_tellsRows_18 ⟨.boolean, rfl, rfl⟩ k
set_option maxRecDepth 4000 in
theorem g_X7_tellsRows_21 {sc : List Int} {d : Nat} {m : Mem} {Q : Option AV → Mem → Prop} {l1 l2 : Int} (k : (-2147483648 ≤ l2 ∧ l2 < 2147483648) ∧ (-2147483648 ≤ l1 ∧ l1 < 2147483648) ∧ ((l1 ≤ l2) → (Q (some (aI 1)) m)) ∧ (¬ (l1 ≤ l2) → ((0 ≤ l2) ∧ (l2 < 1600) ∧ (RoomAt (m 0 2)) ∧ (-2147483648 ≤ (m 1 l2) ∧ (m 1 l2) < 2147483648) ∧ (-2147483648 ≤ (m (m 0 2) 8) ∧ (m (m 0 2) 8) < 2147483648) ∧ (((m (m 0 2) 8) ≤ (m 1 l2)) → (Q (some (aI 0)) m)) ∧ (¬ ((m (m 0 2) 8) ≤ (m 1 l2)) → ((0 ≤ (l2 + 1)) ∧ ((l2 + 1) < 1600) ∧ (-2147483648 ≤ (m 1 (l2 + 1)) ∧ (m 1 (l2 + 1)) < 2147483648) ∧ (((m 1 (l2 + 1)) ≤ 1) → (S_X7_tellsRows sc d 21 [aR 0, aI l1, aI (l2 + 2)] [] m Q)) ∧ (¬ ((m 1 (l2 + 1)) ≤ 1) → (Q (some (aI 0)) m))))))) : S_X7_tellsRows sc d 21 [aR 0, aI l1, aI l2] [] m Q := by
  refine x_iload_n (pc2 := 22) dX7_tellsRows_21 rfl rfl ?_
  refine x_iload_n (pc2 := 23) dX7_tellsRows_22 rfl rfl ?_
  obtain ⟨h1, k⟩ := k
  obtain ⟨h2, k⟩ := k
  obtain ⟨k1, k2⟩ := k
  refine x_icmp_ge (tgt := 62) (pc2 := 26) dX7_tellsRows_23 (by decide) rfl h1 h2 (fun c3 => ?_) (fun c3 => ?_)
  · replace k := k1 c3
    refine x_iconst (pc2 := 63) dX7_tellsRows_62 rfl ?_
    exact x_ireturn dX7_tellsRows_63 ⟨.boolean, rfl, rfl⟩ k
  · replace k := k2 c3
    refine x_aload_n (pc2 := 27) dX7_tellsRows_26 rfl rfl ?_
    refine x_getf (pc2 := 30) (v := aR 1) fl_X7_9 ic_0 (vr_0_0 _) dX7_tellsRows_27 rfl ?_
    refine x_iload_n (pc2 := 31) dX7_tellsRows_30 rfl rfl ?_
    obtain ⟨h4, k⟩ := k
    obtain ⟨h5, k⟩ := k
    refine x_iald (pc2 := 32) ic_1 h4 (by rw [al_1]; exact h5) dX7_tellsRows_31 rfl ?_
    refine x_aload_n (pc2 := 33) dX7_tellsRows_32 rfl rfl ?_
    refine x_getf (pc2 := 36) (v := aR (m 0 2)) fl_X7_16 ic_0 (fv_m _ ic_0 rfl) dX7_tellsRows_33 rfl ?_
    obtain ⟨h6, k⟩ := k
    refine x_getf (pc2 := 39) (v := aI (m (m 0 2) 8)) fl_X7_112 (icr_0 h6) (fv_i _ (icr_0 h6) rfl) dX7_tellsRows_36 rfl ?_
    obtain ⟨h7, k⟩ := k
    obtain ⟨h8, k⟩ := k
    obtain ⟨k1, k2⟩ := k
    refine x_icmp_ge (tgt := 54) (pc2 := 42) dX7_tellsRows_39 (by decide) rfl h7 h8 (fun c9 => ?_) (fun c9 => ?_)
    · replace k := k1 c9
      refine x_iconst (pc2 := 55) dX7_tellsRows_54 rfl ?_
      exact x_ireturn dX7_tellsRows_55 ⟨.boolean, rfl, rfl⟩ k
    · replace k := k2 c9
      refine x_aload_n (pc2 := 43) dX7_tellsRows_42 rfl rfl ?_
      refine x_getf (pc2 := 46) (v := aR 1) fl_X7_9 ic_0 (vr_0_0 _) dX7_tellsRows_43 rfl ?_
      refine x_iload_n (pc2 := 47) dX7_tellsRows_46 rfl rfl ?_
      refine x_iconst (pc2 := 48) dX7_tellsRows_47 rfl ?_
      refine x_iadd (pc2 := 49) dX7_tellsRows_48 rfl ?_
      obtain ⟨h10, k⟩ := k
      obtain ⟨h11, k⟩ := k
      refine x_iald (pc2 := 50) ic_1 h10 (by rw [al_1]; exact h11) dX7_tellsRows_49 rfl ?_
      refine x_iconst (pc2 := 51) dX7_tellsRows_50 rfl ?_
      obtain ⟨h12, k⟩ := k
      obtain ⟨k1, k2⟩ := k
      refine x_icmp_le (tgt := 56) (pc2 := 54) dX7_tellsRows_51 (by decide) rfl h12 (by decide) (fun c13 => ?_) (fun c13 => ?_)
      · replace k := k1 c13
        refine x_iinc (pc2 := 59) (ls2 := [aR 0, aI l1, aI (l2 + 2)]) dX7_tellsRows_56 rfl rfl (by decide) rfl ?_
        refine x_goto (tgt := 21) dX7_tellsRows_59 (by decide) ?_
        exact k
      · replace k := k2 c13
        refine x_iconst (pc2 := 55) dX7_tellsRows_54 rfl ?_
        exact x_ireturn dX7_tellsRows_55 ⟨.boolean, rfl, rfl⟩ k
set_option maxRecDepth 4000 in
theorem g_X7_fits_0 {sc : List Int} {d : Nat} {m : Mem} {Q : Option AV → Mem → Prop} {l1 : Int} (k : (-2147483648 ≤ (m 0 10) ∧ (m 0 10) < 2147483648) ∧ (((m 0 10) = 0) → (Q (some (aI (-1))) m)) ∧ (¬ ((m 0 10) = 0) → ((-2147483648 ≤ l1 ∧ l1 < 2147483648) ∧ ((l1 < 0) → (Q (some (aI (-1))) m)) ∧ (¬ (l1 < 0) → (((l1 ≤ 2) → (S_X7_fits sc d 30 [aR 0, aI l1, aI 0, aI (-1), aI (-1), aU] [aR (m 0 2), aI 1] m Q)) ∧ (¬ (l1 ≤ 2) → (Q (some (aI (-1))) m))))))) : S_X7_fits sc d 0 [aR 0, aI l1, aU, aU, aU, aU] [] m Q := by
  refine x_aload_n (pc2 := 1) dX7_fits_0 rfl rfl ?_
  refine x_getf (pc2 := 4) (v := aI (m 0 10)) fl_X7_97 ic_0 (fv_i _ ic_0 rfl) dX7_fits_1 rfl ?_
  obtain ⟨h1, k⟩ := k
  obtain ⟨k1, k2⟩ := k
  refine x_if_eq (tgt := 16) (pc2 := 7) dX7_fits_4 (by decide) rfl h1 (fun c2 => ?_) (fun c2 => ?_)
  · replace k := k1 c2
    refine x_iconst (pc2 := 17) dX7_fits_16 rfl ?_
    exact x_ireturn dX7_fits_17 ⟨.int, rfl, rfl⟩ k
  · replace k := k2 c2
    refine x_iload_n (pc2 := 8) dX7_fits_7 rfl rfl ?_
    obtain ⟨h3, k⟩ := k
    obtain ⟨k1, k2⟩ := k
    refine x_if_lt (tgt := 16) (pc2 := 11) dX7_fits_8 (by decide) rfl h3 (fun c4 => ?_) (fun c4 => ?_)
    · replace k := k1 c4
      refine x_iconst (pc2 := 17) dX7_fits_16 rfl ?_
      exact x_ireturn dX7_fits_17 ⟨.int, rfl, rfl⟩ k
    · replace k := k2 c4
      refine x_iload_n (pc2 := 12) dX7_fits_11 rfl rfl ?_
      refine x_iconst (pc2 := 13) dX7_fits_12 rfl ?_
      obtain ⟨k1, k2⟩ := k
      refine x_icmp_le (tgt := 18) (pc2 := 16) dX7_fits_13 (by decide) rfl h3 (by decide) (fun c5 => ?_) (fun c5 => ?_)
      · replace k := k1 c5
        refine x_iconst (pc2 := 19) dX7_fits_18 rfl ?_
        refine x_istore_n (pc2 := 20) (ls2 := [aR 0, aI l1, aI 0, aU, aU, aU]) dX7_fits_19 rfl (by decide) rfl ?_
        refine x_iconst (pc2 := 21) dX7_fits_20 rfl ?_
        refine x_istore_n (pc2 := 22) (ls2 := [aR 0, aI l1, aI 0, aI (-1), aU, aU]) dX7_fits_21 rfl (by decide) rfl ?_
        refine x_iconst (pc2 := 23) dX7_fits_22 rfl ?_
        refine x_istore (pc2 := 25) (ls2 := [aR 0, aI l1, aI 0, aI (-1), aI (-1), aU]) dX7_fits_23 rfl (by decide) rfl ?_
        refine x_iconst (pc2 := 26) dX7_fits_25 rfl ?_
        refine x_aload_n (pc2 := 27) dX7_fits_26 rfl rfl ?_
        refine x_getf (pc2 := 30) (v := aR (m 0 2)) fl_X7_16 ic_0 (fv_m _ ic_0 rfl) dX7_fits_27 rfl ?_
        exact k
      · replace k := k2 c5
        refine x_iconst (pc2 := 17) dX7_fits_16 rfl ?_
        exact x_ireturn dX7_fits_17 ⟨.int, rfl, rfl⟩ k
set_option maxRecDepth 4000 in
theorem g_X7_fits_33 {sc : List Int} {d : Nat} {m : Mem} {Q : Option AV → Mem → Prop} {l1 l2 l3 l4 s0 s1 : Int} (k : S_X7_fits sc d 33 [aR 0, aI l1, aI l2, aI l3, aI l4, aU] [aI s1, aI s0] m Q) : S_X7_fits sc d 33 [aR 0, aI l1, aI l2, aI l3, aI l4, aU] [aI s1, aI s0] m Q := by
  exact k
set_option maxRecDepth 4000 in
theorem g_X7_fits_36 {sc : List Int} {d : Nat} {m : Mem} {Q : Option AV → Mem → Prop} {l1 l2 l3 l4 s0 : Int} (k : S_X7_fits sc d 38 [aR 0, aI l1, aI l2, aI l3, aI l4, aI s0] [] m Q) : S_X7_fits sc d 36 [aR 0, aI l1, aI l2, aI l3, aI l4, aU] [aI s0] m Q := by
  refine x_istore (pc2 := 38) (ls2 := [aR 0, aI l1, aI l2, aI l3, aI l4, aI s0]) dX7_fits_36 rfl (by decide) rfl ?_
  exact k
set_option maxRecDepth 4000 in
theorem g_X7_fits_38 {sc : List Int} {d : Nat} {m : Mem} {Q : Option AV → Mem → Prop} {l1 l2 l3 l4 l5 : Int} (k : (-2147483648 ≤ l5 ∧ l5 < 2147483648) ∧ ((99 < l5) → ((-2147483648 ≤ l1 ∧ l1 < 2147483648) ∧ ((l1 ≠ 0) → (Q (some (aI (if l1 ≠ 1 then l4 else l3 : Int))) m)) ∧ (¬ (l1 ≠ 0) → (Q (some (aI l2)) m)))) ∧ (¬ (99 < l5) → (S_X7_fits sc d 48 [aR 0, aI l1, aI l2, aI l3, aI l4, aI l5] [aI l5, aR 0] m Q))) : S_X7_fits sc d 38 [aR 0, aI l1, aI l2, aI l3, aI l4, aI l5] [] m Q := by
  refine x_iload (pc2 := 40) dX7_fits_38 rfl rfl ?_
  refine x_bipush (pc2 := 42) dX7_fits_40 rfl rfl ?_
  obtain ⟨h1, k⟩ := k
  obtain ⟨k1, k2⟩ := k
  refine x_icmp_gt (tgt := 79) (pc2 := 45) dX7_fits_42 (by decide) rfl h1 (by decide) (fun c2 => ?_) (fun c2 => ?_)
  · replace k := k1 c2
    refine x_iload_n (pc2 := 80) dX7_fits_79 rfl rfl ?_
    obtain ⟨h3, k⟩ := k
    obtain ⟨k1, k2⟩ := k
    refine x_if_ne (tgt := 85) (pc2 := 83) dX7_fits_80 (by decide) rfl h3 (fun c4 => ?_) (fun c4 => ?_)
    · replace k := k1 c4
      refine x_iload_n (pc2 := 86) dX7_fits_85 rfl rfl ?_
      refine x_iconst (pc2 := 87) dX7_fits_86 rfl ?_
      have kj : S_X7_fits sc d 96 [aR 0, aI l1, aI l2, aI l3, aI l4, aI l5] [aI (if l1 ≠ 1 then l4 else l3 : Int)] m Q := by
        exact x_ireturn dX7_fits_96 ⟨.int, rfl, rfl⟩ k
      refine x_icmp_ne (tgt := 94) (pc2 := 90) dX7_fits_87 (by decide) rfl h3 (by decide) (fun c5 => ?_) (fun c5 => ?_)
      · skip
        refine x_iload (pc2 := 96) dX7_fits_94 rfl rfl ?_
        exact x_topI (v := (if l1 ≠ 1 then l4 else l3 : Int)) (if_pos c5) kj
      · skip
        refine x_iload_n (pc2 := 91) dX7_fits_90 rfl rfl ?_
        refine x_goto (tgt := 96) dX7_fits_91 (by decide) ?_
        exact x_topI (v := (if l1 ≠ 1 then l4 else l3 : Int)) (if_neg c5) kj
    · replace k := k2 c4
      refine x_iload_n (pc2 := 84) dX7_fits_83 rfl rfl ?_
      exact x_ireturn dX7_fits_84 ⟨.int, rfl, rfl⟩ k
  · replace k := k2 c2
    refine x_aload_n (pc2 := 46) dX7_fits_45 rfl rfl ?_
    refine x_iload (pc2 := 48) dX7_fits_46 rfl rfl ?_
    exact k
set_option maxRecDepth 4000 in
theorem g_X7_fits_51 {sc : List Int} {d : Nat} {m : Mem} {Q : Option AV → Mem → Prop} {l1 l2 l3 l4 l5 s0 : Int} (k : (-2147483648 ≤ s0 ∧ s0 < 2147483648) ∧ ((s0 = 0) → (S_X7_fits sc d 38 [aR 0, aI l1, aI l2, aI l3, aI l4, aI (l5 + 1)] [] m Q)) ∧ (¬ (s0 = 0) → (((-2147483648 ≤ l3 ∧ l3 < 2147483648)) ∧ S_X7_fits sc d 38 [aR 0, aI l1, aI (l2 + 1), aI (if l3 ≠ (-1) then l3 else l5 : Int), aI l5, aI (l5 + 1)] [] m Q))) : S_X7_fits sc d 51 [aR 0, aI l1, aI l2, aI l3, aI l4, aI l5] [aI s0] m Q := by
  obtain ⟨h1, k⟩ := k
  obtain ⟨k1, k2⟩ := k
  refine x_if_eq (tgt := 73) (pc2 := 54) dX7_fits_51 (by decide) rfl h1 (fun c2 => ?_) (fun c2 => ?_)
  · replace k := k1 c2
    refine x_iinc (pc2 := 76) (ls2 := [aR 0, aI l1, aI l2, aI l3, aI l4, aI (l5 + 1)]) dX7_fits_73 rfl rfl (by decide) rfl ?_
    refine x_goto (tgt := 38) dX7_fits_76 (by decide) ?_
    exact k
  · replace k := k2 c2
    refine x_iinc (pc2 := 57) (ls2 := [aR 0, aI l1, aI (l2 + 1), aI l3, aI l4, aI l5]) dX7_fits_54 rfl rfl (by decide) rfl ?_
    refine x_iload (pc2 := 59) dX7_fits_57 rfl rfl ?_
    refine x_istore (pc2 := 61) (ls2 := [aR 0, aI l1, aI (l2 + 1), aI l3, aI l5, aI l5]) dX7_fits_59 rfl (by decide) rfl ?_
    refine x_iload_n (pc2 := 62) dX7_fits_61 rfl rfl ?_
    refine x_iconst (pc2 := 63) dX7_fits_62 rfl ?_
    obtain ⟨g4, k⟩ := k
    have kj : S_X7_fits sc d 72 [aR 0, aI l1, aI (l2 + 1), aI l3, aI l5, aI l5] [aI (if l3 ≠ (-1) then l3 else l5 : Int)] m Q := by
      refine x_istore_n (pc2 := 73) (ls2 := [aR 0, aI l1, aI (l2 + 1), aI (if l3 ≠ (-1) then l3 else l5 : Int), aI l5, aI l5]) dX7_fits_72 rfl (by decide) rfl ?_
      refine x_iinc (pc2 := 76) (ls2 := [aR 0, aI l1, aI (l2 + 1), aI (if l3 ≠ (-1) then l3 else l5 : Int), aI l5, aI (l5 + 1)]) dX7_fits_73 rfl rfl (by decide) rfl ?_
      refine x_goto (tgt := 38) dX7_fits_76 (by decide) ?_
      exact k
    have h5 := g4 
    refine x_icmp_ne (tgt := 71) (pc2 := 66) dX7_fits_63 (by decide) rfl h5 (by decide) (fun c6 => ?_) (fun c6 => ?_)
    · skip
      refine x_iload_n (pc2 := 72) dX7_fits_71 rfl rfl ?_
      exact x_topI (v := (if l3 ≠ (-1) then l3 else l5 : Int)) (if_pos c6) kj
    · skip
      refine x_iload (pc2 := 68) dX7_fits_66 rfl rfl ?_
      refine x_goto (tgt := 72) dX7_fits_68 (by decide) ?_
      exact x_topI (v := (if l3 ≠ (-1) then l3 else l5 : Int)) (if_neg c6) kj
theorem c_X7_fits_30 {sc : List Int} {d d2 : Nat} {m m2 : Mem} {Q : Option AV → Mem → Prop} {l1 l2 l3 l4 s0 s1 : Int} {v : Int} (Hs1 : RoomAt s1) (hM : C_X6_longest sc d2 [aR s1] m (some (aI v)) m2) (hd : d2 + 1 ≤ d) (k : S_X7_fits sc d 33 [aR 0, aI l1, aI l2, aI l3, aI l4, aU] [aI v, aI s0] m2 Q) : S_X7_fits sc d 30 [aR 0, aI l1, aI l2, aI l3, aI l4, aU] [aR s1, aI s0] m Q := x_callV (as := []) (rest := [aI s0]) hM mk_X6_longest mv_X6_longest lk_X7_243 (Or.inl ⟨6, (RX6, TX6, 16), icr_0 Hs1, Nat.le_of_ble_eq_true rfl, rfl, rfl⟩) hd rfl rfl (Nat.le_of_ble_eq_true rfl) dX7_fits_30 rfl k
theorem c_X7_fits_33 {sc : List Int} {d d2 : Nat} {m m2 : Mem} {Q : Option AV → Mem → Prop} {l1 l2 l3 l4 s0 s1 : Int} {v : Int} (hM : C_J9_max_7cf53 sc d2 [aI s0, aI s1] m (some (aI v)) m2) (hd : d2 + 1 ≤ d) (k : S_X7_fits sc d 36 [aR 0, aI l1, aI l2, aI l3, aI l4, aU] [aI v] m2 Q) : S_X7_fits sc d 33 [aR 0, aI l1, aI l2, aI l3, aI l4, aU] [aI s1, aI s0] m Q := x_callS (as := [aI s0, aI s1]) (rest := []) hM mk_J9_max_7cf53 ms_J9_max_7cf53 lk_X7_247 hd rfl rfl (Nat.le_of_ble_eq_true rfl) dX7_fits_33 rfl k
theorem c_X7_fits_48 {sc : List Int} {d d2 : Nat} {m m2 : Mem} {Q : Option AV → Mem → Prop} {l1 l2 l3 l4 l5 s1 : Int} {v : Int} (hM : C_X7_agrees sc d2 [aR 0, aI s1] m (some (aI v)) m2) (hd : d2 + 1 ≤ d) (k : S_X7_fits sc d 51 [aR 0, aI l1, aI l2, aI l3, aI l4, aI l5] [aI v] m2 Q) : S_X7_fits sc d 48 [aR 0, aI l1, aI l2, aI l3, aI l4, aI l5] [aI s1, aR 0] m Q := x_callV (as := [aI s1]) (rest := []) hM mk_X7_agrees mv_X7_agrees lk_X7_302 (Or.inl ⟨7, (RX7, TX7, 14), ic_0, Nat.le_of_ble_eq_true rfl, rfl, rfl⟩) hd rfl rfl (Nat.le_of_ble_eq_true rfl) dX7_fits_48 rfl k
set_option maxRecDepth 4000 in
theorem g_X7_agrees_0 {sc : List Int} {d : Nat} {m : Mem} {Q : Option AV → Mem → Prop} {l1 : Int} (k : S_X7_agrees sc d 9 [aR 0, aU, aU] [aI l1, aR (m 0 2), aR 44] m Q) : S_X7_agrees sc d 0 [aR 0, aI l1, aU] [] m Q := by
  refine x_aload_n (pc2 := 1) dX7_agrees_0 rfl rfl ?_
  refine x_getf (pc2 := 4) (v := aR 44) fl_X7_47 ic_0 (vr_0_7 _) dX7_agrees_1 rfl ?_
  refine x_aload_n (pc2 := 5) dX7_agrees_4 rfl rfl ?_
  refine x_getf (pc2 := 8) (v := aR (m 0 2)) fl_X7_16 ic_0 (fv_m _ ic_0 rfl) dX7_agrees_5 rfl ?_
  refine x_iload_n (pc2 := 9) dX7_agrees_8 rfl rfl ?_
  exact x_drop (drp_k (drp_u (drp_k drp_n))) k
set_option maxRecDepth 4000 in
theorem g_X7_agrees_12 {sc : List Int} {d : Nat} {m : Mem} {Q : Option AV → Mem → Prop} (k : S_X7_agrees sc d 14 [aR 0, aU, aI 0] [] m Q) : S_X7_agrees sc d 12 [aR 0, aU, aU] [] m Q := by
  refine x_iconst (pc2 := 13) dX7_agrees_12 rfl ?_
  refine x_istore_n (pc2 := 14) (ls2 := [aR 0, aU, aI 0]) dX7_agrees_13 rfl (by decide) rfl ?_
  exact k
set_option maxRecDepth 4000 in
theorem g_X7_agrees_14 {sc : List Int} {d : Nat} {m : Mem} {Q : Option AV → Mem → Prop} {l2 : Int} (k : (-2147483648 ≤ l2 ∧ l2 < 2147483648) ∧ (-2147483648 ≤ (2 * (m 0 10)) ∧ (2 * (m 0 10)) < 2147483648) ∧ (((2 * (m 0 10)) ≤ l2) → (Q (some (aI 1)) m)) ∧ (¬ ((2 * (m 0 10)) ≤ l2) → ((0 ≤ l2) ∧ (l2 < 40) ∧ (0 ≤ (m 59 l2)) ∧ ((m 59 l2) < 10) ∧ (0 ≤ (l2 + 1)) ∧ ((l2 + 1) < 40) ∧ (-2147483648 ≤ (m 45 (m 59 l2)) ∧ (m 45 (m 59 l2)) < 2147483648) ∧ (-2147483648 ≤ (m 59 (l2 + 1)) ∧ (m 59 (l2 + 1)) < 2147483648) ∧ (((m 45 (m 59 l2)) = (m 59 (l2 + 1))) → (S_X7_agrees sc d 14 [aR 0, aU, aI (l2 + 2)] [] m Q)) ∧ (¬ ((m 45 (m 59 l2)) = (m 59 (l2 + 1))) → (Q (some (aI 0)) m))))) : S_X7_agrees sc d 14 [aR 0, aU, aI l2] [] m Q := by
  refine x_iload_n (pc2 := 15) dX7_agrees_14 rfl rfl ?_
  refine x_iconst (pc2 := 16) dX7_agrees_15 rfl ?_
  refine x_aload_n (pc2 := 17) dX7_agrees_16 rfl rfl ?_
  refine x_getf (pc2 := 20) (v := aI (m 0 10)) fl_X7_97 ic_0 (fv_i _ ic_0 rfl) dX7_agrees_17 rfl ?_
  refine x_imul (pc2 := 21) dX7_agrees_20 rfl ?_
  obtain ⟨h1, k⟩ := k
  obtain ⟨h2, k⟩ := k
  obtain ⟨k1, k2⟩ := k
  refine x_icmp_ge (tgt := 57) (pc2 := 24) dX7_agrees_21 (by decide) rfl h1 h2 (fun c3 => ?_) (fun c3 => ?_)
  · replace k := k1 c3
    refine x_iconst (pc2 := 58) dX7_agrees_57 rfl ?_
    exact x_ireturn dX7_agrees_58 ⟨.boolean, rfl, rfl⟩ k
  · replace k := k2 c3
    refine x_aload_n (pc2 := 25) dX7_agrees_24 rfl rfl ?_
    refine x_getf (pc2 := 28) (v := aR 44) fl_X7_47 ic_0 (vr_0_7 _) dX7_agrees_25 rfl ?_
    refine x_getf (pc2 := 31) (v := aR 45) fl_X7_210 ic_44 (vr_44_0 _) dX7_agrees_28 rfl ?_
    refine x_aload_n (pc2 := 32) dX7_agrees_31 rfl rfl ?_
    refine x_getf (pc2 := 35) (v := aR 59) fl_X7_58 ic_0 (vr_0_9 _) dX7_agrees_32 rfl ?_
    refine x_iload_n (pc2 := 36) dX7_agrees_35 rfl rfl ?_
    obtain ⟨h4, k⟩ := k
    obtain ⟨h5, k⟩ := k
    refine x_iald (pc2 := 37) ic_59 h4 (by rw [al_59]; exact h5) dX7_agrees_36 rfl ?_
    obtain ⟨h6, k⟩ := k
    obtain ⟨h7, k⟩ := k
    refine x_iald (pc2 := 38) ic_45 h6 (by rw [al_45]; exact h7) dX7_agrees_37 rfl ?_
    refine x_aload_n (pc2 := 39) dX7_agrees_38 rfl rfl ?_
    refine x_getf (pc2 := 42) (v := aR 59) fl_X7_58 ic_0 (vr_0_9 _) dX7_agrees_39 rfl ?_
    refine x_iload_n (pc2 := 43) dX7_agrees_42 rfl rfl ?_
    refine x_iconst (pc2 := 44) dX7_agrees_43 rfl ?_
    refine x_iadd (pc2 := 45) dX7_agrees_44 rfl ?_
    obtain ⟨h8, k⟩ := k
    obtain ⟨h9, k⟩ := k
    refine x_iald (pc2 := 46) ic_59 h8 (by rw [al_59]; exact h9) dX7_agrees_45 rfl ?_
    obtain ⟨h10, k⟩ := k
    obtain ⟨h11, k⟩ := k
    obtain ⟨k1, k2⟩ := k
    refine x_icmp_eq (tgt := 51) (pc2 := 49) dX7_agrees_46 (by decide) rfl h10 h11 (fun c12 => ?_) (fun c12 => ?_)
    · replace k := k1 c12
      refine x_iinc (pc2 := 54) (ls2 := [aR 0, aU, aI (l2 + 2)]) dX7_agrees_51 rfl rfl (by decide) rfl ?_
      refine x_goto (tgt := 14) dX7_agrees_54 (by decide) ?_
      exact k
    · replace k := k2 c12
      refine x_iconst (pc2 := 50) dX7_agrees_49 rfl ?_
      exact x_ireturn dX7_agrees_50 ⟨.boolean, rfl, rfl⟩ k
theorem c_X7_agrees_9 {sc : List Int} {d d2 : Nat} {m m2 : Mem} {Q : Option AV → Mem → Prop} {s1 s2 : Int} (Hs1 : RoomAt s1) (hM : C_X4_inOrder sc d2 [aR 44, aR s1, aI s2] m none m2) (hd : d2 + 1 ≤ d) (k : S_X7_agrees sc d 12 [aR 0, aU, aU] [] m2 Q) : S_X7_agrees sc d 9 [aR 0, aU, aU] [aI s2, aR s1, aR 44] m Q := x_callV (as := [aR s1, aI s2]) (rest := []) hM mk_X4_inOrder mv_X4_inOrder lk_X7_204 (Or.inl ⟨4, (RX4, TX4, 19), ic_44, Nat.le_of_ble_eq_true rfl, rfl, rfl⟩) hd rfl rfl (Nat.le_of_ble_eq_true rfl) dX7_agrees_9 rfl k
set_option maxRecDepth 4000 in
theorem g_X7_ask_0 {sc : List Int} {d : Nat} {m : Mem} {Q : Option AV → Mem → Prop} {l1 l2 : Int} (k : S_X7_ask sc d 15 [aR 0, aI l1, aI l2, aI (m 0 1), aU, aU, aU, aU, aU, aU] [aI l1, aR ((wr m 0 1 0) 0 2)] (wr m 0 1 0) Q) : S_X7_ask sc d 0 [aR 0, aI l1, aI l2, aU, aU, aU, aU, aU, aU, aU] [] m Q := by
  refine x_aload_n (pc2 := 1) dX7_ask_0 rfl rfl ?_
  refine x_getf (pc2 := 4) (v := aI (m 0 1)) fl_X7_70 ic_0 (fv_i _ ic_0 rfl) dX7_ask_1 rfl ?_
  refine x_istore_n (pc2 := 5) (ls2 := [aR 0, aI l1, aI l2, aI (m 0 1), aU, aU, aU, aU, aU, aU]) dX7_ask_4 rfl (by decide) rfl ?_
  refine x_aload_n (pc2 := 6) dX7_ask_5 rfl rfl ?_
  refine x_iconst (pc2 := 7) dX7_ask_6 rfl ?_
  refine x_putf (pc2 := 10) (x := 0) fl_X7_70 ft_7_1 ic_0 (pv_i _ ic_0 rfl) (pn_i _) dX7_ask_7 rfl ?_
  refine x_aload_n (pc2 := 11) dX7_ask_10 rfl rfl ?_
  refine x_getf (pc2 := 14) (v := aR ((wr m 0 1 0) 0 2)) fl_X7_16 ic_0 (fv_m _ ic_0 rfl) dX7_ask_11 rfl ?_
  refine x_iload_n (pc2 := 15) dX7_ask_14 rfl rfl ?_
  exact k
set_option maxRecDepth 4000 in
theorem g_X7_ask_18 {sc : List Int} {d : Nat} {m : Mem} {Q : Option AV → Mem → Prop} {l1 l2 l3 s0 : Int} (k : (-2147483648 ≤ s0 ∧ s0 < 2147483648) ∧ ((s0 = 0) → (Q (some (aJ (-1000000000000000))) m)) ∧ (¬ (s0 = 0) → (S_X7_ask sc d 22 [aR 0, aI l1, aI l2, aI l3, aU, aU, aU, aU, aU, aU] [aI l2] m Q))) : S_X7_ask sc d 18 [aR 0, aI l1, aI l2, aI l3, aU, aU, aU, aU, aU, aU] [aI s0] m Q := by
  obtain ⟨h1, k⟩ := k
  obtain ⟨k1, k2⟩ := k
  refine x_if_eq (tgt := 28) (pc2 := 21) dX7_ask_18 (by decide) rfl h1 (fun c2 => ?_) (fun c2 => ?_)
  · replace k := k1 c2
    refine x_ldc2 (pc2 := 31) (x := (-1000000000000000)) kc_X7_305 rfl dX7_ask_28 rfl ?_
    exact x_lreturn dX7_ask_31 rfl k
  · replace k := k2 c2
    refine x_iload_n (pc2 := 22) dX7_ask_21 rfl rfl ?_
    exact k
set_option maxRecDepth 4000 in
theorem g_X7_ask_25 {sc : List Int} {d : Nat} {m : Mem} {Q : Option AV → Mem → Prop} {l1 l2 l3 s0 : Int} (k : (-2147483648 ≤ s0 ∧ s0 < 2147483648) ∧ ((s0 ≠ 0) → (S_X7_ask sc d 41 [aR 0, aI l1, aI l2, aU, aU, aU, aU, aU, aU, aU] [aI l3, aR 1, aR 32] m Q)) ∧ (¬ (s0 ≠ 0) → (Q (some (aJ (-1000000000000000))) m))) : S_X7_ask sc d 25 [aR 0, aI l1, aI l2, aI l3, aU, aU, aU, aU, aU, aU] [aI s0] m Q := by
  obtain ⟨h1, k⟩ := k
  obtain ⟨k1, k2⟩ := k
  refine x_if_ne (tgt := 32) (pc2 := 28) dX7_ask_25 (by decide) rfl h1 (fun c2 => ?_) (fun c2 => ?_)
  · replace k := k1 c2
    refine x_aload_n (pc2 := 33) dX7_ask_32 rfl rfl ?_
    refine x_getf (pc2 := 36) (v := aR 32) fl_X7_26 ic_0 (vr_0_4 _) dX7_ask_33 rfl ?_
    refine x_aload_n (pc2 := 37) dX7_ask_36 rfl rfl ?_
    refine x_getf (pc2 := 40) (v := aR 1) fl_X7_9 ic_0 (vr_0_0 _) dX7_ask_37 rfl ?_
    refine x_iload_n (pc2 := 41) dX7_ask_40 rfl rfl ?_
    exact x_drop (drp_k (drp_k (drp_k (drp_u (drp_k (drp_k (drp_k (drp_k (drp_k (drp_k drp_n)))))))))) k
  · replace k := k2 c2
    refine x_ldc2 (pc2 := 31) (x := (-1000000000000000)) kc_X7_305 rfl dX7_ask_28 rfl ?_
    exact x_lreturn dX7_ask_31 rfl k
set_option maxRecDepth 4000 in
theorem g_X7_ask_44 {sc : List Int} {d : Nat} {m : Mem} {Q : Option AV → Mem → Prop} {l1 l2 s0 : Int} (k : (-2147483648 ≤ (m 32 7) ∧ (m 32 7) < 2147483648) ∧ (((m 32 7) ≠ 0) → (Q (some (aJ (-1000000000000000))) m)) ∧ (¬ ((m 32 7) ≠ 0) → (S_X7_ask sc d 59 [aR 0, aU, aU, aU, aI s0, aU, aU, aU, aU, aU] [aI l2, aI l1, aR 0] m Q))) : S_X7_ask sc d 44 [aR 0, aI l1, aI l2, aU, aU, aU, aU, aU, aU, aU] [aI s0] m Q := by
  refine x_istore (pc2 := 46) (ls2 := [aR 0, aI l1, aI l2, aU, aI s0, aU, aU, aU, aU, aU]) dX7_ask_44 rfl (by decide) rfl ?_
  refine x_aload_n (pc2 := 47) dX7_ask_46 rfl rfl ?_
  refine x_getf (pc2 := 50) (v := aR 32) fl_X7_26 ic_0 (vr_0_4 _) dX7_ask_47 rfl ?_
  refine x_getf (pc2 := 53) (v := aI (m 32 7)) fl_X7_86 ic_32 (fv_i _ ic_32 rfl) dX7_ask_50 rfl ?_
  obtain ⟨h1, k⟩ := k
  obtain ⟨k1, k2⟩ := k
  refine x_if_ne (tgt := 65) (pc2 := 56) dX7_ask_53 (by decide) rfl h1 (fun c2 => ?_) (fun c2 => ?_)
  · replace k := k1 c2
    refine x_ldc2 (pc2 := 68) (x := (-1000000000000000)) kc_X7_305 rfl dX7_ask_65 rfl ?_
    exact x_lreturn dX7_ask_68 rfl k
  · replace k := k2 c2
    refine x_aload_n (pc2 := 57) dX7_ask_56 rfl rfl ?_
    refine x_iload_n (pc2 := 58) dX7_ask_57 rfl rfl ?_
    refine x_iload_n (pc2 := 59) dX7_ask_58 rfl rfl ?_
    exact x_drop (drp_k (drp_u (drp_u (drp_k (drp_k (drp_k (drp_k (drp_k (drp_k (drp_k drp_n)))))))))) k
set_option maxRecDepth 4000 in
theorem g_X7_ask_62 {sc : List Int} {d : Nat} {m : Mem} {Q : Option AV → Mem → Prop} {l4 s0 : Int} (k : (-2147483648 ≤ s0 ∧ s0 < 2147483648) ∧ ((s0 ≠ 0) → (((-2147483648 ≤ l4 ∧ l4 < 2147483648)) ∧ ((-2147483648 ≤ l4 ∧ l4 < 2147483648)) ∧ S_X7_ask sc d 123 [aR 0, aU, aU, aU, aI l4, aI (if l4 = 30 then 1 else (if l4 = 31 then 1 else (if l4 ≠ 32 then 0 else 1 : Int) : Int) : Int), aJ (if l4 = 30 then (-1) else (if l4 ≠ 31 then 0 else (-1) : Int) : Int), aU, aI 0, aU] [] m Q)) ∧ (¬ (s0 ≠ 0) → (Q (some (aJ (-1000000000000000))) m))) : S_X7_ask sc d 62 [aR 0, aU, aU, aU, aI l4, aU, aU, aU, aU, aU] [aI s0] m Q := by
  obtain ⟨h1, k⟩ := k
  obtain ⟨k1, k2⟩ := k
  refine x_if_ne (tgt := 69) (pc2 := 65) dX7_ask_62 (by decide) rfl h1 (fun c2 => ?_) (fun c2 => ?_)
  · replace k := k1 c2
    refine x_iload (pc2 := 71) dX7_ask_69 rfl rfl ?_
    refine x_bipush (pc2 := 73) dX7_ask_71 rfl rfl ?_
    obtain ⟨g4, k⟩ := k
    have kj : S_X7_ask sc d 95 [aR 0, aU, aU, aU, aI l4, aU, aU, aU, aU, aU] [aI (if l4 = 30 then 1 else (if l4 = 31 then 1 else (if l4 ≠ 32 then 0 else 1 : Int) : Int) : Int)] m Q := by
      refine x_istore (pc2 := 97) (ls2 := [aR 0, aU, aU, aU, aI l4, aI (if l4 = 30 then 1 else (if l4 = 31 then 1 else (if l4 ≠ 32 then 0 else 1 : Int) : Int) : Int), aU, aU, aU, aU]) dX7_ask_95 rfl (by decide) rfl ?_
      refine x_iload (pc2 := 99) dX7_ask_97 rfl rfl ?_
      refine x_bipush (pc2 := 101) dX7_ask_99 rfl rfl ?_
      obtain ⟨g6, k⟩ := k
      have kj : S_X7_ask sc d 118 [aR 0, aU, aU, aU, aI l4, aI (if l4 = 30 then 1 else (if l4 = 31 then 1 else (if l4 ≠ 32 then 0 else 1 : Int) : Int) : Int), aU, aU, aU, aU] [aJ (if l4 = 30 then (-1) else (if l4 ≠ 31 then 0 else (-1) : Int) : Int)] m Q := by
        refine x_lstore (pc2 := 120) (ls2 := [aR 0, aU, aU, aU, aI l4, aI (if l4 = 30 then 1 else (if l4 = 31 then 1 else (if l4 ≠ 32 then 0 else 1 : Int) : Int) : Int), aJ (if l4 = 30 then (-1) else (if l4 ≠ 31 then 0 else (-1) : Int) : Int), aU, aU, aU]) dX7_ask_118 rfl (by decide) rfl ?_
        refine x_iconst (pc2 := 121) dX7_ask_120 rfl ?_
        refine x_istore (pc2 := 123) (ls2 := [aR 0, aU, aU, aU, aI l4, aI (if l4 = 30 then 1 else (if l4 = 31 then 1 else (if l4 ≠ 32 then 0 else 1 : Int) : Int) : Int), aJ (if l4 = 30 then (-1) else (if l4 ≠ 31 then 0 else (-1) : Int) : Int), aU, aI 0, aU]) dX7_ask_121 rfl (by decide) rfl ?_
        exact k
      have h7 := g6 
      refine x_icmp_eq (tgt := 111) (pc2 := 104) dX7_ask_101 (by decide) rfl h7 (by decide) (fun c8 => ?_) (fun c8 => ?_)
      · skip
        refine x_ldc2 (pc2 := 114) (x := (-1)) kc_X7_311 rfl dX7_ask_111 rfl ?_
        refine x_goto (tgt := 118) dX7_ask_114 (by decide) ?_
        exact x_topJ (v := (if l4 = 30 then (-1) else (if l4 ≠ 31 then 0 else (-1) : Int) : Int)) (if_pos c8) kj
      · skip
        refine x_iload (pc2 := 106) dX7_ask_104 rfl rfl ?_
        refine x_bipush (pc2 := 108) dX7_ask_106 rfl rfl ?_
        refine x_icmp_ne (tgt := 117) (pc2 := 111) dX7_ask_108 (by decide) rfl h7 (by decide) (fun c9 => ?_) (fun c9 => ?_)
        · skip
          refine x_lconst (pc2 := 118) (v := 0) dX7_ask_117 rfl rfl ?_
          exact x_topJ (v := (if l4 = 30 then (-1) else (if l4 ≠ 31 then 0 else (-1) : Int) : Int)) ((if_neg c8).trans (if_pos c9)) kj
        · skip
          refine x_ldc2 (pc2 := 114) (x := (-1)) kc_X7_311 rfl dX7_ask_111 rfl ?_
          refine x_goto (tgt := 118) dX7_ask_114 (by decide) ?_
          exact x_topJ (v := (if l4 = 30 then (-1) else (if l4 ≠ 31 then 0 else (-1) : Int) : Int)) ((if_neg c8).trans (if_neg c9)) kj
    have h10 := g4 
    refine x_icmp_eq (tgt := 90) (pc2 := 76) dX7_ask_73 (by decide) rfl h10 (by decide) (fun c11 => ?_) (fun c11 => ?_)
    · skip
      refine x_iconst (pc2 := 91) dX7_ask_90 rfl ?_
      refine x_goto (tgt := 95) dX7_ask_91 (by decide) ?_
      exact x_topI (v := (if l4 = 30 then 1 else (if l4 = 31 then 1 else (if l4 ≠ 32 then 0 else 1 : Int) : Int) : Int)) (if_pos c11) kj
    · skip
      refine x_iload (pc2 := 78) dX7_ask_76 rfl rfl ?_
      refine x_bipush (pc2 := 80) dX7_ask_78 rfl rfl ?_
      refine x_icmp_eq (tgt := 90) (pc2 := 83) dX7_ask_80 (by decide) rfl h10 (by decide) (fun c12 => ?_) (fun c12 => ?_)
      · skip
        refine x_iconst (pc2 := 91) dX7_ask_90 rfl ?_
        refine x_goto (tgt := 95) dX7_ask_91 (by decide) ?_
        exact x_topI (v := (if l4 = 30 then 1 else (if l4 = 31 then 1 else (if l4 ≠ 32 then 0 else 1 : Int) : Int) : Int)) ((if_neg c11).trans (if_pos c12)) kj
      · skip
        refine x_iload (pc2 := 85) dX7_ask_83 rfl rfl ?_
        refine x_bipush (pc2 := 87) dX7_ask_85 rfl rfl ?_
        refine x_icmp_ne (tgt := 94) (pc2 := 90) dX7_ask_87 (by decide) rfl h10 (by decide) (fun c13 => ?_) (fun c13 => ?_)
        · skip
          refine x_iconst (pc2 := 95) dX7_ask_94 rfl ?_
          exact x_topI (v := (if l4 = 30 then 1 else (if l4 = 31 then 1 else (if l4 ≠ 32 then 0 else 1 : Int) : Int) : Int)) ((if_neg c11).trans ((if_neg c12).trans (if_pos c13))) kj
        · skip
          refine x_iconst (pc2 := 91) dX7_ask_90 rfl ?_
          refine x_goto (tgt := 95) dX7_ask_91 (by decide) ?_
          exact x_topI (v := (if l4 = 30 then 1 else (if l4 = 31 then 1 else (if l4 ≠ 32 then 0 else 1 : Int) : Int) : Int)) ((if_neg c11).trans ((if_neg c12).trans (if_neg c13))) kj
  · replace k := k2 c2
    refine x_ldc2 (pc2 := 68) (x := (-1000000000000000)) kc_X7_305 rfl dX7_ask_65 rfl ?_
    exact x_lreturn dX7_ask_68 rfl k
set_option maxRecDepth 4000 in
theorem g_X7_ask_123 {sc : List Int} {d : Nat} {m : Mem} {Q : Option AV → Mem → Prop} {l4 l5 l6 l8 : Int} (k : (RoomAt (m 0 2)) ∧ (-2147483648 ≤ l8 ∧ l8 < 2147483648) ∧ (-2147483648 ≤ (m (m 0 2) 8) ∧ (m (m 0 2) 8) < 2147483648) ∧ (((m (m 0 2) 8) ≤ l8) → (Q (some (aJ l6)) m)) ∧ (¬ ((m (m 0 2) 8) ≤ l8) → (S_X7_ask sc d 163 [aR 0, aU, aU, aU, aI l4, aI l5, aJ l6, aU, aI l8, aU] [aI l8, aR (m 0 2), aR 39, aI (m 34 2), aI 0, aR 34] m Q))) : S_X7_ask sc d 123 [aR 0, aU, aU, aU, aI l4, aI l5, aJ l6, aU, aI l8, aU] [] m Q := by
  refine x_iload (pc2 := 125) dX7_ask_123 rfl rfl ?_
  refine x_aload_n (pc2 := 126) dX7_ask_125 rfl rfl ?_
  refine x_getf (pc2 := 129) (v := aR (m 0 2)) fl_X7_16 ic_0 (fv_m _ ic_0 rfl) dX7_ask_126 rfl ?_
  obtain ⟨h1, k⟩ := k
  refine x_getf (pc2 := 132) (v := aI (m (m 0 2) 8)) fl_X7_112 (icr_0 h1) (fv_i _ (icr_0 h1) rfl) dX7_ask_129 rfl ?_
  obtain ⟨h2, k⟩ := k
  obtain ⟨h3, k⟩ := k
  obtain ⟨k1, k2⟩ := k
  refine x_icmp_ge (tgt := 232) (pc2 := 135) dX7_ask_132 (by decide) rfl h2 h3 (fun c4 => ?_) (fun c4 => ?_)
  · replace k := k1 c4
    refine x_lload (pc2 := 234) dX7_ask_232 rfl rfl ?_
    exact x_lreturn dX7_ask_234 rfl k
  · replace k := k2 c4
    refine x_aload_n (pc2 := 136) dX7_ask_135 rfl rfl ?_
    refine x_getf (pc2 := 139) (v := aR 32) fl_X7_26 ic_0 (vr_0_4 _) dX7_ask_136 rfl ?_
    refine x_getf (pc2 := 142) (v := aR 34) fl_X7_313 ic_32 (vr_32_10 _) dX7_ask_139 rfl ?_
    refine x_iconst (pc2 := 143) dX7_ask_142 rfl ?_
    refine x_aload_n (pc2 := 144) dX7_ask_143 rfl rfl ?_
    refine x_getf (pc2 := 147) (v := aR 32) fl_X7_26 ic_0 (vr_0_4 _) dX7_ask_144 rfl ?_
    refine x_getf (pc2 := 150) (v := aR 34) fl_X7_313 ic_32 (vr_32_10 _) dX7_ask_147 rfl ?_
    refine x_getf (pc2 := 153) (v := aI (m 34 2)) fl_X7_317 ic_34 (fv_i _ ic_34 rfl) dX7_ask_150 rfl ?_
    refine x_aload_n (pc2 := 154) dX7_ask_153 rfl rfl ?_
    refine x_getf (pc2 := 157) (v := aR 39) fl_X7_40 ic_0 (vr_0_6 _) dX7_ask_154 rfl ?_
    refine x_aload_n (pc2 := 158) dX7_ask_157 rfl rfl ?_
    refine x_getf (pc2 := 161) (v := aR (m 0 2)) fl_X7_16 ic_0 (fv_m _ ic_0 rfl) dX7_ask_158 rfl ?_
    refine x_iload (pc2 := 163) dX7_ask_161 rfl rfl ?_
    exact k
set_option maxRecDepth 4000 in
theorem g_X7_ask_166 {sc : List Int} {d : Nat} {m : Mem} {Q : Option AV → Mem → Prop} {l4 l5 l6 l8 s0 s1 s2 s3 : Int} (Hs0 : FormAt s0) (Hs3 : IsC s3 100) (k : S_X7_ask sc d 170 [aR 0, aU, aU, aU, aI l4, aI l5, aJ l6, aU, aI l8, aU] [aR (m 0 2), aR s3, aI s2, aI s1, aR s0] m Q) : S_X7_ask sc d 166 [aR 0, aU, aU, aU, aI l4, aI l5, aJ l6, aU, aI l8, aU] [aR s3, aI s2, aI s1, aR s0] m Q := by
  refine x_aload_n (pc2 := 167) dX7_ask_166 rfl rfl ?_
  refine x_getf (pc2 := 170) (v := aR (m 0 2)) fl_X7_16 ic_0 (fv_m _ ic_0 rfl) dX7_ask_167 rfl ?_
  exact k
set_option maxRecDepth 4000 in
theorem g_X7_ask_173 {sc : List Int} {d : Nat} {m : Mem} {Q : Option AV → Mem → Prop} {l4 l5 l6 l8 s0 : Int} (k : (-2147483648 ≤ l5 ∧ l5 < 2147483648) ∧ ((l5 = 0) → ((-2147483648 ≤ l8 ∧ l8 < 2147483648) ∧ ((l8 ≠ 0) → (S_X7_ask sc d 221 [aR 0, aU, aU, aU, aI l4, aI l5, aU, aU, aI l8, aU] [aI s0, aJ l6, aI l4] m Q)) ∧ (¬ (l8 ≠ 0) → ((-2147483648 ≤ s0 ∧ s0 < 2147483648) ∧ S_X7_ask sc d 224 [aR 0, aU, aU, aU, aI l4, aI l5, aU, aU, aI l8, aU] [aJ s0] m Q)))) ∧ (¬ (l5 = 0) → ((-2147483648 ≤ s0 ∧ s0 < 2147483648) ∧ ((s0 ≠ 0) → (S_X7_ask sc d 196 [aR 0, aU, aU, aU, aI l4, aI l5, aU, aU, aI l8, aU] [aI l8, aJ l6, aI l4] m Q)) ∧ (¬ (s0 ≠ 0) → (S_X7_ask sc d 199 [aR 0, aU, aU, aU, aI l4, aI l5, aU, aU, aI l8, aU] [aJ l6] m Q))))) : S_X7_ask sc d 173 [aR 0, aU, aU, aU, aI l4, aI l5, aJ l6, aU, aI l8, aU] [aI s0] m Q := by
  refine x_istore (pc2 := 175) (ls2 := [aR 0, aU, aU, aU, aI l4, aI l5, aJ l6, aU, aI l8, aI s0]) dX7_ask_173 rfl (by decide) rfl ?_
  refine x_iload (pc2 := 177) dX7_ask_175 rfl rfl ?_
  obtain ⟨h1, k⟩ := k
  obtain ⟨k1, k2⟩ := k
  refine x_if_eq (tgt := 204) (pc2 := 180) dX7_ask_177 (by decide) rfl h1 (fun c2 => ?_) (fun c2 => ?_)
  · replace k := k1 c2
    refine x_iload (pc2 := 206) dX7_ask_204 rfl rfl ?_
    obtain ⟨h3, k⟩ := k
    obtain ⟨k1, k2⟩ := k
    refine x_if_ne (tgt := 215) (pc2 := 209) dX7_ask_206 (by decide) rfl h3 (fun c4 => ?_) (fun c4 => ?_)
    · replace k := k1 c4
      refine x_iload (pc2 := 217) dX7_ask_215 rfl rfl ?_
      refine x_lload (pc2 := 219) dX7_ask_217 rfl rfl ?_
      refine x_iload (pc2 := 221) dX7_ask_219 rfl rfl ?_
      exact x_drop (drp_k (drp_k (drp_k (drp_k (drp_k (drp_k (drp_u (drp_k (drp_k (drp_u drp_n)))))))))) k
    · replace k := k2 c4
      refine x_iload (pc2 := 211) dX7_ask_209 rfl rfl ?_
      obtain ⟨h5, k⟩ := k
      refine x_i2l (pc2 := 212) dX7_ask_211 rfl h5 ?_
      refine x_goto (tgt := 224) dX7_ask_212 (by decide) ?_
      exact x_drop (drp_k (drp_k (drp_k (drp_k (drp_k (drp_k (drp_u (drp_k (drp_k (drp_u drp_n)))))))))) k
  · replace k := k2 c2
    refine x_iload (pc2 := 182) dX7_ask_180 rfl rfl ?_
    obtain ⟨h6, k⟩ := k
    obtain ⟨k1, k2⟩ := k
    refine x_if_ne (tgt := 190) (pc2 := 185) dX7_ask_182 (by decide) rfl h6 (fun c7 => ?_) (fun c7 => ?_)
    · replace k := k1 c7
      refine x_iload (pc2 := 192) dX7_ask_190 rfl rfl ?_
      refine x_lload (pc2 := 194) dX7_ask_192 rfl rfl ?_
      refine x_iload (pc2 := 196) dX7_ask_194 rfl rfl ?_
      exact x_drop (drp_k (drp_k (drp_k (drp_k (drp_k (drp_k (drp_u (drp_k (drp_k (drp_u drp_n)))))))))) k
    · replace k := k2 c7
      refine x_lload (pc2 := 187) dX7_ask_185 rfl rfl ?_
      refine x_goto (tgt := 199) dX7_ask_187 (by decide) ?_
      exact x_drop (drp_k (drp_k (drp_k (drp_k (drp_k (drp_k (drp_u (drp_k (drp_k (drp_u drp_n)))))))))) k
set_option maxRecDepth 4000 in
theorem g_X7_ask_199 {sc : List Int} {d : Nat} {m : Mem} {Q : Option AV → Mem → Prop} {l4 l5 l8 s0 : Int} (k : S_X7_ask sc d 123 [aR 0, aU, aU, aU, aI l4, aI l5, aJ s0, aU, aI (l8 + 1), aU] [] m Q) : S_X7_ask sc d 199 [aR 0, aU, aU, aU, aI l4, aI l5, aU, aU, aI l8, aU] [aJ s0] m Q := by
  refine x_lstore (pc2 := 201) (ls2 := [aR 0, aU, aU, aU, aI l4, aI l5, aJ s0, aU, aI l8, aU]) dX7_ask_199 rfl (by decide) rfl ?_
  refine x_goto (tgt := 226) dX7_ask_201 (by decide) ?_
  refine x_iinc (pc2 := 229) (ls2 := [aR 0, aU, aU, aU, aI l4, aI l5, aJ s0, aU, aI (l8 + 1), aU]) dX7_ask_226 rfl rfl (by decide) rfl ?_
  refine x_goto (tgt := 123) dX7_ask_229 (by decide) ?_
  exact k
set_option maxRecDepth 4000 in
theorem g_X7_ask_224 {sc : List Int} {d : Nat} {m : Mem} {Q : Option AV → Mem → Prop} {l4 l5 l8 s0 : Int} (k : S_X7_ask sc d 123 [aR 0, aU, aU, aU, aI l4, aI l5, aJ s0, aU, aI (l8 + 1), aU] [] m Q) : S_X7_ask sc d 224 [aR 0, aU, aU, aU, aI l4, aI l5, aU, aU, aI l8, aU] [aJ s0] m Q := by
  refine x_lstore (pc2 := 226) (ls2 := [aR 0, aU, aU, aU, aI l4, aI l5, aJ s0, aU, aI l8, aU]) dX7_ask_224 rfl (by decide) rfl ?_
  refine x_iinc (pc2 := 229) (ls2 := [aR 0, aU, aU, aU, aI l4, aI l5, aJ s0, aU, aI (l8 + 1), aU]) dX7_ask_226 rfl rfl (by decide) rfl ?_
  refine x_goto (tgt := 123) dX7_ask_229 (by decide) ?_
  exact k
theorem c_X7_ask_15 {sc : List Int} {d d2 : Nat} {m m2 : Mem} {Q : Option AV → Mem → Prop} {l1 l2 l3 s0 s1 : Int} {v : Int} (Hs0 : RoomAt s0) (hM : C_X6_knows sc d2 [aR s0, aI s1] m (some (aI v)) m2) (hd : d2 + 1 ≤ d) (k : S_X7_ask sc d 18 [aR 0, aI l1, aI l2, aI l3, aU, aU, aU, aU, aU, aU] [aI v] m2 Q) : S_X7_ask sc d 15 [aR 0, aI l1, aI l2, aI l3, aU, aU, aU, aU, aU, aU] [aI s1, aR s0] m Q := x_callV (as := [aI s1]) (rest := []) hM mk_X6_knows mv_X6_knows lk_X7_170 (Or.inl ⟨6, (RX6, TX6, 16), icr_0 Hs0, Nat.le_of_ble_eq_true rfl, rfl, rfl⟩) hd rfl rfl (Nat.le_of_ble_eq_true rfl) dX7_ask_15 rfl k
theorem c_X7_ask_22 {sc : List Int} {d d2 : Nat} {m m2 : Mem} {Q : Option AV → Mem → Prop} {l1 l2 l3 s0 : Int} {v : Int} (hM : C_X7_isLength sc d2 [aI s0] m (some (aI v)) m2) (hd : d2 + 1 ≤ d) (k : S_X7_ask sc d 25 [aR 0, aI l1, aI l2, aI l3, aU, aU, aU, aU, aU, aU] [aI v] m2 Q) : S_X7_ask sc d 22 [aR 0, aI l1, aI l2, aI l3, aU, aU, aU, aU, aU, aU] [aI s0] m Q := x_callS (as := [aI s0]) (rest := []) hM mk_X7_isLength ms_X7_isLength lk_X7_174 hd rfl rfl (Nat.le_of_ble_eq_true rfl) dX7_ask_22 rfl k
theorem c_X7_ask_41 {sc : List Int} {d d2 : Nat} {m m2 : Mem} {Q : Option AV → Mem → Prop} {l1 l2 s1 s2 : Int} {v : Int} (Hs1 : IsC s1 100) (hM : C_X5_readQuestion sc d2 [aR 32, aR s1, aI s2] m (some (aI v)) m2) (hd : d2 + 1 ≤ d) (k : S_X7_ask sc d 44 [aR 0, aI l1, aI l2, aU, aU, aU, aU, aU, aU, aU] [aI v] m2 Q) : S_X7_ask sc d 41 [aR 0, aI l1, aI l2, aU, aU, aU, aU, aU, aU, aU] [aI s2, aR s1, aR 32] m Q := x_callV (as := [aR s1, aI s2]) (rest := []) hM mk_X5_readQuestion mv_X5_readQuestion lk_X7_307 (Or.inl ⟨5, (RX5, TX5, 12), ic_32, Nat.le_of_ble_eq_true rfl, rfl, rfl⟩) hd rfl rfl (Nat.le_of_ble_eq_true rfl) dX7_ask_41 rfl k
theorem c_X7_ask_59 {sc : List Int} {d d2 : Nat} {m m2 : Mem} {Q : Option AV → Mem → Prop} {l4 s1 s2 : Int} {v : Int} (hM : C_X7_follow sc d2 [aR 0, aI s1, aI s2] m (some (aI v)) m2) (hd : d2 + 1 ≤ d) (k : S_X7_ask sc d 62 [aR 0, aU, aU, aU, aI l4, aU, aU, aU, aU, aU] [aI v] m2 Q) : S_X7_ask sc d 59 [aR 0, aU, aU, aU, aI l4, aU, aU, aU, aU, aU] [aI s2, aI s1, aR 0] m Q := x_callV (as := [aI s1, aI s2]) (rest := []) hM mk_X7_follow mv_X7_follow lk_X7_145 (Or.inl ⟨7, (RX7, TX7, 14), ic_0, Nat.le_of_ble_eq_true rfl, rfl, rfl⟩) hd rfl rfl (Nat.le_of_ble_eq_true rfl) dX7_ask_59 rfl k
theorem c_X7_ask_163 {sc : List Int} {d d2 : Nat} {m m2 : Mem} {Q : Option AV → Mem → Prop} {l4 l5 l6 l8 s0 s1 s2 s4 s5 : Int} {v : Int} (Hs0 : FormAt s0) (Hs4 : RoomAt s4) (hM : C_X1_partsOf sc d2 [aR 39, aR s4, aI s5] m (some (aR v)) m2) (hd : d2 + 1 ≤ d) (k : S_X7_ask sc d 166 [aR 0, aU, aU, aU, aI l4, aI l5, aJ l6, aU, aI l8, aU] [aR v, aI s2, aI s1, aR s0] m2 Q) : S_X7_ask sc d 163 [aR 0, aU, aU, aU, aI l4, aI l5, aJ l6, aU, aI l8, aU] [aI s5, aR s4, aR 39, aI s2, aI s1, aR s0] m Q := x_callV (as := [aR s4, aI s5]) (rest := [aI s2, aI s1, aR s0]) hM mk_X1_partsOf mv_X1_partsOf lk_X7_322 (Or.inl ⟨1, (RX1, TX1, 9), ic_39, Nat.le_of_ble_eq_true rfl, rfl, rfl⟩) hd rfl rfl (Nat.le_of_ble_eq_true rfl) dX7_ask_163 rfl k
theorem c_X7_ask_170 {sc : List Int} {d d2 : Nat} {m m2 : Mem} {Q : Option AV → Mem → Prop} {l4 l5 l6 l8 s0 s1 s2 s3 s4 : Int} {v : Int} (Hs0 : FormAt s0) (Hs3 : IsC s3 100) (Hs4 : RoomAt s4) (hM : C_X3_worth sc d2 [aR s0, aI s1, aI s2, aR s3, aR s4] m (some (aI v)) m2) (hd : d2 + 1 ≤ d) (k : S_X7_ask sc d 173 [aR 0, aU, aU, aU, aI l4, aI l5, aJ l6, aU, aI l8, aU] [aI v] m2 Q) : S_X7_ask sc d 170 [aR 0, aU, aU, aU, aI l4, aI l5, aJ l6, aU, aI l8, aU] [aR s4, aR s3, aI s2, aI s1, aR s0] m Q := x_callV (as := [aI s1, aI s2, aR s3, aR s4]) (rest := []) hM mk_X3_worth mv_X3_worth lk_X7_326 (Or.inl ⟨3, (RX3, TX3, 3), icf_0 Hs0, Nat.le_of_ble_eq_true rfl, rfl, rfl⟩) hd rfl rfl (Nat.le_of_ble_eq_true rfl) dX7_ask_170 rfl k
theorem c_X7_ask_196 {sc : List Int} {d d2 : Nat} {m m2 : Mem} {Q : Option AV → Mem → Prop} {l4 l5 l8 s0 s1 s2 : Int} {v : Int} (hM : C_X7_counted sc d2 [aI s0, aJ s1, aI s2] m (some (aJ v)) m2) (hd : d2 + 1 ≤ d) (k : S_X7_ask sc d 199 [aR 0, aU, aU, aU, aI l4, aI l5, aU, aU, aI l8, aU] [aJ v] m2 Q) : S_X7_ask sc d 196 [aR 0, aU, aU, aU, aI l4, aI l5, aU, aU, aI l8, aU] [aI s2, aJ s1, aI s0] m Q := x_callS (as := [aI s0, aJ s1, aI s2]) (rest := []) hM mk_X7_counted ms_X7_counted lk_X7_330 hd rfl rfl (Nat.le_of_ble_eq_true rfl) dX7_ask_196 rfl k
theorem c_X7_ask_221 {sc : List Int} {d d2 : Nat} {m m2 : Mem} {Q : Option AV → Mem → Prop} {l4 l5 l8 s0 s1 s2 : Int} {v : Int} (hM : C_X7_gathered sc d2 [aI s0, aJ s1, aI s2] m (some (aJ v)) m2) (hd : d2 + 1 ≤ d) (k : S_X7_ask sc d 224 [aR 0, aU, aU, aU, aI l4, aI l5, aU, aU, aI l8, aU] [aJ v] m2 Q) : S_X7_ask sc d 221 [aR 0, aU, aU, aU, aI l4, aI l5, aU, aU, aI l8, aU] [aI s2, aJ s1, aI s0] m Q := x_callS (as := [aI s0, aJ s1, aI s2]) (rest := []) hM mk_X7_gathered ms_X7_gathered lk_X7_334 hd rfl rfl (Nat.le_of_ble_eq_true rfl) dX7_ask_221 rfl k
set_option maxRecDepth 4000 in
theorem g_X7_counted_0 {sc : List Int} {d : Nat} {m : Mem} {Q : Option AV → Mem → Prop} {l0 l1 l3 : Int} (k : (-2147483648 ≤ l0 ∧ l0 < 2147483648) ∧ ((l0 ≠ 32) → (((l0 ≠ 30) → (-2147483648 ≤ l3 ∧ l3 < 2147483648)) ∧ ((¬ (l0 ≠ 30)) → (-9223372036854775808 ≤ l1 ∧ l1 < 9223372036854775808)) ∧ ((¬ (l0 ≠ 30)) → (l1 = (-1)) → (-2147483648 ≤ l3 ∧ l3 < 2147483648)) ∧ Q (some (aJ (if l0 ≠ 30 then l3 else (if l1 = (-1) then l3 else l1 : Int) : Int))) m)) ∧ (¬ (l0 ≠ 32) → (Q (some (aJ (l1 + 1))) m))) : S_X7_counted sc d 0 [aI l0, aJ l1, aU, aI l3] [] m Q := by
  refine x_iload_n (pc2 := 1) dX7_counted_0 rfl rfl ?_
  refine x_bipush (pc2 := 3) dX7_counted_1 rfl rfl ?_
  obtain ⟨h1, k⟩ := k
  obtain ⟨k1, k2⟩ := k
  refine x_icmp_ne (tgt := 10) (pc2 := 6) dX7_counted_3 (by decide) rfl h1 (by decide) (fun c2 => ?_) (fun c2 => ?_)
  · replace k := k1 c2
    refine x_iload_n (pc2 := 11) dX7_counted_10 rfl rfl ?_
    refine x_bipush (pc2 := 13) dX7_counted_11 rfl rfl ?_
    obtain ⟨g4, k⟩ := k
    obtain ⟨g6, k⟩ := k
    obtain ⟨g8, k⟩ := k
    have kj : S_X7_counted sc d 30 [aI l0, aJ l1, aU, aI l3] [aJ (if l0 ≠ 30 then l3 else (if l1 = (-1) then l3 else l1 : Int) : Int)] m Q := by
      exact x_lreturn dX7_counted_30 rfl k
    refine x_icmp_ne (tgt := 28) (pc2 := 16) dX7_counted_13 (by decide) rfl h1 (by decide) (fun c9 => ?_) (fun c9 => ?_)
    · skip
      refine x_iload_n (pc2 := 29) dX7_counted_28 rfl rfl ?_
      have h10 := g4 c9
      refine x_i2l (pc2 := 30) dX7_counted_29 rfl h10 ?_
      exact x_topJ (v := (if l0 ≠ 30 then l3 else (if l1 = (-1) then l3 else l1 : Int) : Int)) (if_pos c9) kj
    · skip
      refine x_lload_n (pc2 := 17) dX7_counted_16 rfl rfl ?_
      refine x_ldc2 (pc2 := 20) (x := (-1)) kc_X7_311 rfl dX7_counted_17 rfl ?_
      have h11 := g6 c9
      refine x_lc_eq (tgt := 28) (pc2 := 24) dX7_counted_20 dX7_counted_21 (by decide) rfl h11 (by decide) (fun c12 => ?_) (fun c12 => ?_)
      · skip
        refine x_iload_n (pc2 := 29) dX7_counted_28 rfl rfl ?_
        have h13 := g8 c9 c12
        refine x_i2l (pc2 := 30) dX7_counted_29 rfl h13 ?_
        exact x_topJ (v := (if l0 ≠ 30 then l3 else (if l1 = (-1) then l3 else l1 : Int) : Int)) ((if_neg c9).trans (if_pos c12)) kj
      · skip
        refine x_lload_n (pc2 := 25) dX7_counted_24 rfl rfl ?_
        refine x_goto (tgt := 30) dX7_counted_25 (by decide) ?_
        exact x_topJ (v := (if l0 ≠ 30 then l3 else (if l1 = (-1) then l3 else l1 : Int) : Int)) ((if_neg c9).trans (if_neg c12)) kj
  · replace k := k2 c2
    refine x_lload_n (pc2 := 7) dX7_counted_6 rfl rfl ?_
    refine x_lconst (pc2 := 8) (v := 1) dX7_counted_7 rfl rfl ?_
    refine x_ladd (pc2 := 9) dX7_counted_8 rfl ?_
    exact x_lreturn dX7_counted_9 rfl k
set_option maxRecDepth 4000 in
theorem g_X7_gathered_0 {sc : List Int} {d : Nat} {m : Mem} {Q : Option AV → Mem → Prop} {l0 l1 l3 : Int} (k : (-2147483648 ≤ l0 ∧ l0 < 2147483648) ∧ ((l0 ≠ 33) → (((l0 ≠ 19) → ((-2147483648 ≤ l3 ∧ l3 < 2147483648) ∧ S_X7_gathered sc d 29 [aU, aU, aU, aU] [aJ l3, aJ l1] m Q)) ∧ (¬ (l0 ≠ 19) → ((-2147483648 ≤ l3 ∧ l3 < 2147483648) ∧ S_X7_gathered sc d 20 [aU, aU, aU, aU] [aJ l3, aJ l1] m Q)))) ∧ (¬ (l0 ≠ 33) → ((-2147483648 ≤ l3 ∧ l3 < 2147483648) ∧ Q (some (aJ (l1 + l3))) m))) : S_X7_gathered sc d 0 [aI l0, aJ l1, aU, aI l3] [] m Q := by
  refine x_iload_n (pc2 := 1) dX7_gathered_0 rfl rfl ?_
  refine x_bipush (pc2 := 3) dX7_gathered_1 rfl rfl ?_
  obtain ⟨h1, k⟩ := k
  obtain ⟨k1, k2⟩ := k
  refine x_icmp_ne (tgt := 11) (pc2 := 6) dX7_gathered_3 (by decide) rfl h1 (by decide) (fun c2 => ?_) (fun c2 => ?_)
  · replace k := k1 c2
    refine x_iload_n (pc2 := 12) dX7_gathered_11 rfl rfl ?_
    refine x_bipush (pc2 := 14) dX7_gathered_12 rfl rfl ?_
    obtain ⟨k1, k2⟩ := k
    refine x_icmp_ne (tgt := 26) (pc2 := 17) dX7_gathered_14 (by decide) rfl h1 (by decide) (fun c3 => ?_) (fun c3 => ?_)
    · replace k := k1 c3
      refine x_lload_n (pc2 := 27) dX7_gathered_26 rfl rfl ?_
      refine x_iload_n (pc2 := 28) dX7_gathered_27 rfl rfl ?_
      obtain ⟨h4, k⟩ := k
      refine x_i2l (pc2 := 29) dX7_gathered_28 rfl h4 ?_
      exact x_drop (drp_u (drp_u (drp_k (drp_u drp_n)))) k
    · replace k := k2 c3
      refine x_lload_n (pc2 := 18) dX7_gathered_17 rfl rfl ?_
      refine x_iload_n (pc2 := 19) dX7_gathered_18 rfl rfl ?_
      obtain ⟨h5, k⟩ := k
      refine x_i2l (pc2 := 20) dX7_gathered_19 rfl h5 ?_
      exact x_drop (drp_u (drp_u (drp_k (drp_u drp_n)))) k
  · replace k := k2 c2
    refine x_lload_n (pc2 := 7) dX7_gathered_6 rfl rfl ?_
    refine x_iload_n (pc2 := 8) dX7_gathered_7 rfl rfl ?_
    obtain ⟨h6, k⟩ := k
    refine x_i2l (pc2 := 9) dX7_gathered_8 rfl h6 ?_
    refine x_ladd (pc2 := 10) dX7_gathered_9 rfl ?_
    exact x_lreturn dX7_gathered_10 rfl k
set_option maxRecDepth 4000 in
theorem g_X7_gathered_23 {sc : List Int} {d : Nat} {m : Mem} {Q : Option AV → Mem → Prop} {s0 : Int} (k : S_X7_gathered sc d 32 [aU, aU, aU, aU] [aJ s0] m Q) : S_X7_gathered sc d 23 [aU, aU, aU, aU] [aJ s0] m Q := by
  refine x_goto (tgt := 32) dX7_gathered_23 (by decide) ?_
  exact k
set_option maxRecDepth 4000 in
theorem g_X7_gathered_32 {sc : List Int} {d : Nat} {m : Mem} {Q : Option AV → Mem → Prop} {s0 : Int} (k : Q (some (aJ s0)) m) : S_X7_gathered sc d 32 [aU, aU, aU, aU] [aJ s0] m Q := by
  exact x_lreturn dX7_gathered_32 rfl k
theorem c_X7_gathered_20 {sc : List Int} {d d2 : Nat} {m m2 : Mem} {Q : Option AV → Mem → Prop} {s0 s1 : Int} {v : Int} (hM : C_J9_max_f86c9 sc d2 [aJ s0, aJ s1] m (some (aJ v)) m2) (hd : d2 + 1 ≤ d) (k : S_X7_gathered sc d 23 [aU, aU, aU, aU] [aJ v] m2 Q) : S_X7_gathered sc d 20 [aU, aU, aU, aU] [aJ s1, aJ s0] m Q := x_callS (as := [aJ s0, aJ s1]) (rest := []) hM mk_J9_max_f86c9 ms_J9_max_f86c9 lk_X7_337 hd rfl rfl (Nat.le_of_ble_eq_true rfl) dX7_gathered_20 rfl k
theorem c_X7_gathered_29 {sc : List Int} {d d2 : Nat} {m m2 : Mem} {Q : Option AV → Mem → Prop} {s0 s1 : Int} {v : Int} (hM : C_J9_min_f86c9 sc d2 [aJ s0, aJ s1] m (some (aJ v)) m2) (hd : d2 + 1 ≤ d) (k : S_X7_gathered sc d 32 [aU, aU, aU, aU] [aJ v] m2 Q) : S_X7_gathered sc d 29 [aU, aU, aU, aU] [aJ s1, aJ s0] m Q := x_callS (as := [aJ s0, aJ s1]) (rest := []) hM mk_J9_min_f86c9 ms_J9_min_f86c9 lk_X7_340 hd rfl rfl (Nat.le_of_ble_eq_true rfl) dX7_gathered_29 rfl k
set_option maxRecDepth 4000 in
theorem g_X7_image_0 {sc : List Int} {d : Nat} {m : Mem} {Q : Option AV → Mem → Prop} (k : (-2147483648 ≤ ((wr (wr (wr (wr (wr m 60 0 (m 57 0)) 60 1 ((wr m 60 0 (m 57 0)) 57 1)) 60 2 ((wr (wr m 60 0 (m 57 0)) 60 1 ((wr m 60 0 (m 57 0)) 57 1)) 57 2)) 60 3 ((wr (wr (wr m 60 0 (m 57 0)) 60 1 ((wr m 60 0 (m 57 0)) 57 1)) 60 2 ((wr (wr m 60 0 (m 57 0)) 60 1 ((wr m 60 0 (m 57 0)) 57 1)) 57 2)) 57 3)) 60 4 ((wr (wr (wr (wr m 60 0 (m 57 0)) 60 1 ((wr m 60 0 (m 57 0)) 57 1)) 60 2 ((wr (wr m 60 0 (m 57 0)) 60 1 ((wr m 60 0 (m 57 0)) 57 1)) 57 2)) 60 3 ((wr (wr (wr m 60 0 (m 57 0)) 60 1 ((wr m 60 0 (m 57 0)) 57 1)) 60 2 ((wr (wr m 60 0 (m 57 0)) 60 1 ((wr m 60 0 (m 57 0)) 57 1)) 57 2)) 57 3)) 57 4)) 57 5) ∧ ((wr (wr (wr (wr (wr m 60 0 (m 57 0)) 60 1 ((wr m 60 0 (m 57 0)) 57 1)) 60 2 ((wr (wr m 60 0 (m 57 0)) 60 1 ((wr m 60 0 (m 57 0)) 57 1)) 57 2)) 60 3 ((wr (wr (wr m 60 0 (m 57 0)) 60 1 ((wr m 60 0 (m 57 0)) 57 1)) 60 2 ((wr (wr m 60 0 (m 57 0)) 60 1 ((wr m 60 0 (m 57 0)) 57 1)) 57 2)) 57 3)) 60 4 ((wr (wr (wr (wr m 60 0 (m 57 0)) 60 1 ((wr m 60 0 (m 57 0)) 57 1)) 60 2 ((wr (wr m 60 0 (m 57 0)) 60 1 ((wr m 60 0 (m 57 0)) 57 1)) 57 2)) 60 3 ((wr (wr (wr m 60 0 (m 57 0)) 60 1 ((wr m 60 0 (m 57 0)) 57 1)) 60 2 ((wr (wr m 60 0 (m 57 0)) 60 1 ((wr m 60 0 (m 57 0)) 57 1)) 57 2)) 57 3)) 57 4)) 57 5) < 2147483648) ∧ (-2147483648 ≤ ((wr (wr (wr (wr (wr (wr m 60 0 (m 57 0)) 60 1 ((wr m 60 0 (m 57 0)) 57 1)) 60 2 ((wr (wr m 60 0 (m 57 0)) 60 1 ((wr m 60 0 (m 57 0)) 57 1)) 57 2)) 60 3 ((wr (wr (wr m 60 0 (m 57 0)) 60 1 ((wr m 60 0 (m 57 0)) 57 1)) 60 2 ((wr (wr m 60 0 (m 57 0)) 60 1 ((wr m 60 0 (m 57 0)) 57 1)) 57 2)) 57 3)) 60 4 ((wr (wr (wr (wr m 60 0 (m 57 0)) 60 1 ((wr m 60 0 (m 57 0)) 57 1)) 60 2 ((wr (wr m 60 0 (m 57 0)) 60 1 ((wr m 60 0 (m 57 0)) 57 1)) 57 2)) 60 3 ((wr (wr (wr m 60 0 (m 57 0)) 60 1 ((wr m 60 0 (m 57 0)) 57 1)) 60 2 ((wr (wr m 60 0 (m 57 0)) 60 1 ((wr m 60 0 (m 57 0)) 57 1)) 57 2)) 57 3)) 57 4)) 60 5 (((wr (wr (wr (wr (wr m 60 0 (m 57 0)) 60 1 ((wr m 60 0 (m 57 0)) 57 1)) 60 2 ((wr (wr m 60 0 (m 57 0)) 60 1 ((wr m 60 0 (m 57 0)) 57 1)) 57 2)) 60 3 ((wr (wr (wr m 60 0 (m 57 0)) 60 1 ((wr m 60 0 (m 57 0)) 57 1)) 60 2 ((wr (wr m 60 0 (m 57 0)) 60 1 ((wr m 60 0 (m 57 0)) 57 1)) 57 2)) 57 3)) 60 4 ((wr (wr (wr (wr m 60 0 (m 57 0)) 60 1 ((wr m 60 0 (m 57 0)) 57 1)) 60 2 ((wr (wr m 60 0 (m 57 0)) 60 1 ((wr m 60 0 (m 57 0)) 57 1)) 57 2)) 60 3 ((wr (wr (wr m 60 0 (m 57 0)) 60 1 ((wr m 60 0 (m 57 0)) 57 1)) 60 2 ((wr (wr m 60 0 (m 57 0)) 60 1 ((wr m 60 0 (m 57 0)) 57 1)) 57 2)) 57 3)) 57 4)) 57 5).tdiv 256)) 57 5) ∧ ((wr (wr (wr (wr (wr (wr m 60 0 (m 57 0)) 60 1 ((wr m 60 0 (m 57 0)) 57 1)) 60 2 ((wr (wr m 60 0 (m 57 0)) 60 1 ((wr m 60 0 (m 57 0)) 57 1)) 57 2)) 60 3 ((wr (wr (wr m 60 0 (m 57 0)) 60 1 ((wr m 60 0 (m 57 0)) 57 1)) 60 2 ((wr (wr m 60 0 (m 57 0)) 60 1 ((wr m 60 0 (m 57 0)) 57 1)) 57 2)) 57 3)) 60 4 ((wr (wr (wr (wr m 60 0 (m 57 0)) 60 1 ((wr m 60 0 (m 57 0)) 57 1)) 60 2 ((wr (wr m 60 0 (m 57 0)) 60 1 ((wr m 60 0 (m 57 0)) 57 1)) 57 2)) 60 3 ((wr (wr (wr m 60 0 (m 57 0)) 60 1 ((wr m 60 0 (m 57 0)) 57 1)) 60 2 ((wr (wr m 60 0 (m 57 0)) 60 1 ((wr m 60 0 (m 57 0)) 57 1)) 57 2)) 57 3)) 57 4)) 60 5 (((wr (wr (wr (wr (wr m 60 0 (m 57 0)) 60 1 ((wr m 60 0 (m 57 0)) 57 1)) 60 2 ((wr (wr m 60 0 (m 57 0)) 60 1 ((wr m 60 0 (m 57 0)) 57 1)) 57 2)) 60 3 ((wr (wr (wr m 60 0 (m 57 0)) 60 1 ((wr m 60 0 (m 57 0)) 57 1)) 60 2 ((wr (wr m 60 0 (m 57 0)) 60 1 ((wr m 60 0 (m 57 0)) 57 1)) 57 2)) 57 3)) 60 4 ((wr (wr (wr (wr m 60 0 (m 57 0)) 60 1 ((wr m 60 0 (m 57 0)) 57 1)) 60 2 ((wr (wr m 60 0 (m 57 0)) 60 1 ((wr m 60 0 (m 57 0)) 57 1)) 57 2)) 60 3 ((wr (wr (wr m 60 0 (m 57 0)) 60 1 ((wr m 60 0 (m 57 0)) 57 1)) 60 2 ((wr (wr m 60 0 (m 57 0)) 60 1 ((wr m 60 0 (m 57 0)) 57 1)) 57 2)) 57 3)) 57 4)) 57 5).tdiv 256)) 57 5) < 2147483648) ∧ S_X7_image sc d 110 [aR 0] [aR 60, aI 7, aR 60] (wr (wr (wr (wr (wr (wr (wr m 60 0 (m 57 0)) 60 1 ((wr m 60 0 (m 57 0)) 57 1)) 60 2 ((wr (wr m 60 0 (m 57 0)) 60 1 ((wr m 60 0 (m 57 0)) 57 1)) 57 2)) 60 3 ((wr (wr (wr m 60 0 (m 57 0)) 60 1 ((wr m 60 0 (m 57 0)) 57 1)) 60 2 ((wr (wr m 60 0 (m 57 0)) 60 1 ((wr m 60 0 (m 57 0)) 57 1)) 57 2)) 57 3)) 60 4 ((wr (wr (wr (wr m 60 0 (m 57 0)) 60 1 ((wr m 60 0 (m 57 0)) 57 1)) 60 2 ((wr (wr m 60 0 (m 57 0)) 60 1 ((wr m 60 0 (m 57 0)) 57 1)) 57 2)) 60 3 ((wr (wr (wr m 60 0 (m 57 0)) 60 1 ((wr m 60 0 (m 57 0)) 57 1)) 60 2 ((wr (wr m 60 0 (m 57 0)) 60 1 ((wr m 60 0 (m 57 0)) 57 1)) 57 2)) 57 3)) 57 4)) 60 5 (((wr (wr (wr (wr (wr m 60 0 (m 57 0)) 60 1 ((wr m 60 0 (m 57 0)) 57 1)) 60 2 ((wr (wr m 60 0 (m 57 0)) 60 1 ((wr m 60 0 (m 57 0)) 57 1)) 57 2)) 60 3 ((wr (wr (wr m 60 0 (m 57 0)) 60 1 ((wr m 60 0 (m 57 0)) 57 1)) 60 2 ((wr (wr m 60 0 (m 57 0)) 60 1 ((wr m 60 0 (m 57 0)) 57 1)) 57 2)) 57 3)) 60 4 ((wr (wr (wr (wr m 60 0 (m 57 0)) 60 1 ((wr m 60 0 (m 57 0)) 57 1)) 60 2 ((wr (wr m 60 0 (m 57 0)) 60 1 ((wr m 60 0 (m 57 0)) 57 1)) 57 2)) 60 3 ((wr (wr (wr m 60 0 (m 57 0)) 60 1 ((wr m 60 0 (m 57 0)) 57 1)) 60 2 ((wr (wr m 60 0 (m 57 0)) 60 1 ((wr m 60 0 (m 57 0)) 57 1)) 57 2)) 57 3)) 57 4)) 57 5).tdiv 256)) 60 6 (((wr (wr (wr (wr (wr (wr m 60 0 (m 57 0)) 60 1 ((wr m 60 0 (m 57 0)) 57 1)) 60 2 ((wr (wr m 60 0 (m 57 0)) 60 1 ((wr m 60 0 (m 57 0)) 57 1)) 57 2)) 60 3 ((wr (wr (wr m 60 0 (m 57 0)) 60 1 ((wr m 60 0 (m 57 0)) 57 1)) 60 2 ((wr (wr m 60 0 (m 57 0)) 60 1 ((wr m 60 0 (m 57 0)) 57 1)) 57 2)) 57 3)) 60 4 ((wr (wr (wr (wr m 60 0 (m 57 0)) 60 1 ((wr m 60 0 (m 57 0)) 57 1)) 60 2 ((wr (wr m 60 0 (m 57 0)) 60 1 ((wr m 60 0 (m 57 0)) 57 1)) 57 2)) 60 3 ((wr (wr (wr m 60 0 (m 57 0)) 60 1 ((wr m 60 0 (m 57 0)) 57 1)) 60 2 ((wr (wr m 60 0 (m 57 0)) 60 1 ((wr m 60 0 (m 57 0)) 57 1)) 57 2)) 57 3)) 57 4)) 60 5 (((wr (wr (wr (wr (wr m 60 0 (m 57 0)) 60 1 ((wr m 60 0 (m 57 0)) 57 1)) 60 2 ((wr (wr m 60 0 (m 57 0)) 60 1 ((wr m 60 0 (m 57 0)) 57 1)) 57 2)) 60 3 ((wr (wr (wr m 60 0 (m 57 0)) 60 1 ((wr m 60 0 (m 57 0)) 57 1)) 60 2 ((wr (wr m 60 0 (m 57 0)) 60 1 ((wr m 60 0 (m 57 0)) 57 1)) 57 2)) 57 3)) 60 4 ((wr (wr (wr (wr m 60 0 (m 57 0)) 60 1 ((wr m 60 0 (m 57 0)) 57 1)) 60 2 ((wr (wr m 60 0 (m 57 0)) 60 1 ((wr m 60 0 (m 57 0)) 57 1)) 57 2)) 60 3 ((wr (wr (wr m 60 0 (m 57 0)) 60 1 ((wr m 60 0 (m 57 0)) 57 1)) 60 2 ((wr (wr m 60 0 (m 57 0)) 60 1 ((wr m 60 0 (m 57 0)) 57 1)) 57 2)) 57 3)) 57 4)) 57 5).tdiv 256)) 57 5).tmod 256)) Q) : S_X7_image sc d 0 [aR 0] [] m Q := by
  refine x_aload_n (pc2 := 1) dX7_image_0 rfl rfl ?_
  refine x_getf (pc2 := 4) (v := aR 60) fl_X7_61 ic_0 (vr_0_11 _) dX7_image_1 rfl ?_
  refine x_iconst (pc2 := 5) dX7_image_4 rfl ?_
  refine x_aload_n (pc2 := 6) dX7_image_5 rfl rfl ?_
  refine x_getf (pc2 := 9) (v := aR 57) fl_X7_54 ic_0 (vr_0_8 _) dX7_image_6 rfl ?_
  refine x_getf (pc2 := 12) (v := aI (m 57 0)) fl_X7_256 ic_57 (fv_i _ ic_57 rfl) dX7_image_9 rfl ?_
  refine x_iast (pc2 := 13) ic_60 (by decide) (by rw [al_60]; decide) dX7_image_12 rfl ?_
  refine x_aload_n (pc2 := 14) dX7_image_13 rfl rfl ?_
  refine x_getf (pc2 := 17) (v := aR 60) fl_X7_61 ic_0 (vr_0_11 _) dX7_image_14 rfl ?_
  refine x_iconst (pc2 := 18) dX7_image_17 rfl ?_
  refine x_aload_n (pc2 := 19) dX7_image_18 rfl rfl ?_
  refine x_getf (pc2 := 22) (v := aR 57) fl_X7_54 ic_0 (vr_0_8 _) dX7_image_19 rfl ?_
  refine x_getf (pc2 := 25) (v := aI ((wr m 60 0 (m 57 0)) 57 1)) fl_X7_259 ic_57 (fv_i _ ic_57 rfl) dX7_image_22 rfl ?_
  refine x_iast (pc2 := 26) ic_60 (by decide) (by rw [al_60]; decide) dX7_image_25 rfl ?_
  refine x_aload_n (pc2 := 27) dX7_image_26 rfl rfl ?_
  refine x_getf (pc2 := 30) (v := aR 60) fl_X7_61 ic_0 (vr_0_11 _) dX7_image_27 rfl ?_
  refine x_iconst (pc2 := 31) dX7_image_30 rfl ?_
  refine x_aload_n (pc2 := 32) dX7_image_31 rfl rfl ?_
  refine x_getf (pc2 := 35) (v := aR 57) fl_X7_54 ic_0 (vr_0_8 _) dX7_image_32 rfl ?_
  refine x_getf (pc2 := 38) (v := aI ((wr (wr m 60 0 (m 57 0)) 60 1 ((wr m 60 0 (m 57 0)) 57 1)) 57 2)) fl_X7_274 ic_57 (fv_i _ ic_57 rfl) dX7_image_35 rfl ?_
  refine x_iast (pc2 := 39) ic_60 (by decide) (by rw [al_60]; decide) dX7_image_38 rfl ?_
  refine x_aload_n (pc2 := 40) dX7_image_39 rfl rfl ?_
  refine x_getf (pc2 := 43) (v := aR 60) fl_X7_61 ic_0 (vr_0_11 _) dX7_image_40 rfl ?_
  refine x_iconst (pc2 := 44) dX7_image_43 rfl ?_
  refine x_aload_n (pc2 := 45) dX7_image_44 rfl rfl ?_
  refine x_getf (pc2 := 48) (v := aR 57) fl_X7_54 ic_0 (vr_0_8 _) dX7_image_45 rfl ?_
  refine x_getf (pc2 := 51) (v := aI ((wr (wr (wr m 60 0 (m 57 0)) 60 1 ((wr m 60 0 (m 57 0)) 57 1)) 60 2 ((wr (wr m 60 0 (m 57 0)) 60 1 ((wr m 60 0 (m 57 0)) 57 1)) 57 2)) 57 3)) fl_X7_261 ic_57 (fv_i _ ic_57 rfl) dX7_image_48 rfl ?_
  refine x_iast (pc2 := 52) ic_60 (by decide) (by rw [al_60]; decide) dX7_image_51 rfl ?_
  refine x_aload_n (pc2 := 53) dX7_image_52 rfl rfl ?_
  refine x_getf (pc2 := 56) (v := aR 60) fl_X7_61 ic_0 (vr_0_11 _) dX7_image_53 rfl ?_
  refine x_iconst (pc2 := 57) dX7_image_56 rfl ?_
  refine x_aload_n (pc2 := 58) dX7_image_57 rfl rfl ?_
  refine x_getf (pc2 := 61) (v := aR 57) fl_X7_54 ic_0 (vr_0_8 _) dX7_image_58 rfl ?_
  refine x_getf (pc2 := 64) (v := aI ((wr (wr (wr (wr m 60 0 (m 57 0)) 60 1 ((wr m 60 0 (m 57 0)) 57 1)) 60 2 ((wr (wr m 60 0 (m 57 0)) 60 1 ((wr m 60 0 (m 57 0)) 57 1)) 57 2)) 60 3 ((wr (wr (wr m 60 0 (m 57 0)) 60 1 ((wr m 60 0 (m 57 0)) 57 1)) 60 2 ((wr (wr m 60 0 (m 57 0)) 60 1 ((wr m 60 0 (m 57 0)) 57 1)) 57 2)) 57 3)) 57 4)) fl_X7_262 ic_57 (fv_i _ ic_57 rfl) dX7_image_61 rfl ?_
  refine x_iast (pc2 := 65) ic_60 (by decide) (by rw [al_60]; decide) dX7_image_64 rfl ?_
  refine x_aload_n (pc2 := 66) dX7_image_65 rfl rfl ?_
  refine x_getf (pc2 := 69) (v := aR 60) fl_X7_61 ic_0 (vr_0_11 _) dX7_image_66 rfl ?_
  refine x_iconst (pc2 := 70) dX7_image_69 rfl ?_
  refine x_aload_n (pc2 := 71) dX7_image_70 rfl rfl ?_
  refine x_getf (pc2 := 74) (v := aR 57) fl_X7_54 ic_0 (vr_0_8 _) dX7_image_71 rfl ?_
  refine x_getf (pc2 := 77) (v := aI ((wr (wr (wr (wr (wr m 60 0 (m 57 0)) 60 1 ((wr m 60 0 (m 57 0)) 57 1)) 60 2 ((wr (wr m 60 0 (m 57 0)) 60 1 ((wr m 60 0 (m 57 0)) 57 1)) 57 2)) 60 3 ((wr (wr (wr m 60 0 (m 57 0)) 60 1 ((wr m 60 0 (m 57 0)) 57 1)) 60 2 ((wr (wr m 60 0 (m 57 0)) 60 1 ((wr m 60 0 (m 57 0)) 57 1)) 57 2)) 57 3)) 60 4 ((wr (wr (wr (wr m 60 0 (m 57 0)) 60 1 ((wr m 60 0 (m 57 0)) 57 1)) 60 2 ((wr (wr m 60 0 (m 57 0)) 60 1 ((wr m 60 0 (m 57 0)) 57 1)) 57 2)) 60 3 ((wr (wr (wr m 60 0 (m 57 0)) 60 1 ((wr m 60 0 (m 57 0)) 57 1)) 60 2 ((wr (wr m 60 0 (m 57 0)) 60 1 ((wr m 60 0 (m 57 0)) 57 1)) 57 2)) 57 3)) 57 4)) 57 5)) fl_X7_263 ic_57 (fv_i _ ic_57 rfl) dX7_image_74 rfl ?_
  refine x_sipush (pc2 := 80) dX7_image_77 rfl rfl ?_
  obtain ⟨h1, k⟩ := k
  refine x_idiv (pc2 := 81) dX7_image_80 rfl h1 (by decide) (by decide) ?_
  refine x_iast (pc2 := 82) ic_60 (by decide) (by rw [al_60]; decide) dX7_image_81 rfl ?_
  refine x_aload_n (pc2 := 83) dX7_image_82 rfl rfl ?_
  refine x_getf (pc2 := 86) (v := aR 60) fl_X7_61 ic_0 (vr_0_11 _) dX7_image_83 rfl ?_
  refine x_bipush (pc2 := 88) dX7_image_86 rfl rfl ?_
  refine x_aload_n (pc2 := 89) dX7_image_88 rfl rfl ?_
  refine x_getf (pc2 := 92) (v := aR 57) fl_X7_54 ic_0 (vr_0_8 _) dX7_image_89 rfl ?_
  refine x_getf (pc2 := 95) (v := aI ((wr (wr (wr (wr (wr (wr m 60 0 (m 57 0)) 60 1 ((wr m 60 0 (m 57 0)) 57 1)) 60 2 ((wr (wr m 60 0 (m 57 0)) 60 1 ((wr m 60 0 (m 57 0)) 57 1)) 57 2)) 60 3 ((wr (wr (wr m 60 0 (m 57 0)) 60 1 ((wr m 60 0 (m 57 0)) 57 1)) 60 2 ((wr (wr m 60 0 (m 57 0)) 60 1 ((wr m 60 0 (m 57 0)) 57 1)) 57 2)) 57 3)) 60 4 ((wr (wr (wr (wr m 60 0 (m 57 0)) 60 1 ((wr m 60 0 (m 57 0)) 57 1)) 60 2 ((wr (wr m 60 0 (m 57 0)) 60 1 ((wr m 60 0 (m 57 0)) 57 1)) 57 2)) 60 3 ((wr (wr (wr m 60 0 (m 57 0)) 60 1 ((wr m 60 0 (m 57 0)) 57 1)) 60 2 ((wr (wr m 60 0 (m 57 0)) 60 1 ((wr m 60 0 (m 57 0)) 57 1)) 57 2)) 57 3)) 57 4)) 60 5 (((wr (wr (wr (wr (wr m 60 0 (m 57 0)) 60 1 ((wr m 60 0 (m 57 0)) 57 1)) 60 2 ((wr (wr m 60 0 (m 57 0)) 60 1 ((wr m 60 0 (m 57 0)) 57 1)) 57 2)) 60 3 ((wr (wr (wr m 60 0 (m 57 0)) 60 1 ((wr m 60 0 (m 57 0)) 57 1)) 60 2 ((wr (wr m 60 0 (m 57 0)) 60 1 ((wr m 60 0 (m 57 0)) 57 1)) 57 2)) 57 3)) 60 4 ((wr (wr (wr (wr m 60 0 (m 57 0)) 60 1 ((wr m 60 0 (m 57 0)) 57 1)) 60 2 ((wr (wr m 60 0 (m 57 0)) 60 1 ((wr m 60 0 (m 57 0)) 57 1)) 57 2)) 60 3 ((wr (wr (wr m 60 0 (m 57 0)) 60 1 ((wr m 60 0 (m 57 0)) 57 1)) 60 2 ((wr (wr m 60 0 (m 57 0)) 60 1 ((wr m 60 0 (m 57 0)) 57 1)) 57 2)) 57 3)) 57 4)) 57 5).tdiv 256)) 57 5)) fl_X7_263 ic_57 (fv_i _ ic_57 rfl) dX7_image_92 rfl ?_
  refine x_sipush (pc2 := 98) dX7_image_95 rfl rfl ?_
  obtain ⟨h2, k⟩ := k
  refine x_irem (pc2 := 99) dX7_image_98 rfl h2 (by decide) (by decide) ?_
  refine x_iast (pc2 := 100) ic_60 (by decide) (by rw [al_60]; decide) dX7_image_99 rfl ?_
  refine x_aload_n (pc2 := 101) dX7_image_100 rfl rfl ?_
  refine x_getf (pc2 := 104) (v := aR 60) fl_X7_61 ic_0 (vr_0_11 _) dX7_image_101 rfl ?_
  refine x_bipush (pc2 := 106) dX7_image_104 rfl rfl ?_
  refine x_aload_n (pc2 := 107) dX7_image_106 rfl rfl ?_
  refine x_getf (pc2 := 110) (v := aR 60) fl_X7_61 ic_0 (vr_0_11 _) dX7_image_107 rfl ?_
  exact k
set_option maxRecDepth 4000 in
theorem g_X7_image_113 {sc : List Int} {d : Nat} {m : Mem} {Q : Option AV → Mem → Prop} {s0 s1 s2 : Int} (Hs0 : IsC s0 100) (k : (0 ≤ s1) ∧ (s1 < alen s0) ∧ Q (some (aI ((wr (wr m s0 s1 s2) 0 12 8) 0 12))) (wr (wr m s0 s1 s2) 0 12 8)) : S_X7_image sc d 113 [aR 0] [aI s2, aI s1, aR s0] m Q := by
  obtain ⟨h1, k⟩ := k
  obtain ⟨h2, k⟩ := k
  refine x_iast (pc2 := 114) Hs0 h1 h2 dX7_image_113 rfl ?_
  refine x_aload_n (pc2 := 115) dX7_image_114 rfl rfl ?_
  refine x_bipush (pc2 := 117) dX7_image_115 rfl rfl ?_
  refine x_putf (pc2 := 120) (x := 8) fl_X7_346 ft_7_12 ic_0 (pv_i _ ic_0 rfl) (pn_i _) dX7_image_117 rfl ?_
  refine x_aload_n (pc2 := 121) dX7_image_120 rfl rfl ?_
  refine x_getf (pc2 := 124) (v := aI ((wr (wr m s0 s1 s2) 0 12 8) 0 12)) fl_X7_346 ic_0 (fv_i _ ic_0 rfl) dX7_image_121 rfl ?_
  exact x_ireturn dX7_image_124 ⟨.int, rfl, rfl⟩ k
theorem c_X7_image_110 {sc : List Int} {d d2 : Nat} {m m2 : Mem} {Q : Option AV → Mem → Prop} {s0 s1 s2 : Int} {v : Int} (Hs0 : IsC s0 100) (Hs2 : IsC s2 100) (hM : C_X7_checkOf sc d2 [aR s2] m (some (aI v)) m2) (hd : d2 + 1 ≤ d) (k : S_X7_image sc d 113 [aR 0] [aI v, aI s1, aR s0] m2 Q) : S_X7_image sc d 110 [aR 0] [aR s2, aI s1, aR s0] m Q := x_callS (as := [aR s2]) (rest := [aI s1, aR s0]) hM mk_X7_checkOf ms_X7_checkOf lk_X7_342 hd rfl rfl (Nat.le_of_ble_eq_true rfl) dX7_image_110 rfl k
set_option maxRecDepth 4000 in
theorem g_X7_checkOf_0 {sc : List Int} {d : Nat} {m : Mem} {Q : Option AV → Mem → Prop} {l0 : Int} (Hl0 : IsC l0 100) (k : S_X7_checkOf sc d 6 [aR l0, aI 199, aI 0] [] m Q) : S_X7_checkOf sc d 0 [aR l0, aU, aU] [] m Q := by
  refine x_sipush (pc2 := 3) dX7_checkOf_0 rfl rfl ?_
  refine x_istore_n (pc2 := 4) (ls2 := [aR l0, aI 199, aU]) dX7_checkOf_3 rfl (by decide) rfl ?_
  refine x_iconst (pc2 := 5) dX7_checkOf_4 rfl ?_
  refine x_istore_n (pc2 := 6) (ls2 := [aR l0, aI 199, aI 0]) dX7_checkOf_5 rfl (by decide) rfl ?_
  exact k
set_option maxRecDepth 4000 in
theorem g_X7_checkOf_6 {sc : List Int} {d : Nat} {m : Mem} {Q : Option AV → Mem → Prop} {l0 l1 l2 : Int} (Hl0 : IsC l0 100) (k : (-2147483648 ≤ l2 ∧ l2 < 2147483648) ∧ ((7 ≤ l2) → (Q (some (aI l1)) m)) ∧ (¬ (7 ≤ l2) → ((-2147483648 ≤ (alen l0) ∧ (alen l0) < 2147483648) ∧ (((alen l0) ≤ l2) → (Q (some (aI l1)) m)) ∧ (¬ ((alen l0) ≤ l2) → ((0 ≤ l2) ∧ (l2 < alen l0) ∧ (-2147483648 ≤ ((3 * l1) + (m l0 l2)) ∧ ((3 * l1) + (m l0 l2)) < 2147483648) ∧ S_X7_checkOf sc d 6 [aR l0, aI (((3 * l1) + (m l0 l2)).tmod 251), aI (l2 + 1)] [] m Q))))) : S_X7_checkOf sc d 6 [aR l0, aI l1, aI l2] [] m Q := by
  refine x_iload_n (pc2 := 7) dX7_checkOf_6 rfl rfl ?_
  refine x_bipush (pc2 := 9) dX7_checkOf_7 rfl rfl ?_
  obtain ⟨h1, k⟩ := k
  obtain ⟨k1, k2⟩ := k
  refine x_icmp_ge (tgt := 36) (pc2 := 12) dX7_checkOf_9 (by decide) rfl h1 (by decide) (fun c2 => ?_) (fun c2 => ?_)
  · replace k := k1 c2
    refine x_iload_n (pc2 := 37) dX7_checkOf_36 rfl rfl ?_
    exact x_ireturn dX7_checkOf_37 ⟨.int, rfl, rfl⟩ k
  · replace k := k2 c2
    refine x_iload_n (pc2 := 13) dX7_checkOf_12 rfl rfl ?_
    refine x_aload_n (pc2 := 14) dX7_checkOf_13 rfl rfl ?_
    refine x_alen (pc2 := 15) (Or.inl Hl0) dX7_checkOf_14 rfl ?_
    obtain ⟨h3, k⟩ := k
    obtain ⟨k1, k2⟩ := k
    refine x_icmp_ge (tgt := 36) (pc2 := 18) dX7_checkOf_15 (by decide) rfl h1 h3 (fun c4 => ?_) (fun c4 => ?_)
    · replace k := k1 c4
      refine x_iload_n (pc2 := 37) dX7_checkOf_36 rfl rfl ?_
      exact x_ireturn dX7_checkOf_37 ⟨.int, rfl, rfl⟩ k
    · replace k := k2 c4
      refine x_iconst (pc2 := 19) dX7_checkOf_18 rfl ?_
      refine x_iload_n (pc2 := 20) dX7_checkOf_19 rfl rfl ?_
      refine x_imul (pc2 := 21) dX7_checkOf_20 rfl ?_
      refine x_aload_n (pc2 := 22) dX7_checkOf_21 rfl rfl ?_
      refine x_iload_n (pc2 := 23) dX7_checkOf_22 rfl rfl ?_
      obtain ⟨h5, k⟩ := k
      obtain ⟨h6, k⟩ := k
      refine x_iald (pc2 := 24) Hl0 h5 h6 dX7_checkOf_23 rfl ?_
      refine x_iadd (pc2 := 25) dX7_checkOf_24 rfl ?_
      refine x_sipush (pc2 := 28) dX7_checkOf_25 rfl rfl ?_
      obtain ⟨h7, k⟩ := k
      refine x_irem (pc2 := 29) dX7_checkOf_28 rfl h7 (by decide) (by decide) ?_
      refine x_istore_n (pc2 := 30) (ls2 := [aR l0, aI (((3 * l1) + (m l0 l2)).tmod 251), aI l2]) dX7_checkOf_29 rfl (by decide) rfl ?_
      refine x_iinc (pc2 := 33) (ls2 := [aR l0, aI (((3 * l1) + (m l0 l2)).tmod 251), aI (l2 + 1)]) dX7_checkOf_30 rfl rfl (by decide) rfl ?_
      refine x_goto (tgt := 6) dX7_checkOf_33 (by decide) ?_
      exact k
set_option maxRecDepth 4000 in
theorem g_X7_octet_0 {sc : List Int} {d : Nat} {m : Mem} {Q : Option AV → Mem → Prop} {l1 : Int} (k : ((-2147483648 ≤ l1 ∧ l1 < 2147483648)) ∧ ((¬ (l1 < 0)) → (-2147483648 ≤ (m 0 12) ∧ (m 0 12) < 2147483648)) ∧ ((¬ (l1 < 0)) → (¬ ((m 0 12) ≤ l1)) → (0 ≤ l1)) ∧ ((¬ (l1 < 0)) → (¬ ((m 0 12) ≤ l1)) → (l1 < 8)) ∧ Q (some (aI (if l1 < 0 then (-1) else (if (m 0 12) ≤ l1 then (-1) else (m 60 l1) : Int) : Int))) m) : S_X7_octet sc d 0 [aR 0, aI l1] [] m Q := by
  refine x_iload_n (pc2 := 1) dX7_octet_0 rfl rfl ?_
  obtain ⟨g2, k⟩ := k
  obtain ⟨g4, k⟩ := k
  obtain ⟨g7, k⟩ := k
  obtain ⟨g8, k⟩ := k
  have kj : S_X7_octet sc d 22 [aR 0, aI l1] [aI (if l1 < 0 then (-1) else (if (m 0 12) ≤ l1 then (-1) else (m 60 l1) : Int) : Int)] m Q := by
    exact x_ireturn dX7_octet_22 ⟨.int, rfl, rfl⟩ k
  have h9 := g2 
  refine x_if_lt (tgt := 21) (pc2 := 4) dX7_octet_1 (by decide) rfl h9 (fun c10 => ?_) (fun c10 => ?_)
  · skip
    refine x_iconst (pc2 := 22) dX7_octet_21 rfl ?_
    exact x_topI (v := (if l1 < 0 then (-1) else (if (m 0 12) ≤ l1 then (-1) else (m 60 l1) : Int) : Int)) (if_pos c10) kj
  · skip
    refine x_iload_n (pc2 := 5) dX7_octet_4 rfl rfl ?_
    refine x_aload_n (pc2 := 6) dX7_octet_5 rfl rfl ?_
    refine x_getf (pc2 := 9) (v := aI (m 0 12)) fl_X7_346 ic_0 (fv_i _ ic_0 rfl) dX7_octet_6 rfl ?_
    have h11 := g4 c10
    refine x_icmp_ge (tgt := 21) (pc2 := 12) dX7_octet_9 (by decide) rfl h9 h11 (fun c12 => ?_) (fun c12 => ?_)
    · skip
      refine x_iconst (pc2 := 22) dX7_octet_21 rfl ?_
      exact x_topI (v := (if l1 < 0 then (-1) else (if (m 0 12) ≤ l1 then (-1) else (m 60 l1) : Int) : Int)) ((if_neg c10).trans (if_pos c12)) kj
    · skip
      refine x_aload_n (pc2 := 13) dX7_octet_12 rfl rfl ?_
      refine x_getf (pc2 := 16) (v := aR 60) fl_X7_61 ic_0 (vr_0_11 _) dX7_octet_13 rfl ?_
      refine x_iload_n (pc2 := 17) dX7_octet_16 rfl rfl ?_
      have h13 := g7 c10 c12
      have h14 := g8 c10 c12
      refine x_iald (pc2 := 18) ic_60 h13 (by rw [al_60]; exact h14) dX7_octet_17 rfl ?_
      refine x_goto (tgt := 22) dX7_octet_18 (by decide) ?_
      exact x_topI (v := (if l1 < 0 then (-1) else (if (m 0 12) ≤ l1 then (-1) else (m 60 l1) : Int) : Int)) ((if_neg c10).trans (if_neg c12)) kj
set_option maxRecDepth 4000 in
theorem g_X7_on_0 {sc : List Int} {d : Nat} {m : Mem} {Q : Option AV → Mem → Prop} (k : (RoomAt ((wr m 0 1 0) 0 2)) ∧ (-2147483648 ≤ ((wr m 0 1 0) ((wr m 0 1 0) 0 2) 15) ∧ ((wr m 0 1 0) ((wr m 0 1 0) 0 2) 15) < 2147483648) ∧ ((((wr m 0 1 0) ((wr m 0 1 0) 0 2) 15) = 0) → (S_X7_on sc d 35 [aR 0, aU] [aI 5, aR 0] (wr m 0 1 0) Q)) ∧ (¬ (((wr m 0 1 0) ((wr m 0 1 0) 0 2) 15) = 0) → ((-2147483648 ≤ (m 0 1) ∧ (m 0 1) < 2147483648) ∧ (((m 0 1) ≠ 8) → (S_X7_on sc d 35 [aR 0, aU] [aI 5, aR 0] (wr m 0 1 0) Q)) ∧ (¬ ((m 0 1) ≠ 8) → (S_X7_on sc d 27 [aR 0, aU] [aR 0] (wr m 0 1 0) Q))))) : S_X7_on sc d 0 [aR 0, aU] [] m Q := by
  refine x_aload_n (pc2 := 1) dX7_on_0 rfl rfl ?_
  refine x_getf (pc2 := 4) (v := aI (m 0 1)) fl_X7_70 ic_0 (fv_i _ ic_0 rfl) dX7_on_1 rfl ?_
  refine x_istore_n (pc2 := 5) (ls2 := [aR 0, aI (m 0 1)]) dX7_on_4 rfl (by decide) rfl ?_
  refine x_aload_n (pc2 := 6) dX7_on_5 rfl rfl ?_
  refine x_iconst (pc2 := 7) dX7_on_6 rfl ?_
  refine x_putf (pc2 := 10) (x := 0) fl_X7_70 ft_7_1 ic_0 (pv_i _ ic_0 rfl) (pn_i _) dX7_on_7 rfl ?_
  refine x_aload_n (pc2 := 11) dX7_on_10 rfl rfl ?_
  refine x_getf (pc2 := 14) (v := aR ((wr m 0 1 0) 0 2)) fl_X7_16 ic_0 (fv_m _ ic_0 rfl) dX7_on_11 rfl ?_
  obtain ⟨h1, k⟩ := k
  refine x_getf (pc2 := 17) (v := aI ((wr m 0 1 0) ((wr m 0 1 0) 0 2) 15)) fl_X7_100 (icr_0 h1) (fv_i _ (icr_0 h1) rfl) dX7_on_14 rfl ?_
  obtain ⟨h2, k⟩ := k
  obtain ⟨k1, k2⟩ := k
  refine x_if_eq (tgt := 33) (pc2 := 20) dX7_on_17 (by decide) rfl h2 (fun c3 => ?_) (fun c3 => ?_)
  · replace k := k1 c3
    refine x_aload_n (pc2 := 34) dX7_on_33 rfl rfl ?_
    refine x_iconst (pc2 := 35) dX7_on_34 rfl ?_
    exact x_drop (drp_k (drp_u drp_n)) k
  · replace k := k2 c3
    refine x_iload_n (pc2 := 21) dX7_on_20 rfl rfl ?_
    refine x_bipush (pc2 := 23) dX7_on_21 rfl rfl ?_
    obtain ⟨h4, k⟩ := k
    obtain ⟨k1, k2⟩ := k
    refine x_icmp_ne (tgt := 33) (pc2 := 26) dX7_on_23 (by decide) rfl h4 (by decide) (fun c5 => ?_) (fun c5 => ?_)
    · replace k := k1 c5
      refine x_aload_n (pc2 := 34) dX7_on_33 rfl rfl ?_
      refine x_iconst (pc2 := 35) dX7_on_34 rfl ?_
      exact x_drop (drp_k (drp_u drp_n)) k
    · replace k := k2 c5
      refine x_aload_n (pc2 := 27) dX7_on_26 rfl rfl ?_
      exact x_drop (drp_k (drp_u drp_n)) k
set_option maxRecDepth 4000 in
theorem g_X7_on_30 {sc : List Int} {d : Nat} {m : Mem} {Q : Option AV → Mem → Prop} {s0 : Int} (k : (-2147483648 ≤ s0 ∧ s0 < 2147483648) ∧ ((s0 ≠ 0) → (Q (some (aI 1)) (wr (wr (wr (wr (wr (wr (wr m 57 0 (m 1 0)) 57 1 ((wr m 57 0 (m 1 0)) 1 1)) 57 2 ((wr (wr m 57 0 (m 1 0)) 57 1 ((wr m 57 0 (m 1 0)) 1 1)) 1 2)) 57 3 ((wr (wr (wr m 57 0 (m 1 0)) 57 1 ((wr m 57 0 (m 1 0)) 1 1)) 57 2 ((wr (wr m 57 0 (m 1 0)) 57 1 ((wr m 57 0 (m 1 0)) 1 1)) 1 2)) 1 3)) 57 4 ((wr (wr (wr (wr m 57 0 (m 1 0)) 57 1 ((wr m 57 0 (m 1 0)) 1 1)) 57 2 ((wr (wr m 57 0 (m 1 0)) 57 1 ((wr m 57 0 (m 1 0)) 1 1)) 1 2)) 57 3 ((wr (wr (wr m 57 0 (m 1 0)) 57 1 ((wr m 57 0 (m 1 0)) 1 1)) 57 2 ((wr (wr m 57 0 (m 1 0)) 57 1 ((wr m 57 0 (m 1 0)) 1 1)) 1 2)) 1 3)) 1 4)) 57 5 ((256 * ((wr (wr (wr (wr (wr m 57 0 (m 1 0)) 57 1 ((wr m 57 0 (m 1 0)) 1 1)) 57 2 ((wr (wr m 57 0 (m 1 0)) 57 1 ((wr m 57 0 (m 1 0)) 1 1)) 1 2)) 57 3 ((wr (wr (wr m 57 0 (m 1 0)) 57 1 ((wr m 57 0 (m 1 0)) 1 1)) 57 2 ((wr (wr m 57 0 (m 1 0)) 57 1 ((wr m 57 0 (m 1 0)) 1 1)) 1 2)) 1 3)) 57 4 ((wr (wr (wr (wr m 57 0 (m 1 0)) 57 1 ((wr m 57 0 (m 1 0)) 1 1)) 57 2 ((wr (wr m 57 0 (m 1 0)) 57 1 ((wr m 57 0 (m 1 0)) 1 1)) 1 2)) 57 3 ((wr (wr (wr m 57 0 (m 1 0)) 57 1 ((wr m 57 0 (m 1 0)) 1 1)) 57 2 ((wr (wr m 57 0 (m 1 0)) 57 1 ((wr m 57 0 (m 1 0)) 1 1)) 1 2)) 1 3)) 1 4)) 1 5)) + ((wr (wr (wr (wr (wr m 57 0 (m 1 0)) 57 1 ((wr m 57 0 (m 1 0)) 1 1)) 57 2 ((wr (wr m 57 0 (m 1 0)) 57 1 ((wr m 57 0 (m 1 0)) 1 1)) 1 2)) 57 3 ((wr (wr (wr m 57 0 (m 1 0)) 57 1 ((wr m 57 0 (m 1 0)) 1 1)) 57 2 ((wr (wr m 57 0 (m 1 0)) 57 1 ((wr m 57 0 (m 1 0)) 1 1)) 1 2)) 1 3)) 57 4 ((wr (wr (wr (wr m 57 0 (m 1 0)) 57 1 ((wr m 57 0 (m 1 0)) 1 1)) 57 2 ((wr (wr m 57 0 (m 1 0)) 57 1 ((wr m 57 0 (m 1 0)) 1 1)) 1 2)) 57 3 ((wr (wr (wr m 57 0 (m 1 0)) 57 1 ((wr m 57 0 (m 1 0)) 1 1)) 57 2 ((wr (wr m 57 0 (m 1 0)) 57 1 ((wr m 57 0 (m 1 0)) 1 1)) 1 2)) 1 3)) 1 4)) 1 6))) 57 8 0))) ∧ (¬ (s0 ≠ 0) → (S_X7_on sc d 35 [aR 0, aU] [aI 5, aR 0] m Q))) : S_X7_on sc d 30 [aR 0, aU] [aI s0] m Q := by
  obtain ⟨h1, k⟩ := k
  obtain ⟨k1, k2⟩ := k
  refine x_if_ne (tgt := 41) (pc2 := 33) dX7_on_30 (by decide) rfl h1 (fun c2 => ?_) (fun c2 => ?_)
  · replace k := k1 c2
    refine x_aload_n (pc2 := 42) dX7_on_41 rfl rfl ?_
    refine x_getf (pc2 := 45) (v := aR 57) fl_X7_54 ic_0 (vr_0_8 _) dX7_on_42 rfl ?_
    refine x_aload_n (pc2 := 46) dX7_on_45 rfl rfl ?_
    refine x_getf (pc2 := 49) (v := aR 1) fl_X7_9 ic_0 (vr_0_0 _) dX7_on_46 rfl ?_
    refine x_iconst (pc2 := 50) dX7_on_49 rfl ?_
    refine x_iald (pc2 := 51) ic_1 (by decide) (by rw [al_1]; decide) dX7_on_50 rfl ?_
    refine x_putf (pc2 := 54) (x := (m 1 0)) fl_X7_256 ft_2_0 ic_57 (pv_i _ ic_57 rfl) (pn_i _) dX7_on_51 rfl ?_
    refine x_aload_n (pc2 := 55) dX7_on_54 rfl rfl ?_
    refine x_getf (pc2 := 58) (v := aR 57) fl_X7_54 ic_0 (vr_0_8 _) dX7_on_55 rfl ?_
    refine x_aload_n (pc2 := 59) dX7_on_58 rfl rfl ?_
    refine x_getf (pc2 := 62) (v := aR 1) fl_X7_9 ic_0 (vr_0_0 _) dX7_on_59 rfl ?_
    refine x_iconst (pc2 := 63) dX7_on_62 rfl ?_
    refine x_iald (pc2 := 64) ic_1 (by decide) (by rw [al_1]; decide) dX7_on_63 rfl ?_
    refine x_putf (pc2 := 67) (x := ((wr m 57 0 (m 1 0)) 1 1)) fl_X7_259 ft_2_1 ic_57 (pv_i _ ic_57 rfl) (pn_i _) dX7_on_64 rfl ?_
    refine x_aload_n (pc2 := 68) dX7_on_67 rfl rfl ?_
    refine x_getf (pc2 := 71) (v := aR 57) fl_X7_54 ic_0 (vr_0_8 _) dX7_on_68 rfl ?_
    refine x_aload_n (pc2 := 72) dX7_on_71 rfl rfl ?_
    refine x_getf (pc2 := 75) (v := aR 1) fl_X7_9 ic_0 (vr_0_0 _) dX7_on_72 rfl ?_
    refine x_iconst (pc2 := 76) dX7_on_75 rfl ?_
    refine x_iald (pc2 := 77) ic_1 (by decide) (by rw [al_1]; decide) dX7_on_76 rfl ?_
    refine x_putf (pc2 := 80) (x := ((wr (wr m 57 0 (m 1 0)) 57 1 ((wr m 57 0 (m 1 0)) 1 1)) 1 2)) fl_X7_274 ft_2_2 ic_57 (pv_i _ ic_57 rfl) (pn_i _) dX7_on_77 rfl ?_
    refine x_aload_n (pc2 := 81) dX7_on_80 rfl rfl ?_
    refine x_getf (pc2 := 84) (v := aR 57) fl_X7_54 ic_0 (vr_0_8 _) dX7_on_81 rfl ?_
    refine x_aload_n (pc2 := 85) dX7_on_84 rfl rfl ?_
    refine x_getf (pc2 := 88) (v := aR 1) fl_X7_9 ic_0 (vr_0_0 _) dX7_on_85 rfl ?_
    refine x_iconst (pc2 := 89) dX7_on_88 rfl ?_
    refine x_iald (pc2 := 90) ic_1 (by decide) (by rw [al_1]; decide) dX7_on_89 rfl ?_
    refine x_putf (pc2 := 93) (x := ((wr (wr (wr m 57 0 (m 1 0)) 57 1 ((wr m 57 0 (m 1 0)) 1 1)) 57 2 ((wr (wr m 57 0 (m 1 0)) 57 1 ((wr m 57 0 (m 1 0)) 1 1)) 1 2)) 1 3)) fl_X7_261 ft_2_3 ic_57 (pv_i _ ic_57 rfl) (pn_i _) dX7_on_90 rfl ?_
    refine x_aload_n (pc2 := 94) dX7_on_93 rfl rfl ?_
    refine x_getf (pc2 := 97) (v := aR 57) fl_X7_54 ic_0 (vr_0_8 _) dX7_on_94 rfl ?_
    refine x_aload_n (pc2 := 98) dX7_on_97 rfl rfl ?_
    refine x_getf (pc2 := 101) (v := aR 1) fl_X7_9 ic_0 (vr_0_0 _) dX7_on_98 rfl ?_
    refine x_iconst (pc2 := 102) dX7_on_101 rfl ?_
    refine x_iald (pc2 := 103) ic_1 (by decide) (by rw [al_1]; decide) dX7_on_102 rfl ?_
    refine x_putf (pc2 := 106) (x := ((wr (wr (wr (wr m 57 0 (m 1 0)) 57 1 ((wr m 57 0 (m 1 0)) 1 1)) 57 2 ((wr (wr m 57 0 (m 1 0)) 57 1 ((wr m 57 0 (m 1 0)) 1 1)) 1 2)) 57 3 ((wr (wr (wr m 57 0 (m 1 0)) 57 1 ((wr m 57 0 (m 1 0)) 1 1)) 57 2 ((wr (wr m 57 0 (m 1 0)) 57 1 ((wr m 57 0 (m 1 0)) 1 1)) 1 2)) 1 3)) 1 4)) fl_X7_262 ft_2_4 ic_57 (pv_i _ ic_57 rfl) (pn_i _) dX7_on_103 rfl ?_
    refine x_aload_n (pc2 := 107) dX7_on_106 rfl rfl ?_
    refine x_getf (pc2 := 110) (v := aR 57) fl_X7_54 ic_0 (vr_0_8 _) dX7_on_107 rfl ?_
    refine x_sipush (pc2 := 113) dX7_on_110 rfl rfl ?_
    refine x_aload_n (pc2 := 114) dX7_on_113 rfl rfl ?_
    refine x_getf (pc2 := 117) (v := aR 1) fl_X7_9 ic_0 (vr_0_0 _) dX7_on_114 rfl ?_
    refine x_iconst (pc2 := 118) dX7_on_117 rfl ?_
    refine x_iald (pc2 := 119) ic_1 (by decide) (by rw [al_1]; decide) dX7_on_118 rfl ?_
    refine x_imul (pc2 := 120) dX7_on_119 rfl ?_
    refine x_aload_n (pc2 := 121) dX7_on_120 rfl rfl ?_
    refine x_getf (pc2 := 124) (v := aR 1) fl_X7_9 ic_0 (vr_0_0 _) dX7_on_121 rfl ?_
    refine x_bipush (pc2 := 126) dX7_on_124 rfl rfl ?_
    refine x_iald (pc2 := 127) ic_1 (by decide) (by rw [al_1]; decide) dX7_on_126 rfl ?_
    refine x_iadd (pc2 := 128) dX7_on_127 rfl ?_
    refine x_putf (pc2 := 131) (x := ((256 * ((wr (wr (wr (wr (wr m 57 0 (m 1 0)) 57 1 ((wr m 57 0 (m 1 0)) 1 1)) 57 2 ((wr (wr m 57 0 (m 1 0)) 57 1 ((wr m 57 0 (m 1 0)) 1 1)) 1 2)) 57 3 ((wr (wr (wr m 57 0 (m 1 0)) 57 1 ((wr m 57 0 (m 1 0)) 1 1)) 57 2 ((wr (wr m 57 0 (m 1 0)) 57 1 ((wr m 57 0 (m 1 0)) 1 1)) 1 2)) 1 3)) 57 4 ((wr (wr (wr (wr m 57 0 (m 1 0)) 57 1 ((wr m 57 0 (m 1 0)) 1 1)) 57 2 ((wr (wr m 57 0 (m 1 0)) 57 1 ((wr m 57 0 (m 1 0)) 1 1)) 1 2)) 57 3 ((wr (wr (wr m 57 0 (m 1 0)) 57 1 ((wr m 57 0 (m 1 0)) 1 1)) 57 2 ((wr (wr m 57 0 (m 1 0)) 57 1 ((wr m 57 0 (m 1 0)) 1 1)) 1 2)) 1 3)) 1 4)) 1 5)) + ((wr (wr (wr (wr (wr m 57 0 (m 1 0)) 57 1 ((wr m 57 0 (m 1 0)) 1 1)) 57 2 ((wr (wr m 57 0 (m 1 0)) 57 1 ((wr m 57 0 (m 1 0)) 1 1)) 1 2)) 57 3 ((wr (wr (wr m 57 0 (m 1 0)) 57 1 ((wr m 57 0 (m 1 0)) 1 1)) 57 2 ((wr (wr m 57 0 (m 1 0)) 57 1 ((wr m 57 0 (m 1 0)) 1 1)) 1 2)) 1 3)) 57 4 ((wr (wr (wr (wr m 57 0 (m 1 0)) 57 1 ((wr m 57 0 (m 1 0)) 1 1)) 57 2 ((wr (wr m 57 0 (m 1 0)) 57 1 ((wr m 57 0 (m 1 0)) 1 1)) 1 2)) 57 3 ((wr (wr (wr m 57 0 (m 1 0)) 57 1 ((wr m 57 0 (m 1 0)) 1 1)) 57 2 ((wr (wr m 57 0 (m 1 0)) 57 1 ((wr m 57 0 (m 1 0)) 1 1)) 1 2)) 1 3)) 1 4)) 1 6))) fl_X7_263 ft_2_5 ic_57 (pv_i _ ic_57 rfl) (pn_i _) dX7_on_128 rfl ?_
    refine x_aload_n (pc2 := 132) dX7_on_131 rfl rfl ?_
    refine x_getf (pc2 := 135) (v := aR 57) fl_X7_54 ic_0 (vr_0_8 _) dX7_on_132 rfl ?_
    refine x_iconst (pc2 := 136) dX7_on_135 rfl ?_
    refine x_putf (pc2 := 139) (x := 0) fl_X7_121 ft_2_8 ic_57 (pv_i _ ic_57 rfl) (pn_i _) dX7_on_136 rfl ?_
    refine x_iconst (pc2 := 140) dX7_on_139 rfl ?_
    exact x_ireturn dX7_on_140 ⟨.boolean, rfl, rfl⟩ k
  · replace k := k2 c2
    refine x_aload_n (pc2 := 34) dX7_on_33 rfl rfl ?_
    refine x_iconst (pc2 := 35) dX7_on_34 rfl ?_
    exact k
set_option maxRecDepth 4000 in
theorem g_X7_on_38 {sc : List Int} {d : Nat} {m : Mem} {Q : Option AV → Mem → Prop} {s0 : Int} (k : Q (some (aI 0)) m) : S_X7_on sc d 38 [aR 0, aU] [aI s0] m Q := by
  refine x_pop_i (pc2 := 39) dX7_on_38 rfl ?_
  refine x_iconst (pc2 := 40) dX7_on_39 rfl ?_
  exact x_ireturn dX7_on_40 ⟨.boolean, rfl, rfl⟩ k
theorem c_X7_on_27 {sc : List Int} {d d2 : Nat} {m m2 : Mem} {Q : Option AV → Mem → Prop} {v : Int} (hM : C_X7_tellsDay sc d2 [aR 0] m (some (aI v)) m2) (hd : d2 + 1 ≤ d) (k : S_X7_on sc d 30 [aR 0, aU] [aI v] m2 Q) : S_X7_on sc d 27 [aR 0, aU] [aR 0] m Q := x_callV (as := []) (rest := []) hM mk_X7_tellsDay mv_X7_tellsDay lk_X7_349 (Or.inl ⟨7, (RX7, TX7, 14), ic_0, Nat.le_of_ble_eq_true rfl, rfl, rfl⟩) hd rfl rfl (Nat.le_of_ble_eq_true rfl) dX7_on_27 rfl k
theorem c_X7_on_35 {sc : List Int} {d d2 : Nat} {m m2 : Mem} {Q : Option AV → Mem → Prop} {s1 : Int} {v : Int} (hM : C_X7_refuse sc d2 [aR 0, aI s1] m (some (aI v)) m2) (hd : d2 + 1 ≤ d) (k : S_X7_on sc d 38 [aR 0, aU] [aI v] m2 Q) : S_X7_on sc d 35 [aR 0, aU] [aI s1, aR 0] m Q := x_callV (as := [aI s1]) (rest := []) hM mk_X7_refuse mv_X7_refuse lk_X7_74 (Or.inl ⟨7, (RX7, TX7, 14), ic_0, Nat.le_of_ble_eq_true rfl, rfl, rfl⟩) hd rfl rfl (Nat.le_of_ble_eq_true rfl) dX7_on_35 rfl k
set_option maxRecDepth 4000 in
theorem g_X7_tellsDay_0 {sc : List Int} {d : Nat} {m : Mem} {Q : Option AV → Mem → Prop} (k : (RoomAt (m 0 2)) ∧ (-2147483648 ≤ (m 1 0) ∧ (m 1 0) < 2147483648) ∧ (-2147483648 ≤ (m (m 0 2) 8) ∧ (m (m 0 2) 8) < 2147483648) ∧ (((m (m 0 2) 8) < (m 1 0)) → (Q (some (aI 0)) m)) ∧ (¬ ((m (m 0 2) 8) < (m 1 0)) → ((-2147483648 ≤ (m 1 3) ∧ (m 1 3) < 2147483648) ∧ (((m 1 0) < (m 1 3)) → (Q (some (aI 0)) m)) ∧ (¬ ((m 1 0) < (m 1 3)) → ((-2147483648 ≤ (m 1 4) ∧ (m 1 4) < 2147483648) ∧ (((m 1 0) < (m 1 4)) → (Q (some (aI 0)) m)) ∧ (¬ ((m 1 0) < (m 1 4)) → (S_X7_tellsDay sc d 56 [aR 0] [aI (m 1 2), aR (m 0 2)] m Q))))))) : S_X7_tellsDay sc d 0 [aR 0] [] m Q := by
  refine x_aload_n (pc2 := 1) dX7_tellsDay_0 rfl rfl ?_
  refine x_getf (pc2 := 4) (v := aR 1) fl_X7_9 ic_0 (vr_0_0 _) dX7_tellsDay_1 rfl ?_
  refine x_iconst (pc2 := 5) dX7_tellsDay_4 rfl ?_
  refine x_iald (pc2 := 6) ic_1 (by decide) (by rw [al_1]; decide) dX7_tellsDay_5 rfl ?_
  refine x_aload_n (pc2 := 7) dX7_tellsDay_6 rfl rfl ?_
  refine x_getf (pc2 := 10) (v := aR (m 0 2)) fl_X7_16 ic_0 (fv_m _ ic_0 rfl) dX7_tellsDay_7 rfl ?_
  obtain ⟨h1, k⟩ := k
  refine x_getf (pc2 := 13) (v := aI (m (m 0 2) 8)) fl_X7_112 (icr_0 h1) (fv_i _ (icr_0 h1) rfl) dX7_tellsDay_10 rfl ?_
  obtain ⟨h2, k⟩ := k
  obtain ⟨h3, k⟩ := k
  obtain ⟨k1, k2⟩ := k
  refine x_icmp_gt (tgt := 122) (pc2 := 16) dX7_tellsDay_13 (by decide) rfl h2 h3 (fun c4 => ?_) (fun c4 => ?_)
  · replace k := k1 c4
    refine x_iconst (pc2 := 123) dX7_tellsDay_122 rfl ?_
    exact x_ireturn dX7_tellsDay_123 ⟨.boolean, rfl, rfl⟩ k
  · replace k := k2 c4
    refine x_aload_n (pc2 := 17) dX7_tellsDay_16 rfl rfl ?_
    refine x_getf (pc2 := 20) (v := aR 1) fl_X7_9 ic_0 (vr_0_0 _) dX7_tellsDay_17 rfl ?_
    refine x_iconst (pc2 := 21) dX7_tellsDay_20 rfl ?_
    refine x_iald (pc2 := 22) ic_1 (by decide) (by rw [al_1]; decide) dX7_tellsDay_21 rfl ?_
    refine x_aload_n (pc2 := 23) dX7_tellsDay_22 rfl rfl ?_
    refine x_getf (pc2 := 26) (v := aR 1) fl_X7_9 ic_0 (vr_0_0 _) dX7_tellsDay_23 rfl ?_
    refine x_iconst (pc2 := 27) dX7_tellsDay_26 rfl ?_
    refine x_iald (pc2 := 28) ic_1 (by decide) (by rw [al_1]; decide) dX7_tellsDay_27 rfl ?_
    obtain ⟨h5, k⟩ := k
    obtain ⟨k1, k2⟩ := k
    refine x_icmp_gt (tgt := 122) (pc2 := 31) dX7_tellsDay_28 (by decide) rfl h5 h2 (fun c6 => ?_) (fun c6 => ?_)
    · replace k := k1 c6
      refine x_iconst (pc2 := 123) dX7_tellsDay_122 rfl ?_
      exact x_ireturn dX7_tellsDay_123 ⟨.boolean, rfl, rfl⟩ k
    · replace k := k2 c6
      refine x_aload_n (pc2 := 32) dX7_tellsDay_31 rfl rfl ?_
      refine x_getf (pc2 := 35) (v := aR 1) fl_X7_9 ic_0 (vr_0_0 _) dX7_tellsDay_32 rfl ?_
      refine x_iconst (pc2 := 36) dX7_tellsDay_35 rfl ?_
      refine x_iald (pc2 := 37) ic_1 (by decide) (by rw [al_1]; decide) dX7_tellsDay_36 rfl ?_
      refine x_aload_n (pc2 := 38) dX7_tellsDay_37 rfl rfl ?_
      refine x_getf (pc2 := 41) (v := aR 1) fl_X7_9 ic_0 (vr_0_0 _) dX7_tellsDay_38 rfl ?_
      refine x_iconst (pc2 := 42) dX7_tellsDay_41 rfl ?_
      refine x_iald (pc2 := 43) ic_1 (by decide) (by rw [al_1]; decide) dX7_tellsDay_42 rfl ?_
      obtain ⟨h7, k⟩ := k
      obtain ⟨k1, k2⟩ := k
      refine x_icmp_gt (tgt := 122) (pc2 := 46) dX7_tellsDay_43 (by decide) rfl h7 h2 (fun c8 => ?_) (fun c8 => ?_)
      · replace k := k1 c8
        refine x_iconst (pc2 := 123) dX7_tellsDay_122 rfl ?_
        exact x_ireturn dX7_tellsDay_123 ⟨.boolean, rfl, rfl⟩ k
      · replace k := k2 c8
        refine x_aload_n (pc2 := 47) dX7_tellsDay_46 rfl rfl ?_
        refine x_getf (pc2 := 50) (v := aR (m 0 2)) fl_X7_16 ic_0 (fv_m _ ic_0 rfl) dX7_tellsDay_47 rfl ?_
        refine x_aload_n (pc2 := 51) dX7_tellsDay_50 rfl rfl ?_
        refine x_getf (pc2 := 54) (v := aR 1) fl_X7_9 ic_0 (vr_0_0 _) dX7_tellsDay_51 rfl ?_
        refine x_iconst (pc2 := 55) dX7_tellsDay_54 rfl ?_
        refine x_iald (pc2 := 56) ic_1 (by decide) (by rw [al_1]; decide) dX7_tellsDay_55 rfl ?_
        exact k
set_option maxRecDepth 4000 in
theorem g_X7_tellsDay_59 {sc : List Int} {d : Nat} {m : Mem} {Q : Option AV → Mem → Prop} {s0 : Int} (k : (-2147483648 ≤ s0 ∧ s0 < 2147483648) ∧ ((s0 = 0) → (Q (some (aI 0)) m)) ∧ (¬ (s0 = 0) → ((-2147483648 ≤ (m 1 1) ∧ (m 1 1) < 2147483648) ∧ (-2147483648 ≤ (m 1 2) ∧ (m 1 2) < 2147483648) ∧ (((m 1 2) < (m 1 1)) → (Q (some (aI 0)) m)) ∧ (¬ ((m 1 2) < (m 1 1)) → ((-2147483648 ≤ ((256 * (m 1 5)) + (m 1 6)) ∧ ((256 * (m 1 5)) + (m 1 6)) < 2147483648) ∧ ((9999 < ((256 * (m 1 5)) + (m 1 6))) → (Q (some (aI 0)) m)) ∧ (¬ (9999 < ((256 * (m 1 5)) + (m 1 6))) → (S_X7_tellsDay sc d 112 [aR 0] [aR 1, aI (m 1 7)] m Q))))))) : S_X7_tellsDay sc d 59 [aR 0] [aI s0] m Q := by
  obtain ⟨h1, k⟩ := k
  obtain ⟨k1, k2⟩ := k
  refine x_if_eq (tgt := 122) (pc2 := 62) dX7_tellsDay_59 (by decide) rfl h1 (fun c2 => ?_) (fun c2 => ?_)
  · replace k := k1 c2
    refine x_iconst (pc2 := 123) dX7_tellsDay_122 rfl ?_
    exact x_ireturn dX7_tellsDay_123 ⟨.boolean, rfl, rfl⟩ k
  · replace k := k2 c2
    refine x_aload_n (pc2 := 63) dX7_tellsDay_62 rfl rfl ?_
    refine x_getf (pc2 := 66) (v := aR 1) fl_X7_9 ic_0 (vr_0_0 _) dX7_tellsDay_63 rfl ?_
    refine x_iconst (pc2 := 67) dX7_tellsDay_66 rfl ?_
    refine x_iald (pc2 := 68) ic_1 (by decide) (by rw [al_1]; decide) dX7_tellsDay_67 rfl ?_
    refine x_aload_n (pc2 := 69) dX7_tellsDay_68 rfl rfl ?_
    refine x_getf (pc2 := 72) (v := aR 1) fl_X7_9 ic_0 (vr_0_0 _) dX7_tellsDay_69 rfl ?_
    refine x_iconst (pc2 := 73) dX7_tellsDay_72 rfl ?_
    refine x_iald (pc2 := 74) ic_1 (by decide) (by rw [al_1]; decide) dX7_tellsDay_73 rfl ?_
    obtain ⟨h3, k⟩ := k
    obtain ⟨h4, k⟩ := k
    obtain ⟨k1, k2⟩ := k
    refine x_icmp_gt (tgt := 122) (pc2 := 77) dX7_tellsDay_74 (by decide) rfl h3 h4 (fun c5 => ?_) (fun c5 => ?_)
    · replace k := k1 c5
      refine x_iconst (pc2 := 123) dX7_tellsDay_122 rfl ?_
      exact x_ireturn dX7_tellsDay_123 ⟨.boolean, rfl, rfl⟩ k
    · replace k := k2 c5
      refine x_sipush (pc2 := 80) dX7_tellsDay_77 rfl rfl ?_
      refine x_aload_n (pc2 := 81) dX7_tellsDay_80 rfl rfl ?_
      refine x_getf (pc2 := 84) (v := aR 1) fl_X7_9 ic_0 (vr_0_0 _) dX7_tellsDay_81 rfl ?_
      refine x_iconst (pc2 := 85) dX7_tellsDay_84 rfl ?_
      refine x_iald (pc2 := 86) ic_1 (by decide) (by rw [al_1]; decide) dX7_tellsDay_85 rfl ?_
      refine x_imul (pc2 := 87) dX7_tellsDay_86 rfl ?_
      refine x_aload_n (pc2 := 88) dX7_tellsDay_87 rfl rfl ?_
      refine x_getf (pc2 := 91) (v := aR 1) fl_X7_9 ic_0 (vr_0_0 _) dX7_tellsDay_88 rfl ?_
      refine x_bipush (pc2 := 93) dX7_tellsDay_91 rfl rfl ?_
      refine x_iald (pc2 := 94) ic_1 (by decide) (by rw [al_1]; decide) dX7_tellsDay_93 rfl ?_
      refine x_iadd (pc2 := 95) dX7_tellsDay_94 rfl ?_
      refine x_sipush (pc2 := 98) dX7_tellsDay_95 rfl rfl ?_
      obtain ⟨h6, k⟩ := k
      obtain ⟨k1, k2⟩ := k
      refine x_icmp_gt (tgt := 122) (pc2 := 101) dX7_tellsDay_98 (by decide) rfl h6 (by decide) (fun c7 => ?_) (fun c7 => ?_)
      · replace k := k1 c7
        refine x_iconst (pc2 := 123) dX7_tellsDay_122 rfl ?_
        exact x_ireturn dX7_tellsDay_123 ⟨.boolean, rfl, rfl⟩ k
      · replace k := k2 c7
        refine x_aload_n (pc2 := 102) dX7_tellsDay_101 rfl rfl ?_
        refine x_getf (pc2 := 105) (v := aR 1) fl_X7_9 ic_0 (vr_0_0 _) dX7_tellsDay_102 rfl ?_
        refine x_bipush (pc2 := 107) dX7_tellsDay_105 rfl rfl ?_
        refine x_iald (pc2 := 108) ic_1 (by decide) (by rw [al_1]; decide) dX7_tellsDay_107 rfl ?_
        refine x_aload_n (pc2 := 109) dX7_tellsDay_108 rfl rfl ?_
        refine x_getf (pc2 := 112) (v := aR 1) fl_X7_9 ic_0 (vr_0_0 _) dX7_tellsDay_109 rfl ?_
        exact k
set_option maxRecDepth 4000 in
theorem g_X7_tellsDay_115 {sc : List Int} {d : Nat} {m : Mem} {Q : Option AV → Mem → Prop} {s0 s1 : Int} (k : ((-2147483648 ≤ s0 ∧ s0 < 2147483648)) ∧ ((-2147483648 ≤ s1 ∧ s1 < 2147483648)) ∧ Q (some (aI (if s0 ≠ s1 then 0 else 1 : Int))) m) : S_X7_tellsDay sc d 115 [aR 0] [aI s1, aI s0] m Q := by
  obtain ⟨g3, k⟩ := k
  obtain ⟨g4, k⟩ := k
  have kj : S_X7_tellsDay sc d 123 [aR 0] [aI (if s0 ≠ s1 then 0 else 1 : Int)] m Q := by
    exact x_ireturn dX7_tellsDay_123 (ret_z (by repeat (first | exact Or.inl rfl | exact Or.inr rfl | split))) k
  have h5 := g3 
  have h6 := g4 
  refine x_icmp_ne (tgt := 122) (pc2 := 118) dX7_tellsDay_115 (by decide) rfl h5 h6 (fun c7 => ?_) (fun c7 => ?_)
  · skip
    refine x_iconst (pc2 := 123) dX7_tellsDay_122 rfl ?_
    exact x_topI (v := (if s0 ≠ s1 then 0 else 1 : Int)) (if_pos c7) kj
  · skip
    refine x_iconst (pc2 := 119) dX7_tellsDay_118 rfl ?_
    refine x_goto (tgt := 123) dX7_tellsDay_119 (by decide) ?_
    exact x_topI (v := (if s0 ≠ s1 then 0 else 1 : Int)) (if_neg c7) kj
theorem c_X7_tellsDay_56 {sc : List Int} {d d2 : Nat} {m m2 : Mem} {Q : Option AV → Mem → Prop} {s0 s1 : Int} {v : Int} (Hs0 : RoomAt s0) (hM : C_X6_hasLength sc d2 [aR s0, aI s1] m (some (aI v)) m2) (hd : d2 + 1 ≤ d) (k : S_X7_tellsDay sc d 59 [aR 0] [aI v] m2 Q) : S_X7_tellsDay sc d 56 [aR 0] [aI s1, aR s0] m Q := x_callV (as := [aI s1]) (rest := []) hM mk_X6_hasLength mv_X6_hasLength lk_X7_352 (Or.inl ⟨6, (RX6, TX6, 16), icr_0 Hs0, Nat.le_of_ble_eq_true rfl, rfl, rfl⟩) hd rfl rfl (Nat.le_of_ble_eq_true rfl) dX7_tellsDay_56 rfl k
theorem c_X7_tellsDay_112 {sc : List Int} {d d2 : Nat} {m m2 : Mem} {Q : Option AV → Mem → Prop} {s0 s1 : Int} {v : Int} (Hs1 : IsC s1 100) (hM : C_X7_checkOf sc d2 [aR s1] m (some (aI v)) m2) (hd : d2 + 1 ≤ d) (k : S_X7_tellsDay sc d 115 [aR 0] [aI v, aI s0] m2 Q) : S_X7_tellsDay sc d 112 [aR 0] [aR s1, aI s0] m Q := x_callS (as := [aR s1]) (rest := [aI s0]) hM mk_X7_checkOf ms_X7_checkOf lk_X7_342 hd rfl rfl (Nat.le_of_ble_eq_true rfl) dX7_tellsDay_112 rfl k
set_option maxRecDepth 4000 in
theorem g_X7_status_0 {sc : List Int} {d : Nat} {m : Mem} {Q : Option AV → Mem → Prop} {l1 : Int} (k : ((-2147483648 ≤ l1 ∧ l1 < 2147483648)) ∧ ((¬ (l1 < 0)) → (¬ (6 ≤ l1)) → (0 ≤ l1)) ∧ ((¬ (l1 < 0)) → (¬ (6 ≤ l1)) → (l1 < 6)) ∧ Q (some (aI (if l1 < 0 then (-1) else (if 6 ≤ l1 then (-1) else (m 61 l1) : Int) : Int))) m) : S_X7_status sc d 0 [aR 0, aI l1] [] m Q := by
  refine x_iload_n (pc2 := 1) dX7_status_0 rfl rfl ?_
  obtain ⟨g2, k⟩ := k
  obtain ⟨g5, k⟩ := k
  obtain ⟨g6, k⟩ := k
  have kj : S_X7_status sc d 23 [aR 0, aI l1] [aI (if l1 < 0 then (-1) else (if 6 ≤ l1 then (-1) else (m 61 l1) : Int) : Int)] m Q := by
    exact x_ireturn dX7_status_23 ⟨.int, rfl, rfl⟩ k
  have h7 := g2 
  refine x_if_lt (tgt := 22) (pc2 := 4) dX7_status_1 (by decide) rfl h7 (fun c8 => ?_) (fun c8 => ?_)
  · skip
    refine x_iconst (pc2 := 23) dX7_status_22 rfl ?_
    exact x_topI (v := (if l1 < 0 then (-1) else (if 6 ≤ l1 then (-1) else (m 61 l1) : Int) : Int)) (if_pos c8) kj
  · skip
    refine x_iload_n (pc2 := 5) dX7_status_4 rfl rfl ?_
    refine x_aload_n (pc2 := 6) dX7_status_5 rfl rfl ?_
    refine x_getf (pc2 := 9) (v := aR 61) fl_X7_64 ic_0 (vr_0_13 _) dX7_status_6 rfl ?_
    refine x_alenK (pc2 := 10) (n := 6) (Or.inl ic_61) al_61 dX7_status_9 rfl ?_
    refine x_icmp_ge (tgt := 22) (pc2 := 13) dX7_status_10 (by decide) rfl h7 (by decide) (fun c9 => ?_) (fun c9 => ?_)
    · skip
      refine x_iconst (pc2 := 23) dX7_status_22 rfl ?_
      exact x_topI (v := (if l1 < 0 then (-1) else (if 6 ≤ l1 then (-1) else (m 61 l1) : Int) : Int)) ((if_neg c8).trans (if_pos c9)) kj
    · skip
      refine x_aload_n (pc2 := 14) dX7_status_13 rfl rfl ?_
      refine x_getf (pc2 := 17) (v := aR 61) fl_X7_64 ic_0 (vr_0_13 _) dX7_status_14 rfl ?_
      refine x_iload_n (pc2 := 18) dX7_status_17 rfl rfl ?_
      have h10 := g5 c8 c9
      have h11 := g6 c8 c9
      refine x_iald (pc2 := 19) ic_61 h10 (by rw [al_61]; exact h11) dX7_status_18 rfl ?_
      refine x_goto (tgt := 23) dX7_status_19 (by decide) ?_
      exact x_topI (v := (if l1 < 0 then (-1) else (if 6 ≤ l1 then (-1) else (m 61 l1) : Int) : Int)) ((if_neg c8).trans (if_neg c9)) kj
set_option maxRecDepth 4000 in
theorem g_J0_length_8abf5_0 {sc : List Int} {d : Nat} {m : Mem} {Q : Option AV → Mem → Prop} (k : S_J0_length_8abf5 sc d 6 [aR (-5)] [aR (-5), aI TXB.length] m Q) : S_J0_length_8abf5 sc d 0 [aR (-5)] [] m Q := by
  refine x_aload_n (pc2 := 1) dJ0_length_8abf5_0 rfl rfl ?_
  refine x_getS (pc2 := 4) s_value sl_J0_9 dJ0_length_8abf5_1 rfl ?_
  refine x_blen (pc2 := 5) dJ0_length_8abf5_4 rfl ?_
  refine x_aload_n (pc2 := 6) dJ0_length_8abf5_5 rfl rfl ?_
  exact k
set_option maxRecDepth 4000 in
theorem g_J0_length_8abf5_9 {sc : List Int} {d : Nat} {m : Mem} {Q : Option AV → Mem → Prop} {s0 s1 : Int} (k : Q (some (aI (a_shr s0 s1))) m) : S_J0_length_8abf5 sc d 9 [aR (-5)] [aI s1, aI s0] m Q := by
  refine x_ishr (pc2 := 10) dJ0_length_8abf5_9 rfl ?_
  exact x_ireturn dJ0_length_8abf5_10 ⟨.int, rfl, rfl⟩ k
theorem c_J0_length_8abf5_6 {sc : List Int} {d d2 : Nat} {m m2 : Mem} {Q : Option AV → Mem → Prop} {s0 : Int} {v : Int} (hM : C_J0_coder_7d493 sc d2 [aR (-5)] m (some (aI v)) m2) (hd : d2 + 1 ≤ d) (k : S_J0_length_8abf5 sc d 9 [aR (-5)] [aI v, aI s0] m2 Q) : S_J0_length_8abf5 sc d 6 [aR (-5)] [aR (-5), aI s0] m Q := x_callV (as := []) (rest := [aI s0]) hM mk_J0_coder_7d493 mv_J0_coder_7d493 lk_J0_335 (Or.inr ⟨rfl, rfl⟩) hd rfl rfl (Nat.le_of_ble_eq_true rfl) dJ0_length_8abf5_6 rfl k
set_option maxRecDepth 4000 in
theorem g_J0_charAt_5068e_0 {sc : List Int} {d : Nat} {m : Mem} {Q : Option AV → Mem → Prop} {l1 : Int} (k : S_J0_charAt_5068e sc d 1 [aR (-5), aI l1] [aR (-5)] m Q) : S_J0_charAt_5068e sc d 0 [aR (-5), aI l1] [] m Q := by
  refine x_aload_n (pc2 := 1) dJ0_charAt_5068e_0 rfl rfl ?_
  exact k
set_option maxRecDepth 4000 in
theorem g_J0_charAt_5068e_4 {sc : List Int} {d : Nat} {m : Mem} {Q : Option AV → Mem → Prop} {l1 s0 : Int} (k : (-2147483648 ≤ s0 ∧ s0 < 2147483648) ∧ ((s0 = 0) → (S_J0_charAt_5068e sc d 21 [aR (-5), aU] [aI l1, aR (-6)] m Q)) ∧ (¬ (s0 = 0) → (S_J0_charAt_5068e sc d 12 [aR (-5), aU] [aI l1, aR (-6)] m Q))) : S_J0_charAt_5068e sc d 4 [aR (-5), aI l1] [aI s0] m Q := by
  obtain ⟨h1, k⟩ := k
  obtain ⟨k1, k2⟩ := k
  refine x_if_eq (tgt := 16) (pc2 := 7) dJ0_charAt_5068e_4 (by decide) rfl h1 (fun c2 => ?_) (fun c2 => ?_)
  · replace k := k1 c2
    refine x_aload_n (pc2 := 17) dJ0_charAt_5068e_16 rfl rfl ?_
    refine x_getS (pc2 := 20) s_value sl_J0_9 dJ0_charAt_5068e_17 rfl ?_
    refine x_iload_n (pc2 := 21) dJ0_charAt_5068e_20 rfl rfl ?_
    exact x_drop (drp_k (drp_u drp_n)) k
  · replace k := k2 c2
    refine x_aload_n (pc2 := 8) dJ0_charAt_5068e_7 rfl rfl ?_
    refine x_getS (pc2 := 11) s_value sl_J0_9 dJ0_charAt_5068e_8 rfl ?_
    refine x_iload_n (pc2 := 12) dJ0_charAt_5068e_11 rfl rfl ?_
    exact x_drop (drp_k (drp_u drp_n)) k
set_option maxRecDepth 4000 in
theorem g_J0_charAt_5068e_15 {sc : List Int} {d : Nat} {m : Mem} {Q : Option AV → Mem → Prop} {s0 : Int} (k : (0 ≤ s0 ∧ s0 < 65536) ∧ Q (some (aI s0)) m) : S_J0_charAt_5068e sc d 15 [aR (-5), aU] [aI s0] m Q := by
  obtain ⟨h1, k⟩ := k
  exact x_ireturn dJ0_charAt_5068e_15 (ret_c h1) k
set_option maxRecDepth 4000 in
theorem g_J0_charAt_5068e_24 {sc : List Int} {d : Nat} {m : Mem} {Q : Option AV → Mem → Prop} {s0 : Int} (k : (0 ≤ s0 ∧ s0 < 65536) ∧ Q (some (aI s0)) m) : S_J0_charAt_5068e sc d 24 [aR (-5), aU] [aI s0] m Q := by
  obtain ⟨h1, k⟩ := k
  exact x_ireturn dJ0_charAt_5068e_24 (ret_c h1) k
theorem c_J0_charAt_5068e_1 {sc : List Int} {d d2 : Nat} {m m2 : Mem} {Q : Option AV → Mem → Prop} {l1 : Int} {v : Int} (hM : C_J0_isLatin1_aae02 sc d2 [aR (-5)] m (some (aI v)) m2) (hd : d2 + 1 ≤ d) (k : S_J0_charAt_5068e sc d 4 [aR (-5), aI l1] [aI v] m2 Q) : S_J0_charAt_5068e sc d 1 [aR (-5), aI l1] [aR (-5)] m Q := x_callV (as := []) (rest := []) hM mk_J0_isLatin1_aae02 mv_J0_isLatin1_aae02 lk_J0_492 (Or.inr ⟨rfl, rfl⟩) hd rfl rfl (Nat.le_of_ble_eq_true rfl) dJ0_charAt_5068e_1 rfl k
theorem c_J0_charAt_5068e_12 {sc : List Int} {d d2 : Nat} {m m2 : Mem} {Q : Option AV → Mem → Prop} {s1 : Int} {v : Int} (hM : C_J1_charAt_3b067 sc d2 [aR (-6), aI s1] m (some (aI v)) m2) (hd : d2 + 1 ≤ d) (k : S_J0_charAt_5068e sc d 15 [aR (-5), aU] [aI v] m2 Q) : S_J0_charAt_5068e sc d 12 [aR (-5), aU] [aI s1, aR (-6)] m Q := x_callS (as := [aR (-6), aI s1]) (rest := []) hM mk_J1_charAt_3b067 ms_J1_charAt_3b067 lk_J0_495 hd rfl rfl (Nat.le_of_ble_eq_true rfl) dJ0_charAt_5068e_12 rfl k
set_option maxRecDepth 4000 in
theorem g_J0_coder_7d493_0 {sc : List Int} {d : Nat} {m : Mem} {Q : Option AV → Mem → Prop} (k : Q (some (aI 0)) m) : S_J0_coder_7d493 sc d 0 [aR (-5)] [] m Q := by
  refine x_gets (pc2 := 3) (v := aI 1) z_compact (Or.inl sl_J0_38) dJ0_coder_7d493_0 rfl ?_
  have kj : S_J0_coder_7d493 sc d 14 [aR (-5)] [aI 0] m Q := by
    exact x_ireturn dJ0_coder_7d493_14 ⟨.byte, rfl, rfl⟩ k
  refine x_if_eq (tgt := 13) (pc2 := 6) dJ0_coder_7d493_3 (by decide) rfl (by decide) (fun c1 => ?_) (fun c1 => ?_)
  · exact absurd c1 (by decide)
  · skip
    refine x_aload_n (pc2 := 7) dJ0_coder_7d493_6 rfl rfl ?_
    refine x_getS (pc2 := 10) s_coder sl_J0_15 dJ0_coder_7d493_7 rfl ?_
    refine x_goto (tgt := 14) dJ0_coder_7d493_10 (by decide) ?_
    exact kj
set_option maxRecDepth 4000 in
theorem g_J0_isLatin1_aae02_0 {sc : List Int} {d : Nat} {m : Mem} {Q : Option AV → Mem → Prop} (k : Q (some (aI 1)) m) : S_J0_isLatin1_aae02 sc d 0 [aR (-5)] [] m Q := by
  refine x_gets (pc2 := 3) (v := aI 1) z_compact (Or.inl sl_J0_38) dJ0_isLatin1_aae02_0 rfl ?_
  have kj : S_J0_isLatin1_aae02 sc d 18 [aR (-5)] [aI 1] m Q := by
    exact x_ireturn dJ0_isLatin1_aae02_18 ⟨.boolean, rfl, rfl⟩ k
  refine x_if_eq (tgt := 17) (pc2 := 6) dJ0_isLatin1_aae02_3 (by decide) rfl (by decide) (fun c1 => ?_) (fun c1 => ?_)
  · exact absurd c1 (by decide)
  · skip
    refine x_aload_n (pc2 := 7) dJ0_isLatin1_aae02_6 rfl rfl ?_
    refine x_getS (pc2 := 10) s_coder sl_J0_15 dJ0_isLatin1_aae02_7 rfl ?_
    refine x_if_ne (tgt := 17) (pc2 := 13) dJ0_isLatin1_aae02_10 (by decide) rfl (by decide) (fun c2 => ?_) (fun c2 => ?_)
    · exact absurd c2 (by decide)
    · skip
      refine x_iconst (pc2 := 14) dJ0_isLatin1_aae02_13 rfl ?_
      refine x_goto (tgt := 18) dJ0_isLatin1_aae02_14 (by decide) ?_
      exact kj
set_option maxRecDepth 4000 in
theorem g_J0_checkIndex_df160_0 {sc : List Int} {d : Nat} {m : Mem} {Q : Option AV → Mem → Prop} {l0 l1 : Int} (k : S_J0_checkIndex_df160 sc d 5 [aU, aU] [aR (-8), aI l1, aI l0] m Q) : S_J0_checkIndex_df160 sc d 0 [aI l0, aI l1] [] m Q := by
  refine x_iload_n (pc2 := 1) dJ0_checkIndex_df160_0 rfl rfl ?_
  refine x_iload_n (pc2 := 2) dJ0_checkIndex_df160_1 rfl rfl ?_
  refine x_gets (pc2 := 5) (v := aR (-8)) z_sioobe (Or.inl sl_J0_1053) dJ0_checkIndex_df160_2 rfl ?_
  exact x_drop (drp_u (drp_u drp_n)) k
set_option maxRecDepth 4000 in
theorem g_J0_checkIndex_df160_8 {sc : List Int} {d : Nat} {m : Mem} {Q : Option AV → Mem → Prop} {s0 : Int} (k : Q none m) : S_J0_checkIndex_df160 sc d 8 [aU, aU] [aI s0] m Q := by
  refine x_pop_i (pc2 := 9) dJ0_checkIndex_df160_8 rfl ?_
  exact x_return dJ0_checkIndex_df160_9 rfl k
theorem c_J0_checkIndex_df160_5 {sc : List Int} {d d2 : Nat} {m m2 : Mem} {Q : Option AV → Mem → Prop} {s0 s1 s2 : Int} {v : Int} (hM : C_J3_checkIndex_8e157 sc d2 [aI s0, aI s1, aR s2] m (some (aI v)) m2) (hd : d2 + 1 ≤ d) (k : S_J0_checkIndex_df160 sc d 8 [aU, aU] [aI v] m2 Q) : S_J0_checkIndex_df160 sc d 5 [aU, aU] [aR s2, aI s1, aI s0] m Q := x_callS (as := [aI s0, aI s1, aR s2]) (rest := []) hM mk_J3_checkIndex_8e157 ms_J3_checkIndex_8e157 lk_J0_1059 hd rfl rfl (Nat.le_of_ble_eq_true rfl) dJ0_checkIndex_df160_5 rfl k
set_option maxRecDepth 4000 in
theorem g_J1_charAt_3b067_0 {sc : List Int} {d : Nat} {m : Mem} {Q : Option AV → Mem → Prop} {l1 : Int} (k : S_J1_charAt_3b067 sc d 3 [aR (-6), aI l1] [aI TXB.length, aI l1] m Q) : S_J1_charAt_3b067 sc d 0 [aR (-6), aI l1] [] m Q := by
  refine x_iload_n (pc2 := 1) dJ1_charAt_3b067_0 rfl rfl ?_
  refine x_aload_n (pc2 := 2) dJ1_charAt_3b067_1 rfl rfl ?_
  refine x_blen (pc2 := 3) dJ1_charAt_3b067_2 rfl ?_
  exact k
set_option maxRecDepth 4000 in
theorem g_J1_charAt_3b067_6 {sc : List Int} {d : Nat} {m : Mem} {Q : Option AV → Mem → Prop} {l1 : Int} (k : (0 ≤ l1) ∧ (l1 < TXB.length) ∧ (0 ≤ (a_i2c (a_and ((TXB.getD l1.toNat 0).toInt) 255)) ∧ (a_i2c (a_and ((TXB.getD l1.toNat 0).toInt) 255)) < 65536) ∧ Q (some (aI (a_i2c (a_and ((TXB.getD l1.toNat 0).toInt) 255)))) m) : S_J1_charAt_3b067 sc d 6 [aR (-6), aI l1] [] m Q := by
  refine x_aload_n (pc2 := 7) dJ1_charAt_3b067_6 rfl rfl ?_
  refine x_iload_n (pc2 := 8) dJ1_charAt_3b067_7 rfl rfl ?_
  obtain ⟨h1, k⟩ := k
  obtain ⟨h2, k⟩ := k
  refine x_bald (pc2 := 9) h1 h2 dJ1_charAt_3b067_8 rfl ?_
  refine x_sipush (pc2 := 12) dJ1_charAt_3b067_9 rfl rfl ?_
  refine x_iand (pc2 := 13) dJ1_charAt_3b067_12 rfl ?_
  refine x_i2c (pc2 := 14) dJ1_charAt_3b067_13 rfl ?_
  obtain ⟨h3, k⟩ := k
  exact x_ireturn dJ1_charAt_3b067_14 (ret_c h3) k
theorem c_J1_charAt_3b067_3 {sc : List Int} {d d2 : Nat} {m m2 : Mem} {Q : Option AV → Mem → Prop} {l1 s0 s1 : Int} (hM : C_J0_checkIndex_df160 sc d2 [aI s0, aI s1] m none m2) (hd : d2 + 1 ≤ d) (k : S_J1_charAt_3b067 sc d 6 [aR (-6), aI l1] [] m2 Q) : S_J1_charAt_3b067 sc d 3 [aR (-6), aI l1] [aI s1, aI s0] m Q := x_callS (as := [aI s0, aI s1]) (rest := []) hM mk_J0_checkIndex_df160 ms_J0_checkIndex_df160 lk_J1_9 hd rfl rfl (Nat.le_of_ble_eq_true rfl) dJ1_charAt_3b067_3 rfl k
set_option maxRecDepth 4000 in
theorem g_J3_checkIndex_8e157_0 {sc : List Int} {d : Nat} {m : Mem} {Q : Option AV → Mem → Prop} {l0 l1 l2 : Int} (k : (-2147483648 ≤ l0 ∧ l0 < 2147483648) ∧ ((l0 < 0) → (S_J3_checkIndex_8e157 sc d 12 [aU, aU, aU] [aI l1, aI l0, aR l2] m Q)) ∧ (¬ (l0 < 0) → ((-2147483648 ≤ l1 ∧ l1 < 2147483648) ∧ ((l0 < l1) → (Q (some (aI l0)) m)) ∧ (¬ (l0 < l1) → (S_J3_checkIndex_8e157 sc d 12 [aU, aU, aU] [aI l1, aI l0, aR l2] m Q))))) : S_J3_checkIndex_8e157 sc d 0 [aI l0, aI l1, aR l2] [] m Q := by
  refine x_iload_n (pc2 := 1) dJ3_checkIndex_8e157_0 rfl rfl ?_
  obtain ⟨h1, k⟩ := k
  obtain ⟨k1, k2⟩ := k
  refine x_if_lt (tgt := 9) (pc2 := 4) dJ3_checkIndex_8e157_1 (by decide) rfl h1 (fun c2 => ?_) (fun c2 => ?_)
  · replace k := k1 c2
    refine x_aload_n (pc2 := 10) dJ3_checkIndex_8e157_9 rfl rfl ?_
    refine x_iload_n (pc2 := 11) dJ3_checkIndex_8e157_10 rfl rfl ?_
    refine x_iload_n (pc2 := 12) dJ3_checkIndex_8e157_11 rfl rfl ?_
    exact x_drop (drp_u (drp_u (drp_u drp_n))) k
  · replace k := k2 c2
    refine x_iload_n (pc2 := 5) dJ3_checkIndex_8e157_4 rfl rfl ?_
    refine x_iload_n (pc2 := 6) dJ3_checkIndex_8e157_5 rfl rfl ?_
    obtain ⟨h3, k⟩ := k
    obtain ⟨k1, k2⟩ := k
    refine x_icmp_lt (tgt := 16) (pc2 := 9) dJ3_checkIndex_8e157_6 (by decide) rfl h1 h3 (fun c4 => ?_) (fun c4 => ?_)
    · replace k := k1 c4
      refine x_iload_n (pc2 := 17) dJ3_checkIndex_8e157_16 rfl rfl ?_
      exact x_ireturn dJ3_checkIndex_8e157_17 ⟨.int, rfl, rfl⟩ k
    · replace k := k2 c4
      refine x_aload_n (pc2 := 10) dJ3_checkIndex_8e157_9 rfl rfl ?_
      refine x_iload_n (pc2 := 11) dJ3_checkIndex_8e157_10 rfl rfl ?_
      refine x_iload_n (pc2 := 12) dJ3_checkIndex_8e157_11 rfl rfl ?_
      exact x_drop (drp_u (drp_u (drp_u drp_n))) k
-- no region J3_checkIndex_8e157 15: athrow
-- no callee J3_checkIndex_8e157 12
set_option maxRecDepth 4000 in
theorem g_J9_floorDiv_f86c9_0 {sc : List Int} {d : Nat} {m : Mem} {Q : Option AV → Mem → Prop} {l0 l2 : Int} (k : (-9223372036854775808 ≤ l0 ∧ l0 < 9223372036854775808) ∧ (-9223372036854775808 ≤ l2 ∧ l2 < 9223372036854775808) ∧ (l2 ≠ 0) ∧ (-9223372036854775808 ≤ (a_lxor l0 l2) ∧ (a_lxor l0 l2) < 9223372036854775808) ∧ ((0 ≤ (a_lxor l0 l2)) → (Q (some (aJ (l0.tdiv l2))) m)) ∧ (¬ (0 ≤ (a_lxor l0 l2)) → ((-9223372036854775808 ≤ ((l0.tdiv l2) * l2) ∧ ((l0.tdiv l2) * l2) < 9223372036854775808) ∧ ((((l0.tdiv l2) * l2) = l0) → (Q (some (aJ (l0.tdiv l2))) m)) ∧ (¬ (((l0.tdiv l2) * l2) = l0) → (Q (some (aJ ((l0.tdiv l2) - 1))) m))))) : S_J9_floorDiv_f86c9 sc d 0 [aJ l0, aU, aJ l2, aU, aU, aU] [] m Q := by
  refine x_lload_n (pc2 := 1) dJ9_floorDiv_f86c9_0 rfl rfl ?_
  refine x_lload_n (pc2 := 2) dJ9_floorDiv_f86c9_1 rfl rfl ?_
  obtain ⟨h1, k⟩ := k
  obtain ⟨h2, k⟩ := k
  obtain ⟨h3, k⟩ := k
  refine x_ldiv (pc2 := 3) dJ9_floorDiv_f86c9_2 rfl h1 h2 h3 ?_
  refine x_lstore (pc2 := 5) (ls2 := [aJ l0, aU, aJ l2, aU, aJ (l0.tdiv l2), aU]) dJ9_floorDiv_f86c9_3 rfl (by decide) rfl ?_
  refine x_lload_n (pc2 := 6) dJ9_floorDiv_f86c9_5 rfl rfl ?_
  refine x_lload_n (pc2 := 7) dJ9_floorDiv_f86c9_6 rfl rfl ?_
  refine x_lxor (pc2 := 8) dJ9_floorDiv_f86c9_7 rfl ?_
  refine x_lconst (pc2 := 9) (v := 0) dJ9_floorDiv_f86c9_8 rfl rfl ?_
  obtain ⟨h4, k⟩ := k
  obtain ⟨k1, k2⟩ := k
  refine x_lc_ge (tgt := 27) (pc2 := 13) dJ9_floorDiv_f86c9_9 dJ9_floorDiv_f86c9_10 (by decide) rfl h4 (by decide) (fun c5 => ?_) (fun c5 => ?_)
  · replace k := k1 c5
    refine x_lload (pc2 := 29) dJ9_floorDiv_f86c9_27 rfl rfl ?_
    exact x_lreturn dJ9_floorDiv_f86c9_29 rfl k
  · replace k := k2 c5
    refine x_lload (pc2 := 15) dJ9_floorDiv_f86c9_13 rfl rfl ?_
    refine x_lload_n (pc2 := 16) dJ9_floorDiv_f86c9_15 rfl rfl ?_
    refine x_lmul (pc2 := 17) dJ9_floorDiv_f86c9_16 rfl ?_
    refine x_lload_n (pc2 := 18) dJ9_floorDiv_f86c9_17 rfl rfl ?_
    obtain ⟨h6, k⟩ := k
    obtain ⟨k1, k2⟩ := k
    refine x_lc_eq (tgt := 27) (pc2 := 22) dJ9_floorDiv_f86c9_18 dJ9_floorDiv_f86c9_19 (by decide) rfl h6 h1 (fun c7 => ?_) (fun c7 => ?_)
    · replace k := k1 c7
      refine x_lload (pc2 := 29) dJ9_floorDiv_f86c9_27 rfl rfl ?_
      exact x_lreturn dJ9_floorDiv_f86c9_29 rfl k
    · replace k := k2 c7
      refine x_lload (pc2 := 24) dJ9_floorDiv_f86c9_22 rfl rfl ?_
      refine x_lconst (pc2 := 25) (v := 1) dJ9_floorDiv_f86c9_24 rfl rfl ?_
      refine x_lsub (pc2 := 26) dJ9_floorDiv_f86c9_25 rfl ?_
      exact x_lreturn dJ9_floorDiv_f86c9_26 rfl k
set_option maxRecDepth 4000 in
theorem g_J9_max_7cf53_0 {sc : List Int} {d : Nat} {m : Mem} {Q : Option AV → Mem → Prop} {l0 l1 : Int} (k : ((-2147483648 ≤ l0 ∧ l0 < 2147483648)) ∧ ((-2147483648 ≤ l1 ∧ l1 < 2147483648)) ∧ Q (some (aI (if l0 < l1 then l1 else l0 : Int))) m) : S_J9_max_7cf53 sc d 0 [aI l0, aI l1] [] m Q := by
  refine x_iload_n (pc2 := 1) dJ9_max_7cf53_0 rfl rfl ?_
  refine x_iload_n (pc2 := 2) dJ9_max_7cf53_1 rfl rfl ?_
  obtain ⟨g3, k⟩ := k
  obtain ⟨g4, k⟩ := k
  have kj : S_J9_max_7cf53 sc d 10 [aI l0, aI l1] [aI (if l0 < l1 then l1 else l0 : Int)] m Q := by
    exact x_ireturn dJ9_max_7cf53_10 ⟨.int, rfl, rfl⟩ k
  have h5 := g3 
  have h6 := g4 
  refine x_icmp_lt (tgt := 9) (pc2 := 5) dJ9_max_7cf53_2 (by decide) rfl h5 h6 (fun c7 => ?_) (fun c7 => ?_)
  · skip
    refine x_iload_n (pc2 := 10) dJ9_max_7cf53_9 rfl rfl ?_
    exact x_topI (v := (if l0 < l1 then l1 else l0 : Int)) (if_pos c7) kj
  · skip
    refine x_iload_n (pc2 := 6) dJ9_max_7cf53_5 rfl rfl ?_
    refine x_goto (tgt := 10) dJ9_max_7cf53_6 (by decide) ?_
    exact x_topI (v := (if l0 < l1 then l1 else l0 : Int)) (if_neg c7) kj
set_option maxRecDepth 4000 in
theorem g_J9_max_f86c9_0 {sc : List Int} {d : Nat} {m : Mem} {Q : Option AV → Mem → Prop} {l0 l2 : Int} (k : ((-9223372036854775808 ≤ l0 ∧ l0 < 9223372036854775808)) ∧ ((-9223372036854775808 ≤ l2 ∧ l2 < 9223372036854775808)) ∧ Q (some (aJ (if l0 < l2 then l2 else l0 : Int))) m) : S_J9_max_f86c9 sc d 0 [aJ l0, aU, aJ l2, aU] [] m Q := by
  refine x_lload_n (pc2 := 1) dJ9_max_f86c9_0 rfl rfl ?_
  refine x_lload_n (pc2 := 2) dJ9_max_f86c9_1 rfl rfl ?_
  obtain ⟨g3, k⟩ := k
  obtain ⟨g4, k⟩ := k
  have kj : S_J9_max_f86c9 sc d 11 [aJ l0, aU, aJ l2, aU] [aJ (if l0 < l2 then l2 else l0 : Int)] m Q := by
    exact x_lreturn dJ9_max_f86c9_11 rfl k
  have h5 := g3 
  have h6 := g4 
  refine x_lc_lt (tgt := 10) (pc2 := 6) dJ9_max_f86c9_2 dJ9_max_f86c9_3 (by decide) rfl h5 h6 (fun c7 => ?_) (fun c7 => ?_)
  · skip
    refine x_lload_n (pc2 := 11) dJ9_max_f86c9_10 rfl rfl ?_
    exact x_topJ (v := (if l0 < l2 then l2 else l0 : Int)) (if_pos c7) kj
  · skip
    refine x_lload_n (pc2 := 7) dJ9_max_f86c9_6 rfl rfl ?_
    refine x_goto (tgt := 11) dJ9_max_f86c9_7 (by decide) ?_
    exact x_topJ (v := (if l0 < l2 then l2 else l0 : Int)) (if_neg c7) kj
set_option maxRecDepth 4000 in
theorem g_J9_min_7cf53_0 {sc : List Int} {d : Nat} {m : Mem} {Q : Option AV → Mem → Prop} {l0 l1 : Int} (k : ((-2147483648 ≤ l0 ∧ l0 < 2147483648)) ∧ ((-2147483648 ≤ l1 ∧ l1 < 2147483648)) ∧ Q (some (aI (if l1 < l0 then l1 else l0 : Int))) m) : S_J9_min_7cf53 sc d 0 [aI l0, aI l1] [] m Q := by
  refine x_iload_n (pc2 := 1) dJ9_min_7cf53_0 rfl rfl ?_
  refine x_iload_n (pc2 := 2) dJ9_min_7cf53_1 rfl rfl ?_
  obtain ⟨g3, k⟩ := k
  obtain ⟨g4, k⟩ := k
  have kj : S_J9_min_7cf53 sc d 10 [aI l0, aI l1] [aI (if l1 < l0 then l1 else l0 : Int)] m Q := by
    exact x_ireturn dJ9_min_7cf53_10 ⟨.int, rfl, rfl⟩ k
  have h5 := g3 
  have h6 := g4 
  refine x_icmp_gt (tgt := 9) (pc2 := 5) dJ9_min_7cf53_2 (by decide) rfl h5 h6 (fun c7 => ?_) (fun c7 => ?_)
  · skip
    refine x_iload_n (pc2 := 10) dJ9_min_7cf53_9 rfl rfl ?_
    exact x_topI (v := (if l1 < l0 then l1 else l0 : Int)) (if_pos c7) kj
  · skip
    refine x_iload_n (pc2 := 6) dJ9_min_7cf53_5 rfl rfl ?_
    refine x_goto (tgt := 10) dJ9_min_7cf53_6 (by decide) ?_
    exact x_topI (v := (if l1 < l0 then l1 else l0 : Int)) (if_neg c7) kj
set_option maxRecDepth 4000 in
theorem g_J9_min_f86c9_0 {sc : List Int} {d : Nat} {m : Mem} {Q : Option AV → Mem → Prop} {l0 l2 : Int} (k : ((-9223372036854775808 ≤ l0 ∧ l0 < 9223372036854775808)) ∧ ((-9223372036854775808 ≤ l2 ∧ l2 < 9223372036854775808)) ∧ Q (some (aJ (if l2 < l0 then l2 else l0 : Int))) m) : S_J9_min_f86c9 sc d 0 [aJ l0, aU, aJ l2, aU] [] m Q := by
  refine x_lload_n (pc2 := 1) dJ9_min_f86c9_0 rfl rfl ?_
  refine x_lload_n (pc2 := 2) dJ9_min_f86c9_1 rfl rfl ?_
  obtain ⟨g3, k⟩ := k
  obtain ⟨g4, k⟩ := k
  have kj : S_J9_min_f86c9 sc d 11 [aJ l0, aU, aJ l2, aU] [aJ (if l2 < l0 then l2 else l0 : Int)] m Q := by
    exact x_lreturn dJ9_min_f86c9_11 rfl k
  have h5 := g3 
  have h6 := g4 
  refine x_lc_gt (tgt := 10) (pc2 := 6) dJ9_min_f86c9_2 dJ9_min_f86c9_3 (by decide) rfl h5 h6 (fun c7 => ?_) (fun c7 => ?_)
  · skip
    refine x_lload_n (pc2 := 11) dJ9_min_f86c9_10 rfl rfl ?_
    exact x_topJ (v := (if l2 < l0 then l2 else l0 : Int)) (if_pos c7) kj
  · skip
    refine x_lload_n (pc2 := 7) dJ9_min_f86c9_6 rfl rfl ?_
    refine x_goto (tgt := 11) dJ9_min_f86c9_7 (by decide) ?_
    exact x_topJ (v := (if l2 < l0 then l2 else l0 : Int)) (if_neg c7) kj
