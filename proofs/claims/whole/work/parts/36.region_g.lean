set_option maxRecDepth 4000 in
theorem g_X8_anew_0 {sc : List Int} {d : Nat} {m : Mem} {Q : Option AV → Mem → Prop} (k : (-2147483648 ≤ (m 62 53) ∧ (m 62 53) < 2147483648) ∧ (((m 62 53) ≠ 0) → (S_X8_anew sc d 13 [aR 62, aU] [aR 62] m Q)) ∧ (¬ ((m 62 53) ≠ 0) → (S_X8_anew sc d 8 [aR 62, aU] [aR 62] m Q))) : S_X8_anew sc d 0 [aR 62, aU] [] m Q := by
  refine x_aload_n (pc2 := 1) dX8_anew_0 rfl rfl ?_
  refine x_getf (pc2 := 4) (v := aI (m 62 53)) fl_X8_422 ic_62 (fv_i _ ic_62 rfl) dX8_anew_1 rfl ?_
  obtain ⟨h1, k⟩ := k
  obtain ⟨k1, k2⟩ := k
  refine x_if_ne (tgt := 12) (pc2 := 7) dX8_anew_4 (by decide) rfl h1 (fun c2 => ?_) (fun c2 => ?_)
  · replace k := k1 c2
    refine x_aload_n (pc2 := 13) dX8_anew_12 rfl rfl ?_
    exact k
  · replace k := k2 c2
    refine x_aload_n (pc2 := 8) dX8_anew_7 rfl rfl ?_
    exact k
set_option maxRecDepth 4000 in
theorem g_X8_anew_11 {sc : List Int} {d : Nat} {m : Mem} {Q : Option AV → Mem → Prop} {s0 : Int} (k : Q (some (aI s0)) m) : S_X8_anew sc d 11 [aR 62, aU] [aI s0] m Q := by
  exact x_ireturn dX8_anew_11 ⟨.int, rfl, rfl⟩ k
set_option maxRecDepth 4000 in
theorem g_X8_anew_16 {sc : List Int} {d : Nat} {m : Mem} {Q : Option AV → Mem → Prop} (k : S_X8_anew sc d 18 [aR 62, aI 0] [] m Q) : S_X8_anew sc d 16 [aR 62, aU] [] m Q := by
  refine x_iconst (pc2 := 17) dX8_anew_16 rfl ?_
  refine x_istore_n (pc2 := 18) (ls2 := [aR 62, aI 0]) dX8_anew_17 rfl (by decide) rfl ?_
  exact k
set_option maxRecDepth 4000 in
theorem g_X8_anew_18 {sc : List Int} {d : Nat} {m : Mem} {Q : Option AV → Mem → Prop} {l1 : Int} (k : (-2147483648 ≤ l1 ∧ l1 < 2147483648) ∧ ((6 ≤ l1) → (S_X8_anew sc d 38 [aR 62, aU] [aR 62] m Q)) ∧ (¬ (6 ≤ l1) → ((0 ≤ l1) ∧ (l1 < 6) ∧ S_X8_anew sc d 18 [aR 62, aI (l1 + 1)] [] (wr m 124 l1 0) Q))) : S_X8_anew sc d 18 [aR 62, aI l1] [] m Q := by
  refine x_iload_n (pc2 := 19) dX8_anew_18 rfl rfl ?_
  refine x_bipush (pc2 := 21) dX8_anew_19 rfl rfl ?_
  obtain ⟨h1, k⟩ := k
  obtain ⟨k1, k2⟩ := k
  refine x_icmp_ge (tgt := 37) (pc2 := 24) dX8_anew_21 (by decide) rfl h1 (by decide) (fun c2 => ?_) (fun c2 => ?_)
  · replace k := k1 c2
    refine x_aload_n (pc2 := 38) dX8_anew_37 rfl rfl ?_
    exact x_drop (drp_k (drp_u drp_n)) k
  · replace k := k2 c2
    refine x_aload_n (pc2 := 25) dX8_anew_24 rfl rfl ?_
    refine x_getf (pc2 := 28) (v := aR 124) fl_X8_199 ic_62 (vr_62_81 _) dX8_anew_25 rfl ?_
    refine x_iload_n (pc2 := 29) dX8_anew_28 rfl rfl ?_
    refine x_iconst (pc2 := 30) dX8_anew_29 rfl ?_
    obtain ⟨h3, k⟩ := k
    obtain ⟨h4, k⟩ := k
    refine x_iast (pc2 := 31) ic_124 h3 (by rw [al_124]; exact h4) dX8_anew_30 rfl ?_
    refine x_iinc (pc2 := 34) (ls2 := [aR 62, aI (l1 + 1)]) dX8_anew_31 rfl rfl (by decide) rfl ?_
    refine x_goto (tgt := 18) dX8_anew_34 (by decide) ?_
    exact k
set_option maxRecDepth 4000 in
theorem g_X8_anew_41 {sc : List Int} {d : Nat} {m : Mem} {Q : Option AV → Mem → Prop} (k : Q (some (aI (m 124 2))) m) : S_X8_anew sc d 41 [aR 62, aU] [] m Q := by
  refine x_aload_n (pc2 := 42) dX8_anew_41 rfl rfl ?_
  refine x_getf (pc2 := 45) (v := aR 124) fl_X8_199 ic_62 (vr_62_81 _) dX8_anew_42 rfl ?_
  refine x_iconst (pc2 := 46) dX8_anew_45 rfl ?_
  refine x_iald (pc2 := 47) ic_124 (by decide) (by rw [al_124]; decide) dX8_anew_46 rfl ?_
  exact x_ireturn dX8_anew_47 ⟨.int, rfl, rfl⟩ k
theorem c_X8_anew_8 {sc : List Int} {d d2 : Nat} {m m2 : Mem} {Q : Option AV → Mem → Prop} {v : Int} (hM : C_X8_refuses sc d2 [aR 62] m (some (aI v)) m2) (hd : d2 + 1 ≤ d) (k : S_X8_anew sc d 11 [aR 62, aU] [aI v] m2 Q) : S_X8_anew sc d 8 [aR 62, aU] [aR 62] m Q := x_callV (as := []) (rest := []) hM mk_X8_refuses mv_X8_refuses lk_X8_615 (Or.inl ⟨8, (RX8, TX8, 123), ic_62, Nat.le_of_ble_eq_true rfl, rfl, rfl⟩) hd rfl rfl (Nat.le_of_ble_eq_true rfl) dX8_anew_8 rfl k
theorem c_X8_anew_13 {sc : List Int} {d d2 : Nat} {m m2 : Mem} {Q : Option AV → Mem → Prop} (hM : C_X8_keeps sc d2 [aR 62] m none m2) (hd : d2 + 1 ≤ d) (k : S_X8_anew sc d 16 [aR 62, aU] [] m2 Q) : S_X8_anew sc d 13 [aR 62, aU] [aR 62] m Q := x_callV (as := []) (rest := []) hM mk_X8_keeps mv_X8_keeps lk_X8_618 (Or.inl ⟨8, (RX8, TX8, 123), ic_62, Nat.le_of_ble_eq_true rfl, rfl, rfl⟩) hd rfl rfl (Nat.le_of_ble_eq_true rfl) dX8_anew_13 rfl k
theorem c_X8_anew_38 {sc : List Int} {d d2 : Nat} {m m2 : Mem} {Q : Option AV → Mem → Prop} (hM : C_X8_isFresh sc d2 [aR 62] m none m2) (hd : d2 + 1 ≤ d) (k : S_X8_anew sc d 41 [aR 62, aU] [] m2 Q) : S_X8_anew sc d 38 [aR 62, aU] [aR 62] m Q := x_callV (as := []) (rest := []) hM mk_X8_isFresh mv_X8_isFresh lk_X8_606 (Or.inl ⟨8, (RX8, TX8, 123), ic_62, Nat.le_of_ble_eq_true rfl, rfl, rfl⟩) hd rfl rfl (Nat.le_of_ble_eq_true rfl) dX8_anew_38 rfl k
set_option maxRecDepth 4000 in
theorem g_X8_see_0 {sc : List Int} {d : Nat} {m : Mem} {Q : Option AV → Mem → Prop} (k : ((-2147483648 ≤ (m 62 1) ∧ (m 62 1) < 2147483648)) ∧ ((¬ ((m 62 1) ≤ 0)) → (-2147483648 ≤ ((m 62 1).tmod 2) ∧ ((m 62 1).tmod 2) < 2147483648)) ∧ ((¬ ((m 62 1) ≤ 0)) → (¬ (((m 62 1).tmod 2) ≠ 0)) → (-2147483648 ≤ ((m 62 1).tdiv 2) ∧ ((m 62 1).tdiv 2) < 2147483648)) ∧ S_X8_see sc d 36 [aR 62, aI (m 62 1), aI (if (m 62 1) ≤ 0 then 0 else (if ((m 62 1).tmod 2) ≠ 0 then 0 else (if 20 < ((m 62 1).tdiv 2) then 0 else 1 : Int) : Int) : Int), aI 0] [] (wr m 62 1 0) Q) : S_X8_see sc d 0 [aR 62, aU, aU, aU] [] m Q := by
  refine x_aload_n (pc2 := 1) dX8_see_0 rfl rfl ?_
  refine x_getf (pc2 := 4) (v := aI (m 62 1)) fl_X8_287 ic_62 (fv_i _ ic_62 rfl) dX8_see_1 rfl ?_
  refine x_istore_n (pc2 := 5) (ls2 := [aR 62, aI (m 62 1), aU, aU]) dX8_see_4 rfl (by decide) rfl ?_
  refine x_aload_n (pc2 := 6) dX8_see_5 rfl rfl ?_
  refine x_iconst (pc2 := 7) dX8_see_6 rfl ?_
  refine x_putf (pc2 := 10) (x := 0) fl_X8_287 ft_8_1 ic_62 (pv_i _ ic_62 rfl) (pn_i _) dX8_see_7 rfl ?_
  refine x_iload_n (pc2 := 11) dX8_see_10 rfl rfl ?_
  obtain ⟨g2, k⟩ := k
  obtain ⟨g4, k⟩ := k
  obtain ⟨g6, k⟩ := k
  have kj : S_X8_see sc d 33 [aR 62, aI (m 62 1), aU, aU] [aI (if (m 62 1) ≤ 0 then 0 else (if ((m 62 1).tmod 2) ≠ 0 then 0 else (if 20 < ((m 62 1).tdiv 2) then 0 else 1 : Int) : Int) : Int)] (wr m 62 1 0) Q := by
    refine x_istore_n (pc2 := 34) (ls2 := [aR 62, aI (m 62 1), aI (if (m 62 1) ≤ 0 then 0 else (if ((m 62 1).tmod 2) ≠ 0 then 0 else (if 20 < ((m 62 1).tdiv 2) then 0 else 1 : Int) : Int) : Int), aU]) dX8_see_33 rfl (by decide) rfl ?_
    refine x_iconst (pc2 := 35) dX8_see_34 rfl ?_
    refine x_istore_n (pc2 := 36) (ls2 := [aR 62, aI (m 62 1), aI (if (m 62 1) ≤ 0 then 0 else (if ((m 62 1).tmod 2) ≠ 0 then 0 else (if 20 < ((m 62 1).tdiv 2) then 0 else 1 : Int) : Int) : Int), aI 0]) dX8_see_35 rfl (by decide) rfl ?_
    exact k
  have h7 := g2 
  refine x_if_le (tgt := 32) (pc2 := 14) dX8_see_11 (by decide) rfl h7 (fun c8 => ?_) (fun c8 => ?_)
  · skip
    refine x_iconst (pc2 := 33) dX8_see_32 rfl ?_
    exact x_topI (v := (if (m 62 1) ≤ 0 then 0 else (if ((m 62 1).tmod 2) ≠ 0 then 0 else (if 20 < ((m 62 1).tdiv 2) then 0 else 1 : Int) : Int) : Int)) (if_pos c8) kj
  · skip
    refine x_iload_n (pc2 := 15) dX8_see_14 rfl rfl ?_
    refine x_iconst (pc2 := 16) dX8_see_15 rfl ?_
    refine x_irem (pc2 := 17) dX8_see_16 rfl h7 (by decide) (by decide) ?_
    have h9 := g4 c8
    refine x_if_ne (tgt := 32) (pc2 := 20) dX8_see_17 (by decide) rfl h9 (fun c10 => ?_) (fun c10 => ?_)
    · skip
      refine x_iconst (pc2 := 33) dX8_see_32 rfl ?_
      exact x_topI (v := (if (m 62 1) ≤ 0 then 0 else (if ((m 62 1).tmod 2) ≠ 0 then 0 else (if 20 < ((m 62 1).tdiv 2) then 0 else 1 : Int) : Int) : Int)) ((if_neg c8).trans (if_pos c10)) kj
    · skip
      refine x_iload_n (pc2 := 21) dX8_see_20 rfl rfl ?_
      refine x_iconst (pc2 := 22) dX8_see_21 rfl ?_
      refine x_idiv (pc2 := 23) dX8_see_22 rfl h7 (by decide) (by decide) ?_
      refine x_bipush (pc2 := 25) dX8_see_23 rfl rfl ?_
      have h11 := g6 c8 c10
      refine x_icmp_gt (tgt := 32) (pc2 := 28) dX8_see_25 (by decide) rfl h11 (by decide) (fun c12 => ?_) (fun c12 => ?_)
      · skip
        refine x_iconst (pc2 := 33) dX8_see_32 rfl ?_
        exact x_topI (v := (if (m 62 1) ≤ 0 then 0 else (if ((m 62 1).tmod 2) ≠ 0 then 0 else (if 20 < ((m 62 1).tdiv 2) then 0 else 1 : Int) : Int) : Int)) ((if_neg c8).trans ((if_neg c10).trans (if_pos c12))) kj
      · skip
        refine x_iconst (pc2 := 29) dX8_see_28 rfl ?_
        refine x_goto (tgt := 33) dX8_see_29 (by decide) ?_
        exact x_topI (v := (if (m 62 1) ≤ 0 then 0 else (if ((m 62 1).tmod 2) ≠ 0 then 0 else (if 20 < ((m 62 1).tdiv 2) then 0 else 1 : Int) : Int) : Int)) ((if_neg c8).trans ((if_neg c10).trans (if_neg c12))) kj
set_option maxRecDepth 4000 in
theorem g_X8_see_36 {sc : List Int} {d : Nat} {m : Mem} {Q : Option AV → Mem → Prop} {l1 l2 l3 : Int} (k : (-2147483648 ≤ l3 ∧ l3 < 2147483648) ∧ (-2147483648 ≤ l1 ∧ l1 < 2147483648) ∧ ((l1 ≤ l3) → ((-2147483648 ≤ l2 ∧ l2 < 2147483648) ∧ ((l2 ≠ 0) → (S_X8_see sc d 100 [aR 62, aI l1, aU, aI 0] [] m Q)) ∧ (¬ (l2 ≠ 0) → (Q (some (aI (-1))) (wr m 64 1 ((m 64 1) + 1)))))) ∧ (¬ (l1 ≤ l3) → ((-2147483648 ≤ l2 ∧ l2 < 2147483648) ∧ ((l2 = 0) → (((l2 ≠ 0) → (S_X8_see sc d 100 [aR 62, aI l1, aU, aI 0] [] m Q)) ∧ (¬ (l2 ≠ 0) → (Q (some (aI (-1))) (wr m 64 1 ((m 64 1) + 1)))))) ∧ (¬ (l2 = 0) → ((0 ≤ l3) ∧ (l3 < 1600) ∧ S_X8_see sc d 52 [aR 62, aI l1, aU, aI l3] [aR 62, aI (m 63 l3)] m Q))))) : S_X8_see sc d 36 [aR 62, aI l1, aI l2, aI l3] [] m Q := by
  refine x_iload_n (pc2 := 37) dX8_see_36 rfl rfl ?_
  refine x_iload_n (pc2 := 38) dX8_see_37 rfl rfl ?_
  obtain ⟨h1, k⟩ := k
  obtain ⟨h2, k⟩ := k
  obtain ⟨k1, k2⟩ := k
  refine x_icmp_ge (tgt := 82) (pc2 := 41) dX8_see_38 (by decide) rfl h1 h2 (fun c3 => ?_) (fun c3 => ?_)
  · replace k := k1 c3
    refine x_iload_n (pc2 := 83) dX8_see_82 rfl rfl ?_
    obtain ⟨h4, k⟩ := k
    obtain ⟨k1, k2⟩ := k
    refine x_if_ne (tgt := 98) (pc2 := 86) dX8_see_83 (by decide) rfl h4 (fun c5 => ?_) (fun c5 => ?_)
    · replace k := k1 c5
      refine x_iconst (pc2 := 99) dX8_see_98 rfl ?_
      refine x_istore_n (pc2 := 100) (ls2 := [aR 62, aI l1, aI l2, aI 0]) dX8_see_99 rfl (by decide) rfl ?_
      exact x_drop (drp_k (drp_k (drp_u (drp_k drp_n)))) k
    · replace k := k2 c5
      refine x_aload_n (pc2 := 87) dX8_see_86 rfl rfl ?_
      refine x_getf (pc2 := 90) (v := aR 64) fl_X8_17 ic_62 (vr_62_9 _) dX8_see_87 rfl ?_
      refine x_iconst (pc2 := 91) dX8_see_90 rfl ?_
      refine x_dup2_ri (pc2 := 92) dX8_see_91 rfl (by decide) ?_
      refine x_iald (pc2 := 93) ic_64 (by decide) (by rw [al_64]; decide) dX8_see_92 rfl ?_
      refine x_iconst (pc2 := 94) dX8_see_93 rfl ?_
      refine x_iadd (pc2 := 95) dX8_see_94 rfl ?_
      refine x_iast (pc2 := 96) ic_64 (by decide) (by rw [al_64]; decide) dX8_see_95 rfl ?_
      refine x_iconst (pc2 := 97) dX8_see_96 rfl ?_
      exact x_ireturn dX8_see_97 ⟨.int, rfl, rfl⟩ k
  · replace k := k2 c3
    refine x_iload_n (pc2 := 42) dX8_see_41 rfl rfl ?_
    obtain ⟨h6, k⟩ := k
    obtain ⟨k1, k2⟩ := k
    refine x_if_eq (tgt := 82) (pc2 := 45) dX8_see_42 (by decide) rfl h6 (fun c7 => ?_) (fun c7 => ?_)
    · replace k := k1 c7
      refine x_iload_n (pc2 := 83) dX8_see_82 rfl rfl ?_
      obtain ⟨k1, k2⟩ := k
      refine x_if_ne (tgt := 98) (pc2 := 86) dX8_see_83 (by decide) rfl h6 (fun c8 => ?_) (fun c8 => ?_)
      · replace k := k1 c8
        refine x_iconst (pc2 := 99) dX8_see_98 rfl ?_
        refine x_istore_n (pc2 := 100) (ls2 := [aR 62, aI l1, aI l2, aI 0]) dX8_see_99 rfl (by decide) rfl ?_
        exact x_drop (drp_k (drp_k (drp_u (drp_k drp_n)))) k
      · replace k := k2 c8
        refine x_aload_n (pc2 := 87) dX8_see_86 rfl rfl ?_
        refine x_getf (pc2 := 90) (v := aR 64) fl_X8_17 ic_62 (vr_62_9 _) dX8_see_87 rfl ?_
        refine x_iconst (pc2 := 91) dX8_see_90 rfl ?_
        refine x_dup2_ri (pc2 := 92) dX8_see_91 rfl (by decide) ?_
        refine x_iald (pc2 := 93) ic_64 (by decide) (by rw [al_64]; decide) dX8_see_92 rfl ?_
        refine x_iconst (pc2 := 94) dX8_see_93 rfl ?_
        refine x_iadd (pc2 := 95) dX8_see_94 rfl ?_
        refine x_iast (pc2 := 96) ic_64 (by decide) (by rw [al_64]; decide) dX8_see_95 rfl ?_
        refine x_iconst (pc2 := 97) dX8_see_96 rfl ?_
        exact x_ireturn dX8_see_97 ⟨.int, rfl, rfl⟩ k
    · replace k := k2 c7
      refine x_aload_n (pc2 := 46) dX8_see_45 rfl rfl ?_
      refine x_getf (pc2 := 49) (v := aR 63) fl_X8_7 ic_62 (vr_62_0 _) dX8_see_46 rfl ?_
      refine x_iload_n (pc2 := 50) dX8_see_49 rfl rfl ?_
      obtain ⟨h9, k⟩ := k
      obtain ⟨h10, k⟩ := k
      refine x_iald (pc2 := 51) ic_63 h9 (by rw [al_63]; exact h10) dX8_see_50 rfl ?_
      refine x_aload_n (pc2 := 52) dX8_see_51 rfl rfl ?_
      exact x_drop (drp_k (drp_k (drp_u (drp_k drp_n)))) k
set_option maxRecDepth 4000 in
theorem g_X8_see_55 {sc : List Int} {d : Nat} {m : Mem} {Q : Option AV → Mem → Prop} {l1 l3 s0 s1 : Int} (k : ((-2147483648 ≤ s0 ∧ s0 < 2147483648)) ∧ ((-2147483648 ≤ s1 ∧ s1 < 2147483648)) ∧ ((¬ (s1 ≤ s0)) → (0 ≤ (l3 + 1))) ∧ ((¬ (s1 ≤ s0)) → ((l3 + 1) < 1600)) ∧ ((¬ (s1 ≤ s0)) → (-2147483648 ≤ (m 63 (l3 + 1)) ∧ (m 63 (l3 + 1)) < 2147483648)) ∧ S_X8_see sc d 36 [aR 62, aI l1, aI (if s1 ≤ s0 then 0 else (if 2 ≤ (m 63 (l3 + 1)) then 0 else 1 : Int) : Int), aI (l3 + 2)] [] m Q) : S_X8_see sc d 55 [aR 62, aI l1, aU, aI l3] [aI s1, aI s0] m Q := by
  obtain ⟨g3, k⟩ := k
  obtain ⟨g4, k⟩ := k
  obtain ⟨g7, k⟩ := k
  obtain ⟨g8, k⟩ := k
  obtain ⟨g10, k⟩ := k
  have kj : S_X8_see sc d 75 [aR 62, aI l1, aU, aI l3] [aI (if s1 ≤ s0 then 0 else (if 2 ≤ (m 63 (l3 + 1)) then 0 else 1 : Int) : Int)] m Q := by
    refine x_istore_n (pc2 := 76) (ls2 := [aR 62, aI l1, aI (if s1 ≤ s0 then 0 else (if 2 ≤ (m 63 (l3 + 1)) then 0 else 1 : Int) : Int), aI l3]) dX8_see_75 rfl (by decide) rfl ?_
    refine x_iinc (pc2 := 79) (ls2 := [aR 62, aI l1, aI (if s1 ≤ s0 then 0 else (if 2 ≤ (m 63 (l3 + 1)) then 0 else 1 : Int) : Int), aI (l3 + 2)]) dX8_see_76 rfl rfl (by decide) rfl ?_
    refine x_goto (tgt := 36) dX8_see_79 (by decide) ?_
    exact k
  have h11 := g3 
  have h12 := g4 
  refine x_icmp_ge (tgt := 74) (pc2 := 58) dX8_see_55 (by decide) rfl h11 h12 (fun c13 => ?_) (fun c13 => ?_)
  · skip
    refine x_iconst (pc2 := 75) dX8_see_74 rfl ?_
    exact x_topI (v := (if s1 ≤ s0 then 0 else (if 2 ≤ (m 63 (l3 + 1)) then 0 else 1 : Int) : Int)) (if_pos c13) kj
  · skip
    refine x_aload_n (pc2 := 59) dX8_see_58 rfl rfl ?_
    refine x_getf (pc2 := 62) (v := aR 63) fl_X8_7 ic_62 (vr_62_0 _) dX8_see_59 rfl ?_
    refine x_iload_n (pc2 := 63) dX8_see_62 rfl rfl ?_
    refine x_iconst (pc2 := 64) dX8_see_63 rfl ?_
    refine x_iadd (pc2 := 65) dX8_see_64 rfl ?_
    have h14 := g7 c13
    have h15 := g8 c13
    refine x_iald (pc2 := 66) ic_63 h14 (by rw [al_63]; exact h15) dX8_see_65 rfl ?_
    refine x_iconst (pc2 := 67) dX8_see_66 rfl ?_
    have h16 := g10 c13
    refine x_icmp_ge (tgt := 74) (pc2 := 70) dX8_see_67 (by decide) rfl h16 (by decide) (fun c17 => ?_) (fun c17 => ?_)
    · skip
      refine x_iconst (pc2 := 75) dX8_see_74 rfl ?_
      exact x_topI (v := (if s1 ≤ s0 then 0 else (if 2 ≤ (m 63 (l3 + 1)) then 0 else 1 : Int) : Int)) ((if_neg c13).trans (if_pos c17)) kj
    · skip
      refine x_iconst (pc2 := 71) dX8_see_70 rfl ?_
      refine x_goto (tgt := 75) dX8_see_71 (by decide) ?_
      exact x_topI (v := (if s1 ≤ s0 then 0 else (if 2 ≤ (m 63 (l3 + 1)) then 0 else 1 : Int) : Int)) ((if_neg c13).trans (if_neg c17)) kj
set_option maxRecDepth 4000 in
theorem g_X8_see_100 {sc : List Int} {d : Nat} {m : Mem} {Q : Option AV → Mem → Prop} {l1 l3 : Int} (k : (-2147483648 ≤ l3 ∧ l3 < 2147483648) ∧ (-2147483648 ≤ l1 ∧ l1 < 2147483648) ∧ ((l1 ≤ l3) → (Q (some (aI ((wr m 62 88 (l1.tdiv 2)) 62 88))) (wr m 62 88 (l1.tdiv 2)))) ∧ (¬ (l1 ≤ l3) → ((0 ≤ l3) ∧ (l3 < 1600) ∧ (l3 < 40) ∧ S_X8_see sc d 100 [aR 62, aI l1, aU, aI (l3 + 1)] [] (wr m 126 l3 (m 63 l3)) Q))) : S_X8_see sc d 100 [aR 62, aI l1, aU, aI l3] [] m Q := by
  refine x_iload_n (pc2 := 101) dX8_see_100 rfl rfl ?_
  refine x_iload_n (pc2 := 102) dX8_see_101 rfl rfl ?_
  obtain ⟨h1, k⟩ := k
  obtain ⟨h2, k⟩ := k
  obtain ⟨k1, k2⟩ := k
  refine x_icmp_ge (tgt := 123) (pc2 := 105) dX8_see_102 (by decide) rfl h1 h2 (fun c3 => ?_) (fun c3 => ?_)
  · replace k := k1 c3
    refine x_aload_n (pc2 := 124) dX8_see_123 rfl rfl ?_
    refine x_iload_n (pc2 := 125) dX8_see_124 rfl rfl ?_
    refine x_iconst (pc2 := 126) dX8_see_125 rfl ?_
    refine x_idiv (pc2 := 127) dX8_see_126 rfl h2 (by decide) (by decide) ?_
    refine x_putf (pc2 := 130) (x := (l1.tdiv 2)) fl_X8_428 ft_8_88 ic_62 (pv_i _ ic_62 rfl) (pn_i _) dX8_see_127 rfl ?_
    refine x_aload_n (pc2 := 131) dX8_see_130 rfl rfl ?_
    refine x_getf (pc2 := 134) (v := aI ((wr m 62 88 (l1.tdiv 2)) 62 88)) fl_X8_428 ic_62 (fv_i _ ic_62 rfl) dX8_see_131 rfl ?_
    exact x_ireturn dX8_see_134 ⟨.int, rfl, rfl⟩ k
  · replace k := k2 c3
    refine x_aload_n (pc2 := 106) dX8_see_105 rfl rfl ?_
    refine x_getf (pc2 := 109) (v := aR 126) fl_X8_209 ic_62 (vr_62_89 _) dX8_see_106 rfl ?_
    refine x_iload_n (pc2 := 110) dX8_see_109 rfl rfl ?_
    refine x_aload_n (pc2 := 111) dX8_see_110 rfl rfl ?_
    refine x_getf (pc2 := 114) (v := aR 63) fl_X8_7 ic_62 (vr_62_0 _) dX8_see_111 rfl ?_
    refine x_iload_n (pc2 := 115) dX8_see_114 rfl rfl ?_
    obtain ⟨h4, k⟩ := k
    obtain ⟨h5, k⟩ := k
    refine x_iald (pc2 := 116) ic_63 h4 (by rw [al_63]; exact h5) dX8_see_115 rfl ?_
    obtain ⟨h6, k⟩ := k
    refine x_iast (pc2 := 117) ic_126 h4 (by rw [al_126]; exact h6) dX8_see_116 rfl ?_
    refine x_iinc (pc2 := 120) (ls2 := [aR 62, aI l1, aU, aI (l3 + 1)]) dX8_see_117 rfl rfl (by decide) rfl ?_
    refine x_goto (tgt := 100) dX8_see_120 (by decide) ?_
    exact k
theorem c_X8_see_52 {sc : List Int} {d d2 : Nat} {m m2 : Mem} {Q : Option AV → Mem → Prop} {l1 l3 s0 : Int} {v : Int} (hM : C_X8_seamMany sc d2 [aR 62] m (some (aI v)) m2) (hd : d2 + 1 ≤ d) (k : S_X8_see sc d 55 [aR 62, aI l1, aU, aI l3] [aI v, aI s0] m2 Q) : S_X8_see sc d 52 [aR 62, aI l1, aU, aI l3] [aR 62, aI s0] m Q := x_callV (as := []) (rest := [aI s0]) hM mk_X8_seamMany mv_X8_seamMany lk_X8_431 (Or.inl ⟨8, (RX8, TX8, 123), ic_62, Nat.le_of_ble_eq_true rfl, rfl, rfl⟩) hd rfl rfl (Nat.le_of_ble_eq_true rfl) dX8_see_52 rfl k
set_option maxRecDepth 4000 in
theorem g_X8_isFitting_0 {sc : List Int} {d : Nat} {m : Mem} {Q : Option AV → Mem → Prop} {l1 : Int} (k : S_X8_isFitting sc d 2 [aR 62, aU, aU] [aI l1, aR 62] m Q) : S_X8_isFitting sc d 0 [aR 62, aI l1, aU] [] m Q := by
  refine x_aload_n (pc2 := 1) dX8_isFitting_0 rfl rfl ?_
  refine x_iload_n (pc2 := 2) dX8_isFitting_1 rfl rfl ?_
  exact x_drop (drp_k (drp_u (drp_k drp_n))) k
set_option maxRecDepth 4000 in
theorem g_X8_isFitting_5 {sc : List Int} {d : Nat} {m : Mem} {Q : Option AV → Mem → Prop} {s0 : Int} (k : (-2147483648 ≤ s0 ∧ s0 < 2147483648) ∧ ((s0 ≠ 0) → (S_X8_isFitting sc d 12 [aR 62, aU, aI 0] [] m Q)) ∧ (¬ (s0 ≠ 0) → (Q (some (aI 0)) m))) : S_X8_isFitting sc d 5 [aR 62, aU, aU] [aI s0] m Q := by
  obtain ⟨h1, k⟩ := k
  obtain ⟨k1, k2⟩ := k
  refine x_if_ne (tgt := 10) (pc2 := 8) dX8_isFitting_5 (by decide) rfl h1 (fun c2 => ?_) (fun c2 => ?_)
  · replace k := k1 c2
    refine x_iconst (pc2 := 11) dX8_isFitting_10 rfl ?_
    refine x_istore_n (pc2 := 12) (ls2 := [aR 62, aU, aI 0]) dX8_isFitting_11 rfl (by decide) rfl ?_
    exact k
  · replace k := k2 c2
    refine x_iconst (pc2 := 9) dX8_isFitting_8 rfl ?_
    exact x_ireturn dX8_isFitting_9 ⟨.boolean, rfl, rfl⟩ k
set_option maxRecDepth 4000 in
theorem g_X8_isFitting_12 {sc : List Int} {d : Nat} {m : Mem} {Q : Option AV → Mem → Prop} {l2 : Int} (k : (-2147483648 ≤ l2 ∧ l2 < 2147483648) ∧ (-2147483648 ≤ (m 62 88) ∧ (m 62 88) < 2147483648) ∧ (((m 62 88) ≤ l2) → (Q (some (aI 1)) m)) ∧ (¬ ((m 62 88) ≤ l2) → ((0 ≤ (2 * l2)) ∧ ((2 * l2) < 40) ∧ (0 ≤ (m 126 (2 * l2))) ∧ ((m 126 (2 * l2)) < 10) ∧ (0 ≤ ((2 * l2) + 1)) ∧ (((2 * l2) + 1) < 40) ∧ (-2147483648 ≤ (m 110 (m 126 (2 * l2))) ∧ (m 110 (m 126 (2 * l2))) < 2147483648) ∧ (-2147483648 ≤ (m 126 ((2 * l2) + 1)) ∧ (m 126 ((2 * l2) + 1)) < 2147483648) ∧ (((m 110 (m 126 (2 * l2))) = (m 126 ((2 * l2) + 1))) → (S_X8_isFitting sc d 12 [aR 62, aU, aI (l2 + 1)] [] m Q)) ∧ (¬ ((m 110 (m 126 (2 * l2))) = (m 126 ((2 * l2) + 1))) → (Q (some (aI 0)) m))))) : S_X8_isFitting sc d 12 [aR 62, aU, aI l2] [] m Q := by
  refine x_iload_n (pc2 := 13) dX8_isFitting_12 rfl rfl ?_
  refine x_aload_n (pc2 := 14) dX8_isFitting_13 rfl rfl ?_
  refine x_getf (pc2 := 17) (v := aI (m 62 88)) fl_X8_428 ic_62 (fv_i _ ic_62 rfl) dX8_isFitting_14 rfl ?_
  obtain ⟨h1, k⟩ := k
  obtain ⟨h2, k⟩ := k
  obtain ⟨k1, k2⟩ := k
  refine x_icmp_ge (tgt := 54) (pc2 := 20) dX8_isFitting_17 (by decide) rfl h1 h2 (fun c3 => ?_) (fun c3 => ?_)
  · replace k := k1 c3
    refine x_iconst (pc2 := 55) dX8_isFitting_54 rfl ?_
    exact x_ireturn dX8_isFitting_55 ⟨.boolean, rfl, rfl⟩ k
  · replace k := k2 c3
    refine x_aload_n (pc2 := 21) dX8_isFitting_20 rfl rfl ?_
    refine x_getf (pc2 := 24) (v := aR 110) fl_X8_157 ic_62 (vr_62_65 _) dX8_isFitting_21 rfl ?_
    refine x_aload_n (pc2 := 25) dX8_isFitting_24 rfl rfl ?_
    refine x_getf (pc2 := 28) (v := aR 126) fl_X8_209 ic_62 (vr_62_89 _) dX8_isFitting_25 rfl ?_
    refine x_iconst (pc2 := 29) dX8_isFitting_28 rfl ?_
    refine x_iload_n (pc2 := 30) dX8_isFitting_29 rfl rfl ?_
    refine x_imul (pc2 := 31) dX8_isFitting_30 rfl ?_
    obtain ⟨h4, k⟩ := k
    obtain ⟨h5, k⟩ := k
    refine x_iald (pc2 := 32) ic_126 h4 (by rw [al_126]; exact h5) dX8_isFitting_31 rfl ?_
    obtain ⟨h6, k⟩ := k
    obtain ⟨h7, k⟩ := k
    refine x_iald (pc2 := 33) ic_110 h6 (by rw [al_110]; exact h7) dX8_isFitting_32 rfl ?_
    refine x_aload_n (pc2 := 34) dX8_isFitting_33 rfl rfl ?_
    refine x_getf (pc2 := 37) (v := aR 126) fl_X8_209 ic_62 (vr_62_89 _) dX8_isFitting_34 rfl ?_
    refine x_iconst (pc2 := 38) dX8_isFitting_37 rfl ?_
    refine x_iload_n (pc2 := 39) dX8_isFitting_38 rfl rfl ?_
    refine x_imul (pc2 := 40) dX8_isFitting_39 rfl ?_
    refine x_iconst (pc2 := 41) dX8_isFitting_40 rfl ?_
    refine x_iadd (pc2 := 42) dX8_isFitting_41 rfl ?_
    obtain ⟨h8, k⟩ := k
    obtain ⟨h9, k⟩ := k
    refine x_iald (pc2 := 43) ic_126 h8 (by rw [al_126]; exact h9) dX8_isFitting_42 rfl ?_
    obtain ⟨h10, k⟩ := k
    obtain ⟨h11, k⟩ := k
    obtain ⟨k1, k2⟩ := k
    refine x_icmp_eq (tgt := 48) (pc2 := 46) dX8_isFitting_43 (by decide) rfl h10 h11 (fun c12 => ?_) (fun c12 => ?_)
    · replace k := k1 c12
      refine x_iinc (pc2 := 51) (ls2 := [aR 62, aU, aI (l2 + 1)]) dX8_isFitting_48 rfl rfl (by decide) rfl ?_
      refine x_goto (tgt := 12) dX8_isFitting_51 (by decide) ?_
      exact k
    · replace k := k2 c12
      refine x_iconst (pc2 := 47) dX8_isFitting_46 rfl ?_
      exact x_ireturn dX8_isFitting_47 ⟨.boolean, rfl, rfl⟩ k
theorem c_X8_isFitting_2 {sc : List Int} {d d2 : Nat} {m m2 : Mem} {Q : Option AV → Mem → Prop} {s1 : Int} {v : Int} (hM : C_X8_packs sc d2 [aR 62, aI s1] m (some (aI v)) m2) (hd : d2 + 1 ≤ d) (k : S_X8_isFitting sc d 5 [aR 62, aU, aU] [aI v] m2 Q) : S_X8_isFitting sc d 2 [aR 62, aU, aU] [aI s1, aR 62] m Q := x_callV (as := [aI s1]) (rest := []) hM mk_X8_packs mv_X8_packs lk_X8_557 (Or.inl ⟨8, (RX8, TX8, 123), ic_62, Nat.le_of_ble_eq_true rfl, rfl, rfl⟩) hd rfl rfl (Nat.le_of_ble_eq_true rfl) dX8_isFitting_2 rfl k
set_option maxRecDepth 4000 in
theorem g_X8_fits_0 {sc : List Int} {d : Nat} {m : Mem} {Q : Option AV → Mem → Prop} {l1 : Int} (k : (-2147483648 ≤ (m 62 88) ∧ (m 62 88) < 2147483648) ∧ (((m 62 88) = 0) → (Q (some (aI (-1))) m)) ∧ (¬ ((m 62 88) = 0) → ((-2147483648 ≤ l1 ∧ l1 < 2147483648) ∧ S_X8_fits sc d 13 [aR 62, aI l1, aU, aU, aU, aU] [aJ 2, aJ 0, aJ l1] m Q))) : S_X8_fits sc d 0 [aR 62, aI l1, aU, aU, aU, aU] [] m Q := by
  refine x_aload_n (pc2 := 1) dX8_fits_0 rfl rfl ?_
  refine x_getf (pc2 := 4) (v := aI (m 62 88)) fl_X8_428 ic_62 (fv_i _ ic_62 rfl) dX8_fits_1 rfl ?_
  obtain ⟨h1, k⟩ := k
  obtain ⟨k1, k2⟩ := k
  refine x_if_eq (tgt := 19) (pc2 := 7) dX8_fits_4 (by decide) rfl h1 (fun c2 => ?_) (fun c2 => ?_)
  · replace k := k1 c2
    refine x_iconst (pc2 := 20) dX8_fits_19 rfl ?_
    exact x_ireturn dX8_fits_20 ⟨.int, rfl, rfl⟩ k
  · replace k := k2 c2
    refine x_iload_n (pc2 := 8) dX8_fits_7 rfl rfl ?_
    obtain ⟨h3, k⟩ := k
    refine x_i2l (pc2 := 9) dX8_fits_8 rfl h3 ?_
    refine x_lconst (pc2 := 10) (v := 0) dX8_fits_9 rfl rfl ?_
    refine x_ldc2 (pc2 := 13) (x := 2) kc_X8_526 rfl dX8_fits_10 rfl ?_
    exact k
set_option maxRecDepth 4000 in
theorem g_X8_fits_16 {sc : List Int} {d : Nat} {m : Mem} {Q : Option AV → Mem → Prop} {l1 s0 : Int} (k : (-2147483648 ≤ s0 ∧ s0 < 2147483648) ∧ ((s0 ≠ 0) → (S_X8_fits sc d 31 [aR 62, aI l1, aI 0, aI (-1), aI (-1), aI 1] [] m Q)) ∧ (¬ (s0 ≠ 0) → (Q (some (aI (-1))) m))) : S_X8_fits sc d 16 [aR 62, aI l1, aU, aU, aU, aU] [aI s0] m Q := by
  obtain ⟨h1, k⟩ := k
  obtain ⟨k1, k2⟩ := k
  refine x_if_ne (tgt := 21) (pc2 := 19) dX8_fits_16 (by decide) rfl h1 (fun c2 => ?_) (fun c2 => ?_)
  · replace k := k1 c2
    refine x_iconst (pc2 := 22) dX8_fits_21 rfl ?_
    refine x_istore_n (pc2 := 23) (ls2 := [aR 62, aI l1, aI 0, aU, aU, aU]) dX8_fits_22 rfl (by decide) rfl ?_
    refine x_iconst (pc2 := 24) dX8_fits_23 rfl ?_
    refine x_istore_n (pc2 := 25) (ls2 := [aR 62, aI l1, aI 0, aI (-1), aU, aU]) dX8_fits_24 rfl (by decide) rfl ?_
    refine x_iconst (pc2 := 26) dX8_fits_25 rfl ?_
    refine x_istore (pc2 := 28) (ls2 := [aR 62, aI l1, aI 0, aI (-1), aI (-1), aU]) dX8_fits_26 rfl (by decide) rfl ?_
    refine x_iconst (pc2 := 29) dX8_fits_28 rfl ?_
    refine x_istore (pc2 := 31) (ls2 := [aR 62, aI l1, aI 0, aI (-1), aI (-1), aI 1]) dX8_fits_29 rfl (by decide) rfl ?_
    exact k
  · replace k := k2 c2
    refine x_iconst (pc2 := 20) dX8_fits_19 rfl ?_
    exact x_ireturn dX8_fits_20 ⟨.int, rfl, rfl⟩ k
set_option maxRecDepth 4000 in
theorem g_X8_fits_31 {sc : List Int} {d : Nat} {m : Mem} {Q : Option AV → Mem → Prop} {l1 l2 l3 l4 l5 : Int} (k : (-2147483648 ≤ l5 ∧ l5 < 2147483648) ∧ ((99 < l5) → (((-2147483648 ≤ l1 ∧ l1 < 2147483648)) ∧ Q (some (aI (if l1 ≠ 0 then (if l1 ≠ 1 then l4 else l3 : Int) else l2 : Int))) m)) ∧ (¬ (99 < l5) → (S_X8_fits sc d 41 [aR 62, aI l1, aI l2, aI l3, aI l4, aI l5] [aI l5, aR 62] m Q))) : S_X8_fits sc d 31 [aR 62, aI l1, aI l2, aI l3, aI l4, aI l5] [] m Q := by
  refine x_iload (pc2 := 33) dX8_fits_31 rfl rfl ?_
  refine x_bipush (pc2 := 35) dX8_fits_33 rfl rfl ?_
  obtain ⟨h1, k⟩ := k
  obtain ⟨k1, k2⟩ := k
  refine x_icmp_gt (tgt := 71) (pc2 := 38) dX8_fits_35 (by decide) rfl h1 (by decide) (fun c2 => ?_) (fun c2 => ?_)
  · replace k := k1 c2
    refine x_iload_n (pc2 := 72) dX8_fits_71 rfl rfl ?_
    obtain ⟨g4, k⟩ := k
    have kj : S_X8_fits sc d 90 [aR 62, aI l1, aI l2, aI l3, aI l4, aI l5] [aI (if l1 ≠ 0 then (if l1 ≠ 1 then l4 else l3 : Int) else l2 : Int)] m Q := by
      exact x_ireturn dX8_fits_90 ⟨.int, rfl, rfl⟩ k
    have h5 := g4 
    refine x_if_ne (tgt := 79) (pc2 := 75) dX8_fits_72 (by decide) rfl h5 (fun c6 => ?_) (fun c6 => ?_)
    · skip
      refine x_iload_n (pc2 := 80) dX8_fits_79 rfl rfl ?_
      refine x_iconst (pc2 := 81) dX8_fits_80 rfl ?_
      refine x_icmp_ne (tgt := 88) (pc2 := 84) dX8_fits_81 (by decide) rfl h5 (by decide) (fun c7 => ?_) (fun c7 => ?_)
      · skip
        refine x_iload (pc2 := 90) dX8_fits_88 rfl rfl ?_
        exact x_topI (v := (if l1 ≠ 0 then (if l1 ≠ 1 then l4 else l3 : Int) else l2 : Int)) ((if_pos c6).trans (if_pos c7)) kj
      · skip
        refine x_iload_n (pc2 := 85) dX8_fits_84 rfl rfl ?_
        refine x_goto (tgt := 90) dX8_fits_85 (by decide) ?_
        exact x_topI (v := (if l1 ≠ 0 then (if l1 ≠ 1 then l4 else l3 : Int) else l2 : Int)) ((if_pos c6).trans (if_neg c7)) kj
    · skip
      refine x_iload_n (pc2 := 76) dX8_fits_75 rfl rfl ?_
      refine x_goto (tgt := 90) dX8_fits_76 (by decide) ?_
      exact x_topI (v := (if l1 ≠ 0 then (if l1 ≠ 1 then l4 else l3 : Int) else l2 : Int)) (if_neg c6) kj
  · replace k := k2 c2
    refine x_aload_n (pc2 := 39) dX8_fits_38 rfl rfl ?_
    refine x_iload (pc2 := 41) dX8_fits_39 rfl rfl ?_
    exact k
set_option maxRecDepth 4000 in
theorem g_X8_fits_44 {sc : List Int} {d : Nat} {m : Mem} {Q : Option AV → Mem → Prop} {l1 l2 l3 l4 l5 s0 : Int} (k : (-2147483648 ≤ s0 ∧ s0 < 2147483648) ∧ ((s0 ≠ 0) → ((-2147483648 ≤ l3 ∧ l3 < 2147483648) ∧ ((l3 ≠ (-1)) → (S_X8_fits sc d 31 [aR 62, aI l1, aI (l2 + 1), aI l3, aI l5, aI (l5 + 1)] [] m Q)) ∧ (¬ (l3 ≠ (-1)) → (S_X8_fits sc d 31 [aR 62, aI l1, aI (l2 + 1), aI l5, aI l5, aI (l5 + 1)] [] m Q)))) ∧ (¬ (s0 ≠ 0) → (S_X8_fits sc d 31 [aR 62, aI l1, aI l2, aI l3, aI l4, aI (l5 + 1)] [] m Q))) : S_X8_fits sc d 44 [aR 62, aI l1, aI l2, aI l3, aI l4, aI l5] [aI s0] m Q := by
  obtain ⟨h1, k⟩ := k
  obtain ⟨k1, k2⟩ := k
  refine x_if_ne (tgt := 50) (pc2 := 47) dX8_fits_44 (by decide) rfl h1 (fun c2 => ?_) (fun c2 => ?_)
  · replace k := k1 c2
    refine x_iinc (pc2 := 53) (ls2 := [aR 62, aI l1, aI (l2 + 1), aI l3, aI l4, aI l5]) dX8_fits_50 rfl rfl (by decide) rfl ?_
    refine x_iload_n (pc2 := 54) dX8_fits_53 rfl rfl ?_
    refine x_iconst (pc2 := 55) dX8_fits_54 rfl ?_
    obtain ⟨h3, k⟩ := k
    obtain ⟨k1, k2⟩ := k
    refine x_icmp_ne (tgt := 61) (pc2 := 58) dX8_fits_55 (by decide) rfl h3 (by decide) (fun c4 => ?_) (fun c4 => ?_)
    · replace k := k1 c4
      refine x_iload (pc2 := 63) dX8_fits_61 rfl rfl ?_
      refine x_istore (pc2 := 65) (ls2 := [aR 62, aI l1, aI (l2 + 1), aI l3, aI l5, aI l5]) dX8_fits_63 rfl (by decide) rfl ?_
      refine x_iinc (pc2 := 68) (ls2 := [aR 62, aI l1, aI (l2 + 1), aI l3, aI l5, aI (l5 + 1)]) dX8_fits_65 rfl rfl (by decide) rfl ?_
      refine x_goto (tgt := 31) dX8_fits_68 (by decide) ?_
      exact k
    · replace k := k2 c4
      refine x_iload (pc2 := 60) dX8_fits_58 rfl rfl ?_
      refine x_istore_n (pc2 := 61) (ls2 := [aR 62, aI l1, aI (l2 + 1), aI l5, aI l4, aI l5]) dX8_fits_60 rfl (by decide) rfl ?_
      refine x_iload (pc2 := 63) dX8_fits_61 rfl rfl ?_
      refine x_istore (pc2 := 65) (ls2 := [aR 62, aI l1, aI (l2 + 1), aI l5, aI l5, aI l5]) dX8_fits_63 rfl (by decide) rfl ?_
      refine x_iinc (pc2 := 68) (ls2 := [aR 62, aI l1, aI (l2 + 1), aI l5, aI l5, aI (l5 + 1)]) dX8_fits_65 rfl rfl (by decide) rfl ?_
      refine x_goto (tgt := 31) dX8_fits_68 (by decide) ?_
      exact k
  · replace k := k2 c2
    refine x_goto (tgt := 65) dX8_fits_47 (by decide) ?_
    refine x_iinc (pc2 := 68) (ls2 := [aR 62, aI l1, aI l2, aI l3, aI l4, aI (l5 + 1)]) dX8_fits_65 rfl rfl (by decide) rfl ?_
    refine x_goto (tgt := 31) dX8_fits_68 (by decide) ?_
    exact k
theorem c_X8_fits_13 {sc : List Int} {d d2 : Nat} {m m2 : Mem} {Q : Option AV → Mem → Prop} {l1 s0 s1 s2 : Int} {v : Int} (hM : C_X8_isIn sc d2 [aJ s0, aJ s1, aJ s2] m (some (aI v)) m2) (hd : d2 + 1 ≤ d) (k : S_X8_fits sc d 16 [aR 62, aI l1, aU, aU, aU, aU] [aI v] m2 Q) : S_X8_fits sc d 13 [aR 62, aI l1, aU, aU, aU, aU] [aJ s2, aJ s1, aJ s0] m Q := x_callS (as := [aJ s0, aJ s1, aJ s2]) (rest := []) hM mk_X8_isIn ms_X8_isIn lk_X8_333 hd rfl rfl (Nat.le_of_ble_eq_true rfl) dX8_fits_13 rfl k
theorem c_X8_fits_41 {sc : List Int} {d d2 : Nat} {m m2 : Mem} {Q : Option AV → Mem → Prop} {l1 l2 l3 l4 l5 s1 : Int} {v : Int} (hM : C_X8_isFitting sc d2 [aR 62, aI s1] m (some (aI v)) m2) (hd : d2 + 1 ≤ d) (k : S_X8_fits sc d 44 [aR 62, aI l1, aI l2, aI l3, aI l4, aI l5] [aI v] m2 Q) : S_X8_fits sc d 41 [aR 62, aI l1, aI l2, aI l3, aI l4, aI l5] [aI s1, aR 62] m Q := x_callV (as := [aI s1]) (rest := []) hM mk_X8_isFitting mv_X8_isFitting lk_X8_628 (Or.inl ⟨8, (RX8, TX8, 123), ic_62, Nat.le_of_ble_eq_true rfl, rfl, rfl⟩) hd rfl rfl (Nat.le_of_ble_eq_true rfl) dX8_fits_41 rfl k
set_option maxRecDepth 4000 in
theorem g_X8_qCode_0 {sc : List Int} {d : Nat} {m : Mem} {Q : Option AV → Mem → Prop} {l1 : Int} (k : (0 ≤ (m 62 112)) ∧ ((m 62 112) < 1700) ∧ Q none (wr (wr m 148 (m 62 112) l1) 62 112 (((wr m 148 (m 62 112) l1) 62 112) + 1))) : S_X8_qCode sc d 0 [aR 62, aI l1] [] m Q := by
  refine x_aload_n (pc2 := 1) dX8_qCode_0 rfl rfl ?_
  refine x_getf (pc2 := 4) (v := aR 148) fl_X8_275 ic_62 (vr_62_111 _) dX8_qCode_1 rfl ?_
  refine x_aload_n (pc2 := 5) dX8_qCode_4 rfl rfl ?_
  refine x_getf (pc2 := 8) (v := aI (m 62 112)) fl_X8_383 ic_62 (fv_i _ ic_62 rfl) dX8_qCode_5 rfl ?_
  refine x_iload_n (pc2 := 9) dX8_qCode_8 rfl rfl ?_
  obtain ⟨h1, k⟩ := k
  obtain ⟨h2, k⟩ := k
  refine x_iast (pc2 := 10) ic_148 h1 (by rw [al_148]; exact h2) dX8_qCode_9 rfl ?_
  refine x_aload_n (pc2 := 11) dX8_qCode_10 rfl rfl ?_
  refine x_dup_r (pc2 := 12) dX8_qCode_11 rfl (by decide) ?_
  refine x_getf (pc2 := 15) (v := aI ((wr m 148 (m 62 112) l1) 62 112)) fl_X8_383 ic_62 (fv_i _ ic_62 rfl) dX8_qCode_12 rfl ?_
  refine x_iconst (pc2 := 16) dX8_qCode_15 rfl ?_
  refine x_iadd (pc2 := 17) dX8_qCode_16 rfl ?_
  refine x_putf (pc2 := 20) (x := (((wr m 148 (m 62 112) l1) 62 112) + 1)) fl_X8_383 ft_8_112 ic_62 (pv_i _ ic_62 rfl) (pn_i _) dX8_qCode_17 rfl ?_
  exact x_return dX8_qCode_20 rfl k
set_option maxRecDepth 4000 in
theorem g_X8_qOpens_0 {sc : List Int} {d : Nat} {m : Mem} {Q : Option AV → Mem → Prop} {l1 l2 : Int} (k : (-2147483648 ≤ (m 62 5) ∧ (m 62 5) < 2147483648) ∧ (((m 62 5) = 0) → ((-2147483648 ≤ (m 62 115) ∧ (m 62 115) < 2147483648) ∧ (((m 62 115) ≠ 6) → ((0 ≤ ((wr m 62 115 ((m 62 115) + 1)) 62 114)) ∧ (((wr m 62 115 ((m 62 115) + 1)) 62 114) < 1700) ∧ Q none (wr (wr (wr m 62 115 ((m 62 115) + 1)) 149 ((wr m 62 115 ((m 62 115) + 1)) 62 114) l1) 62 114 (((wr (wr m 62 115 ((m 62 115) + 1)) 149 ((wr m 62 115 ((m 62 115) + 1)) 62 114) l1) 62 114) + 1)))) ∧ (¬ ((m 62 115) ≠ 6) → (S_X8_qOpens sc d 20 [aR 62, aU, aU] [aI l2, aI 4, aR 62] m Q)))) ∧ (¬ ((m 62 5) = 0) → (Q none m))) : S_X8_qOpens sc d 0 [aR 62, aI l1, aI l2] [] m Q := by
  refine x_aload_n (pc2 := 1) dX8_qOpens_0 rfl rfl ?_
  refine x_getf (pc2 := 4) (v := aI (m 62 5)) fl_X8_290 ic_62 (fv_i _ ic_62 rfl) dX8_qOpens_1 rfl ?_
  obtain ⟨h1, k⟩ := k
  obtain ⟨k1, k2⟩ := k
  refine x_if_eq (tgt := 8) (pc2 := 7) dX8_qOpens_4 (by decide) rfl h1 (fun c2 => ?_) (fun c2 => ?_)
  · replace k := k1 c2
    refine x_aload_n (pc2 := 9) dX8_qOpens_8 rfl rfl ?_
    refine x_getf (pc2 := 12) (v := aI (m 62 115)) fl_X8_389 ic_62 (fv_i _ ic_62 rfl) dX8_qOpens_9 rfl ?_
    refine x_bipush (pc2 := 14) dX8_qOpens_12 rfl rfl ?_
    obtain ⟨h3, k⟩ := k
    obtain ⟨k1, k2⟩ := k
    refine x_icmp_ne (tgt := 24) (pc2 := 17) dX8_qOpens_14 (by decide) rfl h3 (by decide) (fun c4 => ?_) (fun c4 => ?_)
    · replace k := k1 c4
      refine x_aload_n (pc2 := 25) dX8_qOpens_24 rfl rfl ?_
      refine x_dup_r (pc2 := 26) dX8_qOpens_25 rfl (by decide) ?_
      refine x_getf (pc2 := 29) (v := aI (m 62 115)) fl_X8_389 ic_62 (fv_i _ ic_62 rfl) dX8_qOpens_26 rfl ?_
      refine x_iconst (pc2 := 30) dX8_qOpens_29 rfl ?_
      refine x_iadd (pc2 := 31) dX8_qOpens_30 rfl ?_
      refine x_putf (pc2 := 34) (x := ((m 62 115) + 1)) fl_X8_389 ft_8_115 ic_62 (pv_i _ ic_62 rfl) (pn_i _) dX8_qOpens_31 rfl ?_
      refine x_aload_n (pc2 := 35) dX8_qOpens_34 rfl rfl ?_
      refine x_getf (pc2 := 38) (v := aR 149) fl_X8_278 ic_62 (vr_62_113 _) dX8_qOpens_35 rfl ?_
      refine x_aload_n (pc2 := 39) dX8_qOpens_38 rfl rfl ?_
      refine x_getf (pc2 := 42) (v := aI ((wr m 62 115 ((m 62 115) + 1)) 62 114)) fl_X8_386 ic_62 (fv_i _ ic_62 rfl) dX8_qOpens_39 rfl ?_
      refine x_iload_n (pc2 := 43) dX8_qOpens_42 rfl rfl ?_
      obtain ⟨h5, k⟩ := k
      obtain ⟨h6, k⟩ := k
      refine x_iast (pc2 := 44) ic_149 h5 (by rw [al_149]; exact h6) dX8_qOpens_43 rfl ?_
      refine x_aload_n (pc2 := 45) dX8_qOpens_44 rfl rfl ?_
      refine x_dup_r (pc2 := 46) dX8_qOpens_45 rfl (by decide) ?_
      refine x_getf (pc2 := 49) (v := aI ((wr (wr m 62 115 ((m 62 115) + 1)) 149 ((wr m 62 115 ((m 62 115) + 1)) 62 114) l1) 62 114)) fl_X8_386 ic_62 (fv_i _ ic_62 rfl) dX8_qOpens_46 rfl ?_
      refine x_iconst (pc2 := 50) dX8_qOpens_49 rfl ?_
      refine x_iadd (pc2 := 51) dX8_qOpens_50 rfl ?_
      refine x_putf (pc2 := 54) (x := (((wr (wr m 62 115 ((m 62 115) + 1)) 149 ((wr m 62 115 ((m 62 115) + 1)) 62 114) l1) 62 114) + 1)) fl_X8_386 ft_8_114 ic_62 (pv_i _ ic_62 rfl) (pn_i _) dX8_qOpens_51 rfl ?_
      exact x_return dX8_qOpens_54 rfl k
    · replace k := k2 c4
      refine x_aload_n (pc2 := 18) dX8_qOpens_17 rfl rfl ?_
      refine x_iconst (pc2 := 19) dX8_qOpens_18 rfl ?_
      refine x_iload_n (pc2 := 20) dX8_qOpens_19 rfl rfl ?_
      exact x_drop (drp_k (drp_u (drp_u drp_n))) k
  · replace k := k2 c2
    exact x_return dX8_qOpens_7 rfl k
set_option maxRecDepth 4000 in
theorem g_X8_qOpens_23 {sc : List Int} {d : Nat} {m : Mem} {Q : Option AV → Mem → Prop} (k : Q none m) : S_X8_qOpens sc d 23 [aR 62, aU, aU] [] m Q := by
  exact x_return dX8_qOpens_23 rfl k
theorem c_X8_qOpens_20 {sc : List Int} {d d2 : Nat} {m m2 : Mem} {Q : Option AV → Mem → Prop} {s1 s2 : Int} (hM : C_X8_fail sc d2 [aR 62, aI s1, aI s2] m none m2) (hd : d2 + 1 ≤ d) (k : S_X8_qOpens sc d 23 [aR 62, aU, aU] [] m2 Q) : S_X8_qOpens sc d 20 [aR 62, aU, aU] [aI s2, aI s1, aR 62] m Q := x_callV (as := [aI s1, aI s2]) (rest := []) hM mk_X8_fail mv_X8_fail lk_X8_320 (Or.inl ⟨8, (RX8, TX8, 123), ic_62, Nat.le_of_ble_eq_true rfl, rfl, rfl⟩) hd rfl rfl (Nat.le_of_ble_eq_true rfl) dX8_qOpens_20 rfl k
set_option maxRecDepth 4000 in
theorem g_X8_qIsOn_0 {sc : List Int} {d : Nat} {m : Mem} {Q : Option AV → Mem → Prop} {l1 : Int} (k : ((-2147483648 ≤ (m 62 114) ∧ (m 62 114) < 2147483648)) ∧ ((¬ ((m 62 114) ≤ 0)) → (0 ≤ ((m 62 114) - 1))) ∧ ((¬ ((m 62 114) ≤ 0)) → (((m 62 114) - 1) < 1700)) ∧ ((¬ ((m 62 114) ≤ 0)) → (-2147483648 ≤ (m 149 ((m 62 114) - 1)) ∧ (m 149 ((m 62 114) - 1)) < 2147483648)) ∧ ((¬ ((m 62 114) ≤ 0)) → (-2147483648 ≤ l1 ∧ l1 < 2147483648)) ∧ Q (some (aI (if (m 62 114) ≤ 0 then 0 else (if (m 149 ((m 62 114) - 1)) ≠ l1 then 0 else 1 : Int) : Int))) m) : S_X8_qIsOn sc d 0 [aR 62, aI l1] [] m Q := by
  refine x_aload_n (pc2 := 1) dX8_qIsOn_0 rfl rfl ?_
  refine x_getf (pc2 := 4) (v := aI (m 62 114)) fl_X8_386 ic_62 (fv_i _ ic_62 rfl) dX8_qIsOn_1 rfl ?_
  obtain ⟨g2, k⟩ := k
  obtain ⟨g5, k⟩ := k
  obtain ⟨g6, k⟩ := k
  obtain ⟨g9, k⟩ := k
  obtain ⟨g10, k⟩ := k
  have kj : S_X8_qIsOn sc d 27 [aR 62, aI l1] [aI (if (m 62 114) ≤ 0 then 0 else (if (m 149 ((m 62 114) - 1)) ≠ l1 then 0 else 1 : Int) : Int)] m Q := by
    exact x_ireturn dX8_qIsOn_27 (ret_z (by repeat (first | exact Or.inl rfl | exact Or.inr rfl | split))) k
  have h11 := g2 
  refine x_if_le (tgt := 26) (pc2 := 7) dX8_qIsOn_4 (by decide) rfl h11 (fun c12 => ?_) (fun c12 => ?_)
  · skip
    refine x_iconst (pc2 := 27) dX8_qIsOn_26 rfl ?_
    exact x_topI (v := (if (m 62 114) ≤ 0 then 0 else (if (m 149 ((m 62 114) - 1)) ≠ l1 then 0 else 1 : Int) : Int)) (if_pos c12) kj
  · skip
    refine x_aload_n (pc2 := 8) dX8_qIsOn_7 rfl rfl ?_
    refine x_getf (pc2 := 11) (v := aR 149) fl_X8_278 ic_62 (vr_62_113 _) dX8_qIsOn_8 rfl ?_
    refine x_aload_n (pc2 := 12) dX8_qIsOn_11 rfl rfl ?_
    refine x_getf (pc2 := 15) (v := aI (m 62 114)) fl_X8_386 ic_62 (fv_i _ ic_62 rfl) dX8_qIsOn_12 rfl ?_
    refine x_iconst (pc2 := 16) dX8_qIsOn_15 rfl ?_
    refine x_isub (pc2 := 17) dX8_qIsOn_16 rfl ?_
    have h13 := g5 c12
    have h14 := g6 c12
    refine x_iald (pc2 := 18) ic_149 h13 (by rw [al_149]; exact h14) dX8_qIsOn_17 rfl ?_
    refine x_iload_n (pc2 := 19) dX8_qIsOn_18 rfl rfl ?_
    have h15 := g9 c12
    have h16 := g10 c12
    refine x_icmp_ne (tgt := 26) (pc2 := 22) dX8_qIsOn_19 (by decide) rfl h15 h16 (fun c17 => ?_) (fun c17 => ?_)
    · skip
      refine x_iconst (pc2 := 27) dX8_qIsOn_26 rfl ?_
      exact x_topI (v := (if (m 62 114) ≤ 0 then 0 else (if (m 149 ((m 62 114) - 1)) ≠ l1 then 0 else 1 : Int) : Int)) ((if_neg c12).trans (if_pos c17)) kj
    · skip
      refine x_iconst (pc2 := 23) dX8_qIsOn_22 rfl ?_
      refine x_goto (tgt := 27) dX8_qIsOn_23 (by decide) ?_
      exact x_topI (v := (if (m 62 114) ≤ 0 then 0 else (if (m 149 ((m 62 114) - 1)) ≠ l1 then 0 else 1 : Int) : Int)) ((if_neg c12).trans (if_neg c17)) kj
set_option maxRecDepth 4000 in
theorem g_X8_qDrops_0 {sc : List Int} {d : Nat} {m : Mem} {Q : Option AV → Mem → Prop} (k : (0 ≤ ((wr m 62 114 ((m 62 114) - 1)) 62 114)) ∧ (((wr m 62 114 ((m 62 114) - 1)) 62 114) < 1700) ∧ S_X8_qDrops sc d 20 [aR 62] [aI ((wr m 62 114 ((m 62 114) - 1)) 149 ((wr m 62 114 ((m 62 114) - 1)) 62 114)), aR 62] (wr m 62 114 ((m 62 114) - 1)) Q) : S_X8_qDrops sc d 0 [aR 62] [] m Q := by
  refine x_aload_n (pc2 := 1) dX8_qDrops_0 rfl rfl ?_
  refine x_dup_r (pc2 := 2) dX8_qDrops_1 rfl (by decide) ?_
  refine x_getf (pc2 := 5) (v := aI (m 62 114)) fl_X8_386 ic_62 (fv_i _ ic_62 rfl) dX8_qDrops_2 rfl ?_
  refine x_iconst (pc2 := 6) dX8_qDrops_5 rfl ?_
  refine x_isub (pc2 := 7) dX8_qDrops_6 rfl ?_
  refine x_putf (pc2 := 10) (x := ((m 62 114) - 1)) fl_X8_386 ft_8_114 ic_62 (pv_i _ ic_62 rfl) (pn_i _) dX8_qDrops_7 rfl ?_
  refine x_aload_n (pc2 := 11) dX8_qDrops_10 rfl rfl ?_
  refine x_aload_n (pc2 := 12) dX8_qDrops_11 rfl rfl ?_
  refine x_getf (pc2 := 15) (v := aR 149) fl_X8_278 ic_62 (vr_62_113 _) dX8_qDrops_12 rfl ?_
  refine x_aload_n (pc2 := 16) dX8_qDrops_15 rfl rfl ?_
  refine x_getf (pc2 := 19) (v := aI ((wr m 62 114 ((m 62 114) - 1)) 62 114)) fl_X8_386 ic_62 (fv_i _ ic_62 rfl) dX8_qDrops_16 rfl ?_
  obtain ⟨h1, k⟩ := k
  obtain ⟨h2, k⟩ := k
  refine x_iald (pc2 := 20) ic_149 h1 (by rw [al_149]; exact h2) dX8_qDrops_19 rfl ?_
  exact k
set_option maxRecDepth 4000 in
theorem g_X8_qDrops_23 {sc : List Int} {d : Nat} {m : Mem} {Q : Option AV → Mem → Prop} (k : Q none m) : S_X8_qDrops sc d 23 [aR 62] [] m Q := by
  exact x_return dX8_qDrops_23 rfl k
theorem c_X8_qDrops_20 {sc : List Int} {d d2 : Nat} {m m2 : Mem} {Q : Option AV → Mem → Prop} {s1 : Int} (hM : C_X8_qCode sc d2 [aR 62, aI s1] m none m2) (hd : d2 + 1 ≤ d) (k : S_X8_qDrops sc d 23 [aR 62] [] m2 Q) : S_X8_qDrops sc d 20 [aR 62] [aI s1, aR 62] m Q := x_callV (as := [aI s1]) (rest := []) hM mk_X8_qCode mv_X8_qCode lk_X8_631 (Or.inl ⟨8, (RX8, TX8, 123), ic_62, Nat.le_of_ble_eq_true rfl, rfl, rfl⟩) hd rfl rfl (Nat.le_of_ble_eq_true rfl) dX8_qDrops_20 rfl k
set_option maxRecDepth 4000 in
theorem g_X8_qIsBracket_0 {sc : List Int} {d : Nat} {m : Mem} {Q : Option AV → Mem → Prop} {l0 : Int} (k : ((-2147483648 ≤ l0 ∧ l0 < 2147483648)) ∧ Q (some (aI (if l0 < 20 then 0 else (if 24 < l0 then 0 else 1 : Int) : Int))) m) : S_X8_qIsBracket sc d 0 [aI l0] [] m Q := by
  refine x_iload_n (pc2 := 1) dX8_qIsBracket_0 rfl rfl ?_
  refine x_bipush (pc2 := 3) dX8_qIsBracket_1 rfl rfl ?_
  obtain ⟨g2, k⟩ := k
  have kj : S_X8_qIsBracket sc d 17 [aI l0] [aI (if l0 < 20 then 0 else (if 24 < l0 then 0 else 1 : Int) : Int)] m Q := by
    exact x_ireturn dX8_qIsBracket_17 (ret_z (by repeat (first | exact Or.inl rfl | exact Or.inr rfl | split))) k
  have h3 := g2 
  refine x_icmp_lt (tgt := 16) (pc2 := 6) dX8_qIsBracket_3 (by decide) rfl h3 (by decide) (fun c4 => ?_) (fun c4 => ?_)
  · skip
    refine x_iconst (pc2 := 17) dX8_qIsBracket_16 rfl ?_
    exact x_topI (v := (if l0 < 20 then 0 else (if 24 < l0 then 0 else 1 : Int) : Int)) (if_pos c4) kj
  · skip
    refine x_iload_n (pc2 := 7) dX8_qIsBracket_6 rfl rfl ?_
    refine x_bipush (pc2 := 9) dX8_qIsBracket_7 rfl rfl ?_
    refine x_icmp_gt (tgt := 16) (pc2 := 12) dX8_qIsBracket_9 (by decide) rfl h3 (by decide) (fun c5 => ?_) (fun c5 => ?_)
    · skip
      refine x_iconst (pc2 := 17) dX8_qIsBracket_16 rfl ?_
      exact x_topI (v := (if l0 < 20 then 0 else (if 24 < l0 then 0 else 1 : Int) : Int)) ((if_neg c4).trans (if_pos c5)) kj
    · skip
      refine x_iconst (pc2 := 13) dX8_qIsBracket_12 rfl ?_
      refine x_goto (tgt := 17) dX8_qIsBracket_13 (by decide) ?_
      exact x_topI (v := (if l0 < 20 then 0 else (if 24 < l0 then 0 else 1 : Int) : Int)) ((if_neg c4).trans (if_neg c5)) kj
set_option maxRecDepth 4000 in
theorem g_X8_qBracket_0 {sc : List Int} {d : Nat} {m : Mem} {Q : Option AV → Mem → Prop} (k : S_X8_qBracket sc d 7 [aR 62, aI ((m 62 114) - 1)] [] m Q) : S_X8_qBracket sc d 0 [aR 62, aU] [] m Q := by
  refine x_aload_n (pc2 := 1) dX8_qBracket_0 rfl rfl ?_
  refine x_getf (pc2 := 4) (v := aI (m 62 114)) fl_X8_386 ic_62 (fv_i _ ic_62 rfl) dX8_qBracket_1 rfl ?_
  refine x_iconst (pc2 := 5) dX8_qBracket_4 rfl ?_
  refine x_isub (pc2 := 6) dX8_qBracket_5 rfl ?_
  refine x_istore_n (pc2 := 7) (ls2 := [aR 62, aI ((m 62 114) - 1)]) dX8_qBracket_6 rfl (by decide) rfl ?_
  exact k
set_option maxRecDepth 4000 in
theorem g_X8_qBracket_7 {sc : List Int} {d : Nat} {m : Mem} {Q : Option AV → Mem → Prop} {l1 : Int} (k : (-2147483648 ≤ l1 ∧ l1 < 2147483648) ∧ (-2147483648 ≤ (m 62 116) ∧ (m 62 116) < 2147483648) ∧ ((l1 < (m 62 116)) → (((¬ (l1 < (m 62 116))) → (0 ≤ l1)) ∧ ((¬ (l1 < (m 62 116))) → (l1 < 1700)) ∧ Q (some (aI (if l1 < (m 62 116) then (-1) else (m 149 l1) : Int))) m)) ∧ (¬ (l1 < (m 62 116)) → ((0 ≤ l1) ∧ (l1 < 1700) ∧ S_X8_qBracket sc d 21 [aR 62, aI l1] [aI (m 149 l1)] m Q))) : S_X8_qBracket sc d 7 [aR 62, aI l1] [] m Q := by
  refine x_iload_n (pc2 := 8) dX8_qBracket_7 rfl rfl ?_
  refine x_aload_n (pc2 := 9) dX8_qBracket_8 rfl rfl ?_
  refine x_getf (pc2 := 12) (v := aI (m 62 116)) fl_X8_392 ic_62 (fv_i _ ic_62 rfl) dX8_qBracket_9 rfl ?_
  obtain ⟨h1, k⟩ := k
  obtain ⟨h2, k⟩ := k
  obtain ⟨k1, k2⟩ := k
  refine x_icmp_lt (tgt := 33) (pc2 := 15) dX8_qBracket_12 (by decide) rfl h1 h2 (fun c3 => ?_) (fun c3 => ?_)
  · replace k := k1 c3
    refine x_iload_n (pc2 := 34) dX8_qBracket_33 rfl rfl ?_
    refine x_aload_n (pc2 := 35) dX8_qBracket_34 rfl rfl ?_
    refine x_getf (pc2 := 38) (v := aI (m 62 116)) fl_X8_392 ic_62 (fv_i _ ic_62 rfl) dX8_qBracket_35 rfl ?_
    obtain ⟨g6, k⟩ := k
    obtain ⟨g7, k⟩ := k
    have kj : S_X8_qBracket sc d 51 [aR 62, aI l1] [aI (if l1 < (m 62 116) then (-1) else (m 149 l1) : Int)] m Q := by
      exact x_ireturn dX8_qBracket_51 ⟨.int, rfl, rfl⟩ k
    refine x_icmp_lt (tgt := 50) (pc2 := 41) dX8_qBracket_38 (by decide) rfl h1 h2 (fun c8 => ?_) (fun c8 => ?_)
    · skip
      refine x_iconst (pc2 := 51) dX8_qBracket_50 rfl ?_
      exact x_topI (v := (if l1 < (m 62 116) then (-1) else (m 149 l1) : Int)) (if_pos c8) kj
    · skip
      refine x_aload_n (pc2 := 42) dX8_qBracket_41 rfl rfl ?_
      refine x_getf (pc2 := 45) (v := aR 149) fl_X8_278 ic_62 (vr_62_113 _) dX8_qBracket_42 rfl ?_
      refine x_iload_n (pc2 := 46) dX8_qBracket_45 rfl rfl ?_
      have h9 := g6 c8
      have h10 := g7 c8
      refine x_iald (pc2 := 47) ic_149 h9 (by rw [al_149]; exact h10) dX8_qBracket_46 rfl ?_
      refine x_goto (tgt := 51) dX8_qBracket_47 (by decide) ?_
      exact x_topI (v := (if l1 < (m 62 116) then (-1) else (m 149 l1) : Int)) (if_neg c8) kj
  · replace k := k2 c3
    refine x_aload_n (pc2 := 16) dX8_qBracket_15 rfl rfl ?_
    refine x_getf (pc2 := 19) (v := aR 149) fl_X8_278 ic_62 (vr_62_113 _) dX8_qBracket_16 rfl ?_
    refine x_iload_n (pc2 := 20) dX8_qBracket_19 rfl rfl ?_
    obtain ⟨h11, k⟩ := k
    obtain ⟨h12, k⟩ := k
    refine x_iald (pc2 := 21) ic_149 h11 (by rw [al_149]; exact h12) dX8_qBracket_20 rfl ?_
    exact k
set_option maxRecDepth 4000 in
theorem g_X8_qBracket_24 {sc : List Int} {d : Nat} {m : Mem} {Q : Option AV → Mem → Prop} {l1 s0 : Int} (k : (-2147483648 ≤ s0 ∧ s0 < 2147483648) ∧ ((s0 ≠ 0) → (((-2147483648 ≤ l1 ∧ l1 < 2147483648)) ∧ ((-2147483648 ≤ (m 62 116) ∧ (m 62 116) < 2147483648)) ∧ ((¬ (l1 < (m 62 116))) → (0 ≤ l1)) ∧ ((¬ (l1 < (m 62 116))) → (l1 < 1700)) ∧ Q (some (aI (if l1 < (m 62 116) then (-1) else (m 149 l1) : Int))) m)) ∧ (¬ (s0 ≠ 0) → (S_X8_qBracket sc d 7 [aR 62, aI (l1 + (-1))] [] m Q))) : S_X8_qBracket sc d 24 [aR 62, aI l1] [aI s0] m Q := by
  obtain ⟨h1, k⟩ := k
  obtain ⟨k1, k2⟩ := k
  refine x_if_ne (tgt := 33) (pc2 := 27) dX8_qBracket_24 (by decide) rfl h1 (fun c2 => ?_) (fun c2 => ?_)
  · replace k := k1 c2
    refine x_iload_n (pc2 := 34) dX8_qBracket_33 rfl rfl ?_
    refine x_aload_n (pc2 := 35) dX8_qBracket_34 rfl rfl ?_
    refine x_getf (pc2 := 38) (v := aI (m 62 116)) fl_X8_392 ic_62 (fv_i _ ic_62 rfl) dX8_qBracket_35 rfl ?_
    obtain ⟨g5, k⟩ := k
    obtain ⟨g6, k⟩ := k
    obtain ⟨g9, k⟩ := k
    obtain ⟨g10, k⟩ := k
    have kj : S_X8_qBracket sc d 51 [aR 62, aI l1] [aI (if l1 < (m 62 116) then (-1) else (m 149 l1) : Int)] m Q := by
      exact x_ireturn dX8_qBracket_51 ⟨.int, rfl, rfl⟩ k
    have h11 := g5 
    have h12 := g6 
    refine x_icmp_lt (tgt := 50) (pc2 := 41) dX8_qBracket_38 (by decide) rfl h11 h12 (fun c13 => ?_) (fun c13 => ?_)
    · skip
      refine x_iconst (pc2 := 51) dX8_qBracket_50 rfl ?_
      exact x_topI (v := (if l1 < (m 62 116) then (-1) else (m 149 l1) : Int)) (if_pos c13) kj
    · skip
      refine x_aload_n (pc2 := 42) dX8_qBracket_41 rfl rfl ?_
      refine x_getf (pc2 := 45) (v := aR 149) fl_X8_278 ic_62 (vr_62_113 _) dX8_qBracket_42 rfl ?_
      refine x_iload_n (pc2 := 46) dX8_qBracket_45 rfl rfl ?_
      have h14 := g9 c13
      have h15 := g10 c13
      refine x_iald (pc2 := 47) ic_149 h14 (by rw [al_149]; exact h15) dX8_qBracket_46 rfl ?_
      refine x_goto (tgt := 51) dX8_qBracket_47 (by decide) ?_
      exact x_topI (v := (if l1 < (m 62 116) then (-1) else (m 149 l1) : Int)) (if_neg c13) kj
  · replace k := k2 c2
    refine x_iinc (pc2 := 30) (ls2 := [aR 62, aI (l1 + (-1))]) dX8_qBracket_27 rfl rfl (by decide) rfl ?_
    refine x_goto (tgt := 7) dX8_qBracket_30 (by decide) ?_
    exact k
theorem c_X8_qBracket_21 {sc : List Int} {d d2 : Nat} {m m2 : Mem} {Q : Option AV → Mem → Prop} {l1 s0 : Int} {v : Int} (hM : C_X8_qIsBracket sc d2 [aI s0] m (some (aI v)) m2) (hd : d2 + 1 ≤ d) (k : S_X8_qBracket sc d 24 [aR 62, aI l1] [aI v] m2 Q) : S_X8_qBracket sc d 21 [aR 62, aI l1] [aI s0] m Q := x_callS (as := [aI s0]) (rest := []) hM mk_X8_qIsBracket ms_X8_qIsBracket lk_X8_634 hd rfl rfl (Nat.le_of_ble_eq_true rfl) dX8_qBracket_21 rfl k
set_option maxRecDepth 4000 in
theorem g_X8_qDropsToBracket_0 {sc : List Int} {d : Nat} {m : Mem} {Q : Option AV → Mem → Prop} (k : (-2147483648 ≤ (m 62 114) ∧ (m 62 114) < 2147483648) ∧ (-2147483648 ≤ (m 62 116) ∧ (m 62 116) < 2147483648) ∧ (((m 62 114) ≤ (m 62 116)) → (Q none m)) ∧ (¬ ((m 62 114) ≤ (m 62 116)) → ((0 ≤ ((m 62 114) - 1)) ∧ (((m 62 114) - 1) < 1700) ∧ S_X8_qDropsToBracket sc d 22 [aR 62] [aI (m 149 ((m 62 114) - 1))] m Q))) : S_X8_qDropsToBracket sc d 0 [aR 62] [] m Q := by
  refine x_aload_n (pc2 := 1) dX8_qDropsToBracket_0 rfl rfl ?_
  refine x_getf (pc2 := 4) (v := aI (m 62 114)) fl_X8_386 ic_62 (fv_i _ ic_62 rfl) dX8_qDropsToBracket_1 rfl ?_
  refine x_aload_n (pc2 := 5) dX8_qDropsToBracket_4 rfl rfl ?_
  refine x_getf (pc2 := 8) (v := aI (m 62 116)) fl_X8_392 ic_62 (fv_i _ ic_62 rfl) dX8_qDropsToBracket_5 rfl ?_
  obtain ⟨h1, k⟩ := k
  obtain ⟨h2, k⟩ := k
  obtain ⟨k1, k2⟩ := k
  refine x_icmp_le (tgt := 35) (pc2 := 11) dX8_qDropsToBracket_8 (by decide) rfl h1 h2 (fun c3 => ?_) (fun c3 => ?_)
  · replace k := k1 c3
    exact x_return dX8_qDropsToBracket_35 rfl k
  · replace k := k2 c3
    refine x_aload_n (pc2 := 12) dX8_qDropsToBracket_11 rfl rfl ?_
    refine x_getf (pc2 := 15) (v := aR 149) fl_X8_278 ic_62 (vr_62_113 _) dX8_qDropsToBracket_12 rfl ?_
    refine x_aload_n (pc2 := 16) dX8_qDropsToBracket_15 rfl rfl ?_
    refine x_getf (pc2 := 19) (v := aI (m 62 114)) fl_X8_386 ic_62 (fv_i _ ic_62 rfl) dX8_qDropsToBracket_16 rfl ?_
    refine x_iconst (pc2 := 20) dX8_qDropsToBracket_19 rfl ?_
    refine x_isub (pc2 := 21) dX8_qDropsToBracket_20 rfl ?_
    obtain ⟨h4, k⟩ := k
    obtain ⟨h5, k⟩ := k
    refine x_iald (pc2 := 22) ic_149 h4 (by rw [al_149]; exact h5) dX8_qDropsToBracket_21 rfl ?_
    exact k
set_option maxRecDepth 4000 in
theorem g_X8_qDropsToBracket_25 {sc : List Int} {d : Nat} {m : Mem} {Q : Option AV → Mem → Prop} {s0 : Int} (k : (-2147483648 ≤ s0 ∧ s0 < 2147483648) ∧ ((s0 ≠ 0) → (Q none m)) ∧ (¬ (s0 ≠ 0) → (S_X8_qDropsToBracket sc d 29 [aR 62] [aR 62] m Q))) : S_X8_qDropsToBracket sc d 25 [aR 62] [aI s0] m Q := by
  obtain ⟨h1, k⟩ := k
  obtain ⟨k1, k2⟩ := k
  refine x_if_ne (tgt := 35) (pc2 := 28) dX8_qDropsToBracket_25 (by decide) rfl h1 (fun c2 => ?_) (fun c2 => ?_)
  · replace k := k1 c2
    exact x_return dX8_qDropsToBracket_35 rfl k
  · replace k := k2 c2
    refine x_aload_n (pc2 := 29) dX8_qDropsToBracket_28 rfl rfl ?_
    exact k
set_option maxRecDepth 4000 in
theorem g_X8_qDropsToBracket_32 {sc : List Int} {d : Nat} {m : Mem} {Q : Option AV → Mem → Prop} (k : S_X8_qDropsToBracket sc d 0 [aR 62] [] m Q) : S_X8_qDropsToBracket sc d 32 [aR 62] [] m Q := by
  refine x_goto (tgt := 0) dX8_qDropsToBracket_32 (by decide) ?_
  exact k
theorem c_X8_qDropsToBracket_22 {sc : List Int} {d d2 : Nat} {m m2 : Mem} {Q : Option AV → Mem → Prop} {s0 : Int} {v : Int} (hM : C_X8_qIsBracket sc d2 [aI s0] m (some (aI v)) m2) (hd : d2 + 1 ≤ d) (k : S_X8_qDropsToBracket sc d 25 [aR 62] [aI v] m2 Q) : S_X8_qDropsToBracket sc d 22 [aR 62] [aI s0] m Q := x_callS (as := [aI s0]) (rest := []) hM mk_X8_qIsBracket ms_X8_qIsBracket lk_X8_634 hd rfl rfl (Nat.le_of_ble_eq_true rfl) dX8_qDropsToBracket_22 rfl k
theorem c_X8_qDropsToBracket_29 {sc : List Int} {d d2 : Nat} {m m2 : Mem} {Q : Option AV → Mem → Prop} (hM : C_X8_qDrops sc d2 [aR 62] m none m2) (hd : d2 + 1 ≤ d) (k : S_X8_qDropsToBracket sc d 32 [aR 62] [] m2 Q) : S_X8_qDropsToBracket sc d 29 [aR 62] [aR 62] m Q := x_callV (as := []) (rest := []) hM mk_X8_qDrops mv_X8_qDrops lk_X8_637 (Or.inl ⟨8, (RX8, TX8, 123), ic_62, Nat.le_of_ble_eq_true rfl, rfl, rfl⟩) hd rfl rfl (Nat.le_of_ble_eq_true rfl) dX8_qDropsToBracket_29 rfl k
set_option maxRecDepth 4000 in
theorem g_X8_qWordHere_0 {sc : List Int} {d : Nat} {m : Mem} {Q : Option AV → Mem → Prop} (k : S_X8_qWordHere sc d 5 [aR 62] [aR 139, aR 62] m Q) : S_X8_qWordHere sc d 0 [aR 62] [] m Q := by
  refine x_aload_n (pc2 := 1) dX8_qWordHere_0 rfl rfl ?_
  refine x_aload_n (pc2 := 2) dX8_qWordHere_1 rfl rfl ?_
  refine x_getf (pc2 := 5) (v := aR 139) fl_X8_248 ic_62 (vr_62_102 _) dX8_qWordHere_2 rfl ?_
  exact k
set_option maxRecDepth 4000 in
theorem g_X8_qWordHere_8 {sc : List Int} {d : Nat} {m : Mem} {Q : Option AV → Mem → Prop} {s0 : Int} (k : (-2147483648 ≤ s0 ∧ s0 < 2147483648) ∧ ((s0 = 0) → (S_X8_qWordHere sc d 18 [aR 62] [aR 140, aR 62] m Q)) ∧ (¬ (s0 = 0) → (Q (some (aI 0)) m))) : S_X8_qWordHere sc d 8 [aR 62] [aI s0] m Q := by
  obtain ⟨h1, k⟩ := k
  obtain ⟨k1, k2⟩ := k
  refine x_if_eq (tgt := 13) (pc2 := 11) dX8_qWordHere_8 (by decide) rfl h1 (fun c2 => ?_) (fun c2 => ?_)
  · replace k := k1 c2
    refine x_aload_n (pc2 := 14) dX8_qWordHere_13 rfl rfl ?_
    refine x_aload_n (pc2 := 15) dX8_qWordHere_14 rfl rfl ?_
    refine x_getf (pc2 := 18) (v := aR 140) fl_X8_251 ic_62 (vr_62_103 _) dX8_qWordHere_15 rfl ?_
    exact k
  · replace k := k2 c2
    refine x_iconst (pc2 := 12) dX8_qWordHere_11 rfl ?_
    exact x_ireturn dX8_qWordHere_12 ⟨.int, rfl, rfl⟩ k
set_option maxRecDepth 4000 in
theorem g_X8_qWordHere_21 {sc : List Int} {d : Nat} {m : Mem} {Q : Option AV → Mem → Prop} {s0 : Int} (k : (-2147483648 ≤ s0 ∧ s0 < 2147483648) ∧ ((s0 = 0) → (S_X8_qWordHere sc d 31 [aR 62] [aR 141, aR 62] m Q)) ∧ (¬ (s0 = 0) → (Q (some (aI 1)) m))) : S_X8_qWordHere sc d 21 [aR 62] [aI s0] m Q := by
  obtain ⟨h1, k⟩ := k
  obtain ⟨k1, k2⟩ := k
  refine x_if_eq (tgt := 26) (pc2 := 24) dX8_qWordHere_21 (by decide) rfl h1 (fun c2 => ?_) (fun c2 => ?_)
  · replace k := k1 c2
    refine x_aload_n (pc2 := 27) dX8_qWordHere_26 rfl rfl ?_
    refine x_aload_n (pc2 := 28) dX8_qWordHere_27 rfl rfl ?_
    refine x_getf (pc2 := 31) (v := aR 141) fl_X8_254 ic_62 (vr_62_104 _) dX8_qWordHere_28 rfl ?_
    exact k
  · replace k := k2 c2
    refine x_iconst (pc2 := 25) dX8_qWordHere_24 rfl ?_
    exact x_ireturn dX8_qWordHere_25 ⟨.int, rfl, rfl⟩ k
set_option maxRecDepth 4000 in
theorem g_X8_qWordHere_34 {sc : List Int} {d : Nat} {m : Mem} {Q : Option AV → Mem → Prop} {s0 : Int} (k : (-2147483648 ≤ s0 ∧ s0 < 2147483648) ∧ ((s0 = 0) → (S_X8_qWordHere sc d 44 [aR 62] [aR 142, aR 62] m Q)) ∧ (¬ (s0 = 0) → (Q (some (aI 2)) m))) : S_X8_qWordHere sc d 34 [aR 62] [aI s0] m Q := by
  obtain ⟨h1, k⟩ := k
  obtain ⟨k1, k2⟩ := k
  refine x_if_eq (tgt := 39) (pc2 := 37) dX8_qWordHere_34 (by decide) rfl h1 (fun c2 => ?_) (fun c2 => ?_)
  · replace k := k1 c2
    refine x_aload_n (pc2 := 40) dX8_qWordHere_39 rfl rfl ?_
    refine x_aload_n (pc2 := 41) dX8_qWordHere_40 rfl rfl ?_
    refine x_getf (pc2 := 44) (v := aR 142) fl_X8_257 ic_62 (vr_62_105 _) dX8_qWordHere_41 rfl ?_
    exact k
  · replace k := k2 c2
    refine x_iconst (pc2 := 38) dX8_qWordHere_37 rfl ?_
    exact x_ireturn dX8_qWordHere_38 ⟨.int, rfl, rfl⟩ k
set_option maxRecDepth 4000 in
theorem g_X8_qWordHere_47 {sc : List Int} {d : Nat} {m : Mem} {Q : Option AV → Mem → Prop} {s0 : Int} (k : (-2147483648 ≤ s0 ∧ s0 < 2147483648) ∧ ((s0 = 0) → (S_X8_qWordHere sc d 57 [aR 62] [aR 143, aR 62] m Q)) ∧ (¬ (s0 = 0) → (Q (some (aI 3)) m))) : S_X8_qWordHere sc d 47 [aR 62] [aI s0] m Q := by
  obtain ⟨h1, k⟩ := k
  obtain ⟨k1, k2⟩ := k
  refine x_if_eq (tgt := 52) (pc2 := 50) dX8_qWordHere_47 (by decide) rfl h1 (fun c2 => ?_) (fun c2 => ?_)
  · replace k := k1 c2
    refine x_aload_n (pc2 := 53) dX8_qWordHere_52 rfl rfl ?_
    refine x_aload_n (pc2 := 54) dX8_qWordHere_53 rfl rfl ?_
    refine x_getf (pc2 := 57) (v := aR 143) fl_X8_260 ic_62 (vr_62_106 _) dX8_qWordHere_54 rfl ?_
    exact k
  · replace k := k2 c2
    refine x_iconst (pc2 := 51) dX8_qWordHere_50 rfl ?_
    exact x_ireturn dX8_qWordHere_51 ⟨.int, rfl, rfl⟩ k
set_option maxRecDepth 4000 in
theorem g_X8_qWordHere_60 {sc : List Int} {d : Nat} {m : Mem} {Q : Option AV → Mem → Prop} {s0 : Int} (k : (-2147483648 ≤ s0 ∧ s0 < 2147483648) ∧ ((s0 = 0) → (S_X8_qWordHere sc d 70 [aR 62] [aR 132, aR 62] m Q)) ∧ (¬ (s0 = 0) → (Q (some (aI 4)) m))) : S_X8_qWordHere sc d 60 [aR 62] [aI s0] m Q := by
  obtain ⟨h1, k⟩ := k
  obtain ⟨k1, k2⟩ := k
  refine x_if_eq (tgt := 65) (pc2 := 63) dX8_qWordHere_60 (by decide) rfl h1 (fun c2 => ?_) (fun c2 => ?_)
  · replace k := k1 c2
    refine x_aload_n (pc2 := 66) dX8_qWordHere_65 rfl rfl ?_
    refine x_aload_n (pc2 := 67) dX8_qWordHere_66 rfl rfl ?_
    refine x_getf (pc2 := 70) (v := aR 132) fl_X8_227 ic_62 (vr_62_95 _) dX8_qWordHere_67 rfl ?_
    exact k
  · replace k := k2 c2
    refine x_iconst (pc2 := 64) dX8_qWordHere_63 rfl ?_
    exact x_ireturn dX8_qWordHere_64 ⟨.int, rfl, rfl⟩ k
set_option maxRecDepth 4000 in
theorem g_X8_qWordHere_73 {sc : List Int} {d : Nat} {m : Mem} {Q : Option AV → Mem → Prop} {s0 : Int} (k : (-2147483648 ≤ s0 ∧ s0 < 2147483648) ∧ ((s0 = 0) → (S_X8_qWordHere sc d 83 [aR 62] [aR 131, aR 62] m Q)) ∧ (¬ (s0 = 0) → (Q (some (aI 5)) m))) : S_X8_qWordHere sc d 73 [aR 62] [aI s0] m Q := by
  obtain ⟨h1, k⟩ := k
  obtain ⟨k1, k2⟩ := k
  refine x_if_eq (tgt := 78) (pc2 := 76) dX8_qWordHere_73 (by decide) rfl h1 (fun c2 => ?_) (fun c2 => ?_)
  · replace k := k1 c2
    refine x_aload_n (pc2 := 79) dX8_qWordHere_78 rfl rfl ?_
    refine x_aload_n (pc2 := 80) dX8_qWordHere_79 rfl rfl ?_
    refine x_getf (pc2 := 83) (v := aR 131) fl_X8_224 ic_62 (vr_62_94 _) dX8_qWordHere_80 rfl ?_
    exact k
  · replace k := k2 c2
    refine x_iconst (pc2 := 77) dX8_qWordHere_76 rfl ?_
    exact x_ireturn dX8_qWordHere_77 ⟨.int, rfl, rfl⟩ k
set_option maxRecDepth 4000 in
theorem g_X8_qWordHere_86 {sc : List Int} {d : Nat} {m : Mem} {Q : Option AV → Mem → Prop} {s0 : Int} (k : (-2147483648 ≤ s0 ∧ s0 < 2147483648) ∧ ((s0 = 0) → (S_X8_qWordHere sc d 97 [aR 62] [aR 144, aR 62] m Q)) ∧ (¬ (s0 = 0) → (Q (some (aI 6)) m))) : S_X8_qWordHere sc d 86 [aR 62] [aI s0] m Q := by
  obtain ⟨h1, k⟩ := k
  obtain ⟨k1, k2⟩ := k
  refine x_if_eq (tgt := 92) (pc2 := 89) dX8_qWordHere_86 (by decide) rfl h1 (fun c2 => ?_) (fun c2 => ?_)
  · replace k := k1 c2
    refine x_aload_n (pc2 := 93) dX8_qWordHere_92 rfl rfl ?_
    refine x_aload_n (pc2 := 94) dX8_qWordHere_93 rfl rfl ?_
    refine x_getf (pc2 := 97) (v := aR 144) fl_X8_263 ic_62 (vr_62_107 _) dX8_qWordHere_94 rfl ?_
    exact k
  · replace k := k2 c2
    refine x_bipush (pc2 := 91) dX8_qWordHere_89 rfl rfl ?_
    exact x_ireturn dX8_qWordHere_91 ⟨.int, rfl, rfl⟩ k
set_option maxRecDepth 4000 in
theorem g_X8_qWordHere_100 {sc : List Int} {d : Nat} {m : Mem} {Q : Option AV → Mem → Prop} {s0 : Int} (k : (-2147483648 ≤ s0 ∧ s0 < 2147483648) ∧ ((s0 = 0) → (S_X8_qWordHere sc d 111 [aR 62] [aR 145, aR 62] m Q)) ∧ (¬ (s0 = 0) → (Q (some (aI 7)) m))) : S_X8_qWordHere sc d 100 [aR 62] [aI s0] m Q := by
  obtain ⟨h1, k⟩ := k
  obtain ⟨k1, k2⟩ := k
  refine x_if_eq (tgt := 106) (pc2 := 103) dX8_qWordHere_100 (by decide) rfl h1 (fun c2 => ?_) (fun c2 => ?_)
  · replace k := k1 c2
    refine x_aload_n (pc2 := 107) dX8_qWordHere_106 rfl rfl ?_
    refine x_aload_n (pc2 := 108) dX8_qWordHere_107 rfl rfl ?_
    refine x_getf (pc2 := 111) (v := aR 145) fl_X8_266 ic_62 (vr_62_108 _) dX8_qWordHere_108 rfl ?_
    exact k
  · replace k := k2 c2
    refine x_bipush (pc2 := 105) dX8_qWordHere_103 rfl rfl ?_
    exact x_ireturn dX8_qWordHere_105 ⟨.int, rfl, rfl⟩ k
set_option maxRecDepth 4000 in
theorem g_X8_qWordHere_114 {sc : List Int} {d : Nat} {m : Mem} {Q : Option AV → Mem → Prop} {s0 : Int} (k : (-2147483648 ≤ s0 ∧ s0 < 2147483648) ∧ ((s0 = 0) → (S_X8_qWordHere sc d 125 [aR 62] [aR 146, aR 62] m Q)) ∧ (¬ (s0 = 0) → (Q (some (aI 8)) m))) : S_X8_qWordHere sc d 114 [aR 62] [aI s0] m Q := by
  obtain ⟨h1, k⟩ := k
  obtain ⟨k1, k2⟩ := k
  refine x_if_eq (tgt := 120) (pc2 := 117) dX8_qWordHere_114 (by decide) rfl h1 (fun c2 => ?_) (fun c2 => ?_)
  · replace k := k1 c2
    refine x_aload_n (pc2 := 121) dX8_qWordHere_120 rfl rfl ?_
    refine x_aload_n (pc2 := 122) dX8_qWordHere_121 rfl rfl ?_
    refine x_getf (pc2 := 125) (v := aR 146) fl_X8_269 ic_62 (vr_62_109 _) dX8_qWordHere_122 rfl ?_
    exact k
  · replace k := k2 c2
    refine x_bipush (pc2 := 119) dX8_qWordHere_117 rfl rfl ?_
    exact x_ireturn dX8_qWordHere_119 ⟨.int, rfl, rfl⟩ k
set_option maxRecDepth 4000 in
theorem g_X8_qWordHere_128 {sc : List Int} {d : Nat} {m : Mem} {Q : Option AV → Mem → Prop} {s0 : Int} (k : (-2147483648 ≤ s0 ∧ s0 < 2147483648) ∧ ((s0 = 0) → (S_X8_qWordHere sc d 139 [aR 62] [aR 147, aR 62] m Q)) ∧ (¬ (s0 = 0) → (Q (some (aI 9)) m))) : S_X8_qWordHere sc d 128 [aR 62] [aI s0] m Q := by
  obtain ⟨h1, k⟩ := k
  obtain ⟨k1, k2⟩ := k
  refine x_if_eq (tgt := 134) (pc2 := 131) dX8_qWordHere_128 (by decide) rfl h1 (fun c2 => ?_) (fun c2 => ?_)
  · replace k := k1 c2
    refine x_aload_n (pc2 := 135) dX8_qWordHere_134 rfl rfl ?_
    refine x_aload_n (pc2 := 136) dX8_qWordHere_135 rfl rfl ?_
    refine x_getf (pc2 := 139) (v := aR 147) fl_X8_272 ic_62 (vr_62_110 _) dX8_qWordHere_136 rfl ?_
    exact k
  · replace k := k2 c2
    refine x_bipush (pc2 := 133) dX8_qWordHere_131 rfl rfl ?_
    exact x_ireturn dX8_qWordHere_133 ⟨.int, rfl, rfl⟩ k
set_option maxRecDepth 4000 in
theorem g_X8_qWordHere_142 {sc : List Int} {d : Nat} {m : Mem} {Q : Option AV → Mem → Prop} {s0 : Int} (k : (-2147483648 ≤ s0 ∧ s0 < 2147483648) ∧ ((s0 = 0) → (Q (some (aI (-1))) m)) ∧ (¬ (s0 = 0) → (Q (some (aI 10)) m))) : S_X8_qWordHere sc d 142 [aR 62] [aI s0] m Q := by
  obtain ⟨h1, k⟩ := k
  obtain ⟨k1, k2⟩ := k
  refine x_if_eq (tgt := 148) (pc2 := 145) dX8_qWordHere_142 (by decide) rfl h1 (fun c2 => ?_) (fun c2 => ?_)
  · replace k := k1 c2
    refine x_iconst (pc2 := 149) dX8_qWordHere_148 rfl ?_
    exact x_ireturn dX8_qWordHere_149 ⟨.int, rfl, rfl⟩ k
  · replace k := k2 c2
    refine x_bipush (pc2 := 147) dX8_qWordHere_145 rfl rfl ?_
    exact x_ireturn dX8_qWordHere_147 ⟨.int, rfl, rfl⟩ k
theorem c_X8_qWordHere_5 {sc : List Int} {d d2 : Nat} {m m2 : Mem} {Q : Option AV → Mem → Prop} {s1 : Int} {v : Int} (Hs1 : IsC s1 102) (hM : C_X8_isHere sc d2 [aR 62, aR s1] m (some (aI v)) m2) (hd : d2 + 1 ≤ d) (k : S_X8_qWordHere sc d 8 [aR 62] [aI v] m2 Q) : S_X8_qWordHere sc d 5 [aR 62] [aR s1, aR 62] m Q := x_callV (as := [aR s1]) (rest := []) hM mk_X8_isHere mv_X8_isHere lk_X8_313 (Or.inl ⟨8, (RX8, TX8, 123), ic_62, Nat.le_of_ble_eq_true rfl, rfl, rfl⟩) hd rfl rfl (Nat.le_of_ble_eq_true rfl) dX8_qWordHere_5 rfl k
theorem c_X8_qWordHere_18 {sc : List Int} {d d2 : Nat} {m m2 : Mem} {Q : Option AV → Mem → Prop} {s1 : Int} {v : Int} (Hs1 : IsC s1 102) (hM : C_X8_isHere sc d2 [aR 62, aR s1] m (some (aI v)) m2) (hd : d2 + 1 ≤ d) (k : S_X8_qWordHere sc d 21 [aR 62] [aI v] m2 Q) : S_X8_qWordHere sc d 18 [aR 62] [aR s1, aR 62] m Q := x_callV (as := [aR s1]) (rest := []) hM mk_X8_isHere mv_X8_isHere lk_X8_313 (Or.inl ⟨8, (RX8, TX8, 123), ic_62, Nat.le_of_ble_eq_true rfl, rfl, rfl⟩) hd rfl rfl (Nat.le_of_ble_eq_true rfl) dX8_qWordHere_18 rfl k
theorem c_X8_qWordHere_31 {sc : List Int} {d d2 : Nat} {m m2 : Mem} {Q : Option AV → Mem → Prop} {s1 : Int} {v : Int} (Hs1 : IsC s1 102) (hM : C_X8_isHere sc d2 [aR 62, aR s1] m (some (aI v)) m2) (hd : d2 + 1 ≤ d) (k : S_X8_qWordHere sc d 34 [aR 62] [aI v] m2 Q) : S_X8_qWordHere sc d 31 [aR 62] [aR s1, aR 62] m Q := x_callV (as := [aR s1]) (rest := []) hM mk_X8_isHere mv_X8_isHere lk_X8_313 (Or.inl ⟨8, (RX8, TX8, 123), ic_62, Nat.le_of_ble_eq_true rfl, rfl, rfl⟩) hd rfl rfl (Nat.le_of_ble_eq_true rfl) dX8_qWordHere_31 rfl k
theorem c_X8_qWordHere_44 {sc : List Int} {d d2 : Nat} {m m2 : Mem} {Q : Option AV → Mem → Prop} {s1 : Int} {v : Int} (Hs1 : IsC s1 102) (hM : C_X8_isHere sc d2 [aR 62, aR s1] m (some (aI v)) m2) (hd : d2 + 1 ≤ d) (k : S_X8_qWordHere sc d 47 [aR 62] [aI v] m2 Q) : S_X8_qWordHere sc d 44 [aR 62] [aR s1, aR 62] m Q := x_callV (as := [aR s1]) (rest := []) hM mk_X8_isHere mv_X8_isHere lk_X8_313 (Or.inl ⟨8, (RX8, TX8, 123), ic_62, Nat.le_of_ble_eq_true rfl, rfl, rfl⟩) hd rfl rfl (Nat.le_of_ble_eq_true rfl) dX8_qWordHere_44 rfl k
theorem c_X8_qWordHere_57 {sc : List Int} {d d2 : Nat} {m m2 : Mem} {Q : Option AV → Mem → Prop} {s1 : Int} {v : Int} (Hs1 : IsC s1 102) (hM : C_X8_isHere sc d2 [aR 62, aR s1] m (some (aI v)) m2) (hd : d2 + 1 ≤ d) (k : S_X8_qWordHere sc d 60 [aR 62] [aI v] m2 Q) : S_X8_qWordHere sc d 57 [aR 62] [aR s1, aR 62] m Q := x_callV (as := [aR s1]) (rest := []) hM mk_X8_isHere mv_X8_isHere lk_X8_313 (Or.inl ⟨8, (RX8, TX8, 123), ic_62, Nat.le_of_ble_eq_true rfl, rfl, rfl⟩) hd rfl rfl (Nat.le_of_ble_eq_true rfl) dX8_qWordHere_57 rfl k
theorem c_X8_qWordHere_70 {sc : List Int} {d d2 : Nat} {m m2 : Mem} {Q : Option AV → Mem → Prop} {s1 : Int} {v : Int} (Hs1 : IsC s1 102) (hM : C_X8_isHere sc d2 [aR 62, aR s1] m (some (aI v)) m2) (hd : d2 + 1 ≤ d) (k : S_X8_qWordHere sc d 73 [aR 62] [aI v] m2 Q) : S_X8_qWordHere sc d 70 [aR 62] [aR s1, aR 62] m Q := x_callV (as := [aR s1]) (rest := []) hM mk_X8_isHere mv_X8_isHere lk_X8_313 (Or.inl ⟨8, (RX8, TX8, 123), ic_62, Nat.le_of_ble_eq_true rfl, rfl, rfl⟩) hd rfl rfl (Nat.le_of_ble_eq_true rfl) dX8_qWordHere_70 rfl k
theorem c_X8_qWordHere_83 {sc : List Int} {d d2 : Nat} {m m2 : Mem} {Q : Option AV → Mem → Prop} {s1 : Int} {v : Int} (Hs1 : IsC s1 102) (hM : C_X8_isHere sc d2 [aR 62, aR s1] m (some (aI v)) m2) (hd : d2 + 1 ≤ d) (k : S_X8_qWordHere sc d 86 [aR 62] [aI v] m2 Q) : S_X8_qWordHere sc d 83 [aR 62] [aR s1, aR 62] m Q := x_callV (as := [aR s1]) (rest := []) hM mk_X8_isHere mv_X8_isHere lk_X8_313 (Or.inl ⟨8, (RX8, TX8, 123), ic_62, Nat.le_of_ble_eq_true rfl, rfl, rfl⟩) hd rfl rfl (Nat.le_of_ble_eq_true rfl) dX8_qWordHere_83 rfl k
theorem c_X8_qWordHere_97 {sc : List Int} {d d2 : Nat} {m m2 : Mem} {Q : Option AV → Mem → Prop} {s1 : Int} {v : Int} (Hs1 : IsC s1 102) (hM : C_X8_isHere sc d2 [aR 62, aR s1] m (some (aI v)) m2) (hd : d2 + 1 ≤ d) (k : S_X8_qWordHere sc d 100 [aR 62] [aI v] m2 Q) : S_X8_qWordHere sc d 97 [aR 62] [aR s1, aR 62] m Q := x_callV (as := [aR s1]) (rest := []) hM mk_X8_isHere mv_X8_isHere lk_X8_313 (Or.inl ⟨8, (RX8, TX8, 123), ic_62, Nat.le_of_ble_eq_true rfl, rfl, rfl⟩) hd rfl rfl (Nat.le_of_ble_eq_true rfl) dX8_qWordHere_97 rfl k
theorem c_X8_qWordHere_111 {sc : List Int} {d d2 : Nat} {m m2 : Mem} {Q : Option AV → Mem → Prop} {s1 : Int} {v : Int} (Hs1 : IsC s1 102) (hM : C_X8_isHere sc d2 [aR 62, aR s1] m (some (aI v)) m2) (hd : d2 + 1 ≤ d) (k : S_X8_qWordHere sc d 114 [aR 62] [aI v] m2 Q) : S_X8_qWordHere sc d 111 [aR 62] [aR s1, aR 62] m Q := x_callV (as := [aR s1]) (rest := []) hM mk_X8_isHere mv_X8_isHere lk_X8_313 (Or.inl ⟨8, (RX8, TX8, 123), ic_62, Nat.le_of_ble_eq_true rfl, rfl, rfl⟩) hd rfl rfl (Nat.le_of_ble_eq_true rfl) dX8_qWordHere_111 rfl k
theorem c_X8_qWordHere_125 {sc : List Int} {d d2 : Nat} {m m2 : Mem} {Q : Option AV → Mem → Prop} {s1 : Int} {v : Int} (Hs1 : IsC s1 102) (hM : C_X8_isHere sc d2 [aR 62, aR s1] m (some (aI v)) m2) (hd : d2 + 1 ≤ d) (k : S_X8_qWordHere sc d 128 [aR 62] [aI v] m2 Q) : S_X8_qWordHere sc d 125 [aR 62] [aR s1, aR 62] m Q := x_callV (as := [aR s1]) (rest := []) hM mk_X8_isHere mv_X8_isHere lk_X8_313 (Or.inl ⟨8, (RX8, TX8, 123), ic_62, Nat.le_of_ble_eq_true rfl, rfl, rfl⟩) hd rfl rfl (Nat.le_of_ble_eq_true rfl) dX8_qWordHere_125 rfl k
theorem c_X8_qWordHere_139 {sc : List Int} {d d2 : Nat} {m m2 : Mem} {Q : Option AV → Mem → Prop} {s1 : Int} {v : Int} (Hs1 : IsC s1 102) (hM : C_X8_isHere sc d2 [aR 62, aR s1] m (some (aI v)) m2) (hd : d2 + 1 ≤ d) (k : S_X8_qWordHere sc d 142 [aR 62] [aI v] m2 Q) : S_X8_qWordHere sc d 139 [aR 62] [aR s1, aR 62] m Q := x_callV (as := [aR s1]) (rest := []) hM mk_X8_isHere mv_X8_isHere lk_X8_313 (Or.inl ⟨8, (RX8, TX8, 123), ic_62, Nat.le_of_ble_eq_true rfl, rfl, rfl⟩) hd rfl rfl (Nat.le_of_ble_eq_true rfl) dX8_qWordHere_139 rfl k
set_option maxRecDepth 4000 in
theorem g_X8_qWordOf_0 {sc : List Int} {d : Nat} {m : Mem} {Q : Option AV → Mem → Prop} {l1 l2 : Int} (k : S_X8_qWordOf sc d 1 [aR 62, aI l1, aI l2, aU] [aR 62] m Q) : S_X8_qWordOf sc d 0 [aR 62, aI l1, aI l2, aU] [] m Q := by
  refine x_aload_n (pc2 := 1) dX8_qWordOf_0 rfl rfl ?_
  exact k
set_option maxRecDepth 4000 in
theorem g_X8_qWordOf_4 {sc : List Int} {d : Nat} {m : Mem} {Q : Option AV → Mem → Prop} {l1 l2 s0 : Int} (k : (-2147483648 ≤ s0 ∧ s0 < 2147483648) ∧ (-2147483648 ≤ l1 ∧ l1 < 2147483648) ∧ ((s0 < l1) → (Q (some (aI (-1))) m)) ∧ (¬ (s0 < l1) → ((-2147483648 ≤ l2 ∧ l2 < 2147483648) ∧ ((l2 ≤ s0) → (Q (some (aI (-1))) m)) ∧ (¬ (l2 ≤ s0) → (S_X8_qWordOf sc d 17 [aR 62, aU, aU, aI s0] [aI s0, aR 62] m Q))))) : S_X8_qWordOf sc d 4 [aR 62, aI l1, aI l2, aU] [aI s0] m Q := by
  refine x_istore_n (pc2 := 5) (ls2 := [aR 62, aI l1, aI l2, aI s0]) dX8_qWordOf_4 rfl (by decide) rfl ?_
  refine x_iload_n (pc2 := 6) dX8_qWordOf_5 rfl rfl ?_
  refine x_iload_n (pc2 := 7) dX8_qWordOf_6 rfl rfl ?_
  obtain ⟨h1, k⟩ := k
  obtain ⟨h2, k⟩ := k
  obtain ⟨k1, k2⟩ := k
  refine x_icmp_lt (tgt := 27) (pc2 := 10) dX8_qWordOf_7 (by decide) rfl h1 h2 (fun c3 => ?_) (fun c3 => ?_)
  · replace k := k1 c3
    refine x_iconst (pc2 := 28) dX8_qWordOf_27 rfl ?_
    exact x_ireturn dX8_qWordOf_28 ⟨.int, rfl, rfl⟩ k
  · replace k := k2 c3
    refine x_iload_n (pc2 := 11) dX8_qWordOf_10 rfl rfl ?_
    refine x_iload_n (pc2 := 12) dX8_qWordOf_11 rfl rfl ?_
    obtain ⟨h4, k⟩ := k
    obtain ⟨k1, k2⟩ := k
    refine x_icmp_ge (tgt := 27) (pc2 := 15) dX8_qWordOf_12 (by decide) rfl h1 h4 (fun c5 => ?_) (fun c5 => ?_)
    · replace k := k1 c5
      refine x_iconst (pc2 := 28) dX8_qWordOf_27 rfl ?_
      exact x_ireturn dX8_qWordOf_28 ⟨.int, rfl, rfl⟩ k
    · replace k := k2 c5
      refine x_aload_n (pc2 := 16) dX8_qWordOf_15 rfl rfl ?_
      refine x_iload_n (pc2 := 17) dX8_qWordOf_16 rfl rfl ?_
      exact x_drop (drp_k (drp_u (drp_u (drp_k drp_n)))) k
set_option maxRecDepth 4000 in
theorem g_X8_qWordOf_20 {sc : List Int} {d : Nat} {m : Mem} {Q : Option AV → Mem → Prop} {l3 s0 : Int} (k : ((-2147483648 ≤ s0 ∧ s0 < 2147483648)) ∧ Q (some (aI (if s0 = 0 then (-1) else l3 : Int))) m) : S_X8_qWordOf sc d 20 [aR 62, aU, aU, aI l3] [aI s0] m Q := by
  obtain ⟨g2, k⟩ := k
  have kj : S_X8_qWordOf sc d 28 [aR 62, aU, aU, aI l3] [aI (if s0 = 0 then (-1) else l3 : Int)] m Q := by
    exact x_ireturn dX8_qWordOf_28 ⟨.int, rfl, rfl⟩ k
  have h3 := g2 
  refine x_if_eq (tgt := 27) (pc2 := 23) dX8_qWordOf_20 (by decide) rfl h3 (fun c4 => ?_) (fun c4 => ?_)
  · skip
    refine x_iconst (pc2 := 28) dX8_qWordOf_27 rfl ?_
    exact x_topI (v := (if s0 = 0 then (-1) else l3 : Int)) (if_pos c4) kj
  · skip
    refine x_iload_n (pc2 := 24) dX8_qWordOf_23 rfl rfl ?_
    refine x_goto (tgt := 28) dX8_qWordOf_24 (by decide) ?_
    exact x_topI (v := (if s0 = 0 then (-1) else l3 : Int)) (if_neg c4) kj
theorem c_X8_qWordOf_1 {sc : List Int} {d d2 : Nat} {m m2 : Mem} {Q : Option AV → Mem → Prop} {l1 l2 : Int} {v : Int} (hM : C_X8_qWordHere sc d2 [aR 62] m (some (aI v)) m2) (hd : d2 + 1 ≤ d) (k : S_X8_qWordOf sc d 4 [aR 62, aI l1, aI l2, aU] [aI v] m2 Q) : S_X8_qWordOf sc d 1 [aR 62, aI l1, aI l2, aU] [aR 62] m Q := x_callV (as := []) (rest := []) hM mk_X8_qWordHere mv_X8_qWordHere lk_X8_640 (Or.inl ⟨8, (RX8, TX8, 123), ic_62, Nat.le_of_ble_eq_true rfl, rfl, rfl⟩) hd rfl rfl (Nat.le_of_ble_eq_true rfl) dX8_qWordOf_1 rfl k
theorem c_X8_qWordOf_17 {sc : List Int} {d d2 : Nat} {m m2 : Mem} {Q : Option AV → Mem → Prop} {l3 s1 : Int} {v : Int} (hM : C_X8_isAllowed sc d2 [aR 62, aI s1] m (some (aI v)) m2) (hd : d2 + 1 ≤ d) (k : S_X8_qWordOf sc d 20 [aR 62, aU, aU, aI l3] [aI v] m2 Q) : S_X8_qWordOf sc d 17 [aR 62, aU, aU, aI l3] [aI s1, aR 62] m Q := x_callV (as := [aI s1]) (rest := []) hM mk_X8_isAllowed mv_X8_isAllowed lk_X8_643 (Or.inl ⟨8, (RX8, TX8, 123), ic_62, Nat.le_of_ble_eq_true rfl, rfl, rfl⟩) hd rfl rfl (Nat.le_of_ble_eq_true rfl) dX8_qWordOf_17 rfl k
set_option maxRecDepth 4000 in
theorem g_X8_qAsksWord_0 {sc : List Int} {d : Nat} {m : Mem} {Q : Option AV → Mem → Prop} {l1 : Int} (k : (-2147483648 ≤ l1 ∧ l1 < 2147483648) ∧ ((l1 = 0) → (S_X8_qAsksWord sc d 61 [aR 62, aU] [aR 139, aR 62] m Q)) ∧ ((l1 = 1) → (S_X8_qAsksWord sc d 72 [aR 62, aU] [aR 140, aR 62] m Q)) ∧ ((l1 = 2) → (S_X8_qAsksWord sc d 83 [aR 62, aU] [aR 141, aR 62] m Q)) ∧ ((l1 = 3) → (S_X8_qAsksWord sc d 94 [aR 62, aU] [aR 142, aR 62] m Q)) ∧ ((l1 = 4) → (S_X8_qAsksWord sc d 105 [aR 62, aU] [aR 143, aR 62] m Q)) ∧ ((l1 = 5) → (S_X8_qAsksWord sc d 116 [aR 62, aU] [aR 132, aR 62] m Q)) ∧ ((l1 = 6) → (S_X8_qAsksWord sc d 127 [aR 62, aU] [aR 131, aR 62] m Q)) ∧ ((l1 = 7) → (S_X8_qAsksWord sc d 138 [aR 62, aU] [aR 144, aR 62] m Q)) ∧ ((l1 = 8) → (S_X8_qAsksWord sc d 149 [aR 62, aU] [aR 145, aR 62] m Q)) ∧ ((l1 = 9) → (S_X8_qAsksWord sc d 160 [aR 62, aU] [aR 146, aR 62] m Q)) ∧ ((l1 ≠ 0 ∧ l1 ≠ 1 ∧ l1 ≠ 2 ∧ l1 ≠ 3 ∧ l1 ≠ 4 ∧ l1 ≠ 5 ∧ l1 ≠ 6 ∧ l1 ≠ 7 ∧ l1 ≠ 8 ∧ l1 ≠ 9) → (S_X8_qAsksWord sc d 171 [aR 62, aU] [aR 147, aR 62] m Q))) : S_X8_qAsksWord sc d 0 [aR 62, aI l1] [] m Q := by
  refine x_iload_n (pc2 := 1) dX8_qAsksWord_0 rfl rfl ?_
  obtain ⟨h1, k⟩ := k
  obtain ⟨k2, k3, k4, k5, k6, k7, k8, k9, k10, k11, k12⟩ := k
  by_cases c13 : l1 = 0
  · replace k := k2 c13
    refine x_tin (tgt := 56) (off := 55) dX8_qAsksWord_1 h1 (by omega) (by omega) (by rw [c13]; rfl) (by decide) ?_
    refine x_aload_n (pc2 := 57) dX8_qAsksWord_56 rfl rfl ?_
    refine x_aload_n (pc2 := 58) dX8_qAsksWord_57 rfl rfl ?_
    refine x_getf (pc2 := 61) (v := aR 139) fl_X8_248 ic_62 (vr_62_102 _) dX8_qAsksWord_58 rfl ?_
    exact x_drop (drp_k (drp_u drp_n)) k
  by_cases c14 : l1 = 1
  · replace k := k3 c14
    refine x_tin (tgt := 67) (off := 66) dX8_qAsksWord_1 h1 (by omega) (by omega) (by rw [c14]; rfl) (by decide) ?_
    refine x_aload_n (pc2 := 68) dX8_qAsksWord_67 rfl rfl ?_
    refine x_aload_n (pc2 := 69) dX8_qAsksWord_68 rfl rfl ?_
    refine x_getf (pc2 := 72) (v := aR 140) fl_X8_251 ic_62 (vr_62_103 _) dX8_qAsksWord_69 rfl ?_
    exact x_drop (drp_k (drp_u drp_n)) k
  by_cases c15 : l1 = 2
  · replace k := k4 c15
    refine x_tin (tgt := 78) (off := 77) dX8_qAsksWord_1 h1 (by omega) (by omega) (by rw [c15]; rfl) (by decide) ?_
    refine x_aload_n (pc2 := 79) dX8_qAsksWord_78 rfl rfl ?_
    refine x_aload_n (pc2 := 80) dX8_qAsksWord_79 rfl rfl ?_
    refine x_getf (pc2 := 83) (v := aR 141) fl_X8_254 ic_62 (vr_62_104 _) dX8_qAsksWord_80 rfl ?_
    exact x_drop (drp_k (drp_u drp_n)) k
  by_cases c16 : l1 = 3
  · replace k := k5 c16
    refine x_tin (tgt := 89) (off := 88) dX8_qAsksWord_1 h1 (by omega) (by omega) (by rw [c16]; rfl) (by decide) ?_
    refine x_aload_n (pc2 := 90) dX8_qAsksWord_89 rfl rfl ?_
    refine x_aload_n (pc2 := 91) dX8_qAsksWord_90 rfl rfl ?_
    refine x_getf (pc2 := 94) (v := aR 142) fl_X8_257 ic_62 (vr_62_105 _) dX8_qAsksWord_91 rfl ?_
    exact x_drop (drp_k (drp_u drp_n)) k
  by_cases c17 : l1 = 4
  · replace k := k6 c17
    refine x_tin (tgt := 100) (off := 99) dX8_qAsksWord_1 h1 (by omega) (by omega) (by rw [c17]; rfl) (by decide) ?_
    refine x_aload_n (pc2 := 101) dX8_qAsksWord_100 rfl rfl ?_
    refine x_aload_n (pc2 := 102) dX8_qAsksWord_101 rfl rfl ?_
    refine x_getf (pc2 := 105) (v := aR 143) fl_X8_260 ic_62 (vr_62_106 _) dX8_qAsksWord_102 rfl ?_
    exact x_drop (drp_k (drp_u drp_n)) k
  by_cases c18 : l1 = 5
  · replace k := k7 c18
    refine x_tin (tgt := 111) (off := 110) dX8_qAsksWord_1 h1 (by omega) (by omega) (by rw [c18]; rfl) (by decide) ?_
    refine x_aload_n (pc2 := 112) dX8_qAsksWord_111 rfl rfl ?_
    refine x_aload_n (pc2 := 113) dX8_qAsksWord_112 rfl rfl ?_
    refine x_getf (pc2 := 116) (v := aR 132) fl_X8_227 ic_62 (vr_62_95 _) dX8_qAsksWord_113 rfl ?_
    exact x_drop (drp_k (drp_u drp_n)) k
  by_cases c19 : l1 = 6
  · replace k := k8 c19
    refine x_tin (tgt := 122) (off := 121) dX8_qAsksWord_1 h1 (by omega) (by omega) (by rw [c19]; rfl) (by decide) ?_
    refine x_aload_n (pc2 := 123) dX8_qAsksWord_122 rfl rfl ?_
    refine x_aload_n (pc2 := 124) dX8_qAsksWord_123 rfl rfl ?_
    refine x_getf (pc2 := 127) (v := aR 131) fl_X8_224 ic_62 (vr_62_94 _) dX8_qAsksWord_124 rfl ?_
    exact x_drop (drp_k (drp_u drp_n)) k
  by_cases c20 : l1 = 7
  · replace k := k9 c20
    refine x_tin (tgt := 133) (off := 132) dX8_qAsksWord_1 h1 (by omega) (by omega) (by rw [c20]; rfl) (by decide) ?_
    refine x_aload_n (pc2 := 134) dX8_qAsksWord_133 rfl rfl ?_
    refine x_aload_n (pc2 := 135) dX8_qAsksWord_134 rfl rfl ?_
    refine x_getf (pc2 := 138) (v := aR 144) fl_X8_263 ic_62 (vr_62_107 _) dX8_qAsksWord_135 rfl ?_
    exact x_drop (drp_k (drp_u drp_n)) k
  by_cases c21 : l1 = 8
  · replace k := k10 c21
    refine x_tin (tgt := 144) (off := 143) dX8_qAsksWord_1 h1 (by omega) (by omega) (by rw [c21]; rfl) (by decide) ?_
    refine x_aload_n (pc2 := 145) dX8_qAsksWord_144 rfl rfl ?_
    refine x_aload_n (pc2 := 146) dX8_qAsksWord_145 rfl rfl ?_
    refine x_getf (pc2 := 149) (v := aR 145) fl_X8_266 ic_62 (vr_62_108 _) dX8_qAsksWord_146 rfl ?_
    exact x_drop (drp_k (drp_u drp_n)) k
  by_cases c22 : l1 = 9
  · replace k := k11 c22
    refine x_tin (tgt := 155) (off := 154) dX8_qAsksWord_1 h1 (by omega) (by omega) (by rw [c22]; rfl) (by decide) ?_
    refine x_aload_n (pc2 := 156) dX8_qAsksWord_155 rfl rfl ?_
    refine x_aload_n (pc2 := 157) dX8_qAsksWord_156 rfl rfl ?_
    refine x_getf (pc2 := 160) (v := aR 146) fl_X8_269 ic_62 (vr_62_109 _) dX8_qAsksWord_157 rfl ?_
    exact x_drop (drp_k (drp_u drp_n)) k
  replace k := k12 (by omega)
  have kd : S_X8_qAsksWord sc d 166 [aR 62, aI l1] [] m Q := by
    refine x_aload_n (pc2 := 167) dX8_qAsksWord_166 rfl rfl ?_
    refine x_aload_n (pc2 := 168) dX8_qAsksWord_167 rfl rfl ?_
    refine x_getf (pc2 := 171) (v := aR 147) fl_X8_272 ic_62 (vr_62_110 _) dX8_qAsksWord_168 rfl ?_
    exact x_drop (drp_k (drp_u drp_n)) k
  by_cases c23 : l1 < 0 ∨ 9 < l1
  · exact x_tout (tgt := 166) dX8_qAsksWord_1 h1 c23 (by decide) kd
  exact absurd c23 (by omega)
set_option maxRecDepth 4000 in
theorem g_X8_qAsksWord_64 {sc : List Int} {d : Nat} {m : Mem} {Q : Option AV → Mem → Prop} (k : S_X8_qAsksWord sc d 174 [aR 62, aU] [] m Q) : S_X8_qAsksWord sc d 64 [aR 62, aU] [] m Q := by
  refine x_goto (tgt := 174) dX8_qAsksWord_64 (by decide) ?_
  exact k
set_option maxRecDepth 4000 in
theorem g_X8_qAsksWord_75 {sc : List Int} {d : Nat} {m : Mem} {Q : Option AV → Mem → Prop} (k : S_X8_qAsksWord sc d 174 [aR 62, aU] [] m Q) : S_X8_qAsksWord sc d 75 [aR 62, aU] [] m Q := by
  refine x_goto (tgt := 174) dX8_qAsksWord_75 (by decide) ?_
  exact k
set_option maxRecDepth 4000 in
theorem g_X8_qAsksWord_86 {sc : List Int} {d : Nat} {m : Mem} {Q : Option AV → Mem → Prop} (k : S_X8_qAsksWord sc d 174 [aR 62, aU] [] m Q) : S_X8_qAsksWord sc d 86 [aR 62, aU] [] m Q := by
  refine x_goto (tgt := 174) dX8_qAsksWord_86 (by decide) ?_
  exact k
set_option maxRecDepth 4000 in
theorem g_X8_qAsksWord_97 {sc : List Int} {d : Nat} {m : Mem} {Q : Option AV → Mem → Prop} (k : S_X8_qAsksWord sc d 174 [aR 62, aU] [] m Q) : S_X8_qAsksWord sc d 97 [aR 62, aU] [] m Q := by
  refine x_goto (tgt := 174) dX8_qAsksWord_97 (by decide) ?_
  exact k
set_option maxRecDepth 4000 in
theorem g_X8_qAsksWord_108 {sc : List Int} {d : Nat} {m : Mem} {Q : Option AV → Mem → Prop} (k : S_X8_qAsksWord sc d 174 [aR 62, aU] [] m Q) : S_X8_qAsksWord sc d 108 [aR 62, aU] [] m Q := by
  refine x_goto (tgt := 174) dX8_qAsksWord_108 (by decide) ?_
  exact k
set_option maxRecDepth 4000 in
theorem g_X8_qAsksWord_119 {sc : List Int} {d : Nat} {m : Mem} {Q : Option AV → Mem → Prop} (k : S_X8_qAsksWord sc d 174 [aR 62, aU] [] m Q) : S_X8_qAsksWord sc d 119 [aR 62, aU] [] m Q := by
  refine x_goto (tgt := 174) dX8_qAsksWord_119 (by decide) ?_
  exact k
set_option maxRecDepth 4000 in
theorem g_X8_qAsksWord_130 {sc : List Int} {d : Nat} {m : Mem} {Q : Option AV → Mem → Prop} (k : S_X8_qAsksWord sc d 174 [aR 62, aU] [] m Q) : S_X8_qAsksWord sc d 130 [aR 62, aU] [] m Q := by
  refine x_goto (tgt := 174) dX8_qAsksWord_130 (by decide) ?_
  exact k
set_option maxRecDepth 4000 in
theorem g_X8_qAsksWord_141 {sc : List Int} {d : Nat} {m : Mem} {Q : Option AV → Mem → Prop} (k : S_X8_qAsksWord sc d 174 [aR 62, aU] [] m Q) : S_X8_qAsksWord sc d 141 [aR 62, aU] [] m Q := by
  refine x_goto (tgt := 174) dX8_qAsksWord_141 (by decide) ?_
  exact k
set_option maxRecDepth 4000 in
theorem g_X8_qAsksWord_152 {sc : List Int} {d : Nat} {m : Mem} {Q : Option AV → Mem → Prop} (k : S_X8_qAsksWord sc d 174 [aR 62, aU] [] m Q) : S_X8_qAsksWord sc d 152 [aR 62, aU] [] m Q := by
  refine x_goto (tgt := 174) dX8_qAsksWord_152 (by decide) ?_
  exact k
set_option maxRecDepth 4000 in
theorem g_X8_qAsksWord_163 {sc : List Int} {d : Nat} {m : Mem} {Q : Option AV → Mem → Prop} (k : S_X8_qAsksWord sc d 174 [aR 62, aU] [] m Q) : S_X8_qAsksWord sc d 163 [aR 62, aU] [] m Q := by
  refine x_goto (tgt := 174) dX8_qAsksWord_163 (by decide) ?_
  exact k
set_option maxRecDepth 4000 in
theorem g_X8_qAsksWord_174 {sc : List Int} {d : Nat} {m : Mem} {Q : Option AV → Mem → Prop} (k : Q none m) : S_X8_qAsksWord sc d 174 [aR 62, aU] [] m Q := by
  exact x_return dX8_qAsksWord_174 rfl k
theorem c_X8_qAsksWord_61 {sc : List Int} {d d2 : Nat} {m m2 : Mem} {Q : Option AV → Mem → Prop} {s1 : Int} (Hs1 : IsC s1 102) (hM : C_X8_asks sc d2 [aR 62, aR s1] m none m2) (hd : d2 + 1 ≤ d) (k : S_X8_qAsksWord sc d 64 [aR 62, aU] [] m2 Q) : S_X8_qAsksWord sc d 61 [aR 62, aU] [aR s1, aR 62] m Q := x_callV (as := [aR s1]) (rest := []) hM mk_X8_asks mv_X8_asks lk_X8_356 (Or.inl ⟨8, (RX8, TX8, 123), ic_62, Nat.le_of_ble_eq_true rfl, rfl, rfl⟩) hd rfl rfl (Nat.le_of_ble_eq_true rfl) dX8_qAsksWord_61 rfl k
theorem c_X8_qAsksWord_72 {sc : List Int} {d d2 : Nat} {m m2 : Mem} {Q : Option AV → Mem → Prop} {s1 : Int} (Hs1 : IsC s1 102) (hM : C_X8_asks sc d2 [aR 62, aR s1] m none m2) (hd : d2 + 1 ≤ d) (k : S_X8_qAsksWord sc d 75 [aR 62, aU] [] m2 Q) : S_X8_qAsksWord sc d 72 [aR 62, aU] [aR s1, aR 62] m Q := x_callV (as := [aR s1]) (rest := []) hM mk_X8_asks mv_X8_asks lk_X8_356 (Or.inl ⟨8, (RX8, TX8, 123), ic_62, Nat.le_of_ble_eq_true rfl, rfl, rfl⟩) hd rfl rfl (Nat.le_of_ble_eq_true rfl) dX8_qAsksWord_72 rfl k
theorem c_X8_qAsksWord_83 {sc : List Int} {d d2 : Nat} {m m2 : Mem} {Q : Option AV → Mem → Prop} {s1 : Int} (Hs1 : IsC s1 102) (hM : C_X8_asks sc d2 [aR 62, aR s1] m none m2) (hd : d2 + 1 ≤ d) (k : S_X8_qAsksWord sc d 86 [aR 62, aU] [] m2 Q) : S_X8_qAsksWord sc d 83 [aR 62, aU] [aR s1, aR 62] m Q := x_callV (as := [aR s1]) (rest := []) hM mk_X8_asks mv_X8_asks lk_X8_356 (Or.inl ⟨8, (RX8, TX8, 123), ic_62, Nat.le_of_ble_eq_true rfl, rfl, rfl⟩) hd rfl rfl (Nat.le_of_ble_eq_true rfl) dX8_qAsksWord_83 rfl k
theorem c_X8_qAsksWord_94 {sc : List Int} {d d2 : Nat} {m m2 : Mem} {Q : Option AV → Mem → Prop} {s1 : Int} (Hs1 : IsC s1 102) (hM : C_X8_asks sc d2 [aR 62, aR s1] m none m2) (hd : d2 + 1 ≤ d) (k : S_X8_qAsksWord sc d 97 [aR 62, aU] [] m2 Q) : S_X8_qAsksWord sc d 94 [aR 62, aU] [aR s1, aR 62] m Q := x_callV (as := [aR s1]) (rest := []) hM mk_X8_asks mv_X8_asks lk_X8_356 (Or.inl ⟨8, (RX8, TX8, 123), ic_62, Nat.le_of_ble_eq_true rfl, rfl, rfl⟩) hd rfl rfl (Nat.le_of_ble_eq_true rfl) dX8_qAsksWord_94 rfl k
theorem c_X8_qAsksWord_105 {sc : List Int} {d d2 : Nat} {m m2 : Mem} {Q : Option AV → Mem → Prop} {s1 : Int} (Hs1 : IsC s1 102) (hM : C_X8_asks sc d2 [aR 62, aR s1] m none m2) (hd : d2 + 1 ≤ d) (k : S_X8_qAsksWord sc d 108 [aR 62, aU] [] m2 Q) : S_X8_qAsksWord sc d 105 [aR 62, aU] [aR s1, aR 62] m Q := x_callV (as := [aR s1]) (rest := []) hM mk_X8_asks mv_X8_asks lk_X8_356 (Or.inl ⟨8, (RX8, TX8, 123), ic_62, Nat.le_of_ble_eq_true rfl, rfl, rfl⟩) hd rfl rfl (Nat.le_of_ble_eq_true rfl) dX8_qAsksWord_105 rfl k
theorem c_X8_qAsksWord_116 {sc : List Int} {d d2 : Nat} {m m2 : Mem} {Q : Option AV → Mem → Prop} {s1 : Int} (Hs1 : IsC s1 102) (hM : C_X8_asks sc d2 [aR 62, aR s1] m none m2) (hd : d2 + 1 ≤ d) (k : S_X8_qAsksWord sc d 119 [aR 62, aU] [] m2 Q) : S_X8_qAsksWord sc d 116 [aR 62, aU] [aR s1, aR 62] m Q := x_callV (as := [aR s1]) (rest := []) hM mk_X8_asks mv_X8_asks lk_X8_356 (Or.inl ⟨8, (RX8, TX8, 123), ic_62, Nat.le_of_ble_eq_true rfl, rfl, rfl⟩) hd rfl rfl (Nat.le_of_ble_eq_true rfl) dX8_qAsksWord_116 rfl k
theorem c_X8_qAsksWord_127 {sc : List Int} {d d2 : Nat} {m m2 : Mem} {Q : Option AV → Mem → Prop} {s1 : Int} (Hs1 : IsC s1 102) (hM : C_X8_asks sc d2 [aR 62, aR s1] m none m2) (hd : d2 + 1 ≤ d) (k : S_X8_qAsksWord sc d 130 [aR 62, aU] [] m2 Q) : S_X8_qAsksWord sc d 127 [aR 62, aU] [aR s1, aR 62] m Q := x_callV (as := [aR s1]) (rest := []) hM mk_X8_asks mv_X8_asks lk_X8_356 (Or.inl ⟨8, (RX8, TX8, 123), ic_62, Nat.le_of_ble_eq_true rfl, rfl, rfl⟩) hd rfl rfl (Nat.le_of_ble_eq_true rfl) dX8_qAsksWord_127 rfl k
theorem c_X8_qAsksWord_138 {sc : List Int} {d d2 : Nat} {m m2 : Mem} {Q : Option AV → Mem → Prop} {s1 : Int} (Hs1 : IsC s1 102) (hM : C_X8_asks sc d2 [aR 62, aR s1] m none m2) (hd : d2 + 1 ≤ d) (k : S_X8_qAsksWord sc d 141 [aR 62, aU] [] m2 Q) : S_X8_qAsksWord sc d 138 [aR 62, aU] [aR s1, aR 62] m Q := x_callV (as := [aR s1]) (rest := []) hM mk_X8_asks mv_X8_asks lk_X8_356 (Or.inl ⟨8, (RX8, TX8, 123), ic_62, Nat.le_of_ble_eq_true rfl, rfl, rfl⟩) hd rfl rfl (Nat.le_of_ble_eq_true rfl) dX8_qAsksWord_138 rfl k
theorem c_X8_qAsksWord_149 {sc : List Int} {d d2 : Nat} {m m2 : Mem} {Q : Option AV → Mem → Prop} {s1 : Int} (Hs1 : IsC s1 102) (hM : C_X8_asks sc d2 [aR 62, aR s1] m none m2) (hd : d2 + 1 ≤ d) (k : S_X8_qAsksWord sc d 152 [aR 62, aU] [] m2 Q) : S_X8_qAsksWord sc d 149 [aR 62, aU] [aR s1, aR 62] m Q := x_callV (as := [aR s1]) (rest := []) hM mk_X8_asks mv_X8_asks lk_X8_356 (Or.inl ⟨8, (RX8, TX8, 123), ic_62, Nat.le_of_ble_eq_true rfl, rfl, rfl⟩) hd rfl rfl (Nat.le_of_ble_eq_true rfl) dX8_qAsksWord_149 rfl k
theorem c_X8_qAsksWord_160 {sc : List Int} {d d2 : Nat} {m m2 : Mem} {Q : Option AV → Mem → Prop} {s1 : Int} (Hs1 : IsC s1 102) (hM : C_X8_asks sc d2 [aR 62, aR s1] m none m2) (hd : d2 + 1 ≤ d) (k : S_X8_qAsksWord sc d 163 [aR 62, aU] [] m2 Q) : S_X8_qAsksWord sc d 160 [aR 62, aU] [aR s1, aR 62] m Q := x_callV (as := [aR s1]) (rest := []) hM mk_X8_asks mv_X8_asks lk_X8_356 (Or.inl ⟨8, (RX8, TX8, 123), ic_62, Nat.le_of_ble_eq_true rfl, rfl, rfl⟩) hd rfl rfl (Nat.le_of_ble_eq_true rfl) dX8_qAsksWord_160 rfl k
theorem c_X8_qAsksWord_171 {sc : List Int} {d d2 : Nat} {m m2 : Mem} {Q : Option AV → Mem → Prop} {s1 : Int} (Hs1 : IsC s1 102) (hM : C_X8_asks sc d2 [aR 62, aR s1] m none m2) (hd : d2 + 1 ≤ d) (k : S_X8_qAsksWord sc d 174 [aR 62, aU] [] m2 Q) : S_X8_qAsksWord sc d 171 [aR 62, aU] [aR s1, aR 62] m Q := x_callV (as := [aR s1]) (rest := []) hM mk_X8_asks mv_X8_asks lk_X8_356 (Or.inl ⟨8, (RX8, TX8, 123), ic_62, Nat.le_of_ble_eq_true rfl, rfl, rfl⟩) hd rfl rfl (Nat.le_of_ble_eq_true rfl) dX8_qAsksWord_171 rfl k
set_option maxRecDepth 4000 in
theorem g_X8_qEndsPart_0 {sc : List Int} {d : Nat} {m : Mem} {Q : Option AV → Mem → Prop} (k : (-2147483648 ≤ (m 62 5) ∧ (m 62 5) < 2147483648) ∧ (((m 62 5) ≠ 0) → (Q none m)) ∧ (¬ ((m 62 5) ≠ 0) → ((-2147483648 ≤ (m 62 114) ∧ (m 62 114) < 2147483648) ∧ (-2147483648 ≤ (m 62 116) ∧ (m 62 116) < 2147483648) ∧ (((m 62 114) ≤ (m 62 116)) → (Q none m)) ∧ (¬ ((m 62 114) ≤ (m 62 116)) → ((0 ≤ ((m 62 114) - 1)) ∧ (((m 62 114) - 1) < 1700) ∧ (-2147483648 ≤ (m 149 ((m 62 114) - 1)) ∧ (m 149 ((m 62 114) - 1)) < 2147483648) ∧ (((m 149 ((m 62 114) - 1)) < 60) → (Q none m)) ∧ (¬ ((m 149 ((m 62 114) - 1)) < 60) → (S_X8_qEndsPart sc d 45 [aR 62] [aR 62] (wr m 62 115 ((m 62 115) - 1)) Q))))))) : S_X8_qEndsPart sc d 0 [aR 62] [] m Q := by
  refine x_aload_n (pc2 := 1) dX8_qEndsPart_0 rfl rfl ?_
  refine x_getf (pc2 := 4) (v := aI (m 62 5)) fl_X8_290 ic_62 (fv_i _ ic_62 rfl) dX8_qEndsPart_1 rfl ?_
  obtain ⟨h1, k⟩ := k
  obtain ⟨k1, k2⟩ := k
  refine x_if_ne (tgt := 51) (pc2 := 7) dX8_qEndsPart_4 (by decide) rfl h1 (fun c2 => ?_) (fun c2 => ?_)
  · replace k := k1 c2
    exact x_return dX8_qEndsPart_51 rfl k
  · replace k := k2 c2
    refine x_aload_n (pc2 := 8) dX8_qEndsPart_7 rfl rfl ?_
    refine x_getf (pc2 := 11) (v := aI (m 62 114)) fl_X8_386 ic_62 (fv_i _ ic_62 rfl) dX8_qEndsPart_8 rfl ?_
    refine x_aload_n (pc2 := 12) dX8_qEndsPart_11 rfl rfl ?_
    refine x_getf (pc2 := 15) (v := aI (m 62 116)) fl_X8_392 ic_62 (fv_i _ ic_62 rfl) dX8_qEndsPart_12 rfl ?_
    obtain ⟨h3, k⟩ := k
    obtain ⟨h4, k⟩ := k
    obtain ⟨k1, k2⟩ := k
    refine x_icmp_le (tgt := 51) (pc2 := 18) dX8_qEndsPart_15 (by decide) rfl h3 h4 (fun c5 => ?_) (fun c5 => ?_)
    · replace k := k1 c5
      exact x_return dX8_qEndsPart_51 rfl k
    · replace k := k2 c5
      refine x_aload_n (pc2 := 19) dX8_qEndsPart_18 rfl rfl ?_
      refine x_getf (pc2 := 22) (v := aR 149) fl_X8_278 ic_62 (vr_62_113 _) dX8_qEndsPart_19 rfl ?_
      refine x_aload_n (pc2 := 23) dX8_qEndsPart_22 rfl rfl ?_
      refine x_getf (pc2 := 26) (v := aI (m 62 114)) fl_X8_386 ic_62 (fv_i _ ic_62 rfl) dX8_qEndsPart_23 rfl ?_
      refine x_iconst (pc2 := 27) dX8_qEndsPart_26 rfl ?_
      refine x_isub (pc2 := 28) dX8_qEndsPart_27 rfl ?_
      obtain ⟨h6, k⟩ := k
      obtain ⟨h7, k⟩ := k
      refine x_iald (pc2 := 29) ic_149 h6 (by rw [al_149]; exact h7) dX8_qEndsPart_28 rfl ?_
      refine x_bipush (pc2 := 31) dX8_qEndsPart_29 rfl rfl ?_
      obtain ⟨h8, k⟩ := k
      obtain ⟨k1, k2⟩ := k
      refine x_icmp_lt (tgt := 51) (pc2 := 34) dX8_qEndsPart_31 (by decide) rfl h8 (by decide) (fun c9 => ?_) (fun c9 => ?_)
      · replace k := k1 c9
        exact x_return dX8_qEndsPart_51 rfl k
      · replace k := k2 c9
        refine x_aload_n (pc2 := 35) dX8_qEndsPart_34 rfl rfl ?_
        refine x_dup_r (pc2 := 36) dX8_qEndsPart_35 rfl (by decide) ?_
        refine x_getf (pc2 := 39) (v := aI (m 62 115)) fl_X8_389 ic_62 (fv_i _ ic_62 rfl) dX8_qEndsPart_36 rfl ?_
        refine x_iconst (pc2 := 40) dX8_qEndsPart_39 rfl ?_
        refine x_isub (pc2 := 41) dX8_qEndsPart_40 rfl ?_
        refine x_putf (pc2 := 44) (x := ((m 62 115) - 1)) fl_X8_389 ft_8_115 ic_62 (pv_i _ ic_62 rfl) (pn_i _) dX8_qEndsPart_41 rfl ?_
        refine x_aload_n (pc2 := 45) dX8_qEndsPart_44 rfl rfl ?_
        exact k
set_option maxRecDepth 4000 in
theorem g_X8_qEndsPart_48 {sc : List Int} {d : Nat} {m : Mem} {Q : Option AV → Mem → Prop} (k : S_X8_qEndsPart sc d 0 [aR 62] [] m Q) : S_X8_qEndsPart sc d 48 [aR 62] [] m Q := by
  refine x_goto (tgt := 0) dX8_qEndsPart_48 (by decide) ?_
  exact k
theorem c_X8_qEndsPart_45 {sc : List Int} {d d2 : Nat} {m m2 : Mem} {Q : Option AV → Mem → Prop} (hM : C_X8_qDrops sc d2 [aR 62] m none m2) (hd : d2 + 1 ≤ d) (k : S_X8_qEndsPart sc d 48 [aR 62] [] m2 Q) : S_X8_qEndsPart sc d 45 [aR 62] [aR 62] m Q := x_callV (as := []) (rest := []) hM mk_X8_qDrops mv_X8_qDrops lk_X8_637 (Or.inl ⟨8, (RX8, TX8, 123), ic_62, Nat.le_of_ble_eq_true rfl, rfl, rfl⟩) hd rfl rfl (Nat.le_of_ble_eq_true rfl) dX8_qEndsPart_45 rfl k
set_option maxRecDepth 4000 in
theorem g_X8_qPartTold_0 {sc : List Int} {d : Nat} {m : Mem} {Q : Option AV → Mem → Prop} (k : S_X8_qPartTold sc d 2 [aR 62, aI 1, aU, aU, aU, aU] [] m Q) : S_X8_qPartTold sc d 0 [aR 62, aU, aU, aU, aU, aU] [] m Q := by
  refine x_iconst (pc2 := 1) dX8_qPartTold_0 rfl ?_
  refine x_istore_n (pc2 := 2) (ls2 := [aR 62, aI 1, aU, aU, aU, aU]) dX8_qPartTold_1 rfl (by decide) rfl ?_
  exact k
set_option maxRecDepth 4000 in
theorem g_X8_qPartTold_2 {sc : List Int} {d : Nat} {m : Mem} {Q : Option AV → Mem → Prop} {l1 : Int} (k : (-2147483648 ≤ l1 ∧ l1 < 2147483648) ∧ ((l1 = 0) → ((-2147483648 ≤ (m 62 5) ∧ (m 62 5) < 2147483648) ∧ (((m 62 5) = 0) → (S_X8_qPartTold sc d 198 [aR 62, aU, aU, aU, aU, aU] [aI 10, aI 0, aR 62] m Q)) ∧ (¬ ((m 62 5) = 0) → (Q none m)))) ∧ (¬ (l1 = 0) → ((-2147483648 ≤ (m 62 5) ∧ (m 62 5) < 2147483648) ∧ (((m 62 5) ≠ 0) → ((((m 62 5) = 0) → (S_X8_qPartTold sc d 198 [aR 62, aU, aU, aU, aU, aU] [aI 10, aI 0, aR 62] m Q)) ∧ (¬ ((m 62 5) = 0) → (Q none m)))) ∧ (¬ ((m 62 5) ≠ 0) → (S_X8_qPartTold sc d 14 [aR 62, aI l1, aU, aU, aU, aU] [aR 62] m Q))))) : S_X8_qPartTold sc d 2 [aR 62, aI l1, aU, aU, aU, aU] [] m Q := by
  refine x_iload_n (pc2 := 3) dX8_qPartTold_2 rfl rfl ?_
  obtain ⟨h1, k⟩ := k
  obtain ⟨k1, k2⟩ := k
  refine x_if_eq (tgt := 186) (pc2 := 6) dX8_qPartTold_3 (by decide) rfl h1 (fun c2 => ?_) (fun c2 => ?_)
  · replace k := k1 c2
    refine x_aload_n (pc2 := 187) dX8_qPartTold_186 rfl rfl ?_
    refine x_getf (pc2 := 190) (v := aI (m 62 5)) fl_X8_290 ic_62 (fv_i _ ic_62 rfl) dX8_qPartTold_187 rfl ?_
    obtain ⟨h3, k⟩ := k
    obtain ⟨k1, k2⟩ := k
    refine x_if_eq (tgt := 194) (pc2 := 193) dX8_qPartTold_190 (by decide) rfl h3 (fun c4 => ?_) (fun c4 => ?_)
    · replace k := k1 c4
      refine x_aload_n (pc2 := 195) dX8_qPartTold_194 rfl rfl ?_
      refine x_iconst (pc2 := 196) dX8_qPartTold_195 rfl ?_
      refine x_bipush (pc2 := 198) dX8_qPartTold_196 rfl rfl ?_
      exact x_drop (drp_k (drp_u (drp_k (drp_k (drp_k (drp_k drp_n)))))) k
    · replace k := k2 c4
      exact x_return dX8_qPartTold_193 rfl k
  · replace k := k2 c2
    refine x_aload_n (pc2 := 7) dX8_qPartTold_6 rfl rfl ?_
    refine x_getf (pc2 := 10) (v := aI (m 62 5)) fl_X8_290 ic_62 (fv_i _ ic_62 rfl) dX8_qPartTold_7 rfl ?_
    obtain ⟨h5, k⟩ := k
    obtain ⟨k1, k2⟩ := k
    refine x_if_ne (tgt := 186) (pc2 := 13) dX8_qPartTold_10 (by decide) rfl h5 (fun c6 => ?_) (fun c6 => ?_)
    · replace k := k1 c6
      refine x_aload_n (pc2 := 187) dX8_qPartTold_186 rfl rfl ?_
      refine x_getf (pc2 := 190) (v := aI (m 62 5)) fl_X8_290 ic_62 (fv_i _ ic_62 rfl) dX8_qPartTold_187 rfl ?_
      obtain ⟨k1, k2⟩ := k
      refine x_if_eq (tgt := 194) (pc2 := 193) dX8_qPartTold_190 (by decide) rfl h5 (fun c7 => ?_) (fun c7 => ?_)
      · replace k := k1 c7
        refine x_aload_n (pc2 := 195) dX8_qPartTold_194 rfl rfl ?_
        refine x_iconst (pc2 := 196) dX8_qPartTold_195 rfl ?_
        refine x_bipush (pc2 := 198) dX8_qPartTold_196 rfl rfl ?_
        exact x_drop (drp_k (drp_u (drp_k (drp_k (drp_k (drp_k drp_n)))))) k
      · replace k := k2 c7
        exact x_return dX8_qPartTold_193 rfl k
    · replace k := k2 c6
      refine x_aload_n (pc2 := 14) dX8_qPartTold_13 rfl rfl ?_
      exact k
set_option maxRecDepth 4000 in
theorem g_X8_qPartTold_17 {sc : List Int} {d : Nat} {m : Mem} {Q : Option AV → Mem → Prop} {l1 s0 : Int} (k : S_X8_qPartTold sc d 23 [aR 62, aI l1, aI s0, aU, aU, aU] [aI 11, aI 10, aR 62] m Q) : S_X8_qPartTold sc d 17 [aR 62, aI l1, aU, aU, aU, aU] [aI s0] m Q := by
  refine x_istore_n (pc2 := 18) (ls2 := [aR 62, aI l1, aI s0, aU, aU, aU]) dX8_qPartTold_17 rfl (by decide) rfl ?_
  refine x_aload_n (pc2 := 19) dX8_qPartTold_18 rfl rfl ?_
  refine x_bipush (pc2 := 21) dX8_qPartTold_19 rfl rfl ?_
  refine x_bipush (pc2 := 23) dX8_qPartTold_21 rfl rfl ?_
  exact k
set_option maxRecDepth 4000 in
theorem g_X8_qPartTold_26 {sc : List Int} {d : Nat} {m : Mem} {Q : Option AV → Mem → Prop} {l1 l2 s0 : Int} (k : (-2147483648 ≤ l2 ∧ l2 < 2147483648) ∧ ((l2 ≠ 40) → (S_X8_qPartTold sc d 61 [aR 62, aI l1, aU, aI s0, aU, aU] [aR 137, aR 62] m Q)) ∧ (¬ (l2 ≠ 40) → (S_X8_qPartTold sc d 40 [aR 62, aI l1, aU, aU, aU, aU] [aI (m 62 2), aI 20, aR 62] m Q))) : S_X8_qPartTold sc d 26 [aR 62, aI l1, aI l2, aU, aU, aU] [aI s0] m Q := by
  refine x_istore_n (pc2 := 27) (ls2 := [aR 62, aI l1, aI l2, aI s0, aU, aU]) dX8_qPartTold_26 rfl (by decide) rfl ?_
  refine x_iload_n (pc2 := 28) dX8_qPartTold_27 rfl rfl ?_
  refine x_bipush (pc2 := 30) dX8_qPartTold_28 rfl rfl ?_
  obtain ⟨h1, k⟩ := k
  obtain ⟨k1, k2⟩ := k
  refine x_icmp_ne (tgt := 56) (pc2 := 33) dX8_qPartTold_30 (by decide) rfl h1 (by decide) (fun c2 => ?_) (fun c2 => ?_)
  · replace k := k1 c2
    refine x_aload_n (pc2 := 57) dX8_qPartTold_56 rfl rfl ?_
    refine x_aload_n (pc2 := 58) dX8_qPartTold_57 rfl rfl ?_
    refine x_getf (pc2 := 61) (v := aR 137) fl_X8_242 ic_62 (vr_62_100 _) dX8_qPartTold_58 rfl ?_
    exact x_drop (drp_k (drp_k (drp_u (drp_k (drp_k (drp_k drp_n)))))) k
  · replace k := k2 c2
    refine x_aload_n (pc2 := 34) dX8_qPartTold_33 rfl rfl ?_
    refine x_bipush (pc2 := 36) dX8_qPartTold_34 rfl rfl ?_
    refine x_aload_n (pc2 := 37) dX8_qPartTold_36 rfl rfl ?_
    refine x_getf (pc2 := 40) (v := aI (m 62 2)) fl_X8_296 ic_62 (fv_i _ ic_62 rfl) dX8_qPartTold_37 rfl ?_
    exact x_drop (drp_k (drp_k (drp_u (drp_u (drp_k (drp_k drp_n)))))) k
set_option maxRecDepth 4000 in
theorem g_X8_qPartTold_43 {sc : List Int} {d : Nat} {m : Mem} {Q : Option AV → Mem → Prop} {l1 : Int} (k : S_X8_qPartTold sc d 2 [aR 62, aI l1, aU, aU, aU, aU] [] (wr m 62 2 ((m 62 2) + 1)) Q) : S_X8_qPartTold sc d 43 [aR 62, aI l1, aU, aU, aU, aU] [] m Q := by
  refine x_aload_n (pc2 := 44) dX8_qPartTold_43 rfl rfl ?_
  refine x_dup_r (pc2 := 45) dX8_qPartTold_44 rfl (by decide) ?_
  refine x_getf (pc2 := 48) (v := aI (m 62 2)) fl_X8_296 ic_62 (fv_i _ ic_62 rfl) dX8_qPartTold_45 rfl ?_
  refine x_iconst (pc2 := 49) dX8_qPartTold_48 rfl ?_
  refine x_iadd (pc2 := 50) dX8_qPartTold_49 rfl ?_
  refine x_putf (pc2 := 53) (x := ((m 62 2) + 1)) fl_X8_296 ft_8_2 ic_62 (pv_i _ ic_62 rfl) (pn_i _) dX8_qPartTold_50 rfl ?_
  refine x_goto (tgt := 183) dX8_qPartTold_53 (by decide) ?_
  refine x_goto (tgt := 2) dX8_qPartTold_183 (by decide) ?_
  exact k
set_option maxRecDepth 4000 in
theorem g_X8_qPartTold_64 {sc : List Int} {d : Nat} {m : Mem} {Q : Option AV → Mem → Prop} {l1 l3 s0 : Int} (k : (-2147483648 ≤ s0 ∧ s0 < 2147483648) ∧ ((s0 ≠ 0) → (S_X8_qPartTold sc d 83 [aR 62, aI l1, aU, aU, aU, aU] [aR 137, aR 62] m Q)) ∧ (¬ (s0 ≠ 0) → (S_X8_qPartTold sc d 72 [aR 62, aI l1, aU, aI l3, aU, aU] [aR 138, aR 62] m Q))) : S_X8_qPartTold sc d 64 [aR 62, aI l1, aU, aI l3, aU, aU] [aI s0] m Q := by
  obtain ⟨h1, k⟩ := k
  obtain ⟨k1, k2⟩ := k
  refine x_if_ne (tgt := 78) (pc2 := 67) dX8_qPartTold_64 (by decide) rfl h1 (fun c2 => ?_) (fun c2 => ?_)
  · replace k := k1 c2
    refine x_aload_n (pc2 := 79) dX8_qPartTold_78 rfl rfl ?_
    refine x_aload_n (pc2 := 80) dX8_qPartTold_79 rfl rfl ?_
    refine x_getf (pc2 := 83) (v := aR 137) fl_X8_242 ic_62 (vr_62_100 _) dX8_qPartTold_80 rfl ?_
    exact x_drop (drp_k (drp_k (drp_k (drp_u (drp_k (drp_k drp_n)))))) k
  · replace k := k2 c2
    refine x_aload_n (pc2 := 68) dX8_qPartTold_67 rfl rfl ?_
    refine x_aload_n (pc2 := 69) dX8_qPartTold_68 rfl rfl ?_
    refine x_getf (pc2 := 72) (v := aR 138) fl_X8_245 ic_62 (vr_62_101 _) dX8_qPartTold_69 rfl ?_
    exact k
set_option maxRecDepth 4000 in
theorem g_X8_qPartTold_75 {sc : List Int} {d : Nat} {m : Mem} {Q : Option AV → Mem → Prop} {l1 l3 s0 : Int} (k : (-2147483648 ≤ s0 ∧ s0 < 2147483648) ∧ ((s0 = 0) → ((-2147483648 ≤ l3 ∧ l3 < 2147483648) ∧ ((l3 = (-1)) → (S_X8_qPartTold sc d 2 [aR 62, aI 0, aU, aU, aU, aU] [] m Q)) ∧ (¬ (l3 = (-1)) → (S_X8_qPartTold sc d 170 [aR 62, aI l1, aU, aI l3, aU, aU] [aI (m 62 2), aI ((60 + l3) - 10), aR 62] m Q)))) ∧ (¬ (s0 = 0) → (S_X8_qPartTold sc d 83 [aR 62, aI l1, aU, aU, aU, aU] [aR 137, aR 62] m Q))) : S_X8_qPartTold sc d 75 [aR 62, aI l1, aU, aI l3, aU, aU] [aI s0] m Q := by
  obtain ⟨h1, k⟩ := k
  obtain ⟨k1, k2⟩ := k
  refine x_if_eq (tgt := 153) (pc2 := 78) dX8_qPartTold_75 (by decide) rfl h1 (fun c2 => ?_) (fun c2 => ?_)
  · replace k := k1 c2
    refine x_iload_n (pc2 := 154) dX8_qPartTold_153 rfl rfl ?_
    refine x_iconst (pc2 := 155) dX8_qPartTold_154 rfl ?_
    obtain ⟨h3, k⟩ := k
    obtain ⟨k1, k2⟩ := k
    refine x_icmp_eq (tgt := 181) (pc2 := 158) dX8_qPartTold_155 (by decide) rfl h3 (by decide) (fun c4 => ?_) (fun c4 => ?_)
    · replace k := k1 c4
      refine x_iconst (pc2 := 182) dX8_qPartTold_181 rfl ?_
      refine x_istore_n (pc2 := 183) (ls2 := [aR 62, aI 0, aU, aI l3, aU, aU]) dX8_qPartTold_182 rfl (by decide) rfl ?_
      refine x_goto (tgt := 2) dX8_qPartTold_183 (by decide) ?_
      exact x_drop (drp_k (drp_k (drp_k (drp_u (drp_k (drp_k drp_n)))))) k
    · replace k := k2 c4
      refine x_aload_n (pc2 := 159) dX8_qPartTold_158 rfl rfl ?_
      refine x_bipush (pc2 := 161) dX8_qPartTold_159 rfl rfl ?_
      refine x_iload_n (pc2 := 162) dX8_qPartTold_161 rfl rfl ?_
      refine x_iadd (pc2 := 163) dX8_qPartTold_162 rfl ?_
      refine x_bipush (pc2 := 165) dX8_qPartTold_163 rfl rfl ?_
      refine x_isub (pc2 := 166) dX8_qPartTold_165 rfl ?_
      refine x_aload_n (pc2 := 167) dX8_qPartTold_166 rfl rfl ?_
      refine x_getf (pc2 := 170) (v := aI (m 62 2)) fl_X8_296 ic_62 (fv_i _ ic_62 rfl) dX8_qPartTold_167 rfl ?_
      exact k
  · replace k := k2 c2
    refine x_aload_n (pc2 := 79) dX8_qPartTold_78 rfl rfl ?_
    refine x_aload_n (pc2 := 80) dX8_qPartTold_79 rfl rfl ?_
    refine x_getf (pc2 := 83) (v := aR 137) fl_X8_242 ic_62 (vr_62_100 _) dX8_qPartTold_80 rfl ?_
    exact x_drop (drp_k (drp_k (drp_k (drp_u (drp_k (drp_k drp_n)))))) k
set_option maxRecDepth 4000 in
theorem g_X8_qPartTold_86 {sc : List Int} {d : Nat} {m : Mem} {Q : Option AV → Mem → Prop} {l1 s0 : Int} (k : (-2147483648 ≤ s0 ∧ s0 < 2147483648) ∧ ((s0 ≠ 0) → (S_X8_qPartTold sc d 101 [aR 62, aI l1, aU, aU, aI s0, aU] [] m Q)) ∧ (¬ (s0 ≠ 0) → (S_X8_qPartTold sc d 98 [aR 62, aI l1, aU, aU, aI s0, aU] [aR 138, aR 62] m Q))) : S_X8_qPartTold sc d 86 [aR 62, aI l1, aU, aU, aU, aU] [aI s0] m Q := by
  refine x_istore (pc2 := 88) (ls2 := [aR 62, aI l1, aU, aU, aI s0, aU]) dX8_qPartTold_86 rfl (by decide) rfl ?_
  refine x_iload (pc2 := 90) dX8_qPartTold_88 rfl rfl ?_
  obtain ⟨h1, k⟩ := k
  obtain ⟨k1, k2⟩ := k
  refine x_if_ne (tgt := 101) (pc2 := 93) dX8_qPartTold_90 (by decide) rfl h1 (fun c2 => ?_) (fun c2 => ?_)
  · replace k := k1 c2
    exact k
  · replace k := k2 c2
    refine x_aload_n (pc2 := 94) dX8_qPartTold_93 rfl rfl ?_
    refine x_aload_n (pc2 := 95) dX8_qPartTold_94 rfl rfl ?_
    refine x_getf (pc2 := 98) (v := aR 138) fl_X8_245 ic_62 (vr_62_101 _) dX8_qPartTold_95 rfl ?_
    exact k
set_option maxRecDepth 4000 in
theorem g_X8_qPartTold_101 {sc : List Int} {d : Nat} {m : Mem} {Q : Option AV → Mem → Prop} {l1 l4 : Int} (k : S_X8_qPartTold sc d 102 [aR 62, aI l1, aU, aU, aI l4, aU] [aR 62] m Q) : S_X8_qPartTold sc d 101 [aR 62, aI l1, aU, aU, aI l4, aU] [] m Q := by
  refine x_aload_n (pc2 := 102) dX8_qPartTold_101 rfl rfl ?_
  exact k
set_option maxRecDepth 4000 in
theorem g_X8_qPartTold_105 {sc : List Int} {d : Nat} {m : Mem} {Q : Option AV → Mem → Prop} {l1 l4 s0 : Int} (k : ((-2147483648 ≤ s0 ∧ s0 < 2147483648)) ∧ (-2147483648 ≤ (if s0 ≠ 40 then (-1) else (m 62 2) : Int) ∧ (if s0 ≠ 40 then (-1) else (m 62 2) : Int) < 2147483648) ∧ (((if s0 ≠ 40 then (-1) else (m 62 2) : Int) = (-1)) → (S_X8_qPartTold sc d 144 [aR 62, aI l1, aU, aU, aU, aU] [] m Q)) ∧ (¬ ((if s0 ≠ 40 then (-1) else (m 62 2) : Int) = (-1)) → (((-2147483648 ≤ l4 ∧ l4 < 2147483648)) ∧ S_X8_qPartTold sc d 141 [aR 62, aI l1, aU, aU, aU, aU] [aI (if s0 ≠ 40 then (-1) else (m 62 2) : Int), aI (if l4 = 0 then 22 else 21 : Int), aR 62] m Q))) : S_X8_qPartTold sc d 105 [aR 62, aI l1, aU, aU, aI l4, aU] [aI s0] m Q := by
  refine x_bipush (pc2 := 107) dX8_qPartTold_105 rfl rfl ?_
  obtain ⟨g2, k⟩ := k
  have kj : S_X8_qPartTold sc d 118 [aR 62, aI l1, aU, aU, aI l4, aU] [aI (if s0 ≠ 40 then (-1) else (m 62 2) : Int)] m Q := by
    refine x_istore (pc2 := 120) (ls2 := [aR 62, aI l1, aU, aU, aI l4, aI (if s0 ≠ 40 then (-1) else (m 62 2) : Int)]) dX8_qPartTold_118 rfl (by decide) rfl ?_
    refine x_iload (pc2 := 122) dX8_qPartTold_120 rfl rfl ?_
    refine x_iconst (pc2 := 123) dX8_qPartTold_122 rfl ?_
    obtain ⟨h3, k⟩ := k
    obtain ⟨k1, k2⟩ := k
    refine x_icmp_eq (tgt := 144) (pc2 := 126) dX8_qPartTold_123 (by decide) rfl h3 (by decide) (fun c4 => ?_) (fun c4 => ?_)
    · replace k := k1 c4
      exact x_drop (drp_k (drp_k (drp_k (drp_k (drp_u (drp_u drp_n)))))) k
    · replace k := k2 c4
      refine x_aload_n (pc2 := 127) dX8_qPartTold_126 rfl rfl ?_
      refine x_iload (pc2 := 129) dX8_qPartTold_127 rfl rfl ?_
      obtain ⟨g6, k⟩ := k
      have kj : S_X8_qPartTold sc d 139 [aR 62, aI l1, aU, aU, aI l4, aI (if s0 ≠ 40 then (-1) else (m 62 2) : Int)] [aI (if l4 = 0 then 22 else 21 : Int), aR 62] m Q := by
        refine x_iload (pc2 := 141) dX8_qPartTold_139 rfl rfl ?_
        exact x_drop (drp_k (drp_k (drp_k (drp_k (drp_u (drp_u drp_n)))))) k
      have h7 := g6 
      refine x_if_eq (tgt := 137) (pc2 := 132) dX8_qPartTold_129 (by decide) rfl h7 (fun c8 => ?_) (fun c8 => ?_)
      · skip
        refine x_bipush (pc2 := 139) dX8_qPartTold_137 rfl rfl ?_
        exact x_topI (v := (if l4 = 0 then 22 else 21 : Int)) (if_pos c8) kj
      · skip
        refine x_bipush (pc2 := 134) dX8_qPartTold_132 rfl rfl ?_
        refine x_goto (tgt := 139) dX8_qPartTold_134 (by decide) ?_
        exact x_topI (v := (if l4 = 0 then 22 else 21 : Int)) (if_neg c8) kj
  have h9 := g2 
  refine x_icmp_ne (tgt := 117) (pc2 := 110) dX8_qPartTold_107 (by decide) rfl h9 (by decide) (fun c10 => ?_) (fun c10 => ?_)
  · skip
    refine x_iconst (pc2 := 118) dX8_qPartTold_117 rfl ?_
    exact x_topI (v := (if s0 ≠ 40 then (-1) else (m 62 2) : Int)) (if_pos c10) kj
  · skip
    refine x_aload_n (pc2 := 111) dX8_qPartTold_110 rfl rfl ?_
    refine x_getf (pc2 := 114) (v := aI (m 62 2)) fl_X8_296 ic_62 (fv_i _ ic_62 rfl) dX8_qPartTold_111 rfl ?_
    refine x_goto (tgt := 118) dX8_qPartTold_114 (by decide) ?_
    exact x_topI (v := (if s0 ≠ 40 then (-1) else (m 62 2) : Int)) (if_neg c10) kj
set_option maxRecDepth 4000 in
theorem g_X8_qPartTold_144 {sc : List Int} {d : Nat} {m : Mem} {Q : Option AV → Mem → Prop} {l1 : Int} (k : S_X8_qPartTold sc d 147 [aR 62, aI l1, aU, aU, aU, aU] [aI 40, aR 62] m Q) : S_X8_qPartTold sc d 144 [aR 62, aI l1, aU, aU, aU, aU] [] m Q := by
  refine x_aload_n (pc2 := 145) dX8_qPartTold_144 rfl rfl ?_
  refine x_bipush (pc2 := 147) dX8_qPartTold_145 rfl rfl ?_
  exact k
set_option maxRecDepth 4000 in
theorem g_X8_qPartTold_150 {sc : List Int} {d : Nat} {m : Mem} {Q : Option AV → Mem → Prop} {l1 : Int} (k : S_X8_qPartTold sc d 2 [aR 62, aI l1, aU, aU, aU, aU] [] m Q) : S_X8_qPartTold sc d 150 [aR 62, aI l1, aU, aU, aU, aU] [] m Q := by
  refine x_goto (tgt := 183) dX8_qPartTold_150 (by decide) ?_
  refine x_goto (tgt := 2) dX8_qPartTold_183 (by decide) ?_
  exact k
set_option maxRecDepth 4000 in
theorem g_X8_qPartTold_173 {sc : List Int} {d : Nat} {m : Mem} {Q : Option AV → Mem → Prop} {l1 l3 : Int} (k : S_X8_qPartTold sc d 175 [aR 62, aI l1, aU, aU, aU, aU] [aI l3, aR 62] m Q) : S_X8_qPartTold sc d 173 [aR 62, aI l1, aU, aI l3, aU, aU] [] m Q := by
  refine x_aload_n (pc2 := 174) dX8_qPartTold_173 rfl rfl ?_
  refine x_iload_n (pc2 := 175) dX8_qPartTold_174 rfl rfl ?_
  exact x_drop (drp_k (drp_k (drp_k (drp_u (drp_k (drp_k drp_n)))))) k
set_option maxRecDepth 4000 in
theorem g_X8_qPartTold_178 {sc : List Int} {d : Nat} {m : Mem} {Q : Option AV → Mem → Prop} {l1 : Int} (k : S_X8_qPartTold sc d 2 [aR 62, aI l1, aU, aU, aU, aU] [] m Q) : S_X8_qPartTold sc d 178 [aR 62, aI l1, aU, aU, aU, aU] [] m Q := by
  refine x_goto (tgt := 183) dX8_qPartTold_178 (by decide) ?_
  refine x_goto (tgt := 2) dX8_qPartTold_183 (by decide) ?_
  exact k
set_option maxRecDepth 4000 in
theorem g_X8_qPartTold_201 {sc : List Int} {d : Nat} {m : Mem} {Q : Option AV → Mem → Prop} {s0 : Int} (k : (-2147483648 ≤ s0 ∧ s0 < 2147483648) ∧ ((s0 = (-1)) → (S_X8_qPartTold sc d 212 [aR 62, aU, aI s0, aU, aU, aU] [] m Q)) ∧ (¬ (s0 = (-1)) → (S_X8_qPartTold sc d 209 [aR 62, aU, aI s0, aU, aU, aU] [aI s0, aR 62] m Q))) : S_X8_qPartTold sc d 201 [aR 62, aU, aU, aU, aU, aU] [aI s0] m Q := by
  refine x_istore_n (pc2 := 202) (ls2 := [aR 62, aU, aI s0, aU, aU, aU]) dX8_qPartTold_201 rfl (by decide) rfl ?_
  refine x_iload_n (pc2 := 203) dX8_qPartTold_202 rfl rfl ?_
  refine x_iconst (pc2 := 204) dX8_qPartTold_203 rfl ?_
  obtain ⟨h1, k⟩ := k
  obtain ⟨k1, k2⟩ := k
  refine x_icmp_eq (tgt := 212) (pc2 := 207) dX8_qPartTold_204 (by decide) rfl h1 (by decide) (fun c2 => ?_) (fun c2 => ?_)
  · replace k := k1 c2
    exact k
  · replace k := k2 c2
    refine x_aload_n (pc2 := 208) dX8_qPartTold_207 rfl rfl ?_
    refine x_iload_n (pc2 := 209) dX8_qPartTold_208 rfl rfl ?_
    exact k
set_option maxRecDepth 4000 in
theorem g_X8_qPartTold_212 {sc : List Int} {d : Nat} {m : Mem} {Q : Option AV → Mem → Prop} {l2 : Int} (k : (-2147483648 ≤ l2 ∧ l2 < 2147483648) ∧ ((l2 = (-1)) → (S_X8_qPartTold sc d 233 [aR 62, aU, aU, aU, aU, aU] [aI 9999, aI 0, aR 62, aI 1000, aR 62] m Q)) ∧ (¬ (l2 = (-1)) → (S_X8_qPartTold sc d 237 [aR 62, aU, aU, aU, aU, aU] [aI (40 + l2), aR 62] m Q))) : S_X8_qPartTold sc d 212 [aR 62, aU, aI l2, aU, aU, aU] [] m Q := by
  refine x_aload_n (pc2 := 213) dX8_qPartTold_212 rfl rfl ?_
  refine x_iload_n (pc2 := 214) dX8_qPartTold_213 rfl rfl ?_
  refine x_iconst (pc2 := 215) dX8_qPartTold_214 rfl ?_
  obtain ⟨h1, k⟩ := k
  obtain ⟨k1, k2⟩ := k
  refine x_icmp_eq (tgt := 225) (pc2 := 218) dX8_qPartTold_215 (by decide) rfl h1 (by decide) (fun c2 => ?_) (fun c2 => ?_)
  · replace k := k1 c2
    refine x_sipush (pc2 := 228) dX8_qPartTold_225 rfl rfl ?_
    refine x_aload_n (pc2 := 229) dX8_qPartTold_228 rfl rfl ?_
    refine x_iconst (pc2 := 230) dX8_qPartTold_229 rfl ?_
    refine x_sipush (pc2 := 233) dX8_qPartTold_230 rfl rfl ?_
    exact x_drop (drp_k (drp_k (drp_u (drp_k (drp_k (drp_k drp_n)))))) k
  · replace k := k2 c2
    refine x_bipush (pc2 := 220) dX8_qPartTold_218 rfl rfl ?_
    refine x_iload_n (pc2 := 221) dX8_qPartTold_220 rfl rfl ?_
    refine x_iadd (pc2 := 222) dX8_qPartTold_221 rfl ?_
    refine x_goto (tgt := 237) dX8_qPartTold_222 (by decide) ?_
    exact x_drop (drp_k (drp_k (drp_u (drp_k (drp_k (drp_k drp_n)))))) k
set_option maxRecDepth 4000 in
theorem g_X8_qPartTold_236 {sc : List Int} {d : Nat} {m : Mem} {Q : Option AV → Mem → Prop} {s1 s2 : Int} (k : S_X8_qPartTold sc d 237 [aR 62, aU, aU, aU, aU, aU] [aI (s1 + s2), aR 62] m Q) : S_X8_qPartTold sc d 236 [aR 62, aU, aU, aU, aU, aU] [aI s2, aI s1, aR 62] m Q := by
  refine x_iadd (pc2 := 237) dX8_qPartTold_236 rfl ?_
  exact k
set_option maxRecDepth 4000 in
theorem g_X8_qPartTold_240 {sc : List Int} {d : Nat} {m : Mem} {Q : Option AV → Mem → Prop} (k : S_X8_qPartTold sc d 241 [aR 62, aU, aU, aU, aU, aU] [aR 62] m Q) : S_X8_qPartTold sc d 240 [aR 62, aU, aU, aU, aU, aU] [] m Q := by
  refine x_aload_n (pc2 := 241) dX8_qPartTold_240 rfl rfl ?_
  exact k
set_option maxRecDepth 4000 in
theorem g_X8_qPartTold_244 {sc : List Int} {d : Nat} {m : Mem} {Q : Option AV → Mem → Prop} (k : Q none m) : S_X8_qPartTold sc d 244 [aR 62, aU, aU, aU, aU, aU] [] m Q := by
  exact x_return dX8_qPartTold_244 rfl k
theorem c_X8_qPartTold_14 {sc : List Int} {d d2 : Nat} {m m2 : Mem} {Q : Option AV → Mem → Prop} {l1 : Int} {v : Int} (hM : C_X8_look sc d2 [aR 62] m (some (aI v)) m2) (hd : d2 + 1 ≤ d) (k : S_X8_qPartTold sc d 17 [aR 62, aI l1, aU, aU, aU, aU] [aI v] m2 Q) : S_X8_qPartTold sc d 14 [aR 62, aI l1, aU, aU, aU, aU] [aR 62] m Q := x_callV (as := []) (rest := []) hM mk_X8_look mv_X8_look lk_X8_302 (Or.inl ⟨8, (RX8, TX8, 123), ic_62, Nat.le_of_ble_eq_true rfl, rfl, rfl⟩) hd rfl rfl (Nat.le_of_ble_eq_true rfl) dX8_qPartTold_14 rfl k
theorem c_X8_qPartTold_23 {sc : List Int} {d d2 : Nat} {m m2 : Mem} {Q : Option AV → Mem → Prop} {l1 l2 s1 s2 : Int} {v : Int} (hM : C_X8_qWordOf sc d2 [aR 62, aI s1, aI s2] m (some (aI v)) m2) (hd : d2 + 1 ≤ d) (k : S_X8_qPartTold sc d 26 [aR 62, aI l1, aI l2, aU, aU, aU] [aI v] m2 Q) : S_X8_qPartTold sc d 23 [aR 62, aI l1, aI l2, aU, aU, aU] [aI s2, aI s1, aR 62] m Q := x_callV (as := [aI s1, aI s2]) (rest := []) hM mk_X8_qWordOf mv_X8_qWordOf lk_X8_646 (Or.inl ⟨8, (RX8, TX8, 123), ic_62, Nat.le_of_ble_eq_true rfl, rfl, rfl⟩) hd rfl rfl (Nat.le_of_ble_eq_true rfl) dX8_qPartTold_23 rfl k
theorem c_X8_qPartTold_40 {sc : List Int} {d d2 : Nat} {m m2 : Mem} {Q : Option AV → Mem → Prop} {l1 s1 s2 : Int} (hM : C_X8_qOpens sc d2 [aR 62, aI s1, aI s2] m none m2) (hd : d2 + 1 ≤ d) (k : S_X8_qPartTold sc d 43 [aR 62, aI l1, aU, aU, aU, aU] [] m2 Q) : S_X8_qPartTold sc d 40 [aR 62, aI l1, aU, aU, aU, aU] [aI s2, aI s1, aR 62] m Q := x_callV (as := [aI s1, aI s2]) (rest := []) hM mk_X8_qOpens mv_X8_qOpens lk_X8_649 (Or.inl ⟨8, (RX8, TX8, 123), ic_62, Nat.le_of_ble_eq_true rfl, rfl, rfl⟩) hd rfl rfl (Nat.le_of_ble_eq_true rfl) dX8_qPartTold_40 rfl k
theorem c_X8_qPartTold_61 {sc : List Int} {d d2 : Nat} {m m2 : Mem} {Q : Option AV → Mem → Prop} {l1 l3 s1 : Int} {v : Int} (Hs1 : IsC s1 102) (hM : C_X8_isHere sc d2 [aR 62, aR s1] m (some (aI v)) m2) (hd : d2 + 1 ≤ d) (k : S_X8_qPartTold sc d 64 [aR 62, aI l1, aU, aI l3, aU, aU] [aI v] m2 Q) : S_X8_qPartTold sc d 61 [aR 62, aI l1, aU, aI l3, aU, aU] [aR s1, aR 62] m Q := x_callV (as := [aR s1]) (rest := []) hM mk_X8_isHere mv_X8_isHere lk_X8_313 (Or.inl ⟨8, (RX8, TX8, 123), ic_62, Nat.le_of_ble_eq_true rfl, rfl, rfl⟩) hd rfl rfl (Nat.le_of_ble_eq_true rfl) dX8_qPartTold_61 rfl k
theorem c_X8_qPartTold_72 {sc : List Int} {d d2 : Nat} {m m2 : Mem} {Q : Option AV → Mem → Prop} {l1 l3 s1 : Int} {v : Int} (Hs1 : IsC s1 102) (hM : C_X8_isHere sc d2 [aR 62, aR s1] m (some (aI v)) m2) (hd : d2 + 1 ≤ d) (k : S_X8_qPartTold sc d 75 [aR 62, aI l1, aU, aI l3, aU, aU] [aI v] m2 Q) : S_X8_qPartTold sc d 72 [aR 62, aI l1, aU, aI l3, aU, aU] [aR s1, aR 62] m Q := x_callV (as := [aR s1]) (rest := []) hM mk_X8_isHere mv_X8_isHere lk_X8_313 (Or.inl ⟨8, (RX8, TX8, 123), ic_62, Nat.le_of_ble_eq_true rfl, rfl, rfl⟩) hd rfl rfl (Nat.le_of_ble_eq_true rfl) dX8_qPartTold_72 rfl k
theorem c_X8_qPartTold_83 {sc : List Int} {d d2 : Nat} {m m2 : Mem} {Q : Option AV → Mem → Prop} {l1 s1 : Int} {v : Int} (Hs1 : IsC s1 102) (hM : C_X8_takes sc d2 [aR 62, aR s1] m (some (aI v)) m2) (hd : d2 + 1 ≤ d) (k : S_X8_qPartTold sc d 86 [aR 62, aI l1, aU, aU, aU, aU] [aI v] m2 Q) : S_X8_qPartTold sc d 83 [aR 62, aI l1, aU, aU, aU, aU] [aR s1, aR 62] m Q := x_callV (as := [aR s1]) (rest := []) hM mk_X8_takes mv_X8_takes lk_X8_317 (Or.inl ⟨8, (RX8, TX8, 123), ic_62, Nat.le_of_ble_eq_true rfl, rfl, rfl⟩) hd rfl rfl (Nat.le_of_ble_eq_true rfl) dX8_qPartTold_83 rfl k
theorem c_X8_qPartTold_98 {sc : List Int} {d d2 : Nat} {m m2 : Mem} {Q : Option AV → Mem → Prop} {l1 l4 s1 : Int} (Hs1 : IsC s1 102) (hM : C_X8_asks sc d2 [aR 62, aR s1] m none m2) (hd : d2 + 1 ≤ d) (k : S_X8_qPartTold sc d 101 [aR 62, aI l1, aU, aU, aI l4, aU] [] m2 Q) : S_X8_qPartTold sc d 98 [aR 62, aI l1, aU, aU, aI l4, aU] [aR s1, aR 62] m Q := x_callV (as := [aR s1]) (rest := []) hM mk_X8_asks mv_X8_asks lk_X8_356 (Or.inl ⟨8, (RX8, TX8, 123), ic_62, Nat.le_of_ble_eq_true rfl, rfl, rfl⟩) hd rfl rfl (Nat.le_of_ble_eq_true rfl) dX8_qPartTold_98 rfl k
theorem c_X8_qPartTold_102 {sc : List Int} {d d2 : Nat} {m m2 : Mem} {Q : Option AV → Mem → Prop} {l1 l4 : Int} {v : Int} (hM : C_X8_look sc d2 [aR 62] m (some (aI v)) m2) (hd : d2 + 1 ≤ d) (k : S_X8_qPartTold sc d 105 [aR 62, aI l1, aU, aU, aI l4, aU] [aI v] m2 Q) : S_X8_qPartTold sc d 102 [aR 62, aI l1, aU, aU, aI l4, aU] [aR 62] m Q := x_callV (as := []) (rest := []) hM mk_X8_look mv_X8_look lk_X8_302 (Or.inl ⟨8, (RX8, TX8, 123), ic_62, Nat.le_of_ble_eq_true rfl, rfl, rfl⟩) hd rfl rfl (Nat.le_of_ble_eq_true rfl) dX8_qPartTold_102 rfl k
theorem c_X8_qPartTold_141 {sc : List Int} {d d2 : Nat} {m m2 : Mem} {Q : Option AV → Mem → Prop} {l1 s1 s2 : Int} (hM : C_X8_qOpens sc d2 [aR 62, aI s1, aI s2] m none m2) (hd : d2 + 1 ≤ d) (k : S_X8_qPartTold sc d 144 [aR 62, aI l1, aU, aU, aU, aU] [] m2 Q) : S_X8_qPartTold sc d 141 [aR 62, aI l1, aU, aU, aU, aU] [aI s2, aI s1, aR 62] m Q := x_callV (as := [aI s1, aI s2]) (rest := []) hM mk_X8_qOpens mv_X8_qOpens lk_X8_649 (Or.inl ⟨8, (RX8, TX8, 123), ic_62, Nat.le_of_ble_eq_true rfl, rfl, rfl⟩) hd rfl rfl (Nat.le_of_ble_eq_true rfl) dX8_qPartTold_141 rfl k
theorem c_X8_qPartTold_147 {sc : List Int} {d d2 : Nat} {m m2 : Mem} {Q : Option AV → Mem → Prop} {l1 s1 : Int} (hM : C_X8_asksSign sc d2 [aR 62, aI s1] m none m2) (hd : d2 + 1 ≤ d) (k : S_X8_qPartTold sc d 150 [aR 62, aI l1, aU, aU, aU, aU] [] m2 Q) : S_X8_qPartTold sc d 147 [aR 62, aI l1, aU, aU, aU, aU] [aI s1, aR 62] m Q := x_callV (as := [aI s1]) (rest := []) hM mk_X8_asksSign mv_X8_asksSign lk_X8_373 (Or.inl ⟨8, (RX8, TX8, 123), ic_62, Nat.le_of_ble_eq_true rfl, rfl, rfl⟩) hd rfl rfl (Nat.le_of_ble_eq_true rfl) dX8_qPartTold_147 rfl k
theorem c_X8_qPartTold_170 {sc : List Int} {d d2 : Nat} {m m2 : Mem} {Q : Option AV → Mem → Prop} {l1 l3 s1 s2 : Int} (hM : C_X8_qOpens sc d2 [aR 62, aI s1, aI s2] m none m2) (hd : d2 + 1 ≤ d) (k : S_X8_qPartTold sc d 173 [aR 62, aI l1, aU, aI l3, aU, aU] [] m2 Q) : S_X8_qPartTold sc d 170 [aR 62, aI l1, aU, aI l3, aU, aU] [aI s2, aI s1, aR 62] m Q := x_callV (as := [aI s1, aI s2]) (rest := []) hM mk_X8_qOpens mv_X8_qOpens lk_X8_649 (Or.inl ⟨8, (RX8, TX8, 123), ic_62, Nat.le_of_ble_eq_true rfl, rfl, rfl⟩) hd rfl rfl (Nat.le_of_ble_eq_true rfl) dX8_qPartTold_170 rfl k
theorem c_X8_qPartTold_175 {sc : List Int} {d d2 : Nat} {m m2 : Mem} {Q : Option AV → Mem → Prop} {l1 s1 : Int} (hM : C_X8_qAsksWord sc d2 [aR 62, aI s1] m none m2) (hd : d2 + 1 ≤ d) (k : S_X8_qPartTold sc d 178 [aR 62, aI l1, aU, aU, aU, aU] [] m2 Q) : S_X8_qPartTold sc d 175 [aR 62, aI l1, aU, aU, aU, aU] [aI s1, aR 62] m Q := x_callV (as := [aI s1]) (rest := []) hM mk_X8_qAsksWord mv_X8_qAsksWord lk_X8_652 (Or.inl ⟨8, (RX8, TX8, 123), ic_62, Nat.le_of_ble_eq_true rfl, rfl, rfl⟩) hd rfl rfl (Nat.le_of_ble_eq_true rfl) dX8_qPartTold_175 rfl k
theorem c_X8_qPartTold_198 {sc : List Int} {d d2 : Nat} {m m2 : Mem} {Q : Option AV → Mem → Prop} {s1 s2 : Int} {v : Int} (hM : C_X8_qWordOf sc d2 [aR 62, aI s1, aI s2] m (some (aI v)) m2) (hd : d2 + 1 ≤ d) (k : S_X8_qPartTold sc d 201 [aR 62, aU, aU, aU, aU, aU] [aI v] m2 Q) : S_X8_qPartTold sc d 198 [aR 62, aU, aU, aU, aU, aU] [aI s2, aI s1, aR 62] m Q := x_callV (as := [aI s1, aI s2]) (rest := []) hM mk_X8_qWordOf mv_X8_qWordOf lk_X8_646 (Or.inl ⟨8, (RX8, TX8, 123), ic_62, Nat.le_of_ble_eq_true rfl, rfl, rfl⟩) hd rfl rfl (Nat.le_of_ble_eq_true rfl) dX8_qPartTold_198 rfl k
theorem c_X8_qPartTold_209 {sc : List Int} {d d2 : Nat} {m m2 : Mem} {Q : Option AV → Mem → Prop} {l2 s1 : Int} (hM : C_X8_qAsksWord sc d2 [aR 62, aI s1] m none m2) (hd : d2 + 1 ≤ d) (k : S_X8_qPartTold sc d 212 [aR 62, aU, aI l2, aU, aU, aU] [] m2 Q) : S_X8_qPartTold sc d 209 [aR 62, aU, aI l2, aU, aU, aU] [aI s1, aR 62] m Q := x_callV (as := [aI s1]) (rest := []) hM mk_X8_qAsksWord mv_X8_qAsksWord lk_X8_652 (Or.inl ⟨8, (RX8, TX8, 123), ic_62, Nat.le_of_ble_eq_true rfl, rfl, rfl⟩) hd rfl rfl (Nat.le_of_ble_eq_true rfl) dX8_qPartTold_209 rfl k
theorem c_X8_qPartTold_233 {sc : List Int} {d d2 : Nat} {m m2 : Mem} {Q : Option AV → Mem → Prop} {s1 s3 s4 : Int} {v : Int} (hM : C_X8_number sc d2 [aR 62, aI s3, aI s4] m (some (aI v)) m2) (hd : d2 + 1 ≤ d) (k : S_X8_qPartTold sc d 236 [aR 62, aU, aU, aU, aU, aU] [aI v, aI s1, aR 62] m2 Q) : S_X8_qPartTold sc d 233 [aR 62, aU, aU, aU, aU, aU] [aI s4, aI s3, aR 62, aI s1, aR 62] m Q := x_callV (as := [aI s3, aI s4]) (rest := [aI s1, aR 62]) hM mk_X8_number mv_X8_number lk_X8_360 (Or.inl ⟨8, (RX8, TX8, 123), ic_62, Nat.le_of_ble_eq_true rfl, rfl, rfl⟩) hd rfl rfl (Nat.le_of_ble_eq_true rfl) dX8_qPartTold_233 rfl k
theorem c_X8_qPartTold_237 {sc : List Int} {d d2 : Nat} {m m2 : Mem} {Q : Option AV → Mem → Prop} {s1 : Int} (hM : C_X8_qCode sc d2 [aR 62, aI s1] m none m2) (hd : d2 + 1 ≤ d) (k : S_X8_qPartTold sc d 240 [aR 62, aU, aU, aU, aU, aU] [] m2 Q) : S_X8_qPartTold sc d 237 [aR 62, aU, aU, aU, aU, aU] [aI s1, aR 62] m Q := x_callV (as := [aI s1]) (rest := []) hM mk_X8_qCode mv_X8_qCode lk_X8_631 (Or.inl ⟨8, (RX8, TX8, 123), ic_62, Nat.le_of_ble_eq_true rfl, rfl, rfl⟩) hd rfl rfl (Nat.le_of_ble_eq_true rfl) dX8_qPartTold_237 rfl k
theorem c_X8_qPartTold_241 {sc : List Int} {d d2 : Nat} {m m2 : Mem} {Q : Option AV → Mem → Prop} (hM : C_X8_qEndsPart sc d2 [aR 62] m none m2) (hd : d2 + 1 ≤ d) (k : S_X8_qPartTold sc d 244 [aR 62, aU, aU, aU, aU, aU] [] m2 Q) : S_X8_qPartTold sc d 241 [aR 62, aU, aU, aU, aU, aU] [aR 62] m Q := x_callV (as := []) (rest := []) hM mk_X8_qEndsPart mv_X8_qEndsPart lk_X8_655 (Or.inl ⟨8, (RX8, TX8, 123), ic_62, Nat.le_of_ble_eq_true rfl, rfl, rfl⟩) hd rfl rfl (Nat.le_of_ble_eq_true rfl) dX8_qPartTold_241 rfl k
set_option maxRecDepth 4000 in
theorem g_X8_qGoesOn_0 {sc : List Int} {d : Nat} {m : Mem} {Q : Option AV → Mem → Prop} (k : (-2147483648 ≤ (m 62 5) ∧ (m 62 5) < 2147483648) ∧ (((m 62 5) ≠ 0) → (S_X8_qGoesOn sc d 125 [aR 62, aU] [aI 42, aR 62] m Q)) ∧ (¬ ((m 62 5) ≠ 0) → (S_X8_qGoesOn sc d 8 [aR 62, aU] [aR 62] m Q))) : S_X8_qGoesOn sc d 0 [aR 62, aU] [] m Q := by
  refine x_aload_n (pc2 := 1) dX8_qGoesOn_0 rfl rfl ?_
  refine x_getf (pc2 := 4) (v := aI (m 62 5)) fl_X8_290 ic_62 (fv_i _ ic_62 rfl) dX8_qGoesOn_1 rfl ?_
  obtain ⟨h1, k⟩ := k
  obtain ⟨k1, k2⟩ := k
  refine x_if_ne (tgt := 122) (pc2 := 7) dX8_qGoesOn_4 (by decide) rfl h1 (fun c2 => ?_) (fun c2 => ?_)
  · replace k := k1 c2
    refine x_aload_n (pc2 := 123) dX8_qGoesOn_122 rfl rfl ?_
    refine x_bipush (pc2 := 125) dX8_qGoesOn_123 rfl rfl ?_
    exact k
  · replace k := k2 c2
    refine x_aload_n (pc2 := 8) dX8_qGoesOn_7 rfl rfl ?_
    exact k
set_option maxRecDepth 4000 in
theorem g_X8_qGoesOn_11 {sc : List Int} {d : Nat} {m : Mem} {Q : Option AV → Mem → Prop} {s0 : Int} (k : (-2147483648 ≤ s0 ∧ s0 < 2147483648) ∧ ((s0 ≠ 41) → (S_X8_qGoesOn sc d 125 [aR 62, aU] [aI 42, aR 62] m Q)) ∧ (¬ (s0 ≠ 41) → (S_X8_qGoesOn sc d 17 [aR 62, aU] [aR 62] m Q))) : S_X8_qGoesOn sc d 11 [aR 62, aU] [aI s0] m Q := by
  refine x_bipush (pc2 := 13) dX8_qGoesOn_11 rfl rfl ?_
  obtain ⟨h1, k⟩ := k
  obtain ⟨k1, k2⟩ := k
  refine x_icmp_ne (tgt := 122) (pc2 := 16) dX8_qGoesOn_13 (by decide) rfl h1 (by decide) (fun c2 => ?_) (fun c2 => ?_)
  · replace k := k1 c2
    refine x_aload_n (pc2 := 123) dX8_qGoesOn_122 rfl rfl ?_
    refine x_bipush (pc2 := 125) dX8_qGoesOn_123 rfl rfl ?_
    exact k
  · replace k := k2 c2
    refine x_aload_n (pc2 := 17) dX8_qGoesOn_16 rfl rfl ?_
    exact k
set_option maxRecDepth 4000 in
theorem g_X8_qGoesOn_20 {sc : List Int} {d : Nat} {m : Mem} {Q : Option AV → Mem → Prop} {s0 : Int} (k : (-2147483648 ≤ s0 ∧ s0 < 2147483648) ∧ ((s0 = 20) → (S_X8_qGoesOn sc d 54 [aR 62, aU] [aR 62] (wr m 62 2 ((m 62 2) + 1)) Q)) ∧ (¬ (s0 = 20) → (S_X8_qGoesOn sc d 26 [aR 62, aU] [aR 62] m Q))) : S_X8_qGoesOn sc d 20 [aR 62, aU] [aI s0] m Q := by
  refine x_bipush (pc2 := 22) dX8_qGoesOn_20 rfl rfl ?_
  obtain ⟨h1, k⟩ := k
  obtain ⟨k1, k2⟩ := k
  refine x_icmp_eq (tgt := 43) (pc2 := 25) dX8_qGoesOn_22 (by decide) rfl h1 (by decide) (fun c2 => ?_) (fun c2 => ?_)
  · replace k := k1 c2
    refine x_aload_n (pc2 := 44) dX8_qGoesOn_43 rfl rfl ?_
    refine x_dup_r (pc2 := 45) dX8_qGoesOn_44 rfl (by decide) ?_
    refine x_getf (pc2 := 48) (v := aI (m 62 2)) fl_X8_296 ic_62 (fv_i _ ic_62 rfl) dX8_qGoesOn_45 rfl ?_
    refine x_iconst (pc2 := 49) dX8_qGoesOn_48 rfl ?_
    refine x_iadd (pc2 := 50) dX8_qGoesOn_49 rfl ?_
    refine x_putf (pc2 := 53) (x := ((m 62 2) + 1)) fl_X8_296 ft_8_2 ic_62 (pv_i _ ic_62 rfl) (pn_i _) dX8_qGoesOn_50 rfl ?_
    refine x_aload_n (pc2 := 54) dX8_qGoesOn_53 rfl rfl ?_
    exact k
  · replace k := k2 c2
    refine x_aload_n (pc2 := 26) dX8_qGoesOn_25 rfl rfl ?_
    exact k
set_option maxRecDepth 4000 in
theorem g_X8_qGoesOn_29 {sc : List Int} {d : Nat} {m : Mem} {Q : Option AV → Mem → Prop} {s0 : Int} (k : (-2147483648 ≤ s0 ∧ s0 < 2147483648) ∧ ((s0 = 23) → (S_X8_qGoesOn sc d 54 [aR 62, aU] [aR 62] (wr m 62 2 ((m 62 2) + 1)) Q)) ∧ (¬ (s0 = 23) → (S_X8_qGoesOn sc d 35 [aR 62, aU] [aR 62] m Q))) : S_X8_qGoesOn sc d 29 [aR 62, aU] [aI s0] m Q := by
  refine x_bipush (pc2 := 31) dX8_qGoesOn_29 rfl rfl ?_
  obtain ⟨h1, k⟩ := k
  obtain ⟨k1, k2⟩ := k
  refine x_icmp_eq (tgt := 43) (pc2 := 34) dX8_qGoesOn_31 (by decide) rfl h1 (by decide) (fun c2 => ?_) (fun c2 => ?_)
  · replace k := k1 c2
    refine x_aload_n (pc2 := 44) dX8_qGoesOn_43 rfl rfl ?_
    refine x_dup_r (pc2 := 45) dX8_qGoesOn_44 rfl (by decide) ?_
    refine x_getf (pc2 := 48) (v := aI (m 62 2)) fl_X8_296 ic_62 (fv_i _ ic_62 rfl) dX8_qGoesOn_45 rfl ?_
    refine x_iconst (pc2 := 49) dX8_qGoesOn_48 rfl ?_
    refine x_iadd (pc2 := 50) dX8_qGoesOn_49 rfl ?_
    refine x_putf (pc2 := 53) (x := ((m 62 2) + 1)) fl_X8_296 ft_8_2 ic_62 (pv_i _ ic_62 rfl) (pn_i _) dX8_qGoesOn_50 rfl ?_
    refine x_aload_n (pc2 := 54) dX8_qGoesOn_53 rfl rfl ?_
    exact k
  · replace k := k2 c2
    refine x_aload_n (pc2 := 35) dX8_qGoesOn_34 rfl rfl ?_
    exact k
set_option maxRecDepth 4000 in
theorem g_X8_qGoesOn_38 {sc : List Int} {d : Nat} {m : Mem} {Q : Option AV → Mem → Prop} {s0 : Int} (k : (-2147483648 ≤ s0 ∧ s0 < 2147483648) ∧ ((s0 ≠ 24) → (S_X8_qGoesOn sc d 125 [aR 62, aU] [aI 42, aR 62] m Q)) ∧ (¬ (s0 ≠ 24) → (S_X8_qGoesOn sc d 54 [aR 62, aU] [aR 62] (wr m 62 2 ((m 62 2) + 1)) Q))) : S_X8_qGoesOn sc d 38 [aR 62, aU] [aI s0] m Q := by
  refine x_bipush (pc2 := 40) dX8_qGoesOn_38 rfl rfl ?_
  obtain ⟨h1, k⟩ := k
  obtain ⟨k1, k2⟩ := k
  refine x_icmp_ne (tgt := 122) (pc2 := 43) dX8_qGoesOn_40 (by decide) rfl h1 (by decide) (fun c2 => ?_) (fun c2 => ?_)
  · replace k := k1 c2
    refine x_aload_n (pc2 := 123) dX8_qGoesOn_122 rfl rfl ?_
    refine x_bipush (pc2 := 125) dX8_qGoesOn_123 rfl rfl ?_
    exact k
  · replace k := k2 c2
    refine x_aload_n (pc2 := 44) dX8_qGoesOn_43 rfl rfl ?_
    refine x_dup_r (pc2 := 45) dX8_qGoesOn_44 rfl (by decide) ?_
    refine x_getf (pc2 := 48) (v := aI (m 62 2)) fl_X8_296 ic_62 (fv_i _ ic_62 rfl) dX8_qGoesOn_45 rfl ?_
    refine x_iconst (pc2 := 49) dX8_qGoesOn_48 rfl ?_
    refine x_iadd (pc2 := 50) dX8_qGoesOn_49 rfl ?_
    refine x_putf (pc2 := 53) (x := ((m 62 2) + 1)) fl_X8_296 ft_8_2 ic_62 (pv_i _ ic_62 rfl) (pn_i _) dX8_qGoesOn_50 rfl ?_
    refine x_aload_n (pc2 := 54) dX8_qGoesOn_53 rfl rfl ?_
    exact k
set_option maxRecDepth 4000 in
theorem g_X8_qGoesOn_57 {sc : List Int} {d : Nat} {m : Mem} {Q : Option AV → Mem → Prop} (k : (0 ≤ ((wr (wr m 62 114 ((m 62 114) - 1)) 62 115 (((wr m 62 114 ((m 62 114) - 1)) 62 115) - 1)) 62 114)) ∧ (((wr (wr m 62 114 ((m 62 114) - 1)) 62 115 (((wr m 62 114 ((m 62 114) - 1)) 62 115) - 1)) 62 114) < 1700) ∧ (-2147483648 ≤ ((wr (wr m 62 114 ((m 62 114) - 1)) 62 115 (((wr m 62 114 ((m 62 114) - 1)) 62 115) - 1)) 149 ((wr (wr m 62 114 ((m 62 114) - 1)) 62 115 (((wr m 62 114 ((m 62 114) - 1)) 62 115) - 1)) 62 114)) ∧ ((wr (wr m 62 114 ((m 62 114) - 1)) 62 115 (((wr m 62 114 ((m 62 114) - 1)) 62 115) - 1)) 149 ((wr (wr m 62 114 ((m 62 114) - 1)) 62 115 (((wr m 62 114 ((m 62 114) - 1)) 62 115) - 1)) 62 114)) < 2147483648) ∧ ((((wr (wr m 62 114 ((m 62 114) - 1)) 62 115 (((wr m 62 114 ((m 62 114) - 1)) 62 115) - 1)) 149 ((wr (wr m 62 114 ((m 62 114) - 1)) 62 115 (((wr m 62 114 ((m 62 114) - 1)) 62 115) - 1)) 62 114)) = 20) → (S_X8_qGoesOn sc d 115 [aR 62, aU] [] (wr (wr m 62 114 ((m 62 114) - 1)) 62 115 (((wr m 62 114 ((m 62 114) - 1)) 62 115) - 1)) Q)) ∧ (¬ (((wr (wr m 62 114 ((m 62 114) - 1)) 62 115 (((wr m 62 114 ((m 62 114) - 1)) 62 115) - 1)) 149 ((wr (wr m 62 114 ((m 62 114) - 1)) 62 115 (((wr m 62 114 ((m 62 114) - 1)) 62 115) - 1)) 62 114)) = 20) → (S_X8_qGoesOn sc d 112 [aR 62, aU] [aI (if ((wr (wr m 62 114 ((m 62 114) - 1)) 62 115 (((wr m 62 114 ((m 62 114) - 1)) 62 115) - 1)) 149 ((wr (wr m 62 114 ((m 62 114) - 1)) 62 115 (((wr m 62 114 ((m 62 114) - 1)) 62 115) - 1)) 62 114)) ≠ 23 then 6 else 5 : Int), aR 62] (wr (wr m 62 114 ((m 62 114) - 1)) 62 115 (((wr m 62 114 ((m 62 114) - 1)) 62 115) - 1)) Q))) : S_X8_qGoesOn sc d 57 [aR 62, aU] [] m Q := by
  refine x_aload_n (pc2 := 58) dX8_qGoesOn_57 rfl rfl ?_
  refine x_dup_r (pc2 := 59) dX8_qGoesOn_58 rfl (by decide) ?_
  refine x_getf (pc2 := 62) (v := aI (m 62 114)) fl_X8_386 ic_62 (fv_i _ ic_62 rfl) dX8_qGoesOn_59 rfl ?_
  refine x_iconst (pc2 := 63) dX8_qGoesOn_62 rfl ?_
  refine x_isub (pc2 := 64) dX8_qGoesOn_63 rfl ?_
  refine x_putf (pc2 := 67) (x := ((m 62 114) - 1)) fl_X8_386 ft_8_114 ic_62 (pv_i _ ic_62 rfl) (pn_i _) dX8_qGoesOn_64 rfl ?_
  refine x_aload_n (pc2 := 68) dX8_qGoesOn_67 rfl rfl ?_
  refine x_dup_r (pc2 := 69) dX8_qGoesOn_68 rfl (by decide) ?_
  refine x_getf (pc2 := 72) (v := aI ((wr m 62 114 ((m 62 114) - 1)) 62 115)) fl_X8_389 ic_62 (fv_i _ ic_62 rfl) dX8_qGoesOn_69 rfl ?_
  refine x_iconst (pc2 := 73) dX8_qGoesOn_72 rfl ?_
  refine x_isub (pc2 := 74) dX8_qGoesOn_73 rfl ?_
  refine x_putf (pc2 := 77) (x := (((wr m 62 114 ((m 62 114) - 1)) 62 115) - 1)) fl_X8_389 ft_8_115 ic_62 (pv_i _ ic_62 rfl) (pn_i _) dX8_qGoesOn_74 rfl ?_
  refine x_aload_n (pc2 := 78) dX8_qGoesOn_77 rfl rfl ?_
  refine x_getf (pc2 := 81) (v := aR 149) fl_X8_278 ic_62 (vr_62_113 _) dX8_qGoesOn_78 rfl ?_
  refine x_aload_n (pc2 := 82) dX8_qGoesOn_81 rfl rfl ?_
  refine x_getf (pc2 := 85) (v := aI ((wr (wr m 62 114 ((m 62 114) - 1)) 62 115 (((wr m 62 114 ((m 62 114) - 1)) 62 115) - 1)) 62 114)) fl_X8_386 ic_62 (fv_i _ ic_62 rfl) dX8_qGoesOn_82 rfl ?_
  obtain ⟨h1, k⟩ := k
  obtain ⟨h2, k⟩ := k
  refine x_iald (pc2 := 86) ic_149 h1 (by rw [al_149]; exact h2) dX8_qGoesOn_85 rfl ?_
  refine x_bipush (pc2 := 88) dX8_qGoesOn_86 rfl rfl ?_
  obtain ⟨h3, k⟩ := k
  obtain ⟨k1, k2⟩ := k
  refine x_icmp_eq (tgt := 115) (pc2 := 91) dX8_qGoesOn_88 (by decide) rfl h3 (by decide) (fun c4 => ?_) (fun c4 => ?_)
  · replace k := k1 c4
    exact k
  · replace k := k2 c4
    refine x_aload_n (pc2 := 92) dX8_qGoesOn_91 rfl rfl ?_
    refine x_aload_n (pc2 := 93) dX8_qGoesOn_92 rfl rfl ?_
    refine x_getf (pc2 := 96) (v := aR 149) fl_X8_278 ic_62 (vr_62_113 _) dX8_qGoesOn_93 rfl ?_
    refine x_aload_n (pc2 := 97) dX8_qGoesOn_96 rfl rfl ?_
    refine x_getf (pc2 := 100) (v := aI ((wr (wr m 62 114 ((m 62 114) - 1)) 62 115 (((wr m 62 114 ((m 62 114) - 1)) 62 115) - 1)) 62 114)) fl_X8_386 ic_62 (fv_i _ ic_62 rfl) dX8_qGoesOn_97 rfl ?_
    refine x_iald (pc2 := 101) ic_149 h1 (by rw [al_149]; exact h2) dX8_qGoesOn_100 rfl ?_
    refine x_bipush (pc2 := 103) dX8_qGoesOn_101 rfl rfl ?_
    have kj : S_X8_qGoesOn sc d 112 [aR 62, aU] [aI (if ((wr (wr m 62 114 ((m 62 114) - 1)) 62 115 (((wr m 62 114 ((m 62 114) - 1)) 62 115) - 1)) 149 ((wr (wr m 62 114 ((m 62 114) - 1)) 62 115 (((wr m 62 114 ((m 62 114) - 1)) 62 115) - 1)) 62 114)) ≠ 23 then 6 else 5 : Int), aR 62] (wr (wr m 62 114 ((m 62 114) - 1)) 62 115 (((wr m 62 114 ((m 62 114) - 1)) 62 115) - 1)) Q := by
      exact k
    refine x_icmp_ne (tgt := 110) (pc2 := 106) dX8_qGoesOn_103 (by decide) rfl h3 (by decide) (fun c5 => ?_) (fun c5 => ?_)
    · skip
      refine x_bipush (pc2 := 112) dX8_qGoesOn_110 rfl rfl ?_
      exact x_topI (v := (if ((wr (wr m 62 114 ((m 62 114) - 1)) 62 115 (((wr m 62 114 ((m 62 114) - 1)) 62 115) - 1)) 149 ((wr (wr m 62 114 ((m 62 114) - 1)) 62 115 (((wr m 62 114 ((m 62 114) - 1)) 62 115) - 1)) 62 114)) ≠ 23 then 6 else 5 : Int)) (if_pos c5) kj
    · skip
      refine x_iconst (pc2 := 107) dX8_qGoesOn_106 rfl ?_
      refine x_goto (tgt := 112) dX8_qGoesOn_107 (by decide) ?_
      exact x_topI (v := (if ((wr (wr m 62 114 ((m 62 114) - 1)) 62 115 (((wr m 62 114 ((m 62 114) - 1)) 62 115) - 1)) 149 ((wr (wr m 62 114 ((m 62 114) - 1)) 62 115 (((wr m 62 114 ((m 62 114) - 1)) 62 115) - 1)) 62 114)) ≠ 23 then 6 else 5 : Int)) (if_neg c5) kj
set_option maxRecDepth 4000 in
theorem g_X8_qGoesOn_115 {sc : List Int} {d : Nat} {m : Mem} {Q : Option AV → Mem → Prop} (k : S_X8_qGoesOn sc d 116 [aR 62, aU] [aR 62] m Q) : S_X8_qGoesOn sc d 115 [aR 62, aU] [] m Q := by
  refine x_aload_n (pc2 := 116) dX8_qGoesOn_115 rfl rfl ?_
  exact k
set_option maxRecDepth 4000 in
theorem g_X8_qGoesOn_119 {sc : List Int} {d : Nat} {m : Mem} {Q : Option AV → Mem → Prop} (k : S_X8_qGoesOn sc d 0 [aR 62, aU] [] m Q) : S_X8_qGoesOn sc d 119 [aR 62, aU] [] m Q := by
  refine x_goto (tgt := 0) dX8_qGoesOn_119 (by decide) ?_
  exact k
set_option maxRecDepth 4000 in
theorem g_X8_qGoesOn_128 {sc : List Int} {d : Nat} {m : Mem} {Q : Option AV → Mem → Prop} {s0 : Int} (k : (-2147483648 ≤ s0 ∧ s0 < 2147483648) ∧ ((s0 ≠ 0) → ((0 ≤ ((m 62 2) - 1)) ∧ (((m 62 2) - 1) < 1600) ∧ ((-2147483648 ≤ (m 63 ((m 62 2) - 1)) ∧ (m 63 ((m 62 2) - 1)) < 2147483648)) ∧ S_X8_qGoesOn sc d 162 [aR 62, aI (if (m 63 ((m 62 2) - 1)) ≠ 42 then 4 else 3 : Int)] [] m Q)) ∧ (¬ (s0 ≠ 0) → (S_X8_qGoesOn sc d 134 [aR 62, aU] [aI 47, aR 62] m Q))) : S_X8_qGoesOn sc d 128 [aR 62, aU] [aI s0] m Q := by
  obtain ⟨h1, k⟩ := k
  obtain ⟨k1, k2⟩ := k
  refine x_if_ne (tgt := 140) (pc2 := 131) dX8_qGoesOn_128 (by decide) rfl h1 (fun c2 => ?_) (fun c2 => ?_)
  · replace k := k1 c2
    refine x_aload_n (pc2 := 141) dX8_qGoesOn_140 rfl rfl ?_
    refine x_getf (pc2 := 144) (v := aR 63) fl_X8_7 ic_62 (vr_62_0 _) dX8_qGoesOn_141 rfl ?_
    refine x_aload_n (pc2 := 145) dX8_qGoesOn_144 rfl rfl ?_
    refine x_getf (pc2 := 148) (v := aI (m 62 2)) fl_X8_296 ic_62 (fv_i _ ic_62 rfl) dX8_qGoesOn_145 rfl ?_
    refine x_iconst (pc2 := 149) dX8_qGoesOn_148 rfl ?_
    refine x_isub (pc2 := 150) dX8_qGoesOn_149 rfl ?_
    obtain ⟨h3, k⟩ := k
    obtain ⟨h4, k⟩ := k
    refine x_iald (pc2 := 151) ic_63 h3 (by rw [al_63]; exact h4) dX8_qGoesOn_150 rfl ?_
    refine x_bipush (pc2 := 153) dX8_qGoesOn_151 rfl rfl ?_
    obtain ⟨g6, k⟩ := k
    have kj : S_X8_qGoesOn sc d 161 [aR 62, aU] [aI (if (m 63 ((m 62 2) - 1)) ≠ 42 then 4 else 3 : Int)] m Q := by
      refine x_istore_n (pc2 := 162) (ls2 := [aR 62, aI (if (m 63 ((m 62 2) - 1)) ≠ 42 then 4 else 3 : Int)]) dX8_qGoesOn_161 rfl (by decide) rfl ?_
      exact k
    have h7 := g6 
    refine x_icmp_ne (tgt := 160) (pc2 := 156) dX8_qGoesOn_153 (by decide) rfl h7 (by decide) (fun c8 => ?_) (fun c8 => ?_)
    · skip
      refine x_iconst (pc2 := 161) dX8_qGoesOn_160 rfl ?_
      exact x_topI (v := (if (m 63 ((m 62 2) - 1)) ≠ 42 then 4 else 3 : Int)) (if_pos c8) kj
    · skip
      refine x_iconst (pc2 := 157) dX8_qGoesOn_156 rfl ?_
      refine x_goto (tgt := 161) dX8_qGoesOn_157 (by decide) ?_
      exact x_topI (v := (if (m 63 ((m 62 2) - 1)) ≠ 42 then 4 else 3 : Int)) (if_neg c8) kj
  · replace k := k2 c2
    refine x_aload_n (pc2 := 132) dX8_qGoesOn_131 rfl rfl ?_
    refine x_bipush (pc2 := 134) dX8_qGoesOn_132 rfl rfl ?_
    exact k
set_option maxRecDepth 4000 in
theorem g_X8_qGoesOn_137 {sc : List Int} {d : Nat} {m : Mem} {Q : Option AV → Mem → Prop} {s0 : Int} (k : (-2147483648 ≤ s0 ∧ s0 < 2147483648) ∧ ((s0 = 0) → (S_X8_qGoesOn sc d 210 [aR 62, aU] [aI 43, aR 62] m Q)) ∧ (¬ (s0 = 0) → ((0 ≤ ((m 62 2) - 1)) ∧ (((m 62 2) - 1) < 1600) ∧ ((-2147483648 ≤ (m 63 ((m 62 2) - 1)) ∧ (m 63 ((m 62 2) - 1)) < 2147483648)) ∧ S_X8_qGoesOn sc d 162 [aR 62, aI (if (m 63 ((m 62 2) - 1)) ≠ 42 then 4 else 3 : Int)] [] m Q))) : S_X8_qGoesOn sc d 137 [aR 62, aU] [aI s0] m Q := by
  obtain ⟨h1, k⟩ := k
  obtain ⟨k1, k2⟩ := k
  refine x_if_eq (tgt := 207) (pc2 := 140) dX8_qGoesOn_137 (by decide) rfl h1 (fun c2 => ?_) (fun c2 => ?_)
  · replace k := k1 c2
    refine x_aload_n (pc2 := 208) dX8_qGoesOn_207 rfl rfl ?_
    refine x_bipush (pc2 := 210) dX8_qGoesOn_208 rfl rfl ?_
    exact k
  · replace k := k2 c2
    refine x_aload_n (pc2 := 141) dX8_qGoesOn_140 rfl rfl ?_
    refine x_getf (pc2 := 144) (v := aR 63) fl_X8_7 ic_62 (vr_62_0 _) dX8_qGoesOn_141 rfl ?_
    refine x_aload_n (pc2 := 145) dX8_qGoesOn_144 rfl rfl ?_
    refine x_getf (pc2 := 148) (v := aI (m 62 2)) fl_X8_296 ic_62 (fv_i _ ic_62 rfl) dX8_qGoesOn_145 rfl ?_
    refine x_iconst (pc2 := 149) dX8_qGoesOn_148 rfl ?_
    refine x_isub (pc2 := 150) dX8_qGoesOn_149 rfl ?_
    obtain ⟨h3, k⟩ := k
    obtain ⟨h4, k⟩ := k
    refine x_iald (pc2 := 151) ic_63 h3 (by rw [al_63]; exact h4) dX8_qGoesOn_150 rfl ?_
    refine x_bipush (pc2 := 153) dX8_qGoesOn_151 rfl rfl ?_
    obtain ⟨g6, k⟩ := k
    have kj : S_X8_qGoesOn sc d 161 [aR 62, aU] [aI (if (m 63 ((m 62 2) - 1)) ≠ 42 then 4 else 3 : Int)] m Q := by
      refine x_istore_n (pc2 := 162) (ls2 := [aR 62, aI (if (m 63 ((m 62 2) - 1)) ≠ 42 then 4 else 3 : Int)]) dX8_qGoesOn_161 rfl (by decide) rfl ?_
      exact k
    have h7 := g6 
    refine x_icmp_ne (tgt := 160) (pc2 := 156) dX8_qGoesOn_153 (by decide) rfl h7 (by decide) (fun c8 => ?_) (fun c8 => ?_)
    · skip
      refine x_iconst (pc2 := 161) dX8_qGoesOn_160 rfl ?_
      exact x_topI (v := (if (m 63 ((m 62 2) - 1)) ≠ 42 then 4 else 3 : Int)) (if_pos c8) kj
    · skip
      refine x_iconst (pc2 := 157) dX8_qGoesOn_156 rfl ?_
      refine x_goto (tgt := 161) dX8_qGoesOn_157 (by decide) ?_
      exact x_topI (v := (if (m 63 ((m 62 2) - 1)) ≠ 42 then 4 else 3 : Int)) (if_neg c8) kj
set_option maxRecDepth 4000 in
theorem g_X8_qGoesOn_162 {sc : List Int} {d : Nat} {m : Mem} {Q : Option AV → Mem → Prop} {l1 : Int} (k : S_X8_qGoesOn sc d 164 [aR 62, aI l1] [aI 3, aR 62] m Q) : S_X8_qGoesOn sc d 162 [aR 62, aI l1] [] m Q := by
  refine x_aload_n (pc2 := 163) dX8_qGoesOn_162 rfl rfl ?_
  refine x_iconst (pc2 := 164) dX8_qGoesOn_163 rfl ?_
  exact k
set_option maxRecDepth 4000 in
theorem g_X8_qGoesOn_167 {sc : List Int} {d : Nat} {m : Mem} {Q : Option AV → Mem → Prop} {l1 s0 : Int} (k : (-2147483648 ≤ s0 ∧ s0 < 2147483648) ∧ ((s0 ≠ 0) → (S_X8_qGoesOn sc d 179 [aR 62, aI l1] [aR 62] m Q)) ∧ (¬ (s0 ≠ 0) → (S_X8_qGoesOn sc d 172 [aR 62, aI l1] [aI 4, aR 62] m Q))) : S_X8_qGoesOn sc d 167 [aR 62, aI l1] [aI s0] m Q := by
  obtain ⟨h1, k⟩ := k
  obtain ⟨k1, k2⟩ := k
  refine x_if_ne (tgt := 178) (pc2 := 170) dX8_qGoesOn_167 (by decide) rfl h1 (fun c2 => ?_) (fun c2 => ?_)
  · replace k := k1 c2
    refine x_aload_n (pc2 := 179) dX8_qGoesOn_178 rfl rfl ?_
    exact k
  · replace k := k2 c2
    refine x_aload_n (pc2 := 171) dX8_qGoesOn_170 rfl rfl ?_
    refine x_iconst (pc2 := 172) dX8_qGoesOn_171 rfl ?_
    exact k
set_option maxRecDepth 4000 in
theorem g_X8_qGoesOn_175 {sc : List Int} {d : Nat} {m : Mem} {Q : Option AV → Mem → Prop} {l1 s0 : Int} (k : (-2147483648 ≤ s0 ∧ s0 < 2147483648) ∧ ((s0 = 0) → ((0 ≤ (m 62 114)) ∧ ((m 62 114) < 1700) ∧ Q (some (aI 1)) (wr (wr m 149 (m 62 114) l1) 62 114 (((wr m 149 (m 62 114) l1) 62 114) + 1)))) ∧ (¬ (s0 = 0) → (S_X8_qGoesOn sc d 179 [aR 62, aI l1] [aR 62] m Q))) : S_X8_qGoesOn sc d 175 [aR 62, aI l1] [aI s0] m Q := by
  obtain ⟨h1, k⟩ := k
  obtain ⟨k1, k2⟩ := k
  refine x_if_eq (tgt := 185) (pc2 := 178) dX8_qGoesOn_175 (by decide) rfl h1 (fun c2 => ?_) (fun c2 => ?_)
  · replace k := k1 c2
    refine x_aload_n (pc2 := 186) dX8_qGoesOn_185 rfl rfl ?_
    refine x_getf (pc2 := 189) (v := aR 149) fl_X8_278 ic_62 (vr_62_113 _) dX8_qGoesOn_186 rfl ?_
    refine x_aload_n (pc2 := 190) dX8_qGoesOn_189 rfl rfl ?_
    refine x_getf (pc2 := 193) (v := aI (m 62 114)) fl_X8_386 ic_62 (fv_i _ ic_62 rfl) dX8_qGoesOn_190 rfl ?_
    refine x_iload_n (pc2 := 194) dX8_qGoesOn_193 rfl rfl ?_
    obtain ⟨h3, k⟩ := k
    obtain ⟨h4, k⟩ := k
    refine x_iast (pc2 := 195) ic_149 h3 (by rw [al_149]; exact h4) dX8_qGoesOn_194 rfl ?_
    refine x_aload_n (pc2 := 196) dX8_qGoesOn_195 rfl rfl ?_
    refine x_dup_r (pc2 := 197) dX8_qGoesOn_196 rfl (by decide) ?_
    refine x_getf (pc2 := 200) (v := aI ((wr m 149 (m 62 114) l1) 62 114)) fl_X8_386 ic_62 (fv_i _ ic_62 rfl) dX8_qGoesOn_197 rfl ?_
    refine x_iconst (pc2 := 201) dX8_qGoesOn_200 rfl ?_
    refine x_iadd (pc2 := 202) dX8_qGoesOn_201 rfl ?_
    refine x_putf (pc2 := 205) (x := (((wr m 149 (m 62 114) l1) 62 114) + 1)) fl_X8_386 ft_8_114 ic_62 (pv_i _ ic_62 rfl) (pn_i _) dX8_qGoesOn_202 rfl ?_
    refine x_iconst (pc2 := 206) dX8_qGoesOn_205 rfl ?_
    exact x_ireturn dX8_qGoesOn_206 ⟨.boolean, rfl, rfl⟩ k
  · replace k := k2 c2
    refine x_aload_n (pc2 := 179) dX8_qGoesOn_178 rfl rfl ?_
    exact k
set_option maxRecDepth 4000 in
theorem g_X8_qGoesOn_182 {sc : List Int} {d : Nat} {m : Mem} {Q : Option AV → Mem → Prop} {l1 : Int} (k : S_X8_qGoesOn sc d 162 [aR 62, aI l1] [] m Q) : S_X8_qGoesOn sc d 182 [aR 62, aI l1] [] m Q := by
  refine x_goto (tgt := 162) dX8_qGoesOn_182 (by decide) ?_
  exact k
set_option maxRecDepth 4000 in
theorem g_X8_qGoesOn_213 {sc : List Int} {d : Nat} {m : Mem} {Q : Option AV → Mem → Prop} {s0 : Int} (k : (-2147483648 ≤ s0 ∧ s0 < 2147483648) ∧ ((s0 ≠ 0) → ((0 ≤ ((m 62 2) - 1)) ∧ (((m 62 2) - 1) < 1600) ∧ ((-2147483648 ≤ (m 63 ((m 62 2) - 1)) ∧ (m 63 ((m 62 2) - 1)) < 2147483648)) ∧ S_X8_qGoesOn sc d 247 [aR 62, aI (if (m 63 ((m 62 2) - 1)) ≠ 43 then 2 else 1 : Int)] [] m Q)) ∧ (¬ (s0 ≠ 0) → (S_X8_qGoesOn sc d 219 [aR 62, aU] [aI 45, aR 62] m Q))) : S_X8_qGoesOn sc d 213 [aR 62, aU] [aI s0] m Q := by
  obtain ⟨h1, k⟩ := k
  obtain ⟨k1, k2⟩ := k
  refine x_if_ne (tgt := 225) (pc2 := 216) dX8_qGoesOn_213 (by decide) rfl h1 (fun c2 => ?_) (fun c2 => ?_)
  · replace k := k1 c2
    refine x_aload_n (pc2 := 226) dX8_qGoesOn_225 rfl rfl ?_
    refine x_getf (pc2 := 229) (v := aR 63) fl_X8_7 ic_62 (vr_62_0 _) dX8_qGoesOn_226 rfl ?_
    refine x_aload_n (pc2 := 230) dX8_qGoesOn_229 rfl rfl ?_
    refine x_getf (pc2 := 233) (v := aI (m 62 2)) fl_X8_296 ic_62 (fv_i _ ic_62 rfl) dX8_qGoesOn_230 rfl ?_
    refine x_iconst (pc2 := 234) dX8_qGoesOn_233 rfl ?_
    refine x_isub (pc2 := 235) dX8_qGoesOn_234 rfl ?_
    obtain ⟨h3, k⟩ := k
    obtain ⟨h4, k⟩ := k
    refine x_iald (pc2 := 236) ic_63 h3 (by rw [al_63]; exact h4) dX8_qGoesOn_235 rfl ?_
    refine x_bipush (pc2 := 238) dX8_qGoesOn_236 rfl rfl ?_
    obtain ⟨g6, k⟩ := k
    have kj : S_X8_qGoesOn sc d 246 [aR 62, aU] [aI (if (m 63 ((m 62 2) - 1)) ≠ 43 then 2 else 1 : Int)] m Q := by
      refine x_istore_n (pc2 := 247) (ls2 := [aR 62, aI (if (m 63 ((m 62 2) - 1)) ≠ 43 then 2 else 1 : Int)]) dX8_qGoesOn_246 rfl (by decide) rfl ?_
      exact k
    have h7 := g6 
    refine x_icmp_ne (tgt := 245) (pc2 := 241) dX8_qGoesOn_238 (by decide) rfl h7 (by decide) (fun c8 => ?_) (fun c8 => ?_)
    · skip
      refine x_iconst (pc2 := 246) dX8_qGoesOn_245 rfl ?_
      exact x_topI (v := (if (m 63 ((m 62 2) - 1)) ≠ 43 then 2 else 1 : Int)) (if_pos c8) kj
    · skip
      refine x_iconst (pc2 := 242) dX8_qGoesOn_241 rfl ?_
      refine x_goto (tgt := 246) dX8_qGoesOn_242 (by decide) ?_
      exact x_topI (v := (if (m 63 ((m 62 2) - 1)) ≠ 43 then 2 else 1 : Int)) (if_neg c8) kj
  · replace k := k2 c2
    refine x_aload_n (pc2 := 217) dX8_qGoesOn_216 rfl rfl ?_
    refine x_bipush (pc2 := 219) dX8_qGoesOn_217 rfl rfl ?_
    exact k
set_option maxRecDepth 4000 in
theorem g_X8_qGoesOn_222 {sc : List Int} {d : Nat} {m : Mem} {Q : Option AV → Mem → Prop} {s0 : Int} (k : (-2147483648 ≤ s0 ∧ s0 < 2147483648) ∧ ((s0 = 0) → (S_X8_qGoesOn sc d 309 [aR 62, aU] [aR 62] m Q)) ∧ (¬ (s0 = 0) → ((0 ≤ ((m 62 2) - 1)) ∧ (((m 62 2) - 1) < 1600) ∧ ((-2147483648 ≤ (m 63 ((m 62 2) - 1)) ∧ (m 63 ((m 62 2) - 1)) < 2147483648)) ∧ S_X8_qGoesOn sc d 247 [aR 62, aI (if (m 63 ((m 62 2) - 1)) ≠ 43 then 2 else 1 : Int)] [] m Q))) : S_X8_qGoesOn sc d 222 [aR 62, aU] [aI s0] m Q := by
  obtain ⟨h1, k⟩ := k
  obtain ⟨k1, k2⟩ := k
  refine x_if_eq (tgt := 308) (pc2 := 225) dX8_qGoesOn_222 (by decide) rfl h1 (fun c2 => ?_) (fun c2 => ?_)
  · replace k := k1 c2
    refine x_aload_n (pc2 := 309) dX8_qGoesOn_308 rfl rfl ?_
    exact k
  · replace k := k2 c2
    refine x_aload_n (pc2 := 226) dX8_qGoesOn_225 rfl rfl ?_
    refine x_getf (pc2 := 229) (v := aR 63) fl_X8_7 ic_62 (vr_62_0 _) dX8_qGoesOn_226 rfl ?_
    refine x_aload_n (pc2 := 230) dX8_qGoesOn_229 rfl rfl ?_
    refine x_getf (pc2 := 233) (v := aI (m 62 2)) fl_X8_296 ic_62 (fv_i _ ic_62 rfl) dX8_qGoesOn_230 rfl ?_
    refine x_iconst (pc2 := 234) dX8_qGoesOn_233 rfl ?_
    refine x_isub (pc2 := 235) dX8_qGoesOn_234 rfl ?_
    obtain ⟨h3, k⟩ := k
    obtain ⟨h4, k⟩ := k
    refine x_iald (pc2 := 236) ic_63 h3 (by rw [al_63]; exact h4) dX8_qGoesOn_235 rfl ?_
    refine x_bipush (pc2 := 238) dX8_qGoesOn_236 rfl rfl ?_
    obtain ⟨g6, k⟩ := k
    have kj : S_X8_qGoesOn sc d 246 [aR 62, aU] [aI (if (m 63 ((m 62 2) - 1)) ≠ 43 then 2 else 1 : Int)] m Q := by
      refine x_istore_n (pc2 := 247) (ls2 := [aR 62, aI (if (m 63 ((m 62 2) - 1)) ≠ 43 then 2 else 1 : Int)]) dX8_qGoesOn_246 rfl (by decide) rfl ?_
      exact k
    have h7 := g6 
    refine x_icmp_ne (tgt := 245) (pc2 := 241) dX8_qGoesOn_238 (by decide) rfl h7 (by decide) (fun c8 => ?_) (fun c8 => ?_)
    · skip
      refine x_iconst (pc2 := 246) dX8_qGoesOn_245 rfl ?_
      exact x_topI (v := (if (m 63 ((m 62 2) - 1)) ≠ 43 then 2 else 1 : Int)) (if_pos c8) kj
    · skip
      refine x_iconst (pc2 := 242) dX8_qGoesOn_241 rfl ?_
      refine x_goto (tgt := 246) dX8_qGoesOn_242 (by decide) ?_
      exact x_topI (v := (if (m 63 ((m 62 2) - 1)) ≠ 43 then 2 else 1 : Int)) (if_neg c8) kj
set_option maxRecDepth 4000 in
theorem g_X8_qGoesOn_247 {sc : List Int} {d : Nat} {m : Mem} {Q : Option AV → Mem → Prop} {l1 : Int} (k : S_X8_qGoesOn sc d 249 [aR 62, aI l1] [aI 3, aR 62] m Q) : S_X8_qGoesOn sc d 247 [aR 62, aI l1] [] m Q := by
  refine x_aload_n (pc2 := 248) dX8_qGoesOn_247 rfl rfl ?_
  refine x_iconst (pc2 := 249) dX8_qGoesOn_248 rfl ?_
  exact k
set_option maxRecDepth 4000 in
theorem g_X8_qGoesOn_252 {sc : List Int} {d : Nat} {m : Mem} {Q : Option AV → Mem → Prop} {l1 s0 : Int} (k : (-2147483648 ≤ s0 ∧ s0 < 2147483648) ∧ ((s0 ≠ 0) → (S_X8_qGoesOn sc d 280 [aR 62, aI l1] [aR 62] m Q)) ∧ (¬ (s0 ≠ 0) → (S_X8_qGoesOn sc d 257 [aR 62, aI l1] [aI 4, aR 62] m Q))) : S_X8_qGoesOn sc d 252 [aR 62, aI l1] [aI s0] m Q := by
  obtain ⟨h1, k⟩ := k
  obtain ⟨k1, k2⟩ := k
  refine x_if_ne (tgt := 279) (pc2 := 255) dX8_qGoesOn_252 (by decide) rfl h1 (fun c2 => ?_) (fun c2 => ?_)
  · replace k := k1 c2
    refine x_aload_n (pc2 := 280) dX8_qGoesOn_279 rfl rfl ?_
    exact k
  · replace k := k2 c2
    refine x_aload_n (pc2 := 256) dX8_qGoesOn_255 rfl rfl ?_
    refine x_iconst (pc2 := 257) dX8_qGoesOn_256 rfl ?_
    exact k
set_option maxRecDepth 4000 in
theorem g_X8_qGoesOn_260 {sc : List Int} {d : Nat} {m : Mem} {Q : Option AV → Mem → Prop} {l1 s0 : Int} (k : (-2147483648 ≤ s0 ∧ s0 < 2147483648) ∧ ((s0 ≠ 0) → (S_X8_qGoesOn sc d 280 [aR 62, aI l1] [aR 62] m Q)) ∧ (¬ (s0 ≠ 0) → (S_X8_qGoesOn sc d 265 [aR 62, aI l1] [aI 1, aR 62] m Q))) : S_X8_qGoesOn sc d 260 [aR 62, aI l1] [aI s0] m Q := by
  obtain ⟨h1, k⟩ := k
  obtain ⟨k1, k2⟩ := k
  refine x_if_ne (tgt := 279) (pc2 := 263) dX8_qGoesOn_260 (by decide) rfl h1 (fun c2 => ?_) (fun c2 => ?_)
  · replace k := k1 c2
    refine x_aload_n (pc2 := 280) dX8_qGoesOn_279 rfl rfl ?_
    exact k
  · replace k := k2 c2
    refine x_aload_n (pc2 := 264) dX8_qGoesOn_263 rfl rfl ?_
    refine x_iconst (pc2 := 265) dX8_qGoesOn_264 rfl ?_
    exact k
set_option maxRecDepth 4000 in
theorem g_X8_qGoesOn_268 {sc : List Int} {d : Nat} {m : Mem} {Q : Option AV → Mem → Prop} {l1 s0 : Int} (k : (-2147483648 ≤ s0 ∧ s0 < 2147483648) ∧ ((s0 ≠ 0) → (S_X8_qGoesOn sc d 280 [aR 62, aI l1] [aR 62] m Q)) ∧ (¬ (s0 ≠ 0) → (S_X8_qGoesOn sc d 273 [aR 62, aI l1] [aI 2, aR 62] m Q))) : S_X8_qGoesOn sc d 268 [aR 62, aI l1] [aI s0] m Q := by
  obtain ⟨h1, k⟩ := k
  obtain ⟨k1, k2⟩ := k
  refine x_if_ne (tgt := 279) (pc2 := 271) dX8_qGoesOn_268 (by decide) rfl h1 (fun c2 => ?_) (fun c2 => ?_)
  · replace k := k1 c2
    refine x_aload_n (pc2 := 280) dX8_qGoesOn_279 rfl rfl ?_
    exact k
  · replace k := k2 c2
    refine x_aload_n (pc2 := 272) dX8_qGoesOn_271 rfl rfl ?_
    refine x_iconst (pc2 := 273) dX8_qGoesOn_272 rfl ?_
    exact k
set_option maxRecDepth 4000 in
theorem g_X8_qGoesOn_276 {sc : List Int} {d : Nat} {m : Mem} {Q : Option AV → Mem → Prop} {l1 s0 : Int} (k : (-2147483648 ≤ s0 ∧ s0 < 2147483648) ∧ ((s0 = 0) → ((0 ≤ (m 62 114)) ∧ ((m 62 114) < 1700) ∧ Q (some (aI 1)) (wr (wr m 149 (m 62 114) l1) 62 114 (((wr m 149 (m 62 114) l1) 62 114) + 1)))) ∧ (¬ (s0 = 0) → (S_X8_qGoesOn sc d 280 [aR 62, aI l1] [aR 62] m Q))) : S_X8_qGoesOn sc d 276 [aR 62, aI l1] [aI s0] m Q := by
  obtain ⟨h1, k⟩ := k
  obtain ⟨k1, k2⟩ := k
  refine x_if_eq (tgt := 286) (pc2 := 279) dX8_qGoesOn_276 (by decide) rfl h1 (fun c2 => ?_) (fun c2 => ?_)
  · replace k := k1 c2
    refine x_aload_n (pc2 := 287) dX8_qGoesOn_286 rfl rfl ?_
    refine x_getf (pc2 := 290) (v := aR 149) fl_X8_278 ic_62 (vr_62_113 _) dX8_qGoesOn_287 rfl ?_
    refine x_aload_n (pc2 := 291) dX8_qGoesOn_290 rfl rfl ?_
    refine x_getf (pc2 := 294) (v := aI (m 62 114)) fl_X8_386 ic_62 (fv_i _ ic_62 rfl) dX8_qGoesOn_291 rfl ?_
    refine x_iload_n (pc2 := 295) dX8_qGoesOn_294 rfl rfl ?_
    obtain ⟨h3, k⟩ := k
    obtain ⟨h4, k⟩ := k
    refine x_iast (pc2 := 296) ic_149 h3 (by rw [al_149]; exact h4) dX8_qGoesOn_295 rfl ?_
    refine x_aload_n (pc2 := 297) dX8_qGoesOn_296 rfl rfl ?_
    refine x_dup_r (pc2 := 298) dX8_qGoesOn_297 rfl (by decide) ?_
    refine x_getf (pc2 := 301) (v := aI ((wr m 149 (m 62 114) l1) 62 114)) fl_X8_386 ic_62 (fv_i _ ic_62 rfl) dX8_qGoesOn_298 rfl ?_
    refine x_iconst (pc2 := 302) dX8_qGoesOn_301 rfl ?_
    refine x_iadd (pc2 := 303) dX8_qGoesOn_302 rfl ?_
    refine x_putf (pc2 := 306) (x := (((wr m 149 (m 62 114) l1) 62 114) + 1)) fl_X8_386 ft_8_114 ic_62 (pv_i _ ic_62 rfl) (pn_i _) dX8_qGoesOn_303 rfl ?_
    refine x_iconst (pc2 := 307) dX8_qGoesOn_306 rfl ?_
    exact x_ireturn dX8_qGoesOn_307 ⟨.boolean, rfl, rfl⟩ k
  · replace k := k2 c2
    refine x_aload_n (pc2 := 280) dX8_qGoesOn_279 rfl rfl ?_
    exact k
set_option maxRecDepth 4000 in
theorem g_X8_qGoesOn_283 {sc : List Int} {d : Nat} {m : Mem} {Q : Option AV → Mem → Prop} {l1 : Int} (k : S_X8_qGoesOn sc d 247 [aR 62, aI l1] [] m Q) : S_X8_qGoesOn sc d 283 [aR 62, aI l1] [] m Q := by
  refine x_goto (tgt := 247) dX8_qGoesOn_283 (by decide) ?_
  exact k
set_option maxRecDepth 4000 in
theorem g_X8_qGoesOn_312 {sc : List Int} {d : Nat} {m : Mem} {Q : Option AV → Mem → Prop} {s0 : Int} (k : (-2147483648 ≤ s0 ∧ s0 < 2147483648) ∧ ((s0 = 21) → (S_X8_qGoesOn sc d 329 [aR 62, aU] [aI 44, aR 62] m Q)) ∧ (¬ (s0 = 21) → (S_X8_qGoesOn sc d 318 [aR 62, aU] [aR 62] m Q))) : S_X8_qGoesOn sc d 312 [aR 62, aU] [aI s0] m Q := by
  refine x_bipush (pc2 := 314) dX8_qGoesOn_312 rfl rfl ?_
  obtain ⟨h1, k⟩ := k
  obtain ⟨k1, k2⟩ := k
  refine x_icmp_eq (tgt := 326) (pc2 := 317) dX8_qGoesOn_314 (by decide) rfl h1 (by decide) (fun c2 => ?_) (fun c2 => ?_)
  · replace k := k1 c2
    refine x_aload_n (pc2 := 327) dX8_qGoesOn_326 rfl rfl ?_
    refine x_bipush (pc2 := 329) dX8_qGoesOn_327 rfl rfl ?_
    exact k
  · replace k := k2 c2
    refine x_aload_n (pc2 := 318) dX8_qGoesOn_317 rfl rfl ?_
    exact k
set_option maxRecDepth 4000 in
theorem g_X8_qGoesOn_321 {sc : List Int} {d : Nat} {m : Mem} {Q : Option AV → Mem → Prop} {s0 : Int} (k : (-2147483648 ≤ s0 ∧ s0 < 2147483648) ∧ ((s0 ≠ 22) → (S_X8_qGoesOn sc d 363 [aR 62, aU] [aR 62] m Q)) ∧ (¬ (s0 ≠ 22) → (S_X8_qGoesOn sc d 329 [aR 62, aU] [aI 44, aR 62] m Q))) : S_X8_qGoesOn sc d 321 [aR 62, aU] [aI s0] m Q := by
  refine x_bipush (pc2 := 323) dX8_qGoesOn_321 rfl rfl ?_
  obtain ⟨h1, k⟩ := k
  obtain ⟨k1, k2⟩ := k
  refine x_icmp_ne (tgt := 362) (pc2 := 326) dX8_qGoesOn_323 (by decide) rfl h1 (by decide) (fun c2 => ?_) (fun c2 => ?_)
  · replace k := k1 c2
    refine x_aload_n (pc2 := 363) dX8_qGoesOn_362 rfl rfl ?_
    exact k
  · replace k := k2 c2
    refine x_aload_n (pc2 := 327) dX8_qGoesOn_326 rfl rfl ?_
    refine x_bipush (pc2 := 329) dX8_qGoesOn_327 rfl rfl ?_
    exact k
set_option maxRecDepth 4000 in
theorem g_X8_qGoesOn_332 {sc : List Int} {d : Nat} {m : Mem} {Q : Option AV → Mem → Prop} (k : (-2147483648 ≤ (m 62 5) ∧ (m 62 5) < 2147483648) ∧ (((m 62 5) = 0) → (S_X8_qGoesOn sc d 342 [aR 62, aU] [aR 62] m Q)) ∧ (¬ ((m 62 5) = 0) → (Q (some (aI 0)) m))) : S_X8_qGoesOn sc d 332 [aR 62, aU] [] m Q := by
  refine x_aload_n (pc2 := 333) dX8_qGoesOn_332 rfl rfl ?_
  refine x_getf (pc2 := 336) (v := aI (m 62 5)) fl_X8_290 ic_62 (fv_i _ ic_62 rfl) dX8_qGoesOn_333 rfl ?_
  obtain ⟨h1, k⟩ := k
  obtain ⟨k1, k2⟩ := k
  refine x_if_eq (tgt := 341) (pc2 := 339) dX8_qGoesOn_336 (by decide) rfl h1 (fun c2 => ?_) (fun c2 => ?_)
  · replace k := k1 c2
    refine x_aload_n (pc2 := 342) dX8_qGoesOn_341 rfl rfl ?_
    exact k
  · replace k := k2 c2
    refine x_iconst (pc2 := 340) dX8_qGoesOn_339 rfl ?_
    exact x_ireturn dX8_qGoesOn_340 ⟨.boolean, rfl, rfl⟩ k
set_option maxRecDepth 4000 in
theorem g_X8_qGoesOn_345 {sc : List Int} {d : Nat} {m : Mem} {Q : Option AV → Mem → Prop} (k : (0 ≤ ((m 62 114) - 1)) ∧ (((m 62 114) - 1) < 1700) ∧ Q (some (aI 1)) (wr m 149 ((m 62 114) - 1) ((m 149 ((m 62 114) - 1)) + 2))) : S_X8_qGoesOn sc d 345 [aR 62, aU] [] m Q := by
  refine x_aload_n (pc2 := 346) dX8_qGoesOn_345 rfl rfl ?_
  refine x_getf (pc2 := 349) (v := aR 149) fl_X8_278 ic_62 (vr_62_113 _) dX8_qGoesOn_346 rfl ?_
  refine x_aload_n (pc2 := 350) dX8_qGoesOn_349 rfl rfl ?_
  refine x_getf (pc2 := 353) (v := aI (m 62 114)) fl_X8_386 ic_62 (fv_i _ ic_62 rfl) dX8_qGoesOn_350 rfl ?_
  refine x_iconst (pc2 := 354) dX8_qGoesOn_353 rfl ?_
  refine x_isub (pc2 := 355) dX8_qGoesOn_354 rfl ?_
  refine x_dup2_ri (pc2 := 356) dX8_qGoesOn_355 rfl (by decide) ?_
  obtain ⟨h1, k⟩ := k
  obtain ⟨h2, k⟩ := k
  refine x_iald (pc2 := 357) ic_149 h1 (by rw [al_149]; exact h2) dX8_qGoesOn_356 rfl ?_
  refine x_iconst (pc2 := 358) dX8_qGoesOn_357 rfl ?_
  refine x_iadd (pc2 := 359) dX8_qGoesOn_358 rfl ?_
  refine x_iast (pc2 := 360) ic_149 h1 (by rw [al_149]; exact h2) dX8_qGoesOn_359 rfl ?_
  refine x_iconst (pc2 := 361) dX8_qGoesOn_360 rfl ?_
  exact x_ireturn dX8_qGoesOn_361 ⟨.boolean, rfl, rfl⟩ k
set_option maxRecDepth 4000 in
theorem g_X8_qGoesOn_366 {sc : List Int} {d : Nat} {m : Mem} {Q : Option AV → Mem → Prop} {s0 : Int} (k : (-2147483648 ≤ s0 ∧ s0 < 2147483648) ∧ ((s0 = (-1)) → (S_X8_qGoesOn sc d 386 [aR 62, aU] [] m Q)) ∧ (¬ (s0 = (-1)) → ((-2147483648 ≤ (m 62 5) ∧ (m 62 5) < 2147483648) ∧ (((m 62 5) ≠ 0) → (S_X8_qGoesOn sc d 386 [aR 62, aU] [] m Q)) ∧ (¬ ((m 62 5) ≠ 0) → (S_X8_qGoesOn sc d 383 [aR 62, aU] [aI (m 62 2), aI 1, aR 62] m Q))))) : S_X8_qGoesOn sc d 366 [aR 62, aU] [aI s0] m Q := by
  refine x_iconst (pc2 := 367) dX8_qGoesOn_366 rfl ?_
  obtain ⟨h1, k⟩ := k
  obtain ⟨k1, k2⟩ := k
  refine x_icmp_eq (tgt := 386) (pc2 := 370) dX8_qGoesOn_367 (by decide) rfl h1 (by decide) (fun c2 => ?_) (fun c2 => ?_)
  · replace k := k1 c2
    exact k
  · replace k := k2 c2
    refine x_aload_n (pc2 := 371) dX8_qGoesOn_370 rfl rfl ?_
    refine x_getf (pc2 := 374) (v := aI (m 62 5)) fl_X8_290 ic_62 (fv_i _ ic_62 rfl) dX8_qGoesOn_371 rfl ?_
    obtain ⟨h3, k⟩ := k
    obtain ⟨k1, k2⟩ := k
    refine x_if_ne (tgt := 386) (pc2 := 377) dX8_qGoesOn_374 (by decide) rfl h3 (fun c4 => ?_) (fun c4 => ?_)
    · replace k := k1 c4
      exact k
    · replace k := k2 c4
      refine x_aload_n (pc2 := 378) dX8_qGoesOn_377 rfl rfl ?_
      refine x_iconst (pc2 := 379) dX8_qGoesOn_378 rfl ?_
      refine x_aload_n (pc2 := 380) dX8_qGoesOn_379 rfl rfl ?_
      refine x_getf (pc2 := 383) (v := aI (m 62 2)) fl_X8_296 ic_62 (fv_i _ ic_62 rfl) dX8_qGoesOn_380 rfl ?_
      exact k
set_option maxRecDepth 4000 in
theorem g_X8_qGoesOn_386 {sc : List Int} {d : Nat} {m : Mem} {Q : Option AV → Mem → Prop} (k : Q (some (aI 0)) m) : S_X8_qGoesOn sc d 386 [aR 62, aU] [] m Q := by
  refine x_iconst (pc2 := 387) dX8_qGoesOn_386 rfl ?_
  exact x_ireturn dX8_qGoesOn_387 ⟨.boolean, rfl, rfl⟩ k
theorem c_X8_qGoesOn_8 {sc : List Int} {d d2 : Nat} {m m2 : Mem} {Q : Option AV → Mem → Prop} {v : Int} (hM : C_X8_look sc d2 [aR 62] m (some (aI v)) m2) (hd : d2 + 1 ≤ d) (k : S_X8_qGoesOn sc d 11 [aR 62, aU] [aI v] m2 Q) : S_X8_qGoesOn sc d 8 [aR 62, aU] [aR 62] m Q := x_callV (as := []) (rest := []) hM mk_X8_look mv_X8_look lk_X8_302 (Or.inl ⟨8, (RX8, TX8, 123), ic_62, Nat.le_of_ble_eq_true rfl, rfl, rfl⟩) hd rfl rfl (Nat.le_of_ble_eq_true rfl) dX8_qGoesOn_8 rfl k
theorem c_X8_qGoesOn_17 {sc : List Int} {d d2 : Nat} {m m2 : Mem} {Q : Option AV → Mem → Prop} {v : Int} (hM : C_X8_qBracket sc d2 [aR 62] m (some (aI v)) m2) (hd : d2 + 1 ≤ d) (k : S_X8_qGoesOn sc d 20 [aR 62, aU] [aI v] m2 Q) : S_X8_qGoesOn sc d 17 [aR 62, aU] [aR 62] m Q := x_callV (as := []) (rest := []) hM mk_X8_qBracket mv_X8_qBracket lk_X8_658 (Or.inl ⟨8, (RX8, TX8, 123), ic_62, Nat.le_of_ble_eq_true rfl, rfl, rfl⟩) hd rfl rfl (Nat.le_of_ble_eq_true rfl) dX8_qGoesOn_17 rfl k
theorem c_X8_qGoesOn_26 {sc : List Int} {d d2 : Nat} {m m2 : Mem} {Q : Option AV → Mem → Prop} {v : Int} (hM : C_X8_qBracket sc d2 [aR 62] m (some (aI v)) m2) (hd : d2 + 1 ≤ d) (k : S_X8_qGoesOn sc d 29 [aR 62, aU] [aI v] m2 Q) : S_X8_qGoesOn sc d 26 [aR 62, aU] [aR 62] m Q := x_callV (as := []) (rest := []) hM mk_X8_qBracket mv_X8_qBracket lk_X8_658 (Or.inl ⟨8, (RX8, TX8, 123), ic_62, Nat.le_of_ble_eq_true rfl, rfl, rfl⟩) hd rfl rfl (Nat.le_of_ble_eq_true rfl) dX8_qGoesOn_26 rfl k
theorem c_X8_qGoesOn_35 {sc : List Int} {d d2 : Nat} {m m2 : Mem} {Q : Option AV → Mem → Prop} {v : Int} (hM : C_X8_qBracket sc d2 [aR 62] m (some (aI v)) m2) (hd : d2 + 1 ≤ d) (k : S_X8_qGoesOn sc d 38 [aR 62, aU] [aI v] m2 Q) : S_X8_qGoesOn sc d 35 [aR 62, aU] [aR 62] m Q := x_callV (as := []) (rest := []) hM mk_X8_qBracket mv_X8_qBracket lk_X8_658 (Or.inl ⟨8, (RX8, TX8, 123), ic_62, Nat.le_of_ble_eq_true rfl, rfl, rfl⟩) hd rfl rfl (Nat.le_of_ble_eq_true rfl) dX8_qGoesOn_35 rfl k
theorem c_X8_qGoesOn_54 {sc : List Int} {d d2 : Nat} {m m2 : Mem} {Q : Option AV → Mem → Prop} (hM : C_X8_qDropsToBracket sc d2 [aR 62] m none m2) (hd : d2 + 1 ≤ d) (k : S_X8_qGoesOn sc d 57 [aR 62, aU] [] m2 Q) : S_X8_qGoesOn sc d 54 [aR 62, aU] [aR 62] m Q := x_callV (as := []) (rest := []) hM mk_X8_qDropsToBracket mv_X8_qDropsToBracket lk_X8_661 (Or.inl ⟨8, (RX8, TX8, 123), ic_62, Nat.le_of_ble_eq_true rfl, rfl, rfl⟩) hd rfl rfl (Nat.le_of_ble_eq_true rfl) dX8_qGoesOn_54 rfl k
theorem c_X8_qGoesOn_112 {sc : List Int} {d d2 : Nat} {m m2 : Mem} {Q : Option AV → Mem → Prop} {s1 : Int} (hM : C_X8_qCode sc d2 [aR 62, aI s1] m none m2) (hd : d2 + 1 ≤ d) (k : S_X8_qGoesOn sc d 115 [aR 62, aU] [] m2 Q) : S_X8_qGoesOn sc d 112 [aR 62, aU] [aI s1, aR 62] m Q := x_callV (as := [aI s1]) (rest := []) hM mk_X8_qCode mv_X8_qCode lk_X8_631 (Or.inl ⟨8, (RX8, TX8, 123), ic_62, Nat.le_of_ble_eq_true rfl, rfl, rfl⟩) hd rfl rfl (Nat.le_of_ble_eq_true rfl) dX8_qGoesOn_112 rfl k
theorem c_X8_qGoesOn_116 {sc : List Int} {d d2 : Nat} {m m2 : Mem} {Q : Option AV → Mem → Prop} (hM : C_X8_qEndsPart sc d2 [aR 62] m none m2) (hd : d2 + 1 ≤ d) (k : S_X8_qGoesOn sc d 119 [aR 62, aU] [] m2 Q) : S_X8_qGoesOn sc d 116 [aR 62, aU] [aR 62] m Q := x_callV (as := []) (rest := []) hM mk_X8_qEndsPart mv_X8_qEndsPart lk_X8_655 (Or.inl ⟨8, (RX8, TX8, 123), ic_62, Nat.le_of_ble_eq_true rfl, rfl, rfl⟩) hd rfl rfl (Nat.le_of_ble_eq_true rfl) dX8_qGoesOn_116 rfl k
theorem c_X8_qGoesOn_125 {sc : List Int} {d d2 : Nat} {m m2 : Mem} {Q : Option AV → Mem → Prop} {s1 : Int} {v : Int} (hM : C_X8_takesSign sc d2 [aR 62, aI s1] m (some (aI v)) m2) (hd : d2 + 1 ≤ d) (k : S_X8_qGoesOn sc d 128 [aR 62, aU] [aI v] m2 Q) : S_X8_qGoesOn sc d 125 [aR 62, aU] [aI s1, aR 62] m Q := x_callV (as := [aI s1]) (rest := []) hM mk_X8_takesSign mv_X8_takesSign lk_X8_324 (Or.inl ⟨8, (RX8, TX8, 123), ic_62, Nat.le_of_ble_eq_true rfl, rfl, rfl⟩) hd rfl rfl (Nat.le_of_ble_eq_true rfl) dX8_qGoesOn_125 rfl k
theorem c_X8_qGoesOn_134 {sc : List Int} {d d2 : Nat} {m m2 : Mem} {Q : Option AV → Mem → Prop} {s1 : Int} {v : Int} (hM : C_X8_takesSign sc d2 [aR 62, aI s1] m (some (aI v)) m2) (hd : d2 + 1 ≤ d) (k : S_X8_qGoesOn sc d 137 [aR 62, aU] [aI v] m2 Q) : S_X8_qGoesOn sc d 134 [aR 62, aU] [aI s1, aR 62] m Q := x_callV (as := [aI s1]) (rest := []) hM mk_X8_takesSign mv_X8_takesSign lk_X8_324 (Or.inl ⟨8, (RX8, TX8, 123), ic_62, Nat.le_of_ble_eq_true rfl, rfl, rfl⟩) hd rfl rfl (Nat.le_of_ble_eq_true rfl) dX8_qGoesOn_134 rfl k
theorem c_X8_qGoesOn_164 {sc : List Int} {d d2 : Nat} {m m2 : Mem} {Q : Option AV → Mem → Prop} {l1 s1 : Int} {v : Int} (hM : C_X8_qIsOn sc d2 [aR 62, aI s1] m (some (aI v)) m2) (hd : d2 + 1 ≤ d) (k : S_X8_qGoesOn sc d 167 [aR 62, aI l1] [aI v] m2 Q) : S_X8_qGoesOn sc d 164 [aR 62, aI l1] [aI s1, aR 62] m Q := x_callV (as := [aI s1]) (rest := []) hM mk_X8_qIsOn mv_X8_qIsOn lk_X8_664 (Or.inl ⟨8, (RX8, TX8, 123), ic_62, Nat.le_of_ble_eq_true rfl, rfl, rfl⟩) hd rfl rfl (Nat.le_of_ble_eq_true rfl) dX8_qGoesOn_164 rfl k
theorem c_X8_qGoesOn_172 {sc : List Int} {d d2 : Nat} {m m2 : Mem} {Q : Option AV → Mem → Prop} {l1 s1 : Int} {v : Int} (hM : C_X8_qIsOn sc d2 [aR 62, aI s1] m (some (aI v)) m2) (hd : d2 + 1 ≤ d) (k : S_X8_qGoesOn sc d 175 [aR 62, aI l1] [aI v] m2 Q) : S_X8_qGoesOn sc d 172 [aR 62, aI l1] [aI s1, aR 62] m Q := x_callV (as := [aI s1]) (rest := []) hM mk_X8_qIsOn mv_X8_qIsOn lk_X8_664 (Or.inl ⟨8, (RX8, TX8, 123), ic_62, Nat.le_of_ble_eq_true rfl, rfl, rfl⟩) hd rfl rfl (Nat.le_of_ble_eq_true rfl) dX8_qGoesOn_172 rfl k
theorem c_X8_qGoesOn_179 {sc : List Int} {d d2 : Nat} {m m2 : Mem} {Q : Option AV → Mem → Prop} {l1 : Int} (hM : C_X8_qDrops sc d2 [aR 62] m none m2) (hd : d2 + 1 ≤ d) (k : S_X8_qGoesOn sc d 182 [aR 62, aI l1] [] m2 Q) : S_X8_qGoesOn sc d 179 [aR 62, aI l1] [aR 62] m Q := x_callV (as := []) (rest := []) hM mk_X8_qDrops mv_X8_qDrops lk_X8_637 (Or.inl ⟨8, (RX8, TX8, 123), ic_62, Nat.le_of_ble_eq_true rfl, rfl, rfl⟩) hd rfl rfl (Nat.le_of_ble_eq_true rfl) dX8_qGoesOn_179 rfl k
theorem c_X8_qGoesOn_210 {sc : List Int} {d d2 : Nat} {m m2 : Mem} {Q : Option AV → Mem → Prop} {s1 : Int} {v : Int} (hM : C_X8_takesSign sc d2 [aR 62, aI s1] m (some (aI v)) m2) (hd : d2 + 1 ≤ d) (k : S_X8_qGoesOn sc d 213 [aR 62, aU] [aI v] m2 Q) : S_X8_qGoesOn sc d 210 [aR 62, aU] [aI s1, aR 62] m Q := x_callV (as := [aI s1]) (rest := []) hM mk_X8_takesSign mv_X8_takesSign lk_X8_324 (Or.inl ⟨8, (RX8, TX8, 123), ic_62, Nat.le_of_ble_eq_true rfl, rfl, rfl⟩) hd rfl rfl (Nat.le_of_ble_eq_true rfl) dX8_qGoesOn_210 rfl k
theorem c_X8_qGoesOn_219 {sc : List Int} {d d2 : Nat} {m m2 : Mem} {Q : Option AV → Mem → Prop} {s1 : Int} {v : Int} (hM : C_X8_takesSign sc d2 [aR 62, aI s1] m (some (aI v)) m2) (hd : d2 + 1 ≤ d) (k : S_X8_qGoesOn sc d 222 [aR 62, aU] [aI v] m2 Q) : S_X8_qGoesOn sc d 219 [aR 62, aU] [aI s1, aR 62] m Q := x_callV (as := [aI s1]) (rest := []) hM mk_X8_takesSign mv_X8_takesSign lk_X8_324 (Or.inl ⟨8, (RX8, TX8, 123), ic_62, Nat.le_of_ble_eq_true rfl, rfl, rfl⟩) hd rfl rfl (Nat.le_of_ble_eq_true rfl) dX8_qGoesOn_219 rfl k
theorem c_X8_qGoesOn_249 {sc : List Int} {d d2 : Nat} {m m2 : Mem} {Q : Option AV → Mem → Prop} {l1 s1 : Int} {v : Int} (hM : C_X8_qIsOn sc d2 [aR 62, aI s1] m (some (aI v)) m2) (hd : d2 + 1 ≤ d) (k : S_X8_qGoesOn sc d 252 [aR 62, aI l1] [aI v] m2 Q) : S_X8_qGoesOn sc d 249 [aR 62, aI l1] [aI s1, aR 62] m Q := x_callV (as := [aI s1]) (rest := []) hM mk_X8_qIsOn mv_X8_qIsOn lk_X8_664 (Or.inl ⟨8, (RX8, TX8, 123), ic_62, Nat.le_of_ble_eq_true rfl, rfl, rfl⟩) hd rfl rfl (Nat.le_of_ble_eq_true rfl) dX8_qGoesOn_249 rfl k
theorem c_X8_qGoesOn_257 {sc : List Int} {d d2 : Nat} {m m2 : Mem} {Q : Option AV → Mem → Prop} {l1 s1 : Int} {v : Int} (hM : C_X8_qIsOn sc d2 [aR 62, aI s1] m (some (aI v)) m2) (hd : d2 + 1 ≤ d) (k : S_X8_qGoesOn sc d 260 [aR 62, aI l1] [aI v] m2 Q) : S_X8_qGoesOn sc d 257 [aR 62, aI l1] [aI s1, aR 62] m Q := x_callV (as := [aI s1]) (rest := []) hM mk_X8_qIsOn mv_X8_qIsOn lk_X8_664 (Or.inl ⟨8, (RX8, TX8, 123), ic_62, Nat.le_of_ble_eq_true rfl, rfl, rfl⟩) hd rfl rfl (Nat.le_of_ble_eq_true rfl) dX8_qGoesOn_257 rfl k
theorem c_X8_qGoesOn_265 {sc : List Int} {d d2 : Nat} {m m2 : Mem} {Q : Option AV → Mem → Prop} {l1 s1 : Int} {v : Int} (hM : C_X8_qIsOn sc d2 [aR 62, aI s1] m (some (aI v)) m2) (hd : d2 + 1 ≤ d) (k : S_X8_qGoesOn sc d 268 [aR 62, aI l1] [aI v] m2 Q) : S_X8_qGoesOn sc d 265 [aR 62, aI l1] [aI s1, aR 62] m Q := x_callV (as := [aI s1]) (rest := []) hM mk_X8_qIsOn mv_X8_qIsOn lk_X8_664 (Or.inl ⟨8, (RX8, TX8, 123), ic_62, Nat.le_of_ble_eq_true rfl, rfl, rfl⟩) hd rfl rfl (Nat.le_of_ble_eq_true rfl) dX8_qGoesOn_265 rfl k
theorem c_X8_qGoesOn_273 {sc : List Int} {d d2 : Nat} {m m2 : Mem} {Q : Option AV → Mem → Prop} {l1 s1 : Int} {v : Int} (hM : C_X8_qIsOn sc d2 [aR 62, aI s1] m (some (aI v)) m2) (hd : d2 + 1 ≤ d) (k : S_X8_qGoesOn sc d 276 [aR 62, aI l1] [aI v] m2 Q) : S_X8_qGoesOn sc d 273 [aR 62, aI l1] [aI s1, aR 62] m Q := x_callV (as := [aI s1]) (rest := []) hM mk_X8_qIsOn mv_X8_qIsOn lk_X8_664 (Or.inl ⟨8, (RX8, TX8, 123), ic_62, Nat.le_of_ble_eq_true rfl, rfl, rfl⟩) hd rfl rfl (Nat.le_of_ble_eq_true rfl) dX8_qGoesOn_273 rfl k
theorem c_X8_qGoesOn_280 {sc : List Int} {d d2 : Nat} {m m2 : Mem} {Q : Option AV → Mem → Prop} {l1 : Int} (hM : C_X8_qDrops sc d2 [aR 62] m none m2) (hd : d2 + 1 ≤ d) (k : S_X8_qGoesOn sc d 283 [aR 62, aI l1] [] m2 Q) : S_X8_qGoesOn sc d 280 [aR 62, aI l1] [aR 62] m Q := x_callV (as := []) (rest := []) hM mk_X8_qDrops mv_X8_qDrops lk_X8_637 (Or.inl ⟨8, (RX8, TX8, 123), ic_62, Nat.le_of_ble_eq_true rfl, rfl, rfl⟩) hd rfl rfl (Nat.le_of_ble_eq_true rfl) dX8_qGoesOn_280 rfl k
theorem c_X8_qGoesOn_309 {sc : List Int} {d d2 : Nat} {m m2 : Mem} {Q : Option AV → Mem → Prop} {v : Int} (hM : C_X8_qBracket sc d2 [aR 62] m (some (aI v)) m2) (hd : d2 + 1 ≤ d) (k : S_X8_qGoesOn sc d 312 [aR 62, aU] [aI v] m2 Q) : S_X8_qGoesOn sc d 309 [aR 62, aU] [aR 62] m Q := x_callV (as := []) (rest := []) hM mk_X8_qBracket mv_X8_qBracket lk_X8_658 (Or.inl ⟨8, (RX8, TX8, 123), ic_62, Nat.le_of_ble_eq_true rfl, rfl, rfl⟩) hd rfl rfl (Nat.le_of_ble_eq_true rfl) dX8_qGoesOn_309 rfl k
theorem c_X8_qGoesOn_318 {sc : List Int} {d d2 : Nat} {m m2 : Mem} {Q : Option AV → Mem → Prop} {v : Int} (hM : C_X8_qBracket sc d2 [aR 62] m (some (aI v)) m2) (hd : d2 + 1 ≤ d) (k : S_X8_qGoesOn sc d 321 [aR 62, aU] [aI v] m2 Q) : S_X8_qGoesOn sc d 318 [aR 62, aU] [aR 62] m Q := x_callV (as := []) (rest := []) hM mk_X8_qBracket mv_X8_qBracket lk_X8_658 (Or.inl ⟨8, (RX8, TX8, 123), ic_62, Nat.le_of_ble_eq_true rfl, rfl, rfl⟩) hd rfl rfl (Nat.le_of_ble_eq_true rfl) dX8_qGoesOn_318 rfl k
theorem c_X8_qGoesOn_329 {sc : List Int} {d d2 : Nat} {m m2 : Mem} {Q : Option AV → Mem → Prop} {s1 : Int} (hM : C_X8_asksSign sc d2 [aR 62, aI s1] m none m2) (hd : d2 + 1 ≤ d) (k : S_X8_qGoesOn sc d 332 [aR 62, aU] [] m2 Q) : S_X8_qGoesOn sc d 329 [aR 62, aU] [aI s1, aR 62] m Q := x_callV (as := [aI s1]) (rest := []) hM mk_X8_asksSign mv_X8_asksSign lk_X8_373 (Or.inl ⟨8, (RX8, TX8, 123), ic_62, Nat.le_of_ble_eq_true rfl, rfl, rfl⟩) hd rfl rfl (Nat.le_of_ble_eq_true rfl) dX8_qGoesOn_329 rfl k
theorem c_X8_qGoesOn_342 {sc : List Int} {d d2 : Nat} {m m2 : Mem} {Q : Option AV → Mem → Prop} (hM : C_X8_qDropsToBracket sc d2 [aR 62] m none m2) (hd : d2 + 1 ≤ d) (k : S_X8_qGoesOn sc d 345 [aR 62, aU] [] m2 Q) : S_X8_qGoesOn sc d 342 [aR 62, aU] [aR 62] m Q := x_callV (as := []) (rest := []) hM mk_X8_qDropsToBracket mv_X8_qDropsToBracket lk_X8_661 (Or.inl ⟨8, (RX8, TX8, 123), ic_62, Nat.le_of_ble_eq_true rfl, rfl, rfl⟩) hd rfl rfl (Nat.le_of_ble_eq_true rfl) dX8_qGoesOn_342 rfl k
theorem c_X8_qGoesOn_363 {sc : List Int} {d d2 : Nat} {m m2 : Mem} {Q : Option AV → Mem → Prop} {v : Int} (hM : C_X8_qBracket sc d2 [aR 62] m (some (aI v)) m2) (hd : d2 + 1 ≤ d) (k : S_X8_qGoesOn sc d 366 [aR 62, aU] [aI v] m2 Q) : S_X8_qGoesOn sc d 363 [aR 62, aU] [aR 62] m Q := x_callV (as := []) (rest := []) hM mk_X8_qBracket mv_X8_qBracket lk_X8_658 (Or.inl ⟨8, (RX8, TX8, 123), ic_62, Nat.le_of_ble_eq_true rfl, rfl, rfl⟩) hd rfl rfl (Nat.le_of_ble_eq_true rfl) dX8_qGoesOn_363 rfl k
theorem c_X8_qGoesOn_383 {sc : List Int} {d d2 : Nat} {m m2 : Mem} {Q : Option AV → Mem → Prop} {s1 s2 : Int} (hM : C_X8_fail sc d2 [aR 62, aI s1, aI s2] m none m2) (hd : d2 + 1 ≤ d) (k : S_X8_qGoesOn sc d 386 [aR 62, aU] [] m2 Q) : S_X8_qGoesOn sc d 383 [aR 62, aU] [aI s2, aI s1, aR 62] m Q := x_callV (as := [aI s1, aI s2]) (rest := []) hM mk_X8_fail mv_X8_fail lk_X8_320 (Or.inl ⟨8, (RX8, TX8, 123), ic_62, Nat.le_of_ble_eq_true rfl, rfl, rfl⟩) hd rfl rfl (Nat.le_of_ble_eq_true rfl) dX8_qGoesOn_383 rfl k
set_option maxRecDepth 4000 in
theorem g_X8_qSums_0 {sc : List Int} {d : Nat} {m : Mem} {Q : Option AV → Mem → Prop} (k : S_X8_qSums sc d 15 [aR 62, aI (m 62 116), aI 1] [] (wr m 62 116 (m 62 114)) Q) : S_X8_qSums sc d 0 [aR 62, aU, aU] [] m Q := by
  refine x_aload_n (pc2 := 1) dX8_qSums_0 rfl rfl ?_
  refine x_getf (pc2 := 4) (v := aI (m 62 116)) fl_X8_392 ic_62 (fv_i _ ic_62 rfl) dX8_qSums_1 rfl ?_
  refine x_istore_n (pc2 := 5) (ls2 := [aR 62, aI (m 62 116), aU]) dX8_qSums_4 rfl (by decide) rfl ?_
  refine x_aload_n (pc2 := 6) dX8_qSums_5 rfl rfl ?_
  refine x_aload_n (pc2 := 7) dX8_qSums_6 rfl rfl ?_
  refine x_getf (pc2 := 10) (v := aI (m 62 114)) fl_X8_386 ic_62 (fv_i _ ic_62 rfl) dX8_qSums_7 rfl ?_
  refine x_putf (pc2 := 13) (x := (m 62 114)) fl_X8_392 ft_8_116 ic_62 (pv_i _ ic_62 rfl) (pn_i _) dX8_qSums_10 rfl ?_
  refine x_iconst (pc2 := 14) dX8_qSums_13 rfl ?_
  refine x_istore_n (pc2 := 15) (ls2 := [aR 62, aI (m 62 116), aI 1]) dX8_qSums_14 rfl (by decide) rfl ?_
  exact k
set_option maxRecDepth 4000 in
theorem g_X8_qSums_15 {sc : List Int} {d : Nat} {m : Mem} {Q : Option AV → Mem → Prop} {l1 l2 : Int} (k : (-2147483648 ≤ l2 ∧ l2 < 2147483648) ∧ ((l2 = 0) → (S_X8_qSums sc d 53 [aR 62, aI l1, aU] [] m Q)) ∧ (¬ (l2 = 0) → ((-2147483648 ≤ (m 62 5) ∧ (m 62 5) < 2147483648) ∧ (((m 62 5) ≠ 0) → (S_X8_qSums sc d 53 [aR 62, aI l1, aU] [] m Q)) ∧ (¬ ((m 62 5) ≠ 0) → (S_X8_qSums sc d 27 [aR 62, aI l1, aU] [aR 62] m Q))))) : S_X8_qSums sc d 15 [aR 62, aI l1, aI l2] [] m Q := by
  refine x_iload_n (pc2 := 16) dX8_qSums_15 rfl rfl ?_
  obtain ⟨h1, k⟩ := k
  obtain ⟨k1, k2⟩ := k
  refine x_if_eq (tgt := 53) (pc2 := 19) dX8_qSums_16 (by decide) rfl h1 (fun c2 => ?_) (fun c2 => ?_)
  · replace k := k1 c2
    exact x_drop (drp_k (drp_k (drp_u drp_n))) k
  · replace k := k2 c2
    refine x_aload_n (pc2 := 20) dX8_qSums_19 rfl rfl ?_
    refine x_getf (pc2 := 23) (v := aI (m 62 5)) fl_X8_290 ic_62 (fv_i _ ic_62 rfl) dX8_qSums_20 rfl ?_
    obtain ⟨h3, k⟩ := k
    obtain ⟨k1, k2⟩ := k
    refine x_if_ne (tgt := 53) (pc2 := 26) dX8_qSums_23 (by decide) rfl h3 (fun c4 => ?_) (fun c4 => ?_)
    · replace k := k1 c4
      exact x_drop (drp_k (drp_k (drp_u drp_n))) k
    · replace k := k2 c4
      refine x_aload_n (pc2 := 27) dX8_qSums_26 rfl rfl ?_
      exact x_drop (drp_k (drp_k (drp_u drp_n))) k
set_option maxRecDepth 4000 in
theorem g_X8_qSums_30 {sc : List Int} {d : Nat} {m : Mem} {Q : Option AV → Mem → Prop} {l1 : Int} (k : (-2147483648 ≤ (m 62 5) ∧ (m 62 5) < 2147483648) ∧ (((m 62 5) ≠ 0) → (S_X8_qSums sc d 15 [aR 62, aI l1, aI 0] [] m Q)) ∧ (¬ ((m 62 5) ≠ 0) → (S_X8_qSums sc d 38 [aR 62, aI l1, aU] [aR 62] m Q))) : S_X8_qSums sc d 30 [aR 62, aI l1, aU] [] m Q := by
  refine x_aload_n (pc2 := 31) dX8_qSums_30 rfl rfl ?_
  refine x_getf (pc2 := 34) (v := aI (m 62 5)) fl_X8_290 ic_62 (fv_i _ ic_62 rfl) dX8_qSums_31 rfl ?_
  obtain ⟨h1, k⟩ := k
  obtain ⟨k1, k2⟩ := k
  refine x_if_ne (tgt := 48) (pc2 := 37) dX8_qSums_34 (by decide) rfl h1 (fun c2 => ?_) (fun c2 => ?_)
  · replace k := k1 c2
    refine x_iconst (pc2 := 49) dX8_qSums_48 rfl ?_
    refine x_istore_n (pc2 := 50) (ls2 := [aR 62, aI l1, aI 0]) dX8_qSums_49 rfl (by decide) rfl ?_
    refine x_goto (tgt := 15) dX8_qSums_50 (by decide) ?_
    exact k
  · replace k := k2 c2
    refine x_aload_n (pc2 := 38) dX8_qSums_37 rfl rfl ?_
    exact k
set_option maxRecDepth 4000 in
theorem g_X8_qSums_41 {sc : List Int} {d : Nat} {m : Mem} {Q : Option AV → Mem → Prop} {l1 s0 : Int} (k : ((-2147483648 ≤ s0 ∧ s0 < 2147483648)) ∧ S_X8_qSums sc d 15 [aR 62, aI l1, aI (if s0 = 0 then 0 else 1 : Int)] [] m Q) : S_X8_qSums sc d 41 [aR 62, aI l1, aU] [aI s0] m Q := by
  obtain ⟨g2, k⟩ := k
  have kj : S_X8_qSums sc d 49 [aR 62, aI l1, aU] [aI (if s0 = 0 then 0 else 1 : Int)] m Q := by
    refine x_istore_n (pc2 := 50) (ls2 := [aR 62, aI l1, aI (if s0 = 0 then 0 else 1 : Int)]) dX8_qSums_49 rfl (by decide) rfl ?_
    refine x_goto (tgt := 15) dX8_qSums_50 (by decide) ?_
    exact k
  have h3 := g2 
  refine x_if_eq (tgt := 48) (pc2 := 44) dX8_qSums_41 (by decide) rfl h3 (fun c4 => ?_) (fun c4 => ?_)
  · skip
    refine x_iconst (pc2 := 49) dX8_qSums_48 rfl ?_
    exact x_topI (v := (if s0 = 0 then 0 else 1 : Int)) (if_pos c4) kj
  · skip
    refine x_iconst (pc2 := 45) dX8_qSums_44 rfl ?_
    refine x_goto (tgt := 49) dX8_qSums_45 (by decide) ?_
    exact x_topI (v := (if s0 = 0 then 0 else 1 : Int)) (if_neg c4) kj
set_option maxRecDepth 4000 in
theorem g_X8_qSums_53 {sc : List Int} {d : Nat} {m : Mem} {Q : Option AV → Mem → Prop} {l1 : Int} (k : (-2147483648 ≤ (m 62 5) ∧ (m 62 5) < 2147483648) ∧ (((m 62 5) ≠ 0) → (Q none (wr m 62 116 l1))) ∧ (¬ ((m 62 5) ≠ 0) → ((-2147483648 ≤ (m 62 114) ∧ (m 62 114) < 2147483648) ∧ (-2147483648 ≤ (m 62 116) ∧ (m 62 116) < 2147483648) ∧ (((m 62 114) ≤ (m 62 116)) → (Q none (wr m 62 116 l1))) ∧ (¬ ((m 62 114) ≤ (m 62 116)) → (S_X8_qSums sc d 72 [aR 62, aI l1, aU] [aR 62] m Q))))) : S_X8_qSums sc d 53 [aR 62, aI l1, aU] [] m Q := by
  refine x_aload_n (pc2 := 54) dX8_qSums_53 rfl rfl ?_
  refine x_getf (pc2 := 57) (v := aI (m 62 5)) fl_X8_290 ic_62 (fv_i _ ic_62 rfl) dX8_qSums_54 rfl ?_
  obtain ⟨h1, k⟩ := k
  obtain ⟨k1, k2⟩ := k
  refine x_if_ne (tgt := 78) (pc2 := 60) dX8_qSums_57 (by decide) rfl h1 (fun c2 => ?_) (fun c2 => ?_)
  · replace k := k1 c2
    refine x_aload_n (pc2 := 79) dX8_qSums_78 rfl rfl ?_
    refine x_iload_n (pc2 := 80) dX8_qSums_79 rfl rfl ?_
    refine x_putf (pc2 := 83) (x := l1) fl_X8_392 ft_8_116 ic_62 (pv_i _ ic_62 rfl) (pn_i _) dX8_qSums_80 rfl ?_
    exact x_return dX8_qSums_83 rfl k
  · replace k := k2 c2
    refine x_aload_n (pc2 := 61) dX8_qSums_60 rfl rfl ?_
    refine x_getf (pc2 := 64) (v := aI (m 62 114)) fl_X8_386 ic_62 (fv_i _ ic_62 rfl) dX8_qSums_61 rfl ?_
    refine x_aload_n (pc2 := 65) dX8_qSums_64 rfl rfl ?_
    refine x_getf (pc2 := 68) (v := aI (m 62 116)) fl_X8_392 ic_62 (fv_i _ ic_62 rfl) dX8_qSums_65 rfl ?_
    obtain ⟨h3, k⟩ := k
    obtain ⟨h4, k⟩ := k
    obtain ⟨k1, k2⟩ := k
    refine x_icmp_le (tgt := 78) (pc2 := 71) dX8_qSums_68 (by decide) rfl h3 h4 (fun c5 => ?_) (fun c5 => ?_)
    · replace k := k1 c5
      refine x_aload_n (pc2 := 79) dX8_qSums_78 rfl rfl ?_
      refine x_iload_n (pc2 := 80) dX8_qSums_79 rfl rfl ?_
      refine x_putf (pc2 := 83) (x := l1) fl_X8_392 ft_8_116 ic_62 (pv_i _ ic_62 rfl) (pn_i _) dX8_qSums_80 rfl ?_
      exact x_return dX8_qSums_83 rfl k
    · replace k := k2 c5
      refine x_aload_n (pc2 := 72) dX8_qSums_71 rfl rfl ?_
      exact k
set_option maxRecDepth 4000 in
theorem g_X8_qSums_75 {sc : List Int} {d : Nat} {m : Mem} {Q : Option AV → Mem → Prop} {l1 : Int} (k : S_X8_qSums sc d 53 [aR 62, aI l1, aU] [] m Q) : S_X8_qSums sc d 75 [aR 62, aI l1, aU] [] m Q := by
  refine x_goto (tgt := 53) dX8_qSums_75 (by decide) ?_
  exact k
theorem c_X8_qSums_27 {sc : List Int} {d d2 : Nat} {m m2 : Mem} {Q : Option AV → Mem → Prop} {l1 : Int} (hM : C_X8_qPartTold sc d2 [aR 62] m none m2) (hd : d2 + 1 ≤ d) (k : S_X8_qSums sc d 30 [aR 62, aI l1, aU] [] m2 Q) : S_X8_qSums sc d 27 [aR 62, aI l1, aU] [aR 62] m Q := x_callV (as := []) (rest := []) hM mk_X8_qPartTold mv_X8_qPartTold lk_X8_667 (Or.inl ⟨8, (RX8, TX8, 123), ic_62, Nat.le_of_ble_eq_true rfl, rfl, rfl⟩) hd rfl rfl (Nat.le_of_ble_eq_true rfl) dX8_qSums_27 rfl k
theorem c_X8_qSums_38 {sc : List Int} {d d2 : Nat} {m m2 : Mem} {Q : Option AV → Mem → Prop} {l1 : Int} {v : Int} (hM : C_X8_qGoesOn sc d2 [aR 62] m (some (aI v)) m2) (hd : d2 + 1 ≤ d) (k : S_X8_qSums sc d 41 [aR 62, aI l1, aU] [aI v] m2 Q) : S_X8_qSums sc d 38 [aR 62, aI l1, aU] [aR 62] m Q := x_callV (as := []) (rest := []) hM mk_X8_qGoesOn mv_X8_qGoesOn lk_X8_670 (Or.inl ⟨8, (RX8, TX8, 123), ic_62, Nat.le_of_ble_eq_true rfl, rfl, rfl⟩) hd rfl rfl (Nat.le_of_ble_eq_true rfl) dX8_qSums_38 rfl k
theorem c_X8_qSums_72 {sc : List Int} {d d2 : Nat} {m m2 : Mem} {Q : Option AV → Mem → Prop} {l1 : Int} (hM : C_X8_qDrops sc d2 [aR 62] m none m2) (hd : d2 + 1 ≤ d) (k : S_X8_qSums sc d 75 [aR 62, aI l1, aU] [] m2 Q) : S_X8_qSums sc d 72 [aR 62, aI l1, aU] [aR 62] m Q := x_callV (as := []) (rest := []) hM mk_X8_qDrops mv_X8_qDrops lk_X8_637 (Or.inl ⟨8, (RX8, TX8, 123), ic_62, Nat.le_of_ble_eq_true rfl, rfl, rfl⟩) hd rfl rfl (Nat.le_of_ble_eq_true rfl) dX8_qSums_72 rfl k
set_option maxRecDepth 4000 in
theorem g_X8_qFact_0 {sc : List Int} {d : Nat} {m : Mem} {Q : Option AV → Mem → Prop} (k : S_X8_qFact sc d 5 [aR 62, aU] [aR 136, aR 62] m Q) : S_X8_qFact sc d 0 [aR 62, aU] [] m Q := by
  refine x_aload_n (pc2 := 1) dX8_qFact_0 rfl rfl ?_
  refine x_aload_n (pc2 := 2) dX8_qFact_1 rfl rfl ?_
  refine x_getf (pc2 := 5) (v := aR 136) fl_X8_239 ic_62 (vr_62_99 _) dX8_qFact_2 rfl ?_
  exact k
set_option maxRecDepth 4000 in
theorem g_X8_qFact_8 {sc : List Int} {d : Nat} {m : Mem} {Q : Option AV → Mem → Prop} {s0 : Int} (k : (-2147483648 ≤ s0 ∧ s0 < 2147483648) ∧ ((s0 = 0) → (S_X8_qFact sc d 19 [aR 62, aU] [aR 62] m Q)) ∧ (¬ (s0 = 0) → (S_X8_qFact sc d 14 [aR 62, aU] [aI 13, aR 62] m Q))) : S_X8_qFact sc d 8 [aR 62, aU] [aI s0] m Q := by
  obtain ⟨h1, k⟩ := k
  obtain ⟨k1, k2⟩ := k
  refine x_if_eq (tgt := 18) (pc2 := 11) dX8_qFact_8 (by decide) rfl h1 (fun c2 => ?_) (fun c2 => ?_)
  · replace k := k1 c2
    refine x_aload_n (pc2 := 19) dX8_qFact_18 rfl rfl ?_
    exact k
  · replace k := k2 c2
    refine x_aload_n (pc2 := 12) dX8_qFact_11 rfl rfl ?_
    refine x_bipush (pc2 := 14) dX8_qFact_12 rfl rfl ?_
    exact k
set_option maxRecDepth 4000 in
theorem g_X8_qFact_17 {sc : List Int} {d : Nat} {m : Mem} {Q : Option AV → Mem → Prop} (k : Q none m) : S_X8_qFact sc d 17 [aR 62, aU] [] m Q := by
  exact x_return dX8_qFact_17 rfl k
set_option maxRecDepth 4000 in
theorem g_X8_qFact_22 {sc : List Int} {d : Nat} {m : Mem} {Q : Option AV → Mem → Prop} (k : (-2147483648 ≤ (m 62 5) ∧ (m 62 5) < 2147483648) ∧ (((m 62 5) = 0) → (S_X8_qFact sc d 31 [aR 62, aU] [aR 62] m Q)) ∧ (¬ ((m 62 5) = 0) → (Q none m))) : S_X8_qFact sc d 22 [aR 62, aU] [] m Q := by
  refine x_aload_n (pc2 := 23) dX8_qFact_22 rfl rfl ?_
  refine x_getf (pc2 := 26) (v := aI (m 62 5)) fl_X8_290 ic_62 (fv_i _ ic_62 rfl) dX8_qFact_23 rfl ?_
  obtain ⟨h1, k⟩ := k
  obtain ⟨k1, k2⟩ := k
  refine x_if_eq (tgt := 30) (pc2 := 29) dX8_qFact_26 (by decide) rfl h1 (fun c2 => ?_) (fun c2 => ?_)
  · replace k := k1 c2
    refine x_aload_n (pc2 := 31) dX8_qFact_30 rfl rfl ?_
    exact k
  · replace k := k2 c2
    exact x_return dX8_qFact_29 rfl k
set_option maxRecDepth 4000 in
theorem g_X8_qFact_34 {sc : List Int} {d : Nat} {m : Mem} {Q : Option AV → Mem → Prop} {s0 : Int} (k : (-2147483648 ≤ s0 ∧ s0 < 2147483648) ∧ ((s0 = 60) → (S_X8_qFact sc d 74 [aR 62, aI s0] [aR 62] (wr m 62 2 ((m 62 2) + 1)) Q)) ∧ (¬ (s0 = 60) → (((s0 = 62) → (S_X8_qFact sc d 74 [aR 62, aI s0] [aR 62] (wr m 62 2 ((m 62 2) + 1)) Q)) ∧ (¬ (s0 = 62) → (((s0 = 61) → (S_X8_qFact sc d 74 [aR 62, aI s0] [aR 62] (wr m 62 2 ((m 62 2) + 1)) Q)) ∧ (¬ (s0 = 61) → (S_X8_qFact sc d 59 [aR 62, aU] [aI (m 62 2), aI 1, aR 62] m Q))))))) : S_X8_qFact sc d 34 [aR 62, aU] [aI s0] m Q := by
  refine x_istore_n (pc2 := 35) (ls2 := [aR 62, aI s0]) dX8_qFact_34 rfl (by decide) rfl ?_
  refine x_iload_n (pc2 := 36) dX8_qFact_35 rfl rfl ?_
  refine x_bipush (pc2 := 38) dX8_qFact_36 rfl rfl ?_
  obtain ⟨h1, k⟩ := k
  obtain ⟨k1, k2⟩ := k
  refine x_icmp_eq (tgt := 63) (pc2 := 41) dX8_qFact_38 (by decide) rfl h1 (by decide) (fun c2 => ?_) (fun c2 => ?_)
  · replace k := k1 c2
    refine x_aload_n (pc2 := 64) dX8_qFact_63 rfl rfl ?_
    refine x_dup_r (pc2 := 65) dX8_qFact_64 rfl (by decide) ?_
    refine x_getf (pc2 := 68) (v := aI (m 62 2)) fl_X8_296 ic_62 (fv_i _ ic_62 rfl) dX8_qFact_65 rfl ?_
    refine x_iconst (pc2 := 69) dX8_qFact_68 rfl ?_
    refine x_iadd (pc2 := 70) dX8_qFact_69 rfl ?_
    refine x_putf (pc2 := 73) (x := ((m 62 2) + 1)) fl_X8_296 ft_8_2 ic_62 (pv_i _ ic_62 rfl) (pn_i _) dX8_qFact_70 rfl ?_
    refine x_aload_n (pc2 := 74) dX8_qFact_73 rfl rfl ?_
    exact k
  · replace k := k2 c2
    refine x_iload_n (pc2 := 42) dX8_qFact_41 rfl rfl ?_
    refine x_bipush (pc2 := 44) dX8_qFact_42 rfl rfl ?_
    obtain ⟨k1, k2⟩ := k
    refine x_icmp_eq (tgt := 63) (pc2 := 47) dX8_qFact_44 (by decide) rfl h1 (by decide) (fun c3 => ?_) (fun c3 => ?_)
    · replace k := k1 c3
      refine x_aload_n (pc2 := 64) dX8_qFact_63 rfl rfl ?_
      refine x_dup_r (pc2 := 65) dX8_qFact_64 rfl (by decide) ?_
      refine x_getf (pc2 := 68) (v := aI (m 62 2)) fl_X8_296 ic_62 (fv_i _ ic_62 rfl) dX8_qFact_65 rfl ?_
      refine x_iconst (pc2 := 69) dX8_qFact_68 rfl ?_
      refine x_iadd (pc2 := 70) dX8_qFact_69 rfl ?_
      refine x_putf (pc2 := 73) (x := ((m 62 2) + 1)) fl_X8_296 ft_8_2 ic_62 (pv_i _ ic_62 rfl) (pn_i _) dX8_qFact_70 rfl ?_
      refine x_aload_n (pc2 := 74) dX8_qFact_73 rfl rfl ?_
      exact k
    · replace k := k2 c3
      refine x_iload_n (pc2 := 48) dX8_qFact_47 rfl rfl ?_
      refine x_bipush (pc2 := 50) dX8_qFact_48 rfl rfl ?_
      obtain ⟨k1, k2⟩ := k
      refine x_icmp_eq (tgt := 63) (pc2 := 53) dX8_qFact_50 (by decide) rfl h1 (by decide) (fun c4 => ?_) (fun c4 => ?_)
      · replace k := k1 c4
        refine x_aload_n (pc2 := 64) dX8_qFact_63 rfl rfl ?_
        refine x_dup_r (pc2 := 65) dX8_qFact_64 rfl (by decide) ?_
        refine x_getf (pc2 := 68) (v := aI (m 62 2)) fl_X8_296 ic_62 (fv_i _ ic_62 rfl) dX8_qFact_65 rfl ?_
        refine x_iconst (pc2 := 69) dX8_qFact_68 rfl ?_
        refine x_iadd (pc2 := 70) dX8_qFact_69 rfl ?_
        refine x_putf (pc2 := 73) (x := ((m 62 2) + 1)) fl_X8_296 ft_8_2 ic_62 (pv_i _ ic_62 rfl) (pn_i _) dX8_qFact_70 rfl ?_
        refine x_aload_n (pc2 := 74) dX8_qFact_73 rfl rfl ?_
        exact k
      · replace k := k2 c4
        refine x_aload_n (pc2 := 54) dX8_qFact_53 rfl rfl ?_
        refine x_iconst (pc2 := 55) dX8_qFact_54 rfl ?_
        refine x_aload_n (pc2 := 56) dX8_qFact_55 rfl rfl ?_
        refine x_getf (pc2 := 59) (v := aI (m 62 2)) fl_X8_296 ic_62 (fv_i _ ic_62 rfl) dX8_qFact_56 rfl ?_
        exact x_drop (drp_k (drp_u drp_n)) k
set_option maxRecDepth 4000 in
theorem g_X8_qFact_62 {sc : List Int} {d : Nat} {m : Mem} {Q : Option AV → Mem → Prop} (k : Q none m) : S_X8_qFact sc d 62 [aR 62, aU] [] m Q := by
  exact x_return dX8_qFact_62 rfl k
set_option maxRecDepth 4000 in
theorem g_X8_qFact_77 {sc : List Int} {d : Nat} {m : Mem} {Q : Option AV → Mem → Prop} {l1 : Int} (k : ((-2147483648 ≤ l1 ∧ l1 < 2147483648)) ∧ S_X8_qFact sc d 102 [aR 62, aU] [aI (if l1 ≠ 60 then (if l1 ≠ 62 then 9 else 8 : Int) else 7 : Int), aR 62] m Q) : S_X8_qFact sc d 77 [aR 62, aI l1] [] m Q := by
  refine x_aload_n (pc2 := 78) dX8_qFact_77 rfl rfl ?_
  refine x_iload_n (pc2 := 79) dX8_qFact_78 rfl rfl ?_
  refine x_bipush (pc2 := 81) dX8_qFact_79 rfl rfl ?_
  obtain ⟨g2, k⟩ := k
  have kj : S_X8_qFact sc d 102 [aR 62, aI l1] [aI (if l1 ≠ 60 then (if l1 ≠ 62 then 9 else 8 : Int) else 7 : Int), aR 62] m Q := by
    exact x_drop (drp_k (drp_u drp_n)) k
  have h3 := g2 
  refine x_icmp_ne (tgt := 89) (pc2 := 84) dX8_qFact_81 (by decide) rfl h3 (by decide) (fun c4 => ?_) (fun c4 => ?_)
  · skip
    refine x_iload_n (pc2 := 90) dX8_qFact_89 rfl rfl ?_
    refine x_bipush (pc2 := 92) dX8_qFact_90 rfl rfl ?_
    refine x_icmp_ne (tgt := 100) (pc2 := 95) dX8_qFact_92 (by decide) rfl h3 (by decide) (fun c5 => ?_) (fun c5 => ?_)
    · skip
      refine x_bipush (pc2 := 102) dX8_qFact_100 rfl rfl ?_
      exact x_topI (v := (if l1 ≠ 60 then (if l1 ≠ 62 then 9 else 8 : Int) else 7 : Int)) ((if_pos c4).trans (if_pos c5)) kj
    · skip
      refine x_bipush (pc2 := 97) dX8_qFact_95 rfl rfl ?_
      refine x_goto (tgt := 102) dX8_qFact_97 (by decide) ?_
      exact x_topI (v := (if l1 ≠ 60 then (if l1 ≠ 62 then 9 else 8 : Int) else 7 : Int)) ((if_pos c4).trans (if_neg c5)) kj
  · skip
    refine x_bipush (pc2 := 86) dX8_qFact_84 rfl rfl ?_
    refine x_goto (tgt := 102) dX8_qFact_86 (by decide) ?_
    exact x_topI (v := (if l1 ≠ 60 then (if l1 ≠ 62 then 9 else 8 : Int) else 7 : Int)) (if_neg c4) kj
set_option maxRecDepth 4000 in
theorem g_X8_qFact_105 {sc : List Int} {d : Nat} {m : Mem} {Q : Option AV → Mem → Prop} (k : Q none m) : S_X8_qFact sc d 105 [aR 62, aU] [] m Q := by
  exact x_return dX8_qFact_105 rfl k
theorem c_X8_qFact_5 {sc : List Int} {d d2 : Nat} {m m2 : Mem} {Q : Option AV → Mem → Prop} {s1 : Int} {v : Int} (Hs1 : IsC s1 102) (hM : C_X8_takes sc d2 [aR 62, aR s1] m (some (aI v)) m2) (hd : d2 + 1 ≤ d) (k : S_X8_qFact sc d 8 [aR 62, aU] [aI v] m2 Q) : S_X8_qFact sc d 5 [aR 62, aU] [aR s1, aR 62] m Q := x_callV (as := [aR s1]) (rest := []) hM mk_X8_takes mv_X8_takes lk_X8_317 (Or.inl ⟨8, (RX8, TX8, 123), ic_62, Nat.le_of_ble_eq_true rfl, rfl, rfl⟩) hd rfl rfl (Nat.le_of_ble_eq_true rfl) dX8_qFact_5 rfl k
theorem c_X8_qFact_14 {sc : List Int} {d d2 : Nat} {m m2 : Mem} {Q : Option AV → Mem → Prop} {s1 : Int} (hM : C_X8_qCode sc d2 [aR 62, aI s1] m none m2) (hd : d2 + 1 ≤ d) (k : S_X8_qFact sc d 17 [aR 62, aU] [] m2 Q) : S_X8_qFact sc d 14 [aR 62, aU] [aI s1, aR 62] m Q := x_callV (as := [aI s1]) (rest := []) hM mk_X8_qCode mv_X8_qCode lk_X8_631 (Or.inl ⟨8, (RX8, TX8, 123), ic_62, Nat.le_of_ble_eq_true rfl, rfl, rfl⟩) hd rfl rfl (Nat.le_of_ble_eq_true rfl) dX8_qFact_14 rfl k
theorem c_X8_qFact_19 {sc : List Int} {d d2 : Nat} {m m2 : Mem} {Q : Option AV → Mem → Prop} (hM : C_X8_qSums sc d2 [aR 62] m none m2) (hd : d2 + 1 ≤ d) (k : S_X8_qFact sc d 22 [aR 62, aU] [] m2 Q) : S_X8_qFact sc d 19 [aR 62, aU] [aR 62] m Q := x_callV (as := []) (rest := []) hM mk_X8_qSums mv_X8_qSums lk_X8_673 (Or.inl ⟨8, (RX8, TX8, 123), ic_62, Nat.le_of_ble_eq_true rfl, rfl, rfl⟩) hd rfl rfl (Nat.le_of_ble_eq_true rfl) dX8_qFact_19 rfl k
theorem c_X8_qFact_31 {sc : List Int} {d d2 : Nat} {m m2 : Mem} {Q : Option AV → Mem → Prop} {v : Int} (hM : C_X8_look sc d2 [aR 62] m (some (aI v)) m2) (hd : d2 + 1 ≤ d) (k : S_X8_qFact sc d 34 [aR 62, aU] [aI v] m2 Q) : S_X8_qFact sc d 31 [aR 62, aU] [aR 62] m Q := x_callV (as := []) (rest := []) hM mk_X8_look mv_X8_look lk_X8_302 (Or.inl ⟨8, (RX8, TX8, 123), ic_62, Nat.le_of_ble_eq_true rfl, rfl, rfl⟩) hd rfl rfl (Nat.le_of_ble_eq_true rfl) dX8_qFact_31 rfl k
theorem c_X8_qFact_59 {sc : List Int} {d d2 : Nat} {m m2 : Mem} {Q : Option AV → Mem → Prop} {s1 s2 : Int} (hM : C_X8_fail sc d2 [aR 62, aI s1, aI s2] m none m2) (hd : d2 + 1 ≤ d) (k : S_X8_qFact sc d 62 [aR 62, aU] [] m2 Q) : S_X8_qFact sc d 59 [aR 62, aU] [aI s2, aI s1, aR 62] m Q := x_callV (as := [aI s1, aI s2]) (rest := []) hM mk_X8_fail mv_X8_fail lk_X8_320 (Or.inl ⟨8, (RX8, TX8, 123), ic_62, Nat.le_of_ble_eq_true rfl, rfl, rfl⟩) hd rfl rfl (Nat.le_of_ble_eq_true rfl) dX8_qFact_59 rfl k
theorem c_X8_qFact_74 {sc : List Int} {d d2 : Nat} {m m2 : Mem} {Q : Option AV → Mem → Prop} {l1 : Int} (hM : C_X8_qSums sc d2 [aR 62] m none m2) (hd : d2 + 1 ≤ d) (k : S_X8_qFact sc d 77 [aR 62, aI l1] [] m2 Q) : S_X8_qFact sc d 74 [aR 62, aI l1] [aR 62] m Q := x_callV (as := []) (rest := []) hM mk_X8_qSums mv_X8_qSums lk_X8_673 (Or.inl ⟨8, (RX8, TX8, 123), ic_62, Nat.le_of_ble_eq_true rfl, rfl, rfl⟩) hd rfl rfl (Nat.le_of_ble_eq_true rfl) dX8_qFact_74 rfl k
theorem c_X8_qFact_102 {sc : List Int} {d d2 : Nat} {m m2 : Mem} {Q : Option AV → Mem → Prop} {s1 : Int} (hM : C_X8_qCode sc d2 [aR 62, aI s1] m none m2) (hd : d2 + 1 ≤ d) (k : S_X8_qFact sc d 105 [aR 62, aU] [] m2 Q) : S_X8_qFact sc d 102 [aR 62, aU] [aI s1, aR 62] m Q := x_callV (as := [aI s1]) (rest := []) hM mk_X8_qCode mv_X8_qCode lk_X8_631 (Or.inl ⟨8, (RX8, TX8, 123), ic_62, Nat.le_of_ble_eq_true rfl, rfl, rfl⟩) hd rfl rfl (Nat.le_of_ble_eq_true rfl) dX8_qFact_102 rfl k
set_option maxRecDepth 4000 in
theorem g_X8_qHasSquare_0 {sc : List Int} {d : Nat} {m : Mem} {Q : Option AV → Mem → Prop} (k : S_X8_qHasSquare sc d 2 [aR 62, aI 0] [] m Q) : S_X8_qHasSquare sc d 0 [aR 62, aU] [] m Q := by
  refine x_iconst (pc2 := 1) dX8_qHasSquare_0 rfl ?_
  refine x_istore_n (pc2 := 2) (ls2 := [aR 62, aI 0]) dX8_qHasSquare_1 rfl (by decide) rfl ?_
  exact k
set_option maxRecDepth 4000 in
theorem g_X8_qHasSquare_2 {sc : List Int} {d : Nat} {m : Mem} {Q : Option AV → Mem → Prop} {l1 : Int} (k : (-2147483648 ≤ l1 ∧ l1 < 2147483648) ∧ (-2147483648 ≤ (m 62 114) ∧ (m 62 114) < 2147483648) ∧ (((m 62 114) ≤ l1) → (Q (some (aI 0)) m)) ∧ (¬ ((m 62 114) ≤ l1) → ((0 ≤ l1) ∧ (l1 < 1700) ∧ (-2147483648 ≤ (m 149 l1) ∧ (m 149 l1) < 2147483648) ∧ (((m 149 l1) ≠ 25) → (S_X8_qHasSquare sc d 2 [aR 62, aI (l1 + 1)] [] m Q)) ∧ (¬ ((m 149 l1) ≠ 25) → (Q (some (aI 1)) m))))) : S_X8_qHasSquare sc d 2 [aR 62, aI l1] [] m Q := by
  refine x_iload_n (pc2 := 3) dX8_qHasSquare_2 rfl rfl ?_
  refine x_aload_n (pc2 := 4) dX8_qHasSquare_3 rfl rfl ?_
  refine x_getf (pc2 := 7) (v := aI (m 62 114)) fl_X8_386 ic_62 (fv_i _ ic_62 rfl) dX8_qHasSquare_4 rfl ?_
  obtain ⟨h1, k⟩ := k
  obtain ⟨h2, k⟩ := k
  obtain ⟨k1, k2⟩ := k
  refine x_icmp_ge (tgt := 29) (pc2 := 10) dX8_qHasSquare_7 (by decide) rfl h1 h2 (fun c3 => ?_) (fun c3 => ?_)
  · replace k := k1 c3
    refine x_iconst (pc2 := 30) dX8_qHasSquare_29 rfl ?_
    exact x_ireturn dX8_qHasSquare_30 ⟨.boolean, rfl, rfl⟩ k
  · replace k := k2 c3
    refine x_aload_n (pc2 := 11) dX8_qHasSquare_10 rfl rfl ?_
    refine x_getf (pc2 := 14) (v := aR 149) fl_X8_278 ic_62 (vr_62_113 _) dX8_qHasSquare_11 rfl ?_
    refine x_iload_n (pc2 := 15) dX8_qHasSquare_14 rfl rfl ?_
    obtain ⟨h4, k⟩ := k
    obtain ⟨h5, k⟩ := k
    refine x_iald (pc2 := 16) ic_149 h4 (by rw [al_149]; exact h5) dX8_qHasSquare_15 rfl ?_
    refine x_bipush (pc2 := 18) dX8_qHasSquare_16 rfl rfl ?_
    obtain ⟨h6, k⟩ := k
    obtain ⟨k1, k2⟩ := k
    refine x_icmp_ne (tgt := 23) (pc2 := 21) dX8_qHasSquare_18 (by decide) rfl h6 (by decide) (fun c7 => ?_) (fun c7 => ?_)
    · replace k := k1 c7
      refine x_iinc (pc2 := 26) (ls2 := [aR 62, aI (l1 + 1)]) dX8_qHasSquare_23 rfl rfl (by decide) rfl ?_
      refine x_goto (tgt := 2) dX8_qHasSquare_26 (by decide) ?_
      exact k
    · replace k := k2 c7
      refine x_iconst (pc2 := 22) dX8_qHasSquare_21 rfl ?_
      exact x_ireturn dX8_qHasSquare_22 ⟨.boolean, rfl, rfl⟩ k
set_option maxRecDepth 4000 in
theorem g_X8_qDropsNots_0 {sc : List Int} {d : Nat} {m : Mem} {Q : Option AV → Mem → Prop} (k : (-2147483648 ≤ (m 62 5) ∧ (m 62 5) < 2147483648) ∧ (((m 62 5) ≠ 0) → (Q none m)) ∧ (¬ ((m 62 5) ≠ 0) → (S_X8_qDropsNots sc d 10 [aR 62] [aI 12, aR 62] m Q))) : S_X8_qDropsNots sc d 0 [aR 62] [] m Q := by
  refine x_aload_n (pc2 := 1) dX8_qDropsNots_0 rfl rfl ?_
  refine x_getf (pc2 := 4) (v := aI (m 62 5)) fl_X8_290 ic_62 (fv_i _ ic_62 rfl) dX8_qDropsNots_1 rfl ?_
  obtain ⟨h1, k⟩ := k
  obtain ⟨k1, k2⟩ := k
  refine x_if_ne (tgt := 33) (pc2 := 7) dX8_qDropsNots_4 (by decide) rfl h1 (fun c2 => ?_) (fun c2 => ?_)
  · replace k := k1 c2
    exact x_return dX8_qDropsNots_33 rfl k
  · replace k := k2 c2
    refine x_aload_n (pc2 := 8) dX8_qDropsNots_7 rfl rfl ?_
    refine x_bipush (pc2 := 10) dX8_qDropsNots_8 rfl rfl ?_
    exact k
set_option maxRecDepth 4000 in
theorem g_X8_qDropsNots_13 {sc : List Int} {d : Nat} {m : Mem} {Q : Option AV → Mem → Prop} {s0 : Int} (k : (-2147483648 ≤ s0 ∧ s0 < 2147483648) ∧ ((s0 = 0) → (Q none m)) ∧ (¬ (s0 = 0) → (S_X8_qDropsNots sc d 27 [aR 62] [aR 62] (wr m 62 115 ((m 62 115) - 1)) Q))) : S_X8_qDropsNots sc d 13 [aR 62] [aI s0] m Q := by
  obtain ⟨h1, k⟩ := k
  obtain ⟨k1, k2⟩ := k
  refine x_if_eq (tgt := 33) (pc2 := 16) dX8_qDropsNots_13 (by decide) rfl h1 (fun c2 => ?_) (fun c2 => ?_)
  · replace k := k1 c2
    exact x_return dX8_qDropsNots_33 rfl k
  · replace k := k2 c2
    refine x_aload_n (pc2 := 17) dX8_qDropsNots_16 rfl rfl ?_
    refine x_dup_r (pc2 := 18) dX8_qDropsNots_17 rfl (by decide) ?_
    refine x_getf (pc2 := 21) (v := aI (m 62 115)) fl_X8_389 ic_62 (fv_i _ ic_62 rfl) dX8_qDropsNots_18 rfl ?_
    refine x_iconst (pc2 := 22) dX8_qDropsNots_21 rfl ?_
    refine x_isub (pc2 := 23) dX8_qDropsNots_22 rfl ?_
    refine x_putf (pc2 := 26) (x := ((m 62 115) - 1)) fl_X8_389 ft_8_115 ic_62 (pv_i _ ic_62 rfl) (pn_i _) dX8_qDropsNots_23 rfl ?_
    refine x_aload_n (pc2 := 27) dX8_qDropsNots_26 rfl rfl ?_
    exact k
set_option maxRecDepth 4000 in
theorem g_X8_qDropsNots_30 {sc : List Int} {d : Nat} {m : Mem} {Q : Option AV → Mem → Prop} (k : S_X8_qDropsNots sc d 0 [aR 62] [] m Q) : S_X8_qDropsNots sc d 30 [aR 62] [] m Q := by
  refine x_goto (tgt := 0) dX8_qDropsNots_30 (by decide) ?_
  exact k
theorem c_X8_qDropsNots_10 {sc : List Int} {d d2 : Nat} {m m2 : Mem} {Q : Option AV → Mem → Prop} {s1 : Int} {v : Int} (hM : C_X8_qIsOn sc d2 [aR 62, aI s1] m (some (aI v)) m2) (hd : d2 + 1 ≤ d) (k : S_X8_qDropsNots sc d 13 [aR 62] [aI v] m2 Q) : S_X8_qDropsNots sc d 10 [aR 62] [aI s1, aR 62] m Q := x_callV (as := [aI s1]) (rest := []) hM mk_X8_qIsOn mv_X8_qIsOn lk_X8_664 (Or.inl ⟨8, (RX8, TX8, 123), ic_62, Nat.le_of_ble_eq_true rfl, rfl, rfl⟩) hd rfl rfl (Nat.le_of_ble_eq_true rfl) dX8_qDropsNots_10 rfl k
theorem c_X8_qDropsNots_27 {sc : List Int} {d d2 : Nat} {m m2 : Mem} {Q : Option AV → Mem → Prop} (hM : C_X8_qDrops sc d2 [aR 62] m none m2) (hd : d2 + 1 ≤ d) (k : S_X8_qDropsNots sc d 30 [aR 62] [] m2 Q) : S_X8_qDropsNots sc d 27 [aR 62] [aR 62] m Q := x_callV (as := []) (rest := []) hM mk_X8_qDrops mv_X8_qDrops lk_X8_637 (Or.inl ⟨8, (RX8, TX8, 123), ic_62, Nat.le_of_ble_eq_true rfl, rfl, rfl⟩) hd rfl rfl (Nat.le_of_ble_eq_true rfl) dX8_qDropsNots_27 rfl k
set_option maxRecDepth 4000 in
theorem g_X8_qTest_0 {sc : List Int} {d : Nat} {m : Mem} {Q : Option AV → Mem → Prop} (k : S_X8_qTest sc d 2 [aR 62, aI 1, aU] [] m Q) : S_X8_qTest sc d 0 [aR 62, aU, aU] [] m Q := by
  refine x_iconst (pc2 := 1) dX8_qTest_0 rfl ?_
  refine x_istore_n (pc2 := 2) (ls2 := [aR 62, aI 1, aU]) dX8_qTest_1 rfl (by decide) rfl ?_
  exact k
set_option maxRecDepth 4000 in
theorem g_X8_qTest_2 {sc : List Int} {d : Nat} {m : Mem} {Q : Option AV → Mem → Prop} {l1 : Int} (k : (-2147483648 ≤ l1 ∧ l1 < 2147483648) ∧ ((l1 = 0) → (S_X8_qTest sc d 110 [aR 62, aU, aU] [] m Q)) ∧ (¬ (l1 = 0) → ((-2147483648 ≤ (m 62 5) ∧ (m 62 5) < 2147483648) ∧ (((m 62 5) ≠ 0) → (S_X8_qTest sc d 110 [aR 62, aU, aU] [] m Q)) ∧ (¬ ((m 62 5) ≠ 0) → (S_X8_qTest sc d 14 [aR 62, aI l1, aU] [aR 62] m Q))))) : S_X8_qTest sc d 2 [aR 62, aI l1, aU] [] m Q := by
  refine x_iload_n (pc2 := 3) dX8_qTest_2 rfl rfl ?_
  obtain ⟨h1, k⟩ := k
  obtain ⟨k1, k2⟩ := k
  refine x_if_eq (tgt := 110) (pc2 := 6) dX8_qTest_3 (by decide) rfl h1 (fun c2 => ?_) (fun c2 => ?_)
  · replace k := k1 c2
    exact x_drop (drp_k (drp_u (drp_k drp_n))) k
  · replace k := k2 c2
    refine x_aload_n (pc2 := 7) dX8_qTest_6 rfl rfl ?_
    refine x_getf (pc2 := 10) (v := aI (m 62 5)) fl_X8_290 ic_62 (fv_i _ ic_62 rfl) dX8_qTest_7 rfl ?_
    obtain ⟨h3, k⟩ := k
    obtain ⟨k1, k2⟩ := k
    refine x_if_ne (tgt := 110) (pc2 := 13) dX8_qTest_10 (by decide) rfl h3 (fun c4 => ?_) (fun c4 => ?_)
    · replace k := k1 c4
      exact x_drop (drp_k (drp_u (drp_k drp_n))) k
    · replace k := k2 c4
      refine x_aload_n (pc2 := 14) dX8_qTest_13 rfl rfl ?_
      exact k
set_option maxRecDepth 4000 in
theorem g_X8_qTest_17 {sc : List Int} {d : Nat} {m : Mem} {Q : Option AV → Mem → Prop} {l1 s0 : Int} (k : (-2147483648 ≤ s0 ∧ s0 < 2147483648) ∧ ((s0 ≠ 91) → (S_X8_qTest sc d 52 [aR 62, aI l1, aU] [aR 133, aR 62] m Q)) ∧ (¬ (s0 ≠ 91) → (S_X8_qTest sc d 31 [aR 62, aI l1, aU] [aI (m 62 2), aI 25, aR 62] m Q))) : S_X8_qTest sc d 17 [aR 62, aI l1, aU] [aI s0] m Q := by
  refine x_istore_n (pc2 := 18) (ls2 := [aR 62, aI l1, aI s0]) dX8_qTest_17 rfl (by decide) rfl ?_
  refine x_iload_n (pc2 := 19) dX8_qTest_18 rfl rfl ?_
  refine x_bipush (pc2 := 21) dX8_qTest_19 rfl rfl ?_
  obtain ⟨h1, k⟩ := k
  obtain ⟨k1, k2⟩ := k
  refine x_icmp_ne (tgt := 47) (pc2 := 24) dX8_qTest_21 (by decide) rfl h1 (by decide) (fun c2 => ?_) (fun c2 => ?_)
  · replace k := k1 c2
    refine x_aload_n (pc2 := 48) dX8_qTest_47 rfl rfl ?_
    refine x_aload_n (pc2 := 49) dX8_qTest_48 rfl rfl ?_
    refine x_getf (pc2 := 52) (v := aR 133) fl_X8_230 ic_62 (vr_62_96 _) dX8_qTest_49 rfl ?_
    exact x_drop (drp_k (drp_k (drp_u drp_n))) k
  · replace k := k2 c2
    refine x_aload_n (pc2 := 25) dX8_qTest_24 rfl rfl ?_
    refine x_bipush (pc2 := 27) dX8_qTest_25 rfl rfl ?_
    refine x_aload_n (pc2 := 28) dX8_qTest_27 rfl rfl ?_
    refine x_getf (pc2 := 31) (v := aI (m 62 2)) fl_X8_296 ic_62 (fv_i _ ic_62 rfl) dX8_qTest_28 rfl ?_
    exact x_drop (drp_k (drp_k (drp_u drp_n))) k
set_option maxRecDepth 4000 in
theorem g_X8_qTest_34 {sc : List Int} {d : Nat} {m : Mem} {Q : Option AV → Mem → Prop} {l1 : Int} (k : S_X8_qTest sc d 2 [aR 62, aI l1, aU] [] (wr m 62 2 ((m 62 2) + 1)) Q) : S_X8_qTest sc d 34 [aR 62, aI l1, aU] [] m Q := by
  refine x_aload_n (pc2 := 35) dX8_qTest_34 rfl rfl ?_
  refine x_dup_r (pc2 := 36) dX8_qTest_35 rfl (by decide) ?_
  refine x_getf (pc2 := 39) (v := aI (m 62 2)) fl_X8_296 ic_62 (fv_i _ ic_62 rfl) dX8_qTest_36 rfl ?_
  refine x_iconst (pc2 := 40) dX8_qTest_39 rfl ?_
  refine x_iadd (pc2 := 41) dX8_qTest_40 rfl ?_
  refine x_putf (pc2 := 44) (x := ((m 62 2) + 1)) fl_X8_296 ft_8_2 ic_62 (pv_i _ ic_62 rfl) (pn_i _) dX8_qTest_41 rfl ?_
  refine x_goto (tgt := 2) dX8_qTest_44 (by decide) ?_
  exact k
set_option maxRecDepth 4000 in
theorem g_X8_qTest_55 {sc : List Int} {d : Nat} {m : Mem} {Q : Option AV → Mem → Prop} {l1 s0 : Int} (k : (-2147483648 ≤ s0 ∧ s0 < 2147483648) ∧ ((s0 = 0) → (S_X8_qTest sc d 80 [aR 62, aU, aU] [aR 62] m Q)) ∧ (¬ (s0 = 0) → (S_X8_qTest sc d 65 [aR 62, aI l1, aU] [aI (m 62 2), aI 12, aR 62] m Q))) : S_X8_qTest sc d 55 [aR 62, aI l1, aU] [aI s0] m Q := by
  obtain ⟨h1, k⟩ := k
  obtain ⟨k1, k2⟩ := k
  refine x_if_eq (tgt := 79) (pc2 := 58) dX8_qTest_55 (by decide) rfl h1 (fun c2 => ?_) (fun c2 => ?_)
  · replace k := k1 c2
    refine x_aload_n (pc2 := 80) dX8_qTest_79 rfl rfl ?_
    exact x_drop (drp_k (drp_u (drp_k drp_n))) k
  · replace k := k2 c2
    refine x_aload_n (pc2 := 59) dX8_qTest_58 rfl rfl ?_
    refine x_bipush (pc2 := 61) dX8_qTest_59 rfl rfl ?_
    refine x_aload_n (pc2 := 62) dX8_qTest_61 rfl rfl ?_
    refine x_getf (pc2 := 65) (v := aI (m 62 2)) fl_X8_296 ic_62 (fv_i _ ic_62 rfl) dX8_qTest_62 rfl ?_
    exact k
set_option maxRecDepth 4000 in
theorem g_X8_qTest_68 {sc : List Int} {d : Nat} {m : Mem} {Q : Option AV → Mem → Prop} {l1 : Int} (k : S_X8_qTest sc d 73 [aR 62, aI l1, aU] [aR 133, aR 62] m Q) : S_X8_qTest sc d 68 [aR 62, aI l1, aU] [] m Q := by
  refine x_aload_n (pc2 := 69) dX8_qTest_68 rfl rfl ?_
  refine x_aload_n (pc2 := 70) dX8_qTest_69 rfl rfl ?_
  refine x_getf (pc2 := 73) (v := aR 133) fl_X8_230 ic_62 (vr_62_96 _) dX8_qTest_70 rfl ?_
  exact k
set_option maxRecDepth 4000 in
theorem g_X8_qTest_76 {sc : List Int} {d : Nat} {m : Mem} {Q : Option AV → Mem → Prop} {l1 : Int} (k : S_X8_qTest sc d 2 [aR 62, aI l1, aU] [] m Q) : S_X8_qTest sc d 76 [aR 62, aI l1, aU] [] m Q := by
  refine x_goto (tgt := 2) dX8_qTest_76 (by decide) ?_
  exact k
set_option maxRecDepth 4000 in
theorem g_X8_qTest_83 {sc : List Int} {d : Nat} {m : Mem} {Q : Option AV → Mem → Prop} (k : S_X8_qTest sc d 84 [aR 62, aU, aU] [aR 62] m Q) : S_X8_qTest sc d 83 [aR 62, aU, aU] [] m Q := by
  refine x_aload_n (pc2 := 84) dX8_qTest_83 rfl rfl ?_
  exact k
set_option maxRecDepth 4000 in
theorem g_X8_qTest_87 {sc : List Int} {d : Nat} {m : Mem} {Q : Option AV → Mem → Prop} (k : (-2147483648 ≤ (m 62 5) ∧ (m 62 5) < 2147483648) ∧ (((m 62 5) ≠ 0) → (S_X8_qTest sc d 2 [aR 62, aI 0, aU] [] m Q)) ∧ (¬ ((m 62 5) ≠ 0) → (S_X8_qTest sc d 95 [aR 62, aU, aU] [aR 62] m Q))) : S_X8_qTest sc d 87 [aR 62, aU, aU] [] m Q := by
  refine x_aload_n (pc2 := 88) dX8_qTest_87 rfl rfl ?_
  refine x_getf (pc2 := 91) (v := aI (m 62 5)) fl_X8_290 ic_62 (fv_i _ ic_62 rfl) dX8_qTest_88 rfl ?_
  obtain ⟨h1, k⟩ := k
  obtain ⟨k1, k2⟩ := k
  refine x_if_ne (tgt := 105) (pc2 := 94) dX8_qTest_91 (by decide) rfl h1 (fun c2 => ?_) (fun c2 => ?_)
  · replace k := k1 c2
    refine x_iconst (pc2 := 106) dX8_qTest_105 rfl ?_
    refine x_istore_n (pc2 := 107) (ls2 := [aR 62, aI 0, aU]) dX8_qTest_106 rfl (by decide) rfl ?_
    refine x_goto (tgt := 2) dX8_qTest_107 (by decide) ?_
    exact k
  · replace k := k2 c2
    refine x_aload_n (pc2 := 95) dX8_qTest_94 rfl rfl ?_
    exact k
set_option maxRecDepth 4000 in
theorem g_X8_qTest_98 {sc : List Int} {d : Nat} {m : Mem} {Q : Option AV → Mem → Prop} {s0 : Int} (k : ((-2147483648 ≤ s0 ∧ s0 < 2147483648)) ∧ S_X8_qTest sc d 2 [aR 62, aI (if s0 = 0 then 0 else 1 : Int), aU] [] m Q) : S_X8_qTest sc d 98 [aR 62, aU, aU] [aI s0] m Q := by
  obtain ⟨g2, k⟩ := k
  have kj : S_X8_qTest sc d 106 [aR 62, aU, aU] [aI (if s0 = 0 then 0 else 1 : Int)] m Q := by
    refine x_istore_n (pc2 := 107) (ls2 := [aR 62, aI (if s0 = 0 then 0 else 1 : Int), aU]) dX8_qTest_106 rfl (by decide) rfl ?_
    refine x_goto (tgt := 2) dX8_qTest_107 (by decide) ?_
    exact k
  have h3 := g2 
  refine x_if_eq (tgt := 105) (pc2 := 101) dX8_qTest_98 (by decide) rfl h3 (fun c4 => ?_) (fun c4 => ?_)
  · skip
    refine x_iconst (pc2 := 106) dX8_qTest_105 rfl ?_
    exact x_topI (v := (if s0 = 0 then 0 else 1 : Int)) (if_pos c4) kj
  · skip
    refine x_iconst (pc2 := 102) dX8_qTest_101 rfl ?_
    refine x_goto (tgt := 106) dX8_qTest_102 (by decide) ?_
    exact x_topI (v := (if s0 = 0 then 0 else 1 : Int)) (if_neg c4) kj
set_option maxRecDepth 4000 in
theorem g_X8_qTest_110 {sc : List Int} {d : Nat} {m : Mem} {Q : Option AV → Mem → Prop} (k : (-2147483648 ≤ (m 62 5) ∧ (m 62 5) < 2147483648) ∧ (((m 62 5) ≠ 0) → (Q none m)) ∧ (¬ ((m 62 5) ≠ 0) → ((-2147483648 ≤ (m 62 114) ∧ (m 62 114) < 2147483648) ∧ (((m 62 114) ≤ 0) → (Q none m)) ∧ (¬ ((m 62 114) ≤ 0) → (S_X8_qTest sc d 125 [aR 62, aU, aU] [aR 62] m Q))))) : S_X8_qTest sc d 110 [aR 62, aU, aU] [] m Q := by
  refine x_aload_n (pc2 := 111) dX8_qTest_110 rfl rfl ?_
  refine x_getf (pc2 := 114) (v := aI (m 62 5)) fl_X8_290 ic_62 (fv_i _ ic_62 rfl) dX8_qTest_111 rfl ?_
  obtain ⟨h1, k⟩ := k
  obtain ⟨k1, k2⟩ := k
  refine x_if_ne (tgt := 131) (pc2 := 117) dX8_qTest_114 (by decide) rfl h1 (fun c2 => ?_) (fun c2 => ?_)
  · replace k := k1 c2
    exact x_return dX8_qTest_131 rfl k
  · replace k := k2 c2
    refine x_aload_n (pc2 := 118) dX8_qTest_117 rfl rfl ?_
    refine x_getf (pc2 := 121) (v := aI (m 62 114)) fl_X8_386 ic_62 (fv_i _ ic_62 rfl) dX8_qTest_118 rfl ?_
    obtain ⟨h3, k⟩ := k
    obtain ⟨k1, k2⟩ := k
    refine x_if_le (tgt := 131) (pc2 := 124) dX8_qTest_121 (by decide) rfl h3 (fun c4 => ?_) (fun c4 => ?_)
    · replace k := k1 c4
      exact x_return dX8_qTest_131 rfl k
    · replace k := k2 c4
      refine x_aload_n (pc2 := 125) dX8_qTest_124 rfl rfl ?_
      exact k
set_option maxRecDepth 4000 in
theorem g_X8_qTest_128 {sc : List Int} {d : Nat} {m : Mem} {Q : Option AV → Mem → Prop} (k : S_X8_qTest sc d 110 [aR 62, aU, aU] [] m Q) : S_X8_qTest sc d 128 [aR 62, aU, aU] [] m Q := by
  refine x_goto (tgt := 110) dX8_qTest_128 (by decide) ?_
  exact k
theorem c_X8_qTest_14 {sc : List Int} {d d2 : Nat} {m m2 : Mem} {Q : Option AV → Mem → Prop} {l1 : Int} {v : Int} (hM : C_X8_look sc d2 [aR 62] m (some (aI v)) m2) (hd : d2 + 1 ≤ d) (k : S_X8_qTest sc d 17 [aR 62, aI l1, aU] [aI v] m2 Q) : S_X8_qTest sc d 14 [aR 62, aI l1, aU] [aR 62] m Q := x_callV (as := []) (rest := []) hM mk_X8_look mv_X8_look lk_X8_302 (Or.inl ⟨8, (RX8, TX8, 123), ic_62, Nat.le_of_ble_eq_true rfl, rfl, rfl⟩) hd rfl rfl (Nat.le_of_ble_eq_true rfl) dX8_qTest_14 rfl k
theorem c_X8_qTest_31 {sc : List Int} {d d2 : Nat} {m m2 : Mem} {Q : Option AV → Mem → Prop} {l1 s1 s2 : Int} (hM : C_X8_qOpens sc d2 [aR 62, aI s1, aI s2] m none m2) (hd : d2 + 1 ≤ d) (k : S_X8_qTest sc d 34 [aR 62, aI l1, aU] [] m2 Q) : S_X8_qTest sc d 31 [aR 62, aI l1, aU] [aI s2, aI s1, aR 62] m Q := x_callV (as := [aI s1, aI s2]) (rest := []) hM mk_X8_qOpens mv_X8_qOpens lk_X8_649 (Or.inl ⟨8, (RX8, TX8, 123), ic_62, Nat.le_of_ble_eq_true rfl, rfl, rfl⟩) hd rfl rfl (Nat.le_of_ble_eq_true rfl) dX8_qTest_31 rfl k
theorem c_X8_qTest_52 {sc : List Int} {d d2 : Nat} {m m2 : Mem} {Q : Option AV → Mem → Prop} {l1 s1 : Int} {v : Int} (Hs1 : IsC s1 102) (hM : C_X8_isHere sc d2 [aR 62, aR s1] m (some (aI v)) m2) (hd : d2 + 1 ≤ d) (k : S_X8_qTest sc d 55 [aR 62, aI l1, aU] [aI v] m2 Q) : S_X8_qTest sc d 52 [aR 62, aI l1, aU] [aR s1, aR 62] m Q := x_callV (as := [aR s1]) (rest := []) hM mk_X8_isHere mv_X8_isHere lk_X8_313 (Or.inl ⟨8, (RX8, TX8, 123), ic_62, Nat.le_of_ble_eq_true rfl, rfl, rfl⟩) hd rfl rfl (Nat.le_of_ble_eq_true rfl) dX8_qTest_52 rfl k
theorem c_X8_qTest_65 {sc : List Int} {d d2 : Nat} {m m2 : Mem} {Q : Option AV → Mem → Prop} {l1 s1 s2 : Int} (hM : C_X8_qOpens sc d2 [aR 62, aI s1, aI s2] m none m2) (hd : d2 + 1 ≤ d) (k : S_X8_qTest sc d 68 [aR 62, aI l1, aU] [] m2 Q) : S_X8_qTest sc d 65 [aR 62, aI l1, aU] [aI s2, aI s1, aR 62] m Q := x_callV (as := [aI s1, aI s2]) (rest := []) hM mk_X8_qOpens mv_X8_qOpens lk_X8_649 (Or.inl ⟨8, (RX8, TX8, 123), ic_62, Nat.le_of_ble_eq_true rfl, rfl, rfl⟩) hd rfl rfl (Nat.le_of_ble_eq_true rfl) dX8_qTest_65 rfl k
theorem c_X8_qTest_73 {sc : List Int} {d d2 : Nat} {m m2 : Mem} {Q : Option AV → Mem → Prop} {l1 s1 : Int} (Hs1 : IsC s1 102) (hM : C_X8_asks sc d2 [aR 62, aR s1] m none m2) (hd : d2 + 1 ≤ d) (k : S_X8_qTest sc d 76 [aR 62, aI l1, aU] [] m2 Q) : S_X8_qTest sc d 73 [aR 62, aI l1, aU] [aR s1, aR 62] m Q := x_callV (as := [aR s1]) (rest := []) hM mk_X8_asks mv_X8_asks lk_X8_356 (Or.inl ⟨8, (RX8, TX8, 123), ic_62, Nat.le_of_ble_eq_true rfl, rfl, rfl⟩) hd rfl rfl (Nat.le_of_ble_eq_true rfl) dX8_qTest_73 rfl k
theorem c_X8_qTest_80 {sc : List Int} {d d2 : Nat} {m m2 : Mem} {Q : Option AV → Mem → Prop} (hM : C_X8_qFact sc d2 [aR 62] m none m2) (hd : d2 + 1 ≤ d) (k : S_X8_qTest sc d 83 [aR 62, aU, aU] [] m2 Q) : S_X8_qTest sc d 80 [aR 62, aU, aU] [aR 62] m Q := x_callV (as := []) (rest := []) hM mk_X8_qFact mv_X8_qFact lk_X8_676 (Or.inl ⟨8, (RX8, TX8, 123), ic_62, Nat.le_of_ble_eq_true rfl, rfl, rfl⟩) hd rfl rfl (Nat.le_of_ble_eq_true rfl) dX8_qTest_80 rfl k
theorem c_X8_qTest_84 {sc : List Int} {d d2 : Nat} {m m2 : Mem} {Q : Option AV → Mem → Prop} (hM : C_X8_qDropsNots sc d2 [aR 62] m none m2) (hd : d2 + 1 ≤ d) (k : S_X8_qTest sc d 87 [aR 62, aU, aU] [] m2 Q) : S_X8_qTest sc d 84 [aR 62, aU, aU] [aR 62] m Q := x_callV (as := []) (rest := []) hM mk_X8_qDropsNots mv_X8_qDropsNots lk_X8_679 (Or.inl ⟨8, (RX8, TX8, 123), ic_62, Nat.le_of_ble_eq_true rfl, rfl, rfl⟩) hd rfl rfl (Nat.le_of_ble_eq_true rfl) dX8_qTest_84 rfl k
theorem c_X8_qTest_95 {sc : List Int} {d d2 : Nat} {m m2 : Mem} {Q : Option AV → Mem → Prop} {v : Int} (hM : C_X8_qGoesOnTest sc d2 [aR 62] m (some (aI v)) m2) (hd : d2 + 1 ≤ d) (k : S_X8_qTest sc d 98 [aR 62, aU, aU] [aI v] m2 Q) : S_X8_qTest sc d 95 [aR 62, aU, aU] [aR 62] m Q := x_callV (as := []) (rest := []) hM mk_X8_qGoesOnTest mv_X8_qGoesOnTest lk_X8_682 (Or.inl ⟨8, (RX8, TX8, 123), ic_62, Nat.le_of_ble_eq_true rfl, rfl, rfl⟩) hd rfl rfl (Nat.le_of_ble_eq_true rfl) dX8_qTest_95 rfl k
theorem c_X8_qTest_125 {sc : List Int} {d d2 : Nat} {m m2 : Mem} {Q : Option AV → Mem → Prop} (hM : C_X8_qDrops sc d2 [aR 62] m none m2) (hd : d2 + 1 ≤ d) (k : S_X8_qTest sc d 128 [aR 62, aU, aU] [] m2 Q) : S_X8_qTest sc d 125 [aR 62, aU, aU] [aR 62] m Q := x_callV (as := []) (rest := []) hM mk_X8_qDrops mv_X8_qDrops lk_X8_637 (Or.inl ⟨8, (RX8, TX8, 123), ic_62, Nat.le_of_ble_eq_true rfl, rfl, rfl⟩) hd rfl rfl (Nat.le_of_ble_eq_true rfl) dX8_qTest_125 rfl k
set_option maxRecDepth 4000 in
theorem g_X8_qGoesOnTest_0 {sc : List Int} {d : Nat} {m : Mem} {Q : Option AV → Mem → Prop} (k : (-2147483648 ≤ (m 62 5) ∧ (m 62 5) < 2147483648) ∧ (((m 62 5) ≠ 0) → (S_X8_qGoesOnTest sc d 81 [aR 62] [aR 134, aR 62] m Q)) ∧ (¬ ((m 62 5) ≠ 0) → (S_X8_qGoesOnTest sc d 8 [aR 62] [aR 62] m Q))) : S_X8_qGoesOnTest sc d 0 [aR 62] [] m Q := by
  refine x_aload_n (pc2 := 1) dX8_qGoesOnTest_0 rfl rfl ?_
  refine x_getf (pc2 := 4) (v := aI (m 62 5)) fl_X8_290 ic_62 (fv_i _ ic_62 rfl) dX8_qGoesOnTest_1 rfl ?_
  obtain ⟨h1, k⟩ := k
  obtain ⟨k1, k2⟩ := k
  refine x_if_ne (tgt := 76) (pc2 := 7) dX8_qGoesOnTest_4 (by decide) rfl h1 (fun c2 => ?_) (fun c2 => ?_)
  · replace k := k1 c2
    refine x_aload_n (pc2 := 77) dX8_qGoesOnTest_76 rfl rfl ?_
    refine x_aload_n (pc2 := 78) dX8_qGoesOnTest_77 rfl rfl ?_
    refine x_getf (pc2 := 81) (v := aR 134) fl_X8_233 ic_62 (vr_62_97 _) dX8_qGoesOnTest_78 rfl ?_
    exact k
  · replace k := k2 c2
    refine x_aload_n (pc2 := 8) dX8_qGoesOnTest_7 rfl rfl ?_
    exact k
set_option maxRecDepth 4000 in
theorem g_X8_qGoesOnTest_11 {sc : List Int} {d : Nat} {m : Mem} {Q : Option AV → Mem → Prop} {s0 : Int} (k : (-2147483648 ≤ s0 ∧ s0 < 2147483648) ∧ ((s0 ≠ 93) → (S_X8_qGoesOnTest sc d 81 [aR 62] [aR 134, aR 62] m Q)) ∧ (¬ (s0 ≠ 93) → (S_X8_qGoesOnTest sc d 17 [aR 62] [aR 62] m Q))) : S_X8_qGoesOnTest sc d 11 [aR 62] [aI s0] m Q := by
  refine x_bipush (pc2 := 13) dX8_qGoesOnTest_11 rfl rfl ?_
  obtain ⟨h1, k⟩ := k
  obtain ⟨k1, k2⟩ := k
  refine x_icmp_ne (tgt := 76) (pc2 := 16) dX8_qGoesOnTest_13 (by decide) rfl h1 (by decide) (fun c2 => ?_) (fun c2 => ?_)
  · replace k := k1 c2
    refine x_aload_n (pc2 := 77) dX8_qGoesOnTest_76 rfl rfl ?_
    refine x_aload_n (pc2 := 78) dX8_qGoesOnTest_77 rfl rfl ?_
    refine x_getf (pc2 := 81) (v := aR 134) fl_X8_233 ic_62 (vr_62_97 _) dX8_qGoesOnTest_78 rfl ?_
    exact k
  · replace k := k2 c2
    refine x_aload_n (pc2 := 17) dX8_qGoesOnTest_16 rfl rfl ?_
    exact k
set_option maxRecDepth 4000 in
theorem g_X8_qGoesOnTest_20 {sc : List Int} {d : Nat} {m : Mem} {Q : Option AV → Mem → Prop} {s0 : Int} (k : (-2147483648 ≤ s0 ∧ s0 < 2147483648) ∧ ((s0 = 0) → (S_X8_qGoesOnTest sc d 81 [aR 62] [aR 134, aR 62] m Q)) ∧ (¬ (s0 = 0) → (S_X8_qGoesOnTest sc d 33 [aR 62] [] (wr m 62 2 ((m 62 2) + 1)) Q))) : S_X8_qGoesOnTest sc d 20 [aR 62] [aI s0] m Q := by
  obtain ⟨h1, k⟩ := k
  obtain ⟨k1, k2⟩ := k
  refine x_if_eq (tgt := 76) (pc2 := 23) dX8_qGoesOnTest_20 (by decide) rfl h1 (fun c2 => ?_) (fun c2 => ?_)
  · replace k := k1 c2
    refine x_aload_n (pc2 := 77) dX8_qGoesOnTest_76 rfl rfl ?_
    refine x_aload_n (pc2 := 78) dX8_qGoesOnTest_77 rfl rfl ?_
    refine x_getf (pc2 := 81) (v := aR 134) fl_X8_233 ic_62 (vr_62_97 _) dX8_qGoesOnTest_78 rfl ?_
    exact k
  · replace k := k2 c2
    refine x_aload_n (pc2 := 24) dX8_qGoesOnTest_23 rfl rfl ?_
    refine x_dup_r (pc2 := 25) dX8_qGoesOnTest_24 rfl (by decide) ?_
    refine x_getf (pc2 := 28) (v := aI (m 62 2)) fl_X8_296 ic_62 (fv_i _ ic_62 rfl) dX8_qGoesOnTest_25 rfl ?_
    refine x_iconst (pc2 := 29) dX8_qGoesOnTest_28 rfl ?_
    refine x_iadd (pc2 := 30) dX8_qGoesOnTest_29 rfl ?_
    refine x_putf (pc2 := 33) (x := ((m 62 2) + 1)) fl_X8_296 ft_8_2 ic_62 (pv_i _ ic_62 rfl) (pn_i _) dX8_qGoesOnTest_30 rfl ?_
    exact k
set_option maxRecDepth 4000 in
theorem g_X8_qGoesOnTest_33 {sc : List Int} {d : Nat} {m : Mem} {Q : Option AV → Mem → Prop} (k : S_X8_qGoesOnTest sc d 36 [aR 62] [aI 25, aR 62] m Q) : S_X8_qGoesOnTest sc d 33 [aR 62] [] m Q := by
  refine x_aload_n (pc2 := 34) dX8_qGoesOnTest_33 rfl rfl ?_
  refine x_bipush (pc2 := 36) dX8_qGoesOnTest_34 rfl rfl ?_
  exact k
set_option maxRecDepth 4000 in
theorem g_X8_qGoesOnTest_39 {sc : List Int} {d : Nat} {m : Mem} {Q : Option AV → Mem → Prop} {s0 : Int} (k : (-2147483648 ≤ s0 ∧ s0 < 2147483648) ∧ ((s0 ≠ 0) → (S_X8_qGoesOnTest sc d 70 [aR 62] [aR 62] (wr (wr m 62 114 ((m 62 114) - 1)) 62 115 (((wr m 62 114 ((m 62 114) - 1)) 62 115) - 1)) Q)) ∧ (¬ (s0 ≠ 0) → (S_X8_qGoesOnTest sc d 43 [aR 62] [aR 62] m Q))) : S_X8_qGoesOnTest sc d 39 [aR 62] [aI s0] m Q := by
  obtain ⟨h1, k⟩ := k
  obtain ⟨k1, k2⟩ := k
  refine x_if_ne (tgt := 49) (pc2 := 42) dX8_qGoesOnTest_39 (by decide) rfl h1 (fun c2 => ?_) (fun c2 => ?_)
  · replace k := k1 c2
    refine x_aload_n (pc2 := 50) dX8_qGoesOnTest_49 rfl rfl ?_
    refine x_dup_r (pc2 := 51) dX8_qGoesOnTest_50 rfl (by decide) ?_
    refine x_getf (pc2 := 54) (v := aI (m 62 114)) fl_X8_386 ic_62 (fv_i _ ic_62 rfl) dX8_qGoesOnTest_51 rfl ?_
    refine x_iconst (pc2 := 55) dX8_qGoesOnTest_54 rfl ?_
    refine x_isub (pc2 := 56) dX8_qGoesOnTest_55 rfl ?_
    refine x_putf (pc2 := 59) (x := ((m 62 114) - 1)) fl_X8_386 ft_8_114 ic_62 (pv_i _ ic_62 rfl) (pn_i _) dX8_qGoesOnTest_56 rfl ?_
    refine x_aload_n (pc2 := 60) dX8_qGoesOnTest_59 rfl rfl ?_
    refine x_dup_r (pc2 := 61) dX8_qGoesOnTest_60 rfl (by decide) ?_
    refine x_getf (pc2 := 64) (v := aI ((wr m 62 114 ((m 62 114) - 1)) 62 115)) fl_X8_389 ic_62 (fv_i _ ic_62 rfl) dX8_qGoesOnTest_61 rfl ?_
    refine x_iconst (pc2 := 65) dX8_qGoesOnTest_64 rfl ?_
    refine x_isub (pc2 := 66) dX8_qGoesOnTest_65 rfl ?_
    refine x_putf (pc2 := 69) (x := (((wr m 62 114 ((m 62 114) - 1)) 62 115) - 1)) fl_X8_389 ft_8_115 ic_62 (pv_i _ ic_62 rfl) (pn_i _) dX8_qGoesOnTest_66 rfl ?_
    refine x_aload_n (pc2 := 70) dX8_qGoesOnTest_69 rfl rfl ?_
    exact k
  · replace k := k2 c2
    refine x_aload_n (pc2 := 43) dX8_qGoesOnTest_42 rfl rfl ?_
    exact k
set_option maxRecDepth 4000 in
theorem g_X8_qGoesOnTest_46 {sc : List Int} {d : Nat} {m : Mem} {Q : Option AV → Mem → Prop} (k : S_X8_qGoesOnTest sc d 33 [aR 62] [] m Q) : S_X8_qGoesOnTest sc d 46 [aR 62] [] m Q := by
  refine x_goto (tgt := 33) dX8_qGoesOnTest_46 (by decide) ?_
  exact k
set_option maxRecDepth 4000 in
theorem g_X8_qGoesOnTest_73 {sc : List Int} {d : Nat} {m : Mem} {Q : Option AV → Mem → Prop} (k : S_X8_qGoesOnTest sc d 0 [aR 62] [] m Q) : S_X8_qGoesOnTest sc d 73 [aR 62] [] m Q := by
  refine x_goto (tgt := 0) dX8_qGoesOnTest_73 (by decide) ?_
  exact k
set_option maxRecDepth 4000 in
theorem g_X8_qGoesOnTest_84 {sc : List Int} {d : Nat} {m : Mem} {Q : Option AV → Mem → Prop} {s0 : Int} (k : (-2147483648 ≤ s0 ∧ s0 < 2147483648) ∧ ((s0 = 0) → (S_X8_qGoesOnTest sc d 131 [aR 62] [aR 135, aR 62] m Q)) ∧ (¬ (s0 = 0) → (S_X8_qGoesOnTest sc d 87 [aR 62] [] m Q))) : S_X8_qGoesOnTest sc d 84 [aR 62] [aI s0] m Q := by
  obtain ⟨h1, k⟩ := k
  obtain ⟨k1, k2⟩ := k
  refine x_if_eq (tgt := 126) (pc2 := 87) dX8_qGoesOnTest_84 (by decide) rfl h1 (fun c2 => ?_) (fun c2 => ?_)
  · replace k := k1 c2
    refine x_aload_n (pc2 := 127) dX8_qGoesOnTest_126 rfl rfl ?_
    refine x_aload_n (pc2 := 128) dX8_qGoesOnTest_127 rfl rfl ?_
    refine x_getf (pc2 := 131) (v := aR 135) fl_X8_236 ic_62 (vr_62_98 _) dX8_qGoesOnTest_128 rfl ?_
    exact k
  · replace k := k2 c2
    exact k
set_option maxRecDepth 4000 in
theorem g_X8_qGoesOnTest_87 {sc : List Int} {d : Nat} {m : Mem} {Q : Option AV → Mem → Prop} (k : S_X8_qGoesOnTest sc d 90 [aR 62] [aI 10, aR 62] m Q) : S_X8_qGoesOnTest sc d 87 [aR 62] [] m Q := by
  refine x_aload_n (pc2 := 88) dX8_qGoesOnTest_87 rfl rfl ?_
  refine x_bipush (pc2 := 90) dX8_qGoesOnTest_88 rfl rfl ?_
  exact k
set_option maxRecDepth 4000 in
theorem g_X8_qGoesOnTest_93 {sc : List Int} {d : Nat} {m : Mem} {Q : Option AV → Mem → Prop} {s0 : Int} (k : (-2147483648 ≤ s0 ∧ s0 < 2147483648) ∧ ((s0 = 0) → ((0 ≤ (m 62 114)) ∧ ((m 62 114) < 1700) ∧ Q (some (aI 1)) (wr (wr m 149 (m 62 114) 10) 62 114 (((wr m 149 (m 62 114) 10) 62 114) + 1)))) ∧ (¬ (s0 = 0) → (S_X8_qGoesOnTest sc d 97 [aR 62] [aR 62] m Q))) : S_X8_qGoesOnTest sc d 93 [aR 62] [aI s0] m Q := by
  obtain ⟨h1, k⟩ := k
  obtain ⟨k1, k2⟩ := k
  refine x_if_eq (tgt := 103) (pc2 := 96) dX8_qGoesOnTest_93 (by decide) rfl h1 (fun c2 => ?_) (fun c2 => ?_)
  · replace k := k1 c2
    refine x_aload_n (pc2 := 104) dX8_qGoesOnTest_103 rfl rfl ?_
    refine x_getf (pc2 := 107) (v := aR 149) fl_X8_278 ic_62 (vr_62_113 _) dX8_qGoesOnTest_104 rfl ?_
    refine x_aload_n (pc2 := 108) dX8_qGoesOnTest_107 rfl rfl ?_
    refine x_getf (pc2 := 111) (v := aI (m 62 114)) fl_X8_386 ic_62 (fv_i _ ic_62 rfl) dX8_qGoesOnTest_108 rfl ?_
    refine x_bipush (pc2 := 113) dX8_qGoesOnTest_111 rfl rfl ?_
    obtain ⟨h3, k⟩ := k
    obtain ⟨h4, k⟩ := k
    refine x_iast (pc2 := 114) ic_149 h3 (by rw [al_149]; exact h4) dX8_qGoesOnTest_113 rfl ?_
    refine x_aload_n (pc2 := 115) dX8_qGoesOnTest_114 rfl rfl ?_
    refine x_dup_r (pc2 := 116) dX8_qGoesOnTest_115 rfl (by decide) ?_
    refine x_getf (pc2 := 119) (v := aI ((wr m 149 (m 62 114) 10) 62 114)) fl_X8_386 ic_62 (fv_i _ ic_62 rfl) dX8_qGoesOnTest_116 rfl ?_
    refine x_iconst (pc2 := 120) dX8_qGoesOnTest_119 rfl ?_
    refine x_iadd (pc2 := 121) dX8_qGoesOnTest_120 rfl ?_
    refine x_putf (pc2 := 124) (x := (((wr m 149 (m 62 114) 10) 62 114) + 1)) fl_X8_386 ft_8_114 ic_62 (pv_i _ ic_62 rfl) (pn_i _) dX8_qGoesOnTest_121 rfl ?_
    refine x_iconst (pc2 := 125) dX8_qGoesOnTest_124 rfl ?_
    exact x_ireturn dX8_qGoesOnTest_125 ⟨.boolean, rfl, rfl⟩ k
  · replace k := k2 c2
    refine x_aload_n (pc2 := 97) dX8_qGoesOnTest_96 rfl rfl ?_
    exact k
set_option maxRecDepth 4000 in
theorem g_X8_qGoesOnTest_100 {sc : List Int} {d : Nat} {m : Mem} {Q : Option AV → Mem → Prop} (k : S_X8_qGoesOnTest sc d 87 [aR 62] [] m Q) : S_X8_qGoesOnTest sc d 100 [aR 62] [] m Q := by
  refine x_goto (tgt := 87) dX8_qGoesOnTest_100 (by decide) ?_
  exact k
set_option maxRecDepth 4000 in
theorem g_X8_qGoesOnTest_134 {sc : List Int} {d : Nat} {m : Mem} {Q : Option AV → Mem → Prop} {s0 : Int} (k : (-2147483648 ≤ s0 ∧ s0 < 2147483648) ∧ ((s0 = 0) → ((-2147483648 ≤ (m 62 5) ∧ (m 62 5) < 2147483648) ∧ (((m 62 5) ≠ 0) → (S_X8_qGoesOnTest sc d 208 [aR 62] [] m Q)) ∧ (¬ ((m 62 5) ≠ 0) → (S_X8_qGoesOnTest sc d 193 [aR 62] [aR 62] m Q)))) ∧ (¬ (s0 = 0) → (S_X8_qGoesOnTest sc d 137 [aR 62] [] m Q))) : S_X8_qGoesOnTest sc d 134 [aR 62] [aI s0] m Q := by
  obtain ⟨h1, k⟩ := k
  obtain ⟨k1, k2⟩ := k
  refine x_if_eq (tgt := 185) (pc2 := 137) dX8_qGoesOnTest_134 (by decide) rfl h1 (fun c2 => ?_) (fun c2 => ?_)
  · replace k := k1 c2
    refine x_aload_n (pc2 := 186) dX8_qGoesOnTest_185 rfl rfl ?_
    refine x_getf (pc2 := 189) (v := aI (m 62 5)) fl_X8_290 ic_62 (fv_i _ ic_62 rfl) dX8_qGoesOnTest_186 rfl ?_
    obtain ⟨h3, k⟩ := k
    obtain ⟨k1, k2⟩ := k
    refine x_if_ne (tgt := 208) (pc2 := 192) dX8_qGoesOnTest_189 (by decide) rfl h3 (fun c4 => ?_) (fun c4 => ?_)
    · replace k := k1 c4
      exact k
    · replace k := k2 c4
      refine x_aload_n (pc2 := 193) dX8_qGoesOnTest_192 rfl rfl ?_
      exact k
  · replace k := k2 c2
    exact k
set_option maxRecDepth 4000 in
theorem g_X8_qGoesOnTest_137 {sc : List Int} {d : Nat} {m : Mem} {Q : Option AV → Mem → Prop} (k : S_X8_qGoesOnTest sc d 140 [aR 62] [aI 10, aR 62] m Q) : S_X8_qGoesOnTest sc d 137 [aR 62] [] m Q := by
  refine x_aload_n (pc2 := 138) dX8_qGoesOnTest_137 rfl rfl ?_
  refine x_bipush (pc2 := 140) dX8_qGoesOnTest_138 rfl rfl ?_
  exact k
set_option maxRecDepth 4000 in
theorem g_X8_qGoesOnTest_143 {sc : List Int} {d : Nat} {m : Mem} {Q : Option AV → Mem → Prop} {s0 : Int} (k : (-2147483648 ≤ s0 ∧ s0 < 2147483648) ∧ ((s0 ≠ 0) → (S_X8_qGoesOnTest sc d 156 [aR 62] [aR 62] m Q)) ∧ (¬ (s0 ≠ 0) → (S_X8_qGoesOnTest sc d 149 [aR 62] [aI 11, aR 62] m Q))) : S_X8_qGoesOnTest sc d 143 [aR 62] [aI s0] m Q := by
  obtain ⟨h1, k⟩ := k
  obtain ⟨k1, k2⟩ := k
  refine x_if_ne (tgt := 155) (pc2 := 146) dX8_qGoesOnTest_143 (by decide) rfl h1 (fun c2 => ?_) (fun c2 => ?_)
  · replace k := k1 c2
    refine x_aload_n (pc2 := 156) dX8_qGoesOnTest_155 rfl rfl ?_
    exact k
  · replace k := k2 c2
    refine x_aload_n (pc2 := 147) dX8_qGoesOnTest_146 rfl rfl ?_
    refine x_bipush (pc2 := 149) dX8_qGoesOnTest_147 rfl rfl ?_
    exact k
set_option maxRecDepth 4000 in
theorem g_X8_qGoesOnTest_152 {sc : List Int} {d : Nat} {m : Mem} {Q : Option AV → Mem → Prop} {s0 : Int} (k : (-2147483648 ≤ s0 ∧ s0 < 2147483648) ∧ ((s0 = 0) → ((0 ≤ (m 62 114)) ∧ ((m 62 114) < 1700) ∧ Q (some (aI 1)) (wr (wr m 149 (m 62 114) 11) 62 114 (((wr m 149 (m 62 114) 11) 62 114) + 1)))) ∧ (¬ (s0 = 0) → (S_X8_qGoesOnTest sc d 156 [aR 62] [aR 62] m Q))) : S_X8_qGoesOnTest sc d 152 [aR 62] [aI s0] m Q := by
  obtain ⟨h1, k⟩ := k
  obtain ⟨k1, k2⟩ := k
  refine x_if_eq (tgt := 162) (pc2 := 155) dX8_qGoesOnTest_152 (by decide) rfl h1 (fun c2 => ?_) (fun c2 => ?_)
  · replace k := k1 c2
    refine x_aload_n (pc2 := 163) dX8_qGoesOnTest_162 rfl rfl ?_
    refine x_getf (pc2 := 166) (v := aR 149) fl_X8_278 ic_62 (vr_62_113 _) dX8_qGoesOnTest_163 rfl ?_
    refine x_aload_n (pc2 := 167) dX8_qGoesOnTest_166 rfl rfl ?_
    refine x_getf (pc2 := 170) (v := aI (m 62 114)) fl_X8_386 ic_62 (fv_i _ ic_62 rfl) dX8_qGoesOnTest_167 rfl ?_
    refine x_bipush (pc2 := 172) dX8_qGoesOnTest_170 rfl rfl ?_
    obtain ⟨h3, k⟩ := k
    obtain ⟨h4, k⟩ := k
    refine x_iast (pc2 := 173) ic_149 h3 (by rw [al_149]; exact h4) dX8_qGoesOnTest_172 rfl ?_
    refine x_aload_n (pc2 := 174) dX8_qGoesOnTest_173 rfl rfl ?_
    refine x_dup_r (pc2 := 175) dX8_qGoesOnTest_174 rfl (by decide) ?_
    refine x_getf (pc2 := 178) (v := aI ((wr m 149 (m 62 114) 11) 62 114)) fl_X8_386 ic_62 (fv_i _ ic_62 rfl) dX8_qGoesOnTest_175 rfl ?_
    refine x_iconst (pc2 := 179) dX8_qGoesOnTest_178 rfl ?_
    refine x_iadd (pc2 := 180) dX8_qGoesOnTest_179 rfl ?_
    refine x_putf (pc2 := 183) (x := (((wr m 149 (m 62 114) 11) 62 114) + 1)) fl_X8_386 ft_8_114 ic_62 (pv_i _ ic_62 rfl) (pn_i _) dX8_qGoesOnTest_180 rfl ?_
    refine x_iconst (pc2 := 184) dX8_qGoesOnTest_183 rfl ?_
    exact x_ireturn dX8_qGoesOnTest_184 ⟨.boolean, rfl, rfl⟩ k
  · replace k := k2 c2
    refine x_aload_n (pc2 := 156) dX8_qGoesOnTest_155 rfl rfl ?_
    exact k
set_option maxRecDepth 4000 in
theorem g_X8_qGoesOnTest_159 {sc : List Int} {d : Nat} {m : Mem} {Q : Option AV → Mem → Prop} (k : S_X8_qGoesOnTest sc d 137 [aR 62] [] m Q) : S_X8_qGoesOnTest sc d 159 [aR 62] [] m Q := by
  refine x_goto (tgt := 137) dX8_qGoesOnTest_159 (by decide) ?_
  exact k
set_option maxRecDepth 4000 in
theorem g_X8_qGoesOnTest_196 {sc : List Int} {d : Nat} {m : Mem} {Q : Option AV → Mem → Prop} {s0 : Int} (k : (-2147483648 ≤ s0 ∧ s0 < 2147483648) ∧ ((s0 = 0) → (S_X8_qGoesOnTest sc d 208 [aR 62] [] m Q)) ∧ (¬ (s0 = 0) → (S_X8_qGoesOnTest sc d 205 [aR 62] [aI (m 62 2), aI 1, aR 62] m Q))) : S_X8_qGoesOnTest sc d 196 [aR 62] [aI s0] m Q := by
  obtain ⟨h1, k⟩ := k
  obtain ⟨k1, k2⟩ := k
  refine x_if_eq (tgt := 208) (pc2 := 199) dX8_qGoesOnTest_196 (by decide) rfl h1 (fun c2 => ?_) (fun c2 => ?_)
  · replace k := k1 c2
    exact k
  · replace k := k2 c2
    refine x_aload_n (pc2 := 200) dX8_qGoesOnTest_199 rfl rfl ?_
    refine x_iconst (pc2 := 201) dX8_qGoesOnTest_200 rfl ?_
    refine x_aload_n (pc2 := 202) dX8_qGoesOnTest_201 rfl rfl ?_
    refine x_getf (pc2 := 205) (v := aI (m 62 2)) fl_X8_296 ic_62 (fv_i _ ic_62 rfl) dX8_qGoesOnTest_202 rfl ?_
    exact k
set_option maxRecDepth 4000 in
theorem g_X8_qGoesOnTest_208 {sc : List Int} {d : Nat} {m : Mem} {Q : Option AV → Mem → Prop} (k : Q (some (aI 0)) m) : S_X8_qGoesOnTest sc d 208 [aR 62] [] m Q := by
  refine x_iconst (pc2 := 209) dX8_qGoesOnTest_208 rfl ?_
  exact x_ireturn dX8_qGoesOnTest_209 ⟨.boolean, rfl, rfl⟩ k
theorem c_X8_qGoesOnTest_8 {sc : List Int} {d d2 : Nat} {m m2 : Mem} {Q : Option AV → Mem → Prop} {v : Int} (hM : C_X8_look sc d2 [aR 62] m (some (aI v)) m2) (hd : d2 + 1 ≤ d) (k : S_X8_qGoesOnTest sc d 11 [aR 62] [aI v] m2 Q) : S_X8_qGoesOnTest sc d 8 [aR 62] [aR 62] m Q := x_callV (as := []) (rest := []) hM mk_X8_look mv_X8_look lk_X8_302 (Or.inl ⟨8, (RX8, TX8, 123), ic_62, Nat.le_of_ble_eq_true rfl, rfl, rfl⟩) hd rfl rfl (Nat.le_of_ble_eq_true rfl) dX8_qGoesOnTest_8 rfl k
theorem c_X8_qGoesOnTest_17 {sc : List Int} {d d2 : Nat} {m m2 : Mem} {Q : Option AV → Mem → Prop} {v : Int} (hM : C_X8_qHasSquare sc d2 [aR 62] m (some (aI v)) m2) (hd : d2 + 1 ≤ d) (k : S_X8_qGoesOnTest sc d 20 [aR 62] [aI v] m2 Q) : S_X8_qGoesOnTest sc d 17 [aR 62] [aR 62] m Q := x_callV (as := []) (rest := []) hM mk_X8_qHasSquare mv_X8_qHasSquare lk_X8_685 (Or.inl ⟨8, (RX8, TX8, 123), ic_62, Nat.le_of_ble_eq_true rfl, rfl, rfl⟩) hd rfl rfl (Nat.le_of_ble_eq_true rfl) dX8_qGoesOnTest_17 rfl k
theorem c_X8_qGoesOnTest_36 {sc : List Int} {d d2 : Nat} {m m2 : Mem} {Q : Option AV → Mem → Prop} {s1 : Int} {v : Int} (hM : C_X8_qIsOn sc d2 [aR 62, aI s1] m (some (aI v)) m2) (hd : d2 + 1 ≤ d) (k : S_X8_qGoesOnTest sc d 39 [aR 62] [aI v] m2 Q) : S_X8_qGoesOnTest sc d 36 [aR 62] [aI s1, aR 62] m Q := x_callV (as := [aI s1]) (rest := []) hM mk_X8_qIsOn mv_X8_qIsOn lk_X8_664 (Or.inl ⟨8, (RX8, TX8, 123), ic_62, Nat.le_of_ble_eq_true rfl, rfl, rfl⟩) hd rfl rfl (Nat.le_of_ble_eq_true rfl) dX8_qGoesOnTest_36 rfl k
theorem c_X8_qGoesOnTest_43 {sc : List Int} {d d2 : Nat} {m m2 : Mem} {Q : Option AV → Mem → Prop} (hM : C_X8_qDrops sc d2 [aR 62] m none m2) (hd : d2 + 1 ≤ d) (k : S_X8_qGoesOnTest sc d 46 [aR 62] [] m2 Q) : S_X8_qGoesOnTest sc d 43 [aR 62] [aR 62] m Q := x_callV (as := []) (rest := []) hM mk_X8_qDrops mv_X8_qDrops lk_X8_637 (Or.inl ⟨8, (RX8, TX8, 123), ic_62, Nat.le_of_ble_eq_true rfl, rfl, rfl⟩) hd rfl rfl (Nat.le_of_ble_eq_true rfl) dX8_qGoesOnTest_43 rfl k
theorem c_X8_qGoesOnTest_70 {sc : List Int} {d d2 : Nat} {m m2 : Mem} {Q : Option AV → Mem → Prop} (hM : C_X8_qDropsNots sc d2 [aR 62] m none m2) (hd : d2 + 1 ≤ d) (k : S_X8_qGoesOnTest sc d 73 [aR 62] [] m2 Q) : S_X8_qGoesOnTest sc d 70 [aR 62] [aR 62] m Q := x_callV (as := []) (rest := []) hM mk_X8_qDropsNots mv_X8_qDropsNots lk_X8_679 (Or.inl ⟨8, (RX8, TX8, 123), ic_62, Nat.le_of_ble_eq_true rfl, rfl, rfl⟩) hd rfl rfl (Nat.le_of_ble_eq_true rfl) dX8_qGoesOnTest_70 rfl k
theorem c_X8_qGoesOnTest_81 {sc : List Int} {d d2 : Nat} {m m2 : Mem} {Q : Option AV → Mem → Prop} {s1 : Int} {v : Int} (Hs1 : IsC s1 102) (hM : C_X8_takes sc d2 [aR 62, aR s1] m (some (aI v)) m2) (hd : d2 + 1 ≤ d) (k : S_X8_qGoesOnTest sc d 84 [aR 62] [aI v] m2 Q) : S_X8_qGoesOnTest sc d 81 [aR 62] [aR s1, aR 62] m Q := x_callV (as := [aR s1]) (rest := []) hM mk_X8_takes mv_X8_takes lk_X8_317 (Or.inl ⟨8, (RX8, TX8, 123), ic_62, Nat.le_of_ble_eq_true rfl, rfl, rfl⟩) hd rfl rfl (Nat.le_of_ble_eq_true rfl) dX8_qGoesOnTest_81 rfl k
theorem c_X8_qGoesOnTest_90 {sc : List Int} {d d2 : Nat} {m m2 : Mem} {Q : Option AV → Mem → Prop} {s1 : Int} {v : Int} (hM : C_X8_qIsOn sc d2 [aR 62, aI s1] m (some (aI v)) m2) (hd : d2 + 1 ≤ d) (k : S_X8_qGoesOnTest sc d 93 [aR 62] [aI v] m2 Q) : S_X8_qGoesOnTest sc d 90 [aR 62] [aI s1, aR 62] m Q := x_callV (as := [aI s1]) (rest := []) hM mk_X8_qIsOn mv_X8_qIsOn lk_X8_664 (Or.inl ⟨8, (RX8, TX8, 123), ic_62, Nat.le_of_ble_eq_true rfl, rfl, rfl⟩) hd rfl rfl (Nat.le_of_ble_eq_true rfl) dX8_qGoesOnTest_90 rfl k
theorem c_X8_qGoesOnTest_97 {sc : List Int} {d d2 : Nat} {m m2 : Mem} {Q : Option AV → Mem → Prop} (hM : C_X8_qDrops sc d2 [aR 62] m none m2) (hd : d2 + 1 ≤ d) (k : S_X8_qGoesOnTest sc d 100 [aR 62] [] m2 Q) : S_X8_qGoesOnTest sc d 97 [aR 62] [aR 62] m Q := x_callV (as := []) (rest := []) hM mk_X8_qDrops mv_X8_qDrops lk_X8_637 (Or.inl ⟨8, (RX8, TX8, 123), ic_62, Nat.le_of_ble_eq_true rfl, rfl, rfl⟩) hd rfl rfl (Nat.le_of_ble_eq_true rfl) dX8_qGoesOnTest_97 rfl k
theorem c_X8_qGoesOnTest_131 {sc : List Int} {d d2 : Nat} {m m2 : Mem} {Q : Option AV → Mem → Prop} {s1 : Int} {v : Int} (Hs1 : IsC s1 102) (hM : C_X8_takes sc d2 [aR 62, aR s1] m (some (aI v)) m2) (hd : d2 + 1 ≤ d) (k : S_X8_qGoesOnTest sc d 134 [aR 62] [aI v] m2 Q) : S_X8_qGoesOnTest sc d 131 [aR 62] [aR s1, aR 62] m Q := x_callV (as := [aR s1]) (rest := []) hM mk_X8_takes mv_X8_takes lk_X8_317 (Or.inl ⟨8, (RX8, TX8, 123), ic_62, Nat.le_of_ble_eq_true rfl, rfl, rfl⟩) hd rfl rfl (Nat.le_of_ble_eq_true rfl) dX8_qGoesOnTest_131 rfl k
theorem c_X8_qGoesOnTest_140 {sc : List Int} {d d2 : Nat} {m m2 : Mem} {Q : Option AV → Mem → Prop} {s1 : Int} {v : Int} (hM : C_X8_qIsOn sc d2 [aR 62, aI s1] m (some (aI v)) m2) (hd : d2 + 1 ≤ d) (k : S_X8_qGoesOnTest sc d 143 [aR 62] [aI v] m2 Q) : S_X8_qGoesOnTest sc d 140 [aR 62] [aI s1, aR 62] m Q := x_callV (as := [aI s1]) (rest := []) hM mk_X8_qIsOn mv_X8_qIsOn lk_X8_664 (Or.inl ⟨8, (RX8, TX8, 123), ic_62, Nat.le_of_ble_eq_true rfl, rfl, rfl⟩) hd rfl rfl (Nat.le_of_ble_eq_true rfl) dX8_qGoesOnTest_140 rfl k
theorem c_X8_qGoesOnTest_149 {sc : List Int} {d d2 : Nat} {m m2 : Mem} {Q : Option AV → Mem → Prop} {s1 : Int} {v : Int} (hM : C_X8_qIsOn sc d2 [aR 62, aI s1] m (some (aI v)) m2) (hd : d2 + 1 ≤ d) (k : S_X8_qGoesOnTest sc d 152 [aR 62] [aI v] m2 Q) : S_X8_qGoesOnTest sc d 149 [aR 62] [aI s1, aR 62] m Q := x_callV (as := [aI s1]) (rest := []) hM mk_X8_qIsOn mv_X8_qIsOn lk_X8_664 (Or.inl ⟨8, (RX8, TX8, 123), ic_62, Nat.le_of_ble_eq_true rfl, rfl, rfl⟩) hd rfl rfl (Nat.le_of_ble_eq_true rfl) dX8_qGoesOnTest_149 rfl k
theorem c_X8_qGoesOnTest_156 {sc : List Int} {d d2 : Nat} {m m2 : Mem} {Q : Option AV → Mem → Prop} (hM : C_X8_qDrops sc d2 [aR 62] m none m2) (hd : d2 + 1 ≤ d) (k : S_X8_qGoesOnTest sc d 159 [aR 62] [] m2 Q) : S_X8_qGoesOnTest sc d 156 [aR 62] [aR 62] m Q := x_callV (as := []) (rest := []) hM mk_X8_qDrops mv_X8_qDrops lk_X8_637 (Or.inl ⟨8, (RX8, TX8, 123), ic_62, Nat.le_of_ble_eq_true rfl, rfl, rfl⟩) hd rfl rfl (Nat.le_of_ble_eq_true rfl) dX8_qGoesOnTest_156 rfl k
theorem c_X8_qGoesOnTest_193 {sc : List Int} {d d2 : Nat} {m m2 : Mem} {Q : Option AV → Mem → Prop} {v : Int} (hM : C_X8_qHasSquare sc d2 [aR 62] m (some (aI v)) m2) (hd : d2 + 1 ≤ d) (k : S_X8_qGoesOnTest sc d 196 [aR 62] [aI v] m2 Q) : S_X8_qGoesOnTest sc d 193 [aR 62] [aR 62] m Q := x_callV (as := []) (rest := []) hM mk_X8_qHasSquare mv_X8_qHasSquare lk_X8_685 (Or.inl ⟨8, (RX8, TX8, 123), ic_62, Nat.le_of_ble_eq_true rfl, rfl, rfl⟩) hd rfl rfl (Nat.le_of_ble_eq_true rfl) dX8_qGoesOnTest_193 rfl k
theorem c_X8_qGoesOnTest_205 {sc : List Int} {d d2 : Nat} {m m2 : Mem} {Q : Option AV → Mem → Prop} {s1 s2 : Int} (hM : C_X8_fail sc d2 [aR 62, aI s1, aI s2] m none m2) (hd : d2 + 1 ≤ d) (k : S_X8_qGoesOnTest sc d 208 [aR 62] [] m2 Q) : S_X8_qGoesOnTest sc d 205 [aR 62] [aI s2, aI s1, aR 62] m Q := x_callV (as := [aI s1, aI s2]) (rest := []) hM mk_X8_fail mv_X8_fail lk_X8_320 (Or.inl ⟨8, (RX8, TX8, 123), ic_62, Nat.le_of_ble_eq_true rfl, rfl, rfl⟩) hd rfl rfl (Nat.le_of_ble_eq_true rfl) dX8_qGoesOnTest_205 rfl k
set_option maxRecDepth 4000 in
theorem g_X8_qClip_0 {sc : List Int} {d : Nat} {m : Mem} {Q : Option AV → Mem → Prop} {l0 : Int} (k : ((-9223372036854775808 ≤ l0 ∧ l0 < 9223372036854775808)) ∧ Q (some (aJ (if l0 ≤ 1000000 then (if (-1000000) ≤ l0 then l0 else (-1000000) : Int) else 1000000 : Int))) m) : S_X8_qClip sc d 0 [aJ l0, aU] [] m Q := by
  refine x_lload_n (pc2 := 1) dX8_qClip_0 rfl rfl ?_
  refine x_ldc2 (pc2 := 4) (x := 1000000) kc_X8_688 rfl dX8_qClip_1 rfl ?_
  obtain ⟨g2, k⟩ := k
  have kj : S_X8_qClip sc d 29 [aJ l0, aU] [aJ (if l0 ≤ 1000000 then (if (-1000000) ≤ l0 then l0 else (-1000000) : Int) else 1000000 : Int)] m Q := by
    exact x_lreturn dX8_qClip_29 rfl k
  have h3 := g2 
  refine x_lc_le (tgt := 14) (pc2 := 8) dX8_qClip_4 dX8_qClip_5 (by decide) rfl h3 (by decide) (fun c4 => ?_) (fun c4 => ?_)
  · skip
    refine x_lload_n (pc2 := 15) dX8_qClip_14 rfl rfl ?_
    refine x_ldc2 (pc2 := 18) (x := (-1000000)) kc_X8_690 rfl dX8_qClip_15 rfl ?_
    refine x_lc_ge (tgt := 28) (pc2 := 22) dX8_qClip_18 dX8_qClip_19 (by decide) rfl h3 (by decide) (fun c5 => ?_) (fun c5 => ?_)
    · skip
      refine x_lload_n (pc2 := 29) dX8_qClip_28 rfl rfl ?_
      exact x_topJ (v := (if l0 ≤ 1000000 then (if (-1000000) ≤ l0 then l0 else (-1000000) : Int) else 1000000 : Int)) ((if_pos c4).trans (if_pos c5)) kj
    · skip
      refine x_ldc2 (pc2 := 25) (x := (-1000000)) kc_X8_690 rfl dX8_qClip_22 rfl ?_
      refine x_goto (tgt := 29) dX8_qClip_25 (by decide) ?_
      exact x_topJ (v := (if l0 ≤ 1000000 then (if (-1000000) ≤ l0 then l0 else (-1000000) : Int) else 1000000 : Int)) ((if_pos c4).trans (if_neg c5)) kj
  · skip
    refine x_ldc2 (pc2 := 11) (x := 1000000) kc_X8_688 rfl dX8_qClip_8 rfl ?_
    refine x_goto (tgt := 29) dX8_qClip_11 (by decide) ?_
    exact x_topJ (v := (if l0 ≤ 1000000 then (if (-1000000) ≤ l0 then l0 else (-1000000) : Int) else 1000000 : Int)) (if_neg c4) kj
set_option maxRecDepth 4000 in
theorem g_X8_qFloor_0 {sc : List Int} {d : Nat} {m : Mem} {Q : Option AV → Mem → Prop} {l0 l2 : Int} (k : (-9223372036854775808 ≤ l2 ∧ l2 < 9223372036854775808) ∧ ((l2 ≠ 0) → ((-9223372036854775808 ≤ l0 ∧ l0 < 9223372036854775808) ∧ (l2 ≠ 0) ∧ ((-9223372036854775808 ≤ (l0.tmod l2) ∧ (l0.tmod l2) < 9223372036854775808)) ∧ Q (some (aJ (if (l0.tmod l2) = 0 then (l0.tdiv l2) else (if 0 ≤ l0 then (if 0 ≤ l2 then (l0.tdiv l2) else ((l0.tdiv l2) - 1) : Int) else (if 0 ≤ l2 then ((l0.tdiv l2) - 1) else (l0.tdiv l2) : Int) : Int) : Int))) m)) ∧ (¬ (l2 ≠ 0) → (Q (some (aJ 0)) m))) : S_X8_qFloor sc d 0 [aJ l0, aU, aJ l2, aU, aU, aU] [] m Q := by
  refine x_lload_n (pc2 := 1) dX8_qFloor_0 rfl rfl ?_
  refine x_lconst (pc2 := 2) (v := 0) dX8_qFloor_1 rfl rfl ?_
  obtain ⟨h1, k⟩ := k
  obtain ⟨k1, k2⟩ := k
  refine x_lc_ne (tgt := 8) (pc2 := 6) dX8_qFloor_2 dX8_qFloor_3 (by decide) rfl h1 (by decide) (fun c2 => ?_) (fun c2 => ?_)
  · replace k := k1 c2
    refine x_lload_n (pc2 := 9) dX8_qFloor_8 rfl rfl ?_
    refine x_lload_n (pc2 := 10) dX8_qFloor_9 rfl rfl ?_
    obtain ⟨h3, k⟩ := k
    obtain ⟨h4, k⟩ := k
    refine x_ldiv (pc2 := 11) dX8_qFloor_10 rfl h3 h1 h4 ?_
    refine x_lstore (pc2 := 13) (ls2 := [aJ l0, aU, aJ l2, aU, aJ (l0.tdiv l2), aU]) dX8_qFloor_11 rfl (by decide) rfl ?_
    refine x_lload_n (pc2 := 14) dX8_qFloor_13 rfl rfl ?_
    refine x_lload_n (pc2 := 15) dX8_qFloor_14 rfl rfl ?_
    refine x_lrem (pc2 := 16) dX8_qFloor_15 rfl h3 h1 h4 ?_
    refine x_lconst (pc2 := 17) (v := 0) dX8_qFloor_16 rfl rfl ?_
    obtain ⟨g6, k⟩ := k
    have kj : S_X8_qFloor sc d 55 [aJ l0, aU, aJ l2, aU, aJ (l0.tdiv l2), aU] [aJ (if (l0.tmod l2) = 0 then (l0.tdiv l2) else (if 0 ≤ l0 then (if 0 ≤ l2 then (l0.tdiv l2) else ((l0.tdiv l2) - 1) : Int) else (if 0 ≤ l2 then ((l0.tdiv l2) - 1) else (l0.tdiv l2) : Int) : Int) : Int)] m Q := by
      exact x_lreturn dX8_qFloor_55 rfl k
    have h7 := g6 
    refine x_lc_eq (tgt := 53) (pc2 := 21) dX8_qFloor_17 dX8_qFloor_18 (by decide) rfl h7 (by decide) (fun c8 => ?_) (fun c8 => ?_)
    · skip
      refine x_lload (pc2 := 55) dX8_qFloor_53 rfl rfl ?_
      exact x_topJ (v := (if (l0.tmod l2) = 0 then (l0.tdiv l2) else (if 0 ≤ l0 then (if 0 ≤ l2 then (l0.tdiv l2) else ((l0.tdiv l2) - 1) : Int) else (if 0 ≤ l2 then ((l0.tdiv l2) - 1) else (l0.tdiv l2) : Int) : Int) : Int)) (if_pos c8) kj
    · skip
      refine x_lload_n (pc2 := 22) dX8_qFloor_21 rfl rfl ?_
      refine x_lconst (pc2 := 23) (v := 0) dX8_qFloor_22 rfl rfl ?_
      refine x_lc_ge (tgt := 31) (pc2 := 27) dX8_qFloor_23 dX8_qFloor_24 (by decide) rfl h3 (by decide) (fun c9 => ?_) (fun c9 => ?_)
      · skip
        refine x_iconst (pc2 := 32) dX8_qFloor_31 rfl ?_
        refine x_lload_n (pc2 := 33) dX8_qFloor_32 rfl rfl ?_
        refine x_lconst (pc2 := 34) (v := 0) dX8_qFloor_33 rfl rfl ?_
        refine x_lc_ge (tgt := 42) (pc2 := 38) dX8_qFloor_34 dX8_qFloor_35 (by decide) rfl h1 (by decide) (fun c10 => ?_) (fun c10 => ?_)
        · skip
          refine x_iconst (pc2 := 43) dX8_qFloor_42 rfl ?_
          refine x_icmp_eq (tgt := 53) (pc2 := 46) dX8_qFloor_43 (by decide) rfl (by decide) (by decide) (fun c11 => ?_) (fun c11 => ?_)
          · skip
            refine x_lload (pc2 := 55) dX8_qFloor_53 rfl rfl ?_
            exact x_topJ (v := (if (l0.tmod l2) = 0 then (l0.tdiv l2) else (if 0 ≤ l0 then (if 0 ≤ l2 then (l0.tdiv l2) else ((l0.tdiv l2) - 1) : Int) else (if 0 ≤ l2 then ((l0.tdiv l2) - 1) else (l0.tdiv l2) : Int) : Int) : Int)) ((if_neg c8).trans ((if_pos c9).trans (if_pos c10))) kj
          · exact absurd (by decide) c11
        · skip
          refine x_iconst (pc2 := 39) dX8_qFloor_38 rfl ?_
          refine x_goto (tgt := 43) dX8_qFloor_39 (by decide) ?_
          refine x_icmp_eq (tgt := 53) (pc2 := 46) dX8_qFloor_43 (by decide) rfl (by decide) (by decide) (fun c12 => ?_) (fun c12 => ?_)
          · exact absurd c12 (by decide)
          · skip
            refine x_lload (pc2 := 48) dX8_qFloor_46 rfl rfl ?_
            refine x_lconst (pc2 := 49) (v := 1) dX8_qFloor_48 rfl rfl ?_
            refine x_lsub (pc2 := 50) dX8_qFloor_49 rfl ?_
            refine x_goto (tgt := 55) dX8_qFloor_50 (by decide) ?_
            exact x_topJ (v := (if (l0.tmod l2) = 0 then (l0.tdiv l2) else (if 0 ≤ l0 then (if 0 ≤ l2 then (l0.tdiv l2) else ((l0.tdiv l2) - 1) : Int) else (if 0 ≤ l2 then ((l0.tdiv l2) - 1) else (l0.tdiv l2) : Int) : Int) : Int)) ((if_neg c8).trans ((if_pos c9).trans (if_neg c10))) kj
      · skip
        refine x_iconst (pc2 := 28) dX8_qFloor_27 rfl ?_
        refine x_goto (tgt := 32) dX8_qFloor_28 (by decide) ?_
        refine x_lload_n (pc2 := 33) dX8_qFloor_32 rfl rfl ?_
        refine x_lconst (pc2 := 34) (v := 0) dX8_qFloor_33 rfl rfl ?_
        refine x_lc_ge (tgt := 42) (pc2 := 38) dX8_qFloor_34 dX8_qFloor_35 (by decide) rfl h1 (by decide) (fun c13 => ?_) (fun c13 => ?_)
        · skip
          refine x_iconst (pc2 := 43) dX8_qFloor_42 rfl ?_
          refine x_icmp_eq (tgt := 53) (pc2 := 46) dX8_qFloor_43 (by decide) rfl (by decide) (by decide) (fun c14 => ?_) (fun c14 => ?_)
          · exact absurd c14 (by decide)
          · skip
            refine x_lload (pc2 := 48) dX8_qFloor_46 rfl rfl ?_
            refine x_lconst (pc2 := 49) (v := 1) dX8_qFloor_48 rfl rfl ?_
            refine x_lsub (pc2 := 50) dX8_qFloor_49 rfl ?_
            refine x_goto (tgt := 55) dX8_qFloor_50 (by decide) ?_
            exact x_topJ (v := (if (l0.tmod l2) = 0 then (l0.tdiv l2) else (if 0 ≤ l0 then (if 0 ≤ l2 then (l0.tdiv l2) else ((l0.tdiv l2) - 1) : Int) else (if 0 ≤ l2 then ((l0.tdiv l2) - 1) else (l0.tdiv l2) : Int) : Int) : Int)) ((if_neg c8).trans ((if_neg c9).trans (if_pos c13))) kj
        · skip
          refine x_iconst (pc2 := 39) dX8_qFloor_38 rfl ?_
          refine x_goto (tgt := 43) dX8_qFloor_39 (by decide) ?_
          refine x_icmp_eq (tgt := 53) (pc2 := 46) dX8_qFloor_43 (by decide) rfl (by decide) (by decide) (fun c15 => ?_) (fun c15 => ?_)
          · skip
            refine x_lload (pc2 := 55) dX8_qFloor_53 rfl rfl ?_
            exact x_topJ (v := (if (l0.tmod l2) = 0 then (l0.tdiv l2) else (if 0 ≤ l0 then (if 0 ≤ l2 then (l0.tdiv l2) else ((l0.tdiv l2) - 1) : Int) else (if 0 ≤ l2 then ((l0.tdiv l2) - 1) else (l0.tdiv l2) : Int) : Int) : Int)) ((if_neg c8).trans ((if_neg c9).trans (if_neg c13))) kj
          · exact absurd (by decide) c15
  · replace k := k2 c2
    refine x_lconst (pc2 := 7) (v := 0) dX8_qFloor_6 rfl rfl ?_
    exact x_lreturn dX8_qFloor_7 rfl k
set_option maxRecDepth 4000 in
theorem g_X8_qPuts_0 {sc : List Int} {d : Nat} {m : Mem} {Q : Option AV → Mem → Prop} {l1 : Int} (k : (0 ≤ (m 62 118)) ∧ ((m 62 118) < 1700) ∧ Q none (wr (wr m 150 (m 62 118) l1) 62 118 (((wr m 150 (m 62 118) l1) 62 118) + 1))) : S_X8_qPuts sc d 0 [aR 62, aJ l1, aU] [] m Q := by
  refine x_aload_n (pc2 := 1) dX8_qPuts_0 rfl rfl ?_
  refine x_getf (pc2 := 4) (v := aR 150) fl_X8_281 ic_62 (vr_62_117 _) dX8_qPuts_1 rfl ?_
  refine x_aload_n (pc2 := 5) dX8_qPuts_4 rfl rfl ?_
  refine x_getf (pc2 := 8) (v := aI (m 62 118)) fl_X8_447 ic_62 (fv_i _ ic_62 rfl) dX8_qPuts_5 rfl ?_
  refine x_lload_n (pc2 := 9) dX8_qPuts_8 rfl rfl ?_
  obtain ⟨h1, k⟩ := k
  obtain ⟨h2, k⟩ := k
  refine x_last (pc2 := 10) ic_150 h1 (by rw [al_150]; exact h2) dX8_qPuts_9 rfl ?_
  refine x_aload_n (pc2 := 11) dX8_qPuts_10 rfl rfl ?_
  refine x_dup_r (pc2 := 12) dX8_qPuts_11 rfl (by decide) ?_
  refine x_getf (pc2 := 15) (v := aI ((wr m 150 (m 62 118) l1) 62 118)) fl_X8_447 ic_62 (fv_i _ ic_62 rfl) dX8_qPuts_12 rfl ?_
  refine x_iconst (pc2 := 16) dX8_qPuts_15 rfl ?_
  refine x_iadd (pc2 := 17) dX8_qPuts_16 rfl ?_
  refine x_putf (pc2 := 20) (x := (((wr m 150 (m 62 118) l1) 62 118) + 1)) fl_X8_447 ft_8_118 ic_62 (pv_i _ ic_62 rfl) (pn_i _) dX8_qPuts_17 rfl ?_
  exact x_return dX8_qPuts_20 rfl k
set_option maxRecDepth 4000 in
theorem g_X8_qJoins_0 {sc : List Int} {d : Nat} {m : Mem} {Q : Option AV → Mem → Prop} {l1 : Int} (k : (0 ≤ ((m 62 118) - 1)) ∧ (((m 62 118) - 1) < 1700) ∧ (0 ≤ ((m 62 118) - 2)) ∧ (((m 62 118) - 2) < 1700) ∧ (-2147483648 ≤ l1 ∧ l1 < 2147483648) ∧ ((l1 = 1) → (S_X8_qJoins sc d 97 [aR 62, aU, aU, aU, aU, aU] [aJ ((m 150 ((m 62 118) - 2)) + (m 150 ((m 62 118) - 1))), aR 62] (wr m 62 118 ((m 62 118) - 2)) Q)) ∧ ((l1 = 2) → (S_X8_qJoins sc d 111 [aR 62, aU, aU, aU, aU, aU] [aJ ((m 150 ((m 62 118) - 2)) - (m 150 ((m 62 118) - 1))), aR 62] (wr m 62 118 ((m 62 118) - 2)) Q)) ∧ ((l1 = 3) → (S_X8_qJoins sc d 125 [aR 62, aU, aU, aU, aU, aU] [aJ ((m 150 ((m 62 118) - 2)) * (m 150 ((m 62 118) - 1))), aR 62] (wr m 62 118 ((m 62 118) - 2)) Q)) ∧ ((l1 = 4) → (S_X8_qJoins sc d 138 [aR 62, aU, aU, aU, aU, aU] [aJ (m 150 ((m 62 118) - 1)), aJ (m 150 ((m 62 118) - 2)), aR 62] (wr m 62 118 ((m 62 118) - 2)) Q)) ∧ ((l1 = 5) → (((-9223372036854775808 ≤ (m 150 ((m 62 118) - 2)) ∧ (m 150 ((m 62 118) - 2)) < 9223372036854775808)) ∧ ((-9223372036854775808 ≤ (m 150 ((m 62 118) - 1)) ∧ (m 150 ((m 62 118) - 1)) < 9223372036854775808)) ∧ S_X8_qJoins sc d 161 [aR 62, aU, aU, aU, aU, aU] [aJ (if (m 150 ((m 62 118) - 1)) ≤ (m 150 ((m 62 118) - 2)) then (m 150 ((m 62 118) - 1)) else (m 150 ((m 62 118) - 2)) : Int), aR 62] (wr m 62 118 ((m 62 118) - 2)) Q)) ∧ ((l1 = 6) → (((-9223372036854775808 ≤ (m 150 ((m 62 118) - 2)) ∧ (m 150 ((m 62 118) - 2)) < 9223372036854775808)) ∧ ((-9223372036854775808 ≤ (m 150 ((m 62 118) - 1)) ∧ (m 150 ((m 62 118) - 1)) < 9223372036854775808)) ∧ S_X8_qJoins sc d 181 [aR 62, aU, aU, aU, aU, aU] [aJ (if (m 150 ((m 62 118) - 2)) ≤ (m 150 ((m 62 118) - 1)) then (m 150 ((m 62 118) - 1)) else (m 150 ((m 62 118) - 2)) : Int), aR 62] (wr m 62 118 ((m 62 118) - 2)) Q)) ∧ ((l1 = 7) → (((-9223372036854775808 ≤ (m 150 ((m 62 118) - 2)) ∧ (m 150 ((m 62 118) - 2)) < 9223372036854775808)) ∧ ((-9223372036854775808 ≤ (m 150 ((m 62 118) - 1)) ∧ (m 150 ((m 62 118) - 1)) < 9223372036854775808)) ∧ S_X8_qJoins sc d 200 [aR 62, aU, aU, aU, aU, aU] [aJ (if (m 150 ((m 62 118) - 1)) ≤ (m 150 ((m 62 118) - 2)) then 0 else 1 : Int), aR 62] (wr m 62 118 ((m 62 118) - 2)) Q)) ∧ ((l1 = 8) → (((-9223372036854775808 ≤ (m 150 ((m 62 118) - 2)) ∧ (m 150 ((m 62 118) - 2)) < 9223372036854775808)) ∧ ((-9223372036854775808 ≤ (m 150 ((m 62 118) - 1)) ∧ (m 150 ((m 62 118) - 1)) < 9223372036854775808)) ∧ S_X8_qJoins sc d 219 [aR 62, aU, aU, aU, aU, aU] [aJ (if (m 150 ((m 62 118) - 2)) ≤ (m 150 ((m 62 118) - 1)) then 0 else 1 : Int), aR 62] (wr m 62 118 ((m 62 118) - 2)) Q)) ∧ ((l1 = 9) → (((-9223372036854775808 ≤ (m 150 ((m 62 118) - 2)) ∧ (m 150 ((m 62 118) - 2)) < 9223372036854775808)) ∧ ((-9223372036854775808 ≤ (m 150 ((m 62 118) - 1)) ∧ (m 150 ((m 62 118) - 1)) < 9223372036854775808)) ∧ S_X8_qJoins sc d 238 [aR 62, aU, aU, aU, aU, aU] [aJ (if (m 150 ((m 62 118) - 2)) ≠ (m 150 ((m 62 118) - 1)) then 0 else 1 : Int), aR 62] (wr m 62 118 ((m 62 118) - 2)) Q)) ∧ ((l1 = 10) → (S_X8_qJoins sc d 249 [aR 62, aU, aU, aU, aU, aU] [aJ ((m 150 ((m 62 118) - 2)) * (m 150 ((m 62 118) - 1))), aR 62] (wr m 62 118 ((m 62 118) - 2)) Q)) ∧ ((l1 ≠ 1 ∧ l1 ≠ 2 ∧ l1 ≠ 3 ∧ l1 ≠ 4 ∧ l1 ≠ 5 ∧ l1 ≠ 6 ∧ l1 ≠ 7 ∧ l1 ≠ 8 ∧ l1 ≠ 9 ∧ l1 ≠ 10) → (((-9223372036854775808 ≤ ((m 150 ((m 62 118) - 2)) + (m 150 ((m 62 118) - 1))) ∧ ((m 150 ((m 62 118) - 2)) + (m 150 ((m 62 118) - 1))) < 9223372036854775808)) ∧ S_X8_qJoins sc d 270 [aR 62, aU, aU, aU, aU, aU] [aJ (if ((m 150 ((m 62 118) - 2)) + (m 150 ((m 62 118) - 1))) ≤ 0 then 0 else 1 : Int), aR 62] (wr m 62 118 ((m 62 118) - 2)) Q))) : S_X8_qJoins sc d 0 [aR 62, aI l1, aU, aU, aU, aU] [] m Q := by
  refine x_aload_n (pc2 := 1) dX8_qJoins_0 rfl rfl ?_
  refine x_getf (pc2 := 4) (v := aR 150) fl_X8_281 ic_62 (vr_62_117 _) dX8_qJoins_1 rfl ?_
  refine x_aload_n (pc2 := 5) dX8_qJoins_4 rfl rfl ?_
  refine x_getf (pc2 := 8) (v := aI (m 62 118)) fl_X8_447 ic_62 (fv_i _ ic_62 rfl) dX8_qJoins_5 rfl ?_
  refine x_iconst (pc2 := 9) dX8_qJoins_8 rfl ?_
  refine x_isub (pc2 := 10) dX8_qJoins_9 rfl ?_
  obtain ⟨h1, k⟩ := k
  obtain ⟨h2, k⟩ := k
  refine x_lald (pc2 := 11) ic_150 h1 (by rw [al_150]; exact h2) dX8_qJoins_10 rfl ?_
  refine x_lstore_n (pc2 := 12) (ls2 := [aR 62, aI l1, aJ (m 150 ((m 62 118) - 1)), aU, aU, aU]) dX8_qJoins_11 rfl (by decide) rfl ?_
  refine x_aload_n (pc2 := 13) dX8_qJoins_12 rfl rfl ?_
  refine x_getf (pc2 := 16) (v := aR 150) fl_X8_281 ic_62 (vr_62_117 _) dX8_qJoins_13 rfl ?_
  refine x_aload_n (pc2 := 17) dX8_qJoins_16 rfl rfl ?_
  refine x_getf (pc2 := 20) (v := aI (m 62 118)) fl_X8_447 ic_62 (fv_i _ ic_62 rfl) dX8_qJoins_17 rfl ?_
  refine x_iconst (pc2 := 21) dX8_qJoins_20 rfl ?_
  refine x_isub (pc2 := 22) dX8_qJoins_21 rfl ?_
  obtain ⟨h3, k⟩ := k
  obtain ⟨h4, k⟩ := k
  refine x_lald (pc2 := 23) ic_150 h3 (by rw [al_150]; exact h4) dX8_qJoins_22 rfl ?_
  refine x_lstore (pc2 := 25) (ls2 := [aR 62, aI l1, aJ (m 150 ((m 62 118) - 1)), aU, aJ (m 150 ((m 62 118) - 2)), aU]) dX8_qJoins_23 rfl (by decide) rfl ?_
  refine x_aload_n (pc2 := 26) dX8_qJoins_25 rfl rfl ?_
  refine x_dup_r (pc2 := 27) dX8_qJoins_26 rfl (by decide) ?_
  refine x_getf (pc2 := 30) (v := aI (m 62 118)) fl_X8_447 ic_62 (fv_i _ ic_62 rfl) dX8_qJoins_27 rfl ?_
  refine x_iconst (pc2 := 31) dX8_qJoins_30 rfl ?_
  refine x_isub (pc2 := 32) dX8_qJoins_31 rfl ?_
  refine x_putf (pc2 := 35) (x := ((m 62 118) - 2)) fl_X8_447 ft_8_118 ic_62 (pv_i _ ic_62 rfl) (pn_i _) dX8_qJoins_32 rfl ?_
  refine x_iload_n (pc2 := 36) dX8_qJoins_35 rfl rfl ?_
  obtain ⟨h5, k⟩ := k
  obtain ⟨k45, k46, k47, k48, k49, k50, k51, k52, k53, k54, k55⟩ := k
  by_cases c56 : l1 = 1
  · replace k := k45 c56
    refine x_tin (tgt := 92) (off := 56) dX8_qJoins_36 h5 (by omega) (by omega) (by rw [c56]; rfl) (by decide) ?_
    refine x_aload_n (pc2 := 93) dX8_qJoins_92 rfl rfl ?_
    refine x_lload (pc2 := 95) dX8_qJoins_93 rfl rfl ?_
    refine x_lload_n (pc2 := 96) dX8_qJoins_95 rfl rfl ?_
    refine x_ladd (pc2 := 97) dX8_qJoins_96 rfl ?_
    exact x_drop (drp_k (drp_u (drp_u (drp_k (drp_u (drp_k drp_n)))))) k
  by_cases c57 : l1 = 2
  · replace k := k46 c57
    refine x_tin (tgt := 106) (off := 70) dX8_qJoins_36 h5 (by omega) (by omega) (by rw [c57]; rfl) (by decide) ?_
    refine x_aload_n (pc2 := 107) dX8_qJoins_106 rfl rfl ?_
    refine x_lload (pc2 := 109) dX8_qJoins_107 rfl rfl ?_
    refine x_lload_n (pc2 := 110) dX8_qJoins_109 rfl rfl ?_
    refine x_lsub (pc2 := 111) dX8_qJoins_110 rfl ?_
    exact x_drop (drp_k (drp_u (drp_u (drp_k (drp_u (drp_k drp_n)))))) k
  by_cases c58 : l1 = 3
  · replace k := k47 c58
    refine x_tin (tgt := 120) (off := 84) dX8_qJoins_36 h5 (by omega) (by omega) (by rw [c58]; rfl) (by decide) ?_
    refine x_aload_n (pc2 := 121) dX8_qJoins_120 rfl rfl ?_
    refine x_lload (pc2 := 123) dX8_qJoins_121 rfl rfl ?_
    refine x_lload_n (pc2 := 124) dX8_qJoins_123 rfl rfl ?_
    refine x_lmul (pc2 := 125) dX8_qJoins_124 rfl ?_
    exact x_drop (drp_k (drp_u (drp_u (drp_k (drp_u (drp_k drp_n)))))) k
  by_cases c59 : l1 = 4
  · replace k := k48 c59
    refine x_tin (tgt := 134) (off := 98) dX8_qJoins_36 h5 (by omega) (by omega) (by rw [c59]; rfl) (by decide) ?_
    refine x_aload_n (pc2 := 135) dX8_qJoins_134 rfl rfl ?_
    refine x_lload (pc2 := 137) dX8_qJoins_135 rfl rfl ?_
    refine x_lload_n (pc2 := 138) dX8_qJoins_137 rfl rfl ?_
    exact x_drop (drp_k (drp_u (drp_u (drp_k (drp_u (drp_k drp_n)))))) k
  by_cases c60 : l1 = 5
  · replace k := k49 c60
    refine x_tin (tgt := 147) (off := 111) dX8_qJoins_36 h5 (by omega) (by omega) (by rw [c60]; rfl) (by decide) ?_
    refine x_aload_n (pc2 := 148) dX8_qJoins_147 rfl rfl ?_
    refine x_lload (pc2 := 150) dX8_qJoins_148 rfl rfl ?_
    refine x_lload_n (pc2 := 151) dX8_qJoins_150 rfl rfl ?_
    obtain ⟨g8, k⟩ := k
    obtain ⟨g9, k⟩ := k
    have kj : S_X8_qJoins sc d 161 [aR 62, aI l1, aJ (m 150 ((m 62 118) - 1)), aU, aJ (m 150 ((m 62 118) - 2)), aU] [aJ (if (m 150 ((m 62 118) - 1)) ≤ (m 150 ((m 62 118) - 2)) then (m 150 ((m 62 118) - 1)) else (m 150 ((m 62 118) - 2)) : Int), aR 62] (wr m 62 118 ((m 62 118) - 2)) Q := by
      exact x_drop (drp_k (drp_u (drp_u (drp_k (drp_u (drp_k drp_n)))))) k
    have h10 := g8 
    have h11 := g9 
    refine x_lc_ge (tgt := 160) (pc2 := 155) dX8_qJoins_151 dX8_qJoins_152 (by decide) rfl h10 h11 (fun c12 => ?_) (fun c12 => ?_)
    · skip
      refine x_lload_n (pc2 := 161) dX8_qJoins_160 rfl rfl ?_
      exact x_topJ (v := (if (m 150 ((m 62 118) - 1)) ≤ (m 150 ((m 62 118) - 2)) then (m 150 ((m 62 118) - 1)) else (m 150 ((m 62 118) - 2)) : Int)) (if_pos c12) kj
    · skip
      refine x_lload (pc2 := 157) dX8_qJoins_155 rfl rfl ?_
      refine x_goto (tgt := 161) dX8_qJoins_157 (by decide) ?_
      exact x_topJ (v := (if (m 150 ((m 62 118) - 1)) ≤ (m 150 ((m 62 118) - 2)) then (m 150 ((m 62 118) - 1)) else (m 150 ((m 62 118) - 2)) : Int)) (if_neg c12) kj
  by_cases c61 : l1 = 6
  · replace k := k50 c61
    refine x_tin (tgt := 167) (off := 131) dX8_qJoins_36 h5 (by omega) (by omega) (by rw [c61]; rfl) (by decide) ?_
    refine x_aload_n (pc2 := 168) dX8_qJoins_167 rfl rfl ?_
    refine x_lload (pc2 := 170) dX8_qJoins_168 rfl rfl ?_
    refine x_lload_n (pc2 := 171) dX8_qJoins_170 rfl rfl ?_
    obtain ⟨g15, k⟩ := k
    obtain ⟨g16, k⟩ := k
    have kj : S_X8_qJoins sc d 181 [aR 62, aI l1, aJ (m 150 ((m 62 118) - 1)), aU, aJ (m 150 ((m 62 118) - 2)), aU] [aJ (if (m 150 ((m 62 118) - 2)) ≤ (m 150 ((m 62 118) - 1)) then (m 150 ((m 62 118) - 1)) else (m 150 ((m 62 118) - 2)) : Int), aR 62] (wr m 62 118 ((m 62 118) - 2)) Q := by
      exact x_drop (drp_k (drp_u (drp_u (drp_k (drp_u (drp_k drp_n)))))) k
    have h17 := g15 
    have h18 := g16 
    refine x_lc_le (tgt := 180) (pc2 := 175) dX8_qJoins_171 dX8_qJoins_172 (by decide) rfl h17 h18 (fun c19 => ?_) (fun c19 => ?_)
    · skip
      refine x_lload_n (pc2 := 181) dX8_qJoins_180 rfl rfl ?_
      exact x_topJ (v := (if (m 150 ((m 62 118) - 2)) ≤ (m 150 ((m 62 118) - 1)) then (m 150 ((m 62 118) - 1)) else (m 150 ((m 62 118) - 2)) : Int)) (if_pos c19) kj
    · skip
      refine x_lload (pc2 := 177) dX8_qJoins_175 rfl rfl ?_
      refine x_goto (tgt := 181) dX8_qJoins_177 (by decide) ?_
      exact x_topJ (v := (if (m 150 ((m 62 118) - 2)) ≤ (m 150 ((m 62 118) - 1)) then (m 150 ((m 62 118) - 1)) else (m 150 ((m 62 118) - 2)) : Int)) (if_neg c19) kj
  by_cases c62 : l1 = 7
  · replace k := k51 c62
    refine x_tin (tgt := 187) (off := 151) dX8_qJoins_36 h5 (by omega) (by omega) (by rw [c62]; rfl) (by decide) ?_
    refine x_aload_n (pc2 := 188) dX8_qJoins_187 rfl rfl ?_
    refine x_lload (pc2 := 190) dX8_qJoins_188 rfl rfl ?_
    refine x_lload_n (pc2 := 191) dX8_qJoins_190 rfl rfl ?_
    obtain ⟨g22, k⟩ := k
    obtain ⟨g23, k⟩ := k
    have kj : S_X8_qJoins sc d 200 [aR 62, aI l1, aJ (m 150 ((m 62 118) - 1)), aU, aJ (m 150 ((m 62 118) - 2)), aU] [aJ (if (m 150 ((m 62 118) - 1)) ≤ (m 150 ((m 62 118) - 2)) then 0 else 1 : Int), aR 62] (wr m 62 118 ((m 62 118) - 2)) Q := by
      exact x_drop (drp_k (drp_u (drp_u (drp_k (drp_u (drp_k drp_n)))))) k
    have h24 := g22 
    have h25 := g23 
    refine x_lc_ge (tgt := 199) (pc2 := 195) dX8_qJoins_191 dX8_qJoins_192 (by decide) rfl h24 h25 (fun c26 => ?_) (fun c26 => ?_)
    · skip
      refine x_lconst (pc2 := 200) (v := 0) dX8_qJoins_199 rfl rfl ?_
      exact x_topJ (v := (if (m 150 ((m 62 118) - 1)) ≤ (m 150 ((m 62 118) - 2)) then 0 else 1 : Int)) (if_pos c26) kj
    · skip
      refine x_lconst (pc2 := 196) (v := 1) dX8_qJoins_195 rfl rfl ?_
      refine x_goto (tgt := 200) dX8_qJoins_196 (by decide) ?_
      exact x_topJ (v := (if (m 150 ((m 62 118) - 1)) ≤ (m 150 ((m 62 118) - 2)) then 0 else 1 : Int)) (if_neg c26) kj
  by_cases c63 : l1 = 8
  · replace k := k52 c63
    refine x_tin (tgt := 206) (off := 170) dX8_qJoins_36 h5 (by omega) (by omega) (by rw [c63]; rfl) (by decide) ?_
    refine x_aload_n (pc2 := 207) dX8_qJoins_206 rfl rfl ?_
    refine x_lload (pc2 := 209) dX8_qJoins_207 rfl rfl ?_
    refine x_lload_n (pc2 := 210) dX8_qJoins_209 rfl rfl ?_
    obtain ⟨g29, k⟩ := k
    obtain ⟨g30, k⟩ := k
    have kj : S_X8_qJoins sc d 219 [aR 62, aI l1, aJ (m 150 ((m 62 118) - 1)), aU, aJ (m 150 ((m 62 118) - 2)), aU] [aJ (if (m 150 ((m 62 118) - 2)) ≤ (m 150 ((m 62 118) - 1)) then 0 else 1 : Int), aR 62] (wr m 62 118 ((m 62 118) - 2)) Q := by
      exact x_drop (drp_k (drp_u (drp_u (drp_k (drp_u (drp_k drp_n)))))) k
    have h31 := g29 
    have h32 := g30 
    refine x_lc_le (tgt := 218) (pc2 := 214) dX8_qJoins_210 dX8_qJoins_211 (by decide) rfl h31 h32 (fun c33 => ?_) (fun c33 => ?_)
    · skip
      refine x_lconst (pc2 := 219) (v := 0) dX8_qJoins_218 rfl rfl ?_
      exact x_topJ (v := (if (m 150 ((m 62 118) - 2)) ≤ (m 150 ((m 62 118) - 1)) then 0 else 1 : Int)) (if_pos c33) kj
    · skip
      refine x_lconst (pc2 := 215) (v := 1) dX8_qJoins_214 rfl rfl ?_
      refine x_goto (tgt := 219) dX8_qJoins_215 (by decide) ?_
      exact x_topJ (v := (if (m 150 ((m 62 118) - 2)) ≤ (m 150 ((m 62 118) - 1)) then 0 else 1 : Int)) (if_neg c33) kj
  by_cases c64 : l1 = 9
  · replace k := k53 c64
    refine x_tin (tgt := 225) (off := 189) dX8_qJoins_36 h5 (by omega) (by omega) (by rw [c64]; rfl) (by decide) ?_
    refine x_aload_n (pc2 := 226) dX8_qJoins_225 rfl rfl ?_
    refine x_lload (pc2 := 228) dX8_qJoins_226 rfl rfl ?_
    refine x_lload_n (pc2 := 229) dX8_qJoins_228 rfl rfl ?_
    obtain ⟨g36, k⟩ := k
    obtain ⟨g37, k⟩ := k
    have kj : S_X8_qJoins sc d 238 [aR 62, aI l1, aJ (m 150 ((m 62 118) - 1)), aU, aJ (m 150 ((m 62 118) - 2)), aU] [aJ (if (m 150 ((m 62 118) - 2)) ≠ (m 150 ((m 62 118) - 1)) then 0 else 1 : Int), aR 62] (wr m 62 118 ((m 62 118) - 2)) Q := by
      exact x_drop (drp_k (drp_u (drp_u (drp_k (drp_u (drp_k drp_n)))))) k
    have h38 := g36 
    have h39 := g37 
    refine x_lc_ne (tgt := 237) (pc2 := 233) dX8_qJoins_229 dX8_qJoins_230 (by decide) rfl h38 h39 (fun c40 => ?_) (fun c40 => ?_)
    · skip
      refine x_lconst (pc2 := 238) (v := 0) dX8_qJoins_237 rfl rfl ?_
      exact x_topJ (v := (if (m 150 ((m 62 118) - 2)) ≠ (m 150 ((m 62 118) - 1)) then 0 else 1 : Int)) (if_pos c40) kj
    · skip
      refine x_lconst (pc2 := 234) (v := 1) dX8_qJoins_233 rfl rfl ?_
      refine x_goto (tgt := 238) dX8_qJoins_234 (by decide) ?_
      exact x_topJ (v := (if (m 150 ((m 62 118) - 2)) ≠ (m 150 ((m 62 118) - 1)) then 0 else 1 : Int)) (if_neg c40) kj
  by_cases c65 : l1 = 10
  · replace k := k54 c65
    refine x_tin (tgt := 244) (off := 208) dX8_qJoins_36 h5 (by omega) (by omega) (by rw [c65]; rfl) (by decide) ?_
    refine x_aload_n (pc2 := 245) dX8_qJoins_244 rfl rfl ?_
    refine x_lload (pc2 := 247) dX8_qJoins_245 rfl rfl ?_
    refine x_lload_n (pc2 := 248) dX8_qJoins_247 rfl rfl ?_
    refine x_lmul (pc2 := 249) dX8_qJoins_248 rfl ?_
    exact x_drop (drp_k (drp_u (drp_u (drp_k (drp_u (drp_k drp_n)))))) k
  replace k := k55 (by omega)
  have kd : S_X8_qJoins sc d 255 [aR 62, aI l1, aJ (m 150 ((m 62 118) - 1)), aU, aJ (m 150 ((m 62 118) - 2)), aU] [] (wr m 62 118 ((m 62 118) - 2)) Q := by
    refine x_aload_n (pc2 := 256) dX8_qJoins_255 rfl rfl ?_
    refine x_lload (pc2 := 258) dX8_qJoins_256 rfl rfl ?_
    refine x_lload_n (pc2 := 259) dX8_qJoins_258 rfl rfl ?_
    refine x_ladd (pc2 := 260) dX8_qJoins_259 rfl ?_
    refine x_lconst (pc2 := 261) (v := 0) dX8_qJoins_260 rfl rfl ?_
    obtain ⟨g42, k⟩ := k
    have kj : S_X8_qJoins sc d 270 [aR 62, aI l1, aJ (m 150 ((m 62 118) - 1)), aU, aJ (m 150 ((m 62 118) - 2)), aU] [aJ (if ((m 150 ((m 62 118) - 2)) + (m 150 ((m 62 118) - 1))) ≤ 0 then 0 else 1 : Int), aR 62] (wr m 62 118 ((m 62 118) - 2)) Q := by
      exact x_drop (drp_k (drp_u (drp_u (drp_k (drp_u (drp_k drp_n)))))) k
    have h43 := g42 
    refine x_lc_le (tgt := 269) (pc2 := 265) dX8_qJoins_261 dX8_qJoins_262 (by decide) rfl h43 (by decide) (fun c44 => ?_) (fun c44 => ?_)
    · skip
      refine x_lconst (pc2 := 270) (v := 0) dX8_qJoins_269 rfl rfl ?_
      exact x_topJ (v := (if ((m 150 ((m 62 118) - 2)) + (m 150 ((m 62 118) - 1))) ≤ 0 then 0 else 1 : Int)) (if_pos c44) kj
    · skip
      refine x_lconst (pc2 := 266) (v := 1) dX8_qJoins_265 rfl rfl ?_
      refine x_goto (tgt := 270) dX8_qJoins_266 (by decide) ?_
      exact x_topJ (v := (if ((m 150 ((m 62 118) - 2)) + (m 150 ((m 62 118) - 1))) ≤ 0 then 0 else 1 : Int)) (if_neg c44) kj
  by_cases c66 : l1 < 1 ∨ 10 < l1
  · exact x_tout (tgt := 255) dX8_qJoins_36 h5 c66 (by decide) kd
  exact absurd c66 (by omega)
set_option maxRecDepth 4000 in
theorem g_X8_qJoins_100 {sc : List Int} {d : Nat} {m : Mem} {Q : Option AV → Mem → Prop} {s1 : Int} (k : S_X8_qJoins sc d 100 [aR 62, aU, aU, aU, aU, aU] [aJ s1, aR 62] m Q) : S_X8_qJoins sc d 100 [aR 62, aU, aU, aU, aU, aU] [aJ s1, aR 62] m Q := by
  exact k
set_option maxRecDepth 4000 in
theorem g_X8_qJoins_103 {sc : List Int} {d : Nat} {m : Mem} {Q : Option AV → Mem → Prop} (k : S_X8_qJoins sc d 273 [aR 62, aU, aU, aU, aU, aU] [] m Q) : S_X8_qJoins sc d 103 [aR 62, aU, aU, aU, aU, aU] [] m Q := by
  refine x_goto (tgt := 273) dX8_qJoins_103 (by decide) ?_
  exact k
set_option maxRecDepth 4000 in
theorem g_X8_qJoins_114 {sc : List Int} {d : Nat} {m : Mem} {Q : Option AV → Mem → Prop} {s1 : Int} (k : S_X8_qJoins sc d 114 [aR 62, aU, aU, aU, aU, aU] [aJ s1, aR 62] m Q) : S_X8_qJoins sc d 114 [aR 62, aU, aU, aU, aU, aU] [aJ s1, aR 62] m Q := by
  exact k
set_option maxRecDepth 4000 in
theorem g_X8_qJoins_117 {sc : List Int} {d : Nat} {m : Mem} {Q : Option AV → Mem → Prop} (k : S_X8_qJoins sc d 273 [aR 62, aU, aU, aU, aU, aU] [] m Q) : S_X8_qJoins sc d 117 [aR 62, aU, aU, aU, aU, aU] [] m Q := by
  refine x_goto (tgt := 273) dX8_qJoins_117 (by decide) ?_
  exact k
set_option maxRecDepth 4000 in
theorem g_X8_qJoins_128 {sc : List Int} {d : Nat} {m : Mem} {Q : Option AV → Mem → Prop} {s1 : Int} (k : S_X8_qJoins sc d 128 [aR 62, aU, aU, aU, aU, aU] [aJ s1, aR 62] m Q) : S_X8_qJoins sc d 128 [aR 62, aU, aU, aU, aU, aU] [aJ s1, aR 62] m Q := by
  exact k
set_option maxRecDepth 4000 in
theorem g_X8_qJoins_131 {sc : List Int} {d : Nat} {m : Mem} {Q : Option AV → Mem → Prop} (k : S_X8_qJoins sc d 273 [aR 62, aU, aU, aU, aU, aU] [] m Q) : S_X8_qJoins sc d 131 [aR 62, aU, aU, aU, aU, aU] [] m Q := by
  refine x_goto (tgt := 273) dX8_qJoins_131 (by decide) ?_
  exact k
set_option maxRecDepth 4000 in
theorem g_X8_qJoins_141 {sc : List Int} {d : Nat} {m : Mem} {Q : Option AV → Mem → Prop} {s1 : Int} (k : S_X8_qJoins sc d 141 [aR 62, aU, aU, aU, aU, aU] [aJ s1, aR 62] m Q) : S_X8_qJoins sc d 141 [aR 62, aU, aU, aU, aU, aU] [aJ s1, aR 62] m Q := by
  exact k
set_option maxRecDepth 4000 in
theorem g_X8_qJoins_144 {sc : List Int} {d : Nat} {m : Mem} {Q : Option AV → Mem → Prop} (k : S_X8_qJoins sc d 273 [aR 62, aU, aU, aU, aU, aU] [] m Q) : S_X8_qJoins sc d 144 [aR 62, aU, aU, aU, aU, aU] [] m Q := by
  refine x_goto (tgt := 273) dX8_qJoins_144 (by decide) ?_
  exact k
set_option maxRecDepth 4000 in
theorem g_X8_qJoins_164 {sc : List Int} {d : Nat} {m : Mem} {Q : Option AV → Mem → Prop} (k : S_X8_qJoins sc d 273 [aR 62, aU, aU, aU, aU, aU] [] m Q) : S_X8_qJoins sc d 164 [aR 62, aU, aU, aU, aU, aU] [] m Q := by
  refine x_goto (tgt := 273) dX8_qJoins_164 (by decide) ?_
  exact k
set_option maxRecDepth 4000 in
theorem g_X8_qJoins_184 {sc : List Int} {d : Nat} {m : Mem} {Q : Option AV → Mem → Prop} (k : S_X8_qJoins sc d 273 [aR 62, aU, aU, aU, aU, aU] [] m Q) : S_X8_qJoins sc d 184 [aR 62, aU, aU, aU, aU, aU] [] m Q := by
  refine x_goto (tgt := 273) dX8_qJoins_184 (by decide) ?_
  exact k
set_option maxRecDepth 4000 in
theorem g_X8_qJoins_203 {sc : List Int} {d : Nat} {m : Mem} {Q : Option AV → Mem → Prop} (k : S_X8_qJoins sc d 273 [aR 62, aU, aU, aU, aU, aU] [] m Q) : S_X8_qJoins sc d 203 [aR 62, aU, aU, aU, aU, aU] [] m Q := by
  refine x_goto (tgt := 273) dX8_qJoins_203 (by decide) ?_
  exact k
set_option maxRecDepth 4000 in
theorem g_X8_qJoins_222 {sc : List Int} {d : Nat} {m : Mem} {Q : Option AV → Mem → Prop} (k : S_X8_qJoins sc d 273 [aR 62, aU, aU, aU, aU, aU] [] m Q) : S_X8_qJoins sc d 222 [aR 62, aU, aU, aU, aU, aU] [] m Q := by
  refine x_goto (tgt := 273) dX8_qJoins_222 (by decide) ?_
  exact k
set_option maxRecDepth 4000 in
theorem g_X8_qJoins_241 {sc : List Int} {d : Nat} {m : Mem} {Q : Option AV → Mem → Prop} (k : S_X8_qJoins sc d 273 [aR 62, aU, aU, aU, aU, aU] [] m Q) : S_X8_qJoins sc d 241 [aR 62, aU, aU, aU, aU, aU] [] m Q := by
  refine x_goto (tgt := 273) dX8_qJoins_241 (by decide) ?_
  exact k
set_option maxRecDepth 4000 in
theorem g_X8_qJoins_252 {sc : List Int} {d : Nat} {m : Mem} {Q : Option AV → Mem → Prop} (k : S_X8_qJoins sc d 273 [aR 62, aU, aU, aU, aU, aU] [] m Q) : S_X8_qJoins sc d 252 [aR 62, aU, aU, aU, aU, aU] [] m Q := by
  refine x_goto (tgt := 273) dX8_qJoins_252 (by decide) ?_
  exact k
set_option maxRecDepth 4000 in
theorem g_X8_qJoins_273 {sc : List Int} {d : Nat} {m : Mem} {Q : Option AV → Mem → Prop} (k : Q none m) : S_X8_qJoins sc d 273 [aR 62, aU, aU, aU, aU, aU] [] m Q := by
  exact x_return dX8_qJoins_273 rfl k
theorem c_X8_qJoins_97 {sc : List Int} {d d2 : Nat} {m m2 : Mem} {Q : Option AV → Mem → Prop} {s1 : Int} {v : Int} (hM : C_X8_qClip sc d2 [aJ s1] m (some (aJ v)) m2) (hd : d2 + 1 ≤ d) (k : S_X8_qJoins sc d 100 [aR 62, aU, aU, aU, aU, aU] [aJ v, aR 62] m2 Q) : S_X8_qJoins sc d 97 [aR 62, aU, aU, aU, aU, aU] [aJ s1, aR 62] m Q := x_callS (as := [aJ s1]) (rest := [aR 62]) hM mk_X8_qClip ms_X8_qClip lk_X8_692 hd rfl rfl (Nat.le_of_ble_eq_true rfl) dX8_qJoins_97 rfl k
theorem c_X8_qJoins_100 {sc : List Int} {d d2 : Nat} {m m2 : Mem} {Q : Option AV → Mem → Prop} {s1 : Int} (hM : C_X8_qPuts sc d2 [aR 62, aJ s1] m none m2) (hd : d2 + 1 ≤ d) (k : S_X8_qJoins sc d 103 [aR 62, aU, aU, aU, aU, aU] [] m2 Q) : S_X8_qJoins sc d 100 [aR 62, aU, aU, aU, aU, aU] [aJ s1, aR 62] m Q := x_callV (as := [aJ s1]) (rest := []) hM mk_X8_qPuts mv_X8_qPuts lk_X8_450 (Or.inl ⟨8, (RX8, TX8, 123), ic_62, Nat.le_of_ble_eq_true rfl, rfl, rfl⟩) hd rfl rfl (Nat.le_of_ble_eq_true rfl) dX8_qJoins_100 rfl k
theorem c_X8_qJoins_111 {sc : List Int} {d d2 : Nat} {m m2 : Mem} {Q : Option AV → Mem → Prop} {s1 : Int} {v : Int} (hM : C_X8_qClip sc d2 [aJ s1] m (some (aJ v)) m2) (hd : d2 + 1 ≤ d) (k : S_X8_qJoins sc d 114 [aR 62, aU, aU, aU, aU, aU] [aJ v, aR 62] m2 Q) : S_X8_qJoins sc d 111 [aR 62, aU, aU, aU, aU, aU] [aJ s1, aR 62] m Q := x_callS (as := [aJ s1]) (rest := [aR 62]) hM mk_X8_qClip ms_X8_qClip lk_X8_692 hd rfl rfl (Nat.le_of_ble_eq_true rfl) dX8_qJoins_111 rfl k
theorem c_X8_qJoins_114 {sc : List Int} {d d2 : Nat} {m m2 : Mem} {Q : Option AV → Mem → Prop} {s1 : Int} (hM : C_X8_qPuts sc d2 [aR 62, aJ s1] m none m2) (hd : d2 + 1 ≤ d) (k : S_X8_qJoins sc d 117 [aR 62, aU, aU, aU, aU, aU] [] m2 Q) : S_X8_qJoins sc d 114 [aR 62, aU, aU, aU, aU, aU] [aJ s1, aR 62] m Q := x_callV (as := [aJ s1]) (rest := []) hM mk_X8_qPuts mv_X8_qPuts lk_X8_450 (Or.inl ⟨8, (RX8, TX8, 123), ic_62, Nat.le_of_ble_eq_true rfl, rfl, rfl⟩) hd rfl rfl (Nat.le_of_ble_eq_true rfl) dX8_qJoins_114 rfl k
theorem c_X8_qJoins_125 {sc : List Int} {d d2 : Nat} {m m2 : Mem} {Q : Option AV → Mem → Prop} {s1 : Int} {v : Int} (hM : C_X8_qClip sc d2 [aJ s1] m (some (aJ v)) m2) (hd : d2 + 1 ≤ d) (k : S_X8_qJoins sc d 128 [aR 62, aU, aU, aU, aU, aU] [aJ v, aR 62] m2 Q) : S_X8_qJoins sc d 125 [aR 62, aU, aU, aU, aU, aU] [aJ s1, aR 62] m Q := x_callS (as := [aJ s1]) (rest := [aR 62]) hM mk_X8_qClip ms_X8_qClip lk_X8_692 hd rfl rfl (Nat.le_of_ble_eq_true rfl) dX8_qJoins_125 rfl k
theorem c_X8_qJoins_128 {sc : List Int} {d d2 : Nat} {m m2 : Mem} {Q : Option AV → Mem → Prop} {s1 : Int} (hM : C_X8_qPuts sc d2 [aR 62, aJ s1] m none m2) (hd : d2 + 1 ≤ d) (k : S_X8_qJoins sc d 131 [aR 62, aU, aU, aU, aU, aU] [] m2 Q) : S_X8_qJoins sc d 128 [aR 62, aU, aU, aU, aU, aU] [aJ s1, aR 62] m Q := x_callV (as := [aJ s1]) (rest := []) hM mk_X8_qPuts mv_X8_qPuts lk_X8_450 (Or.inl ⟨8, (RX8, TX8, 123), ic_62, Nat.le_of_ble_eq_true rfl, rfl, rfl⟩) hd rfl rfl (Nat.le_of_ble_eq_true rfl) dX8_qJoins_128 rfl k
theorem c_X8_qJoins_138 {sc : List Int} {d d2 : Nat} {m m2 : Mem} {Q : Option AV → Mem → Prop} {s1 s2 : Int} {v : Int} (hM : C_X8_qFloor sc d2 [aJ s1, aJ s2] m (some (aJ v)) m2) (hd : d2 + 1 ≤ d) (k : S_X8_qJoins sc d 141 [aR 62, aU, aU, aU, aU, aU] [aJ v, aR 62] m2 Q) : S_X8_qJoins sc d 138 [aR 62, aU, aU, aU, aU, aU] [aJ s2, aJ s1, aR 62] m Q := x_callS (as := [aJ s1, aJ s2]) (rest := [aR 62]) hM mk_X8_qFloor ms_X8_qFloor lk_X8_696 hd rfl rfl (Nat.le_of_ble_eq_true rfl) dX8_qJoins_138 rfl k
theorem c_X8_qJoins_141 {sc : List Int} {d d2 : Nat} {m m2 : Mem} {Q : Option AV → Mem → Prop} {s1 : Int} (hM : C_X8_qPuts sc d2 [aR 62, aJ s1] m none m2) (hd : d2 + 1 ≤ d) (k : S_X8_qJoins sc d 144 [aR 62, aU, aU, aU, aU, aU] [] m2 Q) : S_X8_qJoins sc d 141 [aR 62, aU, aU, aU, aU, aU] [aJ s1, aR 62] m Q := x_callV (as := [aJ s1]) (rest := []) hM mk_X8_qPuts mv_X8_qPuts lk_X8_450 (Or.inl ⟨8, (RX8, TX8, 123), ic_62, Nat.le_of_ble_eq_true rfl, rfl, rfl⟩) hd rfl rfl (Nat.le_of_ble_eq_true rfl) dX8_qJoins_141 rfl k
theorem c_X8_qJoins_161 {sc : List Int} {d d2 : Nat} {m m2 : Mem} {Q : Option AV → Mem → Prop} {s1 : Int} (hM : C_X8_qPuts sc d2 [aR 62, aJ s1] m none m2) (hd : d2 + 1 ≤ d) (k : S_X8_qJoins sc d 164 [aR 62, aU, aU, aU, aU, aU] [] m2 Q) : S_X8_qJoins sc d 161 [aR 62, aU, aU, aU, aU, aU] [aJ s1, aR 62] m Q := x_callV (as := [aJ s1]) (rest := []) hM mk_X8_qPuts mv_X8_qPuts lk_X8_450 (Or.inl ⟨8, (RX8, TX8, 123), ic_62, Nat.le_of_ble_eq_true rfl, rfl, rfl⟩) hd rfl rfl (Nat.le_of_ble_eq_true rfl) dX8_qJoins_161 rfl k
theorem c_X8_qJoins_181 {sc : List Int} {d d2 : Nat} {m m2 : Mem} {Q : Option AV → Mem → Prop} {s1 : Int} (hM : C_X8_qPuts sc d2 [aR 62, aJ s1] m none m2) (hd : d2 + 1 ≤ d) (k : S_X8_qJoins sc d 184 [aR 62, aU, aU, aU, aU, aU] [] m2 Q) : S_X8_qJoins sc d 181 [aR 62, aU, aU, aU, aU, aU] [aJ s1, aR 62] m Q := x_callV (as := [aJ s1]) (rest := []) hM mk_X8_qPuts mv_X8_qPuts lk_X8_450 (Or.inl ⟨8, (RX8, TX8, 123), ic_62, Nat.le_of_ble_eq_true rfl, rfl, rfl⟩) hd rfl rfl (Nat.le_of_ble_eq_true rfl) dX8_qJoins_181 rfl k
theorem c_X8_qJoins_200 {sc : List Int} {d d2 : Nat} {m m2 : Mem} {Q : Option AV → Mem → Prop} {s1 : Int} (hM : C_X8_qPuts sc d2 [aR 62, aJ s1] m none m2) (hd : d2 + 1 ≤ d) (k : S_X8_qJoins sc d 203 [aR 62, aU, aU, aU, aU, aU] [] m2 Q) : S_X8_qJoins sc d 200 [aR 62, aU, aU, aU, aU, aU] [aJ s1, aR 62] m Q := x_callV (as := [aJ s1]) (rest := []) hM mk_X8_qPuts mv_X8_qPuts lk_X8_450 (Or.inl ⟨8, (RX8, TX8, 123), ic_62, Nat.le_of_ble_eq_true rfl, rfl, rfl⟩) hd rfl rfl (Nat.le_of_ble_eq_true rfl) dX8_qJoins_200 rfl k
theorem c_X8_qJoins_219 {sc : List Int} {d d2 : Nat} {m m2 : Mem} {Q : Option AV → Mem → Prop} {s1 : Int} (hM : C_X8_qPuts sc d2 [aR 62, aJ s1] m none m2) (hd : d2 + 1 ≤ d) (k : S_X8_qJoins sc d 222 [aR 62, aU, aU, aU, aU, aU] [] m2 Q) : S_X8_qJoins sc d 219 [aR 62, aU, aU, aU, aU, aU] [aJ s1, aR 62] m Q := x_callV (as := [aJ s1]) (rest := []) hM mk_X8_qPuts mv_X8_qPuts lk_X8_450 (Or.inl ⟨8, (RX8, TX8, 123), ic_62, Nat.le_of_ble_eq_true rfl, rfl, rfl⟩) hd rfl rfl (Nat.le_of_ble_eq_true rfl) dX8_qJoins_219 rfl k
theorem c_X8_qJoins_238 {sc : List Int} {d d2 : Nat} {m m2 : Mem} {Q : Option AV → Mem → Prop} {s1 : Int} (hM : C_X8_qPuts sc d2 [aR 62, aJ s1] m none m2) (hd : d2 + 1 ≤ d) (k : S_X8_qJoins sc d 241 [aR 62, aU, aU, aU, aU, aU] [] m2 Q) : S_X8_qJoins sc d 238 [aR 62, aU, aU, aU, aU, aU] [aJ s1, aR 62] m Q := x_callV (as := [aJ s1]) (rest := []) hM mk_X8_qPuts mv_X8_qPuts lk_X8_450 (Or.inl ⟨8, (RX8, TX8, 123), ic_62, Nat.le_of_ble_eq_true rfl, rfl, rfl⟩) hd rfl rfl (Nat.le_of_ble_eq_true rfl) dX8_qJoins_238 rfl k
theorem c_X8_qJoins_249 {sc : List Int} {d d2 : Nat} {m m2 : Mem} {Q : Option AV → Mem → Prop} {s1 : Int} (hM : C_X8_qPuts sc d2 [aR 62, aJ s1] m none m2) (hd : d2 + 1 ≤ d) (k : S_X8_qJoins sc d 252 [aR 62, aU, aU, aU, aU, aU] [] m2 Q) : S_X8_qJoins sc d 249 [aR 62, aU, aU, aU, aU, aU] [aJ s1, aR 62] m Q := x_callV (as := [aJ s1]) (rest := []) hM mk_X8_qPuts mv_X8_qPuts lk_X8_450 (Or.inl ⟨8, (RX8, TX8, 123), ic_62, Nat.le_of_ble_eq_true rfl, rfl, rfl⟩) hd rfl rfl (Nat.le_of_ble_eq_true rfl) dX8_qJoins_249 rfl k
theorem c_X8_qJoins_270 {sc : List Int} {d d2 : Nat} {m m2 : Mem} {Q : Option AV → Mem → Prop} {s1 : Int} (hM : C_X8_qPuts sc d2 [aR 62, aJ s1] m none m2) (hd : d2 + 1 ≤ d) (k : S_X8_qJoins sc d 273 [aR 62, aU, aU, aU, aU, aU] [] m2 Q) : S_X8_qJoins sc d 270 [aR 62, aU, aU, aU, aU, aU] [aJ s1, aR 62] m Q := x_callV (as := [aJ s1]) (rest := []) hM mk_X8_qPuts mv_X8_qPuts lk_X8_450 (Or.inl ⟨8, (RX8, TX8, 123), ic_62, Nat.le_of_ble_eq_true rfl, rfl, rfl⟩) hd rfl rfl (Nat.le_of_ble_eq_true rfl) dX8_qJoins_270 rfl k
set_option maxRecDepth 4000 in
theorem g_X8_qPartOf_0 {sc : List Int} {d : Nat} {m : Mem} {Q : Option AV → Mem → Prop} {l1 l2 : Int} (k : (-2147483648 ≤ l1 ∧ l1 < 2147483648) ∧ ((l1 = 0) → (S_X8_qPartOf sc d 57 [aR 62, aU, aU] [aI (m 62 55), aR 62] m Q)) ∧ ((l1 = 1) → (S_X8_qPartOf sc d 67 [aR 62, aU, aU] [aI (m 62 55), aR 62] m Q)) ∧ ((l1 = 2) → ((-2147483648 ≤ (m 62 56) ∧ (m 62 56) < 2147483648) ∧ Q (some (aJ (m 62 56))) m)) ∧ ((l1 = 3) → ((-2147483648 ≤ (m 62 55) ∧ (m 62 55) < 2147483648) ∧ Q (some (aJ (m 62 55))) m)) ∧ ((l1 = 4) → (S_X8_qPartOf sc d 96 [aR 62, aU, aU] [aI (m 62 55), aR 62] m Q)) ∧ ((l1 = 5) → (S_X8_qPartOf sc d 102 [aR 62, aU, aU] [aR 62] m Q)) ∧ ((l1 = 6) → (S_X8_qPartOf sc d 108 [aR 62, aU, aU] [aR 62] m Q)) ∧ ((l1 = 7) → ((-2147483648 ≤ ((m 62 57) - (m 62 56)) ∧ ((m 62 57) - (m 62 56)) < 2147483648) ∧ Q (some (aJ ((m 62 57) - (m 62 56)))) m)) ∧ ((l1 = 8) → ((0 ≤ (m 62 55)) ∧ ((m 62 55) < 10) ∧ (-2147483648 ≤ (m 108 (m 62 55)) ∧ (m 108 (m 62 55)) < 2147483648) ∧ Q (some (aJ (m 108 (m 62 55)))) m)) ∧ ((l1 ≠ 0 ∧ l1 ≠ 1 ∧ l1 ≠ 2 ∧ l1 ≠ 3 ∧ l1 ≠ 4 ∧ l1 ≠ 5 ∧ l1 ≠ 6 ∧ l1 ≠ 7 ∧ l1 ≠ 8) → ((0 ≤ (m 62 55)) ∧ ((m 62 55) < 10) ∧ (-2147483648 ≤ (m 109 (m 62 55)) ∧ (m 109 (m 62 55)) < 2147483648) ∧ Q (some (aJ (m 109 (m 62 55)))) m))) : S_X8_qPartOf sc d 0 [aR 62, aI l1, aI l2] [] m Q := by
  refine x_iload_n (pc2 := 1) dX8_qPartOf_0 rfl rfl ?_
  obtain ⟨h1, k⟩ := k
  obtain ⟨k11, k12, k13, k14, k15, k16, k17, k18, k19, k20⟩ := k
  by_cases c21 : l1 = 0
  · replace k := k11 c21
    refine x_tin (tgt := 52) (off := 51) dX8_qPartOf_1 h1 (by omega) (by omega) (by rw [c21]; rfl) (by decide) ?_
    refine x_aload_n (pc2 := 53) dX8_qPartOf_52 rfl rfl ?_
    refine x_aload_n (pc2 := 54) dX8_qPartOf_53 rfl rfl ?_
    refine x_getf (pc2 := 57) (v := aI (m 62 55)) fl_X8_441 ic_62 (fv_i _ ic_62 rfl) dX8_qPartOf_54 rfl ?_
    exact x_drop (drp_k (drp_u (drp_u drp_n))) k
  by_cases c22 : l1 = 1
  · replace k := k12 c22
    refine x_tin (tgt := 62) (off := 61) dX8_qPartOf_1 h1 (by omega) (by omega) (by rw [c22]; rfl) (by decide) ?_
    refine x_aload_n (pc2 := 63) dX8_qPartOf_62 rfl rfl ?_
    refine x_aload_n (pc2 := 64) dX8_qPartOf_63 rfl rfl ?_
    refine x_getf (pc2 := 67) (v := aI (m 62 55)) fl_X8_441 ic_62 (fv_i _ ic_62 rfl) dX8_qPartOf_64 rfl ?_
    exact x_drop (drp_k (drp_u (drp_u drp_n))) k
  by_cases c23 : l1 = 2
  · replace k := k13 c23
    refine x_tin (tgt := 79) (off := 78) dX8_qPartOf_1 h1 (by omega) (by omega) (by rw [c23]; rfl) (by decide) ?_
    refine x_aload_n (pc2 := 80) dX8_qPartOf_79 rfl rfl ?_
    refine x_getf (pc2 := 83) (v := aI (m 62 56)) fl_X8_444 ic_62 (fv_i _ ic_62 rfl) dX8_qPartOf_80 rfl ?_
    obtain ⟨h2, k⟩ := k
    refine x_i2l (pc2 := 84) dX8_qPartOf_83 rfl h2 ?_
    exact x_lreturn dX8_qPartOf_84 rfl k
  by_cases c24 : l1 = 3
  · replace k := k14 c24
    refine x_tin (tgt := 85) (off := 84) dX8_qPartOf_1 h1 (by omega) (by omega) (by rw [c24]; rfl) (by decide) ?_
    refine x_aload_n (pc2 := 86) dX8_qPartOf_85 rfl rfl ?_
    refine x_getf (pc2 := 89) (v := aI (m 62 55)) fl_X8_441 ic_62 (fv_i _ ic_62 rfl) dX8_qPartOf_86 rfl ?_
    obtain ⟨h3, k⟩ := k
    refine x_i2l (pc2 := 90) dX8_qPartOf_89 rfl h3 ?_
    exact x_lreturn dX8_qPartOf_90 rfl k
  by_cases c25 : l1 = 4
  · replace k := k15 c25
    refine x_tin (tgt := 91) (off := 90) dX8_qPartOf_1 h1 (by omega) (by omega) (by rw [c25]; rfl) (by decide) ?_
    refine x_aload_n (pc2 := 92) dX8_qPartOf_91 rfl rfl ?_
    refine x_aload_n (pc2 := 93) dX8_qPartOf_92 rfl rfl ?_
    refine x_getf (pc2 := 96) (v := aI (m 62 55)) fl_X8_441 ic_62 (fv_i _ ic_62 rfl) dX8_qPartOf_93 rfl ?_
    exact x_drop (drp_k (drp_u (drp_u drp_n))) k
  by_cases c26 : l1 = 5
  · replace k := k16 c26
    refine x_tin (tgt := 101) (off := 100) dX8_qPartOf_1 h1 (by omega) (by omega) (by rw [c26]; rfl) (by decide) ?_
    refine x_aload_n (pc2 := 102) dX8_qPartOf_101 rfl rfl ?_
    exact x_drop (drp_k (drp_u (drp_u drp_n))) k
  by_cases c27 : l1 = 6
  · replace k := k17 c27
    refine x_tin (tgt := 107) (off := 106) dX8_qPartOf_1 h1 (by omega) (by omega) (by rw [c27]; rfl) (by decide) ?_
    refine x_aload_n (pc2 := 108) dX8_qPartOf_107 rfl rfl ?_
    exact x_drop (drp_k (drp_u (drp_u drp_n))) k
  by_cases c28 : l1 = 7
  · replace k := k18 c28
    refine x_tin (tgt := 113) (off := 112) dX8_qPartOf_1 h1 (by omega) (by omega) (by rw [c28]; rfl) (by decide) ?_
    refine x_aload_n (pc2 := 114) dX8_qPartOf_113 rfl rfl ?_
    refine x_getf (pc2 := 117) (v := aI (m 62 57)) fl_X8_703 ic_62 (fv_i _ ic_62 rfl) dX8_qPartOf_114 rfl ?_
    refine x_aload_n (pc2 := 118) dX8_qPartOf_117 rfl rfl ?_
    refine x_getf (pc2 := 121) (v := aI (m 62 56)) fl_X8_444 ic_62 (fv_i _ ic_62 rfl) dX8_qPartOf_118 rfl ?_
    refine x_isub (pc2 := 122) dX8_qPartOf_121 rfl ?_
    obtain ⟨h4, k⟩ := k
    refine x_i2l (pc2 := 123) dX8_qPartOf_122 rfl h4 ?_
    exact x_lreturn dX8_qPartOf_123 rfl k
  by_cases c29 : l1 = 8
  · replace k := k19 c29
    refine x_tin (tgt := 124) (off := 123) dX8_qPartOf_1 h1 (by omega) (by omega) (by rw [c29]; rfl) (by decide) ?_
    refine x_aload_n (pc2 := 125) dX8_qPartOf_124 rfl rfl ?_
    refine x_getf (pc2 := 128) (v := aR 108) fl_X8_151 ic_62 (vr_62_62 _) dX8_qPartOf_125 rfl ?_
    refine x_aload_n (pc2 := 129) dX8_qPartOf_128 rfl rfl ?_
    refine x_getf (pc2 := 132) (v := aI (m 62 55)) fl_X8_441 ic_62 (fv_i _ ic_62 rfl) dX8_qPartOf_129 rfl ?_
    obtain ⟨h5, k⟩ := k
    obtain ⟨h6, k⟩ := k
    refine x_iald (pc2 := 133) ic_108 h5 (by rw [al_108]; exact h6) dX8_qPartOf_132 rfl ?_
    obtain ⟨h7, k⟩ := k
    refine x_i2l (pc2 := 134) dX8_qPartOf_133 rfl h7 ?_
    exact x_lreturn dX8_qPartOf_134 rfl k
  replace k := k20 (by omega)
  have kd : S_X8_qPartOf sc d 135 [aR 62, aI l1, aI l2] [] m Q := by
    refine x_aload_n (pc2 := 136) dX8_qPartOf_135 rfl rfl ?_
    refine x_getf (pc2 := 139) (v := aR 109) fl_X8_154 ic_62 (vr_62_63 _) dX8_qPartOf_136 rfl ?_
    refine x_aload_n (pc2 := 140) dX8_qPartOf_139 rfl rfl ?_
    refine x_getf (pc2 := 143) (v := aI (m 62 55)) fl_X8_441 ic_62 (fv_i _ ic_62 rfl) dX8_qPartOf_140 rfl ?_
    obtain ⟨h8, k⟩ := k
    obtain ⟨h9, k⟩ := k
    refine x_iald (pc2 := 144) ic_109 h8 (by rw [al_109]; exact h9) dX8_qPartOf_143 rfl ?_
    obtain ⟨h10, k⟩ := k
    refine x_i2l (pc2 := 145) dX8_qPartOf_144 rfl h10 ?_
    exact x_lreturn dX8_qPartOf_145 rfl k
  by_cases c30 : l1 < 0 ∨ 8 < l1
  · exact x_tout (tgt := 135) dX8_qPartOf_1 h1 c30 (by decide) kd
  exact absurd c30 (by omega)
set_option maxRecDepth 4000 in
theorem g_X8_qPartOf_60 {sc : List Int} {d : Nat} {m : Mem} {Q : Option AV → Mem → Prop} {s0 : Int} (k : (-2147483648 ≤ s0 ∧ s0 < 2147483648) ∧ Q (some (aJ s0)) m) : S_X8_qPartOf sc d 60 [aR 62, aU, aU] [aI s0] m Q := by
  obtain ⟨h1, k⟩ := k
  refine x_i2l (pc2 := 61) dX8_qPartOf_60 rfl h1 ?_
  exact x_lreturn dX8_qPartOf_61 rfl k
set_option maxRecDepth 4000 in
theorem g_X8_qPartOf_70 {sc : List Int} {d : Nat} {m : Mem} {Q : Option AV → Mem → Prop} {s0 : Int} (k : ((-2147483648 ≤ s0 ∧ s0 < 2147483648)) ∧ Q (some (aJ (if s0 = 0 then 0 else 1 : Int))) m) : S_X8_qPartOf sc d 70 [aR 62, aU, aU] [aI s0] m Q := by
  obtain ⟨g2, k⟩ := k
  have kj : S_X8_qPartOf sc d 78 [aR 62, aU, aU] [aJ (if s0 = 0 then 0 else 1 : Int)] m Q := by
    exact x_lreturn dX8_qPartOf_78 rfl k
  have h3 := g2 
  refine x_if_eq (tgt := 77) (pc2 := 73) dX8_qPartOf_70 (by decide) rfl h3 (fun c4 => ?_) (fun c4 => ?_)
  · skip
    refine x_lconst (pc2 := 78) (v := 0) dX8_qPartOf_77 rfl rfl ?_
    exact x_topJ (v := (if s0 = 0 then 0 else 1 : Int)) (if_pos c4) kj
  · skip
    refine x_lconst (pc2 := 74) (v := 1) dX8_qPartOf_73 rfl rfl ?_
    refine x_goto (tgt := 78) dX8_qPartOf_74 (by decide) ?_
    exact x_topJ (v := (if s0 = 0 then 0 else 1 : Int)) (if_neg c4) kj
set_option maxRecDepth 4000 in
theorem g_X8_qPartOf_99 {sc : List Int} {d : Nat} {m : Mem} {Q : Option AV → Mem → Prop} {s0 : Int} (k : (-2147483648 ≤ s0 ∧ s0 < 2147483648) ∧ Q (some (aJ s0)) m) : S_X8_qPartOf sc d 99 [aR 62, aU, aU] [aI s0] m Q := by
  obtain ⟨h1, k⟩ := k
  refine x_i2l (pc2 := 100) dX8_qPartOf_99 rfl h1 ?_
  exact x_lreturn dX8_qPartOf_100 rfl k
set_option maxRecDepth 4000 in
theorem g_X8_qPartOf_105 {sc : List Int} {d : Nat} {m : Mem} {Q : Option AV → Mem → Prop} {s0 : Int} (k : (-2147483648 ≤ s0 ∧ s0 < 2147483648) ∧ Q (some (aJ s0)) m) : S_X8_qPartOf sc d 105 [aR 62, aU, aU] [aI s0] m Q := by
  obtain ⟨h1, k⟩ := k
  refine x_i2l (pc2 := 106) dX8_qPartOf_105 rfl h1 ?_
  exact x_lreturn dX8_qPartOf_106 rfl k
set_option maxRecDepth 4000 in
theorem g_X8_qPartOf_111 {sc : List Int} {d : Nat} {m : Mem} {Q : Option AV → Mem → Prop} {s0 : Int} (k : (-2147483648 ≤ s0 ∧ s0 < 2147483648) ∧ Q (some (aJ s0)) m) : S_X8_qPartOf sc d 111 [aR 62, aU, aU] [aI s0] m Q := by
  obtain ⟨h1, k⟩ := k
  refine x_i2l (pc2 := 112) dX8_qPartOf_111 rfl h1 ?_
  exact x_lreturn dX8_qPartOf_112 rfl k
theorem c_X8_qPartOf_57 {sc : List Int} {d d2 : Nat} {m m2 : Mem} {Q : Option AV → Mem → Prop} {s1 : Int} {v : Int} (hM : C_X8_takesOf sc d2 [aR 62, aI s1] m (some (aI v)) m2) (hd : d2 + 1 ≤ d) (k : S_X8_qPartOf sc d 60 [aR 62, aU, aU] [aI v] m2 Q) : S_X8_qPartOf sc d 57 [aR 62, aU, aU] [aI s1, aR 62] m Q := x_callV (as := [aI s1]) (rest := []) hM mk_X8_takesOf mv_X8_takesOf lk_X8_434 (Or.inl ⟨8, (RX8, TX8, 123), ic_62, Nat.le_of_ble_eq_true rfl, rfl, rfl⟩) hd rfl rfl (Nat.le_of_ble_eq_true rfl) dX8_qPartOf_57 rfl k
theorem c_X8_qPartOf_67 {sc : List Int} {d d2 : Nat} {m m2 : Mem} {Q : Option AV → Mem → Prop} {s1 : Int} {v : Int} (hM : C_X8_isShown sc d2 [aR 62, aI s1] m (some (aI v)) m2) (hd : d2 + 1 ≤ d) (k : S_X8_qPartOf sc d 70 [aR 62, aU, aU] [aI v] m2 Q) : S_X8_qPartOf sc d 67 [aR 62, aU, aU] [aI s1, aR 62] m Q := x_callV (as := [aI s1]) (rest := []) hM mk_X8_isShown mv_X8_isShown lk_X8_573 (Or.inl ⟨8, (RX8, TX8, 123), ic_62, Nat.le_of_ble_eq_true rfl, rfl, rfl⟩) hd rfl rfl (Nat.le_of_ble_eq_true rfl) dX8_qPartOf_67 rfl k
theorem c_X8_qPartOf_96 {sc : List Int} {d d2 : Nat} {m m2 : Mem} {Q : Option AV → Mem → Prop} {s1 : Int} {v : Int} (hM : C_X8_restOf sc d2 [aR 62, aI s1] m (some (aI v)) m2) (hd : d2 + 1 ≤ d) (k : S_X8_qPartOf sc d 99 [aR 62, aU, aU] [aI v] m2 Q) : S_X8_qPartOf sc d 96 [aR 62, aU, aU] [aI s1, aR 62] m Q := x_callV (as := [aI s1]) (rest := []) hM mk_X8_restOf mv_X8_restOf lk_X8_538 (Or.inl ⟨8, (RX8, TX8, 123), ic_62, Nat.le_of_ble_eq_true rfl, rfl, rfl⟩) hd rfl rfl (Nat.le_of_ble_eq_true rfl) dX8_qPartOf_96 rfl k
theorem c_X8_qPartOf_102 {sc : List Int} {d d2 : Nat} {m m2 : Mem} {Q : Option AV → Mem → Prop} {v : Int} (hM : C_X8_leastLength sc d2 [aR 62] m (some (aI v)) m2) (hd : d2 + 1 ≤ d) (k : S_X8_qPartOf sc d 105 [aR 62, aU, aU] [aI v] m2 Q) : S_X8_qPartOf sc d 102 [aR 62, aU, aU] [aR 62] m Q := x_callV (as := []) (rest := []) hM mk_X8_leastLength mv_X8_leastLength lk_X8_489 (Or.inl ⟨8, (RX8, TX8, 123), ic_62, Nat.le_of_ble_eq_true rfl, rfl, rfl⟩) hd rfl rfl (Nat.le_of_ble_eq_true rfl) dX8_qPartOf_102 rfl k
theorem c_X8_qPartOf_108 {sc : List Int} {d d2 : Nat} {m m2 : Mem} {Q : Option AV → Mem → Prop} {v : Int} (hM : C_X8_mostLength sc d2 [aR 62] m (some (aI v)) m2) (hd : d2 + 1 ≤ d) (k : S_X8_qPartOf sc d 111 [aR 62, aU, aU] [aI v] m2 Q) : S_X8_qPartOf sc d 108 [aR 62, aU, aU] [aR 62] m Q := x_callV (as := []) (rest := []) hM mk_X8_mostLength mv_X8_mostLength lk_X8_700 (Or.inl ⟨8, (RX8, TX8, 123), ic_62, Nat.le_of_ble_eq_true rfl, rfl, rfl⟩) hd rfl rfl (Nat.le_of_ble_eq_true rfl) dX8_qPartOf_108 rfl k
set_option maxRecDepth 4000 in
theorem g_X8_qOf_0 {sc : List Int} {d : Nat} {m : Mem} {Q : Option AV → Mem → Prop} {l1 l2 l4 : Int} (k : S_X8_qOf sc d 15 [aR 62, aU, aJ l2, aU, aU] [aR 62, aJ 0, aJ l2] m Q) : S_X8_qOf sc d 0 [aR 62, aI l1, aJ l2, aU, aI l4] [] m Q := by
  refine x_iload_n (pc2 := 1) dX8_qOf_0 rfl rfl ?_
  refine x_lookup0 (tgt := 12) dX8_qOf_1 (by decide) ?_
  refine x_lload_n (pc2 := 13) dX8_qOf_12 rfl rfl ?_
  refine x_lconst (pc2 := 14) (v := 0) dX8_qOf_13 rfl rfl ?_
  refine x_aload_n (pc2 := 15) dX8_qOf_14 rfl rfl ?_
  exact x_drop (drp_k (drp_u (drp_k (drp_k (drp_u drp_n))))) k
set_option maxRecDepth 4000 in
theorem g_X8_qOf_18 {sc : List Int} {d : Nat} {m : Mem} {Q : Option AV → Mem → Prop} {l2 s0 s1 s2 : Int} (k : (-2147483648 ≤ (s2 - 1) ∧ (s2 - 1) < 2147483648) ∧ S_X8_qOf sc d 21 [aR 62, aU, aJ l2, aU, aU] [aJ (s2 - 1), aJ s1, aJ s0] m Q) : S_X8_qOf sc d 18 [aR 62, aU, aJ l2, aU, aU] [aI s2, aJ s1, aJ s0] m Q := by
  refine x_iconst (pc2 := 19) dX8_qOf_18 rfl ?_
  refine x_isub (pc2 := 20) dX8_qOf_19 rfl ?_
  obtain ⟨h1, k⟩ := k
  refine x_i2l (pc2 := 21) dX8_qOf_20 rfl h1 ?_
  exact k
set_option maxRecDepth 4000 in
theorem g_X8_qOf_24 {sc : List Int} {d : Nat} {m : Mem} {Q : Option AV → Mem → Prop} {l2 s0 : Int} (k : (-2147483648 ≤ s0 ∧ s0 < 2147483648) ∧ ((s0 = 0) → (Q (some (aJ 0)) m)) ∧ (¬ (s0 = 0) → (S_X8_qOf sc d 30 [aR 62, aU, aU, aU, aU] [aI l2, aR 62] m Q))) : S_X8_qOf sc d 24 [aR 62, aU, aJ l2, aU, aU] [aI s0] m Q := by
  obtain ⟨h1, k⟩ := k
  obtain ⟨k1, k2⟩ := k
  refine x_if_eq (tgt := 37) (pc2 := 27) dX8_qOf_24 (by decide) rfl h1 (fun c2 => ?_) (fun c2 => ?_)
  · replace k := k1 c2
    refine x_lconst (pc2 := 38) (v := 0) dX8_qOf_37 rfl rfl ?_
    exact x_lreturn dX8_qOf_38 rfl k
  · replace k := k2 c2
    refine x_aload_n (pc2 := 28) dX8_qOf_27 rfl rfl ?_
    refine x_lload_n (pc2 := 29) dX8_qOf_28 rfl rfl ?_
    refine x_l2i (pc2 := 30) dX8_qOf_29 rfl ?_
    exact x_drop (drp_k (drp_k (drp_u (drp_k (drp_k drp_n))))) k
set_option maxRecDepth 4000 in
theorem g_X8_qOf_33 {sc : List Int} {d : Nat} {m : Mem} {Q : Option AV → Mem → Prop} {s0 : Int} (k : (-2147483648 ≤ s0 ∧ s0 < 2147483648) ∧ Q (some (aJ s0)) m) : S_X8_qOf sc d 33 [aR 62, aU, aU, aU, aU] [aI s0] m Q := by
  obtain ⟨h1, k⟩ := k
  refine x_i2l (pc2 := 34) dX8_qOf_33 rfl h1 ?_
  refine x_goto (tgt := 38) dX8_qOf_34 (by decide) ?_
  exact x_lreturn dX8_qOf_38 rfl k
theorem c_X8_qOf_15 {sc : List Int} {d d2 : Nat} {m m2 : Mem} {Q : Option AV → Mem → Prop} {l2 s0 s1 : Int} {v : Int} (hM : C_X8_seamMany sc d2 [aR 62] m (some (aI v)) m2) (hd : d2 + 1 ≤ d) (k : S_X8_qOf sc d 18 [aR 62, aU, aJ l2, aU, aU] [aI v, aJ s1, aJ s0] m2 Q) : S_X8_qOf sc d 15 [aR 62, aU, aJ l2, aU, aU] [aR 62, aJ s1, aJ s0] m Q := x_callV (as := []) (rest := [aJ s1, aJ s0]) hM mk_X8_seamMany mv_X8_seamMany lk_X8_431 (Or.inl ⟨8, (RX8, TX8, 123), ic_62, Nat.le_of_ble_eq_true rfl, rfl, rfl⟩) hd rfl rfl (Nat.le_of_ble_eq_true rfl) dX8_qOf_15 rfl k
theorem c_X8_qOf_21 {sc : List Int} {d d2 : Nat} {m m2 : Mem} {Q : Option AV → Mem → Prop} {l2 s0 s1 s2 : Int} {v : Int} (hM : C_X8_isIn sc d2 [aJ s0, aJ s1, aJ s2] m (some (aI v)) m2) (hd : d2 + 1 ≤ d) (k : S_X8_qOf sc d 24 [aR 62, aU, aJ l2, aU, aU] [aI v] m2 Q) : S_X8_qOf sc d 21 [aR 62, aU, aJ l2, aU, aU] [aJ s2, aJ s1, aJ s0] m Q := x_callS (as := [aJ s0, aJ s1, aJ s2]) (rest := []) hM mk_X8_isIn ms_X8_isIn lk_X8_333 hd rfl rfl (Nat.le_of_ble_eq_true rfl) dX8_qOf_21 rfl k
theorem c_X8_qOf_30 {sc : List Int} {d d2 : Nat} {m m2 : Mem} {Q : Option AV → Mem → Prop} {s1 : Int} {v : Int} (hM : C_X8_takesOf sc d2 [aR 62, aI s1] m (some (aI v)) m2) (hd : d2 + 1 ≤ d) (k : S_X8_qOf sc d 33 [aR 62, aU, aU, aU, aU] [aI v] m2 Q) : S_X8_qOf sc d 30 [aR 62, aU, aU, aU, aU] [aI s1, aR 62] m Q := x_callV (as := [aI s1]) (rest := []) hM mk_X8_takesOf mv_X8_takesOf lk_X8_434 (Or.inl ⟨8, (RX8, TX8, 123), ic_62, Nat.le_of_ble_eq_true rfl, rfl, rfl⟩) hd rfl rfl (Nat.le_of_ble_eq_true rfl) dX8_qOf_30 rfl k
set_option maxRecDepth 4000 in
theorem g_X8_qTold_0 {sc : List Int} {d : Nat} {m : Mem} {Q : Option AV → Mem → Prop} {l1 : Int} (k : S_X8_qTold sc d 7 [aR 62, aI l1, aI 0, aU] [] (wr m 62 118 0) Q) : S_X8_qTold sc d 0 [aR 62, aI l1, aU, aU] [] m Q := by
  refine x_aload_n (pc2 := 1) dX8_qTold_0 rfl rfl ?_
  refine x_iconst (pc2 := 2) dX8_qTold_1 rfl ?_
  refine x_putf (pc2 := 5) (x := 0) fl_X8_447 ft_8_118 ic_62 (pv_i _ ic_62 rfl) (pn_i _) dX8_qTold_2 rfl ?_
  refine x_iconst (pc2 := 6) dX8_qTold_5 rfl ?_
  refine x_istore_n (pc2 := 7) (ls2 := [aR 62, aI l1, aI 0, aU]) dX8_qTold_6 rfl (by decide) rfl ?_
  exact k
set_option maxRecDepth 4000 in
theorem g_X8_qTold_7 {sc : List Int} {d : Nat} {m : Mem} {Q : Option AV → Mem → Prop} {l1 l2 : Int} (k : (-2147483648 ≤ l2 ∧ l2 < 2147483648) ∧ (-2147483648 ≤ (m 62 112) ∧ (m 62 112) < 2147483648) ∧ (((m 62 112) ≤ l2) → (Q (some (aJ (m 150 0))) m)) ∧ (¬ ((m 62 112) ≤ l2) → ((0 ≤ l2) ∧ (l2 < 1700) ∧ (-2147483648 ≤ (m 148 l2) ∧ (m 148 l2) < 2147483648) ∧ (((m 148 l2) < 1000) → ((((m 148 l2) < 60) → ((((m 148 l2) < 40) → ((((m 148 l2) ≠ 13) → ((((m 148 l2) ≠ 12) → (S_X8_qTold sc d 159 [aR 62, aI l1, aI l2, aU] [aI (m 148 l2), aR 62] m Q)) ∧ (¬ ((m 148 l2) ≠ 12) → ((0 ≤ ((m 62 118) - 1)) ∧ (((m 62 118) - 1) < 1700) ∧ S_X8_qTold sc d 162 [aR 62, aI l1, aI l2, aU] [] (wr m 150 ((m 62 118) - 1) (1 - (m 150 ((m 62 118) - 1)))) Q)))) ∧ (¬ ((m 148 l2) ≠ 13) → (S_X8_qTold sc d 118 [aR 62, aI l1, aI l2, aU] [aJ 1, aR 62] m Q)))) ∧ (¬ ((m 148 l2) < 40) → (S_X8_qTold sc d 98 [aR 62, aI l1, aI l2, aU] [aI l1, aI ((m 148 l2) - 40), aR 62, aR 62] m Q)))) ∧ (¬ ((m 148 l2) < 60) → ((0 ≤ ((m 62 118) - 1)) ∧ (((m 62 118) - 1) < 1700) ∧ S_X8_qTold sc d 75 [aR 62, aI l1, aI l2, aU] [aI l1, aJ (m 150 ((m 62 118) - 1)), aI ((m 148 l2) - 60), aR 62, aI ((m 62 118) - 1), aR 150] m Q)))) ∧ (¬ ((m 148 l2) < 1000) → ((-2147483648 ≤ ((m 148 l2) - 1000) ∧ ((m 148 l2) - 1000) < 2147483648) ∧ S_X8_qTold sc d 36 [aR 62, aI l1, aI l2, aU] [aJ ((m 148 l2) - 1000), aR 62] m Q))))) : S_X8_qTold sc d 7 [aR 62, aI l1, aI l2, aU] [] m Q := by
  refine x_iload_n (pc2 := 8) dX8_qTold_7 rfl rfl ?_
  refine x_aload_n (pc2 := 9) dX8_qTold_8 rfl rfl ?_
  refine x_getf (pc2 := 12) (v := aI (m 62 112)) fl_X8_383 ic_62 (fv_i _ ic_62 rfl) dX8_qTold_9 rfl ?_
  obtain ⟨h1, k⟩ := k
  obtain ⟨h2, k⟩ := k
  obtain ⟨k1, k2⟩ := k
  refine x_icmp_ge (tgt := 168) (pc2 := 15) dX8_qTold_12 (by decide) rfl h1 h2 (fun c3 => ?_) (fun c3 => ?_)
  · replace k := k1 c3
    refine x_aload_n (pc2 := 169) dX8_qTold_168 rfl rfl ?_
    refine x_getf (pc2 := 172) (v := aR 150) fl_X8_281 ic_62 (vr_62_117 _) dX8_qTold_169 rfl ?_
    refine x_iconst (pc2 := 173) dX8_qTold_172 rfl ?_
    refine x_lald (pc2 := 174) ic_150 (by decide) (by rw [al_150]; decide) dX8_qTold_173 rfl ?_
    exact x_lreturn dX8_qTold_174 rfl k
  · replace k := k2 c3
    refine x_aload_n (pc2 := 16) dX8_qTold_15 rfl rfl ?_
    refine x_getf (pc2 := 19) (v := aR 148) fl_X8_275 ic_62 (vr_62_111 _) dX8_qTold_16 rfl ?_
    refine x_iload_n (pc2 := 20) dX8_qTold_19 rfl rfl ?_
    obtain ⟨h4, k⟩ := k
    obtain ⟨h5, k⟩ := k
    refine x_iald (pc2 := 21) ic_148 h4 (by rw [al_148]; exact h5) dX8_qTold_20 rfl ?_
    refine x_istore_n (pc2 := 22) (ls2 := [aR 62, aI l1, aI l2, aI (m 148 l2)]) dX8_qTold_21 rfl (by decide) rfl ?_
    refine x_iload_n (pc2 := 23) dX8_qTold_22 rfl rfl ?_
    refine x_sipush (pc2 := 26) dX8_qTold_23 rfl rfl ?_
    obtain ⟨h6, k⟩ := k
    obtain ⟨k1, k2⟩ := k
    refine x_icmp_lt (tgt := 42) (pc2 := 29) dX8_qTold_26 (by decide) rfl h6 (by decide) (fun c7 => ?_) (fun c7 => ?_)
    · replace k := k1 c7
      refine x_iload_n (pc2 := 43) dX8_qTold_42 rfl rfl ?_
      refine x_bipush (pc2 := 45) dX8_qTold_43 rfl rfl ?_
      obtain ⟨k1, k2⟩ := k
      refine x_icmp_lt (tgt := 85) (pc2 := 48) dX8_qTold_45 (by decide) rfl h6 (by decide) (fun c8 => ?_) (fun c8 => ?_)
      · replace k := k1 c8
        refine x_iload_n (pc2 := 86) dX8_qTold_85 rfl rfl ?_
        refine x_bipush (pc2 := 88) dX8_qTold_86 rfl rfl ?_
        obtain ⟨k1, k2⟩ := k
        refine x_icmp_lt (tgt := 110) (pc2 := 91) dX8_qTold_88 (by decide) rfl h6 (by decide) (fun c9 => ?_) (fun c9 => ?_)
        · replace k := k1 c9
          refine x_iload_n (pc2 := 111) dX8_qTold_110 rfl rfl ?_
          refine x_bipush (pc2 := 113) dX8_qTold_111 rfl rfl ?_
          obtain ⟨k1, k2⟩ := k
          refine x_icmp_ne (tgt := 124) (pc2 := 116) dX8_qTold_113 (by decide) rfl h6 (by decide) (fun c10 => ?_) (fun c10 => ?_)
          · replace k := k1 c10
            refine x_iload_n (pc2 := 125) dX8_qTold_124 rfl rfl ?_
            refine x_bipush (pc2 := 127) dX8_qTold_125 rfl rfl ?_
            obtain ⟨k1, k2⟩ := k
            refine x_icmp_ne (tgt := 157) (pc2 := 130) dX8_qTold_127 (by decide) rfl h6 (by decide) (fun c11 => ?_) (fun c11 => ?_)
            · replace k := k1 c11
              refine x_aload_n (pc2 := 158) dX8_qTold_157 rfl rfl ?_
              refine x_iload_n (pc2 := 159) dX8_qTold_158 rfl rfl ?_
              exact x_drop (drp_k (drp_k (drp_k (drp_u drp_n)))) k
            · replace k := k2 c11
              refine x_aload_n (pc2 := 131) dX8_qTold_130 rfl rfl ?_
              refine x_getf (pc2 := 134) (v := aR 150) fl_X8_281 ic_62 (vr_62_117 _) dX8_qTold_131 rfl ?_
              refine x_aload_n (pc2 := 135) dX8_qTold_134 rfl rfl ?_
              refine x_getf (pc2 := 138) (v := aI (m 62 118)) fl_X8_447 ic_62 (fv_i _ ic_62 rfl) dX8_qTold_135 rfl ?_
              refine x_iconst (pc2 := 139) dX8_qTold_138 rfl ?_
              refine x_isub (pc2 := 140) dX8_qTold_139 rfl ?_
              refine x_lconst (pc2 := 141) (v := 1) dX8_qTold_140 rfl rfl ?_
              refine x_aload_n (pc2 := 142) dX8_qTold_141 rfl rfl ?_
              refine x_getf (pc2 := 145) (v := aR 150) fl_X8_281 ic_62 (vr_62_117 _) dX8_qTold_142 rfl ?_
              refine x_aload_n (pc2 := 146) dX8_qTold_145 rfl rfl ?_
              refine x_getf (pc2 := 149) (v := aI (m 62 118)) fl_X8_447 ic_62 (fv_i _ ic_62 rfl) dX8_qTold_146 rfl ?_
              refine x_iconst (pc2 := 150) dX8_qTold_149 rfl ?_
              refine x_isub (pc2 := 151) dX8_qTold_150 rfl ?_
              obtain ⟨h12, k⟩ := k
              obtain ⟨h13, k⟩ := k
              refine x_lald (pc2 := 152) ic_150 h12 (by rw [al_150]; exact h13) dX8_qTold_151 rfl ?_
              refine x_lsub (pc2 := 153) dX8_qTold_152 rfl ?_
              refine x_last (pc2 := 154) ic_150 h12 (by rw [al_150]; exact h13) dX8_qTold_153 rfl ?_
              refine x_goto (tgt := 162) dX8_qTold_154 (by decide) ?_
              exact x_drop (drp_k (drp_k (drp_k (drp_u drp_n)))) k
          · replace k := k2 c10
            refine x_aload_n (pc2 := 117) dX8_qTold_116 rfl rfl ?_
            refine x_lconst (pc2 := 118) (v := 1) dX8_qTold_117 rfl rfl ?_
            exact x_drop (drp_k (drp_k (drp_k (drp_u drp_n)))) k
        · replace k := k2 c9
          refine x_aload_n (pc2 := 92) dX8_qTold_91 rfl rfl ?_
          refine x_aload_n (pc2 := 93) dX8_qTold_92 rfl rfl ?_
          refine x_iload_n (pc2 := 94) dX8_qTold_93 rfl rfl ?_
          refine x_bipush (pc2 := 96) dX8_qTold_94 rfl rfl ?_
          refine x_isub (pc2 := 97) dX8_qTold_96 rfl ?_
          refine x_iload_n (pc2 := 98) dX8_qTold_97 rfl rfl ?_
          exact x_drop (drp_k (drp_k (drp_k (drp_u drp_n)))) k
      · replace k := k2 c8
        refine x_aload_n (pc2 := 49) dX8_qTold_48 rfl rfl ?_
        refine x_getf (pc2 := 52) (v := aR 150) fl_X8_281 ic_62 (vr_62_117 _) dX8_qTold_49 rfl ?_
        refine x_aload_n (pc2 := 53) dX8_qTold_52 rfl rfl ?_
        refine x_getf (pc2 := 56) (v := aI (m 62 118)) fl_X8_447 ic_62 (fv_i _ ic_62 rfl) dX8_qTold_53 rfl ?_
        refine x_iconst (pc2 := 57) dX8_qTold_56 rfl ?_
        refine x_isub (pc2 := 58) dX8_qTold_57 rfl ?_
        refine x_aload_n (pc2 := 59) dX8_qTold_58 rfl rfl ?_
        refine x_iload_n (pc2 := 60) dX8_qTold_59 rfl rfl ?_
        refine x_bipush (pc2 := 62) dX8_qTold_60 rfl rfl ?_
        refine x_isub (pc2 := 63) dX8_qTold_62 rfl ?_
        refine x_aload_n (pc2 := 64) dX8_qTold_63 rfl rfl ?_
        refine x_getf (pc2 := 67) (v := aR 150) fl_X8_281 ic_62 (vr_62_117 _) dX8_qTold_64 rfl ?_
        refine x_aload_n (pc2 := 68) dX8_qTold_67 rfl rfl ?_
        refine x_getf (pc2 := 71) (v := aI (m 62 118)) fl_X8_447 ic_62 (fv_i _ ic_62 rfl) dX8_qTold_68 rfl ?_
        refine x_iconst (pc2 := 72) dX8_qTold_71 rfl ?_
        refine x_isub (pc2 := 73) dX8_qTold_72 rfl ?_
        obtain ⟨h14, k⟩ := k
        obtain ⟨h15, k⟩ := k
        refine x_lald (pc2 := 74) ic_150 h14 (by rw [al_150]; exact h15) dX8_qTold_73 rfl ?_
        refine x_iload_n (pc2 := 75) dX8_qTold_74 rfl rfl ?_
        exact x_drop (drp_k (drp_k (drp_k (drp_u drp_n)))) k
    · replace k := k2 c7
      refine x_aload_n (pc2 := 30) dX8_qTold_29 rfl rfl ?_
      refine x_iload_n (pc2 := 31) dX8_qTold_30 rfl rfl ?_
      refine x_sipush (pc2 := 34) dX8_qTold_31 rfl rfl ?_
      refine x_isub (pc2 := 35) dX8_qTold_34 rfl ?_
      obtain ⟨h16, k⟩ := k
      refine x_i2l (pc2 := 36) dX8_qTold_35 rfl h16 ?_
      exact x_drop (drp_k (drp_k (drp_k (drp_u drp_n)))) k
set_option maxRecDepth 4000 in
theorem g_X8_qTold_39 {sc : List Int} {d : Nat} {m : Mem} {Q : Option AV → Mem → Prop} {l1 l2 : Int} (k : S_X8_qTold sc d 162 [aR 62, aI l1, aI l2, aU] [] m Q) : S_X8_qTold sc d 39 [aR 62, aI l1, aI l2, aU] [] m Q := by
  refine x_goto (tgt := 162) dX8_qTold_39 (by decide) ?_
  exact k
set_option maxRecDepth 4000 in
theorem g_X8_qTold_78 {sc : List Int} {d : Nat} {m : Mem} {Q : Option AV → Mem → Prop} {l1 l2 s0 s1 s2 : Int} (Hs0 : IsC s0 101) (k : S_X8_qTold sc d 78 [aR 62, aI l1, aI l2, aU] [aJ s2, aI s1, aR s0] m Q) : S_X8_qTold sc d 78 [aR 62, aI l1, aI l2, aU] [aJ s2, aI s1, aR s0] m Q := by
  exact k
set_option maxRecDepth 4000 in
theorem g_X8_qTold_81 {sc : List Int} {d : Nat} {m : Mem} {Q : Option AV → Mem → Prop} {l1 l2 s0 s1 s2 : Int} (Hs0 : IsC s0 101) (k : (0 ≤ s1) ∧ (s1 < alen s0) ∧ S_X8_qTold sc d 162 [aR 62, aI l1, aI l2, aU] [] (wr m s0 s1 s2) Q) : S_X8_qTold sc d 81 [aR 62, aI l1, aI l2, aU] [aJ s2, aI s1, aR s0] m Q := by
  obtain ⟨h1, k⟩ := k
  obtain ⟨h2, k⟩ := k
  refine x_last (pc2 := 82) Hs0 h1 h2 dX8_qTold_81 rfl ?_
  refine x_goto (tgt := 162) dX8_qTold_82 (by decide) ?_
  exact k
set_option maxRecDepth 4000 in
theorem g_X8_qTold_101 {sc : List Int} {d : Nat} {m : Mem} {Q : Option AV → Mem → Prop} {l1 l2 s1 : Int} (k : S_X8_qTold sc d 101 [aR 62, aI l1, aI l2, aU] [aJ s1, aR 62] m Q) : S_X8_qTold sc d 101 [aR 62, aI l1, aI l2, aU] [aJ s1, aR 62] m Q := by
  exact k
set_option maxRecDepth 4000 in
theorem g_X8_qTold_104 {sc : List Int} {d : Nat} {m : Mem} {Q : Option AV → Mem → Prop} {l1 l2 s1 : Int} (k : S_X8_qTold sc d 104 [aR 62, aI l1, aI l2, aU] [aJ s1, aR 62] m Q) : S_X8_qTold sc d 104 [aR 62, aI l1, aI l2, aU] [aJ s1, aR 62] m Q := by
  exact k
set_option maxRecDepth 4000 in
theorem g_X8_qTold_107 {sc : List Int} {d : Nat} {m : Mem} {Q : Option AV → Mem → Prop} {l1 l2 : Int} (k : S_X8_qTold sc d 162 [aR 62, aI l1, aI l2, aU] [] m Q) : S_X8_qTold sc d 107 [aR 62, aI l1, aI l2, aU] [] m Q := by
  refine x_goto (tgt := 162) dX8_qTold_107 (by decide) ?_
  exact k
set_option maxRecDepth 4000 in
theorem g_X8_qTold_121 {sc : List Int} {d : Nat} {m : Mem} {Q : Option AV → Mem → Prop} {l1 l2 : Int} (k : S_X8_qTold sc d 162 [aR 62, aI l1, aI l2, aU] [] m Q) : S_X8_qTold sc d 121 [aR 62, aI l1, aI l2, aU] [] m Q := by
  refine x_goto (tgt := 162) dX8_qTold_121 (by decide) ?_
  exact k
set_option maxRecDepth 4000 in
theorem g_X8_qTold_162 {sc : List Int} {d : Nat} {m : Mem} {Q : Option AV → Mem → Prop} {l1 l2 : Int} (k : S_X8_qTold sc d 7 [aR 62, aI l1, aI (l2 + 1), aU] [] m Q) : S_X8_qTold sc d 162 [aR 62, aI l1, aI l2, aU] [] m Q := by
  refine x_iinc (pc2 := 165) (ls2 := [aR 62, aI l1, aI (l2 + 1), aU]) dX8_qTold_162 rfl rfl (by decide) rfl ?_
  refine x_goto (tgt := 7) dX8_qTold_165 (by decide) ?_
  exact k
theorem c_X8_qTold_36 {sc : List Int} {d d2 : Nat} {m m2 : Mem} {Q : Option AV → Mem → Prop} {l1 l2 s1 : Int} (hM : C_X8_qPuts sc d2 [aR 62, aJ s1] m none m2) (hd : d2 + 1 ≤ d) (k : S_X8_qTold sc d 39 [aR 62, aI l1, aI l2, aU] [] m2 Q) : S_X8_qTold sc d 36 [aR 62, aI l1, aI l2, aU] [aJ s1, aR 62] m Q := x_callV (as := [aJ s1]) (rest := []) hM mk_X8_qPuts mv_X8_qPuts lk_X8_450 (Or.inl ⟨8, (RX8, TX8, 123), ic_62, Nat.le_of_ble_eq_true rfl, rfl, rfl⟩) hd rfl rfl (Nat.le_of_ble_eq_true rfl) dX8_qTold_36 rfl k
theorem c_X8_qTold_75 {sc : List Int} {d d2 : Nat} {m m2 : Mem} {Q : Option AV → Mem → Prop} {l1 l2 s0 s1 s3 s4 s5 : Int} {v : Int} (Hs0 : IsC s0 101) (hM : C_X8_qOf sc d2 [aR 62, aI s3, aJ s4, aI s5] m (some (aJ v)) m2) (hd : d2 + 1 ≤ d) (k : S_X8_qTold sc d 78 [aR 62, aI l1, aI l2, aU] [aJ v, aI s1, aR s0] m2 Q) : S_X8_qTold sc d 75 [aR 62, aI l1, aI l2, aU] [aI s5, aJ s4, aI s3, aR 62, aI s1, aR s0] m Q := x_callV (as := [aI s3, aJ s4, aI s5]) (rest := [aI s1, aR s0]) hM mk_X8_qOf mv_X8_qOf lk_X8_706 (Or.inl ⟨8, (RX8, TX8, 123), ic_62, Nat.le_of_ble_eq_true rfl, rfl, rfl⟩) hd rfl rfl (Nat.le_of_ble_eq_true rfl) dX8_qTold_75 rfl k
theorem c_X8_qTold_78 {sc : List Int} {d d2 : Nat} {m m2 : Mem} {Q : Option AV → Mem → Prop} {l1 l2 s0 s1 s2 : Int} {v : Int} (Hs0 : IsC s0 101) (hM : C_X8_qClip sc d2 [aJ s2] m (some (aJ v)) m2) (hd : d2 + 1 ≤ d) (k : S_X8_qTold sc d 81 [aR 62, aI l1, aI l2, aU] [aJ v, aI s1, aR s0] m2 Q) : S_X8_qTold sc d 78 [aR 62, aI l1, aI l2, aU] [aJ s2, aI s1, aR s0] m Q := x_callS (as := [aJ s2]) (rest := [aI s1, aR s0]) hM mk_X8_qClip ms_X8_qClip lk_X8_692 hd rfl rfl (Nat.le_of_ble_eq_true rfl) dX8_qTold_78 rfl k
theorem c_X8_qTold_98 {sc : List Int} {d d2 : Nat} {m m2 : Mem} {Q : Option AV → Mem → Prop} {l1 l2 s2 s3 : Int} {v : Int} (hM : C_X8_qPartOf sc d2 [aR 62, aI s2, aI s3] m (some (aJ v)) m2) (hd : d2 + 1 ≤ d) (k : S_X8_qTold sc d 101 [aR 62, aI l1, aI l2, aU] [aJ v, aR 62] m2 Q) : S_X8_qTold sc d 98 [aR 62, aI l1, aI l2, aU] [aI s3, aI s2, aR 62, aR 62] m Q := x_callV (as := [aI s2, aI s3]) (rest := [aR 62]) hM mk_X8_qPartOf mv_X8_qPartOf lk_X8_454 (Or.inl ⟨8, (RX8, TX8, 123), ic_62, Nat.le_of_ble_eq_true rfl, rfl, rfl⟩) hd rfl rfl (Nat.le_of_ble_eq_true rfl) dX8_qTold_98 rfl k
theorem c_X8_qTold_101 {sc : List Int} {d d2 : Nat} {m m2 : Mem} {Q : Option AV → Mem → Prop} {l1 l2 s1 : Int} {v : Int} (hM : C_X8_qClip sc d2 [aJ s1] m (some (aJ v)) m2) (hd : d2 + 1 ≤ d) (k : S_X8_qTold sc d 104 [aR 62, aI l1, aI l2, aU] [aJ v, aR 62] m2 Q) : S_X8_qTold sc d 101 [aR 62, aI l1, aI l2, aU] [aJ s1, aR 62] m Q := x_callS (as := [aJ s1]) (rest := [aR 62]) hM mk_X8_qClip ms_X8_qClip lk_X8_692 hd rfl rfl (Nat.le_of_ble_eq_true rfl) dX8_qTold_101 rfl k
theorem c_X8_qTold_104 {sc : List Int} {d d2 : Nat} {m m2 : Mem} {Q : Option AV → Mem → Prop} {l1 l2 s1 : Int} (hM : C_X8_qPuts sc d2 [aR 62, aJ s1] m none m2) (hd : d2 + 1 ≤ d) (k : S_X8_qTold sc d 107 [aR 62, aI l1, aI l2, aU] [] m2 Q) : S_X8_qTold sc d 104 [aR 62, aI l1, aI l2, aU] [aJ s1, aR 62] m Q := x_callV (as := [aJ s1]) (rest := []) hM mk_X8_qPuts mv_X8_qPuts lk_X8_450 (Or.inl ⟨8, (RX8, TX8, 123), ic_62, Nat.le_of_ble_eq_true rfl, rfl, rfl⟩) hd rfl rfl (Nat.le_of_ble_eq_true rfl) dX8_qTold_104 rfl k
theorem c_X8_qTold_118 {sc : List Int} {d d2 : Nat} {m m2 : Mem} {Q : Option AV → Mem → Prop} {l1 l2 s1 : Int} (hM : C_X8_qPuts sc d2 [aR 62, aJ s1] m none m2) (hd : d2 + 1 ≤ d) (k : S_X8_qTold sc d 121 [aR 62, aI l1, aI l2, aU] [] m2 Q) : S_X8_qTold sc d 118 [aR 62, aI l1, aI l2, aU] [aJ s1, aR 62] m Q := x_callV (as := [aJ s1]) (rest := []) hM mk_X8_qPuts mv_X8_qPuts lk_X8_450 (Or.inl ⟨8, (RX8, TX8, 123), ic_62, Nat.le_of_ble_eq_true rfl, rfl, rfl⟩) hd rfl rfl (Nat.le_of_ble_eq_true rfl) dX8_qTold_118 rfl k
theorem c_X8_qTold_159 {sc : List Int} {d d2 : Nat} {m m2 : Mem} {Q : Option AV → Mem → Prop} {l1 l2 s1 : Int} (hM : C_X8_qJoins sc d2 [aR 62, aI s1] m none m2) (hd : d2 + 1 ≤ d) (k : S_X8_qTold sc d 162 [aR 62, aI l1, aI l2, aU] [] m2 Q) : S_X8_qTold sc d 159 [aR 62, aI l1, aI l2, aU] [aI s1, aR 62] m Q := x_callV (as := [aI s1]) (rest := []) hM mk_X8_qJoins mv_X8_qJoins lk_X8_458 (Or.inl ⟨8, (RX8, TX8, 123), ic_62, Nat.le_of_ble_eq_true rfl, rfl, rfl⟩) hd rfl rfl (Nat.le_of_ble_eq_true rfl) dX8_qTold_159 rfl k
set_option maxRecDepth 4000 in
theorem g_X8_qKind_0 {sc : List Int} {d : Nat} {m : Mem} {Q : Option AV → Mem → Prop} (k : S_X8_qKind sc d 5 [aR 62, aU] [aR 127, aR 62] m Q) : S_X8_qKind sc d 0 [aR 62, aU] [] m Q := by
  refine x_aload_n (pc2 := 1) dX8_qKind_0 rfl rfl ?_
  refine x_aload_n (pc2 := 2) dX8_qKind_1 rfl rfl ?_
  refine x_getf (pc2 := 5) (v := aR 127) fl_X8_212 ic_62 (vr_62_90 _) dX8_qKind_2 rfl ?_
  exact k
set_option maxRecDepth 4000 in
theorem g_X8_qKind_8 {sc : List Int} {d : Nat} {m : Mem} {Q : Option AV → Mem → Prop} {s0 : Int} (k : (-2147483648 ≤ s0 ∧ s0 < 2147483648) ∧ ((s0 = 0) → (S_X8_qKind sc d 20 [aR 62, aU] [aR 128, aR 62] m Q)) ∧ (¬ (s0 = 0) → (S_X8_qKind sc d 90 [aR 62, aI 0] [] m Q))) : S_X8_qKind sc d 8 [aR 62, aU] [aI s0] m Q := by
  obtain ⟨h1, k⟩ := k
  obtain ⟨k1, k2⟩ := k
  refine x_if_eq (tgt := 15) (pc2 := 11) dX8_qKind_8 (by decide) rfl h1 (fun c2 => ?_) (fun c2 => ?_)
  · replace k := k1 c2
    refine x_aload_n (pc2 := 16) dX8_qKind_15 rfl rfl ?_
    refine x_aload_n (pc2 := 17) dX8_qKind_16 rfl rfl ?_
    refine x_getf (pc2 := 20) (v := aR 128) fl_X8_215 ic_62 (vr_62_91 _) dX8_qKind_17 rfl ?_
    exact k
  · replace k := k2 c2
    refine x_iconst (pc2 := 12) dX8_qKind_11 rfl ?_
    refine x_goto (tgt := 76) dX8_qKind_12 (by decide) ?_
    refine x_istore_n (pc2 := 77) (ls2 := [aR 62, aI 0]) dX8_qKind_76 rfl (by decide) rfl ?_
    refine x_iload_n (pc2 := 78) dX8_qKind_77 rfl rfl ?_
    refine x_iconst (pc2 := 79) dX8_qKind_78 rfl ?_
    refine x_icmp_ne (tgt := 90) (pc2 := 82) dX8_qKind_79 (by decide) rfl (by decide) (by decide) (fun c3 => ?_) (fun c3 => ?_)
    · skip
      exact k
    · exact absurd (by decide) c3
set_option maxRecDepth 4000 in
theorem g_X8_qKind_23 {sc : List Int} {d : Nat} {m : Mem} {Q : Option AV → Mem → Prop} {s0 : Int} (k : (-2147483648 ≤ s0 ∧ s0 < 2147483648) ∧ ((s0 = 0) → (S_X8_qKind sc d 35 [aR 62, aU] [aR 129, aR 62] m Q)) ∧ (¬ (s0 = 0) → (S_X8_qKind sc d 90 [aR 62, aI 1] [] m Q))) : S_X8_qKind sc d 23 [aR 62, aU] [aI s0] m Q := by
  obtain ⟨h1, k⟩ := k
  obtain ⟨k1, k2⟩ := k
  refine x_if_eq (tgt := 30) (pc2 := 26) dX8_qKind_23 (by decide) rfl h1 (fun c2 => ?_) (fun c2 => ?_)
  · replace k := k1 c2
    refine x_aload_n (pc2 := 31) dX8_qKind_30 rfl rfl ?_
    refine x_aload_n (pc2 := 32) dX8_qKind_31 rfl rfl ?_
    refine x_getf (pc2 := 35) (v := aR 129) fl_X8_218 ic_62 (vr_62_92 _) dX8_qKind_32 rfl ?_
    exact k
  · replace k := k2 c2
    refine x_iconst (pc2 := 27) dX8_qKind_26 rfl ?_
    refine x_goto (tgt := 76) dX8_qKind_27 (by decide) ?_
    refine x_istore_n (pc2 := 77) (ls2 := [aR 62, aI 1]) dX8_qKind_76 rfl (by decide) rfl ?_
    refine x_iload_n (pc2 := 78) dX8_qKind_77 rfl rfl ?_
    refine x_iconst (pc2 := 79) dX8_qKind_78 rfl ?_
    refine x_icmp_ne (tgt := 90) (pc2 := 82) dX8_qKind_79 (by decide) rfl (by decide) (by decide) (fun c3 => ?_) (fun c3 => ?_)
    · skip
      exact k
    · exact absurd (by decide) c3
set_option maxRecDepth 4000 in
theorem g_X8_qKind_38 {sc : List Int} {d : Nat} {m : Mem} {Q : Option AV → Mem → Prop} {s0 : Int} (k : (-2147483648 ≤ s0 ∧ s0 < 2147483648) ∧ ((s0 = 0) → (S_X8_qKind sc d 50 [aR 62, aU] [aR 130, aR 62] m Q)) ∧ (¬ (s0 = 0) → (S_X8_qKind sc d 90 [aR 62, aI 2] [] m Q))) : S_X8_qKind sc d 38 [aR 62, aU] [aI s0] m Q := by
  obtain ⟨h1, k⟩ := k
  obtain ⟨k1, k2⟩ := k
  refine x_if_eq (tgt := 45) (pc2 := 41) dX8_qKind_38 (by decide) rfl h1 (fun c2 => ?_) (fun c2 => ?_)
  · replace k := k1 c2
    refine x_aload_n (pc2 := 46) dX8_qKind_45 rfl rfl ?_
    refine x_aload_n (pc2 := 47) dX8_qKind_46 rfl rfl ?_
    refine x_getf (pc2 := 50) (v := aR 130) fl_X8_221 ic_62 (vr_62_93 _) dX8_qKind_47 rfl ?_
    exact k
  · replace k := k2 c2
    refine x_iconst (pc2 := 42) dX8_qKind_41 rfl ?_
    refine x_goto (tgt := 76) dX8_qKind_42 (by decide) ?_
    refine x_istore_n (pc2 := 77) (ls2 := [aR 62, aI 2]) dX8_qKind_76 rfl (by decide) rfl ?_
    refine x_iload_n (pc2 := 78) dX8_qKind_77 rfl rfl ?_
    refine x_iconst (pc2 := 79) dX8_qKind_78 rfl ?_
    refine x_icmp_ne (tgt := 90) (pc2 := 82) dX8_qKind_79 (by decide) rfl (by decide) (by decide) (fun c3 => ?_) (fun c3 => ?_)
    · skip
      exact k
    · exact absurd (by decide) c3
set_option maxRecDepth 4000 in
theorem g_X8_qKind_53 {sc : List Int} {d : Nat} {m : Mem} {Q : Option AV → Mem → Prop} {s0 : Int} (k : (-2147483648 ≤ s0 ∧ s0 < 2147483648) ∧ ((s0 = 0) → (S_X8_qKind sc d 65 [aR 62, aU] [aR 131, aR 62] m Q)) ∧ (¬ (s0 = 0) → (S_X8_qKind sc d 90 [aR 62, aI 3] [] m Q))) : S_X8_qKind sc d 53 [aR 62, aU] [aI s0] m Q := by
  obtain ⟨h1, k⟩ := k
  obtain ⟨k1, k2⟩ := k
  refine x_if_eq (tgt := 60) (pc2 := 56) dX8_qKind_53 (by decide) rfl h1 (fun c2 => ?_) (fun c2 => ?_)
  · replace k := k1 c2
    refine x_aload_n (pc2 := 61) dX8_qKind_60 rfl rfl ?_
    refine x_aload_n (pc2 := 62) dX8_qKind_61 rfl rfl ?_
    refine x_getf (pc2 := 65) (v := aR 131) fl_X8_224 ic_62 (vr_62_94 _) dX8_qKind_62 rfl ?_
    exact k
  · replace k := k2 c2
    refine x_iconst (pc2 := 57) dX8_qKind_56 rfl ?_
    refine x_goto (tgt := 76) dX8_qKind_57 (by decide) ?_
    refine x_istore_n (pc2 := 77) (ls2 := [aR 62, aI 3]) dX8_qKind_76 rfl (by decide) rfl ?_
    refine x_iload_n (pc2 := 78) dX8_qKind_77 rfl rfl ?_
    refine x_iconst (pc2 := 79) dX8_qKind_78 rfl ?_
    refine x_icmp_ne (tgt := 90) (pc2 := 82) dX8_qKind_79 (by decide) rfl (by decide) (by decide) (fun c3 => ?_) (fun c3 => ?_)
    · skip
      exact k
    · exact absurd (by decide) c3
set_option maxRecDepth 4000 in
theorem g_X8_qKind_68 {sc : List Int} {d : Nat} {m : Mem} {Q : Option AV → Mem → Prop} {s0 : Int} (k : ((-2147483648 ≤ s0 ∧ s0 < 2147483648)) ∧ (-2147483648 ≤ (if s0 = 0 then 5 else 4 : Int) ∧ (if s0 = 0 then 5 else 4 : Int) < 2147483648) ∧ (((if s0 = 0 then 5 else 4 : Int) ≠ 5) → (S_X8_qKind sc d 90 [aR 62, aI (if s0 = 0 then 5 else 4 : Int)] [] m Q)) ∧ (¬ ((if s0 = 0 then 5 else 4 : Int) ≠ 5) → (S_X8_qKind sc d 87 [aR 62, aI (if s0 = 0 then 5 else 4 : Int)] [aR 132, aR 62] m Q))) : S_X8_qKind sc d 68 [aR 62, aU] [aI s0] m Q := by
  obtain ⟨g2, k⟩ := k
  have kj : S_X8_qKind sc d 76 [aR 62, aU] [aI (if s0 = 0 then 5 else 4 : Int)] m Q := by
    refine x_istore_n (pc2 := 77) (ls2 := [aR 62, aI (if s0 = 0 then 5 else 4 : Int)]) dX8_qKind_76 rfl (by decide) rfl ?_
    refine x_iload_n (pc2 := 78) dX8_qKind_77 rfl rfl ?_
    refine x_iconst (pc2 := 79) dX8_qKind_78 rfl ?_
    obtain ⟨h3, k⟩ := k
    obtain ⟨k1, k2⟩ := k
    refine x_icmp_ne (tgt := 90) (pc2 := 82) dX8_qKind_79 (by decide) rfl h3 (by decide) (fun c4 => ?_) (fun c4 => ?_)
    · replace k := k1 c4
      exact k
    · replace k := k2 c4
      refine x_aload_n (pc2 := 83) dX8_qKind_82 rfl rfl ?_
      refine x_aload_n (pc2 := 84) dX8_qKind_83 rfl rfl ?_
      refine x_getf (pc2 := 87) (v := aR 132) fl_X8_227 ic_62 (vr_62_95 _) dX8_qKind_84 rfl ?_
      exact k
  have h5 := g2 
  refine x_if_eq (tgt := 75) (pc2 := 71) dX8_qKind_68 (by decide) rfl h5 (fun c6 => ?_) (fun c6 => ?_)
  · skip
    refine x_iconst (pc2 := 76) dX8_qKind_75 rfl ?_
    exact x_topI (v := (if s0 = 0 then 5 else 4 : Int)) (if_pos c6) kj
  · skip
    refine x_iconst (pc2 := 72) dX8_qKind_71 rfl ?_
    refine x_goto (tgt := 76) dX8_qKind_72 (by decide) ?_
    exact x_topI (v := (if s0 = 0 then 5 else 4 : Int)) (if_neg c6) kj
set_option maxRecDepth 4000 in
theorem g_X8_qKind_90 {sc : List Int} {d : Nat} {m : Mem} {Q : Option AV → Mem → Prop} {l1 : Int} (k : Q (some (aI l1)) m) : S_X8_qKind sc d 90 [aR 62, aI l1] [] m Q := by
  refine x_iload_n (pc2 := 91) dX8_qKind_90 rfl rfl ?_
  exact x_ireturn dX8_qKind_91 ⟨.int, rfl, rfl⟩ k
theorem c_X8_qKind_5 {sc : List Int} {d d2 : Nat} {m m2 : Mem} {Q : Option AV → Mem → Prop} {s1 : Int} {v : Int} (Hs1 : IsC s1 102) (hM : C_X8_takes sc d2 [aR 62, aR s1] m (some (aI v)) m2) (hd : d2 + 1 ≤ d) (k : S_X8_qKind sc d 8 [aR 62, aU] [aI v] m2 Q) : S_X8_qKind sc d 5 [aR 62, aU] [aR s1, aR 62] m Q := x_callV (as := [aR s1]) (rest := []) hM mk_X8_takes mv_X8_takes lk_X8_317 (Or.inl ⟨8, (RX8, TX8, 123), ic_62, Nat.le_of_ble_eq_true rfl, rfl, rfl⟩) hd rfl rfl (Nat.le_of_ble_eq_true rfl) dX8_qKind_5 rfl k
theorem c_X8_qKind_20 {sc : List Int} {d d2 : Nat} {m m2 : Mem} {Q : Option AV → Mem → Prop} {s1 : Int} {v : Int} (Hs1 : IsC s1 102) (hM : C_X8_takes sc d2 [aR 62, aR s1] m (some (aI v)) m2) (hd : d2 + 1 ≤ d) (k : S_X8_qKind sc d 23 [aR 62, aU] [aI v] m2 Q) : S_X8_qKind sc d 20 [aR 62, aU] [aR s1, aR 62] m Q := x_callV (as := [aR s1]) (rest := []) hM mk_X8_takes mv_X8_takes lk_X8_317 (Or.inl ⟨8, (RX8, TX8, 123), ic_62, Nat.le_of_ble_eq_true rfl, rfl, rfl⟩) hd rfl rfl (Nat.le_of_ble_eq_true rfl) dX8_qKind_20 rfl k
theorem c_X8_qKind_35 {sc : List Int} {d d2 : Nat} {m m2 : Mem} {Q : Option AV → Mem → Prop} {s1 : Int} {v : Int} (Hs1 : IsC s1 102) (hM : C_X8_takes sc d2 [aR 62, aR s1] m (some (aI v)) m2) (hd : d2 + 1 ≤ d) (k : S_X8_qKind sc d 38 [aR 62, aU] [aI v] m2 Q) : S_X8_qKind sc d 35 [aR 62, aU] [aR s1, aR 62] m Q := x_callV (as := [aR s1]) (rest := []) hM mk_X8_takes mv_X8_takes lk_X8_317 (Or.inl ⟨8, (RX8, TX8, 123), ic_62, Nat.le_of_ble_eq_true rfl, rfl, rfl⟩) hd rfl rfl (Nat.le_of_ble_eq_true rfl) dX8_qKind_35 rfl k
theorem c_X8_qKind_50 {sc : List Int} {d d2 : Nat} {m m2 : Mem} {Q : Option AV → Mem → Prop} {s1 : Int} {v : Int} (Hs1 : IsC s1 102) (hM : C_X8_takes sc d2 [aR 62, aR s1] m (some (aI v)) m2) (hd : d2 + 1 ≤ d) (k : S_X8_qKind sc d 53 [aR 62, aU] [aI v] m2 Q) : S_X8_qKind sc d 50 [aR 62, aU] [aR s1, aR 62] m Q := x_callV (as := [aR s1]) (rest := []) hM mk_X8_takes mv_X8_takes lk_X8_317 (Or.inl ⟨8, (RX8, TX8, 123), ic_62, Nat.le_of_ble_eq_true rfl, rfl, rfl⟩) hd rfl rfl (Nat.le_of_ble_eq_true rfl) dX8_qKind_50 rfl k
theorem c_X8_qKind_65 {sc : List Int} {d d2 : Nat} {m m2 : Mem} {Q : Option AV → Mem → Prop} {s1 : Int} {v : Int} (Hs1 : IsC s1 102) (hM : C_X8_takes sc d2 [aR 62, aR s1] m (some (aI v)) m2) (hd : d2 + 1 ≤ d) (k : S_X8_qKind sc d 68 [aR 62, aU] [aI v] m2 Q) : S_X8_qKind sc d 65 [aR 62, aU] [aR s1, aR 62] m Q := x_callV (as := [aR s1]) (rest := []) hM mk_X8_takes mv_X8_takes lk_X8_317 (Or.inl ⟨8, (RX8, TX8, 123), ic_62, Nat.le_of_ble_eq_true rfl, rfl, rfl⟩) hd rfl rfl (Nat.le_of_ble_eq_true rfl) dX8_qKind_65 rfl k
theorem c_X8_qKind_87 {sc : List Int} {d d2 : Nat} {m m2 : Mem} {Q : Option AV → Mem → Prop} {l1 s1 : Int} (Hs1 : IsC s1 102) (hM : C_X8_asks sc d2 [aR 62, aR s1] m none m2) (hd : d2 + 1 ≤ d) (k : S_X8_qKind sc d 90 [aR 62, aI l1] [] m2 Q) : S_X8_qKind sc d 87 [aR 62, aI l1] [aR s1, aR 62] m Q := x_callV (as := [aR s1]) (rest := []) hM mk_X8_asks mv_X8_asks lk_X8_356 (Or.inl ⟨8, (RX8, TX8, 123), ic_62, Nat.le_of_ble_eq_true rfl, rfl, rfl⟩) hd rfl rfl (Nat.le_of_ble_eq_true rfl) dX8_qKind_87 rfl k
set_option maxRecDepth 4000 in
theorem g_X8_qTakes_0 {sc : List Int} {d : Nat} {m : Mem} {Q : Option AV → Mem → Prop} {l1 l2 l4 : Int} (k : ((-2147483648 ≤ l1 ∧ l1 < 2147483648)) ∧ ((¬ (3 ≤ l1)) → (-9223372036854775808 ≤ l2 ∧ l2 < 9223372036854775808)) ∧ (-2147483648 ≤ l1 ∧ l1 < 2147483648) ∧ ((l1 ≠ 0) → (((l1 ≠ 1) → (((l1 ≠ 2) → (((l1 ≠ 3) → (((l1 ≤ 3) → (Q none (wr m 62 120 0))) ∧ (¬ (l1 ≤ 3) → ((-2147483648 ≤ (m 62 120) ∧ (m 62 120) < 2147483648) ∧ (((m 62 120) ≠ 0) → (Q none (wr (wr m 62 119 l2) 62 120 0))) ∧ (¬ ((m 62 120) ≠ 0) → (((l1 ≠ 4) → ((-9223372036854775808 ≤ l2 ∧ l2 < 9223372036854775808) ∧ (-9223372036854775808 ≤ (m 62 119) ∧ (m 62 119) < 9223372036854775808) ∧ (((m 62 119) ≤ l2) → (Q none (wr m 62 120 0))) ∧ (¬ ((m 62 119) ≤ l2) → (Q none (wr (wr m 62 119 l2) 62 120 0))))) ∧ (¬ (l1 ≠ 4) → ((-9223372036854775808 ≤ l2 ∧ l2 < 9223372036854775808) ∧ (-9223372036854775808 ≤ (m 62 119) ∧ (m 62 119) < 9223372036854775808) ∧ ((l2 ≤ (m 62 119)) → (Q none (wr m 62 120 0))) ∧ (¬ (l2 ≤ (m 62 119)) → (Q none (wr (wr m 62 119 l2) 62 120 0))))))))))) ∧ (¬ (l1 ≠ 3) → (((l1 ≤ 3) → (Q none (wr (wr m 62 119 ((m 62 119) + l2)) 62 120 0))) ∧ (¬ (l1 ≤ 3) → ((-2147483648 ≤ ((wr m 62 119 ((m 62 119) + l2)) 62 120) ∧ ((wr m 62 119 ((m 62 119) + l2)) 62 120) < 2147483648) ∧ ((((wr m 62 119 ((m 62 119) + l2)) 62 120) ≠ 0) → (Q none (wr (wr (wr m 62 119 ((m 62 119) + l2)) 62 119 l2) 62 120 0))) ∧ (¬ (((wr m 62 119 ((m 62 119) + l2)) 62 120) ≠ 0) → (((l1 ≠ 4) → ((-9223372036854775808 ≤ l2 ∧ l2 < 9223372036854775808) ∧ (-9223372036854775808 ≤ ((wr m 62 119 ((m 62 119) + l2)) 62 119) ∧ ((wr m 62 119 ((m 62 119) + l2)) 62 119) < 9223372036854775808) ∧ ((((wr m 62 119 ((m 62 119) + l2)) 62 119) ≤ l2) → (Q none (wr (wr m 62 119 ((m 62 119) + l2)) 62 120 0))) ∧ (¬ (((wr m 62 119 ((m 62 119) + l2)) 62 119) ≤ l2) → (Q none (wr (wr (wr m 62 119 ((m 62 119) + l2)) 62 119 l2) 62 120 0))))) ∧ (¬ (l1 ≠ 4) → ((-9223372036854775808 ≤ l2 ∧ l2 < 9223372036854775808) ∧ (-9223372036854775808 ≤ ((wr m 62 119 ((m 62 119) + l2)) 62 119) ∧ ((wr m 62 119 ((m 62 119) + l2)) 62 119) < 9223372036854775808) ∧ ((l2 ≤ ((wr m 62 119 ((m 62 119) + l2)) 62 119)) → (Q none (wr (wr m 62 119 ((m 62 119) + l2)) 62 120 0))) ∧ (¬ (l2 ≤ ((wr m 62 119 ((m 62 119) + l2)) 62 119)) → (Q none (wr (wr (wr m 62 119 ((m 62 119) + l2)) 62 119 l2) 62 120 0))))))))))))) ∧ (¬ (l1 ≠ 2) → ((-2147483648 ≤ (if 3 ≤ l1 then 0 else (if l2 ≠ 1 then 0 else 1 : Int) : Int) ∧ (if 3 ≤ l1 then 0 else (if l2 ≠ 1 then 0 else 1 : Int) : Int) < 2147483648) ∧ (((if 3 ≤ l1 then 0 else (if l2 ≠ 1 then 0 else 1 : Int) : Int) = 0) → (((l1 ≠ 3) → (((l1 ≤ 3) → (Q none (wr m 62 120 0))) ∧ (¬ (l1 ≤ 3) → ((-2147483648 ≤ (m 62 120) ∧ (m 62 120) < 2147483648) ∧ (((m 62 120) ≠ 0) → (Q none (wr (wr m 62 119 l2) 62 120 0))) ∧ (¬ ((m 62 120) ≠ 0) → (((l1 ≠ 4) → ((-9223372036854775808 ≤ l2 ∧ l2 < 9223372036854775808) ∧ (-9223372036854775808 ≤ (m 62 119) ∧ (m 62 119) < 9223372036854775808) ∧ (((m 62 119) ≤ l2) → (Q none (wr m 62 120 0))) ∧ (¬ ((m 62 119) ≤ l2) → (Q none (wr (wr m 62 119 l2) 62 120 0))))) ∧ (¬ (l1 ≠ 4) → ((-9223372036854775808 ≤ l2 ∧ l2 < 9223372036854775808) ∧ (-9223372036854775808 ≤ (m 62 119) ∧ (m 62 119) < 9223372036854775808) ∧ ((l2 ≤ (m 62 119)) → (Q none (wr m 62 120 0))) ∧ (¬ (l2 ≤ (m 62 119)) → (Q none (wr (wr m 62 119 l2) 62 120 0))))))))))) ∧ (¬ (l1 ≠ 3) → (((l1 ≤ 3) → (Q none (wr (wr m 62 119 ((m 62 119) + l2)) 62 120 0))) ∧ (¬ (l1 ≤ 3) → ((-2147483648 ≤ ((wr m 62 119 ((m 62 119) + l2)) 62 120) ∧ ((wr m 62 119 ((m 62 119) + l2)) 62 120) < 2147483648) ∧ ((((wr m 62 119 ((m 62 119) + l2)) 62 120) ≠ 0) → (Q none (wr (wr (wr m 62 119 ((m 62 119) + l2)) 62 119 l2) 62 120 0))) ∧ (¬ (((wr m 62 119 ((m 62 119) + l2)) 62 120) ≠ 0) → (((l1 ≠ 4) → ((-9223372036854775808 ≤ l2 ∧ l2 < 9223372036854775808) ∧ (-9223372036854775808 ≤ ((wr m 62 119 ((m 62 119) + l2)) 62 119) ∧ ((wr m 62 119 ((m 62 119) + l2)) 62 119) < 9223372036854775808) ∧ ((((wr m 62 119 ((m 62 119) + l2)) 62 119) ≤ l2) → (Q none (wr (wr m 62 119 ((m 62 119) + l2)) 62 120 0))) ∧ (¬ (((wr m 62 119 ((m 62 119) + l2)) 62 119) ≤ l2) → (Q none (wr (wr (wr m 62 119 ((m 62 119) + l2)) 62 119 l2) 62 120 0))))) ∧ (¬ (l1 ≠ 4) → ((-9223372036854775808 ≤ l2 ∧ l2 < 9223372036854775808) ∧ (-9223372036854775808 ≤ ((wr m 62 119 ((m 62 119) + l2)) 62 119) ∧ ((wr m 62 119 ((m 62 119) + l2)) 62 119) < 9223372036854775808) ∧ ((l2 ≤ ((wr m 62 119 ((m 62 119) + l2)) 62 119)) → (Q none (wr (wr m 62 119 ((m 62 119) + l2)) 62 120 0))) ∧ (¬ (l2 ≤ ((wr m 62 119 ((m 62 119) + l2)) 62 119)) → (Q none (wr (wr (wr m 62 119 ((m 62 119) + l2)) 62 119 l2) 62 120 0))))))))))))) ∧ (¬ ((if 3 ≤ l1 then 0 else (if l2 ≠ 1 then 0 else 1 : Int) : Int) = 0) → (((l1 ≠ 3) → (((l1 ≤ 3) → (Q none (wr (wr m 62 119 ((m 62 119) + 1)) 62 120 0))) ∧ (¬ (l1 ≤ 3) → ((-2147483648 ≤ ((wr m 62 119 ((m 62 119) + 1)) 62 120) ∧ ((wr m 62 119 ((m 62 119) + 1)) 62 120) < 2147483648) ∧ ((((wr m 62 119 ((m 62 119) + 1)) 62 120) ≠ 0) → (Q none (wr (wr (wr m 62 119 ((m 62 119) + 1)) 62 119 l2) 62 120 0))) ∧ (¬ (((wr m 62 119 ((m 62 119) + 1)) 62 120) ≠ 0) → (((l1 ≠ 4) → ((-9223372036854775808 ≤ l2 ∧ l2 < 9223372036854775808) ∧ (-9223372036854775808 ≤ ((wr m 62 119 ((m 62 119) + 1)) 62 119) ∧ ((wr m 62 119 ((m 62 119) + 1)) 62 119) < 9223372036854775808) ∧ ((((wr m 62 119 ((m 62 119) + 1)) 62 119) ≤ l2) → (Q none (wr (wr m 62 119 ((m 62 119) + 1)) 62 120 0))) ∧ (¬ (((wr m 62 119 ((m 62 119) + 1)) 62 119) ≤ l2) → (Q none (wr (wr (wr m 62 119 ((m 62 119) + 1)) 62 119 l2) 62 120 0))))) ∧ (¬ (l1 ≠ 4) → ((-9223372036854775808 ≤ l2 ∧ l2 < 9223372036854775808) ∧ (-9223372036854775808 ≤ ((wr m 62 119 ((m 62 119) + 1)) 62 119) ∧ ((wr m 62 119 ((m 62 119) + 1)) 62 119) < 9223372036854775808) ∧ ((l2 ≤ ((wr m 62 119 ((m 62 119) + 1)) 62 119)) → (Q none (wr (wr m 62 119 ((m 62 119) + 1)) 62 120 0))) ∧ (¬ (l2 ≤ ((wr m 62 119 ((m 62 119) + 1)) 62 119)) → (Q none (wr (wr (wr m 62 119 ((m 62 119) + 1)) 62 119 l2) 62 120 0))))))))))) ∧ (¬ (l1 ≠ 3) → (((l1 ≤ 3) → (Q none (wr (wr (wr m 62 119 ((m 62 119) + 1)) 62 119 (((wr m 62 119 ((m 62 119) + 1)) 62 119) + l2)) 62 120 0))) ∧ (¬ (l1 ≤ 3) → ((-2147483648 ≤ ((wr (wr m 62 119 ((m 62 119) + 1)) 62 119 (((wr m 62 119 ((m 62 119) + 1)) 62 119) + l2)) 62 120) ∧ ((wr (wr m 62 119 ((m 62 119) + 1)) 62 119 (((wr m 62 119 ((m 62 119) + 1)) 62 119) + l2)) 62 120) < 2147483648) ∧ ((((wr (wr m 62 119 ((m 62 119) + 1)) 62 119 (((wr m 62 119 ((m 62 119) + 1)) 62 119) + l2)) 62 120) ≠ 0) → (Q none (wr (wr (wr (wr m 62 119 ((m 62 119) + 1)) 62 119 (((wr m 62 119 ((m 62 119) + 1)) 62 119) + l2)) 62 119 l2) 62 120 0))) ∧ (¬ (((wr (wr m 62 119 ((m 62 119) + 1)) 62 119 (((wr m 62 119 ((m 62 119) + 1)) 62 119) + l2)) 62 120) ≠ 0) → (((l1 ≠ 4) → ((-9223372036854775808 ≤ l2 ∧ l2 < 9223372036854775808) ∧ (-9223372036854775808 ≤ ((wr (wr m 62 119 ((m 62 119) + 1)) 62 119 (((wr m 62 119 ((m 62 119) + 1)) 62 119) + l2)) 62 119) ∧ ((wr (wr m 62 119 ((m 62 119) + 1)) 62 119 (((wr m 62 119 ((m 62 119) + 1)) 62 119) + l2)) 62 119) < 9223372036854775808) ∧ ((((wr (wr m 62 119 ((m 62 119) + 1)) 62 119 (((wr m 62 119 ((m 62 119) + 1)) 62 119) + l2)) 62 119) ≤ l2) → (Q none (wr (wr (wr m 62 119 ((m 62 119) + 1)) 62 119 (((wr m 62 119 ((m 62 119) + 1)) 62 119) + l2)) 62 120 0))) ∧ (¬ (((wr (wr m 62 119 ((m 62 119) + 1)) 62 119 (((wr m 62 119 ((m 62 119) + 1)) 62 119) + l2)) 62 119) ≤ l2) → (Q none (wr (wr (wr (wr m 62 119 ((m 62 119) + 1)) 62 119 (((wr m 62 119 ((m 62 119) + 1)) 62 119) + l2)) 62 119 l2) 62 120 0))))) ∧ (¬ (l1 ≠ 4) → ((-9223372036854775808 ≤ l2 ∧ l2 < 9223372036854775808) ∧ (-9223372036854775808 ≤ ((wr (wr m 62 119 ((m 62 119) + 1)) 62 119 (((wr m 62 119 ((m 62 119) + 1)) 62 119) + l2)) 62 119) ∧ ((wr (wr m 62 119 ((m 62 119) + 1)) 62 119 (((wr m 62 119 ((m 62 119) + 1)) 62 119) + l2)) 62 119) < 9223372036854775808) ∧ ((l2 ≤ ((wr (wr m 62 119 ((m 62 119) + 1)) 62 119 (((wr m 62 119 ((m 62 119) + 1)) 62 119) + l2)) 62 119)) → (Q none (wr (wr (wr m 62 119 ((m 62 119) + 1)) 62 119 (((wr m 62 119 ((m 62 119) + 1)) 62 119) + l2)) 62 120 0))) ∧ (¬ (l2 ≤ ((wr (wr m 62 119 ((m 62 119) + 1)) 62 119 (((wr m 62 119 ((m 62 119) + 1)) 62 119) + l2)) 62 119)) → (Q none (wr (wr (wr (wr m 62 119 ((m 62 119) + 1)) 62 119 (((wr m 62 119 ((m 62 119) + 1)) 62 119) + l2)) 62 119 l2) 62 120 0))))))))))))))))) ∧ (¬ (l1 ≠ 1) → ((-2147483648 ≤ (if 3 ≤ l1 then 0 else (if l2 ≠ 1 then 0 else 1 : Int) : Int) ∧ (if 3 ≤ l1 then 0 else (if l2 ≠ 1 then 0 else 1 : Int) : Int) < 2147483648) ∧ (((if 3 ≤ l1 then 0 else (if l2 ≠ 1 then 0 else 1 : Int) : Int) = 0) → (((l1 ≠ 2) → (((l1 ≠ 3) → (((l1 ≤ 3) → (Q none (wr m 62 120 0))) ∧ (¬ (l1 ≤ 3) → ((-2147483648 ≤ (m 62 120) ∧ (m 62 120) < 2147483648) ∧ (((m 62 120) ≠ 0) → (Q none (wr (wr m 62 119 l2) 62 120 0))) ∧ (¬ ((m 62 120) ≠ 0) → (((l1 ≠ 4) → ((-9223372036854775808 ≤ l2 ∧ l2 < 9223372036854775808) ∧ (-9223372036854775808 ≤ (m 62 119) ∧ (m 62 119) < 9223372036854775808) ∧ (((m 62 119) ≤ l2) → (Q none (wr m 62 120 0))) ∧ (¬ ((m 62 119) ≤ l2) → (Q none (wr (wr m 62 119 l2) 62 120 0))))) ∧ (¬ (l1 ≠ 4) → ((-9223372036854775808 ≤ l2 ∧ l2 < 9223372036854775808) ∧ (-9223372036854775808 ≤ (m 62 119) ∧ (m 62 119) < 9223372036854775808) ∧ ((l2 ≤ (m 62 119)) → (Q none (wr m 62 120 0))) ∧ (¬ (l2 ≤ (m 62 119)) → (Q none (wr (wr m 62 119 l2) 62 120 0))))))))))) ∧ (¬ (l1 ≠ 3) → (((l1 ≤ 3) → (Q none (wr (wr m 62 119 ((m 62 119) + l2)) 62 120 0))) ∧ (¬ (l1 ≤ 3) → ((-2147483648 ≤ ((wr m 62 119 ((m 62 119) + l2)) 62 120) ∧ ((wr m 62 119 ((m 62 119) + l2)) 62 120) < 2147483648) ∧ ((((wr m 62 119 ((m 62 119) + l2)) 62 120) ≠ 0) → (Q none (wr (wr (wr m 62 119 ((m 62 119) + l2)) 62 119 l2) 62 120 0))) ∧ (¬ (((wr m 62 119 ((m 62 119) + l2)) 62 120) ≠ 0) → (((l1 ≠ 4) → ((-9223372036854775808 ≤ l2 ∧ l2 < 9223372036854775808) ∧ (-9223372036854775808 ≤ ((wr m 62 119 ((m 62 119) + l2)) 62 119) ∧ ((wr m 62 119 ((m 62 119) + l2)) 62 119) < 9223372036854775808) ∧ ((((wr m 62 119 ((m 62 119) + l2)) 62 119) ≤ l2) → (Q none (wr (wr m 62 119 ((m 62 119) + l2)) 62 120 0))) ∧ (¬ (((wr m 62 119 ((m 62 119) + l2)) 62 119) ≤ l2) → (Q none (wr (wr (wr m 62 119 ((m 62 119) + l2)) 62 119 l2) 62 120 0))))) ∧ (¬ (l1 ≠ 4) → ((-9223372036854775808 ≤ l2 ∧ l2 < 9223372036854775808) ∧ (-9223372036854775808 ≤ ((wr m 62 119 ((m 62 119) + l2)) 62 119) ∧ ((wr m 62 119 ((m 62 119) + l2)) 62 119) < 9223372036854775808) ∧ ((l2 ≤ ((wr m 62 119 ((m 62 119) + l2)) 62 119)) → (Q none (wr (wr m 62 119 ((m 62 119) + l2)) 62 120 0))) ∧ (¬ (l2 ≤ ((wr m 62 119 ((m 62 119) + l2)) 62 119)) → (Q none (wr (wr (wr m 62 119 ((m 62 119) + l2)) 62 119 l2) 62 120 0))))))))))))) ∧ (¬ (l1 ≠ 2) → ((((if 3 ≤ l1 then 0 else (if l2 ≠ 1 then 0 else 1 : Int) : Int) = 0) → (((l1 ≠ 3) → (((l1 ≤ 3) → (Q none (wr m 62 120 0))) ∧ (¬ (l1 ≤ 3) → ((-2147483648 ≤ (m 62 120) ∧ (m 62 120) < 2147483648) ∧ (((m 62 120) ≠ 0) → (Q none (wr (wr m 62 119 l2) 62 120 0))) ∧ (¬ ((m 62 120) ≠ 0) → (((l1 ≠ 4) → ((-9223372036854775808 ≤ l2 ∧ l2 < 9223372036854775808) ∧ (-9223372036854775808 ≤ (m 62 119) ∧ (m 62 119) < 9223372036854775808) ∧ (((m 62 119) ≤ l2) → (Q none (wr m 62 120 0))) ∧ (¬ ((m 62 119) ≤ l2) → (Q none (wr (wr m 62 119 l2) 62 120 0))))) ∧ (¬ (l1 ≠ 4) → ((-9223372036854775808 ≤ l2 ∧ l2 < 9223372036854775808) ∧ (-9223372036854775808 ≤ (m 62 119) ∧ (m 62 119) < 9223372036854775808) ∧ ((l2 ≤ (m 62 119)) → (Q none (wr m 62 120 0))) ∧ (¬ (l2 ≤ (m 62 119)) → (Q none (wr (wr m 62 119 l2) 62 120 0))))))))))) ∧ (¬ (l1 ≠ 3) → (((l1 ≤ 3) → (Q none (wr (wr m 62 119 ((m 62 119) + l2)) 62 120 0))) ∧ (¬ (l1 ≤ 3) → ((-2147483648 ≤ ((wr m 62 119 ((m 62 119) + l2)) 62 120) ∧ ((wr m 62 119 ((m 62 119) + l2)) 62 120) < 2147483648) ∧ ((((wr m 62 119 ((m 62 119) + l2)) 62 120) ≠ 0) → (Q none (wr (wr (wr m 62 119 ((m 62 119) + l2)) 62 119 l2) 62 120 0))) ∧ (¬ (((wr m 62 119 ((m 62 119) + l2)) 62 120) ≠ 0) → (((l1 ≠ 4) → ((-9223372036854775808 ≤ l2 ∧ l2 < 9223372036854775808) ∧ (-9223372036854775808 ≤ ((wr m 62 119 ((m 62 119) + l2)) 62 119) ∧ ((wr m 62 119 ((m 62 119) + l2)) 62 119) < 9223372036854775808) ∧ ((((wr m 62 119 ((m 62 119) + l2)) 62 119) ≤ l2) → (Q none (wr (wr m 62 119 ((m 62 119) + l2)) 62 120 0))) ∧ (¬ (((wr m 62 119 ((m 62 119) + l2)) 62 119) ≤ l2) → (Q none (wr (wr (wr m 62 119 ((m 62 119) + l2)) 62 119 l2) 62 120 0))))) ∧ (¬ (l1 ≠ 4) → ((-9223372036854775808 ≤ l2 ∧ l2 < 9223372036854775808) ∧ (-9223372036854775808 ≤ ((wr m 62 119 ((m 62 119) + l2)) 62 119) ∧ ((wr m 62 119 ((m 62 119) + l2)) 62 119) < 9223372036854775808) ∧ ((l2 ≤ ((wr m 62 119 ((m 62 119) + l2)) 62 119)) → (Q none (wr (wr m 62 119 ((m 62 119) + l2)) 62 120 0))) ∧ (¬ (l2 ≤ ((wr m 62 119 ((m 62 119) + l2)) 62 119)) → (Q none (wr (wr (wr m 62 119 ((m 62 119) + l2)) 62 119 l2) 62 120 0))))))))))))) ∧ (¬ ((if 3 ≤ l1 then 0 else (if l2 ≠ 1 then 0 else 1 : Int) : Int) = 0) → (((l1 ≠ 3) → (((l1 ≤ 3) → (Q none (wr (wr m 62 119 ((m 62 119) + 1)) 62 120 0))) ∧ (¬ (l1 ≤ 3) → ((-2147483648 ≤ ((wr m 62 119 ((m 62 119) + 1)) 62 120) ∧ ((wr m 62 119 ((m 62 119) + 1)) 62 120) < 2147483648) ∧ ((((wr m 62 119 ((m 62 119) + 1)) 62 120) ≠ 0) → (Q none (wr (wr (wr m 62 119 ((m 62 119) + 1)) 62 119 l2) 62 120 0))) ∧ (¬ (((wr m 62 119 ((m 62 119) + 1)) 62 120) ≠ 0) → (((l1 ≠ 4) → ((-9223372036854775808 ≤ l2 ∧ l2 < 9223372036854775808) ∧ (-9223372036854775808 ≤ ((wr m 62 119 ((m 62 119) + 1)) 62 119) ∧ ((wr m 62 119 ((m 62 119) + 1)) 62 119) < 9223372036854775808) ∧ ((((wr m 62 119 ((m 62 119) + 1)) 62 119) ≤ l2) → (Q none (wr (wr m 62 119 ((m 62 119) + 1)) 62 120 0))) ∧ (¬ (((wr m 62 119 ((m 62 119) + 1)) 62 119) ≤ l2) → (Q none (wr (wr (wr m 62 119 ((m 62 119) + 1)) 62 119 l2) 62 120 0))))) ∧ (¬ (l1 ≠ 4) → ((-9223372036854775808 ≤ l2 ∧ l2 < 9223372036854775808) ∧ (-9223372036854775808 ≤ ((wr m 62 119 ((m 62 119) + 1)) 62 119) ∧ ((wr m 62 119 ((m 62 119) + 1)) 62 119) < 9223372036854775808) ∧ ((l2 ≤ ((wr m 62 119 ((m 62 119) + 1)) 62 119)) → (Q none (wr (wr m 62 119 ((m 62 119) + 1)) 62 120 0))) ∧ (¬ (l2 ≤ ((wr m 62 119 ((m 62 119) + 1)) 62 119)) → (Q none (wr (wr (wr m 62 119 ((m 62 119) + 1)) 62 119 l2) 62 120 0))))))))))) ∧ (¬ (l1 ≠ 3) → (((l1 ≤ 3) → (Q none (wr (wr (wr m 62 119 ((m 62 119) + 1)) 62 119 (((wr m 62 119 ((m 62 119) + 1)) 62 119) + l2)) 62 120 0))) ∧ (¬ (l1 ≤ 3) → ((-2147483648 ≤ ((wr (wr m 62 119 ((m 62 119) + 1)) 62 119 (((wr m 62 119 ((m 62 119) + 1)) 62 119) + l2)) 62 120) ∧ ((wr (wr m 62 119 ((m 62 119) + 1)) 62 119 (((wr m 62 119 ((m 62 119) + 1)) 62 119) + l2)) 62 120) < 2147483648) ∧ ((((wr (wr m 62 119 ((m 62 119) + 1)) 62 119 (((wr m 62 119 ((m 62 119) + 1)) 62 119) + l2)) 62 120) ≠ 0) → (Q none (wr (wr (wr (wr m 62 119 ((m 62 119) + 1)) 62 119 (((wr m 62 119 ((m 62 119) + 1)) 62 119) + l2)) 62 119 l2) 62 120 0))) ∧ (¬ (((wr (wr m 62 119 ((m 62 119) + 1)) 62 119 (((wr m 62 119 ((m 62 119) + 1)) 62 119) + l2)) 62 120) ≠ 0) → (((l1 ≠ 4) → ((-9223372036854775808 ≤ l2 ∧ l2 < 9223372036854775808) ∧ (-9223372036854775808 ≤ ((wr (wr m 62 119 ((m 62 119) + 1)) 62 119 (((wr m 62 119 ((m 62 119) + 1)) 62 119) + l2)) 62 119) ∧ ((wr (wr m 62 119 ((m 62 119) + 1)) 62 119 (((wr m 62 119 ((m 62 119) + 1)) 62 119) + l2)) 62 119) < 9223372036854775808) ∧ ((((wr (wr m 62 119 ((m 62 119) + 1)) 62 119 (((wr m 62 119 ((m 62 119) + 1)) 62 119) + l2)) 62 119) ≤ l2) → (Q none (wr (wr (wr m 62 119 ((m 62 119) + 1)) 62 119 (((wr m 62 119 ((m 62 119) + 1)) 62 119) + l2)) 62 120 0))) ∧ (¬ (((wr (wr m 62 119 ((m 62 119) + 1)) 62 119 (((wr m 62 119 ((m 62 119) + 1)) 62 119) + l2)) 62 119) ≤ l2) → (Q none (wr (wr (wr (wr m 62 119 ((m 62 119) + 1)) 62 119 (((wr m 62 119 ((m 62 119) + 1)) 62 119) + l2)) 62 119 l2) 62 120 0))))) ∧ (¬ (l1 ≠ 4) → ((-9223372036854775808 ≤ l2 ∧ l2 < 9223372036854775808) ∧ (-9223372036854775808 ≤ ((wr (wr m 62 119 ((m 62 119) + 1)) 62 119 (((wr m 62 119 ((m 62 119) + 1)) 62 119) + l2)) 62 119) ∧ ((wr (wr m 62 119 ((m 62 119) + 1)) 62 119 (((wr m 62 119 ((m 62 119) + 1)) 62 119) + l2)) 62 119) < 9223372036854775808) ∧ ((l2 ≤ ((wr (wr m 62 119 ((m 62 119) + 1)) 62 119 (((wr m 62 119 ((m 62 119) + 1)) 62 119) + l2)) 62 119)) → (Q none (wr (wr (wr m 62 119 ((m 62 119) + 1)) 62 119 (((wr m 62 119 ((m 62 119) + 1)) 62 119) + l2)) 62 120 0))) ∧ (¬ (l2 ≤ ((wr (wr m 62 119 ((m 62 119) + 1)) 62 119 (((wr m 62 119 ((m 62 119) + 1)) 62 119) + l2)) 62 119)) → (Q none (wr (wr (wr (wr m 62 119 ((m 62 119) + 1)) 62 119 (((wr m 62 119 ((m 62 119) + 1)) 62 119) + l2)) 62 119 l2) 62 120 0))))))))))))))))) ∧ (¬ ((if 3 ≤ l1 then 0 else (if l2 ≠ 1 then 0 else 1 : Int) : Int) = 0) → ((-2147483648 ≤ l4 ∧ l4 < 2147483648) ∧ ((l1 ≠ 2) → (((l1 ≠ 3) → (((l1 ≤ 3) → (Q none (wr (wr m 62 119 l4) 62 120 0))) ∧ (¬ (l1 ≤ 3) → ((-2147483648 ≤ ((wr m 62 119 l4) 62 120) ∧ ((wr m 62 119 l4) 62 120) < 2147483648) ∧ ((((wr m 62 119 l4) 62 120) ≠ 0) → (Q none (wr (wr (wr m 62 119 l4) 62 119 l2) 62 120 0))) ∧ (¬ (((wr m 62 119 l4) 62 120) ≠ 0) → (((l1 ≠ 4) → ((-9223372036854775808 ≤ l2 ∧ l2 < 9223372036854775808) ∧ (-9223372036854775808 ≤ ((wr m 62 119 l4) 62 119) ∧ ((wr m 62 119 l4) 62 119) < 9223372036854775808) ∧ ((((wr m 62 119 l4) 62 119) ≤ l2) → (Q none (wr (wr m 62 119 l4) 62 120 0))) ∧ (¬ (((wr m 62 119 l4) 62 119) ≤ l2) → (Q none (wr (wr (wr m 62 119 l4) 62 119 l2) 62 120 0))))) ∧ (¬ (l1 ≠ 4) → ((-9223372036854775808 ≤ l2 ∧ l2 < 9223372036854775808) ∧ (-9223372036854775808 ≤ ((wr m 62 119 l4) 62 119) ∧ ((wr m 62 119 l4) 62 119) < 9223372036854775808) ∧ ((l2 ≤ ((wr m 62 119 l4) 62 119)) → (Q none (wr (wr m 62 119 l4) 62 120 0))) ∧ (¬ (l2 ≤ ((wr m 62 119 l4) 62 119)) → (Q none (wr (wr (wr m 62 119 l4) 62 119 l2) 62 120 0))))))))))) ∧ (¬ (l1 ≠ 3) → (((l1 ≤ 3) → (Q none (wr (wr (wr m 62 119 l4) 62 119 (((wr m 62 119 l4) 62 119) + l2)) 62 120 0))) ∧ (¬ (l1 ≤ 3) → ((-2147483648 ≤ ((wr (wr m 62 119 l4) 62 119 (((wr m 62 119 l4) 62 119) + l2)) 62 120) ∧ ((wr (wr m 62 119 l4) 62 119 (((wr m 62 119 l4) 62 119) + l2)) 62 120) < 2147483648) ∧ ((((wr (wr m 62 119 l4) 62 119 (((wr m 62 119 l4) 62 119) + l2)) 62 120) ≠ 0) → (Q none (wr (wr (wr (wr m 62 119 l4) 62 119 (((wr m 62 119 l4) 62 119) + l2)) 62 119 l2) 62 120 0))) ∧ (¬ (((wr (wr m 62 119 l4) 62 119 (((wr m 62 119 l4) 62 119) + l2)) 62 120) ≠ 0) → (((l1 ≠ 4) → ((-9223372036854775808 ≤ l2 ∧ l2 < 9223372036854775808) ∧ (-9223372036854775808 ≤ ((wr (wr m 62 119 l4) 62 119 (((wr m 62 119 l4) 62 119) + l2)) 62 119) ∧ ((wr (wr m 62 119 l4) 62 119 (((wr m 62 119 l4) 62 119) + l2)) 62 119) < 9223372036854775808) ∧ ((((wr (wr m 62 119 l4) 62 119 (((wr m 62 119 l4) 62 119) + l2)) 62 119) ≤ l2) → (Q none (wr (wr (wr m 62 119 l4) 62 119 (((wr m 62 119 l4) 62 119) + l2)) 62 120 0))) ∧ (¬ (((wr (wr m 62 119 l4) 62 119 (((wr m 62 119 l4) 62 119) + l2)) 62 119) ≤ l2) → (Q none (wr (wr (wr (wr m 62 119 l4) 62 119 (((wr m 62 119 l4) 62 119) + l2)) 62 119 l2) 62 120 0))))) ∧ (¬ (l1 ≠ 4) → ((-9223372036854775808 ≤ l2 ∧ l2 < 9223372036854775808) ∧ (-9223372036854775808 ≤ ((wr (wr m 62 119 l4) 62 119 (((wr m 62 119 l4) 62 119) + l2)) 62 119) ∧ ((wr (wr m 62 119 l4) 62 119 (((wr m 62 119 l4) 62 119) + l2)) 62 119) < 9223372036854775808) ∧ ((l2 ≤ ((wr (wr m 62 119 l4) 62 119 (((wr m 62 119 l4) 62 119) + l2)) 62 119)) → (Q none (wr (wr (wr m 62 119 l4) 62 119 (((wr m 62 119 l4) 62 119) + l2)) 62 120 0))) ∧ (¬ (l2 ≤ ((wr (wr m 62 119 l4) 62 119 (((wr m 62 119 l4) 62 119) + l2)) 62 119)) → (Q none (wr (wr (wr (wr m 62 119 l4) 62 119 (((wr m 62 119 l4) 62 119) + l2)) 62 119 l2) 62 120 0))))))))))))) ∧ (¬ (l1 ≠ 2) → ((((if 3 ≤ l1 then 0 else (if l2 ≠ 1 then 0 else 1 : Int) : Int) = 0) → (((l1 ≠ 3) → (((l1 ≤ 3) → (Q none (wr (wr m 62 119 l4) 62 120 0))) ∧ (¬ (l1 ≤ 3) → ((-2147483648 ≤ ((wr m 62 119 l4) 62 120) ∧ ((wr m 62 119 l4) 62 120) < 2147483648) ∧ ((((wr m 62 119 l4) 62 120) ≠ 0) → (Q none (wr (wr (wr m 62 119 l4) 62 119 l2) 62 120 0))) ∧ (¬ (((wr m 62 119 l4) 62 120) ≠ 0) → (((l1 ≠ 4) → ((-9223372036854775808 ≤ l2 ∧ l2 < 9223372036854775808) ∧ (-9223372036854775808 ≤ ((wr m 62 119 l4) 62 119) ∧ ((wr m 62 119 l4) 62 119) < 9223372036854775808) ∧ ((((wr m 62 119 l4) 62 119) ≤ l2) → (Q none (wr (wr m 62 119 l4) 62 120 0))) ∧ (¬ (((wr m 62 119 l4) 62 119) ≤ l2) → (Q none (wr (wr (wr m 62 119 l4) 62 119 l2) 62 120 0))))) ∧ (¬ (l1 ≠ 4) → ((-9223372036854775808 ≤ l2 ∧ l2 < 9223372036854775808) ∧ (-9223372036854775808 ≤ ((wr m 62 119 l4) 62 119) ∧ ((wr m 62 119 l4) 62 119) < 9223372036854775808) ∧ ((l2 ≤ ((wr m 62 119 l4) 62 119)) → (Q none (wr (wr m 62 119 l4) 62 120 0))) ∧ (¬ (l2 ≤ ((wr m 62 119 l4) 62 119)) → (Q none (wr (wr (wr m 62 119 l4) 62 119 l2) 62 120 0))))))))))) ∧ (¬ (l1 ≠ 3) → (((l1 ≤ 3) → (Q none (wr (wr (wr m 62 119 l4) 62 119 (((wr m 62 119 l4) 62 119) + l2)) 62 120 0))) ∧ (¬ (l1 ≤ 3) → ((-2147483648 ≤ ((wr (wr m 62 119 l4) 62 119 (((wr m 62 119 l4) 62 119) + l2)) 62 120) ∧ ((wr (wr m 62 119 l4) 62 119 (((wr m 62 119 l4) 62 119) + l2)) 62 120) < 2147483648) ∧ ((((wr (wr m 62 119 l4) 62 119 (((wr m 62 119 l4) 62 119) + l2)) 62 120) ≠ 0) → (Q none (wr (wr (wr (wr m 62 119 l4) 62 119 (((wr m 62 119 l4) 62 119) + l2)) 62 119 l2) 62 120 0))) ∧ (¬ (((wr (wr m 62 119 l4) 62 119 (((wr m 62 119 l4) 62 119) + l2)) 62 120) ≠ 0) → (((l1 ≠ 4) → ((-9223372036854775808 ≤ l2 ∧ l2 < 9223372036854775808) ∧ (-9223372036854775808 ≤ ((wr (wr m 62 119 l4) 62 119 (((wr m 62 119 l4) 62 119) + l2)) 62 119) ∧ ((wr (wr m 62 119 l4) 62 119 (((wr m 62 119 l4) 62 119) + l2)) 62 119) < 9223372036854775808) ∧ ((((wr (wr m 62 119 l4) 62 119 (((wr m 62 119 l4) 62 119) + l2)) 62 119) ≤ l2) → (Q none (wr (wr (wr m 62 119 l4) 62 119 (((wr m 62 119 l4) 62 119) + l2)) 62 120 0))) ∧ (¬ (((wr (wr m 62 119 l4) 62 119 (((wr m 62 119 l4) 62 119) + l2)) 62 119) ≤ l2) → (Q none (wr (wr (wr (wr m 62 119 l4) 62 119 (((wr m 62 119 l4) 62 119) + l2)) 62 119 l2) 62 120 0))))) ∧ (¬ (l1 ≠ 4) → ((-9223372036854775808 ≤ l2 ∧ l2 < 9223372036854775808) ∧ (-9223372036854775808 ≤ ((wr (wr m 62 119 l4) 62 119 (((wr m 62 119 l4) 62 119) + l2)) 62 119) ∧ ((wr (wr m 62 119 l4) 62 119 (((wr m 62 119 l4) 62 119) + l2)) 62 119) < 9223372036854775808) ∧ ((l2 ≤ ((wr (wr m 62 119 l4) 62 119 (((wr m 62 119 l4) 62 119) + l2)) 62 119)) → (Q none (wr (wr (wr m 62 119 l4) 62 119 (((wr m 62 119 l4) 62 119) + l2)) 62 120 0))) ∧ (¬ (l2 ≤ ((wr (wr m 62 119 l4) 62 119 (((wr m 62 119 l4) 62 119) + l2)) 62 119)) → (Q none (wr (wr (wr (wr m 62 119 l4) 62 119 (((wr m 62 119 l4) 62 119) + l2)) 62 119 l2) 62 120 0))))))))))))) ∧ (¬ ((if 3 ≤ l1 then 0 else (if l2 ≠ 1 then 0 else 1 : Int) : Int) = 0) → (((l1 ≠ 3) → (((l1 ≤ 3) → (Q none (wr (wr (wr m 62 119 l4) 62 119 (((wr m 62 119 l4) 62 119) + 1)) 62 120 0))) ∧ (¬ (l1 ≤ 3) → ((-2147483648 ≤ ((wr (wr m 62 119 l4) 62 119 (((wr m 62 119 l4) 62 119) + 1)) 62 120) ∧ ((wr (wr m 62 119 l4) 62 119 (((wr m 62 119 l4) 62 119) + 1)) 62 120) < 2147483648) ∧ ((((wr (wr m 62 119 l4) 62 119 (((wr m 62 119 l4) 62 119) + 1)) 62 120) ≠ 0) → (Q none (wr (wr (wr (wr m 62 119 l4) 62 119 (((wr m 62 119 l4) 62 119) + 1)) 62 119 l2) 62 120 0))) ∧ (¬ (((wr (wr m 62 119 l4) 62 119 (((wr m 62 119 l4) 62 119) + 1)) 62 120) ≠ 0) → (((l1 ≠ 4) → ((-9223372036854775808 ≤ l2 ∧ l2 < 9223372036854775808) ∧ (-9223372036854775808 ≤ ((wr (wr m 62 119 l4) 62 119 (((wr m 62 119 l4) 62 119) + 1)) 62 119) ∧ ((wr (wr m 62 119 l4) 62 119 (((wr m 62 119 l4) 62 119) + 1)) 62 119) < 9223372036854775808) ∧ ((((wr (wr m 62 119 l4) 62 119 (((wr m 62 119 l4) 62 119) + 1)) 62 119) ≤ l2) → (Q none (wr (wr (wr m 62 119 l4) 62 119 (((wr m 62 119 l4) 62 119) + 1)) 62 120 0))) ∧ (¬ (((wr (wr m 62 119 l4) 62 119 (((wr m 62 119 l4) 62 119) + 1)) 62 119) ≤ l2) → (Q none (wr (wr (wr (wr m 62 119 l4) 62 119 (((wr m 62 119 l4) 62 119) + 1)) 62 119 l2) 62 120 0))))) ∧ (¬ (l1 ≠ 4) → ((-9223372036854775808 ≤ l2 ∧ l2 < 9223372036854775808) ∧ (-9223372036854775808 ≤ ((wr (wr m 62 119 l4) 62 119 (((wr m 62 119 l4) 62 119) + 1)) 62 119) ∧ ((wr (wr m 62 119 l4) 62 119 (((wr m 62 119 l4) 62 119) + 1)) 62 119) < 9223372036854775808) ∧ ((l2 ≤ ((wr (wr m 62 119 l4) 62 119 (((wr m 62 119 l4) 62 119) + 1)) 62 119)) → (Q none (wr (wr (wr m 62 119 l4) 62 119 (((wr m 62 119 l4) 62 119) + 1)) 62 120 0))) ∧ (¬ (l2 ≤ ((wr (wr m 62 119 l4) 62 119 (((wr m 62 119 l4) 62 119) + 1)) 62 119)) → (Q none (wr (wr (wr (wr m 62 119 l4) 62 119 (((wr m 62 119 l4) 62 119) + 1)) 62 119 l2) 62 120 0))))))))))) ∧ (¬ (l1 ≠ 3) → (((l1 ≤ 3) → (Q none (wr (wr (wr (wr m 62 119 l4) 62 119 (((wr m 62 119 l4) 62 119) + 1)) 62 119 (((wr (wr m 62 119 l4) 62 119 (((wr m 62 119 l4) 62 119) + 1)) 62 119) + l2)) 62 120 0))) ∧ (¬ (l1 ≤ 3) → ((-2147483648 ≤ ((wr (wr (wr m 62 119 l4) 62 119 (((wr m 62 119 l4) 62 119) + 1)) 62 119 (((wr (wr m 62 119 l4) 62 119 (((wr m 62 119 l4) 62 119) + 1)) 62 119) + l2)) 62 120) ∧ ((wr (wr (wr m 62 119 l4) 62 119 (((wr m 62 119 l4) 62 119) + 1)) 62 119 (((wr (wr m 62 119 l4) 62 119 (((wr m 62 119 l4) 62 119) + 1)) 62 119) + l2)) 62 120) < 2147483648) ∧ ((((wr (wr (wr m 62 119 l4) 62 119 (((wr m 62 119 l4) 62 119) + 1)) 62 119 (((wr (wr m 62 119 l4) 62 119 (((wr m 62 119 l4) 62 119) + 1)) 62 119) + l2)) 62 120) ≠ 0) → (Q none (wr (wr (wr (wr (wr m 62 119 l4) 62 119 (((wr m 62 119 l4) 62 119) + 1)) 62 119 (((wr (wr m 62 119 l4) 62 119 (((wr m 62 119 l4) 62 119) + 1)) 62 119) + l2)) 62 119 l2) 62 120 0))) ∧ (¬ (((wr (wr (wr m 62 119 l4) 62 119 (((wr m 62 119 l4) 62 119) + 1)) 62 119 (((wr (wr m 62 119 l4) 62 119 (((wr m 62 119 l4) 62 119) + 1)) 62 119) + l2)) 62 120) ≠ 0) → (((l1 ≠ 4) → ((-9223372036854775808 ≤ l2 ∧ l2 < 9223372036854775808) ∧ (-9223372036854775808 ≤ ((wr (wr (wr m 62 119 l4) 62 119 (((wr m 62 119 l4) 62 119) + 1)) 62 119 (((wr (wr m 62 119 l4) 62 119 (((wr m 62 119 l4) 62 119) + 1)) 62 119) + l2)) 62 119) ∧ ((wr (wr (wr m 62 119 l4) 62 119 (((wr m 62 119 l4) 62 119) + 1)) 62 119 (((wr (wr m 62 119 l4) 62 119 (((wr m 62 119 l4) 62 119) + 1)) 62 119) + l2)) 62 119) < 9223372036854775808) ∧ ((((wr (wr (wr m 62 119 l4) 62 119 (((wr m 62 119 l4) 62 119) + 1)) 62 119 (((wr (wr m 62 119 l4) 62 119 (((wr m 62 119 l4) 62 119) + 1)) 62 119) + l2)) 62 119) ≤ l2) → (Q none (wr (wr (wr (wr m 62 119 l4) 62 119 (((wr m 62 119 l4) 62 119) + 1)) 62 119 (((wr (wr m 62 119 l4) 62 119 (((wr m 62 119 l4) 62 119) + 1)) 62 119) + l2)) 62 120 0))) ∧ (¬ (((wr (wr (wr m 62 119 l4) 62 119 (((wr m 62 119 l4) 62 119) + 1)) 62 119 (((wr (wr m 62 119 l4) 62 119 (((wr m 62 119 l4) 62 119) + 1)) 62 119) + l2)) 62 119) ≤ l2) → (Q none (wr (wr (wr (wr (wr m 62 119 l4) 62 119 (((wr m 62 119 l4) 62 119) + 1)) 62 119 (((wr (wr m 62 119 l4) 62 119 (((wr m 62 119 l4) 62 119) + 1)) 62 119) + l2)) 62 119 l2) 62 120 0))))) ∧ (¬ (l1 ≠ 4) → ((-9223372036854775808 ≤ l2 ∧ l2 < 9223372036854775808) ∧ (-9223372036854775808 ≤ ((wr (wr (wr m 62 119 l4) 62 119 (((wr m 62 119 l4) 62 119) + 1)) 62 119 (((wr (wr m 62 119 l4) 62 119 (((wr m 62 119 l4) 62 119) + 1)) 62 119) + l2)) 62 119) ∧ ((wr (wr (wr m 62 119 l4) 62 119 (((wr m 62 119 l4) 62 119) + 1)) 62 119 (((wr (wr m 62 119 l4) 62 119 (((wr m 62 119 l4) 62 119) + 1)) 62 119) + l2)) 62 119) < 9223372036854775808) ∧ ((l2 ≤ ((wr (wr (wr m 62 119 l4) 62 119 (((wr m 62 119 l4) 62 119) + 1)) 62 119 (((wr (wr m 62 119 l4) 62 119 (((wr m 62 119 l4) 62 119) + 1)) 62 119) + l2)) 62 119)) → (Q none (wr (wr (wr (wr m 62 119 l4) 62 119 (((wr m 62 119 l4) 62 119) + 1)) 62 119 (((wr (wr m 62 119 l4) 62 119 (((wr m 62 119 l4) 62 119) + 1)) 62 119) + l2)) 62 120 0))) ∧ (¬ (l2 ≤ ((wr (wr (wr m 62 119 l4) 62 119 (((wr m 62 119 l4) 62 119) + 1)) 62 119 (((wr (wr m 62 119 l4) 62 119 (((wr m 62 119 l4) 62 119) + 1)) 62 119) + l2)) 62 119)) → (Q none (wr (wr (wr (wr (wr m 62 119 l4) 62 119 (((wr m 62 119 l4) 62 119) + 1)) 62 119 (((wr (wr m 62 119 l4) 62 119 (((wr m 62 119 l4) 62 119) + 1)) 62 119) + l2)) 62 119 l2) 62 120 0))))))))))))))))))))) ∧ (¬ (l1 ≠ 0) → ((-2147483648 ≤ (if 3 ≤ l1 then 0 else (if l2 ≠ 1 then 0 else 1 : Int) : Int) ∧ (if 3 ≤ l1 then 0 else (if l2 ≠ 1 then 0 else 1 : Int) : Int) < 2147483648) ∧ (((if 3 ≤ l1 then 0 else (if l2 ≠ 1 then 0 else 1 : Int) : Int) = 0) → (((l1 ≠ 1) → (((l1 ≠ 2) → (((l1 ≠ 3) → (((l1 ≤ 3) → (Q none (wr m 62 120 0))) ∧ (¬ (l1 ≤ 3) → ((-2147483648 ≤ (m 62 120) ∧ (m 62 120) < 2147483648) ∧ (((m 62 120) ≠ 0) → (Q none (wr (wr m 62 119 l2) 62 120 0))) ∧ (¬ ((m 62 120) ≠ 0) → (((l1 ≠ 4) → ((-9223372036854775808 ≤ l2 ∧ l2 < 9223372036854775808) ∧ (-9223372036854775808 ≤ (m 62 119) ∧ (m 62 119) < 9223372036854775808) ∧ (((m 62 119) ≤ l2) → (Q none (wr m 62 120 0))) ∧ (¬ ((m 62 119) ≤ l2) → (Q none (wr (wr m 62 119 l2) 62 120 0))))) ∧ (¬ (l1 ≠ 4) → ((-9223372036854775808 ≤ l2 ∧ l2 < 9223372036854775808) ∧ (-9223372036854775808 ≤ (m 62 119) ∧ (m 62 119) < 9223372036854775808) ∧ ((l2 ≤ (m 62 119)) → (Q none (wr m 62 120 0))) ∧ (¬ (l2 ≤ (m 62 119)) → (Q none (wr (wr m 62 119 l2) 62 120 0))))))))))) ∧ (¬ (l1 ≠ 3) → (((l1 ≤ 3) → (Q none (wr (wr m 62 119 ((m 62 119) + l2)) 62 120 0))) ∧ (¬ (l1 ≤ 3) → ((-2147483648 ≤ ((wr m 62 119 ((m 62 119) + l2)) 62 120) ∧ ((wr m 62 119 ((m 62 119) + l2)) 62 120) < 2147483648) ∧ ((((wr m 62 119 ((m 62 119) + l2)) 62 120) ≠ 0) → (Q none (wr (wr (wr m 62 119 ((m 62 119) + l2)) 62 119 l2) 62 120 0))) ∧ (¬ (((wr m 62 119 ((m 62 119) + l2)) 62 120) ≠ 0) → (((l1 ≠ 4) → ((-9223372036854775808 ≤ l2 ∧ l2 < 9223372036854775808) ∧ (-9223372036854775808 ≤ ((wr m 62 119 ((m 62 119) + l2)) 62 119) ∧ ((wr m 62 119 ((m 62 119) + l2)) 62 119) < 9223372036854775808) ∧ ((((wr m 62 119 ((m 62 119) + l2)) 62 119) ≤ l2) → (Q none (wr (wr m 62 119 ((m 62 119) + l2)) 62 120 0))) ∧ (¬ (((wr m 62 119 ((m 62 119) + l2)) 62 119) ≤ l2) → (Q none (wr (wr (wr m 62 119 ((m 62 119) + l2)) 62 119 l2) 62 120 0))))) ∧ (¬ (l1 ≠ 4) → ((-9223372036854775808 ≤ l2 ∧ l2 < 9223372036854775808) ∧ (-9223372036854775808 ≤ ((wr m 62 119 ((m 62 119) + l2)) 62 119) ∧ ((wr m 62 119 ((m 62 119) + l2)) 62 119) < 9223372036854775808) ∧ ((l2 ≤ ((wr m 62 119 ((m 62 119) + l2)) 62 119)) → (Q none (wr (wr m 62 119 ((m 62 119) + l2)) 62 120 0))) ∧ (¬ (l2 ≤ ((wr m 62 119 ((m 62 119) + l2)) 62 119)) → (Q none (wr (wr (wr m 62 119 ((m 62 119) + l2)) 62 119 l2) 62 120 0))))))))))))) ∧ (¬ (l1 ≠ 2) → ((((if 3 ≤ l1 then 0 else (if l2 ≠ 1 then 0 else 1 : Int) : Int) = 0) → (((l1 ≠ 3) → (((l1 ≤ 3) → (Q none (wr m 62 120 0))) ∧ (¬ (l1 ≤ 3) → ((-2147483648 ≤ (m 62 120) ∧ (m 62 120) < 2147483648) ∧ (((m 62 120) ≠ 0) → (Q none (wr (wr m 62 119 l2) 62 120 0))) ∧ (¬ ((m 62 120) ≠ 0) → (((l1 ≠ 4) → ((-9223372036854775808 ≤ l2 ∧ l2 < 9223372036854775808) ∧ (-9223372036854775808 ≤ (m 62 119) ∧ (m 62 119) < 9223372036854775808) ∧ (((m 62 119) ≤ l2) → (Q none (wr m 62 120 0))) ∧ (¬ ((m 62 119) ≤ l2) → (Q none (wr (wr m 62 119 l2) 62 120 0))))) ∧ (¬ (l1 ≠ 4) → ((-9223372036854775808 ≤ l2 ∧ l2 < 9223372036854775808) ∧ (-9223372036854775808 ≤ (m 62 119) ∧ (m 62 119) < 9223372036854775808) ∧ ((l2 ≤ (m 62 119)) → (Q none (wr m 62 120 0))) ∧ (¬ (l2 ≤ (m 62 119)) → (Q none (wr (wr m 62 119 l2) 62 120 0))))))))))) ∧ (¬ (l1 ≠ 3) → (((l1 ≤ 3) → (Q none (wr (wr m 62 119 ((m 62 119) + l2)) 62 120 0))) ∧ (¬ (l1 ≤ 3) → ((-2147483648 ≤ ((wr m 62 119 ((m 62 119) + l2)) 62 120) ∧ ((wr m 62 119 ((m 62 119) + l2)) 62 120) < 2147483648) ∧ ((((wr m 62 119 ((m 62 119) + l2)) 62 120) ≠ 0) → (Q none (wr (wr (wr m 62 119 ((m 62 119) + l2)) 62 119 l2) 62 120 0))) ∧ (¬ (((wr m 62 119 ((m 62 119) + l2)) 62 120) ≠ 0) → (((l1 ≠ 4) → ((-9223372036854775808 ≤ l2 ∧ l2 < 9223372036854775808) ∧ (-9223372036854775808 ≤ ((wr m 62 119 ((m 62 119) + l2)) 62 119) ∧ ((wr m 62 119 ((m 62 119) + l2)) 62 119) < 9223372036854775808) ∧ ((((wr m 62 119 ((m 62 119) + l2)) 62 119) ≤ l2) → (Q none (wr (wr m 62 119 ((m 62 119) + l2)) 62 120 0))) ∧ (¬ (((wr m 62 119 ((m 62 119) + l2)) 62 119) ≤ l2) → (Q none (wr (wr (wr m 62 119 ((m 62 119) + l2)) 62 119 l2) 62 120 0))))) ∧ (¬ (l1 ≠ 4) → ((-9223372036854775808 ≤ l2 ∧ l2 < 9223372036854775808) ∧ (-9223372036854775808 ≤ ((wr m 62 119 ((m 62 119) + l2)) 62 119) ∧ ((wr m 62 119 ((m 62 119) + l2)) 62 119) < 9223372036854775808) ∧ ((l2 ≤ ((wr m 62 119 ((m 62 119) + l2)) 62 119)) → (Q none (wr (wr m 62 119 ((m 62 119) + l2)) 62 120 0))) ∧ (¬ (l2 ≤ ((wr m 62 119 ((m 62 119) + l2)) 62 119)) → (Q none (wr (wr (wr m 62 119 ((m 62 119) + l2)) 62 119 l2) 62 120 0))))))))))))) ∧ (¬ ((if 3 ≤ l1 then 0 else (if l2 ≠ 1 then 0 else 1 : Int) : Int) = 0) → (((l1 ≠ 3) → (((l1 ≤ 3) → (Q none (wr (wr m 62 119 ((m 62 119) + 1)) 62 120 0))) ∧ (¬ (l1 ≤ 3) → ((-2147483648 ≤ ((wr m 62 119 ((m 62 119) + 1)) 62 120) ∧ ((wr m 62 119 ((m 62 119) + 1)) 62 120) < 2147483648) ∧ ((((wr m 62 119 ((m 62 119) + 1)) 62 120) ≠ 0) → (Q none (wr (wr (wr m 62 119 ((m 62 119) + 1)) 62 119 l2) 62 120 0))) ∧ (¬ (((wr m 62 119 ((m 62 119) + 1)) 62 120) ≠ 0) → (((l1 ≠ 4) → ((-9223372036854775808 ≤ l2 ∧ l2 < 9223372036854775808) ∧ (-9223372036854775808 ≤ ((wr m 62 119 ((m 62 119) + 1)) 62 119) ∧ ((wr m 62 119 ((m 62 119) + 1)) 62 119) < 9223372036854775808) ∧ ((((wr m 62 119 ((m 62 119) + 1)) 62 119) ≤ l2) → (Q none (wr (wr m 62 119 ((m 62 119) + 1)) 62 120 0))) ∧ (¬ (((wr m 62 119 ((m 62 119) + 1)) 62 119) ≤ l2) → (Q none (wr (wr (wr m 62 119 ((m 62 119) + 1)) 62 119 l2) 62 120 0))))) ∧ (¬ (l1 ≠ 4) → ((-9223372036854775808 ≤ l2 ∧ l2 < 9223372036854775808) ∧ (-9223372036854775808 ≤ ((wr m 62 119 ((m 62 119) + 1)) 62 119) ∧ ((wr m 62 119 ((m 62 119) + 1)) 62 119) < 9223372036854775808) ∧ ((l2 ≤ ((wr m 62 119 ((m 62 119) + 1)) 62 119)) → (Q none (wr (wr m 62 119 ((m 62 119) + 1)) 62 120 0))) ∧ (¬ (l2 ≤ ((wr m 62 119 ((m 62 119) + 1)) 62 119)) → (Q none (wr (wr (wr m 62 119 ((m 62 119) + 1)) 62 119 l2) 62 120 0))))))))))) ∧ (¬ (l1 ≠ 3) → (((l1 ≤ 3) → (Q none (wr (wr (wr m 62 119 ((m 62 119) + 1)) 62 119 (((wr m 62 119 ((m 62 119) + 1)) 62 119) + l2)) 62 120 0))) ∧ (¬ (l1 ≤ 3) → ((-2147483648 ≤ ((wr (wr m 62 119 ((m 62 119) + 1)) 62 119 (((wr m 62 119 ((m 62 119) + 1)) 62 119) + l2)) 62 120) ∧ ((wr (wr m 62 119 ((m 62 119) + 1)) 62 119 (((wr m 62 119 ((m 62 119) + 1)) 62 119) + l2)) 62 120) < 2147483648) ∧ ((((wr (wr m 62 119 ((m 62 119) + 1)) 62 119 (((wr m 62 119 ((m 62 119) + 1)) 62 119) + l2)) 62 120) ≠ 0) → (Q none (wr (wr (wr (wr m 62 119 ((m 62 119) + 1)) 62 119 (((wr m 62 119 ((m 62 119) + 1)) 62 119) + l2)) 62 119 l2) 62 120 0))) ∧ (¬ (((wr (wr m 62 119 ((m 62 119) + 1)) 62 119 (((wr m 62 119 ((m 62 119) + 1)) 62 119) + l2)) 62 120) ≠ 0) → (((l1 ≠ 4) → ((-9223372036854775808 ≤ l2 ∧ l2 < 9223372036854775808) ∧ (-9223372036854775808 ≤ ((wr (wr m 62 119 ((m 62 119) + 1)) 62 119 (((wr m 62 119 ((m 62 119) + 1)) 62 119) + l2)) 62 119) ∧ ((wr (wr m 62 119 ((m 62 119) + 1)) 62 119 (((wr m 62 119 ((m 62 119) + 1)) 62 119) + l2)) 62 119) < 9223372036854775808) ∧ ((((wr (wr m 62 119 ((m 62 119) + 1)) 62 119 (((wr m 62 119 ((m 62 119) + 1)) 62 119) + l2)) 62 119) ≤ l2) → (Q none (wr (wr (wr m 62 119 ((m 62 119) + 1)) 62 119 (((wr m 62 119 ((m 62 119) + 1)) 62 119) + l2)) 62 120 0))) ∧ (¬ (((wr (wr m 62 119 ((m 62 119) + 1)) 62 119 (((wr m 62 119 ((m 62 119) + 1)) 62 119) + l2)) 62 119) ≤ l2) → (Q none (wr (wr (wr (wr m 62 119 ((m 62 119) + 1)) 62 119 (((wr m 62 119 ((m 62 119) + 1)) 62 119) + l2)) 62 119 l2) 62 120 0))))) ∧ (¬ (l1 ≠ 4) → ((-9223372036854775808 ≤ l2 ∧ l2 < 9223372036854775808) ∧ (-9223372036854775808 ≤ ((wr (wr m 62 119 ((m 62 119) + 1)) 62 119 (((wr m 62 119 ((m 62 119) + 1)) 62 119) + l2)) 62 119) ∧ ((wr (wr m 62 119 ((m 62 119) + 1)) 62 119 (((wr m 62 119 ((m 62 119) + 1)) 62 119) + l2)) 62 119) < 9223372036854775808) ∧ ((l2 ≤ ((wr (wr m 62 119 ((m 62 119) + 1)) 62 119 (((wr m 62 119 ((m 62 119) + 1)) 62 119) + l2)) 62 119)) → (Q none (wr (wr (wr m 62 119 ((m 62 119) + 1)) 62 119 (((wr m 62 119 ((m 62 119) + 1)) 62 119) + l2)) 62 120 0))) ∧ (¬ (l2 ≤ ((wr (wr m 62 119 ((m 62 119) + 1)) 62 119 (((wr m 62 119 ((m 62 119) + 1)) 62 119) + l2)) 62 119)) → (Q none (wr (wr (wr (wr m 62 119 ((m 62 119) + 1)) 62 119 (((wr m 62 119 ((m 62 119) + 1)) 62 119) + l2)) 62 119 l2) 62 120 0))))))))))))))))) ∧ (¬ (l1 ≠ 1) → ((((if 3 ≤ l1 then 0 else (if l2 ≠ 1 then 0 else 1 : Int) : Int) = 0) → (((l1 ≠ 2) → (((l1 ≠ 3) → (((l1 ≤ 3) → (Q none (wr m 62 120 0))) ∧ (¬ (l1 ≤ 3) → ((-2147483648 ≤ (m 62 120) ∧ (m 62 120) < 2147483648) ∧ (((m 62 120) ≠ 0) → (Q none (wr (wr m 62 119 l2) 62 120 0))) ∧ (¬ ((m 62 120) ≠ 0) → (((l1 ≠ 4) → ((-9223372036854775808 ≤ l2 ∧ l2 < 9223372036854775808) ∧ (-9223372036854775808 ≤ (m 62 119) ∧ (m 62 119) < 9223372036854775808) ∧ (((m 62 119) ≤ l2) → (Q none (wr m 62 120 0))) ∧ (¬ ((m 62 119) ≤ l2) → (Q none (wr (wr m 62 119 l2) 62 120 0))))) ∧ (¬ (l1 ≠ 4) → ((-9223372036854775808 ≤ l2 ∧ l2 < 9223372036854775808) ∧ (-9223372036854775808 ≤ (m 62 119) ∧ (m 62 119) < 9223372036854775808) ∧ ((l2 ≤ (m 62 119)) → (Q none (wr m 62 120 0))) ∧ (¬ (l2 ≤ (m 62 119)) → (Q none (wr (wr m 62 119 l2) 62 120 0))))))))))) ∧ (¬ (l1 ≠ 3) → (((l1 ≤ 3) → (Q none (wr (wr m 62 119 ((m 62 119) + l2)) 62 120 0))) ∧ (¬ (l1 ≤ 3) → ((-2147483648 ≤ ((wr m 62 119 ((m 62 119) + l2)) 62 120) ∧ ((wr m 62 119 ((m 62 119) + l2)) 62 120) < 2147483648) ∧ ((((wr m 62 119 ((m 62 119) + l2)) 62 120) ≠ 0) → (Q none (wr (wr (wr m 62 119 ((m 62 119) + l2)) 62 119 l2) 62 120 0))) ∧ (¬ (((wr m 62 119 ((m 62 119) + l2)) 62 120) ≠ 0) → (((l1 ≠ 4) → ((-9223372036854775808 ≤ l2 ∧ l2 < 9223372036854775808) ∧ (-9223372036854775808 ≤ ((wr m 62 119 ((m 62 119) + l2)) 62 119) ∧ ((wr m 62 119 ((m 62 119) + l2)) 62 119) < 9223372036854775808) ∧ ((((wr m 62 119 ((m 62 119) + l2)) 62 119) ≤ l2) → (Q none (wr (wr m 62 119 ((m 62 119) + l2)) 62 120 0))) ∧ (¬ (((wr m 62 119 ((m 62 119) + l2)) 62 119) ≤ l2) → (Q none (wr (wr (wr m 62 119 ((m 62 119) + l2)) 62 119 l2) 62 120 0))))) ∧ (¬ (l1 ≠ 4) → ((-9223372036854775808 ≤ l2 ∧ l2 < 9223372036854775808) ∧ (-9223372036854775808 ≤ ((wr m 62 119 ((m 62 119) + l2)) 62 119) ∧ ((wr m 62 119 ((m 62 119) + l2)) 62 119) < 9223372036854775808) ∧ ((l2 ≤ ((wr m 62 119 ((m 62 119) + l2)) 62 119)) → (Q none (wr (wr m 62 119 ((m 62 119) + l2)) 62 120 0))) ∧ (¬ (l2 ≤ ((wr m 62 119 ((m 62 119) + l2)) 62 119)) → (Q none (wr (wr (wr m 62 119 ((m 62 119) + l2)) 62 119 l2) 62 120 0))))))))))))) ∧ (¬ (l1 ≠ 2) → ((((if 3 ≤ l1 then 0 else (if l2 ≠ 1 then 0 else 1 : Int) : Int) = 0) → (((l1 ≠ 3) → (((l1 ≤ 3) → (Q none (wr m 62 120 0))) ∧ (¬ (l1 ≤ 3) → ((-2147483648 ≤ (m 62 120) ∧ (m 62 120) < 2147483648) ∧ (((m 62 120) ≠ 0) → (Q none (wr (wr m 62 119 l2) 62 120 0))) ∧ (¬ ((m 62 120) ≠ 0) → (((l1 ≠ 4) → ((-9223372036854775808 ≤ l2 ∧ l2 < 9223372036854775808) ∧ (-9223372036854775808 ≤ (m 62 119) ∧ (m 62 119) < 9223372036854775808) ∧ (((m 62 119) ≤ l2) → (Q none (wr m 62 120 0))) ∧ (¬ ((m 62 119) ≤ l2) → (Q none (wr (wr m 62 119 l2) 62 120 0))))) ∧ (¬ (l1 ≠ 4) → ((-9223372036854775808 ≤ l2 ∧ l2 < 9223372036854775808) ∧ (-9223372036854775808 ≤ (m 62 119) ∧ (m 62 119) < 9223372036854775808) ∧ ((l2 ≤ (m 62 119)) → (Q none (wr m 62 120 0))) ∧ (¬ (l2 ≤ (m 62 119)) → (Q none (wr (wr m 62 119 l2) 62 120 0))))))))))) ∧ (¬ (l1 ≠ 3) → (((l1 ≤ 3) → (Q none (wr (wr m 62 119 ((m 62 119) + l2)) 62 120 0))) ∧ (¬ (l1 ≤ 3) → ((-2147483648 ≤ ((wr m 62 119 ((m 62 119) + l2)) 62 120) ∧ ((wr m 62 119 ((m 62 119) + l2)) 62 120) < 2147483648) ∧ ((((wr m 62 119 ((m 62 119) + l2)) 62 120) ≠ 0) → (Q none (wr (wr (wr m 62 119 ((m 62 119) + l2)) 62 119 l2) 62 120 0))) ∧ (¬ (((wr m 62 119 ((m 62 119) + l2)) 62 120) ≠ 0) → (((l1 ≠ 4) → ((-9223372036854775808 ≤ l2 ∧ l2 < 9223372036854775808) ∧ (-9223372036854775808 ≤ ((wr m 62 119 ((m 62 119) + l2)) 62 119) ∧ ((wr m 62 119 ((m 62 119) + l2)) 62 119) < 9223372036854775808) ∧ ((((wr m 62 119 ((m 62 119) + l2)) 62 119) ≤ l2) → (Q none (wr (wr m 62 119 ((m 62 119) + l2)) 62 120 0))) ∧ (¬ (((wr m 62 119 ((m 62 119) + l2)) 62 119) ≤ l2) → (Q none (wr (wr (wr m 62 119 ((m 62 119) + l2)) 62 119 l2) 62 120 0))))) ∧ (¬ (l1 ≠ 4) → ((-9223372036854775808 ≤ l2 ∧ l2 < 9223372036854775808) ∧ (-9223372036854775808 ≤ ((wr m 62 119 ((m 62 119) + l2)) 62 119) ∧ ((wr m 62 119 ((m 62 119) + l2)) 62 119) < 9223372036854775808) ∧ ((l2 ≤ ((wr m 62 119 ((m 62 119) + l2)) 62 119)) → (Q none (wr (wr m 62 119 ((m 62 119) + l2)) 62 120 0))) ∧ (¬ (l2 ≤ ((wr m 62 119 ((m 62 119) + l2)) 62 119)) → (Q none (wr (wr (wr m 62 119 ((m 62 119) + l2)) 62 119 l2) 62 120 0))))))))))))) ∧ (¬ ((if 3 ≤ l1 then 0 else (if l2 ≠ 1 then 0 else 1 : Int) : Int) = 0) → (((l1 ≠ 3) → (((l1 ≤ 3) → (Q none (wr (wr m 62 119 ((m 62 119) + 1)) 62 120 0))) ∧ (¬ (l1 ≤ 3) → ((-2147483648 ≤ ((wr m 62 119 ((m 62 119) + 1)) 62 120) ∧ ((wr m 62 119 ((m 62 119) + 1)) 62 120) < 2147483648) ∧ ((((wr m 62 119 ((m 62 119) + 1)) 62 120) ≠ 0) → (Q none (wr (wr (wr m 62 119 ((m 62 119) + 1)) 62 119 l2) 62 120 0))) ∧ (¬ (((wr m 62 119 ((m 62 119) + 1)) 62 120) ≠ 0) → (((l1 ≠ 4) → ((-9223372036854775808 ≤ l2 ∧ l2 < 9223372036854775808) ∧ (-9223372036854775808 ≤ ((wr m 62 119 ((m 62 119) + 1)) 62 119) ∧ ((wr m 62 119 ((m 62 119) + 1)) 62 119) < 9223372036854775808) ∧ ((((wr m 62 119 ((m 62 119) + 1)) 62 119) ≤ l2) → (Q none (wr (wr m 62 119 ((m 62 119) + 1)) 62 120 0))) ∧ (¬ (((wr m 62 119 ((m 62 119) + 1)) 62 119) ≤ l2) → (Q none (wr (wr (wr m 62 119 ((m 62 119) + 1)) 62 119 l2) 62 120 0))))) ∧ (¬ (l1 ≠ 4) → ((-9223372036854775808 ≤ l2 ∧ l2 < 9223372036854775808) ∧ (-9223372036854775808 ≤ ((wr m 62 119 ((m 62 119) + 1)) 62 119) ∧ ((wr m 62 119 ((m 62 119) + 1)) 62 119) < 9223372036854775808) ∧ ((l2 ≤ ((wr m 62 119 ((m 62 119) + 1)) 62 119)) → (Q none (wr (wr m 62 119 ((m 62 119) + 1)) 62 120 0))) ∧ (¬ (l2 ≤ ((wr m 62 119 ((m 62 119) + 1)) 62 119)) → (Q none (wr (wr (wr m 62 119 ((m 62 119) + 1)) 62 119 l2) 62 120 0))))))))))) ∧ (¬ (l1 ≠ 3) → (((l1 ≤ 3) → (Q none (wr (wr (wr m 62 119 ((m 62 119) + 1)) 62 119 (((wr m 62 119 ((m 62 119) + 1)) 62 119) + l2)) 62 120 0))) ∧ (¬ (l1 ≤ 3) → ((-2147483648 ≤ ((wr (wr m 62 119 ((m 62 119) + 1)) 62 119 (((wr m 62 119 ((m 62 119) + 1)) 62 119) + l2)) 62 120) ∧ ((wr (wr m 62 119 ((m 62 119) + 1)) 62 119 (((wr m 62 119 ((m 62 119) + 1)) 62 119) + l2)) 62 120) < 2147483648) ∧ ((((wr (wr m 62 119 ((m 62 119) + 1)) 62 119 (((wr m 62 119 ((m 62 119) + 1)) 62 119) + l2)) 62 120) ≠ 0) → (Q none (wr (wr (wr (wr m 62 119 ((m 62 119) + 1)) 62 119 (((wr m 62 119 ((m 62 119) + 1)) 62 119) + l2)) 62 119 l2) 62 120 0))) ∧ (¬ (((wr (wr m 62 119 ((m 62 119) + 1)) 62 119 (((wr m 62 119 ((m 62 119) + 1)) 62 119) + l2)) 62 120) ≠ 0) → (((l1 ≠ 4) → ((-9223372036854775808 ≤ l2 ∧ l2 < 9223372036854775808) ∧ (-9223372036854775808 ≤ ((wr (wr m 62 119 ((m 62 119) + 1)) 62 119 (((wr m 62 119 ((m 62 119) + 1)) 62 119) + l2)) 62 119) ∧ ((wr (wr m 62 119 ((m 62 119) + 1)) 62 119 (((wr m 62 119 ((m 62 119) + 1)) 62 119) + l2)) 62 119) < 9223372036854775808) ∧ ((((wr (wr m 62 119 ((m 62 119) + 1)) 62 119 (((wr m 62 119 ((m 62 119) + 1)) 62 119) + l2)) 62 119) ≤ l2) → (Q none (wr (wr (wr m 62 119 ((m 62 119) + 1)) 62 119 (((wr m 62 119 ((m 62 119) + 1)) 62 119) + l2)) 62 120 0))) ∧ (¬ (((wr (wr m 62 119 ((m 62 119) + 1)) 62 119 (((wr m 62 119 ((m 62 119) + 1)) 62 119) + l2)) 62 119) ≤ l2) → (Q none (wr (wr (wr (wr m 62 119 ((m 62 119) + 1)) 62 119 (((wr m 62 119 ((m 62 119) + 1)) 62 119) + l2)) 62 119 l2) 62 120 0))))) ∧ (¬ (l1 ≠ 4) → ((-9223372036854775808 ≤ l2 ∧ l2 < 9223372036854775808) ∧ (-9223372036854775808 ≤ ((wr (wr m 62 119 ((m 62 119) + 1)) 62 119 (((wr m 62 119 ((m 62 119) + 1)) 62 119) + l2)) 62 119) ∧ ((wr (wr m 62 119 ((m 62 119) + 1)) 62 119 (((wr m 62 119 ((m 62 119) + 1)) 62 119) + l2)) 62 119) < 9223372036854775808) ∧ ((l2 ≤ ((wr (wr m 62 119 ((m 62 119) + 1)) 62 119 (((wr m 62 119 ((m 62 119) + 1)) 62 119) + l2)) 62 119)) → (Q none (wr (wr (wr m 62 119 ((m 62 119) + 1)) 62 119 (((wr m 62 119 ((m 62 119) + 1)) 62 119) + l2)) 62 120 0))) ∧ (¬ (l2 ≤ ((wr (wr m 62 119 ((m 62 119) + 1)) 62 119 (((wr m 62 119 ((m 62 119) + 1)) 62 119) + l2)) 62 119)) → (Q none (wr (wr (wr (wr m 62 119 ((m 62 119) + 1)) 62 119 (((wr m 62 119 ((m 62 119) + 1)) 62 119) + l2)) 62 119 l2) 62 120 0))))))))))))))))) ∧ (¬ ((if 3 ≤ l1 then 0 else (if l2 ≠ 1 then 0 else 1 : Int) : Int) = 0) → ((-2147483648 ≤ l4 ∧ l4 < 2147483648) ∧ ((l1 ≠ 2) → (((l1 ≠ 3) → (((l1 ≤ 3) → (Q none (wr (wr m 62 119 l4) 62 120 0))) ∧ (¬ (l1 ≤ 3) → ((-2147483648 ≤ ((wr m 62 119 l4) 62 120) ∧ ((wr m 62 119 l4) 62 120) < 2147483648) ∧ ((((wr m 62 119 l4) 62 120) ≠ 0) → (Q none (wr (wr (wr m 62 119 l4) 62 119 l2) 62 120 0))) ∧ (¬ (((wr m 62 119 l4) 62 120) ≠ 0) → (((l1 ≠ 4) → ((-9223372036854775808 ≤ l2 ∧ l2 < 9223372036854775808) ∧ (-9223372036854775808 ≤ ((wr m 62 119 l4) 62 119) ∧ ((wr m 62 119 l4) 62 119) < 9223372036854775808) ∧ ((((wr m 62 119 l4) 62 119) ≤ l2) → (Q none (wr (wr m 62 119 l4) 62 120 0))) ∧ (¬ (((wr m 62 119 l4) 62 119) ≤ l2) → (Q none (wr (wr (wr m 62 119 l4) 62 119 l2) 62 120 0))))) ∧ (¬ (l1 ≠ 4) → ((-9223372036854775808 ≤ l2 ∧ l2 < 9223372036854775808) ∧ (-9223372036854775808 ≤ ((wr m 62 119 l4) 62 119) ∧ ((wr m 62 119 l4) 62 119) < 9223372036854775808) ∧ ((l2 ≤ ((wr m 62 119 l4) 62 119)) → (Q none (wr (wr m 62 119 l4) 62 120 0))) ∧ (¬ (l2 ≤ ((wr m 62 119 l4) 62 119)) → (Q none (wr (wr (wr m 62 119 l4) 62 119 l2) 62 120 0))))))))))) ∧ (¬ (l1 ≠ 3) → (((l1 ≤ 3) → (Q none (wr (wr (wr m 62 119 l4) 62 119 (((wr m 62 119 l4) 62 119) + l2)) 62 120 0))) ∧ (¬ (l1 ≤ 3) → ((-2147483648 ≤ ((wr (wr m 62 119 l4) 62 119 (((wr m 62 119 l4) 62 119) + l2)) 62 120) ∧ ((wr (wr m 62 119 l4) 62 119 (((wr m 62 119 l4) 62 119) + l2)) 62 120) < 2147483648) ∧ ((((wr (wr m 62 119 l4) 62 119 (((wr m 62 119 l4) 62 119) + l2)) 62 120) ≠ 0) → (Q none (wr (wr (wr (wr m 62 119 l4) 62 119 (((wr m 62 119 l4) 62 119) + l2)) 62 119 l2) 62 120 0))) ∧ (¬ (((wr (wr m 62 119 l4) 62 119 (((wr m 62 119 l4) 62 119) + l2)) 62 120) ≠ 0) → (((l1 ≠ 4) → ((-9223372036854775808 ≤ l2 ∧ l2 < 9223372036854775808) ∧ (-9223372036854775808 ≤ ((wr (wr m 62 119 l4) 62 119 (((wr m 62 119 l4) 62 119) + l2)) 62 119) ∧ ((wr (wr m 62 119 l4) 62 119 (((wr m 62 119 l4) 62 119) + l2)) 62 119) < 9223372036854775808) ∧ ((((wr (wr m 62 119 l4) 62 119 (((wr m 62 119 l4) 62 119) + l2)) 62 119) ≤ l2) → (Q none (wr (wr (wr m 62 119 l4) 62 119 (((wr m 62 119 l4) 62 119) + l2)) 62 120 0))) ∧ (¬ (((wr (wr m 62 119 l4) 62 119 (((wr m 62 119 l4) 62 119) + l2)) 62 119) ≤ l2) → (Q none (wr (wr (wr (wr m 62 119 l4) 62 119 (((wr m 62 119 l4) 62 119) + l2)) 62 119 l2) 62 120 0))))) ∧ (¬ (l1 ≠ 4) → ((-9223372036854775808 ≤ l2 ∧ l2 < 9223372036854775808) ∧ (-9223372036854775808 ≤ ((wr (wr m 62 119 l4) 62 119 (((wr m 62 119 l4) 62 119) + l2)) 62 119) ∧ ((wr (wr m 62 119 l4) 62 119 (((wr m 62 119 l4) 62 119) + l2)) 62 119) < 9223372036854775808) ∧ ((l2 ≤ ((wr (wr m 62 119 l4) 62 119 (((wr m 62 119 l4) 62 119) + l2)) 62 119)) → (Q none (wr (wr (wr m 62 119 l4) 62 119 (((wr m 62 119 l4) 62 119) + l2)) 62 120 0))) ∧ (¬ (l2 ≤ ((wr (wr m 62 119 l4) 62 119 (((wr m 62 119 l4) 62 119) + l2)) 62 119)) → (Q none (wr (wr (wr (wr m 62 119 l4) 62 119 (((wr m 62 119 l4) 62 119) + l2)) 62 119 l2) 62 120 0))))))))))))) ∧ (¬ (l1 ≠ 2) → ((((if 3 ≤ l1 then 0 else (if l2 ≠ 1 then 0 else 1 : Int) : Int) = 0) → (((l1 ≠ 3) → (((l1 ≤ 3) → (Q none (wr (wr m 62 119 l4) 62 120 0))) ∧ (¬ (l1 ≤ 3) → ((-2147483648 ≤ ((wr m 62 119 l4) 62 120) ∧ ((wr m 62 119 l4) 62 120) < 2147483648) ∧ ((((wr m 62 119 l4) 62 120) ≠ 0) → (Q none (wr (wr (wr m 62 119 l4) 62 119 l2) 62 120 0))) ∧ (¬ (((wr m 62 119 l4) 62 120) ≠ 0) → (((l1 ≠ 4) → ((-9223372036854775808 ≤ l2 ∧ l2 < 9223372036854775808) ∧ (-9223372036854775808 ≤ ((wr m 62 119 l4) 62 119) ∧ ((wr m 62 119 l4) 62 119) < 9223372036854775808) ∧ ((((wr m 62 119 l4) 62 119) ≤ l2) → (Q none (wr (wr m 62 119 l4) 62 120 0))) ∧ (¬ (((wr m 62 119 l4) 62 119) ≤ l2) → (Q none (wr (wr (wr m 62 119 l4) 62 119 l2) 62 120 0))))) ∧ (¬ (l1 ≠ 4) → ((-9223372036854775808 ≤ l2 ∧ l2 < 9223372036854775808) ∧ (-9223372036854775808 ≤ ((wr m 62 119 l4) 62 119) ∧ ((wr m 62 119 l4) 62 119) < 9223372036854775808) ∧ ((l2 ≤ ((wr m 62 119 l4) 62 119)) → (Q none (wr (wr m 62 119 l4) 62 120 0))) ∧ (¬ (l2 ≤ ((wr m 62 119 l4) 62 119)) → (Q none (wr (wr (wr m 62 119 l4) 62 119 l2) 62 120 0))))))))))) ∧ (¬ (l1 ≠ 3) → (((l1 ≤ 3) → (Q none (wr (wr (wr m 62 119 l4) 62 119 (((wr m 62 119 l4) 62 119) + l2)) 62 120 0))) ∧ (¬ (l1 ≤ 3) → ((-2147483648 ≤ ((wr (wr m 62 119 l4) 62 119 (((wr m 62 119 l4) 62 119) + l2)) 62 120) ∧ ((wr (wr m 62 119 l4) 62 119 (((wr m 62 119 l4) 62 119) + l2)) 62 120) < 2147483648) ∧ ((((wr (wr m 62 119 l4) 62 119 (((wr m 62 119 l4) 62 119) + l2)) 62 120) ≠ 0) → (Q none (wr (wr (wr (wr m 62 119 l4) 62 119 (((wr m 62 119 l4) 62 119) + l2)) 62 119 l2) 62 120 0))) ∧ (¬ (((wr (wr m 62 119 l4) 62 119 (((wr m 62 119 l4) 62 119) + l2)) 62 120) ≠ 0) → (((l1 ≠ 4) → ((-9223372036854775808 ≤ l2 ∧ l2 < 9223372036854775808) ∧ (-9223372036854775808 ≤ ((wr (wr m 62 119 l4) 62 119 (((wr m 62 119 l4) 62 119) + l2)) 62 119) ∧ ((wr (wr m 62 119 l4) 62 119 (((wr m 62 119 l4) 62 119) + l2)) 62 119) < 9223372036854775808) ∧ ((((wr (wr m 62 119 l4) 62 119 (((wr m 62 119 l4) 62 119) + l2)) 62 119) ≤ l2) → (Q none (wr (wr (wr m 62 119 l4) 62 119 (((wr m 62 119 l4) 62 119) + l2)) 62 120 0))) ∧ (¬ (((wr (wr m 62 119 l4) 62 119 (((wr m 62 119 l4) 62 119) + l2)) 62 119) ≤ l2) → (Q none (wr (wr (wr (wr m 62 119 l4) 62 119 (((wr m 62 119 l4) 62 119) + l2)) 62 119 l2) 62 120 0))))) ∧ (¬ (l1 ≠ 4) → ((-9223372036854775808 ≤ l2 ∧ l2 < 9223372036854775808) ∧ (-9223372036854775808 ≤ ((wr (wr m 62 119 l4) 62 119 (((wr m 62 119 l4) 62 119) + l2)) 62 119) ∧ ((wr (wr m 62 119 l4) 62 119 (((wr m 62 119 l4) 62 119) + l2)) 62 119) < 9223372036854775808) ∧ ((l2 ≤ ((wr (wr m 62 119 l4) 62 119 (((wr m 62 119 l4) 62 119) + l2)) 62 119)) → (Q none (wr (wr (wr m 62 119 l4) 62 119 (((wr m 62 119 l4) 62 119) + l2)) 62 120 0))) ∧ (¬ (l2 ≤ ((wr (wr m 62 119 l4) 62 119 (((wr m 62 119 l4) 62 119) + l2)) 62 119)) → (Q none (wr (wr (wr (wr m 62 119 l4) 62 119 (((wr m 62 119 l4) 62 119) + l2)) 62 119 l2) 62 120 0))))))))))))) ∧ (¬ ((if 3 ≤ l1 then 0 else (if l2 ≠ 1 then 0 else 1 : Int) : Int) = 0) → (((l1 ≠ 3) → (((l1 ≤ 3) → (Q none (wr (wr (wr m 62 119 l4) 62 119 (((wr m 62 119 l4) 62 119) + 1)) 62 120 0))) ∧ (¬ (l1 ≤ 3) → ((-2147483648 ≤ ((wr (wr m 62 119 l4) 62 119 (((wr m 62 119 l4) 62 119) + 1)) 62 120) ∧ ((wr (wr m 62 119 l4) 62 119 (((wr m 62 119 l4) 62 119) + 1)) 62 120) < 2147483648) ∧ ((((wr (wr m 62 119 l4) 62 119 (((wr m 62 119 l4) 62 119) + 1)) 62 120) ≠ 0) → (Q none (wr (wr (wr (wr m 62 119 l4) 62 119 (((wr m 62 119 l4) 62 119) + 1)) 62 119 l2) 62 120 0))) ∧ (¬ (((wr (wr m 62 119 l4) 62 119 (((wr m 62 119 l4) 62 119) + 1)) 62 120) ≠ 0) → (((l1 ≠ 4) → ((-9223372036854775808 ≤ l2 ∧ l2 < 9223372036854775808) ∧ (-9223372036854775808 ≤ ((wr (wr m 62 119 l4) 62 119 (((wr m 62 119 l4) 62 119) + 1)) 62 119) ∧ ((wr (wr m 62 119 l4) 62 119 (((wr m 62 119 l4) 62 119) + 1)) 62 119) < 9223372036854775808) ∧ ((((wr (wr m 62 119 l4) 62 119 (((wr m 62 119 l4) 62 119) + 1)) 62 119) ≤ l2) → (Q none (wr (wr (wr m 62 119 l4) 62 119 (((wr m 62 119 l4) 62 119) + 1)) 62 120 0))) ∧ (¬ (((wr (wr m 62 119 l4) 62 119 (((wr m 62 119 l4) 62 119) + 1)) 62 119) ≤ l2) → (Q none (wr (wr (wr (wr m 62 119 l4) 62 119 (((wr m 62 119 l4) 62 119) + 1)) 62 119 l2) 62 120 0))))) ∧ (¬ (l1 ≠ 4) → ((-9223372036854775808 ≤ l2 ∧ l2 < 9223372036854775808) ∧ (-9223372036854775808 ≤ ((wr (wr m 62 119 l4) 62 119 (((wr m 62 119 l4) 62 119) + 1)) 62 119) ∧ ((wr (wr m 62 119 l4) 62 119 (((wr m 62 119 l4) 62 119) + 1)) 62 119) < 9223372036854775808) ∧ ((l2 ≤ ((wr (wr m 62 119 l4) 62 119 (((wr m 62 119 l4) 62 119) + 1)) 62 119)) → (Q none (wr (wr (wr m 62 119 l4) 62 119 (((wr m 62 119 l4) 62 119) + 1)) 62 120 0))) ∧ (¬ (l2 ≤ ((wr (wr m 62 119 l4) 62 119 (((wr m 62 119 l4) 62 119) + 1)) 62 119)) → (Q none (wr (wr (wr (wr m 62 119 l4) 62 119 (((wr m 62 119 l4) 62 119) + 1)) 62 119 l2) 62 120 0))))))))))) ∧ (¬ (l1 ≠ 3) → (((l1 ≤ 3) → (Q none (wr (wr (wr (wr m 62 119 l4) 62 119 (((wr m 62 119 l4) 62 119) + 1)) 62 119 (((wr (wr m 62 119 l4) 62 119 (((wr m 62 119 l4) 62 119) + 1)) 62 119) + l2)) 62 120 0))) ∧ (¬ (l1 ≤ 3) → ((-2147483648 ≤ ((wr (wr (wr m 62 119 l4) 62 119 (((wr m 62 119 l4) 62 119) + 1)) 62 119 (((wr (wr m 62 119 l4) 62 119 (((wr m 62 119 l4) 62 119) + 1)) 62 119) + l2)) 62 120) ∧ ((wr (wr (wr m 62 119 l4) 62 119 (((wr m 62 119 l4) 62 119) + 1)) 62 119 (((wr (wr m 62 119 l4) 62 119 (((wr m 62 119 l4) 62 119) + 1)) 62 119) + l2)) 62 120) < 2147483648) ∧ ((((wr (wr (wr m 62 119 l4) 62 119 (((wr m 62 119 l4) 62 119) + 1)) 62 119 (((wr (wr m 62 119 l4) 62 119 (((wr m 62 119 l4) 62 119) + 1)) 62 119) + l2)) 62 120) ≠ 0) → (Q none (wr (wr (wr (wr (wr m 62 119 l4) 62 119 (((wr m 62 119 l4) 62 119) + 1)) 62 119 (((wr (wr m 62 119 l4) 62 119 (((wr m 62 119 l4) 62 119) + 1)) 62 119) + l2)) 62 119 l2) 62 120 0))) ∧ (¬ (((wr (wr (wr m 62 119 l4) 62 119 (((wr m 62 119 l4) 62 119) + 1)) 62 119 (((wr (wr m 62 119 l4) 62 119 (((wr m 62 119 l4) 62 119) + 1)) 62 119) + l2)) 62 120) ≠ 0) → (((l1 ≠ 4) → ((-9223372036854775808 ≤ l2 ∧ l2 < 9223372036854775808) ∧ (-9223372036854775808 ≤ ((wr (wr (wr m 62 119 l4) 62 119 (((wr m 62 119 l4) 62 119) + 1)) 62 119 (((wr (wr m 62 119 l4) 62 119 (((wr m 62 119 l4) 62 119) + 1)) 62 119) + l2)) 62 119) ∧ ((wr (wr (wr m 62 119 l4) 62 119 (((wr m 62 119 l4) 62 119) + 1)) 62 119 (((wr (wr m 62 119 l4) 62 119 (((wr m 62 119 l4) 62 119) + 1)) 62 119) + l2)) 62 119) < 9223372036854775808) ∧ ((((wr (wr (wr m 62 119 l4) 62 119 (((wr m 62 119 l4) 62 119) + 1)) 62 119 (((wr (wr m 62 119 l4) 62 119 (((wr m 62 119 l4) 62 119) + 1)) 62 119) + l2)) 62 119) ≤ l2) → (Q none (wr (wr (wr (wr m 62 119 l4) 62 119 (((wr m 62 119 l4) 62 119) + 1)) 62 119 (((wr (wr m 62 119 l4) 62 119 (((wr m 62 119 l4) 62 119) + 1)) 62 119) + l2)) 62 120 0))) ∧ (¬ (((wr (wr (wr m 62 119 l4) 62 119 (((wr m 62 119 l4) 62 119) + 1)) 62 119 (((wr (wr m 62 119 l4) 62 119 (((wr m 62 119 l4) 62 119) + 1)) 62 119) + l2)) 62 119) ≤ l2) → (Q none (wr (wr (wr (wr (wr m 62 119 l4) 62 119 (((wr m 62 119 l4) 62 119) + 1)) 62 119 (((wr (wr m 62 119 l4) 62 119 (((wr m 62 119 l4) 62 119) + 1)) 62 119) + l2)) 62 119 l2) 62 120 0))))) ∧ (¬ (l1 ≠ 4) → ((-9223372036854775808 ≤ l2 ∧ l2 < 9223372036854775808) ∧ (-9223372036854775808 ≤ ((wr (wr (wr m 62 119 l4) 62 119 (((wr m 62 119 l4) 62 119) + 1)) 62 119 (((wr (wr m 62 119 l4) 62 119 (((wr m 62 119 l4) 62 119) + 1)) 62 119) + l2)) 62 119) ∧ ((wr (wr (wr m 62 119 l4) 62 119 (((wr m 62 119 l4) 62 119) + 1)) 62 119 (((wr (wr m 62 119 l4) 62 119 (((wr m 62 119 l4) 62 119) + 1)) 62 119) + l2)) 62 119) < 9223372036854775808) ∧ ((l2 ≤ ((wr (wr (wr m 62 119 l4) 62 119 (((wr m 62 119 l4) 62 119) + 1)) 62 119 (((wr (wr m 62 119 l4) 62 119 (((wr m 62 119 l4) 62 119) + 1)) 62 119) + l2)) 62 119)) → (Q none (wr (wr (wr (wr m 62 119 l4) 62 119 (((wr m 62 119 l4) 62 119) + 1)) 62 119 (((wr (wr m 62 119 l4) 62 119 (((wr m 62 119 l4) 62 119) + 1)) 62 119) + l2)) 62 120 0))) ∧ (¬ (l2 ≤ ((wr (wr (wr m 62 119 l4) 62 119 (((wr m 62 119 l4) 62 119) + 1)) 62 119 (((wr (wr m 62 119 l4) 62 119 (((wr m 62 119 l4) 62 119) + 1)) 62 119) + l2)) 62 119)) → (Q none (wr (wr (wr (wr (wr m 62 119 l4) 62 119 (((wr m 62 119 l4) 62 119) + 1)) 62 119 (((wr (wr m 62 119 l4) 62 119 (((wr m 62 119 l4) 62 119) + 1)) 62 119) + l2)) 62 119 l2) 62 120 0))))))))))))))))))))) ∧ (¬ ((if 3 ≤ l1 then 0 else (if l2 ≠ 1 then 0 else 1 : Int) : Int) = 0) → ((-9223372036854775808 ≤ (m 62 119) ∧ (m 62 119) < 9223372036854775808) ∧ (((m 62 119) = (-1)) → ((-2147483648 ≤ l4 ∧ l4 < 2147483648) ∧ ((l1 ≠ 2) → (((l1 ≠ 3) → (((l1 ≤ 3) → (Q none (wr (wr m 62 119 l4) 62 120 0))) ∧ (¬ (l1 ≤ 3) → ((-2147483648 ≤ ((wr m 62 119 l4) 62 120) ∧ ((wr m 62 119 l4) 62 120) < 2147483648) ∧ ((((wr m 62 119 l4) 62 120) ≠ 0) → (Q none (wr (wr (wr m 62 119 l4) 62 119 l2) 62 120 0))) ∧ (¬ (((wr m 62 119 l4) 62 120) ≠ 0) → (((l1 ≠ 4) → ((-9223372036854775808 ≤ l2 ∧ l2 < 9223372036854775808) ∧ (-9223372036854775808 ≤ ((wr m 62 119 l4) 62 119) ∧ ((wr m 62 119 l4) 62 119) < 9223372036854775808) ∧ ((((wr m 62 119 l4) 62 119) ≤ l2) → (Q none (wr (wr m 62 119 l4) 62 120 0))) ∧ (¬ (((wr m 62 119 l4) 62 119) ≤ l2) → (Q none (wr (wr (wr m 62 119 l4) 62 119 l2) 62 120 0))))) ∧ (¬ (l1 ≠ 4) → ((-9223372036854775808 ≤ l2 ∧ l2 < 9223372036854775808) ∧ (-9223372036854775808 ≤ ((wr m 62 119 l4) 62 119) ∧ ((wr m 62 119 l4) 62 119) < 9223372036854775808) ∧ ((l2 ≤ ((wr m 62 119 l4) 62 119)) → (Q none (wr (wr m 62 119 l4) 62 120 0))) ∧ (¬ (l2 ≤ ((wr m 62 119 l4) 62 119)) → (Q none (wr (wr (wr m 62 119 l4) 62 119 l2) 62 120 0))))))))))) ∧ (¬ (l1 ≠ 3) → (((l1 ≤ 3) → (Q none (wr (wr (wr m 62 119 l4) 62 119 (((wr m 62 119 l4) 62 119) + l2)) 62 120 0))) ∧ (¬ (l1 ≤ 3) → ((-2147483648 ≤ ((wr (wr m 62 119 l4) 62 119 (((wr m 62 119 l4) 62 119) + l2)) 62 120) ∧ ((wr (wr m 62 119 l4) 62 119 (((wr m 62 119 l4) 62 119) + l2)) 62 120) < 2147483648) ∧ ((((wr (wr m 62 119 l4) 62 119 (((wr m 62 119 l4) 62 119) + l2)) 62 120) ≠ 0) → (Q none (wr (wr (wr (wr m 62 119 l4) 62 119 (((wr m 62 119 l4) 62 119) + l2)) 62 119 l2) 62 120 0))) ∧ (¬ (((wr (wr m 62 119 l4) 62 119 (((wr m 62 119 l4) 62 119) + l2)) 62 120) ≠ 0) → (((l1 ≠ 4) → ((-9223372036854775808 ≤ l2 ∧ l2 < 9223372036854775808) ∧ (-9223372036854775808 ≤ ((wr (wr m 62 119 l4) 62 119 (((wr m 62 119 l4) 62 119) + l2)) 62 119) ∧ ((wr (wr m 62 119 l4) 62 119 (((wr m 62 119 l4) 62 119) + l2)) 62 119) < 9223372036854775808) ∧ ((((wr (wr m 62 119 l4) 62 119 (((wr m 62 119 l4) 62 119) + l2)) 62 119) ≤ l2) → (Q none (wr (wr (wr m 62 119 l4) 62 119 (((wr m 62 119 l4) 62 119) + l2)) 62 120 0))) ∧ (¬ (((wr (wr m 62 119 l4) 62 119 (((wr m 62 119 l4) 62 119) + l2)) 62 119) ≤ l2) → (Q none (wr (wr (wr (wr m 62 119 l4) 62 119 (((wr m 62 119 l4) 62 119) + l2)) 62 119 l2) 62 120 0))))) ∧ (¬ (l1 ≠ 4) → ((-9223372036854775808 ≤ l2 ∧ l2 < 9223372036854775808) ∧ (-9223372036854775808 ≤ ((wr (wr m 62 119 l4) 62 119 (((wr m 62 119 l4) 62 119) + l2)) 62 119) ∧ ((wr (wr m 62 119 l4) 62 119 (((wr m 62 119 l4) 62 119) + l2)) 62 119) < 9223372036854775808) ∧ ((l2 ≤ ((wr (wr m 62 119 l4) 62 119 (((wr m 62 119 l4) 62 119) + l2)) 62 119)) → (Q none (wr (wr (wr m 62 119 l4) 62 119 (((wr m 62 119 l4) 62 119) + l2)) 62 120 0))) ∧ (¬ (l2 ≤ ((wr (wr m 62 119 l4) 62 119 (((wr m 62 119 l4) 62 119) + l2)) 62 119)) → (Q none (wr (wr (wr (wr m 62 119 l4) 62 119 (((wr m 62 119 l4) 62 119) + l2)) 62 119 l2) 62 120 0))))))))))))) ∧ (¬ (l1 ≠ 2) → ((((if 3 ≤ l1 then 0 else (if l2 ≠ 1 then 0 else 1 : Int) : Int) = 0) → (((l1 ≠ 3) → (((l1 ≤ 3) → (Q none (wr (wr m 62 119 l4) 62 120 0))) ∧ (¬ (l1 ≤ 3) → ((-2147483648 ≤ ((wr m 62 119 l4) 62 120) ∧ ((wr m 62 119 l4) 62 120) < 2147483648) ∧ ((((wr m 62 119 l4) 62 120) ≠ 0) → (Q none (wr (wr (wr m 62 119 l4) 62 119 l2) 62 120 0))) ∧ (¬ (((wr m 62 119 l4) 62 120) ≠ 0) → (((l1 ≠ 4) → ((-9223372036854775808 ≤ l2 ∧ l2 < 9223372036854775808) ∧ (-9223372036854775808 ≤ ((wr m 62 119 l4) 62 119) ∧ ((wr m 62 119 l4) 62 119) < 9223372036854775808) ∧ ((((wr m 62 119 l4) 62 119) ≤ l2) → (Q none (wr (wr m 62 119 l4) 62 120 0))) ∧ (¬ (((wr m 62 119 l4) 62 119) ≤ l2) → (Q none (wr (wr (wr m 62 119 l4) 62 119 l2) 62 120 0))))) ∧ (¬ (l1 ≠ 4) → ((-9223372036854775808 ≤ l2 ∧ l2 < 9223372036854775808) ∧ (-9223372036854775808 ≤ ((wr m 62 119 l4) 62 119) ∧ ((wr m 62 119 l4) 62 119) < 9223372036854775808) ∧ ((l2 ≤ ((wr m 62 119 l4) 62 119)) → (Q none (wr (wr m 62 119 l4) 62 120 0))) ∧ (¬ (l2 ≤ ((wr m 62 119 l4) 62 119)) → (Q none (wr (wr (wr m 62 119 l4) 62 119 l2) 62 120 0))))))))))) ∧ (¬ (l1 ≠ 3) → (((l1 ≤ 3) → (Q none (wr (wr (wr m 62 119 l4) 62 119 (((wr m 62 119 l4) 62 119) + l2)) 62 120 0))) ∧ (¬ (l1 ≤ 3) → ((-2147483648 ≤ ((wr (wr m 62 119 l4) 62 119 (((wr m 62 119 l4) 62 119) + l2)) 62 120) ∧ ((wr (wr m 62 119 l4) 62 119 (((wr m 62 119 l4) 62 119) + l2)) 62 120) < 2147483648) ∧ ((((wr (wr m 62 119 l4) 62 119 (((wr m 62 119 l4) 62 119) + l2)) 62 120) ≠ 0) → (Q none (wr (wr (wr (wr m 62 119 l4) 62 119 (((wr m 62 119 l4) 62 119) + l2)) 62 119 l2) 62 120 0))) ∧ (¬ (((wr (wr m 62 119 l4) 62 119 (((wr m 62 119 l4) 62 119) + l2)) 62 120) ≠ 0) → (((l1 ≠ 4) → ((-9223372036854775808 ≤ l2 ∧ l2 < 9223372036854775808) ∧ (-9223372036854775808 ≤ ((wr (wr m 62 119 l4) 62 119 (((wr m 62 119 l4) 62 119) + l2)) 62 119) ∧ ((wr (wr m 62 119 l4) 62 119 (((wr m 62 119 l4) 62 119) + l2)) 62 119) < 9223372036854775808) ∧ ((((wr (wr m 62 119 l4) 62 119 (((wr m 62 119 l4) 62 119) + l2)) 62 119) ≤ l2) → (Q none (wr (wr (wr m 62 119 l4) 62 119 (((wr m 62 119 l4) 62 119) + l2)) 62 120 0))) ∧ (¬ (((wr (wr m 62 119 l4) 62 119 (((wr m 62 119 l4) 62 119) + l2)) 62 119) ≤ l2) → (Q none (wr (wr (wr (wr m 62 119 l4) 62 119 (((wr m 62 119 l4) 62 119) + l2)) 62 119 l2) 62 120 0))))) ∧ (¬ (l1 ≠ 4) → ((-9223372036854775808 ≤ l2 ∧ l2 < 9223372036854775808) ∧ (-9223372036854775808 ≤ ((wr (wr m 62 119 l4) 62 119 (((wr m 62 119 l4) 62 119) + l2)) 62 119) ∧ ((wr (wr m 62 119 l4) 62 119 (((wr m 62 119 l4) 62 119) + l2)) 62 119) < 9223372036854775808) ∧ ((l2 ≤ ((wr (wr m 62 119 l4) 62 119 (((wr m 62 119 l4) 62 119) + l2)) 62 119)) → (Q none (wr (wr (wr m 62 119 l4) 62 119 (((wr m 62 119 l4) 62 119) + l2)) 62 120 0))) ∧ (¬ (l2 ≤ ((wr (wr m 62 119 l4) 62 119 (((wr m 62 119 l4) 62 119) + l2)) 62 119)) → (Q none (wr (wr (wr (wr m 62 119 l4) 62 119 (((wr m 62 119 l4) 62 119) + l2)) 62 119 l2) 62 120 0))))))))))))) ∧ (¬ ((if 3 ≤ l1 then 0 else (if l2 ≠ 1 then 0 else 1 : Int) : Int) = 0) → (((l1 ≠ 3) → (((l1 ≤ 3) → (Q none (wr (wr (wr m 62 119 l4) 62 119 (((wr m 62 119 l4) 62 119) + 1)) 62 120 0))) ∧ (¬ (l1 ≤ 3) → ((-2147483648 ≤ ((wr (wr m 62 119 l4) 62 119 (((wr m 62 119 l4) 62 119) + 1)) 62 120) ∧ ((wr (wr m 62 119 l4) 62 119 (((wr m 62 119 l4) 62 119) + 1)) 62 120) < 2147483648) ∧ ((((wr (wr m 62 119 l4) 62 119 (((wr m 62 119 l4) 62 119) + 1)) 62 120) ≠ 0) → (Q none (wr (wr (wr (wr m 62 119 l4) 62 119 (((wr m 62 119 l4) 62 119) + 1)) 62 119 l2) 62 120 0))) ∧ (¬ (((wr (wr m 62 119 l4) 62 119 (((wr m 62 119 l4) 62 119) + 1)) 62 120) ≠ 0) → (((l1 ≠ 4) → ((-9223372036854775808 ≤ l2 ∧ l2 < 9223372036854775808) ∧ (-9223372036854775808 ≤ ((wr (wr m 62 119 l4) 62 119 (((wr m 62 119 l4) 62 119) + 1)) 62 119) ∧ ((wr (wr m 62 119 l4) 62 119 (((wr m 62 119 l4) 62 119) + 1)) 62 119) < 9223372036854775808) ∧ ((((wr (wr m 62 119 l4) 62 119 (((wr m 62 119 l4) 62 119) + 1)) 62 119) ≤ l2) → (Q none (wr (wr (wr m 62 119 l4) 62 119 (((wr m 62 119 l4) 62 119) + 1)) 62 120 0))) ∧ (¬ (((wr (wr m 62 119 l4) 62 119 (((wr m 62 119 l4) 62 119) + 1)) 62 119) ≤ l2) → (Q none (wr (wr (wr (wr m 62 119 l4) 62 119 (((wr m 62 119 l4) 62 119) + 1)) 62 119 l2) 62 120 0))))) ∧ (¬ (l1 ≠ 4) → ((-9223372036854775808 ≤ l2 ∧ l2 < 9223372036854775808) ∧ (-9223372036854775808 ≤ ((wr (wr m 62 119 l4) 62 119 (((wr m 62 119 l4) 62 119) + 1)) 62 119) ∧ ((wr (wr m 62 119 l4) 62 119 (((wr m 62 119 l4) 62 119) + 1)) 62 119) < 9223372036854775808) ∧ ((l2 ≤ ((wr (wr m 62 119 l4) 62 119 (((wr m 62 119 l4) 62 119) + 1)) 62 119)) → (Q none (wr (wr (wr m 62 119 l4) 62 119 (((wr m 62 119 l4) 62 119) + 1)) 62 120 0))) ∧ (¬ (l2 ≤ ((wr (wr m 62 119 l4) 62 119 (((wr m 62 119 l4) 62 119) + 1)) 62 119)) → (Q none (wr (wr (wr (wr m 62 119 l4) 62 119 (((wr m 62 119 l4) 62 119) + 1)) 62 119 l2) 62 120 0))))))))))) ∧ (¬ (l1 ≠ 3) → (((l1 ≤ 3) → (Q none (wr (wr (wr (wr m 62 119 l4) 62 119 (((wr m 62 119 l4) 62 119) + 1)) 62 119 (((wr (wr m 62 119 l4) 62 119 (((wr m 62 119 l4) 62 119) + 1)) 62 119) + l2)) 62 120 0))) ∧ (¬ (l1 ≤ 3) → ((-2147483648 ≤ ((wr (wr (wr m 62 119 l4) 62 119 (((wr m 62 119 l4) 62 119) + 1)) 62 119 (((wr (wr m 62 119 l4) 62 119 (((wr m 62 119 l4) 62 119) + 1)) 62 119) + l2)) 62 120) ∧ ((wr (wr (wr m 62 119 l4) 62 119 (((wr m 62 119 l4) 62 119) + 1)) 62 119 (((wr (wr m 62 119 l4) 62 119 (((wr m 62 119 l4) 62 119) + 1)) 62 119) + l2)) 62 120) < 2147483648) ∧ ((((wr (wr (wr m 62 119 l4) 62 119 (((wr m 62 119 l4) 62 119) + 1)) 62 119 (((wr (wr m 62 119 l4) 62 119 (((wr m 62 119 l4) 62 119) + 1)) 62 119) + l2)) 62 120) ≠ 0) → (Q none (wr (wr (wr (wr (wr m 62 119 l4) 62 119 (((wr m 62 119 l4) 62 119) + 1)) 62 119 (((wr (wr m 62 119 l4) 62 119 (((wr m 62 119 l4) 62 119) + 1)) 62 119) + l2)) 62 119 l2) 62 120 0))) ∧ (¬ (((wr (wr (wr m 62 119 l4) 62 119 (((wr m 62 119 l4) 62 119) + 1)) 62 119 (((wr (wr m 62 119 l4) 62 119 (((wr m 62 119 l4) 62 119) + 1)) 62 119) + l2)) 62 120) ≠ 0) → (((l1 ≠ 4) → ((-9223372036854775808 ≤ l2 ∧ l2 < 9223372036854775808) ∧ (-9223372036854775808 ≤ ((wr (wr (wr m 62 119 l4) 62 119 (((wr m 62 119 l4) 62 119) + 1)) 62 119 (((wr (wr m 62 119 l4) 62 119 (((wr m 62 119 l4) 62 119) + 1)) 62 119) + l2)) 62 119) ∧ ((wr (wr (wr m 62 119 l4) 62 119 (((wr m 62 119 l4) 62 119) + 1)) 62 119 (((wr (wr m 62 119 l4) 62 119 (((wr m 62 119 l4) 62 119) + 1)) 62 119) + l2)) 62 119) < 9223372036854775808) ∧ ((((wr (wr (wr m 62 119 l4) 62 119 (((wr m 62 119 l4) 62 119) + 1)) 62 119 (((wr (wr m 62 119 l4) 62 119 (((wr m 62 119 l4) 62 119) + 1)) 62 119) + l2)) 62 119) ≤ l2) → (Q none (wr (wr (wr (wr m 62 119 l4) 62 119 (((wr m 62 119 l4) 62 119) + 1)) 62 119 (((wr (wr m 62 119 l4) 62 119 (((wr m 62 119 l4) 62 119) + 1)) 62 119) + l2)) 62 120 0))) ∧ (¬ (((wr (wr (wr m 62 119 l4) 62 119 (((wr m 62 119 l4) 62 119) + 1)) 62 119 (((wr (wr m 62 119 l4) 62 119 (((wr m 62 119 l4) 62 119) + 1)) 62 119) + l2)) 62 119) ≤ l2) → (Q none (wr (wr (wr (wr (wr m 62 119 l4) 62 119 (((wr m 62 119 l4) 62 119) + 1)) 62 119 (((wr (wr m 62 119 l4) 62 119 (((wr m 62 119 l4) 62 119) + 1)) 62 119) + l2)) 62 119 l2) 62 120 0))))) ∧ (¬ (l1 ≠ 4) → ((-9223372036854775808 ≤ l2 ∧ l2 < 9223372036854775808) ∧ (-9223372036854775808 ≤ ((wr (wr (wr m 62 119 l4) 62 119 (((wr m 62 119 l4) 62 119) + 1)) 62 119 (((wr (wr m 62 119 l4) 62 119 (((wr m 62 119 l4) 62 119) + 1)) 62 119) + l2)) 62 119) ∧ ((wr (wr (wr m 62 119 l4) 62 119 (((wr m 62 119 l4) 62 119) + 1)) 62 119 (((wr (wr m 62 119 l4) 62 119 (((wr m 62 119 l4) 62 119) + 1)) 62 119) + l2)) 62 119) < 9223372036854775808) ∧ ((l2 ≤ ((wr (wr (wr m 62 119 l4) 62 119 (((wr m 62 119 l4) 62 119) + 1)) 62 119 (((wr (wr m 62 119 l4) 62 119 (((wr m 62 119 l4) 62 119) + 1)) 62 119) + l2)) 62 119)) → (Q none (wr (wr (wr (wr m 62 119 l4) 62 119 (((wr m 62 119 l4) 62 119) + 1)) 62 119 (((wr (wr m 62 119 l4) 62 119 (((wr m 62 119 l4) 62 119) + 1)) 62 119) + l2)) 62 120 0))) ∧ (¬ (l2 ≤ ((wr (wr (wr m 62 119 l4) 62 119 (((wr m 62 119 l4) 62 119) + 1)) 62 119 (((wr (wr m 62 119 l4) 62 119 (((wr m 62 119 l4) 62 119) + 1)) 62 119) + l2)) 62 119)) → (Q none (wr (wr (wr (wr (wr m 62 119 l4) 62 119 (((wr m 62 119 l4) 62 119) + 1)) 62 119 (((wr (wr m 62 119 l4) 62 119 (((wr m 62 119 l4) 62 119) + 1)) 62 119) + l2)) 62 119 l2) 62 120 0))))))))))))))))) ∧ (¬ ((m 62 119) = (-1)) → (((l1 ≠ 1) → (((l1 ≠ 2) → (((l1 ≠ 3) → (((l1 ≤ 3) → (Q none (wr m 62 120 0))) ∧ (¬ (l1 ≤ 3) → ((-2147483648 ≤ (m 62 120) ∧ (m 62 120) < 2147483648) ∧ (((m 62 120) ≠ 0) → (Q none (wr (wr m 62 119 l2) 62 120 0))) ∧ (¬ ((m 62 120) ≠ 0) → (((l1 ≠ 4) → ((-9223372036854775808 ≤ l2 ∧ l2 < 9223372036854775808) ∧ (((m 62 119) ≤ l2) → (Q none (wr m 62 120 0))) ∧ (¬ ((m 62 119) ≤ l2) → (Q none (wr (wr m 62 119 l2) 62 120 0))))) ∧ (¬ (l1 ≠ 4) → ((-9223372036854775808 ≤ l2 ∧ l2 < 9223372036854775808) ∧ ((l2 ≤ (m 62 119)) → (Q none (wr m 62 120 0))) ∧ (¬ (l2 ≤ (m 62 119)) → (Q none (wr (wr m 62 119 l2) 62 120 0))))))))))) ∧ (¬ (l1 ≠ 3) → (((l1 ≤ 3) → (Q none (wr (wr m 62 119 ((m 62 119) + l2)) 62 120 0))) ∧ (¬ (l1 ≤ 3) → ((-2147483648 ≤ ((wr m 62 119 ((m 62 119) + l2)) 62 120) ∧ ((wr m 62 119 ((m 62 119) + l2)) 62 120) < 2147483648) ∧ ((((wr m 62 119 ((m 62 119) + l2)) 62 120) ≠ 0) → (Q none (wr (wr (wr m 62 119 ((m 62 119) + l2)) 62 119 l2) 62 120 0))) ∧ (¬ (((wr m 62 119 ((m 62 119) + l2)) 62 120) ≠ 0) → (((l1 ≠ 4) → ((-9223372036854775808 ≤ l2 ∧ l2 < 9223372036854775808) ∧ (-9223372036854775808 ≤ ((wr m 62 119 ((m 62 119) + l2)) 62 119) ∧ ((wr m 62 119 ((m 62 119) + l2)) 62 119) < 9223372036854775808) ∧ ((((wr m 62 119 ((m 62 119) + l2)) 62 119) ≤ l2) → (Q none (wr (wr m 62 119 ((m 62 119) + l2)) 62 120 0))) ∧ (¬ (((wr m 62 119 ((m 62 119) + l2)) 62 119) ≤ l2) → (Q none (wr (wr (wr m 62 119 ((m 62 119) + l2)) 62 119 l2) 62 120 0))))) ∧ (¬ (l1 ≠ 4) → ((-9223372036854775808 ≤ l2 ∧ l2 < 9223372036854775808) ∧ (-9223372036854775808 ≤ ((wr m 62 119 ((m 62 119) + l2)) 62 119) ∧ ((wr m 62 119 ((m 62 119) + l2)) 62 119) < 9223372036854775808) ∧ ((l2 ≤ ((wr m 62 119 ((m 62 119) + l2)) 62 119)) → (Q none (wr (wr m 62 119 ((m 62 119) + l2)) 62 120 0))) ∧ (¬ (l2 ≤ ((wr m 62 119 ((m 62 119) + l2)) 62 119)) → (Q none (wr (wr (wr m 62 119 ((m 62 119) + l2)) 62 119 l2) 62 120 0))))))))))))) ∧ (¬ (l1 ≠ 2) → ((((if 3 ≤ l1 then 0 else (if l2 ≠ 1 then 0 else 1 : Int) : Int) = 0) → (((l1 ≠ 3) → (((l1 ≤ 3) → (Q none (wr m 62 120 0))) ∧ (¬ (l1 ≤ 3) → ((-2147483648 ≤ (m 62 120) ∧ (m 62 120) < 2147483648) ∧ (((m 62 120) ≠ 0) → (Q none (wr (wr m 62 119 l2) 62 120 0))) ∧ (¬ ((m 62 120) ≠ 0) → (((l1 ≠ 4) → ((-9223372036854775808 ≤ l2 ∧ l2 < 9223372036854775808) ∧ (((m 62 119) ≤ l2) → (Q none (wr m 62 120 0))) ∧ (¬ ((m 62 119) ≤ l2) → (Q none (wr (wr m 62 119 l2) 62 120 0))))) ∧ (¬ (l1 ≠ 4) → ((-9223372036854775808 ≤ l2 ∧ l2 < 9223372036854775808) ∧ ((l2 ≤ (m 62 119)) → (Q none (wr m 62 120 0))) ∧ (¬ (l2 ≤ (m 62 119)) → (Q none (wr (wr m 62 119 l2) 62 120 0))))))))))) ∧ (¬ (l1 ≠ 3) → (((l1 ≤ 3) → (Q none (wr (wr m 62 119 ((m 62 119) + l2)) 62 120 0))) ∧ (¬ (l1 ≤ 3) → ((-2147483648 ≤ ((wr m 62 119 ((m 62 119) + l2)) 62 120) ∧ ((wr m 62 119 ((m 62 119) + l2)) 62 120) < 2147483648) ∧ ((((wr m 62 119 ((m 62 119) + l2)) 62 120) ≠ 0) → (Q none (wr (wr (wr m 62 119 ((m 62 119) + l2)) 62 119 l2) 62 120 0))) ∧ (¬ (((wr m 62 119 ((m 62 119) + l2)) 62 120) ≠ 0) → (((l1 ≠ 4) → ((-9223372036854775808 ≤ l2 ∧ l2 < 9223372036854775808) ∧ (-9223372036854775808 ≤ ((wr m 62 119 ((m 62 119) + l2)) 62 119) ∧ ((wr m 62 119 ((m 62 119) + l2)) 62 119) < 9223372036854775808) ∧ ((((wr m 62 119 ((m 62 119) + l2)) 62 119) ≤ l2) → (Q none (wr (wr m 62 119 ((m 62 119) + l2)) 62 120 0))) ∧ (¬ (((wr m 62 119 ((m 62 119) + l2)) 62 119) ≤ l2) → (Q none (wr (wr (wr m 62 119 ((m 62 119) + l2)) 62 119 l2) 62 120 0))))) ∧ (¬ (l1 ≠ 4) → ((-9223372036854775808 ≤ l2 ∧ l2 < 9223372036854775808) ∧ (-9223372036854775808 ≤ ((wr m 62 119 ((m 62 119) + l2)) 62 119) ∧ ((wr m 62 119 ((m 62 119) + l2)) 62 119) < 9223372036854775808) ∧ ((l2 ≤ ((wr m 62 119 ((m 62 119) + l2)) 62 119)) → (Q none (wr (wr m 62 119 ((m 62 119) + l2)) 62 120 0))) ∧ (¬ (l2 ≤ ((wr m 62 119 ((m 62 119) + l2)) 62 119)) → (Q none (wr (wr (wr m 62 119 ((m 62 119) + l2)) 62 119 l2) 62 120 0))))))))))))) ∧ (¬ ((if 3 ≤ l1 then 0 else (if l2 ≠ 1 then 0 else 1 : Int) : Int) = 0) → (((l1 ≠ 3) → (((l1 ≤ 3) → (Q none (wr (wr m 62 119 ((m 62 119) + 1)) 62 120 0))) ∧ (¬ (l1 ≤ 3) → ((-2147483648 ≤ ((wr m 62 119 ((m 62 119) + 1)) 62 120) ∧ ((wr m 62 119 ((m 62 119) + 1)) 62 120) < 2147483648) ∧ ((((wr m 62 119 ((m 62 119) + 1)) 62 120) ≠ 0) → (Q none (wr (wr (wr m 62 119 ((m 62 119) + 1)) 62 119 l2) 62 120 0))) ∧ (¬ (((wr m 62 119 ((m 62 119) + 1)) 62 120) ≠ 0) → (((l1 ≠ 4) → ((-9223372036854775808 ≤ l2 ∧ l2 < 9223372036854775808) ∧ (-9223372036854775808 ≤ ((wr m 62 119 ((m 62 119) + 1)) 62 119) ∧ ((wr m 62 119 ((m 62 119) + 1)) 62 119) < 9223372036854775808) ∧ ((((wr m 62 119 ((m 62 119) + 1)) 62 119) ≤ l2) → (Q none (wr (wr m 62 119 ((m 62 119) + 1)) 62 120 0))) ∧ (¬ (((wr m 62 119 ((m 62 119) + 1)) 62 119) ≤ l2) → (Q none (wr (wr (wr m 62 119 ((m 62 119) + 1)) 62 119 l2) 62 120 0))))) ∧ (¬ (l1 ≠ 4) → ((-9223372036854775808 ≤ l2 ∧ l2 < 9223372036854775808) ∧ (-9223372036854775808 ≤ ((wr m 62 119 ((m 62 119) + 1)) 62 119) ∧ ((wr m 62 119 ((m 62 119) + 1)) 62 119) < 9223372036854775808) ∧ ((l2 ≤ ((wr m 62 119 ((m 62 119) + 1)) 62 119)) → (Q none (wr (wr m 62 119 ((m 62 119) + 1)) 62 120 0))) ∧ (¬ (l2 ≤ ((wr m 62 119 ((m 62 119) + 1)) 62 119)) → (Q none (wr (wr (wr m 62 119 ((m 62 119) + 1)) 62 119 l2) 62 120 0))))))))))) ∧ (¬ (l1 ≠ 3) → (((l1 ≤ 3) → (Q none (wr (wr (wr m 62 119 ((m 62 119) + 1)) 62 119 (((wr m 62 119 ((m 62 119) + 1)) 62 119) + l2)) 62 120 0))) ∧ (¬ (l1 ≤ 3) → ((-2147483648 ≤ ((wr (wr m 62 119 ((m 62 119) + 1)) 62 119 (((wr m 62 119 ((m 62 119) + 1)) 62 119) + l2)) 62 120) ∧ ((wr (wr m 62 119 ((m 62 119) + 1)) 62 119 (((wr m 62 119 ((m 62 119) + 1)) 62 119) + l2)) 62 120) < 2147483648) ∧ ((((wr (wr m 62 119 ((m 62 119) + 1)) 62 119 (((wr m 62 119 ((m 62 119) + 1)) 62 119) + l2)) 62 120) ≠ 0) → (Q none (wr (wr (wr (wr m 62 119 ((m 62 119) + 1)) 62 119 (((wr m 62 119 ((m 62 119) + 1)) 62 119) + l2)) 62 119 l2) 62 120 0))) ∧ (¬ (((wr (wr m 62 119 ((m 62 119) + 1)) 62 119 (((wr m 62 119 ((m 62 119) + 1)) 62 119) + l2)) 62 120) ≠ 0) → (((l1 ≠ 4) → ((-9223372036854775808 ≤ l2 ∧ l2 < 9223372036854775808) ∧ (-9223372036854775808 ≤ ((wr (wr m 62 119 ((m 62 119) + 1)) 62 119 (((wr m 62 119 ((m 62 119) + 1)) 62 119) + l2)) 62 119) ∧ ((wr (wr m 62 119 ((m 62 119) + 1)) 62 119 (((wr m 62 119 ((m 62 119) + 1)) 62 119) + l2)) 62 119) < 9223372036854775808) ∧ ((((wr (wr m 62 119 ((m 62 119) + 1)) 62 119 (((wr m 62 119 ((m 62 119) + 1)) 62 119) + l2)) 62 119) ≤ l2) → (Q none (wr (wr (wr m 62 119 ((m 62 119) + 1)) 62 119 (((wr m 62 119 ((m 62 119) + 1)) 62 119) + l2)) 62 120 0))) ∧ (¬ (((wr (wr m 62 119 ((m 62 119) + 1)) 62 119 (((wr m 62 119 ((m 62 119) + 1)) 62 119) + l2)) 62 119) ≤ l2) → (Q none (wr (wr (wr (wr m 62 119 ((m 62 119) + 1)) 62 119 (((wr m 62 119 ((m 62 119) + 1)) 62 119) + l2)) 62 119 l2) 62 120 0))))) ∧ (¬ (l1 ≠ 4) → ((-9223372036854775808 ≤ l2 ∧ l2 < 9223372036854775808) ∧ (-9223372036854775808 ≤ ((wr (wr m 62 119 ((m 62 119) + 1)) 62 119 (((wr m 62 119 ((m 62 119) + 1)) 62 119) + l2)) 62 119) ∧ ((wr (wr m 62 119 ((m 62 119) + 1)) 62 119 (((wr m 62 119 ((m 62 119) + 1)) 62 119) + l2)) 62 119) < 9223372036854775808) ∧ ((l2 ≤ ((wr (wr m 62 119 ((m 62 119) + 1)) 62 119 (((wr m 62 119 ((m 62 119) + 1)) 62 119) + l2)) 62 119)) → (Q none (wr (wr (wr m 62 119 ((m 62 119) + 1)) 62 119 (((wr m 62 119 ((m 62 119) + 1)) 62 119) + l2)) 62 120 0))) ∧ (¬ (l2 ≤ ((wr (wr m 62 119 ((m 62 119) + 1)) 62 119 (((wr m 62 119 ((m 62 119) + 1)) 62 119) + l2)) 62 119)) → (Q none (wr (wr (wr (wr m 62 119 ((m 62 119) + 1)) 62 119 (((wr m 62 119 ((m 62 119) + 1)) 62 119) + l2)) 62 119 l2) 62 120 0))))))))))))))))) ∧ (¬ (l1 ≠ 1) → ((((if 3 ≤ l1 then 0 else (if l2 ≠ 1 then 0 else 1 : Int) : Int) = 0) → (((l1 ≠ 2) → (((l1 ≠ 3) → (((l1 ≤ 3) → (Q none (wr m 62 120 0))) ∧ (¬ (l1 ≤ 3) → ((-2147483648 ≤ (m 62 120) ∧ (m 62 120) < 2147483648) ∧ (((m 62 120) ≠ 0) → (Q none (wr (wr m 62 119 l2) 62 120 0))) ∧ (¬ ((m 62 120) ≠ 0) → (((l1 ≠ 4) → ((-9223372036854775808 ≤ l2 ∧ l2 < 9223372036854775808) ∧ (((m 62 119) ≤ l2) → (Q none (wr m 62 120 0))) ∧ (¬ ((m 62 119) ≤ l2) → (Q none (wr (wr m 62 119 l2) 62 120 0))))) ∧ (¬ (l1 ≠ 4) → ((-9223372036854775808 ≤ l2 ∧ l2 < 9223372036854775808) ∧ ((l2 ≤ (m 62 119)) → (Q none (wr m 62 120 0))) ∧ (¬ (l2 ≤ (m 62 119)) → (Q none (wr (wr m 62 119 l2) 62 120 0))))))))))) ∧ (¬ (l1 ≠ 3) → (((l1 ≤ 3) → (Q none (wr (wr m 62 119 ((m 62 119) + l2)) 62 120 0))) ∧ (¬ (l1 ≤ 3) → ((-2147483648 ≤ ((wr m 62 119 ((m 62 119) + l2)) 62 120) ∧ ((wr m 62 119 ((m 62 119) + l2)) 62 120) < 2147483648) ∧ ((((wr m 62 119 ((m 62 119) + l2)) 62 120) ≠ 0) → (Q none (wr (wr (wr m 62 119 ((m 62 119) + l2)) 62 119 l2) 62 120 0))) ∧ (¬ (((wr m 62 119 ((m 62 119) + l2)) 62 120) ≠ 0) → (((l1 ≠ 4) → ((-9223372036854775808 ≤ l2 ∧ l2 < 9223372036854775808) ∧ (-9223372036854775808 ≤ ((wr m 62 119 ((m 62 119) + l2)) 62 119) ∧ ((wr m 62 119 ((m 62 119) + l2)) 62 119) < 9223372036854775808) ∧ ((((wr m 62 119 ((m 62 119) + l2)) 62 119) ≤ l2) → (Q none (wr (wr m 62 119 ((m 62 119) + l2)) 62 120 0))) ∧ (¬ (((wr m 62 119 ((m 62 119) + l2)) 62 119) ≤ l2) → (Q none (wr (wr (wr m 62 119 ((m 62 119) + l2)) 62 119 l2) 62 120 0))))) ∧ (¬ (l1 ≠ 4) → ((-9223372036854775808 ≤ l2 ∧ l2 < 9223372036854775808) ∧ (-9223372036854775808 ≤ ((wr m 62 119 ((m 62 119) + l2)) 62 119) ∧ ((wr m 62 119 ((m 62 119) + l2)) 62 119) < 9223372036854775808) ∧ ((l2 ≤ ((wr m 62 119 ((m 62 119) + l2)) 62 119)) → (Q none (wr (wr m 62 119 ((m 62 119) + l2)) 62 120 0))) ∧ (¬ (l2 ≤ ((wr m 62 119 ((m 62 119) + l2)) 62 119)) → (Q none (wr (wr (wr m 62 119 ((m 62 119) + l2)) 62 119 l2) 62 120 0))))))))))))) ∧ (¬ (l1 ≠ 2) → ((((if 3 ≤ l1 then 0 else (if l2 ≠ 1 then 0 else 1 : Int) : Int) = 0) → (((l1 ≠ 3) → (((l1 ≤ 3) → (Q none (wr m 62 120 0))) ∧ (¬ (l1 ≤ 3) → ((-2147483648 ≤ (m 62 120) ∧ (m 62 120) < 2147483648) ∧ (((m 62 120) ≠ 0) → (Q none (wr (wr m 62 119 l2) 62 120 0))) ∧ (¬ ((m 62 120) ≠ 0) → (((l1 ≠ 4) → ((-9223372036854775808 ≤ l2 ∧ l2 < 9223372036854775808) ∧ (((m 62 119) ≤ l2) → (Q none (wr m 62 120 0))) ∧ (¬ ((m 62 119) ≤ l2) → (Q none (wr (wr m 62 119 l2) 62 120 0))))) ∧ (¬ (l1 ≠ 4) → ((-9223372036854775808 ≤ l2 ∧ l2 < 9223372036854775808) ∧ ((l2 ≤ (m 62 119)) → (Q none (wr m 62 120 0))) ∧ (¬ (l2 ≤ (m 62 119)) → (Q none (wr (wr m 62 119 l2) 62 120 0))))))))))) ∧ (¬ (l1 ≠ 3) → (((l1 ≤ 3) → (Q none (wr (wr m 62 119 ((m 62 119) + l2)) 62 120 0))) ∧ (¬ (l1 ≤ 3) → ((-2147483648 ≤ ((wr m 62 119 ((m 62 119) + l2)) 62 120) ∧ ((wr m 62 119 ((m 62 119) + l2)) 62 120) < 2147483648) ∧ ((((wr m 62 119 ((m 62 119) + l2)) 62 120) ≠ 0) → (Q none (wr (wr (wr m 62 119 ((m 62 119) + l2)) 62 119 l2) 62 120 0))) ∧ (¬ (((wr m 62 119 ((m 62 119) + l2)) 62 120) ≠ 0) → (((l1 ≠ 4) → ((-9223372036854775808 ≤ l2 ∧ l2 < 9223372036854775808) ∧ (-9223372036854775808 ≤ ((wr m 62 119 ((m 62 119) + l2)) 62 119) ∧ ((wr m 62 119 ((m 62 119) + l2)) 62 119) < 9223372036854775808) ∧ ((((wr m 62 119 ((m 62 119) + l2)) 62 119) ≤ l2) → (Q none (wr (wr m 62 119 ((m 62 119) + l2)) 62 120 0))) ∧ (¬ (((wr m 62 119 ((m 62 119) + l2)) 62 119) ≤ l2) → (Q none (wr (wr (wr m 62 119 ((m 62 119) + l2)) 62 119 l2) 62 120 0))))) ∧ (¬ (l1 ≠ 4) → ((-9223372036854775808 ≤ l2 ∧ l2 < 9223372036854775808) ∧ (-9223372036854775808 ≤ ((wr m 62 119 ((m 62 119) + l2)) 62 119) ∧ ((wr m 62 119 ((m 62 119) + l2)) 62 119) < 9223372036854775808) ∧ ((l2 ≤ ((wr m 62 119 ((m 62 119) + l2)) 62 119)) → (Q none (wr (wr m 62 119 ((m 62 119) + l2)) 62 120 0))) ∧ (¬ (l2 ≤ ((wr m 62 119 ((m 62 119) + l2)) 62 119)) → (Q none (wr (wr (wr m 62 119 ((m 62 119) + l2)) 62 119 l2) 62 120 0))))))))))))) ∧ (¬ ((if 3 ≤ l1 then 0 else (if l2 ≠ 1 then 0 else 1 : Int) : Int) = 0) → (((l1 ≠ 3) → (((l1 ≤ 3) → (Q none (wr (wr m 62 119 ((m 62 119) + 1)) 62 120 0))) ∧ (¬ (l1 ≤ 3) → ((-2147483648 ≤ ((wr m 62 119 ((m 62 119) + 1)) 62 120) ∧ ((wr m 62 119 ((m 62 119) + 1)) 62 120) < 2147483648) ∧ ((((wr m 62 119 ((m 62 119) + 1)) 62 120) ≠ 0) → (Q none (wr (wr (wr m 62 119 ((m 62 119) + 1)) 62 119 l2) 62 120 0))) ∧ (¬ (((wr m 62 119 ((m 62 119) + 1)) 62 120) ≠ 0) → (((l1 ≠ 4) → ((-9223372036854775808 ≤ l2 ∧ l2 < 9223372036854775808) ∧ (-9223372036854775808 ≤ ((wr m 62 119 ((m 62 119) + 1)) 62 119) ∧ ((wr m 62 119 ((m 62 119) + 1)) 62 119) < 9223372036854775808) ∧ ((((wr m 62 119 ((m 62 119) + 1)) 62 119) ≤ l2) → (Q none (wr (wr m 62 119 ((m 62 119) + 1)) 62 120 0))) ∧ (¬ (((wr m 62 119 ((m 62 119) + 1)) 62 119) ≤ l2) → (Q none (wr (wr (wr m 62 119 ((m 62 119) + 1)) 62 119 l2) 62 120 0))))) ∧ (¬ (l1 ≠ 4) → ((-9223372036854775808 ≤ l2 ∧ l2 < 9223372036854775808) ∧ (-9223372036854775808 ≤ ((wr m 62 119 ((m 62 119) + 1)) 62 119) ∧ ((wr m 62 119 ((m 62 119) + 1)) 62 119) < 9223372036854775808) ∧ ((l2 ≤ ((wr m 62 119 ((m 62 119) + 1)) 62 119)) → (Q none (wr (wr m 62 119 ((m 62 119) + 1)) 62 120 0))) ∧ (¬ (l2 ≤ ((wr m 62 119 ((m 62 119) + 1)) 62 119)) → (Q none (wr (wr (wr m 62 119 ((m 62 119) + 1)) 62 119 l2) 62 120 0))))))))))) ∧ (¬ (l1 ≠ 3) → (((l1 ≤ 3) → (Q none (wr (wr (wr m 62 119 ((m 62 119) + 1)) 62 119 (((wr m 62 119 ((m 62 119) + 1)) 62 119) + l2)) 62 120 0))) ∧ (¬ (l1 ≤ 3) → ((-2147483648 ≤ ((wr (wr m 62 119 ((m 62 119) + 1)) 62 119 (((wr m 62 119 ((m 62 119) + 1)) 62 119) + l2)) 62 120) ∧ ((wr (wr m 62 119 ((m 62 119) + 1)) 62 119 (((wr m 62 119 ((m 62 119) + 1)) 62 119) + l2)) 62 120) < 2147483648) ∧ ((((wr (wr m 62 119 ((m 62 119) + 1)) 62 119 (((wr m 62 119 ((m 62 119) + 1)) 62 119) + l2)) 62 120) ≠ 0) → (Q none (wr (wr (wr (wr m 62 119 ((m 62 119) + 1)) 62 119 (((wr m 62 119 ((m 62 119) + 1)) 62 119) + l2)) 62 119 l2) 62 120 0))) ∧ (¬ (((wr (wr m 62 119 ((m 62 119) + 1)) 62 119 (((wr m 62 119 ((m 62 119) + 1)) 62 119) + l2)) 62 120) ≠ 0) → (((l1 ≠ 4) → ((-9223372036854775808 ≤ l2 ∧ l2 < 9223372036854775808) ∧ (-9223372036854775808 ≤ ((wr (wr m 62 119 ((m 62 119) + 1)) 62 119 (((wr m 62 119 ((m 62 119) + 1)) 62 119) + l2)) 62 119) ∧ ((wr (wr m 62 119 ((m 62 119) + 1)) 62 119 (((wr m 62 119 ((m 62 119) + 1)) 62 119) + l2)) 62 119) < 9223372036854775808) ∧ ((((wr (wr m 62 119 ((m 62 119) + 1)) 62 119 (((wr m 62 119 ((m 62 119) + 1)) 62 119) + l2)) 62 119) ≤ l2) → (Q none (wr (wr (wr m 62 119 ((m 62 119) + 1)) 62 119 (((wr m 62 119 ((m 62 119) + 1)) 62 119) + l2)) 62 120 0))) ∧ (¬ (((wr (wr m 62 119 ((m 62 119) + 1)) 62 119 (((wr m 62 119 ((m 62 119) + 1)) 62 119) + l2)) 62 119) ≤ l2) → (Q none (wr (wr (wr (wr m 62 119 ((m 62 119) + 1)) 62 119 (((wr m 62 119 ((m 62 119) + 1)) 62 119) + l2)) 62 119 l2) 62 120 0))))) ∧ (¬ (l1 ≠ 4) → ((-9223372036854775808 ≤ l2 ∧ l2 < 9223372036854775808) ∧ (-9223372036854775808 ≤ ((wr (wr m 62 119 ((m 62 119) + 1)) 62 119 (((wr m 62 119 ((m 62 119) + 1)) 62 119) + l2)) 62 119) ∧ ((wr (wr m 62 119 ((m 62 119) + 1)) 62 119 (((wr m 62 119 ((m 62 119) + 1)) 62 119) + l2)) 62 119) < 9223372036854775808) ∧ ((l2 ≤ ((wr (wr m 62 119 ((m 62 119) + 1)) 62 119 (((wr m 62 119 ((m 62 119) + 1)) 62 119) + l2)) 62 119)) → (Q none (wr (wr (wr m 62 119 ((m 62 119) + 1)) 62 119 (((wr m 62 119 ((m 62 119) + 1)) 62 119) + l2)) 62 120 0))) ∧ (¬ (l2 ≤ ((wr (wr m 62 119 ((m 62 119) + 1)) 62 119 (((wr m 62 119 ((m 62 119) + 1)) 62 119) + l2)) 62 119)) → (Q none (wr (wr (wr (wr m 62 119 ((m 62 119) + 1)) 62 119 (((wr m 62 119 ((m 62 119) + 1)) 62 119) + l2)) 62 119 l2) 62 120 0))))))))))))))))) ∧ (¬ ((if 3 ≤ l1 then 0 else (if l2 ≠ 1 then 0 else 1 : Int) : Int) = 0) → ((-2147483648 ≤ l4 ∧ l4 < 2147483648) ∧ ((l1 ≠ 2) → (((l1 ≠ 3) → (((l1 ≤ 3) → (Q none (wr (wr m 62 119 l4) 62 120 0))) ∧ (¬ (l1 ≤ 3) → ((-2147483648 ≤ ((wr m 62 119 l4) 62 120) ∧ ((wr m 62 119 l4) 62 120) < 2147483648) ∧ ((((wr m 62 119 l4) 62 120) ≠ 0) → (Q none (wr (wr (wr m 62 119 l4) 62 119 l2) 62 120 0))) ∧ (¬ (((wr m 62 119 l4) 62 120) ≠ 0) → (((l1 ≠ 4) → ((-9223372036854775808 ≤ l2 ∧ l2 < 9223372036854775808) ∧ (-9223372036854775808 ≤ ((wr m 62 119 l4) 62 119) ∧ ((wr m 62 119 l4) 62 119) < 9223372036854775808) ∧ ((((wr m 62 119 l4) 62 119) ≤ l2) → (Q none (wr (wr m 62 119 l4) 62 120 0))) ∧ (¬ (((wr m 62 119 l4) 62 119) ≤ l2) → (Q none (wr (wr (wr m 62 119 l4) 62 119 l2) 62 120 0))))) ∧ (¬ (l1 ≠ 4) → ((-9223372036854775808 ≤ l2 ∧ l2 < 9223372036854775808) ∧ (-9223372036854775808 ≤ ((wr m 62 119 l4) 62 119) ∧ ((wr m 62 119 l4) 62 119) < 9223372036854775808) ∧ ((l2 ≤ ((wr m 62 119 l4) 62 119)) → (Q none (wr (wr m 62 119 l4) 62 120 0))) ∧ (¬ (l2 ≤ ((wr m 62 119 l4) 62 119)) → (Q none (wr (wr (wr m 62 119 l4) 62 119 l2) 62 120 0))))))))))) ∧ (¬ (l1 ≠ 3) → (((l1 ≤ 3) → (Q none (wr (wr (wr m 62 119 l4) 62 119 (((wr m 62 119 l4) 62 119) + l2)) 62 120 0))) ∧ (¬ (l1 ≤ 3) → ((-2147483648 ≤ ((wr (wr m 62 119 l4) 62 119 (((wr m 62 119 l4) 62 119) + l2)) 62 120) ∧ ((wr (wr m 62 119 l4) 62 119 (((wr m 62 119 l4) 62 119) + l2)) 62 120) < 2147483648) ∧ ((((wr (wr m 62 119 l4) 62 119 (((wr m 62 119 l4) 62 119) + l2)) 62 120) ≠ 0) → (Q none (wr (wr (wr (wr m 62 119 l4) 62 119 (((wr m 62 119 l4) 62 119) + l2)) 62 119 l2) 62 120 0))) ∧ (¬ (((wr (wr m 62 119 l4) 62 119 (((wr m 62 119 l4) 62 119) + l2)) 62 120) ≠ 0) → (((l1 ≠ 4) → ((-9223372036854775808 ≤ l2 ∧ l2 < 9223372036854775808) ∧ (-9223372036854775808 ≤ ((wr (wr m 62 119 l4) 62 119 (((wr m 62 119 l4) 62 119) + l2)) 62 119) ∧ ((wr (wr m 62 119 l4) 62 119 (((wr m 62 119 l4) 62 119) + l2)) 62 119) < 9223372036854775808) ∧ ((((wr (wr m 62 119 l4) 62 119 (((wr m 62 119 l4) 62 119) + l2)) 62 119) ≤ l2) → (Q none (wr (wr (wr m 62 119 l4) 62 119 (((wr m 62 119 l4) 62 119) + l2)) 62 120 0))) ∧ (¬ (((wr (wr m 62 119 l4) 62 119 (((wr m 62 119 l4) 62 119) + l2)) 62 119) ≤ l2) → (Q none (wr (wr (wr (wr m 62 119 l4) 62 119 (((wr m 62 119 l4) 62 119) + l2)) 62 119 l2) 62 120 0))))) ∧ (¬ (l1 ≠ 4) → ((-9223372036854775808 ≤ l2 ∧ l2 < 9223372036854775808) ∧ (-9223372036854775808 ≤ ((wr (wr m 62 119 l4) 62 119 (((wr m 62 119 l4) 62 119) + l2)) 62 119) ∧ ((wr (wr m 62 119 l4) 62 119 (((wr m 62 119 l4) 62 119) + l2)) 62 119) < 9223372036854775808) ∧ ((l2 ≤ ((wr (wr m 62 119 l4) 62 119 (((wr m 62 119 l4) 62 119) + l2)) 62 119)) → (Q none (wr (wr (wr m 62 119 l4) 62 119 (((wr m 62 119 l4) 62 119) + l2)) 62 120 0))) ∧ (¬ (l2 ≤ ((wr (wr m 62 119 l4) 62 119 (((wr m 62 119 l4) 62 119) + l2)) 62 119)) → (Q none (wr (wr (wr (wr m 62 119 l4) 62 119 (((wr m 62 119 l4) 62 119) + l2)) 62 119 l2) 62 120 0))))))))))))) ∧ (¬ (l1 ≠ 2) → ((((if 3 ≤ l1 then 0 else (if l2 ≠ 1 then 0 else 1 : Int) : Int) = 0) → (((l1 ≠ 3) → (((l1 ≤ 3) → (Q none (wr (wr m 62 119 l4) 62 120 0))) ∧ (¬ (l1 ≤ 3) → ((-2147483648 ≤ ((wr m 62 119 l4) 62 120) ∧ ((wr m 62 119 l4) 62 120) < 2147483648) ∧ ((((wr m 62 119 l4) 62 120) ≠ 0) → (Q none (wr (wr (wr m 62 119 l4) 62 119 l2) 62 120 0))) ∧ (¬ (((wr m 62 119 l4) 62 120) ≠ 0) → (((l1 ≠ 4) → ((-9223372036854775808 ≤ l2 ∧ l2 < 9223372036854775808) ∧ (-9223372036854775808 ≤ ((wr m 62 119 l4) 62 119) ∧ ((wr m 62 119 l4) 62 119) < 9223372036854775808) ∧ ((((wr m 62 119 l4) 62 119) ≤ l2) → (Q none (wr (wr m 62 119 l4) 62 120 0))) ∧ (¬ (((wr m 62 119 l4) 62 119) ≤ l2) → (Q none (wr (wr (wr m 62 119 l4) 62 119 l2) 62 120 0))))) ∧ (¬ (l1 ≠ 4) → ((-9223372036854775808 ≤ l2 ∧ l2 < 9223372036854775808) ∧ (-9223372036854775808 ≤ ((wr m 62 119 l4) 62 119) ∧ ((wr m 62 119 l4) 62 119) < 9223372036854775808) ∧ ((l2 ≤ ((wr m 62 119 l4) 62 119)) → (Q none (wr (wr m 62 119 l4) 62 120 0))) ∧ (¬ (l2 ≤ ((wr m 62 119 l4) 62 119)) → (Q none (wr (wr (wr m 62 119 l4) 62 119 l2) 62 120 0))))))))))) ∧ (¬ (l1 ≠ 3) → (((l1 ≤ 3) → (Q none (wr (wr (wr m 62 119 l4) 62 119 (((wr m 62 119 l4) 62 119) + l2)) 62 120 0))) ∧ (¬ (l1 ≤ 3) → ((-2147483648 ≤ ((wr (wr m 62 119 l4) 62 119 (((wr m 62 119 l4) 62 119) + l2)) 62 120) ∧ ((wr (wr m 62 119 l4) 62 119 (((wr m 62 119 l4) 62 119) + l2)) 62 120) < 2147483648) ∧ ((((wr (wr m 62 119 l4) 62 119 (((wr m 62 119 l4) 62 119) + l2)) 62 120) ≠ 0) → (Q none (wr (wr (wr (wr m 62 119 l4) 62 119 (((wr m 62 119 l4) 62 119) + l2)) 62 119 l2) 62 120 0))) ∧ (¬ (((wr (wr m 62 119 l4) 62 119 (((wr m 62 119 l4) 62 119) + l2)) 62 120) ≠ 0) → (((l1 ≠ 4) → ((-9223372036854775808 ≤ l2 ∧ l2 < 9223372036854775808) ∧ (-9223372036854775808 ≤ ((wr (wr m 62 119 l4) 62 119 (((wr m 62 119 l4) 62 119) + l2)) 62 119) ∧ ((wr (wr m 62 119 l4) 62 119 (((wr m 62 119 l4) 62 119) + l2)) 62 119) < 9223372036854775808) ∧ ((((wr (wr m 62 119 l4) 62 119 (((wr m 62 119 l4) 62 119) + l2)) 62 119) ≤ l2) → (Q none (wr (wr (wr m 62 119 l4) 62 119 (((wr m 62 119 l4) 62 119) + l2)) 62 120 0))) ∧ (¬ (((wr (wr m 62 119 l4) 62 119 (((wr m 62 119 l4) 62 119) + l2)) 62 119) ≤ l2) → (Q none (wr (wr (wr (wr m 62 119 l4) 62 119 (((wr m 62 119 l4) 62 119) + l2)) 62 119 l2) 62 120 0))))) ∧ (¬ (l1 ≠ 4) → ((-9223372036854775808 ≤ l2 ∧ l2 < 9223372036854775808) ∧ (-9223372036854775808 ≤ ((wr (wr m 62 119 l4) 62 119 (((wr m 62 119 l4) 62 119) + l2)) 62 119) ∧ ((wr (wr m 62 119 l4) 62 119 (((wr m 62 119 l4) 62 119) + l2)) 62 119) < 9223372036854775808) ∧ ((l2 ≤ ((wr (wr m 62 119 l4) 62 119 (((wr m 62 119 l4) 62 119) + l2)) 62 119)) → (Q none (wr (wr (wr m 62 119 l4) 62 119 (((wr m 62 119 l4) 62 119) + l2)) 62 120 0))) ∧ (¬ (l2 ≤ ((wr (wr m 62 119 l4) 62 119 (((wr m 62 119 l4) 62 119) + l2)) 62 119)) → (Q none (wr (wr (wr (wr m 62 119 l4) 62 119 (((wr m 62 119 l4) 62 119) + l2)) 62 119 l2) 62 120 0))))))))))))) ∧ (¬ ((if 3 ≤ l1 then 0 else (if l2 ≠ 1 then 0 else 1 : Int) : Int) = 0) → (((l1 ≠ 3) → (((l1 ≤ 3) → (Q none (wr (wr (wr m 62 119 l4) 62 119 (((wr m 62 119 l4) 62 119) + 1)) 62 120 0))) ∧ (¬ (l1 ≤ 3) → ((-2147483648 ≤ ((wr (wr m 62 119 l4) 62 119 (((wr m 62 119 l4) 62 119) + 1)) 62 120) ∧ ((wr (wr m 62 119 l4) 62 119 (((wr m 62 119 l4) 62 119) + 1)) 62 120) < 2147483648) ∧ ((((wr (wr m 62 119 l4) 62 119 (((wr m 62 119 l4) 62 119) + 1)) 62 120) ≠ 0) → (Q none (wr (wr (wr (wr m 62 119 l4) 62 119 (((wr m 62 119 l4) 62 119) + 1)) 62 119 l2) 62 120 0))) ∧ (¬ (((wr (wr m 62 119 l4) 62 119 (((wr m 62 119 l4) 62 119) + 1)) 62 120) ≠ 0) → (((l1 ≠ 4) → ((-9223372036854775808 ≤ l2 ∧ l2 < 9223372036854775808) ∧ (-9223372036854775808 ≤ ((wr (wr m 62 119 l4) 62 119 (((wr m 62 119 l4) 62 119) + 1)) 62 119) ∧ ((wr (wr m 62 119 l4) 62 119 (((wr m 62 119 l4) 62 119) + 1)) 62 119) < 9223372036854775808) ∧ ((((wr (wr m 62 119 l4) 62 119 (((wr m 62 119 l4) 62 119) + 1)) 62 119) ≤ l2) → (Q none (wr (wr (wr m 62 119 l4) 62 119 (((wr m 62 119 l4) 62 119) + 1)) 62 120 0))) ∧ (¬ (((wr (wr m 62 119 l4) 62 119 (((wr m 62 119 l4) 62 119) + 1)) 62 119) ≤ l2) → (Q none (wr (wr (wr (wr m 62 119 l4) 62 119 (((wr m 62 119 l4) 62 119) + 1)) 62 119 l2) 62 120 0))))) ∧ (¬ (l1 ≠ 4) → ((-9223372036854775808 ≤ l2 ∧ l2 < 9223372036854775808) ∧ (-9223372036854775808 ≤ ((wr (wr m 62 119 l4) 62 119 (((wr m 62 119 l4) 62 119) + 1)) 62 119) ∧ ((wr (wr m 62 119 l4) 62 119 (((wr m 62 119 l4) 62 119) + 1)) 62 119) < 9223372036854775808) ∧ ((l2 ≤ ((wr (wr m 62 119 l4) 62 119 (((wr m 62 119 l4) 62 119) + 1)) 62 119)) → (Q none (wr (wr (wr m 62 119 l4) 62 119 (((wr m 62 119 l4) 62 119) + 1)) 62 120 0))) ∧ (¬ (l2 ≤ ((wr (wr m 62 119 l4) 62 119 (((wr m 62 119 l4) 62 119) + 1)) 62 119)) → (Q none (wr (wr (wr (wr m 62 119 l4) 62 119 (((wr m 62 119 l4) 62 119) + 1)) 62 119 l2) 62 120 0))))))))))) ∧ (¬ (l1 ≠ 3) → (((l1 ≤ 3) → (Q none (wr (wr (wr (wr m 62 119 l4) 62 119 (((wr m 62 119 l4) 62 119) + 1)) 62 119 (((wr (wr m 62 119 l4) 62 119 (((wr m 62 119 l4) 62 119) + 1)) 62 119) + l2)) 62 120 0))) ∧ (¬ (l1 ≤ 3) → ((-2147483648 ≤ ((wr (wr (wr m 62 119 l4) 62 119 (((wr m 62 119 l4) 62 119) + 1)) 62 119 (((wr (wr m 62 119 l4) 62 119 (((wr m 62 119 l4) 62 119) + 1)) 62 119) + l2)) 62 120) ∧ ((wr (wr (wr m 62 119 l4) 62 119 (((wr m 62 119 l4) 62 119) + 1)) 62 119 (((wr (wr m 62 119 l4) 62 119 (((wr m 62 119 l4) 62 119) + 1)) 62 119) + l2)) 62 120) < 2147483648) ∧ ((((wr (wr (wr m 62 119 l4) 62 119 (((wr m 62 119 l4) 62 119) + 1)) 62 119 (((wr (wr m 62 119 l4) 62 119 (((wr m 62 119 l4) 62 119) + 1)) 62 119) + l2)) 62 120) ≠ 0) → (Q none (wr (wr (wr (wr (wr m 62 119 l4) 62 119 (((wr m 62 119 l4) 62 119) + 1)) 62 119 (((wr (wr m 62 119 l4) 62 119 (((wr m 62 119 l4) 62 119) + 1)) 62 119) + l2)) 62 119 l2) 62 120 0))) ∧ (¬ (((wr (wr (wr m 62 119 l4) 62 119 (((wr m 62 119 l4) 62 119) + 1)) 62 119 (((wr (wr m 62 119 l4) 62 119 (((wr m 62 119 l4) 62 119) + 1)) 62 119) + l2)) 62 120) ≠ 0) → (((l1 ≠ 4) → ((-9223372036854775808 ≤ l2 ∧ l2 < 9223372036854775808) ∧ (-9223372036854775808 ≤ ((wr (wr (wr m 62 119 l4) 62 119 (((wr m 62 119 l4) 62 119) + 1)) 62 119 (((wr (wr m 62 119 l4) 62 119 (((wr m 62 119 l4) 62 119) + 1)) 62 119) + l2)) 62 119) ∧ ((wr (wr (wr m 62 119 l4) 62 119 (((wr m 62 119 l4) 62 119) + 1)) 62 119 (((wr (wr m 62 119 l4) 62 119 (((wr m 62 119 l4) 62 119) + 1)) 62 119) + l2)) 62 119) < 9223372036854775808) ∧ ((((wr (wr (wr m 62 119 l4) 62 119 (((wr m 62 119 l4) 62 119) + 1)) 62 119 (((wr (wr m 62 119 l4) 62 119 (((wr m 62 119 l4) 62 119) + 1)) 62 119) + l2)) 62 119) ≤ l2) → (Q none (wr (wr (wr (wr m 62 119 l4) 62 119 (((wr m 62 119 l4) 62 119) + 1)) 62 119 (((wr (wr m 62 119 l4) 62 119 (((wr m 62 119 l4) 62 119) + 1)) 62 119) + l2)) 62 120 0))) ∧ (¬ (((wr (wr (wr m 62 119 l4) 62 119 (((wr m 62 119 l4) 62 119) + 1)) 62 119 (((wr (wr m 62 119 l4) 62 119 (((wr m 62 119 l4) 62 119) + 1)) 62 119) + l2)) 62 119) ≤ l2) → (Q none (wr (wr (wr (wr (wr m 62 119 l4) 62 119 (((wr m 62 119 l4) 62 119) + 1)) 62 119 (((wr (wr m 62 119 l4) 62 119 (((wr m 62 119 l4) 62 119) + 1)) 62 119) + l2)) 62 119 l2) 62 120 0))))) ∧ (¬ (l1 ≠ 4) → ((-9223372036854775808 ≤ l2 ∧ l2 < 9223372036854775808) ∧ (-9223372036854775808 ≤ ((wr (wr (wr m 62 119 l4) 62 119 (((wr m 62 119 l4) 62 119) + 1)) 62 119 (((wr (wr m 62 119 l4) 62 119 (((wr m 62 119 l4) 62 119) + 1)) 62 119) + l2)) 62 119) ∧ ((wr (wr (wr m 62 119 l4) 62 119 (((wr m 62 119 l4) 62 119) + 1)) 62 119 (((wr (wr m 62 119 l4) 62 119 (((wr m 62 119 l4) 62 119) + 1)) 62 119) + l2)) 62 119) < 9223372036854775808) ∧ ((l2 ≤ ((wr (wr (wr m 62 119 l4) 62 119 (((wr m 62 119 l4) 62 119) + 1)) 62 119 (((wr (wr m 62 119 l4) 62 119 (((wr m 62 119 l4) 62 119) + 1)) 62 119) + l2)) 62 119)) → (Q none (wr (wr (wr (wr m 62 119 l4) 62 119 (((wr m 62 119 l4) 62 119) + 1)) 62 119 (((wr (wr m 62 119 l4) 62 119 (((wr m 62 119 l4) 62 119) + 1)) 62 119) + l2)) 62 120 0))) ∧ (¬ (l2 ≤ ((wr (wr (wr m 62 119 l4) 62 119 (((wr m 62 119 l4) 62 119) + 1)) 62 119 (((wr (wr m 62 119 l4) 62 119 (((wr m 62 119 l4) 62 119) + 1)) 62 119) + l2)) 62 119)) → (Q none (wr (wr (wr (wr (wr m 62 119 l4) 62 119 (((wr m 62 119 l4) 62 119) + 1)) 62 119 (((wr (wr m 62 119 l4) 62 119 (((wr m 62 119 l4) 62 119) + 1)) 62 119) + l2)) 62 119 l2) 62 120 0)))))))))))))))))))))))))) : S_X8_qTakes sc d 0 [aR 62, aI l1, aJ l2, aU, aI l4, aU] [] m Q := by
  refine x_iload_n (pc2 := 1) dX8_qTakes_0 rfl rfl ?_
  refine x_iconst (pc2 := 2) dX8_qTakes_1 rfl ?_
  obtain ⟨g2, k⟩ := k
  obtain ⟨g4, k⟩ := k
  have kj : S_X8_qTakes sc d 16 [aR 62, aI l1, aJ l2, aU, aI l4, aU] [aI (if 3 ≤ l1 then 0 else (if l2 ≠ 1 then 0 else 1 : Int) : Int)] m Q := by
    refine x_istore (pc2 := 18) (ls2 := [aR 62, aI l1, aJ l2, aU, aI l4, aI (if 3 ≤ l1 then 0 else (if l2 ≠ 1 then 0 else 1 : Int) : Int)]) dX8_qTakes_16 rfl (by decide) rfl ?_
    refine x_iload_n (pc2 := 19) dX8_qTakes_18 rfl rfl ?_
    obtain ⟨h5, k⟩ := k
    obtain ⟨k1, k2⟩ := k
    refine x_if_ne (tgt := 38) (pc2 := 22) dX8_qTakes_19 (by decide) rfl h5 (fun c6 => ?_) (fun c6 => ?_)
    · replace k := k1 c6
      refine x_iload_n (pc2 := 39) dX8_qTakes_38 rfl rfl ?_
      refine x_iconst (pc2 := 40) dX8_qTakes_39 rfl ?_
      obtain ⟨k1, k2⟩ := k
      refine x_icmp_ne (tgt := 55) (pc2 := 43) dX8_qTakes_40 (by decide) rfl h5 (by decide) (fun c7 => ?_) (fun c7 => ?_)
      · replace k := k1 c7
        refine x_iload_n (pc2 := 56) dX8_qTakes_55 rfl rfl ?_
        refine x_iconst (pc2 := 57) dX8_qTakes_56 rfl ?_
        obtain ⟨k1, k2⟩ := k
        refine x_icmp_ne (tgt := 75) (pc2 := 60) dX8_qTakes_57 (by decide) rfl h5 (by decide) (fun c8 => ?_) (fun c8 => ?_)
        · replace k := k1 c8
          refine x_iload_n (pc2 := 76) dX8_qTakes_75 rfl rfl ?_
          refine x_iconst (pc2 := 77) dX8_qTakes_76 rfl ?_
          obtain ⟨k1, k2⟩ := k
          refine x_icmp_ne (tgt := 90) (pc2 := 80) dX8_qTakes_77 (by decide) rfl h5 (by decide) (fun c9 => ?_) (fun c9 => ?_)
          · replace k := k1 c9
            refine x_iload_n (pc2 := 91) dX8_qTakes_90 rfl rfl ?_
            refine x_iconst (pc2 := 92) dX8_qTakes_91 rfl ?_
            obtain ⟨k1, k2⟩ := k
            refine x_icmp_le (tgt := 133) (pc2 := 95) dX8_qTakes_92 (by decide) rfl h5 (by decide) (fun c10 => ?_) (fun c10 => ?_)
            · replace k := k1 c10
              refine x_aload_n (pc2 := 134) dX8_qTakes_133 rfl rfl ?_
              refine x_iconst (pc2 := 135) dX8_qTakes_134 rfl ?_
              refine x_putf (pc2 := 138) (x := 0) fl_X8_715 ft_8_120 ic_62 (pv_i _ ic_62 rfl) (pn_z (by decide)) dX8_qTakes_135 rfl ?_
              exact x_return dX8_qTakes_138 rfl k
            · replace k := k2 c10
              refine x_aload_n (pc2 := 96) dX8_qTakes_95 rfl rfl ?_
              refine x_getf (pc2 := 99) (v := aI (m 62 120)) fl_X8_715 ic_62 (fv_i _ ic_62 rfl) dX8_qTakes_96 rfl ?_
              obtain ⟨h11, k⟩ := k
              obtain ⟨k1, k2⟩ := k
              refine x_if_ne (tgt := 128) (pc2 := 102) dX8_qTakes_99 (by decide) rfl h11 (fun c12 => ?_) (fun c12 => ?_)
              · replace k := k1 c12
                refine x_aload_n (pc2 := 129) dX8_qTakes_128 rfl rfl ?_
                refine x_lload_n (pc2 := 130) dX8_qTakes_129 rfl rfl ?_
                refine x_putf (pc2 := 133) (x := l2) fl_X8_710 ft_8_119 ic_62 (pv_j _ ic_62 rfl) (pn_j _) dX8_qTakes_130 rfl ?_
                refine x_aload_n (pc2 := 134) dX8_qTakes_133 rfl rfl ?_
                refine x_iconst (pc2 := 135) dX8_qTakes_134 rfl ?_
                refine x_putf (pc2 := 138) (x := 0) fl_X8_715 ft_8_120 ic_62 (pv_i _ ic_62 rfl) (pn_z (by decide)) dX8_qTakes_135 rfl ?_
                exact x_return dX8_qTakes_138 rfl k
              · replace k := k2 c12
                refine x_iload_n (pc2 := 103) dX8_qTakes_102 rfl rfl ?_
                refine x_iconst (pc2 := 104) dX8_qTakes_103 rfl ?_
                obtain ⟨k1, k2⟩ := k
                refine x_icmp_ne (tgt := 119) (pc2 := 107) dX8_qTakes_104 (by decide) rfl h5 (by decide) (fun c13 => ?_) (fun c13 => ?_)
                · replace k := k1 c13
                  refine x_lload_n (pc2 := 120) dX8_qTakes_119 rfl rfl ?_
                  refine x_aload_n (pc2 := 121) dX8_qTakes_120 rfl rfl ?_
                  refine x_getf (pc2 := 124) (v := aJ (m 62 119)) fl_X8_710 ic_62 (fv_j _ ic_62 rfl) dX8_qTakes_121 rfl ?_
                  obtain ⟨h14, k⟩ := k
                  obtain ⟨h15, k⟩ := k
                  obtain ⟨k1, k2⟩ := k
                  refine x_lc_ge (tgt := 133) (pc2 := 128) dX8_qTakes_124 dX8_qTakes_125 (by decide) rfl h14 h15 (fun c16 => ?_) (fun c16 => ?_)
                  · replace k := k1 c16
                    refine x_aload_n (pc2 := 134) dX8_qTakes_133 rfl rfl ?_
                    refine x_iconst (pc2 := 135) dX8_qTakes_134 rfl ?_
                    refine x_putf (pc2 := 138) (x := 0) fl_X8_715 ft_8_120 ic_62 (pv_i _ ic_62 rfl) (pn_z (by decide)) dX8_qTakes_135 rfl ?_
                    exact x_return dX8_qTakes_138 rfl k
                  · replace k := k2 c16
                    refine x_aload_n (pc2 := 129) dX8_qTakes_128 rfl rfl ?_
                    refine x_lload_n (pc2 := 130) dX8_qTakes_129 rfl rfl ?_
                    refine x_putf (pc2 := 133) (x := l2) fl_X8_710 ft_8_119 ic_62 (pv_j _ ic_62 rfl) (pn_j _) dX8_qTakes_130 rfl ?_
                    refine x_aload_n (pc2 := 134) dX8_qTakes_133 rfl rfl ?_
                    refine x_iconst (pc2 := 135) dX8_qTakes_134 rfl ?_
                    refine x_putf (pc2 := 138) (x := 0) fl_X8_715 ft_8_120 ic_62 (pv_i _ ic_62 rfl) (pn_z (by decide)) dX8_qTakes_135 rfl ?_
                    exact x_return dX8_qTakes_138 rfl k
                · replace k := k2 c13
                  refine x_lload_n (pc2 := 108) dX8_qTakes_107 rfl rfl ?_
                  refine x_aload_n (pc2 := 109) dX8_qTakes_108 rfl rfl ?_
                  refine x_getf (pc2 := 112) (v := aJ (m 62 119)) fl_X8_710 ic_62 (fv_j _ ic_62 rfl) dX8_qTakes_109 rfl ?_
                  obtain ⟨h17, k⟩ := k
                  obtain ⟨h18, k⟩ := k
                  obtain ⟨k1, k2⟩ := k
                  refine x_lc_le (tgt := 133) (pc2 := 116) dX8_qTakes_112 dX8_qTakes_113 (by decide) rfl h17 h18 (fun c19 => ?_) (fun c19 => ?_)
                  · replace k := k1 c19
                    refine x_aload_n (pc2 := 134) dX8_qTakes_133 rfl rfl ?_
                    refine x_iconst (pc2 := 135) dX8_qTakes_134 rfl ?_
                    refine x_putf (pc2 := 138) (x := 0) fl_X8_715 ft_8_120 ic_62 (pv_i _ ic_62 rfl) (pn_z (by decide)) dX8_qTakes_135 rfl ?_
                    exact x_return dX8_qTakes_138 rfl k
                  · replace k := k2 c19
                    refine x_goto (tgt := 128) dX8_qTakes_116 (by decide) ?_
                    refine x_aload_n (pc2 := 129) dX8_qTakes_128 rfl rfl ?_
                    refine x_lload_n (pc2 := 130) dX8_qTakes_129 rfl rfl ?_
                    refine x_putf (pc2 := 133) (x := l2) fl_X8_710 ft_8_119 ic_62 (pv_j _ ic_62 rfl) (pn_j _) dX8_qTakes_130 rfl ?_
                    refine x_aload_n (pc2 := 134) dX8_qTakes_133 rfl rfl ?_
                    refine x_iconst (pc2 := 135) dX8_qTakes_134 rfl ?_
                    refine x_putf (pc2 := 138) (x := 0) fl_X8_715 ft_8_120 ic_62 (pv_i _ ic_62 rfl) (pn_z (by decide)) dX8_qTakes_135 rfl ?_
                    exact x_return dX8_qTakes_138 rfl k
          · replace k := k2 c9
            refine x_aload_n (pc2 := 81) dX8_qTakes_80 rfl rfl ?_
            refine x_dup_r (pc2 := 82) dX8_qTakes_81 rfl (by decide) ?_
            refine x_getf (pc2 := 85) (v := aJ (m 62 119)) fl_X8_710 ic_62 (fv_j _ ic_62 rfl) dX8_qTakes_82 rfl ?_
            refine x_lload_n (pc2 := 86) dX8_qTakes_85 rfl rfl ?_
            refine x_ladd (pc2 := 87) dX8_qTakes_86 rfl ?_
            refine x_putf (pc2 := 90) (x := ((m 62 119) + l2)) fl_X8_710 ft_8_119 ic_62 (pv_j _ ic_62 rfl) (pn_j _) dX8_qTakes_87 rfl ?_
            refine x_iload_n (pc2 := 91) dX8_qTakes_90 rfl rfl ?_
            refine x_iconst (pc2 := 92) dX8_qTakes_91 rfl ?_
            obtain ⟨k1, k2⟩ := k
            refine x_icmp_le (tgt := 133) (pc2 := 95) dX8_qTakes_92 (by decide) rfl h5 (by decide) (fun c20 => ?_) (fun c20 => ?_)
            · replace k := k1 c20
              refine x_aload_n (pc2 := 134) dX8_qTakes_133 rfl rfl ?_
              refine x_iconst (pc2 := 135) dX8_qTakes_134 rfl ?_
              refine x_putf (pc2 := 138) (x := 0) fl_X8_715 ft_8_120 ic_62 (pv_i _ ic_62 rfl) (pn_z (by decide)) dX8_qTakes_135 rfl ?_
              exact x_return dX8_qTakes_138 rfl k
            · replace k := k2 c20
              refine x_aload_n (pc2 := 96) dX8_qTakes_95 rfl rfl ?_
              refine x_getf (pc2 := 99) (v := aI ((wr m 62 119 ((m 62 119) + l2)) 62 120)) fl_X8_715 ic_62 (fv_i _ ic_62 rfl) dX8_qTakes_96 rfl ?_
              obtain ⟨h21, k⟩ := k
              obtain ⟨k1, k2⟩ := k
              refine x_if_ne (tgt := 128) (pc2 := 102) dX8_qTakes_99 (by decide) rfl h21 (fun c22 => ?_) (fun c22 => ?_)
              · replace k := k1 c22
                refine x_aload_n (pc2 := 129) dX8_qTakes_128 rfl rfl ?_
                refine x_lload_n (pc2 := 130) dX8_qTakes_129 rfl rfl ?_
                refine x_putf (pc2 := 133) (x := l2) fl_X8_710 ft_8_119 ic_62 (pv_j _ ic_62 rfl) (pn_j _) dX8_qTakes_130 rfl ?_
                refine x_aload_n (pc2 := 134) dX8_qTakes_133 rfl rfl ?_
                refine x_iconst (pc2 := 135) dX8_qTakes_134 rfl ?_
                refine x_putf (pc2 := 138) (x := 0) fl_X8_715 ft_8_120 ic_62 (pv_i _ ic_62 rfl) (pn_z (by decide)) dX8_qTakes_135 rfl ?_
                exact x_return dX8_qTakes_138 rfl k
              · replace k := k2 c22
                refine x_iload_n (pc2 := 103) dX8_qTakes_102 rfl rfl ?_
                refine x_iconst (pc2 := 104) dX8_qTakes_103 rfl ?_
                obtain ⟨k1, k2⟩ := k
                refine x_icmp_ne (tgt := 119) (pc2 := 107) dX8_qTakes_104 (by decide) rfl h5 (by decide) (fun c23 => ?_) (fun c23 => ?_)
                · replace k := k1 c23
                  refine x_lload_n (pc2 := 120) dX8_qTakes_119 rfl rfl ?_
                  refine x_aload_n (pc2 := 121) dX8_qTakes_120 rfl rfl ?_
                  refine x_getf (pc2 := 124) (v := aJ ((wr m 62 119 ((m 62 119) + l2)) 62 119)) fl_X8_710 ic_62 (fv_j _ ic_62 rfl) dX8_qTakes_121 rfl ?_
                  obtain ⟨h24, k⟩ := k
                  obtain ⟨h25, k⟩ := k
                  obtain ⟨k1, k2⟩ := k
                  refine x_lc_ge (tgt := 133) (pc2 := 128) dX8_qTakes_124 dX8_qTakes_125 (by decide) rfl h24 h25 (fun c26 => ?_) (fun c26 => ?_)
                  · replace k := k1 c26
                    refine x_aload_n (pc2 := 134) dX8_qTakes_133 rfl rfl ?_
                    refine x_iconst (pc2 := 135) dX8_qTakes_134 rfl ?_
                    refine x_putf (pc2 := 138) (x := 0) fl_X8_715 ft_8_120 ic_62 (pv_i _ ic_62 rfl) (pn_z (by decide)) dX8_qTakes_135 rfl ?_
                    exact x_return dX8_qTakes_138 rfl k
                  · replace k := k2 c26
                    refine x_aload_n (pc2 := 129) dX8_qTakes_128 rfl rfl ?_
                    refine x_lload_n (pc2 := 130) dX8_qTakes_129 rfl rfl ?_
                    refine x_putf (pc2 := 133) (x := l2) fl_X8_710 ft_8_119 ic_62 (pv_j _ ic_62 rfl) (pn_j _) dX8_qTakes_130 rfl ?_
                    refine x_aload_n (pc2 := 134) dX8_qTakes_133 rfl rfl ?_
                    refine x_iconst (pc2 := 135) dX8_qTakes_134 rfl ?_
                    refine x_putf (pc2 := 138) (x := 0) fl_X8_715 ft_8_120 ic_62 (pv_i _ ic_62 rfl) (pn_z (by decide)) dX8_qTakes_135 rfl ?_
                    exact x_return dX8_qTakes_138 rfl k
                · replace k := k2 c23
                  refine x_lload_n (pc2 := 108) dX8_qTakes_107 rfl rfl ?_
                  refine x_aload_n (pc2 := 109) dX8_qTakes_108 rfl rfl ?_
                  refine x_getf (pc2 := 112) (v := aJ ((wr m 62 119 ((m 62 119) + l2)) 62 119)) fl_X8_710 ic_62 (fv_j _ ic_62 rfl) dX8_qTakes_109 rfl ?_
                  obtain ⟨h27, k⟩ := k
                  obtain ⟨h28, k⟩ := k
                  obtain ⟨k1, k2⟩ := k
                  refine x_lc_le (tgt := 133) (pc2 := 116) dX8_qTakes_112 dX8_qTakes_113 (by decide) rfl h27 h28 (fun c29 => ?_) (fun c29 => ?_)
                  · replace k := k1 c29
                    refine x_aload_n (pc2 := 134) dX8_qTakes_133 rfl rfl ?_
                    refine x_iconst (pc2 := 135) dX8_qTakes_134 rfl ?_
                    refine x_putf (pc2 := 138) (x := 0) fl_X8_715 ft_8_120 ic_62 (pv_i _ ic_62 rfl) (pn_z (by decide)) dX8_qTakes_135 rfl ?_
                    exact x_return dX8_qTakes_138 rfl k
                  · replace k := k2 c29
                    refine x_goto (tgt := 128) dX8_qTakes_116 (by decide) ?_
                    refine x_aload_n (pc2 := 129) dX8_qTakes_128 rfl rfl ?_
                    refine x_lload_n (pc2 := 130) dX8_qTakes_129 rfl rfl ?_
                    refine x_putf (pc2 := 133) (x := l2) fl_X8_710 ft_8_119 ic_62 (pv_j _ ic_62 rfl) (pn_j _) dX8_qTakes_130 rfl ?_
                    refine x_aload_n (pc2 := 134) dX8_qTakes_133 rfl rfl ?_
                    refine x_iconst (pc2 := 135) dX8_qTakes_134 rfl ?_
                    refine x_putf (pc2 := 138) (x := 0) fl_X8_715 ft_8_120 ic_62 (pv_i _ ic_62 rfl) (pn_z (by decide)) dX8_qTakes_135 rfl ?_
                    exact x_return dX8_qTakes_138 rfl k
        · replace k := k2 c8
          refine x_iload (pc2 := 62) dX8_qTakes_60 rfl rfl ?_
          obtain ⟨h30, k⟩ := k
          obtain ⟨k1, k2⟩ := k
          refine x_if_eq (tgt := 75) (pc2 := 65) dX8_qTakes_62 (by decide) rfl h30 (fun c31 => ?_) (fun c31 => ?_)
          · replace k := k1 c31
            refine x_iload_n (pc2 := 76) dX8_qTakes_75 rfl rfl ?_
            refine x_iconst (pc2 := 77) dX8_qTakes_76 rfl ?_
            obtain ⟨k1, k2⟩ := k
            refine x_icmp_ne (tgt := 90) (pc2 := 80) dX8_qTakes_77 (by decide) rfl h5 (by decide) (fun c32 => ?_) (fun c32 => ?_)
            · replace k := k1 c32
              refine x_iload_n (pc2 := 91) dX8_qTakes_90 rfl rfl ?_
              refine x_iconst (pc2 := 92) dX8_qTakes_91 rfl ?_
              obtain ⟨k1, k2⟩ := k
              refine x_icmp_le (tgt := 133) (pc2 := 95) dX8_qTakes_92 (by decide) rfl h5 (by decide) (fun c33 => ?_) (fun c33 => ?_)
              · replace k := k1 c33
                refine x_aload_n (pc2 := 134) dX8_qTakes_133 rfl rfl ?_
                refine x_iconst (pc2 := 135) dX8_qTakes_134 rfl ?_
                refine x_putf (pc2 := 138) (x := 0) fl_X8_715 ft_8_120 ic_62 (pv_i _ ic_62 rfl) (pn_z (by decide)) dX8_qTakes_135 rfl ?_
                exact x_return dX8_qTakes_138 rfl k
              · replace k := k2 c33
                refine x_aload_n (pc2 := 96) dX8_qTakes_95 rfl rfl ?_
                refine x_getf (pc2 := 99) (v := aI (m 62 120)) fl_X8_715 ic_62 (fv_i _ ic_62 rfl) dX8_qTakes_96 rfl ?_
                obtain ⟨h34, k⟩ := k
                obtain ⟨k1, k2⟩ := k
                refine x_if_ne (tgt := 128) (pc2 := 102) dX8_qTakes_99 (by decide) rfl h34 (fun c35 => ?_) (fun c35 => ?_)
                · replace k := k1 c35
                  refine x_aload_n (pc2 := 129) dX8_qTakes_128 rfl rfl ?_
                  refine x_lload_n (pc2 := 130) dX8_qTakes_129 rfl rfl ?_
                  refine x_putf (pc2 := 133) (x := l2) fl_X8_710 ft_8_119 ic_62 (pv_j _ ic_62 rfl) (pn_j _) dX8_qTakes_130 rfl ?_
                  refine x_aload_n (pc2 := 134) dX8_qTakes_133 rfl rfl ?_
                  refine x_iconst (pc2 := 135) dX8_qTakes_134 rfl ?_
                  refine x_putf (pc2 := 138) (x := 0) fl_X8_715 ft_8_120 ic_62 (pv_i _ ic_62 rfl) (pn_z (by decide)) dX8_qTakes_135 rfl ?_
                  exact x_return dX8_qTakes_138 rfl k
                · replace k := k2 c35
                  refine x_iload_n (pc2 := 103) dX8_qTakes_102 rfl rfl ?_
                  refine x_iconst (pc2 := 104) dX8_qTakes_103 rfl ?_
                  obtain ⟨k1, k2⟩ := k
                  refine x_icmp_ne (tgt := 119) (pc2 := 107) dX8_qTakes_104 (by decide) rfl h5 (by decide) (fun c36 => ?_) (fun c36 => ?_)
                  · replace k := k1 c36
                    refine x_lload_n (pc2 := 120) dX8_qTakes_119 rfl rfl ?_
                    refine x_aload_n (pc2 := 121) dX8_qTakes_120 rfl rfl ?_
                    refine x_getf (pc2 := 124) (v := aJ (m 62 119)) fl_X8_710 ic_62 (fv_j _ ic_62 rfl) dX8_qTakes_121 rfl ?_
                    obtain ⟨h37, k⟩ := k
                    obtain ⟨h38, k⟩ := k
                    obtain ⟨k1, k2⟩ := k
                    refine x_lc_ge (tgt := 133) (pc2 := 128) dX8_qTakes_124 dX8_qTakes_125 (by decide) rfl h37 h38 (fun c39 => ?_) (fun c39 => ?_)
                    · replace k := k1 c39
                      refine x_aload_n (pc2 := 134) dX8_qTakes_133 rfl rfl ?_
                      refine x_iconst (pc2 := 135) dX8_qTakes_134 rfl ?_
                      refine x_putf (pc2 := 138) (x := 0) fl_X8_715 ft_8_120 ic_62 (pv_i _ ic_62 rfl) (pn_z (by decide)) dX8_qTakes_135 rfl ?_
                      exact x_return dX8_qTakes_138 rfl k
                    · replace k := k2 c39
                      refine x_aload_n (pc2 := 129) dX8_qTakes_128 rfl rfl ?_
                      refine x_lload_n (pc2 := 130) dX8_qTakes_129 rfl rfl ?_
                      refine x_putf (pc2 := 133) (x := l2) fl_X8_710 ft_8_119 ic_62 (pv_j _ ic_62 rfl) (pn_j _) dX8_qTakes_130 rfl ?_
                      refine x_aload_n (pc2 := 134) dX8_qTakes_133 rfl rfl ?_
                      refine x_iconst (pc2 := 135) dX8_qTakes_134 rfl ?_
                      refine x_putf (pc2 := 138) (x := 0) fl_X8_715 ft_8_120 ic_62 (pv_i _ ic_62 rfl) (pn_z (by decide)) dX8_qTakes_135 rfl ?_
                      exact x_return dX8_qTakes_138 rfl k
                  · replace k := k2 c36
                    refine x_lload_n (pc2 := 108) dX8_qTakes_107 rfl rfl ?_
                    refine x_aload_n (pc2 := 109) dX8_qTakes_108 rfl rfl ?_
                    refine x_getf (pc2 := 112) (v := aJ (m 62 119)) fl_X8_710 ic_62 (fv_j _ ic_62 rfl) dX8_qTakes_109 rfl ?_
                    obtain ⟨h40, k⟩ := k
                    obtain ⟨h41, k⟩ := k
                    obtain ⟨k1, k2⟩ := k
                    refine x_lc_le (tgt := 133) (pc2 := 116) dX8_qTakes_112 dX8_qTakes_113 (by decide) rfl h40 h41 (fun c42 => ?_) (fun c42 => ?_)
                    · replace k := k1 c42
                      refine x_aload_n (pc2 := 134) dX8_qTakes_133 rfl rfl ?_
                      refine x_iconst (pc2 := 135) dX8_qTakes_134 rfl ?_
                      refine x_putf (pc2 := 138) (x := 0) fl_X8_715 ft_8_120 ic_62 (pv_i _ ic_62 rfl) (pn_z (by decide)) dX8_qTakes_135 rfl ?_
                      exact x_return dX8_qTakes_138 rfl k
                    · replace k := k2 c42
                      refine x_goto (tgt := 128) dX8_qTakes_116 (by decide) ?_
                      refine x_aload_n (pc2 := 129) dX8_qTakes_128 rfl rfl ?_
                      refine x_lload_n (pc2 := 130) dX8_qTakes_129 rfl rfl ?_
                      refine x_putf (pc2 := 133) (x := l2) fl_X8_710 ft_8_119 ic_62 (pv_j _ ic_62 rfl) (pn_j _) dX8_qTakes_130 rfl ?_
                      refine x_aload_n (pc2 := 134) dX8_qTakes_133 rfl rfl ?_
                      refine x_iconst (pc2 := 135) dX8_qTakes_134 rfl ?_
                      refine x_putf (pc2 := 138) (x := 0) fl_X8_715 ft_8_120 ic_62 (pv_i _ ic_62 rfl) (pn_z (by decide)) dX8_qTakes_135 rfl ?_
                      exact x_return dX8_qTakes_138 rfl k
            · replace k := k2 c32
              refine x_aload_n (pc2 := 81) dX8_qTakes_80 rfl rfl ?_
              refine x_dup_r (pc2 := 82) dX8_qTakes_81 rfl (by decide) ?_
              refine x_getf (pc2 := 85) (v := aJ (m 62 119)) fl_X8_710 ic_62 (fv_j _ ic_62 rfl) dX8_qTakes_82 rfl ?_
              refine x_lload_n (pc2 := 86) dX8_qTakes_85 rfl rfl ?_
              refine x_ladd (pc2 := 87) dX8_qTakes_86 rfl ?_
              refine x_putf (pc2 := 90) (x := ((m 62 119) + l2)) fl_X8_710 ft_8_119 ic_62 (pv_j _ ic_62 rfl) (pn_j _) dX8_qTakes_87 rfl ?_
              refine x_iload_n (pc2 := 91) dX8_qTakes_90 rfl rfl ?_
              refine x_iconst (pc2 := 92) dX8_qTakes_91 rfl ?_
              obtain ⟨k1, k2⟩ := k
              refine x_icmp_le (tgt := 133) (pc2 := 95) dX8_qTakes_92 (by decide) rfl h5 (by decide) (fun c43 => ?_) (fun c43 => ?_)
              · replace k := k1 c43
                refine x_aload_n (pc2 := 134) dX8_qTakes_133 rfl rfl ?_
                refine x_iconst (pc2 := 135) dX8_qTakes_134 rfl ?_
                refine x_putf (pc2 := 138) (x := 0) fl_X8_715 ft_8_120 ic_62 (pv_i _ ic_62 rfl) (pn_z (by decide)) dX8_qTakes_135 rfl ?_
                exact x_return dX8_qTakes_138 rfl k
              · replace k := k2 c43
                refine x_aload_n (pc2 := 96) dX8_qTakes_95 rfl rfl ?_
                refine x_getf (pc2 := 99) (v := aI ((wr m 62 119 ((m 62 119) + l2)) 62 120)) fl_X8_715 ic_62 (fv_i _ ic_62 rfl) dX8_qTakes_96 rfl ?_
                obtain ⟨h44, k⟩ := k
                obtain ⟨k1, k2⟩ := k
                refine x_if_ne (tgt := 128) (pc2 := 102) dX8_qTakes_99 (by decide) rfl h44 (fun c45 => ?_) (fun c45 => ?_)
                · replace k := k1 c45
                  refine x_aload_n (pc2 := 129) dX8_qTakes_128 rfl rfl ?_
                  refine x_lload_n (pc2 := 130) dX8_qTakes_129 rfl rfl ?_
                  refine x_putf (pc2 := 133) (x := l2) fl_X8_710 ft_8_119 ic_62 (pv_j _ ic_62 rfl) (pn_j _) dX8_qTakes_130 rfl ?_
                  refine x_aload_n (pc2 := 134) dX8_qTakes_133 rfl rfl ?_
                  refine x_iconst (pc2 := 135) dX8_qTakes_134 rfl ?_
                  refine x_putf (pc2 := 138) (x := 0) fl_X8_715 ft_8_120 ic_62 (pv_i _ ic_62 rfl) (pn_z (by decide)) dX8_qTakes_135 rfl ?_
                  exact x_return dX8_qTakes_138 rfl k
                · replace k := k2 c45
                  refine x_iload_n (pc2 := 103) dX8_qTakes_102 rfl rfl ?_
                  refine x_iconst (pc2 := 104) dX8_qTakes_103 rfl ?_
                  obtain ⟨k1, k2⟩ := k
                  refine x_icmp_ne (tgt := 119) (pc2 := 107) dX8_qTakes_104 (by decide) rfl h5 (by decide) (fun c46 => ?_) (fun c46 => ?_)
                  · replace k := k1 c46
                    refine x_lload_n (pc2 := 120) dX8_qTakes_119 rfl rfl ?_
                    refine x_aload_n (pc2 := 121) dX8_qTakes_120 rfl rfl ?_
                    refine x_getf (pc2 := 124) (v := aJ ((wr m 62 119 ((m 62 119) + l2)) 62 119)) fl_X8_710 ic_62 (fv_j _ ic_62 rfl) dX8_qTakes_121 rfl ?_
                    obtain ⟨h47, k⟩ := k
                    obtain ⟨h48, k⟩ := k
                    obtain ⟨k1, k2⟩ := k
                    refine x_lc_ge (tgt := 133) (pc2 := 128) dX8_qTakes_124 dX8_qTakes_125 (by decide) rfl h47 h48 (fun c49 => ?_) (fun c49 => ?_)
                    · replace k := k1 c49
                      refine x_aload_n (pc2 := 134) dX8_qTakes_133 rfl rfl ?_
                      refine x_iconst (pc2 := 135) dX8_qTakes_134 rfl ?_
                      refine x_putf (pc2 := 138) (x := 0) fl_X8_715 ft_8_120 ic_62 (pv_i _ ic_62 rfl) (pn_z (by decide)) dX8_qTakes_135 rfl ?_
                      exact x_return dX8_qTakes_138 rfl k
                    · replace k := k2 c49
                      refine x_aload_n (pc2 := 129) dX8_qTakes_128 rfl rfl ?_
                      refine x_lload_n (pc2 := 130) dX8_qTakes_129 rfl rfl ?_
                      refine x_putf (pc2 := 133) (x := l2) fl_X8_710 ft_8_119 ic_62 (pv_j _ ic_62 rfl) (pn_j _) dX8_qTakes_130 rfl ?_
                      refine x_aload_n (pc2 := 134) dX8_qTakes_133 rfl rfl ?_
                      refine x_iconst (pc2 := 135) dX8_qTakes_134 rfl ?_
                      refine x_putf (pc2 := 138) (x := 0) fl_X8_715 ft_8_120 ic_62 (pv_i _ ic_62 rfl) (pn_z (by decide)) dX8_qTakes_135 rfl ?_
                      exact x_return dX8_qTakes_138 rfl k
                  · replace k := k2 c46
                    refine x_lload_n (pc2 := 108) dX8_qTakes_107 rfl rfl ?_
                    refine x_aload_n (pc2 := 109) dX8_qTakes_108 rfl rfl ?_
                    refine x_getf (pc2 := 112) (v := aJ ((wr m 62 119 ((m 62 119) + l2)) 62 119)) fl_X8_710 ic_62 (fv_j _ ic_62 rfl) dX8_qTakes_109 rfl ?_
                    obtain ⟨h50, k⟩ := k
                    obtain ⟨h51, k⟩ := k
                    obtain ⟨k1, k2⟩ := k
                    refine x_lc_le (tgt := 133) (pc2 := 116) dX8_qTakes_112 dX8_qTakes_113 (by decide) rfl h50 h51 (fun c52 => ?_) (fun c52 => ?_)
                    · replace k := k1 c52
                      refine x_aload_n (pc2 := 134) dX8_qTakes_133 rfl rfl ?_
                      refine x_iconst (pc2 := 135) dX8_qTakes_134 rfl ?_
                      refine x_putf (pc2 := 138) (x := 0) fl_X8_715 ft_8_120 ic_62 (pv_i _ ic_62 rfl) (pn_z (by decide)) dX8_qTakes_135 rfl ?_
                      exact x_return dX8_qTakes_138 rfl k
                    · replace k := k2 c52
                      refine x_goto (tgt := 128) dX8_qTakes_116 (by decide) ?_
                      refine x_aload_n (pc2 := 129) dX8_qTakes_128 rfl rfl ?_
                      refine x_lload_n (pc2 := 130) dX8_qTakes_129 rfl rfl ?_
                      refine x_putf (pc2 := 133) (x := l2) fl_X8_710 ft_8_119 ic_62 (pv_j _ ic_62 rfl) (pn_j _) dX8_qTakes_130 rfl ?_
                      refine x_aload_n (pc2 := 134) dX8_qTakes_133 rfl rfl ?_
                      refine x_iconst (pc2 := 135) dX8_qTakes_134 rfl ?_
                      refine x_putf (pc2 := 138) (x := 0) fl_X8_715 ft_8_120 ic_62 (pv_i _ ic_62 rfl) (pn_z (by decide)) dX8_qTakes_135 rfl ?_
                      exact x_return dX8_qTakes_138 rfl k
          · replace k := k2 c31
            refine x_aload_n (pc2 := 66) dX8_qTakes_65 rfl rfl ?_
            refine x_dup_r (pc2 := 67) dX8_qTakes_66 rfl (by decide) ?_
            refine x_getf (pc2 := 70) (v := aJ (m 62 119)) fl_X8_710 ic_62 (fv_j _ ic_62 rfl) dX8_qTakes_67 rfl ?_
            refine x_lconst (pc2 := 71) (v := 1) dX8_qTakes_70 rfl rfl ?_
            refine x_ladd (pc2 := 72) dX8_qTakes_71 rfl ?_
            refine x_putf (pc2 := 75) (x := ((m 62 119) + 1)) fl_X8_710 ft_8_119 ic_62 (pv_j _ ic_62 rfl) (pn_j _) dX8_qTakes_72 rfl ?_
            refine x_iload_n (pc2 := 76) dX8_qTakes_75 rfl rfl ?_
            refine x_iconst (pc2 := 77) dX8_qTakes_76 rfl ?_
            obtain ⟨k1, k2⟩ := k
            refine x_icmp_ne (tgt := 90) (pc2 := 80) dX8_qTakes_77 (by decide) rfl h5 (by decide) (fun c53 => ?_) (fun c53 => ?_)
            · replace k := k1 c53
              refine x_iload_n (pc2 := 91) dX8_qTakes_90 rfl rfl ?_
              refine x_iconst (pc2 := 92) dX8_qTakes_91 rfl ?_
              obtain ⟨k1, k2⟩ := k
              refine x_icmp_le (tgt := 133) (pc2 := 95) dX8_qTakes_92 (by decide) rfl h5 (by decide) (fun c54 => ?_) (fun c54 => ?_)
              · replace k := k1 c54
                refine x_aload_n (pc2 := 134) dX8_qTakes_133 rfl rfl ?_
                refine x_iconst (pc2 := 135) dX8_qTakes_134 rfl ?_
                refine x_putf (pc2 := 138) (x := 0) fl_X8_715 ft_8_120 ic_62 (pv_i _ ic_62 rfl) (pn_z (by decide)) dX8_qTakes_135 rfl ?_
                exact x_return dX8_qTakes_138 rfl k
              · replace k := k2 c54
                refine x_aload_n (pc2 := 96) dX8_qTakes_95 rfl rfl ?_
                refine x_getf (pc2 := 99) (v := aI ((wr m 62 119 ((m 62 119) + 1)) 62 120)) fl_X8_715 ic_62 (fv_i _ ic_62 rfl) dX8_qTakes_96 rfl ?_
                obtain ⟨h55, k⟩ := k
                obtain ⟨k1, k2⟩ := k
                refine x_if_ne (tgt := 128) (pc2 := 102) dX8_qTakes_99 (by decide) rfl h55 (fun c56 => ?_) (fun c56 => ?_)
                · replace k := k1 c56
                  refine x_aload_n (pc2 := 129) dX8_qTakes_128 rfl rfl ?_
                  refine x_lload_n (pc2 := 130) dX8_qTakes_129 rfl rfl ?_
                  refine x_putf (pc2 := 133) (x := l2) fl_X8_710 ft_8_119 ic_62 (pv_j _ ic_62 rfl) (pn_j _) dX8_qTakes_130 rfl ?_
                  refine x_aload_n (pc2 := 134) dX8_qTakes_133 rfl rfl ?_
                  refine x_iconst (pc2 := 135) dX8_qTakes_134 rfl ?_
                  refine x_putf (pc2 := 138) (x := 0) fl_X8_715 ft_8_120 ic_62 (pv_i _ ic_62 rfl) (pn_z (by decide)) dX8_qTakes_135 rfl ?_
                  exact x_return dX8_qTakes_138 rfl k
                · replace k := k2 c56
                  refine x_iload_n (pc2 := 103) dX8_qTakes_102 rfl rfl ?_
                  refine x_iconst (pc2 := 104) dX8_qTakes_103 rfl ?_
                  obtain ⟨k1, k2⟩ := k
                  refine x_icmp_ne (tgt := 119) (pc2 := 107) dX8_qTakes_104 (by decide) rfl h5 (by decide) (fun c57 => ?_) (fun c57 => ?_)
                  · replace k := k1 c57
                    refine x_lload_n (pc2 := 120) dX8_qTakes_119 rfl rfl ?_
                    refine x_aload_n (pc2 := 121) dX8_qTakes_120 rfl rfl ?_
                    refine x_getf (pc2 := 124) (v := aJ ((wr m 62 119 ((m 62 119) + 1)) 62 119)) fl_X8_710 ic_62 (fv_j _ ic_62 rfl) dX8_qTakes_121 rfl ?_
                    obtain ⟨h58, k⟩ := k
                    obtain ⟨h59, k⟩ := k
                    obtain ⟨k1, k2⟩ := k
                    refine x_lc_ge (tgt := 133) (pc2 := 128) dX8_qTakes_124 dX8_qTakes_125 (by decide) rfl h58 h59 (fun c60 => ?_) (fun c60 => ?_)
                    · replace k := k1 c60
                      refine x_aload_n (pc2 := 134) dX8_qTakes_133 rfl rfl ?_
                      refine x_iconst (pc2 := 135) dX8_qTakes_134 rfl ?_
                      refine x_putf (pc2 := 138) (x := 0) fl_X8_715 ft_8_120 ic_62 (pv_i _ ic_62 rfl) (pn_z (by decide)) dX8_qTakes_135 rfl ?_
                      exact x_return dX8_qTakes_138 rfl k
                    · replace k := k2 c60
                      refine x_aload_n (pc2 := 129) dX8_qTakes_128 rfl rfl ?_
                      refine x_lload_n (pc2 := 130) dX8_qTakes_129 rfl rfl ?_
                      refine x_putf (pc2 := 133) (x := l2) fl_X8_710 ft_8_119 ic_62 (pv_j _ ic_62 rfl) (pn_j _) dX8_qTakes_130 rfl ?_
                      refine x_aload_n (pc2 := 134) dX8_qTakes_133 rfl rfl ?_
                      refine x_iconst (pc2 := 135) dX8_qTakes_134 rfl ?_
                      refine x_putf (pc2 := 138) (x := 0) fl_X8_715 ft_8_120 ic_62 (pv_i _ ic_62 rfl) (pn_z (by decide)) dX8_qTakes_135 rfl ?_
                      exact x_return dX8_qTakes_138 rfl k
                  · replace k := k2 c57
                    refine x_lload_n (pc2 := 108) dX8_qTakes_107 rfl rfl ?_
                    refine x_aload_n (pc2 := 109) dX8_qTakes_108 rfl rfl ?_
                    refine x_getf (pc2 := 112) (v := aJ ((wr m 62 119 ((m 62 119) + 1)) 62 119)) fl_X8_710 ic_62 (fv_j _ ic_62 rfl) dX8_qTakes_109 rfl ?_
                    obtain ⟨h61, k⟩ := k
                    obtain ⟨h62, k⟩ := k
                    obtain ⟨k1, k2⟩ := k
                    refine x_lc_le (tgt := 133) (pc2 := 116) dX8_qTakes_112 dX8_qTakes_113 (by decide) rfl h61 h62 (fun c63 => ?_) (fun c63 => ?_)
                    · replace k := k1 c63
                      refine x_aload_n (pc2 := 134) dX8_qTakes_133 rfl rfl ?_
                      refine x_iconst (pc2 := 135) dX8_qTakes_134 rfl ?_
                      refine x_putf (pc2 := 138) (x := 0) fl_X8_715 ft_8_120 ic_62 (pv_i _ ic_62 rfl) (pn_z (by decide)) dX8_qTakes_135 rfl ?_
                      exact x_return dX8_qTakes_138 rfl k
                    · replace k := k2 c63
                      refine x_goto (tgt := 128) dX8_qTakes_116 (by decide) ?_
                      refine x_aload_n (pc2 := 129) dX8_qTakes_128 rfl rfl ?_
                      refine x_lload_n (pc2 := 130) dX8_qTakes_129 rfl rfl ?_
                      refine x_putf (pc2 := 133) (x := l2) fl_X8_710 ft_8_119 ic_62 (pv_j _ ic_62 rfl) (pn_j _) dX8_qTakes_130 rfl ?_
                      refine x_aload_n (pc2 := 134) dX8_qTakes_133 rfl rfl ?_
                      refine x_iconst (pc2 := 135) dX8_qTakes_134 rfl ?_
                      refine x_putf (pc2 := 138) (x := 0) fl_X8_715 ft_8_120 ic_62 (pv_i _ ic_62 rfl) (pn_z (by decide)) dX8_qTakes_135 rfl ?_
                      exact x_return dX8_qTakes_138 rfl k
            · replace k := k2 c53
              refine x_aload_n (pc2 := 81) dX8_qTakes_80 rfl rfl ?_
              refine x_dup_r (pc2 := 82) dX8_qTakes_81 rfl (by decide) ?_
              refine x_getf (pc2 := 85) (v := aJ ((wr m 62 119 ((m 62 119) + 1)) 62 119)) fl_X8_710 ic_62 (fv_j _ ic_62 rfl) dX8_qTakes_82 rfl ?_
              refine x_lload_n (pc2 := 86) dX8_qTakes_85 rfl rfl ?_
              refine x_ladd (pc2 := 87) dX8_qTakes_86 rfl ?_
              refine x_putf (pc2 := 90) (x := (((wr m 62 119 ((m 62 119) + 1)) 62 119) + l2)) fl_X8_710 ft_8_119 ic_62 (pv_j _ ic_62 rfl) (pn_j _) dX8_qTakes_87 rfl ?_
              refine x_iload_n (pc2 := 91) dX8_qTakes_90 rfl rfl ?_
              refine x_iconst (pc2 := 92) dX8_qTakes_91 rfl ?_
              obtain ⟨k1, k2⟩ := k
              refine x_icmp_le (tgt := 133) (pc2 := 95) dX8_qTakes_92 (by decide) rfl h5 (by decide) (fun c64 => ?_) (fun c64 => ?_)
              · replace k := k1 c64
                refine x_aload_n (pc2 := 134) dX8_qTakes_133 rfl rfl ?_
                refine x_iconst (pc2 := 135) dX8_qTakes_134 rfl ?_
                refine x_putf (pc2 := 138) (x := 0) fl_X8_715 ft_8_120 ic_62 (pv_i _ ic_62 rfl) (pn_z (by decide)) dX8_qTakes_135 rfl ?_
                exact x_return dX8_qTakes_138 rfl k
              · replace k := k2 c64
                refine x_aload_n (pc2 := 96) dX8_qTakes_95 rfl rfl ?_
                refine x_getf (pc2 := 99) (v := aI ((wr (wr m 62 119 ((m 62 119) + 1)) 62 119 (((wr m 62 119 ((m 62 119) + 1)) 62 119) + l2)) 62 120)) fl_X8_715 ic_62 (fv_i _ ic_62 rfl) dX8_qTakes_96 rfl ?_
                obtain ⟨h65, k⟩ := k
                obtain ⟨k1, k2⟩ := k
                refine x_if_ne (tgt := 128) (pc2 := 102) dX8_qTakes_99 (by decide) rfl h65 (fun c66 => ?_) (fun c66 => ?_)
                · replace k := k1 c66
                  refine x_aload_n (pc2 := 129) dX8_qTakes_128 rfl rfl ?_
                  refine x_lload_n (pc2 := 130) dX8_qTakes_129 rfl rfl ?_
                  refine x_putf (pc2 := 133) (x := l2) fl_X8_710 ft_8_119 ic_62 (pv_j _ ic_62 rfl) (pn_j _) dX8_qTakes_130 rfl ?_
                  refine x_aload_n (pc2 := 134) dX8_qTakes_133 rfl rfl ?_
                  refine x_iconst (pc2 := 135) dX8_qTakes_134 rfl ?_
                  refine x_putf (pc2 := 138) (x := 0) fl_X8_715 ft_8_120 ic_62 (pv_i _ ic_62 rfl) (pn_z (by decide)) dX8_qTakes_135 rfl ?_
                  exact x_return dX8_qTakes_138 rfl k
                · replace k := k2 c66
                  refine x_iload_n (pc2 := 103) dX8_qTakes_102 rfl rfl ?_
                  refine x_iconst (pc2 := 104) dX8_qTakes_103 rfl ?_
                  obtain ⟨k1, k2⟩ := k
                  refine x_icmp_ne (tgt := 119) (pc2 := 107) dX8_qTakes_104 (by decide) rfl h5 (by decide) (fun c67 => ?_) (fun c67 => ?_)
                  · replace k := k1 c67
                    refine x_lload_n (pc2 := 120) dX8_qTakes_119 rfl rfl ?_
                    refine x_aload_n (pc2 := 121) dX8_qTakes_120 rfl rfl ?_
                    refine x_getf (pc2 := 124) (v := aJ ((wr (wr m 62 119 ((m 62 119) + 1)) 62 119 (((wr m 62 119 ((m 62 119) + 1)) 62 119) + l2)) 62 119)) fl_X8_710 ic_62 (fv_j _ ic_62 rfl) dX8_qTakes_121 rfl ?_
                    obtain ⟨h68, k⟩ := k
                    obtain ⟨h69, k⟩ := k
                    obtain ⟨k1, k2⟩ := k
                    refine x_lc_ge (tgt := 133) (pc2 := 128) dX8_qTakes_124 dX8_qTakes_125 (by decide) rfl h68 h69 (fun c70 => ?_) (fun c70 => ?_)
                    · replace k := k1 c70
                      refine x_aload_n (pc2 := 134) dX8_qTakes_133 rfl rfl ?_
                      refine x_iconst (pc2 := 135) dX8_qTakes_134 rfl ?_
                      refine x_putf (pc2 := 138) (x := 0) fl_X8_715 ft_8_120 ic_62 (pv_i _ ic_62 rfl) (pn_z (by decide)) dX8_qTakes_135 rfl ?_
                      exact x_return dX8_qTakes_138 rfl k
                    · replace k := k2 c70
                      refine x_aload_n (pc2 := 129) dX8_qTakes_128 rfl rfl ?_
                      refine x_lload_n (pc2 := 130) dX8_qTakes_129 rfl rfl ?_
                      refine x_putf (pc2 := 133) (x := l2) fl_X8_710 ft_8_119 ic_62 (pv_j _ ic_62 rfl) (pn_j _) dX8_qTakes_130 rfl ?_
                      refine x_aload_n (pc2 := 134) dX8_qTakes_133 rfl rfl ?_
                      refine x_iconst (pc2 := 135) dX8_qTakes_134 rfl ?_
                      refine x_putf (pc2 := 138) (x := 0) fl_X8_715 ft_8_120 ic_62 (pv_i _ ic_62 rfl) (pn_z (by decide)) dX8_qTakes_135 rfl ?_
                      exact x_return dX8_qTakes_138 rfl k
                  · replace k := k2 c67
                    refine x_lload_n (pc2 := 108) dX8_qTakes_107 rfl rfl ?_
                    refine x_aload_n (pc2 := 109) dX8_qTakes_108 rfl rfl ?_
                    refine x_getf (pc2 := 112) (v := aJ ((wr (wr m 62 119 ((m 62 119) + 1)) 62 119 (((wr m 62 119 ((m 62 119) + 1)) 62 119) + l2)) 62 119)) fl_X8_710 ic_62 (fv_j _ ic_62 rfl) dX8_qTakes_109 rfl ?_
                    obtain ⟨h71, k⟩ := k
                    obtain ⟨h72, k⟩ := k
                    obtain ⟨k1, k2⟩ := k
                    refine x_lc_le (tgt := 133) (pc2 := 116) dX8_qTakes_112 dX8_qTakes_113 (by decide) rfl h71 h72 (fun c73 => ?_) (fun c73 => ?_)
                    · replace k := k1 c73
                      refine x_aload_n (pc2 := 134) dX8_qTakes_133 rfl rfl ?_
                      refine x_iconst (pc2 := 135) dX8_qTakes_134 rfl ?_
                      refine x_putf (pc2 := 138) (x := 0) fl_X8_715 ft_8_120 ic_62 (pv_i _ ic_62 rfl) (pn_z (by decide)) dX8_qTakes_135 rfl ?_
                      exact x_return dX8_qTakes_138 rfl k
                    · replace k := k2 c73
                      refine x_goto (tgt := 128) dX8_qTakes_116 (by decide) ?_
                      refine x_aload_n (pc2 := 129) dX8_qTakes_128 rfl rfl ?_
                      refine x_lload_n (pc2 := 130) dX8_qTakes_129 rfl rfl ?_
                      refine x_putf (pc2 := 133) (x := l2) fl_X8_710 ft_8_119 ic_62 (pv_j _ ic_62 rfl) (pn_j _) dX8_qTakes_130 rfl ?_
                      refine x_aload_n (pc2 := 134) dX8_qTakes_133 rfl rfl ?_
                      refine x_iconst (pc2 := 135) dX8_qTakes_134 rfl ?_
                      refine x_putf (pc2 := 138) (x := 0) fl_X8_715 ft_8_120 ic_62 (pv_i _ ic_62 rfl) (pn_z (by decide)) dX8_qTakes_135 rfl ?_
                      exact x_return dX8_qTakes_138 rfl k
      · replace k := k2 c7
        refine x_iload (pc2 := 45) dX8_qTakes_43 rfl rfl ?_
        obtain ⟨h74, k⟩ := k
        obtain ⟨k1, k2⟩ := k
        refine x_if_eq (tgt := 55) (pc2 := 48) dX8_qTakes_45 (by decide) rfl h74 (fun c75 => ?_) (fun c75 => ?_)
        · replace k := k1 c75
          refine x_iload_n (pc2 := 56) dX8_qTakes_55 rfl rfl ?_
          refine x_iconst (pc2 := 57) dX8_qTakes_56 rfl ?_
          obtain ⟨k1, k2⟩ := k
          refine x_icmp_ne (tgt := 75) (pc2 := 60) dX8_qTakes_57 (by decide) rfl h5 (by decide) (fun c76 => ?_) (fun c76 => ?_)
          · replace k := k1 c76
            refine x_iload_n (pc2 := 76) dX8_qTakes_75 rfl rfl ?_
            refine x_iconst (pc2 := 77) dX8_qTakes_76 rfl ?_
            obtain ⟨k1, k2⟩ := k
            refine x_icmp_ne (tgt := 90) (pc2 := 80) dX8_qTakes_77 (by decide) rfl h5 (by decide) (fun c77 => ?_) (fun c77 => ?_)
            · replace k := k1 c77
              refine x_iload_n (pc2 := 91) dX8_qTakes_90 rfl rfl ?_
              refine x_iconst (pc2 := 92) dX8_qTakes_91 rfl ?_
              obtain ⟨k1, k2⟩ := k
              refine x_icmp_le (tgt := 133) (pc2 := 95) dX8_qTakes_92 (by decide) rfl h5 (by decide) (fun c78 => ?_) (fun c78 => ?_)
              · replace k := k1 c78
                refine x_aload_n (pc2 := 134) dX8_qTakes_133 rfl rfl ?_
                refine x_iconst (pc2 := 135) dX8_qTakes_134 rfl ?_
                refine x_putf (pc2 := 138) (x := 0) fl_X8_715 ft_8_120 ic_62 (pv_i _ ic_62 rfl) (pn_z (by decide)) dX8_qTakes_135 rfl ?_
                exact x_return dX8_qTakes_138 rfl k
              · replace k := k2 c78
                refine x_aload_n (pc2 := 96) dX8_qTakes_95 rfl rfl ?_
                refine x_getf (pc2 := 99) (v := aI (m 62 120)) fl_X8_715 ic_62 (fv_i _ ic_62 rfl) dX8_qTakes_96 rfl ?_
                obtain ⟨h79, k⟩ := k
                obtain ⟨k1, k2⟩ := k
                refine x_if_ne (tgt := 128) (pc2 := 102) dX8_qTakes_99 (by decide) rfl h79 (fun c80 => ?_) (fun c80 => ?_)
                · replace k := k1 c80
                  refine x_aload_n (pc2 := 129) dX8_qTakes_128 rfl rfl ?_
                  refine x_lload_n (pc2 := 130) dX8_qTakes_129 rfl rfl ?_
                  refine x_putf (pc2 := 133) (x := l2) fl_X8_710 ft_8_119 ic_62 (pv_j _ ic_62 rfl) (pn_j _) dX8_qTakes_130 rfl ?_
                  refine x_aload_n (pc2 := 134) dX8_qTakes_133 rfl rfl ?_
                  refine x_iconst (pc2 := 135) dX8_qTakes_134 rfl ?_
                  refine x_putf (pc2 := 138) (x := 0) fl_X8_715 ft_8_120 ic_62 (pv_i _ ic_62 rfl) (pn_z (by decide)) dX8_qTakes_135 rfl ?_
                  exact x_return dX8_qTakes_138 rfl k
                · replace k := k2 c80
                  refine x_iload_n (pc2 := 103) dX8_qTakes_102 rfl rfl ?_
                  refine x_iconst (pc2 := 104) dX8_qTakes_103 rfl ?_
                  obtain ⟨k1, k2⟩ := k
                  refine x_icmp_ne (tgt := 119) (pc2 := 107) dX8_qTakes_104 (by decide) rfl h5 (by decide) (fun c81 => ?_) (fun c81 => ?_)
                  · replace k := k1 c81
                    refine x_lload_n (pc2 := 120) dX8_qTakes_119 rfl rfl ?_
                    refine x_aload_n (pc2 := 121) dX8_qTakes_120 rfl rfl ?_
                    refine x_getf (pc2 := 124) (v := aJ (m 62 119)) fl_X8_710 ic_62 (fv_j _ ic_62 rfl) dX8_qTakes_121 rfl ?_
                    obtain ⟨h82, k⟩ := k
                    obtain ⟨h83, k⟩ := k
                    obtain ⟨k1, k2⟩ := k
                    refine x_lc_ge (tgt := 133) (pc2 := 128) dX8_qTakes_124 dX8_qTakes_125 (by decide) rfl h82 h83 (fun c84 => ?_) (fun c84 => ?_)
                    · replace k := k1 c84
                      refine x_aload_n (pc2 := 134) dX8_qTakes_133 rfl rfl ?_
                      refine x_iconst (pc2 := 135) dX8_qTakes_134 rfl ?_
                      refine x_putf (pc2 := 138) (x := 0) fl_X8_715 ft_8_120 ic_62 (pv_i _ ic_62 rfl) (pn_z (by decide)) dX8_qTakes_135 rfl ?_
                      exact x_return dX8_qTakes_138 rfl k
                    · replace k := k2 c84
                      refine x_aload_n (pc2 := 129) dX8_qTakes_128 rfl rfl ?_
                      refine x_lload_n (pc2 := 130) dX8_qTakes_129 rfl rfl ?_
                      refine x_putf (pc2 := 133) (x := l2) fl_X8_710 ft_8_119 ic_62 (pv_j _ ic_62 rfl) (pn_j _) dX8_qTakes_130 rfl ?_
                      refine x_aload_n (pc2 := 134) dX8_qTakes_133 rfl rfl ?_
                      refine x_iconst (pc2 := 135) dX8_qTakes_134 rfl ?_
                      refine x_putf (pc2 := 138) (x := 0) fl_X8_715 ft_8_120 ic_62 (pv_i _ ic_62 rfl) (pn_z (by decide)) dX8_qTakes_135 rfl ?_
                      exact x_return dX8_qTakes_138 rfl k
                  · replace k := k2 c81
                    refine x_lload_n (pc2 := 108) dX8_qTakes_107 rfl rfl ?_
                    refine x_aload_n (pc2 := 109) dX8_qTakes_108 rfl rfl ?_
                    refine x_getf (pc2 := 112) (v := aJ (m 62 119)) fl_X8_710 ic_62 (fv_j _ ic_62 rfl) dX8_qTakes_109 rfl ?_
                    obtain ⟨h85, k⟩ := k
                    obtain ⟨h86, k⟩ := k
                    obtain ⟨k1, k2⟩ := k
                    refine x_lc_le (tgt := 133) (pc2 := 116) dX8_qTakes_112 dX8_qTakes_113 (by decide) rfl h85 h86 (fun c87 => ?_) (fun c87 => ?_)
                    · replace k := k1 c87
                      refine x_aload_n (pc2 := 134) dX8_qTakes_133 rfl rfl ?_
                      refine x_iconst (pc2 := 135) dX8_qTakes_134 rfl ?_
                      refine x_putf (pc2 := 138) (x := 0) fl_X8_715 ft_8_120 ic_62 (pv_i _ ic_62 rfl) (pn_z (by decide)) dX8_qTakes_135 rfl ?_
                      exact x_return dX8_qTakes_138 rfl k
                    · replace k := k2 c87
                      refine x_goto (tgt := 128) dX8_qTakes_116 (by decide) ?_
                      refine x_aload_n (pc2 := 129) dX8_qTakes_128 rfl rfl ?_
                      refine x_lload_n (pc2 := 130) dX8_qTakes_129 rfl rfl ?_
                      refine x_putf (pc2 := 133) (x := l2) fl_X8_710 ft_8_119 ic_62 (pv_j _ ic_62 rfl) (pn_j _) dX8_qTakes_130 rfl ?_
                      refine x_aload_n (pc2 := 134) dX8_qTakes_133 rfl rfl ?_
                      refine x_iconst (pc2 := 135) dX8_qTakes_134 rfl ?_
                      refine x_putf (pc2 := 138) (x := 0) fl_X8_715 ft_8_120 ic_62 (pv_i _ ic_62 rfl) (pn_z (by decide)) dX8_qTakes_135 rfl ?_
                      exact x_return dX8_qTakes_138 rfl k
            · replace k := k2 c77
              refine x_aload_n (pc2 := 81) dX8_qTakes_80 rfl rfl ?_
              refine x_dup_r (pc2 := 82) dX8_qTakes_81 rfl (by decide) ?_
              refine x_getf (pc2 := 85) (v := aJ (m 62 119)) fl_X8_710 ic_62 (fv_j _ ic_62 rfl) dX8_qTakes_82 rfl ?_
              refine x_lload_n (pc2 := 86) dX8_qTakes_85 rfl rfl ?_
              refine x_ladd (pc2 := 87) dX8_qTakes_86 rfl ?_
              refine x_putf (pc2 := 90) (x := ((m 62 119) + l2)) fl_X8_710 ft_8_119 ic_62 (pv_j _ ic_62 rfl) (pn_j _) dX8_qTakes_87 rfl ?_
              refine x_iload_n (pc2 := 91) dX8_qTakes_90 rfl rfl ?_
              refine x_iconst (pc2 := 92) dX8_qTakes_91 rfl ?_
              obtain ⟨k1, k2⟩ := k
              refine x_icmp_le (tgt := 133) (pc2 := 95) dX8_qTakes_92 (by decide) rfl h5 (by decide) (fun c88 => ?_) (fun c88 => ?_)
              · replace k := k1 c88
                refine x_aload_n (pc2 := 134) dX8_qTakes_133 rfl rfl ?_
                refine x_iconst (pc2 := 135) dX8_qTakes_134 rfl ?_
                refine x_putf (pc2 := 138) (x := 0) fl_X8_715 ft_8_120 ic_62 (pv_i _ ic_62 rfl) (pn_z (by decide)) dX8_qTakes_135 rfl ?_
                exact x_return dX8_qTakes_138 rfl k
              · replace k := k2 c88
                refine x_aload_n (pc2 := 96) dX8_qTakes_95 rfl rfl ?_
                refine x_getf (pc2 := 99) (v := aI ((wr m 62 119 ((m 62 119) + l2)) 62 120)) fl_X8_715 ic_62 (fv_i _ ic_62 rfl) dX8_qTakes_96 rfl ?_
                obtain ⟨h89, k⟩ := k
                obtain ⟨k1, k2⟩ := k
                refine x_if_ne (tgt := 128) (pc2 := 102) dX8_qTakes_99 (by decide) rfl h89 (fun c90 => ?_) (fun c90 => ?_)
                · replace k := k1 c90
                  refine x_aload_n (pc2 := 129) dX8_qTakes_128 rfl rfl ?_
                  refine x_lload_n (pc2 := 130) dX8_qTakes_129 rfl rfl ?_
                  refine x_putf (pc2 := 133) (x := l2) fl_X8_710 ft_8_119 ic_62 (pv_j _ ic_62 rfl) (pn_j _) dX8_qTakes_130 rfl ?_
                  refine x_aload_n (pc2 := 134) dX8_qTakes_133 rfl rfl ?_
                  refine x_iconst (pc2 := 135) dX8_qTakes_134 rfl ?_
                  refine x_putf (pc2 := 138) (x := 0) fl_X8_715 ft_8_120 ic_62 (pv_i _ ic_62 rfl) (pn_z (by decide)) dX8_qTakes_135 rfl ?_
                  exact x_return dX8_qTakes_138 rfl k
                · replace k := k2 c90
                  refine x_iload_n (pc2 := 103) dX8_qTakes_102 rfl rfl ?_
                  refine x_iconst (pc2 := 104) dX8_qTakes_103 rfl ?_
                  obtain ⟨k1, k2⟩ := k
                  refine x_icmp_ne (tgt := 119) (pc2 := 107) dX8_qTakes_104 (by decide) rfl h5 (by decide) (fun c91 => ?_) (fun c91 => ?_)
                  · replace k := k1 c91
                    refine x_lload_n (pc2 := 120) dX8_qTakes_119 rfl rfl ?_
                    refine x_aload_n (pc2 := 121) dX8_qTakes_120 rfl rfl ?_
                    refine x_getf (pc2 := 124) (v := aJ ((wr m 62 119 ((m 62 119) + l2)) 62 119)) fl_X8_710 ic_62 (fv_j _ ic_62 rfl) dX8_qTakes_121 rfl ?_
                    obtain ⟨h92, k⟩ := k
                    obtain ⟨h93, k⟩ := k
                    obtain ⟨k1, k2⟩ := k
                    refine x_lc_ge (tgt := 133) (pc2 := 128) dX8_qTakes_124 dX8_qTakes_125 (by decide) rfl h92 h93 (fun c94 => ?_) (fun c94 => ?_)
                    · replace k := k1 c94
                      refine x_aload_n (pc2 := 134) dX8_qTakes_133 rfl rfl ?_
                      refine x_iconst (pc2 := 135) dX8_qTakes_134 rfl ?_
                      refine x_putf (pc2 := 138) (x := 0) fl_X8_715 ft_8_120 ic_62 (pv_i _ ic_62 rfl) (pn_z (by decide)) dX8_qTakes_135 rfl ?_
                      exact x_return dX8_qTakes_138 rfl k
                    · replace k := k2 c94
                      refine x_aload_n (pc2 := 129) dX8_qTakes_128 rfl rfl ?_
                      refine x_lload_n (pc2 := 130) dX8_qTakes_129 rfl rfl ?_
                      refine x_putf (pc2 := 133) (x := l2) fl_X8_710 ft_8_119 ic_62 (pv_j _ ic_62 rfl) (pn_j _) dX8_qTakes_130 rfl ?_
                      refine x_aload_n (pc2 := 134) dX8_qTakes_133 rfl rfl ?_
                      refine x_iconst (pc2 := 135) dX8_qTakes_134 rfl ?_
                      refine x_putf (pc2 := 138) (x := 0) fl_X8_715 ft_8_120 ic_62 (pv_i _ ic_62 rfl) (pn_z (by decide)) dX8_qTakes_135 rfl ?_
                      exact x_return dX8_qTakes_138 rfl k
                  · replace k := k2 c91
                    refine x_lload_n (pc2 := 108) dX8_qTakes_107 rfl rfl ?_
                    refine x_aload_n (pc2 := 109) dX8_qTakes_108 rfl rfl ?_
                    refine x_getf (pc2 := 112) (v := aJ ((wr m 62 119 ((m 62 119) + l2)) 62 119)) fl_X8_710 ic_62 (fv_j _ ic_62 rfl) dX8_qTakes_109 rfl ?_
                    obtain ⟨h95, k⟩ := k
                    obtain ⟨h96, k⟩ := k
                    obtain ⟨k1, k2⟩ := k
                    refine x_lc_le (tgt := 133) (pc2 := 116) dX8_qTakes_112 dX8_qTakes_113 (by decide) rfl h95 h96 (fun c97 => ?_) (fun c97 => ?_)
                    · replace k := k1 c97
                      refine x_aload_n (pc2 := 134) dX8_qTakes_133 rfl rfl ?_
                      refine x_iconst (pc2 := 135) dX8_qTakes_134 rfl ?_
                      refine x_putf (pc2 := 138) (x := 0) fl_X8_715 ft_8_120 ic_62 (pv_i _ ic_62 rfl) (pn_z (by decide)) dX8_qTakes_135 rfl ?_
                      exact x_return dX8_qTakes_138 rfl k
                    · replace k := k2 c97
                      refine x_goto (tgt := 128) dX8_qTakes_116 (by decide) ?_
                      refine x_aload_n (pc2 := 129) dX8_qTakes_128 rfl rfl ?_
                      refine x_lload_n (pc2 := 130) dX8_qTakes_129 rfl rfl ?_
                      refine x_putf (pc2 := 133) (x := l2) fl_X8_710 ft_8_119 ic_62 (pv_j _ ic_62 rfl) (pn_j _) dX8_qTakes_130 rfl ?_
                      refine x_aload_n (pc2 := 134) dX8_qTakes_133 rfl rfl ?_
                      refine x_iconst (pc2 := 135) dX8_qTakes_134 rfl ?_
                      refine x_putf (pc2 := 138) (x := 0) fl_X8_715 ft_8_120 ic_62 (pv_i _ ic_62 rfl) (pn_z (by decide)) dX8_qTakes_135 rfl ?_
                      exact x_return dX8_qTakes_138 rfl k
          · replace k := k2 c76
            refine x_iload (pc2 := 62) dX8_qTakes_60 rfl rfl ?_
            obtain ⟨k1, k2⟩ := k
            refine x_if_eq (tgt := 75) (pc2 := 65) dX8_qTakes_62 (by decide) rfl h74 (fun c98 => ?_) (fun c98 => ?_)
            · replace k := k1 c98
              refine x_iload_n (pc2 := 76) dX8_qTakes_75 rfl rfl ?_
              refine x_iconst (pc2 := 77) dX8_qTakes_76 rfl ?_
              obtain ⟨k1, k2⟩ := k
              refine x_icmp_ne (tgt := 90) (pc2 := 80) dX8_qTakes_77 (by decide) rfl h5 (by decide) (fun c99 => ?_) (fun c99 => ?_)
              · replace k := k1 c99
                refine x_iload_n (pc2 := 91) dX8_qTakes_90 rfl rfl ?_
                refine x_iconst (pc2 := 92) dX8_qTakes_91 rfl ?_
                obtain ⟨k1, k2⟩ := k
                refine x_icmp_le (tgt := 133) (pc2 := 95) dX8_qTakes_92 (by decide) rfl h5 (by decide) (fun c100 => ?_) (fun c100 => ?_)
                · replace k := k1 c100
                  refine x_aload_n (pc2 := 134) dX8_qTakes_133 rfl rfl ?_
                  refine x_iconst (pc2 := 135) dX8_qTakes_134 rfl ?_
                  refine x_putf (pc2 := 138) (x := 0) fl_X8_715 ft_8_120 ic_62 (pv_i _ ic_62 rfl) (pn_z (by decide)) dX8_qTakes_135 rfl ?_
                  exact x_return dX8_qTakes_138 rfl k
                · replace k := k2 c100
                  refine x_aload_n (pc2 := 96) dX8_qTakes_95 rfl rfl ?_
                  refine x_getf (pc2 := 99) (v := aI (m 62 120)) fl_X8_715 ic_62 (fv_i _ ic_62 rfl) dX8_qTakes_96 rfl ?_
                  obtain ⟨h101, k⟩ := k
                  obtain ⟨k1, k2⟩ := k
                  refine x_if_ne (tgt := 128) (pc2 := 102) dX8_qTakes_99 (by decide) rfl h101 (fun c102 => ?_) (fun c102 => ?_)
                  · replace k := k1 c102
                    refine x_aload_n (pc2 := 129) dX8_qTakes_128 rfl rfl ?_
                    refine x_lload_n (pc2 := 130) dX8_qTakes_129 rfl rfl ?_
                    refine x_putf (pc2 := 133) (x := l2) fl_X8_710 ft_8_119 ic_62 (pv_j _ ic_62 rfl) (pn_j _) dX8_qTakes_130 rfl ?_
                    refine x_aload_n (pc2 := 134) dX8_qTakes_133 rfl rfl ?_
                    refine x_iconst (pc2 := 135) dX8_qTakes_134 rfl ?_
                    refine x_putf (pc2 := 138) (x := 0) fl_X8_715 ft_8_120 ic_62 (pv_i _ ic_62 rfl) (pn_z (by decide)) dX8_qTakes_135 rfl ?_
                    exact x_return dX8_qTakes_138 rfl k
                  · replace k := k2 c102
                    refine x_iload_n (pc2 := 103) dX8_qTakes_102 rfl rfl ?_
                    refine x_iconst (pc2 := 104) dX8_qTakes_103 rfl ?_
                    obtain ⟨k1, k2⟩ := k
                    refine x_icmp_ne (tgt := 119) (pc2 := 107) dX8_qTakes_104 (by decide) rfl h5 (by decide) (fun c103 => ?_) (fun c103 => ?_)
                    · replace k := k1 c103
                      refine x_lload_n (pc2 := 120) dX8_qTakes_119 rfl rfl ?_
                      refine x_aload_n (pc2 := 121) dX8_qTakes_120 rfl rfl ?_
                      refine x_getf (pc2 := 124) (v := aJ (m 62 119)) fl_X8_710 ic_62 (fv_j _ ic_62 rfl) dX8_qTakes_121 rfl ?_
                      obtain ⟨h104, k⟩ := k
                      obtain ⟨h105, k⟩ := k
                      obtain ⟨k1, k2⟩ := k
                      refine x_lc_ge (tgt := 133) (pc2 := 128) dX8_qTakes_124 dX8_qTakes_125 (by decide) rfl h104 h105 (fun c106 => ?_) (fun c106 => ?_)
                      · replace k := k1 c106
                        refine x_aload_n (pc2 := 134) dX8_qTakes_133 rfl rfl ?_
                        refine x_iconst (pc2 := 135) dX8_qTakes_134 rfl ?_
                        refine x_putf (pc2 := 138) (x := 0) fl_X8_715 ft_8_120 ic_62 (pv_i _ ic_62 rfl) (pn_z (by decide)) dX8_qTakes_135 rfl ?_
                        exact x_return dX8_qTakes_138 rfl k
                      · replace k := k2 c106
                        refine x_aload_n (pc2 := 129) dX8_qTakes_128 rfl rfl ?_
                        refine x_lload_n (pc2 := 130) dX8_qTakes_129 rfl rfl ?_
                        refine x_putf (pc2 := 133) (x := l2) fl_X8_710 ft_8_119 ic_62 (pv_j _ ic_62 rfl) (pn_j _) dX8_qTakes_130 rfl ?_
                        refine x_aload_n (pc2 := 134) dX8_qTakes_133 rfl rfl ?_
                        refine x_iconst (pc2 := 135) dX8_qTakes_134 rfl ?_
                        refine x_putf (pc2 := 138) (x := 0) fl_X8_715 ft_8_120 ic_62 (pv_i _ ic_62 rfl) (pn_z (by decide)) dX8_qTakes_135 rfl ?_
                        exact x_return dX8_qTakes_138 rfl k
                    · replace k := k2 c103
                      refine x_lload_n (pc2 := 108) dX8_qTakes_107 rfl rfl ?_
                      refine x_aload_n (pc2 := 109) dX8_qTakes_108 rfl rfl ?_
                      refine x_getf (pc2 := 112) (v := aJ (m 62 119)) fl_X8_710 ic_62 (fv_j _ ic_62 rfl) dX8_qTakes_109 rfl ?_
                      obtain ⟨h107, k⟩ := k
                      obtain ⟨h108, k⟩ := k
                      obtain ⟨k1, k2⟩ := k
                      refine x_lc_le (tgt := 133) (pc2 := 116) dX8_qTakes_112 dX8_qTakes_113 (by decide) rfl h107 h108 (fun c109 => ?_) (fun c109 => ?_)
                      · replace k := k1 c109
                        refine x_aload_n (pc2 := 134) dX8_qTakes_133 rfl rfl ?_
                        refine x_iconst (pc2 := 135) dX8_qTakes_134 rfl ?_
                        refine x_putf (pc2 := 138) (x := 0) fl_X8_715 ft_8_120 ic_62 (pv_i _ ic_62 rfl) (pn_z (by decide)) dX8_qTakes_135 rfl ?_
                        exact x_return dX8_qTakes_138 rfl k
                      · replace k := k2 c109
                        refine x_goto (tgt := 128) dX8_qTakes_116 (by decide) ?_
                        refine x_aload_n (pc2 := 129) dX8_qTakes_128 rfl rfl ?_
                        refine x_lload_n (pc2 := 130) dX8_qTakes_129 rfl rfl ?_
                        refine x_putf (pc2 := 133) (x := l2) fl_X8_710 ft_8_119 ic_62 (pv_j _ ic_62 rfl) (pn_j _) dX8_qTakes_130 rfl ?_
                        refine x_aload_n (pc2 := 134) dX8_qTakes_133 rfl rfl ?_
                        refine x_iconst (pc2 := 135) dX8_qTakes_134 rfl ?_
                        refine x_putf (pc2 := 138) (x := 0) fl_X8_715 ft_8_120 ic_62 (pv_i _ ic_62 rfl) (pn_z (by decide)) dX8_qTakes_135 rfl ?_
                        exact x_return dX8_qTakes_138 rfl k
              · replace k := k2 c99
                refine x_aload_n (pc2 := 81) dX8_qTakes_80 rfl rfl ?_
                refine x_dup_r (pc2 := 82) dX8_qTakes_81 rfl (by decide) ?_
                refine x_getf (pc2 := 85) (v := aJ (m 62 119)) fl_X8_710 ic_62 (fv_j _ ic_62 rfl) dX8_qTakes_82 rfl ?_
                refine x_lload_n (pc2 := 86) dX8_qTakes_85 rfl rfl ?_
                refine x_ladd (pc2 := 87) dX8_qTakes_86 rfl ?_
                refine x_putf (pc2 := 90) (x := ((m 62 119) + l2)) fl_X8_710 ft_8_119 ic_62 (pv_j _ ic_62 rfl) (pn_j _) dX8_qTakes_87 rfl ?_
                refine x_iload_n (pc2 := 91) dX8_qTakes_90 rfl rfl ?_
                refine x_iconst (pc2 := 92) dX8_qTakes_91 rfl ?_
                obtain ⟨k1, k2⟩ := k
                refine x_icmp_le (tgt := 133) (pc2 := 95) dX8_qTakes_92 (by decide) rfl h5 (by decide) (fun c110 => ?_) (fun c110 => ?_)
                · replace k := k1 c110
                  refine x_aload_n (pc2 := 134) dX8_qTakes_133 rfl rfl ?_
                  refine x_iconst (pc2 := 135) dX8_qTakes_134 rfl ?_
                  refine x_putf (pc2 := 138) (x := 0) fl_X8_715 ft_8_120 ic_62 (pv_i _ ic_62 rfl) (pn_z (by decide)) dX8_qTakes_135 rfl ?_
                  exact x_return dX8_qTakes_138 rfl k
                · replace k := k2 c110
                  refine x_aload_n (pc2 := 96) dX8_qTakes_95 rfl rfl ?_
                  refine x_getf (pc2 := 99) (v := aI ((wr m 62 119 ((m 62 119) + l2)) 62 120)) fl_X8_715 ic_62 (fv_i _ ic_62 rfl) dX8_qTakes_96 rfl ?_
                  obtain ⟨h111, k⟩ := k
                  obtain ⟨k1, k2⟩ := k
                  refine x_if_ne (tgt := 128) (pc2 := 102) dX8_qTakes_99 (by decide) rfl h111 (fun c112 => ?_) (fun c112 => ?_)
                  · replace k := k1 c112
                    refine x_aload_n (pc2 := 129) dX8_qTakes_128 rfl rfl ?_
                    refine x_lload_n (pc2 := 130) dX8_qTakes_129 rfl rfl ?_
                    refine x_putf (pc2 := 133) (x := l2) fl_X8_710 ft_8_119 ic_62 (pv_j _ ic_62 rfl) (pn_j _) dX8_qTakes_130 rfl ?_
                    refine x_aload_n (pc2 := 134) dX8_qTakes_133 rfl rfl ?_
                    refine x_iconst (pc2 := 135) dX8_qTakes_134 rfl ?_
                    refine x_putf (pc2 := 138) (x := 0) fl_X8_715 ft_8_120 ic_62 (pv_i _ ic_62 rfl) (pn_z (by decide)) dX8_qTakes_135 rfl ?_
                    exact x_return dX8_qTakes_138 rfl k
                  · replace k := k2 c112
                    refine x_iload_n (pc2 := 103) dX8_qTakes_102 rfl rfl ?_
                    refine x_iconst (pc2 := 104) dX8_qTakes_103 rfl ?_
                    obtain ⟨k1, k2⟩ := k
                    refine x_icmp_ne (tgt := 119) (pc2 := 107) dX8_qTakes_104 (by decide) rfl h5 (by decide) (fun c113 => ?_) (fun c113 => ?_)
                    · replace k := k1 c113
                      refine x_lload_n (pc2 := 120) dX8_qTakes_119 rfl rfl ?_
                      refine x_aload_n (pc2 := 121) dX8_qTakes_120 rfl rfl ?_
                      refine x_getf (pc2 := 124) (v := aJ ((wr m 62 119 ((m 62 119) + l2)) 62 119)) fl_X8_710 ic_62 (fv_j _ ic_62 rfl) dX8_qTakes_121 rfl ?_
                      obtain ⟨h114, k⟩ := k
                      obtain ⟨h115, k⟩ := k
                      obtain ⟨k1, k2⟩ := k
                      refine x_lc_ge (tgt := 133) (pc2 := 128) dX8_qTakes_124 dX8_qTakes_125 (by decide) rfl h114 h115 (fun c116 => ?_) (fun c116 => ?_)
                      · replace k := k1 c116
                        refine x_aload_n (pc2 := 134) dX8_qTakes_133 rfl rfl ?_
                        refine x_iconst (pc2 := 135) dX8_qTakes_134 rfl ?_
                        refine x_putf (pc2 := 138) (x := 0) fl_X8_715 ft_8_120 ic_62 (pv_i _ ic_62 rfl) (pn_z (by decide)) dX8_qTakes_135 rfl ?_
                        exact x_return dX8_qTakes_138 rfl k
                      · replace k := k2 c116
                        refine x_aload_n (pc2 := 129) dX8_qTakes_128 rfl rfl ?_
                        refine x_lload_n (pc2 := 130) dX8_qTakes_129 rfl rfl ?_
                        refine x_putf (pc2 := 133) (x := l2) fl_X8_710 ft_8_119 ic_62 (pv_j _ ic_62 rfl) (pn_j _) dX8_qTakes_130 rfl ?_
                        refine x_aload_n (pc2 := 134) dX8_qTakes_133 rfl rfl ?_
                        refine x_iconst (pc2 := 135) dX8_qTakes_134 rfl ?_
                        refine x_putf (pc2 := 138) (x := 0) fl_X8_715 ft_8_120 ic_62 (pv_i _ ic_62 rfl) (pn_z (by decide)) dX8_qTakes_135 rfl ?_
                        exact x_return dX8_qTakes_138 rfl k
                    · replace k := k2 c113
                      refine x_lload_n (pc2 := 108) dX8_qTakes_107 rfl rfl ?_
                      refine x_aload_n (pc2 := 109) dX8_qTakes_108 rfl rfl ?_
                      refine x_getf (pc2 := 112) (v := aJ ((wr m 62 119 ((m 62 119) + l2)) 62 119)) fl_X8_710 ic_62 (fv_j _ ic_62 rfl) dX8_qTakes_109 rfl ?_
                      obtain ⟨h117, k⟩ := k
                      obtain ⟨h118, k⟩ := k
                      obtain ⟨k1, k2⟩ := k
                      refine x_lc_le (tgt := 133) (pc2 := 116) dX8_qTakes_112 dX8_qTakes_113 (by decide) rfl h117 h118 (fun c119 => ?_) (fun c119 => ?_)
                      · replace k := k1 c119
                        refine x_aload_n (pc2 := 134) dX8_qTakes_133 rfl rfl ?_
                        refine x_iconst (pc2 := 135) dX8_qTakes_134 rfl ?_
                        refine x_putf (pc2 := 138) (x := 0) fl_X8_715 ft_8_120 ic_62 (pv_i _ ic_62 rfl) (pn_z (by decide)) dX8_qTakes_135 rfl ?_
                        exact x_return dX8_qTakes_138 rfl k
                      · replace k := k2 c119
                        refine x_goto (tgt := 128) dX8_qTakes_116 (by decide) ?_
                        refine x_aload_n (pc2 := 129) dX8_qTakes_128 rfl rfl ?_
                        refine x_lload_n (pc2 := 130) dX8_qTakes_129 rfl rfl ?_
                        refine x_putf (pc2 := 133) (x := l2) fl_X8_710 ft_8_119 ic_62 (pv_j _ ic_62 rfl) (pn_j _) dX8_qTakes_130 rfl ?_
                        refine x_aload_n (pc2 := 134) dX8_qTakes_133 rfl rfl ?_
                        refine x_iconst (pc2 := 135) dX8_qTakes_134 rfl ?_
                        refine x_putf (pc2 := 138) (x := 0) fl_X8_715 ft_8_120 ic_62 (pv_i _ ic_62 rfl) (pn_z (by decide)) dX8_qTakes_135 rfl ?_
                        exact x_return dX8_qTakes_138 rfl k
            · replace k := k2 c98
              refine x_aload_n (pc2 := 66) dX8_qTakes_65 rfl rfl ?_
              refine x_dup_r (pc2 := 67) dX8_qTakes_66 rfl (by decide) ?_
              refine x_getf (pc2 := 70) (v := aJ (m 62 119)) fl_X8_710 ic_62 (fv_j _ ic_62 rfl) dX8_qTakes_67 rfl ?_
              refine x_lconst (pc2 := 71) (v := 1) dX8_qTakes_70 rfl rfl ?_
              refine x_ladd (pc2 := 72) dX8_qTakes_71 rfl ?_
              refine x_putf (pc2 := 75) (x := ((m 62 119) + 1)) fl_X8_710 ft_8_119 ic_62 (pv_j _ ic_62 rfl) (pn_j _) dX8_qTakes_72 rfl ?_
              refine x_iload_n (pc2 := 76) dX8_qTakes_75 rfl rfl ?_
              refine x_iconst (pc2 := 77) dX8_qTakes_76 rfl ?_
              obtain ⟨k1, k2⟩ := k
              refine x_icmp_ne (tgt := 90) (pc2 := 80) dX8_qTakes_77 (by decide) rfl h5 (by decide) (fun c120 => ?_) (fun c120 => ?_)
              · replace k := k1 c120
                refine x_iload_n (pc2 := 91) dX8_qTakes_90 rfl rfl ?_
                refine x_iconst (pc2 := 92) dX8_qTakes_91 rfl ?_
                obtain ⟨k1, k2⟩ := k
                refine x_icmp_le (tgt := 133) (pc2 := 95) dX8_qTakes_92 (by decide) rfl h5 (by decide) (fun c121 => ?_) (fun c121 => ?_)
                · replace k := k1 c121
                  refine x_aload_n (pc2 := 134) dX8_qTakes_133 rfl rfl ?_
                  refine x_iconst (pc2 := 135) dX8_qTakes_134 rfl ?_
                  refine x_putf (pc2 := 138) (x := 0) fl_X8_715 ft_8_120 ic_62 (pv_i _ ic_62 rfl) (pn_z (by decide)) dX8_qTakes_135 rfl ?_
                  exact x_return dX8_qTakes_138 rfl k
                · replace k := k2 c121
                  refine x_aload_n (pc2 := 96) dX8_qTakes_95 rfl rfl ?_
                  refine x_getf (pc2 := 99) (v := aI ((wr m 62 119 ((m 62 119) + 1)) 62 120)) fl_X8_715 ic_62 (fv_i _ ic_62 rfl) dX8_qTakes_96 rfl ?_
                  obtain ⟨h122, k⟩ := k
                  obtain ⟨k1, k2⟩ := k
                  refine x_if_ne (tgt := 128) (pc2 := 102) dX8_qTakes_99 (by decide) rfl h122 (fun c123 => ?_) (fun c123 => ?_)
                  · replace k := k1 c123
                    refine x_aload_n (pc2 := 129) dX8_qTakes_128 rfl rfl ?_
                    refine x_lload_n (pc2 := 130) dX8_qTakes_129 rfl rfl ?_
                    refine x_putf (pc2 := 133) (x := l2) fl_X8_710 ft_8_119 ic_62 (pv_j _ ic_62 rfl) (pn_j _) dX8_qTakes_130 rfl ?_
                    refine x_aload_n (pc2 := 134) dX8_qTakes_133 rfl rfl ?_
                    refine x_iconst (pc2 := 135) dX8_qTakes_134 rfl ?_
                    refine x_putf (pc2 := 138) (x := 0) fl_X8_715 ft_8_120 ic_62 (pv_i _ ic_62 rfl) (pn_z (by decide)) dX8_qTakes_135 rfl ?_
                    exact x_return dX8_qTakes_138 rfl k
                  · replace k := k2 c123
                    refine x_iload_n (pc2 := 103) dX8_qTakes_102 rfl rfl ?_
                    refine x_iconst (pc2 := 104) dX8_qTakes_103 rfl ?_
                    obtain ⟨k1, k2⟩ := k
                    refine x_icmp_ne (tgt := 119) (pc2 := 107) dX8_qTakes_104 (by decide) rfl h5 (by decide) (fun c124 => ?_) (fun c124 => ?_)
                    · replace k := k1 c124
                      refine x_lload_n (pc2 := 120) dX8_qTakes_119 rfl rfl ?_
                      refine x_aload_n (pc2 := 121) dX8_qTakes_120 rfl rfl ?_
                      refine x_getf (pc2 := 124) (v := aJ ((wr m 62 119 ((m 62 119) + 1)) 62 119)) fl_X8_710 ic_62 (fv_j _ ic_62 rfl) dX8_qTakes_121 rfl ?_
                      obtain ⟨h125, k⟩ := k
                      obtain ⟨h126, k⟩ := k
                      obtain ⟨k1, k2⟩ := k
                      refine x_lc_ge (tgt := 133) (pc2 := 128) dX8_qTakes_124 dX8_qTakes_125 (by decide) rfl h125 h126 (fun c127 => ?_) (fun c127 => ?_)
                      · replace k := k1 c127
                        refine x_aload_n (pc2 := 134) dX8_qTakes_133 rfl rfl ?_
                        refine x_iconst (pc2 := 135) dX8_qTakes_134 rfl ?_
                        refine x_putf (pc2 := 138) (x := 0) fl_X8_715 ft_8_120 ic_62 (pv_i _ ic_62 rfl) (pn_z (by decide)) dX8_qTakes_135 rfl ?_
                        exact x_return dX8_qTakes_138 rfl k
                      · replace k := k2 c127
                        refine x_aload_n (pc2 := 129) dX8_qTakes_128 rfl rfl ?_
                        refine x_lload_n (pc2 := 130) dX8_qTakes_129 rfl rfl ?_
                        refine x_putf (pc2 := 133) (x := l2) fl_X8_710 ft_8_119 ic_62 (pv_j _ ic_62 rfl) (pn_j _) dX8_qTakes_130 rfl ?_
                        refine x_aload_n (pc2 := 134) dX8_qTakes_133 rfl rfl ?_
                        refine x_iconst (pc2 := 135) dX8_qTakes_134 rfl ?_
                        refine x_putf (pc2 := 138) (x := 0) fl_X8_715 ft_8_120 ic_62 (pv_i _ ic_62 rfl) (pn_z (by decide)) dX8_qTakes_135 rfl ?_
                        exact x_return dX8_qTakes_138 rfl k
                    · replace k := k2 c124
                      refine x_lload_n (pc2 := 108) dX8_qTakes_107 rfl rfl ?_
                      refine x_aload_n (pc2 := 109) dX8_qTakes_108 rfl rfl ?_
                      refine x_getf (pc2 := 112) (v := aJ ((wr m 62 119 ((m 62 119) + 1)) 62 119)) fl_X8_710 ic_62 (fv_j _ ic_62 rfl) dX8_qTakes_109 rfl ?_
                      obtain ⟨h128, k⟩ := k
                      obtain ⟨h129, k⟩ := k
                      obtain ⟨k1, k2⟩ := k
                      refine x_lc_le (tgt := 133) (pc2 := 116) dX8_qTakes_112 dX8_qTakes_113 (by decide) rfl h128 h129 (fun c130 => ?_) (fun c130 => ?_)
                      · replace k := k1 c130
                        refine x_aload_n (pc2 := 134) dX8_qTakes_133 rfl rfl ?_
                        refine x_iconst (pc2 := 135) dX8_qTakes_134 rfl ?_
                        refine x_putf (pc2 := 138) (x := 0) fl_X8_715 ft_8_120 ic_62 (pv_i _ ic_62 rfl) (pn_z (by decide)) dX8_qTakes_135 rfl ?_
                        exact x_return dX8_qTakes_138 rfl k
                      · replace k := k2 c130
                        refine x_goto (tgt := 128) dX8_qTakes_116 (by decide) ?_
                        refine x_aload_n (pc2 := 129) dX8_qTakes_128 rfl rfl ?_
                        refine x_lload_n (pc2 := 130) dX8_qTakes_129 rfl rfl ?_
                        refine x_putf (pc2 := 133) (x := l2) fl_X8_710 ft_8_119 ic_62 (pv_j _ ic_62 rfl) (pn_j _) dX8_qTakes_130 rfl ?_
                        refine x_aload_n (pc2 := 134) dX8_qTakes_133 rfl rfl ?_
                        refine x_iconst (pc2 := 135) dX8_qTakes_134 rfl ?_
                        refine x_putf (pc2 := 138) (x := 0) fl_X8_715 ft_8_120 ic_62 (pv_i _ ic_62 rfl) (pn_z (by decide)) dX8_qTakes_135 rfl ?_
                        exact x_return dX8_qTakes_138 rfl k
              · replace k := k2 c120
                refine x_aload_n (pc2 := 81) dX8_qTakes_80 rfl rfl ?_
                refine x_dup_r (pc2 := 82) dX8_qTakes_81 rfl (by decide) ?_
                refine x_getf (pc2 := 85) (v := aJ ((wr m 62 119 ((m 62 119) + 1)) 62 119)) fl_X8_710 ic_62 (fv_j _ ic_62 rfl) dX8_qTakes_82 rfl ?_
                refine x_lload_n (pc2 := 86) dX8_qTakes_85 rfl rfl ?_
                refine x_ladd (pc2 := 87) dX8_qTakes_86 rfl ?_
                refine x_putf (pc2 := 90) (x := (((wr m 62 119 ((m 62 119) + 1)) 62 119) + l2)) fl_X8_710 ft_8_119 ic_62 (pv_j _ ic_62 rfl) (pn_j _) dX8_qTakes_87 rfl ?_
                refine x_iload_n (pc2 := 91) dX8_qTakes_90 rfl rfl ?_
                refine x_iconst (pc2 := 92) dX8_qTakes_91 rfl ?_
                obtain ⟨k1, k2⟩ := k
                refine x_icmp_le (tgt := 133) (pc2 := 95) dX8_qTakes_92 (by decide) rfl h5 (by decide) (fun c131 => ?_) (fun c131 => ?_)
                · replace k := k1 c131
                  refine x_aload_n (pc2 := 134) dX8_qTakes_133 rfl rfl ?_
                  refine x_iconst (pc2 := 135) dX8_qTakes_134 rfl ?_
                  refine x_putf (pc2 := 138) (x := 0) fl_X8_715 ft_8_120 ic_62 (pv_i _ ic_62 rfl) (pn_z (by decide)) dX8_qTakes_135 rfl ?_
                  exact x_return dX8_qTakes_138 rfl k
                · replace k := k2 c131
                  refine x_aload_n (pc2 := 96) dX8_qTakes_95 rfl rfl ?_
                  refine x_getf (pc2 := 99) (v := aI ((wr (wr m 62 119 ((m 62 119) + 1)) 62 119 (((wr m 62 119 ((m 62 119) + 1)) 62 119) + l2)) 62 120)) fl_X8_715 ic_62 (fv_i _ ic_62 rfl) dX8_qTakes_96 rfl ?_
                  obtain ⟨h132, k⟩ := k
                  obtain ⟨k1, k2⟩ := k
                  refine x_if_ne (tgt := 128) (pc2 := 102) dX8_qTakes_99 (by decide) rfl h132 (fun c133 => ?_) (fun c133 => ?_)
                  · replace k := k1 c133
                    refine x_aload_n (pc2 := 129) dX8_qTakes_128 rfl rfl ?_
                    refine x_lload_n (pc2 := 130) dX8_qTakes_129 rfl rfl ?_
                    refine x_putf (pc2 := 133) (x := l2) fl_X8_710 ft_8_119 ic_62 (pv_j _ ic_62 rfl) (pn_j _) dX8_qTakes_130 rfl ?_
                    refine x_aload_n (pc2 := 134) dX8_qTakes_133 rfl rfl ?_
                    refine x_iconst (pc2 := 135) dX8_qTakes_134 rfl ?_
                    refine x_putf (pc2 := 138) (x := 0) fl_X8_715 ft_8_120 ic_62 (pv_i _ ic_62 rfl) (pn_z (by decide)) dX8_qTakes_135 rfl ?_
                    exact x_return dX8_qTakes_138 rfl k
                  · replace k := k2 c133
                    refine x_iload_n (pc2 := 103) dX8_qTakes_102 rfl rfl ?_
                    refine x_iconst (pc2 := 104) dX8_qTakes_103 rfl ?_
                    obtain ⟨k1, k2⟩ := k
                    refine x_icmp_ne (tgt := 119) (pc2 := 107) dX8_qTakes_104 (by decide) rfl h5 (by decide) (fun c134 => ?_) (fun c134 => ?_)
                    · replace k := k1 c134
                      refine x_lload_n (pc2 := 120) dX8_qTakes_119 rfl rfl ?_
                      refine x_aload_n (pc2 := 121) dX8_qTakes_120 rfl rfl ?_
                      refine x_getf (pc2 := 124) (v := aJ ((wr (wr m 62 119 ((m 62 119) + 1)) 62 119 (((wr m 62 119 ((m 62 119) + 1)) 62 119) + l2)) 62 119)) fl_X8_710 ic_62 (fv_j _ ic_62 rfl) dX8_qTakes_121 rfl ?_
                      obtain ⟨h135, k⟩ := k
                      obtain ⟨h136, k⟩ := k
                      obtain ⟨k1, k2⟩ := k
                      refine x_lc_ge (tgt := 133) (pc2 := 128) dX8_qTakes_124 dX8_qTakes_125 (by decide) rfl h135 h136 (fun c137 => ?_) (fun c137 => ?_)
                      · replace k := k1 c137
                        refine x_aload_n (pc2 := 134) dX8_qTakes_133 rfl rfl ?_
                        refine x_iconst (pc2 := 135) dX8_qTakes_134 rfl ?_
                        refine x_putf (pc2 := 138) (x := 0) fl_X8_715 ft_8_120 ic_62 (pv_i _ ic_62 rfl) (pn_z (by decide)) dX8_qTakes_135 rfl ?_
                        exact x_return dX8_qTakes_138 rfl k
                      · replace k := k2 c137
                        refine x_aload_n (pc2 := 129) dX8_qTakes_128 rfl rfl ?_
                        refine x_lload_n (pc2 := 130) dX8_qTakes_129 rfl rfl ?_
                        refine x_putf (pc2 := 133) (x := l2) fl_X8_710 ft_8_119 ic_62 (pv_j _ ic_62 rfl) (pn_j _) dX8_qTakes_130 rfl ?_
                        refine x_aload_n (pc2 := 134) dX8_qTakes_133 rfl rfl ?_
                        refine x_iconst (pc2 := 135) dX8_qTakes_134 rfl ?_
                        refine x_putf (pc2 := 138) (x := 0) fl_X8_715 ft_8_120 ic_62 (pv_i _ ic_62 rfl) (pn_z (by decide)) dX8_qTakes_135 rfl ?_
                        exact x_return dX8_qTakes_138 rfl k
                    · replace k := k2 c134
                      refine x_lload_n (pc2 := 108) dX8_qTakes_107 rfl rfl ?_
                      refine x_aload_n (pc2 := 109) dX8_qTakes_108 rfl rfl ?_
                      refine x_getf (pc2 := 112) (v := aJ ((wr (wr m 62 119 ((m 62 119) + 1)) 62 119 (((wr m 62 119 ((m 62 119) + 1)) 62 119) + l2)) 62 119)) fl_X8_710 ic_62 (fv_j _ ic_62 rfl) dX8_qTakes_109 rfl ?_
                      obtain ⟨h138, k⟩ := k
                      obtain ⟨h139, k⟩ := k
                      obtain ⟨k1, k2⟩ := k
                      refine x_lc_le (tgt := 133) (pc2 := 116) dX8_qTakes_112 dX8_qTakes_113 (by decide) rfl h138 h139 (fun c140 => ?_) (fun c140 => ?_)
                      · replace k := k1 c140
                        refine x_aload_n (pc2 := 134) dX8_qTakes_133 rfl rfl ?_
                        refine x_iconst (pc2 := 135) dX8_qTakes_134 rfl ?_
                        refine x_putf (pc2 := 138) (x := 0) fl_X8_715 ft_8_120 ic_62 (pv_i _ ic_62 rfl) (pn_z (by decide)) dX8_qTakes_135 rfl ?_
                        exact x_return dX8_qTakes_138 rfl k
                      · replace k := k2 c140
                        refine x_goto (tgt := 128) dX8_qTakes_116 (by decide) ?_
                        refine x_aload_n (pc2 := 129) dX8_qTakes_128 rfl rfl ?_
                        refine x_lload_n (pc2 := 130) dX8_qTakes_129 rfl rfl ?_
                        refine x_putf (pc2 := 133) (x := l2) fl_X8_710 ft_8_119 ic_62 (pv_j _ ic_62 rfl) (pn_j _) dX8_qTakes_130 rfl ?_
                        refine x_aload_n (pc2 := 134) dX8_qTakes_133 rfl rfl ?_
                        refine x_iconst (pc2 := 135) dX8_qTakes_134 rfl ?_
                        refine x_putf (pc2 := 138) (x := 0) fl_X8_715 ft_8_120 ic_62 (pv_i _ ic_62 rfl) (pn_z (by decide)) dX8_qTakes_135 rfl ?_
                        exact x_return dX8_qTakes_138 rfl k
        · replace k := k2 c75
          refine x_aload_n (pc2 := 49) dX8_qTakes_48 rfl rfl ?_
          refine x_iload (pc2 := 51) dX8_qTakes_49 rfl rfl ?_
          obtain ⟨h141, k⟩ := k
          refine x_i2l (pc2 := 52) dX8_qTakes_51 rfl h141 ?_
          refine x_putf (pc2 := 55) (x := l4) fl_X8_710 ft_8_119 ic_62 (pv_j _ ic_62 rfl) (pn_j _) dX8_qTakes_52 rfl ?_
          refine x_iload_n (pc2 := 56) dX8_qTakes_55 rfl rfl ?_
          refine x_iconst (pc2 := 57) dX8_qTakes_56 rfl ?_
          obtain ⟨k1, k2⟩ := k
          refine x_icmp_ne (tgt := 75) (pc2 := 60) dX8_qTakes_57 (by decide) rfl h5 (by decide) (fun c142 => ?_) (fun c142 => ?_)
          · replace k := k1 c142
            refine x_iload_n (pc2 := 76) dX8_qTakes_75 rfl rfl ?_
            refine x_iconst (pc2 := 77) dX8_qTakes_76 rfl ?_
            obtain ⟨k1, k2⟩ := k
            refine x_icmp_ne (tgt := 90) (pc2 := 80) dX8_qTakes_77 (by decide) rfl h5 (by decide) (fun c143 => ?_) (fun c143 => ?_)
            · replace k := k1 c143
              refine x_iload_n (pc2 := 91) dX8_qTakes_90 rfl rfl ?_
              refine x_iconst (pc2 := 92) dX8_qTakes_91 rfl ?_
              obtain ⟨k1, k2⟩ := k
              refine x_icmp_le (tgt := 133) (pc2 := 95) dX8_qTakes_92 (by decide) rfl h5 (by decide) (fun c144 => ?_) (fun c144 => ?_)
              · replace k := k1 c144
                refine x_aload_n (pc2 := 134) dX8_qTakes_133 rfl rfl ?_
                refine x_iconst (pc2 := 135) dX8_qTakes_134 rfl ?_
                refine x_putf (pc2 := 138) (x := 0) fl_X8_715 ft_8_120 ic_62 (pv_i _ ic_62 rfl) (pn_z (by decide)) dX8_qTakes_135 rfl ?_
                exact x_return dX8_qTakes_138 rfl k
              · replace k := k2 c144
                refine x_aload_n (pc2 := 96) dX8_qTakes_95 rfl rfl ?_
                refine x_getf (pc2 := 99) (v := aI ((wr m 62 119 l4) 62 120)) fl_X8_715 ic_62 (fv_i _ ic_62 rfl) dX8_qTakes_96 rfl ?_
                obtain ⟨h145, k⟩ := k
                obtain ⟨k1, k2⟩ := k
                refine x_if_ne (tgt := 128) (pc2 := 102) dX8_qTakes_99 (by decide) rfl h145 (fun c146 => ?_) (fun c146 => ?_)
                · replace k := k1 c146
                  refine x_aload_n (pc2 := 129) dX8_qTakes_128 rfl rfl ?_
                  refine x_lload_n (pc2 := 130) dX8_qTakes_129 rfl rfl ?_
                  refine x_putf (pc2 := 133) (x := l2) fl_X8_710 ft_8_119 ic_62 (pv_j _ ic_62 rfl) (pn_j _) dX8_qTakes_130 rfl ?_
                  refine x_aload_n (pc2 := 134) dX8_qTakes_133 rfl rfl ?_
                  refine x_iconst (pc2 := 135) dX8_qTakes_134 rfl ?_
                  refine x_putf (pc2 := 138) (x := 0) fl_X8_715 ft_8_120 ic_62 (pv_i _ ic_62 rfl) (pn_z (by decide)) dX8_qTakes_135 rfl ?_
                  exact x_return dX8_qTakes_138 rfl k
                · replace k := k2 c146
                  refine x_iload_n (pc2 := 103) dX8_qTakes_102 rfl rfl ?_
                  refine x_iconst (pc2 := 104) dX8_qTakes_103 rfl ?_
                  obtain ⟨k1, k2⟩ := k
                  refine x_icmp_ne (tgt := 119) (pc2 := 107) dX8_qTakes_104 (by decide) rfl h5 (by decide) (fun c147 => ?_) (fun c147 => ?_)
                  · replace k := k1 c147
                    refine x_lload_n (pc2 := 120) dX8_qTakes_119 rfl rfl ?_
                    refine x_aload_n (pc2 := 121) dX8_qTakes_120 rfl rfl ?_
                    refine x_getf (pc2 := 124) (v := aJ ((wr m 62 119 l4) 62 119)) fl_X8_710 ic_62 (fv_j _ ic_62 rfl) dX8_qTakes_121 rfl ?_
                    obtain ⟨h148, k⟩ := k
                    obtain ⟨h149, k⟩ := k
                    obtain ⟨k1, k2⟩ := k
                    refine x_lc_ge (tgt := 133) (pc2 := 128) dX8_qTakes_124 dX8_qTakes_125 (by decide) rfl h148 h149 (fun c150 => ?_) (fun c150 => ?_)
                    · replace k := k1 c150
                      refine x_aload_n (pc2 := 134) dX8_qTakes_133 rfl rfl ?_
                      refine x_iconst (pc2 := 135) dX8_qTakes_134 rfl ?_
                      refine x_putf (pc2 := 138) (x := 0) fl_X8_715 ft_8_120 ic_62 (pv_i _ ic_62 rfl) (pn_z (by decide)) dX8_qTakes_135 rfl ?_
                      exact x_return dX8_qTakes_138 rfl k
                    · replace k := k2 c150
                      refine x_aload_n (pc2 := 129) dX8_qTakes_128 rfl rfl ?_
                      refine x_lload_n (pc2 := 130) dX8_qTakes_129 rfl rfl ?_
                      refine x_putf (pc2 := 133) (x := l2) fl_X8_710 ft_8_119 ic_62 (pv_j _ ic_62 rfl) (pn_j _) dX8_qTakes_130 rfl ?_
                      refine x_aload_n (pc2 := 134) dX8_qTakes_133 rfl rfl ?_
                      refine x_iconst (pc2 := 135) dX8_qTakes_134 rfl ?_
                      refine x_putf (pc2 := 138) (x := 0) fl_X8_715 ft_8_120 ic_62 (pv_i _ ic_62 rfl) (pn_z (by decide)) dX8_qTakes_135 rfl ?_
                      exact x_return dX8_qTakes_138 rfl k
                  · replace k := k2 c147
                    refine x_lload_n (pc2 := 108) dX8_qTakes_107 rfl rfl ?_
                    refine x_aload_n (pc2 := 109) dX8_qTakes_108 rfl rfl ?_
                    refine x_getf (pc2 := 112) (v := aJ ((wr m 62 119 l4) 62 119)) fl_X8_710 ic_62 (fv_j _ ic_62 rfl) dX8_qTakes_109 rfl ?_
                    obtain ⟨h151, k⟩ := k
                    obtain ⟨h152, k⟩ := k
                    obtain ⟨k1, k2⟩ := k
                    refine x_lc_le (tgt := 133) (pc2 := 116) dX8_qTakes_112 dX8_qTakes_113 (by decide) rfl h151 h152 (fun c153 => ?_) (fun c153 => ?_)
                    · replace k := k1 c153
                      refine x_aload_n (pc2 := 134) dX8_qTakes_133 rfl rfl ?_
                      refine x_iconst (pc2 := 135) dX8_qTakes_134 rfl ?_
                      refine x_putf (pc2 := 138) (x := 0) fl_X8_715 ft_8_120 ic_62 (pv_i _ ic_62 rfl) (pn_z (by decide)) dX8_qTakes_135 rfl ?_
                      exact x_return dX8_qTakes_138 rfl k
                    · replace k := k2 c153
                      refine x_goto (tgt := 128) dX8_qTakes_116 (by decide) ?_
                      refine x_aload_n (pc2 := 129) dX8_qTakes_128 rfl rfl ?_
                      refine x_lload_n (pc2 := 130) dX8_qTakes_129 rfl rfl ?_
                      refine x_putf (pc2 := 133) (x := l2) fl_X8_710 ft_8_119 ic_62 (pv_j _ ic_62 rfl) (pn_j _) dX8_qTakes_130 rfl ?_
                      refine x_aload_n (pc2 := 134) dX8_qTakes_133 rfl rfl ?_
                      refine x_iconst (pc2 := 135) dX8_qTakes_134 rfl ?_
                      refine x_putf (pc2 := 138) (x := 0) fl_X8_715 ft_8_120 ic_62 (pv_i _ ic_62 rfl) (pn_z (by decide)) dX8_qTakes_135 rfl ?_
                      exact x_return dX8_qTakes_138 rfl k
            · replace k := k2 c143
              refine x_aload_n (pc2 := 81) dX8_qTakes_80 rfl rfl ?_
              refine x_dup_r (pc2 := 82) dX8_qTakes_81 rfl (by decide) ?_
              refine x_getf (pc2 := 85) (v := aJ ((wr m 62 119 l4) 62 119)) fl_X8_710 ic_62 (fv_j _ ic_62 rfl) dX8_qTakes_82 rfl ?_
              refine x_lload_n (pc2 := 86) dX8_qTakes_85 rfl rfl ?_
              refine x_ladd (pc2 := 87) dX8_qTakes_86 rfl ?_
              refine x_putf (pc2 := 90) (x := (((wr m 62 119 l4) 62 119) + l2)) fl_X8_710 ft_8_119 ic_62 (pv_j _ ic_62 rfl) (pn_j _) dX8_qTakes_87 rfl ?_
              refine x_iload_n (pc2 := 91) dX8_qTakes_90 rfl rfl ?_
              refine x_iconst (pc2 := 92) dX8_qTakes_91 rfl ?_
              obtain ⟨k1, k2⟩ := k
              refine x_icmp_le (tgt := 133) (pc2 := 95) dX8_qTakes_92 (by decide) rfl h5 (by decide) (fun c154 => ?_) (fun c154 => ?_)
              · replace k := k1 c154
                refine x_aload_n (pc2 := 134) dX8_qTakes_133 rfl rfl ?_
                refine x_iconst (pc2 := 135) dX8_qTakes_134 rfl ?_
                refine x_putf (pc2 := 138) (x := 0) fl_X8_715 ft_8_120 ic_62 (pv_i _ ic_62 rfl) (pn_z (by decide)) dX8_qTakes_135 rfl ?_
                exact x_return dX8_qTakes_138 rfl k
              · replace k := k2 c154
                refine x_aload_n (pc2 := 96) dX8_qTakes_95 rfl rfl ?_
                refine x_getf (pc2 := 99) (v := aI ((wr (wr m 62 119 l4) 62 119 (((wr m 62 119 l4) 62 119) + l2)) 62 120)) fl_X8_715 ic_62 (fv_i _ ic_62 rfl) dX8_qTakes_96 rfl ?_
                obtain ⟨h155, k⟩ := k
                obtain ⟨k1, k2⟩ := k
                refine x_if_ne (tgt := 128) (pc2 := 102) dX8_qTakes_99 (by decide) rfl h155 (fun c156 => ?_) (fun c156 => ?_)
                · replace k := k1 c156
                  refine x_aload_n (pc2 := 129) dX8_qTakes_128 rfl rfl ?_
                  refine x_lload_n (pc2 := 130) dX8_qTakes_129 rfl rfl ?_
                  refine x_putf (pc2 := 133) (x := l2) fl_X8_710 ft_8_119 ic_62 (pv_j _ ic_62 rfl) (pn_j _) dX8_qTakes_130 rfl ?_
                  refine x_aload_n (pc2 := 134) dX8_qTakes_133 rfl rfl ?_
                  refine x_iconst (pc2 := 135) dX8_qTakes_134 rfl ?_
                  refine x_putf (pc2 := 138) (x := 0) fl_X8_715 ft_8_120 ic_62 (pv_i _ ic_62 rfl) (pn_z (by decide)) dX8_qTakes_135 rfl ?_
                  exact x_return dX8_qTakes_138 rfl k
                · replace k := k2 c156
                  refine x_iload_n (pc2 := 103) dX8_qTakes_102 rfl rfl ?_
                  refine x_iconst (pc2 := 104) dX8_qTakes_103 rfl ?_
                  obtain ⟨k1, k2⟩ := k
                  refine x_icmp_ne (tgt := 119) (pc2 := 107) dX8_qTakes_104 (by decide) rfl h5 (by decide) (fun c157 => ?_) (fun c157 => ?_)
                  · replace k := k1 c157
                    refine x_lload_n (pc2 := 120) dX8_qTakes_119 rfl rfl ?_
                    refine x_aload_n (pc2 := 121) dX8_qTakes_120 rfl rfl ?_
                    refine x_getf (pc2 := 124) (v := aJ ((wr (wr m 62 119 l4) 62 119 (((wr m 62 119 l4) 62 119) + l2)) 62 119)) fl_X8_710 ic_62 (fv_j _ ic_62 rfl) dX8_qTakes_121 rfl ?_
                    obtain ⟨h158, k⟩ := k
                    obtain ⟨h159, k⟩ := k
                    obtain ⟨k1, k2⟩ := k
                    refine x_lc_ge (tgt := 133) (pc2 := 128) dX8_qTakes_124 dX8_qTakes_125 (by decide) rfl h158 h159 (fun c160 => ?_) (fun c160 => ?_)
                    · replace k := k1 c160
                      refine x_aload_n (pc2 := 134) dX8_qTakes_133 rfl rfl ?_
                      refine x_iconst (pc2 := 135) dX8_qTakes_134 rfl ?_
                      refine x_putf (pc2 := 138) (x := 0) fl_X8_715 ft_8_120 ic_62 (pv_i _ ic_62 rfl) (pn_z (by decide)) dX8_qTakes_135 rfl ?_
                      exact x_return dX8_qTakes_138 rfl k
                    · replace k := k2 c160
                      refine x_aload_n (pc2 := 129) dX8_qTakes_128 rfl rfl ?_
                      refine x_lload_n (pc2 := 130) dX8_qTakes_129 rfl rfl ?_
                      refine x_putf (pc2 := 133) (x := l2) fl_X8_710 ft_8_119 ic_62 (pv_j _ ic_62 rfl) (pn_j _) dX8_qTakes_130 rfl ?_
                      refine x_aload_n (pc2 := 134) dX8_qTakes_133 rfl rfl ?_
                      refine x_iconst (pc2 := 135) dX8_qTakes_134 rfl ?_
                      refine x_putf (pc2 := 138) (x := 0) fl_X8_715 ft_8_120 ic_62 (pv_i _ ic_62 rfl) (pn_z (by decide)) dX8_qTakes_135 rfl ?_
                      exact x_return dX8_qTakes_138 rfl k
                  · replace k := k2 c157
                    refine x_lload_n (pc2 := 108) dX8_qTakes_107 rfl rfl ?_
                    refine x_aload_n (pc2 := 109) dX8_qTakes_108 rfl rfl ?_
                    refine x_getf (pc2 := 112) (v := aJ ((wr (wr m 62 119 l4) 62 119 (((wr m 62 119 l4) 62 119) + l2)) 62 119)) fl_X8_710 ic_62 (fv_j _ ic_62 rfl) dX8_qTakes_109 rfl ?_
                    obtain ⟨h161, k⟩ := k
                    obtain ⟨h162, k⟩ := k
                    obtain ⟨k1, k2⟩ := k
                    refine x_lc_le (tgt := 133) (pc2 := 116) dX8_qTakes_112 dX8_qTakes_113 (by decide) rfl h161 h162 (fun c163 => ?_) (fun c163 => ?_)
                    · replace k := k1 c163
                      refine x_aload_n (pc2 := 134) dX8_qTakes_133 rfl rfl ?_
                      refine x_iconst (pc2 := 135) dX8_qTakes_134 rfl ?_
                      refine x_putf (pc2 := 138) (x := 0) fl_X8_715 ft_8_120 ic_62 (pv_i _ ic_62 rfl) (pn_z (by decide)) dX8_qTakes_135 rfl ?_
                      exact x_return dX8_qTakes_138 rfl k
                    · replace k := k2 c163
                      refine x_goto (tgt := 128) dX8_qTakes_116 (by decide) ?_
                      refine x_aload_n (pc2 := 129) dX8_qTakes_128 rfl rfl ?_
                      refine x_lload_n (pc2 := 130) dX8_qTakes_129 rfl rfl ?_
                      refine x_putf (pc2 := 133) (x := l2) fl_X8_710 ft_8_119 ic_62 (pv_j _ ic_62 rfl) (pn_j _) dX8_qTakes_130 rfl ?_
                      refine x_aload_n (pc2 := 134) dX8_qTakes_133 rfl rfl ?_
                      refine x_iconst (pc2 := 135) dX8_qTakes_134 rfl ?_
                      refine x_putf (pc2 := 138) (x := 0) fl_X8_715 ft_8_120 ic_62 (pv_i _ ic_62 rfl) (pn_z (by decide)) dX8_qTakes_135 rfl ?_
                      exact x_return dX8_qTakes_138 rfl k
          · replace k := k2 c142
            refine x_iload (pc2 := 62) dX8_qTakes_60 rfl rfl ?_
            obtain ⟨k1, k2⟩ := k
            refine x_if_eq (tgt := 75) (pc2 := 65) dX8_qTakes_62 (by decide) rfl h74 (fun c164 => ?_) (fun c164 => ?_)
            · replace k := k1 c164
              refine x_iload_n (pc2 := 76) dX8_qTakes_75 rfl rfl ?_
              refine x_iconst (pc2 := 77) dX8_qTakes_76 rfl ?_
              obtain ⟨k1, k2⟩ := k
              refine x_icmp_ne (tgt := 90) (pc2 := 80) dX8_qTakes_77 (by decide) rfl h5 (by decide) (fun c165 => ?_) (fun c165 => ?_)
              · replace k := k1 c165
                refine x_iload_n (pc2 := 91) dX8_qTakes_90 rfl rfl ?_
                refine x_iconst (pc2 := 92) dX8_qTakes_91 rfl ?_
                obtain ⟨k1, k2⟩ := k
                refine x_icmp_le (tgt := 133) (pc2 := 95) dX8_qTakes_92 (by decide) rfl h5 (by decide) (fun c166 => ?_) (fun c166 => ?_)
                · replace k := k1 c166
                  refine x_aload_n (pc2 := 134) dX8_qTakes_133 rfl rfl ?_
                  refine x_iconst (pc2 := 135) dX8_qTakes_134 rfl ?_
                  refine x_putf (pc2 := 138) (x := 0) fl_X8_715 ft_8_120 ic_62 (pv_i _ ic_62 rfl) (pn_z (by decide)) dX8_qTakes_135 rfl ?_
                  exact x_return dX8_qTakes_138 rfl k
                · replace k := k2 c166
                  refine x_aload_n (pc2 := 96) dX8_qTakes_95 rfl rfl ?_
                  refine x_getf (pc2 := 99) (v := aI ((wr m 62 119 l4) 62 120)) fl_X8_715 ic_62 (fv_i _ ic_62 rfl) dX8_qTakes_96 rfl ?_
                  obtain ⟨h167, k⟩ := k
                  obtain ⟨k1, k2⟩ := k
                  refine x_if_ne (tgt := 128) (pc2 := 102) dX8_qTakes_99 (by decide) rfl h167 (fun c168 => ?_) (fun c168 => ?_)
                  · replace k := k1 c168
                    refine x_aload_n (pc2 := 129) dX8_qTakes_128 rfl rfl ?_
                    refine x_lload_n (pc2 := 130) dX8_qTakes_129 rfl rfl ?_
                    refine x_putf (pc2 := 133) (x := l2) fl_X8_710 ft_8_119 ic_62 (pv_j _ ic_62 rfl) (pn_j _) dX8_qTakes_130 rfl ?_
                    refine x_aload_n (pc2 := 134) dX8_qTakes_133 rfl rfl ?_
                    refine x_iconst (pc2 := 135) dX8_qTakes_134 rfl ?_
                    refine x_putf (pc2 := 138) (x := 0) fl_X8_715 ft_8_120 ic_62 (pv_i _ ic_62 rfl) (pn_z (by decide)) dX8_qTakes_135 rfl ?_
                    exact x_return dX8_qTakes_138 rfl k
                  · replace k := k2 c168
                    refine x_iload_n (pc2 := 103) dX8_qTakes_102 rfl rfl ?_
                    refine x_iconst (pc2 := 104) dX8_qTakes_103 rfl ?_
                    obtain ⟨k1, k2⟩ := k
                    refine x_icmp_ne (tgt := 119) (pc2 := 107) dX8_qTakes_104 (by decide) rfl h5 (by decide) (fun c169 => ?_) (fun c169 => ?_)
                    · replace k := k1 c169
                      refine x_lload_n (pc2 := 120) dX8_qTakes_119 rfl rfl ?_
                      refine x_aload_n (pc2 := 121) dX8_qTakes_120 rfl rfl ?_
                      refine x_getf (pc2 := 124) (v := aJ ((wr m 62 119 l4) 62 119)) fl_X8_710 ic_62 (fv_j _ ic_62 rfl) dX8_qTakes_121 rfl ?_
                      obtain ⟨h170, k⟩ := k
                      obtain ⟨h171, k⟩ := k
                      obtain ⟨k1, k2⟩ := k
                      refine x_lc_ge (tgt := 133) (pc2 := 128) dX8_qTakes_124 dX8_qTakes_125 (by decide) rfl h170 h171 (fun c172 => ?_) (fun c172 => ?_)
                      · replace k := k1 c172
                        refine x_aload_n (pc2 := 134) dX8_qTakes_133 rfl rfl ?_
                        refine x_iconst (pc2 := 135) dX8_qTakes_134 rfl ?_
                        refine x_putf (pc2 := 138) (x := 0) fl_X8_715 ft_8_120 ic_62 (pv_i _ ic_62 rfl) (pn_z (by decide)) dX8_qTakes_135 rfl ?_
                        exact x_return dX8_qTakes_138 rfl k
                      · replace k := k2 c172
                        refine x_aload_n (pc2 := 129) dX8_qTakes_128 rfl rfl ?_
                        refine x_lload_n (pc2 := 130) dX8_qTakes_129 rfl rfl ?_
                        refine x_putf (pc2 := 133) (x := l2) fl_X8_710 ft_8_119 ic_62 (pv_j _ ic_62 rfl) (pn_j _) dX8_qTakes_130 rfl ?_
                        refine x_aload_n (pc2 := 134) dX8_qTakes_133 rfl rfl ?_
                        refine x_iconst (pc2 := 135) dX8_qTakes_134 rfl ?_
                        refine x_putf (pc2 := 138) (x := 0) fl_X8_715 ft_8_120 ic_62 (pv_i _ ic_62 rfl) (pn_z (by decide)) dX8_qTakes_135 rfl ?_
                        exact x_return dX8_qTakes_138 rfl k
                    · replace k := k2 c169
                      refine x_lload_n (pc2 := 108) dX8_qTakes_107 rfl rfl ?_
                      refine x_aload_n (pc2 := 109) dX8_qTakes_108 rfl rfl ?_
                      refine x_getf (pc2 := 112) (v := aJ ((wr m 62 119 l4) 62 119)) fl_X8_710 ic_62 (fv_j _ ic_62 rfl) dX8_qTakes_109 rfl ?_
                      obtain ⟨h173, k⟩ := k
                      obtain ⟨h174, k⟩ := k
                      obtain ⟨k1, k2⟩ := k
                      refine x_lc_le (tgt := 133) (pc2 := 116) dX8_qTakes_112 dX8_qTakes_113 (by decide) rfl h173 h174 (fun c175 => ?_) (fun c175 => ?_)
                      · replace k := k1 c175
                        refine x_aload_n (pc2 := 134) dX8_qTakes_133 rfl rfl ?_
                        refine x_iconst (pc2 := 135) dX8_qTakes_134 rfl ?_
                        refine x_putf (pc2 := 138) (x := 0) fl_X8_715 ft_8_120 ic_62 (pv_i _ ic_62 rfl) (pn_z (by decide)) dX8_qTakes_135 rfl ?_
                        exact x_return dX8_qTakes_138 rfl k
                      · replace k := k2 c175
                        refine x_goto (tgt := 128) dX8_qTakes_116 (by decide) ?_
                        refine x_aload_n (pc2 := 129) dX8_qTakes_128 rfl rfl ?_
                        refine x_lload_n (pc2 := 130) dX8_qTakes_129 rfl rfl ?_
                        refine x_putf (pc2 := 133) (x := l2) fl_X8_710 ft_8_119 ic_62 (pv_j _ ic_62 rfl) (pn_j _) dX8_qTakes_130 rfl ?_
                        refine x_aload_n (pc2 := 134) dX8_qTakes_133 rfl rfl ?_
                        refine x_iconst (pc2 := 135) dX8_qTakes_134 rfl ?_
                        refine x_putf (pc2 := 138) (x := 0) fl_X8_715 ft_8_120 ic_62 (pv_i _ ic_62 rfl) (pn_z (by decide)) dX8_qTakes_135 rfl ?_
                        exact x_return dX8_qTakes_138 rfl k
              · replace k := k2 c165
                refine x_aload_n (pc2 := 81) dX8_qTakes_80 rfl rfl ?_
                refine x_dup_r (pc2 := 82) dX8_qTakes_81 rfl (by decide) ?_
                refine x_getf (pc2 := 85) (v := aJ ((wr m 62 119 l4) 62 119)) fl_X8_710 ic_62 (fv_j _ ic_62 rfl) dX8_qTakes_82 rfl ?_
                refine x_lload_n (pc2 := 86) dX8_qTakes_85 rfl rfl ?_
                refine x_ladd (pc2 := 87) dX8_qTakes_86 rfl ?_
                refine x_putf (pc2 := 90) (x := (((wr m 62 119 l4) 62 119) + l2)) fl_X8_710 ft_8_119 ic_62 (pv_j _ ic_62 rfl) (pn_j _) dX8_qTakes_87 rfl ?_
                refine x_iload_n (pc2 := 91) dX8_qTakes_90 rfl rfl ?_
                refine x_iconst (pc2 := 92) dX8_qTakes_91 rfl ?_
                obtain ⟨k1, k2⟩ := k
                refine x_icmp_le (tgt := 133) (pc2 := 95) dX8_qTakes_92 (by decide) rfl h5 (by decide) (fun c176 => ?_) (fun c176 => ?_)
                · replace k := k1 c176
                  refine x_aload_n (pc2 := 134) dX8_qTakes_133 rfl rfl ?_
                  refine x_iconst (pc2 := 135) dX8_qTakes_134 rfl ?_
                  refine x_putf (pc2 := 138) (x := 0) fl_X8_715 ft_8_120 ic_62 (pv_i _ ic_62 rfl) (pn_z (by decide)) dX8_qTakes_135 rfl ?_
                  exact x_return dX8_qTakes_138 rfl k
                · replace k := k2 c176
                  refine x_aload_n (pc2 := 96) dX8_qTakes_95 rfl rfl ?_
                  refine x_getf (pc2 := 99) (v := aI ((wr (wr m 62 119 l4) 62 119 (((wr m 62 119 l4) 62 119) + l2)) 62 120)) fl_X8_715 ic_62 (fv_i _ ic_62 rfl) dX8_qTakes_96 rfl ?_
                  obtain ⟨h177, k⟩ := k
                  obtain ⟨k1, k2⟩ := k
                  refine x_if_ne (tgt := 128) (pc2 := 102) dX8_qTakes_99 (by decide) rfl h177 (fun c178 => ?_) (fun c178 => ?_)
                  · replace k := k1 c178
                    refine x_aload_n (pc2 := 129) dX8_qTakes_128 rfl rfl ?_
                    refine x_lload_n (pc2 := 130) dX8_qTakes_129 rfl rfl ?_
                    refine x_putf (pc2 := 133) (x := l2) fl_X8_710 ft_8_119 ic_62 (pv_j _ ic_62 rfl) (pn_j _) dX8_qTakes_130 rfl ?_
                    refine x_aload_n (pc2 := 134) dX8_qTakes_133 rfl rfl ?_
                    refine x_iconst (pc2 := 135) dX8_qTakes_134 rfl ?_
                    refine x_putf (pc2 := 138) (x := 0) fl_X8_715 ft_8_120 ic_62 (pv_i _ ic_62 rfl) (pn_z (by decide)) dX8_qTakes_135 rfl ?_
                    exact x_return dX8_qTakes_138 rfl k
                  · replace k := k2 c178
                    refine x_iload_n (pc2 := 103) dX8_qTakes_102 rfl rfl ?_
                    refine x_iconst (pc2 := 104) dX8_qTakes_103 rfl ?_
                    obtain ⟨k1, k2⟩ := k
                    refine x_icmp_ne (tgt := 119) (pc2 := 107) dX8_qTakes_104 (by decide) rfl h5 (by decide) (fun c179 => ?_) (fun c179 => ?_)
                    · replace k := k1 c179
                      refine x_lload_n (pc2 := 120) dX8_qTakes_119 rfl rfl ?_
                      refine x_aload_n (pc2 := 121) dX8_qTakes_120 rfl rfl ?_
                      refine x_getf (pc2 := 124) (v := aJ ((wr (wr m 62 119 l4) 62 119 (((wr m 62 119 l4) 62 119) + l2)) 62 119)) fl_X8_710 ic_62 (fv_j _ ic_62 rfl) dX8_qTakes_121 rfl ?_
                      obtain ⟨h180, k⟩ := k
                      obtain ⟨h181, k⟩ := k
                      obtain ⟨k1, k2⟩ := k
                      refine x_lc_ge (tgt := 133) (pc2 := 128) dX8_qTakes_124 dX8_qTakes_125 (by decide) rfl h180 h181 (fun c182 => ?_) (fun c182 => ?_)
                      · replace k := k1 c182
                        refine x_aload_n (pc2 := 134) dX8_qTakes_133 rfl rfl ?_
                        refine x_iconst (pc2 := 135) dX8_qTakes_134 rfl ?_
                        refine x_putf (pc2 := 138) (x := 0) fl_X8_715 ft_8_120 ic_62 (pv_i _ ic_62 rfl) (pn_z (by decide)) dX8_qTakes_135 rfl ?_
                        exact x_return dX8_qTakes_138 rfl k
                      · replace k := k2 c182
                        refine x_aload_n (pc2 := 129) dX8_qTakes_128 rfl rfl ?_
                        refine x_lload_n (pc2 := 130) dX8_qTakes_129 rfl rfl ?_
                        refine x_putf (pc2 := 133) (x := l2) fl_X8_710 ft_8_119 ic_62 (pv_j _ ic_62 rfl) (pn_j _) dX8_qTakes_130 rfl ?_
                        refine x_aload_n (pc2 := 134) dX8_qTakes_133 rfl rfl ?_
                        refine x_iconst (pc2 := 135) dX8_qTakes_134 rfl ?_
                        refine x_putf (pc2 := 138) (x := 0) fl_X8_715 ft_8_120 ic_62 (pv_i _ ic_62 rfl) (pn_z (by decide)) dX8_qTakes_135 rfl ?_
                        exact x_return dX8_qTakes_138 rfl k
                    · replace k := k2 c179
                      refine x_lload_n (pc2 := 108) dX8_qTakes_107 rfl rfl ?_
                      refine x_aload_n (pc2 := 109) dX8_qTakes_108 rfl rfl ?_
                      refine x_getf (pc2 := 112) (v := aJ ((wr (wr m 62 119 l4) 62 119 (((wr m 62 119 l4) 62 119) + l2)) 62 119)) fl_X8_710 ic_62 (fv_j _ ic_62 rfl) dX8_qTakes_109 rfl ?_
                      obtain ⟨h183, k⟩ := k
                      obtain ⟨h184, k⟩ := k
                      obtain ⟨k1, k2⟩ := k
                      refine x_lc_le (tgt := 133) (pc2 := 116) dX8_qTakes_112 dX8_qTakes_113 (by decide) rfl h183 h184 (fun c185 => ?_) (fun c185 => ?_)
                      · replace k := k1 c185
                        refine x_aload_n (pc2 := 134) dX8_qTakes_133 rfl rfl ?_
                        refine x_iconst (pc2 := 135) dX8_qTakes_134 rfl ?_
                        refine x_putf (pc2 := 138) (x := 0) fl_X8_715 ft_8_120 ic_62 (pv_i _ ic_62 rfl) (pn_z (by decide)) dX8_qTakes_135 rfl ?_
                        exact x_return dX8_qTakes_138 rfl k
                      · replace k := k2 c185
                        refine x_goto (tgt := 128) dX8_qTakes_116 (by decide) ?_
                        refine x_aload_n (pc2 := 129) dX8_qTakes_128 rfl rfl ?_
                        refine x_lload_n (pc2 := 130) dX8_qTakes_129 rfl rfl ?_
                        refine x_putf (pc2 := 133) (x := l2) fl_X8_710 ft_8_119 ic_62 (pv_j _ ic_62 rfl) (pn_j _) dX8_qTakes_130 rfl ?_
                        refine x_aload_n (pc2 := 134) dX8_qTakes_133 rfl rfl ?_
                        refine x_iconst (pc2 := 135) dX8_qTakes_134 rfl ?_
                        refine x_putf (pc2 := 138) (x := 0) fl_X8_715 ft_8_120 ic_62 (pv_i _ ic_62 rfl) (pn_z (by decide)) dX8_qTakes_135 rfl ?_
                        exact x_return dX8_qTakes_138 rfl k
            · replace k := k2 c164
              refine x_aload_n (pc2 := 66) dX8_qTakes_65 rfl rfl ?_
              refine x_dup_r (pc2 := 67) dX8_qTakes_66 rfl (by decide) ?_
              refine x_getf (pc2 := 70) (v := aJ ((wr m 62 119 l4) 62 119)) fl_X8_710 ic_62 (fv_j _ ic_62 rfl) dX8_qTakes_67 rfl ?_
              refine x_lconst (pc2 := 71) (v := 1) dX8_qTakes_70 rfl rfl ?_
              refine x_ladd (pc2 := 72) dX8_qTakes_71 rfl ?_
              refine x_putf (pc2 := 75) (x := (((wr m 62 119 l4) 62 119) + 1)) fl_X8_710 ft_8_119 ic_62 (pv_j _ ic_62 rfl) (pn_j _) dX8_qTakes_72 rfl ?_
              refine x_iload_n (pc2 := 76) dX8_qTakes_75 rfl rfl ?_
              refine x_iconst (pc2 := 77) dX8_qTakes_76 rfl ?_
              obtain ⟨k1, k2⟩ := k
              refine x_icmp_ne (tgt := 90) (pc2 := 80) dX8_qTakes_77 (by decide) rfl h5 (by decide) (fun c186 => ?_) (fun c186 => ?_)
              · replace k := k1 c186
                refine x_iload_n (pc2 := 91) dX8_qTakes_90 rfl rfl ?_
                refine x_iconst (pc2 := 92) dX8_qTakes_91 rfl ?_
                obtain ⟨k1, k2⟩ := k
                refine x_icmp_le (tgt := 133) (pc2 := 95) dX8_qTakes_92 (by decide) rfl h5 (by decide) (fun c187 => ?_) (fun c187 => ?_)
                · replace k := k1 c187
                  refine x_aload_n (pc2 := 134) dX8_qTakes_133 rfl rfl ?_
                  refine x_iconst (pc2 := 135) dX8_qTakes_134 rfl ?_
                  refine x_putf (pc2 := 138) (x := 0) fl_X8_715 ft_8_120 ic_62 (pv_i _ ic_62 rfl) (pn_z (by decide)) dX8_qTakes_135 rfl ?_
                  exact x_return dX8_qTakes_138 rfl k
                · replace k := k2 c187
                  refine x_aload_n (pc2 := 96) dX8_qTakes_95 rfl rfl ?_
                  refine x_getf (pc2 := 99) (v := aI ((wr (wr m 62 119 l4) 62 119 (((wr m 62 119 l4) 62 119) + 1)) 62 120)) fl_X8_715 ic_62 (fv_i _ ic_62 rfl) dX8_qTakes_96 rfl ?_
                  obtain ⟨h188, k⟩ := k
                  obtain ⟨k1, k2⟩ := k
                  refine x_if_ne (tgt := 128) (pc2 := 102) dX8_qTakes_99 (by decide) rfl h188 (fun c189 => ?_) (fun c189 => ?_)
                  · replace k := k1 c189
                    refine x_aload_n (pc2 := 129) dX8_qTakes_128 rfl rfl ?_
                    refine x_lload_n (pc2 := 130) dX8_qTakes_129 rfl rfl ?_
                    refine x_putf (pc2 := 133) (x := l2) fl_X8_710 ft_8_119 ic_62 (pv_j _ ic_62 rfl) (pn_j _) dX8_qTakes_130 rfl ?_
                    refine x_aload_n (pc2 := 134) dX8_qTakes_133 rfl rfl ?_
                    refine x_iconst (pc2 := 135) dX8_qTakes_134 rfl ?_
                    refine x_putf (pc2 := 138) (x := 0) fl_X8_715 ft_8_120 ic_62 (pv_i _ ic_62 rfl) (pn_z (by decide)) dX8_qTakes_135 rfl ?_
                    exact x_return dX8_qTakes_138 rfl k
                  · replace k := k2 c189
                    refine x_iload_n (pc2 := 103) dX8_qTakes_102 rfl rfl ?_
                    refine x_iconst (pc2 := 104) dX8_qTakes_103 rfl ?_
                    obtain ⟨k1, k2⟩ := k
                    refine x_icmp_ne (tgt := 119) (pc2 := 107) dX8_qTakes_104 (by decide) rfl h5 (by decide) (fun c190 => ?_) (fun c190 => ?_)
                    · replace k := k1 c190
                      refine x_lload_n (pc2 := 120) dX8_qTakes_119 rfl rfl ?_
                      refine x_aload_n (pc2 := 121) dX8_qTakes_120 rfl rfl ?_
                      refine x_getf (pc2 := 124) (v := aJ ((wr (wr m 62 119 l4) 62 119 (((wr m 62 119 l4) 62 119) + 1)) 62 119)) fl_X8_710 ic_62 (fv_j _ ic_62 rfl) dX8_qTakes_121 rfl ?_
                      obtain ⟨h191, k⟩ := k
                      obtain ⟨h192, k⟩ := k
                      obtain ⟨k1, k2⟩ := k
                      refine x_lc_ge (tgt := 133) (pc2 := 128) dX8_qTakes_124 dX8_qTakes_125 (by decide) rfl h191 h192 (fun c193 => ?_) (fun c193 => ?_)
                      · replace k := k1 c193
                        refine x_aload_n (pc2 := 134) dX8_qTakes_133 rfl rfl ?_
                        refine x_iconst (pc2 := 135) dX8_qTakes_134 rfl ?_
                        refine x_putf (pc2 := 138) (x := 0) fl_X8_715 ft_8_120 ic_62 (pv_i _ ic_62 rfl) (pn_z (by decide)) dX8_qTakes_135 rfl ?_
                        exact x_return dX8_qTakes_138 rfl k
                      · replace k := k2 c193
                        refine x_aload_n (pc2 := 129) dX8_qTakes_128 rfl rfl ?_
                        refine x_lload_n (pc2 := 130) dX8_qTakes_129 rfl rfl ?_
                        refine x_putf (pc2 := 133) (x := l2) fl_X8_710 ft_8_119 ic_62 (pv_j _ ic_62 rfl) (pn_j _) dX8_qTakes_130 rfl ?_
                        refine x_aload_n (pc2 := 134) dX8_qTakes_133 rfl rfl ?_
                        refine x_iconst (pc2 := 135) dX8_qTakes_134 rfl ?_
                        refine x_putf (pc2 := 138) (x := 0) fl_X8_715 ft_8_120 ic_62 (pv_i _ ic_62 rfl) (pn_z (by decide)) dX8_qTakes_135 rfl ?_
                        exact x_return dX8_qTakes_138 rfl k
                    · replace k := k2 c190
                      refine x_lload_n (pc2 := 108) dX8_qTakes_107 rfl rfl ?_
                      refine x_aload_n (pc2 := 109) dX8_qTakes_108 rfl rfl ?_
                      refine x_getf (pc2 := 112) (v := aJ ((wr (wr m 62 119 l4) 62 119 (((wr m 62 119 l4) 62 119) + 1)) 62 119)) fl_X8_710 ic_62 (fv_j _ ic_62 rfl) dX8_qTakes_109 rfl ?_
                      obtain ⟨h194, k⟩ := k
                      obtain ⟨h195, k⟩ := k
                      obtain ⟨k1, k2⟩ := k
                      refine x_lc_le (tgt := 133) (pc2 := 116) dX8_qTakes_112 dX8_qTakes_113 (by decide) rfl h194 h195 (fun c196 => ?_) (fun c196 => ?_)
                      · replace k := k1 c196
                        refine x_aload_n (pc2 := 134) dX8_qTakes_133 rfl rfl ?_
                        refine x_iconst (pc2 := 135) dX8_qTakes_134 rfl ?_
                        refine x_putf (pc2 := 138) (x := 0) fl_X8_715 ft_8_120 ic_62 (pv_i _ ic_62 rfl) (pn_z (by decide)) dX8_qTakes_135 rfl ?_
                        exact x_return dX8_qTakes_138 rfl k
                      · replace k := k2 c196
                        refine x_goto (tgt := 128) dX8_qTakes_116 (by decide) ?_
                        refine x_aload_n (pc2 := 129) dX8_qTakes_128 rfl rfl ?_
                        refine x_lload_n (pc2 := 130) dX8_qTakes_129 rfl rfl ?_
                        refine x_putf (pc2 := 133) (x := l2) fl_X8_710 ft_8_119 ic_62 (pv_j _ ic_62 rfl) (pn_j _) dX8_qTakes_130 rfl ?_
                        refine x_aload_n (pc2 := 134) dX8_qTakes_133 rfl rfl ?_
                        refine x_iconst (pc2 := 135) dX8_qTakes_134 rfl ?_
                        refine x_putf (pc2 := 138) (x := 0) fl_X8_715 ft_8_120 ic_62 (pv_i _ ic_62 rfl) (pn_z (by decide)) dX8_qTakes_135 rfl ?_
                        exact x_return dX8_qTakes_138 rfl k
              · replace k := k2 c186
                refine x_aload_n (pc2 := 81) dX8_qTakes_80 rfl rfl ?_
                refine x_dup_r (pc2 := 82) dX8_qTakes_81 rfl (by decide) ?_
                refine x_getf (pc2 := 85) (v := aJ ((wr (wr m 62 119 l4) 62 119 (((wr m 62 119 l4) 62 119) + 1)) 62 119)) fl_X8_710 ic_62 (fv_j _ ic_62 rfl) dX8_qTakes_82 rfl ?_
                refine x_lload_n (pc2 := 86) dX8_qTakes_85 rfl rfl ?_
                refine x_ladd (pc2 := 87) dX8_qTakes_86 rfl ?_
                refine x_putf (pc2 := 90) (x := (((wr (wr m 62 119 l4) 62 119 (((wr m 62 119 l4) 62 119) + 1)) 62 119) + l2)) fl_X8_710 ft_8_119 ic_62 (pv_j _ ic_62 rfl) (pn_j _) dX8_qTakes_87 rfl ?_
                refine x_iload_n (pc2 := 91) dX8_qTakes_90 rfl rfl ?_
                refine x_iconst (pc2 := 92) dX8_qTakes_91 rfl ?_
                obtain ⟨k1, k2⟩ := k
                refine x_icmp_le (tgt := 133) (pc2 := 95) dX8_qTakes_92 (by decide) rfl h5 (by decide) (fun c197 => ?_) (fun c197 => ?_)
                · replace k := k1 c197
                  refine x_aload_n (pc2 := 134) dX8_qTakes_133 rfl rfl ?_
                  refine x_iconst (pc2 := 135) dX8_qTakes_134 rfl ?_
                  refine x_putf (pc2 := 138) (x := 0) fl_X8_715 ft_8_120 ic_62 (pv_i _ ic_62 rfl) (pn_z (by decide)) dX8_qTakes_135 rfl ?_
                  exact x_return dX8_qTakes_138 rfl k
                · replace k := k2 c197
                  refine x_aload_n (pc2 := 96) dX8_qTakes_95 rfl rfl ?_
                  refine x_getf (pc2 := 99) (v := aI ((wr (wr (wr m 62 119 l4) 62 119 (((wr m 62 119 l4) 62 119) + 1)) 62 119 (((wr (wr m 62 119 l4) 62 119 (((wr m 62 119 l4) 62 119) + 1)) 62 119) + l2)) 62 120)) fl_X8_715 ic_62 (fv_i _ ic_62 rfl) dX8_qTakes_96 rfl ?_
                  obtain ⟨h198, k⟩ := k
                  obtain ⟨k1, k2⟩ := k
                  refine x_if_ne (tgt := 128) (pc2 := 102) dX8_qTakes_99 (by decide) rfl h198 (fun c199 => ?_) (fun c199 => ?_)
                  · replace k := k1 c199
                    refine x_aload_n (pc2 := 129) dX8_qTakes_128 rfl rfl ?_
                    refine x_lload_n (pc2 := 130) dX8_qTakes_129 rfl rfl ?_
                    refine x_putf (pc2 := 133) (x := l2) fl_X8_710 ft_8_119 ic_62 (pv_j _ ic_62 rfl) (pn_j _) dX8_qTakes_130 rfl ?_
                    refine x_aload_n (pc2 := 134) dX8_qTakes_133 rfl rfl ?_
                    refine x_iconst (pc2 := 135) dX8_qTakes_134 rfl ?_
                    refine x_putf (pc2 := 138) (x := 0) fl_X8_715 ft_8_120 ic_62 (pv_i _ ic_62 rfl) (pn_z (by decide)) dX8_qTakes_135 rfl ?_
                    exact x_return dX8_qTakes_138 rfl k
                  · replace k := k2 c199
                    refine x_iload_n (pc2 := 103) dX8_qTakes_102 rfl rfl ?_
                    refine x_iconst (pc2 := 104) dX8_qTakes_103 rfl ?_
                    obtain ⟨k1, k2⟩ := k
                    refine x_icmp_ne (tgt := 119) (pc2 := 107) dX8_qTakes_104 (by decide) rfl h5 (by decide) (fun c200 => ?_) (fun c200 => ?_)
                    · replace k := k1 c200
                      refine x_lload_n (pc2 := 120) dX8_qTakes_119 rfl rfl ?_
                      refine x_aload_n (pc2 := 121) dX8_qTakes_120 rfl rfl ?_
                      refine x_getf (pc2 := 124) (v := aJ ((wr (wr (wr m 62 119 l4) 62 119 (((wr m 62 119 l4) 62 119) + 1)) 62 119 (((wr (wr m 62 119 l4) 62 119 (((wr m 62 119 l4) 62 119) + 1)) 62 119) + l2)) 62 119)) fl_X8_710 ic_62 (fv_j _ ic_62 rfl) dX8_qTakes_121 rfl ?_
                      obtain ⟨h201, k⟩ := k
                      obtain ⟨h202, k⟩ := k
                      obtain ⟨k1, k2⟩ := k
                      refine x_lc_ge (tgt := 133) (pc2 := 128) dX8_qTakes_124 dX8_qTakes_125 (by decide) rfl h201 h202 (fun c203 => ?_) (fun c203 => ?_)
                      · replace k := k1 c203
                        refine x_aload_n (pc2 := 134) dX8_qTakes_133 rfl rfl ?_
                        refine x_iconst (pc2 := 135) dX8_qTakes_134 rfl ?_
                        refine x_putf (pc2 := 138) (x := 0) fl_X8_715 ft_8_120 ic_62 (pv_i _ ic_62 rfl) (pn_z (by decide)) dX8_qTakes_135 rfl ?_
                        exact x_return dX8_qTakes_138 rfl k
                      · replace k := k2 c203
                        refine x_aload_n (pc2 := 129) dX8_qTakes_128 rfl rfl ?_
                        refine x_lload_n (pc2 := 130) dX8_qTakes_129 rfl rfl ?_
                        refine x_putf (pc2 := 133) (x := l2) fl_X8_710 ft_8_119 ic_62 (pv_j _ ic_62 rfl) (pn_j _) dX8_qTakes_130 rfl ?_
                        refine x_aload_n (pc2 := 134) dX8_qTakes_133 rfl rfl ?_
                        refine x_iconst (pc2 := 135) dX8_qTakes_134 rfl ?_
                        refine x_putf (pc2 := 138) (x := 0) fl_X8_715 ft_8_120 ic_62 (pv_i _ ic_62 rfl) (pn_z (by decide)) dX8_qTakes_135 rfl ?_
                        exact x_return dX8_qTakes_138 rfl k
                    · replace k := k2 c200
                      refine x_lload_n (pc2 := 108) dX8_qTakes_107 rfl rfl ?_
                      refine x_aload_n (pc2 := 109) dX8_qTakes_108 rfl rfl ?_
                      refine x_getf (pc2 := 112) (v := aJ ((wr (wr (wr m 62 119 l4) 62 119 (((wr m 62 119 l4) 62 119) + 1)) 62 119 (((wr (wr m 62 119 l4) 62 119 (((wr m 62 119 l4) 62 119) + 1)) 62 119) + l2)) 62 119)) fl_X8_710 ic_62 (fv_j _ ic_62 rfl) dX8_qTakes_109 rfl ?_
                      obtain ⟨h204, k⟩ := k
                      obtain ⟨h205, k⟩ := k
                      obtain ⟨k1, k2⟩ := k
                      refine x_lc_le (tgt := 133) (pc2 := 116) dX8_qTakes_112 dX8_qTakes_113 (by decide) rfl h204 h205 (fun c206 => ?_) (fun c206 => ?_)
                      · replace k := k1 c206
                        refine x_aload_n (pc2 := 134) dX8_qTakes_133 rfl rfl ?_
                        refine x_iconst (pc2 := 135) dX8_qTakes_134 rfl ?_
                        refine x_putf (pc2 := 138) (x := 0) fl_X8_715 ft_8_120 ic_62 (pv_i _ ic_62 rfl) (pn_z (by decide)) dX8_qTakes_135 rfl ?_
                        exact x_return dX8_qTakes_138 rfl k
                      · replace k := k2 c206
                        refine x_goto (tgt := 128) dX8_qTakes_116 (by decide) ?_
                        refine x_aload_n (pc2 := 129) dX8_qTakes_128 rfl rfl ?_
                        refine x_lload_n (pc2 := 130) dX8_qTakes_129 rfl rfl ?_
                        refine x_putf (pc2 := 133) (x := l2) fl_X8_710 ft_8_119 ic_62 (pv_j _ ic_62 rfl) (pn_j _) dX8_qTakes_130 rfl ?_
                        refine x_aload_n (pc2 := 134) dX8_qTakes_133 rfl rfl ?_
                        refine x_iconst (pc2 := 135) dX8_qTakes_134 rfl ?_
                        refine x_putf (pc2 := 138) (x := 0) fl_X8_715 ft_8_120 ic_62 (pv_i _ ic_62 rfl) (pn_z (by decide)) dX8_qTakes_135 rfl ?_
                        exact x_return dX8_qTakes_138 rfl k
    · replace k := k2 c6
      refine x_iload (pc2 := 24) dX8_qTakes_22 rfl rfl ?_
      obtain ⟨h207, k⟩ := k
      obtain ⟨k1, k2⟩ := k
      refine x_if_eq (tgt := 38) (pc2 := 27) dX8_qTakes_24 (by decide) rfl h207 (fun c208 => ?_) (fun c208 => ?_)
      · replace k := k1 c208
        refine x_iload_n (pc2 := 39) dX8_qTakes_38 rfl rfl ?_
        refine x_iconst (pc2 := 40) dX8_qTakes_39 rfl ?_
        obtain ⟨k1, k2⟩ := k
        refine x_icmp_ne (tgt := 55) (pc2 := 43) dX8_qTakes_40 (by decide) rfl h5 (by decide) (fun c209 => ?_) (fun c209 => ?_)
        · replace k := k1 c209
          refine x_iload_n (pc2 := 56) dX8_qTakes_55 rfl rfl ?_
          refine x_iconst (pc2 := 57) dX8_qTakes_56 rfl ?_
          obtain ⟨k1, k2⟩ := k
          refine x_icmp_ne (tgt := 75) (pc2 := 60) dX8_qTakes_57 (by decide) rfl h5 (by decide) (fun c210 => ?_) (fun c210 => ?_)
          · replace k := k1 c210
            refine x_iload_n (pc2 := 76) dX8_qTakes_75 rfl rfl ?_
            refine x_iconst (pc2 := 77) dX8_qTakes_76 rfl ?_
            obtain ⟨k1, k2⟩ := k
            refine x_icmp_ne (tgt := 90) (pc2 := 80) dX8_qTakes_77 (by decide) rfl h5 (by decide) (fun c211 => ?_) (fun c211 => ?_)
            · replace k := k1 c211
              refine x_iload_n (pc2 := 91) dX8_qTakes_90 rfl rfl ?_
              refine x_iconst (pc2 := 92) dX8_qTakes_91 rfl ?_
              obtain ⟨k1, k2⟩ := k
              refine x_icmp_le (tgt := 133) (pc2 := 95) dX8_qTakes_92 (by decide) rfl h5 (by decide) (fun c212 => ?_) (fun c212 => ?_)
              · replace k := k1 c212
                refine x_aload_n (pc2 := 134) dX8_qTakes_133 rfl rfl ?_
                refine x_iconst (pc2 := 135) dX8_qTakes_134 rfl ?_
                refine x_putf (pc2 := 138) (x := 0) fl_X8_715 ft_8_120 ic_62 (pv_i _ ic_62 rfl) (pn_z (by decide)) dX8_qTakes_135 rfl ?_
                exact x_return dX8_qTakes_138 rfl k
              · replace k := k2 c212
                refine x_aload_n (pc2 := 96) dX8_qTakes_95 rfl rfl ?_
                refine x_getf (pc2 := 99) (v := aI (m 62 120)) fl_X8_715 ic_62 (fv_i _ ic_62 rfl) dX8_qTakes_96 rfl ?_
                obtain ⟨h213, k⟩ := k
                obtain ⟨k1, k2⟩ := k
                refine x_if_ne (tgt := 128) (pc2 := 102) dX8_qTakes_99 (by decide) rfl h213 (fun c214 => ?_) (fun c214 => ?_)
                · replace k := k1 c214
                  refine x_aload_n (pc2 := 129) dX8_qTakes_128 rfl rfl ?_
                  refine x_lload_n (pc2 := 130) dX8_qTakes_129 rfl rfl ?_
                  refine x_putf (pc2 := 133) (x := l2) fl_X8_710 ft_8_119 ic_62 (pv_j _ ic_62 rfl) (pn_j _) dX8_qTakes_130 rfl ?_
                  refine x_aload_n (pc2 := 134) dX8_qTakes_133 rfl rfl ?_
                  refine x_iconst (pc2 := 135) dX8_qTakes_134 rfl ?_
                  refine x_putf (pc2 := 138) (x := 0) fl_X8_715 ft_8_120 ic_62 (pv_i _ ic_62 rfl) (pn_z (by decide)) dX8_qTakes_135 rfl ?_
                  exact x_return dX8_qTakes_138 rfl k
                · replace k := k2 c214
                  refine x_iload_n (pc2 := 103) dX8_qTakes_102 rfl rfl ?_
                  refine x_iconst (pc2 := 104) dX8_qTakes_103 rfl ?_
                  obtain ⟨k1, k2⟩ := k
                  refine x_icmp_ne (tgt := 119) (pc2 := 107) dX8_qTakes_104 (by decide) rfl h5 (by decide) (fun c215 => ?_) (fun c215 => ?_)
                  · replace k := k1 c215
                    refine x_lload_n (pc2 := 120) dX8_qTakes_119 rfl rfl ?_
                    refine x_aload_n (pc2 := 121) dX8_qTakes_120 rfl rfl ?_
                    refine x_getf (pc2 := 124) (v := aJ (m 62 119)) fl_X8_710 ic_62 (fv_j _ ic_62 rfl) dX8_qTakes_121 rfl ?_
                    obtain ⟨h216, k⟩ := k
                    obtain ⟨h217, k⟩ := k
                    obtain ⟨k1, k2⟩ := k
                    refine x_lc_ge (tgt := 133) (pc2 := 128) dX8_qTakes_124 dX8_qTakes_125 (by decide) rfl h216 h217 (fun c218 => ?_) (fun c218 => ?_)
                    · replace k := k1 c218
                      refine x_aload_n (pc2 := 134) dX8_qTakes_133 rfl rfl ?_
                      refine x_iconst (pc2 := 135) dX8_qTakes_134 rfl ?_
                      refine x_putf (pc2 := 138) (x := 0) fl_X8_715 ft_8_120 ic_62 (pv_i _ ic_62 rfl) (pn_z (by decide)) dX8_qTakes_135 rfl ?_
                      exact x_return dX8_qTakes_138 rfl k
                    · replace k := k2 c218
                      refine x_aload_n (pc2 := 129) dX8_qTakes_128 rfl rfl ?_
                      refine x_lload_n (pc2 := 130) dX8_qTakes_129 rfl rfl ?_
                      refine x_putf (pc2 := 133) (x := l2) fl_X8_710 ft_8_119 ic_62 (pv_j _ ic_62 rfl) (pn_j _) dX8_qTakes_130 rfl ?_
                      refine x_aload_n (pc2 := 134) dX8_qTakes_133 rfl rfl ?_
                      refine x_iconst (pc2 := 135) dX8_qTakes_134 rfl ?_
                      refine x_putf (pc2 := 138) (x := 0) fl_X8_715 ft_8_120 ic_62 (pv_i _ ic_62 rfl) (pn_z (by decide)) dX8_qTakes_135 rfl ?_
                      exact x_return dX8_qTakes_138 rfl k
                  · replace k := k2 c215
                    refine x_lload_n (pc2 := 108) dX8_qTakes_107 rfl rfl ?_
                    refine x_aload_n (pc2 := 109) dX8_qTakes_108 rfl rfl ?_
                    refine x_getf (pc2 := 112) (v := aJ (m 62 119)) fl_X8_710 ic_62 (fv_j _ ic_62 rfl) dX8_qTakes_109 rfl ?_
                    obtain ⟨h219, k⟩ := k
                    obtain ⟨h220, k⟩ := k
                    obtain ⟨k1, k2⟩ := k
                    refine x_lc_le (tgt := 133) (pc2 := 116) dX8_qTakes_112 dX8_qTakes_113 (by decide) rfl h219 h220 (fun c221 => ?_) (fun c221 => ?_)
                    · replace k := k1 c221
                      refine x_aload_n (pc2 := 134) dX8_qTakes_133 rfl rfl ?_
                      refine x_iconst (pc2 := 135) dX8_qTakes_134 rfl ?_
                      refine x_putf (pc2 := 138) (x := 0) fl_X8_715 ft_8_120 ic_62 (pv_i _ ic_62 rfl) (pn_z (by decide)) dX8_qTakes_135 rfl ?_
                      exact x_return dX8_qTakes_138 rfl k
                    · replace k := k2 c221
                      refine x_goto (tgt := 128) dX8_qTakes_116 (by decide) ?_
                      refine x_aload_n (pc2 := 129) dX8_qTakes_128 rfl rfl ?_
                      refine x_lload_n (pc2 := 130) dX8_qTakes_129 rfl rfl ?_
                      refine x_putf (pc2 := 133) (x := l2) fl_X8_710 ft_8_119 ic_62 (pv_j _ ic_62 rfl) (pn_j _) dX8_qTakes_130 rfl ?_
                      refine x_aload_n (pc2 := 134) dX8_qTakes_133 rfl rfl ?_
                      refine x_iconst (pc2 := 135) dX8_qTakes_134 rfl ?_
                      refine x_putf (pc2 := 138) (x := 0) fl_X8_715 ft_8_120 ic_62 (pv_i _ ic_62 rfl) (pn_z (by decide)) dX8_qTakes_135 rfl ?_
                      exact x_return dX8_qTakes_138 rfl k
            · replace k := k2 c211
              refine x_aload_n (pc2 := 81) dX8_qTakes_80 rfl rfl ?_
              refine x_dup_r (pc2 := 82) dX8_qTakes_81 rfl (by decide) ?_
              refine x_getf (pc2 := 85) (v := aJ (m 62 119)) fl_X8_710 ic_62 (fv_j _ ic_62 rfl) dX8_qTakes_82 rfl ?_
              refine x_lload_n (pc2 := 86) dX8_qTakes_85 rfl rfl ?_
              refine x_ladd (pc2 := 87) dX8_qTakes_86 rfl ?_
              refine x_putf (pc2 := 90) (x := ((m 62 119) + l2)) fl_X8_710 ft_8_119 ic_62 (pv_j _ ic_62 rfl) (pn_j _) dX8_qTakes_87 rfl ?_
              refine x_iload_n (pc2 := 91) dX8_qTakes_90 rfl rfl ?_
              refine x_iconst (pc2 := 92) dX8_qTakes_91 rfl ?_
              obtain ⟨k1, k2⟩ := k
              refine x_icmp_le (tgt := 133) (pc2 := 95) dX8_qTakes_92 (by decide) rfl h5 (by decide) (fun c222 => ?_) (fun c222 => ?_)
              · replace k := k1 c222
                refine x_aload_n (pc2 := 134) dX8_qTakes_133 rfl rfl ?_
                refine x_iconst (pc2 := 135) dX8_qTakes_134 rfl ?_
                refine x_putf (pc2 := 138) (x := 0) fl_X8_715 ft_8_120 ic_62 (pv_i _ ic_62 rfl) (pn_z (by decide)) dX8_qTakes_135 rfl ?_
                exact x_return dX8_qTakes_138 rfl k
              · replace k := k2 c222
                refine x_aload_n (pc2 := 96) dX8_qTakes_95 rfl rfl ?_
                refine x_getf (pc2 := 99) (v := aI ((wr m 62 119 ((m 62 119) + l2)) 62 120)) fl_X8_715 ic_62 (fv_i _ ic_62 rfl) dX8_qTakes_96 rfl ?_
                obtain ⟨h223, k⟩ := k
                obtain ⟨k1, k2⟩ := k
                refine x_if_ne (tgt := 128) (pc2 := 102) dX8_qTakes_99 (by decide) rfl h223 (fun c224 => ?_) (fun c224 => ?_)
                · replace k := k1 c224
                  refine x_aload_n (pc2 := 129) dX8_qTakes_128 rfl rfl ?_
                  refine x_lload_n (pc2 := 130) dX8_qTakes_129 rfl rfl ?_
                  refine x_putf (pc2 := 133) (x := l2) fl_X8_710 ft_8_119 ic_62 (pv_j _ ic_62 rfl) (pn_j _) dX8_qTakes_130 rfl ?_
                  refine x_aload_n (pc2 := 134) dX8_qTakes_133 rfl rfl ?_
                  refine x_iconst (pc2 := 135) dX8_qTakes_134 rfl ?_
                  refine x_putf (pc2 := 138) (x := 0) fl_X8_715 ft_8_120 ic_62 (pv_i _ ic_62 rfl) (pn_z (by decide)) dX8_qTakes_135 rfl ?_
                  exact x_return dX8_qTakes_138 rfl k
                · replace k := k2 c224
                  refine x_iload_n (pc2 := 103) dX8_qTakes_102 rfl rfl ?_
                  refine x_iconst (pc2 := 104) dX8_qTakes_103 rfl ?_
                  obtain ⟨k1, k2⟩ := k
                  refine x_icmp_ne (tgt := 119) (pc2 := 107) dX8_qTakes_104 (by decide) rfl h5 (by decide) (fun c225 => ?_) (fun c225 => ?_)
                  · replace k := k1 c225
                    refine x_lload_n (pc2 := 120) dX8_qTakes_119 rfl rfl ?_
                    refine x_aload_n (pc2 := 121) dX8_qTakes_120 rfl rfl ?_
                    refine x_getf (pc2 := 124) (v := aJ ((wr m 62 119 ((m 62 119) + l2)) 62 119)) fl_X8_710 ic_62 (fv_j _ ic_62 rfl) dX8_qTakes_121 rfl ?_
                    obtain ⟨h226, k⟩ := k
                    obtain ⟨h227, k⟩ := k
                    obtain ⟨k1, k2⟩ := k
                    refine x_lc_ge (tgt := 133) (pc2 := 128) dX8_qTakes_124 dX8_qTakes_125 (by decide) rfl h226 h227 (fun c228 => ?_) (fun c228 => ?_)
                    · replace k := k1 c228
                      refine x_aload_n (pc2 := 134) dX8_qTakes_133 rfl rfl ?_
                      refine x_iconst (pc2 := 135) dX8_qTakes_134 rfl ?_
                      refine x_putf (pc2 := 138) (x := 0) fl_X8_715 ft_8_120 ic_62 (pv_i _ ic_62 rfl) (pn_z (by decide)) dX8_qTakes_135 rfl ?_
                      exact x_return dX8_qTakes_138 rfl k
                    · replace k := k2 c228
                      refine x_aload_n (pc2 := 129) dX8_qTakes_128 rfl rfl ?_
                      refine x_lload_n (pc2 := 130) dX8_qTakes_129 rfl rfl ?_
                      refine x_putf (pc2 := 133) (x := l2) fl_X8_710 ft_8_119 ic_62 (pv_j _ ic_62 rfl) (pn_j _) dX8_qTakes_130 rfl ?_
                      refine x_aload_n (pc2 := 134) dX8_qTakes_133 rfl rfl ?_
                      refine x_iconst (pc2 := 135) dX8_qTakes_134 rfl ?_
                      refine x_putf (pc2 := 138) (x := 0) fl_X8_715 ft_8_120 ic_62 (pv_i _ ic_62 rfl) (pn_z (by decide)) dX8_qTakes_135 rfl ?_
                      exact x_return dX8_qTakes_138 rfl k
                  · replace k := k2 c225
                    refine x_lload_n (pc2 := 108) dX8_qTakes_107 rfl rfl ?_
                    refine x_aload_n (pc2 := 109) dX8_qTakes_108 rfl rfl ?_
                    refine x_getf (pc2 := 112) (v := aJ ((wr m 62 119 ((m 62 119) + l2)) 62 119)) fl_X8_710 ic_62 (fv_j _ ic_62 rfl) dX8_qTakes_109 rfl ?_
                    obtain ⟨h229, k⟩ := k
                    obtain ⟨h230, k⟩ := k
                    obtain ⟨k1, k2⟩ := k
                    refine x_lc_le (tgt := 133) (pc2 := 116) dX8_qTakes_112 dX8_qTakes_113 (by decide) rfl h229 h230 (fun c231 => ?_) (fun c231 => ?_)
                    · replace k := k1 c231
                      refine x_aload_n (pc2 := 134) dX8_qTakes_133 rfl rfl ?_
                      refine x_iconst (pc2 := 135) dX8_qTakes_134 rfl ?_
                      refine x_putf (pc2 := 138) (x := 0) fl_X8_715 ft_8_120 ic_62 (pv_i _ ic_62 rfl) (pn_z (by decide)) dX8_qTakes_135 rfl ?_
                      exact x_return dX8_qTakes_138 rfl k
                    · replace k := k2 c231
                      refine x_goto (tgt := 128) dX8_qTakes_116 (by decide) ?_
                      refine x_aload_n (pc2 := 129) dX8_qTakes_128 rfl rfl ?_
                      refine x_lload_n (pc2 := 130) dX8_qTakes_129 rfl rfl ?_
                      refine x_putf (pc2 := 133) (x := l2) fl_X8_710 ft_8_119 ic_62 (pv_j _ ic_62 rfl) (pn_j _) dX8_qTakes_130 rfl ?_
                      refine x_aload_n (pc2 := 134) dX8_qTakes_133 rfl rfl ?_
                      refine x_iconst (pc2 := 135) dX8_qTakes_134 rfl ?_
                      refine x_putf (pc2 := 138) (x := 0) fl_X8_715 ft_8_120 ic_62 (pv_i _ ic_62 rfl) (pn_z (by decide)) dX8_qTakes_135 rfl ?_
                      exact x_return dX8_qTakes_138 rfl k
          · replace k := k2 c210
            refine x_iload (pc2 := 62) dX8_qTakes_60 rfl rfl ?_
            obtain ⟨k1, k2⟩ := k
            refine x_if_eq (tgt := 75) (pc2 := 65) dX8_qTakes_62 (by decide) rfl h207 (fun c232 => ?_) (fun c232 => ?_)
            · replace k := k1 c232
              refine x_iload_n (pc2 := 76) dX8_qTakes_75 rfl rfl ?_
              refine x_iconst (pc2 := 77) dX8_qTakes_76 rfl ?_
              obtain ⟨k1, k2⟩ := k
              refine x_icmp_ne (tgt := 90) (pc2 := 80) dX8_qTakes_77 (by decide) rfl h5 (by decide) (fun c233 => ?_) (fun c233 => ?_)
              · replace k := k1 c233
                refine x_iload_n (pc2 := 91) dX8_qTakes_90 rfl rfl ?_
                refine x_iconst (pc2 := 92) dX8_qTakes_91 rfl ?_
                obtain ⟨k1, k2⟩ := k
                refine x_icmp_le (tgt := 133) (pc2 := 95) dX8_qTakes_92 (by decide) rfl h5 (by decide) (fun c234 => ?_) (fun c234 => ?_)
                · replace k := k1 c234
                  refine x_aload_n (pc2 := 134) dX8_qTakes_133 rfl rfl ?_
                  refine x_iconst (pc2 := 135) dX8_qTakes_134 rfl ?_
                  refine x_putf (pc2 := 138) (x := 0) fl_X8_715 ft_8_120 ic_62 (pv_i _ ic_62 rfl) (pn_z (by decide)) dX8_qTakes_135 rfl ?_
                  exact x_return dX8_qTakes_138 rfl k
                · replace k := k2 c234
                  refine x_aload_n (pc2 := 96) dX8_qTakes_95 rfl rfl ?_
                  refine x_getf (pc2 := 99) (v := aI (m 62 120)) fl_X8_715 ic_62 (fv_i _ ic_62 rfl) dX8_qTakes_96 rfl ?_
                  obtain ⟨h235, k⟩ := k
                  obtain ⟨k1, k2⟩ := k
                  refine x_if_ne (tgt := 128) (pc2 := 102) dX8_qTakes_99 (by decide) rfl h235 (fun c236 => ?_) (fun c236 => ?_)
                  · replace k := k1 c236
                    refine x_aload_n (pc2 := 129) dX8_qTakes_128 rfl rfl ?_
                    refine x_lload_n (pc2 := 130) dX8_qTakes_129 rfl rfl ?_
                    refine x_putf (pc2 := 133) (x := l2) fl_X8_710 ft_8_119 ic_62 (pv_j _ ic_62 rfl) (pn_j _) dX8_qTakes_130 rfl ?_
                    refine x_aload_n (pc2 := 134) dX8_qTakes_133 rfl rfl ?_
                    refine x_iconst (pc2 := 135) dX8_qTakes_134 rfl ?_
                    refine x_putf (pc2 := 138) (x := 0) fl_X8_715 ft_8_120 ic_62 (pv_i _ ic_62 rfl) (pn_z (by decide)) dX8_qTakes_135 rfl ?_
                    exact x_return dX8_qTakes_138 rfl k
                  · replace k := k2 c236
                    refine x_iload_n (pc2 := 103) dX8_qTakes_102 rfl rfl ?_
                    refine x_iconst (pc2 := 104) dX8_qTakes_103 rfl ?_
                    obtain ⟨k1, k2⟩ := k
                    refine x_icmp_ne (tgt := 119) (pc2 := 107) dX8_qTakes_104 (by decide) rfl h5 (by decide) (fun c237 => ?_) (fun c237 => ?_)
                    · replace k := k1 c237
                      refine x_lload_n (pc2 := 120) dX8_qTakes_119 rfl rfl ?_
                      refine x_aload_n (pc2 := 121) dX8_qTakes_120 rfl rfl ?_
                      refine x_getf (pc2 := 124) (v := aJ (m 62 119)) fl_X8_710 ic_62 (fv_j _ ic_62 rfl) dX8_qTakes_121 rfl ?_
                      obtain ⟨h238, k⟩ := k
                      obtain ⟨h239, k⟩ := k
                      obtain ⟨k1, k2⟩ := k
                      refine x_lc_ge (tgt := 133) (pc2 := 128) dX8_qTakes_124 dX8_qTakes_125 (by decide) rfl h238 h239 (fun c240 => ?_) (fun c240 => ?_)
                      · replace k := k1 c240
                        refine x_aload_n (pc2 := 134) dX8_qTakes_133 rfl rfl ?_
                        refine x_iconst (pc2 := 135) dX8_qTakes_134 rfl ?_
                        refine x_putf (pc2 := 138) (x := 0) fl_X8_715 ft_8_120 ic_62 (pv_i _ ic_62 rfl) (pn_z (by decide)) dX8_qTakes_135 rfl ?_
                        exact x_return dX8_qTakes_138 rfl k
                      · replace k := k2 c240
                        refine x_aload_n (pc2 := 129) dX8_qTakes_128 rfl rfl ?_
                        refine x_lload_n (pc2 := 130) dX8_qTakes_129 rfl rfl ?_
                        refine x_putf (pc2 := 133) (x := l2) fl_X8_710 ft_8_119 ic_62 (pv_j _ ic_62 rfl) (pn_j _) dX8_qTakes_130 rfl ?_
                        refine x_aload_n (pc2 := 134) dX8_qTakes_133 rfl rfl ?_
                        refine x_iconst (pc2 := 135) dX8_qTakes_134 rfl ?_
                        refine x_putf (pc2 := 138) (x := 0) fl_X8_715 ft_8_120 ic_62 (pv_i _ ic_62 rfl) (pn_z (by decide)) dX8_qTakes_135 rfl ?_
                        exact x_return dX8_qTakes_138 rfl k
                    · replace k := k2 c237
                      refine x_lload_n (pc2 := 108) dX8_qTakes_107 rfl rfl ?_
                      refine x_aload_n (pc2 := 109) dX8_qTakes_108 rfl rfl ?_
                      refine x_getf (pc2 := 112) (v := aJ (m 62 119)) fl_X8_710 ic_62 (fv_j _ ic_62 rfl) dX8_qTakes_109 rfl ?_
                      obtain ⟨h241, k⟩ := k
                      obtain ⟨h242, k⟩ := k
                      obtain ⟨k1, k2⟩ := k
                      refine x_lc_le (tgt := 133) (pc2 := 116) dX8_qTakes_112 dX8_qTakes_113 (by decide) rfl h241 h242 (fun c243 => ?_) (fun c243 => ?_)
                      · replace k := k1 c243
                        refine x_aload_n (pc2 := 134) dX8_qTakes_133 rfl rfl ?_
                        refine x_iconst (pc2 := 135) dX8_qTakes_134 rfl ?_
                        refine x_putf (pc2 := 138) (x := 0) fl_X8_715 ft_8_120 ic_62 (pv_i _ ic_62 rfl) (pn_z (by decide)) dX8_qTakes_135 rfl ?_
                        exact x_return dX8_qTakes_138 rfl k
                      · replace k := k2 c243
                        refine x_goto (tgt := 128) dX8_qTakes_116 (by decide) ?_
                        refine x_aload_n (pc2 := 129) dX8_qTakes_128 rfl rfl ?_
                        refine x_lload_n (pc2 := 130) dX8_qTakes_129 rfl rfl ?_
                        refine x_putf (pc2 := 133) (x := l2) fl_X8_710 ft_8_119 ic_62 (pv_j _ ic_62 rfl) (pn_j _) dX8_qTakes_130 rfl ?_
                        refine x_aload_n (pc2 := 134) dX8_qTakes_133 rfl rfl ?_
                        refine x_iconst (pc2 := 135) dX8_qTakes_134 rfl ?_
                        refine x_putf (pc2 := 138) (x := 0) fl_X8_715 ft_8_120 ic_62 (pv_i _ ic_62 rfl) (pn_z (by decide)) dX8_qTakes_135 rfl ?_
                        exact x_return dX8_qTakes_138 rfl k
              · replace k := k2 c233
                refine x_aload_n (pc2 := 81) dX8_qTakes_80 rfl rfl ?_
                refine x_dup_r (pc2 := 82) dX8_qTakes_81 rfl (by decide) ?_
                refine x_getf (pc2 := 85) (v := aJ (m 62 119)) fl_X8_710 ic_62 (fv_j _ ic_62 rfl) dX8_qTakes_82 rfl ?_
                refine x_lload_n (pc2 := 86) dX8_qTakes_85 rfl rfl ?_
                refine x_ladd (pc2 := 87) dX8_qTakes_86 rfl ?_
                refine x_putf (pc2 := 90) (x := ((m 62 119) + l2)) fl_X8_710 ft_8_119 ic_62 (pv_j _ ic_62 rfl) (pn_j _) dX8_qTakes_87 rfl ?_
                refine x_iload_n (pc2 := 91) dX8_qTakes_90 rfl rfl ?_
                refine x_iconst (pc2 := 92) dX8_qTakes_91 rfl ?_
                obtain ⟨k1, k2⟩ := k
                refine x_icmp_le (tgt := 133) (pc2 := 95) dX8_qTakes_92 (by decide) rfl h5 (by decide) (fun c244 => ?_) (fun c244 => ?_)
                · replace k := k1 c244
                  refine x_aload_n (pc2 := 134) dX8_qTakes_133 rfl rfl ?_
                  refine x_iconst (pc2 := 135) dX8_qTakes_134 rfl ?_
                  refine x_putf (pc2 := 138) (x := 0) fl_X8_715 ft_8_120 ic_62 (pv_i _ ic_62 rfl) (pn_z (by decide)) dX8_qTakes_135 rfl ?_
                  exact x_return dX8_qTakes_138 rfl k
                · replace k := k2 c244
                  refine x_aload_n (pc2 := 96) dX8_qTakes_95 rfl rfl ?_
                  refine x_getf (pc2 := 99) (v := aI ((wr m 62 119 ((m 62 119) + l2)) 62 120)) fl_X8_715 ic_62 (fv_i _ ic_62 rfl) dX8_qTakes_96 rfl ?_
                  obtain ⟨h245, k⟩ := k
                  obtain ⟨k1, k2⟩ := k
                  refine x_if_ne (tgt := 128) (pc2 := 102) dX8_qTakes_99 (by decide) rfl h245 (fun c246 => ?_) (fun c246 => ?_)
                  · replace k := k1 c246
                    refine x_aload_n (pc2 := 129) dX8_qTakes_128 rfl rfl ?_
                    refine x_lload_n (pc2 := 130) dX8_qTakes_129 rfl rfl ?_
                    refine x_putf (pc2 := 133) (x := l2) fl_X8_710 ft_8_119 ic_62 (pv_j _ ic_62 rfl) (pn_j _) dX8_qTakes_130 rfl ?_
                    refine x_aload_n (pc2 := 134) dX8_qTakes_133 rfl rfl ?_
                    refine x_iconst (pc2 := 135) dX8_qTakes_134 rfl ?_
                    refine x_putf (pc2 := 138) (x := 0) fl_X8_715 ft_8_120 ic_62 (pv_i _ ic_62 rfl) (pn_z (by decide)) dX8_qTakes_135 rfl ?_
                    exact x_return dX8_qTakes_138 rfl k
                  · replace k := k2 c246
                    refine x_iload_n (pc2 := 103) dX8_qTakes_102 rfl rfl ?_
                    refine x_iconst (pc2 := 104) dX8_qTakes_103 rfl ?_
                    obtain ⟨k1, k2⟩ := k
                    refine x_icmp_ne (tgt := 119) (pc2 := 107) dX8_qTakes_104 (by decide) rfl h5 (by decide) (fun c247 => ?_) (fun c247 => ?_)
                    · replace k := k1 c247
                      refine x_lload_n (pc2 := 120) dX8_qTakes_119 rfl rfl ?_
                      refine x_aload_n (pc2 := 121) dX8_qTakes_120 rfl rfl ?_
                      refine x_getf (pc2 := 124) (v := aJ ((wr m 62 119 ((m 62 119) + l2)) 62 119)) fl_X8_710 ic_62 (fv_j _ ic_62 rfl) dX8_qTakes_121 rfl ?_
                      obtain ⟨h248, k⟩ := k
                      obtain ⟨h249, k⟩ := k
                      obtain ⟨k1, k2⟩ := k
                      refine x_lc_ge (tgt := 133) (pc2 := 128) dX8_qTakes_124 dX8_qTakes_125 (by decide) rfl h248 h249 (fun c250 => ?_) (fun c250 => ?_)
                      · replace k := k1 c250
                        refine x_aload_n (pc2 := 134) dX8_qTakes_133 rfl rfl ?_
                        refine x_iconst (pc2 := 135) dX8_qTakes_134 rfl ?_
                        refine x_putf (pc2 := 138) (x := 0) fl_X8_715 ft_8_120 ic_62 (pv_i _ ic_62 rfl) (pn_z (by decide)) dX8_qTakes_135 rfl ?_
                        exact x_return dX8_qTakes_138 rfl k
                      · replace k := k2 c250
                        refine x_aload_n (pc2 := 129) dX8_qTakes_128 rfl rfl ?_
                        refine x_lload_n (pc2 := 130) dX8_qTakes_129 rfl rfl ?_
                        refine x_putf (pc2 := 133) (x := l2) fl_X8_710 ft_8_119 ic_62 (pv_j _ ic_62 rfl) (pn_j _) dX8_qTakes_130 rfl ?_
                        refine x_aload_n (pc2 := 134) dX8_qTakes_133 rfl rfl ?_
                        refine x_iconst (pc2 := 135) dX8_qTakes_134 rfl ?_
                        refine x_putf (pc2 := 138) (x := 0) fl_X8_715 ft_8_120 ic_62 (pv_i _ ic_62 rfl) (pn_z (by decide)) dX8_qTakes_135 rfl ?_
                        exact x_return dX8_qTakes_138 rfl k
                    · replace k := k2 c247
                      refine x_lload_n (pc2 := 108) dX8_qTakes_107 rfl rfl ?_
                      refine x_aload_n (pc2 := 109) dX8_qTakes_108 rfl rfl ?_
                      refine x_getf (pc2 := 112) (v := aJ ((wr m 62 119 ((m 62 119) + l2)) 62 119)) fl_X8_710 ic_62 (fv_j _ ic_62 rfl) dX8_qTakes_109 rfl ?_
                      obtain ⟨h251, k⟩ := k
                      obtain ⟨h252, k⟩ := k
                      obtain ⟨k1, k2⟩ := k
                      refine x_lc_le (tgt := 133) (pc2 := 116) dX8_qTakes_112 dX8_qTakes_113 (by decide) rfl h251 h252 (fun c253 => ?_) (fun c253 => ?_)
                      · replace k := k1 c253
                        refine x_aload_n (pc2 := 134) dX8_qTakes_133 rfl rfl ?_
                        refine x_iconst (pc2 := 135) dX8_qTakes_134 rfl ?_
                        refine x_putf (pc2 := 138) (x := 0) fl_X8_715 ft_8_120 ic_62 (pv_i _ ic_62 rfl) (pn_z (by decide)) dX8_qTakes_135 rfl ?_
                        exact x_return dX8_qTakes_138 rfl k
                      · replace k := k2 c253
                        refine x_goto (tgt := 128) dX8_qTakes_116 (by decide) ?_
                        refine x_aload_n (pc2 := 129) dX8_qTakes_128 rfl rfl ?_
                        refine x_lload_n (pc2 := 130) dX8_qTakes_129 rfl rfl ?_
                        refine x_putf (pc2 := 133) (x := l2) fl_X8_710 ft_8_119 ic_62 (pv_j _ ic_62 rfl) (pn_j _) dX8_qTakes_130 rfl ?_
                        refine x_aload_n (pc2 := 134) dX8_qTakes_133 rfl rfl ?_
                        refine x_iconst (pc2 := 135) dX8_qTakes_134 rfl ?_
                        refine x_putf (pc2 := 138) (x := 0) fl_X8_715 ft_8_120 ic_62 (pv_i _ ic_62 rfl) (pn_z (by decide)) dX8_qTakes_135 rfl ?_
                        exact x_return dX8_qTakes_138 rfl k
            · replace k := k2 c232
              refine x_aload_n (pc2 := 66) dX8_qTakes_65 rfl rfl ?_
              refine x_dup_r (pc2 := 67) dX8_qTakes_66 rfl (by decide) ?_
              refine x_getf (pc2 := 70) (v := aJ (m 62 119)) fl_X8_710 ic_62 (fv_j _ ic_62 rfl) dX8_qTakes_67 rfl ?_
              refine x_lconst (pc2 := 71) (v := 1) dX8_qTakes_70 rfl rfl ?_
              refine x_ladd (pc2 := 72) dX8_qTakes_71 rfl ?_
              refine x_putf (pc2 := 75) (x := ((m 62 119) + 1)) fl_X8_710 ft_8_119 ic_62 (pv_j _ ic_62 rfl) (pn_j _) dX8_qTakes_72 rfl ?_
              refine x_iload_n (pc2 := 76) dX8_qTakes_75 rfl rfl ?_
              refine x_iconst (pc2 := 77) dX8_qTakes_76 rfl ?_
              obtain ⟨k1, k2⟩ := k
              refine x_icmp_ne (tgt := 90) (pc2 := 80) dX8_qTakes_77 (by decide) rfl h5 (by decide) (fun c254 => ?_) (fun c254 => ?_)
              · replace k := k1 c254
                refine x_iload_n (pc2 := 91) dX8_qTakes_90 rfl rfl ?_
                refine x_iconst (pc2 := 92) dX8_qTakes_91 rfl ?_
                obtain ⟨k1, k2⟩ := k
                refine x_icmp_le (tgt := 133) (pc2 := 95) dX8_qTakes_92 (by decide) rfl h5 (by decide) (fun c255 => ?_) (fun c255 => ?_)
                · replace k := k1 c255
                  refine x_aload_n (pc2 := 134) dX8_qTakes_133 rfl rfl ?_
                  refine x_iconst (pc2 := 135) dX8_qTakes_134 rfl ?_
                  refine x_putf (pc2 := 138) (x := 0) fl_X8_715 ft_8_120 ic_62 (pv_i _ ic_62 rfl) (pn_z (by decide)) dX8_qTakes_135 rfl ?_
                  exact x_return dX8_qTakes_138 rfl k
                · replace k := k2 c255
                  refine x_aload_n (pc2 := 96) dX8_qTakes_95 rfl rfl ?_
                  refine x_getf (pc2 := 99) (v := aI ((wr m 62 119 ((m 62 119) + 1)) 62 120)) fl_X8_715 ic_62 (fv_i _ ic_62 rfl) dX8_qTakes_96 rfl ?_
                  obtain ⟨h256, k⟩ := k
                  obtain ⟨k1, k2⟩ := k
                  refine x_if_ne (tgt := 128) (pc2 := 102) dX8_qTakes_99 (by decide) rfl h256 (fun c257 => ?_) (fun c257 => ?_)
                  · replace k := k1 c257
                    refine x_aload_n (pc2 := 129) dX8_qTakes_128 rfl rfl ?_
                    refine x_lload_n (pc2 := 130) dX8_qTakes_129 rfl rfl ?_
                    refine x_putf (pc2 := 133) (x := l2) fl_X8_710 ft_8_119 ic_62 (pv_j _ ic_62 rfl) (pn_j _) dX8_qTakes_130 rfl ?_
                    refine x_aload_n (pc2 := 134) dX8_qTakes_133 rfl rfl ?_
                    refine x_iconst (pc2 := 135) dX8_qTakes_134 rfl ?_
                    refine x_putf (pc2 := 138) (x := 0) fl_X8_715 ft_8_120 ic_62 (pv_i _ ic_62 rfl) (pn_z (by decide)) dX8_qTakes_135 rfl ?_
                    exact x_return dX8_qTakes_138 rfl k
                  · replace k := k2 c257
                    refine x_iload_n (pc2 := 103) dX8_qTakes_102 rfl rfl ?_
                    refine x_iconst (pc2 := 104) dX8_qTakes_103 rfl ?_
                    obtain ⟨k1, k2⟩ := k
                    refine x_icmp_ne (tgt := 119) (pc2 := 107) dX8_qTakes_104 (by decide) rfl h5 (by decide) (fun c258 => ?_) (fun c258 => ?_)
                    · replace k := k1 c258
                      refine x_lload_n (pc2 := 120) dX8_qTakes_119 rfl rfl ?_
                      refine x_aload_n (pc2 := 121) dX8_qTakes_120 rfl rfl ?_
                      refine x_getf (pc2 := 124) (v := aJ ((wr m 62 119 ((m 62 119) + 1)) 62 119)) fl_X8_710 ic_62 (fv_j _ ic_62 rfl) dX8_qTakes_121 rfl ?_
                      obtain ⟨h259, k⟩ := k
                      obtain ⟨h260, k⟩ := k
                      obtain ⟨k1, k2⟩ := k
                      refine x_lc_ge (tgt := 133) (pc2 := 128) dX8_qTakes_124 dX8_qTakes_125 (by decide) rfl h259 h260 (fun c261 => ?_) (fun c261 => ?_)
                      · replace k := k1 c261
                        refine x_aload_n (pc2 := 134) dX8_qTakes_133 rfl rfl ?_
                        refine x_iconst (pc2 := 135) dX8_qTakes_134 rfl ?_
                        refine x_putf (pc2 := 138) (x := 0) fl_X8_715 ft_8_120 ic_62 (pv_i _ ic_62 rfl) (pn_z (by decide)) dX8_qTakes_135 rfl ?_
                        exact x_return dX8_qTakes_138 rfl k
                      · replace k := k2 c261
                        refine x_aload_n (pc2 := 129) dX8_qTakes_128 rfl rfl ?_
                        refine x_lload_n (pc2 := 130) dX8_qTakes_129 rfl rfl ?_
                        refine x_putf (pc2 := 133) (x := l2) fl_X8_710 ft_8_119 ic_62 (pv_j _ ic_62 rfl) (pn_j _) dX8_qTakes_130 rfl ?_
                        refine x_aload_n (pc2 := 134) dX8_qTakes_133 rfl rfl ?_
                        refine x_iconst (pc2 := 135) dX8_qTakes_134 rfl ?_
                        refine x_putf (pc2 := 138) (x := 0) fl_X8_715 ft_8_120 ic_62 (pv_i _ ic_62 rfl) (pn_z (by decide)) dX8_qTakes_135 rfl ?_
                        exact x_return dX8_qTakes_138 rfl k
                    · replace k := k2 c258
                      refine x_lload_n (pc2 := 108) dX8_qTakes_107 rfl rfl ?_
                      refine x_aload_n (pc2 := 109) dX8_qTakes_108 rfl rfl ?_
                      refine x_getf (pc2 := 112) (v := aJ ((wr m 62 119 ((m 62 119) + 1)) 62 119)) fl_X8_710 ic_62 (fv_j _ ic_62 rfl) dX8_qTakes_109 rfl ?_
                      obtain ⟨h262, k⟩ := k
                      obtain ⟨h263, k⟩ := k
                      obtain ⟨k1, k2⟩ := k
                      refine x_lc_le (tgt := 133) (pc2 := 116) dX8_qTakes_112 dX8_qTakes_113 (by decide) rfl h262 h263 (fun c264 => ?_) (fun c264 => ?_)
                      · replace k := k1 c264
                        refine x_aload_n (pc2 := 134) dX8_qTakes_133 rfl rfl ?_
                        refine x_iconst (pc2 := 135) dX8_qTakes_134 rfl ?_
                        refine x_putf (pc2 := 138) (x := 0) fl_X8_715 ft_8_120 ic_62 (pv_i _ ic_62 rfl) (pn_z (by decide)) dX8_qTakes_135 rfl ?_
                        exact x_return dX8_qTakes_138 rfl k
                      · replace k := k2 c264
                        refine x_goto (tgt := 128) dX8_qTakes_116 (by decide) ?_
                        refine x_aload_n (pc2 := 129) dX8_qTakes_128 rfl rfl ?_
                        refine x_lload_n (pc2 := 130) dX8_qTakes_129 rfl rfl ?_
                        refine x_putf (pc2 := 133) (x := l2) fl_X8_710 ft_8_119 ic_62 (pv_j _ ic_62 rfl) (pn_j _) dX8_qTakes_130 rfl ?_
                        refine x_aload_n (pc2 := 134) dX8_qTakes_133 rfl rfl ?_
                        refine x_iconst (pc2 := 135) dX8_qTakes_134 rfl ?_
                        refine x_putf (pc2 := 138) (x := 0) fl_X8_715 ft_8_120 ic_62 (pv_i _ ic_62 rfl) (pn_z (by decide)) dX8_qTakes_135 rfl ?_
                        exact x_return dX8_qTakes_138 rfl k
              · replace k := k2 c254
                refine x_aload_n (pc2 := 81) dX8_qTakes_80 rfl rfl ?_
                refine x_dup_r (pc2 := 82) dX8_qTakes_81 rfl (by decide) ?_
                refine x_getf (pc2 := 85) (v := aJ ((wr m 62 119 ((m 62 119) + 1)) 62 119)) fl_X8_710 ic_62 (fv_j _ ic_62 rfl) dX8_qTakes_82 rfl ?_
                refine x_lload_n (pc2 := 86) dX8_qTakes_85 rfl rfl ?_
                refine x_ladd (pc2 := 87) dX8_qTakes_86 rfl ?_
                refine x_putf (pc2 := 90) (x := (((wr m 62 119 ((m 62 119) + 1)) 62 119) + l2)) fl_X8_710 ft_8_119 ic_62 (pv_j _ ic_62 rfl) (pn_j _) dX8_qTakes_87 rfl ?_
                refine x_iload_n (pc2 := 91) dX8_qTakes_90 rfl rfl ?_
                refine x_iconst (pc2 := 92) dX8_qTakes_91 rfl ?_
                obtain ⟨k1, k2⟩ := k
                refine x_icmp_le (tgt := 133) (pc2 := 95) dX8_qTakes_92 (by decide) rfl h5 (by decide) (fun c265 => ?_) (fun c265 => ?_)
                · replace k := k1 c265
                  refine x_aload_n (pc2 := 134) dX8_qTakes_133 rfl rfl ?_
                  refine x_iconst (pc2 := 135) dX8_qTakes_134 rfl ?_
                  refine x_putf (pc2 := 138) (x := 0) fl_X8_715 ft_8_120 ic_62 (pv_i _ ic_62 rfl) (pn_z (by decide)) dX8_qTakes_135 rfl ?_
                  exact x_return dX8_qTakes_138 rfl k
                · replace k := k2 c265
                  refine x_aload_n (pc2 := 96) dX8_qTakes_95 rfl rfl ?_
                  refine x_getf (pc2 := 99) (v := aI ((wr (wr m 62 119 ((m 62 119) + 1)) 62 119 (((wr m 62 119 ((m 62 119) + 1)) 62 119) + l2)) 62 120)) fl_X8_715 ic_62 (fv_i _ ic_62 rfl) dX8_qTakes_96 rfl ?_
                  obtain ⟨h266, k⟩ := k
                  obtain ⟨k1, k2⟩ := k
                  refine x_if_ne (tgt := 128) (pc2 := 102) dX8_qTakes_99 (by decide) rfl h266 (fun c267 => ?_) (fun c267 => ?_)
                  · replace k := k1 c267
                    refine x_aload_n (pc2 := 129) dX8_qTakes_128 rfl rfl ?_
                    refine x_lload_n (pc2 := 130) dX8_qTakes_129 rfl rfl ?_
                    refine x_putf (pc2 := 133) (x := l2) fl_X8_710 ft_8_119 ic_62 (pv_j _ ic_62 rfl) (pn_j _) dX8_qTakes_130 rfl ?_
                    refine x_aload_n (pc2 := 134) dX8_qTakes_133 rfl rfl ?_
                    refine x_iconst (pc2 := 135) dX8_qTakes_134 rfl ?_
                    refine x_putf (pc2 := 138) (x := 0) fl_X8_715 ft_8_120 ic_62 (pv_i _ ic_62 rfl) (pn_z (by decide)) dX8_qTakes_135 rfl ?_
                    exact x_return dX8_qTakes_138 rfl k
                  · replace k := k2 c267
                    refine x_iload_n (pc2 := 103) dX8_qTakes_102 rfl rfl ?_
                    refine x_iconst (pc2 := 104) dX8_qTakes_103 rfl ?_
                    obtain ⟨k1, k2⟩ := k
                    refine x_icmp_ne (tgt := 119) (pc2 := 107) dX8_qTakes_104 (by decide) rfl h5 (by decide) (fun c268 => ?_) (fun c268 => ?_)
                    · replace k := k1 c268
                      refine x_lload_n (pc2 := 120) dX8_qTakes_119 rfl rfl ?_
                      refine x_aload_n (pc2 := 121) dX8_qTakes_120 rfl rfl ?_
                      refine x_getf (pc2 := 124) (v := aJ ((wr (wr m 62 119 ((m 62 119) + 1)) 62 119 (((wr m 62 119 ((m 62 119) + 1)) 62 119) + l2)) 62 119)) fl_X8_710 ic_62 (fv_j _ ic_62 rfl) dX8_qTakes_121 rfl ?_
                      obtain ⟨h269, k⟩ := k
                      obtain ⟨h270, k⟩ := k
                      obtain ⟨k1, k2⟩ := k
                      refine x_lc_ge (tgt := 133) (pc2 := 128) dX8_qTakes_124 dX8_qTakes_125 (by decide) rfl h269 h270 (fun c271 => ?_) (fun c271 => ?_)
                      · replace k := k1 c271
                        refine x_aload_n (pc2 := 134) dX8_qTakes_133 rfl rfl ?_
                        refine x_iconst (pc2 := 135) dX8_qTakes_134 rfl ?_
                        refine x_putf (pc2 := 138) (x := 0) fl_X8_715 ft_8_120 ic_62 (pv_i _ ic_62 rfl) (pn_z (by decide)) dX8_qTakes_135 rfl ?_
                        exact x_return dX8_qTakes_138 rfl k
                      · replace k := k2 c271
                        refine x_aload_n (pc2 := 129) dX8_qTakes_128 rfl rfl ?_
                        refine x_lload_n (pc2 := 130) dX8_qTakes_129 rfl rfl ?_
                        refine x_putf (pc2 := 133) (x := l2) fl_X8_710 ft_8_119 ic_62 (pv_j _ ic_62 rfl) (pn_j _) dX8_qTakes_130 rfl ?_
                        refine x_aload_n (pc2 := 134) dX8_qTakes_133 rfl rfl ?_
                        refine x_iconst (pc2 := 135) dX8_qTakes_134 rfl ?_
                        refine x_putf (pc2 := 138) (x := 0) fl_X8_715 ft_8_120 ic_62 (pv_i _ ic_62 rfl) (pn_z (by decide)) dX8_qTakes_135 rfl ?_
                        exact x_return dX8_qTakes_138 rfl k
                    · replace k := k2 c268
                      refine x_lload_n (pc2 := 108) dX8_qTakes_107 rfl rfl ?_
                      refine x_aload_n (pc2 := 109) dX8_qTakes_108 rfl rfl ?_
                      refine x_getf (pc2 := 112) (v := aJ ((wr (wr m 62 119 ((m 62 119) + 1)) 62 119 (((wr m 62 119 ((m 62 119) + 1)) 62 119) + l2)) 62 119)) fl_X8_710 ic_62 (fv_j _ ic_62 rfl) dX8_qTakes_109 rfl ?_
                      obtain ⟨h272, k⟩ := k
                      obtain ⟨h273, k⟩ := k
                      obtain ⟨k1, k2⟩ := k
                      refine x_lc_le (tgt := 133) (pc2 := 116) dX8_qTakes_112 dX8_qTakes_113 (by decide) rfl h272 h273 (fun c274 => ?_) (fun c274 => ?_)
                      · replace k := k1 c274
                        refine x_aload_n (pc2 := 134) dX8_qTakes_133 rfl rfl ?_
                        refine x_iconst (pc2 := 135) dX8_qTakes_134 rfl ?_
                        refine x_putf (pc2 := 138) (x := 0) fl_X8_715 ft_8_120 ic_62 (pv_i _ ic_62 rfl) (pn_z (by decide)) dX8_qTakes_135 rfl ?_
                        exact x_return dX8_qTakes_138 rfl k
                      · replace k := k2 c274
                        refine x_goto (tgt := 128) dX8_qTakes_116 (by decide) ?_
                        refine x_aload_n (pc2 := 129) dX8_qTakes_128 rfl rfl ?_
                        refine x_lload_n (pc2 := 130) dX8_qTakes_129 rfl rfl ?_
                        refine x_putf (pc2 := 133) (x := l2) fl_X8_710 ft_8_119 ic_62 (pv_j _ ic_62 rfl) (pn_j _) dX8_qTakes_130 rfl ?_
                        refine x_aload_n (pc2 := 134) dX8_qTakes_133 rfl rfl ?_
                        refine x_iconst (pc2 := 135) dX8_qTakes_134 rfl ?_
                        refine x_putf (pc2 := 138) (x := 0) fl_X8_715 ft_8_120 ic_62 (pv_i _ ic_62 rfl) (pn_z (by decide)) dX8_qTakes_135 rfl ?_
                        exact x_return dX8_qTakes_138 rfl k
        · replace k := k2 c209
          refine x_iload (pc2 := 45) dX8_qTakes_43 rfl rfl ?_
          obtain ⟨k1, k2⟩ := k
          refine x_if_eq (tgt := 55) (pc2 := 48) dX8_qTakes_45 (by decide) rfl h207 (fun c275 => ?_) (fun c275 => ?_)
          · replace k := k1 c275
            refine x_iload_n (pc2 := 56) dX8_qTakes_55 rfl rfl ?_
            refine x_iconst (pc2 := 57) dX8_qTakes_56 rfl ?_
            obtain ⟨k1, k2⟩ := k
            refine x_icmp_ne (tgt := 75) (pc2 := 60) dX8_qTakes_57 (by decide) rfl h5 (by decide) (fun c276 => ?_) (fun c276 => ?_)
            · replace k := k1 c276
              refine x_iload_n (pc2 := 76) dX8_qTakes_75 rfl rfl ?_
              refine x_iconst (pc2 := 77) dX8_qTakes_76 rfl ?_
              obtain ⟨k1, k2⟩ := k
              refine x_icmp_ne (tgt := 90) (pc2 := 80) dX8_qTakes_77 (by decide) rfl h5 (by decide) (fun c277 => ?_) (fun c277 => ?_)
              · replace k := k1 c277
                refine x_iload_n (pc2 := 91) dX8_qTakes_90 rfl rfl ?_
                refine x_iconst (pc2 := 92) dX8_qTakes_91 rfl ?_
                obtain ⟨k1, k2⟩ := k
                refine x_icmp_le (tgt := 133) (pc2 := 95) dX8_qTakes_92 (by decide) rfl h5 (by decide) (fun c278 => ?_) (fun c278 => ?_)
                · replace k := k1 c278
                  refine x_aload_n (pc2 := 134) dX8_qTakes_133 rfl rfl ?_
                  refine x_iconst (pc2 := 135) dX8_qTakes_134 rfl ?_
                  refine x_putf (pc2 := 138) (x := 0) fl_X8_715 ft_8_120 ic_62 (pv_i _ ic_62 rfl) (pn_z (by decide)) dX8_qTakes_135 rfl ?_
                  exact x_return dX8_qTakes_138 rfl k
                · replace k := k2 c278
                  refine x_aload_n (pc2 := 96) dX8_qTakes_95 rfl rfl ?_
                  refine x_getf (pc2 := 99) (v := aI (m 62 120)) fl_X8_715 ic_62 (fv_i _ ic_62 rfl) dX8_qTakes_96 rfl ?_
                  obtain ⟨h279, k⟩ := k
                  obtain ⟨k1, k2⟩ := k
                  refine x_if_ne (tgt := 128) (pc2 := 102) dX8_qTakes_99 (by decide) rfl h279 (fun c280 => ?_) (fun c280 => ?_)
                  · replace k := k1 c280
                    refine x_aload_n (pc2 := 129) dX8_qTakes_128 rfl rfl ?_
                    refine x_lload_n (pc2 := 130) dX8_qTakes_129 rfl rfl ?_
                    refine x_putf (pc2 := 133) (x := l2) fl_X8_710 ft_8_119 ic_62 (pv_j _ ic_62 rfl) (pn_j _) dX8_qTakes_130 rfl ?_
                    refine x_aload_n (pc2 := 134) dX8_qTakes_133 rfl rfl ?_
                    refine x_iconst (pc2 := 135) dX8_qTakes_134 rfl ?_
                    refine x_putf (pc2 := 138) (x := 0) fl_X8_715 ft_8_120 ic_62 (pv_i _ ic_62 rfl) (pn_z (by decide)) dX8_qTakes_135 rfl ?_
                    exact x_return dX8_qTakes_138 rfl k
                  · replace k := k2 c280
                    refine x_iload_n (pc2 := 103) dX8_qTakes_102 rfl rfl ?_
                    refine x_iconst (pc2 := 104) dX8_qTakes_103 rfl ?_
                    obtain ⟨k1, k2⟩ := k
                    refine x_icmp_ne (tgt := 119) (pc2 := 107) dX8_qTakes_104 (by decide) rfl h5 (by decide) (fun c281 => ?_) (fun c281 => ?_)
                    · replace k := k1 c281
                      refine x_lload_n (pc2 := 120) dX8_qTakes_119 rfl rfl ?_
                      refine x_aload_n (pc2 := 121) dX8_qTakes_120 rfl rfl ?_
                      refine x_getf (pc2 := 124) (v := aJ (m 62 119)) fl_X8_710 ic_62 (fv_j _ ic_62 rfl) dX8_qTakes_121 rfl ?_
                      obtain ⟨h282, k⟩ := k
                      obtain ⟨h283, k⟩ := k
                      obtain ⟨k1, k2⟩ := k
                      refine x_lc_ge (tgt := 133) (pc2 := 128) dX8_qTakes_124 dX8_qTakes_125 (by decide) rfl h282 h283 (fun c284 => ?_) (fun c284 => ?_)
                      · replace k := k1 c284
                        refine x_aload_n (pc2 := 134) dX8_qTakes_133 rfl rfl ?_
                        refine x_iconst (pc2 := 135) dX8_qTakes_134 rfl ?_
                        refine x_putf (pc2 := 138) (x := 0) fl_X8_715 ft_8_120 ic_62 (pv_i _ ic_62 rfl) (pn_z (by decide)) dX8_qTakes_135 rfl ?_
                        exact x_return dX8_qTakes_138 rfl k
                      · replace k := k2 c284
                        refine x_aload_n (pc2 := 129) dX8_qTakes_128 rfl rfl ?_
                        refine x_lload_n (pc2 := 130) dX8_qTakes_129 rfl rfl ?_
                        refine x_putf (pc2 := 133) (x := l2) fl_X8_710 ft_8_119 ic_62 (pv_j _ ic_62 rfl) (pn_j _) dX8_qTakes_130 rfl ?_
                        refine x_aload_n (pc2 := 134) dX8_qTakes_133 rfl rfl ?_
                        refine x_iconst (pc2 := 135) dX8_qTakes_134 rfl ?_
                        refine x_putf (pc2 := 138) (x := 0) fl_X8_715 ft_8_120 ic_62 (pv_i _ ic_62 rfl) (pn_z (by decide)) dX8_qTakes_135 rfl ?_
                        exact x_return dX8_qTakes_138 rfl k
                    · replace k := k2 c281
                      refine x_lload_n (pc2 := 108) dX8_qTakes_107 rfl rfl ?_
                      refine x_aload_n (pc2 := 109) dX8_qTakes_108 rfl rfl ?_
                      refine x_getf (pc2 := 112) (v := aJ (m 62 119)) fl_X8_710 ic_62 (fv_j _ ic_62 rfl) dX8_qTakes_109 rfl ?_
                      obtain ⟨h285, k⟩ := k
                      obtain ⟨h286, k⟩ := k
                      obtain ⟨k1, k2⟩ := k
                      refine x_lc_le (tgt := 133) (pc2 := 116) dX8_qTakes_112 dX8_qTakes_113 (by decide) rfl h285 h286 (fun c287 => ?_) (fun c287 => ?_)
                      · replace k := k1 c287
                        refine x_aload_n (pc2 := 134) dX8_qTakes_133 rfl rfl ?_
                        refine x_iconst (pc2 := 135) dX8_qTakes_134 rfl ?_
                        refine x_putf (pc2 := 138) (x := 0) fl_X8_715 ft_8_120 ic_62 (pv_i _ ic_62 rfl) (pn_z (by decide)) dX8_qTakes_135 rfl ?_
                        exact x_return dX8_qTakes_138 rfl k
                      · replace k := k2 c287
                        refine x_goto (tgt := 128) dX8_qTakes_116 (by decide) ?_
                        refine x_aload_n (pc2 := 129) dX8_qTakes_128 rfl rfl ?_
                        refine x_lload_n (pc2 := 130) dX8_qTakes_129 rfl rfl ?_
                        refine x_putf (pc2 := 133) (x := l2) fl_X8_710 ft_8_119 ic_62 (pv_j _ ic_62 rfl) (pn_j _) dX8_qTakes_130 rfl ?_
                        refine x_aload_n (pc2 := 134) dX8_qTakes_133 rfl rfl ?_
                        refine x_iconst (pc2 := 135) dX8_qTakes_134 rfl ?_
                        refine x_putf (pc2 := 138) (x := 0) fl_X8_715 ft_8_120 ic_62 (pv_i _ ic_62 rfl) (pn_z (by decide)) dX8_qTakes_135 rfl ?_
                        exact x_return dX8_qTakes_138 rfl k
              · replace k := k2 c277
                refine x_aload_n (pc2 := 81) dX8_qTakes_80 rfl rfl ?_
                refine x_dup_r (pc2 := 82) dX8_qTakes_81 rfl (by decide) ?_
                refine x_getf (pc2 := 85) (v := aJ (m 62 119)) fl_X8_710 ic_62 (fv_j _ ic_62 rfl) dX8_qTakes_82 rfl ?_
                refine x_lload_n (pc2 := 86) dX8_qTakes_85 rfl rfl ?_
                refine x_ladd (pc2 := 87) dX8_qTakes_86 rfl ?_
                refine x_putf (pc2 := 90) (x := ((m 62 119) + l2)) fl_X8_710 ft_8_119 ic_62 (pv_j _ ic_62 rfl) (pn_j _) dX8_qTakes_87 rfl ?_
                refine x_iload_n (pc2 := 91) dX8_qTakes_90 rfl rfl ?_
                refine x_iconst (pc2 := 92) dX8_qTakes_91 rfl ?_
                obtain ⟨k1, k2⟩ := k
                refine x_icmp_le (tgt := 133) (pc2 := 95) dX8_qTakes_92 (by decide) rfl h5 (by decide) (fun c288 => ?_) (fun c288 => ?_)
                · replace k := k1 c288
                  refine x_aload_n (pc2 := 134) dX8_qTakes_133 rfl rfl ?_
                  refine x_iconst (pc2 := 135) dX8_qTakes_134 rfl ?_
                  refine x_putf (pc2 := 138) (x := 0) fl_X8_715 ft_8_120 ic_62 (pv_i _ ic_62 rfl) (pn_z (by decide)) dX8_qTakes_135 rfl ?_
                  exact x_return dX8_qTakes_138 rfl k
                · replace k := k2 c288
                  refine x_aload_n (pc2 := 96) dX8_qTakes_95 rfl rfl ?_
                  refine x_getf (pc2 := 99) (v := aI ((wr m 62 119 ((m 62 119) + l2)) 62 120)) fl_X8_715 ic_62 (fv_i _ ic_62 rfl) dX8_qTakes_96 rfl ?_
                  obtain ⟨h289, k⟩ := k
                  obtain ⟨k1, k2⟩ := k
                  refine x_if_ne (tgt := 128) (pc2 := 102) dX8_qTakes_99 (by decide) rfl h289 (fun c290 => ?_) (fun c290 => ?_)
                  · replace k := k1 c290
                    refine x_aload_n (pc2 := 129) dX8_qTakes_128 rfl rfl ?_
                    refine x_lload_n (pc2 := 130) dX8_qTakes_129 rfl rfl ?_
                    refine x_putf (pc2 := 133) (x := l2) fl_X8_710 ft_8_119 ic_62 (pv_j _ ic_62 rfl) (pn_j _) dX8_qTakes_130 rfl ?_
                    refine x_aload_n (pc2 := 134) dX8_qTakes_133 rfl rfl ?_
                    refine x_iconst (pc2 := 135) dX8_qTakes_134 rfl ?_
                    refine x_putf (pc2 := 138) (x := 0) fl_X8_715 ft_8_120 ic_62 (pv_i _ ic_62 rfl) (pn_z (by decide)) dX8_qTakes_135 rfl ?_
                    exact x_return dX8_qTakes_138 rfl k
                  · replace k := k2 c290
                    refine x_iload_n (pc2 := 103) dX8_qTakes_102 rfl rfl ?_
                    refine x_iconst (pc2 := 104) dX8_qTakes_103 rfl ?_
                    obtain ⟨k1, k2⟩ := k
                    refine x_icmp_ne (tgt := 119) (pc2 := 107) dX8_qTakes_104 (by decide) rfl h5 (by decide) (fun c291 => ?_) (fun c291 => ?_)
                    · replace k := k1 c291
                      refine x_lload_n (pc2 := 120) dX8_qTakes_119 rfl rfl ?_
                      refine x_aload_n (pc2 := 121) dX8_qTakes_120 rfl rfl ?_
                      refine x_getf (pc2 := 124) (v := aJ ((wr m 62 119 ((m 62 119) + l2)) 62 119)) fl_X8_710 ic_62 (fv_j _ ic_62 rfl) dX8_qTakes_121 rfl ?_
                      obtain ⟨h292, k⟩ := k
                      obtain ⟨h293, k⟩ := k
                      obtain ⟨k1, k2⟩ := k
                      refine x_lc_ge (tgt := 133) (pc2 := 128) dX8_qTakes_124 dX8_qTakes_125 (by decide) rfl h292 h293 (fun c294 => ?_) (fun c294 => ?_)
                      · replace k := k1 c294
                        refine x_aload_n (pc2 := 134) dX8_qTakes_133 rfl rfl ?_
                        refine x_iconst (pc2 := 135) dX8_qTakes_134 rfl ?_
                        refine x_putf (pc2 := 138) (x := 0) fl_X8_715 ft_8_120 ic_62 (pv_i _ ic_62 rfl) (pn_z (by decide)) dX8_qTakes_135 rfl ?_
                        exact x_return dX8_qTakes_138 rfl k
                      · replace k := k2 c294
                        refine x_aload_n (pc2 := 129) dX8_qTakes_128 rfl rfl ?_
                        refine x_lload_n (pc2 := 130) dX8_qTakes_129 rfl rfl ?_
                        refine x_putf (pc2 := 133) (x := l2) fl_X8_710 ft_8_119 ic_62 (pv_j _ ic_62 rfl) (pn_j _) dX8_qTakes_130 rfl ?_
                        refine x_aload_n (pc2 := 134) dX8_qTakes_133 rfl rfl ?_
                        refine x_iconst (pc2 := 135) dX8_qTakes_134 rfl ?_
                        refine x_putf (pc2 := 138) (x := 0) fl_X8_715 ft_8_120 ic_62 (pv_i _ ic_62 rfl) (pn_z (by decide)) dX8_qTakes_135 rfl ?_
                        exact x_return dX8_qTakes_138 rfl k
                    · replace k := k2 c291
                      refine x_lload_n (pc2 := 108) dX8_qTakes_107 rfl rfl ?_
                      refine x_aload_n (pc2 := 109) dX8_qTakes_108 rfl rfl ?_
                      refine x_getf (pc2 := 112) (v := aJ ((wr m 62 119 ((m 62 119) + l2)) 62 119)) fl_X8_710 ic_62 (fv_j _ ic_62 rfl) dX8_qTakes_109 rfl ?_
                      obtain ⟨h295, k⟩ := k
                      obtain ⟨h296, k⟩ := k
                      obtain ⟨k1, k2⟩ := k
                      refine x_lc_le (tgt := 133) (pc2 := 116) dX8_qTakes_112 dX8_qTakes_113 (by decide) rfl h295 h296 (fun c297 => ?_) (fun c297 => ?_)
                      · replace k := k1 c297
                        refine x_aload_n (pc2 := 134) dX8_qTakes_133 rfl rfl ?_
                        refine x_iconst (pc2 := 135) dX8_qTakes_134 rfl ?_
                        refine x_putf (pc2 := 138) (x := 0) fl_X8_715 ft_8_120 ic_62 (pv_i _ ic_62 rfl) (pn_z (by decide)) dX8_qTakes_135 rfl ?_
                        exact x_return dX8_qTakes_138 rfl k
                      · replace k := k2 c297
                        refine x_goto (tgt := 128) dX8_qTakes_116 (by decide) ?_
                        refine x_aload_n (pc2 := 129) dX8_qTakes_128 rfl rfl ?_
                        refine x_lload_n (pc2 := 130) dX8_qTakes_129 rfl rfl ?_
                        refine x_putf (pc2 := 133) (x := l2) fl_X8_710 ft_8_119 ic_62 (pv_j _ ic_62 rfl) (pn_j _) dX8_qTakes_130 rfl ?_
                        refine x_aload_n (pc2 := 134) dX8_qTakes_133 rfl rfl ?_
                        refine x_iconst (pc2 := 135) dX8_qTakes_134 rfl ?_
                        refine x_putf (pc2 := 138) (x := 0) fl_X8_715 ft_8_120 ic_62 (pv_i _ ic_62 rfl) (pn_z (by decide)) dX8_qTakes_135 rfl ?_
                        exact x_return dX8_qTakes_138 rfl k
            · replace k := k2 c276
              refine x_iload (pc2 := 62) dX8_qTakes_60 rfl rfl ?_
              obtain ⟨k1, k2⟩ := k
              refine x_if_eq (tgt := 75) (pc2 := 65) dX8_qTakes_62 (by decide) rfl h207 (fun c298 => ?_) (fun c298 => ?_)
              · replace k := k1 c298
                refine x_iload_n (pc2 := 76) dX8_qTakes_75 rfl rfl ?_
                refine x_iconst (pc2 := 77) dX8_qTakes_76 rfl ?_
                obtain ⟨k1, k2⟩ := k
                refine x_icmp_ne (tgt := 90) (pc2 := 80) dX8_qTakes_77 (by decide) rfl h5 (by decide) (fun c299 => ?_) (fun c299 => ?_)
                · replace k := k1 c299
                  refine x_iload_n (pc2 := 91) dX8_qTakes_90 rfl rfl ?_
                  refine x_iconst (pc2 := 92) dX8_qTakes_91 rfl ?_
                  obtain ⟨k1, k2⟩ := k
                  refine x_icmp_le (tgt := 133) (pc2 := 95) dX8_qTakes_92 (by decide) rfl h5 (by decide) (fun c300 => ?_) (fun c300 => ?_)
                  · replace k := k1 c300
                    refine x_aload_n (pc2 := 134) dX8_qTakes_133 rfl rfl ?_
                    refine x_iconst (pc2 := 135) dX8_qTakes_134 rfl ?_
                    refine x_putf (pc2 := 138) (x := 0) fl_X8_715 ft_8_120 ic_62 (pv_i _ ic_62 rfl) (pn_z (by decide)) dX8_qTakes_135 rfl ?_
                    exact x_return dX8_qTakes_138 rfl k
                  · replace k := k2 c300
                    refine x_aload_n (pc2 := 96) dX8_qTakes_95 rfl rfl ?_
                    refine x_getf (pc2 := 99) (v := aI (m 62 120)) fl_X8_715 ic_62 (fv_i _ ic_62 rfl) dX8_qTakes_96 rfl ?_
                    obtain ⟨h301, k⟩ := k
                    obtain ⟨k1, k2⟩ := k
                    refine x_if_ne (tgt := 128) (pc2 := 102) dX8_qTakes_99 (by decide) rfl h301 (fun c302 => ?_) (fun c302 => ?_)
                    · replace k := k1 c302
                      refine x_aload_n (pc2 := 129) dX8_qTakes_128 rfl rfl ?_
                      refine x_lload_n (pc2 := 130) dX8_qTakes_129 rfl rfl ?_
                      refine x_putf (pc2 := 133) (x := l2) fl_X8_710 ft_8_119 ic_62 (pv_j _ ic_62 rfl) (pn_j _) dX8_qTakes_130 rfl ?_
                      refine x_aload_n (pc2 := 134) dX8_qTakes_133 rfl rfl ?_
                      refine x_iconst (pc2 := 135) dX8_qTakes_134 rfl ?_
                      refine x_putf (pc2 := 138) (x := 0) fl_X8_715 ft_8_120 ic_62 (pv_i _ ic_62 rfl) (pn_z (by decide)) dX8_qTakes_135 rfl ?_
                      exact x_return dX8_qTakes_138 rfl k
                    · replace k := k2 c302
                      refine x_iload_n (pc2 := 103) dX8_qTakes_102 rfl rfl ?_
                      refine x_iconst (pc2 := 104) dX8_qTakes_103 rfl ?_
                      obtain ⟨k1, k2⟩ := k
                      refine x_icmp_ne (tgt := 119) (pc2 := 107) dX8_qTakes_104 (by decide) rfl h5 (by decide) (fun c303 => ?_) (fun c303 => ?_)
                      · replace k := k1 c303
                        refine x_lload_n (pc2 := 120) dX8_qTakes_119 rfl rfl ?_
                        refine x_aload_n (pc2 := 121) dX8_qTakes_120 rfl rfl ?_
                        refine x_getf (pc2 := 124) (v := aJ (m 62 119)) fl_X8_710 ic_62 (fv_j _ ic_62 rfl) dX8_qTakes_121 rfl ?_
                        obtain ⟨h304, k⟩ := k
                        obtain ⟨h305, k⟩ := k
                        obtain ⟨k1, k2⟩ := k
                        refine x_lc_ge (tgt := 133) (pc2 := 128) dX8_qTakes_124 dX8_qTakes_125 (by decide) rfl h304 h305 (fun c306 => ?_) (fun c306 => ?_)
                        · replace k := k1 c306
                          refine x_aload_n (pc2 := 134) dX8_qTakes_133 rfl rfl ?_
                          refine x_iconst (pc2 := 135) dX8_qTakes_134 rfl ?_
                          refine x_putf (pc2 := 138) (x := 0) fl_X8_715 ft_8_120 ic_62 (pv_i _ ic_62 rfl) (pn_z (by decide)) dX8_qTakes_135 rfl ?_
                          exact x_return dX8_qTakes_138 rfl k
                        · replace k := k2 c306
                          refine x_aload_n (pc2 := 129) dX8_qTakes_128 rfl rfl ?_
                          refine x_lload_n (pc2 := 130) dX8_qTakes_129 rfl rfl ?_
                          refine x_putf (pc2 := 133) (x := l2) fl_X8_710 ft_8_119 ic_62 (pv_j _ ic_62 rfl) (pn_j _) dX8_qTakes_130 rfl ?_
                          refine x_aload_n (pc2 := 134) dX8_qTakes_133 rfl rfl ?_
                          refine x_iconst (pc2 := 135) dX8_qTakes_134 rfl ?_
                          refine x_putf (pc2 := 138) (x := 0) fl_X8_715 ft_8_120 ic_62 (pv_i _ ic_62 rfl) (pn_z (by decide)) dX8_qTakes_135 rfl ?_
                          exact x_return dX8_qTakes_138 rfl k
                      · replace k := k2 c303
                        refine x_lload_n (pc2 := 108) dX8_qTakes_107 rfl rfl ?_
                        refine x_aload_n (pc2 := 109) dX8_qTakes_108 rfl rfl ?_
                        refine x_getf (pc2 := 112) (v := aJ (m 62 119)) fl_X8_710 ic_62 (fv_j _ ic_62 rfl) dX8_qTakes_109 rfl ?_
                        obtain ⟨h307, k⟩ := k
                        obtain ⟨h308, k⟩ := k
                        obtain ⟨k1, k2⟩ := k
                        refine x_lc_le (tgt := 133) (pc2 := 116) dX8_qTakes_112 dX8_qTakes_113 (by decide) rfl h307 h308 (fun c309 => ?_) (fun c309 => ?_)
                        · replace k := k1 c309
                          refine x_aload_n (pc2 := 134) dX8_qTakes_133 rfl rfl ?_
                          refine x_iconst (pc2 := 135) dX8_qTakes_134 rfl ?_
                          refine x_putf (pc2 := 138) (x := 0) fl_X8_715 ft_8_120 ic_62 (pv_i _ ic_62 rfl) (pn_z (by decide)) dX8_qTakes_135 rfl ?_
                          exact x_return dX8_qTakes_138 rfl k
                        · replace k := k2 c309
                          refine x_goto (tgt := 128) dX8_qTakes_116 (by decide) ?_
                          refine x_aload_n (pc2 := 129) dX8_qTakes_128 rfl rfl ?_
                          refine x_lload_n (pc2 := 130) dX8_qTakes_129 rfl rfl ?_
                          refine x_putf (pc2 := 133) (x := l2) fl_X8_710 ft_8_119 ic_62 (pv_j _ ic_62 rfl) (pn_j _) dX8_qTakes_130 rfl ?_
                          refine x_aload_n (pc2 := 134) dX8_qTakes_133 rfl rfl ?_
                          refine x_iconst (pc2 := 135) dX8_qTakes_134 rfl ?_
                          refine x_putf (pc2 := 138) (x := 0) fl_X8_715 ft_8_120 ic_62 (pv_i _ ic_62 rfl) (pn_z (by decide)) dX8_qTakes_135 rfl ?_
                          exact x_return dX8_qTakes_138 rfl k
                · replace k := k2 c299
                  refine x_aload_n (pc2 := 81) dX8_qTakes_80 rfl rfl ?_
                  refine x_dup_r (pc2 := 82) dX8_qTakes_81 rfl (by decide) ?_
                  refine x_getf (pc2 := 85) (v := aJ (m 62 119)) fl_X8_710 ic_62 (fv_j _ ic_62 rfl) dX8_qTakes_82 rfl ?_
                  refine x_lload_n (pc2 := 86) dX8_qTakes_85 rfl rfl ?_
                  refine x_ladd (pc2 := 87) dX8_qTakes_86 rfl ?_
                  refine x_putf (pc2 := 90) (x := ((m 62 119) + l2)) fl_X8_710 ft_8_119 ic_62 (pv_j _ ic_62 rfl) (pn_j _) dX8_qTakes_87 rfl ?_
                  refine x_iload_n (pc2 := 91) dX8_qTakes_90 rfl rfl ?_
                  refine x_iconst (pc2 := 92) dX8_qTakes_91 rfl ?_
                  obtain ⟨k1, k2⟩ := k
                  refine x_icmp_le (tgt := 133) (pc2 := 95) dX8_qTakes_92 (by decide) rfl h5 (by decide) (fun c310 => ?_) (fun c310 => ?_)
                  · replace k := k1 c310
                    refine x_aload_n (pc2 := 134) dX8_qTakes_133 rfl rfl ?_
                    refine x_iconst (pc2 := 135) dX8_qTakes_134 rfl ?_
                    refine x_putf (pc2 := 138) (x := 0) fl_X8_715 ft_8_120 ic_62 (pv_i _ ic_62 rfl) (pn_z (by decide)) dX8_qTakes_135 rfl ?_
                    exact x_return dX8_qTakes_138 rfl k
                  · replace k := k2 c310
                    refine x_aload_n (pc2 := 96) dX8_qTakes_95 rfl rfl ?_
                    refine x_getf (pc2 := 99) (v := aI ((wr m 62 119 ((m 62 119) + l2)) 62 120)) fl_X8_715 ic_62 (fv_i _ ic_62 rfl) dX8_qTakes_96 rfl ?_
                    obtain ⟨h311, k⟩ := k
                    obtain ⟨k1, k2⟩ := k
                    refine x_if_ne (tgt := 128) (pc2 := 102) dX8_qTakes_99 (by decide) rfl h311 (fun c312 => ?_) (fun c312 => ?_)
                    · replace k := k1 c312
                      refine x_aload_n (pc2 := 129) dX8_qTakes_128 rfl rfl ?_
                      refine x_lload_n (pc2 := 130) dX8_qTakes_129 rfl rfl ?_
                      refine x_putf (pc2 := 133) (x := l2) fl_X8_710 ft_8_119 ic_62 (pv_j _ ic_62 rfl) (pn_j _) dX8_qTakes_130 rfl ?_
                      refine x_aload_n (pc2 := 134) dX8_qTakes_133 rfl rfl ?_
                      refine x_iconst (pc2 := 135) dX8_qTakes_134 rfl ?_
                      refine x_putf (pc2 := 138) (x := 0) fl_X8_715 ft_8_120 ic_62 (pv_i _ ic_62 rfl) (pn_z (by decide)) dX8_qTakes_135 rfl ?_
                      exact x_return dX8_qTakes_138 rfl k
                    · replace k := k2 c312
                      refine x_iload_n (pc2 := 103) dX8_qTakes_102 rfl rfl ?_
                      refine x_iconst (pc2 := 104) dX8_qTakes_103 rfl ?_
                      obtain ⟨k1, k2⟩ := k
                      refine x_icmp_ne (tgt := 119) (pc2 := 107) dX8_qTakes_104 (by decide) rfl h5 (by decide) (fun c313 => ?_) (fun c313 => ?_)
                      · replace k := k1 c313
                        refine x_lload_n (pc2 := 120) dX8_qTakes_119 rfl rfl ?_
                        refine x_aload_n (pc2 := 121) dX8_qTakes_120 rfl rfl ?_
                        refine x_getf (pc2 := 124) (v := aJ ((wr m 62 119 ((m 62 119) + l2)) 62 119)) fl_X8_710 ic_62 (fv_j _ ic_62 rfl) dX8_qTakes_121 rfl ?_
                        obtain ⟨h314, k⟩ := k
                        obtain ⟨h315, k⟩ := k
                        obtain ⟨k1, k2⟩ := k
                        refine x_lc_ge (tgt := 133) (pc2 := 128) dX8_qTakes_124 dX8_qTakes_125 (by decide) rfl h314 h315 (fun c316 => ?_) (fun c316 => ?_)
                        · replace k := k1 c316
                          refine x_aload_n (pc2 := 134) dX8_qTakes_133 rfl rfl ?_
                          refine x_iconst (pc2 := 135) dX8_qTakes_134 rfl ?_
                          refine x_putf (pc2 := 138) (x := 0) fl_X8_715 ft_8_120 ic_62 (pv_i _ ic_62 rfl) (pn_z (by decide)) dX8_qTakes_135 rfl ?_
                          exact x_return dX8_qTakes_138 rfl k
                        · replace k := k2 c316
                          refine x_aload_n (pc2 := 129) dX8_qTakes_128 rfl rfl ?_
                          refine x_lload_n (pc2 := 130) dX8_qTakes_129 rfl rfl ?_
                          refine x_putf (pc2 := 133) (x := l2) fl_X8_710 ft_8_119 ic_62 (pv_j _ ic_62 rfl) (pn_j _) dX8_qTakes_130 rfl ?_
                          refine x_aload_n (pc2 := 134) dX8_qTakes_133 rfl rfl ?_
                          refine x_iconst (pc2 := 135) dX8_qTakes_134 rfl ?_
                          refine x_putf (pc2 := 138) (x := 0) fl_X8_715 ft_8_120 ic_62 (pv_i _ ic_62 rfl) (pn_z (by decide)) dX8_qTakes_135 rfl ?_
                          exact x_return dX8_qTakes_138 rfl k
                      · replace k := k2 c313
                        refine x_lload_n (pc2 := 108) dX8_qTakes_107 rfl rfl ?_
                        refine x_aload_n (pc2 := 109) dX8_qTakes_108 rfl rfl ?_
                        refine x_getf (pc2 := 112) (v := aJ ((wr m 62 119 ((m 62 119) + l2)) 62 119)) fl_X8_710 ic_62 (fv_j _ ic_62 rfl) dX8_qTakes_109 rfl ?_
                        obtain ⟨h317, k⟩ := k
                        obtain ⟨h318, k⟩ := k
                        obtain ⟨k1, k2⟩ := k
                        refine x_lc_le (tgt := 133) (pc2 := 116) dX8_qTakes_112 dX8_qTakes_113 (by decide) rfl h317 h318 (fun c319 => ?_) (fun c319 => ?_)
                        · replace k := k1 c319
                          refine x_aload_n (pc2 := 134) dX8_qTakes_133 rfl rfl ?_
                          refine x_iconst (pc2 := 135) dX8_qTakes_134 rfl ?_
                          refine x_putf (pc2 := 138) (x := 0) fl_X8_715 ft_8_120 ic_62 (pv_i _ ic_62 rfl) (pn_z (by decide)) dX8_qTakes_135 rfl ?_
                          exact x_return dX8_qTakes_138 rfl k
                        · replace k := k2 c319
                          refine x_goto (tgt := 128) dX8_qTakes_116 (by decide) ?_
                          refine x_aload_n (pc2 := 129) dX8_qTakes_128 rfl rfl ?_
                          refine x_lload_n (pc2 := 130) dX8_qTakes_129 rfl rfl ?_
                          refine x_putf (pc2 := 133) (x := l2) fl_X8_710 ft_8_119 ic_62 (pv_j _ ic_62 rfl) (pn_j _) dX8_qTakes_130 rfl ?_
                          refine x_aload_n (pc2 := 134) dX8_qTakes_133 rfl rfl ?_
                          refine x_iconst (pc2 := 135) dX8_qTakes_134 rfl ?_
                          refine x_putf (pc2 := 138) (x := 0) fl_X8_715 ft_8_120 ic_62 (pv_i _ ic_62 rfl) (pn_z (by decide)) dX8_qTakes_135 rfl ?_
                          exact x_return dX8_qTakes_138 rfl k
              · replace k := k2 c298
                refine x_aload_n (pc2 := 66) dX8_qTakes_65 rfl rfl ?_
                refine x_dup_r (pc2 := 67) dX8_qTakes_66 rfl (by decide) ?_
                refine x_getf (pc2 := 70) (v := aJ (m 62 119)) fl_X8_710 ic_62 (fv_j _ ic_62 rfl) dX8_qTakes_67 rfl ?_
                refine x_lconst (pc2 := 71) (v := 1) dX8_qTakes_70 rfl rfl ?_
                refine x_ladd (pc2 := 72) dX8_qTakes_71 rfl ?_
                refine x_putf (pc2 := 75) (x := ((m 62 119) + 1)) fl_X8_710 ft_8_119 ic_62 (pv_j _ ic_62 rfl) (pn_j _) dX8_qTakes_72 rfl ?_
                refine x_iload_n (pc2 := 76) dX8_qTakes_75 rfl rfl ?_
                refine x_iconst (pc2 := 77) dX8_qTakes_76 rfl ?_
                obtain ⟨k1, k2⟩ := k
                refine x_icmp_ne (tgt := 90) (pc2 := 80) dX8_qTakes_77 (by decide) rfl h5 (by decide) (fun c320 => ?_) (fun c320 => ?_)
                · replace k := k1 c320
                  refine x_iload_n (pc2 := 91) dX8_qTakes_90 rfl rfl ?_
                  refine x_iconst (pc2 := 92) dX8_qTakes_91 rfl ?_
                  obtain ⟨k1, k2⟩ := k
                  refine x_icmp_le (tgt := 133) (pc2 := 95) dX8_qTakes_92 (by decide) rfl h5 (by decide) (fun c321 => ?_) (fun c321 => ?_)
                  · replace k := k1 c321
                    refine x_aload_n (pc2 := 134) dX8_qTakes_133 rfl rfl ?_
                    refine x_iconst (pc2 := 135) dX8_qTakes_134 rfl ?_
                    refine x_putf (pc2 := 138) (x := 0) fl_X8_715 ft_8_120 ic_62 (pv_i _ ic_62 rfl) (pn_z (by decide)) dX8_qTakes_135 rfl ?_
                    exact x_return dX8_qTakes_138 rfl k
                  · replace k := k2 c321
                    refine x_aload_n (pc2 := 96) dX8_qTakes_95 rfl rfl ?_
                    refine x_getf (pc2 := 99) (v := aI ((wr m 62 119 ((m 62 119) + 1)) 62 120)) fl_X8_715 ic_62 (fv_i _ ic_62 rfl) dX8_qTakes_96 rfl ?_
                    obtain ⟨h322, k⟩ := k
                    obtain ⟨k1, k2⟩ := k
                    refine x_if_ne (tgt := 128) (pc2 := 102) dX8_qTakes_99 (by decide) rfl h322 (fun c323 => ?_) (fun c323 => ?_)
                    · replace k := k1 c323
                      refine x_aload_n (pc2 := 129) dX8_qTakes_128 rfl rfl ?_
                      refine x_lload_n (pc2 := 130) dX8_qTakes_129 rfl rfl ?_
                      refine x_putf (pc2 := 133) (x := l2) fl_X8_710 ft_8_119 ic_62 (pv_j _ ic_62 rfl) (pn_j _) dX8_qTakes_130 rfl ?_
                      refine x_aload_n (pc2 := 134) dX8_qTakes_133 rfl rfl ?_
                      refine x_iconst (pc2 := 135) dX8_qTakes_134 rfl ?_
                      refine x_putf (pc2 := 138) (x := 0) fl_X8_715 ft_8_120 ic_62 (pv_i _ ic_62 rfl) (pn_z (by decide)) dX8_qTakes_135 rfl ?_
                      exact x_return dX8_qTakes_138 rfl k
                    · replace k := k2 c323
                      refine x_iload_n (pc2 := 103) dX8_qTakes_102 rfl rfl ?_
                      refine x_iconst (pc2 := 104) dX8_qTakes_103 rfl ?_
                      obtain ⟨k1, k2⟩ := k
                      refine x_icmp_ne (tgt := 119) (pc2 := 107) dX8_qTakes_104 (by decide) rfl h5 (by decide) (fun c324 => ?_) (fun c324 => ?_)
                      · replace k := k1 c324
                        refine x_lload_n (pc2 := 120) dX8_qTakes_119 rfl rfl ?_
                        refine x_aload_n (pc2 := 121) dX8_qTakes_120 rfl rfl ?_
                        refine x_getf (pc2 := 124) (v := aJ ((wr m 62 119 ((m 62 119) + 1)) 62 119)) fl_X8_710 ic_62 (fv_j _ ic_62 rfl) dX8_qTakes_121 rfl ?_
                        obtain ⟨h325, k⟩ := k
                        obtain ⟨h326, k⟩ := k
                        obtain ⟨k1, k2⟩ := k
                        refine x_lc_ge (tgt := 133) (pc2 := 128) dX8_qTakes_124 dX8_qTakes_125 (by decide) rfl h325 h326 (fun c327 => ?_) (fun c327 => ?_)
                        · replace k := k1 c327
                          refine x_aload_n (pc2 := 134) dX8_qTakes_133 rfl rfl ?_
                          refine x_iconst (pc2 := 135) dX8_qTakes_134 rfl ?_
                          refine x_putf (pc2 := 138) (x := 0) fl_X8_715 ft_8_120 ic_62 (pv_i _ ic_62 rfl) (pn_z (by decide)) dX8_qTakes_135 rfl ?_
                          exact x_return dX8_qTakes_138 rfl k
                        · replace k := k2 c327
                          refine x_aload_n (pc2 := 129) dX8_qTakes_128 rfl rfl ?_
                          refine x_lload_n (pc2 := 130) dX8_qTakes_129 rfl rfl ?_
                          refine x_putf (pc2 := 133) (x := l2) fl_X8_710 ft_8_119 ic_62 (pv_j _ ic_62 rfl) (pn_j _) dX8_qTakes_130 rfl ?_
                          refine x_aload_n (pc2 := 134) dX8_qTakes_133 rfl rfl ?_
                          refine x_iconst (pc2 := 135) dX8_qTakes_134 rfl ?_
                          refine x_putf (pc2 := 138) (x := 0) fl_X8_715 ft_8_120 ic_62 (pv_i _ ic_62 rfl) (pn_z (by decide)) dX8_qTakes_135 rfl ?_
                          exact x_return dX8_qTakes_138 rfl k
                      · replace k := k2 c324
                        refine x_lload_n (pc2 := 108) dX8_qTakes_107 rfl rfl ?_
                        refine x_aload_n (pc2 := 109) dX8_qTakes_108 rfl rfl ?_
                        refine x_getf (pc2 := 112) (v := aJ ((wr m 62 119 ((m 62 119) + 1)) 62 119)) fl_X8_710 ic_62 (fv_j _ ic_62 rfl) dX8_qTakes_109 rfl ?_
                        obtain ⟨h328, k⟩ := k
                        obtain ⟨h329, k⟩ := k
                        obtain ⟨k1, k2⟩ := k
                        refine x_lc_le (tgt := 133) (pc2 := 116) dX8_qTakes_112 dX8_qTakes_113 (by decide) rfl h328 h329 (fun c330 => ?_) (fun c330 => ?_)
                        · replace k := k1 c330
                          refine x_aload_n (pc2 := 134) dX8_qTakes_133 rfl rfl ?_
                          refine x_iconst (pc2 := 135) dX8_qTakes_134 rfl ?_
                          refine x_putf (pc2 := 138) (x := 0) fl_X8_715 ft_8_120 ic_62 (pv_i _ ic_62 rfl) (pn_z (by decide)) dX8_qTakes_135 rfl ?_
                          exact x_return dX8_qTakes_138 rfl k
                        · replace k := k2 c330
                          refine x_goto (tgt := 128) dX8_qTakes_116 (by decide) ?_
                          refine x_aload_n (pc2 := 129) dX8_qTakes_128 rfl rfl ?_
                          refine x_lload_n (pc2 := 130) dX8_qTakes_129 rfl rfl ?_
                          refine x_putf (pc2 := 133) (x := l2) fl_X8_710 ft_8_119 ic_62 (pv_j _ ic_62 rfl) (pn_j _) dX8_qTakes_130 rfl ?_
                          refine x_aload_n (pc2 := 134) dX8_qTakes_133 rfl rfl ?_
                          refine x_iconst (pc2 := 135) dX8_qTakes_134 rfl ?_
                          refine x_putf (pc2 := 138) (x := 0) fl_X8_715 ft_8_120 ic_62 (pv_i _ ic_62 rfl) (pn_z (by decide)) dX8_qTakes_135 rfl ?_
                          exact x_return dX8_qTakes_138 rfl k
                · replace k := k2 c320
                  refine x_aload_n (pc2 := 81) dX8_qTakes_80 rfl rfl ?_
                  refine x_dup_r (pc2 := 82) dX8_qTakes_81 rfl (by decide) ?_
                  refine x_getf (pc2 := 85) (v := aJ ((wr m 62 119 ((m 62 119) + 1)) 62 119)) fl_X8_710 ic_62 (fv_j _ ic_62 rfl) dX8_qTakes_82 rfl ?_
                  refine x_lload_n (pc2 := 86) dX8_qTakes_85 rfl rfl ?_
                  refine x_ladd (pc2 := 87) dX8_qTakes_86 rfl ?_
                  refine x_putf (pc2 := 90) (x := (((wr m 62 119 ((m 62 119) + 1)) 62 119) + l2)) fl_X8_710 ft_8_119 ic_62 (pv_j _ ic_62 rfl) (pn_j _) dX8_qTakes_87 rfl ?_
                  refine x_iload_n (pc2 := 91) dX8_qTakes_90 rfl rfl ?_
                  refine x_iconst (pc2 := 92) dX8_qTakes_91 rfl ?_
                  obtain ⟨k1, k2⟩ := k
                  refine x_icmp_le (tgt := 133) (pc2 := 95) dX8_qTakes_92 (by decide) rfl h5 (by decide) (fun c331 => ?_) (fun c331 => ?_)
                  · replace k := k1 c331
                    refine x_aload_n (pc2 := 134) dX8_qTakes_133 rfl rfl ?_
                    refine x_iconst (pc2 := 135) dX8_qTakes_134 rfl ?_
                    refine x_putf (pc2 := 138) (x := 0) fl_X8_715 ft_8_120 ic_62 (pv_i _ ic_62 rfl) (pn_z (by decide)) dX8_qTakes_135 rfl ?_
                    exact x_return dX8_qTakes_138 rfl k
                  · replace k := k2 c331
                    refine x_aload_n (pc2 := 96) dX8_qTakes_95 rfl rfl ?_
                    refine x_getf (pc2 := 99) (v := aI ((wr (wr m 62 119 ((m 62 119) + 1)) 62 119 (((wr m 62 119 ((m 62 119) + 1)) 62 119) + l2)) 62 120)) fl_X8_715 ic_62 (fv_i _ ic_62 rfl) dX8_qTakes_96 rfl ?_
                    obtain ⟨h332, k⟩ := k
                    obtain ⟨k1, k2⟩ := k
                    refine x_if_ne (tgt := 128) (pc2 := 102) dX8_qTakes_99 (by decide) rfl h332 (fun c333 => ?_) (fun c333 => ?_)
                    · replace k := k1 c333
                      refine x_aload_n (pc2 := 129) dX8_qTakes_128 rfl rfl ?_
                      refine x_lload_n (pc2 := 130) dX8_qTakes_129 rfl rfl ?_
                      refine x_putf (pc2 := 133) (x := l2) fl_X8_710 ft_8_119 ic_62 (pv_j _ ic_62 rfl) (pn_j _) dX8_qTakes_130 rfl ?_
                      refine x_aload_n (pc2 := 134) dX8_qTakes_133 rfl rfl ?_
                      refine x_iconst (pc2 := 135) dX8_qTakes_134 rfl ?_
                      refine x_putf (pc2 := 138) (x := 0) fl_X8_715 ft_8_120 ic_62 (pv_i _ ic_62 rfl) (pn_z (by decide)) dX8_qTakes_135 rfl ?_
                      exact x_return dX8_qTakes_138 rfl k
                    · replace k := k2 c333
                      refine x_iload_n (pc2 := 103) dX8_qTakes_102 rfl rfl ?_
                      refine x_iconst (pc2 := 104) dX8_qTakes_103 rfl ?_
                      obtain ⟨k1, k2⟩ := k
                      refine x_icmp_ne (tgt := 119) (pc2 := 107) dX8_qTakes_104 (by decide) rfl h5 (by decide) (fun c334 => ?_) (fun c334 => ?_)
                      · replace k := k1 c334
                        refine x_lload_n (pc2 := 120) dX8_qTakes_119 rfl rfl ?_
                        refine x_aload_n (pc2 := 121) dX8_qTakes_120 rfl rfl ?_
                        refine x_getf (pc2 := 124) (v := aJ ((wr (wr m 62 119 ((m 62 119) + 1)) 62 119 (((wr m 62 119 ((m 62 119) + 1)) 62 119) + l2)) 62 119)) fl_X8_710 ic_62 (fv_j _ ic_62 rfl) dX8_qTakes_121 rfl ?_
                        obtain ⟨h335, k⟩ := k
                        obtain ⟨h336, k⟩ := k
                        obtain ⟨k1, k2⟩ := k
                        refine x_lc_ge (tgt := 133) (pc2 := 128) dX8_qTakes_124 dX8_qTakes_125 (by decide) rfl h335 h336 (fun c337 => ?_) (fun c337 => ?_)
                        · replace k := k1 c337
                          refine x_aload_n (pc2 := 134) dX8_qTakes_133 rfl rfl ?_
                          refine x_iconst (pc2 := 135) dX8_qTakes_134 rfl ?_
                          refine x_putf (pc2 := 138) (x := 0) fl_X8_715 ft_8_120 ic_62 (pv_i _ ic_62 rfl) (pn_z (by decide)) dX8_qTakes_135 rfl ?_
                          exact x_return dX8_qTakes_138 rfl k
                        · replace k := k2 c337
                          refine x_aload_n (pc2 := 129) dX8_qTakes_128 rfl rfl ?_
                          refine x_lload_n (pc2 := 130) dX8_qTakes_129 rfl rfl ?_
                          refine x_putf (pc2 := 133) (x := l2) fl_X8_710 ft_8_119 ic_62 (pv_j _ ic_62 rfl) (pn_j _) dX8_qTakes_130 rfl ?_
                          refine x_aload_n (pc2 := 134) dX8_qTakes_133 rfl rfl ?_
                          refine x_iconst (pc2 := 135) dX8_qTakes_134 rfl ?_
                          refine x_putf (pc2 := 138) (x := 0) fl_X8_715 ft_8_120 ic_62 (pv_i _ ic_62 rfl) (pn_z (by decide)) dX8_qTakes_135 rfl ?_
                          exact x_return dX8_qTakes_138 rfl k
                      · replace k := k2 c334
                        refine x_lload_n (pc2 := 108) dX8_qTakes_107 rfl rfl ?_
                        refine x_aload_n (pc2 := 109) dX8_qTakes_108 rfl rfl ?_
                        refine x_getf (pc2 := 112) (v := aJ ((wr (wr m 62 119 ((m 62 119) + 1)) 62 119 (((wr m 62 119 ((m 62 119) + 1)) 62 119) + l2)) 62 119)) fl_X8_710 ic_62 (fv_j _ ic_62 rfl) dX8_qTakes_109 rfl ?_
                        obtain ⟨h338, k⟩ := k
                        obtain ⟨h339, k⟩ := k
                        obtain ⟨k1, k2⟩ := k
                        refine x_lc_le (tgt := 133) (pc2 := 116) dX8_qTakes_112 dX8_qTakes_113 (by decide) rfl h338 h339 (fun c340 => ?_) (fun c340 => ?_)
                        · replace k := k1 c340
                          refine x_aload_n (pc2 := 134) dX8_qTakes_133 rfl rfl ?_
                          refine x_iconst (pc2 := 135) dX8_qTakes_134 rfl ?_
                          refine x_putf (pc2 := 138) (x := 0) fl_X8_715 ft_8_120 ic_62 (pv_i _ ic_62 rfl) (pn_z (by decide)) dX8_qTakes_135 rfl ?_
                          exact x_return dX8_qTakes_138 rfl k
                        · replace k := k2 c340
                          refine x_goto (tgt := 128) dX8_qTakes_116 (by decide) ?_
                          refine x_aload_n (pc2 := 129) dX8_qTakes_128 rfl rfl ?_
                          refine x_lload_n (pc2 := 130) dX8_qTakes_129 rfl rfl ?_
                          refine x_putf (pc2 := 133) (x := l2) fl_X8_710 ft_8_119 ic_62 (pv_j _ ic_62 rfl) (pn_j _) dX8_qTakes_130 rfl ?_
                          refine x_aload_n (pc2 := 134) dX8_qTakes_133 rfl rfl ?_
                          refine x_iconst (pc2 := 135) dX8_qTakes_134 rfl ?_
                          refine x_putf (pc2 := 138) (x := 0) fl_X8_715 ft_8_120 ic_62 (pv_i _ ic_62 rfl) (pn_z (by decide)) dX8_qTakes_135 rfl ?_
                          exact x_return dX8_qTakes_138 rfl k
          · replace k := k2 c275
            refine x_aload_n (pc2 := 49) dX8_qTakes_48 rfl rfl ?_
            refine x_iload (pc2 := 51) dX8_qTakes_49 rfl rfl ?_
            obtain ⟨h341, k⟩ := k
            refine x_i2l (pc2 := 52) dX8_qTakes_51 rfl h341 ?_
            refine x_putf (pc2 := 55) (x := l4) fl_X8_710 ft_8_119 ic_62 (pv_j _ ic_62 rfl) (pn_j _) dX8_qTakes_52 rfl ?_
            refine x_iload_n (pc2 := 56) dX8_qTakes_55 rfl rfl ?_
            refine x_iconst (pc2 := 57) dX8_qTakes_56 rfl ?_
            obtain ⟨k1, k2⟩ := k
            refine x_icmp_ne (tgt := 75) (pc2 := 60) dX8_qTakes_57 (by decide) rfl h5 (by decide) (fun c342 => ?_) (fun c342 => ?_)
            · replace k := k1 c342
              refine x_iload_n (pc2 := 76) dX8_qTakes_75 rfl rfl ?_
              refine x_iconst (pc2 := 77) dX8_qTakes_76 rfl ?_
              obtain ⟨k1, k2⟩ := k
              refine x_icmp_ne (tgt := 90) (pc2 := 80) dX8_qTakes_77 (by decide) rfl h5 (by decide) (fun c343 => ?_) (fun c343 => ?_)
              · replace k := k1 c343
                refine x_iload_n (pc2 := 91) dX8_qTakes_90 rfl rfl ?_
                refine x_iconst (pc2 := 92) dX8_qTakes_91 rfl ?_
                obtain ⟨k1, k2⟩ := k
                refine x_icmp_le (tgt := 133) (pc2 := 95) dX8_qTakes_92 (by decide) rfl h5 (by decide) (fun c344 => ?_) (fun c344 => ?_)
                · replace k := k1 c344
                  refine x_aload_n (pc2 := 134) dX8_qTakes_133 rfl rfl ?_
                  refine x_iconst (pc2 := 135) dX8_qTakes_134 rfl ?_
                  refine x_putf (pc2 := 138) (x := 0) fl_X8_715 ft_8_120 ic_62 (pv_i _ ic_62 rfl) (pn_z (by decide)) dX8_qTakes_135 rfl ?_
                  exact x_return dX8_qTakes_138 rfl k
                · replace k := k2 c344
                  refine x_aload_n (pc2 := 96) dX8_qTakes_95 rfl rfl ?_
                  refine x_getf (pc2 := 99) (v := aI ((wr m 62 119 l4) 62 120)) fl_X8_715 ic_62 (fv_i _ ic_62 rfl) dX8_qTakes_96 rfl ?_
                  obtain ⟨h345, k⟩ := k
                  obtain ⟨k1, k2⟩ := k
                  refine x_if_ne (tgt := 128) (pc2 := 102) dX8_qTakes_99 (by decide) rfl h345 (fun c346 => ?_) (fun c346 => ?_)
                  · replace k := k1 c346
                    refine x_aload_n (pc2 := 129) dX8_qTakes_128 rfl rfl ?_
                    refine x_lload_n (pc2 := 130) dX8_qTakes_129 rfl rfl ?_
                    refine x_putf (pc2 := 133) (x := l2) fl_X8_710 ft_8_119 ic_62 (pv_j _ ic_62 rfl) (pn_j _) dX8_qTakes_130 rfl ?_
                    refine x_aload_n (pc2 := 134) dX8_qTakes_133 rfl rfl ?_
                    refine x_iconst (pc2 := 135) dX8_qTakes_134 rfl ?_
                    refine x_putf (pc2 := 138) (x := 0) fl_X8_715 ft_8_120 ic_62 (pv_i _ ic_62 rfl) (pn_z (by decide)) dX8_qTakes_135 rfl ?_
                    exact x_return dX8_qTakes_138 rfl k
                  · replace k := k2 c346
                    refine x_iload_n (pc2 := 103) dX8_qTakes_102 rfl rfl ?_
                    refine x_iconst (pc2 := 104) dX8_qTakes_103 rfl ?_
                    obtain ⟨k1, k2⟩ := k
                    refine x_icmp_ne (tgt := 119) (pc2 := 107) dX8_qTakes_104 (by decide) rfl h5 (by decide) (fun c347 => ?_) (fun c347 => ?_)
                    · replace k := k1 c347
                      refine x_lload_n (pc2 := 120) dX8_qTakes_119 rfl rfl ?_
                      refine x_aload_n (pc2 := 121) dX8_qTakes_120 rfl rfl ?_
                      refine x_getf (pc2 := 124) (v := aJ ((wr m 62 119 l4) 62 119)) fl_X8_710 ic_62 (fv_j _ ic_62 rfl) dX8_qTakes_121 rfl ?_
                      obtain ⟨h348, k⟩ := k
                      obtain ⟨h349, k⟩ := k
                      obtain ⟨k1, k2⟩ := k
                      refine x_lc_ge (tgt := 133) (pc2 := 128) dX8_qTakes_124 dX8_qTakes_125 (by decide) rfl h348 h349 (fun c350 => ?_) (fun c350 => ?_)
                      · replace k := k1 c350
                        refine x_aload_n (pc2 := 134) dX8_qTakes_133 rfl rfl ?_
                        refine x_iconst (pc2 := 135) dX8_qTakes_134 rfl ?_
                        refine x_putf (pc2 := 138) (x := 0) fl_X8_715 ft_8_120 ic_62 (pv_i _ ic_62 rfl) (pn_z (by decide)) dX8_qTakes_135 rfl ?_
                        exact x_return dX8_qTakes_138 rfl k
                      · replace k := k2 c350
                        refine x_aload_n (pc2 := 129) dX8_qTakes_128 rfl rfl ?_
                        refine x_lload_n (pc2 := 130) dX8_qTakes_129 rfl rfl ?_
                        refine x_putf (pc2 := 133) (x := l2) fl_X8_710 ft_8_119 ic_62 (pv_j _ ic_62 rfl) (pn_j _) dX8_qTakes_130 rfl ?_
                        refine x_aload_n (pc2 := 134) dX8_qTakes_133 rfl rfl ?_
                        refine x_iconst (pc2 := 135) dX8_qTakes_134 rfl ?_
                        refine x_putf (pc2 := 138) (x := 0) fl_X8_715 ft_8_120 ic_62 (pv_i _ ic_62 rfl) (pn_z (by decide)) dX8_qTakes_135 rfl ?_
                        exact x_return dX8_qTakes_138 rfl k
                    · replace k := k2 c347
                      refine x_lload_n (pc2 := 108) dX8_qTakes_107 rfl rfl ?_
                      refine x_aload_n (pc2 := 109) dX8_qTakes_108 rfl rfl ?_
                      refine x_getf (pc2 := 112) (v := aJ ((wr m 62 119 l4) 62 119)) fl_X8_710 ic_62 (fv_j _ ic_62 rfl) dX8_qTakes_109 rfl ?_
                      obtain ⟨h351, k⟩ := k
                      obtain ⟨h352, k⟩ := k
                      obtain ⟨k1, k2⟩ := k
                      refine x_lc_le (tgt := 133) (pc2 := 116) dX8_qTakes_112 dX8_qTakes_113 (by decide) rfl h351 h352 (fun c353 => ?_) (fun c353 => ?_)
                      · replace k := k1 c353
                        refine x_aload_n (pc2 := 134) dX8_qTakes_133 rfl rfl ?_
                        refine x_iconst (pc2 := 135) dX8_qTakes_134 rfl ?_
                        refine x_putf (pc2 := 138) (x := 0) fl_X8_715 ft_8_120 ic_62 (pv_i _ ic_62 rfl) (pn_z (by decide)) dX8_qTakes_135 rfl ?_
                        exact x_return dX8_qTakes_138 rfl k
                      · replace k := k2 c353
                        refine x_goto (tgt := 128) dX8_qTakes_116 (by decide) ?_
                        refine x_aload_n (pc2 := 129) dX8_qTakes_128 rfl rfl ?_
                        refine x_lload_n (pc2 := 130) dX8_qTakes_129 rfl rfl ?_
                        refine x_putf (pc2 := 133) (x := l2) fl_X8_710 ft_8_119 ic_62 (pv_j _ ic_62 rfl) (pn_j _) dX8_qTakes_130 rfl ?_
                        refine x_aload_n (pc2 := 134) dX8_qTakes_133 rfl rfl ?_
                        refine x_iconst (pc2 := 135) dX8_qTakes_134 rfl ?_
                        refine x_putf (pc2 := 138) (x := 0) fl_X8_715 ft_8_120 ic_62 (pv_i _ ic_62 rfl) (pn_z (by decide)) dX8_qTakes_135 rfl ?_
                        exact x_return dX8_qTakes_138 rfl k
              · replace k := k2 c343
                refine x_aload_n (pc2 := 81) dX8_qTakes_80 rfl rfl ?_
                refine x_dup_r (pc2 := 82) dX8_qTakes_81 rfl (by decide) ?_
                refine x_getf (pc2 := 85) (v := aJ ((wr m 62 119 l4) 62 119)) fl_X8_710 ic_62 (fv_j _ ic_62 rfl) dX8_qTakes_82 rfl ?_
                refine x_lload_n (pc2 := 86) dX8_qTakes_85 rfl rfl ?_
                refine x_ladd (pc2 := 87) dX8_qTakes_86 rfl ?_
                refine x_putf (pc2 := 90) (x := (((wr m 62 119 l4) 62 119) + l2)) fl_X8_710 ft_8_119 ic_62 (pv_j _ ic_62 rfl) (pn_j _) dX8_qTakes_87 rfl ?_
                refine x_iload_n (pc2 := 91) dX8_qTakes_90 rfl rfl ?_
                refine x_iconst (pc2 := 92) dX8_qTakes_91 rfl ?_
                obtain ⟨k1, k2⟩ := k
                refine x_icmp_le (tgt := 133) (pc2 := 95) dX8_qTakes_92 (by decide) rfl h5 (by decide) (fun c354 => ?_) (fun c354 => ?_)
                · replace k := k1 c354
                  refine x_aload_n (pc2 := 134) dX8_qTakes_133 rfl rfl ?_
                  refine x_iconst (pc2 := 135) dX8_qTakes_134 rfl ?_
                  refine x_putf (pc2 := 138) (x := 0) fl_X8_715 ft_8_120 ic_62 (pv_i _ ic_62 rfl) (pn_z (by decide)) dX8_qTakes_135 rfl ?_
                  exact x_return dX8_qTakes_138 rfl k
                · replace k := k2 c354
                  refine x_aload_n (pc2 := 96) dX8_qTakes_95 rfl rfl ?_
                  refine x_getf (pc2 := 99) (v := aI ((wr (wr m 62 119 l4) 62 119 (((wr m 62 119 l4) 62 119) + l2)) 62 120)) fl_X8_715 ic_62 (fv_i _ ic_62 rfl) dX8_qTakes_96 rfl ?_
                  obtain ⟨h355, k⟩ := k
                  obtain ⟨k1, k2⟩ := k
                  refine x_if_ne (tgt := 128) (pc2 := 102) dX8_qTakes_99 (by decide) rfl h355 (fun c356 => ?_) (fun c356 => ?_)
                  · replace k := k1 c356
                    refine x_aload_n (pc2 := 129) dX8_qTakes_128 rfl rfl ?_
                    refine x_lload_n (pc2 := 130) dX8_qTakes_129 rfl rfl ?_
                    refine x_putf (pc2 := 133) (x := l2) fl_X8_710 ft_8_119 ic_62 (pv_j _ ic_62 rfl) (pn_j _) dX8_qTakes_130 rfl ?_
                    refine x_aload_n (pc2 := 134) dX8_qTakes_133 rfl rfl ?_
                    refine x_iconst (pc2 := 135) dX8_qTakes_134 rfl ?_
                    refine x_putf (pc2 := 138) (x := 0) fl_X8_715 ft_8_120 ic_62 (pv_i _ ic_62 rfl) (pn_z (by decide)) dX8_qTakes_135 rfl ?_
                    exact x_return dX8_qTakes_138 rfl k
                  · replace k := k2 c356
                    refine x_iload_n (pc2 := 103) dX8_qTakes_102 rfl rfl ?_
                    refine x_iconst (pc2 := 104) dX8_qTakes_103 rfl ?_
                    obtain ⟨k1, k2⟩ := k
                    refine x_icmp_ne (tgt := 119) (pc2 := 107) dX8_qTakes_104 (by decide) rfl h5 (by decide) (fun c357 => ?_) (fun c357 => ?_)
                    · replace k := k1 c357
                      refine x_lload_n (pc2 := 120) dX8_qTakes_119 rfl rfl ?_
                      refine x_aload_n (pc2 := 121) dX8_qTakes_120 rfl rfl ?_
                      refine x_getf (pc2 := 124) (v := aJ ((wr (wr m 62 119 l4) 62 119 (((wr m 62 119 l4) 62 119) + l2)) 62 119)) fl_X8_710 ic_62 (fv_j _ ic_62 rfl) dX8_qTakes_121 rfl ?_
                      obtain ⟨h358, k⟩ := k
                      obtain ⟨h359, k⟩ := k
                      obtain ⟨k1, k2⟩ := k
                      refine x_lc_ge (tgt := 133) (pc2 := 128) dX8_qTakes_124 dX8_qTakes_125 (by decide) rfl h358 h359 (fun c360 => ?_) (fun c360 => ?_)
                      · replace k := k1 c360
                        refine x_aload_n (pc2 := 134) dX8_qTakes_133 rfl rfl ?_
                        refine x_iconst (pc2 := 135) dX8_qTakes_134 rfl ?_
                        refine x_putf (pc2 := 138) (x := 0) fl_X8_715 ft_8_120 ic_62 (pv_i _ ic_62 rfl) (pn_z (by decide)) dX8_qTakes_135 rfl ?_
                        exact x_return dX8_qTakes_138 rfl k
                      · replace k := k2 c360
                        refine x_aload_n (pc2 := 129) dX8_qTakes_128 rfl rfl ?_
                        refine x_lload_n (pc2 := 130) dX8_qTakes_129 rfl rfl ?_
                        refine x_putf (pc2 := 133) (x := l2) fl_X8_710 ft_8_119 ic_62 (pv_j _ ic_62 rfl) (pn_j _) dX8_qTakes_130 rfl ?_
                        refine x_aload_n (pc2 := 134) dX8_qTakes_133 rfl rfl ?_
                        refine x_iconst (pc2 := 135) dX8_qTakes_134 rfl ?_
                        refine x_putf (pc2 := 138) (x := 0) fl_X8_715 ft_8_120 ic_62 (pv_i _ ic_62 rfl) (pn_z (by decide)) dX8_qTakes_135 rfl ?_
                        exact x_return dX8_qTakes_138 rfl k
                    · replace k := k2 c357
                      refine x_lload_n (pc2 := 108) dX8_qTakes_107 rfl rfl ?_
                      refine x_aload_n (pc2 := 109) dX8_qTakes_108 rfl rfl ?_
                      refine x_getf (pc2 := 112) (v := aJ ((wr (wr m 62 119 l4) 62 119 (((wr m 62 119 l4) 62 119) + l2)) 62 119)) fl_X8_710 ic_62 (fv_j _ ic_62 rfl) dX8_qTakes_109 rfl ?_
                      obtain ⟨h361, k⟩ := k
                      obtain ⟨h362, k⟩ := k
                      obtain ⟨k1, k2⟩ := k
                      refine x_lc_le (tgt := 133) (pc2 := 116) dX8_qTakes_112 dX8_qTakes_113 (by decide) rfl h361 h362 (fun c363 => ?_) (fun c363 => ?_)
                      · replace k := k1 c363
                        refine x_aload_n (pc2 := 134) dX8_qTakes_133 rfl rfl ?_
                        refine x_iconst (pc2 := 135) dX8_qTakes_134 rfl ?_
                        refine x_putf (pc2 := 138) (x := 0) fl_X8_715 ft_8_120 ic_62 (pv_i _ ic_62 rfl) (pn_z (by decide)) dX8_qTakes_135 rfl ?_
                        exact x_return dX8_qTakes_138 rfl k
                      · replace k := k2 c363
                        refine x_goto (tgt := 128) dX8_qTakes_116 (by decide) ?_
                        refine x_aload_n (pc2 := 129) dX8_qTakes_128 rfl rfl ?_
                        refine x_lload_n (pc2 := 130) dX8_qTakes_129 rfl rfl ?_
                        refine x_putf (pc2 := 133) (x := l2) fl_X8_710 ft_8_119 ic_62 (pv_j _ ic_62 rfl) (pn_j _) dX8_qTakes_130 rfl ?_
                        refine x_aload_n (pc2 := 134) dX8_qTakes_133 rfl rfl ?_
                        refine x_iconst (pc2 := 135) dX8_qTakes_134 rfl ?_
                        refine x_putf (pc2 := 138) (x := 0) fl_X8_715 ft_8_120 ic_62 (pv_i _ ic_62 rfl) (pn_z (by decide)) dX8_qTakes_135 rfl ?_
                        exact x_return dX8_qTakes_138 rfl k
            · replace k := k2 c342
              refine x_iload (pc2 := 62) dX8_qTakes_60 rfl rfl ?_
              obtain ⟨k1, k2⟩ := k
              refine x_if_eq (tgt := 75) (pc2 := 65) dX8_qTakes_62 (by decide) rfl h207 (fun c364 => ?_) (fun c364 => ?_)
              · replace k := k1 c364
                refine x_iload_n (pc2 := 76) dX8_qTakes_75 rfl rfl ?_
                refine x_iconst (pc2 := 77) dX8_qTakes_76 rfl ?_
                obtain ⟨k1, k2⟩ := k
                refine x_icmp_ne (tgt := 90) (pc2 := 80) dX8_qTakes_77 (by decide) rfl h5 (by decide) (fun c365 => ?_) (fun c365 => ?_)
                · replace k := k1 c365
                  refine x_iload_n (pc2 := 91) dX8_qTakes_90 rfl rfl ?_
                  refine x_iconst (pc2 := 92) dX8_qTakes_91 rfl ?_
                  obtain ⟨k1, k2⟩ := k
                  refine x_icmp_le (tgt := 133) (pc2 := 95) dX8_qTakes_92 (by decide) rfl h5 (by decide) (fun c366 => ?_) (fun c366 => ?_)
                  · replace k := k1 c366
                    refine x_aload_n (pc2 := 134) dX8_qTakes_133 rfl rfl ?_
                    refine x_iconst (pc2 := 135) dX8_qTakes_134 rfl ?_
                    refine x_putf (pc2 := 138) (x := 0) fl_X8_715 ft_8_120 ic_62 (pv_i _ ic_62 rfl) (pn_z (by decide)) dX8_qTakes_135 rfl ?_
                    exact x_return dX8_qTakes_138 rfl k
                  · replace k := k2 c366
                    refine x_aload_n (pc2 := 96) dX8_qTakes_95 rfl rfl ?_
                    refine x_getf (pc2 := 99) (v := aI ((wr m 62 119 l4) 62 120)) fl_X8_715 ic_62 (fv_i _ ic_62 rfl) dX8_qTakes_96 rfl ?_
                    obtain ⟨h367, k⟩ := k
                    obtain ⟨k1, k2⟩ := k
                    refine x_if_ne (tgt := 128) (pc2 := 102) dX8_qTakes_99 (by decide) rfl h367 (fun c368 => ?_) (fun c368 => ?_)
                    · replace k := k1 c368
                      refine x_aload_n (pc2 := 129) dX8_qTakes_128 rfl rfl ?_
                      refine x_lload_n (pc2 := 130) dX8_qTakes_129 rfl rfl ?_
                      refine x_putf (pc2 := 133) (x := l2) fl_X8_710 ft_8_119 ic_62 (pv_j _ ic_62 rfl) (pn_j _) dX8_qTakes_130 rfl ?_
                      refine x_aload_n (pc2 := 134) dX8_qTakes_133 rfl rfl ?_
                      refine x_iconst (pc2 := 135) dX8_qTakes_134 rfl ?_
                      refine x_putf (pc2 := 138) (x := 0) fl_X8_715 ft_8_120 ic_62 (pv_i _ ic_62 rfl) (pn_z (by decide)) dX8_qTakes_135 rfl ?_
                      exact x_return dX8_qTakes_138 rfl k
                    · replace k := k2 c368
                      refine x_iload_n (pc2 := 103) dX8_qTakes_102 rfl rfl ?_
                      refine x_iconst (pc2 := 104) dX8_qTakes_103 rfl ?_
                      obtain ⟨k1, k2⟩ := k
                      refine x_icmp_ne (tgt := 119) (pc2 := 107) dX8_qTakes_104 (by decide) rfl h5 (by decide) (fun c369 => ?_) (fun c369 => ?_)
                      · replace k := k1 c369
                        refine x_lload_n (pc2 := 120) dX8_qTakes_119 rfl rfl ?_
                        refine x_aload_n (pc2 := 121) dX8_qTakes_120 rfl rfl ?_
                        refine x_getf (pc2 := 124) (v := aJ ((wr m 62 119 l4) 62 119)) fl_X8_710 ic_62 (fv_j _ ic_62 rfl) dX8_qTakes_121 rfl ?_
                        obtain ⟨h370, k⟩ := k
                        obtain ⟨h371, k⟩ := k
                        obtain ⟨k1, k2⟩ := k
                        refine x_lc_ge (tgt := 133) (pc2 := 128) dX8_qTakes_124 dX8_qTakes_125 (by decide) rfl h370 h371 (fun c372 => ?_) (fun c372 => ?_)
                        · replace k := k1 c372
                          refine x_aload_n (pc2 := 134) dX8_qTakes_133 rfl rfl ?_
                          refine x_iconst (pc2 := 135) dX8_qTakes_134 rfl ?_
                          refine x_putf (pc2 := 138) (x := 0) fl_X8_715 ft_8_120 ic_62 (pv_i _ ic_62 rfl) (pn_z (by decide)) dX8_qTakes_135 rfl ?_
                          exact x_return dX8_qTakes_138 rfl k
                        · replace k := k2 c372
                          refine x_aload_n (pc2 := 129) dX8_qTakes_128 rfl rfl ?_
                          refine x_lload_n (pc2 := 130) dX8_qTakes_129 rfl rfl ?_
                          refine x_putf (pc2 := 133) (x := l2) fl_X8_710 ft_8_119 ic_62 (pv_j _ ic_62 rfl) (pn_j _) dX8_qTakes_130 rfl ?_
                          refine x_aload_n (pc2 := 134) dX8_qTakes_133 rfl rfl ?_
                          refine x_iconst (pc2 := 135) dX8_qTakes_134 rfl ?_
                          refine x_putf (pc2 := 138) (x := 0) fl_X8_715 ft_8_120 ic_62 (pv_i _ ic_62 rfl) (pn_z (by decide)) dX8_qTakes_135 rfl ?_
                          exact x_return dX8_qTakes_138 rfl k
                      · replace k := k2 c369
                        refine x_lload_n (pc2 := 108) dX8_qTakes_107 rfl rfl ?_
                        refine x_aload_n (pc2 := 109) dX8_qTakes_108 rfl rfl ?_
                        refine x_getf (pc2 := 112) (v := aJ ((wr m 62 119 l4) 62 119)) fl_X8_710 ic_62 (fv_j _ ic_62 rfl) dX8_qTakes_109 rfl ?_
                        obtain ⟨h373, k⟩ := k
                        obtain ⟨h374, k⟩ := k
                        obtain ⟨k1, k2⟩ := k
                        refine x_lc_le (tgt := 133) (pc2 := 116) dX8_qTakes_112 dX8_qTakes_113 (by decide) rfl h373 h374 (fun c375 => ?_) (fun c375 => ?_)
                        · replace k := k1 c375
                          refine x_aload_n (pc2 := 134) dX8_qTakes_133 rfl rfl ?_
                          refine x_iconst (pc2 := 135) dX8_qTakes_134 rfl ?_
                          refine x_putf (pc2 := 138) (x := 0) fl_X8_715 ft_8_120 ic_62 (pv_i _ ic_62 rfl) (pn_z (by decide)) dX8_qTakes_135 rfl ?_
                          exact x_return dX8_qTakes_138 rfl k
                        · replace k := k2 c375
                          refine x_goto (tgt := 128) dX8_qTakes_116 (by decide) ?_
                          refine x_aload_n (pc2 := 129) dX8_qTakes_128 rfl rfl ?_
                          refine x_lload_n (pc2 := 130) dX8_qTakes_129 rfl rfl ?_
                          refine x_putf (pc2 := 133) (x := l2) fl_X8_710 ft_8_119 ic_62 (pv_j _ ic_62 rfl) (pn_j _) dX8_qTakes_130 rfl ?_
                          refine x_aload_n (pc2 := 134) dX8_qTakes_133 rfl rfl ?_
                          refine x_iconst (pc2 := 135) dX8_qTakes_134 rfl ?_
                          refine x_putf (pc2 := 138) (x := 0) fl_X8_715 ft_8_120 ic_62 (pv_i _ ic_62 rfl) (pn_z (by decide)) dX8_qTakes_135 rfl ?_
                          exact x_return dX8_qTakes_138 rfl k
                · replace k := k2 c365
                  refine x_aload_n (pc2 := 81) dX8_qTakes_80 rfl rfl ?_
                  refine x_dup_r (pc2 := 82) dX8_qTakes_81 rfl (by decide) ?_
                  refine x_getf (pc2 := 85) (v := aJ ((wr m 62 119 l4) 62 119)) fl_X8_710 ic_62 (fv_j _ ic_62 rfl) dX8_qTakes_82 rfl ?_
                  refine x_lload_n (pc2 := 86) dX8_qTakes_85 rfl rfl ?_
                  refine x_ladd (pc2 := 87) dX8_qTakes_86 rfl ?_
                  refine x_putf (pc2 := 90) (x := (((wr m 62 119 l4) 62 119) + l2)) fl_X8_710 ft_8_119 ic_62 (pv_j _ ic_62 rfl) (pn_j _) dX8_qTakes_87 rfl ?_
                  refine x_iload_n (pc2 := 91) dX8_qTakes_90 rfl rfl ?_
                  refine x_iconst (pc2 := 92) dX8_qTakes_91 rfl ?_
                  obtain ⟨k1, k2⟩ := k
                  refine x_icmp_le (tgt := 133) (pc2 := 95) dX8_qTakes_92 (by decide) rfl h5 (by decide) (fun c376 => ?_) (fun c376 => ?_)
                  · replace k := k1 c376
                    refine x_aload_n (pc2 := 134) dX8_qTakes_133 rfl rfl ?_
                    refine x_iconst (pc2 := 135) dX8_qTakes_134 rfl ?_
                    refine x_putf (pc2 := 138) (x := 0) fl_X8_715 ft_8_120 ic_62 (pv_i _ ic_62 rfl) (pn_z (by decide)) dX8_qTakes_135 rfl ?_
                    exact x_return dX8_qTakes_138 rfl k
                  · replace k := k2 c376
                    refine x_aload_n (pc2 := 96) dX8_qTakes_95 rfl rfl ?_
                    refine x_getf (pc2 := 99) (v := aI ((wr (wr m 62 119 l4) 62 119 (((wr m 62 119 l4) 62 119) + l2)) 62 120)) fl_X8_715 ic_62 (fv_i _ ic_62 rfl) dX8_qTakes_96 rfl ?_
                    obtain ⟨h377, k⟩ := k
                    obtain ⟨k1, k2⟩ := k
                    refine x_if_ne (tgt := 128) (pc2 := 102) dX8_qTakes_99 (by decide) rfl h377 (fun c378 => ?_) (fun c378 => ?_)
                    · replace k := k1 c378
                      refine x_aload_n (pc2 := 129) dX8_qTakes_128 rfl rfl ?_
                      refine x_lload_n (pc2 := 130) dX8_qTakes_129 rfl rfl ?_
                      refine x_putf (pc2 := 133) (x := l2) fl_X8_710 ft_8_119 ic_62 (pv_j _ ic_62 rfl) (pn_j _) dX8_qTakes_130 rfl ?_
                      refine x_aload_n (pc2 := 134) dX8_qTakes_133 rfl rfl ?_
                      refine x_iconst (pc2 := 135) dX8_qTakes_134 rfl ?_
                      refine x_putf (pc2 := 138) (x := 0) fl_X8_715 ft_8_120 ic_62 (pv_i _ ic_62 rfl) (pn_z (by decide)) dX8_qTakes_135 rfl ?_
                      exact x_return dX8_qTakes_138 rfl k
                    · replace k := k2 c378
                      refine x_iload_n (pc2 := 103) dX8_qTakes_102 rfl rfl ?_
                      refine x_iconst (pc2 := 104) dX8_qTakes_103 rfl ?_
                      obtain ⟨k1, k2⟩ := k
                      refine x_icmp_ne (tgt := 119) (pc2 := 107) dX8_qTakes_104 (by decide) rfl h5 (by decide) (fun c379 => ?_) (fun c379 => ?_)
                      · replace k := k1 c379
                        refine x_lload_n (pc2 := 120) dX8_qTakes_119 rfl rfl ?_
                        refine x_aload_n (pc2 := 121) dX8_qTakes_120 rfl rfl ?_
                        refine x_getf (pc2 := 124) (v := aJ ((wr (wr m 62 119 l4) 62 119 (((wr m 62 119 l4) 62 119) + l2)) 62 119)) fl_X8_710 ic_62 (fv_j _ ic_62 rfl) dX8_qTakes_121 rfl ?_
                        obtain ⟨h380, k⟩ := k
                        obtain ⟨h381, k⟩ := k
                        obtain ⟨k1, k2⟩ := k
                        refine x_lc_ge (tgt := 133) (pc2 := 128) dX8_qTakes_124 dX8_qTakes_125 (by decide) rfl h380 h381 (fun c382 => ?_) (fun c382 => ?_)
                        · replace k := k1 c382
                          refine x_aload_n (pc2 := 134) dX8_qTakes_133 rfl rfl ?_
                          refine x_iconst (pc2 := 135) dX8_qTakes_134 rfl ?_
                          refine x_putf (pc2 := 138) (x := 0) fl_X8_715 ft_8_120 ic_62 (pv_i _ ic_62 rfl) (pn_z (by decide)) dX8_qTakes_135 rfl ?_
                          exact x_return dX8_qTakes_138 rfl k
                        · replace k := k2 c382
                          refine x_aload_n (pc2 := 129) dX8_qTakes_128 rfl rfl ?_
                          refine x_lload_n (pc2 := 130) dX8_qTakes_129 rfl rfl ?_
                          refine x_putf (pc2 := 133) (x := l2) fl_X8_710 ft_8_119 ic_62 (pv_j _ ic_62 rfl) (pn_j _) dX8_qTakes_130 rfl ?_
                          refine x_aload_n (pc2 := 134) dX8_qTakes_133 rfl rfl ?_
                          refine x_iconst (pc2 := 135) dX8_qTakes_134 rfl ?_
                          refine x_putf (pc2 := 138) (x := 0) fl_X8_715 ft_8_120 ic_62 (pv_i _ ic_62 rfl) (pn_z (by decide)) dX8_qTakes_135 rfl ?_
                          exact x_return dX8_qTakes_138 rfl k
                      · replace k := k2 c379
                        refine x_lload_n (pc2 := 108) dX8_qTakes_107 rfl rfl ?_
                        refine x_aload_n (pc2 := 109) dX8_qTakes_108 rfl rfl ?_
                        refine x_getf (pc2 := 112) (v := aJ ((wr (wr m 62 119 l4) 62 119 (((wr m 62 119 l4) 62 119) + l2)) 62 119)) fl_X8_710 ic_62 (fv_j _ ic_62 rfl) dX8_qTakes_109 rfl ?_
                        obtain ⟨h383, k⟩ := k
                        obtain ⟨h384, k⟩ := k
                        obtain ⟨k1, k2⟩ := k
                        refine x_lc_le (tgt := 133) (pc2 := 116) dX8_qTakes_112 dX8_qTakes_113 (by decide) rfl h383 h384 (fun c385 => ?_) (fun c385 => ?_)
                        · replace k := k1 c385
                          refine x_aload_n (pc2 := 134) dX8_qTakes_133 rfl rfl ?_
                          refine x_iconst (pc2 := 135) dX8_qTakes_134 rfl ?_
                          refine x_putf (pc2 := 138) (x := 0) fl_X8_715 ft_8_120 ic_62 (pv_i _ ic_62 rfl) (pn_z (by decide)) dX8_qTakes_135 rfl ?_
                          exact x_return dX8_qTakes_138 rfl k
                        · replace k := k2 c385
                          refine x_goto (tgt := 128) dX8_qTakes_116 (by decide) ?_
                          refine x_aload_n (pc2 := 129) dX8_qTakes_128 rfl rfl ?_
                          refine x_lload_n (pc2 := 130) dX8_qTakes_129 rfl rfl ?_
                          refine x_putf (pc2 := 133) (x := l2) fl_X8_710 ft_8_119 ic_62 (pv_j _ ic_62 rfl) (pn_j _) dX8_qTakes_130 rfl ?_
                          refine x_aload_n (pc2 := 134) dX8_qTakes_133 rfl rfl ?_
                          refine x_iconst (pc2 := 135) dX8_qTakes_134 rfl ?_
                          refine x_putf (pc2 := 138) (x := 0) fl_X8_715 ft_8_120 ic_62 (pv_i _ ic_62 rfl) (pn_z (by decide)) dX8_qTakes_135 rfl ?_
                          exact x_return dX8_qTakes_138 rfl k
              · replace k := k2 c364
                refine x_aload_n (pc2 := 66) dX8_qTakes_65 rfl rfl ?_
                refine x_dup_r (pc2 := 67) dX8_qTakes_66 rfl (by decide) ?_
                refine x_getf (pc2 := 70) (v := aJ ((wr m 62 119 l4) 62 119)) fl_X8_710 ic_62 (fv_j _ ic_62 rfl) dX8_qTakes_67 rfl ?_
                refine x_lconst (pc2 := 71) (v := 1) dX8_qTakes_70 rfl rfl ?_
                refine x_ladd (pc2 := 72) dX8_qTakes_71 rfl ?_
                refine x_putf (pc2 := 75) (x := (((wr m 62 119 l4) 62 119) + 1)) fl_X8_710 ft_8_119 ic_62 (pv_j _ ic_62 rfl) (pn_j _) dX8_qTakes_72 rfl ?_
                refine x_iload_n (pc2 := 76) dX8_qTakes_75 rfl rfl ?_
                refine x_iconst (pc2 := 77) dX8_qTakes_76 rfl ?_
                obtain ⟨k1, k2⟩ := k
                refine x_icmp_ne (tgt := 90) (pc2 := 80) dX8_qTakes_77 (by decide) rfl h5 (by decide) (fun c386 => ?_) (fun c386 => ?_)
                · replace k := k1 c386
                  refine x_iload_n (pc2 := 91) dX8_qTakes_90 rfl rfl ?_
                  refine x_iconst (pc2 := 92) dX8_qTakes_91 rfl ?_
                  obtain ⟨k1, k2⟩ := k
                  refine x_icmp_le (tgt := 133) (pc2 := 95) dX8_qTakes_92 (by decide) rfl h5 (by decide) (fun c387 => ?_) (fun c387 => ?_)
                  · replace k := k1 c387
                    refine x_aload_n (pc2 := 134) dX8_qTakes_133 rfl rfl ?_
                    refine x_iconst (pc2 := 135) dX8_qTakes_134 rfl ?_
                    refine x_putf (pc2 := 138) (x := 0) fl_X8_715 ft_8_120 ic_62 (pv_i _ ic_62 rfl) (pn_z (by decide)) dX8_qTakes_135 rfl ?_
                    exact x_return dX8_qTakes_138 rfl k
                  · replace k := k2 c387
                    refine x_aload_n (pc2 := 96) dX8_qTakes_95 rfl rfl ?_
                    refine x_getf (pc2 := 99) (v := aI ((wr (wr m 62 119 l4) 62 119 (((wr m 62 119 l4) 62 119) + 1)) 62 120)) fl_X8_715 ic_62 (fv_i _ ic_62 rfl) dX8_qTakes_96 rfl ?_
                    obtain ⟨h388, k⟩ := k
                    obtain ⟨k1, k2⟩ := k
                    refine x_if_ne (tgt := 128) (pc2 := 102) dX8_qTakes_99 (by decide) rfl h388 (fun c389 => ?_) (fun c389 => ?_)
                    · replace k := k1 c389
                      refine x_aload_n (pc2 := 129) dX8_qTakes_128 rfl rfl ?_
                      refine x_lload_n (pc2 := 130) dX8_qTakes_129 rfl rfl ?_
                      refine x_putf (pc2 := 133) (x := l2) fl_X8_710 ft_8_119 ic_62 (pv_j _ ic_62 rfl) (pn_j _) dX8_qTakes_130 rfl ?_
                      refine x_aload_n (pc2 := 134) dX8_qTakes_133 rfl rfl ?_
                      refine x_iconst (pc2 := 135) dX8_qTakes_134 rfl ?_
                      refine x_putf (pc2 := 138) (x := 0) fl_X8_715 ft_8_120 ic_62 (pv_i _ ic_62 rfl) (pn_z (by decide)) dX8_qTakes_135 rfl ?_
                      exact x_return dX8_qTakes_138 rfl k
                    · replace k := k2 c389
                      refine x_iload_n (pc2 := 103) dX8_qTakes_102 rfl rfl ?_
                      refine x_iconst (pc2 := 104) dX8_qTakes_103 rfl ?_
                      obtain ⟨k1, k2⟩ := k
                      refine x_icmp_ne (tgt := 119) (pc2 := 107) dX8_qTakes_104 (by decide) rfl h5 (by decide) (fun c390 => ?_) (fun c390 => ?_)
                      · replace k := k1 c390
                        refine x_lload_n (pc2 := 120) dX8_qTakes_119 rfl rfl ?_
                        refine x_aload_n (pc2 := 121) dX8_qTakes_120 rfl rfl ?_
                        refine x_getf (pc2 := 124) (v := aJ ((wr (wr m 62 119 l4) 62 119 (((wr m 62 119 l4) 62 119) + 1)) 62 119)) fl_X8_710 ic_62 (fv_j _ ic_62 rfl) dX8_qTakes_121 rfl ?_
                        obtain ⟨h391, k⟩ := k
                        obtain ⟨h392, k⟩ := k
                        obtain ⟨k1, k2⟩ := k
                        refine x_lc_ge (tgt := 133) (pc2 := 128) dX8_qTakes_124 dX8_qTakes_125 (by decide) rfl h391 h392 (fun c393 => ?_) (fun c393 => ?_)
                        · replace k := k1 c393
                          refine x_aload_n (pc2 := 134) dX8_qTakes_133 rfl rfl ?_
                          refine x_iconst (pc2 := 135) dX8_qTakes_134 rfl ?_
                          refine x_putf (pc2 := 138) (x := 0) fl_X8_715 ft_8_120 ic_62 (pv_i _ ic_62 rfl) (pn_z (by decide)) dX8_qTakes_135 rfl ?_
                          exact x_return dX8_qTakes_138 rfl k
                        · replace k := k2 c393
                          refine x_aload_n (pc2 := 129) dX8_qTakes_128 rfl rfl ?_
                          refine x_lload_n (pc2 := 130) dX8_qTakes_129 rfl rfl ?_
                          refine x_putf (pc2 := 133) (x := l2) fl_X8_710 ft_8_119 ic_62 (pv_j _ ic_62 rfl) (pn_j _) dX8_qTakes_130 rfl ?_
                          refine x_aload_n (pc2 := 134) dX8_qTakes_133 rfl rfl ?_
                          refine x_iconst (pc2 := 135) dX8_qTakes_134 rfl ?_
                          refine x_putf (pc2 := 138) (x := 0) fl_X8_715 ft_8_120 ic_62 (pv_i _ ic_62 rfl) (pn_z (by decide)) dX8_qTakes_135 rfl ?_
                          exact x_return dX8_qTakes_138 rfl k
                      · replace k := k2 c390
                        refine x_lload_n (pc2 := 108) dX8_qTakes_107 rfl rfl ?_
                        refine x_aload_n (pc2 := 109) dX8_qTakes_108 rfl rfl ?_
                        refine x_getf (pc2 := 112) (v := aJ ((wr (wr m 62 119 l4) 62 119 (((wr m 62 119 l4) 62 119) + 1)) 62 119)) fl_X8_710 ic_62 (fv_j _ ic_62 rfl) dX8_qTakes_109 rfl ?_
                        obtain ⟨h394, k⟩ := k
                        obtain ⟨h395, k⟩ := k
                        obtain ⟨k1, k2⟩ := k
                        refine x_lc_le (tgt := 133) (pc2 := 116) dX8_qTakes_112 dX8_qTakes_113 (by decide) rfl h394 h395 (fun c396 => ?_) (fun c396 => ?_)
                        · replace k := k1 c396
                          refine x_aload_n (pc2 := 134) dX8_qTakes_133 rfl rfl ?_
                          refine x_iconst (pc2 := 135) dX8_qTakes_134 rfl ?_
                          refine x_putf (pc2 := 138) (x := 0) fl_X8_715 ft_8_120 ic_62 (pv_i _ ic_62 rfl) (pn_z (by decide)) dX8_qTakes_135 rfl ?_
                          exact x_return dX8_qTakes_138 rfl k
                        · replace k := k2 c396
                          refine x_goto (tgt := 128) dX8_qTakes_116 (by decide) ?_
                          refine x_aload_n (pc2 := 129) dX8_qTakes_128 rfl rfl ?_
                          refine x_lload_n (pc2 := 130) dX8_qTakes_129 rfl rfl ?_
                          refine x_putf (pc2 := 133) (x := l2) fl_X8_710 ft_8_119 ic_62 (pv_j _ ic_62 rfl) (pn_j _) dX8_qTakes_130 rfl ?_
                          refine x_aload_n (pc2 := 134) dX8_qTakes_133 rfl rfl ?_
                          refine x_iconst (pc2 := 135) dX8_qTakes_134 rfl ?_
                          refine x_putf (pc2 := 138) (x := 0) fl_X8_715 ft_8_120 ic_62 (pv_i _ ic_62 rfl) (pn_z (by decide)) dX8_qTakes_135 rfl ?_
                          exact x_return dX8_qTakes_138 rfl k
                · replace k := k2 c386
                  refine x_aload_n (pc2 := 81) dX8_qTakes_80 rfl rfl ?_
                  refine x_dup_r (pc2 := 82) dX8_qTakes_81 rfl (by decide) ?_
                  refine x_getf (pc2 := 85) (v := aJ ((wr (wr m 62 119 l4) 62 119 (((wr m 62 119 l4) 62 119) + 1)) 62 119)) fl_X8_710 ic_62 (fv_j _ ic_62 rfl) dX8_qTakes_82 rfl ?_
                  refine x_lload_n (pc2 := 86) dX8_qTakes_85 rfl rfl ?_
                  refine x_ladd (pc2 := 87) dX8_qTakes_86 rfl ?_
                  refine x_putf (pc2 := 90) (x := (((wr (wr m 62 119 l4) 62 119 (((wr m 62 119 l4) 62 119) + 1)) 62 119) + l2)) fl_X8_710 ft_8_119 ic_62 (pv_j _ ic_62 rfl) (pn_j _) dX8_qTakes_87 rfl ?_
                  refine x_iload_n (pc2 := 91) dX8_qTakes_90 rfl rfl ?_
                  refine x_iconst (pc2 := 92) dX8_qTakes_91 rfl ?_
                  obtain ⟨k1, k2⟩ := k
                  refine x_icmp_le (tgt := 133) (pc2 := 95) dX8_qTakes_92 (by decide) rfl h5 (by decide) (fun c397 => ?_) (fun c397 => ?_)
                  · replace k := k1 c397
                    refine x_aload_n (pc2 := 134) dX8_qTakes_133 rfl rfl ?_
                    refine x_iconst (pc2 := 135) dX8_qTakes_134 rfl ?_
                    refine x_putf (pc2 := 138) (x := 0) fl_X8_715 ft_8_120 ic_62 (pv_i _ ic_62 rfl) (pn_z (by decide)) dX8_qTakes_135 rfl ?_
                    exact x_return dX8_qTakes_138 rfl k
                  · replace k := k2 c397
                    refine x_aload_n (pc2 := 96) dX8_qTakes_95 rfl rfl ?_
                    refine x_getf (pc2 := 99) (v := aI ((wr (wr (wr m 62 119 l4) 62 119 (((wr m 62 119 l4) 62 119) + 1)) 62 119 (((wr (wr m 62 119 l4) 62 119 (((wr m 62 119 l4) 62 119) + 1)) 62 119) + l2)) 62 120)) fl_X8_715 ic_62 (fv_i _ ic_62 rfl) dX8_qTakes_96 rfl ?_
                    obtain ⟨h398, k⟩ := k
                    obtain ⟨k1, k2⟩ := k
                    refine x_if_ne (tgt := 128) (pc2 := 102) dX8_qTakes_99 (by decide) rfl h398 (fun c399 => ?_) (fun c399 => ?_)
                    · replace k := k1 c399
                      refine x_aload_n (pc2 := 129) dX8_qTakes_128 rfl rfl ?_
                      refine x_lload_n (pc2 := 130) dX8_qTakes_129 rfl rfl ?_
                      refine x_putf (pc2 := 133) (x := l2) fl_X8_710 ft_8_119 ic_62 (pv_j _ ic_62 rfl) (pn_j _) dX8_qTakes_130 rfl ?_
                      refine x_aload_n (pc2 := 134) dX8_qTakes_133 rfl rfl ?_
                      refine x_iconst (pc2 := 135) dX8_qTakes_134 rfl ?_
                      refine x_putf (pc2 := 138) (x := 0) fl_X8_715 ft_8_120 ic_62 (pv_i _ ic_62 rfl) (pn_z (by decide)) dX8_qTakes_135 rfl ?_
                      exact x_return dX8_qTakes_138 rfl k
                    · replace k := k2 c399
                      refine x_iload_n (pc2 := 103) dX8_qTakes_102 rfl rfl ?_
                      refine x_iconst (pc2 := 104) dX8_qTakes_103 rfl ?_
                      obtain ⟨k1, k2⟩ := k
                      refine x_icmp_ne (tgt := 119) (pc2 := 107) dX8_qTakes_104 (by decide) rfl h5 (by decide) (fun c400 => ?_) (fun c400 => ?_)
                      · replace k := k1 c400
                        refine x_lload_n (pc2 := 120) dX8_qTakes_119 rfl rfl ?_
                        refine x_aload_n (pc2 := 121) dX8_qTakes_120 rfl rfl ?_
                        refine x_getf (pc2 := 124) (v := aJ ((wr (wr (wr m 62 119 l4) 62 119 (((wr m 62 119 l4) 62 119) + 1)) 62 119 (((wr (wr m 62 119 l4) 62 119 (((wr m 62 119 l4) 62 119) + 1)) 62 119) + l2)) 62 119)) fl_X8_710 ic_62 (fv_j _ ic_62 rfl) dX8_qTakes_121 rfl ?_
                        obtain ⟨h401, k⟩ := k
                        obtain ⟨h402, k⟩ := k
                        obtain ⟨k1, k2⟩ := k
                        refine x_lc_ge (tgt := 133) (pc2 := 128) dX8_qTakes_124 dX8_qTakes_125 (by decide) rfl h401 h402 (fun c403 => ?_) (fun c403 => ?_)
                        · replace k := k1 c403
                          refine x_aload_n (pc2 := 134) dX8_qTakes_133 rfl rfl ?_
                          refine x_iconst (pc2 := 135) dX8_qTakes_134 rfl ?_
                          refine x_putf (pc2 := 138) (x := 0) fl_X8_715 ft_8_120 ic_62 (pv_i _ ic_62 rfl) (pn_z (by decide)) dX8_qTakes_135 rfl ?_
                          exact x_return dX8_qTakes_138 rfl k
                        · replace k := k2 c403
                          refine x_aload_n (pc2 := 129) dX8_qTakes_128 rfl rfl ?_
                          refine x_lload_n (pc2 := 130) dX8_qTakes_129 rfl rfl ?_
                          refine x_putf (pc2 := 133) (x := l2) fl_X8_710 ft_8_119 ic_62 (pv_j _ ic_62 rfl) (pn_j _) dX8_qTakes_130 rfl ?_
                          refine x_aload_n (pc2 := 134) dX8_qTakes_133 rfl rfl ?_
                          refine x_iconst (pc2 := 135) dX8_qTakes_134 rfl ?_
                          refine x_putf (pc2 := 138) (x := 0) fl_X8_715 ft_8_120 ic_62 (pv_i _ ic_62 rfl) (pn_z (by decide)) dX8_qTakes_135 rfl ?_
                          exact x_return dX8_qTakes_138 rfl k
                      · replace k := k2 c400
                        refine x_lload_n (pc2 := 108) dX8_qTakes_107 rfl rfl ?_
                        refine x_aload_n (pc2 := 109) dX8_qTakes_108 rfl rfl ?_
                        refine x_getf (pc2 := 112) (v := aJ ((wr (wr (wr m 62 119 l4) 62 119 (((wr m 62 119 l4) 62 119) + 1)) 62 119 (((wr (wr m 62 119 l4) 62 119 (((wr m 62 119 l4) 62 119) + 1)) 62 119) + l2)) 62 119)) fl_X8_710 ic_62 (fv_j _ ic_62 rfl) dX8_qTakes_109 rfl ?_
                        obtain ⟨h404, k⟩ := k
                        obtain ⟨h405, k⟩ := k
                        obtain ⟨k1, k2⟩ := k
                        refine x_lc_le (tgt := 133) (pc2 := 116) dX8_qTakes_112 dX8_qTakes_113 (by decide) rfl h404 h405 (fun c406 => ?_) (fun c406 => ?_)
                        · replace k := k1 c406
                          refine x_aload_n (pc2 := 134) dX8_qTakes_133 rfl rfl ?_
                          refine x_iconst (pc2 := 135) dX8_qTakes_134 rfl ?_
                          refine x_putf (pc2 := 138) (x := 0) fl_X8_715 ft_8_120 ic_62 (pv_i _ ic_62 rfl) (pn_z (by decide)) dX8_qTakes_135 rfl ?_
                          exact x_return dX8_qTakes_138 rfl k
                        · replace k := k2 c406
                          refine x_goto (tgt := 128) dX8_qTakes_116 (by decide) ?_
                          refine x_aload_n (pc2 := 129) dX8_qTakes_128 rfl rfl ?_
                          refine x_lload_n (pc2 := 130) dX8_qTakes_129 rfl rfl ?_
                          refine x_putf (pc2 := 133) (x := l2) fl_X8_710 ft_8_119 ic_62 (pv_j _ ic_62 rfl) (pn_j _) dX8_qTakes_130 rfl ?_
                          refine x_aload_n (pc2 := 134) dX8_qTakes_133 rfl rfl ?_
                          refine x_iconst (pc2 := 135) dX8_qTakes_134 rfl ?_
                          refine x_putf (pc2 := 138) (x := 0) fl_X8_715 ft_8_120 ic_62 (pv_i _ ic_62 rfl) (pn_z (by decide)) dX8_qTakes_135 rfl ?_
                          exact x_return dX8_qTakes_138 rfl k
      · replace k := k2 c208
        refine x_aload_n (pc2 := 28) dX8_qTakes_27 rfl rfl ?_
        refine x_getf (pc2 := 31) (v := aJ (m 62 119)) fl_X8_710 ic_62 (fv_j _ ic_62 rfl) dX8_qTakes_28 rfl ?_
        refine x_ldc2 (pc2 := 34) (x := (-1)) kc_X8_713 rfl dX8_qTakes_31 rfl ?_
        obtain ⟨h407, k⟩ := k
        obtain ⟨k1, k2⟩ := k
        refine x_lc_eq (tgt := 48) (pc2 := 38) dX8_qTakes_34 dX8_qTakes_35 (by decide) rfl h407 (by decide) (fun c408 => ?_) (fun c408 => ?_)
        · replace k := k1 c408
          refine x_aload_n (pc2 := 49) dX8_qTakes_48 rfl rfl ?_
          refine x_iload (pc2 := 51) dX8_qTakes_49 rfl rfl ?_
          obtain ⟨h409, k⟩ := k
          refine x_i2l (pc2 := 52) dX8_qTakes_51 rfl h409 ?_
          refine x_putf (pc2 := 55) (x := l4) fl_X8_710 ft_8_119 ic_62 (pv_j _ ic_62 rfl) (pn_j _) dX8_qTakes_52 rfl ?_
          refine x_iload_n (pc2 := 56) dX8_qTakes_55 rfl rfl ?_
          refine x_iconst (pc2 := 57) dX8_qTakes_56 rfl ?_
          obtain ⟨k1, k2⟩ := k
          refine x_icmp_ne (tgt := 75) (pc2 := 60) dX8_qTakes_57 (by decide) rfl h5 (by decide) (fun c410 => ?_) (fun c410 => ?_)
          · replace k := k1 c410
            refine x_iload_n (pc2 := 76) dX8_qTakes_75 rfl rfl ?_
            refine x_iconst (pc2 := 77) dX8_qTakes_76 rfl ?_
            obtain ⟨k1, k2⟩ := k
            refine x_icmp_ne (tgt := 90) (pc2 := 80) dX8_qTakes_77 (by decide) rfl h5 (by decide) (fun c411 => ?_) (fun c411 => ?_)
            · replace k := k1 c411
              refine x_iload_n (pc2 := 91) dX8_qTakes_90 rfl rfl ?_
              refine x_iconst (pc2 := 92) dX8_qTakes_91 rfl ?_
              obtain ⟨k1, k2⟩ := k
              refine x_icmp_le (tgt := 133) (pc2 := 95) dX8_qTakes_92 (by decide) rfl h5 (by decide) (fun c412 => ?_) (fun c412 => ?_)
              · replace k := k1 c412
                refine x_aload_n (pc2 := 134) dX8_qTakes_133 rfl rfl ?_
                refine x_iconst (pc2 := 135) dX8_qTakes_134 rfl ?_
                refine x_putf (pc2 := 138) (x := 0) fl_X8_715 ft_8_120 ic_62 (pv_i _ ic_62 rfl) (pn_z (by decide)) dX8_qTakes_135 rfl ?_
                exact x_return dX8_qTakes_138 rfl k
              · replace k := k2 c412
                refine x_aload_n (pc2 := 96) dX8_qTakes_95 rfl rfl ?_
                refine x_getf (pc2 := 99) (v := aI ((wr m 62 119 l4) 62 120)) fl_X8_715 ic_62 (fv_i _ ic_62 rfl) dX8_qTakes_96 rfl ?_
                obtain ⟨h413, k⟩ := k
                obtain ⟨k1, k2⟩ := k
                refine x_if_ne (tgt := 128) (pc2 := 102) dX8_qTakes_99 (by decide) rfl h413 (fun c414 => ?_) (fun c414 => ?_)
                · replace k := k1 c414
                  refine x_aload_n (pc2 := 129) dX8_qTakes_128 rfl rfl ?_
                  refine x_lload_n (pc2 := 130) dX8_qTakes_129 rfl rfl ?_
                  refine x_putf (pc2 := 133) (x := l2) fl_X8_710 ft_8_119 ic_62 (pv_j _ ic_62 rfl) (pn_j _) dX8_qTakes_130 rfl ?_
                  refine x_aload_n (pc2 := 134) dX8_qTakes_133 rfl rfl ?_
                  refine x_iconst (pc2 := 135) dX8_qTakes_134 rfl ?_
                  refine x_putf (pc2 := 138) (x := 0) fl_X8_715 ft_8_120 ic_62 (pv_i _ ic_62 rfl) (pn_z (by decide)) dX8_qTakes_135 rfl ?_
                  exact x_return dX8_qTakes_138 rfl k
                · replace k := k2 c414
                  refine x_iload_n (pc2 := 103) dX8_qTakes_102 rfl rfl ?_
                  refine x_iconst (pc2 := 104) dX8_qTakes_103 rfl ?_
                  obtain ⟨k1, k2⟩ := k
                  refine x_icmp_ne (tgt := 119) (pc2 := 107) dX8_qTakes_104 (by decide) rfl h5 (by decide) (fun c415 => ?_) (fun c415 => ?_)
                  · replace k := k1 c415
                    refine x_lload_n (pc2 := 120) dX8_qTakes_119 rfl rfl ?_
                    refine x_aload_n (pc2 := 121) dX8_qTakes_120 rfl rfl ?_
                    refine x_getf (pc2 := 124) (v := aJ ((wr m 62 119 l4) 62 119)) fl_X8_710 ic_62 (fv_j _ ic_62 rfl) dX8_qTakes_121 rfl ?_
                    obtain ⟨h416, k⟩ := k
                    obtain ⟨h417, k⟩ := k
                    obtain ⟨k1, k2⟩ := k
                    refine x_lc_ge (tgt := 133) (pc2 := 128) dX8_qTakes_124 dX8_qTakes_125 (by decide) rfl h416 h417 (fun c418 => ?_) (fun c418 => ?_)
                    · replace k := k1 c418
                      refine x_aload_n (pc2 := 134) dX8_qTakes_133 rfl rfl ?_
                      refine x_iconst (pc2 := 135) dX8_qTakes_134 rfl ?_
                      refine x_putf (pc2 := 138) (x := 0) fl_X8_715 ft_8_120 ic_62 (pv_i _ ic_62 rfl) (pn_z (by decide)) dX8_qTakes_135 rfl ?_
                      exact x_return dX8_qTakes_138 rfl k
                    · replace k := k2 c418
                      refine x_aload_n (pc2 := 129) dX8_qTakes_128 rfl rfl ?_
                      refine x_lload_n (pc2 := 130) dX8_qTakes_129 rfl rfl ?_
                      refine x_putf (pc2 := 133) (x := l2) fl_X8_710 ft_8_119 ic_62 (pv_j _ ic_62 rfl) (pn_j _) dX8_qTakes_130 rfl ?_
                      refine x_aload_n (pc2 := 134) dX8_qTakes_133 rfl rfl ?_
                      refine x_iconst (pc2 := 135) dX8_qTakes_134 rfl ?_
                      refine x_putf (pc2 := 138) (x := 0) fl_X8_715 ft_8_120 ic_62 (pv_i _ ic_62 rfl) (pn_z (by decide)) dX8_qTakes_135 rfl ?_
                      exact x_return dX8_qTakes_138 rfl k
                  · replace k := k2 c415
                    refine x_lload_n (pc2 := 108) dX8_qTakes_107 rfl rfl ?_
                    refine x_aload_n (pc2 := 109) dX8_qTakes_108 rfl rfl ?_
                    refine x_getf (pc2 := 112) (v := aJ ((wr m 62 119 l4) 62 119)) fl_X8_710 ic_62 (fv_j _ ic_62 rfl) dX8_qTakes_109 rfl ?_
                    obtain ⟨h419, k⟩ := k
                    obtain ⟨h420, k⟩ := k
                    obtain ⟨k1, k2⟩ := k
                    refine x_lc_le (tgt := 133) (pc2 := 116) dX8_qTakes_112 dX8_qTakes_113 (by decide) rfl h419 h420 (fun c421 => ?_) (fun c421 => ?_)
                    · replace k := k1 c421
                      refine x_aload_n (pc2 := 134) dX8_qTakes_133 rfl rfl ?_
                      refine x_iconst (pc2 := 135) dX8_qTakes_134 rfl ?_
                      refine x_putf (pc2 := 138) (x := 0) fl_X8_715 ft_8_120 ic_62 (pv_i _ ic_62 rfl) (pn_z (by decide)) dX8_qTakes_135 rfl ?_
                      exact x_return dX8_qTakes_138 rfl k
                    · replace k := k2 c421
                      refine x_goto (tgt := 128) dX8_qTakes_116 (by decide) ?_
                      refine x_aload_n (pc2 := 129) dX8_qTakes_128 rfl rfl ?_
                      refine x_lload_n (pc2 := 130) dX8_qTakes_129 rfl rfl ?_
                      refine x_putf (pc2 := 133) (x := l2) fl_X8_710 ft_8_119 ic_62 (pv_j _ ic_62 rfl) (pn_j _) dX8_qTakes_130 rfl ?_
                      refine x_aload_n (pc2 := 134) dX8_qTakes_133 rfl rfl ?_
                      refine x_iconst (pc2 := 135) dX8_qTakes_134 rfl ?_
                      refine x_putf (pc2 := 138) (x := 0) fl_X8_715 ft_8_120 ic_62 (pv_i _ ic_62 rfl) (pn_z (by decide)) dX8_qTakes_135 rfl ?_
                      exact x_return dX8_qTakes_138 rfl k
            · replace k := k2 c411
              refine x_aload_n (pc2 := 81) dX8_qTakes_80 rfl rfl ?_
              refine x_dup_r (pc2 := 82) dX8_qTakes_81 rfl (by decide) ?_
              refine x_getf (pc2 := 85) (v := aJ ((wr m 62 119 l4) 62 119)) fl_X8_710 ic_62 (fv_j _ ic_62 rfl) dX8_qTakes_82 rfl ?_
              refine x_lload_n (pc2 := 86) dX8_qTakes_85 rfl rfl ?_
              refine x_ladd (pc2 := 87) dX8_qTakes_86 rfl ?_
              refine x_putf (pc2 := 90) (x := (((wr m 62 119 l4) 62 119) + l2)) fl_X8_710 ft_8_119 ic_62 (pv_j _ ic_62 rfl) (pn_j _) dX8_qTakes_87 rfl ?_
              refine x_iload_n (pc2 := 91) dX8_qTakes_90 rfl rfl ?_
              refine x_iconst (pc2 := 92) dX8_qTakes_91 rfl ?_
              obtain ⟨k1, k2⟩ := k
              refine x_icmp_le (tgt := 133) (pc2 := 95) dX8_qTakes_92 (by decide) rfl h5 (by decide) (fun c422 => ?_) (fun c422 => ?_)
              · replace k := k1 c422
                refine x_aload_n (pc2 := 134) dX8_qTakes_133 rfl rfl ?_
                refine x_iconst (pc2 := 135) dX8_qTakes_134 rfl ?_
                refine x_putf (pc2 := 138) (x := 0) fl_X8_715 ft_8_120 ic_62 (pv_i _ ic_62 rfl) (pn_z (by decide)) dX8_qTakes_135 rfl ?_
                exact x_return dX8_qTakes_138 rfl k
              · replace k := k2 c422
                refine x_aload_n (pc2 := 96) dX8_qTakes_95 rfl rfl ?_
                refine x_getf (pc2 := 99) (v := aI ((wr (wr m 62 119 l4) 62 119 (((wr m 62 119 l4) 62 119) + l2)) 62 120)) fl_X8_715 ic_62 (fv_i _ ic_62 rfl) dX8_qTakes_96 rfl ?_
                obtain ⟨h423, k⟩ := k
                obtain ⟨k1, k2⟩ := k
                refine x_if_ne (tgt := 128) (pc2 := 102) dX8_qTakes_99 (by decide) rfl h423 (fun c424 => ?_) (fun c424 => ?_)
                · replace k := k1 c424
                  refine x_aload_n (pc2 := 129) dX8_qTakes_128 rfl rfl ?_
                  refine x_lload_n (pc2 := 130) dX8_qTakes_129 rfl rfl ?_
                  refine x_putf (pc2 := 133) (x := l2) fl_X8_710 ft_8_119 ic_62 (pv_j _ ic_62 rfl) (pn_j _) dX8_qTakes_130 rfl ?_
                  refine x_aload_n (pc2 := 134) dX8_qTakes_133 rfl rfl ?_
                  refine x_iconst (pc2 := 135) dX8_qTakes_134 rfl ?_
                  refine x_putf (pc2 := 138) (x := 0) fl_X8_715 ft_8_120 ic_62 (pv_i _ ic_62 rfl) (pn_z (by decide)) dX8_qTakes_135 rfl ?_
                  exact x_return dX8_qTakes_138 rfl k
                · replace k := k2 c424
                  refine x_iload_n (pc2 := 103) dX8_qTakes_102 rfl rfl ?_
                  refine x_iconst (pc2 := 104) dX8_qTakes_103 rfl ?_
                  obtain ⟨k1, k2⟩ := k
                  refine x_icmp_ne (tgt := 119) (pc2 := 107) dX8_qTakes_104 (by decide) rfl h5 (by decide) (fun c425 => ?_) (fun c425 => ?_)
                  · replace k := k1 c425
                    refine x_lload_n (pc2 := 120) dX8_qTakes_119 rfl rfl ?_
                    refine x_aload_n (pc2 := 121) dX8_qTakes_120 rfl rfl ?_
                    refine x_getf (pc2 := 124) (v := aJ ((wr (wr m 62 119 l4) 62 119 (((wr m 62 119 l4) 62 119) + l2)) 62 119)) fl_X8_710 ic_62 (fv_j _ ic_62 rfl) dX8_qTakes_121 rfl ?_
                    obtain ⟨h426, k⟩ := k
                    obtain ⟨h427, k⟩ := k
                    obtain ⟨k1, k2⟩ := k
                    refine x_lc_ge (tgt := 133) (pc2 := 128) dX8_qTakes_124 dX8_qTakes_125 (by decide) rfl h426 h427 (fun c428 => ?_) (fun c428 => ?_)
                    · replace k := k1 c428
                      refine x_aload_n (pc2 := 134) dX8_qTakes_133 rfl rfl ?_
                      refine x_iconst (pc2 := 135) dX8_qTakes_134 rfl ?_
                      refine x_putf (pc2 := 138) (x := 0) fl_X8_715 ft_8_120 ic_62 (pv_i _ ic_62 rfl) (pn_z (by decide)) dX8_qTakes_135 rfl ?_
                      exact x_return dX8_qTakes_138 rfl k
                    · replace k := k2 c428
                      refine x_aload_n (pc2 := 129) dX8_qTakes_128 rfl rfl ?_
                      refine x_lload_n (pc2 := 130) dX8_qTakes_129 rfl rfl ?_
                      refine x_putf (pc2 := 133) (x := l2) fl_X8_710 ft_8_119 ic_62 (pv_j _ ic_62 rfl) (pn_j _) dX8_qTakes_130 rfl ?_
                      refine x_aload_n (pc2 := 134) dX8_qTakes_133 rfl rfl ?_
                      refine x_iconst (pc2 := 135) dX8_qTakes_134 rfl ?_
                      refine x_putf (pc2 := 138) (x := 0) fl_X8_715 ft_8_120 ic_62 (pv_i _ ic_62 rfl) (pn_z (by decide)) dX8_qTakes_135 rfl ?_
                      exact x_return dX8_qTakes_138 rfl k
                  · replace k := k2 c425
                    refine x_lload_n (pc2 := 108) dX8_qTakes_107 rfl rfl ?_
                    refine x_aload_n (pc2 := 109) dX8_qTakes_108 rfl rfl ?_
                    refine x_getf (pc2 := 112) (v := aJ ((wr (wr m 62 119 l4) 62 119 (((wr m 62 119 l4) 62 119) + l2)) 62 119)) fl_X8_710 ic_62 (fv_j _ ic_62 rfl) dX8_qTakes_109 rfl ?_
                    obtain ⟨h429, k⟩ := k
                    obtain ⟨h430, k⟩ := k
                    obtain ⟨k1, k2⟩ := k
                    refine x_lc_le (tgt := 133) (pc2 := 116) dX8_qTakes_112 dX8_qTakes_113 (by decide) rfl h429 h430 (fun c431 => ?_) (fun c431 => ?_)
                    · replace k := k1 c431
                      refine x_aload_n (pc2 := 134) dX8_qTakes_133 rfl rfl ?_
                      refine x_iconst (pc2 := 135) dX8_qTakes_134 rfl ?_
                      refine x_putf (pc2 := 138) (x := 0) fl_X8_715 ft_8_120 ic_62 (pv_i _ ic_62 rfl) (pn_z (by decide)) dX8_qTakes_135 rfl ?_
                      exact x_return dX8_qTakes_138 rfl k
                    · replace k := k2 c431
                      refine x_goto (tgt := 128) dX8_qTakes_116 (by decide) ?_
                      refine x_aload_n (pc2 := 129) dX8_qTakes_128 rfl rfl ?_
                      refine x_lload_n (pc2 := 130) dX8_qTakes_129 rfl rfl ?_
                      refine x_putf (pc2 := 133) (x := l2) fl_X8_710 ft_8_119 ic_62 (pv_j _ ic_62 rfl) (pn_j _) dX8_qTakes_130 rfl ?_
                      refine x_aload_n (pc2 := 134) dX8_qTakes_133 rfl rfl ?_
                      refine x_iconst (pc2 := 135) dX8_qTakes_134 rfl ?_
                      refine x_putf (pc2 := 138) (x := 0) fl_X8_715 ft_8_120 ic_62 (pv_i _ ic_62 rfl) (pn_z (by decide)) dX8_qTakes_135 rfl ?_
                      exact x_return dX8_qTakes_138 rfl k
          · replace k := k2 c410
            refine x_iload (pc2 := 62) dX8_qTakes_60 rfl rfl ?_
            obtain ⟨k1, k2⟩ := k
            refine x_if_eq (tgt := 75) (pc2 := 65) dX8_qTakes_62 (by decide) rfl h207 (fun c432 => ?_) (fun c432 => ?_)
            · replace k := k1 c432
              refine x_iload_n (pc2 := 76) dX8_qTakes_75 rfl rfl ?_
              refine x_iconst (pc2 := 77) dX8_qTakes_76 rfl ?_
              obtain ⟨k1, k2⟩ := k
              refine x_icmp_ne (tgt := 90) (pc2 := 80) dX8_qTakes_77 (by decide) rfl h5 (by decide) (fun c433 => ?_) (fun c433 => ?_)
              · replace k := k1 c433
                refine x_iload_n (pc2 := 91) dX8_qTakes_90 rfl rfl ?_
                refine x_iconst (pc2 := 92) dX8_qTakes_91 rfl ?_
                obtain ⟨k1, k2⟩ := k
                refine x_icmp_le (tgt := 133) (pc2 := 95) dX8_qTakes_92 (by decide) rfl h5 (by decide) (fun c434 => ?_) (fun c434 => ?_)
                · replace k := k1 c434
                  refine x_aload_n (pc2 := 134) dX8_qTakes_133 rfl rfl ?_
                  refine x_iconst (pc2 := 135) dX8_qTakes_134 rfl ?_
                  refine x_putf (pc2 := 138) (x := 0) fl_X8_715 ft_8_120 ic_62 (pv_i _ ic_62 rfl) (pn_z (by decide)) dX8_qTakes_135 rfl ?_
                  exact x_return dX8_qTakes_138 rfl k
                · replace k := k2 c434
                  refine x_aload_n (pc2 := 96) dX8_qTakes_95 rfl rfl ?_
                  refine x_getf (pc2 := 99) (v := aI ((wr m 62 119 l4) 62 120)) fl_X8_715 ic_62 (fv_i _ ic_62 rfl) dX8_qTakes_96 rfl ?_
                  obtain ⟨h435, k⟩ := k
                  obtain ⟨k1, k2⟩ := k
                  refine x_if_ne (tgt := 128) (pc2 := 102) dX8_qTakes_99 (by decide) rfl h435 (fun c436 => ?_) (fun c436 => ?_)
                  · replace k := k1 c436
                    refine x_aload_n (pc2 := 129) dX8_qTakes_128 rfl rfl ?_
                    refine x_lload_n (pc2 := 130) dX8_qTakes_129 rfl rfl ?_
                    refine x_putf (pc2 := 133) (x := l2) fl_X8_710 ft_8_119 ic_62 (pv_j _ ic_62 rfl) (pn_j _) dX8_qTakes_130 rfl ?_
                    refine x_aload_n (pc2 := 134) dX8_qTakes_133 rfl rfl ?_
                    refine x_iconst (pc2 := 135) dX8_qTakes_134 rfl ?_
                    refine x_putf (pc2 := 138) (x := 0) fl_X8_715 ft_8_120 ic_62 (pv_i _ ic_62 rfl) (pn_z (by decide)) dX8_qTakes_135 rfl ?_
                    exact x_return dX8_qTakes_138 rfl k
                  · replace k := k2 c436
                    refine x_iload_n (pc2 := 103) dX8_qTakes_102 rfl rfl ?_
                    refine x_iconst (pc2 := 104) dX8_qTakes_103 rfl ?_
                    obtain ⟨k1, k2⟩ := k
                    refine x_icmp_ne (tgt := 119) (pc2 := 107) dX8_qTakes_104 (by decide) rfl h5 (by decide) (fun c437 => ?_) (fun c437 => ?_)
                    · replace k := k1 c437
                      refine x_lload_n (pc2 := 120) dX8_qTakes_119 rfl rfl ?_
                      refine x_aload_n (pc2 := 121) dX8_qTakes_120 rfl rfl ?_
                      refine x_getf (pc2 := 124) (v := aJ ((wr m 62 119 l4) 62 119)) fl_X8_710 ic_62 (fv_j _ ic_62 rfl) dX8_qTakes_121 rfl ?_
                      obtain ⟨h438, k⟩ := k
                      obtain ⟨h439, k⟩ := k
                      obtain ⟨k1, k2⟩ := k
                      refine x_lc_ge (tgt := 133) (pc2 := 128) dX8_qTakes_124 dX8_qTakes_125 (by decide) rfl h438 h439 (fun c440 => ?_) (fun c440 => ?_)
                      · replace k := k1 c440
                        refine x_aload_n (pc2 := 134) dX8_qTakes_133 rfl rfl ?_
                        refine x_iconst (pc2 := 135) dX8_qTakes_134 rfl ?_
                        refine x_putf (pc2 := 138) (x := 0) fl_X8_715 ft_8_120 ic_62 (pv_i _ ic_62 rfl) (pn_z (by decide)) dX8_qTakes_135 rfl ?_
                        exact x_return dX8_qTakes_138 rfl k
                      · replace k := k2 c440
                        refine x_aload_n (pc2 := 129) dX8_qTakes_128 rfl rfl ?_
                        refine x_lload_n (pc2 := 130) dX8_qTakes_129 rfl rfl ?_
                        refine x_putf (pc2 := 133) (x := l2) fl_X8_710 ft_8_119 ic_62 (pv_j _ ic_62 rfl) (pn_j _) dX8_qTakes_130 rfl ?_
                        refine x_aload_n (pc2 := 134) dX8_qTakes_133 rfl rfl ?_
                        refine x_iconst (pc2 := 135) dX8_qTakes_134 rfl ?_
                        refine x_putf (pc2 := 138) (x := 0) fl_X8_715 ft_8_120 ic_62 (pv_i _ ic_62 rfl) (pn_z (by decide)) dX8_qTakes_135 rfl ?_
                        exact x_return dX8_qTakes_138 rfl k
                    · replace k := k2 c437
                      refine x_lload_n (pc2 := 108) dX8_qTakes_107 rfl rfl ?_
                      refine x_aload_n (pc2 := 109) dX8_qTakes_108 rfl rfl ?_
                      refine x_getf (pc2 := 112) (v := aJ ((wr m 62 119 l4) 62 119)) fl_X8_710 ic_62 (fv_j _ ic_62 rfl) dX8_qTakes_109 rfl ?_
                      obtain ⟨h441, k⟩ := k
                      obtain ⟨h442, k⟩ := k
                      obtain ⟨k1, k2⟩ := k
                      refine x_lc_le (tgt := 133) (pc2 := 116) dX8_qTakes_112 dX8_qTakes_113 (by decide) rfl h441 h442 (fun c443 => ?_) (fun c443 => ?_)
                      · replace k := k1 c443
                        refine x_aload_n (pc2 := 134) dX8_qTakes_133 rfl rfl ?_
                        refine x_iconst (pc2 := 135) dX8_qTakes_134 rfl ?_
                        refine x_putf (pc2 := 138) (x := 0) fl_X8_715 ft_8_120 ic_62 (pv_i _ ic_62 rfl) (pn_z (by decide)) dX8_qTakes_135 rfl ?_
                        exact x_return dX8_qTakes_138 rfl k
                      · replace k := k2 c443
                        refine x_goto (tgt := 128) dX8_qTakes_116 (by decide) ?_
                        refine x_aload_n (pc2 := 129) dX8_qTakes_128 rfl rfl ?_
                        refine x_lload_n (pc2 := 130) dX8_qTakes_129 rfl rfl ?_
                        refine x_putf (pc2 := 133) (x := l2) fl_X8_710 ft_8_119 ic_62 (pv_j _ ic_62 rfl) (pn_j _) dX8_qTakes_130 rfl ?_
                        refine x_aload_n (pc2 := 134) dX8_qTakes_133 rfl rfl ?_
                        refine x_iconst (pc2 := 135) dX8_qTakes_134 rfl ?_
                        refine x_putf (pc2 := 138) (x := 0) fl_X8_715 ft_8_120 ic_62 (pv_i _ ic_62 rfl) (pn_z (by decide)) dX8_qTakes_135 rfl ?_
                        exact x_return dX8_qTakes_138 rfl k
              · replace k := k2 c433
                refine x_aload_n (pc2 := 81) dX8_qTakes_80 rfl rfl ?_
                refine x_dup_r (pc2 := 82) dX8_qTakes_81 rfl (by decide) ?_
                refine x_getf (pc2 := 85) (v := aJ ((wr m 62 119 l4) 62 119)) fl_X8_710 ic_62 (fv_j _ ic_62 rfl) dX8_qTakes_82 rfl ?_
                refine x_lload_n (pc2 := 86) dX8_qTakes_85 rfl rfl ?_
                refine x_ladd (pc2 := 87) dX8_qTakes_86 rfl ?_
                refine x_putf (pc2 := 90) (x := (((wr m 62 119 l4) 62 119) + l2)) fl_X8_710 ft_8_119 ic_62 (pv_j _ ic_62 rfl) (pn_j _) dX8_qTakes_87 rfl ?_
                refine x_iload_n (pc2 := 91) dX8_qTakes_90 rfl rfl ?_
                refine x_iconst (pc2 := 92) dX8_qTakes_91 rfl ?_
                obtain ⟨k1, k2⟩ := k
                refine x_icmp_le (tgt := 133) (pc2 := 95) dX8_qTakes_92 (by decide) rfl h5 (by decide) (fun c444 => ?_) (fun c444 => ?_)
                · replace k := k1 c444
                  refine x_aload_n (pc2 := 134) dX8_qTakes_133 rfl rfl ?_
                  refine x_iconst (pc2 := 135) dX8_qTakes_134 rfl ?_
                  refine x_putf (pc2 := 138) (x := 0) fl_X8_715 ft_8_120 ic_62 (pv_i _ ic_62 rfl) (pn_z (by decide)) dX8_qTakes_135 rfl ?_
                  exact x_return dX8_qTakes_138 rfl k
                · replace k := k2 c444
                  refine x_aload_n (pc2 := 96) dX8_qTakes_95 rfl rfl ?_
                  refine x_getf (pc2 := 99) (v := aI ((wr (wr m 62 119 l4) 62 119 (((wr m 62 119 l4) 62 119) + l2)) 62 120)) fl_X8_715 ic_62 (fv_i _ ic_62 rfl) dX8_qTakes_96 rfl ?_
                  obtain ⟨h445, k⟩ := k
                  obtain ⟨k1, k2⟩ := k
                  refine x_if_ne (tgt := 128) (pc2 := 102) dX8_qTakes_99 (by decide) rfl h445 (fun c446 => ?_) (fun c446 => ?_)
                  · replace k := k1 c446
                    refine x_aload_n (pc2 := 129) dX8_qTakes_128 rfl rfl ?_
                    refine x_lload_n (pc2 := 130) dX8_qTakes_129 rfl rfl ?_
                    refine x_putf (pc2 := 133) (x := l2) fl_X8_710 ft_8_119 ic_62 (pv_j _ ic_62 rfl) (pn_j _) dX8_qTakes_130 rfl ?_
                    refine x_aload_n (pc2 := 134) dX8_qTakes_133 rfl rfl ?_
                    refine x_iconst (pc2 := 135) dX8_qTakes_134 rfl ?_
                    refine x_putf (pc2 := 138) (x := 0) fl_X8_715 ft_8_120 ic_62 (pv_i _ ic_62 rfl) (pn_z (by decide)) dX8_qTakes_135 rfl ?_
                    exact x_return dX8_qTakes_138 rfl k
                  · replace k := k2 c446
                    refine x_iload_n (pc2 := 103) dX8_qTakes_102 rfl rfl ?_
                    refine x_iconst (pc2 := 104) dX8_qTakes_103 rfl ?_
                    obtain ⟨k1, k2⟩ := k
                    refine x_icmp_ne (tgt := 119) (pc2 := 107) dX8_qTakes_104 (by decide) rfl h5 (by decide) (fun c447 => ?_) (fun c447 => ?_)
                    · replace k := k1 c447
                      refine x_lload_n (pc2 := 120) dX8_qTakes_119 rfl rfl ?_
                      refine x_aload_n (pc2 := 121) dX8_qTakes_120 rfl rfl ?_
                      refine x_getf (pc2 := 124) (v := aJ ((wr (wr m 62 119 l4) 62 119 (((wr m 62 119 l4) 62 119) + l2)) 62 119)) fl_X8_710 ic_62 (fv_j _ ic_62 rfl) dX8_qTakes_121 rfl ?_
                      obtain ⟨h448, k⟩ := k
                      obtain ⟨h449, k⟩ := k
                      obtain ⟨k1, k2⟩ := k
                      refine x_lc_ge (tgt := 133) (pc2 := 128) dX8_qTakes_124 dX8_qTakes_125 (by decide) rfl h448 h449 (fun c450 => ?_) (fun c450 => ?_)
                      · replace k := k1 c450
                        refine x_aload_n (pc2 := 134) dX8_qTakes_133 rfl rfl ?_
                        refine x_iconst (pc2 := 135) dX8_qTakes_134 rfl ?_
                        refine x_putf (pc2 := 138) (x := 0) fl_X8_715 ft_8_120 ic_62 (pv_i _ ic_62 rfl) (pn_z (by decide)) dX8_qTakes_135 rfl ?_
                        exact x_return dX8_qTakes_138 rfl k
                      · replace k := k2 c450
                        refine x_aload_n (pc2 := 129) dX8_qTakes_128 rfl rfl ?_
                        refine x_lload_n (pc2 := 130) dX8_qTakes_129 rfl rfl ?_
                        refine x_putf (pc2 := 133) (x := l2) fl_X8_710 ft_8_119 ic_62 (pv_j _ ic_62 rfl) (pn_j _) dX8_qTakes_130 rfl ?_
                        refine x_aload_n (pc2 := 134) dX8_qTakes_133 rfl rfl ?_
                        refine x_iconst (pc2 := 135) dX8_qTakes_134 rfl ?_
                        refine x_putf (pc2 := 138) (x := 0) fl_X8_715 ft_8_120 ic_62 (pv_i _ ic_62 rfl) (pn_z (by decide)) dX8_qTakes_135 rfl ?_
                        exact x_return dX8_qTakes_138 rfl k
                    · replace k := k2 c447
                      refine x_lload_n (pc2 := 108) dX8_qTakes_107 rfl rfl ?_
                      refine x_aload_n (pc2 := 109) dX8_qTakes_108 rfl rfl ?_
                      refine x_getf (pc2 := 112) (v := aJ ((wr (wr m 62 119 l4) 62 119 (((wr m 62 119 l4) 62 119) + l2)) 62 119)) fl_X8_710 ic_62 (fv_j _ ic_62 rfl) dX8_qTakes_109 rfl ?_
                      obtain ⟨h451, k⟩ := k
                      obtain ⟨h452, k⟩ := k
                      obtain ⟨k1, k2⟩ := k
                      refine x_lc_le (tgt := 133) (pc2 := 116) dX8_qTakes_112 dX8_qTakes_113 (by decide) rfl h451 h452 (fun c453 => ?_) (fun c453 => ?_)
                      · replace k := k1 c453
                        refine x_aload_n (pc2 := 134) dX8_qTakes_133 rfl rfl ?_
                        refine x_iconst (pc2 := 135) dX8_qTakes_134 rfl ?_
                        refine x_putf (pc2 := 138) (x := 0) fl_X8_715 ft_8_120 ic_62 (pv_i _ ic_62 rfl) (pn_z (by decide)) dX8_qTakes_135 rfl ?_
                        exact x_return dX8_qTakes_138 rfl k
                      · replace k := k2 c453
                        refine x_goto (tgt := 128) dX8_qTakes_116 (by decide) ?_
                        refine x_aload_n (pc2 := 129) dX8_qTakes_128 rfl rfl ?_
                        refine x_lload_n (pc2 := 130) dX8_qTakes_129 rfl rfl ?_
                        refine x_putf (pc2 := 133) (x := l2) fl_X8_710 ft_8_119 ic_62 (pv_j _ ic_62 rfl) (pn_j _) dX8_qTakes_130 rfl ?_
                        refine x_aload_n (pc2 := 134) dX8_qTakes_133 rfl rfl ?_
                        refine x_iconst (pc2 := 135) dX8_qTakes_134 rfl ?_
                        refine x_putf (pc2 := 138) (x := 0) fl_X8_715 ft_8_120 ic_62 (pv_i _ ic_62 rfl) (pn_z (by decide)) dX8_qTakes_135 rfl ?_
                        exact x_return dX8_qTakes_138 rfl k
            · replace k := k2 c432
              refine x_aload_n (pc2 := 66) dX8_qTakes_65 rfl rfl ?_
              refine x_dup_r (pc2 := 67) dX8_qTakes_66 rfl (by decide) ?_
              refine x_getf (pc2 := 70) (v := aJ ((wr m 62 119 l4) 62 119)) fl_X8_710 ic_62 (fv_j _ ic_62 rfl) dX8_qTakes_67 rfl ?_
              refine x_lconst (pc2 := 71) (v := 1) dX8_qTakes_70 rfl rfl ?_
              refine x_ladd (pc2 := 72) dX8_qTakes_71 rfl ?_
              refine x_putf (pc2 := 75) (x := (((wr m 62 119 l4) 62 119) + 1)) fl_X8_710 ft_8_119 ic_62 (pv_j _ ic_62 rfl) (pn_j _) dX8_qTakes_72 rfl ?_
              refine x_iload_n (pc2 := 76) dX8_qTakes_75 rfl rfl ?_
              refine x_iconst (pc2 := 77) dX8_qTakes_76 rfl ?_
              obtain ⟨k1, k2⟩ := k
              refine x_icmp_ne (tgt := 90) (pc2 := 80) dX8_qTakes_77 (by decide) rfl h5 (by decide) (fun c454 => ?_) (fun c454 => ?_)
              · replace k := k1 c454
                refine x_iload_n (pc2 := 91) dX8_qTakes_90 rfl rfl ?_
                refine x_iconst (pc2 := 92) dX8_qTakes_91 rfl ?_
                obtain ⟨k1, k2⟩ := k
                refine x_icmp_le (tgt := 133) (pc2 := 95) dX8_qTakes_92 (by decide) rfl h5 (by decide) (fun c455 => ?_) (fun c455 => ?_)
                · replace k := k1 c455
                  refine x_aload_n (pc2 := 134) dX8_qTakes_133 rfl rfl ?_
                  refine x_iconst (pc2 := 135) dX8_qTakes_134 rfl ?_
                  refine x_putf (pc2 := 138) (x := 0) fl_X8_715 ft_8_120 ic_62 (pv_i _ ic_62 rfl) (pn_z (by decide)) dX8_qTakes_135 rfl ?_
                  exact x_return dX8_qTakes_138 rfl k
                · replace k := k2 c455
                  refine x_aload_n (pc2 := 96) dX8_qTakes_95 rfl rfl ?_
                  refine x_getf (pc2 := 99) (v := aI ((wr (wr m 62 119 l4) 62 119 (((wr m 62 119 l4) 62 119) + 1)) 62 120)) fl_X8_715 ic_62 (fv_i _ ic_62 rfl) dX8_qTakes_96 rfl ?_
                  obtain ⟨h456, k⟩ := k
                  obtain ⟨k1, k2⟩ := k
                  refine x_if_ne (tgt := 128) (pc2 := 102) dX8_qTakes_99 (by decide) rfl h456 (fun c457 => ?_) (fun c457 => ?_)
                  · replace k := k1 c457
                    refine x_aload_n (pc2 := 129) dX8_qTakes_128 rfl rfl ?_
                    refine x_lload_n (pc2 := 130) dX8_qTakes_129 rfl rfl ?_
                    refine x_putf (pc2 := 133) (x := l2) fl_X8_710 ft_8_119 ic_62 (pv_j _ ic_62 rfl) (pn_j _) dX8_qTakes_130 rfl ?_
                    refine x_aload_n (pc2 := 134) dX8_qTakes_133 rfl rfl ?_
                    refine x_iconst (pc2 := 135) dX8_qTakes_134 rfl ?_
                    refine x_putf (pc2 := 138) (x := 0) fl_X8_715 ft_8_120 ic_62 (pv_i _ ic_62 rfl) (pn_z (by decide)) dX8_qTakes_135 rfl ?_
                    exact x_return dX8_qTakes_138 rfl k
                  · replace k := k2 c457
                    refine x_iload_n (pc2 := 103) dX8_qTakes_102 rfl rfl ?_
                    refine x_iconst (pc2 := 104) dX8_qTakes_103 rfl ?_
                    obtain ⟨k1, k2⟩ := k
                    refine x_icmp_ne (tgt := 119) (pc2 := 107) dX8_qTakes_104 (by decide) rfl h5 (by decide) (fun c458 => ?_) (fun c458 => ?_)
                    · replace k := k1 c458
                      refine x_lload_n (pc2 := 120) dX8_qTakes_119 rfl rfl ?_
                      refine x_aload_n (pc2 := 121) dX8_qTakes_120 rfl rfl ?_
                      refine x_getf (pc2 := 124) (v := aJ ((wr (wr m 62 119 l4) 62 119 (((wr m 62 119 l4) 62 119) + 1)) 62 119)) fl_X8_710 ic_62 (fv_j _ ic_62 rfl) dX8_qTakes_121 rfl ?_
                      obtain ⟨h459, k⟩ := k
                      obtain ⟨h460, k⟩ := k
                      obtain ⟨k1, k2⟩ := k
                      refine x_lc_ge (tgt := 133) (pc2 := 128) dX8_qTakes_124 dX8_qTakes_125 (by decide) rfl h459 h460 (fun c461 => ?_) (fun c461 => ?_)
                      · replace k := k1 c461
                        refine x_aload_n (pc2 := 134) dX8_qTakes_133 rfl rfl ?_
                        refine x_iconst (pc2 := 135) dX8_qTakes_134 rfl ?_
                        refine x_putf (pc2 := 138) (x := 0) fl_X8_715 ft_8_120 ic_62 (pv_i _ ic_62 rfl) (pn_z (by decide)) dX8_qTakes_135 rfl ?_
                        exact x_return dX8_qTakes_138 rfl k
                      · replace k := k2 c461
                        refine x_aload_n (pc2 := 129) dX8_qTakes_128 rfl rfl ?_
                        refine x_lload_n (pc2 := 130) dX8_qTakes_129 rfl rfl ?_
                        refine x_putf (pc2 := 133) (x := l2) fl_X8_710 ft_8_119 ic_62 (pv_j _ ic_62 rfl) (pn_j _) dX8_qTakes_130 rfl ?_
                        refine x_aload_n (pc2 := 134) dX8_qTakes_133 rfl rfl ?_
                        refine x_iconst (pc2 := 135) dX8_qTakes_134 rfl ?_
                        refine x_putf (pc2 := 138) (x := 0) fl_X8_715 ft_8_120 ic_62 (pv_i _ ic_62 rfl) (pn_z (by decide)) dX8_qTakes_135 rfl ?_
                        exact x_return dX8_qTakes_138 rfl k
                    · replace k := k2 c458
                      refine x_lload_n (pc2 := 108) dX8_qTakes_107 rfl rfl ?_
                      refine x_aload_n (pc2 := 109) dX8_qTakes_108 rfl rfl ?_
                      refine x_getf (pc2 := 112) (v := aJ ((wr (wr m 62 119 l4) 62 119 (((wr m 62 119 l4) 62 119) + 1)) 62 119)) fl_X8_710 ic_62 (fv_j _ ic_62 rfl) dX8_qTakes_109 rfl ?_
                      obtain ⟨h462, k⟩ := k
                      obtain ⟨h463, k⟩ := k
                      obtain ⟨k1, k2⟩ := k
                      refine x_lc_le (tgt := 133) (pc2 := 116) dX8_qTakes_112 dX8_qTakes_113 (by decide) rfl h462 h463 (fun c464 => ?_) (fun c464 => ?_)
                      · replace k := k1 c464
                        refine x_aload_n (pc2 := 134) dX8_qTakes_133 rfl rfl ?_
                        refine x_iconst (pc2 := 135) dX8_qTakes_134 rfl ?_
                        refine x_putf (pc2 := 138) (x := 0) fl_X8_715 ft_8_120 ic_62 (pv_i _ ic_62 rfl) (pn_z (by decide)) dX8_qTakes_135 rfl ?_
                        exact x_return dX8_qTakes_138 rfl k
                      · replace k := k2 c464
                        refine x_goto (tgt := 128) dX8_qTakes_116 (by decide) ?_
                        refine x_aload_n (pc2 := 129) dX8_qTakes_128 rfl rfl ?_
                        refine x_lload_n (pc2 := 130) dX8_qTakes_129 rfl rfl ?_
                        refine x_putf (pc2 := 133) (x := l2) fl_X8_710 ft_8_119 ic_62 (pv_j _ ic_62 rfl) (pn_j _) dX8_qTakes_130 rfl ?_
                        refine x_aload_n (pc2 := 134) dX8_qTakes_133 rfl rfl ?_
                        refine x_iconst (pc2 := 135) dX8_qTakes_134 rfl ?_
                        refine x_putf (pc2 := 138) (x := 0) fl_X8_715 ft_8_120 ic_62 (pv_i _ ic_62 rfl) (pn_z (by decide)) dX8_qTakes_135 rfl ?_
                        exact x_return dX8_qTakes_138 rfl k
              · replace k := k2 c454
                refine x_aload_n (pc2 := 81) dX8_qTakes_80 rfl rfl ?_
                refine x_dup_r (pc2 := 82) dX8_qTakes_81 rfl (by decide) ?_
                refine x_getf (pc2 := 85) (v := aJ ((wr (wr m 62 119 l4) 62 119 (((wr m 62 119 l4) 62 119) + 1)) 62 119)) fl_X8_710 ic_62 (fv_j _ ic_62 rfl) dX8_qTakes_82 rfl ?_
                refine x_lload_n (pc2 := 86) dX8_qTakes_85 rfl rfl ?_
                refine x_ladd (pc2 := 87) dX8_qTakes_86 rfl ?_
                refine x_putf (pc2 := 90) (x := (((wr (wr m 62 119 l4) 62 119 (((wr m 62 119 l4) 62 119) + 1)) 62 119) + l2)) fl_X8_710 ft_8_119 ic_62 (pv_j _ ic_62 rfl) (pn_j _) dX8_qTakes_87 rfl ?_
                refine x_iload_n (pc2 := 91) dX8_qTakes_90 rfl rfl ?_
                refine x_iconst (pc2 := 92) dX8_qTakes_91 rfl ?_
                obtain ⟨k1, k2⟩ := k
                refine x_icmp_le (tgt := 133) (pc2 := 95) dX8_qTakes_92 (by decide) rfl h5 (by decide) (fun c465 => ?_) (fun c465 => ?_)
                · replace k := k1 c465
                  refine x_aload_n (pc2 := 134) dX8_qTakes_133 rfl rfl ?_
                  refine x_iconst (pc2 := 135) dX8_qTakes_134 rfl ?_
                  refine x_putf (pc2 := 138) (x := 0) fl_X8_715 ft_8_120 ic_62 (pv_i _ ic_62 rfl) (pn_z (by decide)) dX8_qTakes_135 rfl ?_
                  exact x_return dX8_qTakes_138 rfl k
                · replace k := k2 c465
                  refine x_aload_n (pc2 := 96) dX8_qTakes_95 rfl rfl ?_
                  refine x_getf (pc2 := 99) (v := aI ((wr (wr (wr m 62 119 l4) 62 119 (((wr m 62 119 l4) 62 119) + 1)) 62 119 (((wr (wr m 62 119 l4) 62 119 (((wr m 62 119 l4) 62 119) + 1)) 62 119) + l2)) 62 120)) fl_X8_715 ic_62 (fv_i _ ic_62 rfl) dX8_qTakes_96 rfl ?_
                  obtain ⟨h466, k⟩ := k
                  obtain ⟨k1, k2⟩ := k
                  refine x_if_ne (tgt := 128) (pc2 := 102) dX8_qTakes_99 (by decide) rfl h466 (fun c467 => ?_) (fun c467 => ?_)
                  · replace k := k1 c467
                    refine x_aload_n (pc2 := 129) dX8_qTakes_128 rfl rfl ?_
                    refine x_lload_n (pc2 := 130) dX8_qTakes_129 rfl rfl ?_
                    refine x_putf (pc2 := 133) (x := l2) fl_X8_710 ft_8_119 ic_62 (pv_j _ ic_62 rfl) (pn_j _) dX8_qTakes_130 rfl ?_
                    refine x_aload_n (pc2 := 134) dX8_qTakes_133 rfl rfl ?_
                    refine x_iconst (pc2 := 135) dX8_qTakes_134 rfl ?_
                    refine x_putf (pc2 := 138) (x := 0) fl_X8_715 ft_8_120 ic_62 (pv_i _ ic_62 rfl) (pn_z (by decide)) dX8_qTakes_135 rfl ?_
                    exact x_return dX8_qTakes_138 rfl k
                  · replace k := k2 c467
                    refine x_iload_n (pc2 := 103) dX8_qTakes_102 rfl rfl ?_
                    refine x_iconst (pc2 := 104) dX8_qTakes_103 rfl ?_
                    obtain ⟨k1, k2⟩ := k
                    refine x_icmp_ne (tgt := 119) (pc2 := 107) dX8_qTakes_104 (by decide) rfl h5 (by decide) (fun c468 => ?_) (fun c468 => ?_)
                    · replace k := k1 c468
                      refine x_lload_n (pc2 := 120) dX8_qTakes_119 rfl rfl ?_
                      refine x_aload_n (pc2 := 121) dX8_qTakes_120 rfl rfl ?_
                      refine x_getf (pc2 := 124) (v := aJ ((wr (wr (wr m 62 119 l4) 62 119 (((wr m 62 119 l4) 62 119) + 1)) 62 119 (((wr (wr m 62 119 l4) 62 119 (((wr m 62 119 l4) 62 119) + 1)) 62 119) + l2)) 62 119)) fl_X8_710 ic_62 (fv_j _ ic_62 rfl) dX8_qTakes_121 rfl ?_
                      obtain ⟨h469, k⟩ := k
                      obtain ⟨h470, k⟩ := k
                      obtain ⟨k1, k2⟩ := k
                      refine x_lc_ge (tgt := 133) (pc2 := 128) dX8_qTakes_124 dX8_qTakes_125 (by decide) rfl h469 h470 (fun c471 => ?_) (fun c471 => ?_)
                      · replace k := k1 c471
                        refine x_aload_n (pc2 := 134) dX8_qTakes_133 rfl rfl ?_
                        refine x_iconst (pc2 := 135) dX8_qTakes_134 rfl ?_
                        refine x_putf (pc2 := 138) (x := 0) fl_X8_715 ft_8_120 ic_62 (pv_i _ ic_62 rfl) (pn_z (by decide)) dX8_qTakes_135 rfl ?_
                        exact x_return dX8_qTakes_138 rfl k
                      · replace k := k2 c471
                        refine x_aload_n (pc2 := 129) dX8_qTakes_128 rfl rfl ?_
                        refine x_lload_n (pc2 := 130) dX8_qTakes_129 rfl rfl ?_
                        refine x_putf (pc2 := 133) (x := l2) fl_X8_710 ft_8_119 ic_62 (pv_j _ ic_62 rfl) (pn_j _) dX8_qTakes_130 rfl ?_
                        refine x_aload_n (pc2 := 134) dX8_qTakes_133 rfl rfl ?_
                        refine x_iconst (pc2 := 135) dX8_qTakes_134 rfl ?_
                        refine x_putf (pc2 := 138) (x := 0) fl_X8_715 ft_8_120 ic_62 (pv_i _ ic_62 rfl) (pn_z (by decide)) dX8_qTakes_135 rfl ?_
                        exact x_return dX8_qTakes_138 rfl k
                    · replace k := k2 c468
                      refine x_lload_n (pc2 := 108) dX8_qTakes_107 rfl rfl ?_
                      refine x_aload_n (pc2 := 109) dX8_qTakes_108 rfl rfl ?_
                      refine x_getf (pc2 := 112) (v := aJ ((wr (wr (wr m 62 119 l4) 62 119 (((wr m 62 119 l4) 62 119) + 1)) 62 119 (((wr (wr m 62 119 l4) 62 119 (((wr m 62 119 l4) 62 119) + 1)) 62 119) + l2)) 62 119)) fl_X8_710 ic_62 (fv_j _ ic_62 rfl) dX8_qTakes_109 rfl ?_
                      obtain ⟨h472, k⟩ := k
                      obtain ⟨h473, k⟩ := k
                      obtain ⟨k1, k2⟩ := k
                      refine x_lc_le (tgt := 133) (pc2 := 116) dX8_qTakes_112 dX8_qTakes_113 (by decide) rfl h472 h473 (fun c474 => ?_) (fun c474 => ?_)
                      · replace k := k1 c474
                        refine x_aload_n (pc2 := 134) dX8_qTakes_133 rfl rfl ?_
                        refine x_iconst (pc2 := 135) dX8_qTakes_134 rfl ?_
                        refine x_putf (pc2 := 138) (x := 0) fl_X8_715 ft_8_120 ic_62 (pv_i _ ic_62 rfl) (pn_z (by decide)) dX8_qTakes_135 rfl ?_
                        exact x_return dX8_qTakes_138 rfl k
                      · replace k := k2 c474
                        refine x_goto (tgt := 128) dX8_qTakes_116 (by decide) ?_
                        refine x_aload_n (pc2 := 129) dX8_qTakes_128 rfl rfl ?_
                        refine x_lload_n (pc2 := 130) dX8_qTakes_129 rfl rfl ?_
                        refine x_putf (pc2 := 133) (x := l2) fl_X8_710 ft_8_119 ic_62 (pv_j _ ic_62 rfl) (pn_j _) dX8_qTakes_130 rfl ?_
                        refine x_aload_n (pc2 := 134) dX8_qTakes_133 rfl rfl ?_
                        refine x_iconst (pc2 := 135) dX8_qTakes_134 rfl ?_
                        refine x_putf (pc2 := 138) (x := 0) fl_X8_715 ft_8_120 ic_62 (pv_i _ ic_62 rfl) (pn_z (by decide)) dX8_qTakes_135 rfl ?_
                        exact x_return dX8_qTakes_138 rfl k
        · replace k := k2 c408
          refine x_iload_n (pc2 := 39) dX8_qTakes_38 rfl rfl ?_
          refine x_iconst (pc2 := 40) dX8_qTakes_39 rfl ?_
          obtain ⟨k1, k2⟩ := k
          refine x_icmp_ne (tgt := 55) (pc2 := 43) dX8_qTakes_40 (by decide) rfl h5 (by decide) (fun c475 => ?_) (fun c475 => ?_)
          · replace k := k1 c475
            refine x_iload_n (pc2 := 56) dX8_qTakes_55 rfl rfl ?_
            refine x_iconst (pc2 := 57) dX8_qTakes_56 rfl ?_
            obtain ⟨k1, k2⟩ := k
            refine x_icmp_ne (tgt := 75) (pc2 := 60) dX8_qTakes_57 (by decide) rfl h5 (by decide) (fun c476 => ?_) (fun c476 => ?_)
            · replace k := k1 c476
              refine x_iload_n (pc2 := 76) dX8_qTakes_75 rfl rfl ?_
              refine x_iconst (pc2 := 77) dX8_qTakes_76 rfl ?_
              obtain ⟨k1, k2⟩ := k
              refine x_icmp_ne (tgt := 90) (pc2 := 80) dX8_qTakes_77 (by decide) rfl h5 (by decide) (fun c477 => ?_) (fun c477 => ?_)
              · replace k := k1 c477
                refine x_iload_n (pc2 := 91) dX8_qTakes_90 rfl rfl ?_
                refine x_iconst (pc2 := 92) dX8_qTakes_91 rfl ?_
                obtain ⟨k1, k2⟩ := k
                refine x_icmp_le (tgt := 133) (pc2 := 95) dX8_qTakes_92 (by decide) rfl h5 (by decide) (fun c478 => ?_) (fun c478 => ?_)
                · replace k := k1 c478
                  refine x_aload_n (pc2 := 134) dX8_qTakes_133 rfl rfl ?_
                  refine x_iconst (pc2 := 135) dX8_qTakes_134 rfl ?_
                  refine x_putf (pc2 := 138) (x := 0) fl_X8_715 ft_8_120 ic_62 (pv_i _ ic_62 rfl) (pn_z (by decide)) dX8_qTakes_135 rfl ?_
                  exact x_return dX8_qTakes_138 rfl k
                · replace k := k2 c478
                  refine x_aload_n (pc2 := 96) dX8_qTakes_95 rfl rfl ?_
                  refine x_getf (pc2 := 99) (v := aI (m 62 120)) fl_X8_715 ic_62 (fv_i _ ic_62 rfl) dX8_qTakes_96 rfl ?_
                  obtain ⟨h479, k⟩ := k
                  obtain ⟨k1, k2⟩ := k
                  refine x_if_ne (tgt := 128) (pc2 := 102) dX8_qTakes_99 (by decide) rfl h479 (fun c480 => ?_) (fun c480 => ?_)
                  · replace k := k1 c480
                    refine x_aload_n (pc2 := 129) dX8_qTakes_128 rfl rfl ?_
                    refine x_lload_n (pc2 := 130) dX8_qTakes_129 rfl rfl ?_
                    refine x_putf (pc2 := 133) (x := l2) fl_X8_710 ft_8_119 ic_62 (pv_j _ ic_62 rfl) (pn_j _) dX8_qTakes_130 rfl ?_
                    refine x_aload_n (pc2 := 134) dX8_qTakes_133 rfl rfl ?_
                    refine x_iconst (pc2 := 135) dX8_qTakes_134 rfl ?_
                    refine x_putf (pc2 := 138) (x := 0) fl_X8_715 ft_8_120 ic_62 (pv_i _ ic_62 rfl) (pn_z (by decide)) dX8_qTakes_135 rfl ?_
                    exact x_return dX8_qTakes_138 rfl k
                  · replace k := k2 c480
                    refine x_iload_n (pc2 := 103) dX8_qTakes_102 rfl rfl ?_
                    refine x_iconst (pc2 := 104) dX8_qTakes_103 rfl ?_
                    obtain ⟨k1, k2⟩ := k
                    refine x_icmp_ne (tgt := 119) (pc2 := 107) dX8_qTakes_104 (by decide) rfl h5 (by decide) (fun c481 => ?_) (fun c481 => ?_)
                    · replace k := k1 c481
                      refine x_lload_n (pc2 := 120) dX8_qTakes_119 rfl rfl ?_
                      refine x_aload_n (pc2 := 121) dX8_qTakes_120 rfl rfl ?_
                      refine x_getf (pc2 := 124) (v := aJ (m 62 119)) fl_X8_710 ic_62 (fv_j _ ic_62 rfl) dX8_qTakes_121 rfl ?_
                      obtain ⟨h482, k⟩ := k
                      obtain ⟨k1, k2⟩ := k
                      refine x_lc_ge (tgt := 133) (pc2 := 128) dX8_qTakes_124 dX8_qTakes_125 (by decide) rfl h482 h407 (fun c483 => ?_) (fun c483 => ?_)
                      · replace k := k1 c483
                        refine x_aload_n (pc2 := 134) dX8_qTakes_133 rfl rfl ?_
                        refine x_iconst (pc2 := 135) dX8_qTakes_134 rfl ?_
                        refine x_putf (pc2 := 138) (x := 0) fl_X8_715 ft_8_120 ic_62 (pv_i _ ic_62 rfl) (pn_z (by decide)) dX8_qTakes_135 rfl ?_
                        exact x_return dX8_qTakes_138 rfl k
                      · replace k := k2 c483
                        refine x_aload_n (pc2 := 129) dX8_qTakes_128 rfl rfl ?_
                        refine x_lload_n (pc2 := 130) dX8_qTakes_129 rfl rfl ?_
                        refine x_putf (pc2 := 133) (x := l2) fl_X8_710 ft_8_119 ic_62 (pv_j _ ic_62 rfl) (pn_j _) dX8_qTakes_130 rfl ?_
                        refine x_aload_n (pc2 := 134) dX8_qTakes_133 rfl rfl ?_
                        refine x_iconst (pc2 := 135) dX8_qTakes_134 rfl ?_
                        refine x_putf (pc2 := 138) (x := 0) fl_X8_715 ft_8_120 ic_62 (pv_i _ ic_62 rfl) (pn_z (by decide)) dX8_qTakes_135 rfl ?_
                        exact x_return dX8_qTakes_138 rfl k
                    · replace k := k2 c481
                      refine x_lload_n (pc2 := 108) dX8_qTakes_107 rfl rfl ?_
                      refine x_aload_n (pc2 := 109) dX8_qTakes_108 rfl rfl ?_
                      refine x_getf (pc2 := 112) (v := aJ (m 62 119)) fl_X8_710 ic_62 (fv_j _ ic_62 rfl) dX8_qTakes_109 rfl ?_
                      obtain ⟨h484, k⟩ := k
                      obtain ⟨k1, k2⟩ := k
                      refine x_lc_le (tgt := 133) (pc2 := 116) dX8_qTakes_112 dX8_qTakes_113 (by decide) rfl h484 h407 (fun c485 => ?_) (fun c485 => ?_)
                      · replace k := k1 c485
                        refine x_aload_n (pc2 := 134) dX8_qTakes_133 rfl rfl ?_
                        refine x_iconst (pc2 := 135) dX8_qTakes_134 rfl ?_
                        refine x_putf (pc2 := 138) (x := 0) fl_X8_715 ft_8_120 ic_62 (pv_i _ ic_62 rfl) (pn_z (by decide)) dX8_qTakes_135 rfl ?_
                        exact x_return dX8_qTakes_138 rfl k
                      · replace k := k2 c485
                        refine x_goto (tgt := 128) dX8_qTakes_116 (by decide) ?_
                        refine x_aload_n (pc2 := 129) dX8_qTakes_128 rfl rfl ?_
                        refine x_lload_n (pc2 := 130) dX8_qTakes_129 rfl rfl ?_
                        refine x_putf (pc2 := 133) (x := l2) fl_X8_710 ft_8_119 ic_62 (pv_j _ ic_62 rfl) (pn_j _) dX8_qTakes_130 rfl ?_
                        refine x_aload_n (pc2 := 134) dX8_qTakes_133 rfl rfl ?_
                        refine x_iconst (pc2 := 135) dX8_qTakes_134 rfl ?_
                        refine x_putf (pc2 := 138) (x := 0) fl_X8_715 ft_8_120 ic_62 (pv_i _ ic_62 rfl) (pn_z (by decide)) dX8_qTakes_135 rfl ?_
                        exact x_return dX8_qTakes_138 rfl k
              · replace k := k2 c477
                refine x_aload_n (pc2 := 81) dX8_qTakes_80 rfl rfl ?_
                refine x_dup_r (pc2 := 82) dX8_qTakes_81 rfl (by decide) ?_
                refine x_getf (pc2 := 85) (v := aJ (m 62 119)) fl_X8_710 ic_62 (fv_j _ ic_62 rfl) dX8_qTakes_82 rfl ?_
                refine x_lload_n (pc2 := 86) dX8_qTakes_85 rfl rfl ?_
                refine x_ladd (pc2 := 87) dX8_qTakes_86 rfl ?_
                refine x_putf (pc2 := 90) (x := ((m 62 119) + l2)) fl_X8_710 ft_8_119 ic_62 (pv_j _ ic_62 rfl) (pn_j _) dX8_qTakes_87 rfl ?_
                refine x_iload_n (pc2 := 91) dX8_qTakes_90 rfl rfl ?_
                refine x_iconst (pc2 := 92) dX8_qTakes_91 rfl ?_
                obtain ⟨k1, k2⟩ := k
                refine x_icmp_le (tgt := 133) (pc2 := 95) dX8_qTakes_92 (by decide) rfl h5 (by decide) (fun c486 => ?_) (fun c486 => ?_)
                · replace k := k1 c486
                  refine x_aload_n (pc2 := 134) dX8_qTakes_133 rfl rfl ?_
                  refine x_iconst (pc2 := 135) dX8_qTakes_134 rfl ?_
                  refine x_putf (pc2 := 138) (x := 0) fl_X8_715 ft_8_120 ic_62 (pv_i _ ic_62 rfl) (pn_z (by decide)) dX8_qTakes_135 rfl ?_
                  exact x_return dX8_qTakes_138 rfl k
                · replace k := k2 c486
                  refine x_aload_n (pc2 := 96) dX8_qTakes_95 rfl rfl ?_
                  refine x_getf (pc2 := 99) (v := aI ((wr m 62 119 ((m 62 119) + l2)) 62 120)) fl_X8_715 ic_62 (fv_i _ ic_62 rfl) dX8_qTakes_96 rfl ?_
                  obtain ⟨h487, k⟩ := k
                  obtain ⟨k1, k2⟩ := k
                  refine x_if_ne (tgt := 128) (pc2 := 102) dX8_qTakes_99 (by decide) rfl h487 (fun c488 => ?_) (fun c488 => ?_)
                  · replace k := k1 c488
                    refine x_aload_n (pc2 := 129) dX8_qTakes_128 rfl rfl ?_
                    refine x_lload_n (pc2 := 130) dX8_qTakes_129 rfl rfl ?_
                    refine x_putf (pc2 := 133) (x := l2) fl_X8_710 ft_8_119 ic_62 (pv_j _ ic_62 rfl) (pn_j _) dX8_qTakes_130 rfl ?_
                    refine x_aload_n (pc2 := 134) dX8_qTakes_133 rfl rfl ?_
                    refine x_iconst (pc2 := 135) dX8_qTakes_134 rfl ?_
                    refine x_putf (pc2 := 138) (x := 0) fl_X8_715 ft_8_120 ic_62 (pv_i _ ic_62 rfl) (pn_z (by decide)) dX8_qTakes_135 rfl ?_
                    exact x_return dX8_qTakes_138 rfl k
                  · replace k := k2 c488
                    refine x_iload_n (pc2 := 103) dX8_qTakes_102 rfl rfl ?_
                    refine x_iconst (pc2 := 104) dX8_qTakes_103 rfl ?_
                    obtain ⟨k1, k2⟩ := k
                    refine x_icmp_ne (tgt := 119) (pc2 := 107) dX8_qTakes_104 (by decide) rfl h5 (by decide) (fun c489 => ?_) (fun c489 => ?_)
                    · replace k := k1 c489
                      refine x_lload_n (pc2 := 120) dX8_qTakes_119 rfl rfl ?_
                      refine x_aload_n (pc2 := 121) dX8_qTakes_120 rfl rfl ?_
                      refine x_getf (pc2 := 124) (v := aJ ((wr m 62 119 ((m 62 119) + l2)) 62 119)) fl_X8_710 ic_62 (fv_j _ ic_62 rfl) dX8_qTakes_121 rfl ?_
                      obtain ⟨h490, k⟩ := k
                      obtain ⟨h491, k⟩ := k
                      obtain ⟨k1, k2⟩ := k
                      refine x_lc_ge (tgt := 133) (pc2 := 128) dX8_qTakes_124 dX8_qTakes_125 (by decide) rfl h490 h491 (fun c492 => ?_) (fun c492 => ?_)
                      · replace k := k1 c492
                        refine x_aload_n (pc2 := 134) dX8_qTakes_133 rfl rfl ?_
                        refine x_iconst (pc2 := 135) dX8_qTakes_134 rfl ?_
                        refine x_putf (pc2 := 138) (x := 0) fl_X8_715 ft_8_120 ic_62 (pv_i _ ic_62 rfl) (pn_z (by decide)) dX8_qTakes_135 rfl ?_
                        exact x_return dX8_qTakes_138 rfl k
                      · replace k := k2 c492
                        refine x_aload_n (pc2 := 129) dX8_qTakes_128 rfl rfl ?_
                        refine x_lload_n (pc2 := 130) dX8_qTakes_129 rfl rfl ?_
                        refine x_putf (pc2 := 133) (x := l2) fl_X8_710 ft_8_119 ic_62 (pv_j _ ic_62 rfl) (pn_j _) dX8_qTakes_130 rfl ?_
                        refine x_aload_n (pc2 := 134) dX8_qTakes_133 rfl rfl ?_
                        refine x_iconst (pc2 := 135) dX8_qTakes_134 rfl ?_
                        refine x_putf (pc2 := 138) (x := 0) fl_X8_715 ft_8_120 ic_62 (pv_i _ ic_62 rfl) (pn_z (by decide)) dX8_qTakes_135 rfl ?_
                        exact x_return dX8_qTakes_138 rfl k
                    · replace k := k2 c489
                      refine x_lload_n (pc2 := 108) dX8_qTakes_107 rfl rfl ?_
                      refine x_aload_n (pc2 := 109) dX8_qTakes_108 rfl rfl ?_
                      refine x_getf (pc2 := 112) (v := aJ ((wr m 62 119 ((m 62 119) + l2)) 62 119)) fl_X8_710 ic_62 (fv_j _ ic_62 rfl) dX8_qTakes_109 rfl ?_
                      obtain ⟨h493, k⟩ := k
                      obtain ⟨h494, k⟩ := k
                      obtain ⟨k1, k2⟩ := k
                      refine x_lc_le (tgt := 133) (pc2 := 116) dX8_qTakes_112 dX8_qTakes_113 (by decide) rfl h493 h494 (fun c495 => ?_) (fun c495 => ?_)
                      · replace k := k1 c495
                        refine x_aload_n (pc2 := 134) dX8_qTakes_133 rfl rfl ?_
                        refine x_iconst (pc2 := 135) dX8_qTakes_134 rfl ?_
                        refine x_putf (pc2 := 138) (x := 0) fl_X8_715 ft_8_120 ic_62 (pv_i _ ic_62 rfl) (pn_z (by decide)) dX8_qTakes_135 rfl ?_
                        exact x_return dX8_qTakes_138 rfl k
                      · replace k := k2 c495
                        refine x_goto (tgt := 128) dX8_qTakes_116 (by decide) ?_
                        refine x_aload_n (pc2 := 129) dX8_qTakes_128 rfl rfl ?_
                        refine x_lload_n (pc2 := 130) dX8_qTakes_129 rfl rfl ?_
                        refine x_putf (pc2 := 133) (x := l2) fl_X8_710 ft_8_119 ic_62 (pv_j _ ic_62 rfl) (pn_j _) dX8_qTakes_130 rfl ?_
                        refine x_aload_n (pc2 := 134) dX8_qTakes_133 rfl rfl ?_
                        refine x_iconst (pc2 := 135) dX8_qTakes_134 rfl ?_
                        refine x_putf (pc2 := 138) (x := 0) fl_X8_715 ft_8_120 ic_62 (pv_i _ ic_62 rfl) (pn_z (by decide)) dX8_qTakes_135 rfl ?_
                        exact x_return dX8_qTakes_138 rfl k
            · replace k := k2 c476
              refine x_iload (pc2 := 62) dX8_qTakes_60 rfl rfl ?_
              obtain ⟨k1, k2⟩ := k
              refine x_if_eq (tgt := 75) (pc2 := 65) dX8_qTakes_62 (by decide) rfl h207 (fun c496 => ?_) (fun c496 => ?_)
              · replace k := k1 c496
                refine x_iload_n (pc2 := 76) dX8_qTakes_75 rfl rfl ?_
                refine x_iconst (pc2 := 77) dX8_qTakes_76 rfl ?_
                obtain ⟨k1, k2⟩ := k
                refine x_icmp_ne (tgt := 90) (pc2 := 80) dX8_qTakes_77 (by decide) rfl h5 (by decide) (fun c497 => ?_) (fun c497 => ?_)
                · replace k := k1 c497
                  refine x_iload_n (pc2 := 91) dX8_qTakes_90 rfl rfl ?_
                  refine x_iconst (pc2 := 92) dX8_qTakes_91 rfl ?_
                  obtain ⟨k1, k2⟩ := k
                  refine x_icmp_le (tgt := 133) (pc2 := 95) dX8_qTakes_92 (by decide) rfl h5 (by decide) (fun c498 => ?_) (fun c498 => ?_)
                  · replace k := k1 c498
                    refine x_aload_n (pc2 := 134) dX8_qTakes_133 rfl rfl ?_
                    refine x_iconst (pc2 := 135) dX8_qTakes_134 rfl ?_
                    refine x_putf (pc2 := 138) (x := 0) fl_X8_715 ft_8_120 ic_62 (pv_i _ ic_62 rfl) (pn_z (by decide)) dX8_qTakes_135 rfl ?_
                    exact x_return dX8_qTakes_138 rfl k
                  · replace k := k2 c498
                    refine x_aload_n (pc2 := 96) dX8_qTakes_95 rfl rfl ?_
                    refine x_getf (pc2 := 99) (v := aI (m 62 120)) fl_X8_715 ic_62 (fv_i _ ic_62 rfl) dX8_qTakes_96 rfl ?_
                    obtain ⟨h499, k⟩ := k
                    obtain ⟨k1, k2⟩ := k
                    refine x_if_ne (tgt := 128) (pc2 := 102) dX8_qTakes_99 (by decide) rfl h499 (fun c500 => ?_) (fun c500 => ?_)
                    · replace k := k1 c500
                      refine x_aload_n (pc2 := 129) dX8_qTakes_128 rfl rfl ?_
                      refine x_lload_n (pc2 := 130) dX8_qTakes_129 rfl rfl ?_
                      refine x_putf (pc2 := 133) (x := l2) fl_X8_710 ft_8_119 ic_62 (pv_j _ ic_62 rfl) (pn_j _) dX8_qTakes_130 rfl ?_
                      refine x_aload_n (pc2 := 134) dX8_qTakes_133 rfl rfl ?_
                      refine x_iconst (pc2 := 135) dX8_qTakes_134 rfl ?_
                      refine x_putf (pc2 := 138) (x := 0) fl_X8_715 ft_8_120 ic_62 (pv_i _ ic_62 rfl) (pn_z (by decide)) dX8_qTakes_135 rfl ?_
                      exact x_return dX8_qTakes_138 rfl k
                    · replace k := k2 c500
                      refine x_iload_n (pc2 := 103) dX8_qTakes_102 rfl rfl ?_
                      refine x_iconst (pc2 := 104) dX8_qTakes_103 rfl ?_
                      obtain ⟨k1, k2⟩ := k
                      refine x_icmp_ne (tgt := 119) (pc2 := 107) dX8_qTakes_104 (by decide) rfl h5 (by decide) (fun c501 => ?_) (fun c501 => ?_)
                      · replace k := k1 c501
                        refine x_lload_n (pc2 := 120) dX8_qTakes_119 rfl rfl ?_
                        refine x_aload_n (pc2 := 121) dX8_qTakes_120 rfl rfl ?_
                        refine x_getf (pc2 := 124) (v := aJ (m 62 119)) fl_X8_710 ic_62 (fv_j _ ic_62 rfl) dX8_qTakes_121 rfl ?_
                        obtain ⟨h502, k⟩ := k
                        obtain ⟨k1, k2⟩ := k
                        refine x_lc_ge (tgt := 133) (pc2 := 128) dX8_qTakes_124 dX8_qTakes_125 (by decide) rfl h502 h407 (fun c503 => ?_) (fun c503 => ?_)
                        · replace k := k1 c503
                          refine x_aload_n (pc2 := 134) dX8_qTakes_133 rfl rfl ?_
                          refine x_iconst (pc2 := 135) dX8_qTakes_134 rfl ?_
                          refine x_putf (pc2 := 138) (x := 0) fl_X8_715 ft_8_120 ic_62 (pv_i _ ic_62 rfl) (pn_z (by decide)) dX8_qTakes_135 rfl ?_
                          exact x_return dX8_qTakes_138 rfl k
                        · replace k := k2 c503
                          refine x_aload_n (pc2 := 129) dX8_qTakes_128 rfl rfl ?_
                          refine x_lload_n (pc2 := 130) dX8_qTakes_129 rfl rfl ?_
                          refine x_putf (pc2 := 133) (x := l2) fl_X8_710 ft_8_119 ic_62 (pv_j _ ic_62 rfl) (pn_j _) dX8_qTakes_130 rfl ?_
                          refine x_aload_n (pc2 := 134) dX8_qTakes_133 rfl rfl ?_
                          refine x_iconst (pc2 := 135) dX8_qTakes_134 rfl ?_
                          refine x_putf (pc2 := 138) (x := 0) fl_X8_715 ft_8_120 ic_62 (pv_i _ ic_62 rfl) (pn_z (by decide)) dX8_qTakes_135 rfl ?_
                          exact x_return dX8_qTakes_138 rfl k
                      · replace k := k2 c501
                        refine x_lload_n (pc2 := 108) dX8_qTakes_107 rfl rfl ?_
                        refine x_aload_n (pc2 := 109) dX8_qTakes_108 rfl rfl ?_
                        refine x_getf (pc2 := 112) (v := aJ (m 62 119)) fl_X8_710 ic_62 (fv_j _ ic_62 rfl) dX8_qTakes_109 rfl ?_
                        obtain ⟨h504, k⟩ := k
                        obtain ⟨k1, k2⟩ := k
                        refine x_lc_le (tgt := 133) (pc2 := 116) dX8_qTakes_112 dX8_qTakes_113 (by decide) rfl h504 h407 (fun c505 => ?_) (fun c505 => ?_)
                        · replace k := k1 c505
                          refine x_aload_n (pc2 := 134) dX8_qTakes_133 rfl rfl ?_
                          refine x_iconst (pc2 := 135) dX8_qTakes_134 rfl ?_
                          refine x_putf (pc2 := 138) (x := 0) fl_X8_715 ft_8_120 ic_62 (pv_i _ ic_62 rfl) (pn_z (by decide)) dX8_qTakes_135 rfl ?_
                          exact x_return dX8_qTakes_138 rfl k
                        · replace k := k2 c505
                          refine x_goto (tgt := 128) dX8_qTakes_116 (by decide) ?_
                          refine x_aload_n (pc2 := 129) dX8_qTakes_128 rfl rfl ?_
                          refine x_lload_n (pc2 := 130) dX8_qTakes_129 rfl rfl ?_
                          refine x_putf (pc2 := 133) (x := l2) fl_X8_710 ft_8_119 ic_62 (pv_j _ ic_62 rfl) (pn_j _) dX8_qTakes_130 rfl ?_
                          refine x_aload_n (pc2 := 134) dX8_qTakes_133 rfl rfl ?_
                          refine x_iconst (pc2 := 135) dX8_qTakes_134 rfl ?_
                          refine x_putf (pc2 := 138) (x := 0) fl_X8_715 ft_8_120 ic_62 (pv_i _ ic_62 rfl) (pn_z (by decide)) dX8_qTakes_135 rfl ?_
                          exact x_return dX8_qTakes_138 rfl k
                · replace k := k2 c497
                  refine x_aload_n (pc2 := 81) dX8_qTakes_80 rfl rfl ?_
                  refine x_dup_r (pc2 := 82) dX8_qTakes_81 rfl (by decide) ?_
                  refine x_getf (pc2 := 85) (v := aJ (m 62 119)) fl_X8_710 ic_62 (fv_j _ ic_62 rfl) dX8_qTakes_82 rfl ?_
                  refine x_lload_n (pc2 := 86) dX8_qTakes_85 rfl rfl ?_
                  refine x_ladd (pc2 := 87) dX8_qTakes_86 rfl ?_
                  refine x_putf (pc2 := 90) (x := ((m 62 119) + l2)) fl_X8_710 ft_8_119 ic_62 (pv_j _ ic_62 rfl) (pn_j _) dX8_qTakes_87 rfl ?_
                  refine x_iload_n (pc2 := 91) dX8_qTakes_90 rfl rfl ?_
                  refine x_iconst (pc2 := 92) dX8_qTakes_91 rfl ?_
                  obtain ⟨k1, k2⟩ := k
                  refine x_icmp_le (tgt := 133) (pc2 := 95) dX8_qTakes_92 (by decide) rfl h5 (by decide) (fun c506 => ?_) (fun c506 => ?_)
                  · replace k := k1 c506
                    refine x_aload_n (pc2 := 134) dX8_qTakes_133 rfl rfl ?_
                    refine x_iconst (pc2 := 135) dX8_qTakes_134 rfl ?_
                    refine x_putf (pc2 := 138) (x := 0) fl_X8_715 ft_8_120 ic_62 (pv_i _ ic_62 rfl) (pn_z (by decide)) dX8_qTakes_135 rfl ?_
                    exact x_return dX8_qTakes_138 rfl k
                  · replace k := k2 c506
                    refine x_aload_n (pc2 := 96) dX8_qTakes_95 rfl rfl ?_
                    refine x_getf (pc2 := 99) (v := aI ((wr m 62 119 ((m 62 119) + l2)) 62 120)) fl_X8_715 ic_62 (fv_i _ ic_62 rfl) dX8_qTakes_96 rfl ?_
                    obtain ⟨h507, k⟩ := k
                    obtain ⟨k1, k2⟩ := k
                    refine x_if_ne (tgt := 128) (pc2 := 102) dX8_qTakes_99 (by decide) rfl h507 (fun c508 => ?_) (fun c508 => ?_)
                    · replace k := k1 c508
                      refine x_aload_n (pc2 := 129) dX8_qTakes_128 rfl rfl ?_
                      refine x_lload_n (pc2 := 130) dX8_qTakes_129 rfl rfl ?_
                      refine x_putf (pc2 := 133) (x := l2) fl_X8_710 ft_8_119 ic_62 (pv_j _ ic_62 rfl) (pn_j _) dX8_qTakes_130 rfl ?_
                      refine x_aload_n (pc2 := 134) dX8_qTakes_133 rfl rfl ?_
                      refine x_iconst (pc2 := 135) dX8_qTakes_134 rfl ?_
                      refine x_putf (pc2 := 138) (x := 0) fl_X8_715 ft_8_120 ic_62 (pv_i _ ic_62 rfl) (pn_z (by decide)) dX8_qTakes_135 rfl ?_
                      exact x_return dX8_qTakes_138 rfl k
                    · replace k := k2 c508
                      refine x_iload_n (pc2 := 103) dX8_qTakes_102 rfl rfl ?_
                      refine x_iconst (pc2 := 104) dX8_qTakes_103 rfl ?_
                      obtain ⟨k1, k2⟩ := k
                      refine x_icmp_ne (tgt := 119) (pc2 := 107) dX8_qTakes_104 (by decide) rfl h5 (by decide) (fun c509 => ?_) (fun c509 => ?_)
                      · replace k := k1 c509
                        refine x_lload_n (pc2 := 120) dX8_qTakes_119 rfl rfl ?_
                        refine x_aload_n (pc2 := 121) dX8_qTakes_120 rfl rfl ?_
                        refine x_getf (pc2 := 124) (v := aJ ((wr m 62 119 ((m 62 119) + l2)) 62 119)) fl_X8_710 ic_62 (fv_j _ ic_62 rfl) dX8_qTakes_121 rfl ?_
                        obtain ⟨h510, k⟩ := k
                        obtain ⟨h511, k⟩ := k
                        obtain ⟨k1, k2⟩ := k
                        refine x_lc_ge (tgt := 133) (pc2 := 128) dX8_qTakes_124 dX8_qTakes_125 (by decide) rfl h510 h511 (fun c512 => ?_) (fun c512 => ?_)
                        · replace k := k1 c512
                          refine x_aload_n (pc2 := 134) dX8_qTakes_133 rfl rfl ?_
                          refine x_iconst (pc2 := 135) dX8_qTakes_134 rfl ?_
                          refine x_putf (pc2 := 138) (x := 0) fl_X8_715 ft_8_120 ic_62 (pv_i _ ic_62 rfl) (pn_z (by decide)) dX8_qTakes_135 rfl ?_
                          exact x_return dX8_qTakes_138 rfl k
                        · replace k := k2 c512
                          refine x_aload_n (pc2 := 129) dX8_qTakes_128 rfl rfl ?_
                          refine x_lload_n (pc2 := 130) dX8_qTakes_129 rfl rfl ?_
                          refine x_putf (pc2 := 133) (x := l2) fl_X8_710 ft_8_119 ic_62 (pv_j _ ic_62 rfl) (pn_j _) dX8_qTakes_130 rfl ?_
                          refine x_aload_n (pc2 := 134) dX8_qTakes_133 rfl rfl ?_
                          refine x_iconst (pc2 := 135) dX8_qTakes_134 rfl ?_
                          refine x_putf (pc2 := 138) (x := 0) fl_X8_715 ft_8_120 ic_62 (pv_i _ ic_62 rfl) (pn_z (by decide)) dX8_qTakes_135 rfl ?_
                          exact x_return dX8_qTakes_138 rfl k
                      · replace k := k2 c509
                        refine x_lload_n (pc2 := 108) dX8_qTakes_107 rfl rfl ?_
                        refine x_aload_n (pc2 := 109) dX8_qTakes_108 rfl rfl ?_
                        refine x_getf (pc2 := 112) (v := aJ ((wr m 62 119 ((m 62 119) + l2)) 62 119)) fl_X8_710 ic_62 (fv_j _ ic_62 rfl) dX8_qTakes_109 rfl ?_
                        obtain ⟨h513, k⟩ := k
                        obtain ⟨h514, k⟩ := k
                        obtain ⟨k1, k2⟩ := k
                        refine x_lc_le (tgt := 133) (pc2 := 116) dX8_qTakes_112 dX8_qTakes_113 (by decide) rfl h513 h514 (fun c515 => ?_) (fun c515 => ?_)
                        · replace k := k1 c515
                          refine x_aload_n (pc2 := 134) dX8_qTakes_133 rfl rfl ?_
                          refine x_iconst (pc2 := 135) dX8_qTakes_134 rfl ?_
                          refine x_putf (pc2 := 138) (x := 0) fl_X8_715 ft_8_120 ic_62 (pv_i _ ic_62 rfl) (pn_z (by decide)) dX8_qTakes_135 rfl ?_
                          exact x_return dX8_qTakes_138 rfl k
                        · replace k := k2 c515
                          refine x_goto (tgt := 128) dX8_qTakes_116 (by decide) ?_
                          refine x_aload_n (pc2 := 129) dX8_qTakes_128 rfl rfl ?_
                          refine x_lload_n (pc2 := 130) dX8_qTakes_129 rfl rfl ?_
                          refine x_putf (pc2 := 133) (x := l2) fl_X8_710 ft_8_119 ic_62 (pv_j _ ic_62 rfl) (pn_j _) dX8_qTakes_130 rfl ?_
                          refine x_aload_n (pc2 := 134) dX8_qTakes_133 rfl rfl ?_
                          refine x_iconst (pc2 := 135) dX8_qTakes_134 rfl ?_
                          refine x_putf (pc2 := 138) (x := 0) fl_X8_715 ft_8_120 ic_62 (pv_i _ ic_62 rfl) (pn_z (by decide)) dX8_qTakes_135 rfl ?_
                          exact x_return dX8_qTakes_138 rfl k
              · replace k := k2 c496
                refine x_aload_n (pc2 := 66) dX8_qTakes_65 rfl rfl ?_
                refine x_dup_r (pc2 := 67) dX8_qTakes_66 rfl (by decide) ?_
                refine x_getf (pc2 := 70) (v := aJ (m 62 119)) fl_X8_710 ic_62 (fv_j _ ic_62 rfl) dX8_qTakes_67 rfl ?_
                refine x_lconst (pc2 := 71) (v := 1) dX8_qTakes_70 rfl rfl ?_
                refine x_ladd (pc2 := 72) dX8_qTakes_71 rfl ?_
                refine x_putf (pc2 := 75) (x := ((m 62 119) + 1)) fl_X8_710 ft_8_119 ic_62 (pv_j _ ic_62 rfl) (pn_j _) dX8_qTakes_72 rfl ?_
                refine x_iload_n (pc2 := 76) dX8_qTakes_75 rfl rfl ?_
                refine x_iconst (pc2 := 77) dX8_qTakes_76 rfl ?_
                obtain ⟨k1, k2⟩ := k
                refine x_icmp_ne (tgt := 90) (pc2 := 80) dX8_qTakes_77 (by decide) rfl h5 (by decide) (fun c516 => ?_) (fun c516 => ?_)
                · replace k := k1 c516
                  refine x_iload_n (pc2 := 91) dX8_qTakes_90 rfl rfl ?_
                  refine x_iconst (pc2 := 92) dX8_qTakes_91 rfl ?_
                  obtain ⟨k1, k2⟩ := k
                  refine x_icmp_le (tgt := 133) (pc2 := 95) dX8_qTakes_92 (by decide) rfl h5 (by decide) (fun c517 => ?_) (fun c517 => ?_)
                  · replace k := k1 c517
                    refine x_aload_n (pc2 := 134) dX8_qTakes_133 rfl rfl ?_
                    refine x_iconst (pc2 := 135) dX8_qTakes_134 rfl ?_
                    refine x_putf (pc2 := 138) (x := 0) fl_X8_715 ft_8_120 ic_62 (pv_i _ ic_62 rfl) (pn_z (by decide)) dX8_qTakes_135 rfl ?_
                    exact x_return dX8_qTakes_138 rfl k
                  · replace k := k2 c517
                    refine x_aload_n (pc2 := 96) dX8_qTakes_95 rfl rfl ?_
                    refine x_getf (pc2 := 99) (v := aI ((wr m 62 119 ((m 62 119) + 1)) 62 120)) fl_X8_715 ic_62 (fv_i _ ic_62 rfl) dX8_qTakes_96 rfl ?_
                    obtain ⟨h518, k⟩ := k
                    obtain ⟨k1, k2⟩ := k
                    refine x_if_ne (tgt := 128) (pc2 := 102) dX8_qTakes_99 (by decide) rfl h518 (fun c519 => ?_) (fun c519 => ?_)
                    · replace k := k1 c519
                      refine x_aload_n (pc2 := 129) dX8_qTakes_128 rfl rfl ?_
                      refine x_lload_n (pc2 := 130) dX8_qTakes_129 rfl rfl ?_
                      refine x_putf (pc2 := 133) (x := l2) fl_X8_710 ft_8_119 ic_62 (pv_j _ ic_62 rfl) (pn_j _) dX8_qTakes_130 rfl ?_
                      refine x_aload_n (pc2 := 134) dX8_qTakes_133 rfl rfl ?_
                      refine x_iconst (pc2 := 135) dX8_qTakes_134 rfl ?_
                      refine x_putf (pc2 := 138) (x := 0) fl_X8_715 ft_8_120 ic_62 (pv_i _ ic_62 rfl) (pn_z (by decide)) dX8_qTakes_135 rfl ?_
                      exact x_return dX8_qTakes_138 rfl k
                    · replace k := k2 c519
                      refine x_iload_n (pc2 := 103) dX8_qTakes_102 rfl rfl ?_
                      refine x_iconst (pc2 := 104) dX8_qTakes_103 rfl ?_
                      obtain ⟨k1, k2⟩ := k
                      refine x_icmp_ne (tgt := 119) (pc2 := 107) dX8_qTakes_104 (by decide) rfl h5 (by decide) (fun c520 => ?_) (fun c520 => ?_)
                      · replace k := k1 c520
                        refine x_lload_n (pc2 := 120) dX8_qTakes_119 rfl rfl ?_
                        refine x_aload_n (pc2 := 121) dX8_qTakes_120 rfl rfl ?_
                        refine x_getf (pc2 := 124) (v := aJ ((wr m 62 119 ((m 62 119) + 1)) 62 119)) fl_X8_710 ic_62 (fv_j _ ic_62 rfl) dX8_qTakes_121 rfl ?_
                        obtain ⟨h521, k⟩ := k
                        obtain ⟨h522, k⟩ := k
                        obtain ⟨k1, k2⟩ := k
                        refine x_lc_ge (tgt := 133) (pc2 := 128) dX8_qTakes_124 dX8_qTakes_125 (by decide) rfl h521 h522 (fun c523 => ?_) (fun c523 => ?_)
                        · replace k := k1 c523
                          refine x_aload_n (pc2 := 134) dX8_qTakes_133 rfl rfl ?_
                          refine x_iconst (pc2 := 135) dX8_qTakes_134 rfl ?_
                          refine x_putf (pc2 := 138) (x := 0) fl_X8_715 ft_8_120 ic_62 (pv_i _ ic_62 rfl) (pn_z (by decide)) dX8_qTakes_135 rfl ?_
                          exact x_return dX8_qTakes_138 rfl k
                        · replace k := k2 c523
                          refine x_aload_n (pc2 := 129) dX8_qTakes_128 rfl rfl ?_
                          refine x_lload_n (pc2 := 130) dX8_qTakes_129 rfl rfl ?_
                          refine x_putf (pc2 := 133) (x := l2) fl_X8_710 ft_8_119 ic_62 (pv_j _ ic_62 rfl) (pn_j _) dX8_qTakes_130 rfl ?_
                          refine x_aload_n (pc2 := 134) dX8_qTakes_133 rfl rfl ?_
                          refine x_iconst (pc2 := 135) dX8_qTakes_134 rfl ?_
                          refine x_putf (pc2 := 138) (x := 0) fl_X8_715 ft_8_120 ic_62 (pv_i _ ic_62 rfl) (pn_z (by decide)) dX8_qTakes_135 rfl ?_
                          exact x_return dX8_qTakes_138 rfl k
                      · replace k := k2 c520
                        refine x_lload_n (pc2 := 108) dX8_qTakes_107 rfl rfl ?_
                        refine x_aload_n (pc2 := 109) dX8_qTakes_108 rfl rfl ?_
                        refine x_getf (pc2 := 112) (v := aJ ((wr m 62 119 ((m 62 119) + 1)) 62 119)) fl_X8_710 ic_62 (fv_j _ ic_62 rfl) dX8_qTakes_109 rfl ?_
                        obtain ⟨h524, k⟩ := k
                        obtain ⟨h525, k⟩ := k
                        obtain ⟨k1, k2⟩ := k
                        refine x_lc_le (tgt := 133) (pc2 := 116) dX8_qTakes_112 dX8_qTakes_113 (by decide) rfl h524 h525 (fun c526 => ?_) (fun c526 => ?_)
                        · replace k := k1 c526
                          refine x_aload_n (pc2 := 134) dX8_qTakes_133 rfl rfl ?_
                          refine x_iconst (pc2 := 135) dX8_qTakes_134 rfl ?_
                          refine x_putf (pc2 := 138) (x := 0) fl_X8_715 ft_8_120 ic_62 (pv_i _ ic_62 rfl) (pn_z (by decide)) dX8_qTakes_135 rfl ?_
                          exact x_return dX8_qTakes_138 rfl k
                        · replace k := k2 c526
                          refine x_goto (tgt := 128) dX8_qTakes_116 (by decide) ?_
                          refine x_aload_n (pc2 := 129) dX8_qTakes_128 rfl rfl ?_
                          refine x_lload_n (pc2 := 130) dX8_qTakes_129 rfl rfl ?_
                          refine x_putf (pc2 := 133) (x := l2) fl_X8_710 ft_8_119 ic_62 (pv_j _ ic_62 rfl) (pn_j _) dX8_qTakes_130 rfl ?_
                          refine x_aload_n (pc2 := 134) dX8_qTakes_133 rfl rfl ?_
                          refine x_iconst (pc2 := 135) dX8_qTakes_134 rfl ?_
                          refine x_putf (pc2 := 138) (x := 0) fl_X8_715 ft_8_120 ic_62 (pv_i _ ic_62 rfl) (pn_z (by decide)) dX8_qTakes_135 rfl ?_
                          exact x_return dX8_qTakes_138 rfl k
                · replace k := k2 c516
                  refine x_aload_n (pc2 := 81) dX8_qTakes_80 rfl rfl ?_
                  refine x_dup_r (pc2 := 82) dX8_qTakes_81 rfl (by decide) ?_
                  refine x_getf (pc2 := 85) (v := aJ ((wr m 62 119 ((m 62 119) + 1)) 62 119)) fl_X8_710 ic_62 (fv_j _ ic_62 rfl) dX8_qTakes_82 rfl ?_
                  refine x_lload_n (pc2 := 86) dX8_qTakes_85 rfl rfl ?_
                  refine x_ladd (pc2 := 87) dX8_qTakes_86 rfl ?_
                  refine x_putf (pc2 := 90) (x := (((wr m 62 119 ((m 62 119) + 1)) 62 119) + l2)) fl_X8_710 ft_8_119 ic_62 (pv_j _ ic_62 rfl) (pn_j _) dX8_qTakes_87 rfl ?_
                  refine x_iload_n (pc2 := 91) dX8_qTakes_90 rfl rfl ?_
                  refine x_iconst (pc2 := 92) dX8_qTakes_91 rfl ?_
                  obtain ⟨k1, k2⟩ := k
                  refine x_icmp_le (tgt := 133) (pc2 := 95) dX8_qTakes_92 (by decide) rfl h5 (by decide) (fun c527 => ?_) (fun c527 => ?_)
                  · replace k := k1 c527
                    refine x_aload_n (pc2 := 134) dX8_qTakes_133 rfl rfl ?_
                    refine x_iconst (pc2 := 135) dX8_qTakes_134 rfl ?_
                    refine x_putf (pc2 := 138) (x := 0) fl_X8_715 ft_8_120 ic_62 (pv_i _ ic_62 rfl) (pn_z (by decide)) dX8_qTakes_135 rfl ?_
                    exact x_return dX8_qTakes_138 rfl k
                  · replace k := k2 c527
                    refine x_aload_n (pc2 := 96) dX8_qTakes_95 rfl rfl ?_
                    refine x_getf (pc2 := 99) (v := aI ((wr (wr m 62 119 ((m 62 119) + 1)) 62 119 (((wr m 62 119 ((m 62 119) + 1)) 62 119) + l2)) 62 120)) fl_X8_715 ic_62 (fv_i _ ic_62 rfl) dX8_qTakes_96 rfl ?_
                    obtain ⟨h528, k⟩ := k
                    obtain ⟨k1, k2⟩ := k
                    refine x_if_ne (tgt := 128) (pc2 := 102) dX8_qTakes_99 (by decide) rfl h528 (fun c529 => ?_) (fun c529 => ?_)
                    · replace k := k1 c529
                      refine x_aload_n (pc2 := 129) dX8_qTakes_128 rfl rfl ?_
                      refine x_lload_n (pc2 := 130) dX8_qTakes_129 rfl rfl ?_
                      refine x_putf (pc2 := 133) (x := l2) fl_X8_710 ft_8_119 ic_62 (pv_j _ ic_62 rfl) (pn_j _) dX8_qTakes_130 rfl ?_
                      refine x_aload_n (pc2 := 134) dX8_qTakes_133 rfl rfl ?_
                      refine x_iconst (pc2 := 135) dX8_qTakes_134 rfl ?_
                      refine x_putf (pc2 := 138) (x := 0) fl_X8_715 ft_8_120 ic_62 (pv_i _ ic_62 rfl) (pn_z (by decide)) dX8_qTakes_135 rfl ?_
                      exact x_return dX8_qTakes_138 rfl k
                    · replace k := k2 c529
                      refine x_iload_n (pc2 := 103) dX8_qTakes_102 rfl rfl ?_
                      refine x_iconst (pc2 := 104) dX8_qTakes_103 rfl ?_
                      obtain ⟨k1, k2⟩ := k
                      refine x_icmp_ne (tgt := 119) (pc2 := 107) dX8_qTakes_104 (by decide) rfl h5 (by decide) (fun c530 => ?_) (fun c530 => ?_)
                      · replace k := k1 c530
                        refine x_lload_n (pc2 := 120) dX8_qTakes_119 rfl rfl ?_
                        refine x_aload_n (pc2 := 121) dX8_qTakes_120 rfl rfl ?_
                        refine x_getf (pc2 := 124) (v := aJ ((wr (wr m 62 119 ((m 62 119) + 1)) 62 119 (((wr m 62 119 ((m 62 119) + 1)) 62 119) + l2)) 62 119)) fl_X8_710 ic_62 (fv_j _ ic_62 rfl) dX8_qTakes_121 rfl ?_
                        obtain ⟨h531, k⟩ := k
                        obtain ⟨h532, k⟩ := k
                        obtain ⟨k1, k2⟩ := k
                        refine x_lc_ge (tgt := 133) (pc2 := 128) dX8_qTakes_124 dX8_qTakes_125 (by decide) rfl h531 h532 (fun c533 => ?_) (fun c533 => ?_)
                        · replace k := k1 c533
                          refine x_aload_n (pc2 := 134) dX8_qTakes_133 rfl rfl ?_
                          refine x_iconst (pc2 := 135) dX8_qTakes_134 rfl ?_
                          refine x_putf (pc2 := 138) (x := 0) fl_X8_715 ft_8_120 ic_62 (pv_i _ ic_62 rfl) (pn_z (by decide)) dX8_qTakes_135 rfl ?_
                          exact x_return dX8_qTakes_138 rfl k
                        · replace k := k2 c533
                          refine x_aload_n (pc2 := 129) dX8_qTakes_128 rfl rfl ?_
                          refine x_lload_n (pc2 := 130) dX8_qTakes_129 rfl rfl ?_
                          refine x_putf (pc2 := 133) (x := l2) fl_X8_710 ft_8_119 ic_62 (pv_j _ ic_62 rfl) (pn_j _) dX8_qTakes_130 rfl ?_
                          refine x_aload_n (pc2 := 134) dX8_qTakes_133 rfl rfl ?_
                          refine x_iconst (pc2 := 135) dX8_qTakes_134 rfl ?_
                          refine x_putf (pc2 := 138) (x := 0) fl_X8_715 ft_8_120 ic_62 (pv_i _ ic_62 rfl) (pn_z (by decide)) dX8_qTakes_135 rfl ?_
                          exact x_return dX8_qTakes_138 rfl k
                      · replace k := k2 c530
                        refine x_lload_n (pc2 := 108) dX8_qTakes_107 rfl rfl ?_
                        refine x_aload_n (pc2 := 109) dX8_qTakes_108 rfl rfl ?_
                        refine x_getf (pc2 := 112) (v := aJ ((wr (wr m 62 119 ((m 62 119) + 1)) 62 119 (((wr m 62 119 ((m 62 119) + 1)) 62 119) + l2)) 62 119)) fl_X8_710 ic_62 (fv_j _ ic_62 rfl) dX8_qTakes_109 rfl ?_
                        obtain ⟨h534, k⟩ := k
                        obtain ⟨h535, k⟩ := k
                        obtain ⟨k1, k2⟩ := k
                        refine x_lc_le (tgt := 133) (pc2 := 116) dX8_qTakes_112 dX8_qTakes_113 (by decide) rfl h534 h535 (fun c536 => ?_) (fun c536 => ?_)
                        · replace k := k1 c536
                          refine x_aload_n (pc2 := 134) dX8_qTakes_133 rfl rfl ?_
                          refine x_iconst (pc2 := 135) dX8_qTakes_134 rfl ?_
                          refine x_putf (pc2 := 138) (x := 0) fl_X8_715 ft_8_120 ic_62 (pv_i _ ic_62 rfl) (pn_z (by decide)) dX8_qTakes_135 rfl ?_
                          exact x_return dX8_qTakes_138 rfl k
                        · replace k := k2 c536
                          refine x_goto (tgt := 128) dX8_qTakes_116 (by decide) ?_
                          refine x_aload_n (pc2 := 129) dX8_qTakes_128 rfl rfl ?_
                          refine x_lload_n (pc2 := 130) dX8_qTakes_129 rfl rfl ?_
                          refine x_putf (pc2 := 133) (x := l2) fl_X8_710 ft_8_119 ic_62 (pv_j _ ic_62 rfl) (pn_j _) dX8_qTakes_130 rfl ?_
                          refine x_aload_n (pc2 := 134) dX8_qTakes_133 rfl rfl ?_
                          refine x_iconst (pc2 := 135) dX8_qTakes_134 rfl ?_
                          refine x_putf (pc2 := 138) (x := 0) fl_X8_715 ft_8_120 ic_62 (pv_i _ ic_62 rfl) (pn_z (by decide)) dX8_qTakes_135 rfl ?_
                          exact x_return dX8_qTakes_138 rfl k
          · replace k := k2 c475
            refine x_iload (pc2 := 45) dX8_qTakes_43 rfl rfl ?_
            obtain ⟨k1, k2⟩ := k
            refine x_if_eq (tgt := 55) (pc2 := 48) dX8_qTakes_45 (by decide) rfl h207 (fun c537 => ?_) (fun c537 => ?_)
            · replace k := k1 c537
              refine x_iload_n (pc2 := 56) dX8_qTakes_55 rfl rfl ?_
              refine x_iconst (pc2 := 57) dX8_qTakes_56 rfl ?_
              obtain ⟨k1, k2⟩ := k
              refine x_icmp_ne (tgt := 75) (pc2 := 60) dX8_qTakes_57 (by decide) rfl h5 (by decide) (fun c538 => ?_) (fun c538 => ?_)
              · replace k := k1 c538
                refine x_iload_n (pc2 := 76) dX8_qTakes_75 rfl rfl ?_
                refine x_iconst (pc2 := 77) dX8_qTakes_76 rfl ?_
                obtain ⟨k1, k2⟩ := k
                refine x_icmp_ne (tgt := 90) (pc2 := 80) dX8_qTakes_77 (by decide) rfl h5 (by decide) (fun c539 => ?_) (fun c539 => ?_)
                · replace k := k1 c539
                  refine x_iload_n (pc2 := 91) dX8_qTakes_90 rfl rfl ?_
                  refine x_iconst (pc2 := 92) dX8_qTakes_91 rfl ?_
                  obtain ⟨k1, k2⟩ := k
                  refine x_icmp_le (tgt := 133) (pc2 := 95) dX8_qTakes_92 (by decide) rfl h5 (by decide) (fun c540 => ?_) (fun c540 => ?_)
                  · replace k := k1 c540
                    refine x_aload_n (pc2 := 134) dX8_qTakes_133 rfl rfl ?_
                    refine x_iconst (pc2 := 135) dX8_qTakes_134 rfl ?_
                    refine x_putf (pc2 := 138) (x := 0) fl_X8_715 ft_8_120 ic_62 (pv_i _ ic_62 rfl) (pn_z (by decide)) dX8_qTakes_135 rfl ?_
                    exact x_return dX8_qTakes_138 rfl k
                  · replace k := k2 c540
                    refine x_aload_n (pc2 := 96) dX8_qTakes_95 rfl rfl ?_
                    refine x_getf (pc2 := 99) (v := aI (m 62 120)) fl_X8_715 ic_62 (fv_i _ ic_62 rfl) dX8_qTakes_96 rfl ?_
                    obtain ⟨h541, k⟩ := k
                    obtain ⟨k1, k2⟩ := k
                    refine x_if_ne (tgt := 128) (pc2 := 102) dX8_qTakes_99 (by decide) rfl h541 (fun c542 => ?_) (fun c542 => ?_)
                    · replace k := k1 c542
                      refine x_aload_n (pc2 := 129) dX8_qTakes_128 rfl rfl ?_
                      refine x_lload_n (pc2 := 130) dX8_qTakes_129 rfl rfl ?_
                      refine x_putf (pc2 := 133) (x := l2) fl_X8_710 ft_8_119 ic_62 (pv_j _ ic_62 rfl) (pn_j _) dX8_qTakes_130 rfl ?_
                      refine x_aload_n (pc2 := 134) dX8_qTakes_133 rfl rfl ?_
                      refine x_iconst (pc2 := 135) dX8_qTakes_134 rfl ?_
                      refine x_putf (pc2 := 138) (x := 0) fl_X8_715 ft_8_120 ic_62 (pv_i _ ic_62 rfl) (pn_z (by decide)) dX8_qTakes_135 rfl ?_
                      exact x_return dX8_qTakes_138 rfl k
                    · replace k := k2 c542
                      refine x_iload_n (pc2 := 103) dX8_qTakes_102 rfl rfl ?_
                      refine x_iconst (pc2 := 104) dX8_qTakes_103 rfl ?_
                      obtain ⟨k1, k2⟩ := k
                      refine x_icmp_ne (tgt := 119) (pc2 := 107) dX8_qTakes_104 (by decide) rfl h5 (by decide) (fun c543 => ?_) (fun c543 => ?_)
                      · replace k := k1 c543
                        refine x_lload_n (pc2 := 120) dX8_qTakes_119 rfl rfl ?_
                        refine x_aload_n (pc2 := 121) dX8_qTakes_120 rfl rfl ?_
                        refine x_getf (pc2 := 124) (v := aJ (m 62 119)) fl_X8_710 ic_62 (fv_j _ ic_62 rfl) dX8_qTakes_121 rfl ?_
                        obtain ⟨h544, k⟩ := k
                        obtain ⟨k1, k2⟩ := k
                        refine x_lc_ge (tgt := 133) (pc2 := 128) dX8_qTakes_124 dX8_qTakes_125 (by decide) rfl h544 h407 (fun c545 => ?_) (fun c545 => ?_)
                        · replace k := k1 c545
                          refine x_aload_n (pc2 := 134) dX8_qTakes_133 rfl rfl ?_
                          refine x_iconst (pc2 := 135) dX8_qTakes_134 rfl ?_
                          refine x_putf (pc2 := 138) (x := 0) fl_X8_715 ft_8_120 ic_62 (pv_i _ ic_62 rfl) (pn_z (by decide)) dX8_qTakes_135 rfl ?_
                          exact x_return dX8_qTakes_138 rfl k
                        · replace k := k2 c545
                          refine x_aload_n (pc2 := 129) dX8_qTakes_128 rfl rfl ?_
                          refine x_lload_n (pc2 := 130) dX8_qTakes_129 rfl rfl ?_
                          refine x_putf (pc2 := 133) (x := l2) fl_X8_710 ft_8_119 ic_62 (pv_j _ ic_62 rfl) (pn_j _) dX8_qTakes_130 rfl ?_
                          refine x_aload_n (pc2 := 134) dX8_qTakes_133 rfl rfl ?_
                          refine x_iconst (pc2 := 135) dX8_qTakes_134 rfl ?_
                          refine x_putf (pc2 := 138) (x := 0) fl_X8_715 ft_8_120 ic_62 (pv_i _ ic_62 rfl) (pn_z (by decide)) dX8_qTakes_135 rfl ?_
                          exact x_return dX8_qTakes_138 rfl k
                      · replace k := k2 c543
                        refine x_lload_n (pc2 := 108) dX8_qTakes_107 rfl rfl ?_
                        refine x_aload_n (pc2 := 109) dX8_qTakes_108 rfl rfl ?_
                        refine x_getf (pc2 := 112) (v := aJ (m 62 119)) fl_X8_710 ic_62 (fv_j _ ic_62 rfl) dX8_qTakes_109 rfl ?_
                        obtain ⟨h546, k⟩ := k
                        obtain ⟨k1, k2⟩ := k
                        refine x_lc_le (tgt := 133) (pc2 := 116) dX8_qTakes_112 dX8_qTakes_113 (by decide) rfl h546 h407 (fun c547 => ?_) (fun c547 => ?_)
                        · replace k := k1 c547
                          refine x_aload_n (pc2 := 134) dX8_qTakes_133 rfl rfl ?_
                          refine x_iconst (pc2 := 135) dX8_qTakes_134 rfl ?_
                          refine x_putf (pc2 := 138) (x := 0) fl_X8_715 ft_8_120 ic_62 (pv_i _ ic_62 rfl) (pn_z (by decide)) dX8_qTakes_135 rfl ?_
                          exact x_return dX8_qTakes_138 rfl k
                        · replace k := k2 c547
                          refine x_goto (tgt := 128) dX8_qTakes_116 (by decide) ?_
                          refine x_aload_n (pc2 := 129) dX8_qTakes_128 rfl rfl ?_
                          refine x_lload_n (pc2 := 130) dX8_qTakes_129 rfl rfl ?_
                          refine x_putf (pc2 := 133) (x := l2) fl_X8_710 ft_8_119 ic_62 (pv_j _ ic_62 rfl) (pn_j _) dX8_qTakes_130 rfl ?_
                          refine x_aload_n (pc2 := 134) dX8_qTakes_133 rfl rfl ?_
                          refine x_iconst (pc2 := 135) dX8_qTakes_134 rfl ?_
                          refine x_putf (pc2 := 138) (x := 0) fl_X8_715 ft_8_120 ic_62 (pv_i _ ic_62 rfl) (pn_z (by decide)) dX8_qTakes_135 rfl ?_
                          exact x_return dX8_qTakes_138 rfl k
                · replace k := k2 c539
                  refine x_aload_n (pc2 := 81) dX8_qTakes_80 rfl rfl ?_
                  refine x_dup_r (pc2 := 82) dX8_qTakes_81 rfl (by decide) ?_
                  refine x_getf (pc2 := 85) (v := aJ (m 62 119)) fl_X8_710 ic_62 (fv_j _ ic_62 rfl) dX8_qTakes_82 rfl ?_
                  refine x_lload_n (pc2 := 86) dX8_qTakes_85 rfl rfl ?_
                  refine x_ladd (pc2 := 87) dX8_qTakes_86 rfl ?_
                  refine x_putf (pc2 := 90) (x := ((m 62 119) + l2)) fl_X8_710 ft_8_119 ic_62 (pv_j _ ic_62 rfl) (pn_j _) dX8_qTakes_87 rfl ?_
                  refine x_iload_n (pc2 := 91) dX8_qTakes_90 rfl rfl ?_
                  refine x_iconst (pc2 := 92) dX8_qTakes_91 rfl ?_
                  obtain ⟨k1, k2⟩ := k
                  refine x_icmp_le (tgt := 133) (pc2 := 95) dX8_qTakes_92 (by decide) rfl h5 (by decide) (fun c548 => ?_) (fun c548 => ?_)
                  · replace k := k1 c548
                    refine x_aload_n (pc2 := 134) dX8_qTakes_133 rfl rfl ?_
                    refine x_iconst (pc2 := 135) dX8_qTakes_134 rfl ?_
                    refine x_putf (pc2 := 138) (x := 0) fl_X8_715 ft_8_120 ic_62 (pv_i _ ic_62 rfl) (pn_z (by decide)) dX8_qTakes_135 rfl ?_
                    exact x_return dX8_qTakes_138 rfl k
                  · replace k := k2 c548
                    refine x_aload_n (pc2 := 96) dX8_qTakes_95 rfl rfl ?_
                    refine x_getf (pc2 := 99) (v := aI ((wr m 62 119 ((m 62 119) + l2)) 62 120)) fl_X8_715 ic_62 (fv_i _ ic_62 rfl) dX8_qTakes_96 rfl ?_
                    obtain ⟨h549, k⟩ := k
                    obtain ⟨k1, k2⟩ := k
                    refine x_if_ne (tgt := 128) (pc2 := 102) dX8_qTakes_99 (by decide) rfl h549 (fun c550 => ?_) (fun c550 => ?_)
                    · replace k := k1 c550
                      refine x_aload_n (pc2 := 129) dX8_qTakes_128 rfl rfl ?_
                      refine x_lload_n (pc2 := 130) dX8_qTakes_129 rfl rfl ?_
                      refine x_putf (pc2 := 133) (x := l2) fl_X8_710 ft_8_119 ic_62 (pv_j _ ic_62 rfl) (pn_j _) dX8_qTakes_130 rfl ?_
                      refine x_aload_n (pc2 := 134) dX8_qTakes_133 rfl rfl ?_
                      refine x_iconst (pc2 := 135) dX8_qTakes_134 rfl ?_
                      refine x_putf (pc2 := 138) (x := 0) fl_X8_715 ft_8_120 ic_62 (pv_i _ ic_62 rfl) (pn_z (by decide)) dX8_qTakes_135 rfl ?_
                      exact x_return dX8_qTakes_138 rfl k
                    · replace k := k2 c550
                      refine x_iload_n (pc2 := 103) dX8_qTakes_102 rfl rfl ?_
                      refine x_iconst (pc2 := 104) dX8_qTakes_103 rfl ?_
                      obtain ⟨k1, k2⟩ := k
                      refine x_icmp_ne (tgt := 119) (pc2 := 107) dX8_qTakes_104 (by decide) rfl h5 (by decide) (fun c551 => ?_) (fun c551 => ?_)
                      · replace k := k1 c551
                        refine x_lload_n (pc2 := 120) dX8_qTakes_119 rfl rfl ?_
                        refine x_aload_n (pc2 := 121) dX8_qTakes_120 rfl rfl ?_
                        refine x_getf (pc2 := 124) (v := aJ ((wr m 62 119 ((m 62 119) + l2)) 62 119)) fl_X8_710 ic_62 (fv_j _ ic_62 rfl) dX8_qTakes_121 rfl ?_
                        obtain ⟨h552, k⟩ := k
                        obtain ⟨h553, k⟩ := k
                        obtain ⟨k1, k2⟩ := k
                        refine x_lc_ge (tgt := 133) (pc2 := 128) dX8_qTakes_124 dX8_qTakes_125 (by decide) rfl h552 h553 (fun c554 => ?_) (fun c554 => ?_)
                        · replace k := k1 c554
                          refine x_aload_n (pc2 := 134) dX8_qTakes_133 rfl rfl ?_
                          refine x_iconst (pc2 := 135) dX8_qTakes_134 rfl ?_
                          refine x_putf (pc2 := 138) (x := 0) fl_X8_715 ft_8_120 ic_62 (pv_i _ ic_62 rfl) (pn_z (by decide)) dX8_qTakes_135 rfl ?_
                          exact x_return dX8_qTakes_138 rfl k
                        · replace k := k2 c554
                          refine x_aload_n (pc2 := 129) dX8_qTakes_128 rfl rfl ?_
                          refine x_lload_n (pc2 := 130) dX8_qTakes_129 rfl rfl ?_
                          refine x_putf (pc2 := 133) (x := l2) fl_X8_710 ft_8_119 ic_62 (pv_j _ ic_62 rfl) (pn_j _) dX8_qTakes_130 rfl ?_
                          refine x_aload_n (pc2 := 134) dX8_qTakes_133 rfl rfl ?_
                          refine x_iconst (pc2 := 135) dX8_qTakes_134 rfl ?_
                          refine x_putf (pc2 := 138) (x := 0) fl_X8_715 ft_8_120 ic_62 (pv_i _ ic_62 rfl) (pn_z (by decide)) dX8_qTakes_135 rfl ?_
                          exact x_return dX8_qTakes_138 rfl k
                      · replace k := k2 c551
                        refine x_lload_n (pc2 := 108) dX8_qTakes_107 rfl rfl ?_
                        refine x_aload_n (pc2 := 109) dX8_qTakes_108 rfl rfl ?_
                        refine x_getf (pc2 := 112) (v := aJ ((wr m 62 119 ((m 62 119) + l2)) 62 119)) fl_X8_710 ic_62 (fv_j _ ic_62 rfl) dX8_qTakes_109 rfl ?_
                        obtain ⟨h555, k⟩ := k
                        obtain ⟨h556, k⟩ := k
                        obtain ⟨k1, k2⟩ := k
                        refine x_lc_le (tgt := 133) (pc2 := 116) dX8_qTakes_112 dX8_qTakes_113 (by decide) rfl h555 h556 (fun c557 => ?_) (fun c557 => ?_)
                        · replace k := k1 c557
                          refine x_aload_n (pc2 := 134) dX8_qTakes_133 rfl rfl ?_
                          refine x_iconst (pc2 := 135) dX8_qTakes_134 rfl ?_
                          refine x_putf (pc2 := 138) (x := 0) fl_X8_715 ft_8_120 ic_62 (pv_i _ ic_62 rfl) (pn_z (by decide)) dX8_qTakes_135 rfl ?_
                          exact x_return dX8_qTakes_138 rfl k
                        · replace k := k2 c557
                          refine x_goto (tgt := 128) dX8_qTakes_116 (by decide) ?_
                          refine x_aload_n (pc2 := 129) dX8_qTakes_128 rfl rfl ?_
                          refine x_lload_n (pc2 := 130) dX8_qTakes_129 rfl rfl ?_
                          refine x_putf (pc2 := 133) (x := l2) fl_X8_710 ft_8_119 ic_62 (pv_j _ ic_62 rfl) (pn_j _) dX8_qTakes_130 rfl ?_
                          refine x_aload_n (pc2 := 134) dX8_qTakes_133 rfl rfl ?_
                          refine x_iconst (pc2 := 135) dX8_qTakes_134 rfl ?_
                          refine x_putf (pc2 := 138) (x := 0) fl_X8_715 ft_8_120 ic_62 (pv_i _ ic_62 rfl) (pn_z (by decide)) dX8_qTakes_135 rfl ?_
                          exact x_return dX8_qTakes_138 rfl k
              · replace k := k2 c538
                refine x_iload (pc2 := 62) dX8_qTakes_60 rfl rfl ?_
                obtain ⟨k1, k2⟩ := k
                refine x_if_eq (tgt := 75) (pc2 := 65) dX8_qTakes_62 (by decide) rfl h207 (fun c558 => ?_) (fun c558 => ?_)
                · replace k := k1 c558
                  refine x_iload_n (pc2 := 76) dX8_qTakes_75 rfl rfl ?_
                  refine x_iconst (pc2 := 77) dX8_qTakes_76 rfl ?_
                  obtain ⟨k1, k2⟩ := k
                  refine x_icmp_ne (tgt := 90) (pc2 := 80) dX8_qTakes_77 (by decide) rfl h5 (by decide) (fun c559 => ?_) (fun c559 => ?_)
                  · replace k := k1 c559
                    refine x_iload_n (pc2 := 91) dX8_qTakes_90 rfl rfl ?_
                    refine x_iconst (pc2 := 92) dX8_qTakes_91 rfl ?_
                    obtain ⟨k1, k2⟩ := k
                    refine x_icmp_le (tgt := 133) (pc2 := 95) dX8_qTakes_92 (by decide) rfl h5 (by decide) (fun c560 => ?_) (fun c560 => ?_)
                    · replace k := k1 c560
                      refine x_aload_n (pc2 := 134) dX8_qTakes_133 rfl rfl ?_
                      refine x_iconst (pc2 := 135) dX8_qTakes_134 rfl ?_
                      refine x_putf (pc2 := 138) (x := 0) fl_X8_715 ft_8_120 ic_62 (pv_i _ ic_62 rfl) (pn_z (by decide)) dX8_qTakes_135 rfl ?_
                      exact x_return dX8_qTakes_138 rfl k
                    · replace k := k2 c560
                      refine x_aload_n (pc2 := 96) dX8_qTakes_95 rfl rfl ?_
                      refine x_getf (pc2 := 99) (v := aI (m 62 120)) fl_X8_715 ic_62 (fv_i _ ic_62 rfl) dX8_qTakes_96 rfl ?_
                      obtain ⟨h561, k⟩ := k
                      obtain ⟨k1, k2⟩ := k
                      refine x_if_ne (tgt := 128) (pc2 := 102) dX8_qTakes_99 (by decide) rfl h561 (fun c562 => ?_) (fun c562 => ?_)
                      · replace k := k1 c562
                        refine x_aload_n (pc2 := 129) dX8_qTakes_128 rfl rfl ?_
                        refine x_lload_n (pc2 := 130) dX8_qTakes_129 rfl rfl ?_
                        refine x_putf (pc2 := 133) (x := l2) fl_X8_710 ft_8_119 ic_62 (pv_j _ ic_62 rfl) (pn_j _) dX8_qTakes_130 rfl ?_
                        refine x_aload_n (pc2 := 134) dX8_qTakes_133 rfl rfl ?_
                        refine x_iconst (pc2 := 135) dX8_qTakes_134 rfl ?_
                        refine x_putf (pc2 := 138) (x := 0) fl_X8_715 ft_8_120 ic_62 (pv_i _ ic_62 rfl) (pn_z (by decide)) dX8_qTakes_135 rfl ?_
                        exact x_return dX8_qTakes_138 rfl k
                      · replace k := k2 c562
                        refine x_iload_n (pc2 := 103) dX8_qTakes_102 rfl rfl ?_
                        refine x_iconst (pc2 := 104) dX8_qTakes_103 rfl ?_
                        obtain ⟨k1, k2⟩ := k
                        refine x_icmp_ne (tgt := 119) (pc2 := 107) dX8_qTakes_104 (by decide) rfl h5 (by decide) (fun c563 => ?_) (fun c563 => ?_)
                        · replace k := k1 c563
                          refine x_lload_n (pc2 := 120) dX8_qTakes_119 rfl rfl ?_
                          refine x_aload_n (pc2 := 121) dX8_qTakes_120 rfl rfl ?_
                          refine x_getf (pc2 := 124) (v := aJ (m 62 119)) fl_X8_710 ic_62 (fv_j _ ic_62 rfl) dX8_qTakes_121 rfl ?_
                          obtain ⟨h564, k⟩ := k
                          obtain ⟨k1, k2⟩ := k
                          refine x_lc_ge (tgt := 133) (pc2 := 128) dX8_qTakes_124 dX8_qTakes_125 (by decide) rfl h564 h407 (fun c565 => ?_) (fun c565 => ?_)
                          · replace k := k1 c565
                            refine x_aload_n (pc2 := 134) dX8_qTakes_133 rfl rfl ?_
                            refine x_iconst (pc2 := 135) dX8_qTakes_134 rfl ?_
                            refine x_putf (pc2 := 138) (x := 0) fl_X8_715 ft_8_120 ic_62 (pv_i _ ic_62 rfl) (pn_z (by decide)) dX8_qTakes_135 rfl ?_
                            exact x_return dX8_qTakes_138 rfl k
                          · replace k := k2 c565
                            refine x_aload_n (pc2 := 129) dX8_qTakes_128 rfl rfl ?_
                            refine x_lload_n (pc2 := 130) dX8_qTakes_129 rfl rfl ?_
                            refine x_putf (pc2 := 133) (x := l2) fl_X8_710 ft_8_119 ic_62 (pv_j _ ic_62 rfl) (pn_j _) dX8_qTakes_130 rfl ?_
                            refine x_aload_n (pc2 := 134) dX8_qTakes_133 rfl rfl ?_
                            refine x_iconst (pc2 := 135) dX8_qTakes_134 rfl ?_
                            refine x_putf (pc2 := 138) (x := 0) fl_X8_715 ft_8_120 ic_62 (pv_i _ ic_62 rfl) (pn_z (by decide)) dX8_qTakes_135 rfl ?_
                            exact x_return dX8_qTakes_138 rfl k
                        · replace k := k2 c563
                          refine x_lload_n (pc2 := 108) dX8_qTakes_107 rfl rfl ?_
                          refine x_aload_n (pc2 := 109) dX8_qTakes_108 rfl rfl ?_
                          refine x_getf (pc2 := 112) (v := aJ (m 62 119)) fl_X8_710 ic_62 (fv_j _ ic_62 rfl) dX8_qTakes_109 rfl ?_
                          obtain ⟨h566, k⟩ := k
                          obtain ⟨k1, k2⟩ := k
                          refine x_lc_le (tgt := 133) (pc2 := 116) dX8_qTakes_112 dX8_qTakes_113 (by decide) rfl h566 h407 (fun c567 => ?_) (fun c567 => ?_)
                          · replace k := k1 c567
                            refine x_aload_n (pc2 := 134) dX8_qTakes_133 rfl rfl ?_
                            refine x_iconst (pc2 := 135) dX8_qTakes_134 rfl ?_
                            refine x_putf (pc2 := 138) (x := 0) fl_X8_715 ft_8_120 ic_62 (pv_i _ ic_62 rfl) (pn_z (by decide)) dX8_qTakes_135 rfl ?_
                            exact x_return dX8_qTakes_138 rfl k
                          · replace k := k2 c567
                            refine x_goto (tgt := 128) dX8_qTakes_116 (by decide) ?_
                            refine x_aload_n (pc2 := 129) dX8_qTakes_128 rfl rfl ?_
                            refine x_lload_n (pc2 := 130) dX8_qTakes_129 rfl rfl ?_
                            refine x_putf (pc2 := 133) (x := l2) fl_X8_710 ft_8_119 ic_62 (pv_j _ ic_62 rfl) (pn_j _) dX8_qTakes_130 rfl ?_
                            refine x_aload_n (pc2 := 134) dX8_qTakes_133 rfl rfl ?_
                            refine x_iconst (pc2 := 135) dX8_qTakes_134 rfl ?_
                            refine x_putf (pc2 := 138) (x := 0) fl_X8_715 ft_8_120 ic_62 (pv_i _ ic_62 rfl) (pn_z (by decide)) dX8_qTakes_135 rfl ?_
                            exact x_return dX8_qTakes_138 rfl k
                  · replace k := k2 c559
                    refine x_aload_n (pc2 := 81) dX8_qTakes_80 rfl rfl ?_
                    refine x_dup_r (pc2 := 82) dX8_qTakes_81 rfl (by decide) ?_
                    refine x_getf (pc2 := 85) (v := aJ (m 62 119)) fl_X8_710 ic_62 (fv_j _ ic_62 rfl) dX8_qTakes_82 rfl ?_
                    refine x_lload_n (pc2 := 86) dX8_qTakes_85 rfl rfl ?_
                    refine x_ladd (pc2 := 87) dX8_qTakes_86 rfl ?_
                    refine x_putf (pc2 := 90) (x := ((m 62 119) + l2)) fl_X8_710 ft_8_119 ic_62 (pv_j _ ic_62 rfl) (pn_j _) dX8_qTakes_87 rfl ?_
                    refine x_iload_n (pc2 := 91) dX8_qTakes_90 rfl rfl ?_
                    refine x_iconst (pc2 := 92) dX8_qTakes_91 rfl ?_
                    obtain ⟨k1, k2⟩ := k
                    refine x_icmp_le (tgt := 133) (pc2 := 95) dX8_qTakes_92 (by decide) rfl h5 (by decide) (fun c568 => ?_) (fun c568 => ?_)
                    · replace k := k1 c568
                      refine x_aload_n (pc2 := 134) dX8_qTakes_133 rfl rfl ?_
                      refine x_iconst (pc2 := 135) dX8_qTakes_134 rfl ?_
                      refine x_putf (pc2 := 138) (x := 0) fl_X8_715 ft_8_120 ic_62 (pv_i _ ic_62 rfl) (pn_z (by decide)) dX8_qTakes_135 rfl ?_
                      exact x_return dX8_qTakes_138 rfl k
                    · replace k := k2 c568
                      refine x_aload_n (pc2 := 96) dX8_qTakes_95 rfl rfl ?_
                      refine x_getf (pc2 := 99) (v := aI ((wr m 62 119 ((m 62 119) + l2)) 62 120)) fl_X8_715 ic_62 (fv_i _ ic_62 rfl) dX8_qTakes_96 rfl ?_
                      obtain ⟨h569, k⟩ := k
                      obtain ⟨k1, k2⟩ := k
                      refine x_if_ne (tgt := 128) (pc2 := 102) dX8_qTakes_99 (by decide) rfl h569 (fun c570 => ?_) (fun c570 => ?_)
                      · replace k := k1 c570
                        refine x_aload_n (pc2 := 129) dX8_qTakes_128 rfl rfl ?_
                        refine x_lload_n (pc2 := 130) dX8_qTakes_129 rfl rfl ?_
                        refine x_putf (pc2 := 133) (x := l2) fl_X8_710 ft_8_119 ic_62 (pv_j _ ic_62 rfl) (pn_j _) dX8_qTakes_130 rfl ?_
                        refine x_aload_n (pc2 := 134) dX8_qTakes_133 rfl rfl ?_
                        refine x_iconst (pc2 := 135) dX8_qTakes_134 rfl ?_
                        refine x_putf (pc2 := 138) (x := 0) fl_X8_715 ft_8_120 ic_62 (pv_i _ ic_62 rfl) (pn_z (by decide)) dX8_qTakes_135 rfl ?_
                        exact x_return dX8_qTakes_138 rfl k
                      · replace k := k2 c570
                        refine x_iload_n (pc2 := 103) dX8_qTakes_102 rfl rfl ?_
                        refine x_iconst (pc2 := 104) dX8_qTakes_103 rfl ?_
                        obtain ⟨k1, k2⟩ := k
                        refine x_icmp_ne (tgt := 119) (pc2 := 107) dX8_qTakes_104 (by decide) rfl h5 (by decide) (fun c571 => ?_) (fun c571 => ?_)
                        · replace k := k1 c571
                          refine x_lload_n (pc2 := 120) dX8_qTakes_119 rfl rfl ?_
                          refine x_aload_n (pc2 := 121) dX8_qTakes_120 rfl rfl ?_
                          refine x_getf (pc2 := 124) (v := aJ ((wr m 62 119 ((m 62 119) + l2)) 62 119)) fl_X8_710 ic_62 (fv_j _ ic_62 rfl) dX8_qTakes_121 rfl ?_
                          obtain ⟨h572, k⟩ := k
                          obtain ⟨h573, k⟩ := k
                          obtain ⟨k1, k2⟩ := k
                          refine x_lc_ge (tgt := 133) (pc2 := 128) dX8_qTakes_124 dX8_qTakes_125 (by decide) rfl h572 h573 (fun c574 => ?_) (fun c574 => ?_)
                          · replace k := k1 c574
                            refine x_aload_n (pc2 := 134) dX8_qTakes_133 rfl rfl ?_
                            refine x_iconst (pc2 := 135) dX8_qTakes_134 rfl ?_
                            refine x_putf (pc2 := 138) (x := 0) fl_X8_715 ft_8_120 ic_62 (pv_i _ ic_62 rfl) (pn_z (by decide)) dX8_qTakes_135 rfl ?_
                            exact x_return dX8_qTakes_138 rfl k
                          · replace k := k2 c574
                            refine x_aload_n (pc2 := 129) dX8_qTakes_128 rfl rfl ?_
                            refine x_lload_n (pc2 := 130) dX8_qTakes_129 rfl rfl ?_
                            refine x_putf (pc2 := 133) (x := l2) fl_X8_710 ft_8_119 ic_62 (pv_j _ ic_62 rfl) (pn_j _) dX8_qTakes_130 rfl ?_
                            refine x_aload_n (pc2 := 134) dX8_qTakes_133 rfl rfl ?_
                            refine x_iconst (pc2 := 135) dX8_qTakes_134 rfl ?_
                            refine x_putf (pc2 := 138) (x := 0) fl_X8_715 ft_8_120 ic_62 (pv_i _ ic_62 rfl) (pn_z (by decide)) dX8_qTakes_135 rfl ?_
                            exact x_return dX8_qTakes_138 rfl k
                        · replace k := k2 c571
                          refine x_lload_n (pc2 := 108) dX8_qTakes_107 rfl rfl ?_
                          refine x_aload_n (pc2 := 109) dX8_qTakes_108 rfl rfl ?_
                          refine x_getf (pc2 := 112) (v := aJ ((wr m 62 119 ((m 62 119) + l2)) 62 119)) fl_X8_710 ic_62 (fv_j _ ic_62 rfl) dX8_qTakes_109 rfl ?_
                          obtain ⟨h575, k⟩ := k
                          obtain ⟨h576, k⟩ := k
                          obtain ⟨k1, k2⟩ := k
                          refine x_lc_le (tgt := 133) (pc2 := 116) dX8_qTakes_112 dX8_qTakes_113 (by decide) rfl h575 h576 (fun c577 => ?_) (fun c577 => ?_)
                          · replace k := k1 c577
                            refine x_aload_n (pc2 := 134) dX8_qTakes_133 rfl rfl ?_
                            refine x_iconst (pc2 := 135) dX8_qTakes_134 rfl ?_
                            refine x_putf (pc2 := 138) (x := 0) fl_X8_715 ft_8_120 ic_62 (pv_i _ ic_62 rfl) (pn_z (by decide)) dX8_qTakes_135 rfl ?_
                            exact x_return dX8_qTakes_138 rfl k
                          · replace k := k2 c577
                            refine x_goto (tgt := 128) dX8_qTakes_116 (by decide) ?_
                            refine x_aload_n (pc2 := 129) dX8_qTakes_128 rfl rfl ?_
                            refine x_lload_n (pc2 := 130) dX8_qTakes_129 rfl rfl ?_
                            refine x_putf (pc2 := 133) (x := l2) fl_X8_710 ft_8_119 ic_62 (pv_j _ ic_62 rfl) (pn_j _) dX8_qTakes_130 rfl ?_
                            refine x_aload_n (pc2 := 134) dX8_qTakes_133 rfl rfl ?_
                            refine x_iconst (pc2 := 135) dX8_qTakes_134 rfl ?_
                            refine x_putf (pc2 := 138) (x := 0) fl_X8_715 ft_8_120 ic_62 (pv_i _ ic_62 rfl) (pn_z (by decide)) dX8_qTakes_135 rfl ?_
                            exact x_return dX8_qTakes_138 rfl k
                · replace k := k2 c558
                  refine x_aload_n (pc2 := 66) dX8_qTakes_65 rfl rfl ?_
                  refine x_dup_r (pc2 := 67) dX8_qTakes_66 rfl (by decide) ?_
                  refine x_getf (pc2 := 70) (v := aJ (m 62 119)) fl_X8_710 ic_62 (fv_j _ ic_62 rfl) dX8_qTakes_67 rfl ?_
                  refine x_lconst (pc2 := 71) (v := 1) dX8_qTakes_70 rfl rfl ?_
                  refine x_ladd (pc2 := 72) dX8_qTakes_71 rfl ?_
                  refine x_putf (pc2 := 75) (x := ((m 62 119) + 1)) fl_X8_710 ft_8_119 ic_62 (pv_j _ ic_62 rfl) (pn_j _) dX8_qTakes_72 rfl ?_
                  refine x_iload_n (pc2 := 76) dX8_qTakes_75 rfl rfl ?_
                  refine x_iconst (pc2 := 77) dX8_qTakes_76 rfl ?_
                  obtain ⟨k1, k2⟩ := k
                  refine x_icmp_ne (tgt := 90) (pc2 := 80) dX8_qTakes_77 (by decide) rfl h5 (by decide) (fun c578 => ?_) (fun c578 => ?_)
                  · replace k := k1 c578
                    refine x_iload_n (pc2 := 91) dX8_qTakes_90 rfl rfl ?_
                    refine x_iconst (pc2 := 92) dX8_qTakes_91 rfl ?_
                    obtain ⟨k1, k2⟩ := k
                    refine x_icmp_le (tgt := 133) (pc2 := 95) dX8_qTakes_92 (by decide) rfl h5 (by decide) (fun c579 => ?_) (fun c579 => ?_)
                    · replace k := k1 c579
                      refine x_aload_n (pc2 := 134) dX8_qTakes_133 rfl rfl ?_
                      refine x_iconst (pc2 := 135) dX8_qTakes_134 rfl ?_
                      refine x_putf (pc2 := 138) (x := 0) fl_X8_715 ft_8_120 ic_62 (pv_i _ ic_62 rfl) (pn_z (by decide)) dX8_qTakes_135 rfl ?_
                      exact x_return dX8_qTakes_138 rfl k
                    · replace k := k2 c579
                      refine x_aload_n (pc2 := 96) dX8_qTakes_95 rfl rfl ?_
                      refine x_getf (pc2 := 99) (v := aI ((wr m 62 119 ((m 62 119) + 1)) 62 120)) fl_X8_715 ic_62 (fv_i _ ic_62 rfl) dX8_qTakes_96 rfl ?_
                      obtain ⟨h580, k⟩ := k
                      obtain ⟨k1, k2⟩ := k
                      refine x_if_ne (tgt := 128) (pc2 := 102) dX8_qTakes_99 (by decide) rfl h580 (fun c581 => ?_) (fun c581 => ?_)
                      · replace k := k1 c581
                        refine x_aload_n (pc2 := 129) dX8_qTakes_128 rfl rfl ?_
                        refine x_lload_n (pc2 := 130) dX8_qTakes_129 rfl rfl ?_
                        refine x_putf (pc2 := 133) (x := l2) fl_X8_710 ft_8_119 ic_62 (pv_j _ ic_62 rfl) (pn_j _) dX8_qTakes_130 rfl ?_
                        refine x_aload_n (pc2 := 134) dX8_qTakes_133 rfl rfl ?_
                        refine x_iconst (pc2 := 135) dX8_qTakes_134 rfl ?_
                        refine x_putf (pc2 := 138) (x := 0) fl_X8_715 ft_8_120 ic_62 (pv_i _ ic_62 rfl) (pn_z (by decide)) dX8_qTakes_135 rfl ?_
                        exact x_return dX8_qTakes_138 rfl k
                      · replace k := k2 c581
                        refine x_iload_n (pc2 := 103) dX8_qTakes_102 rfl rfl ?_
                        refine x_iconst (pc2 := 104) dX8_qTakes_103 rfl ?_
                        obtain ⟨k1, k2⟩ := k
                        refine x_icmp_ne (tgt := 119) (pc2 := 107) dX8_qTakes_104 (by decide) rfl h5 (by decide) (fun c582 => ?_) (fun c582 => ?_)
                        · replace k := k1 c582
                          refine x_lload_n (pc2 := 120) dX8_qTakes_119 rfl rfl ?_
                          refine x_aload_n (pc2 := 121) dX8_qTakes_120 rfl rfl ?_
                          refine x_getf (pc2 := 124) (v := aJ ((wr m 62 119 ((m 62 119) + 1)) 62 119)) fl_X8_710 ic_62 (fv_j _ ic_62 rfl) dX8_qTakes_121 rfl ?_
                          obtain ⟨h583, k⟩ := k
                          obtain ⟨h584, k⟩ := k
                          obtain ⟨k1, k2⟩ := k
                          refine x_lc_ge (tgt := 133) (pc2 := 128) dX8_qTakes_124 dX8_qTakes_125 (by decide) rfl h583 h584 (fun c585 => ?_) (fun c585 => ?_)
                          · replace k := k1 c585
                            refine x_aload_n (pc2 := 134) dX8_qTakes_133 rfl rfl ?_
                            refine x_iconst (pc2 := 135) dX8_qTakes_134 rfl ?_
                            refine x_putf (pc2 := 138) (x := 0) fl_X8_715 ft_8_120 ic_62 (pv_i _ ic_62 rfl) (pn_z (by decide)) dX8_qTakes_135 rfl ?_
                            exact x_return dX8_qTakes_138 rfl k
                          · replace k := k2 c585
                            refine x_aload_n (pc2 := 129) dX8_qTakes_128 rfl rfl ?_
                            refine x_lload_n (pc2 := 130) dX8_qTakes_129 rfl rfl ?_
                            refine x_putf (pc2 := 133) (x := l2) fl_X8_710 ft_8_119 ic_62 (pv_j _ ic_62 rfl) (pn_j _) dX8_qTakes_130 rfl ?_
                            refine x_aload_n (pc2 := 134) dX8_qTakes_133 rfl rfl ?_
                            refine x_iconst (pc2 := 135) dX8_qTakes_134 rfl ?_
                            refine x_putf (pc2 := 138) (x := 0) fl_X8_715 ft_8_120 ic_62 (pv_i _ ic_62 rfl) (pn_z (by decide)) dX8_qTakes_135 rfl ?_
                            exact x_return dX8_qTakes_138 rfl k
                        · replace k := k2 c582
                          refine x_lload_n (pc2 := 108) dX8_qTakes_107 rfl rfl ?_
                          refine x_aload_n (pc2 := 109) dX8_qTakes_108 rfl rfl ?_
                          refine x_getf (pc2 := 112) (v := aJ ((wr m 62 119 ((m 62 119) + 1)) 62 119)) fl_X8_710 ic_62 (fv_j _ ic_62 rfl) dX8_qTakes_109 rfl ?_
                          obtain ⟨h586, k⟩ := k
                          obtain ⟨h587, k⟩ := k
                          obtain ⟨k1, k2⟩ := k
                          refine x_lc_le (tgt := 133) (pc2 := 116) dX8_qTakes_112 dX8_qTakes_113 (by decide) rfl h586 h587 (fun c588 => ?_) (fun c588 => ?_)
                          · replace k := k1 c588
                            refine x_aload_n (pc2 := 134) dX8_qTakes_133 rfl rfl ?_
                            refine x_iconst (pc2 := 135) dX8_qTakes_134 rfl ?_
                            refine x_putf (pc2 := 138) (x := 0) fl_X8_715 ft_8_120 ic_62 (pv_i _ ic_62 rfl) (pn_z (by decide)) dX8_qTakes_135 rfl ?_
                            exact x_return dX8_qTakes_138 rfl k
                          · replace k := k2 c588
                            refine x_goto (tgt := 128) dX8_qTakes_116 (by decide) ?_
                            refine x_aload_n (pc2 := 129) dX8_qTakes_128 rfl rfl ?_
                            refine x_lload_n (pc2 := 130) dX8_qTakes_129 rfl rfl ?_
                            refine x_putf (pc2 := 133) (x := l2) fl_X8_710 ft_8_119 ic_62 (pv_j _ ic_62 rfl) (pn_j _) dX8_qTakes_130 rfl ?_
                            refine x_aload_n (pc2 := 134) dX8_qTakes_133 rfl rfl ?_
                            refine x_iconst (pc2 := 135) dX8_qTakes_134 rfl ?_
                            refine x_putf (pc2 := 138) (x := 0) fl_X8_715 ft_8_120 ic_62 (pv_i _ ic_62 rfl) (pn_z (by decide)) dX8_qTakes_135 rfl ?_
                            exact x_return dX8_qTakes_138 rfl k
                  · replace k := k2 c578
                    refine x_aload_n (pc2 := 81) dX8_qTakes_80 rfl rfl ?_
                    refine x_dup_r (pc2 := 82) dX8_qTakes_81 rfl (by decide) ?_
                    refine x_getf (pc2 := 85) (v := aJ ((wr m 62 119 ((m 62 119) + 1)) 62 119)) fl_X8_710 ic_62 (fv_j _ ic_62 rfl) dX8_qTakes_82 rfl ?_
                    refine x_lload_n (pc2 := 86) dX8_qTakes_85 rfl rfl ?_
                    refine x_ladd (pc2 := 87) dX8_qTakes_86 rfl ?_
                    refine x_putf (pc2 := 90) (x := (((wr m 62 119 ((m 62 119) + 1)) 62 119) + l2)) fl_X8_710 ft_8_119 ic_62 (pv_j _ ic_62 rfl) (pn_j _) dX8_qTakes_87 rfl ?_
                    refine x_iload_n (pc2 := 91) dX8_qTakes_90 rfl rfl ?_
                    refine x_iconst (pc2 := 92) dX8_qTakes_91 rfl ?_
                    obtain ⟨k1, k2⟩ := k
                    refine x_icmp_le (tgt := 133) (pc2 := 95) dX8_qTakes_92 (by decide) rfl h5 (by decide) (fun c589 => ?_) (fun c589 => ?_)
                    · replace k := k1 c589
                      refine x_aload_n (pc2 := 134) dX8_qTakes_133 rfl rfl ?_
                      refine x_iconst (pc2 := 135) dX8_qTakes_134 rfl ?_
                      refine x_putf (pc2 := 138) (x := 0) fl_X8_715 ft_8_120 ic_62 (pv_i _ ic_62 rfl) (pn_z (by decide)) dX8_qTakes_135 rfl ?_
                      exact x_return dX8_qTakes_138 rfl k
                    · replace k := k2 c589
                      refine x_aload_n (pc2 := 96) dX8_qTakes_95 rfl rfl ?_
                      refine x_getf (pc2 := 99) (v := aI ((wr (wr m 62 119 ((m 62 119) + 1)) 62 119 (((wr m 62 119 ((m 62 119) + 1)) 62 119) + l2)) 62 120)) fl_X8_715 ic_62 (fv_i _ ic_62 rfl) dX8_qTakes_96 rfl ?_
                      obtain ⟨h590, k⟩ := k
                      obtain ⟨k1, k2⟩ := k
                      refine x_if_ne (tgt := 128) (pc2 := 102) dX8_qTakes_99 (by decide) rfl h590 (fun c591 => ?_) (fun c591 => ?_)
                      · replace k := k1 c591
                        refine x_aload_n (pc2 := 129) dX8_qTakes_128 rfl rfl ?_
                        refine x_lload_n (pc2 := 130) dX8_qTakes_129 rfl rfl ?_
                        refine x_putf (pc2 := 133) (x := l2) fl_X8_710 ft_8_119 ic_62 (pv_j _ ic_62 rfl) (pn_j _) dX8_qTakes_130 rfl ?_
                        refine x_aload_n (pc2 := 134) dX8_qTakes_133 rfl rfl ?_
                        refine x_iconst (pc2 := 135) dX8_qTakes_134 rfl ?_
                        refine x_putf (pc2 := 138) (x := 0) fl_X8_715 ft_8_120 ic_62 (pv_i _ ic_62 rfl) (pn_z (by decide)) dX8_qTakes_135 rfl ?_
                        exact x_return dX8_qTakes_138 rfl k
                      · replace k := k2 c591
                        refine x_iload_n (pc2 := 103) dX8_qTakes_102 rfl rfl ?_
                        refine x_iconst (pc2 := 104) dX8_qTakes_103 rfl ?_
                        obtain ⟨k1, k2⟩ := k
                        refine x_icmp_ne (tgt := 119) (pc2 := 107) dX8_qTakes_104 (by decide) rfl h5 (by decide) (fun c592 => ?_) (fun c592 => ?_)
                        · replace k := k1 c592
                          refine x_lload_n (pc2 := 120) dX8_qTakes_119 rfl rfl ?_
                          refine x_aload_n (pc2 := 121) dX8_qTakes_120 rfl rfl ?_
                          refine x_getf (pc2 := 124) (v := aJ ((wr (wr m 62 119 ((m 62 119) + 1)) 62 119 (((wr m 62 119 ((m 62 119) + 1)) 62 119) + l2)) 62 119)) fl_X8_710 ic_62 (fv_j _ ic_62 rfl) dX8_qTakes_121 rfl ?_
                          obtain ⟨h593, k⟩ := k
                          obtain ⟨h594, k⟩ := k
                          obtain ⟨k1, k2⟩ := k
                          refine x_lc_ge (tgt := 133) (pc2 := 128) dX8_qTakes_124 dX8_qTakes_125 (by decide) rfl h593 h594 (fun c595 => ?_) (fun c595 => ?_)
                          · replace k := k1 c595
                            refine x_aload_n (pc2 := 134) dX8_qTakes_133 rfl rfl ?_
                            refine x_iconst (pc2 := 135) dX8_qTakes_134 rfl ?_
                            refine x_putf (pc2 := 138) (x := 0) fl_X8_715 ft_8_120 ic_62 (pv_i _ ic_62 rfl) (pn_z (by decide)) dX8_qTakes_135 rfl ?_
                            exact x_return dX8_qTakes_138 rfl k
                          · replace k := k2 c595
                            refine x_aload_n (pc2 := 129) dX8_qTakes_128 rfl rfl ?_
                            refine x_lload_n (pc2 := 130) dX8_qTakes_129 rfl rfl ?_
                            refine x_putf (pc2 := 133) (x := l2) fl_X8_710 ft_8_119 ic_62 (pv_j _ ic_62 rfl) (pn_j _) dX8_qTakes_130 rfl ?_
                            refine x_aload_n (pc2 := 134) dX8_qTakes_133 rfl rfl ?_
                            refine x_iconst (pc2 := 135) dX8_qTakes_134 rfl ?_
                            refine x_putf (pc2 := 138) (x := 0) fl_X8_715 ft_8_120 ic_62 (pv_i _ ic_62 rfl) (pn_z (by decide)) dX8_qTakes_135 rfl ?_
                            exact x_return dX8_qTakes_138 rfl k
                        · replace k := k2 c592
                          refine x_lload_n (pc2 := 108) dX8_qTakes_107 rfl rfl ?_
                          refine x_aload_n (pc2 := 109) dX8_qTakes_108 rfl rfl ?_
                          refine x_getf (pc2 := 112) (v := aJ ((wr (wr m 62 119 ((m 62 119) + 1)) 62 119 (((wr m 62 119 ((m 62 119) + 1)) 62 119) + l2)) 62 119)) fl_X8_710 ic_62 (fv_j _ ic_62 rfl) dX8_qTakes_109 rfl ?_
                          obtain ⟨h596, k⟩ := k
                          obtain ⟨h597, k⟩ := k
                          obtain ⟨k1, k2⟩ := k
                          refine x_lc_le (tgt := 133) (pc2 := 116) dX8_qTakes_112 dX8_qTakes_113 (by decide) rfl h596 h597 (fun c598 => ?_) (fun c598 => ?_)
                          · replace k := k1 c598
                            refine x_aload_n (pc2 := 134) dX8_qTakes_133 rfl rfl ?_
                            refine x_iconst (pc2 := 135) dX8_qTakes_134 rfl ?_
                            refine x_putf (pc2 := 138) (x := 0) fl_X8_715 ft_8_120 ic_62 (pv_i _ ic_62 rfl) (pn_z (by decide)) dX8_qTakes_135 rfl ?_
                            exact x_return dX8_qTakes_138 rfl k
                          · replace k := k2 c598
                            refine x_goto (tgt := 128) dX8_qTakes_116 (by decide) ?_
                            refine x_aload_n (pc2 := 129) dX8_qTakes_128 rfl rfl ?_
                            refine x_lload_n (pc2 := 130) dX8_qTakes_129 rfl rfl ?_
                            refine x_putf (pc2 := 133) (x := l2) fl_X8_710 ft_8_119 ic_62 (pv_j _ ic_62 rfl) (pn_j _) dX8_qTakes_130 rfl ?_
                            refine x_aload_n (pc2 := 134) dX8_qTakes_133 rfl rfl ?_
                            refine x_iconst (pc2 := 135) dX8_qTakes_134 rfl ?_
                            refine x_putf (pc2 := 138) (x := 0) fl_X8_715 ft_8_120 ic_62 (pv_i _ ic_62 rfl) (pn_z (by decide)) dX8_qTakes_135 rfl ?_
                            exact x_return dX8_qTakes_138 rfl k
            · replace k := k2 c537
              refine x_aload_n (pc2 := 49) dX8_qTakes_48 rfl rfl ?_
              refine x_iload (pc2 := 51) dX8_qTakes_49 rfl rfl ?_
              obtain ⟨h599, k⟩ := k
              refine x_i2l (pc2 := 52) dX8_qTakes_51 rfl h599 ?_
              refine x_putf (pc2 := 55) (x := l4) fl_X8_710 ft_8_119 ic_62 (pv_j _ ic_62 rfl) (pn_j _) dX8_qTakes_52 rfl ?_
              refine x_iload_n (pc2 := 56) dX8_qTakes_55 rfl rfl ?_
              refine x_iconst (pc2 := 57) dX8_qTakes_56 rfl ?_
              obtain ⟨k1, k2⟩ := k
              refine x_icmp_ne (tgt := 75) (pc2 := 60) dX8_qTakes_57 (by decide) rfl h5 (by decide) (fun c600 => ?_) (fun c600 => ?_)
              · replace k := k1 c600
                refine x_iload_n (pc2 := 76) dX8_qTakes_75 rfl rfl ?_
                refine x_iconst (pc2 := 77) dX8_qTakes_76 rfl ?_
                obtain ⟨k1, k2⟩ := k
                refine x_icmp_ne (tgt := 90) (pc2 := 80) dX8_qTakes_77 (by decide) rfl h5 (by decide) (fun c601 => ?_) (fun c601 => ?_)
                · replace k := k1 c601
                  refine x_iload_n (pc2 := 91) dX8_qTakes_90 rfl rfl ?_
                  refine x_iconst (pc2 := 92) dX8_qTakes_91 rfl ?_
                  obtain ⟨k1, k2⟩ := k
                  refine x_icmp_le (tgt := 133) (pc2 := 95) dX8_qTakes_92 (by decide) rfl h5 (by decide) (fun c602 => ?_) (fun c602 => ?_)
                  · replace k := k1 c602
                    refine x_aload_n (pc2 := 134) dX8_qTakes_133 rfl rfl ?_
                    refine x_iconst (pc2 := 135) dX8_qTakes_134 rfl ?_
                    refine x_putf (pc2 := 138) (x := 0) fl_X8_715 ft_8_120 ic_62 (pv_i _ ic_62 rfl) (pn_z (by decide)) dX8_qTakes_135 rfl ?_
                    exact x_return dX8_qTakes_138 rfl k
                  · replace k := k2 c602
                    refine x_aload_n (pc2 := 96) dX8_qTakes_95 rfl rfl ?_
                    refine x_getf (pc2 := 99) (v := aI ((wr m 62 119 l4) 62 120)) fl_X8_715 ic_62 (fv_i _ ic_62 rfl) dX8_qTakes_96 rfl ?_
                    obtain ⟨h603, k⟩ := k
                    obtain ⟨k1, k2⟩ := k
                    refine x_if_ne (tgt := 128) (pc2 := 102) dX8_qTakes_99 (by decide) rfl h603 (fun c604 => ?_) (fun c604 => ?_)
                    · replace k := k1 c604
                      refine x_aload_n (pc2 := 129) dX8_qTakes_128 rfl rfl ?_
                      refine x_lload_n (pc2 := 130) dX8_qTakes_129 rfl rfl ?_
                      refine x_putf (pc2 := 133) (x := l2) fl_X8_710 ft_8_119 ic_62 (pv_j _ ic_62 rfl) (pn_j _) dX8_qTakes_130 rfl ?_
                      refine x_aload_n (pc2 := 134) dX8_qTakes_133 rfl rfl ?_
                      refine x_iconst (pc2 := 135) dX8_qTakes_134 rfl ?_
                      refine x_putf (pc2 := 138) (x := 0) fl_X8_715 ft_8_120 ic_62 (pv_i _ ic_62 rfl) (pn_z (by decide)) dX8_qTakes_135 rfl ?_
                      exact x_return dX8_qTakes_138 rfl k
                    · replace k := k2 c604
                      refine x_iload_n (pc2 := 103) dX8_qTakes_102 rfl rfl ?_
                      refine x_iconst (pc2 := 104) dX8_qTakes_103 rfl ?_
                      obtain ⟨k1, k2⟩ := k
                      refine x_icmp_ne (tgt := 119) (pc2 := 107) dX8_qTakes_104 (by decide) rfl h5 (by decide) (fun c605 => ?_) (fun c605 => ?_)
                      · replace k := k1 c605
                        refine x_lload_n (pc2 := 120) dX8_qTakes_119 rfl rfl ?_
                        refine x_aload_n (pc2 := 121) dX8_qTakes_120 rfl rfl ?_
                        refine x_getf (pc2 := 124) (v := aJ ((wr m 62 119 l4) 62 119)) fl_X8_710 ic_62 (fv_j _ ic_62 rfl) dX8_qTakes_121 rfl ?_
                        obtain ⟨h606, k⟩ := k
                        obtain ⟨h607, k⟩ := k
                        obtain ⟨k1, k2⟩ := k
                        refine x_lc_ge (tgt := 133) (pc2 := 128) dX8_qTakes_124 dX8_qTakes_125 (by decide) rfl h606 h607 (fun c608 => ?_) (fun c608 => ?_)
                        · replace k := k1 c608
                          refine x_aload_n (pc2 := 134) dX8_qTakes_133 rfl rfl ?_
                          refine x_iconst (pc2 := 135) dX8_qTakes_134 rfl ?_
                          refine x_putf (pc2 := 138) (x := 0) fl_X8_715 ft_8_120 ic_62 (pv_i _ ic_62 rfl) (pn_z (by decide)) dX8_qTakes_135 rfl ?_
                          exact x_return dX8_qTakes_138 rfl k
                        · replace k := k2 c608
                          refine x_aload_n (pc2 := 129) dX8_qTakes_128 rfl rfl ?_
                          refine x_lload_n (pc2 := 130) dX8_qTakes_129 rfl rfl ?_
                          refine x_putf (pc2 := 133) (x := l2) fl_X8_710 ft_8_119 ic_62 (pv_j _ ic_62 rfl) (pn_j _) dX8_qTakes_130 rfl ?_
                          refine x_aload_n (pc2 := 134) dX8_qTakes_133 rfl rfl ?_
                          refine x_iconst (pc2 := 135) dX8_qTakes_134 rfl ?_
                          refine x_putf (pc2 := 138) (x := 0) fl_X8_715 ft_8_120 ic_62 (pv_i _ ic_62 rfl) (pn_z (by decide)) dX8_qTakes_135 rfl ?_
                          exact x_return dX8_qTakes_138 rfl k
                      · replace k := k2 c605
                        refine x_lload_n (pc2 := 108) dX8_qTakes_107 rfl rfl ?_
                        refine x_aload_n (pc2 := 109) dX8_qTakes_108 rfl rfl ?_
                        refine x_getf (pc2 := 112) (v := aJ ((wr m 62 119 l4) 62 119)) fl_X8_710 ic_62 (fv_j _ ic_62 rfl) dX8_qTakes_109 rfl ?_
                        obtain ⟨h609, k⟩ := k
                        obtain ⟨h610, k⟩ := k
                        obtain ⟨k1, k2⟩ := k
                        refine x_lc_le (tgt := 133) (pc2 := 116) dX8_qTakes_112 dX8_qTakes_113 (by decide) rfl h609 h610 (fun c611 => ?_) (fun c611 => ?_)
                        · replace k := k1 c611
                          refine x_aload_n (pc2 := 134) dX8_qTakes_133 rfl rfl ?_
                          refine x_iconst (pc2 := 135) dX8_qTakes_134 rfl ?_
                          refine x_putf (pc2 := 138) (x := 0) fl_X8_715 ft_8_120 ic_62 (pv_i _ ic_62 rfl) (pn_z (by decide)) dX8_qTakes_135 rfl ?_
                          exact x_return dX8_qTakes_138 rfl k
                        · replace k := k2 c611
                          refine x_goto (tgt := 128) dX8_qTakes_116 (by decide) ?_
                          refine x_aload_n (pc2 := 129) dX8_qTakes_128 rfl rfl ?_
                          refine x_lload_n (pc2 := 130) dX8_qTakes_129 rfl rfl ?_
                          refine x_putf (pc2 := 133) (x := l2) fl_X8_710 ft_8_119 ic_62 (pv_j _ ic_62 rfl) (pn_j _) dX8_qTakes_130 rfl ?_
                          refine x_aload_n (pc2 := 134) dX8_qTakes_133 rfl rfl ?_
                          refine x_iconst (pc2 := 135) dX8_qTakes_134 rfl ?_
                          refine x_putf (pc2 := 138) (x := 0) fl_X8_715 ft_8_120 ic_62 (pv_i _ ic_62 rfl) (pn_z (by decide)) dX8_qTakes_135 rfl ?_
                          exact x_return dX8_qTakes_138 rfl k
                · replace k := k2 c601
                  refine x_aload_n (pc2 := 81) dX8_qTakes_80 rfl rfl ?_
                  refine x_dup_r (pc2 := 82) dX8_qTakes_81 rfl (by decide) ?_
                  refine x_getf (pc2 := 85) (v := aJ ((wr m 62 119 l4) 62 119)) fl_X8_710 ic_62 (fv_j _ ic_62 rfl) dX8_qTakes_82 rfl ?_
                  refine x_lload_n (pc2 := 86) dX8_qTakes_85 rfl rfl ?_
                  refine x_ladd (pc2 := 87) dX8_qTakes_86 rfl ?_
                  refine x_putf (pc2 := 90) (x := (((wr m 62 119 l4) 62 119) + l2)) fl_X8_710 ft_8_119 ic_62 (pv_j _ ic_62 rfl) (pn_j _) dX8_qTakes_87 rfl ?_
                  refine x_iload_n (pc2 := 91) dX8_qTakes_90 rfl rfl ?_
                  refine x_iconst (pc2 := 92) dX8_qTakes_91 rfl ?_
                  obtain ⟨k1, k2⟩ := k
                  refine x_icmp_le (tgt := 133) (pc2 := 95) dX8_qTakes_92 (by decide) rfl h5 (by decide) (fun c612 => ?_) (fun c612 => ?_)
                  · replace k := k1 c612
                    refine x_aload_n (pc2 := 134) dX8_qTakes_133 rfl rfl ?_
                    refine x_iconst (pc2 := 135) dX8_qTakes_134 rfl ?_
                    refine x_putf (pc2 := 138) (x := 0) fl_X8_715 ft_8_120 ic_62 (pv_i _ ic_62 rfl) (pn_z (by decide)) dX8_qTakes_135 rfl ?_
                    exact x_return dX8_qTakes_138 rfl k
                  · replace k := k2 c612
                    refine x_aload_n (pc2 := 96) dX8_qTakes_95 rfl rfl ?_
                    refine x_getf (pc2 := 99) (v := aI ((wr (wr m 62 119 l4) 62 119 (((wr m 62 119 l4) 62 119) + l2)) 62 120)) fl_X8_715 ic_62 (fv_i _ ic_62 rfl) dX8_qTakes_96 rfl ?_
                    obtain ⟨h613, k⟩ := k
                    obtain ⟨k1, k2⟩ := k
                    refine x_if_ne (tgt := 128) (pc2 := 102) dX8_qTakes_99 (by decide) rfl h613 (fun c614 => ?_) (fun c614 => ?_)
                    · replace k := k1 c614
                      refine x_aload_n (pc2 := 129) dX8_qTakes_128 rfl rfl ?_
                      refine x_lload_n (pc2 := 130) dX8_qTakes_129 rfl rfl ?_
                      refine x_putf (pc2 := 133) (x := l2) fl_X8_710 ft_8_119 ic_62 (pv_j _ ic_62 rfl) (pn_j _) dX8_qTakes_130 rfl ?_
                      refine x_aload_n (pc2 := 134) dX8_qTakes_133 rfl rfl ?_
                      refine x_iconst (pc2 := 135) dX8_qTakes_134 rfl ?_
                      refine x_putf (pc2 := 138) (x := 0) fl_X8_715 ft_8_120 ic_62 (pv_i _ ic_62 rfl) (pn_z (by decide)) dX8_qTakes_135 rfl ?_
                      exact x_return dX8_qTakes_138 rfl k
                    · replace k := k2 c614
                      refine x_iload_n (pc2 := 103) dX8_qTakes_102 rfl rfl ?_
                      refine x_iconst (pc2 := 104) dX8_qTakes_103 rfl ?_
                      obtain ⟨k1, k2⟩ := k
                      refine x_icmp_ne (tgt := 119) (pc2 := 107) dX8_qTakes_104 (by decide) rfl h5 (by decide) (fun c615 => ?_) (fun c615 => ?_)
                      · replace k := k1 c615
                        refine x_lload_n (pc2 := 120) dX8_qTakes_119 rfl rfl ?_
                        refine x_aload_n (pc2 := 121) dX8_qTakes_120 rfl rfl ?_
                        refine x_getf (pc2 := 124) (v := aJ ((wr (wr m 62 119 l4) 62 119 (((wr m 62 119 l4) 62 119) + l2)) 62 119)) fl_X8_710 ic_62 (fv_j _ ic_62 rfl) dX8_qTakes_121 rfl ?_
                        obtain ⟨h616, k⟩ := k
                        obtain ⟨h617, k⟩ := k
                        obtain ⟨k1, k2⟩ := k
                        refine x_lc_ge (tgt := 133) (pc2 := 128) dX8_qTakes_124 dX8_qTakes_125 (by decide) rfl h616 h617 (fun c618 => ?_) (fun c618 => ?_)
                        · replace k := k1 c618
                          refine x_aload_n (pc2 := 134) dX8_qTakes_133 rfl rfl ?_
                          refine x_iconst (pc2 := 135) dX8_qTakes_134 rfl ?_
                          refine x_putf (pc2 := 138) (x := 0) fl_X8_715 ft_8_120 ic_62 (pv_i _ ic_62 rfl) (pn_z (by decide)) dX8_qTakes_135 rfl ?_
                          exact x_return dX8_qTakes_138 rfl k
                        · replace k := k2 c618
                          refine x_aload_n (pc2 := 129) dX8_qTakes_128 rfl rfl ?_
                          refine x_lload_n (pc2 := 130) dX8_qTakes_129 rfl rfl ?_
                          refine x_putf (pc2 := 133) (x := l2) fl_X8_710 ft_8_119 ic_62 (pv_j _ ic_62 rfl) (pn_j _) dX8_qTakes_130 rfl ?_
                          refine x_aload_n (pc2 := 134) dX8_qTakes_133 rfl rfl ?_
                          refine x_iconst (pc2 := 135) dX8_qTakes_134 rfl ?_
                          refine x_putf (pc2 := 138) (x := 0) fl_X8_715 ft_8_120 ic_62 (pv_i _ ic_62 rfl) (pn_z (by decide)) dX8_qTakes_135 rfl ?_
                          exact x_return dX8_qTakes_138 rfl k
                      · replace k := k2 c615
                        refine x_lload_n (pc2 := 108) dX8_qTakes_107 rfl rfl ?_
                        refine x_aload_n (pc2 := 109) dX8_qTakes_108 rfl rfl ?_
                        refine x_getf (pc2 := 112) (v := aJ ((wr (wr m 62 119 l4) 62 119 (((wr m 62 119 l4) 62 119) + l2)) 62 119)) fl_X8_710 ic_62 (fv_j _ ic_62 rfl) dX8_qTakes_109 rfl ?_
                        obtain ⟨h619, k⟩ := k
                        obtain ⟨h620, k⟩ := k
                        obtain ⟨k1, k2⟩ := k
                        refine x_lc_le (tgt := 133) (pc2 := 116) dX8_qTakes_112 dX8_qTakes_113 (by decide) rfl h619 h620 (fun c621 => ?_) (fun c621 => ?_)
                        · replace k := k1 c621
                          refine x_aload_n (pc2 := 134) dX8_qTakes_133 rfl rfl ?_
                          refine x_iconst (pc2 := 135) dX8_qTakes_134 rfl ?_
                          refine x_putf (pc2 := 138) (x := 0) fl_X8_715 ft_8_120 ic_62 (pv_i _ ic_62 rfl) (pn_z (by decide)) dX8_qTakes_135 rfl ?_
                          exact x_return dX8_qTakes_138 rfl k
                        · replace k := k2 c621
                          refine x_goto (tgt := 128) dX8_qTakes_116 (by decide) ?_
                          refine x_aload_n (pc2 := 129) dX8_qTakes_128 rfl rfl ?_
                          refine x_lload_n (pc2 := 130) dX8_qTakes_129 rfl rfl ?_
                          refine x_putf (pc2 := 133) (x := l2) fl_X8_710 ft_8_119 ic_62 (pv_j _ ic_62 rfl) (pn_j _) dX8_qTakes_130 rfl ?_
                          refine x_aload_n (pc2 := 134) dX8_qTakes_133 rfl rfl ?_
                          refine x_iconst (pc2 := 135) dX8_qTakes_134 rfl ?_
                          refine x_putf (pc2 := 138) (x := 0) fl_X8_715 ft_8_120 ic_62 (pv_i _ ic_62 rfl) (pn_z (by decide)) dX8_qTakes_135 rfl ?_
                          exact x_return dX8_qTakes_138 rfl k
              · replace k := k2 c600
                refine x_iload (pc2 := 62) dX8_qTakes_60 rfl rfl ?_
                obtain ⟨k1, k2⟩ := k
                refine x_if_eq (tgt := 75) (pc2 := 65) dX8_qTakes_62 (by decide) rfl h207 (fun c622 => ?_) (fun c622 => ?_)
                · replace k := k1 c622
                  refine x_iload_n (pc2 := 76) dX8_qTakes_75 rfl rfl ?_
                  refine x_iconst (pc2 := 77) dX8_qTakes_76 rfl ?_
                  obtain ⟨k1, k2⟩ := k
                  refine x_icmp_ne (tgt := 90) (pc2 := 80) dX8_qTakes_77 (by decide) rfl h5 (by decide) (fun c623 => ?_) (fun c623 => ?_)
                  · replace k := k1 c623
                    refine x_iload_n (pc2 := 91) dX8_qTakes_90 rfl rfl ?_
                    refine x_iconst (pc2 := 92) dX8_qTakes_91 rfl ?_
                    obtain ⟨k1, k2⟩ := k
                    refine x_icmp_le (tgt := 133) (pc2 := 95) dX8_qTakes_92 (by decide) rfl h5 (by decide) (fun c624 => ?_) (fun c624 => ?_)
                    · replace k := k1 c624
                      refine x_aload_n (pc2 := 134) dX8_qTakes_133 rfl rfl ?_
                      refine x_iconst (pc2 := 135) dX8_qTakes_134 rfl ?_
                      refine x_putf (pc2 := 138) (x := 0) fl_X8_715 ft_8_120 ic_62 (pv_i _ ic_62 rfl) (pn_z (by decide)) dX8_qTakes_135 rfl ?_
                      exact x_return dX8_qTakes_138 rfl k
                    · replace k := k2 c624
                      refine x_aload_n (pc2 := 96) dX8_qTakes_95 rfl rfl ?_
                      refine x_getf (pc2 := 99) (v := aI ((wr m 62 119 l4) 62 120)) fl_X8_715 ic_62 (fv_i _ ic_62 rfl) dX8_qTakes_96 rfl ?_
                      obtain ⟨h625, k⟩ := k
                      obtain ⟨k1, k2⟩ := k
                      refine x_if_ne (tgt := 128) (pc2 := 102) dX8_qTakes_99 (by decide) rfl h625 (fun c626 => ?_) (fun c626 => ?_)
                      · replace k := k1 c626
                        refine x_aload_n (pc2 := 129) dX8_qTakes_128 rfl rfl ?_
                        refine x_lload_n (pc2 := 130) dX8_qTakes_129 rfl rfl ?_
                        refine x_putf (pc2 := 133) (x := l2) fl_X8_710 ft_8_119 ic_62 (pv_j _ ic_62 rfl) (pn_j _) dX8_qTakes_130 rfl ?_
                        refine x_aload_n (pc2 := 134) dX8_qTakes_133 rfl rfl ?_
                        refine x_iconst (pc2 := 135) dX8_qTakes_134 rfl ?_
                        refine x_putf (pc2 := 138) (x := 0) fl_X8_715 ft_8_120 ic_62 (pv_i _ ic_62 rfl) (pn_z (by decide)) dX8_qTakes_135 rfl ?_
                        exact x_return dX8_qTakes_138 rfl k
                      · replace k := k2 c626
                        refine x_iload_n (pc2 := 103) dX8_qTakes_102 rfl rfl ?_
                        refine x_iconst (pc2 := 104) dX8_qTakes_103 rfl ?_
                        obtain ⟨k1, k2⟩ := k
                        refine x_icmp_ne (tgt := 119) (pc2 := 107) dX8_qTakes_104 (by decide) rfl h5 (by decide) (fun c627 => ?_) (fun c627 => ?_)
                        · replace k := k1 c627
                          refine x_lload_n (pc2 := 120) dX8_qTakes_119 rfl rfl ?_
                          refine x_aload_n (pc2 := 121) dX8_qTakes_120 rfl rfl ?_
                          refine x_getf (pc2 := 124) (v := aJ ((wr m 62 119 l4) 62 119)) fl_X8_710 ic_62 (fv_j _ ic_62 rfl) dX8_qTakes_121 rfl ?_
                          obtain ⟨h628, k⟩ := k
                          obtain ⟨h629, k⟩ := k
                          obtain ⟨k1, k2⟩ := k
                          refine x_lc_ge (tgt := 133) (pc2 := 128) dX8_qTakes_124 dX8_qTakes_125 (by decide) rfl h628 h629 (fun c630 => ?_) (fun c630 => ?_)
                          · replace k := k1 c630
                            refine x_aload_n (pc2 := 134) dX8_qTakes_133 rfl rfl ?_
                            refine x_iconst (pc2 := 135) dX8_qTakes_134 rfl ?_
                            refine x_putf (pc2 := 138) (x := 0) fl_X8_715 ft_8_120 ic_62 (pv_i _ ic_62 rfl) (pn_z (by decide)) dX8_qTakes_135 rfl ?_
                            exact x_return dX8_qTakes_138 rfl k
                          · replace k := k2 c630
                            refine x_aload_n (pc2 := 129) dX8_qTakes_128 rfl rfl ?_
                            refine x_lload_n (pc2 := 130) dX8_qTakes_129 rfl rfl ?_
                            refine x_putf (pc2 := 133) (x := l2) fl_X8_710 ft_8_119 ic_62 (pv_j _ ic_62 rfl) (pn_j _) dX8_qTakes_130 rfl ?_
                            refine x_aload_n (pc2 := 134) dX8_qTakes_133 rfl rfl ?_
                            refine x_iconst (pc2 := 135) dX8_qTakes_134 rfl ?_
                            refine x_putf (pc2 := 138) (x := 0) fl_X8_715 ft_8_120 ic_62 (pv_i _ ic_62 rfl) (pn_z (by decide)) dX8_qTakes_135 rfl ?_
                            exact x_return dX8_qTakes_138 rfl k
                        · replace k := k2 c627
                          refine x_lload_n (pc2 := 108) dX8_qTakes_107 rfl rfl ?_
                          refine x_aload_n (pc2 := 109) dX8_qTakes_108 rfl rfl ?_
                          refine x_getf (pc2 := 112) (v := aJ ((wr m 62 119 l4) 62 119)) fl_X8_710 ic_62 (fv_j _ ic_62 rfl) dX8_qTakes_109 rfl ?_
                          obtain ⟨h631, k⟩ := k
                          obtain ⟨h632, k⟩ := k
                          obtain ⟨k1, k2⟩ := k
                          refine x_lc_le (tgt := 133) (pc2 := 116) dX8_qTakes_112 dX8_qTakes_113 (by decide) rfl h631 h632 (fun c633 => ?_) (fun c633 => ?_)
                          · replace k := k1 c633
                            refine x_aload_n (pc2 := 134) dX8_qTakes_133 rfl rfl ?_
                            refine x_iconst (pc2 := 135) dX8_qTakes_134 rfl ?_
                            refine x_putf (pc2 := 138) (x := 0) fl_X8_715 ft_8_120 ic_62 (pv_i _ ic_62 rfl) (pn_z (by decide)) dX8_qTakes_135 rfl ?_
                            exact x_return dX8_qTakes_138 rfl k
                          · replace k := k2 c633
                            refine x_goto (tgt := 128) dX8_qTakes_116 (by decide) ?_
                            refine x_aload_n (pc2 := 129) dX8_qTakes_128 rfl rfl ?_
                            refine x_lload_n (pc2 := 130) dX8_qTakes_129 rfl rfl ?_
                            refine x_putf (pc2 := 133) (x := l2) fl_X8_710 ft_8_119 ic_62 (pv_j _ ic_62 rfl) (pn_j _) dX8_qTakes_130 rfl ?_
                            refine x_aload_n (pc2 := 134) dX8_qTakes_133 rfl rfl ?_
                            refine x_iconst (pc2 := 135) dX8_qTakes_134 rfl ?_
                            refine x_putf (pc2 := 138) (x := 0) fl_X8_715 ft_8_120 ic_62 (pv_i _ ic_62 rfl) (pn_z (by decide)) dX8_qTakes_135 rfl ?_
                            exact x_return dX8_qTakes_138 rfl k
                  · replace k := k2 c623
                    refine x_aload_n (pc2 := 81) dX8_qTakes_80 rfl rfl ?_
                    refine x_dup_r (pc2 := 82) dX8_qTakes_81 rfl (by decide) ?_
                    refine x_getf (pc2 := 85) (v := aJ ((wr m 62 119 l4) 62 119)) fl_X8_710 ic_62 (fv_j _ ic_62 rfl) dX8_qTakes_82 rfl ?_
                    refine x_lload_n (pc2 := 86) dX8_qTakes_85 rfl rfl ?_
                    refine x_ladd (pc2 := 87) dX8_qTakes_86 rfl ?_
                    refine x_putf (pc2 := 90) (x := (((wr m 62 119 l4) 62 119) + l2)) fl_X8_710 ft_8_119 ic_62 (pv_j _ ic_62 rfl) (pn_j _) dX8_qTakes_87 rfl ?_
                    refine x_iload_n (pc2 := 91) dX8_qTakes_90 rfl rfl ?_
                    refine x_iconst (pc2 := 92) dX8_qTakes_91 rfl ?_
                    obtain ⟨k1, k2⟩ := k
                    refine x_icmp_le (tgt := 133) (pc2 := 95) dX8_qTakes_92 (by decide) rfl h5 (by decide) (fun c634 => ?_) (fun c634 => ?_)
                    · replace k := k1 c634
                      refine x_aload_n (pc2 := 134) dX8_qTakes_133 rfl rfl ?_
                      refine x_iconst (pc2 := 135) dX8_qTakes_134 rfl ?_
                      refine x_putf (pc2 := 138) (x := 0) fl_X8_715 ft_8_120 ic_62 (pv_i _ ic_62 rfl) (pn_z (by decide)) dX8_qTakes_135 rfl ?_
                      exact x_return dX8_qTakes_138 rfl k
                    · replace k := k2 c634
                      refine x_aload_n (pc2 := 96) dX8_qTakes_95 rfl rfl ?_
                      refine x_getf (pc2 := 99) (v := aI ((wr (wr m 62 119 l4) 62 119 (((wr m 62 119 l4) 62 119) + l2)) 62 120)) fl_X8_715 ic_62 (fv_i _ ic_62 rfl) dX8_qTakes_96 rfl ?_
                      obtain ⟨h635, k⟩ := k
                      obtain ⟨k1, k2⟩ := k
                      refine x_if_ne (tgt := 128) (pc2 := 102) dX8_qTakes_99 (by decide) rfl h635 (fun c636 => ?_) (fun c636 => ?_)
                      · replace k := k1 c636
                        refine x_aload_n (pc2 := 129) dX8_qTakes_128 rfl rfl ?_
                        refine x_lload_n (pc2 := 130) dX8_qTakes_129 rfl rfl ?_
                        refine x_putf (pc2 := 133) (x := l2) fl_X8_710 ft_8_119 ic_62 (pv_j _ ic_62 rfl) (pn_j _) dX8_qTakes_130 rfl ?_
                        refine x_aload_n (pc2 := 134) dX8_qTakes_133 rfl rfl ?_
                        refine x_iconst (pc2 := 135) dX8_qTakes_134 rfl ?_
                        refine x_putf (pc2 := 138) (x := 0) fl_X8_715 ft_8_120 ic_62 (pv_i _ ic_62 rfl) (pn_z (by decide)) dX8_qTakes_135 rfl ?_
                        exact x_return dX8_qTakes_138 rfl k
                      · replace k := k2 c636
                        refine x_iload_n (pc2 := 103) dX8_qTakes_102 rfl rfl ?_
                        refine x_iconst (pc2 := 104) dX8_qTakes_103 rfl ?_
                        obtain ⟨k1, k2⟩ := k
                        refine x_icmp_ne (tgt := 119) (pc2 := 107) dX8_qTakes_104 (by decide) rfl h5 (by decide) (fun c637 => ?_) (fun c637 => ?_)
                        · replace k := k1 c637
                          refine x_lload_n (pc2 := 120) dX8_qTakes_119 rfl rfl ?_
                          refine x_aload_n (pc2 := 121) dX8_qTakes_120 rfl rfl ?_
                          refine x_getf (pc2 := 124) (v := aJ ((wr (wr m 62 119 l4) 62 119 (((wr m 62 119 l4) 62 119) + l2)) 62 119)) fl_X8_710 ic_62 (fv_j _ ic_62 rfl) dX8_qTakes_121 rfl ?_
                          obtain ⟨h638, k⟩ := k
                          obtain ⟨h639, k⟩ := k
                          obtain ⟨k1, k2⟩ := k
                          refine x_lc_ge (tgt := 133) (pc2 := 128) dX8_qTakes_124 dX8_qTakes_125 (by decide) rfl h638 h639 (fun c640 => ?_) (fun c640 => ?_)
                          · replace k := k1 c640
                            refine x_aload_n (pc2 := 134) dX8_qTakes_133 rfl rfl ?_
                            refine x_iconst (pc2 := 135) dX8_qTakes_134 rfl ?_
                            refine x_putf (pc2 := 138) (x := 0) fl_X8_715 ft_8_120 ic_62 (pv_i _ ic_62 rfl) (pn_z (by decide)) dX8_qTakes_135 rfl ?_
                            exact x_return dX8_qTakes_138 rfl k
                          · replace k := k2 c640
                            refine x_aload_n (pc2 := 129) dX8_qTakes_128 rfl rfl ?_
                            refine x_lload_n (pc2 := 130) dX8_qTakes_129 rfl rfl ?_
                            refine x_putf (pc2 := 133) (x := l2) fl_X8_710 ft_8_119 ic_62 (pv_j _ ic_62 rfl) (pn_j _) dX8_qTakes_130 rfl ?_
                            refine x_aload_n (pc2 := 134) dX8_qTakes_133 rfl rfl ?_
                            refine x_iconst (pc2 := 135) dX8_qTakes_134 rfl ?_
                            refine x_putf (pc2 := 138) (x := 0) fl_X8_715 ft_8_120 ic_62 (pv_i _ ic_62 rfl) (pn_z (by decide)) dX8_qTakes_135 rfl ?_
                            exact x_return dX8_qTakes_138 rfl k
                        · replace k := k2 c637
                          refine x_lload_n (pc2 := 108) dX8_qTakes_107 rfl rfl ?_
                          refine x_aload_n (pc2 := 109) dX8_qTakes_108 rfl rfl ?_
                          refine x_getf (pc2 := 112) (v := aJ ((wr (wr m 62 119 l4) 62 119 (((wr m 62 119 l4) 62 119) + l2)) 62 119)) fl_X8_710 ic_62 (fv_j _ ic_62 rfl) dX8_qTakes_109 rfl ?_
                          obtain ⟨h641, k⟩ := k
                          obtain ⟨h642, k⟩ := k
                          obtain ⟨k1, k2⟩ := k
                          refine x_lc_le (tgt := 133) (pc2 := 116) dX8_qTakes_112 dX8_qTakes_113 (by decide) rfl h641 h642 (fun c643 => ?_) (fun c643 => ?_)
                          · replace k := k1 c643
                            refine x_aload_n (pc2 := 134) dX8_qTakes_133 rfl rfl ?_
                            refine x_iconst (pc2 := 135) dX8_qTakes_134 rfl ?_
                            refine x_putf (pc2 := 138) (x := 0) fl_X8_715 ft_8_120 ic_62 (pv_i _ ic_62 rfl) (pn_z (by decide)) dX8_qTakes_135 rfl ?_
                            exact x_return dX8_qTakes_138 rfl k
                          · replace k := k2 c643
                            refine x_goto (tgt := 128) dX8_qTakes_116 (by decide) ?_
                            refine x_aload_n (pc2 := 129) dX8_qTakes_128 rfl rfl ?_
                            refine x_lload_n (pc2 := 130) dX8_qTakes_129 rfl rfl ?_
                            refine x_putf (pc2 := 133) (x := l2) fl_X8_710 ft_8_119 ic_62 (pv_j _ ic_62 rfl) (pn_j _) dX8_qTakes_130 rfl ?_
                            refine x_aload_n (pc2 := 134) dX8_qTakes_133 rfl rfl ?_
                            refine x_iconst (pc2 := 135) dX8_qTakes_134 rfl ?_
                            refine x_putf (pc2 := 138) (x := 0) fl_X8_715 ft_8_120 ic_62 (pv_i _ ic_62 rfl) (pn_z (by decide)) dX8_qTakes_135 rfl ?_
                            exact x_return dX8_qTakes_138 rfl k
                · replace k := k2 c622
                  refine x_aload_n (pc2 := 66) dX8_qTakes_65 rfl rfl ?_
                  refine x_dup_r (pc2 := 67) dX8_qTakes_66 rfl (by decide) ?_
                  refine x_getf (pc2 := 70) (v := aJ ((wr m 62 119 l4) 62 119)) fl_X8_710 ic_62 (fv_j _ ic_62 rfl) dX8_qTakes_67 rfl ?_
                  refine x_lconst (pc2 := 71) (v := 1) dX8_qTakes_70 rfl rfl ?_
                  refine x_ladd (pc2 := 72) dX8_qTakes_71 rfl ?_
                  refine x_putf (pc2 := 75) (x := (((wr m 62 119 l4) 62 119) + 1)) fl_X8_710 ft_8_119 ic_62 (pv_j _ ic_62 rfl) (pn_j _) dX8_qTakes_72 rfl ?_
                  refine x_iload_n (pc2 := 76) dX8_qTakes_75 rfl rfl ?_
                  refine x_iconst (pc2 := 77) dX8_qTakes_76 rfl ?_
                  obtain ⟨k1, k2⟩ := k
                  refine x_icmp_ne (tgt := 90) (pc2 := 80) dX8_qTakes_77 (by decide) rfl h5 (by decide) (fun c644 => ?_) (fun c644 => ?_)
                  · replace k := k1 c644
                    refine x_iload_n (pc2 := 91) dX8_qTakes_90 rfl rfl ?_
                    refine x_iconst (pc2 := 92) dX8_qTakes_91 rfl ?_
                    obtain ⟨k1, k2⟩ := k
                    refine x_icmp_le (tgt := 133) (pc2 := 95) dX8_qTakes_92 (by decide) rfl h5 (by decide) (fun c645 => ?_) (fun c645 => ?_)
                    · replace k := k1 c645
                      refine x_aload_n (pc2 := 134) dX8_qTakes_133 rfl rfl ?_
                      refine x_iconst (pc2 := 135) dX8_qTakes_134 rfl ?_
                      refine x_putf (pc2 := 138) (x := 0) fl_X8_715 ft_8_120 ic_62 (pv_i _ ic_62 rfl) (pn_z (by decide)) dX8_qTakes_135 rfl ?_
                      exact x_return dX8_qTakes_138 rfl k
                    · replace k := k2 c645
                      refine x_aload_n (pc2 := 96) dX8_qTakes_95 rfl rfl ?_
                      refine x_getf (pc2 := 99) (v := aI ((wr (wr m 62 119 l4) 62 119 (((wr m 62 119 l4) 62 119) + 1)) 62 120)) fl_X8_715 ic_62 (fv_i _ ic_62 rfl) dX8_qTakes_96 rfl ?_
                      obtain ⟨h646, k⟩ := k
                      obtain ⟨k1, k2⟩ := k
                      refine x_if_ne (tgt := 128) (pc2 := 102) dX8_qTakes_99 (by decide) rfl h646 (fun c647 => ?_) (fun c647 => ?_)
                      · replace k := k1 c647
                        refine x_aload_n (pc2 := 129) dX8_qTakes_128 rfl rfl ?_
                        refine x_lload_n (pc2 := 130) dX8_qTakes_129 rfl rfl ?_
                        refine x_putf (pc2 := 133) (x := l2) fl_X8_710 ft_8_119 ic_62 (pv_j _ ic_62 rfl) (pn_j _) dX8_qTakes_130 rfl ?_
                        refine x_aload_n (pc2 := 134) dX8_qTakes_133 rfl rfl ?_
                        refine x_iconst (pc2 := 135) dX8_qTakes_134 rfl ?_
                        refine x_putf (pc2 := 138) (x := 0) fl_X8_715 ft_8_120 ic_62 (pv_i _ ic_62 rfl) (pn_z (by decide)) dX8_qTakes_135 rfl ?_
                        exact x_return dX8_qTakes_138 rfl k
                      · replace k := k2 c647
                        refine x_iload_n (pc2 := 103) dX8_qTakes_102 rfl rfl ?_
                        refine x_iconst (pc2 := 104) dX8_qTakes_103 rfl ?_
                        obtain ⟨k1, k2⟩ := k
                        refine x_icmp_ne (tgt := 119) (pc2 := 107) dX8_qTakes_104 (by decide) rfl h5 (by decide) (fun c648 => ?_) (fun c648 => ?_)
                        · replace k := k1 c648
                          refine x_lload_n (pc2 := 120) dX8_qTakes_119 rfl rfl ?_
                          refine x_aload_n (pc2 := 121) dX8_qTakes_120 rfl rfl ?_
                          refine x_getf (pc2 := 124) (v := aJ ((wr (wr m 62 119 l4) 62 119 (((wr m 62 119 l4) 62 119) + 1)) 62 119)) fl_X8_710 ic_62 (fv_j _ ic_62 rfl) dX8_qTakes_121 rfl ?_
                          obtain ⟨h649, k⟩ := k
                          obtain ⟨h650, k⟩ := k
                          obtain ⟨k1, k2⟩ := k
                          refine x_lc_ge (tgt := 133) (pc2 := 128) dX8_qTakes_124 dX8_qTakes_125 (by decide) rfl h649 h650 (fun c651 => ?_) (fun c651 => ?_)
                          · replace k := k1 c651
                            refine x_aload_n (pc2 := 134) dX8_qTakes_133 rfl rfl ?_
                            refine x_iconst (pc2 := 135) dX8_qTakes_134 rfl ?_
                            refine x_putf (pc2 := 138) (x := 0) fl_X8_715 ft_8_120 ic_62 (pv_i _ ic_62 rfl) (pn_z (by decide)) dX8_qTakes_135 rfl ?_
                            exact x_return dX8_qTakes_138 rfl k
                          · replace k := k2 c651
                            refine x_aload_n (pc2 := 129) dX8_qTakes_128 rfl rfl ?_
                            refine x_lload_n (pc2 := 130) dX8_qTakes_129 rfl rfl ?_
                            refine x_putf (pc2 := 133) (x := l2) fl_X8_710 ft_8_119 ic_62 (pv_j _ ic_62 rfl) (pn_j _) dX8_qTakes_130 rfl ?_
                            refine x_aload_n (pc2 := 134) dX8_qTakes_133 rfl rfl ?_
                            refine x_iconst (pc2 := 135) dX8_qTakes_134 rfl ?_
                            refine x_putf (pc2 := 138) (x := 0) fl_X8_715 ft_8_120 ic_62 (pv_i _ ic_62 rfl) (pn_z (by decide)) dX8_qTakes_135 rfl ?_
                            exact x_return dX8_qTakes_138 rfl k
                        · replace k := k2 c648
                          refine x_lload_n (pc2 := 108) dX8_qTakes_107 rfl rfl ?_
                          refine x_aload_n (pc2 := 109) dX8_qTakes_108 rfl rfl ?_
                          refine x_getf (pc2 := 112) (v := aJ ((wr (wr m 62 119 l4) 62 119 (((wr m 62 119 l4) 62 119) + 1)) 62 119)) fl_X8_710 ic_62 (fv_j _ ic_62 rfl) dX8_qTakes_109 rfl ?_
                          obtain ⟨h652, k⟩ := k
                          obtain ⟨h653, k⟩ := k
                          obtain ⟨k1, k2⟩ := k
                          refine x_lc_le (tgt := 133) (pc2 := 116) dX8_qTakes_112 dX8_qTakes_113 (by decide) rfl h652 h653 (fun c654 => ?_) (fun c654 => ?_)
                          · replace k := k1 c654
                            refine x_aload_n (pc2 := 134) dX8_qTakes_133 rfl rfl ?_
                            refine x_iconst (pc2 := 135) dX8_qTakes_134 rfl ?_
                            refine x_putf (pc2 := 138) (x := 0) fl_X8_715 ft_8_120 ic_62 (pv_i _ ic_62 rfl) (pn_z (by decide)) dX8_qTakes_135 rfl ?_
                            exact x_return dX8_qTakes_138 rfl k
                          · replace k := k2 c654
                            refine x_goto (tgt := 128) dX8_qTakes_116 (by decide) ?_
                            refine x_aload_n (pc2 := 129) dX8_qTakes_128 rfl rfl ?_
                            refine x_lload_n (pc2 := 130) dX8_qTakes_129 rfl rfl ?_
                            refine x_putf (pc2 := 133) (x := l2) fl_X8_710 ft_8_119 ic_62 (pv_j _ ic_62 rfl) (pn_j _) dX8_qTakes_130 rfl ?_
                            refine x_aload_n (pc2 := 134) dX8_qTakes_133 rfl rfl ?_
                            refine x_iconst (pc2 := 135) dX8_qTakes_134 rfl ?_
                            refine x_putf (pc2 := 138) (x := 0) fl_X8_715 ft_8_120 ic_62 (pv_i _ ic_62 rfl) (pn_z (by decide)) dX8_qTakes_135 rfl ?_
                            exact x_return dX8_qTakes_138 rfl k
                  · replace k := k2 c644
                    refine x_aload_n (pc2 := 81) dX8_qTakes_80 rfl rfl ?_
                    refine x_dup_r (pc2 := 82) dX8_qTakes_81 rfl (by decide) ?_
                    refine x_getf (pc2 := 85) (v := aJ ((wr (wr m 62 119 l4) 62 119 (((wr m 62 119 l4) 62 119) + 1)) 62 119)) fl_X8_710 ic_62 (fv_j _ ic_62 rfl) dX8_qTakes_82 rfl ?_
                    refine x_lload_n (pc2 := 86) dX8_qTakes_85 rfl rfl ?_
                    refine x_ladd (pc2 := 87) dX8_qTakes_86 rfl ?_
                    refine x_putf (pc2 := 90) (x := (((wr (wr m 62 119 l4) 62 119 (((wr m 62 119 l4) 62 119) + 1)) 62 119) + l2)) fl_X8_710 ft_8_119 ic_62 (pv_j _ ic_62 rfl) (pn_j _) dX8_qTakes_87 rfl ?_
                    refine x_iload_n (pc2 := 91) dX8_qTakes_90 rfl rfl ?_
                    refine x_iconst (pc2 := 92) dX8_qTakes_91 rfl ?_
                    obtain ⟨k1, k2⟩ := k
                    refine x_icmp_le (tgt := 133) (pc2 := 95) dX8_qTakes_92 (by decide) rfl h5 (by decide) (fun c655 => ?_) (fun c655 => ?_)
                    · replace k := k1 c655
                      refine x_aload_n (pc2 := 134) dX8_qTakes_133 rfl rfl ?_
                      refine x_iconst (pc2 := 135) dX8_qTakes_134 rfl ?_
                      refine x_putf (pc2 := 138) (x := 0) fl_X8_715 ft_8_120 ic_62 (pv_i _ ic_62 rfl) (pn_z (by decide)) dX8_qTakes_135 rfl ?_
                      exact x_return dX8_qTakes_138 rfl k
                    · replace k := k2 c655
                      refine x_aload_n (pc2 := 96) dX8_qTakes_95 rfl rfl ?_
                      refine x_getf (pc2 := 99) (v := aI ((wr (wr (wr m 62 119 l4) 62 119 (((wr m 62 119 l4) 62 119) + 1)) 62 119 (((wr (wr m 62 119 l4) 62 119 (((wr m 62 119 l4) 62 119) + 1)) 62 119) + l2)) 62 120)) fl_X8_715 ic_62 (fv_i _ ic_62 rfl) dX8_qTakes_96 rfl ?_
                      obtain ⟨h656, k⟩ := k
                      obtain ⟨k1, k2⟩ := k
                      refine x_if_ne (tgt := 128) (pc2 := 102) dX8_qTakes_99 (by decide) rfl h656 (fun c657 => ?_) (fun c657 => ?_)
                      · replace k := k1 c657
                        refine x_aload_n (pc2 := 129) dX8_qTakes_128 rfl rfl ?_
                        refine x_lload_n (pc2 := 130) dX8_qTakes_129 rfl rfl ?_
                        refine x_putf (pc2 := 133) (x := l2) fl_X8_710 ft_8_119 ic_62 (pv_j _ ic_62 rfl) (pn_j _) dX8_qTakes_130 rfl ?_
                        refine x_aload_n (pc2 := 134) dX8_qTakes_133 rfl rfl ?_
                        refine x_iconst (pc2 := 135) dX8_qTakes_134 rfl ?_
                        refine x_putf (pc2 := 138) (x := 0) fl_X8_715 ft_8_120 ic_62 (pv_i _ ic_62 rfl) (pn_z (by decide)) dX8_qTakes_135 rfl ?_
                        exact x_return dX8_qTakes_138 rfl k
                      · replace k := k2 c657
                        refine x_iload_n (pc2 := 103) dX8_qTakes_102 rfl rfl ?_
                        refine x_iconst (pc2 := 104) dX8_qTakes_103 rfl ?_
                        obtain ⟨k1, k2⟩ := k
                        refine x_icmp_ne (tgt := 119) (pc2 := 107) dX8_qTakes_104 (by decide) rfl h5 (by decide) (fun c658 => ?_) (fun c658 => ?_)
                        · replace k := k1 c658
                          refine x_lload_n (pc2 := 120) dX8_qTakes_119 rfl rfl ?_
                          refine x_aload_n (pc2 := 121) dX8_qTakes_120 rfl rfl ?_
                          refine x_getf (pc2 := 124) (v := aJ ((wr (wr (wr m 62 119 l4) 62 119 (((wr m 62 119 l4) 62 119) + 1)) 62 119 (((wr (wr m 62 119 l4) 62 119 (((wr m 62 119 l4) 62 119) + 1)) 62 119) + l2)) 62 119)) fl_X8_710 ic_62 (fv_j _ ic_62 rfl) dX8_qTakes_121 rfl ?_
                          obtain ⟨h659, k⟩ := k
                          obtain ⟨h660, k⟩ := k
                          obtain ⟨k1, k2⟩ := k
                          refine x_lc_ge (tgt := 133) (pc2 := 128) dX8_qTakes_124 dX8_qTakes_125 (by decide) rfl h659 h660 (fun c661 => ?_) (fun c661 => ?_)
                          · replace k := k1 c661
                            refine x_aload_n (pc2 := 134) dX8_qTakes_133 rfl rfl ?_
                            refine x_iconst (pc2 := 135) dX8_qTakes_134 rfl ?_
                            refine x_putf (pc2 := 138) (x := 0) fl_X8_715 ft_8_120 ic_62 (pv_i _ ic_62 rfl) (pn_z (by decide)) dX8_qTakes_135 rfl ?_
                            exact x_return dX8_qTakes_138 rfl k
                          · replace k := k2 c661
                            refine x_aload_n (pc2 := 129) dX8_qTakes_128 rfl rfl ?_
                            refine x_lload_n (pc2 := 130) dX8_qTakes_129 rfl rfl ?_
                            refine x_putf (pc2 := 133) (x := l2) fl_X8_710 ft_8_119 ic_62 (pv_j _ ic_62 rfl) (pn_j _) dX8_qTakes_130 rfl ?_
                            refine x_aload_n (pc2 := 134) dX8_qTakes_133 rfl rfl ?_
                            refine x_iconst (pc2 := 135) dX8_qTakes_134 rfl ?_
                            refine x_putf (pc2 := 138) (x := 0) fl_X8_715 ft_8_120 ic_62 (pv_i _ ic_62 rfl) (pn_z (by decide)) dX8_qTakes_135 rfl ?_
                            exact x_return dX8_qTakes_138 rfl k
                        · replace k := k2 c658
                          refine x_lload_n (pc2 := 108) dX8_qTakes_107 rfl rfl ?_
                          refine x_aload_n (pc2 := 109) dX8_qTakes_108 rfl rfl ?_
                          refine x_getf (pc2 := 112) (v := aJ ((wr (wr (wr m 62 119 l4) 62 119 (((wr m 62 119 l4) 62 119) + 1)) 62 119 (((wr (wr m 62 119 l4) 62 119 (((wr m 62 119 l4) 62 119) + 1)) 62 119) + l2)) 62 119)) fl_X8_710 ic_62 (fv_j _ ic_62 rfl) dX8_qTakes_109 rfl ?_
                          obtain ⟨h662, k⟩ := k
                          obtain ⟨h663, k⟩ := k
                          obtain ⟨k1, k2⟩ := k
                          refine x_lc_le (tgt := 133) (pc2 := 116) dX8_qTakes_112 dX8_qTakes_113 (by decide) rfl h662 h663 (fun c664 => ?_) (fun c664 => ?_)
                          · replace k := k1 c664
                            refine x_aload_n (pc2 := 134) dX8_qTakes_133 rfl rfl ?_
                            refine x_iconst (pc2 := 135) dX8_qTakes_134 rfl ?_
                            refine x_putf (pc2 := 138) (x := 0) fl_X8_715 ft_8_120 ic_62 (pv_i _ ic_62 rfl) (pn_z (by decide)) dX8_qTakes_135 rfl ?_
                            exact x_return dX8_qTakes_138 rfl k
                          · replace k := k2 c664
                            refine x_goto (tgt := 128) dX8_qTakes_116 (by decide) ?_
                            refine x_aload_n (pc2 := 129) dX8_qTakes_128 rfl rfl ?_
                            refine x_lload_n (pc2 := 130) dX8_qTakes_129 rfl rfl ?_
                            refine x_putf (pc2 := 133) (x := l2) fl_X8_710 ft_8_119 ic_62 (pv_j _ ic_62 rfl) (pn_j _) dX8_qTakes_130 rfl ?_
                            refine x_aload_n (pc2 := 134) dX8_qTakes_133 rfl rfl ?_
                            refine x_iconst (pc2 := 135) dX8_qTakes_134 rfl ?_
                            refine x_putf (pc2 := 138) (x := 0) fl_X8_715 ft_8_120 ic_62 (pv_i _ ic_62 rfl) (pn_z (by decide)) dX8_qTakes_135 rfl ?_
                            exact x_return dX8_qTakes_138 rfl k
  have h665 := g2 
  refine x_icmp_ge (tgt := 15) (pc2 := 5) dX8_qTakes_2 (by decide) rfl h665 (by decide) (fun c666 => ?_) (fun c666 => ?_)
  · skip
    refine x_iconst (pc2 := 16) dX8_qTakes_15 rfl ?_
    exact x_topI (v := (if 3 ≤ l1 then 0 else (if l2 ≠ 1 then 0 else 1 : Int) : Int)) (if_pos c666) kj
  · skip
    refine x_lload_n (pc2 := 6) dX8_qTakes_5 rfl rfl ?_
    refine x_lconst (pc2 := 7) (v := 1) dX8_qTakes_6 rfl rfl ?_
    have h667 := g4 c666
    refine x_lc_ne (tgt := 15) (pc2 := 11) dX8_qTakes_7 dX8_qTakes_8 (by decide) rfl h667 (by decide) (fun c668 => ?_) (fun c668 => ?_)
    · skip
      refine x_iconst (pc2 := 16) dX8_qTakes_15 rfl ?_
      exact x_topI (v := (if 3 ≤ l1 then 0 else (if l2 ≠ 1 then 0 else 1 : Int) : Int)) ((if_neg c666).trans (if_pos c668)) kj
    · skip
      refine x_iconst (pc2 := 12) dX8_qTakes_11 rfl ?_
      refine x_goto (tgt := 16) dX8_qTakes_12 (by decide) ?_
      exact x_topI (v := (if 3 ≤ l1 then 0 else (if l2 ≠ 1 then 0 else 1 : Int) : Int)) ((if_neg c666).trans (if_neg c668)) kj
set_option maxRecDepth 4000 in
theorem g_X8_ask_0 {sc : List Int} {d : Nat} {m : Mem} {Q : Option AV → Mem → Prop} {l1 l2 : Int} (k : S_X8_ask sc d 2 [aR 62, aI l1, aI l2, aU, aU] [aI l1, aR 62] m Q) : S_X8_ask sc d 0 [aR 62, aI l1, aI l2, aU, aU] [] m Q := by
  refine x_aload_n (pc2 := 1) dX8_ask_0 rfl rfl ?_
  refine x_iload_n (pc2 := 2) dX8_ask_1 rfl rfl ?_
  exact k
set_option maxRecDepth 4000 in
theorem g_X8_ask_5 {sc : List Int} {d : Nat} {m : Mem} {Q : Option AV → Mem → Prop} {l1 l2 s0 : Int} (k : (-2147483648 ≤ s0 ∧ s0 < 2147483648) ∧ ((s0 = 0) → (Q (some (aJ (-1000000000000000))) (wr m 62 1 0))) ∧ (¬ (s0 = 0) → ((-2147483648 ≤ l2 ∧ l2 < 2147483648) ∧ S_X8_ask sc d 14 [aR 62, aI l1, aI l2, aU, aU] [aJ 99, aJ 1, aJ l2] m Q))) : S_X8_ask sc d 5 [aR 62, aI l1, aI l2, aU, aU] [aI s0] m Q := by
  obtain ⟨h1, k⟩ := k
  obtain ⟨k1, k2⟩ := k
  refine x_if_eq (tgt := 20) (pc2 := 8) dX8_ask_5 (by decide) rfl h1 (fun c2 => ?_) (fun c2 => ?_)
  · replace k := k1 c2
    refine x_aload_n (pc2 := 21) dX8_ask_20 rfl rfl ?_
    refine x_iconst (pc2 := 22) dX8_ask_21 rfl ?_
    refine x_putf (pc2 := 25) (x := 0) fl_X8_287 ft_8_1 ic_62 (pv_i _ ic_62 rfl) (pn_i _) dX8_ask_22 rfl ?_
    refine x_ldc2 (pc2 := 28) (x := (-1000000000000000)) kc_X8_718 rfl dX8_ask_25 rfl ?_
    exact x_lreturn dX8_ask_28 rfl k
  · replace k := k2 c2
    refine x_iload_n (pc2 := 9) dX8_ask_8 rfl rfl ?_
    obtain ⟨h3, k⟩ := k
    refine x_i2l (pc2 := 10) dX8_ask_9 rfl h3 ?_
    refine x_lconst (pc2 := 11) (v := 1) dX8_ask_10 rfl rfl ?_
    refine x_ldc2 (pc2 := 14) (x := 99) kc_X8_513 rfl dX8_ask_11 rfl ?_
    exact k
set_option maxRecDepth 4000 in
theorem g_X8_ask_17 {sc : List Int} {d : Nat} {m : Mem} {Q : Option AV → Mem → Prop} {l1 l2 s0 : Int} (k : (-2147483648 ≤ s0 ∧ s0 < 2147483648) ∧ ((s0 ≠ 0) → (S_X8_ask sc d 88 [aR 62, aI l1, aI l2, aU, aU] [aR 62] (wr (wr (wr (wr (wr (wr (wr (wr (wr (wr (wr m 62 3 (m 62 1)) 62 1 0) 62 2 0) 62 4 (-1)) 62 5 0) 62 6 (-1)) 62 54 0) 62 112 0) 62 114 0) 62 115 0) 62 116 0) Q)) ∧ (¬ (s0 ≠ 0) → (Q (some (aJ (-1000000000000000))) (wr m 62 1 0)))) : S_X8_ask sc d 17 [aR 62, aI l1, aI l2, aU, aU] [aI s0] m Q := by
  obtain ⟨h1, k⟩ := k
  obtain ⟨k1, k2⟩ := k
  refine x_if_ne (tgt := 29) (pc2 := 20) dX8_ask_17 (by decide) rfl h1 (fun c2 => ?_) (fun c2 => ?_)
  · replace k := k1 c2
    refine x_aload_n (pc2 := 30) dX8_ask_29 rfl rfl ?_
    refine x_aload_n (pc2 := 31) dX8_ask_30 rfl rfl ?_
    refine x_getf (pc2 := 34) (v := aI (m 62 1)) fl_X8_287 ic_62 (fv_i _ ic_62 rfl) dX8_ask_31 rfl ?_
    refine x_putf (pc2 := 37) (x := (m 62 1)) fl_X8_299 ft_8_3 ic_62 (pv_i _ ic_62 rfl) (pn_i _) dX8_ask_34 rfl ?_
    refine x_aload_n (pc2 := 38) dX8_ask_37 rfl rfl ?_
    refine x_iconst (pc2 := 39) dX8_ask_38 rfl ?_
    refine x_putf (pc2 := 42) (x := 0) fl_X8_287 ft_8_1 ic_62 (pv_i _ ic_62 rfl) (pn_i _) dX8_ask_39 rfl ?_
    refine x_aload_n (pc2 := 43) dX8_ask_42 rfl rfl ?_
    refine x_iconst (pc2 := 44) dX8_ask_43 rfl ?_
    refine x_putf (pc2 := 47) (x := 0) fl_X8_296 ft_8_2 ic_62 (pv_i _ ic_62 rfl) (pn_i _) dX8_ask_44 rfl ?_
    refine x_aload_n (pc2 := 48) dX8_ask_47 rfl rfl ?_
    refine x_iconst (pc2 := 49) dX8_ask_48 rfl ?_
    refine x_putf (pc2 := 52) (x := (-1)) fl_X8_310 ft_8_4 ic_62 (pv_i _ ic_62 rfl) (pn_i _) dX8_ask_49 rfl ?_
    refine x_aload_n (pc2 := 53) dX8_ask_52 rfl rfl ?_
    refine x_iconst (pc2 := 54) dX8_ask_53 rfl ?_
    refine x_putf (pc2 := 57) (x := 0) fl_X8_290 ft_8_5 ic_62 (pv_i _ ic_62 rfl) (pn_i _) dX8_ask_54 rfl ?_
    refine x_aload_n (pc2 := 58) dX8_ask_57 rfl rfl ?_
    refine x_iconst (pc2 := 59) dX8_ask_58 rfl ?_
    refine x_putf (pc2 := 62) (x := (-1)) fl_X8_293 ft_8_6 ic_62 (pv_i _ ic_62 rfl) (pn_i _) dX8_ask_59 rfl ?_
    refine x_aload_n (pc2 := 63) dX8_ask_62 rfl rfl ?_
    refine x_iconst (pc2 := 64) dX8_ask_63 rfl ?_
    refine x_putf (pc2 := 67) (x := 0) fl_X8_348 ft_8_54 ic_62 (pv_i _ ic_62 rfl) (pn_z (by decide)) dX8_ask_64 rfl ?_
    refine x_aload_n (pc2 := 68) dX8_ask_67 rfl rfl ?_
    refine x_iconst (pc2 := 69) dX8_ask_68 rfl ?_
    refine x_putf (pc2 := 72) (x := 0) fl_X8_383 ft_8_112 ic_62 (pv_i _ ic_62 rfl) (pn_i _) dX8_ask_69 rfl ?_
    refine x_aload_n (pc2 := 73) dX8_ask_72 rfl rfl ?_
    refine x_iconst (pc2 := 74) dX8_ask_73 rfl ?_
    refine x_putf (pc2 := 77) (x := 0) fl_X8_386 ft_8_114 ic_62 (pv_i _ ic_62 rfl) (pn_i _) dX8_ask_74 rfl ?_
    refine x_aload_n (pc2 := 78) dX8_ask_77 rfl rfl ?_
    refine x_iconst (pc2 := 79) dX8_ask_78 rfl ?_
    refine x_putf (pc2 := 82) (x := 0) fl_X8_389 ft_8_115 ic_62 (pv_i _ ic_62 rfl) (pn_i _) dX8_ask_79 rfl ?_
    refine x_aload_n (pc2 := 83) dX8_ask_82 rfl rfl ?_
    refine x_iconst (pc2 := 84) dX8_ask_83 rfl ?_
    refine x_putf (pc2 := 87) (x := 0) fl_X8_392 ft_8_116 ic_62 (pv_i _ ic_62 rfl) (pn_i _) dX8_ask_84 rfl ?_
    refine x_aload_n (pc2 := 88) dX8_ask_87 rfl rfl ?_
    exact k
  · replace k := k2 c2
    refine x_aload_n (pc2 := 21) dX8_ask_20 rfl rfl ?_
    refine x_iconst (pc2 := 22) dX8_ask_21 rfl ?_
    refine x_putf (pc2 := 25) (x := 0) fl_X8_287 ft_8_1 ic_62 (pv_i _ ic_62 rfl) (pn_i _) dX8_ask_22 rfl ?_
    refine x_ldc2 (pc2 := 28) (x := (-1000000000000000)) kc_X8_718 rfl dX8_ask_25 rfl ?_
    exact x_lreturn dX8_ask_28 rfl k
set_option maxRecDepth 4000 in
theorem g_X8_ask_91 {sc : List Int} {d : Nat} {m : Mem} {Q : Option AV → Mem → Prop} {l1 l2 s0 : Int} (k : (-2147483648 ≤ (m 62 5) ∧ (m 62 5) < 2147483648) ∧ (((m 62 5) ≠ 0) → ((((m 62 5) ≠ 0) → (S_X8_ask sc d 122 [aR 62, aI l1, aI l2, aI s0, aU] [] m Q)) ∧ (¬ ((m 62 5) ≠ 0) → (S_X8_ask sc d 119 [aR 62, aI l1, aI l2, aI s0, aU] [aR 62] m Q)))) ∧ (¬ ((m 62 5) ≠ 0) → ((-2147483648 ≤ s0 ∧ s0 < 2147483648) ∧ ((3 ≤ s0) → ((((m 62 5) ≠ 0) → (S_X8_ask sc d 122 [aR 62, aI l1, aI l2, aI s0, aU] [] m Q)) ∧ (¬ ((m 62 5) ≠ 0) → (S_X8_ask sc d 119 [aR 62, aI l1, aI l2, aI s0, aU] [aR 62] m Q)))) ∧ (¬ (3 ≤ s0) → (S_X8_ask sc d 105 [aR 62, aI l1, aI l2, aI s0, aU] [aR 62] m Q))))) : S_X8_ask sc d 91 [aR 62, aI l1, aI l2, aU, aU] [aI s0] m Q := by
  refine x_istore_n (pc2 := 92) (ls2 := [aR 62, aI l1, aI l2, aI s0, aU]) dX8_ask_91 rfl (by decide) rfl ?_
  refine x_aload_n (pc2 := 93) dX8_ask_92 rfl rfl ?_
  refine x_getf (pc2 := 96) (v := aI (m 62 5)) fl_X8_290 ic_62 (fv_i _ ic_62 rfl) dX8_ask_93 rfl ?_
  obtain ⟨h1, k⟩ := k
  obtain ⟨k1, k2⟩ := k
  refine x_if_ne (tgt := 111) (pc2 := 99) dX8_ask_96 (by decide) rfl h1 (fun c2 => ?_) (fun c2 => ?_)
  · replace k := k1 c2
    refine x_aload_n (pc2 := 112) dX8_ask_111 rfl rfl ?_
    refine x_getf (pc2 := 115) (v := aI (m 62 5)) fl_X8_290 ic_62 (fv_i _ ic_62 rfl) dX8_ask_112 rfl ?_
    obtain ⟨k1, k2⟩ := k
    refine x_if_ne (tgt := 122) (pc2 := 118) dX8_ask_115 (by decide) rfl h1 (fun c3 => ?_) (fun c3 => ?_)
    · replace k := k1 c3
      exact k
    · replace k := k2 c3
      refine x_aload_n (pc2 := 119) dX8_ask_118 rfl rfl ?_
      exact k
  · replace k := k2 c2
    refine x_iload_n (pc2 := 100) dX8_ask_99 rfl rfl ?_
    refine x_iconst (pc2 := 101) dX8_ask_100 rfl ?_
    obtain ⟨h4, k⟩ := k
    obtain ⟨k1, k2⟩ := k
    refine x_icmp_ge (tgt := 111) (pc2 := 104) dX8_ask_101 (by decide) rfl h4 (by decide) (fun c5 => ?_) (fun c5 => ?_)
    · replace k := k1 c5
      refine x_aload_n (pc2 := 112) dX8_ask_111 rfl rfl ?_
      refine x_getf (pc2 := 115) (v := aI (m 62 5)) fl_X8_290 ic_62 (fv_i _ ic_62 rfl) dX8_ask_112 rfl ?_
      obtain ⟨k1, k2⟩ := k
      refine x_if_ne (tgt := 122) (pc2 := 118) dX8_ask_115 (by decide) rfl h1 (fun c6 => ?_) (fun c6 => ?_)
      · replace k := k1 c6
        exact k
      · replace k := k2 c6
        refine x_aload_n (pc2 := 119) dX8_ask_118 rfl rfl ?_
        exact k
    · replace k := k2 c5
      refine x_aload_n (pc2 := 105) dX8_ask_104 rfl rfl ?_
      exact k
set_option maxRecDepth 4000 in
theorem g_X8_ask_108 {sc : List Int} {d : Nat} {m : Mem} {Q : Option AV → Mem → Prop} {l1 l2 l3 : Int} (k : S_X8_ask sc d 122 [aR 62, aI l1, aI l2, aI l3, aU] [] m Q) : S_X8_ask sc d 108 [aR 62, aI l1, aI l2, aI l3, aU] [] m Q := by
  refine x_goto (tgt := 122) dX8_ask_108 (by decide) ?_
  exact k
set_option maxRecDepth 4000 in
theorem g_X8_ask_122 {sc : List Int} {d : Nat} {m : Mem} {Q : Option AV → Mem → Prop} {l1 l2 l3 : Int} (k : (-2147483648 ≤ (m 62 5) ∧ (m 62 5) < 2147483648) ∧ (((m 62 5) ≠ 0) → (S_X8_ask sc d 146 [aR 62, aI l1, aI l2, aI l3, aU] [] m Q)) ∧ (¬ ((m 62 5) ≠ 0) → (S_X8_ask sc d 130 [aR 62, aI l1, aI l2, aI l3, aU] [aR 62] m Q))) : S_X8_ask sc d 122 [aR 62, aI l1, aI l2, aI l3, aU] [] m Q := by
  refine x_aload_n (pc2 := 123) dX8_ask_122 rfl rfl ?_
  refine x_getf (pc2 := 126) (v := aI (m 62 5)) fl_X8_290 ic_62 (fv_i _ ic_62 rfl) dX8_ask_123 rfl ?_
  obtain ⟨h1, k⟩ := k
  obtain ⟨k1, k2⟩ := k
  refine x_if_ne (tgt := 146) (pc2 := 129) dX8_ask_126 (by decide) rfl h1 (fun c2 => ?_) (fun c2 => ?_)
  · replace k := k1 c2
    exact k
  · replace k := k2 c2
    refine x_aload_n (pc2 := 130) dX8_ask_129 rfl rfl ?_
    exact k
set_option maxRecDepth 4000 in
theorem g_X8_ask_133 {sc : List Int} {d : Nat} {m : Mem} {Q : Option AV → Mem → Prop} {l1 l2 l3 s0 : Int} (k : (-2147483648 ≤ s0 ∧ s0 < 2147483648) ∧ ((s0 = (-1)) → (S_X8_ask sc d 146 [aR 62, aI l1, aI l2, aI l3, aU] [] m Q)) ∧ (¬ (s0 = (-1)) → (S_X8_ask sc d 143 [aR 62, aI l1, aI l2, aI l3, aU] [aI (m 62 2), aI 1, aR 62] m Q))) : S_X8_ask sc d 133 [aR 62, aI l1, aI l2, aI l3, aU] [aI s0] m Q := by
  refine x_iconst (pc2 := 134) dX8_ask_133 rfl ?_
  obtain ⟨h1, k⟩ := k
  obtain ⟨k1, k2⟩ := k
  refine x_icmp_eq (tgt := 146) (pc2 := 137) dX8_ask_134 (by decide) rfl h1 (by decide) (fun c2 => ?_) (fun c2 => ?_)
  · replace k := k1 c2
    exact k
  · replace k := k2 c2
    refine x_aload_n (pc2 := 138) dX8_ask_137 rfl rfl ?_
    refine x_iconst (pc2 := 139) dX8_ask_138 rfl ?_
    refine x_aload_n (pc2 := 140) dX8_ask_139 rfl rfl ?_
    refine x_getf (pc2 := 143) (v := aI (m 62 2)) fl_X8_296 ic_62 (fv_i _ ic_62 rfl) dX8_ask_140 rfl ?_
    exact k
set_option maxRecDepth 4000 in
theorem g_X8_ask_146 {sc : List Int} {d : Nat} {m : Mem} {Q : Option AV → Mem → Prop} {l1 l2 l3 : Int} (k : (-2147483648 ≤ ((wr (wr m 62 7 (m 62 5)) 62 8 ((wr m 62 7 (m 62 5)) 62 6)) 62 5) ∧ ((wr (wr m 62 7 (m 62 5)) 62 8 ((wr m 62 7 (m 62 5)) 62 6)) 62 5) < 2147483648) ∧ ((((wr (wr m 62 7 (m 62 5)) 62 8 ((wr m 62 7 (m 62 5)) 62 6)) 62 5) = 0) → (((-2147483648 ≤ l3 ∧ l3 < 2147483648)) ∧ S_X8_ask sc d 197 [aR 62, aU, aI l2, aI l3, aU] [aI l2, aI l1, aR 62] (wr (wr (wr (wr m 62 7 (m 62 5)) 62 8 ((wr m 62 7 (m 62 5)) 62 6)) 62 119 (if 2 ≤ l3 then 0 else (-1) : Int)) 62 120 1) Q)) ∧ (¬ (((wr (wr m 62 7 (m 62 5)) 62 8 ((wr m 62 7 (m 62 5)) 62 6)) 62 5) = 0) → (Q (some (aJ (-1000000000000000))) (wr (wr m 62 7 (m 62 5)) 62 8 ((wr m 62 7 (m 62 5)) 62 6))))) : S_X8_ask sc d 146 [aR 62, aI l1, aI l2, aI l3, aU] [] m Q := by
  refine x_aload_n (pc2 := 147) dX8_ask_146 rfl rfl ?_
  refine x_aload_n (pc2 := 148) dX8_ask_147 rfl rfl ?_
  refine x_getf (pc2 := 151) (v := aI (m 62 5)) fl_X8_290 ic_62 (fv_i _ ic_62 rfl) dX8_ask_148 rfl ?_
  refine x_putf (pc2 := 154) (x := (m 62 5)) fl_X8_416 ft_8_7 ic_62 (pv_i _ ic_62 rfl) (pn_i _) dX8_ask_151 rfl ?_
  refine x_aload_n (pc2 := 155) dX8_ask_154 rfl rfl ?_
  refine x_aload_n (pc2 := 156) dX8_ask_155 rfl rfl ?_
  refine x_getf (pc2 := 159) (v := aI ((wr m 62 7 (m 62 5)) 62 6)) fl_X8_293 ic_62 (fv_i _ ic_62 rfl) dX8_ask_156 rfl ?_
  refine x_putf (pc2 := 162) (x := ((wr m 62 7 (m 62 5)) 62 6)) fl_X8_13 ft_8_8 ic_62 (pv_i _ ic_62 rfl) (pn_i _) dX8_ask_159 rfl ?_
  refine x_aload_n (pc2 := 163) dX8_ask_162 rfl rfl ?_
  refine x_getf (pc2 := 166) (v := aI ((wr (wr m 62 7 (m 62 5)) 62 8 ((wr m 62 7 (m 62 5)) 62 6)) 62 5)) fl_X8_290 ic_62 (fv_i _ ic_62 rfl) dX8_ask_163 rfl ?_
  obtain ⟨h1, k⟩ := k
  obtain ⟨k1, k2⟩ := k
  refine x_if_eq (tgt := 173) (pc2 := 169) dX8_ask_166 (by decide) rfl h1 (fun c2 => ?_) (fun c2 => ?_)
  · replace k := k1 c2
    refine x_aload_n (pc2 := 174) dX8_ask_173 rfl rfl ?_
    refine x_iload_n (pc2 := 175) dX8_ask_174 rfl rfl ?_
    refine x_iconst (pc2 := 176) dX8_ask_175 rfl ?_
    obtain ⟨g4, k⟩ := k
    have kj : S_X8_ask sc d 186 [aR 62, aI l1, aI l2, aI l3, aU] [aJ (if 2 ≤ l3 then 0 else (-1) : Int), aR 62] (wr (wr m 62 7 (m 62 5)) 62 8 ((wr m 62 7 (m 62 5)) 62 6)) Q := by
      refine x_putf (pc2 := 189) (x := (if 2 ≤ l3 then 0 else (-1) : Int)) fl_X8_710 ft_8_119 ic_62 (pv_j _ ic_62 rfl) (pn_j _) dX8_ask_186 rfl ?_
      refine x_aload_n (pc2 := 190) dX8_ask_189 rfl rfl ?_
      refine x_iconst (pc2 := 191) dX8_ask_190 rfl ?_
      refine x_putf (pc2 := 194) (x := 1) fl_X8_715 ft_8_120 ic_62 (pv_i _ ic_62 rfl) (pn_z (by decide)) dX8_ask_191 rfl ?_
      refine x_aload_n (pc2 := 195) dX8_ask_194 rfl rfl ?_
      refine x_iload_n (pc2 := 196) dX8_ask_195 rfl rfl ?_
      refine x_iload_n (pc2 := 197) dX8_ask_196 rfl rfl ?_
      exact x_drop (drp_k (drp_u (drp_k (drp_k (drp_k drp_n))))) k
    have h5 := g4 
    refine x_icmp_ge (tgt := 185) (pc2 := 179) dX8_ask_176 (by decide) rfl h5 (by decide) (fun c6 => ?_) (fun c6 => ?_)
    · skip
      refine x_lconst (pc2 := 186) (v := 0) dX8_ask_185 rfl rfl ?_
      exact x_topJ (v := (if 2 ≤ l3 then 0 else (-1) : Int)) (if_pos c6) kj
    · skip
      refine x_ldc2 (pc2 := 182) (x := (-1)) kc_X8_713 rfl dX8_ask_179 rfl ?_
      refine x_goto (tgt := 186) dX8_ask_182 (by decide) ?_
      exact x_topJ (v := (if 2 ≤ l3 then 0 else (-1) : Int)) (if_neg c6) kj
  · replace k := k2 c2
    refine x_ldc2 (pc2 := 172) (x := (-1000000000000000)) kc_X8_718 rfl dX8_ask_169 rfl ?_
    exact x_lreturn dX8_ask_172 rfl k
set_option maxRecDepth 4000 in
theorem g_X8_ask_200 {sc : List Int} {d : Nat} {m : Mem} {Q : Option AV → Mem → Prop} {l2 l3 : Int} (k : S_X8_ask sc d 203 [aR 62, aU, aI l2, aI l3, aI 0] [] m Q) : S_X8_ask sc d 200 [aR 62, aU, aI l2, aI l3, aU] [] m Q := by
  refine x_iconst (pc2 := 201) dX8_ask_200 rfl ?_
  refine x_istore (pc2 := 203) (ls2 := [aR 62, aU, aI l2, aI l3, aI 0]) dX8_ask_201 rfl (by decide) rfl ?_
  exact k
set_option maxRecDepth 4000 in
theorem g_X8_ask_203 {sc : List Int} {d : Nat} {m : Mem} {Q : Option AV → Mem → Prop} {l2 l3 l4 : Int} (k : S_X8_ask sc d 206 [aR 62, aU, aI l2, aI l3, aI l4] [aR 62, aI l4] m Q) : S_X8_ask sc d 203 [aR 62, aU, aI l2, aI l3, aI l4] [] m Q := by
  refine x_iload (pc2 := 205) dX8_ask_203 rfl rfl ?_
  refine x_aload_n (pc2 := 206) dX8_ask_205 rfl rfl ?_
  exact k
set_option maxRecDepth 4000 in
theorem g_X8_ask_209 {sc : List Int} {d : Nat} {m : Mem} {Q : Option AV → Mem → Prop} {l2 l3 l4 s0 s1 : Int} (k : (-2147483648 ≤ s0 ∧ s0 < 2147483648) ∧ (-2147483648 ≤ s1 ∧ s1 < 2147483648) ∧ ((s1 ≤ s0) → (Q (some (aJ (m 62 119))) m)) ∧ (¬ (s1 ≤ s0) → ((0 ≤ l4) ∧ (l4 < 10) ∧ S_X8_ask sc d 239 [aR 62, aU, aI l2, aI l3, aI l4] [aI l4, aR 62, aI l3, aR 62] (wr (wr (wr m 62 55 l4) 62 56 ((wr m 62 55 l4) 107 l4)) 62 57 l2) Q))) : S_X8_ask sc d 209 [aR 62, aU, aI l2, aI l3, aI l4] [aI s1, aI s0] m Q := by
  obtain ⟨h1, k⟩ := k
  obtain ⟨h2, k⟩ := k
  obtain ⟨k1, k2⟩ := k
  refine x_icmp_ge (tgt := 253) (pc2 := 212) dX8_ask_209 (by decide) rfl h1 h2 (fun c3 => ?_) (fun c3 => ?_)
  · replace k := k1 c3
    refine x_aload_n (pc2 := 254) dX8_ask_253 rfl rfl ?_
    refine x_getf (pc2 := 257) (v := aJ (m 62 119)) fl_X8_710 ic_62 (fv_j _ ic_62 rfl) dX8_ask_254 rfl ?_
    exact x_lreturn dX8_ask_257 rfl k
  · replace k := k2 c3
    refine x_aload_n (pc2 := 213) dX8_ask_212 rfl rfl ?_
    refine x_iload (pc2 := 215) dX8_ask_213 rfl rfl ?_
    refine x_putf (pc2 := 218) (x := l4) fl_X8_441 ft_8_55 ic_62 (pv_i _ ic_62 rfl) (pn_i _) dX8_ask_215 rfl ?_
    refine x_aload_n (pc2 := 219) dX8_ask_218 rfl rfl ?_
    refine x_aload_n (pc2 := 220) dX8_ask_219 rfl rfl ?_
    refine x_getf (pc2 := 223) (v := aR 107) fl_X8_148 ic_62 (vr_62_61 _) dX8_ask_220 rfl ?_
    refine x_iload (pc2 := 225) dX8_ask_223 rfl rfl ?_
    obtain ⟨h4, k⟩ := k
    obtain ⟨h5, k⟩ := k
    refine x_iald (pc2 := 226) ic_107 h4 (by rw [al_107]; exact h5) dX8_ask_225 rfl ?_
    refine x_putf (pc2 := 229) (x := ((wr m 62 55 l4) 107 l4)) fl_X8_444 ft_8_56 ic_62 (pv_i _ ic_62 rfl) (pn_i _) dX8_ask_226 rfl ?_
    refine x_aload_n (pc2 := 230) dX8_ask_229 rfl rfl ?_
    refine x_iload_n (pc2 := 231) dX8_ask_230 rfl rfl ?_
    refine x_putf (pc2 := 234) (x := l2) fl_X8_703 ft_8_57 ic_62 (pv_i _ ic_62 rfl) (pn_i _) dX8_ask_231 rfl ?_
    refine x_aload_n (pc2 := 235) dX8_ask_234 rfl rfl ?_
    refine x_iload_n (pc2 := 236) dX8_ask_235 rfl rfl ?_
    refine x_aload_n (pc2 := 237) dX8_ask_236 rfl rfl ?_
    refine x_iload (pc2 := 239) dX8_ask_237 rfl rfl ?_
    exact k
set_option maxRecDepth 4000 in
theorem g_X8_ask_242 {sc : List Int} {d : Nat} {m : Mem} {Q : Option AV → Mem → Prop} {l2 l3 l4 s1 s2 : Int} (k : S_X8_ask sc d 244 [aR 62, aU, aI l2, aI l3, aI l4] [aI l4, aJ s2, aI s1, aR 62] m Q) : S_X8_ask sc d 242 [aR 62, aU, aI l2, aI l3, aI l4] [aJ s2, aI s1, aR 62] m Q := by
  refine x_iload (pc2 := 244) dX8_ask_242 rfl rfl ?_
  exact k
set_option maxRecDepth 4000 in
theorem g_X8_ask_247 {sc : List Int} {d : Nat} {m : Mem} {Q : Option AV → Mem → Prop} {l2 l3 l4 : Int} (k : S_X8_ask sc d 203 [aR 62, aU, aI l2, aI l3, aI (l4 + 1)] [] m Q) : S_X8_ask sc d 247 [aR 62, aU, aI l2, aI l3, aI l4] [] m Q := by
  refine x_iinc (pc2 := 250) (ls2 := [aR 62, aU, aI l2, aI l3, aI (l4 + 1)]) dX8_ask_247 rfl rfl (by decide) rfl ?_
  refine x_goto (tgt := 203) dX8_ask_250 (by decide) ?_
  exact k
theorem c_X8_ask_2 {sc : List Int} {d d2 : Nat} {m m2 : Mem} {Q : Option AV → Mem → Prop} {l1 l2 s1 : Int} {v : Int} (hM : C_X8_isSewer sc d2 [aR 62, aI s1] m (some (aI v)) m2) (hd : d2 + 1 ≤ d) (k : S_X8_ask sc d 5 [aR 62, aI l1, aI l2, aU, aU] [aI v] m2 Q) : S_X8_ask sc d 2 [aR 62, aI l1, aI l2, aU, aU] [aI s1, aR 62] m Q := x_callV (as := [aI s1]) (rest := []) hM mk_X8_isSewer mv_X8_isSewer lk_X8_505 (Or.inl ⟨8, (RX8, TX8, 123), ic_62, Nat.le_of_ble_eq_true rfl, rfl, rfl⟩) hd rfl rfl (Nat.le_of_ble_eq_true rfl) dX8_ask_2 rfl k
theorem c_X8_ask_14 {sc : List Int} {d d2 : Nat} {m m2 : Mem} {Q : Option AV → Mem → Prop} {l1 l2 s0 s1 s2 : Int} {v : Int} (hM : C_X8_isIn sc d2 [aJ s0, aJ s1, aJ s2] m (some (aI v)) m2) (hd : d2 + 1 ≤ d) (k : S_X8_ask sc d 17 [aR 62, aI l1, aI l2, aU, aU] [aI v] m2 Q) : S_X8_ask sc d 14 [aR 62, aI l1, aI l2, aU, aU] [aJ s2, aJ s1, aJ s0] m Q := x_callS (as := [aJ s0, aJ s1, aJ s2]) (rest := []) hM mk_X8_isIn ms_X8_isIn lk_X8_333 hd rfl rfl (Nat.le_of_ble_eq_true rfl) dX8_ask_14 rfl k
theorem c_X8_ask_88 {sc : List Int} {d d2 : Nat} {m m2 : Mem} {Q : Option AV → Mem → Prop} {l1 l2 : Int} {v : Int} (hM : C_X8_qKind sc d2 [aR 62] m (some (aI v)) m2) (hd : d2 + 1 ≤ d) (k : S_X8_ask sc d 91 [aR 62, aI l1, aI l2, aU, aU] [aI v] m2 Q) : S_X8_ask sc d 88 [aR 62, aI l1, aI l2, aU, aU] [aR 62] m Q := x_callV (as := []) (rest := []) hM mk_X8_qKind mv_X8_qKind lk_X8_720 (Or.inl ⟨8, (RX8, TX8, 123), ic_62, Nat.le_of_ble_eq_true rfl, rfl, rfl⟩) hd rfl rfl (Nat.le_of_ble_eq_true rfl) dX8_ask_88 rfl k
theorem c_X8_ask_105 {sc : List Int} {d d2 : Nat} {m m2 : Mem} {Q : Option AV → Mem → Prop} {l1 l2 l3 : Int} (hM : C_X8_qTest sc d2 [aR 62] m none m2) (hd : d2 + 1 ≤ d) (k : S_X8_ask sc d 108 [aR 62, aI l1, aI l2, aI l3, aU] [] m2 Q) : S_X8_ask sc d 105 [aR 62, aI l1, aI l2, aI l3, aU] [aR 62] m Q := x_callV (as := []) (rest := []) hM mk_X8_qTest mv_X8_qTest lk_X8_395 (Or.inl ⟨8, (RX8, TX8, 123), ic_62, Nat.le_of_ble_eq_true rfl, rfl, rfl⟩) hd rfl rfl (Nat.le_of_ble_eq_true rfl) dX8_ask_105 rfl k
theorem c_X8_ask_119 {sc : List Int} {d d2 : Nat} {m m2 : Mem} {Q : Option AV → Mem → Prop} {l1 l2 l3 : Int} (hM : C_X8_qSums sc d2 [aR 62] m none m2) (hd : d2 + 1 ≤ d) (k : S_X8_ask sc d 122 [aR 62, aI l1, aI l2, aI l3, aU] [] m2 Q) : S_X8_ask sc d 119 [aR 62, aI l1, aI l2, aI l3, aU] [aR 62] m Q := x_callV (as := []) (rest := []) hM mk_X8_qSums mv_X8_qSums lk_X8_673 (Or.inl ⟨8, (RX8, TX8, 123), ic_62, Nat.le_of_ble_eq_true rfl, rfl, rfl⟩) hd rfl rfl (Nat.le_of_ble_eq_true rfl) dX8_ask_119 rfl k
theorem c_X8_ask_130 {sc : List Int} {d d2 : Nat} {m m2 : Mem} {Q : Option AV → Mem → Prop} {l1 l2 l3 : Int} {v : Int} (hM : C_X8_look sc d2 [aR 62] m (some (aI v)) m2) (hd : d2 + 1 ≤ d) (k : S_X8_ask sc d 133 [aR 62, aI l1, aI l2, aI l3, aU] [aI v] m2 Q) : S_X8_ask sc d 130 [aR 62, aI l1, aI l2, aI l3, aU] [aR 62] m Q := x_callV (as := []) (rest := []) hM mk_X8_look mv_X8_look lk_X8_302 (Or.inl ⟨8, (RX8, TX8, 123), ic_62, Nat.le_of_ble_eq_true rfl, rfl, rfl⟩) hd rfl rfl (Nat.le_of_ble_eq_true rfl) dX8_ask_130 rfl k
theorem c_X8_ask_143 {sc : List Int} {d d2 : Nat} {m m2 : Mem} {Q : Option AV → Mem → Prop} {l1 l2 l3 s1 s2 : Int} (hM : C_X8_fail sc d2 [aR 62, aI s1, aI s2] m none m2) (hd : d2 + 1 ≤ d) (k : S_X8_ask sc d 146 [aR 62, aI l1, aI l2, aI l3, aU] [] m2 Q) : S_X8_ask sc d 143 [aR 62, aI l1, aI l2, aI l3, aU] [aI s2, aI s1, aR 62] m Q := x_callV (as := [aI s1, aI s2]) (rest := []) hM mk_X8_fail mv_X8_fail lk_X8_320 (Or.inl ⟨8, (RX8, TX8, 123), ic_62, Nat.le_of_ble_eq_true rfl, rfl, rfl⟩) hd rfl rfl (Nat.le_of_ble_eq_true rfl) dX8_ask_143 rfl k
theorem c_X8_ask_197 {sc : List Int} {d d2 : Nat} {m m2 : Mem} {Q : Option AV → Mem → Prop} {l2 l3 s1 s2 : Int} (hM : C_X8_laysRow sc d2 [aR 62, aI s1, aI s2] m none m2) (hd : d2 + 1 ≤ d) (k : S_X8_ask sc d 200 [aR 62, aU, aI l2, aI l3, aU] [] m2 Q) : S_X8_ask sc d 197 [aR 62, aU, aI l2, aI l3, aU] [aI s2, aI s1, aR 62] m Q := x_callV (as := [aI s1, aI s2]) (rest := []) hM mk_X8_laysRow mv_X8_laysRow lk_X8_528 (Or.inl ⟨8, (RX8, TX8, 123), ic_62, Nat.le_of_ble_eq_true rfl, rfl, rfl⟩) hd rfl rfl (Nat.le_of_ble_eq_true rfl) dX8_ask_197 rfl k
theorem c_X8_ask_206 {sc : List Int} {d d2 : Nat} {m m2 : Mem} {Q : Option AV → Mem → Prop} {l2 l3 l4 s0 : Int} {v : Int} (hM : C_X8_seamMany sc d2 [aR 62] m (some (aI v)) m2) (hd : d2 + 1 ≤ d) (k : S_X8_ask sc d 209 [aR 62, aU, aI l2, aI l3, aI l4] [aI v, aI s0] m2 Q) : S_X8_ask sc d 206 [aR 62, aU, aI l2, aI l3, aI l4] [aR 62, aI s0] m Q := x_callV (as := []) (rest := [aI s0]) hM mk_X8_seamMany mv_X8_seamMany lk_X8_431 (Or.inl ⟨8, (RX8, TX8, 123), ic_62, Nat.le_of_ble_eq_true rfl, rfl, rfl⟩) hd rfl rfl (Nat.le_of_ble_eq_true rfl) dX8_ask_206 rfl k
theorem c_X8_ask_239 {sc : List Int} {d d2 : Nat} {m m2 : Mem} {Q : Option AV → Mem → Prop} {l2 l3 l4 s1 s3 : Int} {v : Int} (hM : C_X8_qTold sc d2 [aR 62, aI s3] m (some (aJ v)) m2) (hd : d2 + 1 ≤ d) (k : S_X8_ask sc d 242 [aR 62, aU, aI l2, aI l3, aI l4] [aJ v, aI s1, aR 62] m2 Q) : S_X8_ask sc d 239 [aR 62, aU, aI l2, aI l3, aI l4] [aI s3, aR 62, aI s1, aR 62] m Q := x_callV (as := [aI s3]) (rest := [aI s1, aR 62]) hM mk_X8_qTold mv_X8_qTold lk_X8_723 (Or.inl ⟨8, (RX8, TX8, 123), ic_62, Nat.le_of_ble_eq_true rfl, rfl, rfl⟩) hd rfl rfl (Nat.le_of_ble_eq_true rfl) dX8_ask_239 rfl k
theorem c_X8_ask_244 {sc : List Int} {d d2 : Nat} {m m2 : Mem} {Q : Option AV → Mem → Prop} {l2 l3 l4 s1 s2 s3 : Int} (hM : C_X8_qTakes sc d2 [aR 62, aI s1, aJ s2, aI s3] m none m2) (hd : d2 + 1 ≤ d) (k : S_X8_ask sc d 247 [aR 62, aU, aI l2, aI l3, aI l4] [] m2 Q) : S_X8_ask sc d 244 [aR 62, aU, aI l2, aI l3, aI l4] [aI s3, aJ s2, aI s1, aR 62] m Q := x_callV (as := [aI s1, aJ s2, aI s3]) (rest := []) hM mk_X8_qTakes mv_X8_qTakes lk_X8_726 (Or.inl ⟨8, (RX8, TX8, 123), ic_62, Nat.le_of_ble_eq_true rfl, rfl, rfl⟩) hd rfl rfl (Nat.le_of_ble_eq_true rfl) dX8_ask_244 rfl k
set_option maxRecDepth 4000 in
theorem g_X8_checked_0 {sc : List Int} {d : Nat} {m : Mem} {Q : Option AV → Mem → Prop} {l0 l1 : Int} (Hl0 : IsC l0 100) (k : S_X8_checked sc d 6 [aR l0, aI l1, aI 199, aI 0] [] m Q) : S_X8_checked sc d 0 [aR l0, aI l1, aU, aU] [] m Q := by
  refine x_sipush (pc2 := 3) dX8_checked_0 rfl rfl ?_
  refine x_istore_n (pc2 := 4) (ls2 := [aR l0, aI l1, aI 199, aU]) dX8_checked_3 rfl (by decide) rfl ?_
  refine x_iconst (pc2 := 5) dX8_checked_4 rfl ?_
  refine x_istore_n (pc2 := 6) (ls2 := [aR l0, aI l1, aI 199, aI 0]) dX8_checked_5 rfl (by decide) rfl ?_
  exact k
set_option maxRecDepth 4000 in
theorem g_X8_checked_6 {sc : List Int} {d : Nat} {m : Mem} {Q : Option AV → Mem → Prop} {l0 l1 l2 l3 : Int} (Hl0 : IsC l0 100) (k : (-2147483648 ≤ l3 ∧ l3 < 2147483648) ∧ (-2147483648 ≤ l1 ∧ l1 < 2147483648) ∧ ((l1 ≤ l3) → (Q (some (aI l2)) m)) ∧ (¬ (l1 ≤ l3) → ((0 ≤ l3) ∧ (l3 < alen l0) ∧ (-2147483648 ≤ ((3 * l2) + (m l0 l3)) ∧ ((3 * l2) + (m l0 l3)) < 2147483648) ∧ S_X8_checked sc d 6 [aR l0, aI l1, aI (((3 * l2) + (m l0 l3)).tmod 251), aI (l3 + 1)] [] m Q))) : S_X8_checked sc d 6 [aR l0, aI l1, aI l2, aI l3] [] m Q := by
  refine x_iload_n (pc2 := 7) dX8_checked_6 rfl rfl ?_
  refine x_iload_n (pc2 := 8) dX8_checked_7 rfl rfl ?_
  obtain ⟨h1, k⟩ := k
  obtain ⟨h2, k⟩ := k
  obtain ⟨k1, k2⟩ := k
  refine x_icmp_ge (tgt := 29) (pc2 := 11) dX8_checked_8 (by decide) rfl h1 h2 (fun c3 => ?_) (fun c3 => ?_)
  · replace k := k1 c3
    refine x_iload_n (pc2 := 30) dX8_checked_29 rfl rfl ?_
    exact x_ireturn dX8_checked_30 ⟨.int, rfl, rfl⟩ k
  · replace k := k2 c3
    refine x_iconst (pc2 := 12) dX8_checked_11 rfl ?_
    refine x_iload_n (pc2 := 13) dX8_checked_12 rfl rfl ?_
    refine x_imul (pc2 := 14) dX8_checked_13 rfl ?_
    refine x_aload_n (pc2 := 15) dX8_checked_14 rfl rfl ?_
    refine x_iload_n (pc2 := 16) dX8_checked_15 rfl rfl ?_
    obtain ⟨h4, k⟩ := k
    obtain ⟨h5, k⟩ := k
    refine x_iald (pc2 := 17) Hl0 h4 h5 dX8_checked_16 rfl ?_
    refine x_iadd (pc2 := 18) dX8_checked_17 rfl ?_
    refine x_sipush (pc2 := 21) dX8_checked_18 rfl rfl ?_
    obtain ⟨h6, k⟩ := k
    refine x_irem (pc2 := 22) dX8_checked_21 rfl h6 (by decide) (by decide) ?_
    refine x_istore_n (pc2 := 23) (ls2 := [aR l0, aI l1, aI (((3 * l2) + (m l0 l3)).tmod 251), aI l3]) dX8_checked_22 rfl (by decide) rfl ?_
    refine x_iinc (pc2 := 26) (ls2 := [aR l0, aI l1, aI (((3 * l2) + (m l0 l3)).tmod 251), aI (l3 + 1)]) dX8_checked_23 rfl rfl (by decide) rfl ?_
    refine x_goto (tgt := 6) dX8_checked_26 (by decide) ?_
    exact k
set_option maxRecDepth 4000 in
theorem g_X8_image_0 {sc : List Int} {d : Nat} {m : Mem} {Q : Option AV → Mem → Prop} (k : S_X8_image sc d 2 [aR 62, aI 0] [] m Q) : S_X8_image sc d 0 [aR 62, aU] [] m Q := by
  refine x_iconst (pc2 := 1) dX8_image_0 rfl ?_
  refine x_istore_n (pc2 := 2) (ls2 := [aR 62, aI 0]) dX8_image_1 rfl (by decide) rfl ?_
  exact k
set_option maxRecDepth 4000 in
theorem g_X8_image_2 {sc : List Int} {d : Nat} {m : Mem} {Q : Option AV → Mem → Prop} {l1 : Int} (k : (-2147483648 ≤ l1 ∧ l1 < 2147483648) ∧ ((5 ≤ l1) → ((-2147483648 ≤ (m 124 5) ∧ (m 124 5) < 2147483648) ∧ (-2147483648 ≤ ((wr m 151 5 ((m 124 5).tdiv 256)) 124 5) ∧ ((wr m 151 5 ((m 124 5).tdiv 256)) 124 5) < 2147483648) ∧ S_X8_image sc d 70 [aR 62, aU] [aI 7, aR 151, aI 7, aR 151] (wr (wr m 151 5 ((m 124 5).tdiv 256)) 151 6 (((wr m 151 5 ((m 124 5).tdiv 256)) 124 5).tmod 256)) Q)) ∧ (¬ (5 ≤ l1) → ((0 ≤ l1) ∧ (l1 < 6) ∧ (l1 < 8) ∧ S_X8_image sc d 2 [aR 62, aI (l1 + 1)] [] (wr m 151 l1 (m 124 l1)) Q))) : S_X8_image sc d 2 [aR 62, aI l1] [] m Q := by
  refine x_iload_n (pc2 := 3) dX8_image_2 rfl rfl ?_
  refine x_iconst (pc2 := 4) dX8_image_3 rfl ?_
  obtain ⟨h1, k⟩ := k
  obtain ⟨k1, k2⟩ := k
  refine x_icmp_ge (tgt := 25) (pc2 := 7) dX8_image_4 (by decide) rfl h1 (by decide) (fun c2 => ?_) (fun c2 => ?_)
  · replace k := k1 c2
    refine x_aload_n (pc2 := 26) dX8_image_25 rfl rfl ?_
    refine x_getf (pc2 := 29) (v := aR 151) fl_X8_284 ic_62 (vr_62_121 _) dX8_image_26 rfl ?_
    refine x_iconst (pc2 := 30) dX8_image_29 rfl ?_
    refine x_aload_n (pc2 := 31) dX8_image_30 rfl rfl ?_
    refine x_getf (pc2 := 34) (v := aR 124) fl_X8_199 ic_62 (vr_62_81 _) dX8_image_31 rfl ?_
    refine x_iconst (pc2 := 35) dX8_image_34 rfl ?_
    refine x_iald (pc2 := 36) ic_124 (by decide) (by rw [al_124]; decide) dX8_image_35 rfl ?_
    refine x_sipush (pc2 := 39) dX8_image_36 rfl rfl ?_
    obtain ⟨h3, k⟩ := k
    refine x_idiv (pc2 := 40) dX8_image_39 rfl h3 (by decide) (by decide) ?_
    refine x_iast (pc2 := 41) ic_151 (by decide) (by rw [al_151]; decide) dX8_image_40 rfl ?_
    refine x_aload_n (pc2 := 42) dX8_image_41 rfl rfl ?_
    refine x_getf (pc2 := 45) (v := aR 151) fl_X8_284 ic_62 (vr_62_121 _) dX8_image_42 rfl ?_
    refine x_bipush (pc2 := 47) dX8_image_45 rfl rfl ?_
    refine x_aload_n (pc2 := 48) dX8_image_47 rfl rfl ?_
    refine x_getf (pc2 := 51) (v := aR 124) fl_X8_199 ic_62 (vr_62_81 _) dX8_image_48 rfl ?_
    refine x_iconst (pc2 := 52) dX8_image_51 rfl ?_
    refine x_iald (pc2 := 53) ic_124 (by decide) (by rw [al_124]; decide) dX8_image_52 rfl ?_
    refine x_sipush (pc2 := 56) dX8_image_53 rfl rfl ?_
    obtain ⟨h4, k⟩ := k
    refine x_irem (pc2 := 57) dX8_image_56 rfl h4 (by decide) (by decide) ?_
    refine x_iast (pc2 := 58) ic_151 (by decide) (by rw [al_151]; decide) dX8_image_57 rfl ?_
    refine x_aload_n (pc2 := 59) dX8_image_58 rfl rfl ?_
    refine x_getf (pc2 := 62) (v := aR 151) fl_X8_284 ic_62 (vr_62_121 _) dX8_image_59 rfl ?_
    refine x_bipush (pc2 := 64) dX8_image_62 rfl rfl ?_
    refine x_aload_n (pc2 := 65) dX8_image_64 rfl rfl ?_
    refine x_getf (pc2 := 68) (v := aR 151) fl_X8_284 ic_62 (vr_62_121 _) dX8_image_65 rfl ?_
    refine x_bipush (pc2 := 70) dX8_image_68 rfl rfl ?_
    exact x_drop (drp_k (drp_u drp_n)) k
  · replace k := k2 c2
    refine x_aload_n (pc2 := 8) dX8_image_7 rfl rfl ?_
    refine x_getf (pc2 := 11) (v := aR 151) fl_X8_284 ic_62 (vr_62_121 _) dX8_image_8 rfl ?_
    refine x_iload_n (pc2 := 12) dX8_image_11 rfl rfl ?_
    refine x_aload_n (pc2 := 13) dX8_image_12 rfl rfl ?_
    refine x_getf (pc2 := 16) (v := aR 124) fl_X8_199 ic_62 (vr_62_81 _) dX8_image_13 rfl ?_
    refine x_iload_n (pc2 := 17) dX8_image_16 rfl rfl ?_
    obtain ⟨h5, k⟩ := k
    obtain ⟨h6, k⟩ := k
    refine x_iald (pc2 := 18) ic_124 h5 (by rw [al_124]; exact h6) dX8_image_17 rfl ?_
    obtain ⟨h7, k⟩ := k
    refine x_iast (pc2 := 19) ic_151 h5 (by rw [al_151]; exact h7) dX8_image_18 rfl ?_
    refine x_iinc (pc2 := 22) (ls2 := [aR 62, aI (l1 + 1)]) dX8_image_19 rfl rfl (by decide) rfl ?_
    refine x_goto (tgt := 2) dX8_image_22 (by decide) ?_
    exact k
set_option maxRecDepth 4000 in
theorem g_X8_image_73 {sc : List Int} {d : Nat} {m : Mem} {Q : Option AV → Mem → Prop} {s0 s1 s2 : Int} (Hs0 : IsC s0 100) (k : (0 ≤ s1) ∧ (s1 < alen s0) ∧ Q (some (aI ((wr (wr m s0 s1 s2) 62 122 8) 62 122))) (wr (wr m s0 s1 s2) 62 122 8)) : S_X8_image sc d 73 [aR 62, aU] [aI s2, aI s1, aR s0] m Q := by
  obtain ⟨h1, k⟩ := k
  obtain ⟨h2, k⟩ := k
  refine x_iast (pc2 := 74) Hs0 h1 h2 dX8_image_73 rfl ?_
  refine x_aload_n (pc2 := 75) dX8_image_74 rfl rfl ?_
  refine x_bipush (pc2 := 77) dX8_image_75 rfl rfl ?_
  refine x_putf (pc2 := 80) (x := 8) fl_X8_733 ft_8_122 ic_62 (pv_i _ ic_62 rfl) (pn_i _) dX8_image_77 rfl ?_
  refine x_aload_n (pc2 := 81) dX8_image_80 rfl rfl ?_
  refine x_getf (pc2 := 84) (v := aI ((wr (wr m s0 s1 s2) 62 122 8) 62 122)) fl_X8_733 ic_62 (fv_i _ ic_62 rfl) dX8_image_81 rfl ?_
  exact x_ireturn dX8_image_84 ⟨.int, rfl, rfl⟩ k
theorem c_X8_image_70 {sc : List Int} {d d2 : Nat} {m m2 : Mem} {Q : Option AV → Mem → Prop} {s0 s1 s2 s3 : Int} {v : Int} (Hs0 : IsC s0 100) (Hs2 : IsC s2 100) (hM : C_X8_checked sc d2 [aR s2, aI s3] m (some (aI v)) m2) (hd : d2 + 1 ≤ d) (k : S_X8_image sc d 73 [aR 62, aU] [aI v, aI s1, aR s0] m2 Q) : S_X8_image sc d 70 [aR 62, aU] [aI s3, aR s2, aI s1, aR s0] m Q := x_callS (as := [aR s2, aI s3]) (rest := [aI s1, aR s0]) hM mk_X8_checked ms_X8_checked lk_X8_730 hd rfl rfl (Nat.le_of_ble_eq_true rfl) dX8_image_70 rfl k
set_option maxRecDepth 4000 in
theorem g_X8_octet_0 {sc : List Int} {d : Nat} {m : Mem} {Q : Option AV → Mem → Prop} {l1 : Int} (k : ((-2147483648 ≤ l1 ∧ l1 < 2147483648)) ∧ ((¬ (l1 < 0)) → (-2147483648 ≤ (m 62 122) ∧ (m 62 122) < 2147483648)) ∧ ((¬ (l1 < 0)) → (¬ ((m 62 122) ≤ l1)) → (0 ≤ l1)) ∧ ((¬ (l1 < 0)) → (¬ ((m 62 122) ≤ l1)) → (l1 < 8)) ∧ Q (some (aI (if l1 < 0 then (-1) else (if (m 62 122) ≤ l1 then (-1) else (m 151 l1) : Int) : Int))) m) : S_X8_octet sc d 0 [aR 62, aI l1] [] m Q := by
  refine x_iload_n (pc2 := 1) dX8_octet_0 rfl rfl ?_
  obtain ⟨g2, k⟩ := k
  obtain ⟨g4, k⟩ := k
  obtain ⟨g7, k⟩ := k
  obtain ⟨g8, k⟩ := k
  have kj : S_X8_octet sc d 22 [aR 62, aI l1] [aI (if l1 < 0 then (-1) else (if (m 62 122) ≤ l1 then (-1) else (m 151 l1) : Int) : Int)] m Q := by
    exact x_ireturn dX8_octet_22 ⟨.int, rfl, rfl⟩ k
  have h9 := g2 
  refine x_if_lt (tgt := 21) (pc2 := 4) dX8_octet_1 (by decide) rfl h9 (fun c10 => ?_) (fun c10 => ?_)
  · skip
    refine x_iconst (pc2 := 22) dX8_octet_21 rfl ?_
    exact x_topI (v := (if l1 < 0 then (-1) else (if (m 62 122) ≤ l1 then (-1) else (m 151 l1) : Int) : Int)) (if_pos c10) kj
  · skip
    refine x_iload_n (pc2 := 5) dX8_octet_4 rfl rfl ?_
    refine x_aload_n (pc2 := 6) dX8_octet_5 rfl rfl ?_
    refine x_getf (pc2 := 9) (v := aI (m 62 122)) fl_X8_733 ic_62 (fv_i _ ic_62 rfl) dX8_octet_6 rfl ?_
    have h11 := g4 c10
    refine x_icmp_ge (tgt := 21) (pc2 := 12) dX8_octet_9 (by decide) rfl h9 h11 (fun c12 => ?_) (fun c12 => ?_)
    · skip
      refine x_iconst (pc2 := 22) dX8_octet_21 rfl ?_
      exact x_topI (v := (if l1 < 0 then (-1) else (if (m 62 122) ≤ l1 then (-1) else (m 151 l1) : Int) : Int)) ((if_neg c10).trans (if_pos c12)) kj
    · skip
      refine x_aload_n (pc2 := 13) dX8_octet_12 rfl rfl ?_
      refine x_getf (pc2 := 16) (v := aR 151) fl_X8_284 ic_62 (vr_62_121 _) dX8_octet_13 rfl ?_
      refine x_iload_n (pc2 := 17) dX8_octet_16 rfl rfl ?_
      have h13 := g7 c10 c12
      have h14 := g8 c10 c12
      refine x_iald (pc2 := 18) ic_151 h13 (by rw [al_151]; exact h14) dX8_octet_17 rfl ?_
      refine x_goto (tgt := 22) dX8_octet_18 (by decide) ?_
      exact x_topI (v := (if l1 < 0 then (-1) else (if (m 62 122) ≤ l1 then (-1) else (m 151 l1) : Int) : Int)) ((if_neg c10).trans (if_neg c12)) kj
set_option maxRecDepth 4000 in
theorem g_X8_isLength_0 {sc : List Int} {d : Nat} {m : Mem} {Q : Option AV → Mem → Prop} {l1 : Int} (k : S_X8_isLength sc d 2 [aR 62, aI l1, aI 0] [] m Q) : S_X8_isLength sc d 0 [aR 62, aI l1, aU] [] m Q := by
  refine x_iconst (pc2 := 1) dX8_isLength_0 rfl ?_
  refine x_istore_n (pc2 := 2) (ls2 := [aR 62, aI l1, aI 0]) dX8_isLength_1 rfl (by decide) rfl ?_
  exact k
set_option maxRecDepth 4000 in
theorem g_X8_isLength_2 {sc : List Int} {d : Nat} {m : Mem} {Q : Option AV → Mem → Prop} {l1 l2 : Int} (k : S_X8_isLength sc d 4 [aR 62, aI l1, aI l2] [aR 62, aI l2] m Q) : S_X8_isLength sc d 2 [aR 62, aI l1, aI l2] [] m Q := by
  refine x_iload_n (pc2 := 3) dX8_isLength_2 rfl rfl ?_
  refine x_aload_n (pc2 := 4) dX8_isLength_3 rfl rfl ?_
  exact k
set_option maxRecDepth 4000 in
theorem g_X8_isLength_7 {sc : List Int} {d : Nat} {m : Mem} {Q : Option AV → Mem → Prop} {l1 l2 s0 s1 : Int} (k : (-2147483648 ≤ s0 ∧ s0 < 2147483648) ∧ (-2147483648 ≤ s1 ∧ s1 < 2147483648) ∧ ((s1 ≤ s0) → (Q (some (aI 0)) m)) ∧ (¬ (s1 ≤ s0) → ((0 ≤ (6 + l2)) ∧ ((6 + l2) < 12) ∧ (-2147483648 ≤ (m 97 (6 + l2)) ∧ (m 97 (6 + l2)) < 2147483648) ∧ (-2147483648 ≤ l1 ∧ l1 < 2147483648) ∧ (((m 97 (6 + l2)) ≠ l1) → (S_X8_isLength sc d 2 [aR 62, aI l1, aI (l2 + 1)] [] m Q)) ∧ (¬ ((m 97 (6 + l2)) ≠ l1) → (Q (some (aI 1)) m))))) : S_X8_isLength sc d 7 [aR 62, aI l1, aI l2] [aI s1, aI s0] m Q := by
  obtain ⟨h1, k⟩ := k
  obtain ⟨h2, k⟩ := k
  obtain ⟨k1, k2⟩ := k
  refine x_icmp_ge (tgt := 31) (pc2 := 10) dX8_isLength_7 (by decide) rfl h1 h2 (fun c3 => ?_) (fun c3 => ?_)
  · replace k := k1 c3
    refine x_iconst (pc2 := 32) dX8_isLength_31 rfl ?_
    exact x_ireturn dX8_isLength_32 ⟨.boolean, rfl, rfl⟩ k
  · replace k := k2 c3
    refine x_aload_n (pc2 := 11) dX8_isLength_10 rfl rfl ?_
    refine x_getf (pc2 := 14) (v := aR 97) fl_X8_118 ic_62 (vr_62_44 _) dX8_isLength_11 rfl ?_
    refine x_bipush (pc2 := 16) dX8_isLength_14 rfl rfl ?_
    refine x_iload_n (pc2 := 17) dX8_isLength_16 rfl rfl ?_
    refine x_iadd (pc2 := 18) dX8_isLength_17 rfl ?_
    obtain ⟨h4, k⟩ := k
    obtain ⟨h5, k⟩ := k
    refine x_iald (pc2 := 19) ic_97 h4 (by rw [al_97]; exact h5) dX8_isLength_18 rfl ?_
    refine x_iload_n (pc2 := 20) dX8_isLength_19 rfl rfl ?_
    obtain ⟨h6, k⟩ := k
    obtain ⟨h7, k⟩ := k
    obtain ⟨k1, k2⟩ := k
    refine x_icmp_ne (tgt := 25) (pc2 := 23) dX8_isLength_20 (by decide) rfl h6 h7 (fun c8 => ?_) (fun c8 => ?_)
    · replace k := k1 c8
      refine x_iinc (pc2 := 28) (ls2 := [aR 62, aI l1, aI (l2 + 1)]) dX8_isLength_25 rfl rfl (by decide) rfl ?_
      refine x_goto (tgt := 2) dX8_isLength_28 (by decide) ?_
      exact k
    · replace k := k2 c8
      refine x_iconst (pc2 := 24) dX8_isLength_23 rfl ?_
      exact x_ireturn dX8_isLength_24 ⟨.boolean, rfl, rfl⟩ k
theorem c_X8_isLength_4 {sc : List Int} {d d2 : Nat} {m m2 : Mem} {Q : Option AV → Mem → Prop} {l1 l2 s0 : Int} {v : Int} (hM : C_X8_lengthMany sc d2 [aR 62] m (some (aI v)) m2) (hd : d2 + 1 ≤ d) (k : S_X8_isLength sc d 7 [aR 62, aI l1, aI l2] [aI v, aI s0] m2 Q) : S_X8_isLength sc d 4 [aR 62, aI l1, aI l2] [aR 62, aI s0] m Q := x_callV (as := []) (rest := [aI s0]) hM mk_X8_lengthMany mv_X8_lengthMany lk_X8_438 (Or.inl ⟨8, (RX8, TX8, 123), ic_62, Nat.le_of_ble_eq_true rfl, rfl, rfl⟩) hd rfl rfl (Nat.le_of_ble_eq_true rfl) dX8_isLength_4 rfl k
set_option maxRecDepth 4000 in
theorem g_X8_on_0 {sc : List Int} {d : Nat} {m : Mem} {Q : Option AV → Mem → Prop} (k : (-2147483648 ≤ ((wr m 62 1 0) 62 53) ∧ ((wr m 62 1 0) 62 53) < 2147483648) ∧ ((((wr m 62 1 0) 62 53) = 0) → (Q (some (aI 0)) (wr (wr m 62 1 0) 64 5 (((wr m 62 1 0) 64 5) + 1)))) ∧ (¬ (((wr m 62 1 0) 62 53) = 0) → ((-2147483648 ≤ (m 62 1) ∧ (m 62 1) < 2147483648) ∧ (((m 62 1) ≠ 8) → (Q (some (aI 0)) (wr (wr m 62 1 0) 64 5 (((wr m 62 1 0) 64 5) + 1)))) ∧ (¬ ((m 62 1) ≠ 8) → (S_X8_on sc d 36 [aR 62, aU, aU, aU] [aI 7, aR 63, aI ((wr m 62 1 0) 63 7)] (wr m 62 1 0) Q))))) : S_X8_on sc d 0 [aR 62, aU, aU, aU] [] m Q := by
  refine x_aload_n (pc2 := 1) dX8_on_0 rfl rfl ?_
  refine x_getf (pc2 := 4) (v := aI (m 62 1)) fl_X8_287 ic_62 (fv_i _ ic_62 rfl) dX8_on_1 rfl ?_
  refine x_istore_n (pc2 := 5) (ls2 := [aR 62, aI (m 62 1), aU, aU]) dX8_on_4 rfl (by decide) rfl ?_
  refine x_aload_n (pc2 := 6) dX8_on_5 rfl rfl ?_
  refine x_iconst (pc2 := 7) dX8_on_6 rfl ?_
  refine x_putf (pc2 := 10) (x := 0) fl_X8_287 ft_8_1 ic_62 (pv_i _ ic_62 rfl) (pn_i _) dX8_on_7 rfl ?_
  refine x_aload_n (pc2 := 11) dX8_on_10 rfl rfl ?_
  refine x_getf (pc2 := 14) (v := aI ((wr m 62 1 0) 62 53)) fl_X8_422 ic_62 (fv_i _ ic_62 rfl) dX8_on_11 rfl ?_
  obtain ⟨h1, k⟩ := k
  obtain ⟨k1, k2⟩ := k
  refine x_if_eq (tgt := 89) (pc2 := 17) dX8_on_14 (by decide) rfl h1 (fun c2 => ?_) (fun c2 => ?_)
  · replace k := k1 c2
    refine x_iconst (pc2 := 90) dX8_on_89 rfl ?_
    refine x_istore_n (pc2 := 91) (ls2 := [aR 62, aI (m 62 1), aI 0, aU]) dX8_on_90 rfl (by decide) rfl ?_
    refine x_iload_n (pc2 := 92) dX8_on_91 rfl rfl ?_
    refine x_if_eq (tgt := 147) (pc2 := 95) dX8_on_92 (by decide) rfl (by decide) (fun c3 => ?_) (fun c3 => ?_)
    · skip
      refine x_aload_n (pc2 := 148) dX8_on_147 rfl rfl ?_
      refine x_getf (pc2 := 151) (v := aR 64) fl_X8_17 ic_62 (vr_62_9 _) dX8_on_148 rfl ?_
      refine x_iconst (pc2 := 152) dX8_on_151 rfl ?_
      refine x_dup2_ri (pc2 := 153) dX8_on_152 rfl (by decide) ?_
      refine x_iald (pc2 := 154) ic_64 (by decide) (by rw [al_64]; decide) dX8_on_153 rfl ?_
      refine x_iconst (pc2 := 155) dX8_on_154 rfl ?_
      refine x_iadd (pc2 := 156) dX8_on_155 rfl ?_
      refine x_iast (pc2 := 157) ic_64 (by decide) (by rw [al_64]; decide) dX8_on_156 rfl ?_
      refine x_iconst (pc2 := 158) dX8_on_157 rfl ?_
      exact x_ireturn dX8_on_158 ⟨.boolean, rfl, rfl⟩ k
    · exact absurd (by decide) c3
  · replace k := k2 c2
    refine x_iload_n (pc2 := 18) dX8_on_17 rfl rfl ?_
    refine x_bipush (pc2 := 20) dX8_on_18 rfl rfl ?_
    obtain ⟨h4, k⟩ := k
    obtain ⟨k1, k2⟩ := k
    refine x_icmp_ne (tgt := 89) (pc2 := 23) dX8_on_20 (by decide) rfl h4 (by decide) (fun c5 => ?_) (fun c5 => ?_)
    · replace k := k1 c5
      refine x_iconst (pc2 := 90) dX8_on_89 rfl ?_
      refine x_istore_n (pc2 := 91) (ls2 := [aR 62, aI (m 62 1), aI 0, aU]) dX8_on_90 rfl (by decide) rfl ?_
      refine x_iload_n (pc2 := 92) dX8_on_91 rfl rfl ?_
      refine x_if_eq (tgt := 147) (pc2 := 95) dX8_on_92 (by decide) rfl (by decide) (fun c6 => ?_) (fun c6 => ?_)
      · skip
        refine x_aload_n (pc2 := 148) dX8_on_147 rfl rfl ?_
        refine x_getf (pc2 := 151) (v := aR 64) fl_X8_17 ic_62 (vr_62_9 _) dX8_on_148 rfl ?_
        refine x_iconst (pc2 := 152) dX8_on_151 rfl ?_
        refine x_dup2_ri (pc2 := 153) dX8_on_152 rfl (by decide) ?_
        refine x_iald (pc2 := 154) ic_64 (by decide) (by rw [al_64]; decide) dX8_on_153 rfl ?_
        refine x_iconst (pc2 := 155) dX8_on_154 rfl ?_
        refine x_iadd (pc2 := 156) dX8_on_155 rfl ?_
        refine x_iast (pc2 := 157) ic_64 (by decide) (by rw [al_64]; decide) dX8_on_156 rfl ?_
        refine x_iconst (pc2 := 158) dX8_on_157 rfl ?_
        exact x_ireturn dX8_on_158 ⟨.boolean, rfl, rfl⟩ k
      · exact absurd (by decide) c6
    · replace k := k2 c5
      refine x_aload_n (pc2 := 24) dX8_on_23 rfl rfl ?_
      refine x_getf (pc2 := 27) (v := aR 63) fl_X8_7 ic_62 (vr_62_0 _) dX8_on_24 rfl ?_
      refine x_bipush (pc2 := 29) dX8_on_27 rfl rfl ?_
      refine x_iald (pc2 := 30) ic_63 (by decide) (by rw [al_63]; decide) dX8_on_29 rfl ?_
      refine x_aload_n (pc2 := 31) dX8_on_30 rfl rfl ?_
      refine x_getf (pc2 := 34) (v := aR 63) fl_X8_7 ic_62 (vr_62_0 _) dX8_on_31 rfl ?_
      refine x_bipush (pc2 := 36) dX8_on_34 rfl rfl ?_
      exact x_drop (drp_k (drp_u (drp_k (drp_k drp_n)))) k
set_option maxRecDepth 4000 in
theorem g_X8_on_39 {sc : List Int} {d : Nat} {m : Mem} {Q : Option AV → Mem → Prop} {s0 s1 : Int} (k : (-2147483648 ≤ s0 ∧ s0 < 2147483648) ∧ (-2147483648 ≤ s1 ∧ s1 < 2147483648) ∧ ((s0 ≠ s1) → (Q (some (aI 0)) (wr m 64 5 ((m 64 5) + 1)))) ∧ (¬ (s0 ≠ s1) → (S_X8_on sc d 49 [aR 62, aU, aU, aU] [aR 62, aI (m 63 0)] m Q))) : S_X8_on sc d 39 [aR 62, aU, aU, aU] [aI s1, aI s0] m Q := by
  obtain ⟨h1, k⟩ := k
  obtain ⟨h2, k⟩ := k
  obtain ⟨k1, k2⟩ := k
  refine x_icmp_ne (tgt := 89) (pc2 := 42) dX8_on_39 (by decide) rfl h1 h2 (fun c3 => ?_) (fun c3 => ?_)
  · replace k := k1 c3
    refine x_iconst (pc2 := 90) dX8_on_89 rfl ?_
    refine x_istore_n (pc2 := 91) (ls2 := [aR 62, aU, aI 0, aU]) dX8_on_90 rfl (by decide) rfl ?_
    refine x_iload_n (pc2 := 92) dX8_on_91 rfl rfl ?_
    refine x_if_eq (tgt := 147) (pc2 := 95) dX8_on_92 (by decide) rfl (by decide) (fun c4 => ?_) (fun c4 => ?_)
    · skip
      refine x_aload_n (pc2 := 148) dX8_on_147 rfl rfl ?_
      refine x_getf (pc2 := 151) (v := aR 64) fl_X8_17 ic_62 (vr_62_9 _) dX8_on_148 rfl ?_
      refine x_iconst (pc2 := 152) dX8_on_151 rfl ?_
      refine x_dup2_ri (pc2 := 153) dX8_on_152 rfl (by decide) ?_
      refine x_iald (pc2 := 154) ic_64 (by decide) (by rw [al_64]; decide) dX8_on_153 rfl ?_
      refine x_iconst (pc2 := 155) dX8_on_154 rfl ?_
      refine x_iadd (pc2 := 156) dX8_on_155 rfl ?_
      refine x_iast (pc2 := 157) ic_64 (by decide) (by rw [al_64]; decide) dX8_on_156 rfl ?_
      refine x_iconst (pc2 := 158) dX8_on_157 rfl ?_
      exact x_ireturn dX8_on_158 ⟨.boolean, rfl, rfl⟩ k
    · exact absurd (by decide) c4
  · replace k := k2 c3
    refine x_aload_n (pc2 := 43) dX8_on_42 rfl rfl ?_
    refine x_getf (pc2 := 46) (v := aR 63) fl_X8_7 ic_62 (vr_62_0 _) dX8_on_43 rfl ?_
    refine x_iconst (pc2 := 47) dX8_on_46 rfl ?_
    refine x_iald (pc2 := 48) ic_63 (by decide) (by rw [al_63]; decide) dX8_on_47 rfl ?_
    refine x_aload_n (pc2 := 49) dX8_on_48 rfl rfl ?_
    exact k
set_option maxRecDepth 4000 in
theorem g_X8_on_52 {sc : List Int} {d : Nat} {m : Mem} {Q : Option AV → Mem → Prop} {s0 s1 : Int} (k : ((-2147483648 ≤ s0 ∧ s0 < 2147483648)) ∧ ((-2147483648 ≤ s1 ∧ s1 < 2147483648)) ∧ ((¬ (s1 < s0)) → (-2147483648 ≤ (m 63 3) ∧ (m 63 3) < 2147483648)) ∧ ((¬ (s1 < s0)) → (-2147483648 ≤ (m 63 0) ∧ (m 63 0) < 2147483648)) ∧ ((¬ (s1 < s0)) → (¬ ((m 63 0) < (m 63 3))) → (-2147483648 ≤ (m 63 4) ∧ (m 63 4) < 2147483648)) ∧ (-2147483648 ≤ (if s1 < s0 then 0 else (if (m 63 0) < (m 63 3) then 0 else (if (m 63 0) < (m 63 4) then 0 else 1 : Int) : Int) : Int) ∧ (if s1 < s0 then 0 else (if (m 63 0) < (m 63 3) then 0 else (if (m 63 0) < (m 63 4) then 0 else 1 : Int) : Int) : Int) < 2147483648) ∧ (((if s1 < s0 then 0 else (if (m 63 0) < (m 63 3) then 0 else (if (m 63 0) < (m 63 4) then 0 else 1 : Int) : Int) : Int) = 0) → (Q (some (aI 0)) (wr m 64 5 ((m 64 5) + 1)))) ∧ (¬ ((if s1 < s0 then 0 else (if (m 63 0) < (m 63 3) then 0 else (if (m 63 0) < (m 63 4) then 0 else 1 : Int) : Int) : Int) = 0) → (S_X8_on sc d 102 [aR 62, aU, aU, aU] [aI (m 63 2), aR 62] m Q))) : S_X8_on sc d 52 [aR 62, aU, aU, aU] [aI s1, aI s0] m Q := by
  obtain ⟨g3, k⟩ := k
  obtain ⟨g4, k⟩ := k
  obtain ⟨g7, k⟩ := k
  obtain ⟨g8, k⟩ := k
  obtain ⟨g10, k⟩ := k
  have kj : S_X8_on sc d 90 [aR 62, aU, aU, aU] [aI (if s1 < s0 then 0 else (if (m 63 0) < (m 63 3) then 0 else (if (m 63 0) < (m 63 4) then 0 else 1 : Int) : Int) : Int)] m Q := by
    refine x_istore_n (pc2 := 91) (ls2 := [aR 62, aU, aI (if s1 < s0 then 0 else (if (m 63 0) < (m 63 3) then 0 else (if (m 63 0) < (m 63 4) then 0 else 1 : Int) : Int) : Int), aU]) dX8_on_90 rfl (by decide) rfl ?_
    refine x_iload_n (pc2 := 92) dX8_on_91 rfl rfl ?_
    obtain ⟨h11, k⟩ := k
    obtain ⟨k1, k2⟩ := k
    refine x_if_eq (tgt := 147) (pc2 := 95) dX8_on_92 (by decide) rfl h11 (fun c12 => ?_) (fun c12 => ?_)
    · replace k := k1 c12
      refine x_aload_n (pc2 := 148) dX8_on_147 rfl rfl ?_
      refine x_getf (pc2 := 151) (v := aR 64) fl_X8_17 ic_62 (vr_62_9 _) dX8_on_148 rfl ?_
      refine x_iconst (pc2 := 152) dX8_on_151 rfl ?_
      refine x_dup2_ri (pc2 := 153) dX8_on_152 rfl (by decide) ?_
      refine x_iald (pc2 := 154) ic_64 (by decide) (by rw [al_64]; decide) dX8_on_153 rfl ?_
      refine x_iconst (pc2 := 155) dX8_on_154 rfl ?_
      refine x_iadd (pc2 := 156) dX8_on_155 rfl ?_
      refine x_iast (pc2 := 157) ic_64 (by decide) (by rw [al_64]; decide) dX8_on_156 rfl ?_
      refine x_iconst (pc2 := 158) dX8_on_157 rfl ?_
      exact x_ireturn dX8_on_158 ⟨.boolean, rfl, rfl⟩ k
    · replace k := k2 c12
      refine x_aload_n (pc2 := 96) dX8_on_95 rfl rfl ?_
      refine x_aload_n (pc2 := 97) dX8_on_96 rfl rfl ?_
      refine x_getf (pc2 := 100) (v := aR 63) fl_X8_7 ic_62 (vr_62_0 _) dX8_on_97 rfl ?_
      refine x_iconst (pc2 := 101) dX8_on_100 rfl ?_
      refine x_iald (pc2 := 102) ic_63 (by decide) (by rw [al_63]; decide) dX8_on_101 rfl ?_
      exact x_drop (drp_k (drp_k (drp_u (drp_k drp_n)))) k
  have h13 := g3 
  have h14 := g4 
  refine x_icmp_gt (tgt := 89) (pc2 := 55) dX8_on_52 (by decide) rfl h13 h14 (fun c15 => ?_) (fun c15 => ?_)
  · skip
    refine x_iconst (pc2 := 90) dX8_on_89 rfl ?_
    exact x_topI (v := (if s1 < s0 then 0 else (if (m 63 0) < (m 63 3) then 0 else (if (m 63 0) < (m 63 4) then 0 else 1 : Int) : Int) : Int)) (if_pos c15) kj
  · skip
    refine x_aload_n (pc2 := 56) dX8_on_55 rfl rfl ?_
    refine x_getf (pc2 := 59) (v := aR 63) fl_X8_7 ic_62 (vr_62_0 _) dX8_on_56 rfl ?_
    refine x_iconst (pc2 := 60) dX8_on_59 rfl ?_
    refine x_iald (pc2 := 61) ic_63 (by decide) (by rw [al_63]; decide) dX8_on_60 rfl ?_
    refine x_aload_n (pc2 := 62) dX8_on_61 rfl rfl ?_
    refine x_getf (pc2 := 65) (v := aR 63) fl_X8_7 ic_62 (vr_62_0 _) dX8_on_62 rfl ?_
    refine x_iconst (pc2 := 66) dX8_on_65 rfl ?_
    refine x_iald (pc2 := 67) ic_63 (by decide) (by rw [al_63]; decide) dX8_on_66 rfl ?_
    have h16 := g7 c15
    have h17 := g8 c15
    refine x_icmp_gt (tgt := 89) (pc2 := 70) dX8_on_67 (by decide) rfl h16 h17 (fun c18 => ?_) (fun c18 => ?_)
    · skip
      refine x_iconst (pc2 := 90) dX8_on_89 rfl ?_
      exact x_topI (v := (if s1 < s0 then 0 else (if (m 63 0) < (m 63 3) then 0 else (if (m 63 0) < (m 63 4) then 0 else 1 : Int) : Int) : Int)) ((if_neg c15).trans (if_pos c18)) kj
    · skip
      refine x_aload_n (pc2 := 71) dX8_on_70 rfl rfl ?_
      refine x_getf (pc2 := 74) (v := aR 63) fl_X8_7 ic_62 (vr_62_0 _) dX8_on_71 rfl ?_
      refine x_iconst (pc2 := 75) dX8_on_74 rfl ?_
      refine x_iald (pc2 := 76) ic_63 (by decide) (by rw [al_63]; decide) dX8_on_75 rfl ?_
      refine x_aload_n (pc2 := 77) dX8_on_76 rfl rfl ?_
      refine x_getf (pc2 := 80) (v := aR 63) fl_X8_7 ic_62 (vr_62_0 _) dX8_on_77 rfl ?_
      refine x_iconst (pc2 := 81) dX8_on_80 rfl ?_
      refine x_iald (pc2 := 82) ic_63 (by decide) (by rw [al_63]; decide) dX8_on_81 rfl ?_
      have h19 := g10 c15 c18
      refine x_icmp_gt (tgt := 89) (pc2 := 85) dX8_on_82 (by decide) rfl h19 h17 (fun c20 => ?_) (fun c20 => ?_)
      · skip
        refine x_iconst (pc2 := 90) dX8_on_89 rfl ?_
        exact x_topI (v := (if s1 < s0 then 0 else (if (m 63 0) < (m 63 3) then 0 else (if (m 63 0) < (m 63 4) then 0 else 1 : Int) : Int) : Int)) ((if_neg c15).trans ((if_neg c18).trans (if_pos c20))) kj
      · skip
        refine x_iconst (pc2 := 86) dX8_on_85 rfl ?_
        refine x_goto (tgt := 90) dX8_on_86 (by decide) ?_
        exact x_topI (v := (if s1 < s0 then 0 else (if (m 63 0) < (m 63 3) then 0 else (if (m 63 0) < (m 63 4) then 0 else 1 : Int) : Int) : Int)) ((if_neg c15).trans ((if_neg c18).trans (if_neg c20))) kj
set_option maxRecDepth 4000 in
theorem g_X8_on_105 {sc : List Int} {d : Nat} {m : Mem} {Q : Option AV → Mem → Prop} {s0 : Int} (k : (-2147483648 ≤ s0 ∧ s0 < 2147483648) ∧ ((s0 = 0) → (Q (some (aI 0)) (wr m 64 5 ((m 64 5) + 1)))) ∧ (¬ (s0 = 0) → ((-2147483648 ≤ (m 63 1) ∧ (m 63 1) < 2147483648) ∧ (-2147483648 ≤ (m 63 2) ∧ (m 63 2) < 2147483648) ∧ (((m 63 2) < (m 63 1)) → (Q (some (aI 0)) (wr m 64 5 ((m 64 5) + 1)))) ∧ (¬ ((m 63 2) < (m 63 1)) → ((-2147483648 ≤ ((256 * (m 63 5)) + (m 63 6)) ∧ ((256 * (m 63 5)) + (m 63 6)) < 2147483648) ∧ ((((256 * (m 63 5)) + (m 63 6)) ≤ 9999) → (S_X8_on sc d 161 [aR 62, aU, aU, aI 0] [] m Q)) ∧ (¬ (((256 * (m 63 5)) + (m 63 6)) ≤ 9999) → (Q (some (aI 0)) (wr m 64 5 ((m 64 5) + 1))))))))) : S_X8_on sc d 105 [aR 62, aU, aU, aU] [aI s0] m Q := by
  obtain ⟨h1, k⟩ := k
  obtain ⟨k1, k2⟩ := k
  refine x_if_eq (tgt := 147) (pc2 := 108) dX8_on_105 (by decide) rfl h1 (fun c2 => ?_) (fun c2 => ?_)
  · replace k := k1 c2
    refine x_aload_n (pc2 := 148) dX8_on_147 rfl rfl ?_
    refine x_getf (pc2 := 151) (v := aR 64) fl_X8_17 ic_62 (vr_62_9 _) dX8_on_148 rfl ?_
    refine x_iconst (pc2 := 152) dX8_on_151 rfl ?_
    refine x_dup2_ri (pc2 := 153) dX8_on_152 rfl (by decide) ?_
    refine x_iald (pc2 := 154) ic_64 (by decide) (by rw [al_64]; decide) dX8_on_153 rfl ?_
    refine x_iconst (pc2 := 155) dX8_on_154 rfl ?_
    refine x_iadd (pc2 := 156) dX8_on_155 rfl ?_
    refine x_iast (pc2 := 157) ic_64 (by decide) (by rw [al_64]; decide) dX8_on_156 rfl ?_
    refine x_iconst (pc2 := 158) dX8_on_157 rfl ?_
    exact x_ireturn dX8_on_158 ⟨.boolean, rfl, rfl⟩ k
  · replace k := k2 c2
    refine x_aload_n (pc2 := 109) dX8_on_108 rfl rfl ?_
    refine x_getf (pc2 := 112) (v := aR 63) fl_X8_7 ic_62 (vr_62_0 _) dX8_on_109 rfl ?_
    refine x_iconst (pc2 := 113) dX8_on_112 rfl ?_
    refine x_iald (pc2 := 114) ic_63 (by decide) (by rw [al_63]; decide) dX8_on_113 rfl ?_
    refine x_aload_n (pc2 := 115) dX8_on_114 rfl rfl ?_
    refine x_getf (pc2 := 118) (v := aR 63) fl_X8_7 ic_62 (vr_62_0 _) dX8_on_115 rfl ?_
    refine x_iconst (pc2 := 119) dX8_on_118 rfl ?_
    refine x_iald (pc2 := 120) ic_63 (by decide) (by rw [al_63]; decide) dX8_on_119 rfl ?_
    obtain ⟨h3, k⟩ := k
    obtain ⟨h4, k⟩ := k
    obtain ⟨k1, k2⟩ := k
    refine x_icmp_gt (tgt := 147) (pc2 := 123) dX8_on_120 (by decide) rfl h3 h4 (fun c5 => ?_) (fun c5 => ?_)
    · replace k := k1 c5
      refine x_aload_n (pc2 := 148) dX8_on_147 rfl rfl ?_
      refine x_getf (pc2 := 151) (v := aR 64) fl_X8_17 ic_62 (vr_62_9 _) dX8_on_148 rfl ?_
      refine x_iconst (pc2 := 152) dX8_on_151 rfl ?_
      refine x_dup2_ri (pc2 := 153) dX8_on_152 rfl (by decide) ?_
      refine x_iald (pc2 := 154) ic_64 (by decide) (by rw [al_64]; decide) dX8_on_153 rfl ?_
      refine x_iconst (pc2 := 155) dX8_on_154 rfl ?_
      refine x_iadd (pc2 := 156) dX8_on_155 rfl ?_
      refine x_iast (pc2 := 157) ic_64 (by decide) (by rw [al_64]; decide) dX8_on_156 rfl ?_
      refine x_iconst (pc2 := 158) dX8_on_157 rfl ?_
      exact x_ireturn dX8_on_158 ⟨.boolean, rfl, rfl⟩ k
    · replace k := k2 c5
      refine x_sipush (pc2 := 126) dX8_on_123 rfl rfl ?_
      refine x_aload_n (pc2 := 127) dX8_on_126 rfl rfl ?_
      refine x_getf (pc2 := 130) (v := aR 63) fl_X8_7 ic_62 (vr_62_0 _) dX8_on_127 rfl ?_
      refine x_iconst (pc2 := 131) dX8_on_130 rfl ?_
      refine x_iald (pc2 := 132) ic_63 (by decide) (by rw [al_63]; decide) dX8_on_131 rfl ?_
      refine x_imul (pc2 := 133) dX8_on_132 rfl ?_
      refine x_aload_n (pc2 := 134) dX8_on_133 rfl rfl ?_
      refine x_getf (pc2 := 137) (v := aR 63) fl_X8_7 ic_62 (vr_62_0 _) dX8_on_134 rfl ?_
      refine x_bipush (pc2 := 139) dX8_on_137 rfl rfl ?_
      refine x_iald (pc2 := 140) ic_63 (by decide) (by rw [al_63]; decide) dX8_on_139 rfl ?_
      refine x_iadd (pc2 := 141) dX8_on_140 rfl ?_
      refine x_sipush (pc2 := 144) dX8_on_141 rfl rfl ?_
      obtain ⟨h6, k⟩ := k
      obtain ⟨k1, k2⟩ := k
      refine x_icmp_le (tgt := 159) (pc2 := 147) dX8_on_144 (by decide) rfl h6 (by decide) (fun c7 => ?_) (fun c7 => ?_)
      · replace k := k1 c7
        refine x_iconst (pc2 := 160) dX8_on_159 rfl ?_
        refine x_istore_n (pc2 := 161) (ls2 := [aR 62, aU, aU, aI 0]) dX8_on_160 rfl (by decide) rfl ?_
        exact k
      · replace k := k2 c7
        refine x_aload_n (pc2 := 148) dX8_on_147 rfl rfl ?_
        refine x_getf (pc2 := 151) (v := aR 64) fl_X8_17 ic_62 (vr_62_9 _) dX8_on_148 rfl ?_
        refine x_iconst (pc2 := 152) dX8_on_151 rfl ?_
        refine x_dup2_ri (pc2 := 153) dX8_on_152 rfl (by decide) ?_
        refine x_iald (pc2 := 154) ic_64 (by decide) (by rw [al_64]; decide) dX8_on_153 rfl ?_
        refine x_iconst (pc2 := 155) dX8_on_154 rfl ?_
        refine x_iadd (pc2 := 156) dX8_on_155 rfl ?_
        refine x_iast (pc2 := 157) ic_64 (by decide) (by rw [al_64]; decide) dX8_on_156 rfl ?_
        refine x_iconst (pc2 := 158) dX8_on_157 rfl ?_
        exact x_ireturn dX8_on_158 ⟨.boolean, rfl, rfl⟩ k
set_option maxRecDepth 4000 in
theorem g_X8_on_161 {sc : List Int} {d : Nat} {m : Mem} {Q : Option AV → Mem → Prop} {l3 : Int} (k : (-2147483648 ≤ l3 ∧ l3 < 2147483648) ∧ ((5 ≤ l3) → (Q (some (aI 1)) (wr (wr m 124 5 ((256 * (m 63 5)) + (m 63 6))) 62 83 0))) ∧ (¬ (5 ≤ l3) → ((0 ≤ l3) ∧ (l3 < 1600) ∧ (l3 < 6) ∧ S_X8_on sc d 161 [aR 62, aU, aU, aI (l3 + 1)] [] (wr m 124 l3 (m 63 l3)) Q))) : S_X8_on sc d 161 [aR 62, aU, aU, aI l3] [] m Q := by
  refine x_iload_n (pc2 := 162) dX8_on_161 rfl rfl ?_
  refine x_iconst (pc2 := 163) dX8_on_162 rfl ?_
  obtain ⟨h1, k⟩ := k
  obtain ⟨k1, k2⟩ := k
  refine x_icmp_ge (tgt := 184) (pc2 := 166) dX8_on_163 (by decide) rfl h1 (by decide) (fun c2 => ?_) (fun c2 => ?_)
  · replace k := k1 c2
    refine x_aload_n (pc2 := 185) dX8_on_184 rfl rfl ?_
    refine x_getf (pc2 := 188) (v := aR 124) fl_X8_199 ic_62 (vr_62_81 _) dX8_on_185 rfl ?_
    refine x_iconst (pc2 := 189) dX8_on_188 rfl ?_
    refine x_sipush (pc2 := 192) dX8_on_189 rfl rfl ?_
    refine x_aload_n (pc2 := 193) dX8_on_192 rfl rfl ?_
    refine x_getf (pc2 := 196) (v := aR 63) fl_X8_7 ic_62 (vr_62_0 _) dX8_on_193 rfl ?_
    refine x_iconst (pc2 := 197) dX8_on_196 rfl ?_
    refine x_iald (pc2 := 198) ic_63 (by decide) (by rw [al_63]; decide) dX8_on_197 rfl ?_
    refine x_imul (pc2 := 199) dX8_on_198 rfl ?_
    refine x_aload_n (pc2 := 200) dX8_on_199 rfl rfl ?_
    refine x_getf (pc2 := 203) (v := aR 63) fl_X8_7 ic_62 (vr_62_0 _) dX8_on_200 rfl ?_
    refine x_bipush (pc2 := 205) dX8_on_203 rfl rfl ?_
    refine x_iald (pc2 := 206) ic_63 (by decide) (by rw [al_63]; decide) dX8_on_205 rfl ?_
    refine x_iadd (pc2 := 207) dX8_on_206 rfl ?_
    refine x_iast (pc2 := 208) ic_124 (by decide) (by rw [al_124]; decide) dX8_on_207 rfl ?_
    refine x_aload_n (pc2 := 209) dX8_on_208 rfl rfl ?_
    refine x_iconst (pc2 := 210) dX8_on_209 rfl ?_
    refine x_putf (pc2 := 213) (x := 0) fl_X8_425 ft_8_83 ic_62 (pv_i _ ic_62 rfl) (pn_i _) dX8_on_210 rfl ?_
    refine x_iconst (pc2 := 214) dX8_on_213 rfl ?_
    exact x_ireturn dX8_on_214 ⟨.boolean, rfl, rfl⟩ k
  · replace k := k2 c2
    refine x_aload_n (pc2 := 167) dX8_on_166 rfl rfl ?_
    refine x_getf (pc2 := 170) (v := aR 124) fl_X8_199 ic_62 (vr_62_81 _) dX8_on_167 rfl ?_
    refine x_iload_n (pc2 := 171) dX8_on_170 rfl rfl ?_
    refine x_aload_n (pc2 := 172) dX8_on_171 rfl rfl ?_
    refine x_getf (pc2 := 175) (v := aR 63) fl_X8_7 ic_62 (vr_62_0 _) dX8_on_172 rfl ?_
    refine x_iload_n (pc2 := 176) dX8_on_175 rfl rfl ?_
    obtain ⟨h3, k⟩ := k
    obtain ⟨h4, k⟩ := k
    refine x_iald (pc2 := 177) ic_63 h3 (by rw [al_63]; exact h4) dX8_on_176 rfl ?_
    obtain ⟨h5, k⟩ := k
    refine x_iast (pc2 := 178) ic_124 h3 (by rw [al_124]; exact h5) dX8_on_177 rfl ?_
    refine x_iinc (pc2 := 181) (ls2 := [aR 62, aU, aU, aI (l3 + 1)]) dX8_on_178 rfl rfl (by decide) rfl ?_
    refine x_goto (tgt := 161) dX8_on_181 (by decide) ?_
    exact k
theorem c_X8_on_36 {sc : List Int} {d d2 : Nat} {m m2 : Mem} {Q : Option AV → Mem → Prop} {s0 s1 s2 : Int} {v : Int} (Hs1 : IsC s1 100) (hM : C_X8_checked sc d2 [aR s1, aI s2] m (some (aI v)) m2) (hd : d2 + 1 ≤ d) (k : S_X8_on sc d 39 [aR 62, aU, aU, aU] [aI v, aI s0] m2 Q) : S_X8_on sc d 36 [aR 62, aU, aU, aU] [aI s2, aR s1, aI s0] m Q := x_callS (as := [aR s1, aI s2]) (rest := [aI s0]) hM mk_X8_checked ms_X8_checked lk_X8_730 hd rfl rfl (Nat.le_of_ble_eq_true rfl) dX8_on_36 rfl k
theorem c_X8_on_49 {sc : List Int} {d d2 : Nat} {m m2 : Mem} {Q : Option AV → Mem → Prop} {s0 : Int} {v : Int} (hM : C_X8_seamMany sc d2 [aR 62] m (some (aI v)) m2) (hd : d2 + 1 ≤ d) (k : S_X8_on sc d 52 [aR 62, aU, aU, aU] [aI v, aI s0] m2 Q) : S_X8_on sc d 49 [aR 62, aU, aU, aU] [aR 62, aI s0] m Q := x_callV (as := []) (rest := [aI s0]) hM mk_X8_seamMany mv_X8_seamMany lk_X8_431 (Or.inl ⟨8, (RX8, TX8, 123), ic_62, Nat.le_of_ble_eq_true rfl, rfl, rfl⟩) hd rfl rfl (Nat.le_of_ble_eq_true rfl) dX8_on_49 rfl k
theorem c_X8_on_102 {sc : List Int} {d d2 : Nat} {m m2 : Mem} {Q : Option AV → Mem → Prop} {s1 : Int} {v : Int} (hM : C_X8_isLength sc d2 [aR 62, aI s1] m (some (aI v)) m2) (hd : d2 + 1 ≤ d) (k : S_X8_on sc d 105 [aR 62, aU, aU, aU] [aI v] m2 Q) : S_X8_on sc d 102 [aR 62, aU, aU, aU] [aI s1, aR 62] m Q := x_callV (as := [aI s1]) (rest := []) hM mk_X8_isLength mv_X8_isLength lk_X8_736 (Or.inl ⟨8, (RX8, TX8, 123), ic_62, Nat.le_of_ble_eq_true rfl, rfl, rfl⟩) hd rfl rfl (Nat.le_of_ble_eq_true rfl) dX8_on_102 rfl k
set_option maxRecDepth 4000 in
theorem g_X8_status_0 {sc : List Int} {d : Nat} {m : Mem} {Q : Option AV → Mem → Prop} {l1 : Int} (k : (-2147483648 ≤ l1 ∧ l1 < 2147483648) ∧ S_X8_status sc d 6 [aR 62, aI l1] [aJ 5, aJ 0, aJ l1] m Q) : S_X8_status sc d 0 [aR 62, aI l1] [] m Q := by
  refine x_iload_n (pc2 := 1) dX8_status_0 rfl rfl ?_
  obtain ⟨h1, k⟩ := k
  refine x_i2l (pc2 := 2) dX8_status_1 rfl h1 ?_
  refine x_lconst (pc2 := 3) (v := 0) dX8_status_2 rfl rfl ?_
  refine x_ldc2 (pc2 := 6) (x := 5) kc_X8_541 rfl dX8_status_3 rfl ?_
  exact k
set_option maxRecDepth 4000 in
theorem g_X8_status_9 {sc : List Int} {d : Nat} {m : Mem} {Q : Option AV → Mem → Prop} {l1 s0 : Int} (k : ((-2147483648 ≤ s0 ∧ s0 < 2147483648)) ∧ ((¬ (s0 = 0)) → (0 ≤ l1)) ∧ ((¬ (s0 = 0)) → (l1 < 6)) ∧ Q (some (aI (if s0 = 0 then (-1) else (m 64 l1) : Int))) m) : S_X8_status sc d 9 [aR 62, aI l1] [aI s0] m Q := by
  obtain ⟨g2, k⟩ := k
  obtain ⟨g5, k⟩ := k
  obtain ⟨g6, k⟩ := k
  have kj : S_X8_status sc d 22 [aR 62, aI l1] [aI (if s0 = 0 then (-1) else (m 64 l1) : Int)] m Q := by
    exact x_ireturn dX8_status_22 ⟨.int, rfl, rfl⟩ k
  have h7 := g2 
  refine x_if_eq (tgt := 21) (pc2 := 12) dX8_status_9 (by decide) rfl h7 (fun c8 => ?_) (fun c8 => ?_)
  · skip
    refine x_iconst (pc2 := 22) dX8_status_21 rfl ?_
    exact x_topI (v := (if s0 = 0 then (-1) else (m 64 l1) : Int)) (if_pos c8) kj
  · skip
    refine x_aload_n (pc2 := 13) dX8_status_12 rfl rfl ?_
    refine x_getf (pc2 := 16) (v := aR 64) fl_X8_17 ic_62 (vr_62_9 _) dX8_status_13 rfl ?_
    refine x_iload_n (pc2 := 17) dX8_status_16 rfl rfl ?_
    have h9 := g5 c8
    have h10 := g6 c8
    refine x_iald (pc2 := 18) ic_64 h9 (by rw [al_64]; exact h10) dX8_status_17 rfl ?_
    refine x_goto (tgt := 22) dX8_status_18 (by decide) ?_
    exact x_topI (v := (if s0 = 0 then (-1) else (m 64 l1) : Int)) (if_neg c8) kj
theorem c_X8_status_6 {sc : List Int} {d d2 : Nat} {m m2 : Mem} {Q : Option AV → Mem → Prop} {l1 s0 s1 s2 : Int} {v : Int} (hM : C_X8_isIn sc d2 [aJ s0, aJ s1, aJ s2] m (some (aI v)) m2) (hd : d2 + 1 ≤ d) (k : S_X8_status sc d 9 [aR 62, aI l1] [aI v] m2 Q) : S_X8_status sc d 6 [aR 62, aI l1] [aJ s2, aJ s1, aJ s0] m Q := x_callS (as := [aJ s0, aJ s1, aJ s2]) (rest := []) hM mk_X8_isIn ms_X8_isIn lk_X8_333 hd rfl rfl (Nat.le_of_ble_eq_true rfl) dX8_status_6 rfl k
