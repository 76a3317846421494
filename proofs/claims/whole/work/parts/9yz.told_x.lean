/-! rooms as texts: seams and rules of the class -/
section RG
variable {sc : List Int} {d : Nat} {m ρ : Mem} {Q : Option AV → Mem → Prop} {T : Int → Int} {n : Nat} {rl : Bool} {F r : Int}
theorem XRt.nm {z : Mem} {s : Int} (H : RoomAt r) (h : XRt m r ρ) (hb : RmC ρ) (e : Ex (C_nm r s) m z) (hs : (s = ρ 0 1 ∧ s < 10) ∨ s = 10 + ρ 0 2) : XRt z r ρ := by
  have rb := room_bd H
  have b := hb.1
  have ee : ∀ a j, ¬ C_nm r s a j → z a j = m a j := e
  exact ⟨h.1.ex3 (fun a j q => ee a j (fun c => by unfold C_nm C_rd at c; omega)), fun k hk => by rw [ee _ _ (fun c => by unfold C_nm C_rd at c; omega)]; exact h.2.1 k hk, fun j hj => by rw [ee _ _ (fun c => by unfold C_nm C_rd at c; omega)]; exact h.2.2 j hj⟩
theorem XRt.pl {z : Mem} (H : RoomAt r) (h : XRt m r ρ) (hb : RmC ρ) (e : Ex (C_pl r (ρ 0 1)) m z) : XRt z r ρ := by
  have rb := room_bd H
  obtain ⟨⟨⟨x1, x2, x3, x4⟩, xL, xS, xA, xM⟩, y1, y2⟩ := h
  have ee : ∀ a j, ¬ C_pl r (ρ 0 1) a j → z a j = m a j := e
  have e5 : ∀ a j, a ≠ r + 5 → ((r ≤ a ∧ a ≤ r + 7) ∨ a = r + 11 ∨ a = r + 12 ∨ a = r + 13) → z a j = m a j := fun a j q1 q2 => ee a j (fun c => by unfold C_pl C_rd at c; omega)
  refine ⟨⟨⟨by rw [e5 _ _ (by omega) (by omega)]; exact x1, by rw [e5 _ _ (by omega) (by omega)]; exact x2, by rw [e5 _ _ (by omega) (by omega)]; exact x3, by rw [e5 _ _ (by omega) (by omega)]; exact x4⟩, fun i hi => ?_, fun s hs => ?_, fun s hs => ?_, fun i hi => ?_⟩, fun k hk => by rw [e5 _ _ (by omega) (by omega)]; exact y1 k hk, fun j hj => by rw [e5 _ _ (by omega) (by omega)]; exact y2 j hj⟩
  · rw [e5 _ _ (by omega) (by omega), e5 _ _ (by omega) (by omega)]; exact xL i hi
  · have q := (hb.2.2.2.1 s hs).2.2.1
    rw [e5 _ _ (by omega) (by omega), e5 _ _ (by omega) (by omega), e5 _ _ (by omega) (by omega)]
    exact ⟨(xS s hs).1, (xS s hs).2.1, (xS s hs).2.2.1, fun k hk => by rw [ee _ _ (fun c => by unfold C_pl C_rd at c; omega)]; exact (xS s hs).2.2.2 k hk⟩
  · rw [e5 _ _ (by omega) (by omega)]; exact xA s hs
  · rw [e5 _ _ (by omega) (by omega)]; exact xM i hi
theorem xrt_seam {f : Int → Int} {y sh : Int} {pl : List Int} {z w : Mem} (H : RoomAt r) (h : XRt z r ρ) (hb : RmC ρ) (h10 : ρ 0 1 < 10) (hl : ∀ j : Nat, j < 6 → z (r + 12) (ρ 0 1 * 6 + j) = f j) (hp : pl.length ≤ 4 ∧ ∀ k : Nat, k < pl.length → z (r + 5) (ρ 0 1 * 4 + k) = pl.getD k 0)
    (e : Ex (fun a j => (a = r ∧ j = 8) ∨ ((a = r + 3 ∨ a = r + 4 ∨ a = r + 6) ∧ j = z r 8) ∨ (a = r + 7 ∧ j = z r 8 + 1)) z w) (e2 : w r 8 = z r 8 + 1 ∧ w (r + 3) (z r 8) = y ∧ w (r + 4) (z r 8) = sh ∧ w (r + 6) (z r 8) = (pl.length : Nat) ∧ w (r + 7) (z r 8 + 1) = z (r + 7) (z r 8) + y) : XRt w r (addS ρ f y sh pl) := by
  have rb := room_bd H
  have b := hb.1
  obtain ⟨⟨⟨x1, x2, x3, x4⟩, xL, xS, xA, xM⟩, y1, y2⟩ := h
  rw [x2] at e e2
  obtain ⟨w1, w2, w3, w4, w5⟩ := e2
  have ee : ∀ a j, ¬ ((a = r ∧ j = 8) ∨ ((a = r + 3 ∨ a = r + 4 ∨ a = r + 6) ∧ j = ρ 0 1) ∨ (a = r + 7 ∧ j = ρ 0 1 + 1)) → w a j = z a j := e
  refine ⟨⟨⟨?_, ?_, ?_, ?_⟩, ?_, fun s hs => ?_, fun s hs => ?_, fun i hi => ?_⟩, ?_, fun j hj => ?_⟩
  · rw [ee _ _ (by omega), aS_z (by decide)]; exact x1
  · rw [w1, aS_0]
  · rw [ee _ _ (by omega), aS_z (by decide)]; exact x3
  · rw [ee _ _ (by omega), aS_z (by decide)]; exact x4
  · rw [aS_z (by decide), aS_a (a := 1) (by decide), aS_a (a := 2) (by decide)]
    intro i hi
    rw [ee _ _ (by omega), ee _ _ (by omega)]; exact xL i hi
  · rw [aS_0] at hs
    by_cases g : (s : Int) = ρ 0 1
    · rw [g, aS_3, aS_4, aS_6]
      refine ⟨w2, w3, w4, fun k hk => ?_⟩
      rw [aS_5 (by omega), ee _ _ (by omega)]
      exact hp.2 k (by omega)
    · rw [aS_n ⟨by omega, by omega, by omega, by omega⟩, aS_n ⟨by omega, by omega, by omega, by omega⟩, aS_n ⟨by omega, by omega, by omega, by omega⟩]
      have q := (hb.2.2.2.1 s (by omega)).2.2.1
      rw [ee _ _ (by omega), ee _ _ (by omega), ee _ _ (by omega)]
      have k := xS s (by omega)
      exact ⟨k.1, k.2.1, k.2.2.1, fun i hi => by rw [aS_n ⟨by omega, by omega, by omega, by omega⟩, ee _ _ (by omega)]; exact k.2.2.2 i hi⟩
  · rw [aS_0] at hs
    have sm : ∀ i : Nat, (i : Int) ≤ ρ 0 1 → sumF (addS ρ f y sh pl 3) i = sumF (ρ 3) i := fun i hi => sumF_congr (fun k hk => aS_n ⟨by omega, by omega, by omega, by omega⟩)
    by_cases g : (s : Int) = ρ 0 1 + 1
    · obtain ⟨t, rfl⟩ : ∃ t : Nat, s = t + 1 := ⟨s - 1, by omega⟩
      have tt : (t : Int) = ρ 0 1 := by omega
      rw [g, w5, sumF, sm t (by omega), tt, aS_3]
      have := xA t (by omega)
      rw [tt] at this
      rw [this]
    · rw [sm s (by omega), ee _ _ (by omega)]; exact xA s (by omega)
  · rw [aS_a (by decide), ee _ _ (by omega)]; exact xM i hi
  · rw [aS_z (by decide), aS_a (a := 10) (by decide)]
    intro k hk
    rw [ee _ _ (by omega)]; exact y1 k hk
  · rw [aS_0, aS_z (by decide)] at hj
    rw [ee _ _ (by omega)]
    by_cases g : ρ 0 1 * 6 ≤ j ∧ j < ρ 0 1 * 6 + 6
    · have k1 := aS_8 (ρ := ρ) (f := f) (y := y) (sh := sh) (pl := pl) (j := (j - ρ 0 1 * 6).toNat) (by omega)
      have k2 := hl (j - ρ 0 1 * 6).toNat (by omega)
      rw [show ρ 0 1 * 6 + (((j - ρ 0 1 * 6).toNat : Nat) : Int) = j by omega] at k1 k2
      rw [k1, k2]
    · rw [aS_n ⟨by omega, by omega, by omega, by omega⟩]
      exact y2 j (by omega)
theorem seamE94 {e : Int × Int} {y : Mem} (H : RoomAt r) (ye : Ex (C_rm r) m y) (hy : XR T n true (r + 8) y (.error e)) (h8 : 0 ≤ y r 8 ∧ y r 8 ≤ 10) (hd : 8 ≤ d) (a b c : Int) : S_X5_tellSeam sc d 94 [aR 32, aU, aU, aU, aU] [aI c, aI b, aI a, aR r] y (PX T n r m (.error e)) := by
  have rb := room_bd H
  refine p_X5_tellSeam_94 (d2 := d - 1) H (s_addSeam H h8) (by omega) ?_
  rintro z ⟨-, ze, -⟩
  refine g_X5_tellSeam_97 ⟨rfl, ye.trans (ze.mono (fun a j q => by unfold C_rm; omega)), hy.exr ze (fun a j q => by omega), fun a q => by cases q⟩
theorem seamE71 {e : Int × Int} {y : Mem} (H : RoomAt r) (ye : Ex (C_rm r) m y) (hy : XR T n true (r + 8) y (.error e)) (h8 : 0 ≤ y r 8 ∧ y r 8 ≤ 10) (hd : 8 ≤ d) (v sh : Int) : S_X5_tellSeam sc d 71 [aR 32, aR r, aI v, aI sh, aU] [aI 6, aR 32] y (PX T n r m (.error e)) := by
  refine p_X5_tellSeam_71 (d2 := d - 1) H (s_isWord hy (by decide)) (by omega) ?_
  rintro _ z ⟨q, rfl⟩; cases q
  rw [if_neg (show ¬ wEE T n (Except.error e) = 6 by show ¬ (-1 : Int) = 6; decide)]
  exact g_X5_tellSeam_74 H ⟨by omega, fun _ => seamE94 H ye hy h8 hd _ _ _, fun q => by omega⟩
theorem seamE44 {e : Int × Int} {y : Mem} (H : RoomAt r) (ye : Ex (C_rm r) m y) (hy : XR T n true (r + 8) y (.error e)) (h8 : 0 ≤ y r 8 ∧ y r 8 ≤ 10) (hd : 8 ≤ d) (v : Int) : S_X5_tellSeam sc d 44 [aR 32, aR r, aU, aU, aU] [aI v] y (PX T n r m (.error e)) := by
  refine g_X5_tellSeam_44 H (p_X5_tellSeam_47 (d2 := d - 1) H (s_isWord hy (by decide)) (by omega) ?_)
  rintro _ z ⟨q, rfl⟩; cases q
  rw [if_neg (show ¬ wEE T n (Except.error e) = 5 by show ¬ (-1 : Int) = 5; decide)]
  refine g_X5_tellSeam_50 H ⟨by omega, by rw [if_pos rfl]; omega, fun _ => ?_, fun q => absurd (by rw [if_pos rfl]; decide) q⟩
  rw [if_pos rfl]
  exact g_X5_tellSeam_68 H (seamE71 H ye hy h8 hd _ _)
theorem seamE37 {e : Int × Int} {y : Mem} (H : RoomAt r) (ye : Ex (C_rm r) m y) (hy : XR T n true (r + 8) y (.error e)) (h8 : 0 ≤ y r 8 ∧ y r 8 ≤ 10) (hd : 8 ≤ d) : S_X5_tellSeam sc d 37 [aR 32, aR r, aU, aU, aU] [] y (PX T n r m (.error e)) := by
  have rb := room_bd H
  refine g_X5_tellSeam_37 H (p_X5_tellSeam_41 (d2 := d - 1) H (s_number hy (by decide) (by decide) (by omega)) (by omega) ?_)
  rintro v z ⟨_, q, ⟨ze, hz⟩, -⟩; cases q
  exact seamE44 H (ye.trans (ze.mono (fun a j q => rm_rd q))) hz (by rw [ze _ _ (fun q => by unfold C_rd at q; omega)]; exact h8) hd v
theorem seamE32 {e : Int × Int} {y : Mem} (H : RoomAt r) (ye : Ex (C_rm r) m y) (hy : XR T n true (r + 8) y (.error e)) (h8 : 0 ≤ y r 8 ∧ y r 8 ≤ 10) (hd : 8 ≤ d) : S_X5_tellSeam sc d 32 [aR 32, aR r, aU, aU, aU] [] y (PX T n r m (.error e)) := by
  have rb := room_bd H
  refine g_X5_tellSeam_32 H (p_X5_tellSeam_34 (d2 := d - 1) H (s_expect hy (by decide) (by omega)) (by omega) ?_)
  rintro z ⟨-, ze, hz⟩
  exact seamE37 H (ye.trans (ze.mono (fun a j q => rm_rd q))) hz (by rw [ze _ _ (fun q => by unfold C_rd at q; omega)]; exact h8) hd
theorem s_tellSeam {x : Stt × List Int} (H : RoomAt r) (h : XR T n true (r + 8) m (.ok x)) (ht : XRt m r ρ) (hp : PI n (x, ρ)) (hd : 10 ≤ d) : P_X5_tellSeam sc d [aR 32, aR r] m (PX T n r m (seamB T n x ρ)) := by
  have rb := room_bd H
  have b := hp.1.1
  have b : (0 ≤ ρ 0 0 ∧ ρ 0 0 ≤ 6 ∧ 0 ≤ ρ 0 1 ∧ ρ 0 1 ≤ 10 ∧ 0 ≤ ρ 0 2 ∧ ρ 0 2 ≤ 4 ∧ 0 ≤ ρ 0 3 ∧ ρ 0 3 ≤ 60) := b
  have n1 := h.1.1
  have c8 : m r 8 = ρ 0 1 := ht.1.1.2.1
  have e3 := h.s3
  have xn : x.1.1 ≤ n := h.2.2.2.2.2.1
  have hb : RmC ρ := hp.1
  have hnm : NmI ρ := hp.2.2.1
  refine ep_X5_tellSeam (g_X5_tellSeam_0 H ⟨by omega, fun c => ?_, fun c => ?_⟩)
  · unfold seamB
    rw [if_neg (by omega)]
    refine p_X5_tellSeam_20 (d2 := d - 1) H (s_advance h (by omega)) (by omega) ?_
    rintro z1 ⟨-, e1, h1⟩
    have h1 : XR T n true (r + 8) z1 (.ok (nx T n x.1, x.2)) := h1
    have t1 := ht.rd H e1
    have c81 : z1 r 8 = ρ 0 1 := t1.1.1.2.1
    refine g_X5_tellSeam_23 H (p_X5_tellSeam_29 (d2 := d - 1) H H (s_name H h1 t1 hb hnm (Or.inl ⟨c81, by omega⟩) (by omega)) (by omega) ?_)
    rintro z2 ⟨-, e2, h2, l2⟩
    rw [c81] at e2 l2
    have t2 := t1.nm H hb e2 (Or.inl ⟨rfl, by omega⟩)
    have E2 : Ex (C_rm r) m z2 := (e1.mono (fun a j q => rm_rd q)).trans (e2.mono (fun a j q => by unfold C_nm C_rd at q; unfold C_rm; omega))
    have c82 : z2 r 8 = ρ 0 1 := t2.1.1.2.1
    cases g2 : nmeR T n ρ (nx T n x.1, x.2) with
    | error e => rw [g2] at h2; exact seamE32 H E2 h2 (by omega) (by omega)
    | ok a =>
    rw [g2] at h2
    have l2 := l2 a g2
    obtain ⟨m1, m2, m3, m4, rfl⟩ := nmeR_ok g2
    show S_X5_tellSeam sc d 32 _ _ z2 (PX T n r m ((exW T n 4 _).bind _))
    refine g_X5_tellSeam_32 H (p_X5_tellSeam_34 (d2 := d - 1) H (s_expect h2 (by decide) (by omega)) (by omega) ?_)
    rintro z3 ⟨-, e3', h3⟩
    have t3 := t2.rd H e3'
    have E3 := E2.trans (e3'.mono (fun a j q => rm_rd q))
    have c83 : z3 r 8 = ρ 0 1 := t3.1.1.2.1
    have h3 : XR T n true (r + 8) z3 (exW T n 4 (nx T n (nx T n x.1), x.2)) := h3
    cases g3 : exW T n 4 (nx T n (nx T n x.1), x.2) with
    | error e => rw [g3] at h3; exact seamE37 H E3 h3 (by omega) (by omega)
    | ok a =>
    rw [g3] at h3
    obtain ⟨w1, rfl⟩ := exW_ok g3
    refine g_X5_tellSeam_37 H (p_X5_tellSeam_41 (d2 := d - 1) H (s_number h3 (by decide) (by decide) (by omega)) (by omega) ?_)
    rintro v z4 ⟨_, q, ⟨e4', h4⟩, hv⟩; cases q
    have t4 := t3.rd H e4'
    have E4 := E3.trans (e4'.mono (fun a j q => rm_rd q))
    have c84 : z4 r 8 = ρ 0 1 := t4.1.1.2.1
    have h4 : XR T n true (r + 8) z4 ((numR T n 1 99 (nx T n (nx T n (nx T n x.1)))).bind fun _ => .ok (nx T n (nx T n (nx T n (nx T n x.1))), x.2)) := h4
    show S_X5_tellSeam sc d 44 _ _ z4 (PX T n r m ((numR T n 1 99 (nx T n (nx T n (nx T n x.1)))).bind _))
    cases g4 : numR T n 1 99 (nx T n (nx T n (nx T n x.1))) with
    | error e => rw [g4] at h4; exact seamE44 H E4 h4 (by omega) (by omega) v
    | ok y =>
    rw [g4] at h4
    have hvy := hv _ y rfl g4
    subst hvy
    have y2 := numR_ok g4
    have h4 : XR T n true (r + 8) z4 (.ok (nx T n (nx T n (nx T n (nx T n x.1))), x.2)) := h4
    show S_X5_tellSeam sc d 44 _ _ z4 (PX T n r m ((plcR T n v (shS T n (nx T n (nx T n (nx T n (nx T n x.1)))))).bind fun c => .ok ((c.1, x.2), addS ρ (ltr T n (nx T n x.1)) v (shV T n (nx T n (nx T n (nx T n (nx T n x.1))))) c.2)))
    have lt4 : ∀ j : Nat, j < 6 → z4 (r + 12) (ρ 0 1 * 6 + j) = ltr T n (nx T n x.1) j := fun j hj => by
      rw [e4' _ _ (fun q => by unfold C_rd at q; omega), e3' _ _ (fun q => by unfold C_rd at q; omega)]; exact l2 j hj
    generalize nx T n (nx T n (nx T n (nx T n x.1))) = τ at h4 ⊢
    -- behind "shown"
    have at68 : ∀ (σ : Stt) (sh : Int) (z : Mem), Ex (C_rd (r + 8)) z4 z → XR T n true (r + 8) z (.ok (σ, x.2)) → S_X5_tellSeam sc d 68 [aR 32, aR r, aI v, aI sh, aU] [] z (PX T n r m ((plcR T n v σ).bind fun c => .ok ((c.1, x.2), addS ρ (ltr T n (nx T n x.1)) v sh c.2))) := by
      intro σ sh z ze hz
      have tz := t4.rd H ze
      have Ez := E4.trans (ze.mono (fun a j q => rm_rd q))
      have c8z : z r 8 = ρ 0 1 := tz.1.1.2.1
      have ltz : ∀ j : Nat, j < 6 → z (r + 12) (ρ 0 1 * 6 + j) = ltr T n (nx T n x.1) j := fun j hj => by
        rw [ze _ _ (fun q => by unfold C_rd at q; omega)]; exact lt4 j hj
      refine g_X5_tellSeam_68 H (p_X5_tellSeam_71 (d2 := d - 1) H (s_isWord hz (by decide)) (by omega) ?_)
      rintro _ u ⟨q, rfl⟩; cases q
      have fin : ∀ (pl : List Int) (κ : Stt) (y : Mem), Ex (C_pl r (ρ 0 1)) u y → XR T n true (r + 8) y (.ok (κ, x.2)) → pl.length ≤ 4 → (∀ k : Nat, k < pl.length → y (r + 5) (ρ 0 1 * 4 + k) = pl.getD k 0) → S_X5_tellSeam sc d 94 [aR 32, aU, aU, aU, aU] [aI ((pl.length : Nat) : Int), aI sh, aI v, aR r] y (PX T n r m (.ok ((κ, x.2), addS ρ (ltr T n (nx T n x.1)) v sh pl))) := by
        intro pl κ y ye hy hpl hpl2
        have ty := tz.pl H hb ye
        have c8y : y r 8 = ρ 0 1 := ty.1.1.2.1
        refine p_X5_tellSeam_94 (d2 := d - 1) H (s_addSeam H (by omega)) (by omega) ?_
        rintro w ⟨-, we, wv⟩
        have wv := wv (by omega)
        refine g_X5_tellSeam_97 ⟨rfl, (Ez.trans (ye.mono (fun a j q => by unfold C_pl C_rd at q; unfold C_rm; omega))).trans (we.mono (fun a j q => by unfold C_rm; omega)), hy.exr we (fun a j q => by omega), fun a q => ?_⟩
        cases q
        exact xrt_seam H ty hb (by omega) (fun j hj => by rw [ye _ _ (fun q => by unfold C_pl C_rd at q; omega)]; exact ltz j hj) ⟨hpl, hpl2⟩ we wv
      by_cases c6 : wE T n σ = 6
      · rw [if_pos (show wEE T n (Except.ok (σ, x.2)) = 6 from c6)]
        unfold plcR
        rw [if_pos c6]
        refine g_X5_tellSeam_74 H ⟨by omega, fun q => by omega, fun _ => ?_⟩
        refine p_X5_tellSeam_80 (d2 := d - 1) H H (s_tellPlaces H hz ⟨c8z, by omega, by omega⟩ ⟨y2.2.1, y2.2.2.1⟩ (by omega)) (by omega) ?_
        rintro c y ⟨_, q, ye, hy, hc⟩; cases q
        refine g_X5_tellSeam_83 H ?_
        have k6 := wE_n2 c6 (by decide)
        cases g5 : plsR T n v 4 0 (nx T n σ) [] with
        | error e =>
          rw [g5] at hy
          exact seamE94 H (Ez.trans (ye.mono (fun a j q => by unfold C_pl C_rd at q; unfold C_rm; omega))) hy (by rw [ye _ _ (fun q => by unfold C_pl C_rd at q; omega)]; omega) (by omega) _ _ _
        | ok a =>
          rw [g5] at hy
          obtain ⟨hc1, hc2⟩ := hc a g5
          have p4 := (plsR_ok g5 (by decide) y2.2.2.1 (by decide) (fun v hv => absurd hv List.not_mem_nil) k6.2).1
          rw [hc1]
          exact fin a.2 a.1 y ye hy p4 hc2
      · rw [if_neg (show ¬ wEE T n (Except.ok (σ, x.2)) = 6 from c6)]
        unfold plcR
        rw [if_neg c6]
        exact g_X5_tellSeam_74 H ⟨by omega, fun _ => fin [] σ u (Ex.refl _ _) hz (by decide) (fun k hk => absurd hk (by show ¬ k < 0; omega)), fun q => by omega⟩
    refine g_X5_tellSeam_44 H (p_X5_tellSeam_47 (d2 := d - 1) H (s_isWord h4 (by decide)) (by omega) ?_)
    rintro _ u ⟨q, rfl⟩; cases q
    by_cases c5 : wE T n τ = 5
    · rw [if_pos (show wEE T n (Except.ok (τ, x.2)) = 5 from c5)]
      unfold shS shV
      rw [if_pos c5, if_pos c5]
      refine g_X5_tellSeam_50 H ⟨by omega, by rw [if_neg (by decide)]; omega, fun q => absurd (by rw [if_neg (by decide)]) q, fun _ => ?_⟩
      rw [if_neg (show ¬ (1 : Int) = 0 by decide)]
      refine p_X5_tellSeam_65 (d2 := d - 1) H (s_advance h4 (by omega)) (by omega) ?_
      rintro y ⟨-, ye, hy⟩
      exact at68 (nx T n τ) 1 y ye hy
    · rw [if_neg (show ¬ wEE T n (Except.ok (τ, x.2)) = 5 from c5)]
      unfold shS shV
      rw [if_neg c5, if_neg c5]
      refine g_X5_tellSeam_50 H ⟨by omega, by rw [if_pos rfl]; omega, fun _ => ?_, fun q => absurd (by rw [if_pos rfl]; decide) q⟩
      rw [if_pos rfl]
      exact at68 τ 0 u (Ex.refl _ _) h4
  · unfold seamB
    rw [if_pos (by omega)]
    refine p_X5_tellSeam_15 (d2 := d - 1) (s_fail (k := 5) h (by decide) (fun y e => by omega)) (by omega) ?_
    rintro z ⟨-, ze, hz⟩
    rw [e3] at hz
    exact g_X5_tellSeam_18 ⟨rfl, ze.mono (fun a j q => rm_rd q), hz, fun a q => by cases q⟩
theorem s_tellRule {x : Stt × List Int} (H : RoomAt r) (h : XR T n true (r + 8) m (.ok x)) (ht : XRt m r ρ) (hp : PI n (x, ρ)) (hk : kd T n x.1 ≠ 258) (hd : 110 ≤ d) : P_X5_tellRule sc d [aR 32, aR r] m (PX T n r m (ruleB T n x ρ)) := by
  have rb := room_bd H
  have b : (0 ≤ ρ 0 0 ∧ ρ 0 0 ≤ 6 ∧ 0 ≤ ρ 0 1 ∧ ρ 0 1 ≤ 10 ∧ 0 ≤ ρ 0 2 ∧ ρ 0 2 ≤ 4 ∧ 0 ≤ ρ 0 3 ∧ ρ 0 3 ≤ 60) := hp.1.1
  have n1 := h.1.1
  have c11 : m r 11 = ρ 0 2 := ht.1.1.2.2.1
  have e3 := h.s3
  have xn : x.1.1 ≤ n := h.2.2.2.2.2.1
  have hb : RmC ρ := hp.1
  have hnm : NmI ρ := hp.2.2.1
  have hx : x.2.length ≤ x.1.1 := hp.2.2.2.2.1
  refine ep_X5_tellRule (g_X5_tellRule_0 H ⟨by omega, fun c => ?_, fun c => ?_⟩)
  · unfold ruleB
    rw [if_neg (by omega)]
    refine p_X5_tellRule_19 (d2 := d - 1) H (s_advance h (by omega)) (by omega) ?_
    rintro z1 ⟨-, e1, h1⟩
    have h1 : XR T n true (r + 8) z1 (.ok (nx T n x.1, x.2)) := h1
    have t1 := ht.rd H e1
    have c111 : z1 r 11 = ρ 0 2 := t1.1.1.2.2.1
    refine g_X5_tellRule_22 H (p_X5_tellRule_31 (d2 := d - 1) H H (s_name H h1 t1 hb hnm (Or.inr ⟨by omega, by omega⟩) (by omega)) (by omega) ?_)
    rintro z2 ⟨-, e2, h2, l2⟩
    rw [c111] at e2 l2
    have t2 := t1.nm H hb e2 (Or.inr rfl)
    have E2 : Ex (C_rm r) m z2 := (e1.mono (fun a j q => rm_rd q)).trans (e2.mono (fun a j q => by unfold C_nm C_rd at q; unfold C_rm; omega))
    refine g_X5_tellRule_34 H (p_X5_tellRule_37 (d2 := d - 1) H (s_expect h2 (by decide) (by omega)) (by omega) ?_)
    rintro z3 ⟨-, e3', h3⟩
    have t3 := t2.rd H e3'
    have E3 := E2.trans (e3'.mono (fun a j q => rm_rd q))
    have sl : Slk n ((nmeR T n ρ (nx T n x.1, x.2)).bind (exW T n 8)) := by
      intro y ey
      obtain ⟨a, a1, a2⟩ := bind_ok ey
      obtain ⟨m1, -, -, -, rfl⟩ := nmeR_ok a1
      obtain ⟨w1, rfl⟩ := exW_ok a2
      have k0 := nx_of hk
      have k1 := nx_of (T := T) (n := n) (σ := nx T n x.1) (by rw [m1]; decide)
      have k2 : (nx T n (nx T n x.1)).1 < (nx T n (nx T n (nx T n x.1))).1 ∧ (nx T n (nx T n (nx T n x.1))).1 ≤ n := wE_n2 w1 (by decide)
      show x.2.length + 1 ≤ (nx T n (nx T n (nx T n x.1))).1 ∧ (nx T n (nx T n (nx T n x.1))).1 ≤ n
      omega
    refine g_X5_tellRule_40 H (p_X5_tellRule_42 (d2 := d - 1) H ((okFacts 6 (by omega)).2 (d - 1) z3 _ (by omega) h3 sl) (by omega) ?_)
    rintro z4 ⟨-, e4', h4⟩
    have t4 := t3.rd H e4'
    have E4 := E3.trans (e4'.mono (fun a j q => rm_rd q))
    have c114 : z4 r 11 = ρ 0 2 := t4.1.1.2.2.1
    refine g_X5_tellRule_45 H (p_X5_tellRule_46 (d2 := d - 1) H (s_addRule H (by omega)) (by omega) ?_)
    rintro w ⟨-, we, wv⟩
    have wv := wv (by omega)
    have EW : Ex (C_rm r) m w := E4.trans (we.mono (fun a j q => by unfold C_rm; omega))
    have hw := h4.exr we (fun a j q => by omega)
    refine g_X5_tellRule_49 ⟨rfl, EW, ?_, ?_⟩
    · cases g1 : nmeR T n ρ (nx T n x.1, x.2) with
      | error e => rw [g1] at hw; exact hw
      | ok a =>
      rw [g1] at hw
      show XR T n true (r + 8) w (fsR ((exW T n 8 a).bind _))
      have hw : XR T n true (r + 8) w (apR (rdTest T n true 6) (exW T n 8 a)) := hw
      cases g2 : exW T n 8 a with
      | error e => rw [g2] at hw; exact hw
      | ok b2 =>
      rw [g2] at hw
      show XR T n true (r + 8) w (fsR ((rdTest T n true 6 b2.1).bind _))
      have hw : XR T n true (r + 8) w ((rdTest T n true 6 b2.1).bind fun y => .ok (y.1, b2.2 ++ y.2)) := hw
      cases g3 : rdTest T n true 6 b2.1 with
      | error e => rw [g3] at hw; exact hw
      | ok c2 => rw [g3] at hw; exact hw
    · intro a ha
      obtain ⟨a1, q1, ha⟩ := bind_ok ha
      obtain ⟨a2, q2, ha⟩ := bind_ok ha
      obtain ⟨a3, q3, ha⟩ := bind_ok ha
      cases ha
      have l2 := l2 a1 q1
      rw [q1] at h4
      have h4 : XR T n true (r + 8) z4 (apR (rdTest T n true 6) (exW T n 8 a1)) := h4
      rw [q2] at h4
      have h4 : XR T n true (r + 8) z4 ((rdTest T n true 6 a2.1).bind fun y => .ok (y.1, a2.2 ++ y.2)) := h4
      rw [q3] at h4
      have h4 : XR T n true (r + 8) z4 (.ok (a3.1, a2.2 ++ a3.2)) := h4
      have hF : z4 (r + 8) 2 = ((a2.2 ++ a3.2).length : Nat) := h4.2.2.2.2.2.2.2.1
      rw [c114] at we wv
      rw [hF] at wv
      show XRt w r (addR ρ (ltr T n (nx T n x.1)) (a2.2 ++ a3.2))
      obtain ⟨⟨⟨x1, x2, x3, x4⟩, xL, xS, xA, xM⟩, y1, y2⟩ := t4
      have ee : ∀ a j, ¬ ((a = r ∧ j = 11) ∨ (a = r + 11 ∧ j = ρ 0 2 + 1)) → w a j = z4 a j := we
      have l4 : ∀ j : Nat, j < 6 → z4 (r + 12) ((10 + ρ 0 2) * 6 + j) = ltr T n (nx T n x.1) j := fun j hj => by
        rw [e4' _ _ (fun q => by unfold C_rd at q; omega), e3' _ _ (fun q => by unfold C_rd at q; omega)]; exact l2 j hj
      refine ⟨⟨⟨?_, ?_, ?_, ?_⟩, ?_, ?_, ?_, ?_⟩, fun k hk => ?_, fun j hj => ?_⟩
      · rw [ee _ _ (by omega), aR_z (by decide)]; exact x1
      · rw [ee _ _ (by omega), aR_z (by decide)]; exact x2
      · rw [wv.1, aR_0]
      · rw [ee _ _ (by omega), aR_z (by decide)]; exact x4
      · rw [aR_z (by decide), aR_a (a := 1) (by decide), aR_a (a := 2) (by decide)]
        intro i hi
        rw [ee _ _ (by omega), ee _ _ (by omega)]; exact xL i hi
      · rw [aR_z (by decide), aR_a (a := 3) (by decide), aR_a (a := 4) (by decide), aR_a (a := 5) (by decide), aR_a (a := 6) (by decide)]
        intro s hs
        rw [ee _ _ (by omega), ee _ _ (by omega), ee _ _ (by omega)]
        have k := xS s hs
        exact ⟨k.1, k.2.1, k.2.2.1, fun i hi => by rw [ee _ _ (by omega)]; exact k.2.2.2 i hi⟩
      · rw [aR_z (by decide), aR_a (a := 3) (by decide)]
        intro s hs
        rw [ee _ _ (by omega)]; exact xA s hs
      · rw [aR_a (by decide)]
        intro i hi
        rw [ee _ _ (by omega)]; exact xM i hi
      · rw [aR_0] at hk
        by_cases g : (k : Int) = ρ 0 2 + 1
        · rw [g, wv.2, aR_10]
        · rw [ee _ _ (by omega), aR_n ⟨by omega, by omega, by omega, by omega⟩]; exact y1 k (by omega)
      · rw [aR_0, aR_z (by decide)] at hj
        rw [ee _ _ (by omega)]
        by_cases g : (10 + ρ 0 2) * 6 ≤ j ∧ j < (10 + ρ 0 2) * 6 + 6
        · have k1 := aR_8 (ρ := ρ) (f := ltr T n (nx T n x.1)) (q := a2.2 ++ a3.2) (j := (j - (10 + ρ 0 2) * 6).toNat) (by omega)
          have k2 := l4 (j - (10 + ρ 0 2) * 6).toNat (by omega)
          rw [show (10 + ρ 0 2) * 6 + (((j - (10 + ρ 0 2) * 6).toNat : Nat) : Int) = j by omega] at k1 k2
          rw [k1, k2]
        · rw [aR_n ⟨by omega, by omega, by omega, by omega⟩]
          exact y2 j (by omega)
  · unfold ruleB
    rw [if_pos (by omega)]
    refine p_X5_tellRule_14 (d2 := d - 1) (s_fail (k := 5) h (by decide) (fun y e => by omega)) (by omega) ?_
    rintro z ⟨-, ze, hz⟩
    rw [e3] at hz
    exact g_X5_tellRule_17 ⟨rfl, ze.mono (fun a j q => rm_rd q), hz, fun a q => by cases q⟩
end RG
