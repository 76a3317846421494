/-! rooms as texts: lengths of the class, and its whole text -/
section RH
variable {sc : List Int} {d : Nat} {m ρ : Mem} {Q : Option AV → Mem → Prop} {T : Int → Int} {n : Nat} {rl : Bool} {F r : Int}
theorem lenE127 {e : Int × Int} {y : Mem} (ye : Ex (C_rm r) m y) (hy : XR T n true (r + 8) y (.error e)) (hd : 8 ≤ d) (a b : Int) : S_X5_tellLengths sc d 127 [aR 32, aU, aI a, aI b, aU, aU, aU, aU] [] y (PX T n r m (.error e)) := by
  refine Sim.nls (l1 := [aR 32, aU]) (l2 := [aI b, aU, aU, aU, aU]) ?_
  show S_X5_tellLengths sc d 127 [aR 32, aU, aI (nrm a), aI b, aU, aU, aU, aU] [] y _
  refine g_X5_tellLengths_127 ⟨nrm_r a, fun _ => g_X5_tellLengths_139 ⟨rfl, ye, hy, fun a q => by cases q⟩, fun _ => ?_⟩
  refine p_X5_tellLengths_136 (d2 := d - 1) (s_fail (k := 2) hy (by decide) (fun x q => by cases q)) (by omega) ?_
  rintro z ⟨-, ze, hz⟩
  exact g_X5_tellLengths_139 ⟨rfl, ye.trans (ze.mono (fun a j q => rm_rd q)), hz, fun a q => by cases q⟩
theorem lenE112 {e : Int × Int} {y : Mem} (ye : Ex (C_rm r) m y) (hy : XR T n true (r + 8) y (.error e)) (hd : 8 ≤ d) (a b : Int) : S_X5_tellLengths sc d 112 [aR 32, aU, aI a, aI b, aU, aU, aU, aU] [aI 1, aR 32] y (PX T n r m (.error e)) := by
  refine p_X5_tellLengths_112 (d2 := d - 1) (s_isWord hy (by decide)) (by omega) ?_
  rintro _ z ⟨q, rfl⟩; cases q
  rw [if_neg (show ¬ wEE T n (Except.error e) = 1 by show ¬ (-1 : Int) = 1; decide)]
  exact g_X5_tellLengths_115 ⟨by omega, fun _ => lenE127 ye hy hd _ _, fun q => by omega⟩
theorem lenE89 {e : Int × Int} {y : Mem} (H : RoomAt r) (ye : Ex (C_rm r) m y) (hy : XR T n true (r + 8) y (.error e)) (h2 : 0 ≤ y r 2 ∧ y r 2 ≤ 6) (hd : 8 ≤ d) (a b c w v : Int) (hc : 0 ≤ c ∧ c ≤ 5) : S_X5_tellLengths sc d 89 [aR 32, aR r, aI a, aI b, aI c, aU, aI w, aU] [aI v] y (PX T n r m (.error e)) := by
  have rb := room_bd H
  refine g_X5_tellLengths_89 H (p_X5_tellLengths_101 (d2 := d - 1) H H (s_addLength H h2) (by omega) ?_)
  rintro z ⟨-, ze, -⟩
  have hz := hy.exr ze (fun a j q => by omega)
  have Ez : Ex (C_rm r) m z := ye.trans (ze.mono (fun a j q => by unfold C_rm; omega))
  refine g_X5_tellLengths_104 H (g_X5_tellLengths_14 H ⟨by omega, fun _ => lenE112 Ez hz hd _ _, fun _ => ⟨fun q => by omega, fun _ => ?_⟩⟩)
  refine p_X5_tellLengths_28 (d2 := d - 1) H (s_isWord hz (by decide)) (by omega) ?_
  rintro _ u ⟨q, rfl⟩; cases q
  rw [if_neg (show ¬ wEE T n (Except.error e) = 1 by show ¬ (-1 : Int) = 1; decide)]
  exact g_X5_tellLengths_31 H ⟨by omega, fun _ => lenE112 Ez hz hd _ _, fun q => by omega⟩
theorem lenE75 {e : Int × Int} {y : Mem} (H : RoomAt r) (ye : Ex (C_rm r) m y) (hy : XR T n true (r + 8) y (.error e)) (h2 : 0 ≤ y r 2 ∧ y r 2 ≤ 6) (hd : 8 ≤ d) (a c w : Int) (ha : 0 ≤ a ∧ a ≤ 100) (hc : 0 ≤ c ∧ c ≤ 5) : S_X5_tellLengths sc d 75 [aR 32, aR r, aI a, aU, aI c, aU, aI w, aU] [] y (PX T n r m (.error e)) := by
  have rb := room_bd H
  refine g_X5_tellLengths_75 H (p_X5_tellLengths_86 (d2 := d - 1) H (s_number hy (by decide) (by omega) (by omega)) (by omega) ?_)
  rintro v z ⟨_, q, ⟨ze, hz⟩, -⟩; cases q
  exact lenE89 H (ye.trans (ze.mono (fun a j q => rm_rd q))) hz (by rw [ze _ _ (fun q => by unfold C_rd at q; omega)]; exact h2) hd _ _ _ _ _ hc
theorem lenE70 {e : Int × Int} {y : Mem} (H : RoomAt r) (ye : Ex (C_rm r) m y) (hy : XR T n true (r + 8) y (.error e)) (h2 : 0 ≤ y r 2 ∧ y r 2 ≤ 6) (hd : 8 ≤ d) (a c w : Int) (ha : 0 ≤ a ∧ a ≤ 100) (hc : 0 ≤ c ∧ c ≤ 5) : S_X5_tellLengths sc d 70 [aR 32, aR r, aI a, aU, aI c, aU, aI w, aU] [] y (PX T n r m (.error e)) := by
  have rb := room_bd H
  refine g_X5_tellLengths_70 H (p_X5_tellLengths_72 (d2 := d - 1) H (s_expect hy (by decide) (by omega)) (by omega) ?_)
  rintro z ⟨-, ze, hz⟩
  exact lenE75 H (ye.trans (ze.mono (fun a j q => rm_rd q))) hz (by rw [ze _ _ (fun q => by unfold C_rd at q; omega)]; exact h2) hd _ _ _ ha hc
theorem lenE52 {e : Int × Int} {y : Mem} (H : RoomAt r) (ye : Ex (C_rm r) m y) (hy : XR T n true (r + 8) y (.error e)) (ty : XRt y r ρ) (hb : RmC ρ) (hd : 8 ≤ d) (a c p v : Int) (ha : 0 ≤ a ∧ a ≤ 100) (hc : 0 ≤ c ∧ c ≤ 5) : S_X5_tellLengths sc d 52 [aR 32, aR r, aI a, aU, aI c, aI p, aU, aU] [aI v] y (PX T n r m (.error e)) := by
  have rb := room_bd H
  have b := hb.1
  have c2 : y r 2 = ρ 0 0 := ty.1.1.1
  refine Sim.nst ?_
  refine g_X5_tellLengths_52 H (p_X5_tellLengths_57 (d2 := d - 1) H H (s_hasLength H ty hb (nrm_r v)) (by omega) ?_)
  rintro _ z ⟨q, rfl⟩; cases q
  refine g_X5_tellLengths_60 H ⟨by split <;> omega, fun _ => lenE70 H ye hy (by omega) hd _ _ _ ha hc, fun _ => ?_⟩
  refine p_X5_tellLengths_67 (d2 := d - 1) H (s_fail (k := 2) hy (by decide) (fun x q => by cases q)) (by omega) ?_
  rintro u ⟨-, ue, hu⟩
  exact lenE70 H (ye.trans (ue.mono (fun a j q => rm_rd q))) hu (by rw [ue _ _ (fun q => by unfold C_rd at q; omega)]; omega) hd _ _ _ ha hc
theorem lenE39 {e : Int × Int} {y : Mem} (H : RoomAt r) (ye : Ex (C_rm r) m y) (hy : XR T n true (r + 8) y (.error e)) (ty : XRt y r ρ) (hb : RmC ρ) (hd : 8 ≤ d) (a c : Int) (ha : 0 ≤ a ∧ a ≤ 100) (hc : 0 ≤ c ∧ c ≤ 5) : S_X5_tellLengths sc d 39 [aR 32, aR r, aI a, aU, aI c, aU, aU, aU] [] y (PX T n r m (.error e)) := by
  have rb := room_bd H
  refine g_X5_tellLengths_39 H (p_X5_tellLengths_49 (d2 := d - 1) H (s_number hy (by decide) (by decide) (by omega)) (by omega) ?_)
  rintro v z ⟨_, q, ⟨ze, hz⟩, -⟩; cases q
  exact lenE52 H (ye.trans (ze.mono (fun a j q => rm_rd q))) hz (ty.rd H ze) hb hd _ _ _ _ ha hc
theorem xrt_len {y c : Int} {z w : Mem} (H : RoomAt r) (h : XRt z r ρ) (h6 : 0 ≤ ρ 0 0 ∧ ρ 0 0 < 6) (e : Ex (fun a j => (a = r ∧ j = 2) ∨ ((a = r + 1 ∨ a = r + 2) ∧ j = z r 2)) z w) (e2 : w (r + 1) (z r 2) = y ∧ w (r + 2) (z r 2) = c ∧ w r 2 = z r 2 + 1) : XRt w r (addL ρ y c) := by
  have rb := room_bd H
  obtain ⟨⟨⟨x1, x2, x3, x4⟩, xL, xS, xA, xM⟩, y1, y2⟩ := h
  rw [x1] at e e2
  obtain ⟨w1, w2, w3⟩ := e2
  have ee : ∀ a j, ¬ ((a = r ∧ j = 2) ∨ ((a = r + 1 ∨ a = r + 2) ∧ j = ρ 0 0)) → w a j = z a j := e
  have n0 : ∀ j, j ≠ 0 → addL ρ y c 0 j = ρ 0 j := fun j hj => addL_n ⟨by omega, by omega, by omega⟩
  have na : ∀ a, a ≠ 0 → a ≠ 1 → a ≠ 2 → addL ρ y c a = ρ a := fun a q1 q2 q3 => funext fun j => addL_n ⟨by omega, by omega, by omega⟩
  refine ⟨⟨⟨by rw [w3, addL_0], by rw [ee _ _ (by omega), n0 1 (by decide)]; exact x2, by rw [ee _ _ (by omega), n0 2 (by decide)]; exact x3, by rw [ee _ _ (by omega), n0 3 (by decide)]; exact x4⟩, fun i hi => ?_, ?_, ?_, ?_⟩, ?_, ?_⟩
  · rw [addL_0] at hi
    by_cases g : (i : Int) = ρ 0 0
    · rw [g, w1, w2, addL_1, addL_2]; exact ⟨rfl, rfl⟩
    · rw [ee _ _ (by omega), ee _ _ (by omega), addL_n ⟨by omega, by omega, by omega⟩, addL_n ⟨by omega, by omega, by omega⟩]
      exact xL i (by omega)
  · rw [n0 1 (by decide), na 3 (by decide) (by decide) (by decide), na 4 (by decide) (by decide) (by decide), na 5 (by decide) (by decide) (by decide), na 6 (by decide) (by decide) (by decide)]
    intro s hs
    rw [ee _ _ (by omega), ee _ _ (by omega), ee _ _ (by omega)]
    have k := xS s hs
    exact ⟨k.1, k.2.1, k.2.2.1, fun i hi => by rw [ee _ _ (by omega)]; exact k.2.2.2 i hi⟩
  · rw [n0 1 (by decide), na 3 (by decide) (by decide) (by decide)]
    intro s hs
    rw [ee _ _ (by omega)]; exact xA s hs
  · rw [na 7 (by decide) (by decide) (by decide)]
    intro i hi
    rw [ee _ _ (by omega)]; exact xM i hi
  · rw [n0 2 (by decide), na 10 (by decide) (by decide) (by decide)]
    intro k hk
    rw [ee _ _ (by omega)]; exact y1 k hk
  · rw [n0 1 (by decide), n0 2 (by decide), na 8 (by decide) (by decide) (by decide)]
    intro j hj
    rw [ee _ _ (by omega)]; exact y2 j hj
theorem s_tellLengths {x : Stt × List Int} (H : RoomAt r) (h : XR T n true (r + 8) m (.ok x)) (ht : XRt m r ρ) (hp : PL ρ) (h0 : ρ 0 0 = 0) (hd : 10 ≤ d) : P_X5_tellLengths sc d [aR 32, aR r] m (PX T n r m (bobB T n x ρ)) := by
  have rb := room_bd H
  -- behind the last length
  have tail : ∀ (x : Stt × List Int) (ρ : Mem) (p : Int) (y : Mem), PL ρ → 0 ≤ p ∧ p ≤ n → Ex (C_rm r) m y → XR T n true (r + 8) y (.ok x) → XRt y r ρ → S_X5_tellLengths sc d 112 [aR 32, aU, aI (sumF (ρ 2) (ρ 0 0).toNat), aI p, aU, aU, aU, aU] [aI 1, aR 32] y (PX T n r m (bobF T n (x, ρ, p))) := by
    intro x ρ p y hp hpp ye hy ty
    have n1 := hy.1.1
    have e3 := hy.s3
    have xn : x.1.1 ≤ n := hy.2.2.2.2.2.1
    have sb := hp.sb
    refine p_X5_tellLengths_112 (d2 := d - 1) (s_isWord hy (by decide)) (by omega) ?_
    rintro _ z ⟨q, rfl⟩; cases q
    unfold bobF
    by_cases c : wE T n x.1 = 1
    · rw [if_pos (show wEE T n (Except.ok x) = 1 from c), if_pos c]
      refine g_X5_tellLengths_115 ⟨by omega, fun q => by omega, fun _ => ?_⟩
      refine p_X5_tellLengths_124 (d2 := d - 1) (s_fail (k := 5) hy (by decide) (fun y e => by omega)) (by omega) ?_
      rintro u ⟨-, ue, hu⟩
      rw [e3] at hu
      exact lenE127 (ye.trans (ue.mono (fun a j q => rm_rd q))) hu (by omega) _ _
    · rw [if_neg (show ¬ wEE T n (Except.ok x) = 1 from c), if_neg c]
      refine g_X5_tellLengths_115 ⟨by omega, fun _ => ?_, fun q => by omega⟩
      refine g_X5_tellLengths_127 ⟨by omega, fun g => ?_, fun g => ?_⟩
      · rw [if_neg (show ¬ sumF (ρ 2) (ρ 0 0).toNat < 100 by omega)]
        exact g_X5_tellLengths_139 ⟨rfl, ye, hy, fun a q => by cases q; exact ty⟩
      · rw [if_pos (show sumF (ρ 2) (ρ 0 0).toNat < 100 by omega)]
        refine p_X5_tellLengths_136 (d2 := d - 1) (s_fail (k := 2) hy (by decide) (fun y e => by omega)) (by omega) ?_
        rintro u ⟨-, ue, hu⟩
        exact g_X5_tellLengths_139 ⟨rfl, ye.trans (ue.mono (fun a j q => rm_rd q)), hu, fun a q => by cases q⟩
  have key : ∀ (f : Nat) (x : Stt × List Int) (ρ : Mem) (p : Int) (y : Mem), PL ρ → ρ 0 0 = 6 - (f : Int) → f ≤ 6 → 0 ≤ p ∧ p ≤ n → Ex (C_rm r) m y → XR T n true (r + 8) y (.ok x) → XRt y r ρ → S_X5_tellLengths sc d 14 [aR 32, aR r, aI (sumF (ρ 2) (ρ 0 0).toNat), aI p, aI (ρ 0 0), aU, aU, aU] [] y (PX T n r m ((if ρ 0 0 = 0 ∨ wE T n x.1 = 1 then lensR T n f x ρ p else .ok (x, ρ, p)).bind (bobF T n))) := by
    intro f
    induction f with
    | zero =>
      intro x ρ p y hp hf hf6 hpp ye hy ty
      have e : (if ρ 0 0 = 0 ∨ wE T n x.1 = 1 then lensR T n 0 x ρ p else .ok (x, ρ, p)) = .ok (x, ρ, p) := by split <;> rfl
      rw [e]
      exact g_X5_tellLengths_14 H ⟨by omega, fun _ => tail x ρ p y hp hpp ye hy ty, fun q => by omega⟩
    | succ f ih =>
      intro x ρ p y hp hf hf6 hpp ye hy ty
      have sb := hp.sb
      have hb : RmC ρ := hp.2.2.2.2
      have go : (ρ 0 0 = 0 ∨ wE T n x.1 = 1) → S_X5_tellLengths sc d 36 [aR 32, aR r, aI (sumF (ρ 2) (ρ 0 0).toNat), aU, aI (ρ 0 0), aU, aU, aU] [aI 1, aR 32] y (PX T n r m ((if ρ 0 0 = 0 ∨ wE T n x.1 = 1 then lensR T n (f + 1) x ρ p else .ok (x, ρ, p)).bind (bobF T n))) := by
        intro c
        rw [if_pos c, lensR]
        unfold lenR
        refine p_X5_tellLengths_36 (d2 := d - 1) H (s_expect hy (by decide) (by omega)) (by omega) ?_
        rintro z1 ⟨-, e1, h1⟩
        have t1 := ty.rd H e1
        have E1 := ye.trans (e1.mono (fun a j q => rm_rd q))
        have h1 : XR T n true (r + 8) z1 (exW T n 1 x) := h1
        cases g1 : exW T n 1 x with
        | error e => rw [g1] at h1; exact lenE39 H E1 h1 t1 hb (by omega) _ _ sb (by omega)
        | ok a =>
        rw [g1] at h1
        refine g_X5_tellLengths_39 H ?_
        have s3 : z1 32 3 = (a.1.1 : Nat) := h1.s3
        have an : a.1.1 ≤ n := h1.2.2.2.2.2.1
        have n1 := h1.1.1
        refine p_X5_tellLengths_49 (d2 := d - 1) H (s_number h1 (by decide) (by decide) (by omega)) (by omega) ?_
        rintro v z2 ⟨_, q, ⟨e2, h2⟩, hv⟩; cases q
        have t2 := t1.rd H e2
        have E2 := E1.trans (e2.mono (fun a j q => rm_rd q))
        have h2 : XR T n true (r + 8) z2 ((numR T n 1 99 a.1).bind fun _ => .ok (nx T n a.1, a.2)) := h2
        show S_X5_tellLengths sc d 52 _ _ z2 (PX T n r m ((((numR T n 1 99 a.1).bind _).bind _).bind _))
        cases g2 : numR T n 1 99 a.1 with
        | error e => rw [g2] at h2; exact lenE52 H E2 h2 t2 hb (by omega) _ _ _ _ sb (by omega)
        | ok w =>
        rw [g2] at h2
        have hvw := hv a w rfl g2
        subst hvw
        have v2 := numR_ok g2
        have h2 : XR T n true (r + 8) z2 (.ok (nx T n a.1, a.2)) := h2
        refine g_X5_tellLengths_52 H (p_X5_tellLengths_57 (d2 := d - 1) H H (s_hasLength H t2 hb (by unfold R32; omega)) (by omega) ?_)
        rintro _ z ⟨q, rfl⟩; cases q
        show S_X5_tellLengths sc d 60 _ _ z (PX T n r m (((if newL ρ v then _ else Except.error _).bind _).bind _))
        by_cases cn : newL ρ v
        · rw [if_pos cn, if_pos cn]
          refine g_X5_tellLengths_60 H ⟨by omega, fun _ => ?_, fun q => by omega⟩
          refine g_X5_tellLengths_70 H (p_X5_tellLengths_72 (d2 := d - 1) H (s_expect h2 (by decide) (by omega)) (by omega) ?_)
          rintro z3 ⟨-, e3, h3⟩
          have t3 := t2.rd H e3
          have E3 := E2.trans (e3.mono (fun a j q => rm_rd q))
          have c3 : z3 r 2 = ρ 0 0 := t3.1.1.1
          have h3 : XR T n true (r + 8) z3 (exW T n 2 (nx T n a.1, a.2)) := h3
          cases g3 : exW T n 2 (nx T n a.1, a.2) with
          | error e => rw [g3] at h3; exact lenE75 H E3 h3 (by omega) (by omega) _ _ _ sb (by omega)
          | ok b =>
          rw [g3] at h3
          have bs : z3 32 3 = (b.1.1 : Nat) := h3.s3
          have bn : b.1.1 ≤ n := h3.2.2.2.2.2.1
          refine g_X5_tellLengths_75 H (p_X5_tellLengths_86 (d2 := d - 1) H (s_number h3 (by decide) (by omega) (by omega)) (by omega) ?_)
          rintro u z4 ⟨_, q, ⟨e4, h4⟩, hu⟩; cases q
          have t4 := t3.rd H e4
          have E4 := E3.trans (e4.mono (fun a j q => rm_rd q))
          have c4 : z4 r 2 = ρ 0 0 := t4.1.1.1
          have h4 : XR T n true (r + 8) z4 ((numR T n 1 (100 - sumF (ρ 2) (ρ 0 0).toNat) b.1).bind fun _ => .ok (nx T n b.1, b.2)) := h4
          show S_X5_tellLengths sc d 89 _ _ z4 (PX T n r m ((((numR T n 1 (100 - sumF (ρ 2) (ρ 0 0).toNat) b.1).bind _).bind _).bind _))
          cases g4 : numR T n 1 (100 - sumF (ρ 2) (ρ 0 0).toNat) b.1 with
          | error e => rw [g4] at h4; exact lenE89 H E4 h4 (by omega) (by omega) _ _ _ _ _ (by omega)
          | ok w =>
          rw [g4] at h4
          have huw := hu b w rfl g4
          subst huw
          have u2 := numR_ok g4
          have h4 : XR T n true (r + 8) z4 (.ok (nx T n b.1, b.2)) := h4
          refine g_X5_tellLengths_89 H (p_X5_tellLengths_101 (d2 := d - 1) H H (s_addLength H (by omega)) (by omega) ?_)
          rintro z5 ⟨-, e5, w5⟩
          have w5 := w5 (by omega)
          have t5 := xrt_len H t4 (by omega) e5 w5
          have h5 := h4.exr e5 (fun a j q => by omega)
          have E5 : Ex (C_rm r) m z5 := E4.trans (e5.mono (fun a j q => by unfold C_rm; omega))
          have P5 := hp.add (y := v) (c := u) (by omega) ⟨v2.2.1, v2.2.2.1⟩ ⟨u2.2.1, u2.2.2.1⟩
          have a0 : addL ρ v u 0 0 = ρ 0 0 + 1 := addL_0
          have as := addL_sum (ρ := ρ) (y := v) (c := u) (by omega)
          have IH := ih (nx T n b.1, b.2) (addL ρ v u) (b.1.1 : Nat) z5 P5 (by rw [a0]; omega) (by omega) (by omega) E5 h5 t5
          rw [as, a0] at IH
          rw [bs]
          refine g_X5_tellLengths_104 H ?_
          rw [ite_f (by omega)] at IH
          exact IH
        · rw [if_neg cn, if_neg cn]
          refine g_X5_tellLengths_60 H ⟨by omega, fun q => by omega, fun _ => ?_⟩
          rw [s3]
          refine p_X5_tellLengths_67 (d2 := d - 1) H (s_fail (k := 2) h2 (by decide) (fun x q => by omega)) (by omega) ?_
          rintro u ⟨-, ue, hu⟩
          have tu := t2.rd H ue
          have cu : u r 2 = ρ 0 0 := tu.1.1.1
          exact lenE70 H (E2.trans (ue.mono (fun a j q => rm_rd q))) hu (by omega) (by omega) _ _ _ sb (by omega)
      refine g_X5_tellLengths_14 H ⟨by omega, fun q => by omega, fun _ => ⟨fun q => go (Or.inl q), fun q => ?_⟩⟩
      refine p_X5_tellLengths_28 (d2 := d - 1) H (s_isWord hy (by decide)) (by omega) ?_
      rintro _ z ⟨q, rfl⟩; cases q
      by_cases c : wE T n x.1 = 1
      · rw [if_pos (show wEE T n (Except.ok x) = 1 from c)]
        exact g_X5_tellLengths_31 H ⟨by omega, fun q => by omega, fun _ => go (Or.inr c)⟩
      · rw [if_neg (show ¬ wEE T n (Except.ok x) = 1 from c), if_neg (by omega)]
        exact g_X5_tellLengths_31 H ⟨by omega, fun _ => tail x ρ p z hp hpp ye hy ty, fun q => by omega⟩
  refine ep_X5_tellLengths (g_X5_tellLengths_0 H (p_X5_tellLengths_1 (d2 := d - 1) H (s_advance h (by omega)) (by omega) ?_))
  rintro z ⟨-, ze, hz⟩
  have hz : XR T n true (r + 8) z (.ok (nx T n x.1, x.2)) := hz
  have z3 : z 32 3 = ((nx T n x.1).1 : Nat) := hz.s3
  have zn : (nx T n x.1).1 ≤ n := hz.2.2.2.2.2.1
  refine g_X5_tellLengths_4 H ?_
  have := key 6 (nx T n x.1, x.2) ρ ((nx T n x.1).1 : Nat) z hp (by omega) (by omega) (by omega) (ze.mono (fun a j q => rm_rd q)) hz (ht.rd H ze)
  rw [if_pos (Or.inl h0), h0, z3.symm] at this
  have s0 : sumF (ρ 2) (0 : Int).toNat = 0 := rfl
  rw [s0] at this
  have pp : ∀ p1 p2 : Int, lensR T n 6 (nx T n x.1, x.2) ρ p1 = lensR T n 6 (nx T n x.1, x.2) ρ p2 := fun p1 p2 => rfl
  rw [pp _ 0] at this
  exact this
theorem end_st {a : Rx} {b : Stt × List Int} : endS T n a = .ok (b, wr a.2 0 3 (a.2 0 3 + 1)) ↔ exS T n 59 a.1 = .ok b := by
  unfold endS
  cases g : exS T n 59 a.1 with
  | ok c => exact ⟨fun q => by cases q; rfl, fun q => by cases q; rfl⟩
  | error e => exact ⟨fun q => (by cases q), fun q => (by cases q)⟩
theorem s_readRoom (H : RoomAt r) (h7 : m (r + 7) 0 = 0) (h11 : m (r + 11) 0 = 0) (hn : n ≤ 1600) (ht : ∀ i : Nat, i < n → m 1 i = T i ∧ 0 ≤ T i ∧ T i ≤ 255) (hd : 130 ≤ d) : P_X5_readRoom sc d [aR 32, aR r, aR 1, aI n] m (PX T n r m (rdRoom T n)) := by
  have rb := room_bd H
  have tb : ∀ i : Nat, i < n → 0 ≤ T i ∧ T i ≤ 255 := fun i hi => (ht i hi).2
  refine ep_X5_readRoom (g_X5_readRoom_0 H ic_1 (p_X5_readRoom_1 (d2 := d - 1) H ic_1 H (s_clear H h7 h11 (by omega)) (by omega) ?_))
  rintro z1 ⟨-, e1, t1⟩
  refine g_X5_readRoom_4 H ic_1 (p_X5_readRoom_11 (d2 := d - 1) H (rm_form H) ic_1 (s_begin (rl := true) (rm_form H) ⟨fun _ => by omega, fun _ => rfl⟩ hn (fun i hi => by rw [e1 _ _ (fun q => by unfold C_rm at q; omega)]; exact ht i hi) (by omega)) (by omega) ?_)
  rintro z2 ⟨-, e2, h2⟩
  have E2 : Ex (C_rm r) m z2 := e1.trans (e2.mono (fun a j q => rm_bg q))
  have t2 : XRt z2 r ρ0 := t1.ex e2 (fun a j q => by unfold C_bg at q; omega)
  have h2 : XR T n true (r + 8) z2 (.ok (q0S T n, [])) := h2
  -- the end of a statement
  have fin : ∀ (Q : Option AV → Mem → Prop) (q : Es Rx) (l4 : Int) (y : Mem), 0 ≤ l4 ∧ l4 ≤ 60 → Ex (C_rm r) m y → XR T n true (r + 8) y (fsR q) → (∀ a, q = .ok a → XRt y r a.2) → (∀ w : Mem, Ex (C_rm r) m w → XR T n true (r + 8) w (fsR (q.bind (endS T n))) → (∀ a, q.bind (endS T n) = .ok a → XRt w r a.2) → S_X5_readRoom sc d 36 [aR 32, aR r, aU, aU, aI (l4 + 1), aU] [] w Q) → S_X5_readRoom sc d 183 [aR 32, aR r, aU, aU, aI l4, aU] [] y Q := by
    intro Q q l4 y hl ye hy ty K
    refine g_X5_readRoom_183 H (p_X5_readRoom_186 (d2 := d - 1) H (s_expectSign hy (by decide) (by omega)) (by omega) ?_)
    rintro u ⟨-, ue, hu⟩
    refine g_X5_readRoom_189 H ?_
    have we : Ex (fun a j => a = r ∧ j = 15) u (wr u r 15 (u r 15 + 1)) := (Ex.refl _ _).put ⟨rfl, rfl⟩
    have wh := hu.exr we (fun a j q => by omega)
    refine K _ ((ye.trans (ue.mono (fun a j q => rm_rd q))).trans (we.mono (fun a j q => by unfold C_rm; omega))) ?_ (fun a ha => ?_)
    · cases q with
      | error e => exact wh
      | ok a =>
        have wh : XR T n true (r + 8) (wr u r 15 (u r 15 + 1)) (exS T n 59 a.1) := wh
        show XR T n true (r + 8) _ (fsR (endS T n a))
        unfold endS
        cases g : exS T n 59 a.1 with
        | error e => rw [g] at wh; exact wh
        | ok b => rw [g] at wh; exact wh
    · obtain ⟨a1, q1, q2⟩ := bind_ok ha
      unfold endS at q2
      obtain ⟨b, q3, q4⟩ := bind_ok q2
      cases q4
      have tu := (ty a1 q1).rd H ue
      obtain ⟨⟨⟨x1, x2, x3, x4⟩, xL, xS, xA, xM⟩, y1, y2⟩ := tu
      have ee : ∀ a j, ¬ (a = r ∧ j = 15) → wr u r 15 (u r 15 + 1) a j = u a j := we
      have za : ∀ c, c ≠ 0 → wr a1.2 0 3 (a1.2 0 3 + 1) c = a1.2 c := fun c q => funext fun k => wr_ne _ _ _ _ _ _ (by omega)
      have z0 : ∀ k, k ≠ 3 → wr a1.2 0 3 (a1.2 0 3 + 1) 0 k = a1.2 0 k := fun k q => wr_ne _ _ _ _ _ _ (by omega)
      show XRt _ r (wr a1.2 0 3 (a1.2 0 3 + 1))
      refine ⟨⟨⟨by rw [ee _ _ (by omega), z0 0 (by decide)]; exact x1, by rw [ee _ _ (by omega), z0 1 (by decide)]; exact x2, by rw [ee _ _ (by omega), z0 2 (by decide)]; exact x3, by rw [wr_eq, wr_eq, x4]⟩, ?_, ?_, ?_, ?_⟩, ?_, ?_⟩
      · rw [z0 0 (by decide), za 1 (by decide), za 2 (by decide)]
        intro i hi
        rw [ee _ _ (by omega), ee _ _ (by omega)]; exact xL i hi
      · rw [z0 1 (by decide), za 3 (by decide), za 4 (by decide), za 5 (by decide), za 6 (by decide)]
        intro s hs
        rw [ee _ _ (by omega), ee _ _ (by omega), ee _ _ (by omega)]
        have k := xS s hs
        exact ⟨k.1, k.2.1, k.2.2.1, fun i hi => by rw [ee _ _ (by omega)]; exact k.2.2.2 i hi⟩
      · rw [z0 1 (by decide), za 3 (by decide)]
        intro s hs
        rw [ee _ _ (by omega)]; exact xA s hs
      · rw [za 7 (by decide)]
        intro i hi
        rw [ee _ _ (by omega)]; exact xM i hi
      · rw [z0 2 (by decide), za 10 (by decide)]
        intro k hk
        rw [ee _ _ (by omega)]; exact y1 k hk
      · rw [z0 1 (by decide), z0 2 (by decide), za 8 (by decide)]
        intro j hj
        rw [ee _ _ (by omega)]; exact y2 j hj
  -- behind a fault
  have stop : ∀ (e : Int × Int) (l4 : Int) (y : Mem), 0 ≤ l4 ∧ l4 ≤ 61 → Ex (C_rm r) m y → XR T n true (r + 8) y (.error e) → S_X5_readRoom sc d 36 [aR 32, aR r, aU, aU, aI l4, aU] [] y (PX T n r m (.error e)) := by
    intro e l4 y hl ye hy
    have f0 : y 32 7 = e.1 := hy.2.2.2.1
    have f1 : 1 ≤ e.1 ∧ e.1 ≤ 5 := hy.2.2.2.2.2.1
    have dn : PX T n r m (.error e) none y := ⟨rfl, ye, hy, fun a q => by cases q⟩
    exact g_X5_readRoom_36 H ⟨by omega, fun _ => dn, fun _ => ⟨by omega, fun _ => dn, fun q => by omega⟩⟩
  have wbd : ∀ σ : Stt, -1 ≤ wE T n σ ∧ wE T n σ ≤ 40 := by
    intro σ
    have := @wi_bd T n σ
    unfold wE
    split <;> omega
  have zw : ∀ (x : Stt × List Int) (y : Mem), XR T n true (r + 8) y (.ok x) → (if (y 32 4) ≠ 256 then (-1) else (y 32 5) : Int) = wE T n x.1 := by
    intro x y hy
    unfold wE
    have e4 : y 32 4 = kd T n x.1 := hy.kok
    rw [e4]
    by_cases c : kd T n x.1 = 256
    · rw [if_neg (fun q => q c), if_pos c]; exact hy.2.2.2.2.1.2.2.2.1 c
    · rw [if_pos c, if_neg c]
  -- all further statements
  have key : ∀ (f : Nat) (a : Rx) (y : Mem), a.2 0 3 = 61 - (f : Int) → 1 ≤ a.2 0 3 → PI n a → Ex (C_rm r) m y → XR T n true (r + 8) y (.ok a.1) → XRt y r a.2 → S_X5_readRoom sc d 36 [aR 32, aR r, aU, aU, aI (a.2 0 3), aU] [] y (PX T n r m (stms T n f a)) := by
    intro f
    induction f with
    | zero => intro a y h1 h2 hp; have b := hp.1.1; omega
    | succ f ih =>
      intro a y h1 h2 hp ye hy ty
      have b := hp.1.1
      have f0 : y 32 7 = 0 := hy.2.2.2.1.1
      have e4 : y 32 4 = kd T n a.1.1 := hy.kok
      have e3 : y 32 3 = (a.1.1.1 : Nat) := hy.s3
      have an : a.1.1.1 ≤ n := hy.2.2.2.2.2.1
      have wb := wbd a.1.1
      rw [stms]
      refine g_X5_readRoom_36 H ⟨by omega, fun q => by omega, fun _ => ⟨by omega, fun q => absurd f0 q, fun _ => ⟨kd32 hy, fun q => ?_, fun q => ?_⟩⟩⟩
      · rw [if_pos (show kd T n a.1.1 = 258 by omega)]
        exact ⟨rfl, ye, hy, fun c q => by cases q; exact ty⟩
      rw [if_neg (show ¬ kd T n a.1.1 = 258 by omega), zw a.1 y hy]
      -- what any statement leads to
      have aft : ∀ (u : Mem), Ex (C_rm r) m u → XR T n true (r + 8) u (fsR (stmB T n a.1 a.2)) → (∀ c, stmB T n a.1 a.2 = .ok c → XRt u r c.2) → S_X5_readRoom sc d 183 [aR 32, aR r, aU, aU, aI (a.2 0 3), aU] [] u (PX T n r m ((stmR T n a).bind (stms T n f))) := by
        intro u ue hu tu
        refine fin _ (stmB T n a.1 a.2) _ u (by omega) ue hu tu (fun w we hw tw => ?_)
        have hs : stmR T n a = (stmB T n a.1 a.2).bind (endS T n) := rfl
        rw [← hs] at hw tw
        cases g : stmR T n a with
        | error e => rw [g] at hw; exact stop e _ w (by omega) we hw
        | ok c =>
          rw [g] at hw
          have tw := tw c g
          obtain ⟨b1, q1, q2⟩ := bind_ok (hs ▸ g)
          obtain ⟨p1, ⟨p2, p3, p4⟩, p5⟩ := pi_stm hp hn tb q1
          obtain ⟨r1, r2, r3, r4⟩ := pi_end p1 (by omega) q2
          have := ih c w (by omega) (by omega) r1 we hw tw
          rw [r2, p3] at this
          exact this
      have bad : ∀ k : Int, 1 ≤ k ∧ k ≤ 5 → stmB T n a.1 a.2 = .error (k, (a.1.1.1 : Nat)) → ∀ z, Ex (C_rd (r + 8)) y z → XR T n true (r + 8) z (.error (k, y 32 3)) → S_X5_readRoom sc d 183 [aR 32, aR r, aU, aU, aI (a.2 0 3), aU] [] z (PX T n r m ((stmR T n a).bind (stms T n f))) := by
        intro k hk g z ze hz
        rw [e3] at hz
        exact aft z (ye.trans (ze.mono (fun a j q => rm_rd q))) (by rw [g]; exact hz) (fun c q => by rw [g] at q; cases q)
      refine ⟨fun c60 => ⟨by omega, by split <;> omega, by split <;> omega, fun cx => ⟨by omega, fun c0 => ⟨fun c3 => ⟨fun c7 => ?_, fun c7 => ?_⟩, fun c3 => ?_⟩, fun c0 => ?_⟩, fun cx => ?_⟩, fun c60 => ?_⟩
      · refine p_X5_readRoom_180 (d2 := d - 1) H H (s_tellMinutes H hy ty wb (by omega)) (by omega) ?_
        rintro u ⟨-, ue, hu, tu⟩
        have g : stmB T n a.1 a.2 = if 9 ≤ wE T n a.1.1 ∧ wE T n a.1.1 ≤ 14 then minB T n (wE T n a.1.1 - 9) a.1 a.2 else .error (1, a.1.1.1) := by
          unfold stmB
          rw [if_neg (by omega), if_neg c3, if_neg c7]
        exact aft u (ye.trans ue) (by rw [g]; exact hu) (by rw [g]; exact tu)
      · have c7 : wE T n a.1.1 = 7 := Classical.not_not.mp c7
        refine p_X5_readRoom_170 (d2 := d - 1) H H (s_tellRule H hy ty hp (wE_n c7 (by decide)) (by omega)) (by omega) ?_
        rintro u ⟨-, ue, hu, tu⟩
        have g : stmB T n a.1 a.2 = ruleB T n a.1 a.2 := by
          unfold stmB
          rw [if_neg (by omega), if_neg c3, if_pos c7]
        exact g_X5_readRoom_173 H (aft u (ye.trans ue) (by rw [g]; exact hu) (by rw [g]; exact tu))
      · have c3 : wE T n a.1.1 = 3 := Classical.not_not.mp c3
        refine p_X5_readRoom_155 (d2 := d - 1) H H (s_tellSeam H hy ty hp (by omega)) (by omega) ?_
        rintro u ⟨-, ue, hu, tu⟩
        have g : stmB T n a.1 a.2 = seamB T n a.1 a.2 := by
          unfold stmB
          rw [if_neg (by omega), if_pos c3]
        exact g_X5_readRoom_158 H (aft u (ye.trans ue) (by rw [g]; exact hu) (by rw [g]; exact tu))
      · exfalso
        rw [if_neg c0, if_pos (by omega)] at cx
        omega
      · have c0 : wE T n a.1.1 = 0 := by
          by_cases g : wE T n a.1.1 = 0
          · exact g
          · rw [if_pos g, if_pos (by omega)] at cx; omega
        refine p_X5_readRoom_128 (d2 := d - 1) H (s_fail (k := 1) hy (by decide) (fun x q => by omega)) (by omega) ?_
        rintro z ⟨-, ze, hz⟩
        have g : stmB T n a.1 a.2 = .error (1, (a.1.1.1 : Nat)) := by
          unfold stmB
          rw [if_neg (by omega), if_neg (by omega), if_neg (by omega), if_neg (by omega)]
        exact g_X5_readRoom_131 H (bad 1 (by decide) g z ze hz)
      · refine p_X5_readRoom_93 (d2 := d - 1) H (s_fail (k := 5) hy (by decide) (fun x q => by omega)) (by omega) ?_
        rintro z ⟨-, ze, hz⟩
        have g : stmB T n a.1 a.2 = .error (5, (a.1.1.1 : Nat)) := by
          unfold stmB
          rw [if_pos (by omega)]
        exact g_X5_readRoom_96 H (bad 5 (by decide) g z ze hz)
  -- the first statement
  have e4 : z2 32 4 = kd T n (q0S T n) := h2.kok
  have e3 : z2 32 3 = ((q0S T n).1 : Nat) := h2.s3
  have qn : (q0S T n).1 ≤ n := h2.2.2.2.2.2.1
  have aft : ∀ (u : Mem), Ex (C_rm r) m u → XR T n true (r + 8) u (fsR (firB T n (q0S T n, []))) → (∀ c, firB T n (q0S T n, []) = .ok c → XRt u r c.2) → S_X5_readRoom sc d 183 [aR 32, aR r, aU, aU, aI 0, aU] [] u (PX T n r m (rdRoom T n)) := by
    intro u ue hu tu
    refine fin _ (firB T n (q0S T n, [])) 0 u (by omega) ue hu tu (fun w we hw tw => ?_)
    have hs : firR T n (q0S T n, []) = (firB T n (q0S T n, [])).bind (endS T n) := rfl
    rw [← hs] at hw tw
    unfold rdRoom
    cases g : firR T n (q0S T n, []) with
    | error e => rw [g] at hw; exact stop e _ w (by omega) we hw
    | ok c =>
      rw [g] at hw
      have tw := tw c g
      obtain ⟨b1, q1, q2⟩ := bind_ok (hs ▸ g)
      unfold firB at q1
      by_cases c0 : wE T n (q0S T n) = 0
      · rw [if_pos c0] at q1
        obtain ⟨p, q3, q4⟩ := bind_ok (show (lensR T n 6 (nx T n (q0S T n), []) ρ0 0).bind (bobF T n) = .ok b1 from q1)
        obtain ⟨l1, l2, l3, l4, l5, l6, l7⟩ := lensR_ok q3 pl_0 (by decide) (by decide) (wE_n2 c0 (by decide)).2
        unfold bobF at q4
        by_cases c1 : wE T n p.1.1 = 1
        · rw [if_pos c1] at q4; cases q4
        rw [if_neg c1] at q4
        by_cases c2 : sumF (p.2.1 2) (p.2.1 0 0).toNat < 100
        · rw [if_pos c2] at q4; cases q4
        rw [if_neg c2] at q4
        cases q4
        have P : PI n (p.1, p.2.1) := by
          refine ⟨l1.2.2.2.2, ⟨l1.2.2.2.1, fun k hk => ?_⟩, ⟨fun s hs => ?_, fun k hk => ?_⟩, ⟨?_, fun j hj => ?_⟩, ?_, l5⟩
          · have := l1.2.2.1
            have hk : (k : Int) < p.2.1 0 2 := hk
            omega
          · have := l1.2.1
            have hs : (s : Int) < p.2.1 0 1 := hs
            omega
          · have := l1.2.2.1
            have hk : (k : Int) < p.2.1 0 2 := hk
            omega
          · show p.2.1 10 (p.2.1 0 2) = (p.1.2.length : Nat)
            rw [l1.2.2.1, l1.2.2.2.1, l3]; rfl
          · have hj : j < p.1.2.length := hj
            rw [l3] at hj
            exact absurd hj (by show ¬ j < 0; omega)
          · show p.1.2.length ≤ p.1.1.1
            rw [l3]; exact Nat.zero_le _
        obtain ⟨r1, r2, r3, r4⟩ := pi_end P (by show p.2.1 0 3 < 60; rw [l1.1]; decide) q2
        have r2 : c.2 0 3 = p.2.1 0 3 + 1 := r2
        rw [l1.1] at r2
        have := key 60 c w (by omega) (by omega) r1 we hw tw
        rw [r2] at this
        exact this
      · rw [if_neg c0] at q1; cases q1
  have bad : firB T n (q0S T n, []) = .error (1, ((q0S T n).1 : Nat)) → ∀ z, Ex (C_rd (r + 8)) z2 z → XR T n true (r + 8) z (.error (1, z2 32 3)) → XR T n true (r + 8) z (fsR (firB T n (q0S T n, []))) := by
    intro g z ze hz
    rw [g, ← e3]; exact hz
  refine g_X5_readRoom_14 H ⟨kd32 h2, fun c => g_X5_readRoom_33 H ?_, fun c => ?_⟩
  · have f0 : z2 32 7 = 0 := h2.2.2.2.1.1
    have wb := wbd (q0S T n)
    refine g_X5_readRoom_36 H ⟨by omega, fun q => by omega, fun _ => ⟨by omega, fun q => absurd f0 q, fun _ => ⟨kd32 h2, fun q => absurd q c, fun q => ?_⟩⟩⟩
    rw [zw _ z2 h2]
    show (((0 : Int) ≠ 60 → _) ∧ _)
    refine ⟨fun c60 => ⟨by show R32 (wE T n (q0S T n)); unfold R32; omega, by split <;> omega, by split <;> omega, fun cx => ⟨by show R32 (wE T n (q0S T n)); unfold R32; omega, fun c0 => ?_, fun c0 => ?_⟩, fun cx => ?_⟩, fun c60 => by omega⟩
    · exfalso
      rw [if_neg (by decide), if_pos c0] at cx
      omega
    · have c0 : wE T n (q0S T n) = 0 := Classical.not_not.mp c0
      refine p_X5_readRoom_141 (d2 := d - 1) H H (s_tellLengths H h2 t2 pl_0 rfl (by omega)) (by omega) ?_
      rintro u ⟨-, ue, hu, tu⟩
      have g : firB T n (q0S T n, []) = bobB T n (q0S T n, []) ρ0 := by unfold firB; rw [if_pos c0]
      exact g_X5_readRoom_144 H (aft u (E2.trans ue) (by rw [g]; exact hu) (by rw [g]; exact tu))
    · have c0 : wE T n (q0S T n) ≠ 0 := by
        intro g
        rw [if_neg (show ¬ (0 : Int) ≠ 0 by decide), if_neg (show ¬ wE T n (q0S T n, ([] : List Int)).1 ≠ 0 from fun q => q g)] at cx
        exact cx rfl
      have g : firB T n (q0S T n, []) = .error (1, ((q0S T n).1 : Nat)) := by unfold firB; rw [if_neg c0]
      refine p_X5_readRoom_128 (d2 := d - 1) H (s_fail (k := 1) h2 (by decide) (fun x q => by omega)) (by omega) ?_
      rintro z ⟨-, ze, hz⟩
      exact g_X5_readRoom_131 H (aft z (E2.trans (ze.mono (fun a j q => rm_rd q))) (bad g z ze hz) (fun c q => by rw [g] at q; cases q))
  · have k8 : kd T n (q0S T n) = 258 := by omega
    have g : firB T n (q0S T n, []) = .error (1, ((q0S T n).1 : Nat)) := by
      unfold firB
      rw [if_neg (fun q => wE_n (T := T) (n := n) q (by decide) k8)]
    refine p_X5_readRoom_30 (d2 := d - 1) H (s_fail (k := 1) h2 (by decide) (fun x q => by omega)) (by omega) ?_
    rintro z ⟨-, ze, hz⟩
    refine g_X5_readRoom_33 H ?_
    have hr : rdRoom T n = .error (1, ((q0S T n).1 : Nat)) := by unfold rdRoom firR; rw [g]; rfl
    rw [hr]
    refine stop _ 0 z (by omega) (E2.trans (ze.mono (fun a j q => rm_rd q))) ?_
    rw [← e3]; exact hz
end RH
