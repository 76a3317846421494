/-! what the reference's codes of a question come to -/
section QN
variable {sc : List Int} {d : Nat} {m : Mem} {Q : Option AV → Mem → Prop} {ρ : Mem}
theorem s_qOf {v i : Int} (h : MRm m ρ) (hb : RmB ρ) (hv : -1000000 ≤ v ∧ v ≤ 1000000) (hd : 2 ≤ d) : P_X8_qOf sc d [aR 62, aI 0, aJ v, aI i] m (PV (aJ (ydF ρ v)) m) := by
  have b0 := hb.1
  refine ep_X8_qOf (g_X8_qOf_0 (p_X8_qOf_15 (d2 := d - 1) (s_seamMany h) (by omega) ?_))
  rintro _ z ⟨e, rfl⟩; cases e
  refine g_X8_qOf_18 ⟨by omega, p_X8_qOf_21 (d2 := d - 1) (s_isIn (by unfold R64; omega) (by unfold R64; omega) (by unfold R64; omega)) (by omega) ?_⟩
  rintro _ z ⟨rfl, ⟨e, g⟩ | ⟨e, g⟩⟩ <;> cases e
  · refine g_X8_qOf_24 ⟨by decide, fun q => absurd q (by decide), fun _ => ?_⟩
    have t := (hb.2.2.2.1 v.toNat (by omega)).1
    have tk := s_takesOf (sc := sc) (d := d - 1) (s := v.toNat) h (by omega) (by omega)
    rw [show ((v.toNat : Nat) : Int) = v by omega] at tk t
    refine p_X8_qOf_30 (d2 := d - 1) tk (by omega) ?_
    rintro _ z ⟨e, rfl⟩; cases e
    refine g_X8_qOf_33 ⟨by omega, ?_, rfl⟩
    unfold ydF
    rw [if_neg (by omega), if_neg (by omega)]
  · refine g_X8_qOf_24 ⟨by decide, fun _ => ⟨?_, rfl⟩, fun q => absurd rfl q⟩
    unfold ydF
    by_cases g1 : v < 0
    · rw [if_pos g1]
    · rw [if_neg g1, if_pos (by omega)]
theorem s_qTold {s N : Nat} {u L ch me i0 : Int} {code : Int → Int} {b : Bool} (h : MRm m ρ) (hb : RmB ρ) (hd : 4 ≤ d) (hs : (s : Int) < ρ 0 1) (hu : 0 ≤ u ∧ u ≤ 999) (e5 : m 62 55 = s) (e6 : m 62 56 = u) (e7 : m 62 57 = L) (e8 : m 108 s = ch) (e9 : m 109 s = me) (hL : 0 ≤ L ∧ L ≤ 99) (hch : ch = 0 ∨ ch = 1) (hme : me = 0 ∨ me = 1) (hN : m 62 112 = (N : Nat)) (hN2 : N ≤ 1600) (hc : ∀ j : Nat, j < N → m 148 j = code j) (hty : tyF false code N = some [b]) : P_X8_qTold sc d [aR 62, aI i0] m (fun v z => Ex C_q m z ∧ ∃ y, v = some (aJ y) ∧ evF (ptA ρ s u L ch me) (ydF ρ) code N = [y] ∧ vld b y) := by
  have hpb : ∀ i, alw false i → -1000000 ≤ ptA ρ s u L ch me i ∧ ptA ρ s u L ch me i ≤ 1000000 := fun i _ => ptA_bd hb hs hu hL hch hme i
  have hy : ∀ v, -1000000 ≤ ydF ρ v ∧ ydF ρ v ≤ 1000000 := fun v => by have := ydF_bd hb v; omega
  have zx : Ex C_q m (wr m 62 118 0) := (Ex.refl C_q m).put (Or.inr ⟨rfl, rfl⟩)
  have zp : PlM (wr m 62 118 0) [] := ⟨wr_eq _ _ _ _, trivial⟩
  refine ep_X8_qTold (g_X8_qTold_0 ?_)
  generalize wr m 62 118 0 = z at zx zp ⊢
  have main : ∀ (j i : Nat) (y : Mem), i + j = N → Ex C_q m y → PlM y (evF (ptA ρ s u L ch me) (ydF ρ) code i) → S_X8_qTold sc d 7 [aR 62, aI i0, aI i, aU] [] y (fun v z => Ex C_q m z ∧ ∃ y, v = some (aJ y) ∧ evF (ptA ρ s u L ch me) (ydF ρ) code N = [y] ∧ vld b y) := by
    intro j
    induction j with
    | zero =>
      intro i y hi he hp
      obtain rfl : i = N := by omega
      have tyk := evF_ty (f := code) hpb hy i _ hty
      have y12 : y 62 112 = (i : Nat) := (he 62 112 (by unfold C_q; omega)).trans hN
      match hl : evF (ptA ρ s u L ch me) (ydF ρ) code i, tyk with
      | [v], tyk =>
        rw [hl] at hp
        have p0 : y 150 0 = v := hp.2.1
        refine g_X8_qTold_7 ⟨by omega, by omega, fun _ => ⟨he, v, by rw [p0], rfl, tyk.1⟩, fun c => absurd (by omega) c⟩
    | succ j ih =>
      intro i y hi he hp
      have ym : MRm y ρ := h.ex he (fun a j q c => by unfold C_q at c; omega)
      have y12 : y 62 112 = (N : Nat) := (he 62 112 (by unfold C_q; omega)).trans hN
      have yc : y 148 i = code i := (he 148 i (by unfold C_q; omega)).trans (hc i (by omega))
      have s1 := tyF_pre (f := code) (rl := false) N (i + 1) (by omega) (by rw [hty]; rfl)
      have s0 := tyF_pre (f := code) (rl := false) N i (by omega) (by rw [hty]; rfl)
      obtain ⟨st, hst0⟩ := Option.isSome_iff_exists.mp s0
      obtain ⟨st', hst1⟩ := Option.isSome_iff_exists.mp s1
      have tS : tyS false (code i) st = some st' := by
        unfold tyF at hst1
        rw [hst0] at hst1
        exact hst1
      have tyk := evF_ty (f := code) hpb hy i _ hst0
      have len := tyk.len
      obtain ⟨h64, cs⟩ := tyS_cases tS
      have y5 : y 62 55 = s := (he 62 55 (by unfold C_q; omega)).trans e5
      have y6 : y 62 56 = u := (he 62 56 (by unfold C_q; omega)).trans e6
      have y7 : y 62 57 = L := (he 62 57 (by unfold C_q; omega)).trans e7
      have y8 : y 108 s = ch := (he 108 s (by unfold C_q; omega)).trans e8
      have y9 : y 109 s = me := (he 109 s (by unfold C_q; omega)).trans e9
      have eS : evF (ptA ρ s u L ch me) (ydF ρ) code (i + 1) = evS (ptA ρ s u L ch me) (ydF ρ) (code i) (evF (ptA ρ s u L ch me) (ydF ρ) code i) := rfl
      have nx : ∀ y' : Mem, Ex C_q y y' → PlM y' (evS (ptA ρ s u L ch me) (ydF ρ) (code i) (evF (ptA ρ s u L ch me) (ydF ρ) code i)) → S_X8_qTold sc d 162 [aR 62, aI i0, aI i, aU] [] y' (fun v z => Ex C_q m z ∧ ∃ y, v = some (aJ y) ∧ evF (ptA ρ s u L ch me) (ydF ρ) code N = [y] ∧ vld b y) := fun y' e1 p1 => by
        refine g_X8_qTold_162 ?_
        have w := ih (i + 1) y' (by omega) (he.trans e1) (by rw [eS]; exact p1)
        rw [show ((i + 1 : Nat) : Int) = (i : Int) + 1 by omega] at w
        exact w
      generalize evF (ptA ρ s u L ch me) (ydF ρ) code i = l at hp tyk len nx
      refine g_X8_qTold_7 ⟨by omega, by omega, fun c => by omega, fun _ => ?_⟩
      rw [yc]
      have cb : R32 (code i) := by
        unfold R32
        rcases cs with ⟨q1, q2, -⟩ | ⟨q, -⟩ | ⟨q, -⟩ | ⟨q, -⟩ | ⟨q, -⟩ | ⟨q1, q2, -⟩ | ⟨q1, q2, -⟩ | ⟨q, -⟩
        · omega
        · have := q.1; have := q.2.1; omega
        all_goals omega
      refine ⟨by omega, by omega, cb, fun c1 => ⟨fun c2 => ⟨fun c3 => ⟨fun c4 => ⟨fun c5 => ?_, fun c5 => ?_⟩, fun c4 => ?_⟩, fun c3 => ?_⟩, fun c2 => ?_⟩, fun c1 => ⟨by unfold R32 at cb; omega, ?_⟩⟩
      · have two : ∃ b2 s2, st = b2 :: b2 :: s2 ∧ 1 ≤ code i ∧ code i ≤ 11 := by
          rcases cs with ⟨q1, q2, -⟩ | ⟨q, -⟩ | ⟨q, -⟩ | ⟨q, q2, -⟩ | ⟨q, -⟩ | ⟨q1, q2, s2, e, -⟩ | ⟨q1, q2, s2, e, -⟩ | ⟨q, s2, e, -⟩
          · omega
          · have := q.1; omega
          · omega
          · omega
          · omega
          · exact ⟨_, _, e, by omega, by omega⟩
          · exact ⟨_, _, e, by omega, by omega⟩
          · exact ⟨_, _, e, by omega, by omega⟩
        obtain ⟨b2, s2, rfl, k1, k2⟩ := two
        match l, tyk with
        | v :: u' :: l, tyk =>
          have ev : evS (ptA ρ s u L ch me) (ydF ρ) (code i) (v :: u' :: l) = jnF (code i) u' v :: l := by
            unfold evS
            rw [if_neg (by omega), if_neg (by omega), if_neg (by omega)]
            show (if code i = 60 then _ else if code i = 12 then _ else jnF (code i) u' v :: l) = _
            rw [if_neg (by omega), if_neg (by omega)]
          rw [ev] at nx
          exact p_X8_qTold_159 (d2 := d - 1) (s_qJoins hp (by simp at len h64; omega) (by omega) ⟨k1, k2⟩ tyk.2.1.1 tyk.1.1) (by omega) (fun z2 q => nx z2 q.2.1 q.2.2)
      · have e12 : code i = 12 := Classical.not_not.mp c5
        have one : ∃ s1, st = true :: s1 := by
          rcases cs with ⟨q1, q2, -⟩ | ⟨q, -⟩ | ⟨q, -⟩ | ⟨q, q2, -⟩ | ⟨q, s1, e, -⟩ | ⟨q1, q2, s2, e, -⟩ | ⟨q1, q2, s2, e, -⟩ | ⟨q, s2, e, -⟩
          · omega
          · have := q.1; omega
          · omega
          · omega
          · exact ⟨_, e⟩
          all_goals omega
        obtain ⟨s1', rfl⟩ := one
        match l, tyk with
        | v :: l, tyk =>
          have ev : evS (ptA ρ s u L ch me) (ydF ρ) (code i) (v :: l) = (1 - v) :: l := by rw [e12]; rfl
          rw [ev] at nx
          have e1 : y 62 118 - 1 = (l.length : Nat) := by rw [hp.1]; simp
          rw [e1]
          have v0 : y 150 (l.length : Nat) = v := hp.2.1
          refine ⟨by omega, by simp at len h64; omega, nx _ ((Ex.refl C_q y).put (Or.inl rfl)) ⟨?_, ?_, ?_⟩⟩
          · rw [wr_na _ _ _ _ _ _ (by decide), hp.1]; simp
          · rw [wr_eq, v0]
          · exact hp.2.2.congr (fun i hi => wr_ne _ _ _ _ _ _ (by omega))
      · have e13 : code i = 13 := Classical.not_not.mp c4
        have ev : evS (ptA ρ s u L ch me) (ydF ρ) (code i) l = 1 :: l := by rw [e13]; rfl
        rw [ev] at nx
        exact p_X8_qTold_118 (d2 := d - 1) (s_qPuts hp (by omega)) (by omega) (fun z2 q => g_X8_qTold_121 (nx z2 q.2.1 q.2.2))
      · have al : alw false (code i - 40) := by
          rcases cs with ⟨q1, q2, -⟩ | ⟨q, -⟩ | ⟨q, -⟩ | ⟨q, q2, -⟩ | ⟨q, s1, e, -⟩ | ⟨q1, q2, s2, e, -⟩ | ⟨q1, q2, s2, e, -⟩ | ⟨q, s2, e, -⟩
          · omega
          · exact q
          all_goals omega
        have ev : evS (ptA ρ s u L ch me) (ydF ρ) (code i) l = ptA ρ s u L ch me (code i - 40) :: l := by
          unfold evS
          rw [if_neg (by omega), if_pos ⟨by omega, by have := al.2.1; omega⟩]
        rw [ev] at nx
        have pb := hpb _ al
        refine p_X8_qTold_98 (d2 := d - 1) (s_qPartOf (rl := false) ym hb hs (by omega) al y5 y6 hu (fun z => by cases z) (fun _ => ⟨y7, y8, y9, hL, hch, hme⟩)) (by omega) ?_
        rintro _ y' ⟨rfl, rfl⟩
        refine ⟨_, rfl, g_X8_qTold_101 (p_X8_qTold_101 (d2 := d - 1) (s_qClip (by unfold R64; omega)) (by omega) ?_)⟩
        rintro _ y' ⟨rfl, rfl⟩
        have cl : clp (ptA ρ s u L ch me (code i - 40)) = ptA ρ s u L ch me (code i - 40) := by unfold clp; rw [if_pos pb.2, if_pos pb.1]
        rw [cl]
        exact ⟨_, rfl, g_X8_qTold_104 (p_X8_qTold_104 (d2 := d - 1) (s_qPuts hp (by omega)) (by omega) (fun z2 q => g_X8_qTold_107 (nx z2 q.2.1 q.2.2)))⟩
      · -- yards of a number
        have o60 : code i = 60 ∧ ∃ s1, st = false :: s1 := by
          rcases cs with ⟨q1, q2, -⟩ | ⟨q, -⟩ | ⟨q, -⟩ | ⟨q, q2, s1, e, -⟩ | ⟨q, s1, e, -⟩ | ⟨q1, q2, s2, e, -⟩ | ⟨q1, q2, s2, e, -⟩ | ⟨q, s2, e, -⟩
          · omega
          · have := q.2.1; omega
          · omega
          · exact ⟨q, s1, e⟩
          all_goals omega
        obtain ⟨c60, s1', rfl⟩ := o60
        match l, tyk with
        | v :: l, tyk =>
          have ev : evS (ptA ρ s u L ch me) (ydF ρ) (code i) (v :: l) = ydF ρ v :: l := by rw [c60]; rfl
          rw [ev] at nx
          have e1 : y 62 118 - 1 = (l.length : Nat) := by rw [hp.1]; simp
          have v0 : y 150 (l.length : Nat) = v := hp.2.1
          rw [e1, v0, c60]
          have ln : l.length ≤ 64 := by simp at len h64; omega
          have yb := hy v
          have cl : clp (ydF ρ v) = ydF ρ v := by unfold clp; rw [if_pos yb.2, if_pos yb.1]
          refine ⟨by omega, by omega, p_X8_qTold_75 (d2 := d - 1) ic_150 (s_qOf ym hb tyk.1.1 (by omega)) (by omega) ?_⟩
          rintro _ y' ⟨rfl, rfl⟩
          refine ⟨_, rfl, g_X8_qTold_78 ic_150 (p_X8_qTold_78 (d2 := d - 1) ic_150 (s_qClip (by unfold R64; omega)) (by omega) ?_)⟩
          rintro _ y' ⟨rfl, rfl⟩
          rw [cl]
          refine ⟨_, rfl, g_X8_qTold_81 ic_150 ⟨by omega, by rw [show alen 150 = 1700 from rfl]; omega, nx _ ((Ex.refl C_q y').put (Or.inl rfl)) ⟨?_, wr_eq _ _ _ _, hp.2.2.congr (fun i hi => wr_ne _ _ _ _ _ _ (by omega))⟩⟩⟩
          rw [wr_na _ _ _ _ _ _ (by decide), hp.1]; simp
      · have ev : evS (ptA ρ s u L ch me) (ydF ρ) (code i) l = (code i - 1000) :: l := by
          unfold evS
          rw [if_pos (by omega)]
        rw [ev] at nx
        exact p_X8_qTold_36 (d2 := d - 1) (s_qPuts hp (by omega)) (by omega) (fun z2 q => g_X8_qTold_39 (nx z2 q.2.1 q.2.2))
  exact main N 0 z (Nat.zero_add N) zx zp
end QN
