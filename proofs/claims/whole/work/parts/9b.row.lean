/-! pairs: row, judge -/
section RJ
variable {sc : List Int} {Ca : Mem → Mem → Prop} {d : Nat} {m ρ : Mem} {w l : Int}
def C_fo (r a j : Int) : Prop := C_pr r a j ∨ C_cw r a j
theorem s_X7_follow (h : Xt m ρ) (hr : RlB ρ) (hl : XRl m (m 0 2) ρ) (hc : ChC m ρ) (hd : 7 ≤ d) (hw : R32 w) (hL : R32 l) : P_X7_follow sc d [aR 0, aI w, aI l] m (fun v z => Ex (C_fo (m 0 2)) m z ∧ ChC z ρ ∧ ((v = some (aI 1) ∧ (knF ρ w ∧ 1 ≤ l ∧ l ≤ 99) ∧ RowX z ρ w l (ρ 0 1).toNat) ∨ (v = some (aI 0) ∧ ¬ (knF ρ w ∧ 1 ≤ l ∧ l ≤ 99)))) := by
  have hb := h.2.2
  have b0 := hb.1
  have H := h.1
  have hrb := room_bd H
  refine ep_X7_follow (g_X7_follow_0 (p_X7_follow_5 (d2 := d - 1) H (s_X6_knows H h.2.1 hb hw) (by omega) ?_))
  rintro _ m ⟨rfl, ⟨e, q⟩ | ⟨e, q⟩⟩ <;> cases e
  · refine g_X7_follow_8 ⟨by omega, fun c => absurd c (by decide), fun _ => ?_⟩
    refine p_X7_follow_12 (d2 := d - 1) (s_X7_isLength hL) (by omega) ?_
    rintro _ m ⟨rfl, ⟨e, q2⟩ | ⟨e, q2⟩⟩ <;> cases e
    · have h3 : ρ 0 3 ≠ 0 := by have := q.1; omega
      have kw : 0 ≤ w ∧ w < 4 + ρ 0 2 := ⟨q.2.1, q.2.2.1⟩
      have fin : ∀ z : Mem, Ex (C_pr (m 0 2)) m z → ChC z ρ → (w = 3 → ρ 0 1 ≤ 6 ∧ FrX z ρ 3 (ρ 0 1).toNat) → S_X7_follow sc d 37 [aR 0, aI w, aI l] [] z (fun v z => Ex (C_fo (m 0 2)) m z ∧ ChC z ρ ∧ ((v = some (aI 1) ∧ (knF ρ w ∧ 1 ≤ l ∧ l ≤ 99) ∧ RowX z ρ w l (ρ 0 1).toNat) ∨ (v = some (aI 0) ∧ ¬ (knF ρ w ∧ 1 ≤ l ∧ l ≤ 99)))) := fun z he zc zf => by
        have e02 : z 0 2 = m 0 2 := he 0 2 (by unfold C_pr C_wx; omega)
        refine g_X7_follow_37 ?_
        rw [e02]
        refine p_X7_follow_51 (d2 := d - 1) H (s_X1_run H (ex_pr H h.2.1 he) hb hr (ex_prl H hl he) kw q2 (by omega) zf) (by omega) ?_
        rintro y ⟨-, ye, yr⟩
        exact g_X7_follow_54 ⟨(he.mono (fun a j q => Or.inl q)).trans (ye.mono (fun a j q => Or.inr q)), zc.ex (fun a j q => ye a j (fun q2 => by unfold C_cw C_wx at q2; omega)), Or.inl ⟨rfl, ⟨q, q2⟩, yr⟩⟩
      refine g_X7_follow_15 ⟨by omega, fun _ => ⟨by omega, fun c => fin m (Ex.refl _ _) hc (fun e => absurd e c), fun c => ?_⟩, fun c => absurd (by decide) c⟩
      have c3 : w = 3 := Classical.not_not.mp c
      have h6 : ρ 0 1 ≤ 6 := q.2.2.2 c3
      have hw3 : (3 : Int) = -2 ∨ (0 ≤ (3 : Int) ∧ (3 : Int) < 4 + ρ 0 2) := Or.inr ⟨by decide, by omega⟩
      refine p_X7_follow_34 (d2 := d - 1) H (s_X0_prepare H h.2.1 hb hr hl h3 h6 hw3 hc (by omega)) (by omega) ?_
      rintro z ⟨-, g1, g2, g4⟩
      exact fin z g1 (ChC.of hw3 g2 g4) (fun _ => ⟨h6, g4⟩)
    · exact g_X7_follow_15 ⟨by omega, fun c => absurd rfl c, fun _ => ⟨Ex.refl _ _, hc, Or.inr ⟨rfl, fun p => q2 p.2⟩⟩⟩
  · exact g_X7_follow_8 ⟨by omega, fun _ => ⟨Ex.refl _ _, hc, Or.inr ⟨rfl, fun p => q p.1⟩⟩, fun c => absurd rfl c⟩
theorem s_changesAt {s : Nat} {u : Int} (h : MRm m ρ) (hb : RmB ρ) (hr : RlB ρ) (hl : MRl m ρ) (hw : 0 ≤ w ∧ w < 4 + ρ 0 2) (hs : (s : Int) < ρ 0 1) (hu : 0 ≤ u ∧ u ≤ 99) (hl9 : 0 ≤ l ∧ l ≤ 99) (hd : 5 ≤ d) (hc : w = 3 → ρ 0 1 ≤ 6 ∧ MnM m ρ 3 (ρ 0 1).toNat) :
    P_X8_changesAt sc d [aR 62, aI w, aI s, aI u, aI l] m (fun v z => Ex C_it m z ∧ v = some (aI (tnF ρ w s u l))) := by
  have b0 := hb.1
  have h3 : ρ 0 3 ≠ 0 := fun q => by have := hb.2.1.1 q; omega
  have b1 := hb.2.1.2 h3
  have ts := (hb.2.2.2.1 s hs).1
  have t01 := tnF_01 (w := w) (u := u) (l := l) (s := s) hb hr hw.2 hs ⟨by omega, by omega⟩
  refine ep_X8_changesAt (g_X8_changesAt_0 ⟨by omega, fun c0 => ⟨by omega, fun c2 => ⟨fun c3 => ?_, fun c3 => ?_⟩, fun c2 => ?_⟩, fun c => ⟨Ex.refl _ _, ?_⟩⟩)
  · refine p_X8_changesAt_49 (d2 := d - 1) (s_isChange h hb hr hl b1.1 (by omega) hs hw ⟨by omega, by omega⟩) (by omega) ?_
    rintro _ y ⟨ye, e⟩; cases e
    have tv : tnF ρ w s u l = chgF ρ w s u := by unfold tnF; rw [if_neg c0, if_neg c2, if_neg c3]
    rw [tv] at t01 ⊢
    exact g_X8_changesAt_52 ⟨t01, ye, rfl⟩
  · have c3' : w = 3 := Classical.not_not.mp c3
    refine p_X8_changesAt_39 (d2 := d - 1) (s_isChance h hb h3 (hc c3').1 hs hu (hc c3').2 (by omega)) (by omega) ?_
    rintro _ y ⟨e, rfl⟩; cases e
    have tv : tnF ρ w s u l = tcF ρ s u := by unfold tnF; rw [if_neg c0, if_neg c2, if_pos c3']
    rw [tv] at t01 ⊢
    rw [if_neg c0]
    exact g_X8_changesAt_42 (g_X8_changesAt_52 ⟨t01, Ex.refl _ _, rfl⟩)
  · refine p_X8_changesAt_14 (d2 := d - 1) (s_takesOf h hb hs) (by omega) ?_
    rintro _ y ⟨e, rfl⟩; cases e
    have tv : tnF ρ w s u l = if u + ρ 3 s ≤ l then 0 else 1 := by unfold tnF; rw [if_neg c0, if_pos (Classical.not_not.mp c2)]
    rw [tv] at t01 ⊢
    exact g_X8_changesAt_17 ⟨by omega, by omega, g_X8_changesAt_52 ⟨t01, Ex.refl _ _, rfl⟩⟩
  · unfold tnF
    rw [if_pos (Classical.not_not.mp c)]
def RowM (z ρ : Mem) (w l : Int) (n : Nat) : Prop := (∀ s : Nat, s < n → z 107 s = usA ρ w l s ∧ z 108 s = chA ρ w l s ∧ z 109 s = mdA ρ w l s) ∧ z 62 64 = coA ρ w l n
def C_lr (a j : Int) : Prop := C_me a j ∨ a = 107 ∨ a = 108 ∨ a = 109 ∨ (a = 62 ∧ j = 64)
theorem s_laysRow (h : MRm m ρ) (hb : RmB ρ) (hr : RlB ρ) (hl : MRl m ρ) (hw : knF ρ w) (hl9 : 1 ≤ l ∧ l ≤ 99) (hd : 7 ≤ d) : P_X8_laysRow sc d [aR 62, aI w, aI l] m (fun v z => v = none ∧ Ex C_lr m z ∧ RowM z ρ w l (ρ 0 1).toNat) := by
  have b0 := hb.1
  have h3 : ρ 0 3 ≠ 0 := by have := hw.1; omega
  obtain ⟨m0, m1, m2⟩ := ch_min hb
  have kw : 0 ≤ w ∧ w < 4 + ρ 0 2 := ⟨hw.2.1, hw.2.2.1⟩
  have mrm : ∀ z, Ex C_lr m z → MRm z ρ := fun z he => h.ex he (fun a j q c => by unfold C_lr C_me C_it at c; omega)
  have mrl : ∀ z, Ex C_lr m z → MRl z ρ := fun z he => hl.ex he (fun a j q => by unfold C_lr C_me C_it at q; omega)
  have lp : ∀ (n s : Nat) (y : Mem), (s : Int) + n = ρ 0 1 → Ex C_lr m y → (w = 3 → ρ 0 1 ≤ 6 ∧ MnM y ρ 3 (ρ 0 1).toNat) → RowM y ρ w l s → S_X8_laysRow sc d 20 [aR 62, aI w, aI l, aI (uR ρ w l s), aI s, aU, aU] [] y (fun v z => v = none ∧ Ex C_lr m z ∧ RowM z ρ w l (ρ 0 1).toNat) := by
    intro n
    induction n with
    | zero =>
      intro s y hs he hc hR
      refine g_X8_laysRow_20 (p_X8_laysRow_23 (d2 := d - 1) (s_seamMany (mrm y he)) (by omega) ?_)
      rintro _ y ⟨e, rfl⟩; cases e
      exact g_X8_laysRow_26 ⟨by omega, by omega, fun _ => ⟨rfl, he, by rw [show (ρ 0 1).toNat = s by omega]; exact hR⟩, fun c => absurd (by omega) c⟩
    | succ n ih =>
      intro s y hs he hc hR
      have ub := row_bd (w := w) hb hl9 s (by omega)
      have vb := us_bd (w := w) hb hl9 (s := s) (by omega)
      have ts := (hb.2.2.2.1 s (by omega)).1
      have c01 := chA_01 (w := w) (l := l) hb hr kw.2 hl9 (s := s) (by omega)
      have m01 := mdA_01 (ρ := ρ) (w := w) (l := l) s
      -- behind the change
      have tl : ∀ y2 : Mem, Ex (fun a j => C_it a j ∨ ((a = 107 ∨ a = 108) ∧ j = s) ∨ (a = 62 ∧ j = 64)) y y2 → y2 107 s = usA ρ w l s → y2 108 s = chA ρ w l s → y2 62 64 = coA ρ w l s + lkF ρ w (uR ρ w l s) + chA ρ w l s * ρ 7 0 → S_X8_laysRow sc d 113 [aR 62, aI w, aI l, aI (usA ρ w l s), aI s, aU, aU] [aI s, aR 62, aI (usA ρ w l s)] y2 (fun v z => v = none ∧ Ex C_lr m z ∧ RowM z ρ w l (ρ 0 1).toNat) := by
        intro y2 y2E y7 y8 y64
        have y2A : Ex C_lr m y2 := he.trans (y2E.mono (fun a j q => by unfold C_it at q; unfold C_lr C_me C_it; omega))
        refine p_X8_laysRow_113 (d2 := d - 1) (s_takesOf (mrm y2 y2A) hb (by omega)) (by omega) ?_
        rintro _ y2 ⟨e, rfl⟩; cases e
        have me : (if (if l < usA ρ w l s + ρ 3 s then 0 else 1 : Int) = 0 then 1 else 0 : Int) = mdA ρ w l s := by
          unfold mdA
          by_cases c : l < usA ρ w l s + ρ 3 s
          · rw [if_pos c, if_pos rfl, if_neg (by omega)]
          · rw [if_neg c, if_neg (by decide), if_pos (by omega)]
        have nxt : ∀ y4 : Mem, Ex (fun a j => a = 109 ∧ j = s ∨ (a = 62 ∧ j = 64)) y2 y4 → y4 109 s = mdA ρ w l s → y4 62 64 = coA ρ w l (s + 1) → S_X8_laysRow sc d 20 [aR 62, aI w, aI l, aI (uR ρ w l (s + 1)), aI ((s : Int) + 1), aU, aU] [] y4 (fun v z => v = none ∧ Ex C_lr m z ∧ RowM z ρ w l (ρ 0 1).toNat) := fun y4 y4E y49 y464 => by
          refine ih (s + 1) y4 (by omega) (y2A.trans (y4E.mono (fun a j q => by unfold C_lr; omega))) (fun q => ⟨(hc q).1, fun i hi => ?_⟩) ⟨fun i hi => ?_, y464⟩
          · have g := (hc q).2 i hi
            have fr : ∀ a j : Int, 104 ≤ a → a ≤ 106 → y4 a j = y a j := fun a j q1 q2 => (y4E a j (by omega)).trans (y2E a j (by unfold C_it; omega))
            exact ⟨⟨by rw [fr 104 _ (by decide) (by decide)]; exact g.1.1, by rw [fr 105 _ (by decide) (by decide)]; exact g.1.2⟩, fun u h1 h2 => by rw [fr 106 _ (by decide) (by decide)]; exact g.2 u h1 h2⟩
          · by_cases e : i = s
            · rw [e]
              exact ⟨(y4E 107 s (by omega)).trans y7, (y4E 108 s (by omega)).trans y8, y49⟩
            · obtain ⟨a0, a1, a2⟩ := hR.1 i (by omega)
              have fr : ∀ a : Int, 107 ≤ a → a ≤ 109 → y4 a i = y a i := fun a q1 q2 => (y4E a i (by omega)).trans (y2E a i (by unfold C_it; omega))
              exact ⟨(fr 107 (by decide) (by decide)).trans a0, (fr 108 (by decide) (by decide)).trans a1, (fr 109 (by decide) (by decide)).trans a2⟩
        have co : coA ρ w l (s + 1) = coA ρ w l s + lkF ρ w (uR ρ w l s) + ((chA ρ w l s + mdA ρ w l s) * ρ 7 0 + mdA ρ w l s * ρ 7 1) := rfl
        refine g_X8_laysRow_116 ?_
        rw [me]
        have y3E : Ex (fun a j => a = 109 ∧ j = s ∨ (a = 62 ∧ j = 64)) y2 (wr y2 109 s (mdA ρ w l s)) := (Ex.refl _ _).put (Or.inl ⟨rfl, rfl⟩)
        have y39 : wr y2 109 s (mdA ρ w l s) 109 s = mdA ρ w l s := wr_eq _ _ _ _
        have y364 : wr y2 109 s (mdA ρ w l s) 62 64 = y2 62 64 := wr_na _ _ _ _ _ _ (by decide)
        generalize wr y2 109 s (mdA ρ w l s) = y3 at y3E y39 y364 ⊢
        have y3A : Ex C_lr m y3 := y2A.trans (y3E.mono (fun a j q => by unfold C_lr; omega))
        refine ⟨by omega, by omega, by split <;> omega, by omega, by omega, by split <;> omega, fun c => ⟨fun c2 => absurd c2 c, fun _ => ?_⟩, fun c => ?_⟩
        · have lt : ¬ l < usA ρ w l s + ρ 3 s := fun q => c (if_pos q)
          have md0 : mdA ρ w l s = 0 := by unfold mdA; rw [if_pos (by omega)]
          refine p_X8_laysRow_179 (d2 := d - 1) (s_takesOf (mrm y3 y3A) hb (by omega)) (by omega) ?_
          rintro _ y3 ⟨e, rfl⟩; cases e
          refine g_X8_laysRow_182 ?_
          have e1 : uR ρ w l (s + 1) = usA ρ w l s + ρ 3 s := by rw [uR_succ, if_pos (by omega)]
          rw [← e1]
          refine nxt y3 y3E y39 ?_
          rw [y364, y64, co, md0, Int.add_zero, Int.zero_mul, Int.add_zero]
        · have lt : l < usA ρ w l s + ρ 3 s := by
            by_cases g : l < usA ρ w l s + ρ 3 s
            · exact g
            · rw [if_neg g] at c
              exact absurd (by decide) c
          rw [if_pos lt]
          have md1 : mdA ρ w l s = 1 := by unfold mdA; rw [if_neg (by omega)]
          refine p_X8_laysRow_157 (d2 := d - 1) (s_settingOf (i := 1) (mrm y3 y3A) (by omega)) (by omega) ?_
          rintro _ y3 ⟨e, rfl⟩; cases e
          refine g_X8_laysRow_160 (p_X8_laysRow_162 (d2 := d - 1) (s_settingOf (i := 0) (mrm y3 y3A) (by omega)) (by omega) ?_)
          rintro _ y3 ⟨e, rfl⟩; cases e
          refine g_X8_laysRow_165 ⟨by omega, fun _ => ?_, fun q => absurd rfl q⟩
          have e1 : uR ρ w l (s + 1) = 0 := by rw [uR_succ, if_neg (by omega)]
          have g := nxt (wr y3 62 64 (y3 62 64 + (ρ 7 1 + ρ 7 0))) (y3E.put (Or.inr ⟨rfl, rfl⟩)) (by rw [wr_na _ _ _ _ _ _ (by decide)]; exact y39) ?_
          · rw [e1] at g
            exact g
          · rw [wr_eq, y364, y64, co, md1, Int.add_mul, Int.one_mul, Int.one_mul]
            omega
      refine g_X8_laysRow_20 (p_X8_laysRow_23 (d2 := d - 1) (s_seamMany (mrm y he)) (by omega) ?_)
      rintro _ y ⟨e, rfl⟩; cases e
      -- whether one changes
      have mid : ∀ y1 : Mem, Ex (fun a j => a = 62 ∧ j = 64) y y1 → y1 62 64 = coA ρ w l s + lkF ρ w (uR ρ w l s) → S_X8_laysRow sc d 58 [aR 62, aI w, aI l, aI (uR ρ w l s), aI s, aU, aU] [aI l, aI (uR ρ w l s), aI s, aI w, aR 62] y1 (fun v z => v = none ∧ Ex C_lr m z ∧ RowM z ρ w l (ρ 0 1).toNat) := by
        intro y1 y1E y164
        have y1A : Ex C_lr m y1 := he.trans (y1E.mono (fun a j q => by unfold C_lr; omega))
        refine p_X8_laysRow_58 (d2 := d - 1) (s_changesAt (w := w) (s := s) (u := uR ρ w l s) (l := l) (mrm y1 y1A) hb hr (mrl y1 y1A) kw (by omega) ⟨by omega, by omega⟩ ⟨by omega, by omega⟩ (by omega) (fun q => ⟨(hc q).1, fun i hi => ?_⟩)) (by omega) ?_
        · have g := (hc q).2 i hi
          exact ⟨⟨by rw [y1E 104 _ (by omega)]; exact g.1.1, by rw [y1E 105 _ (by omega)]; exact g.1.2⟩, fun u h1 h2 => by rw [y1E 106 _ (by omega)]; exact g.2 u h1 h2⟩
        · rintro _ y2 ⟨y2E, e⟩; cases e
          rw [show tnF ρ w s (uR ρ w l s) l = chA ρ w l s from rfl]
          have y2A : Ex (fun a j => C_it a j ∨ ((a = 107 ∨ a = 108) ∧ j = s) ∨ (a = 62 ∧ j = 64)) y y2 := (y1E.mono (fun a j q => Or.inr (Or.inr q))).trans (y2E.mono (fun a j q => Or.inl q))
          have y264 : y2 62 64 = coA ρ w l s + lkF ρ w (uR ρ w l s) := (y2E 62 64 (by unfold C_it; omega)).trans y164
          have y2B : Ex C_lr m y2 := y1A.trans (y2E.mono (fun a j q => by unfold C_it at q; unfold C_lr C_me C_it; omega))
          refine g_X8_laysRow_61 ⟨by omega, fun c => ⟨by omega, by omega, ?_⟩, fun c => ?_⟩
          · have ue : usA ρ w l s = uR ρ w l s := by unfold usA; rw [if_pos c]
            rw [if_pos c, ← ue]
            refine tl _ ((y2A.put (Or.inr (Or.inl ⟨Or.inl rfl, rfl⟩))).put (Or.inr (Or.inl ⟨Or.inr rfl, rfl⟩))) ?_ ?_ ?_
            · rw [wr_na _ _ _ _ _ _ (by decide), wr_eq]
            · rw [wr_eq, c]
            · rw [wr_na _ _ _ _ _ _ (by decide), wr_na _ _ _ _ _ _ (by decide), y264, c, Int.zero_mul, Int.add_zero]
          · have ue : usA ρ w l s = 0 := by unfold usA; rw [if_neg c]
            have c1 : chA ρ w l s = 1 := by omega
            refine p_X8_laysRow_75 (d2 := d - 1) (s_settingOf (i := 0) (mrm y2 y2B) (by omega)) (by omega) ?_
            rintro _ y2 ⟨e, rfl⟩; cases e
            refine g_X8_laysRow_78 ⟨by omega, by omega, by omega, ?_⟩
            rw [if_neg c]
            have g := tl (wr (wr (wr y2 62 64 (y2 62 64 + ρ 7 ((0 : Nat) : Int))) 107 s 0) 108 s 1) (((y2A.put (Or.inr (Or.inr ⟨rfl, rfl⟩))).put (Or.inr (Or.inl ⟨Or.inl rfl, rfl⟩))).put (Or.inr (Or.inl ⟨Or.inr rfl, rfl⟩))) ?_ ?_ ?_
            · rw [ue] at g
              exact g
            · rw [wr_na _ _ _ _ _ _ (by decide), wr_eq, ue]
            · rw [wr_eq, c1]
            · rw [wr_na _ _ _ _ _ _ (by decide), wr_na _ _ _ _ _ _ (by decide), wr_eq, y264, c1, Int.one_mul]
              rfl
      have l0 : (w ≠ 2 ∨ uR ρ w l s ≤ 0) → lkF ρ w (uR ρ w l s) = 0 := fun q => by unfold lkF; rw [if_neg (by omega)]
      refine g_X8_laysRow_26 ⟨by omega, by omega, fun c => absurd c (by omega), fun _ => ⟨by omega, fun c => mid y (Ex.refl _ _) (by rw [l0 (Or.inl c), Int.add_zero]; exact hR.2), fun c => ⟨by omega, fun c2 => mid y (Ex.refl _ _) (by rw [l0 (Or.inr c2), Int.add_zero]; exact hR.2), fun c2 => ?_⟩⟩⟩
      refine p_X8_laysRow_45 (d2 := d - 1) (s_settingOf (i := 2) (mrm y he) (by omega)) (by omega) ?_
      rintro _ y ⟨e, rfl⟩; cases e
      refine g_X8_laysRow_48 (mid _ ((Ex.refl _ _).put ⟨rfl, rfl⟩) ?_)
      rw [wr_eq, hR.2]
      unfold lkF
      rw [if_pos ⟨Classical.not_not.mp c, by omega⟩]
      rfl
  have st : ∀ z : Mem, Ex C_lr m z → (w = 3 → ρ 0 1 ≤ 6 ∧ MnM z ρ 3 (ρ 0 1).toNat) → S_X8_laysRow sc d 10 [aR 62, aI w, aI l, aU, aU, aU, aU] [] z (fun v z => v = none ∧ Ex C_lr m z ∧ RowM z ρ w l (ρ 0 1).toNat) := fun z he hc => by
    refine g_X8_laysRow_10 (lp (ρ 0 1).toNat 0 _ (by omega) (he.put (Or.inr (Or.inr (Or.inr (Or.inr ⟨rfl, rfl⟩))))) (fun q => ⟨(hc q).1, fun i hi => ?_⟩) ⟨fun i hi => by omega, wr_eq _ _ _ _⟩)
    have g := (hc q).2 i hi
    exact ⟨⟨by rw [wr_na _ _ _ _ _ _ (by decide)]; exact g.1.1, by rw [wr_na _ _ _ _ _ _ (by decide)]; exact g.1.2⟩, fun u h1 h2 => by rw [wr_na _ _ _ _ _ _ (by decide)]; exact g.2 u h1 h2⟩
  refine ep_X8_laysRow (g_X8_laysRow_0 ⟨by omega, fun c => st m (Ex.refl _ _) (fun q => absurd q c), fun c => ?_⟩)
  have c3 : w = 3 := Classical.not_not.mp c
  refine p_X8_laysRow_7 (d2 := d - 1) (s_means (w := 3) h hb hr hl h3 (hw.2.2.2 c3) (Or.inl ⟨rfl, by decide, by omega⟩) (by omega)) (by omega) ?_
  rintro z ⟨-, g1, g2⟩
  exact st z (g1.mono (fun a j q => Or.inl q)) (fun _ => ⟨hw.2.2.2 c3, g2⟩)
end RJ
