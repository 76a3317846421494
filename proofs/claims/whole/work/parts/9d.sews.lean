/-! pair: sews -/
section PW
variable {sc : List Int} {Ca : Mem → Mem → Prop} {d : Nat} {m ρ : Mem} {w : Int}
/-- so many seams by a sewer -/
def SwR (ρ : Mem) (w : Int) : Nat → (Int → Int) → (Int → Int) → Int → Prop
  | 0, f, g, t => StE f g ∧ t = 0
  | i + 1, f, g, t => ∃ (h : Int → Int) (t1 t2 : Int), SwR ρ w i f h t1 ∧ StR ρ (tnF ρ w (h 0).toNat (h 1) (h 2)) h g t2 ∧ t = t1 + lkF ρ w (h 1) + t2
theorem SwR.eq (hb : RmB ρ) : ∀ (i : Nat) (f f' g g' : Int → Int) (t t' : Int), StE f f' → SwR ρ w i f g t → SwR ρ w i f' g' t' → StE g g' ∧ t = t' := by
  intro i
  induction i with
  | zero =>
    rintro f f' g g' t t' e ⟨h1, rfl⟩ ⟨h2, rfl⟩
    exact ⟨h1.symm.trans (e.trans h2), rfl⟩
  | succ i ih =>
    rintro f f' g g' t t' e ⟨h, t1, t2, a1, a2, rfl⟩ ⟨h', t1', t2', b1, b2, rfl⟩
    obtain ⟨eh, rfl⟩ := ih _ _ _ _ _ _ e a1 b1
    rw [← eh.1, ← eh.2.1, ← eh.2.2.1] at b2
    obtain ⟨eg, rfl⟩ := StR.eq hb eh a2 b2
    exact ⟨eg, by rw [eh.2.1]⟩
theorem SwR.ok (hb : RmB ρ) : ∀ (i : Nat) (f g : Int → Int) (t : Int), StV ρ f → f 0 + i ≤ ρ 0 1 → SwR ρ w i f g t → StV ρ g ∧ g 0 = f 0 + i ∧ 0 ≤ t ∧ t ≤ 400 * i := by
  intro i
  induction i with
  | zero =>
    rintro f g t v h0 ⟨e, rfl⟩
    exact ⟨v.congr e, by rw [← e.1]; omega, by omega, by omega⟩
  | succ i ih =>
    rintro f g t v h0 ⟨h, t1, t2, a1, a2, rfl⟩
    obtain ⟨v1, e0, b1⟩ := ih _ _ _ v (by omega) a1
    have k := a2.ok hb (by omega) v1
    have g0 : g 0 = h 0 + 1 := by
      obtain ⟨p, u1, u2, ⟨⟨c0, -⟩, -⟩, ⟨⟨c1, -⟩, -⟩, -⟩ := a2
      omega
    have m2 := (ch_min hb).2.2
    have lk : 0 ≤ lkF ρ w (h 1) ∧ lkF ρ w (h 1) ≤ 99 := by unfold lkF; split <;> omega
    exact ⟨k.1, by omega, by omega, by omega⟩
def C_xs (r a j : Int) : Prop := C_wx r a ∨ C_sx a j
theorem l_X7_sews {r : Int} {z1 : Mem} (H : RoomAt r) (h : XRm z1 r ρ) (hb : RmB ρ) (hr : RlB ρ) (hl : XRl z1 r ρ) (hw : 0 ≤ w ∧ w < 4 + ρ 0 2) (hd : 6 ≤ d) (hc : w = 3 → ρ 0 1 ≤ 6 ∧ FrX z1 ρ 3 (ρ 0 1).toNat) (h02 : z1 0 2 = r) (hv : StV ρ (z1 57)) (h5 : 0 ≤ z1 57 5 ∧ z1 57 5 ≤ 9999) {n : Nat} (hn : z1 57 0 + n = ρ 0 1) {Q : Option AV → Mem → Prop}
    (k : ∀ z t, Ex (fun a j => C_xs r a j ∨ (a = 57 ∧ j = 5)) z1 z → SwR ρ w n (z1 57) (z 57) t → z 57 5 = capF (z1 57 5) t → Q (some (aI t)) z) :
    S_X7_sews sc d 58 [aR 0, aI w, aU, aU, aU] [] z1 Q := by
  have b0 := hb.1
  have hrb := room_bd H
  have hv0 : 0 ≤ z1 57 0 := hv.1.1
  refine g_X7_sews_58 ?_
  have lp : ∀ (j i : Nat) (z : Mem) (t : Int), i + j = n → Ex (C_xs r) z1 z → SwR ρ w i (z1 57) (z 57) t → S_X7_sews sc d 68 [aR 0, aI w, aI t, aI (z 57 0), aU] [] z Q := by
    intro j
    induction j with
    | zero =>
      intro i z t hi he hs
      obtain rfl : i = n := by omega
      have ok := SwR.ok hb i _ _ _ hv (by omega) hs
      have hz : XRm z r ρ := h.ex2 (fun a j q1 q2 q3 => he a j (fun q => by unfold C_xs C_wx C_sx at q; omega))
      have e02 : z 0 2 = r := (he 0 2 (by unfold C_xs C_wx C_sx; omega)).trans h02
      have e8 := hz.1.2.1
      have z5 : z 57 5 = z1 57 5 := he 57 5 (by unfold C_xs C_wx C_sx; omega)
      refine g_X7_sews_68 ?_
      rw [e02]
      refine ⟨H, by omega, by omega, fun _ => ?_, fun c => absurd (by omega) c⟩
      refine p_X7_sews_153 (d2 := d - 1) (s_pay (by omega) (by rw [z5]; unfold R32; omega)) (by omega) ?_
      rintro y ⟨-, rfl⟩
      rw [z5]
      refine g_X7_sews_156 (k _ t ((he.mono (fun a j q => Or.inl q)).put (Or.inr ⟨rfl, rfl⟩)) ?_ (wr_eq _ _ _ _))
      have fr : ∀ q : Int, q ≠ 5 → wr z 57 5 (capF (z1 57 5) t) 57 q = z 57 q := fun q hq => wr_ne _ _ _ _ _ _ (by omega)
      -- the end day, but for its cost
      generalize wr z 57 5 (capF (z1 57 5) t) = y at fr ⊢
      have eE : StE (z 57) (y 57) := ⟨(fr 0 (by decide)).symm, (fr 1 (by decide)).symm, (fr 2 (by decide)).symm, (fr 3 (by decide)).symm, (fr 4 (by decide)).symm, (fr 6 (by decide)).symm⟩
      match i, hs with
      | 0, hs => exact ⟨hs.1.trans eE, hs.2⟩
      | i + 1, ⟨hh, t1, t2, a1, a2, a3⟩ =>
        refine ⟨hh, t1, t2, a1, ?_, a3⟩
        obtain ⟨p, u1, u2, x1, ⟨⟨c0, c3⟩, x2⟩, x3⟩ := a2
        refine ⟨p, u1, u2, x1, ⟨⟨by rw [fr 0 (by decide)]; exact c0, by rw [fr 3 (by decide)]; exact c3⟩, ?_⟩, x3⟩
        rw [fr 1 (by decide), fr 2 (by decide), fr 4 (by decide), fr 6 (by decide)]
        exact x2
    | succ j ih =>
      intro i z t hi he hs
      have ok := SwR.ok hb i _ _ _ hv (by omega) hs
      obtain ⟨v0, v1, v3, v4, v6⟩ := ok.1
      have hz : XRm z r ρ := h.ex2 (fun a j q1 q2 q3 => he a j (fun q => by unfold C_xs C_wx C_sx at q; omega))
      have hzl : XRl z r ρ := ⟨fun k hk => by rw [he _ _ (fun q => by unfold C_xs C_wx C_sx at q; omega)]; exact hl.1 k hk, fun j hj => by rw [he _ _ (fun q => by unfold C_xs C_wx C_sx at q; omega)]; exact hl.2 j hj⟩
      have hzc : w = 3 → ρ 0 1 ≤ 6 ∧ FrX z ρ 3 (ρ 0 1).toNat := fun q => ⟨(hc q).1, fun i hi => by rw [he 38 _ (fun q => by unfold C_xs C_wx C_sx at q; omega)]; exact (hc q).2 i hi⟩
      have e02 : z 0 2 = r := (he 0 2 (by unfold C_xs C_wx C_sx; omega)).trans h02
      have e8 := hz.1.2.1
      obtain ⟨s, hs0⟩ := Int.eq_ofNat_of_zero_le v0.1
      have hs0' : z 57 0 = (s : Int) := hs0
      have sl : (s : Int) < ρ 0 1 := by omega
      refine g_X7_sews_68 ?_
      rw [e02]
      refine ⟨H, by omega, by omega, fun c => absurd c (by omega), fun _ => ?_⟩
      refine p_X7_sews_92 (d2 := d - 1) H (s_lookCost H hz ⟨by omega, by omega⟩ ⟨by omega, by omega⟩) (by omega) ?_
      rintro _ z ⟨e, rfl⟩; cases e
      refine g_X7_sews_95 ?_
      rw [e02, hs0']
      refine p_X7_sews_121 (d2 := d - 1) H (s_X0_turns (w := w) (s := s) (u := z 57 1) (l := z 57 2) H hz hb hr hzl hw sl ⟨by omega, by omega⟩ ⟨by omega, by omega⟩ (by omega) hzc) (by omega) ?_
      rintro _ y ⟨ye, e⟩; cases e
      have t01 := tnF_01 (w := w) (u := z 57 1) (l := z 57 2) (s := s) hb hr hw.2 sl ⟨by omega, by omega⟩
      have y57 : y 57 = z 57 := funext fun j => ye 57 j (by unfold C_wx; omega)
      have y02 : y 0 2 = r := (ye 0 2 (by unfold C_wx; omega)).trans e02
      refine g_X7_sews_124 ?_
      rw [y02]
      refine p_X7_sews_137 (d2 := d - 1) H (s_stitch (s := s) H (ex_wx H hz ye) hb (by unfold R32; omega) sl (by rw [y57]; exact hs0') (by rw [y57]; exact ⟨v0, v1, v3, v4, v6⟩) (by omega)) (by omega) ?_
      rintro t2 u ⟨t2', e, ue, hR⟩; cases e
      rw [y57] at hR
      refine g_X7_sews_140 ?_
      have u0 : u 57 0 = (s : Int) + 1 := by
        obtain ⟨p, u1, u2, ⟨⟨c0, -⟩, -⟩, ⟨⟨c1, -⟩, -⟩, -⟩ := hR
        omega
      have g := ih (i + 1) u (t + lkF ρ w (z 57 1) + t2) (by omega) ((he.trans (ye.mono (fun a j q => Or.inl q))).trans (ue.mono (fun a j q => Or.inr q))) ⟨z 57, t, t2, hs, by rw [show (z 57 0).toNat = s by omega]; exact hR, rfl⟩
      rw [u0] at g
      exact g
  exact lp n 0 z1 0 (by omega) (Ex.refl _ _) ⟨StE.ex (fun _ _ _ => rfl), rfl⟩
def C_ms (a j : Int) : Prop := C_it a j ∨ C_sm a j ∨ (a = 62 ∧ j = 87)
theorem l_X8_sews {z1 : Mem} (h : MRm z1 ρ) (hb : RmB ρ) (hr : RlB ρ) (hl : MRl z1 ρ) (hw : 0 ≤ w ∧ w < 4 + ρ 0 2) (hd : 6 ≤ d) (hc : w = 3 → ρ 0 1 ≤ 6 ∧ MnM z1 ρ 3 (ρ 0 1).toNat) (hv : StV ρ (dyM z1)) (h5 : 0 ≤ z1 124 5 ∧ z1 124 5 ≤ 9999) {n : Nat} (hn : z1 124 0 + n = ρ 0 1) {Q : Option AV → Mem → Prop}
    (k : ∀ z t, Ex C_ms z1 z → SwR ρ w n (dyM z1) (dyM z) t → z 124 5 = capF (z1 124 5) t → Q (some (aI t)) z) :
    S_X8_sews sc d 34 [aR 62, aI w, aU] [] z1 Q := by
  have b0 := hb.1
  refine g_X8_sews_34 ?_
  have lp : ∀ (j i : Nat) (z : Mem) (t : Int), i + j = n → Ex C_ms z1 z → SwR ρ w i (dyM z1) (dyM z) t → z 124 5 = capF (z1 124 5) t → z 62 86 = t → S_X8_sews sc d 39 [aR 62, aI w, aU] [] z Q := by
    intro j
    induction j with
    | zero =>
      intro i z t hi he hs z5 z86
      obtain rfl : i = n := by omega
      have ok := SwR.ok hb i _ _ _ hv (by rw [dyM_0]; omega) hs
      have z0 : z 124 0 = ρ 0 1 := by have := ok.2.1; rw [dyM_0, dyM_0] at this; omega
      have hz : MRm z ρ := h.ex he (fun a j q c => by unfold C_ms C_it C_sm at c; omega)
      refine g_X8_sews_39 (p_X8_sews_40 (d2 := d - 1) (s_isLeft hz hb (by omega) (by rw [z0]; unfold R32; omega)) (by omega) ?_)
      rintro _ z ⟨e, rfl⟩; cases e
      rw [if_pos (by omega)]
      refine g_X8_sews_43 ⟨by omega, fun _ => ?_, fun c => absurd rfl c⟩
      rw [z86]
      exact k z t he hs z5
    | succ j ih =>
      intro i z t hi he hs z5 z86
      have ok := SwR.ok hb i _ _ _ hv (by rw [dyM_0]; omega) hs
      obtain ⟨v0, v1, v3, v4, v6⟩ := ok.1
      have o1 := ok.2.1
      rw [dyM_0] at v0 o1
      rw [dyM_1, dyM_2] at v1
      rw [dyM_0] at o1
      obtain ⟨s, hs0⟩ := Int.eq_ofNat_of_zero_le v0.1
      have hs0' : z 124 0 = (s : Int) := hs0
      have sl : (s : Int) < ρ 0 1 := by omega
      have hz : MRm z ρ := h.ex he (fun a j q c => by unfold C_ms C_it C_sm at c; omega)
      have m2 := (ch_min hb).2.2
      have lkb : 0 ≤ lkF ρ w (z 124 1) ∧ lkF ρ w (z 124 1) ≤ 99 := by unfold lkF; split <;> omega
      have cpb : ∀ c : Int, 0 ≤ c → 0 ≤ capF (z1 124 5) c ∧ capF (z1 124 5) c ≤ 9999 := fun c h0 => by unfold capF; split <;> omega
      have c5 := cpb t (by omega)
      -- behind the look
      have mid : ∀ y : Mem, Ex (fun a j => (a = 124 ∧ j = 5) ∨ (a = 62 ∧ j = 86)) z y → y 124 5 = capF (z1 124 5) (t + lkF ρ w (z 124 1)) → y 62 86 = t + lkF ρ w (z 124 1) → S_X8_sews sc d 69 [aR 62, aI w, aU] [] y Q := by
        intro y ye y5 y86
        have yk : ∀ q : Int, q ≠ 5 → y 124 q = z 124 q := fun q hq => ye 124 q (by omega)
        have yD : StE (dyM z) (dyM y) := ⟨(yk 0 (by decide)).symm, (yk 1 (by decide)).symm, (yk 2 (by decide)).symm, (yk 3 (by decide)).symm, (yk 4 (by decide)).symm, (ye 62 85 (by omega)).symm⟩
        have yA : Ex C_ms z1 y := he.trans (ye.mono (fun a j q => by unfold C_ms C_sm; omega))
        have hy : MRm y ρ := h.ex yA (fun a j q c => by unfold C_ms C_it C_sm at c; omega)
        have hyl : MRl y ρ := hl.ex yA (fun a j q => by unfold C_ms C_it C_sm at q; omega)
        refine g_X8_sews_69 ?_
        rw [yk 0 (by decide), yk 1 (by decide), yk 2 (by decide), hs0']
        refine p_X8_sews_89 (d2 := d - 1) (s_changesAt (w := w) (s := s) (u := z 124 1) (l := z 124 2) hy hb hr hyl hw sl ⟨by omega, by omega⟩ ⟨by omega, by omega⟩ (by omega) (fun q => ⟨(hc q).1, fun i hi => ?_⟩)) (by omega) ?_
        · have g := (hc q).2 i hi
          exact ⟨g.1.ex yA (fun a j q => by unfold C_ms C_it C_sm at q; omega), g.2.ex yA (fun a j q => by unfold C_ms C_it C_sm at q; omega)⟩
        rintro _ x1 ⟨xe, e⟩; cases e
        have t01 := tnF_01 (w := w) (u := z 124 1) (l := z 124 2) (s := s) hb hr hw.2 sl ⟨by omega, by omega⟩
        have xk : ∀ q : Int, x1 124 q = y 124 q := fun q => xe 124 q (by unfold C_it; omega)
        have x85 : x1 62 85 = y 62 85 := xe 62 85 (by unfold C_it; omega)
        have x86 : x1 62 86 = y 62 86 := xe 62 86 (by unfold C_it; omega)
        have xD : StE (dyM y) (dyM x1) := ⟨(xk 0).symm, (xk 1).symm, (xk 2).symm, (xk 3).symm, (xk 4).symm, x85.symm⟩
        have xA : Ex C_ms z1 x1 := yA.trans (xe.mono (fun a j q => Or.inl q))
        have c5' := cpb (t + lkF ρ w (z 124 1)) (by omega)
        refine g_X8_sews_92 (p_X8_sews_96 (d2 := d - 1) (s_isSewn (s := s) (h.ex xA (fun a j q c => by unfold C_ms C_it C_sm at c; omega)) hb (by unfold R32; omega) sl (by rw [xk, yk 0 (by decide)]; exact hs0') ((ok.1.congr yD).congr xD) (by rw [xk, y5]; exact c5') (by omega)) (by omega) ?_)
        rintro _ u ⟨t2, e, ue, hR, u5, u86⟩; cases e
        have hR2 : StR ρ (tnF ρ w s (z 124 1) (z 124 2)) (dyM z) (dyM u) t2 := by
          obtain ⟨p, a1, a2, ⟨⟨p0, p4⟩, pp⟩, b, e⟩ := hR
          have E := yD.trans xD
          refine ⟨p, a1, a2, ⟨⟨by rw [E.1]; exact p0, by rw [E.2.2.2.2.1]; exact p4⟩, ?_⟩, b, e⟩
          rw [E.2.1, E.2.2.1, E.2.2.2.1, E.2.2.2.2.2]
          exact pp
        have tb := hR2.ok hb (by rw [dyM_0]; omega) ok.1
        refine g_X8_sews_99 ⟨by split <;> omega, ?_⟩
        have wE : Ex (fun a j => a = 62 ∧ j = 87) u (wr u 62 87 (if u 124 4 = x1 124 4 then 0 else 1)) := (Ex.refl _ _).put ⟨rfl, rfl⟩
        generalize wr u 62 87 (if u 124 4 = x1 124 4 then 0 else 1) = u2 at wE ⊢
        have u2D : dyM u2 = dyM u := by
          funext q
          unfold dyM
          rw [wE 62 85 (by omega), wE 124 q (by omega)]
        refine ih (i + 1) u2 (t + lkF ρ w (z 124 1) + t2) (by omega) ((xA.trans (ue.mono (fun a j q => Or.inr (Or.inl q)))).trans (wE.mono (fun a j q => Or.inr (Or.inr q)))) ⟨dyM z, t, t2, hs, ?_, rfl⟩ ?_ ?_
        · rw [u2D, dyM_0, dyM_1, dyM_2, show (z 124 0).toNat = s by omega]
          exact hR2
        · rw [wE 124 5 (by omega), u5, xk, y5, capF_capF (by omega) (by omega)]
        · rw [wE 62 86 (by omega), u86, x86, y86]
      have l0 : (w ≠ 2 ∨ z 124 1 ≤ 0) → lkF ρ w (z 124 1) = 0 := fun q => by unfold lkF; rw [if_neg (by omega)]
      refine g_X8_sews_39 (p_X8_sews_40 (d2 := d - 1) (s_isLeft hz hb (by omega) (by rw [hs0']; unfold R32; omega)) (by omega) ?_)
      rintro _ z ⟨e, rfl⟩; cases e
      rw [if_neg (by omega)]
      refine g_X8_sews_43 ⟨by omega, fun c => absurd c (by decide), fun _ => ⟨by omega, fun c => mid z (Ex.refl _ _) (by rw [l0 (Or.inl c), Int.add_zero]; exact z5) (by rw [l0 (Or.inl c), Int.add_zero]; exact z86), fun c => ⟨by omega, fun c2 => mid z (Ex.refl _ _) (by rw [l0 (Or.inr c2), Int.add_zero]; exact z5) (by rw [l0 (Or.inr c2), Int.add_zero]; exact z86), fun c2 => ?_⟩⟩⟩
      have lk : lkF ρ w (z 124 1) = ρ 7 2 := by unfold lkF; rw [if_pos ⟨Classical.not_not.mp c, by omega⟩]
      refine p_X8_sews_63 (d2 := d - 1) (s_settingOf (i := 2) hz (by omega)) (by omega) ?_
      rintro _ z ⟨e, rfl⟩; cases e
      refine g_X8_sews_66 (p_X8_sews_66 (d2 := d - 1) (s_costs (l := ρ 7 2) (by rw [z5]; unfold R32; omega)) (by omega) ?_)
      rintro y ⟨-, rfl⟩
      refine mid _ (((Ex.refl _ _).put (Or.inr ⟨rfl, rfl⟩)).put (Or.inl ⟨rfl, rfl⟩)) ?_ ?_
      · rw [wr_eq, z5, lk, capF_capF (by omega) (by omega)]
      · rw [wr_na _ _ _ _ _ _ (by decide), wr_eq, z86, lk]
  have yE : Ex C_ms z1 (wr z1 62 86 0) := (Ex.refl C_ms z1).put (Or.inr (Or.inl (Or.inr ⟨rfl, Or.inr rfl⟩)))
  have yk : ∀ q : Int, wr z1 62 86 0 124 q = z1 124 q := fun q => wr_na _ _ _ _ _ _ (by decide)
  refine lp n 0 (wr z1 62 86 0) 0 (by omega) yE ⟨⟨(yk 0).symm, (yk 1).symm, (yk 2).symm, (yk 3).symm, (yk 4).symm, (show z1 62 85 = wr z1 62 86 0 62 85 from (wr_ne _ _ _ _ _ _ (by omega)).symm)⟩, rfl⟩ ?_ (wr_eq _ _ _ _)
  rw [yk]
  unfold capF
  split <;> omega
end PW
