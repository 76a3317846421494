/-! pairs: looks, rule -/
section PR
variable {sc : List Int} {Ca : Mem → Mem → Prop} {d : Nat} {m ρ : Mem} {w : Int}
theorem ex_pr {r : Int} {z : Mem} (H : RoomAt r) (h : XRm m r ρ) (he : Ex (C_pr r) m z) : XRm z r ρ := h.ex2 (fun a j q1 q2 q3 => he a j (fun q => by have := room_bd H; unfold C_pr C_wx at q; omega))
theorem ex_prl {r : Int} {z : Mem} (H : RoomAt r) (hl : XRl m r ρ) (he : Ex (C_pr r) m z) : XRl z r ρ := ⟨fun k hk => by rw [he _ _ (fun q => by have := room_bd H; unfold C_pr C_wx at q; omega)]; exact hl.1 k hk, fun j hj => by rw [he _ _ (fun q => by have := room_bd H; unfold C_pr C_wx at q; omega)]; exact hl.2 j hj⟩
def lokF (ρ : Mem) (a : Int) : Int := if a = 0 then frC ρ (-2) (ρ 0 1).toNat else frC ρ 3 (ρ 0 1).toNat - frC ρ (-2) (ρ 0 1).toNat
def IsLok (ρ : Mem) (a v : Int) : Prop := (((0 < ρ 0 3 ∧ ρ 0 1 ≤ 6) ∧ 0 ≤ a ∧ a ≤ 1) ∧ v = (1000 * lokF ρ a).tdiv (HuF (ρ 0 1).toNat)) ∨ (¬ ((0 < ρ 0 3 ∧ ρ 0 1 ≤ 6) ∧ 0 ≤ a ∧ a ≤ 1) ∧ v = -1)
theorem lok_bd (hb : RmB ρ) (h3 : ρ 0 3 ≠ 0) (h6 : ρ 0 1 ≤ 6) (a : Int) : -2400 * HuF (ρ 0 1).toNat ≤ lokF ρ a ∧ lokF ρ a ≤ 2400 * HuF (ρ 0 1).toNat := by
  have f2 := fr_bd hb h3 h6 (-2)
  have f3 := fr_bd hb h3 h6 3
  unfold lokF
  split <;> omega
theorem s_X7_looks {a : Int} (h : Xt m ρ) (hr : RlB ρ) (hl : XRl m (m 0 2) ρ) (hc : ChC m ρ) (hd : 7 ≤ d) (ha : R32 a) : P_X7_looks sc d [aR 0, aI a] m (fun v z => Ex (C_pr (m 0 2)) m z ∧ ChC z ρ ∧ ∃ x, v = some (aI x) ∧ IsLok ρ a x) := by
  have hb := h.2.2
  have b0 := hb.1
  have H := h.1
  have hrb := room_bd H
  refine ep_X7_looks (g_X7_looks_0 (p_X7_looks_1 (d2 := d - 1) (s_weighs h) (by omega) ?_))
  rintro _ m ⟨rfl, ⟨e, q⟩ | ⟨e, q⟩⟩ <;> cases e
  · refine g_X7_looks_4 ⟨by omega, fun c => absurd c (by decide), fun _ => ⟨ha, fun c => ⟨Ex.refl _ _, hc, _, rfl, Or.inr ⟨fun p => by omega, rfl⟩⟩, fun c1 => ⟨fun c2 => ?_, fun c => ⟨Ex.refl _ _, hc, _, rfl, Or.inr ⟨fun p => by omega, rfl⟩⟩⟩⟩⟩
    have h3 : ρ 0 3 ≠ 0 := by omega
    have f2 := fr_bd hb h3 q.2 (-2)
    have f3 := fr_bd hb h3 q.2 3
    refine p_X7_looks_28 (d2 := d - 1) H (s_X0_expect (w := -2) H h.2.1 hb hr hl h3 q.2 (Or.inl rfl) hc (by omega)) (by omega) ?_
    rintro _ z ⟨rfl, h1, h2, h4⟩
    have e02 : z 0 2 = m 0 2 := h1 0 2 (by unfold C_pr C_wx; omega)
    have zc : ChC z ρ := ChC.of (Or.inl rfl) h2 h4
    refine ⟨_, rfl, g_X7_looks_31 ⟨ha, fun c => ?_, fun c => ?_⟩⟩
    · rw [e02]
      refine p_X7_looks_49 (d2 := d - 1) H (s_X0_expect (w := 3) H (ex_pr H h.2.1 h1) hb hr (ex_prl H hl h1) h3 q.2 (Or.inr ⟨by decide, by omega⟩) zc (by omega)) (by omega) ?_
      rintro _ y ⟨rfl, g1, g2, g4⟩
      refine ⟨_, rfl, g_X7_looks_52 ?_⟩
      rw [← Int.sub_mul]
      have bd : R64 ((frC ρ 3 (ρ 0 1).toNat - frC ρ (-2) (ρ 0 1).toNat) * HuF (6 - (ρ 0 1).toNat)) := by
        rw [Int.sub_mul]
        unfold R64
        omega
      refine p_X7_looks_54 (d2 := d - 1) (s_thousandths bd) (by omega) ?_
      rintro _ y' ⟨e, rfl⟩; cases e
      refine g_X7_looks_57 ⟨h1.trans g1, ChC.of (Or.inr ⟨by decide, by omega⟩) g2 g4, _, rfl, Or.inl ⟨⟨q, by omega, by omega⟩, ?_⟩⟩
      rw [th_eq (by omega)]
      unfold lokF
      rw [if_neg c]
    · refine p_X7_looks_54 (d2 := d - 1) (s_thousandths (by unfold R64; omega)) (by omega) ?_
      rintro _ y' ⟨e, rfl⟩; cases e
      refine g_X7_looks_57 ⟨h1, zc, _, rfl, Or.inl ⟨⟨q, by omega, by omega⟩, ?_⟩⟩
      rw [th_eq (by omega)]
      unfold lokF
      rw [if_pos (Classical.not_not.mp c)]
  · exact g_X7_looks_4 ⟨by omega, fun _ => ⟨Ex.refl _ _, hc, _, rfl, Or.inr ⟨fun p => q p.1, rfl⟩⟩, fun c => absurd rfl c⟩
theorem MnM.top {z : Mem} {w : Int} (h : MnM z ρ w (ρ 0 1).toNat) : z 104 0 = HuF (ρ 0 1).toNat ∧ z 105 0 = frC ρ w (ρ 0 1).toNat := by
  obtain ⟨⟨e4, e5⟩, -⟩ := h (ρ 0 1).toNat (Nat.le_refl _)
  rw [Nat.sub_self] at e4 e5
  exact ⟨e4, e5⟩
theorem s_X8_looks {a : Int} (h : MRm m ρ) (hb : RmB ρ) (hr : RlB ρ) (hl : MRl m ρ) (hd : 7 ≤ d) (ha : R32 a) : P_X8_looks sc d [aR 62, aI a] m (fun v z => Ex C_me m z ∧ ∃ x, v = some (aI x) ∧ IsLok ρ a x) := by
  have b0 := hb.1
  refine ep_X8_looks (g_X8_looks_0 (p_X8_looks_1 (d2 := d - 1) (s_areFew h hb (by omega)) (by omega) ?_))
  rintro _ m ⟨rfl, ⟨e, q⟩ | ⟨e, q⟩⟩ <;> cases e
  · refine g_X8_looks_4 ⟨by omega, fun c => absurd c (by decide), fun _ => ⟨ha, ?_⟩⟩
    refine p_X8_looks_11 (d2 := d - 1) (s_isIn ⟨by omega, by omega⟩ ⟨by omega, by omega⟩ ⟨by omega, by omega⟩) (by omega) ?_
    rintro _ m ⟨rfl, ⟨e, q2⟩ | ⟨e, q2⟩⟩ <;> cases e
    · have h3 : ρ 0 3 ≠ 0 := by omega
      have f2 := fr_bd hb h3 q.2 (-2)
      have f3 := fr_bd hb h3 q.2 3
      have lb := lok_bd hb h3 q.2 a
      have H := HuF_pos (ρ 0 1).toNat
      have Hb := HuF_le (S := (ρ 0 1).toNat) (by omega)
      refine g_X8_looks_14 ⟨by omega, fun _ => ?_, fun c => absurd (by decide) c⟩
      refine p_X8_looks_21 (d2 := d - 1) (s_means (w := 3) h hb hr hl h3 q.2 (Or.inl ⟨rfl, by decide, by omega⟩) (by omega)) (by omega) ?_
      rintro z ⟨-, h1, h2⟩
      refine g_X8_looks_24 ?_
      rw [h2.top.2]
      refine p_X8_looks_34 (d2 := d - 1) (s_means (wm := 100) (w := -2) (h.ex h1 (fun a j q c => by unfold C_me C_it at c; omega)) hb hr (hl.ex h1 (fun a j q => by unfold C_me C_it at q; omega)) h3 q.2 (Or.inr ⟨rfl, rfl⟩) (by omega)) (by omega) ?_
      rintro y ⟨-, g1, g2⟩
      obtain ⟨t4, t5⟩ := g2.top
      refine g_X8_looks_37 ?_
      rw [t4, t5]
      have e : (if a ≠ 0 then (frC ρ 3 (ρ 0 1).toNat - frC ρ (-2) (ρ 0 1).toNat) else frC ρ (-2) (ρ 0 1).toNat) = lokF ρ a := by
        unfold lokF
        by_cases c : a = 0
        · rw [if_pos c, if_neg (fun q => q c)]
        · rw [if_neg c, if_pos c]
      rw [e]
      exact ⟨ha, by omega, by omega, by omega, h1.trans g1, _, rfl, Or.inl ⟨⟨q, q2⟩, rfl⟩⟩
    · exact g_X8_looks_14 ⟨by omega, fun c => absurd rfl c, fun _ => ⟨Ex.refl _ _, _, rfl, Or.inr ⟨fun p => q2 p.2, rfl⟩⟩⟩
  · exact g_X8_looks_4 ⟨by omega, fun _ => ⟨Ex.refl _ _, _, rfl, Or.inr ⟨fun p => q p.1, rfl⟩⟩, fun c => absurd rfl c⟩
theorem pair_looks (hH : CaH Ca) (n : Nat) (m : Mem) (a0 : Int) (hn : n < 512) (hi : Inv Ca n m) (h0 : R32 a0) : PairI (Inv Ca) n m (P_X7_looks sc 1799 [aR 0, aI a0]) (P_X8_looks sc 1799 [aR 62, aI a0]) := by
  obtain ⟨ρ, nr, wd, hi, hc⟩ := hi
  have hb := hi.2.1
  obtain ⟨hr, hxl, hml⟩ := Xt.rl hi
  have H := hi.1.1
  refine pairI_c (A := IsLok ρ a0) hH hi hc (s_X7_looks hi.xt hr hxl (hH.1 m ρ hc) (by decide) h0) (fun z hz => s_X8_looks (hi.mrm.ex hz (fun a j q c => ?_)) hb hr (hml.ex hz (fun a j q => ?_)) (by decide) h0) (fun x y p q => ?_) (fun x p => ?_) (cpr_rel H) cme_rel (cpr_ca H) cme_ca
  · have := room_bd H
    unfold C_pr C_wx at c; omega
  · have := room_bd H
    unfold C_pr C_wx at q; omega
  · rcases p with ⟨p1, rfl⟩ | ⟨p1, rfl⟩ <;> rcases q with ⟨q1, rfl⟩ | ⟨q1, rfl⟩
    · rfl
    · exact absurd p1 q1
    · exact absurd q1 p1
    · rfl
  · rcases p with ⟨p1, rfl⟩ | ⟨p1, rfl⟩
    · exact th_bd (lok_bd hb (by omega) p1.1.2 a0)
    · unfold R32; omega
/-- the best of the first rules, and its cost -/
def bsR (ρ : Mem) : Nat → Int × Int
  | 0 => (-1, 0)
  | n + 1 => if (bsR ρ n).1 = -1 ∨ frC ρ (4 + n) (ρ 0 1).toNat < (bsR ρ n).2 then ((n : Int), frC ρ (4 + n) (ρ 0 1).toNat) else bsR ρ n
theorem bsR_bd (hb : RmB ρ) (h3 : ρ 0 3 ≠ 0) (h6 : ρ 0 1 ≤ 6) (n : Nat) : (-1 ≤ (bsR ρ n).1 ∧ (bsR ρ n).1 < n) ∧ 0 ≤ (bsR ρ n).2 ∧ (bsR ρ n).2 * HuF (6 - (ρ 0 1).toNat) ≤ 2400000000000000 := by
  induction n with
  | zero =>
    refine ⟨⟨by show (-1 : Int) ≤ -1; decide, by show (-1 : Int) < 0; decide⟩, by show (0 : Int) ≤ 0; decide, ?_⟩
    show (0 : Int) * _ ≤ _
    rw [Int.zero_mul]; decide
  | succ n ih =>
    have f := fr_bd hb h3 h6 (4 + n)
    unfold bsR
    by_cases c : (bsR ρ n).1 = -1 ∨ frC ρ (4 + n) (ρ 0 1).toNat < (bsR ρ n).2
    · rw [if_pos c]
      exact ⟨⟨by show -1 ≤ (n : Int); omega, by show (n : Int) < _; omega⟩, f.1, f.2.2.2⟩
    · rw [if_neg c]
      omega
def IsRul (ρ : Mem) (v : Int) : Prop := ((0 < ρ 0 3 ∧ ρ 0 1 ≤ 6) ∧ v = (bsR ρ (ρ 0 2).toNat).1) ∨ (¬ (0 < ρ 0 3 ∧ ρ 0 1 ≤ 6) ∧ v = -1)
theorem s_X7_rule (h : Xt m ρ) (hr : RlB ρ) (hl : XRl m (m 0 2) ρ) (hc : ChC m ρ) (hd : 7 ≤ d) : P_X7_rule sc d [aR 0] m (fun v z => Ex (C_pr (m 0 2)) m z ∧ ChC z ρ ∧ ∃ x, v = some (aI x) ∧ IsRul ρ x) := by
  have hb := h.2.2
  have b0 := hb.1
  have H := h.1
  have hrb := room_bd H
  refine ep_X7_rule (g_X7_rule_0 (p_X7_rule_1 (d2 := d - 1) (s_weighs h) (by omega) ?_))
  rintro _ m ⟨rfl, ⟨e, q⟩ | ⟨e, q⟩⟩ <;> cases e
  · refine g_X7_rule_4 ⟨by omega, fun _ => ?_, fun c => absurd (by decide) c⟩
    have h3 : ρ 0 3 ≠ 0 := by omega
    have V := HuF_pos (6 - (ρ 0 1).toNat)
    have lp : ∀ (n i : Nat) (z : Mem), (i : Int) + n = ρ 0 2 → Ex (C_pr (m 0 2)) m z → ChC z ρ → S_X7_rule sc d 16 [aR 0, aI (bsR ρ i).1, aJ ((bsR ρ i).2 * HuF (6 - (ρ 0 1).toNat)), aU, aI i, aU, aU] [] z (fun v z => Ex (C_pr (m 0 2)) m z ∧ ChC z ρ ∧ ∃ x, v = some (aI x) ∧ IsRul ρ x) := by
      intro n
      induction n with
      | zero =>
        intro i z hi he hzc
        have e02 : z 0 2 = m 0 2 := he 0 2 (by unfold C_pr C_wx; omega)
        have hz := ex_pr H h.2.1 he
        refine g_X7_rule_16 ?_
        rw [e02]
        have e11 := hz.1.2.2.1
        refine ⟨H, by omega, by omega, fun _ => ⟨he, hzc, _, rfl, Or.inl ⟨q, by rw [show (ρ 0 2).toNat = i by omega]⟩⟩, fun c => absurd (by omega) c⟩
      | succ n ih =>
        intro i z hi he hzc
        have e02 : z 0 2 = m 0 2 := he 0 2 (by unfold C_pr C_wx; omega)
        have hz := ex_pr H h.2.1 he
        have hzl := ex_prl H hl he
        have e11 := hz.1.2.2.1
        have bb := bsR_bd hb h3 q.2 i
        have fb := fr_bd hb h3 q.2 (4 + i)
        have nn : 0 ≤ (bsR ρ i).2 * HuF (6 - (ρ 0 1).toNat) := Int.mul_nonneg bb.2.1 (by omega)
        refine g_X7_rule_16 ?_
        rw [e02]
        refine ⟨H, by omega, by omega, fun c => absurd c (by omega), fun _ => ?_⟩
        have hw2 : (4 + (i : Int)) = -2 ∨ (0 ≤ 4 + (i : Int) ∧ 4 + (i : Int) < 4 + ρ 0 2) := Or.inr ⟨by omega, by omega⟩
        refine p_X7_rule_40 (d2 := d - 1) H (s_X0_expect (w := 4 + i) H hz hb hr hzl h3 q.2 hw2 hzc (by omega)) (by omega) ?_
        rintro _ y ⟨rfl, g1, g2, g4⟩
        have g1' : Ex (C_pr (m 0 2)) m y := he.trans g1
        have yc : ChC y ρ := ChC.of hw2 g2 g4
        have w1 := ih (i + 1) y (by omega) g1' yc
        have tk : ((bsR ρ i).1 = -1 ∨ frC ρ (4 + i) (ρ 0 1).toNat < (bsR ρ i).2) → S_X7_rule sc d 16 [aR 0, aI i, aJ (frC ρ (4 + i) (ρ 0 1).toNat * HuF (6 - (ρ 0 1).toNat)), aU, aI ((i : Int) + 1), aU, aU] [] y (fun v z => Ex (C_pr (m 0 2)) m z ∧ ChC z ρ ∧ ∃ x, v = some (aI x) ∧ IsRul ρ x) := fun c => by
          have e : bsR ρ (i + 1) = ((i : Int), frC ρ (4 + i) (ρ 0 1).toNat) := if_pos c
          rw [e] at w1
          exact w1
        have nt : ¬ ((bsR ρ i).1 = -1 ∨ frC ρ (4 + i) (ρ 0 1).toNat < (bsR ρ i).2) → S_X7_rule sc d 16 [aR 0, aI (bsR ρ i).1, aJ ((bsR ρ i).2 * HuF (6 - (ρ 0 1).toNat)), aU, aI ((i : Int) + 1), aU, aU] [] y (fun v z => Ex (C_pr (m 0 2)) m z ∧ ChC z ρ ∧ ∃ x, v = some (aI x) ∧ IsRul ρ x) := fun c => by
          have e : bsR ρ (i + 1) = bsR ρ i := if_neg c
          rw [e] at w1
          exact w1
        refine ⟨_, rfl, g_X7_rule_43 ⟨by omega, fun c => tk (Or.inl c), fun c => ⟨by omega, by omega, fun c2 => nt (fun p => p.elim c (fun p => ?_)), fun c2 => tk (Or.inr ?_)⟩⟩⟩
        · have := (mul_lt_iff V).mpr p
          omega
        · exact (mul_lt_iff V).mp (by omega)
    have g := lp (ρ 0 2).toNat 0 m (by omega) (Ex.refl _ _) hc
    have e0 : (bsR ρ 0).2 * HuF (6 - (ρ 0 1).toNat) = 0 := Int.zero_mul _
    rw [e0] at g
    exact g
  · exact g_X7_rule_4 ⟨by omega, fun c => absurd rfl c, fun _ => ⟨Ex.refl _ _, hc, _, rfl, Or.inr ⟨q, rfl⟩⟩⟩
theorem s_X8_rule (h : MRm m ρ) (hb : RmB ρ) (hr : RlB ρ) (hl : MRl m ρ) (hd : 7 ≤ d) : P_X8_rule sc d [aR 62] m (fun v z => Ex C_me m z ∧ ∃ x, v = some (aI x) ∧ IsRul ρ x) := by
  have b0 := hb.1
  refine ep_X8_rule (g_X8_rule_0 (p_X8_rule_1 (d2 := d - 1) (s_areFew h hb (by omega)) (by omega) ?_))
  rintro _ m ⟨rfl, ⟨e, q⟩ | ⟨e, q⟩⟩ <;> cases e
  · refine g_X8_rule_4 ⟨by omega, fun _ => ?_, fun c => absurd (by decide) c⟩
    have h3 : ρ 0 3 ≠ 0 := by omega
    have V := HuF_pos (6 - (ρ 0 1).toNat)
    have lp : ∀ (n i : Nat) (z : Mem), (i : Int) + n = ρ 0 2 → Ex C_me m z → S_X8_rule sc d 16 [aR 62, aI (bsR ρ i).1, aJ (bsR ρ i).2, aU, aI i] [] z (fun v z => Ex C_me m z ∧ ∃ x, v = some (aI x) ∧ IsRul ρ x) := by
      intro n
      induction n with
      | zero =>
        intro i z hi he
        have hz : MRm z ρ := h.ex he (fun a j q c => by unfold C_me C_it at c; omega)
        refine g_X8_rule_16 (p_X8_rule_19 (d2 := d - 1) (s_ruleMany hz) (by omega) ?_)
        rintro _ z ⟨e, rfl⟩; cases e
        exact g_X8_rule_22 ⟨by omega, by omega, fun _ => ⟨he, _, rfl, Or.inl ⟨q, by rw [show (ρ 0 2).toNat = i by omega]⟩⟩, fun c => absurd (by omega) c⟩
      | succ n ih =>
        intro i z hi he
        have hz : MRm z ρ := h.ex he (fun a j q c => by unfold C_me C_it at c; omega)
        have hzl : MRl z ρ := hl.ex he (fun a j q => by unfold C_me C_it at q; omega)
        have bb := bsR_bd hb h3 q.2 i
        have fb := fr_bd hb h3 q.2 (4 + i)
        have bu := un_sc bb.2.1 V bb.2.2
        have fu := un_sc fb.1 V fb.2.2.2
        refine g_X8_rule_16 (p_X8_rule_19 (d2 := d - 1) (s_ruleMany hz) (by omega) ?_)
        rintro _ z ⟨e, rfl⟩; cases e
        refine g_X8_rule_22 ⟨by omega, by omega, fun c => absurd c (by omega), fun _ => ?_⟩
        refine p_X8_rule_30 (d2 := d - 1) (s_means (w := 4 + i) hz hb hr hzl h3 q.2 (Or.inl ⟨rfl, by omega, by omega⟩) (by omega)) (by omega) ?_
        rintro y ⟨-, g1, g2⟩
        have w1 := ih (i + 1) y (by omega) (he.trans g1)
        have tk : ((bsR ρ i).1 = -1 ∨ frC ρ (4 + i) (ρ 0 1).toNat < (bsR ρ i).2) → S_X8_rule sc d 16 [aR 62, aI i, aJ (frC ρ (4 + i) (ρ 0 1).toNat), aU, aI ((i : Int) + 1)] [] y (fun v z => Ex C_me m z ∧ ∃ x, v = some (aI x) ∧ IsRul ρ x) := fun c => by
          have e : bsR ρ (i + 1) = ((i : Int), frC ρ (4 + i) (ρ 0 1).toNat) := if_pos c
          rw [e] at w1
          exact w1
        have nt : ¬ ((bsR ρ i).1 = -1 ∨ frC ρ (4 + i) (ρ 0 1).toNat < (bsR ρ i).2) → S_X8_rule sc d 16 [aR 62, aI (bsR ρ i).1, aJ (bsR ρ i).2, aU, aI ((i : Int) + 1)] [] y (fun v z => Ex C_me m z ∧ ∃ x, v = some (aI x) ∧ IsRul ρ x) := fun c => by
          have e : bsR ρ (i + 1) = bsR ρ i := if_neg c
          rw [e] at w1
          exact w1
        refine g_X8_rule_33 ?_
        rw [g2.top.2]
        refine ⟨by omega, fun c => tk (Or.inl c), fun c => ⟨by omega, by omega, fun c2 => tk (Or.inr c2), fun c2 => nt (fun p => p.elim c c2)⟩⟩
    exact lp (ρ 0 2).toNat 0 m (by omega) (Ex.refl _ _)
  · exact g_X8_rule_4 ⟨by omega, fun c => absurd rfl c, fun _ => ⟨Ex.refl _ _, _, rfl, Or.inr ⟨q, rfl⟩⟩⟩
theorem pair_rule (hH : CaH Ca) (n : Nat) (m : Mem) (hn : n < 512) (hi : Inv Ca n m) : PairI (Inv Ca) n m (P_X7_rule sc 1799 [aR 0]) (P_X8_rule sc 1799 [aR 62]) := by
  obtain ⟨ρ, nr, wd, hi, hc⟩ := hi
  have hb := hi.2.1
  obtain ⟨hr, hxl, hml⟩ := Xt.rl hi
  have H := hi.1.1
  refine pairI_c (A := IsRul ρ) hH hi hc (s_X7_rule hi.xt hr hxl (hH.1 m ρ hc) (by decide)) (fun z hz => s_X8_rule (hi.mrm.ex hz (fun a j q c => ?_)) hb hr (hml.ex hz (fun a j q => ?_)) (by decide)) (fun x y p q => ?_) (fun x p => ?_) (cpr_rel H) cme_rel (cpr_ca H) cme_ca
  · have := room_bd H
    unfold C_pr C_wx at c; omega
  · have := room_bd H
    unfold C_pr C_wx at q; omega
  · rcases p with ⟨p1, rfl⟩ | ⟨p1, rfl⟩ <;> rcases q with ⟨q1, rfl⟩ | ⟨q1, rfl⟩
    · rfl
    · exact absurd p1 q1
    · exact absurd q1 p1
    · rfl
  · have b0 := hb.1
    rcases p with ⟨p1, rfl⟩ | ⟨p1, rfl⟩
    · have := bsR_bd hb (by omega) p1.2 (ρ 0 2).toNat
      unfold R32; omega
    · unfold R32; omega
end PR
