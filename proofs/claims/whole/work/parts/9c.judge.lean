/-! pairs: row, judge -/
section RK
variable {sc : List Int} {Ca : Mem → Mem → Prop} {d : Nat} {m ρ : Mem} {w l : Int}
theorem cfo_rel {r : Int} (H : RoomAt r) (a j : Int) (h : C_fo r a j) : ¬ Rel a j := by
  rcases h with h | h
  · exact cpr_rel H a j h
  · unfold C_cw C_wx at h
    unfold Rel
    rcases H with rfl | rfl <;> omega
theorem cfo_ca {r : Int} (H : RoomAt r) (a j : Int) (h : C_fo r a j) (h2 : CaC a j) : a = 38 ∨ (a = 37 ∧ j = 1) := by
  rcases h with h | h
  · exact cpr_ca H a j h h2
  · unfold C_cw C_wx at h
    unfold CaC at h2
    rcases H with rfl | rfl <;> omega
theorem clr_rel (a j : Int) (h : C_lr a j) : ¬ Rel a j := by
  unfold C_lr C_me C_it at h
  unfold Rel
  omega
theorem clr_ca (a j : Int) (h : C_lr a j) : ¬ CaC a j := by
  unfold C_lr C_me C_it at h
  unfold CaC
  omega
def rwF (ρ : Mem) (w l s a : Int) : Int := if a = 0 then usA ρ w l s.toNat else if a = 1 then chA ρ w l s.toNat else mdA ρ w l s.toNat
def rwP (ρ : Mem) (w l s a : Int) : Prop := (knF ρ w ∧ 1 ≤ l ∧ l ≤ 99) ∧ (0 ≤ s ∧ s < ρ 0 1) ∧ 0 ≤ a ∧ a ≤ 2
def IsRw (ρ : Mem) (w l s a v : Int) : Prop := (rwP ρ w l s a ∧ v = rwF ρ w l s a) ∨ (¬ rwP ρ w l s a ∧ v = -1)
theorem s_X7_row {s a : Int} (h : Xt m ρ) (hr : RlB ρ) (hl : XRl m (m 0 2) ρ) (hc : ChC m ρ) (hd : 8 ≤ d) (hw : R32 w) (hL : R32 l) (hs : R32 s) (ha : R32 a) : P_X7_row sc d [aR 0, aI w, aI l, aI s, aI a] m (fun v z => Ex (C_fo (m 0 2)) m z ∧ ChC z ρ ∧ ∃ x, v = some (aI x) ∧ IsRw ρ w l s a x) := by
  have hb := h.2.2
  have b0 := hb.1
  have e8 := h.2.1.1.2.1
  have bad : ¬ rwP ρ w l s a → ∀ z : Mem, Ex (C_fo (m 0 2)) m z → ChC z ρ → (fun v z => Ex (C_fo (m 0 2)) m z ∧ ChC z ρ ∧ ∃ x, v = some (aI x) ∧ IsRw ρ w l s a x) (some (aI (-1))) z := fun q z h1 h2 => ⟨h1, h2, _, rfl, Or.inr ⟨q, rfl⟩⟩
  refine ep_X7_row (g_X7_row_0 ⟨hs, fun c => bad (fun p => by have := p.2.1; omega) m (Ex.refl _ _) hc, fun c1 => ⟨h.1, by omega, fun c => bad (fun p => by have := p.2.1; omega) m (Ex.refl _ _) hc, fun c2 => ?_⟩⟩)
  refine p_X7_row_18 (d2 := d - 1) (s_X7_follow h hr hl hc (by omega) hw hL) (by omega) ?_
  rintro _ z ⟨h1, h2, ⟨e, h3, h4⟩ | ⟨e, h3⟩⟩ <;> cases e
  · obtain ⟨-, k, -⟩ := h4
    have ks := k s.toNat (by omega)
    rw [show ((s.toNat : Nat) : Int) = s by omega] at ks
    refine g_X7_row_21 ⟨by omega, fun _ => ⟨ha, fun c => ⟨by omega, by omega, h1, h2, _, rfl, Or.inl ⟨⟨h3, by omega, by omega, by omega⟩, ?_⟩⟩, fun c => ⟨by omega, by omega, h1, h2, _, rfl, Or.inl ⟨⟨h3, by omega, by omega, by omega⟩, ?_⟩⟩, fun c => ⟨by omega, by omega, h1, h2, _, rfl, Or.inl ⟨⟨h3, by omega, by omega, by omega⟩, ?_⟩⟩, fun c => bad (fun p => by have := p.2.2; omega) z h1 h2⟩, fun c => absurd (by decide) c⟩
    · rw [ks.1]; unfold rwF; rw [if_pos c]
    · rw [ks.2.1]; unfold rwF; rw [if_neg (by omega), if_pos c]
    · rw [ks.2.2]; unfold rwF; rw [if_neg (by omega), if_neg (by omega)]
  · exact g_X7_row_21 ⟨by omega, fun c => absurd rfl c, fun _ => bad (fun p => h3 p.1) z h1 h2⟩
theorem s_X8_row {s a : Int} (h : MRm m ρ) (hb : RmB ρ) (hr : RlB ρ) (hl : MRl m ρ) (hd : 8 ≤ d) (hw : R32 w) (hL : R32 l) (hs : R32 s) (ha : R32 a) : P_X8_row sc d [aR 62, aI w, aI l, aI s, aI a] m (fun v z => Ex C_lr m z ∧ ∃ x, v = some (aI x) ∧ IsRw ρ w l s a x) := by
  have b0 := hb.1
  have bad : ¬ rwP ρ w l s a → ∀ z : Mem, Ex C_lr m z → (fun v z => Ex C_lr m z ∧ ∃ x, v = some (aI x) ∧ IsRw ρ w l s a x) (some (aI (-1))) z := fun q z h1 => ⟨h1, _, rfl, Or.inr ⟨q, rfl⟩⟩
  refine ep_X8_row (g_X8_row_0 (p_X8_row_2 (d2 := d - 1) (s_isSewer h hb (by omega) hw) (by omega) ?_))
  rintro _ m ⟨rfl, ⟨e, q⟩ | ⟨e, q⟩⟩ <;> cases e
  · refine g_X8_row_5 ⟨by omega, fun c => absurd c (by decide), fun _ => ⟨hL, ?_⟩⟩
    refine p_X8_row_14 (d2 := d - 1) (s_isIn ⟨by omega, by omega⟩ ⟨by omega, by omega⟩ ⟨by omega, by omega⟩) (by omega) ?_
    rintro _ m ⟨rfl, ⟨e, q2⟩ | ⟨e, q2⟩⟩ <;> cases e
    · refine g_X8_row_17 ⟨by omega, fun c => absurd c (by decide), fun _ => ⟨hs, ?_⟩⟩
      refine p_X8_row_24 (d2 := d - 1) (s_seamMany h) (by omega) ?_
      rintro _ m ⟨e, rfl⟩; cases e
      refine g_X8_row_27 ⟨by omega, p_X8_row_30 (d2 := d - 1) (s_isIn ⟨by omega, by omega⟩ ⟨by omega, by omega⟩ ⟨by omega, by omega⟩) (by omega) ?_⟩
      rintro _ m ⟨rfl, ⟨e, q3⟩ | ⟨e, q3⟩⟩ <;> cases e
      · refine g_X8_row_33 ⟨by omega, fun c => absurd c (by decide), fun _ => ⟨ha, ?_⟩⟩
        refine p_X8_row_43 (d2 := d - 1) (s_isIn ⟨by omega, by omega⟩ ⟨by omega, by omega⟩ ⟨by omega, by omega⟩) (by omega) ?_
        rintro _ m ⟨rfl, ⟨e, q4⟩ | ⟨e, q4⟩⟩ <;> cases e
        · refine g_X8_row_46 ⟨by omega, fun _ => ?_, fun c => absurd (by decide) c⟩
          refine p_X8_row_54 (d2 := d - 1) (s_laysRow h hb hr hl q q2 (by omega)) (by omega) ?_
          rintro z ⟨-, h1, h2⟩
          have ks := h2.1 s.toNat (by omega)
          rw [show ((s.toNat : Nat) : Int) = s by omega] at ks
          refine g_X8_row_57 ⟨ha, fun _ _ => by omega, fun _ _ => by omega, fun _ _ => by omega, fun _ _ => by omega, fun _ => by omega, fun _ => by omega, h1, _, rfl, Or.inl ⟨⟨⟨q, q2⟩, by omega, q4⟩, ?_⟩⟩
          rw [ks.1, ks.2.1, ks.2.2]
          unfold rwF
          by_cases c0 : a = 0
          · rw [if_pos c0, if_neg (fun q => q c0)]
          · rw [if_neg c0, if_pos c0]
            by_cases c1 : a = 1
            · rw [if_pos c1, if_neg (fun q => q c1)]
            · rw [if_neg c1, if_pos c1]
        · exact g_X8_row_46 ⟨by omega, fun c => absurd rfl c, fun _ => bad (fun p => q4 p.2.2) m (Ex.refl _ _)⟩
      · exact g_X8_row_33 ⟨by omega, fun _ => bad (fun p => q3 (by have := p.2.1; omega)) m (Ex.refl _ _), fun c => absurd rfl c⟩
    · exact g_X8_row_17 ⟨by omega, fun _ => bad (fun p => q2 p.1.2) m (Ex.refl _ _), fun c => absurd rfl c⟩
  · exact g_X8_row_5 ⟨by omega, fun _ => bad (fun p => q p.1.1) m (Ex.refl _ _), fun c => absurd rfl c⟩
theorem pair_row (hH : CaH Ca) (n : Nat) (m : Mem) (a0 a1 a2 a3 : Int) (hn : n < 512) (hi : Inv Ca n m) (h0 : R32 a0) (h1 : R32 a1) (h2 : R32 a2) (h3 : R32 a3) : PairI (Inv Ca) n m (P_X7_row sc 1799 [aR 0, aI a0, aI a1, aI a2, aI a3]) (P_X8_row sc 1799 [aR 62, aI a0, aI a1, aI a2, aI a3]) := by
  obtain ⟨ρ, nr, wd, hi, hc⟩ := hi
  have hb := hi.2.1
  obtain ⟨hr, hxl, hml⟩ := Xt.rl hi
  have H := hi.1.1
  refine pairI_c (A := IsRw ρ a0 a1 a2 a3) hH hi hc (s_X7_row hi.xt hr hxl (hH.1 m ρ hc) (by decide) h0 h1 h2 h3) (fun z hz => s_X8_row (hi.mrm.ex hz (fun a j q c => ?_)) hb hr (hml.ex hz (fun a j q => ?_)) (by decide) h0 h1 h2 h3) (fun x y p q => ?_) (fun x p => ?_) (cfo_rel H) clr_rel (cfo_ca H) clr_ca
  · have := room_bd H
    unfold C_fo C_pr C_cw C_wx at c; omega
  · have := room_bd H
    unfold C_fo C_pr C_cw C_wx at q; omega
  · rcases p with ⟨p1, rfl⟩ | ⟨p1, rfl⟩ <;> rcases q with ⟨q1, rfl⟩ | ⟨q1, rfl⟩
    · rfl
    · exact absurd p1 q1
    · exact absurd q1 p1
    · rfl
  · rcases p with ⟨p1, rfl⟩ | ⟨p1, rfl⟩
    · obtain ⟨⟨k1, k2⟩, k3, k4⟩ := p1
      have u1 := us_bd (w := a0) hb k2 (s := a2.toNat) (by omega)
      have u2 := chA_01 (w := a0) (l := a1) hb hr k1.2.2.1 k2 (s := a2.toNat) (by omega)
      have u3 := mdA_01 (ρ := ρ) (w := a0) (l := a1) a2.toNat
      unfold R32 rwF
      split
      · omega
      · split <;> omega
    · unfold R32; omega
/-- the first that was mended -/
theorem fm_stay {i : Nat} (h : fmA ρ w l (i + 1) = i) : ∀ n : Nat, i + 1 ≤ n → fmA ρ w l n = i := by
  intro n
  induction n with
  | zero => intro q; omega
  | succ n ih =>
    intro q
    by_cases e : n = i
    · rw [e]; exact h
    · have g := ih (by omega)
      rw [fmA, g, if_neg (by omega)]
theorem s_firstOf {n : Nat} (hn : n ≤ 10) (h : ∀ s : Nat, s < n → m 109 s = mdA ρ w l s) : P_X8_firstOf sc d [aR 109, aI n] m (PV (aI (fmA ρ w l n)) m) := by
  have lp : ∀ (j i : Nat), i + j = n → fmA ρ w l i = -1 → S_X8_firstOf sc d 2 [aR 109, aI n, aI i] [] m (PV (aI (fmA ρ w l n)) m) := by
    intro j
    induction j with
    | zero =>
      intro i hi hf
      obtain rfl : i = n := by omega
      exact g_X8_firstOf_2 ic_109 ⟨by omega, by omega, fun _ => ⟨by rw [hf], rfl⟩, fun c => absurd (Int.le_refl _) c⟩
    | succ j ih =>
      intro i hi hf
      have e := h i (by omega)
      have m01 := mdA_01 (ρ := ρ) (w := w) (l := l) i
      refine g_X8_firstOf_2 ic_109 ⟨by omega, by omega, fun c => absurd c (by omega), fun _ => ⟨by omega, by rw [show alen 109 = 10 by decide +kernel]; omega, by rw [e]; omega, fun c => ih (i + 1) (by omega) ?_, fun c => ⟨?_, rfl⟩⟩⟩
      · rw [e] at c
        rw [fmA, if_neg (fun q => c q.2)]
        exact hf
      · have c1 : mdA ρ w l i = 1 := by rw [← e]; exact Classical.not_not.mp c
        have g : fmA ρ w l (i + 1) = i := by rw [fmA, if_pos ⟨hf, c1⟩]
        rw [fm_stay g n (by omega)]
  exact ep_X8_firstOf (g_X8_firstOf_0 ic_109 (lp n 0 (by omega) rfl))
theorem s_sumOf {a : Int} {n : Nat} {G g : Nat → Int} (Ha : IsC a 100) (hl : alen a = 10) (hn : n ≤ 10) (h : ∀ s : Nat, s < n → m a s = g s) (h0 : G 0 = 0) (hG : ∀ s, G (s + 1) = G s + g s) : P_X8_sumOf sc d [aR a, aI n] m (PV (aI (G n)) m) := by
  have lp : ∀ (j i : Nat), i + j = n → S_X8_sumOf sc d 4 [aR a, aI n, aI (G i), aI i] [] m (PV (aI (G n)) m) := by
    intro j
    induction j with
    | zero =>
      intro i hi
      obtain rfl : i = n := by omega
      exact g_X8_sumOf_4 Ha ⟨by omega, by omega, fun _ => ⟨rfl, rfl⟩, fun c => absurd (Int.le_refl _) c⟩
    | succ j ih =>
      intro i hi
      refine g_X8_sumOf_4 Ha ⟨by omega, by omega, fun c => absurd c (by omega), fun _ => ⟨by omega, by rw [hl]; omega, ?_⟩⟩
      rw [h i (by omega), ← hG]
      exact ih (i + 1) (by omega)
  have w := lp n 0 (by omega)
  rw [h0] at w
  exact ep_X8_sumOf (g_X8_sumOf_0 Ha w)
def jdF (ρ : Mem) (w l a : Int) : Int := if a = 0 then fmA ρ w l (ρ 0 1).toNat else if a = 1 then csA ρ w l (ρ 0 1).toNat else if a = 2 then msA ρ w l (ρ 0 1).toNat else if a = 3 then coA ρ w l (ρ 0 1).toNat else -1
def IsJd (ρ : Mem) (w l a v : Int) : Prop := ((knF ρ w ∧ 1 ≤ l ∧ l ≤ 99) ∧ v = jdF ρ w l a) ∨ (¬ (knF ρ w ∧ 1 ≤ l ∧ l ≤ 99) ∧ v = -1)
theorem s_X7_judge {a : Int} (h : Xt m ρ) (hr : RlB ρ) (hl : XRl m (m 0 2) ρ) (hc : ChC m ρ) (hd : 8 ≤ d) (hw : R32 w) (hL : R32 l) (ha : R32 a) : P_X7_judge sc d [aR 0, aI w, aI l, aI a] m (fun v z => Ex (C_fo (m 0 2)) m z ∧ ChC z ρ ∧ ∃ x, v = some (aI x) ∧ IsJd ρ w l a x) := by
  refine ep_X7_judge (g_X7_judge_0 (p_X7_judge_3 (d2 := d - 1) (s_X7_follow h hr hl hc (by omega) hw hL) (by omega) ?_))
  rintro _ z ⟨h1, h2, ⟨e, h3, h4⟩ | ⟨e, h3⟩⟩ <;> cases e
  · obtain ⟨-, -, k5, k6, k7, k8⟩ := h4
    refine g_X7_judge_6 ⟨by omega, fun _ => ⟨ha, fun c => ⟨h1, h2, _, rfl, Or.inl ⟨h3, ?_⟩⟩, fun c => ⟨h1, h2, _, rfl, Or.inl ⟨h3, ?_⟩⟩, fun c => ⟨h1, h2, _, rfl, Or.inl ⟨h3, ?_⟩⟩, fun c => ⟨h1, h2, _, rfl, Or.inl ⟨h3, ?_⟩⟩, fun c => ⟨h1, h2, _, rfl, Or.inl ⟨h3, ?_⟩⟩⟩, fun c => absurd (by decide) c⟩
    · rw [k5]; unfold jdF; rw [if_pos c]
    · rw [k6]; unfold jdF; rw [if_neg (by omega), if_pos c]
    · rw [k7]; unfold jdF; rw [if_neg (by omega), if_neg (by omega), if_pos c]
    · rw [k8]; unfold jdF; rw [if_neg (by omega), if_neg (by omega), if_neg (by omega), if_pos c]
    · unfold jdF; rw [if_neg c.1, if_neg c.2.1, if_neg c.2.2.1, if_neg c.2.2.2]
  · exact g_X7_judge_6 ⟨by omega, fun c => absurd rfl c, fun _ => ⟨h1, h2, _, rfl, Or.inr ⟨h3, rfl⟩⟩⟩
theorem s_X8_judge {a : Int} (h : MRm m ρ) (hb : RmB ρ) (hr : RlB ρ) (hl : MRl m ρ) (hd : 8 ≤ d) (hw : R32 w) (hL : R32 l) (ha : R32 a) : P_X8_judge sc d [aR 62, aI w, aI l, aI a] m (fun v z => Ex C_lr m z ∧ ∃ x, v = some (aI x) ∧ IsJd ρ w l a x) := by
  have b0 := hb.1
  refine ep_X8_judge (g_X8_judge_0 (p_X8_judge_2 (d2 := d - 1) (s_isSewer h hb (by omega) hw) (by omega) ?_))
  rintro _ m ⟨rfl, ⟨e, q⟩ | ⟨e, q⟩⟩ <;> cases e
  · refine g_X8_judge_5 ⟨by omega, fun c => absurd c (by decide), fun _ => ⟨hL, ?_⟩⟩
    refine p_X8_judge_14 (d2 := d - 1) (s_isIn ⟨by omega, by omega⟩ ⟨by omega, by omega⟩ ⟨by omega, by omega⟩) (by omega) ?_
    rintro _ m ⟨rfl, ⟨e, q2⟩ | ⟨e, q2⟩⟩ <;> cases e
    · refine g_X8_judge_17 ⟨by omega, fun _ => ?_, fun c => absurd (by decide) c⟩
      refine p_X8_judge_25 (d2 := d - 1) (s_laysRow h hb hr hl q q2 (by omega)) (by omega) ?_
      rintro z ⟨-, h1, h2⟩
      have hz : MRm z ρ := h.ex h1 (fun a j q c => by unfold C_lr C_me C_it at c; omega)
      have eS : ρ 0 1 = ((ρ 0 1).toNat : Nat) := by omega
      have S10 : (ρ 0 1).toNat ≤ 10 := by omega
      have sm : P_X8_seamMany sc (d - 1) [aR 62] z (PV (aI ((ρ 0 1).toNat : Nat)) z) := by
        have w := s_seamMany (sc := sc) (d := d - 1) hz
        rw [eS] at w
        exact w
      refine g_X8_judge_28 ⟨ha, fun c => ?_, fun c => ?_, fun c => ?_, fun c => ⟨h1, _, rfl, Or.inl ⟨⟨q, q2⟩, ?_⟩⟩, fun c => ⟨h1, _, rfl, Or.inl ⟨⟨q, q2⟩, ?_⟩⟩⟩
      · refine p_X8_judge_65 (d2 := d - 1) ic_109 sm (by omega) ?_
        rintro _ z ⟨e, rfl⟩; cases e
        refine g_X8_judge_68 ic_109 (p_X8_judge_68 (d2 := d - 1) ic_109 (s_firstOf (ρ := ρ) (w := w) (l := l) S10 (fun s hs => (h2.1 s hs).2.2)) (by omega) ?_)
        rintro _ z ⟨e, rfl⟩; cases e
        refine g_X8_judge_71 ⟨h1, _, rfl, Or.inl ⟨⟨q, q2⟩, ?_⟩⟩
        unfold jdF; rw [if_pos c]
      · refine p_X8_judge_77 (d2 := d - 1) ic_108 sm (by omega) ?_
        rintro _ z ⟨e, rfl⟩; cases e
        refine g_X8_judge_80 ic_108 (p_X8_judge_80 (d2 := d - 1) ic_108 (s_sumOf (G := csA ρ w l) (g := chA ρ w l) ic_108 (by decide +kernel) S10 (fun s hs => (h2.1 s hs).2.1) rfl (fun s => rfl)) (by omega) ?_)
        rintro _ z ⟨e, rfl⟩; cases e
        refine g_X8_judge_83 ⟨h1, _, rfl, Or.inl ⟨⟨q, q2⟩, ?_⟩⟩
        unfold jdF; rw [if_neg (by omega), if_pos c]
      · refine p_X8_judge_89 (d2 := d - 1) ic_109 sm (by omega) ?_
        rintro _ z ⟨e, rfl⟩; cases e
        refine g_X8_judge_92 ic_109 (p_X8_judge_92 (d2 := d - 1) ic_109 (s_sumOf (G := msA ρ w l) (g := mdA ρ w l) ic_109 (by decide +kernel) S10 (fun s hs => (h2.1 s hs).2.2) rfl (fun s => rfl)) (by omega) ?_)
        rintro _ z ⟨e, rfl⟩; cases e
        refine g_X8_judge_95 ⟨h1, _, rfl, Or.inl ⟨⟨q, q2⟩, ?_⟩⟩
        unfold jdF; rw [if_neg (by omega), if_neg (by omega), if_pos c]
      · rw [h2.2]; unfold jdF; rw [if_neg (by omega), if_neg (by omega), if_neg (by omega), if_pos c]
      · unfold jdF; rw [if_neg c.1, if_neg c.2.1, if_neg c.2.2.1, if_neg c.2.2.2]
    · exact g_X8_judge_17 ⟨by omega, fun c => absurd rfl c, fun _ => ⟨Ex.refl _ _, _, rfl, Or.inr ⟨fun p => q2 p.2, rfl⟩⟩⟩
  · exact g_X8_judge_5 ⟨by omega, fun _ => ⟨Ex.refl _ _, _, rfl, Or.inr ⟨fun p => q p.1, rfl⟩⟩, fun c => absurd rfl c⟩
theorem pair_judge (hH : CaH Ca) (n : Nat) (m : Mem) (a0 a1 a2 : Int) (hn : n < 512) (hi : Inv Ca n m) (h0 : R32 a0) (h1 : R32 a1) (h2 : R32 a2) : PairI (Inv Ca) n m (P_X7_judge sc 1799 [aR 0, aI a0, aI a1, aI a2]) (P_X8_judge sc 1799 [aR 62, aI a0, aI a1, aI a2]) := by
  obtain ⟨ρ, nr, wd, hi, hc⟩ := hi
  have hb := hi.2.1
  obtain ⟨hr, hxl, hml⟩ := Xt.rl hi
  have H := hi.1.1
  refine pairI_c (A := IsJd ρ a0 a1 a2) hH hi hc (s_X7_judge hi.xt hr hxl (hH.1 m ρ hc) (by decide) h0 h1 h2) (fun z hz => s_X8_judge (hi.mrm.ex hz (fun a j q c => ?_)) hb hr (hml.ex hz (fun a j q => ?_)) (by decide) h0 h1 h2) (fun x y p q => ?_) (fun x p => ?_) (cfo_rel H) clr_rel (cfo_ca H) clr_ca
  · have := room_bd H
    unfold C_fo C_pr C_cw C_wx at c; omega
  · have := room_bd H
    unfold C_fo C_pr C_cw C_wx at q; omega
  · rcases p with ⟨p1, rfl⟩ | ⟨p1, rfl⟩ <;> rcases q with ⟨q1, rfl⟩ | ⟨q1, rfl⟩
    · rfl
    · exact absurd p1 q1
    · exact absurd q1 p1
    · rfl
  · rcases p with ⟨⟨k1, k2⟩, rfl⟩ | ⟨p1, rfl⟩
    · have b0 := hb.1
      unfold R32 jdF
      rcases co_bd (w := a0) (l := a1) hb hr k1.2.2.1 k2 (ρ 0 1).toNat (by omega) with g | g
      · split
        · omega
        split
        · omega
        split
        · omega
        split <;> omega
      · rw [g]
        show _ ≤ (if a2 = 0 then (-1 : Int) else if a2 = 1 then 0 else if a2 = 2 then 0 else if a2 = 3 then 0 else -1) ∧ (if a2 = 0 then (-1 : Int) else if a2 = 1 then 0 else if a2 = 2 then 0 else if a2 = 3 then 0 else -1) < _
        split
        · omega
        split
        · omega
        split
        · omega
        split <;> omega
    · unfold R32; omega
end RK
