/-! rooms as texts: the reference's names -/
theorem horn_nn {f : Int → Int} {n : Nat} (h : ∀ j : Nat, j < n → 1 ≤ f j ∧ f j ≤ 26) (a : Nat) (ha : a ≤ n) : 0 ≤ hornF f a := by
  induction a with
  | zero => exact Int.le_refl _
  | succ a ih =>
    have := h a (by omega)
    have := ih (by omega)
    rw [hornF]; omega
theorem horn_inj {f g : Int → Int} : ∀ {a b : Nat}, (∀ j : Nat, j < a → 1 ≤ f j ∧ f j ≤ 26) → (∀ j : Nat, j < b → 1 ≤ g j ∧ g j ≤ 26) → 0 ≤ hornF f a → 0 ≤ hornF g b → hornF f a = hornF g b → a = b ∧ ∀ j : Nat, j < a → f j = g j
  | 0, 0, _, _, _, _, _ => ⟨rfl, fun j hj => absurd hj (by omega)⟩
  | 0, b + 1, _, h2, _, _, h => by
    have := h2 b (by omega)
    have k : 0 ≤ hornF g b := (horn_nn h2 b (by omega))
    rw [hornF, hornF] at h; omega
  | a + 1, 0, h1, _, _, _, h => by
    have := h1 a (by omega)
    have k : 0 ≤ hornF f a := (horn_nn h1 a (by omega))
    rw [hornF, hornF] at h; omega
  | a + 1, b + 1, h1, h2, _, _, h => by
    have ha := h1 a (by omega)
    have hb := h2 b (by omega)
    have ka : 0 ≤ hornF f a := (horn_nn h1 a (by omega))
    have kb : 0 ≤ hornF g b := (horn_nn h2 b (by omega))
    rw [hornF, hornF] at h
    have e1 : hornF f a = hornF g b := by omega
    obtain ⟨q1, q2⟩ := horn_inj (fun j hj => h1 j (by omega)) (fun j hj => h2 j (by omega)) ka kb e1
    subst q1
    refine ⟨rfl, fun j hj => ?_⟩
    by_cases e : j = a
    · rw [e]; omega
    · exact q2 j (by omega)
theorem nm_eq {f g : Int → Int} {v w : Int} (h1 : NmOK f v) (h2 : NmOK g w) : v = w ↔ sameL f g := by
  obtain ⟨a, ⟨a1, a2⟩, a3, a4, a5⟩ := h1
  obtain ⟨b, ⟨b1, b2⟩, b3, b4, b5⟩ := h2
  constructor
  · intro e
    obtain ⟨q1, q2⟩ := horn_inj a3 b3 (horn_bd a2 a3).1 (horn_bd b2 b3).1 (by rw [← a5, ← b5]; exact e)
    subst q1
    intro j hj
    by_cases c : j < a
    · exact q2 j c
    · rw [a4 j (by omega) hj, b4 j (by omega) hj]
  · intro e
    have ab : a = b := by
      rcases Nat.lt_trichotomy a b with c | c | c
      · have h1 := a4 a (Nat.le_refl _) (by omega)
        have h2 := b3 a c
        have h3 := e a (by omega)
        omega
      · exact c
      · have h1 := b4 b (Nat.le_refl _) (by omega)
        have h2 := a3 b c
        have h3 := e b (by omega)
        omega
    subst ab
    rw [a5, b5]
    have hh : ∀ i : Nat, i ≤ a → hornF f i = hornF g i := by
      intro i
      induction i with
      | zero => intro _; rfl
      | succ i ih => intro hi; rw [hornF, hornF, ih (by omega), e i (by omega)]
    exact hh a (Nat.le_refl _)
section RN
variable {sc : List Int} {d : Nat} {m ρ : Mem} {Q : Option AV → Mem → Prop} {T : Int → Int} {n : Nat} {σ : Stt}
theorem s_isLetter {c : Int} (hc : R32 c) : P_X8_isLetter sc d [aI c] m (PV (aI (if 97 ≤ c ∧ c ≤ 122 then 1 else 0)) m) := by
  refine ep_X8_isLetter (g_X8_isLetter_0 ⟨hc, ?_, rfl⟩)
  by_cases c1 : c < 97
  · rw [if_pos c1, if_neg (by omega)]
  · rw [if_neg c1]
    by_cases c2 : 122 < c
    · rw [if_pos c2, if_neg (by omega)]
    · rw [if_neg c2, if_pos (by omega)]
theorem s_isDigit {c : Int} (hc : R32 c) : P_X8_isDigit sc d [aI c] m (PV (aI (if 48 ≤ c ∧ c ≤ 57 then 1 else 0)) m) := by
  refine ep_X8_isDigit (g_X8_isDigit_0 ⟨hc, ?_, rfl⟩)
  by_cases c1 : c < 48
  · rw [if_pos c1, if_neg (by omega)]
  · rw [if_neg c1]
    by_cases c2 : 57 < c
    · rw [if_pos c2, if_neg (by omega)]
    · rw [if_neg c2, if_pos (by omega)]
theorem numE {e : Int × Int} {lo hi : Int} (h : MEr m e) : P_X8_number sc d [aR 62, aI lo, aI hi] m (PV (aI 0) m) := ep_X8_number (g_X8_number_0 ⟨h.ne.2, fun g => absurd g h.ne.1, fun _ => ⟨rfl, rfl⟩⟩)
theorem isHereE {e : Int × Int} {c : Int} (hc : IsW c) (h : MEr m e) : P_X8_isHere sc d [aR 62, aR c] m (PV (aI 0) m) := ep_X8_isHere (g_X8_isHere_0 (wrd_at hc).1 ⟨h.ne.2, fun _ => ⟨rfl, rfl⟩, fun g => absurd h.ne.1 g⟩)
theorem takesE {e : Int × Int} {c : Int} (hc : IsW c) (h : MEr m e) (hd : 1 ≤ d) : P_X8_takes sc d [aR 62, aR c] m (PV (aI 0) m) := by
  refine ep_X8_takes (g_X8_takes_0 (wrd_at hc).1 (p_X8_takes_2 (d2 := d - 1) (wrd_at hc).1 (wrd_at hc).1 (isHereE hc h) (by omega) ?_))
  rintro _ z ⟨q, rfl⟩; cases q
  exact g_X8_takes_5 (wrd_at hc).1 ⟨by omega, fun q => absurd rfl q, fun _ => ⟨rfl, rfl⟩⟩
theorem s_isOwnHere (ht : Tm m T n) (h : MSt T n m σ) (hd : 3 ≤ d) : P_X8_isOwnHere sc d [aR 62] m (fun v z => v = some (aI (if 0 ≤ wE T n σ ∧ wE T n σ < 30 then 1 else 0)) ∧ Ex C_lk m z ∧ MLk T n z σ) := by
  have hit : ∀ (k : Int) (z : Mem), (0 ≤ k ∧ k < 30) → wE T n σ = k → Ex C_lk m z → MLk T n z σ → (some (aI 1) : Option AV) = some (aI (if 0 ≤ wE T n σ ∧ wE T n σ < 30 then 1 else 0)) ∧ Ex C_lk m z ∧ MLk T n z σ := fun k z hk hw ze zl => ⟨by rw [if_pos (by omega)], ze, zl⟩
  refine ep_X8_isOwnHere (g_X8_isOwnHere_0 ?_)
  refine p_X8_isOwnHere_5 (d2 := d - 1) (wrd_at (iw (by decide))).1 (s_isHere (c := 65) (iw (by decide)) (ht.lk (Ex.refl C_lk m)) h (by omega)) (by omega) ?_
  rintro _ z0 ⟨q, f0, l0⟩; cases q
  have e0 := (Ex.refl C_lk m).trans f0
  rw [show ((wOf 65 : Nat) : Int) = 0 from rfl]
  by_cases c0 : wE T n σ = 0
  · rw [if_pos c0]
    exact g_X8_isOwnHere_8 ⟨by omega, fun _ => hit 0 z0 (by decide) c0 e0 l0, fun q => absurd (by decide) q⟩
  rw [if_neg c0]
  refine g_X8_isOwnHere_8 ⟨by omega, fun q => absurd rfl q, fun _ => ?_⟩
  refine p_X8_isOwnHere_16 (d2 := d - 1) (wrd_at (iw (by decide))).1 (s_isHere (c := 66) (iw (by decide)) (ht.lk (e0)) l0.1 (by omega)) (by omega) ?_
  rintro _ z1 ⟨q, f1, l1⟩; cases q
  have e1 := (e0).trans f1
  rw [show ((wOf 66 : Nat) : Int) = 1 from rfl]
  by_cases c1 : wE T n σ = 1
  · rw [if_pos c1]
    exact g_X8_isOwnHere_19 ⟨by omega, fun _ => hit 1 z1 (by decide) c1 e1 l1, fun q => absurd (by decide) q⟩
  rw [if_neg c1]
  refine g_X8_isOwnHere_19 ⟨by omega, fun q => absurd rfl q, fun _ => ?_⟩
  refine p_X8_isOwnHere_27 (d2 := d - 1) (wrd_at (iw (by decide))).1 (s_isHere (c := 67) (iw (by decide)) (ht.lk (e1)) l1.1 (by omega)) (by omega) ?_
  rintro _ z2 ⟨q, f2, l2⟩; cases q
  have e2 := (e1).trans f2
  rw [show ((wOf 67 : Nat) : Int) = 2 from rfl]
  by_cases c2 : wE T n σ = 2
  · rw [if_pos c2]
    exact g_X8_isOwnHere_30 ⟨by omega, fun _ => hit 2 z2 (by decide) c2 e2 l2, fun q => absurd (by decide) q⟩
  rw [if_neg c2]
  refine g_X8_isOwnHere_30 ⟨by omega, fun q => absurd rfl q, fun _ => ?_⟩
  refine p_X8_isOwnHere_38 (d2 := d - 1) (wrd_at (iw (by decide))).1 (s_isHere (c := 68) (iw (by decide)) (ht.lk (e2)) l2.1 (by omega)) (by omega) ?_
  rintro _ z3 ⟨q, f3, l3⟩; cases q
  have e3 := (e2).trans f3
  rw [show ((wOf 68 : Nat) : Int) = 3 from rfl]
  by_cases c3 : wE T n σ = 3
  · rw [if_pos c3]
    exact g_X8_isOwnHere_41 ⟨by omega, fun _ => hit 3 z3 (by decide) c3 e3 l3, fun q => absurd (by decide) q⟩
  rw [if_neg c3]
  refine g_X8_isOwnHere_41 ⟨by omega, fun q => absurd rfl q, fun _ => ?_⟩
  refine p_X8_isOwnHere_49 (d2 := d - 1) (wrd_at (iw (by decide))).1 (s_isHere (c := 69) (iw (by decide)) (ht.lk (e3)) l3.1 (by omega)) (by omega) ?_
  rintro _ z4 ⟨q, f4, l4⟩; cases q
  have e4 := (e3).trans f4
  rw [show ((wOf 69 : Nat) : Int) = 4 from rfl]
  by_cases c4 : wE T n σ = 4
  · rw [if_pos c4]
    exact g_X8_isOwnHere_52 ⟨by omega, fun _ => hit 4 z4 (by decide) c4 e4 l4, fun q => absurd (by decide) q⟩
  rw [if_neg c4]
  refine g_X8_isOwnHere_52 ⟨by omega, fun q => absurd rfl q, fun _ => ?_⟩
  refine p_X8_isOwnHere_60 (d2 := d - 1) (wrd_at (iw (by decide))).1 (s_isHere (c := 70) (iw (by decide)) (ht.lk (e4)) l4.1 (by omega)) (by omega) ?_
  rintro _ z5 ⟨q, f5, l5⟩; cases q
  have e5 := (e4).trans f5
  rw [show ((wOf 70 : Nat) : Int) = 5 from rfl]
  by_cases c5 : wE T n σ = 5
  · rw [if_pos c5]
    exact g_X8_isOwnHere_63 ⟨by omega, by decide, fun _ => hit 5 z5 (by decide) c5 e5 l5, fun q => absurd (by decide) q⟩
  rw [if_neg c5]
  refine g_X8_isOwnHere_63 ⟨by omega, by decide, fun q => absurd rfl q, fun _ => ?_⟩
  refine p_X8_isOwnHere_81 (d2 := d - 1) (wrd_at (iw (by decide))).1 (s_isHere (c := 71) (iw (by decide)) (ht.lk (e5)) l5.1 (by omega)) (by omega) ?_
  rintro _ z6 ⟨q, f6, l6⟩; cases q
  have e6 := (e5).trans f6
  rw [show ((wOf 71 : Nat) : Int) = 6 from rfl]
  by_cases c6 : wE T n σ = 6
  · rw [if_pos c6]
    exact g_X8_isOwnHere_84 ⟨by omega, fun _ => hit 6 z6 (by decide) c6 e6 l6, fun q => absurd (by decide) q⟩
  rw [if_neg c6]
  refine g_X8_isOwnHere_84 ⟨by omega, fun q => absurd rfl q, fun _ => ?_⟩
  refine p_X8_isOwnHere_92 (d2 := d - 1) (wrd_at (iw (by decide))).1 (s_isHere (c := 72) (iw (by decide)) (ht.lk (e6)) l6.1 (by omega)) (by omega) ?_
  rintro _ z7 ⟨q, f7, l7⟩; cases q
  have e7 := (e6).trans f7
  rw [show ((wOf 72 : Nat) : Int) = 7 from rfl]
  by_cases c7 : wE T n σ = 7
  · rw [if_pos c7]
    exact g_X8_isOwnHere_95 ⟨by omega, fun _ => hit 7 z7 (by decide) c7 e7 l7, fun q => absurd (by decide) q⟩
  rw [if_neg c7]
  refine g_X8_isOwnHere_95 ⟨by omega, fun q => absurd rfl q, fun _ => ?_⟩
  refine p_X8_isOwnHere_103 (d2 := d - 1) (wrd_at (iw (by decide))).1 (s_isHere (c := 73) (iw (by decide)) (ht.lk (e7)) l7.1 (by omega)) (by omega) ?_
  rintro _ z8 ⟨q, f8, l8⟩; cases q
  have e8 := (e7).trans f8
  rw [show ((wOf 73 : Nat) : Int) = 8 from rfl]
  by_cases c8 : wE T n σ = 8
  · rw [if_pos c8]
    exact g_X8_isOwnHere_106 ⟨by omega, fun _ => hit 8 z8 (by decide) c8 e8 l8, fun q => absurd (by decide) q⟩
  rw [if_neg c8]
  refine g_X8_isOwnHere_106 ⟨by omega, fun q => absurd rfl q, fun _ => ?_⟩
  refine p_X8_isOwnHere_114 (d2 := d - 1) (wrd_at (iw (by decide))).1 (s_isHere (c := 74) (iw (by decide)) (ht.lk (e8)) l8.1 (by omega)) (by omega) ?_
  rintro _ z9 ⟨q, f9, l9⟩; cases q
  have e9 := (e8).trans f9
  rw [show ((wOf 74 : Nat) : Int) = 9 from rfl]
  by_cases c9 : wE T n σ = 9
  · rw [if_pos c9]
    exact g_X8_isOwnHere_117 ⟨by omega, fun _ => hit 9 z9 (by decide) c9 e9 l9, fun q => absurd (by decide) q⟩
  rw [if_neg c9]
  refine g_X8_isOwnHere_117 ⟨by omega, fun q => absurd rfl q, fun _ => ?_⟩
  refine p_X8_isOwnHere_125 (d2 := d - 1) (wrd_at (iw (by decide))).1 (s_isHere (c := 75) (iw (by decide)) (ht.lk (e9)) l9.1 (by omega)) (by omega) ?_
  rintro _ z10 ⟨q, f10, l10⟩; cases q
  have e10 := (e9).trans f10
  rw [show ((wOf 75 : Nat) : Int) = 10 from rfl]
  by_cases c10 : wE T n σ = 10
  · rw [if_pos c10]
    exact g_X8_isOwnHere_128 ⟨by omega, fun _ => hit 10 z10 (by decide) c10 e10 l10, fun q => absurd (by decide) q⟩
  rw [if_neg c10]
  refine g_X8_isOwnHere_128 ⟨by omega, fun q => absurd rfl q, fun _ => ?_⟩
  refine p_X8_isOwnHere_136 (d2 := d - 1) (wrd_at (iw (by decide))).1 (s_isHere (c := 76) (iw (by decide)) (ht.lk (e10)) l10.1 (by omega)) (by omega) ?_
  rintro _ z11 ⟨q, f11, l11⟩; cases q
  have e11 := (e10).trans f11
  rw [show ((wOf 76 : Nat) : Int) = 11 from rfl]
  by_cases c11 : wE T n σ = 11
  · rw [if_pos c11]
    exact g_X8_isOwnHere_139 ⟨by omega, by decide, fun _ => hit 11 z11 (by decide) c11 e11 l11, fun q => absurd (by decide) q⟩
  rw [if_neg c11]
  refine g_X8_isOwnHere_139 ⟨by omega, by decide, fun q => absurd rfl q, fun _ => ?_⟩
  refine p_X8_isOwnHere_157 (d2 := d - 1) (wrd_at (iw (by decide))).1 (s_isHere (c := 77) (iw (by decide)) (ht.lk (e11)) l11.1 (by omega)) (by omega) ?_
  rintro _ z12 ⟨q, f12, l12⟩; cases q
  have e12 := (e11).trans f12
  rw [show ((wOf 77 : Nat) : Int) = 12 from rfl]
  by_cases c12 : wE T n σ = 12
  · rw [if_pos c12]
    exact g_X8_isOwnHere_160 ⟨by omega, fun _ => hit 12 z12 (by decide) c12 e12 l12, fun q => absurd (by decide) q⟩
  rw [if_neg c12]
  refine g_X8_isOwnHere_160 ⟨by omega, fun q => absurd rfl q, fun _ => ?_⟩
  refine p_X8_isOwnHere_168 (d2 := d - 1) (wrd_at (iw (by decide))).1 (s_isHere (c := 78) (iw (by decide)) (ht.lk (e12)) l12.1 (by omega)) (by omega) ?_
  rintro _ z13 ⟨q, f13, l13⟩; cases q
  have e13 := (e12).trans f13
  rw [show ((wOf 78 : Nat) : Int) = 13 from rfl]
  by_cases c13 : wE T n σ = 13
  · rw [if_pos c13]
    exact g_X8_isOwnHere_171 ⟨by omega, fun _ => hit 13 z13 (by decide) c13 e13 l13, fun q => absurd (by decide) q⟩
  rw [if_neg c13]
  refine g_X8_isOwnHere_171 ⟨by omega, fun q => absurd rfl q, fun _ => ?_⟩
  refine p_X8_isOwnHere_179 (d2 := d - 1) (wrd_at (iw (by decide))).1 (s_isHere (c := 79) (iw (by decide)) (ht.lk (e13)) l13.1 (by omega)) (by omega) ?_
  rintro _ z14 ⟨q, f14, l14⟩; cases q
  have e14 := (e13).trans f14
  rw [show ((wOf 79 : Nat) : Int) = 14 from rfl]
  by_cases c14 : wE T n σ = 14
  · rw [if_pos c14]
    exact g_X8_isOwnHere_182 ⟨by omega, fun _ => hit 14 z14 (by decide) c14 e14 l14, fun q => absurd (by decide) q⟩
  rw [if_neg c14]
  refine g_X8_isOwnHere_182 ⟨by omega, fun q => absurd rfl q, fun _ => ?_⟩
  refine p_X8_isOwnHere_190 (d2 := d - 1) (wrd_at (iw (by decide))).1 (s_isHere (c := 80) (iw (by decide)) (ht.lk (e14)) l14.1 (by omega)) (by omega) ?_
  rintro _ z15 ⟨q, f15, l15⟩; cases q
  have e15 := (e14).trans f15
  rw [show ((wOf 80 : Nat) : Int) = 15 from rfl]
  by_cases c15 : wE T n σ = 15
  · rw [if_pos c15]
    exact g_X8_isOwnHere_193 ⟨by omega, fun _ => hit 15 z15 (by decide) c15 e15 l15, fun q => absurd (by decide) q⟩
  rw [if_neg c15]
  refine g_X8_isOwnHere_193 ⟨by omega, fun q => absurd rfl q, fun _ => ?_⟩
  refine p_X8_isOwnHere_201 (d2 := d - 1) (wrd_at (iw (by decide))).1 (s_isHere (c := 81) (iw (by decide)) (ht.lk (e15)) l15.1 (by omega)) (by omega) ?_
  rintro _ z16 ⟨q, f16, l16⟩; cases q
  have e16 := (e15).trans f16
  rw [show ((wOf 81 : Nat) : Int) = 16 from rfl]
  by_cases c16 : wE T n σ = 16
  · rw [if_pos c16]
    exact g_X8_isOwnHere_204 ⟨by omega, fun _ => hit 16 z16 (by decide) c16 e16 l16, fun q => absurd (by decide) q⟩
  rw [if_neg c16]
  refine g_X8_isOwnHere_204 ⟨by omega, fun q => absurd rfl q, fun _ => ?_⟩
  refine p_X8_isOwnHere_212 (d2 := d - 1) (wrd_at (iw (by decide))).1 (s_isHere (c := 82) (iw (by decide)) (ht.lk (e16)) l16.1 (by omega)) (by omega) ?_
  rintro _ z17 ⟨q, f17, l17⟩; cases q
  have e17 := (e16).trans f17
  rw [show ((wOf 82 : Nat) : Int) = 17 from rfl]
  by_cases c17 : wE T n σ = 17
  · rw [if_pos c17]
    exact g_X8_isOwnHere_215 ⟨by omega, by decide, fun _ => hit 17 z17 (by decide) c17 e17 l17, fun q => absurd (by decide) q⟩
  rw [if_neg c17]
  refine g_X8_isOwnHere_215 ⟨by omega, by decide, fun q => absurd rfl q, fun _ => ?_⟩
  refine p_X8_isOwnHere_233 (d2 := d - 1) (wrd_at (iw (by decide))).1 (s_isHere (c := 83) (iw (by decide)) (ht.lk (e17)) l17.1 (by omega)) (by omega) ?_
  rintro _ z18 ⟨q, f18, l18⟩; cases q
  have e18 := (e17).trans f18
  rw [show ((wOf 83 : Nat) : Int) = 18 from rfl]
  by_cases c18 : wE T n σ = 18
  · rw [if_pos c18]
    exact g_X8_isOwnHere_236 ⟨by omega, fun _ => hit 18 z18 (by decide) c18 e18 l18, fun q => absurd (by decide) q⟩
  rw [if_neg c18]
  refine g_X8_isOwnHere_236 ⟨by omega, fun q => absurd rfl q, fun _ => ?_⟩
  refine p_X8_isOwnHere_244 (d2 := d - 1) (wrd_at (iw (by decide))).1 (s_isHere (c := 84) (iw (by decide)) (ht.lk (e18)) l18.1 (by omega)) (by omega) ?_
  rintro _ z19 ⟨q, f19, l19⟩; cases q
  have e19 := (e18).trans f19
  rw [show ((wOf 84 : Nat) : Int) = 19 from rfl]
  by_cases c19 : wE T n σ = 19
  · rw [if_pos c19]
    exact g_X8_isOwnHere_247 ⟨by omega, fun _ => hit 19 z19 (by decide) c19 e19 l19, fun q => absurd (by decide) q⟩
  rw [if_neg c19]
  refine g_X8_isOwnHere_247 ⟨by omega, fun q => absurd rfl q, fun _ => ?_⟩
  refine p_X8_isOwnHere_255 (d2 := d - 1) (wrd_at (iw (by decide))).1 (s_isHere (c := 85) (iw (by decide)) (ht.lk (e19)) l19.1 (by omega)) (by omega) ?_
  rintro _ z20 ⟨q, f20, l20⟩; cases q
  have e20 := (e19).trans f20
  rw [show ((wOf 85 : Nat) : Int) = 20 from rfl]
  by_cases c20 : wE T n σ = 20
  · rw [if_pos c20]
    exact g_X8_isOwnHere_258 ⟨by omega, fun _ => hit 20 z20 (by decide) c20 e20 l20, fun q => absurd (by decide) q⟩
  rw [if_neg c20]
  refine g_X8_isOwnHere_258 ⟨by omega, fun q => absurd rfl q, fun _ => ?_⟩
  refine p_X8_isOwnHere_266 (d2 := d - 1) (wrd_at (iw (by decide))).1 (s_isHere (c := 86) (iw (by decide)) (ht.lk (e20)) l20.1 (by omega)) (by omega) ?_
  rintro _ z21 ⟨q, f21, l21⟩; cases q
  have e21 := (e20).trans f21
  rw [show ((wOf 86 : Nat) : Int) = 21 from rfl]
  by_cases c21 : wE T n σ = 21
  · rw [if_pos c21]
    exact g_X8_isOwnHere_269 ⟨by omega, fun _ => hit 21 z21 (by decide) c21 e21 l21, fun q => absurd (by decide) q⟩
  rw [if_neg c21]
  refine g_X8_isOwnHere_269 ⟨by omega, fun q => absurd rfl q, fun _ => ?_⟩
  refine p_X8_isOwnHere_277 (d2 := d - 1) (wrd_at (iw (by decide))).1 (s_isHere (c := 87) (iw (by decide)) (ht.lk (e21)) l21.1 (by omega)) (by omega) ?_
  rintro _ z22 ⟨q, f22, l22⟩; cases q
  have e22 := (e21).trans f22
  rw [show ((wOf 87 : Nat) : Int) = 22 from rfl]
  by_cases c22 : wE T n σ = 22
  · rw [if_pos c22]
    exact g_X8_isOwnHere_280 ⟨by omega, fun _ => hit 22 z22 (by decide) c22 e22 l22, fun q => absurd (by decide) q⟩
  rw [if_neg c22]
  refine g_X8_isOwnHere_280 ⟨by omega, fun q => absurd rfl q, fun _ => ?_⟩
  refine p_X8_isOwnHere_288 (d2 := d - 1) (wrd_at (iw (by decide))).1 (s_isHere (c := 88) (iw (by decide)) (ht.lk (e22)) l22.1 (by omega)) (by omega) ?_
  rintro _ z23 ⟨q, f23, l23⟩; cases q
  have e23 := (e22).trans f23
  rw [show ((wOf 88 : Nat) : Int) = 23 from rfl]
  by_cases c23 : wE T n σ = 23
  · rw [if_pos c23]
    exact g_X8_isOwnHere_291 ⟨by omega, by decide, fun _ => hit 23 z23 (by decide) c23 e23 l23, fun q => absurd (by decide) q⟩
  rw [if_neg c23]
  refine g_X8_isOwnHere_291 ⟨by omega, by decide, fun q => absurd rfl q, fun _ => ?_⟩
  refine p_X8_isOwnHere_309 (d2 := d - 1) (wrd_at (iw (by decide))).1 (s_isHere (c := 89) (iw (by decide)) (ht.lk (e23)) l23.1 (by omega)) (by omega) ?_
  rintro _ z24 ⟨q, f24, l24⟩; cases q
  have e24 := (e23).trans f24
  rw [show ((wOf 89 : Nat) : Int) = 24 from rfl]
  by_cases c24 : wE T n σ = 24
  · rw [if_pos c24]
    exact g_X8_isOwnHere_312 ⟨by omega, fun _ => hit 24 z24 (by decide) c24 e24 l24, fun q => absurd (by decide) q⟩
  rw [if_neg c24]
  refine g_X8_isOwnHere_312 ⟨by omega, fun q => absurd rfl q, fun _ => ?_⟩
  refine p_X8_isOwnHere_320 (d2 := d - 1) (wrd_at (iw (by decide))).1 (s_isHere (c := 90) (iw (by decide)) (ht.lk (e24)) l24.1 (by omega)) (by omega) ?_
  rintro _ z25 ⟨q, f25, l25⟩; cases q
  have e25 := (e24).trans f25
  rw [show ((wOf 90 : Nat) : Int) = 25 from rfl]
  by_cases c25 : wE T n σ = 25
  · rw [if_pos c25]
    exact g_X8_isOwnHere_323 ⟨by omega, fun _ => hit 25 z25 (by decide) c25 e25 l25, fun q => absurd (by decide) q⟩
  rw [if_neg c25]
  refine g_X8_isOwnHere_323 ⟨by omega, fun q => absurd rfl q, fun _ => ?_⟩
  refine p_X8_isOwnHere_331 (d2 := d - 1) (wrd_at (iw (by decide))).1 (s_isHere (c := 91) (iw (by decide)) (ht.lk (e25)) l25.1 (by omega)) (by omega) ?_
  rintro _ z26 ⟨q, f26, l26⟩; cases q
  have e26 := (e25).trans f26
  rw [show ((wOf 91 : Nat) : Int) = 26 from rfl]
  by_cases c26 : wE T n σ = 26
  · rw [if_pos c26]
    exact g_X8_isOwnHere_334 ⟨by omega, fun _ => hit 26 z26 (by decide) c26 e26 l26, fun q => absurd (by decide) q⟩
  rw [if_neg c26]
  refine g_X8_isOwnHere_334 ⟨by omega, fun q => absurd rfl q, fun _ => ?_⟩
  refine p_X8_isOwnHere_342 (d2 := d - 1) (wrd_at (iw (by decide))).1 (s_isHere (c := 92) (iw (by decide)) (ht.lk (e26)) l26.1 (by omega)) (by omega) ?_
  rintro _ z27 ⟨q, f27, l27⟩; cases q
  have e27 := (e26).trans f27
  rw [show ((wOf 92 : Nat) : Int) = 27 from rfl]
  by_cases c27 : wE T n σ = 27
  · rw [if_pos c27]
    exact g_X8_isOwnHere_345 ⟨by omega, fun _ => hit 27 z27 (by decide) c27 e27 l27, fun q => absurd (by decide) q⟩
  rw [if_neg c27]
  refine g_X8_isOwnHere_345 ⟨by omega, fun q => absurd rfl q, fun _ => ?_⟩
  refine p_X8_isOwnHere_353 (d2 := d - 1) (wrd_at (iw (by decide))).1 (s_isHere (c := 93) (iw (by decide)) (ht.lk (e27)) l27.1 (by omega)) (by omega) ?_
  rintro _ z28 ⟨q, f28, l28⟩; cases q
  have e28 := (e27).trans f28
  rw [show ((wOf 93 : Nat) : Int) = 28 from rfl]
  by_cases c28 : wE T n σ = 28
  · rw [if_pos c28]
    exact g_X8_isOwnHere_356 ⟨by omega, fun _ => hit 28 z28 (by decide) c28 e28 l28, fun q => absurd (by decide) q⟩
  rw [if_neg c28]
  refine g_X8_isOwnHere_356 ⟨by omega, fun q => absurd rfl q, fun _ => ?_⟩
  refine p_X8_isOwnHere_364 (d2 := d - 1) (wrd_at (iw (by decide))).1 (s_isHere (c := 94) (iw (by decide)) (ht.lk (e28)) l28.1 (by omega)) (by omega) ?_
  rintro _ z29 ⟨q, f29, l29⟩; cases q
  have e29 := (e28).trans f29
  rw [show ((wOf 94 : Nat) : Int) = 29 from rfl]
  refine g_X8_isOwnHere_367 ⟨by split <;> omega, ?_, e29, l29⟩
  by_cases c29 : wE T n σ = 29
  · rw [if_pos c29, if_neg (by decide), if_pos (by omega)]
  · have wb : -1 ≤ wE T n σ := by
      have := @wi_bd T n σ
      unfold wE
      split <;> omega
    rw [if_neg c29, if_pos rfl, if_neg (by omega)]
def C_n8 (a j : Int) : Prop := C_lk a j ∨ (a = 62 ∧ j = 41)
theorem MSt.nl {z : Mem} (h : MSt T n m σ) (e : Ex (fun a j => a = 62 ∧ j = 41) m z) : MSt T n z σ := h.ex e (fun a j q c => by unfold C_lk at q; omega)
theorem wE_kd2 (h : kd T n σ = 256) : wE T n σ = wi T n σ := by unfold wE; rw [if_pos h]
theorem s_X8_name (ht : Tm m T n) (h : MSt T n m σ) (hd : 5 ≤ d) : P_X8_name sc d [aR 62] m (fun v z => ∃ w, v = some (aJ w) ∧ Ex C_n8 m z ∧
    if kd T n σ ≠ 256 ∨ (0 ≤ wi T n σ ∧ wi T n σ < 30) then MEr z (1, σ.1) else if (σ.1 : Int) + 6 < (ed T n σ : Nat) then MEr z (1, (σ.1 : Int) + 6) else w = hornF (ltr T n σ) (ed T n σ - σ.1) ∧ z 62 41 = (σ.1 : Nat) ∧ MSt T n z (nx T n σ)) := by
  have n1 := ht.1
  have h5 := h.2.1.1
  have sn := h.1
  refine ep_X8_name (g_X8_name_0 ⟨by omega, fun _ => ?_, fun g => absurd h5 g⟩)
  refine p_X8_name_10 (d2 := d - 1) (s_look ht h) (by omega) ?_
  rintro _ z ⟨q, ze, zl⟩; cases q
  have lb := @lk_bd T n σ ht.by
  refine p_X8_name_13 (d2 := d - 1) (s_isLetter (by unfold R32; omega)) (by omega) ?_
  rintro _ z ⟨q, rfl⟩; cases q
  have z2 := zl.2
  have z4 := zl.1.2.2.2.1
  have z4b := zl.1.2.2.2.2
  have bad : ∀ y : Mem, Ex C_lk m y → MLk T n y σ → (kd T n σ ≠ 256 ∨ (0 ≤ wi T n σ ∧ wi T n σ < 30)) → S_X8_name sc d 43 [aR 62, aU, aU] [aI (y 62 2), aI 1, aR 62] y (fun v z => ∃ w, v = some (aJ w) ∧ Ex C_n8 m z ∧
    if kd T n σ ≠ 256 ∨ (0 ≤ wi T n σ ∧ wi T n σ < 30) then MEr z (1, σ.1) else if (σ.1 : Int) + 6 < (ed T n σ : Nat) then MEr z (1, (σ.1 : Int) + 6) else w = hornF (ltr T n σ) (ed T n σ - σ.1) ∧ z 62 41 = (σ.1 : Nat) ∧ MSt T n z (nx T n σ)) := by
    intro y ye yl c
    refine p_X8_name_43 (d2 := d - 1) (s_X8_fail yl.1.2.1.1 (by decide) (yl.pl n1)) (by omega) ?_
    rintro u ⟨-, ue, hu⟩
    rw [yl.2] at hu
    refine g_X8_name_46 ⟨_, rfl, (ye.trans ue).mono (fun a j q => Or.inl q), ?_⟩
    rw [if_pos c]; exact hu
  by_cases cl : 97 ≤ lkC T n σ ∧ lkC T n σ ≤ 122
  · rw [if_pos cl]
    refine g_X8_name_16 ⟨by omega, fun q => by omega, fun _ => ⟨by omega, by omega, fun g => bad z ze zl (Or.inl (fun k => ?_)), fun g => ?_⟩⟩
    · have := (kd256 k ht.by).2.2.1
      have g2 := z4b.mp (by omega)
      rw [g2] at this; cases this
    · have ng : ¬ σ.2 = true := fun q => g (by rw [z2]; exact (z4b.mpr q).symm)
      obtain ⟨k6, lt, il⟩ := lk_let.mp ⟨cl, ng⟩
      have ee := (kd256 k6 ht.by).2.2.2
      have ege : σ.1 + 1 ≤ ed T n σ := by rw [ee]; exact spn_ge
      have ele : ed T n σ ≤ n := (ed_le (T := T) sn).2
      refine p_X8_name_31 (d2 := d - 1) (s_isOwnHere (ht.lk ze) zl.1 (by omega)) (by omega) ?_
      rintro _ y ⟨q, ye0, yl⟩; cases q
      have ye := ze.trans ye0
      rw [wE_kd2 k6]
      by_cases co : 0 ≤ wi T n σ ∧ wi T n σ < 30
      · rw [if_pos co]
        exact g_X8_name_34 ⟨by omega, fun q => by omega, fun _ => bad y ye yl (Or.inr co)⟩
      · rw [if_neg co]
        have c12 : ¬ (kd T n σ ≠ 256 ∨ (0 ≤ wi T n σ ∧ wi T n σ < 30)) := by
          rintro (q | q)
          · exact q k6
          · exact co q
        refine g_X8_name_34 ⟨by omega, fun _ => ?_, fun q => absurd rfl q⟩
        have key : ∀ (f i : Nat) (u : Mem), i + f = 6 → σ.1 + i ≤ ed T n σ → Ex C_n8 m u → u 62 2 = ((σ.1 + i : Nat) : Int) → u 62 41 = (σ.1 : Nat)  → u 62 5 = 0 ∧ u 62 6 = -1 → S_X8_name sc d 58 [aR 62, aJ (hornF (ltr T n σ) i), aU] [] u (fun v z => ∃ w, v = some (aJ w) ∧ Ex C_n8 m z ∧
    if kd T n σ ≠ 256 ∨ (0 ≤ wi T n σ ∧ wi T n σ < 30) then MEr z (1, σ.1) else if (σ.1 : Int) + 6 < (ed T n σ : Nat) then MEr z (1, (σ.1 : Int) + 6) else w = hornF (ltr T n σ) (ed T n σ - σ.1) ∧ z 62 41 = (σ.1 : Nat) ∧ MSt T n z (nx T n σ)) := by
          intro f
          induction f with
          | zero =>
            intro i u hi hed ue u2 u41 u5
            have tu : Tm u T n := ht.ex ue (fun a j q c => by unfold C_n8 C_lk at c; unfold IsW at q; omega)
            have u3 := tu.2.1
            have done : σ.1 + i = ed T n σ → (fun (v : Option AV) (z : Mem) => ∃ w, v = some (aJ w) ∧ Ex C_n8 m z ∧
    if kd T n σ ≠ 256 ∨ (0 ≤ wi T n σ ∧ wi T n σ < 30) then MEr z (1, σ.1) else if (σ.1 : Int) + 6 < (ed T n σ : Nat) then MEr z (1, (σ.1 : Int) + 6) else w = hornF (ltr T n σ) (ed T n σ - σ.1) ∧ z 62 41 = (σ.1 : Nat) ∧ MSt T n z (nx T n σ)) (some (aJ (hornF (ltr T n σ) i))) (wr u 62 4 (u 62 2)) := by
              intro e
              refine ⟨_, rfl, ue.put (Or.inl ⟨rfl, by decide, by decide, by decide, by decide, by decide⟩), ?_⟩
              rw [if_neg c12, if_neg (by omega)]
              refine ⟨by rw [show ed T n σ - σ.1 = i by omega], ?_, MSt.nx sn ?_ ?_ ?_ ?_⟩
              · rw [wr_ne _ _ _ _ _ _ (by decide)]; exact u41
              · rw [wr_ne _ _ _ _ _ _ (by decide), wr_ne _ _ _ _ _ _ (by decide)]; exact u5
              · rw [wr_ne _ _ _ _ _ _ (by decide), u2, e]
              · rw [wr_eq, u2, e]; omega
              · rw [wr_eq, u2, e]; exact ⟨fun _ => Or.inl k6, fun _ => rfl⟩
            refine g_X8_name_58 ⟨by omega, by omega, fun g => done (by omega), fun g => ⟨by omega, by omega, ?_⟩⟩
            have tt := tu.2.2.1 (σ.1 + i) (by omega)
            rw [u2, tt.1]
            refine p_X8_name_78 (d2 := d - 1) (s_isLetter (by unfold R32; omega)) (by omega) ?_
            rintro _ u' ⟨q, rfl⟩; cases q
            by_cases cc : σ.1 + i = ed T n σ
            · have nl := @spn_end isLe T n (σ.1 + 1) (by rw [← ee]; omega)
              rw [← ee, ← cc] at nl
              rw [if_neg (fun q => by rw [isLe_iff.mpr q] at nl; cases nl)]
              exact g_X8_name_81 ⟨by omega, fun _ => done cc, fun q => absurd rfl q⟩
            · have il2 := @spn_in isLe T n (σ.1 + 1) (σ.1 + i) (by omega) (by rw [← ee]; omega)
              rw [if_pos (isLe_iff.mp il2)]
              refine g_X8_name_81 ⟨by omega, fun q => absurd q (by decide), fun _ => ⟨by omega, fun q => by omega, fun _ => ?_⟩⟩
              refine p_X8_name_104 (d2 := d - 1) (s_X8_fail u5.1 (by decide) (by omega)) (by omega) ?_
              rintro w ⟨-, we, hw⟩
              refine g_X8_name_107 ⟨_, rfl, ue.trans (we.mono (fun a j q => Or.inl q)), ?_⟩
              rw [if_neg c12, if_pos (by omega)]
              rw [u2, show ((σ.1 + i : Nat) : Int) = (σ.1 : Int) + 6 by omega] at hw
              exact hw
          | succ f ih =>
            intro i u hi hed ue u2 u41 u5
            have tu : Tm u T n := ht.ex ue (fun a j q c => by unfold C_n8 C_lk at c; unfold IsW at q; omega)
            have u3 := tu.2.1
            have done : σ.1 + i = ed T n σ → (fun (v : Option AV) (z : Mem) => ∃ w, v = some (aJ w) ∧ Ex C_n8 m z ∧
    if kd T n σ ≠ 256 ∨ (0 ≤ wi T n σ ∧ wi T n σ < 30) then MEr z (1, σ.1) else if (σ.1 : Int) + 6 < (ed T n σ : Nat) then MEr z (1, (σ.1 : Int) + 6) else w = hornF (ltr T n σ) (ed T n σ - σ.1) ∧ z 62 41 = (σ.1 : Nat) ∧ MSt T n z (nx T n σ)) (some (aJ (hornF (ltr T n σ) i))) (wr u 62 4 (u 62 2)) := by
              intro e
              refine ⟨_, rfl, ue.put (Or.inl ⟨rfl, by decide, by decide, by decide, by decide, by decide⟩), ?_⟩
              rw [if_neg c12, if_neg (by omega)]
              refine ⟨by rw [show ed T n σ - σ.1 = i by omega], ?_, MSt.nx sn ?_ ?_ ?_ ?_⟩
              · rw [wr_ne _ _ _ _ _ _ (by decide)]; exact u41
              · rw [wr_ne _ _ _ _ _ _ (by decide), wr_ne _ _ _ _ _ _ (by decide)]; exact u5
              · rw [wr_ne _ _ _ _ _ _ (by decide), u2, e]
              · rw [wr_eq, u2, e]; omega
              · rw [wr_eq, u2, e]; exact ⟨fun _ => Or.inl k6, fun _ => rfl⟩
            refine g_X8_name_58 ⟨by omega, by omega, fun g => done (by omega), fun g => ⟨by omega, by omega, ?_⟩⟩
            have tt := tu.2.2.1 (σ.1 + i) (by omega)
            rw [u2, tt.1]
            refine p_X8_name_78 (d2 := d - 1) (s_isLetter (by unfold R32; omega)) (by omega) ?_
            rintro _ u' ⟨q, rfl⟩; cases q
            by_cases cc : σ.1 + i = ed T n σ
            · have nl := @spn_end isLe T n (σ.1 + 1) (by rw [← ee]; omega)
              rw [← ee, ← cc] at nl
              rw [if_neg (fun q => by rw [isLe_iff.mpr q] at nl; cases nl)]
              exact g_X8_name_81 ⟨by omega, fun _ => done cc, fun q => absurd rfl q⟩
            · have il2 : isLe (T ((σ.1 + i : Nat) : Int)) = true := by
                by_cases i0 : i = 0
                · rw [i0]; exact il
                · exact @spn_in isLe T n (σ.1 + 1) (σ.1 + i) (by omega) (by rw [← ee]; omega)
              rw [if_pos (isLe_iff.mp il2)]
              refine g_X8_name_81 ⟨by omega, fun q => absurd q (by decide), fun _ => ⟨by omega, fun _ => ⟨by omega, by omega, by rw [u2, tt.1]; omega, ?_⟩, fun q => by omega⟩⟩
              rw [u2, tt.1]
              have hz : 27 * hornF (ltr T n σ) i + T ((σ.1 + i : Nat) : Int) - 97 + 1 = hornF (ltr T n σ) (i + 1) := by
                rw [hornF]
                unfold ltr
                rw [if_neg (by omega), show ((σ.1 + i : Nat) : Int) = (σ.1 : Int) + i by omega]
                omega
              rw [hz]
              refine ih (i + 1) _ (by omega) (by omega) (ue.put (Or.inl ⟨rfl, by decide, by decide, by decide, by decide, by decide⟩)) ?_ ?_ ?_
              · rw [wr_eq]; omega
              · rw [wr_ne _ _ _ _ _ _ (by decide)]; exact u41
              · rw [wr_ne _ _ _ _ _ _ (by decide), wr_ne _ _ _ _ _ _ (by decide)]; exact u5
        refine key 6 0 _ (by omega) (by omega) ((ye.mono (fun a j q => Or.inl q)).put (Or.inr ⟨rfl, rfl⟩)) ?_ ?_ ?_
        · rw [wr_ne _ _ _ _ _ _ (by decide)]; exact yl.2
        · rw [wr_eq]; exact yl.2
        · rw [wr_ne _ _ _ _ _ _ (by decide), wr_ne _ _ _ _ _ _ (by decide)]; exact yl.1.2.1
  · rw [if_neg cl]
    refine g_X8_name_16 ⟨by omega, fun _ => bad z ze zl (Or.inl (fun k => ?_)), fun q => absurd rfl q⟩
    have q := kd256 k ht.by
    have := isLe_iff.mp q.2.1
    unfold lkC at cl
    rw [if_pos q.1] at cl
    omega
end RN
