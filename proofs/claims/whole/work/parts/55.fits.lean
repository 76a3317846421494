/-! fits on both sides -/
def Xrw (m : Mem) (nr : Int) (w : Int → Int) : Prop := m 0 10 = nr ∧ ∀ i : Nat, (i : Int) < 2 * nr → m 59 i = w i
def Mrw (m : Mem) (nr : Int) (w : Int → Int) : Prop := m 62 88 = nr ∧ ∀ i : Nat, (i : Int) < 2 * nr → m 126 i = w i
def RwB (ρ : Mem) (nr : Int) (w : Int → Int) : Prop := (0 ≤ nr ∧ nr ≤ 20) ∧ ∀ i : Nat, (i : Int) < nr → (0 ≤ w (2 * i) ∧ w (2 * i) < ρ 0 1) ∧ 0 ≤ w (2 * i + 1) ∧ w (2 * i + 1) ≤ 1
def agB (ρ : Mem) (L : Int) (w : Int → Int) : Nat → Bool
  | 0 => true
  | i + 1 => agB ρ L w i && (begF ρ L (w (2 * i)) == w (2 * i + 1))
def ftB (ρ : Mem) (w : Int → Int) (nr : Nat) (L : Int) : Bool := decide (maxF (ρ 3) (ρ 0 1).toNat ≤ L) && agB ρ L w nr
def cntF (p : Int → Bool) : Nat → Int
  | 0 => 0
  | n + 1 => if p (n + 1) then cntF p n + 1 else cntF p n
def fstF (p : Int → Bool) : Nat → Int
  | 0 => -1
  | n + 1 => if p (n + 1) then (if fstF p n ≠ -1 then fstF p n else n + 1) else fstF p n
def lstF (p : Int → Bool) : Nat → Int
  | 0 => -1
  | n + 1 => if p (n + 1) then n + 1 else lstF p n
theorem cfl_bd (p : Int → Bool) (n : Nat) : (0 ≤ cntF p n ∧ cntF p n ≤ n) ∧ (-1 ≤ fstF p n ∧ fstF p n ≤ n) ∧ (-1 ≤ lstF p n ∧ lstF p n ≤ n) := by
  induction n with
  | zero => simp [cntF, fstF, lstF]
  | succ n ih =>
    rw [cntF, fstF, lstF]
    cases p (n + 1)
    · simp only [Bool.false_eq_true, if_false]; omega
    · simp only [if_true]
      split <;> omega
theorem cfl_0 {p : Int → Bool} {n : Nat} (h : ∀ k : Nat, k < n → p (k + 1) = false) : cntF p n = 0 ∧ fstF p n = -1 ∧ lstF p n = -1 := by
  induction n with
  | zero => simp [cntF, fstF, lstF]
  | succ n ih =>
    have h1 := ih (fun k hk => h k (by omega))
    have h2 := h n (by omega)
    rw [cntF, fstF, lstF, h2]
    simpa using h1
def IsFit (ρ : Mem) (nr : Int) (w : Int → Int) (what v : Int) : Prop :=
  ((nr = 0 ∨ ¬ (0 ≤ what ∧ what ≤ 2)) ∧ v = -1) ∨ (nr ≠ 0 ∧ (0 ≤ what ∧ what ≤ 2) ∧ v = if what = 0 then cntF (ftB ρ w nr.toNat) 99 else if what = 1 then fstF (ftB ρ w nr.toNat) 99 else lstF (ftB ρ w nr.toNat) 99)
theorem IsFit.eq {ρ : Mem} {nr : Int} {w : Int → Int} {what x y : Int} (h1 : IsFit ρ nr w what x) (h2 : IsFit ρ nr w what y) : x = y := by
  rcases h1 with ⟨p, rfl⟩ | ⟨p, p', rfl⟩ <;> rcases h2 with ⟨q, rfl⟩ | ⟨q, q', rfl⟩
  · rfl
  · exact absurd q' (p.resolve_left q)
  · exact absurd p' (q.resolve_left p)
  · rfl
section FT_
variable {sc : List Int} {d : Nat} {m : Mem} {Q : Option AV → Mem → Prop} {r : Int} {ρ : Mem} {L : Int} {nr : Int} {w : Int → Int}
theorem Xrw.ex {C : Int → Int → Prop} {z : Mem} (h : Xrw m nr w) (he : Ex C m z) (hc : ∀ a j, ((a = 0 ∧ j = 10) ∨ a = 59) → ¬ C a j) : Xrw z nr w :=
  ⟨by rw [he _ _ (hc _ _ (by omega))]; exact h.1, fun i hi => by rw [he _ _ (hc _ _ (by omega))]; exact h.2 i hi⟩
theorem Mrw.ex {C : Int → Int → Prop} {z : Mem} (h : Mrw m nr w) (he : Ex C m z) (hc : ∀ a j, ((a = 62 ∧ j = 88) ∨ a = 126) → ¬ C a j) : Mrw z nr w :=
  ⟨by rw [he _ _ (hc _ _ (by omega))]; exact h.1, fun i hi => by rw [he _ _ (hc _ _ (by omega))]; exact h.2 i hi⟩
theorem Xt.ex {C : Int → Int → Prop} {z : Mem} (h : Xt m ρ) (he : Ex C m z) (hc : ∀ a j, ((a = 0 ∧ j = 2) ∨ (2 ≤ a ∧ a ≤ 30)) → ¬ C a j) : Xt z ρ := by
  have e := he 0 2 (hc _ _ (by omega))
  have hr := room_bd h.1
  exact ⟨by rw [e]; exact h.1, by rw [e]; exact h.2.1.ex he (fun a j q1 q2 => hc a j (by omega)), h.2.2⟩
theorem begF_01 {s : Int} : begF ρ L s = 0 ∨ begF ρ L s = 1 := by unfold begF; split <;> simp
theorem l_agrees (hrw : Xrw m nr w) (hrb : RwB ρ nr w) (hb : RmB ρ) (hg : ∀ s : Nat, (s : Int) < ρ 0 1 → m 45 s = begF ρ L s) (k1 : agB ρ L w nr.toNat = true → Q (some (aI 1)) m) (k0 : agB ρ L w nr.toNat = false → Q (some (aI 0)) m) : ∀ (j i : Nat), (i : Int) + j = nr → agB ρ L w i = true → S_X7_agrees sc d 14 [aR 0, aU, aI (2 * i)] [] m Q := by
  have b0 := hb.1
  have rb := hrb.1
  have e10 := hrw.1
  intro j
  induction j with
  | zero =>
    intro i hi ha
    have e : i = nr.toNat := by omega
    subst e
    exact g_X7_agrees_14 ⟨by omega, by omega, fun _ => k1 ha, fun c => absurd (by omega) c⟩
  | succ j ih =>
    intro i hi ha
    have e1 := hrw.2 (2 * i) (by omega)
    have e2 := hrw.2 (2 * i + 1) (by omega)
    rw [show ((2 * i : Nat) : Int) = 2 * (i : Int) by omega] at e1
    rw [show ((2 * i + 1 : Nat) : Int) = 2 * (i : Int) + 1 by omega] at e2
    have r1 := hrb.2 i (by omega)
    have g1 := hg (w (2 * i)).toNat (by omega)
    rw [show (((w (2 * i)).toNat : Nat) : Int) = w (2 * i) by omega] at g1
    have g2 : begF ρ L (w (2 * i)) = 0 ∨ begF ρ L (w (2 * i)) = 1 := begF_01
    refine g_X7_agrees_14 ⟨by omega, by omega, fun c => absurd c (by omega), fun _ => ⟨by omega, by omega, by omega, by omega, by omega, by omega, by rw [e1]; omega, by omega, fun c => ?_, fun c => ?_⟩⟩
    · rw [e1, e2, g1] at c
      have := ih (i + 1) (by omega) (by rw [agB, ha, c]; simp)
      rw [show (2 * ((i + 1 : Nat) : Int)) = 2 * (i : Int) + 2 by omega] at this
      exact this
    · rw [e1, e2, g1] at c
      refine k0 ?_
      have : ∀ n : Nat, i + 1 ≤ n → agB ρ L w n = false := by
        intro n hn
        induction n with
        | zero => omega
        | succ n ihn =>
          by_cases e : n = i
          · subst e; rw [agB, beq_false_of_ne c, Bool.and_false]
          · rw [agB, ihn (by omega), Bool.false_and]
      exact this _ (by omega)
theorem s_X7_agrees (h : Xt m ρ) (hrw : Xrw m nr w) (hrb : RwB ρ nr w) (hd : 1 ≤ d) (hL : L ≤ 99) (ht : fitsAll ρ L) : P_X7_agrees sc d [aR 0, aI L] m (fun v z => Ex C_io m z ∧ ∃ b : Bool, v = some (aI (if b then 1 else 0)) ∧ b = agB ρ L w nr.toNat) := by
  refine ep_X7_agrees (g_X7_agrees_0 ?_)
  refine p_X7_agrees_9 (d2 := d - 1) h.1 (s_X4_inOrder h.1 h.2.1 h.2.2 hL ht) (by omega) ?_
  rintro z ⟨-, h1, h2, h3⟩
  refine g_X7_agrees_12 ?_
  exact l_agrees (hrw.ex h1 (fun a j q => by unfold C_io; omega)) hrb h.2.2 h2 (fun c => ⟨h1, true, rfl, c.symm⟩) (fun c => ⟨h1, false, rfl, c.symm⟩) nr.toNat 0 (by have := hrb.1; omega) rfl
theorem l_X7_fits {what : Int} (h : Xt m ρ) (hrw : Xrw m nr w) (hrb : RwB ρ nr w) (hd : 2 ≤ d) (hw : 0 ≤ what ∧ what ≤ 2) (k : ∀ z, Ex C_io m z → Q (some (aI (if what = 0 then cntF (ftB ρ w nr.toNat) 99 else if what = 1 then fstF (ftB ρ w nr.toNat) 99 else lstF (ftB ρ w nr.toNat) 99))) z) :
    ∀ (j i : Nat) (z : Mem), i + j = 99 → (maxF (ρ 3) (ρ 0 1).toNat ≤ i + 1) → Ex C_io m z → S_X7_fits sc d 38 [aR 0, aI what, aI (cntF (ftB ρ w nr.toNat) i), aI (fstF (ftB ρ w nr.toNat) i), aI (lstF (ftB ρ w nr.toNat) i), aI ((i : Int) + 1)] [] z Q := by
  intro j
  induction j with
  | zero =>
    intro i z hi hm he
    have e : i = 99 := by omega
    subst e
    refine g_X7_fits_38 ⟨by omega, fun _ => ⟨by omega, fun c => ?_, fun c => ?_⟩, fun c => absurd (by omega) c⟩
    · have := k z he
      rw [if_neg c] at this
      by_cases c1 : what = 1
      · rw [if_neg (fun q => q c1)]; rw [if_pos c1] at this; exact this
      · rw [if_pos c1]; rw [if_neg c1] at this; exact this
    · have := k z he
      rw [if_pos (by omega)] at this
      exact this
  | succ j ih =>
    intro i z hi hm he
    have hz := h.ex he (fun a j q => by unfold C_io; omega)
    have bd := cfl_bd (ftB ρ w nr.toNat) i
    refine g_X7_fits_38 ⟨by omega, fun c => absurd c (by omega), fun _ => ?_⟩
    refine p_X7_fits_48 (d2 := d - 1) (s_X7_agrees hz (hrw.ex he (fun a j q => by unfold C_io; omega)) hrb (by omega) (by omega) ((fits_max h.2.2 (by omega)).mp hm)) (by omega) ?_
    rintro v z2 ⟨h1, b, e, hbv⟩
    have he2 := he.trans h1
    have w2 := ih (i + 1) z2 (by omega) (by omega) he2
    have ep : ftB ρ w nr.toNat ((i : Int) + 1) = b := by
      unfold ftB
      rw [hbv, decide_eq_true hm, Bool.true_and]
    rw [cntF, fstF, lstF, ep] at w2
    cases b
    · cases e
      exact g_X7_fits_51 ⟨by omega, fun _ => w2, fun c => absurd rfl c⟩
    · cases e
      exact g_X7_fits_51 ⟨by omega, fun c => absurd c (by decide), fun _ => ⟨by omega, w2⟩⟩
theorem s_X7_fits {what : Int} (h : Xt m ρ) (hrw : Xrw m nr w) (hrb : RwB ρ nr w) (hd : 2 ≤ d) (hw : R32 what) : P_X7_fits sc d [aR 0, aI what] m (fun v z => Ex C_io m z ∧ ∃ x, v = some (aI x) ∧ IsFit ρ nr w what x) := by
  have e10 := hrw.1
  have rb := hrb.1
  refine ep_X7_fits (g_X7_fits_0 ⟨by omega, fun c => ⟨Ex.refl _ _, _, rfl, Or.inl ⟨Or.inl (by omega), rfl⟩⟩, fun c => ⟨hw, fun c2 => ⟨Ex.refl _ _, _, rfl, Or.inl ⟨Or.inr (by omega), rfl⟩⟩, fun c2 => ⟨fun c3 => ?_, fun c3 => ⟨Ex.refl _ _, _, rfl, Or.inl ⟨Or.inr (by omega), rfl⟩⟩⟩⟩⟩)
  refine p_X7_fits_30 (d2 := d - 1) h.1 (s_X6_longest h.1 h.2.1 h.2.2 (by omega)) (by omega) ?_
  rintro _ _ ⟨e, rfl⟩; cases e
  have z := maxF_bd (f := ρ 3) (b := 99) (n := (ρ 0 1).toNat) (by decide) (fun q hq => (h.2.2.2.2.2.1 q (by have := h.2.2.1; omega)).1.2)
  refine p_X7_fits_33 (d2 := d - 1) (s_max (by omega) (by omega)) (by omega) ?_
  rintro _ _ ⟨e, rfl⟩; cases e
  refine g_X7_fits_36 ?_
  generalize ei : (if 1 < maxF (ρ 3) (ρ 0 1).toNat then maxF (ρ 3) (ρ 0 1).toNat else 1) = i0
  have hi0 : 1 ≤ i0 ∧ i0 ≤ 99 ∧ maxF (ρ 3) (ρ 0 1).toNat ≤ i0 ∧ (i0 = 1 ∨ i0 = maxF (ρ 3) (ρ 0 1).toNat) := by
    rw [← ei]
    split <;> omega
  have hf := cfl_0 (p := ftB ρ w nr.toNat) (n := i0.toNat - 1) (fun k hk => by
    unfold ftB
    rw [decide_eq_false (by omega), Bool.false_and])
  have w2 := l_X7_fits (sc := sc) (Q := fun v z => Ex C_io _ z ∧ ∃ x, v = some (aI x) ∧ IsFit ρ nr w what x) h hrw hrb hd (what := what) (by omega) (fun z he => ⟨he, _, rfl, Or.inr ⟨by omega, by omega, rfl⟩⟩) (99 - (i0.toNat - 1)) (i0.toNat - 1) _ (by omega) (by omega) (Ex.refl _ _)
  rw [hf.1, hf.2.1, hf.2.2, show (((i0.toNat - 1 : Nat)) : Int) + 1 = i0 by omega] at w2
  exact w2
theorem l_isFitting (hrw : Mrw m nr w) (hrb : RwB ρ nr w) (hb : RmB ρ) (hg : ∀ s : Nat, (s : Int) < ρ 0 1 → m 110 s = begF ρ L s) (k1 : agB ρ L w nr.toNat = true → Q (some (aI 1)) m) (k0 : agB ρ L w nr.toNat = false → Q (some (aI 0)) m) : ∀ (j i : Nat), (i : Int) + j = nr → agB ρ L w i = true → S_X8_isFitting sc d 12 [aR 62, aU, aI i] [] m Q := by
  have b0 := hb.1
  have rb := hrb.1
  have e10 := hrw.1
  intro j
  induction j with
  | zero =>
    intro i hi ha
    have e : i = nr.toNat := by omega
    subst e
    exact g_X8_isFitting_12 ⟨by omega, by omega, fun _ => k1 ha, fun c => absurd (by omega) c⟩
  | succ j ih =>
    intro i hi ha
    have e1 := hrw.2 (2 * i) (by omega)
    have e2 := hrw.2 (2 * i + 1) (by omega)
    rw [show ((2 * i : Nat) : Int) = 2 * (i : Int) by omega] at e1
    rw [show ((2 * i + 1 : Nat) : Int) = 2 * (i : Int) + 1 by omega] at e2
    have r1 := hrb.2 i (by omega)
    have g1 := hg (w (2 * i)).toNat (by omega)
    rw [show (((w (2 * i)).toNat : Nat) : Int) = w (2 * i) by omega] at g1
    have g2 : begF ρ L (w (2 * i)) = 0 ∨ begF ρ L (w (2 * i)) = 1 := begF_01
    refine g_X8_isFitting_12 ⟨by omega, by omega, fun c => absurd c (by omega), fun _ => ⟨by omega, by omega, by omega, by omega, by omega, by omega, by rw [e1]; omega, by omega, fun c => ?_, fun c => ?_⟩⟩
    · rw [e1, e2, g1] at c
      exact ih (i + 1) (by omega) (by rw [agB, ha, c]; simp)
    · rw [e1, e2, g1] at c
      refine k0 ?_
      have : ∀ n : Nat, i + 1 ≤ n → agB ρ L w n = false := by
        intro n hn
        induction n with
        | zero => omega
        | succ n ihn =>
          by_cases e : n = i
          · subst e; rw [agB, beq_false_of_ne c, Bool.and_false]
          · rw [agB, ihn (by omega), Bool.false_and]
      exact this _ (by omega)
theorem s_isFitting (h : MRm m ρ) (hb : RmB ρ) (hrw : Mrw m nr w) (hrb : RwB ρ nr w) (hd : 2 ≤ d) (hL : 1 ≤ L ∧ L ≤ 99) : P_X8_isFitting sc d [aR 62, aI L] m (fun v z => Ex C_pk m z ∧ ∃ b : Bool, v = some (aI (if b then 1 else 0)) ∧ b = ftB ρ w nr.toNat L) := by
  have fm := fits_max hb (L := L) (by omega)
  refine ep_X8_isFitting (g_X8_isFitting_0 ?_)
  refine p_X8_isFitting_2 (d2 := d - 1) (s_packs h hb (by omega) ⟨by omega, by omega⟩) (by omega) ?_
  rintro _ z ⟨h1, ⟨e, h2, h3, h4⟩ | ⟨e, h2⟩⟩ <;> cases e
  · refine g_X8_isFitting_5 ⟨by omega, fun _ => ?_, fun c => absurd (by decide) c⟩
    have ef : ftB ρ w nr.toNat L = agB ρ L w nr.toNat := by
      unfold ftB
      rw [decide_eq_true (fm.mpr h2), Bool.true_and]
    exact l_isFitting (hrw.ex h1 (fun a j q => by unfold C_pk; omega)) hrb hb h3 (fun c => ⟨h1, true, rfl, by rw [ef, c]⟩) (fun c => ⟨h1, false, rfl, by rw [ef, c]⟩) nr.toNat 0 (by have := hrb.1; omega) rfl
  · exact g_X8_isFitting_5 ⟨by omega, fun c => absurd rfl c, fun _ => ⟨h1, false, rfl, by unfold ftB; rw [decide_eq_false (fun q => h2 (fm.mp q)), Bool.false_and]⟩⟩
theorem l_X8_fits {what : Int} (h : MRm m ρ) (hb : RmB ρ) (hrw : Mrw m nr w) (hrb : RwB ρ nr w) (hd : 3 ≤ d) (hw : 0 ≤ what ∧ what ≤ 2) (k : ∀ z, Ex C_pk m z → Q (some (aI (if what = 0 then cntF (ftB ρ w nr.toNat) 99 else if what = 1 then fstF (ftB ρ w nr.toNat) 99 else lstF (ftB ρ w nr.toNat) 99))) z) :
    ∀ (j i : Nat) (z : Mem), i + j = 99 → Ex C_pk m z → S_X8_fits sc d 31 [aR 62, aI what, aI (cntF (ftB ρ w nr.toNat) i), aI (fstF (ftB ρ w nr.toNat) i), aI (lstF (ftB ρ w nr.toNat) i), aI ((i : Int) + 1)] [] z Q := by
  intro j
  induction j with
  | zero =>
    intro i z hi he
    have e : i = 99 := by omega
    subst e
    refine g_X8_fits_31 ⟨by omega, fun _ => ⟨by omega, ?_⟩, fun c => absurd (by omega) c⟩
    have := k z he
    by_cases c : what = 0
    · rw [if_neg (fun q => q c)]; rw [if_pos c] at this; exact this
    · rw [if_neg c] at this
      rw [if_pos c]
      by_cases c1 : what = 1
      · rw [if_neg (fun q => q c1)]; rw [if_pos c1] at this; exact this
      · rw [if_pos c1]; rw [if_neg c1] at this; exact this
  | succ j ih =>
    intro i z hi he
    have bd := cfl_bd (ftB ρ w nr.toNat) i
    refine g_X8_fits_31 ⟨by omega, fun c => absurd c (by omega), fun _ => ?_⟩
    refine p_X8_fits_41 (d2 := d - 1) (s_isFitting (h.ex he (fun a j q => by unfold C_pk; omega)) hb (hrw.ex he (fun a j q => by unfold C_pk; omega)) hrb (by omega) (by omega)) (by omega) ?_
    rintro v z2 ⟨h1, b, e, hbv⟩
    have w2 := ih (i + 1) z2 (by omega) (he.trans h1)
    rw [cntF, fstF, lstF, ← hbv] at w2
    cases b
    · cases e
      exact g_X8_fits_44 ⟨by omega, fun c => absurd rfl c, fun _ => w2⟩
    · cases e
      refine g_X8_fits_44 ⟨by omega, fun _ => ⟨by omega, fun c => ?_, fun c => ?_⟩, fun c => absurd (by decide) c⟩
      · rw [if_pos rfl, if_pos rfl, if_pos rfl, if_pos c] at w2; exact w2
      · rw [if_pos rfl, if_pos rfl, if_pos rfl, if_neg c] at w2; exact w2
theorem s_X8_fits {what : Int} (h : MRm m ρ) (hb : RmB ρ) (hrw : Mrw m nr w) (hrb : RwB ρ nr w) (hd : 3 ≤ d) (hw : R32 what) : P_X8_fits sc d [aR 62, aI what] m (fun v z => Ex C_pk m z ∧ ∃ x, v = some (aI x) ∧ IsFit ρ nr w what x) := by
  have e10 := hrw.1
  have rb := hrb.1
  refine ep_X8_fits (g_X8_fits_0 ⟨by omega, fun c => ⟨Ex.refl _ _, _, rfl, Or.inl ⟨Or.inl (by omega), rfl⟩⟩, fun c => ⟨hw, ?_⟩⟩)
  refine p_X8_fits_13 (d2 := d - 1) (s_isIn ⟨by omega, by omega⟩ ⟨by omega, by omega⟩ ⟨by omega, by omega⟩) (by omega) ?_
  rintro _ _ ⟨rfl, ⟨e, q⟩ | ⟨e, q⟩⟩ <;> cases e
  · refine g_X8_fits_16 ⟨by omega, fun _ => ?_, fun c => absurd (by decide) c⟩
    exact l_X8_fits (Q := fun v z => Ex C_pk _ z ∧ ∃ x, v = some (aI x) ∧ IsFit ρ nr w what x) h hb hrw hrb hd q (fun z he => ⟨he, _, rfl, Or.inr ⟨by omega, q, rfl⟩⟩) 99 0 _ (by omega) (Ex.refl _ _)
  · exact g_X8_fits_16 ⟨by omega, fun c => absurd rfl c, fun _ => ⟨Ex.refl _ _, _, rfl, Or.inl ⟨Or.inr q, rfl⟩⟩⟩
end FT_
