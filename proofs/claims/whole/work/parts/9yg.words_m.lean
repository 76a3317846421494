/-! reading: parts of the reference -/
section QP
variable {sc : List Int} {d : Nat} {m : Mem} {Q : Option AV → Mem → Prop} {T : Int → Int} {n : Nat} {rl : Bool} {σ : Stt}
def widx (w : Int) : Int := if w = 4 then 0 else if w = 5 then 1 else if w = 15 then 2 else if w = 17 then 3 else if w = 16 then 4 else if w = 18 then 5 else if w = 19 then 6 else if w = 20 then 7 else if w = 21 then 8 else if w = 22 then 9 else if w = 23 then 10 else -1
theorem iw {c : Int} (h : (65 ≤ c ∧ c ≤ 94) ∨ (127 ≤ c ∧ c ≤ 147)) : IsW c := h
theorem s_qWordHere (ht : Tm m T n) (h : MSt T n m σ) (hd : 3 ≤ d) : P_X8_qWordHere sc d [aR 62] m (fun v z => v = some (aI (widx (wE T n σ))) ∧ Ex C_lk m z ∧ MLk T n z σ) := by
  have go : ∀ (y z : Mem), Ex C_lk m y → Ex C_lk y z → Ex C_lk m z := fun y z a b => a.trans b
  refine ep_X8_qWordHere (g_X8_qWordHere_0 ?_)
  unfold widx
  refine p_X8_qWordHere_5 (d2 := d - 1) (wrd_at (iw (by decide))).1 (s_isHere (iw (by decide)) ht h (by omega)) (by omega) ?_
  rintro _ z0 ⟨e, f0, l0⟩; cases e
  have e0 : Ex C_lk m z0 := f0
  rw [show wOf 139 = 4 from rfl]
  by_cases c0 : wE T n σ = 4
  · rw [if_pos (show wE T n σ = ((4 : Nat) : Int) from c0)]
    refine g_X8_qWordHere_8 ⟨by omega, fun g => absurd g (by decide), fun _ => ⟨?_, e0, l0⟩⟩
    rw [if_pos c0]
  rw [if_neg (show ¬ wE T n σ = ((4 : Nat) : Int) from c0)]
  refine g_X8_qWordHere_8 ⟨by omega, fun _ => ?_, fun g => absurd rfl g⟩
  refine p_X8_qWordHere_18 (d2 := d - 1) (wrd_at (iw (by decide))).1 (s_isHere (iw (by decide)) (ht.lk e0) l0.1 (by omega)) (by omega) ?_
  rintro _ z1 ⟨e, f1, l1⟩; cases e
  have e1 : Ex C_lk m z1 := e0.trans f1
  rw [show wOf 140 = 5 from rfl]
  by_cases c1 : wE T n σ = 5
  · rw [if_pos (show wE T n σ = ((5 : Nat) : Int) from c1)]
    refine g_X8_qWordHere_21 ⟨by omega, fun g => absurd g (by decide), fun _ => ⟨?_, e1, l1⟩⟩
    rw [if_neg c0, if_pos c1]
  rw [if_neg (show ¬ wE T n σ = ((5 : Nat) : Int) from c1)]
  refine g_X8_qWordHere_21 ⟨by omega, fun _ => ?_, fun g => absurd rfl g⟩
  refine p_X8_qWordHere_31 (d2 := d - 1) (wrd_at (iw (by decide))).1 (s_isHere (iw (by decide)) (ht.lk e1) l1.1 (by omega)) (by omega) ?_
  rintro _ z2 ⟨e, f2, l2⟩; cases e
  have e2 : Ex C_lk m z2 := e1.trans f2
  rw [show wOf 141 = 15 from rfl]
  by_cases c2 : wE T n σ = 15
  · rw [if_pos (show wE T n σ = ((15 : Nat) : Int) from c2)]
    refine g_X8_qWordHere_34 ⟨by omega, fun g => absurd g (by decide), fun _ => ⟨?_, e2, l2⟩⟩
    rw [if_neg c0, if_neg c1, if_pos c2]
  rw [if_neg (show ¬ wE T n σ = ((15 : Nat) : Int) from c2)]
  refine g_X8_qWordHere_34 ⟨by omega, fun _ => ?_, fun g => absurd rfl g⟩
  refine p_X8_qWordHere_44 (d2 := d - 1) (wrd_at (iw (by decide))).1 (s_isHere (iw (by decide)) (ht.lk e2) l2.1 (by omega)) (by omega) ?_
  rintro _ z3 ⟨e, f3, l3⟩; cases e
  have e3 : Ex C_lk m z3 := e2.trans f3
  rw [show wOf 142 = 17 from rfl]
  by_cases c3 : wE T n σ = 17
  · rw [if_pos (show wE T n σ = ((17 : Nat) : Int) from c3)]
    refine g_X8_qWordHere_47 ⟨by omega, fun g => absurd g (by decide), fun _ => ⟨?_, e3, l3⟩⟩
    rw [if_neg c0, if_neg c1, if_neg c2, if_pos c3]
  rw [if_neg (show ¬ wE T n σ = ((17 : Nat) : Int) from c3)]
  refine g_X8_qWordHere_47 ⟨by omega, fun _ => ?_, fun g => absurd rfl g⟩
  refine p_X8_qWordHere_57 (d2 := d - 1) (wrd_at (iw (by decide))).1 (s_isHere (iw (by decide)) (ht.lk e3) l3.1 (by omega)) (by omega) ?_
  rintro _ z4 ⟨e, f4, l4⟩; cases e
  have e4 : Ex C_lk m z4 := e3.trans f4
  rw [show wOf 143 = 16 from rfl]
  by_cases c4 : wE T n σ = 16
  · rw [if_pos (show wE T n σ = ((16 : Nat) : Int) from c4)]
    refine g_X8_qWordHere_60 ⟨by omega, fun g => absurd g (by decide), fun _ => ⟨?_, e4, l4⟩⟩
    rw [if_neg c0, if_neg c1, if_neg c2, if_neg c3, if_pos c4]
  rw [if_neg (show ¬ wE T n σ = ((16 : Nat) : Int) from c4)]
  refine g_X8_qWordHere_60 ⟨by omega, fun _ => ?_, fun g => absurd rfl g⟩
  refine p_X8_qWordHere_70 (d2 := d - 1) (wrd_at (iw (by decide))).1 (s_isHere (iw (by decide)) (ht.lk e4) l4.1 (by omega)) (by omega) ?_
  rintro _ z5 ⟨e, f5, l5⟩; cases e
  have e5 : Ex C_lk m z5 := e4.trans f5
  rw [show wOf 132 = 18 from rfl]
  by_cases c5 : wE T n σ = 18
  · rw [if_pos (show wE T n σ = ((18 : Nat) : Int) from c5)]
    refine g_X8_qWordHere_73 ⟨by omega, fun g => absurd g (by decide), fun _ => ⟨?_, e5, l5⟩⟩
    rw [if_neg c0, if_neg c1, if_neg c2, if_neg c3, if_neg c4, if_pos c5]
  rw [if_neg (show ¬ wE T n σ = ((18 : Nat) : Int) from c5)]
  refine g_X8_qWordHere_73 ⟨by omega, fun _ => ?_, fun g => absurd rfl g⟩
  refine p_X8_qWordHere_83 (d2 := d - 1) (wrd_at (iw (by decide))).1 (s_isHere (iw (by decide)) (ht.lk e5) l5.1 (by omega)) (by omega) ?_
  rintro _ z6 ⟨e, f6, l6⟩; cases e
  have e6 : Ex C_lk m z6 := e5.trans f6
  rw [show wOf 131 = 19 from rfl]
  by_cases c6 : wE T n σ = 19
  · rw [if_pos (show wE T n σ = ((19 : Nat) : Int) from c6)]
    refine g_X8_qWordHere_86 ⟨by omega, fun g => absurd g (by decide), fun _ => ⟨?_, e6, l6⟩⟩
    rw [if_neg c0, if_neg c1, if_neg c2, if_neg c3, if_neg c4, if_neg c5, if_pos c6]
  rw [if_neg (show ¬ wE T n σ = ((19 : Nat) : Int) from c6)]
  refine g_X8_qWordHere_86 ⟨by omega, fun _ => ?_, fun g => absurd rfl g⟩
  refine p_X8_qWordHere_97 (d2 := d - 1) (wrd_at (iw (by decide))).1 (s_isHere (iw (by decide)) (ht.lk e6) l6.1 (by omega)) (by omega) ?_
  rintro _ z7 ⟨e, f7, l7⟩; cases e
  have e7 : Ex C_lk m z7 := e6.trans f7
  rw [show wOf 144 = 20 from rfl]
  by_cases c7 : wE T n σ = 20
  · rw [if_pos (show wE T n σ = ((20 : Nat) : Int) from c7)]
    refine g_X8_qWordHere_100 ⟨by omega, fun g => absurd g (by decide), fun _ => ⟨?_, e7, l7⟩⟩
    rw [if_neg c0, if_neg c1, if_neg c2, if_neg c3, if_neg c4, if_neg c5, if_neg c6, if_pos c7]
  rw [if_neg (show ¬ wE T n σ = ((20 : Nat) : Int) from c7)]
  refine g_X8_qWordHere_100 ⟨by omega, fun _ => ?_, fun g => absurd rfl g⟩
  refine p_X8_qWordHere_111 (d2 := d - 1) (wrd_at (iw (by decide))).1 (s_isHere (iw (by decide)) (ht.lk e7) l7.1 (by omega)) (by omega) ?_
  rintro _ z8 ⟨e, f8, l8⟩; cases e
  have e8 : Ex C_lk m z8 := e7.trans f8
  rw [show wOf 145 = 21 from rfl]
  by_cases c8 : wE T n σ = 21
  · rw [if_pos (show wE T n σ = ((21 : Nat) : Int) from c8)]
    refine g_X8_qWordHere_114 ⟨by omega, fun g => absurd g (by decide), fun _ => ⟨?_, e8, l8⟩⟩
    rw [if_neg c0, if_neg c1, if_neg c2, if_neg c3, if_neg c4, if_neg c5, if_neg c6, if_neg c7, if_pos c8]
  rw [if_neg (show ¬ wE T n σ = ((21 : Nat) : Int) from c8)]
  refine g_X8_qWordHere_114 ⟨by omega, fun _ => ?_, fun g => absurd rfl g⟩
  refine p_X8_qWordHere_125 (d2 := d - 1) (wrd_at (iw (by decide))).1 (s_isHere (iw (by decide)) (ht.lk e8) l8.1 (by omega)) (by omega) ?_
  rintro _ z9 ⟨e, f9, l9⟩; cases e
  have e9 : Ex C_lk m z9 := e8.trans f9
  rw [show wOf 146 = 22 from rfl]
  by_cases c9 : wE T n σ = 22
  · rw [if_pos (show wE T n σ = ((22 : Nat) : Int) from c9)]
    refine g_X8_qWordHere_128 ⟨by omega, fun g => absurd g (by decide), fun _ => ⟨?_, e9, l9⟩⟩
    rw [if_neg c0, if_neg c1, if_neg c2, if_neg c3, if_neg c4, if_neg c5, if_neg c6, if_neg c7, if_neg c8, if_pos c9]
  rw [if_neg (show ¬ wE T n σ = ((22 : Nat) : Int) from c9)]
  refine g_X8_qWordHere_128 ⟨by omega, fun _ => ?_, fun g => absurd rfl g⟩
  refine p_X8_qWordHere_139 (d2 := d - 1) (wrd_at (iw (by decide))).1 (s_isHere (iw (by decide)) (ht.lk e9) l9.1 (by omega)) (by omega) ?_
  rintro _ z10 ⟨e, f10, l10⟩; cases e
  have e10 : Ex C_lk m z10 := e9.trans f10
  rw [show wOf 147 = 23 from rfl]
  by_cases c10 : wE T n σ = 23
  · rw [if_pos (show wE T n σ = ((23 : Nat) : Int) from c10)]
    refine g_X8_qWordHere_142 ⟨by omega, fun g => absurd g (by decide), fun _ => ⟨?_, e10, l10⟩⟩
    rw [if_neg c0, if_neg c1, if_neg c2, if_neg c3, if_neg c4, if_neg c5, if_neg c6, if_neg c7, if_neg c8, if_neg c9, if_pos c10]
  rw [if_neg (show ¬ wE T n σ = ((23 : Nat) : Int) from c10)]
  refine g_X8_qWordHere_142 ⟨by omega, fun _ => ⟨?_, e10, l10⟩, fun g => absurd rfl g⟩
  rw [if_neg c0, if_neg c1, if_neg c2, if_neg c3, if_neg c4, if_neg c5, if_neg c6, if_neg c7, if_neg c8, if_neg c9, if_neg c10]
theorem widx_v (rl : Bool) (w : Int) : (w = 4 ∧ widx w = 0) ∨ (w = 5 ∧ widx w = 1) ∨ (w = 15 ∧ widx w = 2) ∨ (w = 17 ∧ widx w = 3) ∨ (w = 16 ∧ widx w = 4) ∨ (w = 18 ∧ widx w = 5) ∨ (w = 19 ∧ widx w = 6) ∨ (w = 20 ∧ widx w = 7) ∨ (w = 21 ∧ widx w = 8) ∨ (w = 22 ∧ widx w = 9) ∨ (w = 23 ∧ widx w = 10) ∨ (widx w = -1 ∧ pcode rl w = 0 ∧ w ≠ 23) := by
  by_cases h : w = 4 ∨ w = 5 ∨ w = 15 ∨ w = 17 ∨ w = 16 ∨ w = 18 ∨ w = 19 ∨ w = 20 ∨ w = 21 ∨ w = 22 ∨ w = 23
  · rcases h with h | h | h | h | h | h | h | h | h | h | h <;> subst h <;> simp [widx]
  · have : (widx w = -1 ∧ pcode rl w = 0 ∧ w ≠ 23) := by
      refine ⟨?_, ?_, by omega⟩
      · unfold widx; rw [if_neg (by omega), if_neg (by omega), if_neg (by omega), if_neg (by omega), if_neg (by omega), if_neg (by omega), if_neg (by omega), if_neg (by omega), if_neg (by omega), if_neg (by omega), if_neg (by omega)]
      · unfold pcode; rw [if_neg (by omega), if_neg (by omega), if_neg (by omega), if_neg (by omega), if_neg (by omega), if_neg (by omega), if_neg (by omega), if_neg (by omega), if_neg (by omega), if_neg (by omega)]
    simp only [this, and_self, or_true, true_and, ne_eq, not_false_eq_true]
theorem widx_bd {w : Int} : -1 ≤ widx w ∧ widx w ≤ 10 := by
  rcases widx_v true w with h | h | h | h | h | h | h | h | h | h | h | h <;> omega
theorem widx_10 {w : Int} : widx w = 10 ↔ w = 23 := by
  rcases widx_v true w with h | h | h | h | h | h | h | h | h | h | h | h <;> omega
def alw2 (rl : Bool) (k : Int) : Prop := (rl = true ∧ k < 7) ∨ (rl = false ∧ (k < 4 ∨ 6 < k))
theorem widx_p {w : Int} : (0 ≤ widx w → widx w < 10 → alw2 rl (widx w) → pcode rl w = 40 + widx w) ∧ (¬ alw2 rl (widx w) → pcode rl w = 0) ∧ (widx w < 0 → pcode rl w = 0) ∧ (10 ≤ widx w → pcode rl w = 0) := by
  rcases widx_v rl w with h | h | h | h | h | h | h | h | h | h | h | h
  iterate 11 (obtain ⟨h1, h2⟩ := h; subst h1; rw [h2]; cases rl <;> simp [pcode, alw2])
  obtain ⟨h1, h2, h3⟩ := h
  rw [h1, h2]
  exact ⟨fun g => by omega, fun _ => rfl, fun _ => rfl, fun _ => rfl⟩
def MRu (m : Mem) (rl : Bool) : Prop := m 62 54 = if rl = true then 1 else 0
theorem MRu.lk {z : Mem} (h : MRu m rl) (e : Ex C_lk m z) : MRu z rl := (e 62 54 (fun c => by unfold C_lk at c; omega)).trans h
theorem s_isAllowed {k : Int} (hr : MRu m rl) (hk : R32 k) : P_X8_isAllowed sc d [aR 62, aI k] m (PV (aI (if (rl = true ∧ k < 7) ∨ (rl = false ∧ (k < 4 ∨ 6 < k)) then 1 else 0)) m) := by
  unfold MRu at hr
  cases rl with
  | true =>
    rw [if_pos rfl] at hr
    refine ep_X8_isAllowed (g_X8_isAllowed_0 ⟨by omega, fun _ => hk, fun _ => hk, ?_, rfl⟩)
    rw [if_neg (by omega)]
    by_cases c : 7 ≤ k
    · rw [if_pos c, if_neg (by rintro (g | g); exact absurd g.2 (by omega); exact absurd g.1 (by decide))]
    · rw [if_neg c, if_pos (Or.inl ⟨rfl, by omega⟩)]
  | false =>
    rw [if_neg (by decide)] at hr
    refine ep_X8_isAllowed (g_X8_isAllowed_0 ⟨by omega, fun _ => hk, fun _ => hk, ?_, rfl⟩)
    rw [if_pos hr]
    by_cases c : k < 4
    · rw [if_pos c, if_pos (Or.inr ⟨rfl, Or.inl c⟩)]
    · rw [if_neg c]
      by_cases c2 : k ≤ 6
      · rw [if_pos c2, if_neg (by rintro (g | g); exact absurd g.1 (by decide); exact absurd g.2 (by omega))]
      · rw [if_neg c2, if_pos (Or.inr ⟨rfl, Or.inr (by omega)⟩)]
theorem s_qWordOf {a b : Int} (hab : (a = 0 ∧ b = 10) ∨ (a = 10 ∧ b = 11)) (ht : Tm m T n) (hr : MRu m rl) (h : MSt T n m σ) (hd : 4 ≤ d) : P_X8_qWordOf sc d [aR 62, aI a, aI b] m (fun v z => v = some (aI (if a = 0 then (if pcode rl (wE T n σ) = 0 then -1 else pcode rl (wE T n σ) - 40) else if rl = false ∧ wE T n σ = 23 then 10 else -1)) ∧ Ex C_lk m z ∧ MLk T n z σ) := by
  refine ep_X8_qWordOf (g_X8_qWordOf_0 (p_X8_qWordOf_1 (d2 := d - 1) (s_qWordHere ht h (by omega)) (by omega) ?_))
  rintro _ z ⟨e, ze, zl⟩; cases e
  have wb := @widx_bd (wE T n σ)
  obtain ⟨wp1, wp2, wp3, wp4⟩ := @widx_p rl (wE T n σ)
  have w10 := @widx_10 (wE T n σ)
  generalize widx (wE T n σ) = x at wb wp1 wp2 wp3 wp4 w10
  have no : (x < a ∨ b ≤ x) → (fun v z => v = some (aI (if a = 0 then (if pcode rl (wE T n σ) = 0 then -1 else pcode rl (wE T n σ) - 40) else if rl = false ∧ wE T n σ = 23 then 10 else -1)) ∧ Ex C_lk m z ∧ MLk T n z σ) (some (aI (-1))) z := by
    intro g
    refine ⟨?_, ze, zl⟩
    rcases hab with ⟨rfl, rfl⟩ | ⟨rfl, rfl⟩
    · have p0 : pcode rl (wE T n σ) = 0 := by
        rcases g with g | g
        · exact wp3 g
        · exact wp4 g
      rw [if_pos (show (0 : Int) = 0 from rfl), if_pos p0]
    · rw [if_neg (show ¬ (10 : Int) = 0 by decide), if_neg (fun q => by have := w10.mpr q.2; omega)]
  refine g_X8_qWordOf_4 ⟨by omega, by omega, fun g => no (Or.inl g), fun g => ⟨by omega, fun g2 => no (Or.inr g2), fun g2 => ?_⟩⟩
  refine p_X8_qWordOf_17 (d2 := d - 1) (s_isAllowed (hr.lk ze) (by unfold R32; omega)) (by omega) ?_
  rintro _ y ⟨e, rfl⟩; cases e
  refine g_X8_qWordOf_20 ⟨by split <;> omega, ?_, ze, zl⟩
  rcases hab with ⟨rfl, rfl⟩ | ⟨rfl, rfl⟩
  · rw [if_pos (show (0 : Int) = 0 from rfl)]
    by_cases c : (rl = true ∧ x < 7) ∨ (rl = false ∧ (x < 4 ∨ 6 < x))
    · have p1 := wp1 (by omega) (by omega) c
      rw [if_pos c, if_neg (show ¬ (1 : Int) = 0 by decide), if_neg (by omega), p1, show 40 + x - 40 = x by omega]
    · rw [if_neg c, if_pos (show (0 : Int) = 0 from rfl), if_pos (wp2 c)]
  · have x10 : x = 10 := by omega
    have w23 := w10.mp x10
    rw [if_neg (show ¬ (10 : Int) = 0 by decide), x10]
    cases rl with
    | true => rw [if_neg (show ¬ ((true = true ∧ (10 : Int) < 7) ∨ (true = false ∧ ((10 : Int) < 4 ∨ (6 : Int) < 10))) by decide), if_pos rfl, if_neg (fun q => absurd q.1 (by decide))]
    | false => rw [if_pos (Or.inr ⟨rfl, Or.inr (by decide)⟩), if_neg (show ¬ (1 : Int) = 0 by decide), if_pos ⟨rfl, w23⟩]
theorem s_qAsksWord {k : Int} (hk : 0 ≤ k) (hw : widx (wE T n σ) = k) (ht : Tm m T n) (h : MSt T n m σ) (hd : 5 ≤ d) : P_X8_qAsksWord sc d [aR 62, aI k] m (fun v z => v = none ∧ Ex C_lk m z ∧ MSt T n z (nx T n σ)) := by
  have ask : ∀ (c : Int) (w : Nat), IsW c → wOf c = w → wE T n σ = w → P_X8_asks sc (d - 1) [aR 62, aR c] m (fun v z => v = none ∧ Ex C_lk m z ∧ MSt T n z (nx T n σ)) := by
    intro c w hc hcw hw
    refine (s_asks hc ht h (by omega)).imp ?_
    rintro v z ⟨rfl, ze, ⟨-, q⟩ | ⟨q, -⟩⟩
    · exact ⟨rfl, ze, q⟩
    · rw [hcw] at q; exact absurd hw q
  have wv : (k = 0 ∧ wE T n σ = 4) ∨ (k = 1 ∧ wE T n σ = 5) ∨ (k = 2 ∧ wE T n σ = 15) ∨ (k = 3 ∧ wE T n σ = 17) ∨ (k = 4 ∧ wE T n σ = 16) ∨ (k = 5 ∧ wE T n σ = 18) ∨ (k = 6 ∧ wE T n σ = 19) ∨ (k = 7 ∧ wE T n σ = 20) ∨ (k = 8 ∧ wE T n σ = 21) ∨ (k = 9 ∧ wE T n σ = 22) ∨ (k = 10 ∧ wE T n σ = 23) := by
    rcases widx_v true (wE T n σ) with h | h | h | h | h | h | h | h | h | h | h | h <;> omega
  refine ep_X8_qAsksWord (g_X8_qAsksWord_0 ⟨by omega, fun g => ?_, fun g => ?_, fun g => ?_, fun g => ?_, fun g => ?_, fun g => ?_, fun g => ?_, fun g => ?_, fun g => ?_, fun g => ?_, fun g => ?_⟩)
  · refine p_X8_qAsksWord_61 (d2 := d - 1) (wrd_at (iw (by decide))).1 (ask 139 4 (iw (by decide)) rfl (by omega)) (by omega) ?_
    rintro z hz
    exact g_X8_qAsksWord_64 (g_X8_qAsksWord_174 hz)
  · refine p_X8_qAsksWord_72 (d2 := d - 1) (wrd_at (iw (by decide))).1 (ask 140 5 (iw (by decide)) rfl (by omega)) (by omega) ?_
    rintro z hz
    exact g_X8_qAsksWord_75 (g_X8_qAsksWord_174 hz)
  · refine p_X8_qAsksWord_83 (d2 := d - 1) (wrd_at (iw (by decide))).1 (ask 141 15 (iw (by decide)) rfl (by omega)) (by omega) ?_
    rintro z hz
    exact g_X8_qAsksWord_86 (g_X8_qAsksWord_174 hz)
  · refine p_X8_qAsksWord_94 (d2 := d - 1) (wrd_at (iw (by decide))).1 (ask 142 17 (iw (by decide)) rfl (by omega)) (by omega) ?_
    rintro z hz
    exact g_X8_qAsksWord_97 (g_X8_qAsksWord_174 hz)
  · refine p_X8_qAsksWord_105 (d2 := d - 1) (wrd_at (iw (by decide))).1 (ask 143 16 (iw (by decide)) rfl (by omega)) (by omega) ?_
    rintro z hz
    exact g_X8_qAsksWord_108 (g_X8_qAsksWord_174 hz)
  · refine p_X8_qAsksWord_116 (d2 := d - 1) (wrd_at (iw (by decide))).1 (ask 132 18 (iw (by decide)) rfl (by omega)) (by omega) ?_
    rintro z hz
    exact g_X8_qAsksWord_119 (g_X8_qAsksWord_174 hz)
  · refine p_X8_qAsksWord_127 (d2 := d - 1) (wrd_at (iw (by decide))).1 (ask 131 19 (iw (by decide)) rfl (by omega)) (by omega) ?_
    rintro z hz
    exact g_X8_qAsksWord_130 (g_X8_qAsksWord_174 hz)
  · refine p_X8_qAsksWord_138 (d2 := d - 1) (wrd_at (iw (by decide))).1 (ask 144 20 (iw (by decide)) rfl (by omega)) (by omega) ?_
    rintro z hz
    exact g_X8_qAsksWord_141 (g_X8_qAsksWord_174 hz)
  · refine p_X8_qAsksWord_149 (d2 := d - 1) (wrd_at (iw (by decide))).1 (ask 145 21 (iw (by decide)) rfl (by omega)) (by omega) ?_
    rintro z hz
    exact g_X8_qAsksWord_152 (g_X8_qAsksWord_174 hz)
  · refine p_X8_qAsksWord_160 (d2 := d - 1) (wrd_at (iw (by decide))).1 (ask 146 22 (iw (by decide)) rfl (by omega)) (by omega) ?_
    rintro z hz
    exact g_X8_qAsksWord_163 (g_X8_qAsksWord_174 hz)
  · refine p_X8_qAsksWord_171 (d2 := d - 1) (wrd_at (iw (by decide))).1 (ask 147 23 (iw (by decide)) rfl (by omega)) (by omega) ?_
    rintro z hz
    exact g_X8_qAsksWord_174 hz
end QP
