/-! the reference reads a question -/
section QR
variable {sc : List Int} {d : Nat} {m : Mem} {Q : Option AV → Mem → Prop} {T : Int → Int} {n : Nat}
theorem q0_eq : q0S T n = (spn isBl T n 0, false) := by
  unfold q0S tkN
  rw [decide_eq_false (by omega)]
theorem ask_read {l1 l2 : Int} (hd : 30 ≤ d) (h : MTs T n false m (q0S T n) [] [] 0) (K : ∀ z, Ex C_qt m z → (match rdQ T n with | .error e => MEr z e | .ok x => MTs T n false z x.1 x.2 [] 0) → S_X8_ask sc d 146 [aR 62, aI l1, aI l2, aI (kindOf (wE T n (q0S T n))), aU] [] z Q) : S_X8_ask sc d 88 [aR 62, aI l1, aI l2, aU, aU] [aR 62] m Q := by
  have ht := h.1
  have n1 := ht.1
  refine p_X8_ask_88 (d2 := d - 1) (s_qKind ht h.2.2.1 (by omega)) (by omega) ?_
  rintro _ z ⟨e, ze, hz⟩; cases e
  have kb : 0 ≤ kindOf (wE T n (q0S T n)) ∧ kindOf (wE T n (q0S T n)) ≤ 5 := by
    unfold kindOf
    repeat' split
    all_goals omega
  have wb : ∀ k : Int, wE T n (q0S T n) = k → 0 ≤ k → (q0S T n).1 < (nx T n (q0S T n)).1 ∧ (nx T n (q0S T n)).1 ≤ n := fun k e h0 => nx_of (wE_n e h0)
  -- behind the formula
  have aft : ∀ (y : Mem) (r : Rs), Ex C_qt m y → (match r with | .error e => MEr y e | .ok x => MTs T n false y x.1 x.2 [] 0) → rdQ T n = r.bind (exE T n) → S_X8_ask sc d 122 [aR 62, aI l1, aI l2, aI (kindOf (wE T n (q0S T n))), aU] [] y Q := by
    intro y r ye hy hr
    cases r with
    | error e =>
      have hy : MEr y e := hy
      refine g_X8_ask_122 ⟨hy.ne.2, fun _ => K y ye ?_, fun g => absurd hy.ne.1 g⟩
      rw [hr]; exact hy
    | ok x =>
      have hy : MTs T n false y x.1 x.2 [] 0 := hy
      have b5 := hy.2.2.1.2.1.1
      refine g_X8_ask_122 ⟨by omega, fun g => absurd b5 g, fun _ => ?_⟩
      refine p_X8_ask_130 (d2 := d - 1) (s_look hy.1 hy.2.2.1) (by omega) ?_
      rintro _ u ⟨e, ue, ul⟩; cases e
      have lb := @lk_bd T n x.1 hy.1.by
      have ke : lkC T n x.1 = -1 ↔ kd T n x.1 = 258 := by
        unfold lkC
        by_cases c : x.1.1 < n
        · rw [if_pos c]
          have := hy.1.by _ c
          constructor
          · intro g; omega
          · intro g
            unfold kd at g
            rw [if_neg (by omega)] at g
            split at g
            · split at g <;> omega
            · split at g
              · split at g <;> omega
              · omega
        · rw [if_neg c]
          exact ⟨fun _ => by unfold kd; rw [if_pos (by omega)], fun _ => rfl⟩
      have hr2 : rdQ T n = exE T n x := hr
      unfold exE at hr2
      refine g_X8_ask_133 ⟨by omega, fun g => K u (ye.trans (qt_q (q_lk ue))) ?_, fun g => ?_⟩
      · rw [if_pos (ke.mp g)] at hr2
        rw [hr2]
        exact hy.lk ue ul.1 (Nat.le_refl _)
      · rw [if_neg (fun q => g (ke.mpr q))] at hr2
        refine p_X8_ask_143 (d2 := d - 1) (s_X8_fail ul.1.2.1.1 (by decide) (ul.pl n1)) (by omega) ?_
        rintro a ⟨-, ae, er⟩
        rw [ul.2] at er
        refine K a ((ye.trans (qt_q (q_lk ue))).trans (qt_q (q_lk ae))) ?_
        rw [hr2]; exact er
  rcases hz with ⟨k5, w18, er⟩ | ⟨kw, s2⟩
  · -- no question's word
    have nw : ¬ (wE T n (q0S T n) = 30 ∨ wE T n (q0S T n) = 31 ∨ wE T n (q0S T n) = 32) ∧ ¬ (wE T n (q0S T n) = 33 ∨ wE T n (q0S T n) = 19 ∨ wE T n (q0S T n) = 18) := by
      constructor
      · rintro (g | g | g) <;> rw [g] at k5 <;> exact absurd k5 (by decide)
      · rintro (g | g | g)
        · rw [g] at k5; exact absurd k5 (by decide)
        · rw [g] at k5; exact absurd k5 (by decide)
        · exact w18 g
    have rq : rdQ T n = (.error (1, (q0S T n).1) : Rs).bind (exE T n) := by
      unfold rdQ qBody
      rw [if_neg nw.1, if_neg nw.2]
    have a := aft z (.error (1, (q0S T n).1)) (qt_q (q_lk ze)) er rq
    exact g_X8_ask_91 ⟨er.ne.2, fun _ => ⟨fun _ => a, fun g => absurd er.ne.1 g⟩, fun g => absurd er.ne.1 g⟩
  · have b5 := s2.2.1.1
    by_cases c3 : wE T n (q0S T n) = 30 ∨ wE T n (q0S T n) = 31 ∨ wE T n (q0S T n) = 32
    · have k3 : kindOf (wE T n (q0S T n)) < 3 := by rcases c3 with g | g | g <;> rw [g] <;> decide
      have nn := wb _ rfl (by omega)
      have h2 := h.lk ze s2 (by omega)
      refine g_X8_ask_91 ⟨by omega, fun g => absurd b5 g, fun _ => ⟨by omega, fun g => by omega, fun _ => ?_⟩⟩
      refine p_X8_ask_105 (d2 := d - 1) (s_qTest (by omega) h2) (by omega) ?_
      rintro y ⟨-, ye, hy⟩
      refine g_X8_ask_108 (aft y (rdTest T n false 6 (nx T n (q0S T n))) ((qt_q (q_lk ze)).trans ye) ?_ ?_)
      · cases e1 : rdTest T n false 6 (nx T n (q0S T n)) with
        | error e => rw [e1] at hy; exact hy
        | ok x => rw [e1] at hy; exact hy
      · unfold rdQ qBody
        rw [if_pos c3]
        show ((rdTest T n false 6 (nx T n (q0S T n))).bind fun y => .ok (y.1, [] ++ y.2)).bind _ = _
        cases rdTest T n false 6 (nx T n (q0S T n)) <;> rfl
    · have c4 : wE T n (q0S T n) = 33 ∨ wE T n (q0S T n) = 19 ∨ wE T n (q0S T n) = 18 := by
        rcases kw with g | g
        · unfold kindOf at g
          rw [if_neg (by omega), if_neg (by omega), if_neg (by omega)] at g
          by_cases g1 : wE T n (q0S T n) = 33
          · exact Or.inl g1
          · rw [if_neg g1] at g
            by_cases g2 : wE T n (q0S T n) = 19
            · exact Or.inr (Or.inl g2)
            · rw [if_neg g2] at g; exact absurd rfl g
        · exact Or.inr (Or.inr g)
      have k3 : 3 ≤ kindOf (wE T n (q0S T n)) := by rcases c4 with g | g | g <;> rw [g] <;> decide
      have nn := wb _ rfl (by omega)
      have h2 := h.lk ze s2 (by omega)
      refine g_X8_ask_91 ⟨by omega, fun g => absurd b5 g, fun _ => ⟨by omega, fun _ => ⟨fun g => absurd b5 g, fun _ => ?_⟩, fun g => absurd k3 g⟩⟩
      refine p_X8_ask_119 (d2 := d - 1) (s_qSums (k := 6) (fun t ht => absurd ht List.not_mem_nil) (by omega) rfl h2) (by omega) ?_
      rintro y ⟨-, -, ye, hy⟩
      refine aft y (rdSum T n false 6 (nx T n (q0S T n))) ((qt_q (q_lk ze)).trans ye) ?_ ?_
      · cases e1 : rdSum T n false 6 (nx T n (q0S T n)) with
        | error e => rw [e1] at hy; exact hy.1
        | ok x => rw [e1] at hy; exact hy
      · unfold rdQ qBody
        rw [if_neg c3, if_pos c4]
        show ((rdSum T n false 6 (nx T n (q0S T n))).bind fun y => .ok (y.1, [] ++ y.2)).bind _ = _
        cases rdSum T n false 6 (nx T n (q0S T n)) <;> rfl
/-- a question's codes are well formed -/
theorem rdQ_ty (hb : ∀ i : Nat, i < n → 0 ≤ T i ∧ T i ≤ 255) {x : Stt × List Int} (h : rdQ T n = .ok x) : tyL false x.2 [] = some [decide (wE T n (q0S T n) = 30 ∨ wE T n (q0S T n) = 31 ∨ wE T n (q0S T n) = 32)] ∧ (wE T n (q0S T n) = 30 ∨ wE T n (q0S T n) = 31 ∨ wE T n (q0S T n) = 32 ∨ wE T n (q0S T n) = 33 ∨ wE T n (q0S T n) = 19 ∨ wE T n (q0S T n) = 18) := by
  obtain ⟨y, y1, y2⟩ := bd_ok h
  have e2 : x = y := by unfold exE at y2; split at y2 <;> cases y2; rfl
  subst e2
  unfold qBody at y1
  by_cases c3 : wE T n (q0S T n) = 30 ∨ wE T n (q0S T n) = 31 ∨ wE T n (q0S T n) = 32
  · rw [if_pos c3] at y1
    obtain ⟨a, a1, a2⟩ := bd_ok y1
    cases a1
    obtain ⟨b, b1, b2⟩ := bd_ok a2
    cases b2
    refine ⟨?_, by omega⟩
    rw [decide_eq_true c3]
    exact (ty_facts hb 6).2 _ b [] b1 (by decide)
  · rw [if_neg c3] at y1
    by_cases c4 : wE T n (q0S T n) = 33 ∨ wE T n (q0S T n) = 19 ∨ wE T n (q0S T n) = 18
    · rw [if_pos c4] at y1
      obtain ⟨a, a1, a2⟩ := bd_ok y1
      cases a1
      obtain ⟨b, b1, b2⟩ := bd_ok a2
      cases b2
      refine ⟨?_, by omega⟩
      rw [decide_eq_false c3]
      exact (ty_parts hb 6).2 _ b [] b1 (by decide)
    · rw [if_neg c4] at y1; cases y1
end QR
