/-! what a question gathers -/
section QO
variable {sc : List Int} {d : Nat} {m : Mem} {Q : Option AV → Mem → Prop} {ρ : Mem}
def stQ (k : Int) (s : Nat) (a y : Int) : Int := if k = 0 then (if y = 1 ∧ a = -1 then s else a) else if k = 1 then (if y = 1 then s else a) else if k = 2 then (if y = 1 then a + 1 else a) else if k = 3 then a + y else if s = 0 then y else if k = 4 then (if a < y then y else a) else (if y < a then y else a)
def C_tk (a j : Int) : Prop := a = 62 ∧ (j = 119 ∨ j = 120)
theorem ex119 {v : Int} : Ex C_tk m (wr m 62 119 v) := (Ex.refl C_tk m).put ⟨rfl, Or.inl rfl⟩
theorem tk_z {z : Mem} {k a y v : Int} {s : Nat} (e : Ex C_tk m z) (hz : z 62 119 = v) (hv : v = stQ k s a y) : (none : Option AV) = none ∧ Ex C_tk m (wr z 62 120 0) ∧ wr z 62 120 0 62 119 = stQ k s a y ∧ wr z 62 120 0 62 120 = 0 := by
  refine ⟨rfl, e.put ⟨rfl, Or.inr rfl⟩, ?_, wr_eq _ _ _ _⟩
  rw [wr_ne _ _ _ _ _ _ (by decide), hz, hv]
theorem s_qTakes {k a y : Int} {s : Nat} (hk : 0 ≤ k ∧ k ≤ 5) (hy : -1000000 ≤ y ∧ y ≤ 1000000) (ha : -100000000 ≤ a ∧ a ≤ 100000000) (hs : s ≤ 10) (h1 : m 62 119 = a) (h2 : m 62 120 = if s = 0 then 1 else 0) : P_X8_qTakes sc d [aR 62, aI k, aJ y, aI s] m (fun v z => v = none ∧ Ex C_tk m z ∧ z 62 119 = stQ k s a y ∧ z 62 120 = 0) := by
  have r2 : m 62 120 = 0 ∨ m 62 120 = 1 := by rw [h2]; split <;> omega
  have kA : ∀ v, a = v → Ex C_tk m (wr m 62 120 0) ∧ wr m 62 120 0 62 119 = v := fun v e => ⟨(Ex.refl C_tk m).put ⟨rfl, Or.inr rfl⟩, by rw [wr_ne _ _ _ _ _ _ (by decide), h1, e]⟩
  have kB : ∀ x v, x = v → Ex C_tk m (wr (wr m 62 119 x) 62 120 0) ∧ wr (wr m 62 119 x) 62 120 0 62 119 = v := fun x v e => ⟨((Ex.refl C_tk m).put ⟨rfl, Or.inl rfl⟩).put ⟨rfl, Or.inr rfl⟩, by rw [wr_ne _ _ _ _ _ _ (by decide), wr_eq, e]⟩
  have y1 : (if y = 1 then 1 else 0 : Int) = 0 → ¬ y = 1 := fun e g => by rw [if_pos g] at e; omega
  have y2 : ¬ (if y = 1 then 1 else 0 : Int) = 0 → y = 1 := fun e => Classical.byContradiction (fun g => e (if_neg g))
  have s0 : ¬ m 62 120 = 0 → s = 0 := fun e => Classical.byContradiction (fun g => e (by rw [h2, if_neg g]))
  have s1 : ¬ ¬ m 62 120 = 0 → ¬ s = 0 := fun e g => e (fun q => by rw [h2, if_pos g] at q; omega)
  refine ep_X8_qTakes (g_X8_qTakes_0 ?_)
  simp only [wr_na, wr_eq, wr_ne, h1]
  rcases (by omega : k = 0 ∨ k = 1 ∨ k = 2 ∨ k = 3 ∨ k = 4 ∨ k = 5) with rfl | rfl | rfl | rfl | rfl | rfl
  all_goals simp only [ne_eq, Int.reduceEq, Int.reduceLE, not_true_eq_false, not_false_eq_true, forall_const, false_implies, true_and, and_true, if_true, if_false, Int.reduceNeg, ite_not]
  · refine ⟨by decide, by omega, by decide, by split <;> omega, fun g => kA _ ?_, fun g => ⟨by omega, fun g2 => ⟨by omega, kB _ _ ?_⟩, fun g2 => kA _ ?_⟩⟩
    · unfold stQ; rw [if_pos rfl, if_neg (fun q => y1 g q.1)]
    · unfold stQ; rw [if_pos rfl, if_pos ⟨y2 g, g2⟩]
    · unfold stQ; rw [if_pos rfl, if_neg (fun q => g2 q.2)]
  · refine ⟨by decide, by omega, by decide, by split <;> omega, fun g => kA _ ?_, fun g => ⟨by omega, kB _ _ ?_⟩⟩
    · unfold stQ; rw [if_neg (by decide), if_pos rfl, if_neg (y1 g)]
    · unfold stQ; rw [if_neg (by decide), if_pos rfl, if_pos (y2 g)]
  · refine ⟨by decide, by omega, by decide, by split <;> omega, fun g => kA _ ?_, fun g => kB _ _ ?_⟩
    · unfold stQ; rw [if_neg (by decide), if_neg (by decide), if_pos rfl, if_neg (y1 g)]
    · unfold stQ; rw [if_neg (by decide), if_neg (by decide), if_pos rfl, if_pos (y2 g)]
  · exact ⟨by decide, by decide, kB _ _ (by unfold stQ; rw [if_neg (by decide), if_neg (by decide), if_neg (by decide), if_pos rfl])⟩
  · refine ⟨by decide, by decide, by omega, fun g => kB _ _ ?_, fun g => ⟨by omega, by omega, fun g2 => kA _ ?_, fun g2 => kB _ _ ?_⟩⟩
    · unfold stQ; rw [if_neg (by decide), if_neg (by decide), if_neg (by decide), if_neg (by decide), if_pos (s0 g)]
    · unfold stQ; rw [if_neg (by decide), if_neg (by decide), if_neg (by decide), if_neg (by decide), if_neg (s1 g), if_pos rfl, if_neg (by omega)]
    · unfold stQ; rw [if_neg (by decide), if_neg (by decide), if_neg (by decide), if_neg (by decide), if_neg (s1 g), if_pos rfl, if_pos (by omega)]
  · refine ⟨by decide, by decide, by omega, fun g => kB _ _ ?_, fun g => ⟨by omega, by omega, fun g2 => kA _ ?_, fun g2 => kB _ _ ?_⟩⟩
    · unfold stQ; rw [if_neg (by decide), if_neg (by decide), if_neg (by decide), if_neg (by decide), if_pos (s0 g)]
    · unfold stQ; rw [if_neg (by decide), if_neg (by decide), if_neg (by decide), if_neg (by decide), if_neg (s1 g), if_neg (by decide), if_neg (by omega)]
    · unfold stQ; rw [if_neg (by decide), if_neg (by decide), if_neg (by decide), if_neg (by decide), if_neg (s1 g), if_neg (by decide), if_pos (by omega)]
/-- the class: what stands by its word -/
theorem s_counted {w a y : Int} {s : Nat} (hw : w = 30 ∨ w = 31 ∨ w = 32) (ha : -100000000 ≤ a ∧ a ≤ 100000000) (hs : s ≤ 10) (hy : y = 1) : P_X7_counted sc d [aI w, aJ a, aI s] m (PV (aJ (stQ (if w = 30 then 0 else if w = 31 then 1 else 2) s a y)) m) := by
  refine ep_X7_counted (g_X7_counted_0 ⟨by omega, fun g => ⟨fun _ => by omega, fun _ => by omega, fun _ _ => by omega, ?_, rfl⟩, fun g => ⟨?_, rfl⟩⟩)
  · rcases hw with rfl | rfl | rfl
    · rw [if_neg (fun q => q rfl), if_pos rfl]
      unfold stQ
      rw [if_pos rfl]
      by_cases g2 : a = -1
      · rw [if_pos g2, if_pos ⟨hy, g2⟩]
      · rw [if_neg g2, if_neg (fun q => g2 q.2)]
    · rw [if_pos (by decide), if_neg (by decide), if_pos rfl]
      unfold stQ
      rw [if_neg (by decide), if_pos rfl, if_pos hy]
    · exact absurd rfl g
  · have : w = 32 := Classical.not_not.mp g
    subst this
    rw [if_neg (by decide), if_neg (by decide)]
    unfold stQ
    rw [if_neg (by decide), if_neg (by decide), if_pos rfl, if_pos hy]
theorem s_gathered {w a y : Int} {s : Nat} (hw : w = 33 ∨ w = 19 ∨ w = 18) (ha : -100000000 ≤ a ∧ a ≤ 100000000) (hy : -1000000 ≤ y ∧ y ≤ 1000000) (hs : s ≠ 0) (hd : 1 ≤ d) : P_X7_gathered sc d [aI w, aJ a, aI y] m (PV (aJ (stQ (if w = 33 then 3 else if w = 19 then 4 else 5) s a y)) m) := by
  refine ep_X7_gathered (g_X7_gathered_0 ⟨by omega, fun g => ⟨fun g2 => ⟨by omega, ?_⟩, fun g2 => ⟨by omega, ?_⟩⟩, fun g => ⟨by omega, ?_, rfl⟩⟩)
  · have : w = 18 := by omega
    subst this
    refine p_X7_gathered_29 (d2 := d - 1) (s_lmin (by unfold R64; omega) (by unfold R64; omega)) (by omega) ?_
    rintro _ z ⟨rfl, rfl⟩
    refine ⟨_, rfl, g_X7_gathered_32 ⟨?_, rfl⟩⟩
    rw [show (if (18 : Int) = 33 then 3 else if (18 : Int) = 19 then 4 else 5 : Int) = 5 from rfl]
    unfold stQ
    rw [if_neg (show ¬ (5 : Int) = 0 by decide), if_neg (show ¬ (5 : Int) = 1 by decide), if_neg (show ¬ (5 : Int) = 2 by decide), if_neg (show ¬ (5 : Int) = 3 by decide), if_neg hs, if_neg (show ¬ (5 : Int) = 4 by decide)]
  · have : w = 19 := Classical.not_not.mp g2
    subst this
    refine p_X7_gathered_20 (d2 := d - 1) (s_lmax (by unfold R64; omega) (by unfold R64; omega)) (by omega) ?_
    rintro _ z ⟨rfl, rfl⟩
    refine ⟨_, rfl, g_X7_gathered_23 (g_X7_gathered_32 ⟨?_, rfl⟩)⟩
    rw [show (if (19 : Int) = 33 then 3 else if (19 : Int) = 19 then 4 else 5 : Int) = 4 from rfl]
    unfold stQ
    rw [if_neg (show ¬ (4 : Int) = 0 by decide), if_neg (show ¬ (4 : Int) = 1 by decide), if_neg (show ¬ (4 : Int) = 2 by decide), if_neg (show ¬ (4 : Int) = 3 by decide), if_neg hs, if_pos rfl]
  · have : w = 33 := Classical.not_not.mp g
    subst this
    rw [if_pos rfl]
    unfold stQ
    rw [if_neg (by decide), if_neg (by decide), if_neg (by decide), if_pos rfl]
end QO
