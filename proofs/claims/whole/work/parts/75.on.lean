/-! pair: on -/
section PO2
variable {sc : List Int} {Ca : Mem → Mem → Prop}
def onW (m : Mem) : Mem := wr (wr (wr (wr (wr (wr (wr m 57 0 (m 1 0)) 57 1 (m 1 1)) 57 2 (m 1 2)) 57 3 (m 1 3)) 57 4 (m 1 4)) 57 5 (256 * m 1 5 + m 1 6)) 57 8 0
theorem onW_ex (m : Mem) : Ex C_bk m (onW m) := by
  unfold onW
  exact (((((((Ex.refl _ _).put ⟨rfl, by omega⟩).put ⟨rfl, by omega⟩).put ⟨rfl, by omega⟩).put ⟨rfl, by omega⟩).put ⟨rfl, by omega⟩).put ⟨rfl, by omega⟩).put ⟨rfl, by omega⟩
def onF (f : Int → Int) (k : Int) : Int := if k = 5 then 256 * f 5 + f 6 else f k
theorem onW_k (m : Mem) (k : Nat) (hk : k < 6) : onW m 57 k = onF (m 1) k := by
  rcases (by omega : k = 0 ∨ k = 1 ∨ k = 2 ∨ k = 3 ∨ k = 4 ∨ k = 5) with rfl | rfl | rfl | rfl | rfl | rfl <;> rfl
theorem onW_8 (m : Mem) : onW m 57 8 = 0 := wr_eq _ _ _ _
theorem pair_on (hCa : CaFr Ca) (n : Nat) (m : Mem) (hn : n < 512) (hi : Inv Ca n m) : PairI (Inv Ca) n m (P_X7_on sc 1799 [aR 0]) (P_X8_on sc 1799 [aR 62]) := by
  obtain ⟨ρ, nr, w, hi, hc⟩ := hi
  have hb := hi.2.1
  have b0 := hb.1
  obtain ⟨t1, t2, t3⟩ := hi.tape
  have hm := hi.mrm
  have hP := hi.past
  have eR := hm.1.2.2.2
  have e15 := hi.2.2.1.1.2.2.2
  have z02 : wr m 0 1 0 0 2 = m 0 2 := wr_ne _ _ _ _ _ _ (by omega)
  have hr := room_bd hi.1.1
  have z15 : wr m 0 1 0 (m 0 2) 15 = ρ 0 3 := by rw [wr_na _ _ _ _ _ _ (by omega)]; exact e15
  have z1f : wr m 0 1 0 1 = m 1 := funext fun j => wr_na _ _ _ _ _ _ (by decide)
  have hxt : Xt (wr m 0 1 0) ρ := hi.xt.ex (C := fun a j => a = 0 ∧ j = 1) (fun a j q => wr_ne _ _ _ _ _ _ q) (fun a j q c => by omega)
  -- the reference
  have entry : ∀ (y : Mem) (Q : Option AV → Mem → Prop), MRm y ρ → y 62 1 = m 0 1 → (∀ i : Nat, (i : Int) < m 0 1 → y 63 i = m 1 i) → ((ρ 0 3 ≠ 0 ∧ m 0 1 = 8 ∧ onOK ρ (m 1)) → S_X8_on sc 1799 161 [aR 62, aU, aU, aI 0] [] (wr y 62 1 0) Q) → (¬ (ρ 0 3 ≠ 0 ∧ m 0 1 = 8 ∧ onOK ρ (m 1)) → Q (some (aI 0)) (wr (wr y 62 1 0) 64 5 (wr y 62 1 0 64 5 + 1))) → P_X8_on sc 1799 [aR 62] y Q := by
    intro y Q hy hyN h63 k1 k0
    have y53 : wr y 62 1 0 62 53 = if ρ 0 3 = 0 then 0 else 1 := by rw [wr_ne _ _ _ _ _ _ (by omega)]; exact hy.1.2.2.2
    refine ep_X8_on (g_X8_on_0 ?_)
    rw [y53, hyN]
    by_cases c : ρ 0 3 = 0
    · rw [if_pos c]
      exact ⟨by omega, fun _ => k0 (fun q => q.1 c), fun q => absurd rfl q⟩
    · rw [if_neg c]
      refine ⟨by omega, fun q => absurd q (by decide), fun _ => ⟨by omega, fun q => k0 (fun p => q p.2.1), fun q => ?_⟩⟩
      have q8 : m 0 1 = 8 := by omega
      have hy2 : MRm (wr y 62 1 0) ρ := hy.ex (C := fun a j => a = 62 ∧ j = 1) (fun a j q => wr_ne _ _ _ _ _ _ q) (fun a j q c => by omega)
      have g : ∀ i : Nat, i < 8 → wr y 62 1 0 63 i = m 1 i ∧ 0 ≤ m 1 i ∧ m 1 i ≤ 255 := fun i hi8 => by
        rw [wr_na _ _ _ _ _ _ (by decide)]
        exact ⟨h63 i (by omega), (t3 i (by omega)).2⟩
      generalize wr y 62 1 0 = u at hy2 g k1 k0 ⊢
      obtain ⟨g0, p0⟩ : u 63 0 = m 1 0 ∧ 0 ≤ m 1 0 ∧ m 1 0 ≤ 255 := g 0 (by omega)
      obtain ⟨g1, p1⟩ : u 63 1 = m 1 1 ∧ 0 ≤ m 1 1 ∧ m 1 1 ≤ 255 := g 1 (by omega)
      obtain ⟨g2, p2⟩ : u 63 2 = m 1 2 ∧ 0 ≤ m 1 2 ∧ m 1 2 ≤ 255 := g 2 (by omega)
      obtain ⟨g3, p3⟩ : u 63 3 = m 1 3 ∧ 0 ≤ m 1 3 ∧ m 1 3 ≤ 255 := g 3 (by omega)
      obtain ⟨g4, p4⟩ : u 63 4 = m 1 4 ∧ 0 ≤ m 1 4 ∧ m 1 4 ≤ 255 := g 4 (by omega)
      obtain ⟨g5, p5⟩ : u 63 5 = m 1 5 ∧ 0 ≤ m 1 5 ∧ m 1 5 ≤ 255 := g 5 (by omega)
      obtain ⟨g6, p6⟩ : u 63 6 = m 1 6 ∧ 0 ≤ m 1 6 ∧ m 1 6 ≤ 255 := g 6 (by omega)
      obtain ⟨g7, p7⟩ : u 63 7 = m 1 7 ∧ 0 ≤ m 1 7 ∧ m 1 7 ≤ 255 := g 7 (by omega)
      have l63 : alen 63 = 1600 := al_63
      have ec : chF (u 63) 7 = chF (m 1) 7 := chF_congr (fun k hk => (g k (by omega)).1)
      have cb := chF_bd (f := m 1) (n := 7) (fun k hk => (g k (by omega)).2)
      refine p_X8_on_36 (d2 := 1798) ic_63 (s_checked ic_63 (by omega) (fun k hk => by rw [(g k (by omega)).1]; exact (g k (by omega)).2)) (by decide) ?_
      rintro _ u ⟨e, rfl⟩; cases e
      rw [ec, g7]
      refine g_X8_on_39 ⟨by omega, by omega, fun c => k0 (fun q => c q.2.2.2.2.2.2.2.2), fun c7 => ?_⟩
      have c7 : m 1 7 = chF (m 1) 7 := by omega
      rw [g0]
      refine p_X8_on_49 (d2 := 1798) (s_seamMany hy2) (by decide) ?_
      rintro _ u ⟨e, rfl⟩; cases e
      refine g_X8_on_52 ?_
      rw [g0, g3, g4]
      refine ⟨by omega, by omega, fun _ => by omega, fun _ => by omega, fun _ _ => by omega, by split <;> first | omega | (split <;> first | omega | (split <;> omega)), fun c => k0 (fun q => ?_), fun c => ?_⟩
      · obtain ⟨-, -, q0, q3, q4, -⟩ := q
        rw [if_neg (by omega), if_neg (by omega), if_neg (by omega)] at c
        omega
      · have c034 : m 1 0 ≤ ρ 0 1 ∧ m 1 3 ≤ m 1 0 ∧ m 1 4 ≤ m 1 0 := by
          by_cases a0 : ρ 0 1 < m 1 0
          · rw [if_pos a0] at c; omega
          · rw [if_neg a0] at c
            by_cases a3 : m 1 0 < m 1 3
            · rw [if_pos a3] at c; omega
            · rw [if_neg a3] at c
              by_cases a4 : m 1 0 < m 1 4
              · rw [if_pos a4] at c; omega
              · omega
        rw [g2]
        refine p_X8_on_102 (d2 := 1798) (s_X8_isLength hy2 hb (by decide) (by unfold R32; omega)) (by decide) ?_
        rintro _ u ⟨rfl, ⟨e, h2⟩ | ⟨e, h2⟩⟩ <;> cases e
        · refine g_X8_on_105 ⟨by omega, fun c => absurd c (by decide), fun _ => ?_⟩
          rw [g1, g2, g5, g6]
          exact ⟨by omega, by omega, fun c => k0 (fun q => by have := q.2.2.2.2.2.2.1; omega), fun c1 => ⟨by omega, fun c5 => k1 ⟨by assumption, q8, c034.1, c034.2.1, c034.2.2, h2, by omega, c5, c7⟩, fun c5 => k0 (fun q => by have := q.2.2.2.2.2.2.2.1; omega)⟩⟩
        · exact g_X8_on_105 ⟨by omega, fun _ => k0 (fun q => h2 q.2.2.2.2.2.1), fun c => absurd rfl c⟩
  -- refused
  have refd : ¬ (ρ 0 3 ≠ 0 ∧ m 0 1 = 8 ∧ onOK ρ (m 1)) → S_X7_on sc 1799 35 [aR 0, aU] [aI 5, aR 0] (wr m 0 1 0) (fun v z => ∃ x, v = some (aI x) ∧ R32 x ∧ P_X8_on sc 1799 [aR 62] z (fun v2 z2 => v2 = some (aI x) ∧ Inv Ca (n + 1) z2)) := by
    intro bad
    refine p_X7_on_35 (d2 := 1798) (s_refuse (k := 5) (by omega)) (by decide) ?_
    rintro v z ⟨e, rfl⟩; cases e
    refine g_X7_on_38 ⟨_, rfl, by unfold R32; omega, ?_⟩
    have fx : Ex (fun a j => a = 61 ∨ (a = 0 ∧ j = 1)) m (wr (wr m 0 1 0) 61 ((5 : Nat) : Int) (wr m 0 1 0 61 ((5 : Nat) : Int) + 1)) := ((Ex.refl _ _).put (Or.inr ⟨rfl, rfl⟩)).put (Or.inl rfl)
    refine entry _ _ (hm.ex fx (fun a j q c => by omega)) (by rw [fx 62 1 (by omega), t2]) (fun i hi2 => by rw [fx 63 _ (by omega)]; exact (t3 i hi2).1) (fun c => absurd c bad) (fun _ => ⟨rfl, ?_⟩)
    have g61 : wr (wr m 0 1 0) 61 ((5 : Nat) : Int) (wr m 0 1 0 61 ((5 : Nat) : Int) + 1) 61 ((5 : Nat) : Int) = m 61 ((5 : Nat) : Int) + 1 := by rw [wr_eq, wr_na _ _ _ _ _ _ (by decide)]
    have g61' : ∀ i : Nat, i ≠ 5 → wr (wr m 0 1 0) 61 ((5 : Nat) : Int) (wr m 0 1 0 61 ((5 : Nat) : Int) + 1) 61 i = m 61 i := fun i q => by rw [wr_ne _ _ _ _ _ _ (by omega), wr_na _ _ _ _ _ _ (by decide)]
    have g01 : wr (wr m 0 1 0) 61 ((5 : Nat) : Int) (wr m 0 1 0 61 ((5 : Nat) : Int) + 1) 0 1 = 0 := by rw [wr_na _ _ _ _ _ _ (by decide), wr_eq]
    generalize wr (wr m 0 1 0) 61 ((5 : Nat) : Int) (wr m 0 1 0 61 ((5 : Nat) : Int) + 1) = z at fx g61 g61' g01 ⊢
    have hx : Ex (fun a j => a = 61 ∨ (a = 0 ∧ j = 1) ∨ (a = 62 ∧ j = 1) ∨ a = 64) m (wr (wr z 62 1 0) 64 5 (wr z 62 1 0 64 5 + 1)) := ((fx.mono (fun a j q => by omega)).put (Or.inr (Or.inr (Or.inl ⟨rfl, rfl⟩)))).put (Or.inr (Or.inr (Or.inr rfl)))
    have h64 : wr z 62 1 0 64 5 = m 64 5 := by rw [wr_na _ _ _ _ _ _ (by decide)]; exact fx 64 5 (by omega)
    refine ⟨ρ, nr, w, hi.mod hx (fun a j q => by unfold RelR; omega) ⟨?_, ?_, fun k hk => ?_⟩ (RefL.put (k := 5) hi.refs (by omega) ?_ ?_ (fun i h1 h2 => ⟨?_, ?_⟩)) (hi.flt.ex hx (fun a j q => by omega)) (hi.dayl.ex hx (fun a j q => by omega)) (hi.past.ex hx (fun a j q => by omega)) (hi.seedl.ex hx (fun a j q => by omega)) (hi.pic.ex hx (fun a j q => by omega)) (rws_ex hi.rws hx (fun a j q => by omega)), hCa m _ ρ (fun a j q => hx a j (by unfold CaC at q; omega)) hc⟩
    · rw [wr_na _ _ _ _ _ _ (by decide), wr_na _ _ _ _ _ _ (by decide), g01]; omega
    · rw [wr_na _ _ _ _ _ _ (by decide), wr_eq, wr_na _ _ _ _ _ _ (by decide), wr_na _ _ _ _ _ _ (by decide), g01]
    · rw [wr_na _ _ _ _ _ _ (by decide), wr_na _ _ _ _ _ _ (by decide), g01] at hk; omega
    · rw [wr_na _ _ _ _ _ _ (by decide), wr_na _ _ _ _ _ _ (by decide)]; exact g61
    · show wr _ 64 5 _ 64 5 = m 64 5 + 1
      rw [wr_eq, h64]
    · rw [wr_na _ _ _ _ _ _ (by decide), wr_na _ _ _ _ _ _ (by decide)]; exact g61' i h2
    · rw [wr_ne _ _ _ _ _ _ (by omega), wr_na _ _ _ _ _ _ (by decide)]; exact fx 64 i (by omega)
  refine ep_X7_on (g_X7_on_0 ?_)
  rw [z02, z15]
  refine ⟨hi.1.1, by omega, fun c => refd (fun q => q.1 c), fun c3 => ⟨by omega, fun c => refd (fun q => c q.2.1), fun c => ?_⟩⟩
  have q8 : m 0 1 = 8 := by omega
  refine p_X7_on_27 (d2 := 1798) (s_tellsDay hxt (by decide) (fun i hi8 => by rw [z1f]; exact (t3 i (by omega)).2)) (by decide) ?_
  rw [z1f]
  rintro v z ⟨rfl, ⟨e, ok⟩ | ⟨e, ok⟩⟩ <;> cases e
  · refine g_X7_on_30 ⟨by omega, fun _ => ?_, fun c => absurd (by decide) c⟩
    simp only [wr_na, ne_eq, Int.reduceEq, not_false_eq_true]
    refine ⟨1, rfl, by decide, ?_⟩
    have eW : wr (wr (wr (wr (wr (wr (wr (wr m 0 1 0) 57 0 (m 1 0)) 57 1 (m 1 1)) 57 2 (m 1 2)) 57 3 (m 1 3)) 57 4 (m 1 4)) 57 5 (256 * m 1 5 + m 1 6)) 57 8 0 = onW (wr m 0 1 0) := by
      unfold onW
      rw [z1f]
    show P_X8_on sc 1799 [aR 62] (wr (wr (wr (wr (wr (wr (wr (wr m 0 1 0) 57 0 (m 1 0)) 57 1 (m 1 1)) 57 2 (m 1 2)) 57 3 (m 1 3)) 57 4 (m 1 4)) 57 5 (256 * m 1 5 + m 1 6)) 57 8 0) _
    rw [eW]
    have oe := onW_ex (wr m 0 1 0)
    have ok6 := onW_k (wr m 0 1 0)
    have o8 := onW_8 (wr m 0 1 0)
    rw [z1f] at ok6
    have fx : Ex (fun a j => (a = 57 ∧ ((0 ≤ j ∧ j ≤ 5) ∨ j = 8)) ∨ (a = 0 ∧ j = 1)) m (onW (wr m 0 1 0)) := ((Ex.refl _ _).put (Or.inr ⟨rfl, rfl⟩)).trans (oe.mono (fun a j q => Or.inl q))
    have o01 : onW (wr m 0 1 0) 0 1 = 0 := by rw [oe 0 1 (by unfold C_bk; omega), wr_eq]
    generalize onW (wr m 0 1 0) = z at ok6 o8 fx o01 ⊢
    refine entry z _ (hm.ex fx (fun a j q c => by omega)) (by rw [fx 62 1 (by omega), t2]) (fun i hi2 => by rw [fx 63 _ (by omega)]; exact (t3 i hi2).1) (fun _ => ?_) (fun c => absurd ⟨c3, q8, ok⟩ c)
    have l : ∀ (j i : Nat) (y : Mem), i + j = 5 → Ex (fun a j => a = 124 ∨ (a = 62 ∧ j = 1)) z y → y 62 1 = 0 → (∀ k : Nat, k < i → y 124 k = m 1 k) → S_X8_on sc 1799 161 [aR 62, aU, aU, aI i] [] y (fun v2 z2 => v2 = some (aI 1) ∧ Inv Ca (n + 1) z2) := by
      intro j
      induction j with
      | zero =>
        intro i y hi5 he e1 e5
        obtain rfl : i = 5 := by omega
        have y5 : y 63 5 = m 1 5 := by rw [he 63 5 (by omega), fx 63 5 (by omega)]; exact (t3 5 (by omega)).1
        have y6 : y 63 6 = m 1 6 := by rw [he 63 6 (by omega), fx 63 6 (by omega)]; exact (t3 6 (by omega)).1
        refine g_X8_on_161 ⟨by omega, fun _ => ⟨rfl, ?_⟩, fun c => absurd (by omega) c⟩
        rw [y5, y6]
        have hx : Ex (fun a j => (a = 57 ∧ ((0 ≤ j ∧ j ≤ 5) ∨ j = 8)) ∨ (a = 0 ∧ j = 1) ∨ a = 124 ∨ (a = 62 ∧ (j = 1 ∨ j = 83))) m (wr (wr y 124 5 (256 * m 1 5 + m 1 6)) 62 83 0) := by
          refine Ex.put (Ex.put ?_ (Or.inr (Or.inr (Or.inl rfl)))) (Or.inr (Or.inr (Or.inr ⟨rfl, Or.inr rfl⟩)))
          exact (fx.mono (fun a j q => by omega)).trans (he.mono (fun a j q => by omega))
        have x83 : wr (wr y 124 5 (256 * m 1 5 + m 1 6)) 62 83 0 62 83 = 0 := wr_eq _ _ _ _
        have x124 : ∀ k : Nat, k < 6 → wr (wr y 124 5 (256 * m 1 5 + m 1 6)) 62 83 0 124 k = onF (m 1) k := fun k hk => by
          rw [wr_na _ _ _ _ _ _ (by decide)]
          unfold onF
          by_cases e : k = 5
          · subst e; rw [if_pos (by omega)]; exact wr_eq _ _ _ _
          · rw [if_neg (by omega), wr_ne _ _ _ _ _ _ (by omega)]; exact e5 k (by omega)
        have xo : ∀ a j, a ≠ 124 → a ≠ 62 → wr (wr y 124 5 (256 * m 1 5 + m 1 6)) 62 83 0 a j = z a j := fun a j q1 q2 => by rw [wr_na _ _ _ _ _ _ q2, wr_na _ _ _ _ _ _ q1]; exact he a j (by omega)
        have x1 : wr (wr y 124 5 (256 * m 1 5 + m 1 6)) 62 83 0 62 1 = 0 := by rw [wr_ne _ _ _ _ _ _ (by omega), wr_na _ _ _ _ _ _ (by decide)]; exact e1
        generalize wr (wr y 124 5 (256 * m 1 5 + m 1 6)) 62 83 0 = t at hx x83 x124 xo x1 ⊢
        have t57 : ∀ k : Nat, k < 6 → t 57 k = onF (m 1) k := fun k hk => (xo 57 k (by decide) (by decide)).trans (ok6 k hk)
        have t578 : t 57 8 = 0 := (xo 57 8 (by decide) (by decide)).trans o8
        have t01 : t 0 1 = 0 := (xo 0 1 (by decide) (by decide)).trans o01
        obtain ⟨o0, o3, o4, ⟨iL, hL1, hL2⟩, o1, o5, o7⟩ := ok
        have f0 : 0 ≤ m 1 0 := (t3 0 (by omega)).2.1
        have f1 : 0 ≤ m 1 1 := (t3 1 (by omega)).2.1
        have f3 : 0 ≤ m 1 3 := (t3 3 (by omega)).2.1
        have f4 : 0 ≤ m 1 4 := (t3 4 (by omega)).2.1
        have f5 : 0 ≤ m 1 5 := (t3 5 (by omega)).2.1
        have f6 : 0 ≤ m 1 6 := (t3 6 (by omega)).2.1
        have bL := (hb.2.2.1 iL (by omega)).1
        refine ⟨ρ, nr, w, hi.mod hx (fun a j q => by unfold RelR; omega) ⟨by rw [t01]; omega, by rw [x1, t01], fun k hk => by rw [t01] at hk; omega⟩ (hi.refs.up.ex hx (fun a j q => by omega)) (hi.flt.ex hx (fun a j q => by omega)) ⟨fun k hk => by rw [x124 k hk, t57 k hk], ?_⟩ ⟨by rw [t578]; omega, by rw [x83, t578], by rw [hx 62 84 (by omega)]; exact hP.2.2.1, fun i hi2 => by rw [t578] at hi2; omega⟩ (hi.seedl.ex hx (fun a j q => by omega)) (hi.pic.ex hx (fun a j q => by omega)) (rws_ex hi.rws hx (fun a j q => by omega)), hCa m _ ρ (fun a j q => hx a j (by unfold CaC at q; omega)) hc⟩
        unfold DayB
        have r0 : t 57 0 = m 1 0 := t57 0 (by omega)
        have r1 : t 57 1 = m 1 1 := t57 1 (by omega)
        have r2 : t 57 2 = m 1 2 := t57 2 (by omega)
        have r3 : t 57 3 = m 1 3 := t57 3 (by omega)
        have r4 : t 57 4 = m 1 4 := t57 4 (by omega)
        have r5 : t 57 5 = 256 * m 1 5 + m 1 6 := t57 5 (by omega)
        rw [r0, r1, r2, r3, r4, r5]
        omega
      | succ j ih =>
        intro i y hi5 he e1 e5
        refine g_X8_on_161 ⟨by omega, fun c => absurd c (by omega), fun _ => ⟨by omega, by omega, by omega, ?_⟩⟩
        refine ih (i + 1) _ (by omega) (he.put (Or.inl rfl)) (by rw [wr_na _ _ _ _ _ _ (by decide)]; exact e1) (fun k hk => ?_)
        by_cases e : k = i
        · subst e
          rw [wr_eq, he 63 _ (by omega), fx 63 _ (by omega)]
          exact (t3 k (by omega)).1
        · rw [wr_ne _ _ _ _ _ _ (by omega)]; exact e5 k (by omega)
    exact l 5 0 _ (by omega) ((Ex.refl _ _).put (Or.inr ⟨rfl, rfl⟩)) (wr_eq _ _ _ _) (fun k hk => by omega)
  · exact g_X7_on_30 ⟨by omega, fun c => absurd rfl c, fun _ => refd (fun q => ok q.2.2)⟩
end PO2
