/-! pair: see -/
section PS
variable {sc : List Int} {Ca : Mem → Mem → Prop} {d : Nat} {m : Mem} {ρ : Mem}
def rwOK (ρ : Mem) (f : Int → Int) (i : Nat) : Prop := ∀ k : Nat, k < i → f (2 * k) < ρ 0 1 ∧ f (2 * k + 1) ≤ 1
def seeOK (ρ : Mem) (f : Int → Int) (n : Nat) : Prop := (2 ≤ n ∧ n ≤ 40 ∧ n % 2 = 0) ∧ rwOK ρ f (n / 2)
theorem rwOK_s {f : Int → Int} {i : Nat} (h : rwOK ρ f i) (h1 : f (2 * i) < ρ 0 1) (h2 : f (2 * i + 1) ≤ 1) : rwOK ρ f (i + 1) := fun k hk => by
  by_cases e : k = i
  · subst e; exact ⟨h1, h2⟩
  · exact h k (by omega)
theorem s_tellsRows {n : Nat} (h : Xt m ρ) (hn : n ≤ 1600) (hf : ∀ i : Nat, i < n → 0 ≤ m 1 i ∧ m 1 i ≤ 255) : P_X7_tellsRows sc d [aR 0, aI n] m (fun v z => z = m ∧ ((v = some (aI 1) ∧ seeOK ρ (m 1) n) ∨ (v = some (aI 0) ∧ ¬ seeOK ρ (m 1) n))) := by
  have b0 := h.2.2.1
  have e8 := h.2.1.1.2.1
  have et : (n : Int).tmod 2 = ((n % 2 : Nat) : Int) := by rw [Int.tmod_eq_emod_of_nonneg (by omega)]; omega
  have l : (2 ≤ n ∧ n ≤ 40 ∧ n % 2 = 0) → ∀ (j i : Nat), i + j = n / 2 → rwOK ρ (m 1) i → S_X7_tellsRows sc d 21 [aR 0, aI n, aI (2 * (i : Int))] [] m (fun v z => z = m ∧ ((v = some (aI 1) ∧ seeOK ρ (m 1) n) ∨ (v = some (aI 0) ∧ ¬ seeOK ρ (m 1) n))) := by
    intro hn2 j
    induction j with
    | zero =>
      intro i hi hr
      exact g_X7_tellsRows_21 ⟨by omega, by omega, fun _ => ⟨rfl, Or.inl ⟨rfl, hn2, by rw [← hi]; exact hr⟩⟩, fun c => absurd (by omega) c⟩
    | succ j ih =>
      intro i hi hr
      have f1 := hf (2 * i) (by omega)
      have f2 := hf (2 * i + 1) (by omega)
      rw [show ((2 * i : Nat) : Int) = 2 * (i : Int) by omega] at f1
      rw [show ((2 * i + 1 : Nat) : Int) = 2 * (i : Int) + 1 by omega] at f2
      refine g_X7_tellsRows_21 ⟨by omega, by omega, fun c => absurd c (by omega), fun _ => ⟨by omega, by omega, h.1, by omega, by omega, fun c => ⟨rfl, Or.inr ⟨rfl, fun q => ?_⟩⟩, fun c => ⟨by omega, by omega, by omega, fun c2 => ?_, fun c2 => ⟨rfl, Or.inr ⟨rfl, fun q => ?_⟩⟩⟩⟩⟩
      · have := (q.2 i (by omega)).1; omega
      · have w := ih (i + 1) (by omega) (rwOK_s hr (by omega) c2)
        rw [show 2 * ((i + 1 : Nat) : Int) = 2 * (i : Int) + 2 by omega] at w
        exact w
      · have := (q.2 i (by omega)).2; omega
  refine ep_X7_tellsRows (g_X7_tellsRows_0 ⟨by omega, fun c => ⟨rfl, Or.inr ⟨rfl, fun q => by have := q.1; omega⟩⟩, fun c => ⟨fun c2 => ⟨rfl, Or.inr ⟨rfl, fun q => by have := q.1; omega⟩⟩, fun c2 => ⟨by rw [et]; omega, fun c3 => l (by rw [et] at c3; omega) (n / 2) 0 (by omega) (fun k hk => by omega), fun c3 => ⟨rfl, Or.inr ⟨rfl, fun q => by rw [et] at c3; have := q.1; omega⟩⟩⟩⟩⟩)
theorem pair_see (hCa : CaFr Ca) (n : Nat) (m : Mem) (hn : n < 512) (hi : Inv Ca n m) : PairI (Inv Ca) n m (P_X7_see sc 1799 [aR 0]) (P_X8_see sc 1799 [aR 62]) := by
  obtain ⟨ρ, nr, w, hi, hc⟩ := hi
  have hb := hi.2.1
  have b0 := hb.1
  obtain ⟨t1, t2, t3⟩ := hi.tape
  obtain ⟨N, hN⟩ := Int.eq_ofNat_of_zero_le t1.1
  have hm := hi.mrm
  have et : (N : Int).tmod 2 = ((N % 2 : Nat) : Int) := by rw [Int.tmod_eq_emod_of_nonneg (by omega)]; omega
  have ed : (N : Int).tdiv 2 = ((N / 2 : Nat) : Int) := by rw [Int.tdiv_eq_ediv_of_nonneg (by omega)]; omega
  have z1 : ∀ j, wr m 0 1 0 1 j = m 1 j := fun j => wr_na _ _ _ _ _ _ (by decide)
  have z1f : wr m 0 1 0 1 = m 1 := funext z1
  have hxt : Xt (wr m 0 1 0) ρ := hi.xt.ex (C := fun a j => a = 0 ∧ j = 1) (fun a j q => wr_ne _ _ _ _ _ _ q) (fun a j q c => by omega)
  refine ep_X7_see (g_X7_see_0 ?_)
  rw [hN]
  refine p_X7_see_12 (d2 := 1798) (s_tellsRows hxt (by omega) (fun i hi2 => by rw [z1]; exact (t3 i (by omega)).2)) (by decide) ?_
  rw [z1f]
  -- the reference's loop
  have lp : ∀ (y : Mem) (Q : Option AV → Mem → Prop), MRm y ρ → (∀ i : Nat, i < N → y 63 i = m 1 i) → (seeOK ρ (m 1) N → S_X8_see sc 1799 100 [aR 62, aI N, aU, aI 0] [] y Q) → (¬ seeOK ρ (m 1) N → Q (some (aI (-1))) (wr y 64 1 (y 64 1 + 1))) → (2 ≤ N ∧ N ≤ 40 ∧ N % 2 = 0) → ∀ (j i : Nat), i + j = N / 2 → rwOK ρ (m 1) i → S_X8_see sc 1799 36 [aR 62, aI N, aI 1, aI (2 * (i : Int))] [] y Q := by
    intro y Q hy h63 k1 k0 hn2 j
    induction j with
    | zero =>
      intro i hi2 hr
      exact g_X8_see_36 ⟨by omega, by omega, fun _ => ⟨by omega, fun _ => k1 ⟨hn2, by rw [← hi2]; exact hr⟩, fun c => absurd (by decide) c⟩, fun c => absurd (by omega) c⟩
    | succ j ih =>
      intro i hi2 hr
      have f1 := (t3 (2 * i) (by omega)).2
      have f2 := (t3 (2 * i + 1) (by omega)).2
      have g1 := h63 (2 * i) (by omega)
      have g2 := h63 (2 * i + 1) (by omega)
      rw [show ((2 * i : Nat) : Int) = 2 * (i : Int) by omega] at f1 g1
      rw [show ((2 * i + 1 : Nat) : Int) = 2 * (i : Int) + 1 by omega] at f2 g2
      refine g_X8_see_36 ⟨by omega, by omega, fun c => absurd c (by omega), fun _ => ⟨by omega, fun c => absurd c (by decide), fun _ => ⟨by omega, by omega, ?_⟩⟩⟩
      rw [g1]
      refine p_X8_see_52 (d2 := 1798) (s_seamMany hy) (by decide) ?_
      rintro _ y ⟨e, rfl⟩; cases e
      refine g_X8_see_55 ⟨by omega, by omega, fun _ => by omega, fun _ => by omega, fun _ => by omega, ?_⟩
      rw [g2]
      by_cases c : ρ 0 1 ≤ m 1 (2 * i)
      · rw [if_pos c]
        have bad := k0 (fun q => by have := (q.2 i (by omega)).1; omega)
        exact g_X8_see_36 ⟨by omega, by omega, fun _ => ⟨by omega, fun c => absurd rfl c, fun _ => bad⟩, fun _ => ⟨by omega, fun _ => ⟨fun c => absurd rfl c, fun _ => bad⟩, fun c => absurd rfl c⟩⟩
      · rw [if_neg c]
        by_cases c2 : 2 ≤ m 1 (2 * i + 1)
        · rw [if_pos c2]
          have bad := k0 (fun q => by have := (q.2 i (by omega)).2; omega)
          exact g_X8_see_36 ⟨by omega, by omega, fun _ => ⟨by omega, fun c => absurd rfl c, fun _ => bad⟩, fun _ => ⟨by omega, fun _ => ⟨fun c => absurd rfl c, fun _ => bad⟩, fun c => absurd rfl c⟩⟩
        · rw [if_neg c2]
          have w := ih (i + 1) (by omega) (rwOK_s hr (by omega) (by omega))
          rw [show 2 * ((i + 1 : Nat) : Int) = 2 * (i : Int) + 2 by omega] at w
          exact w
  have entry : ∀ (y : Mem) (Q : Option AV → Mem → Prop), MRm y ρ → y 62 1 = N → (∀ i : Nat, i < N → y 63 i = m 1 i) → (seeOK ρ (m 1) N → S_X8_see sc 1799 100 [aR 62, aI N, aU, aI 0] [] (wr y 62 1 0) Q) → (¬ seeOK ρ (m 1) N → Q (some (aI (-1))) (wr (wr y 62 1 0) 64 1 (wr y 62 1 0 64 1 + 1))) → P_X8_see sc 1799 [aR 62] y Q := by
    intro y Q hy hyN h63 k1 k0
    refine ep_X8_see (g_X8_see_0 ?_)
    rw [hyN, et, ed]
    refine ⟨by omega, fun _ => by omega, fun _ _ => by omega, ?_⟩
    have hy2 : MRm (wr y 62 1 0) ρ := hy.ex (C := fun a j => a = 62 ∧ j = 1) (fun a j q => wr_ne _ _ _ _ _ _ q) (fun a j q c => by omega)
    have bad : ¬ (2 ≤ N ∧ N ≤ 40 ∧ N % 2 = 0) → S_X8_see sc 1799 36 [aR 62, aI N, aI 0, aI 0] [] (wr y 62 1 0) Q := fun c => by
      have b := k0 (fun q => c q.1)
      exact g_X8_see_36 ⟨by omega, by omega, fun _ => ⟨by omega, fun c => absurd rfl c, fun _ => b⟩, fun _ => ⟨by omega, fun _ => ⟨fun c => absurd rfl c, fun _ => b⟩, fun c => absurd rfl c⟩⟩
    by_cases c : (2 ≤ N ∧ N ≤ 40 ∧ N % 2 = 0)
    · rw [if_neg (by omega), if_neg (by omega), if_neg (by omega)]
      exact lp _ Q hy2 (fun i hi2 => by rw [wr_na _ _ _ _ _ _ (by decide)]; exact h63 i hi2) k1 k0 c (N / 2) 0 (by omega) (fun k hk => by omega)
    · split
      · exact bad c
      · split
        · exact bad c
        · split
          · exact bad c
          · omega
  rintro v z ⟨rfl, ⟨e, ok⟩ | ⟨e, ok⟩⟩ <;> cases e
  · refine g_X7_see_15 ⟨by omega, fun _ => ⟨by omega, by omega, by decide, by have := ok.1; omega, by omega, ?_⟩, fun c => absurd (by decide) c⟩
    rw [ed]
    have f10 : acp (wr (wr m 0 1 0) 0 10 ((N / 2 : Nat) : Int)) (wr (wr m 0 1 0) 0 10 ((N / 2 : Nat) : Int) 1) 0 59 0 N 0 10 = ((N / 2 : Nat) : Int) := by
      unfold acp
      rw [if_neg (by omega), wr_eq]
    have f59 : ∀ i : Nat, i < N → acp (wr (wr m 0 1 0) 0 10 ((N / 2 : Nat) : Int)) (wr (wr m 0 1 0) 0 10 ((N / 2 : Nat) : Int) 1) 0 59 0 N 59 i = m 1 i := fun i hi2 => by
      unfold acp
      rw [if_pos ⟨rfl, by omega, by omega⟩, wr_na _ _ _ _ _ _ (by decide), wr_na _ _ _ _ _ _ (by decide)]
      congr 1; omega
    have fx : Ex (fun a j => a = 59 ∨ (a = 0 ∧ (j = 1 ∨ j = 10))) m (acp (wr (wr m 0 1 0) 0 10 ((N / 2 : Nat) : Int)) (wr (wr m 0 1 0) 0 10 ((N / 2 : Nat) : Int) 1) 0 59 0 N) := fun a j q => by
      unfold acp
      rw [if_neg (fun c => q (Or.inl c.1)), wr_ne _ _ _ _ _ _ (fun c => q (Or.inr ⟨c.1, Or.inr c.2⟩)), wr_ne _ _ _ _ _ _ (fun c => q (Or.inr ⟨c.1, Or.inl c.2⟩))]
    have f1 : acp (wr (wr m 0 1 0) 0 10 ((N / 2 : Nat) : Int)) (wr (wr m 0 1 0) 0 10 ((N / 2 : Nat) : Int) 1) 0 59 0 N 0 1 = 0 := by
      unfold acp
      rw [if_neg (by omega), wr_ne _ _ _ _ _ _ (by omega), wr_eq]
    rw [f10]
    refine ⟨_, rfl, by unfold R32; omega, ?_⟩
    generalize acp (wr (wr m 0 1 0) 0 10 ((N / 2 : Nat) : Int)) (wr (wr m 0 1 0) 0 10 ((N / 2 : Nat) : Int) 1) 0 59 0 N = z at f10 f59 fx f1 ⊢
    refine entry z _ (hm.ex fx (fun a j q c => by omega)) (by rw [fx 62 1 (by omega), t2, hN]) (fun i hi2 => by rw [fx 63 _ (by omega)]; exact (t3 i (by omega)).1) (fun _ => ?_) (fun c => absurd ok c)
    have l : ∀ (j i : Nat) (y : Mem), i + j = N → Ex (fun a j => a = 126 ∨ (a = 62 ∧ j = 1)) z y → y 62 1 = 0 → (∀ k : Nat, k < i → y 126 k = m 1 k) → S_X8_see sc 1799 100 [aR 62, aI N, aU, aI i] [] y (fun v2 z2 => v2 = some (aI ((N / 2 : Nat) : Int)) ∧ Inv Ca (n + 1) z2) := by
      intro j
      induction j with
      | zero =>
        intro i y hi2 he e1 e5
        obtain rfl : i = N := by omega
        refine g_X8_see_100 ⟨by omega, by omega, fun _ => ?_, fun c => absurd (by omega) c⟩
        rw [ed, wr_eq]
        refine ⟨rfl, ?_⟩
        have gx : Ex (fun a j => a = 59 ∨ (a = 0 ∧ (j = 1 ∨ j = 10)) ∨ a = 126 ∨ (a = 62 ∧ (j = 1 ∨ j = 88))) m (wr y 62 88 ((i / 2 : Nat) : Int)) := Ex.put ((fx.mono (fun a j q => by omega)).trans (he.mono (fun a j q => by omega))) (Or.inr (Or.inr (Or.inr ⟨rfl, Or.inr rfl⟩)))
        have g88 : wr y 62 88 ((i / 2 : Nat) : Int) 62 88 = ((i / 2 : Nat) : Int) := wr_eq _ _ _ _
        have g1 : wr y 62 88 ((i / 2 : Nat) : Int) 62 1 = 0 := by rw [wr_ne _ _ _ _ _ _ (by omega)]; exact e1
        have go : ∀ a j, a ≠ 62 → wr y 62 88 ((i / 2 : Nat) : Int) a j = y a j := fun a j q => wr_na _ _ _ _ _ _ q
        generalize wr y 62 88 ((i / 2 : Nat) : Int) = t at gx g88 g1 go ⊢
        have t01 : t 0 1 = 0 := by rw [go 0 1 (by decide), he 0 1 (by omega)]; exact f1
        have t010 : t 0 10 = ((i / 2 : Nat) : Int) := by rw [go 0 10 (by decide), he 0 10 (by omega)]; exact f10
        refine ⟨ρ, ((i / 2 : Nat) : Int), m 1, hi.mod gx (fun a j q => by unfold RelR; omega) ⟨by rw [t01]; omega, by rw [g1, t01], fun k hk => by rw [t01] at hk; omega⟩ (hi.refs.up.ex gx (fun a j q => by omega)) (hi.flt.ex gx (fun a j q => by omega)) (hi.dayl.ex gx (fun a j q => by omega)) (hi.past.ex gx (fun a j q => by omega)) (hi.seedl.ex gx (fun a j q => by omega)) (hi.pic.ex gx (fun a j q => by omega)) ⟨⟨t010, fun k hk => ?_⟩, ⟨g88, fun k hk => ?_⟩, ⟨by have := ok.1; omega, fun k hk => ?_⟩⟩, hCa m _ ρ (fun a j q => gx a j (by unfold CaC at q; omega)) hc⟩
        · rw [go 59 _ (by decide), he 59 _ (by omega)]; exact f59 k (by omega)
        · rw [go 126 _ (by decide)]; exact e5 k (by omega)
        · have r1 := ok.2 k (by omega)
          have f1 := (t3 (2 * k) (by omega)).2
          have f2 := (t3 (2 * k + 1) (by omega)).2
          rw [show ((2 * k : Nat) : Int) = 2 * (k : Int) by omega] at f1
          rw [show ((2 * k + 1 : Nat) : Int) = 2 * (k : Int) + 1 by omega] at f2
          exact ⟨⟨f1.1, r1.1⟩, f2.1, r1.2⟩
      | succ j ih =>
        intro i y hi2 he e1 e5
        have ok1 := ok.1
        refine g_X8_see_100 ⟨by omega, by omega, fun c => absurd c (by omega), fun _ => ⟨by omega, by omega, by omega, ?_⟩⟩
        refine ih (i + 1) _ (by omega) (he.put (Or.inl rfl)) (by rw [wr_na _ _ _ _ _ _ (by decide)]; exact e1) (fun k hk => ?_)
        by_cases e : k = i
        · subst e
          rw [wr_eq, he 63 _ (by omega), fx 63 _ (by omega)]
          exact (t3 k (by omega)).1
        · rw [wr_ne _ _ _ _ _ _ (by omega)]; exact e5 k (by omega)
    exact l N 0 _ (by omega) ((Ex.refl _ _).put (Or.inr ⟨rfl, rfl⟩)) (wr_eq _ _ _ _) (fun k hk => by omega)
  · refine g_X7_see_15 ⟨by omega, fun c => absurd rfl c, fun _ => ?_⟩
    refine p_X7_see_20 (d2 := 1798) (s_refuse (k := 1) (by omega)) (by decide) ?_
    rintro v z ⟨e, rfl⟩; cases e
    refine g_X7_see_23 ⟨_, rfl, by unfold R32; omega, ?_⟩
    have fx : Ex (fun a j => a = 61 ∨ (a = 0 ∧ j = 1)) m (wr (wr m 0 1 0) 61 ((1 : Nat) : Int) (wr m 0 1 0 61 ((1 : Nat) : Int) + 1)) := ((Ex.refl _ _).put (Or.inr ⟨rfl, rfl⟩)).put (Or.inl rfl)
    refine entry _ _ (hm.ex fx (fun a j q c => by omega)) (by rw [fx 62 1 (by omega), t2, hN]) (fun i hi2 => by rw [fx 63 _ (by omega)]; exact (t3 i (by omega)).1) (fun c => absurd c ok) (fun _ => ⟨rfl, ?_⟩)
    have g61 : wr (wr m 0 1 0) 61 ((1 : Nat) : Int) (wr m 0 1 0 61 ((1 : Nat) : Int) + 1) 61 ((1 : Nat) : Int) = m 61 ((1 : Nat) : Int) + 1 := by rw [wr_eq, wr_na _ _ _ _ _ _ (by decide)]
    have g61' : ∀ i : Nat, i ≠ 1 → wr (wr m 0 1 0) 61 ((1 : Nat) : Int) (wr m 0 1 0 61 ((1 : Nat) : Int) + 1) 61 i = m 61 i := fun i q => by rw [wr_ne _ _ _ _ _ _ (by omega), wr_na _ _ _ _ _ _ (by decide)]
    have g01 : wr (wr m 0 1 0) 61 ((1 : Nat) : Int) (wr m 0 1 0 61 ((1 : Nat) : Int) + 1) 0 1 = 0 := by rw [wr_na _ _ _ _ _ _ (by decide), wr_eq]
    generalize wr (wr m 0 1 0) 61 ((1 : Nat) : Int) (wr m 0 1 0 61 ((1 : Nat) : Int) + 1) = z at fx g61 g61' g01 ⊢
    have hx : Ex (fun a j => a = 61 ∨ (a = 0 ∧ j = 1) ∨ (a = 62 ∧ j = 1) ∨ a = 64) m (wr (wr z 62 1 0) 64 1 (wr z 62 1 0 64 1 + 1)) := ((fx.mono (fun a j q => by omega)).put (Or.inr (Or.inr (Or.inl ⟨rfl, rfl⟩)))).put (Or.inr (Or.inr (Or.inr rfl)))
    have h64 : wr z 62 1 0 64 1 = m 64 1 := by rw [wr_na _ _ _ _ _ _ (by decide)]; exact fx 64 1 (by omega)
    refine ⟨ρ, nr, w, hi.mod hx (fun a j q => by unfold RelR; omega) ⟨?_, ?_, fun k hk => ?_⟩ (RefL.put (k := 1) hi.refs (by omega) ?_ ?_ (fun i h1 h2 => ⟨?_, ?_⟩)) (hi.flt.ex hx (fun a j q => by omega)) (hi.dayl.ex hx (fun a j q => by omega)) (hi.past.ex hx (fun a j q => by omega)) (hi.seedl.ex hx (fun a j q => by omega)) (hi.pic.ex hx (fun a j q => by omega)) (rws_ex hi.rws hx (fun a j q => by omega)), hCa m _ ρ (fun a j q => hx a j (by unfold CaC at q; omega)) hc⟩
    · rw [wr_na _ _ _ _ _ _ (by decide), wr_na _ _ _ _ _ _ (by decide), g01]; omega
    · rw [wr_na _ _ _ _ _ _ (by decide), wr_eq, wr_na _ _ _ _ _ _ (by decide), wr_na _ _ _ _ _ _ (by decide), g01]
    · rw [wr_na _ _ _ _ _ _ (by decide), wr_na _ _ _ _ _ _ (by decide), g01] at hk; omega
    · rw [wr_na _ _ _ _ _ _ (by decide), wr_na _ _ _ _ _ _ (by decide)]; exact g61
    · show wr _ 64 1 _ 64 1 = m 64 1 + 1
      rw [wr_eq, h64]
    · rw [wr_na _ _ _ _ _ _ (by decide), wr_na _ _ _ _ _ _ (by decide)]; exact g61' i h2
    · rw [wr_ne _ _ _ _ _ _ (by omega), wr_na _ _ _ _ _ _ (by decide)]; exact fx 64 i (by omega)
end PS
