/-! pair: feed -/
section PF
variable {sc : List Int} {Ca : Mem → Mem → Prop} {d : Nat} {m : Mem}
def C_tp (a j : Int) : Prop := a = 1 ∨ (a = 0 ∧ j = 1)
theorem s_append {v : Int} {T : Nat} (hT : m 0 1 = T) (h4 : T + 4 ≤ 1600) : P_X7_append sc d [aR 0, aI v] m (fun w z => w = none ∧ Ex C_tp m z ∧ z 0 1 = ((T + 4 : Nat) : Int) ∧ (∀ q : Int, q < T → z 1 q = m 1 q) ∧ ∀ j : Nat, j < 4 → z 1 (T + j) = a_and (a_shr v (24 - 8 * j)) 255) := by
  have l : ∀ (j i : Nat) (z : Mem), i + j = 4 → Ex C_tp m z → z 0 1 = ((T + i : Nat) : Int) → (∀ q : Int, q < T → z 1 q = m 1 q) → (∀ k : Nat, k < i → z 1 (T + k) = a_and (a_shr v (24 - 8 * k)) 255) → S_X7_append sc d 3 [aR 0, aI v, aI (24 - 8 * (i : Int))] [] z (fun w z => w = none ∧ Ex C_tp m z ∧ z 0 1 = ((T + 4 : Nat) : Int) ∧ (∀ q : Int, q < T → z 1 q = m 1 q) ∧ ∀ j : Nat, j < 4 → z 1 (T + j) = a_and (a_shr v (24 - 8 * j)) 255) := by
    intro j
    induction j with
    | zero =>
      intro i z hi he e1 e2 e3
      obtain rfl : i = 4 := by omega
      exact g_X7_append_3 ⟨by omega, fun _ => ⟨rfl, he, e1, e2, e3⟩, fun c => absurd (by omega) c⟩
    | succ j ih =>
      intro i z hi he e1 e2 e3
      have es : a_and (a_ushr v (24 - 8 * (i : Int))) 255 = a_and (a_shr v (24 - 8 * (i : Int))) 255 := by
        have := sh_eq v (24 - 8 * i) (by omega)
        rw [show ((24 - 8 * i : Nat) : Int) = 24 - 8 * (i : Int) by omega] at this
        exact this
      refine g_X7_append_3 ⟨by omega, fun c => absurd c (by omega), fun _ => ⟨by omega, fun c => absurd c (by omega), fun _ => ⟨by omega, by omega, ?_⟩⟩⟩
      rw [es, wr_na z 1 _ _ 0 1 (by decide), e1]
      have w2 := ih (i + 1) (wr (wr z 1 ((T + i : Nat) : Int) (a_and (a_shr v (24 - 8 * (i : Int))) 255)) 0 1 (((T + i : Nat) : Int) + 1)) (by omega) ((he.put (Or.inl rfl)).put (Or.inr ⟨rfl, rfl⟩)) (by rw [wr_eq]; omega) (fun q hq => by rw [wr_na _ _ _ _ _ _ (by decide), wr_ne _ _ _ _ _ _ (by omega)]; exact e2 q hq) (fun k hk => by
        rw [wr_na _ _ _ _ _ _ (by decide)]
        by_cases e : k = i
        · subst e; rw [show (T : Int) + (k : Int) = ((T + k : Nat) : Int) by omega, wr_eq]
        · rw [wr_ne _ _ _ _ _ _ (by omega)]; exact e3 k (by omega))
      rw [show 24 - 8 * ((i + 1 : Nat) : Int) = 24 - 8 * (i : Int) + (-8) by omega] at w2
      exact w2
  exact ep_X7_append (g_X7_append_0 (l 4 0 m (by omega) (Ex.refl _ _) (by rw [hT]; rfl) (fun q hq => rfl) (fun k hk => by omega)))
def byF (a0 a1 a2 a3 a4 k : Int) : Int := a_and (a_shr (if 4 ≤ k then (if 8 ≤ k then (if 12 ≤ k then (if 16 ≤ k then a4 else a3 : Int) else a2 : Int) else a1 : Int) else a0 : Int) (8 * (3 - (k.tmod 4)))) 255
theorem byF_eq (a0 a1 a2 a3 a4 : Int) (j : Nat) (hj : j < 4) : byF a0 a1 a2 a3 a4 j = a_and (a_shr a0 (24 - 8 * j)) 255 ∧ byF a0 a1 a2 a3 a4 (4 + j) = a_and (a_shr a1 (24 - 8 * j)) 255 ∧ byF a0 a1 a2 a3 a4 (8 + j) = a_and (a_shr a2 (24 - 8 * j)) 255 ∧ byF a0 a1 a2 a3 a4 (12 + j) = a_and (a_shr a3 (24 - 8 * j)) 255 ∧ byF a0 a1 a2 a3 a4 (16 + j) = a_and (a_shr a4 (24 - 8 * j)) 255 := by
  rcases (by omega : j = 0 ∨ j = 1 ∨ j = 2 ∨ j = 3) with rfl | rfl | rfl | rfl <;> exact ⟨rfl, rfl, rfl, rfl, rfl⟩
theorem pair_feed (hCa : CaFr Ca) (n : Nat) (m : Mem) (a0 a1 a2 a3 a4 : Int) (hn : n < 512) (hi : Inv Ca n m) (h0 : R32 a0) (h1 : R32 a1) (h2 : R32 a2) (h3 : R32 a3) (h4 : R32 a4) : PairI (Inv Ca) n m (P_X7_feed sc 1799 [aR 0, aI a0, aI a1, aI a2, aI a3, aI a4]) (P_X8_feed sc 1799 [aR 62, aI a0, aI a1, aI a2, aI a3, aI a4]) := by
  obtain ⟨ρ, nr, w, hi, hc⟩ := hi
  obtain ⟨t1, t2, t3⟩ := hi.tape
  obtain ⟨T, hT⟩ := Int.eq_ofNat_of_zero_le t1.1
  by_cases c : T + 20 ≤ 1600
  · refine ep_X7_feed (g_X7_feed_0 ⟨by omega, fun _ => ?_, fun q => absurd (by omega) q⟩)
    refine p_X7_feed_21 (d2 := 1798) (s_append hT (by omega)) (by decide) ?_
    rintro z0 ⟨-, x0, s0, o0, b0⟩
    refine g_X7_feed_24 ?_
    refine p_X7_feed_26 (d2 := 1798) (s_append s0 (by omega)) (by decide) ?_
    rintro z1 ⟨-, x1, s1, o1, b1⟩
    refine g_X7_feed_29 ?_
    refine p_X7_feed_31 (d2 := 1798) (s_append s1 (by omega)) (by decide) ?_
    rintro z2 ⟨-, x2, s2, o2, b2⟩
    refine g_X7_feed_34 ?_
    refine p_X7_feed_37 (d2 := 1798) (s_append s2 (by omega)) (by decide) ?_
    rintro z3 ⟨-, x3, s3, o3, b3⟩
    refine g_X7_feed_40 ?_
    refine p_X7_feed_43 (d2 := 1798) (s_append s3 (by omega)) (by decide) ?_
    rintro z4 ⟨-, x4, s4, o4, b4⟩
    refine g_X7_feed_46 ?_
    have zx : Ex C_tp m z4 := (((x0.trans x1).trans x2).trans x3).trans x4
    have zk : ∀ k : Nat, k < 20 → z4 1 (T + k) = byF a0 a1 a2 a3 a4 k := by
      intro k hk
      rcases (by omega : k < 4 ∨ (4 ≤ k ∧ k < 8) ∨ (8 ≤ k ∧ k < 12) ∨ (12 ≤ k ∧ k < 16) ∨ (16 ≤ k ∧ k < 20)) with q | q | q | q | q
      · rw [o4 _ (by omega), o3 _ (by omega), o2 _ (by omega), o1 _ (by omega), b0 k q, (byF_eq a0 a1 a2 a3 a4 k q).1]
      · obtain ⟨j, rfl⟩ : ∃ j, k = 4 + j := ⟨k - 4, by omega⟩
        rw [o4 _ (by omega), o3 _ (by omega), o2 _ (by omega), show (T : Int) + ((4 + j : Nat) : Int) = ((T + 4 : Nat) : Int) + (j : Int) by omega, b1 j (by omega), show ((4 + j : Nat) : Int) = 4 + (j : Int) by omega, (byF_eq a0 a1 a2 a3 a4 j (by omega)).2.1]
      · obtain ⟨j, rfl⟩ : ∃ j, k = 8 + j := ⟨k - 8, by omega⟩
        rw [o4 _ (by omega), o3 _ (by omega), show (T : Int) + ((8 + j : Nat) : Int) = ((T + 4 + 4 : Nat) : Int) + (j : Int) by omega, b2 j (by omega), show ((8 + j : Nat) : Int) = 8 + (j : Int) by omega, (byF_eq a0 a1 a2 a3 a4 j (by omega)).2.2.1]
      · obtain ⟨j, rfl⟩ : ∃ j, k = 12 + j := ⟨k - 12, by omega⟩
        rw [o4 _ (by omega), show (T : Int) + ((12 + j : Nat) : Int) = ((T + 4 + 4 + 4 : Nat) : Int) + (j : Int) by omega, b3 j (by omega), show ((12 + j : Nat) : Int) = 12 + (j : Int) by omega, (byF_eq a0 a1 a2 a3 a4 j (by omega)).2.2.2.1]
      · obtain ⟨j, rfl⟩ : ∃ j, k = 16 + j := ⟨k - 16, by omega⟩
        rw [show (T : Int) + ((16 + j : Nat) : Int) = ((T + 4 + 4 + 4 + 4 : Nat) : Int) + (j : Int) by omega, b4 j (by omega), show ((16 + j : Nat) : Int) = 16 + (j : Int) by omega, (byF_eq a0 a1 a2 a3 a4 j (by omega)).2.2.2.2]
    have zo : ∀ q : Int, q < T → z4 1 q = m 1 q := fun q hq => by rw [o4 q (by omega), o3 q (by omega), o2 q (by omega), o1 q (by omega), o0 q hq]
    have s20 : z4 0 1 = ((T + 20 : Nat) : Int) := by rw [s4]
    rw [s20]
    refine ⟨_, rfl, by unfold R32; omega, ?_⟩
    clear x0 x1 x2 x3 x4 b0 b1 b2 b3 b4 o0 o1 o2 o3 o4 s0 s1 s2 s3 s4
    have zm : ∀ a j, 2 ≤ a → z4 a j = m a j := fun a j q => zx a j (by unfold C_tp; omega)
    have zN : z4 62 1 = (T : Int) := by rw [zm 62 1 (by decide), t2, hT]
    refine ep_X8_feed (g_X8_feed_0 ⟨by omega, fun _ => ?_, fun q => absurd (by omega) q⟩)
    have l : ∀ (j i : Nat) (y : Mem), i + j = 20 → Ex (fun a j => a = 63 ∨ (a = 62 ∧ j = 1)) z4 y → y 62 1 = ((T + i : Nat) : Int) → (∀ q : Int, q < T → y 63 q = z4 63 q) → (∀ k : Nat, k < i → y 63 (T + k) = byF a0 a1 a2 a3 a4 k) → S_X8_feed sc 1799 28 [aR 62, aI a0, aI a1, aI a2, aI a3, aI a4, aI i, aU] [] y (fun v2 z2 => v2 = some (aI ((T + 20 : Nat) : Int)) ∧ Inv Ca (n + 1) z2) := by
      intro j
      induction j with
      | zero =>
        intro i y hi2 he e1 e2 e3
        obtain rfl : i = 20 := by omega
        refine g_X8_feed_28 ⟨by omega, fun _ => ⟨by rw [e1], ?_⟩, fun c => absurd (by omega) c⟩
        have hx : Ex (fun a j => a = 1 ∨ (a = 0 ∧ j = 1) ∨ a = 63 ∨ (a = 62 ∧ j = 1)) m y := (zx.mono (fun a j q => by unfold C_tp at q; omega)).trans (he.mono (fun a j q => by omega))
        have y01 : y 0 1 = ((T + 20 : Nat) : Int) := by rw [he 0 1 (by omega)]; exact s20
        have y1 : ∀ q, y 1 q = z4 1 q := fun q => he 1 q (by omega)
        refine ⟨ρ, nr, w, hi.mod hx (fun a j q => by unfold RelR; omega) ⟨by rw [y01]; omega, by rw [e1, y01], fun i hi2 => ?_⟩ (hi.refs.up.ex hx (fun a j q => by omega)) (hi.flt.ex hx (fun a j q => by omega)) (hi.dayl.ex hx (fun a j q => by omega)) (hi.past.ex hx (fun a j q => by omega)) (hi.seedl.ex hx (fun a j q => by omega)) (hi.pic.ex hx (fun a j q => by omega)) (rws_ex hi.rws hx (fun a j q => by omega)), hCa m _ ρ (fun a j q => hx a j (by unfold CaC at q; omega)) hc⟩
        rw [y01] at hi2
        rw [y1]
        by_cases q : i < T
        · rw [e2 i (by omega), zm 63 _ (by decide), zo i (by omega)]
          exact t3 i (by omega)
        · obtain ⟨k, rfl⟩ : ∃ k, i = T + k := ⟨i - T, by omega⟩
          rw [show ((T + k : Nat) : Int) = (T : Int) + (k : Int) by omega, e3 k (by omega), zk k (by omega)]
          exact ⟨rfl, and255 _⟩
      | succ j ih =>
        intro i y hi2 he e1 e2 e3
        refine g_X8_feed_28 ⟨by omega, fun c => absurd c (by omega), fun _ => ⟨by omega, by omega, ?_⟩⟩
        rw [wr_na y 63 _ _ 62 1 (by decide), e1]
        refine ih (i + 1) _ (by omega) ((he.put (Or.inl rfl)).put (Or.inr ⟨rfl, rfl⟩)) (by rw [wr_eq]; omega) (fun q hq => by rw [wr_na _ _ _ _ _ _ (by decide), wr_ne _ _ _ _ _ _ (by omega)]; exact e2 q hq) (fun k hk => ?_)
        rw [wr_na _ _ _ _ _ _ (by decide)]
        by_cases e : k = i
        · subst e; rw [show (T : Int) + (k : Int) = ((T + k : Nat) : Int) by omega, wr_eq]; rfl
        · rw [wr_ne _ _ _ _ _ _ (by omega)]; exact e3 k (by omega)
    exact l 20 0 z4 (by omega) (Ex.refl _ _) (by rw [zN]; rfl) (fun q hq => rfl) (fun k hk => by omega)
  · refine ep_X7_feed (g_X7_feed_0 ⟨by omega, fun q => absurd q (by omega), fun _ => ?_⟩)
    refine p_X7_feed_15 (d2 := 1798) (s_refuse (k := 0) (by omega)) (by decide) ?_
    rintro v z ⟨e, rfl⟩; cases e
    refine g_X7_feed_18 ⟨_, rfl, by unfold R32; omega, ?_⟩
    have hf := Inv.refuse hCa hi hc 0 (by omega)
    have e62 : wr m 61 ((0 : Nat) : Int) (m 61 ((0 : Nat) : Int) + 1) 62 1 = (T : Int) := by rw [wr_na _ _ _ _ _ _ (by decide), t2, hT]
    exact ep_X8_feed (g_X8_feed_0 ⟨by omega, fun q => absurd q (by omega), fun _ => ⟨rfl, hf⟩⟩)
end PF
