/-! pair: glance -/
section PG
variable {sc : List Int} {Ca : Mem → Mem → Prop} {d : Nat} {m : Mem}
def capF (c l : Int) : Int := if c + l < 9999 then c + l else 9999
theorem s_pay {l : Int} (hd : 1 ≤ d) (h : R32 (m 57 5 + l)) : P_X2_pay sc d [aR 57, aI l] m (fun v z => v = none ∧ z = wr m 57 5 (capF (m 57 5) l)) := by
  refine ep_X2_pay (g_X2_pay_0 ?_)
  refine p_X2_pay_10 (d2 := d - 1) (s_min ⟨by omega, by omega⟩ h) (by omega) ?_
  rintro _ z ⟨e, rfl⟩; cases e
  exact g_X2_pay_13 ⟨rfl, rfl⟩
theorem s_costs {l : Int} (h : R32 (m 124 5 + l)) : P_X8_costs sc d [aR 62, aI l] m (fun v z => v = none ∧ z = wr (wr m 62 86 (m 62 86 + l)) 124 5 (capF (m 124 5) l)) := by
  have e : wr m 62 86 (m 62 86 + l) 124 5 = m 124 5 := wr_na _ _ _ _ _ _ (by decide)
  refine ep_X8_costs (g_X8_costs_0 ⟨by rw [e]; exact h, rfl, ?_⟩)
  rw [e]
  congr 1
  unfold capF
  split <;> split <;> omega
theorem s_wouldLast {ρ : Mem} {s : Nat} (h : MRm m ρ) (hb : RmB ρ) (hd : 1 ≤ d) (e0 : m 124 0 = s) (hs : (s : Int) < ρ 0 1) (h1 : 0 ≤ m 124 1 ∧ m 124 1 ≤ 99) (h2 : 0 ≤ m 124 2 ∧ m 124 2 ≤ 99) : P_X8_wouldLast sc d [aR 62] m (PV (aI (if m 124 2 < m 124 1 + ρ 3 s then 0 else 1)) m) := by
  have t := (hb.2.2.2.1 s hs).1
  refine ep_X8_wouldLast (g_X8_wouldLast_0 ?_)
  rw [e0]
  refine p_X8_wouldLast_13 (d2 := d - 1) (s_takesOf h hb hs) (by omega) ?_
  rintro _ z ⟨e, rfl⟩; cases e
  exact g_X8_wouldLast_16 ⟨by omega, by omega, rfl, rfl⟩
theorem s_refuses : P_X8_refuses sc d [aR 62] m (PV (aI (-1)) (wr m 64 2 (m 64 2 + 1))) := ep_X8_refuses (g_X8_refuses_0 ⟨rfl, rfl⟩)
theorem pair_glance (hCa : CaFr Ca) (n : Nat) (m : Mem) (hn : n < 512) (hi : Inv Ca n m) : PairI (Inv Ca) n m (P_X7_glance sc 1799 [aR 0]) (P_X8_glance sc 1799 [aR 62]) := by
  obtain ⟨ρ, nr, w, hi, hc⟩ := hi
  have hb := hi.2.1
  have b0 := hb.1
  have hx := hi.2.2.1
  have hm := hi.mrm
  have hr := room_bd hi.1.1
  have e8 := hx.1.2.1
  have hD := hi.dayl
  have hP := hi.past
  obtain ⟨k0, k1, k2, k5⟩ : m 124 0 = m 57 0 ∧ m 124 1 = m 57 1 ∧ m 124 2 = m 57 2 ∧ m 124 5 = m 57 5 := ⟨hD.1 0 (by omega), hD.1 1 (by omega), hD.1 2 (by omega), hD.1 5 (by omega)⟩
  obtain ⟨y0, y1, y3, y4, y5⟩ := hD.2
  have lk : m (m 0 2 + 13) 2 = ρ 7 2 := hx.2.2.2.2 2 (by omega)
  have lb : 0 ≤ ρ 7 2 ∧ ρ 7 2 ≤ 99 := hb.2.2.2.2.1 2 (by omega)
  have left : P_X8_isLeft sc 1798 [aR 62] m (PV (aI (if ρ 0 1 ≤ m 124 0 then 0 else 1)) m) := s_isLeft hm hb (by decide) (by rw [k0]; unfold R32; omega)
  obtain ⟨s, hs⟩ := Int.eq_ofNat_of_zero_le y0.1
  by_cases c : m 57 0 < ρ 0 1
  · refine ep_X7_glance (g_X7_glance_0 ⟨hi.1.1, by omega, by omega, fun _ => ?_, fun q => absurd (by omega) q⟩)
    refine p_X7_glance_27 (d2 := 1798) (s_keep (by decide) hP.1) (by decide) ?_
    rintro z1 ⟨-, hk⟩
    have z0 : ∀ a j, a ≠ 58 → ¬ (a = 57 ∧ j = 8) → z1 a j = m a j := fun a j q1 q2 => hk.1 a j (fun q => q.elim q1 q2)
    have z02 : z1 0 2 = m 0 2 := z0 0 2 (by decide) (by omega)
    refine g_X7_glance_30 ⟨by rw [z02]; exact hi.1.1, ?_⟩
    rw [z02, z0 _ 2 (by omega) (by omega), lk]
    have z5 : z1 57 5 = m 57 5 := z0 57 5 (by decide) (by omega)
    refine p_X7_glance_43 (d2 := 1798) (s_pay (by decide) (by rw [z5]; unfold R32; omega)) (by decide) ?_
    rintro z2 ⟨-, rfl⟩
    have v02 : wr z1 57 5 (capF (z1 57 5) (ρ 7 2)) 0 2 = m 0 2 := by rw [wr_na _ _ _ _ _ _ (by decide)]; exact z02
    have v0 : wr z1 57 5 (capF (z1 57 5) (ρ 7 2)) 57 0 = s := by rw [wr_ne _ _ _ _ _ _ (by omega), z0 57 0 (by decide) (by omega)]; exact hs
    have v1 : wr z1 57 5 (capF (z1 57 5) (ρ 7 2)) 57 1 = m 57 1 := by rw [wr_ne _ _ _ _ _ _ (by omega), z0 57 1 (by decide) (by omega)]
    have v2 : wr z1 57 5 (capF (z1 57 5) (ρ 7 2)) 57 2 = m 57 2 := by rw [wr_ne _ _ _ _ _ _ (by omega), z0 57 2 (by decide) (by omega)]
    have v3 : wr z1 57 5 (capF (z1 57 5) (ρ 7 2)) (m 0 2 + 3) s = ρ 3 s := by rw [wr_na _ _ _ _ _ _ (by omega), z0 _ _ (by omega) (by omega)]; exact (hx.2.2.1 s (by omega)).1
    have ts := (hb.2.2.2.1 s (by omega)).1
    have hrs : R32 (if m 57 2 < m 57 1 + ρ 3 s then 0 else 1) := by unfold R32; split <;> omega
    have zx : Ex (fun a j => a = 57 ∧ j = 5) z1 (wr z1 57 5 (capF (z1 57 5) (ρ 7 2))) := (Ex.refl _ _).put ⟨rfl, rfl⟩
    have zm : ∀ a j, 59 ≤ a → wr z1 57 5 (capF (z1 57 5) (ρ 7 2)) a j = m a j := fun a j q => by rw [wr_na _ _ _ _ _ _ (by omega)]; exact z0 a j (by omega) (by omega)
    refine g_X7_glance_46 ?_
    rw [v02, v0, v1, v2, v3]
    refine ⟨hi.1.1, by omega, by omega, by omega, by omega, _, rfl, hrs, ?_⟩
    generalize hz2 : wr z1 57 5 (capF (z1 57 5) (ρ 7 2)) = z2 at v02 v0 v1 v2 v3 zx zm ⊢
    have hm2 : MRm z2 ρ := hm.ex (C := fun a j => a < 59) (fun a j q => zm a j (by omega)) (fun a j q c => by omega)
    have z124 : ∀ j, z2 124 j = m 124 j := fun j => zm 124 j (by decide)
    refine ep_X8_glance (g_X8_glance_0 ?_)
    refine p_X8_glance_1 (d2 := 1798) (s_isLeft hm2 hb (by decide) (by rw [z124, k0]; unfold R32; omega)) (by decide) ?_
    rintro _ z ⟨e, rfl⟩; cases e
    rw [if_neg (by rw [z124, k0]; omega)]
    refine g_X8_glance_4 ⟨by omega, fun _ => ?_, fun q => absurd (by decide) q⟩
    have p83 : z 62 83 = m 62 83 := zm 62 83 (by decide)
    have p84 : z 62 84 = m 62 84 := zm 62 84 (by decide)
    refine p_X8_glance_13 (d2 := 1798) (s_keeps (by rw [p83, hP.2.1]; exact hP.1) (by rw [p84]; exact hP.2.2.1)) (by decide) ?_
    rintro z3 ⟨-, hk3⟩
    have q3 : ∀ a j, a ≠ 125 → ¬ (a = 62 ∧ (j = 83 ∨ j = 84)) → z3 a j = z a j := fun a j q1 q2 => hk3.1 a j (fun q => q.elim q1 q2)
    have hm3 : MRm z3 ρ := hm2.ex hk3.1 (fun a j q c => by unfold C_km at c; omega)
    have z3124 : ∀ j, z3 124 j = m 124 j := fun j => (q3 124 j (by decide) (by omega)).trans (z124 j)
    refine g_X8_glance_16 ?_
    refine p_X8_glance_19 (d2 := 1798) (s_settingOf (i := 2) hm3 (by omega)) (by decide) ?_
    rintro _ z3 ⟨e, rfl⟩; cases e
    refine p_X8_glance_22 (d2 := 1798) (s_costs (l := ρ 7 2) (by rw [z3124, k5]; unfold R32; omega)) (by decide) ?_
    rintro z4 ⟨-, rfl⟩
    have he4 : Ex (fun a j => (a = 62 ∧ j = 86) ∨ (a = 124 ∧ j = 5)) z3 (wr (wr z3 62 86 (z3 62 86 + ρ 7 2)) 124 5 (capF (z3 124 5) (ρ 7 2))) := ((Ex.refl _ _).put (Or.inl ⟨rfl, rfl⟩)).put (Or.inr ⟨rfl, rfl⟩)
    have d5 : wr (wr z3 62 86 (z3 62 86 + ρ 7 2)) 124 5 (capF (z3 124 5) (ρ 7 2)) 124 5 = capF (z3 124 5) (ρ 7 2) := wr_eq _ _ _ _
    generalize hz4 : wr (wr z3 62 86 (z3 62 86 + ρ 7 2)) 124 5 (capF (z3 124 5) (ρ 7 2)) = z4 at he4 d5 ⊢
    have d0 : ∀ j, j ≠ 5 → z4 124 j = m 124 j := fun j q => (he4 124 j (by omega)).trans (z3124 j)
    refine g_X8_glance_25 ?_
    refine p_X8_glance_26 (d2 := 1798) (s_wouldLast (s := s) (hm3.ex he4 (fun a j q c => by omega)) hb (by decide) (by rw [d0 0 (by decide), k0]; exact hs) (by omega) (by rw [d0 1 (by decide), k1]; omega) (by rw [d0 2 (by decide), k2]; omega)) (by decide) ?_
    rintro _ z4 ⟨e, rfl⟩; cases e
    refine g_X8_glance_29 ⟨by split <;> omega, ?_, ?_⟩
    · rw [d0 1 (by decide), d0 2 (by decide), k1, k2]
      split <;> rfl
    · -- what holds then
      have all : Ex (fun a j => (a = 57 ∧ (j = 5 ∨ j = 8)) ∨ a = 58 ∨ a = 125 ∨ (a = 62 ∧ (j = 83 ∨ j = 84 ∨ j = 86)) ∨ (a = 124 ∧ j = 5)) m z4 := by
        refine Ex.trans (z := z3) ?_ (he4.mono (fun a j q => by omega))
        refine Ex.trans (z := z) ?_ (hk3.1.mono (fun a j q => by unfold C_km at q; omega))
        refine Ex.trans (z := z1) (hk.1.mono (fun a j q => by unfold C_kx at q; omega)) (zx.mono (fun a j q => by omega))
      have f5 : z4 57 5 = capF (m 57 5) (ρ 7 2) := by
        rw [he4 57 5 (by omega), q3 57 5 (by decide) (by omega), ← hz2, wr_eq, z5]
      have f5' : z4 124 5 = capF (m 57 5) (ρ 7 2) := by rw [d5, z3124, k5]
      have cb : 0 ≤ capF (m 57 5) (ρ 7 2) ∧ capF (m 57 5) (ρ 7 2) ≤ 9999 := by unfold capF; split <;> omega
      have g57 : ∀ j, j ≠ 5 → j ≠ 8 → z4 57 j = m 57 j := fun j q1 q2 => all 57 j (by omega)
      refine ⟨ρ, nr, w, hi.mod all (fun a j q => by unfold RelR; omega) (hi.tape.ex all (fun a j q => by omega)) (hi.refs.up.ex all (fun a j q => by omega)) (hi.flt.ex all (fun a j q => by omega)) ⟨fun k hk => ?_, ?_⟩ ?_ (hi.seedl.ex all (fun a j q => by omega)) (hi.pic.ex all (fun a j q => by omega)) (rws_ex hi.rws all (fun a j q => by omega)), hCa m _ ρ (fun a j q => all a j (by unfold CaC at q; omega)) hc⟩
      · by_cases e : k = 5
        · subst e; show z4 124 5 = z4 57 5; rw [f5, f5']
        · rw [d0 k (by omega), g57 k (by omega) (by omega)]; exact hD.1 k hk
      · unfold DayB
        rw [g57 0 (by decide) (by decide), g57 1 (by decide) (by decide), g57 2 (by decide) (by decide), g57 3 (by decide) (by decide), g57 4 (by decide) (by decide), f5]
        exact ⟨y0, y1, y3, y4, cb⟩
      · exact (past_kept hP hD hk zx (fun a j q => by omega) hk3).ex he4 (fun a j q => by omega)
  · refine ep_X7_glance (g_X7_glance_0 ⟨hi.1.1, by omega, by omega, fun q => absurd q (by omega), fun _ => ?_⟩)
    refine p_X7_glance_19 (d2 := 1798) (s_refuse (k := 2) (by omega)) (by decide) ?_
    rintro _ z ⟨e, rfl⟩; cases e
    refine g_X7_glance_22 ⟨_, rfl, by unfold R32; omega, ?_⟩
    have hz : ∀ a j, a ≠ 61 → wr m 61 ((2 : Nat) : Int) (m 61 ((2 : Nat) : Int) + 1) a j = m a j := fun a j q => wr_na _ _ _ _ _ _ q
    have hf := Inv.refuse hCa hi hc 2 (by omega)
    have hm2 : MRm (wr m 61 ((2 : Nat) : Int) (m 61 ((2 : Nat) : Int) + 1)) ρ := hm.ex (C := fun a j => a = 61) (fun a j q => hz a j q) (fun a j q c => by omega)
    refine ep_X8_glance (g_X8_glance_0 ?_)
    refine p_X8_glance_1 (d2 := 1798) (s_isLeft hm2 hb (by decide) (by rw [hz 124 0 (by decide), k0]; unfold R32; omega)) (by decide) ?_
    rintro _ z ⟨e, rfl⟩; cases e
    rw [if_pos (by rw [hz 124 0 (by decide), k0]; omega)]
    refine g_X8_glance_4 ⟨by omega, fun q => absurd rfl q, fun _ => ?_⟩
    refine p_X8_glance_8 (d2 := 1798) s_refuses (by decide) ?_
    rintro _ z ⟨e, rfl⟩; cases e
    exact g_X8_glance_11 ⟨rfl, hf⟩
end PG
