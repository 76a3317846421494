/-! pair: anew -/
section PN
variable {sc : List Int} {Ca : Mem → Mem → Prop} {d : Nat} {m : Mem}
def rsW (m : Mem) (l : Int) : Mem := wr (wr (wr (wr (wr (wr m 57 0 0) 57 1 0) 57 2 l) 57 3 0) 57 4 0) 57 5 0
theorem s_restart {l : Int} : P_X2_restart sc d [aR 57, aI l] m (fun v z => v = none ∧ z = rsW m l) := ep_X2_restart (g_X2_restart_0 ⟨rfl, rfl⟩)
theorem rsW_ex (l : Int) : Ex (fun a j => a = 57 ∧ 0 ≤ j ∧ j ≤ 5) m (rsW m l) := by
  unfold rsW
  exact ((((((Ex.refl _ _).put ⟨rfl, by omega⟩).put ⟨rfl, by omega⟩).put ⟨rfl, by omega⟩).put ⟨rfl, by omega⟩).put ⟨rfl, by omega⟩).put ⟨rfl, by omega⟩
theorem rsW_2 (l : Int) : rsW m l 57 2 = l := by
  unfold rsW
  rw [wr_ne _ _ _ _ _ _ (by omega), wr_ne _ _ _ _ _ _ (by omega), wr_ne _ _ _ _ _ _ (by omega), wr_eq]
theorem rsW_k (l : Int) (k : Nat) (hk : k < 6) (h2 : k ≠ 2) : rsW m l 57 k = 0 := by
  unfold rsW
  rcases (by omega : k = 0 ∨ k = 1 ∨ k = 3 ∨ k = 4 ∨ k = 5) with rfl | rfl | rfl | rfl | rfl
  · rw [wr_ne _ _ _ _ _ _ (by omega), wr_ne _ _ _ _ _ _ (by omega), wr_ne _ _ _ _ _ _ (by omega), wr_ne _ _ _ _ _ _ (by omega), wr_ne _ _ _ _ _ _ (by omega)]; exact wr_eq _ _ _ _
  · rw [wr_ne _ _ _ _ _ _ (by omega), wr_ne _ _ _ _ _ _ (by omega), wr_ne _ _ _ _ _ _ (by omega), wr_ne _ _ _ _ _ _ (by omega)]; exact wr_eq _ _ _ _
  · rw [wr_ne _ _ _ _ _ _ (by omega), wr_ne _ _ _ _ _ _ (by omega)]; exact wr_eq _ _ _ _
  · rw [wr_ne _ _ _ _ _ _ (by omega)]; exact wr_eq _ _ _ _
  · exact wr_eq _ _ _ _
theorem pair_anew (hCa : CaFr Ca) (n : Nat) (m : Mem) (hn : n < 512) (hi : Inv Ca n m) : PairI (Inv Ca) n m (P_X7_anew sc 1799 [aR 0]) (P_X8_anew sc 1799 [aR 62]) := by
  obtain ⟨ρ, nr, w, hi, hc⟩ := hi
  have hb := hi.2.1
  have b0 := hb.1
  have hx := hi.2.2.1
  have hm := hi.mrm
  have hr := room_bd hi.1.1
  have e15 := hx.1.2.2.2
  have eR := hm.1.2.2.2
  have hD := hi.dayl
  have hP := hi.past
  have hS := hi.seedl
  by_cases c : ρ 0 3 = 0
  · rw [if_pos c] at eR
    refine ep_X7_anew (g_X7_anew_0 ⟨hi.1.1, by omega, fun q => absurd (by omega) q, fun _ => ?_⟩)
    refine p_X7_anew_12 (d2 := 1798) (s_refuse (k := 2) (by omega)) (by decide) ?_
    rintro _ z ⟨e, rfl⟩; cases e
    refine g_X7_anew_15 ⟨_, rfl, by unfold R32; omega, ?_⟩
    have hf := Inv.refuse hCa hi hc 2 (by omega)
    have e53 : wr m 61 ((2 : Nat) : Int) (m 61 ((2 : Nat) : Int) + 1) 62 53 = 0 := by rw [wr_na _ _ _ _ _ _ (by decide)]; exact eR
    refine ep_X8_anew (g_X8_anew_0 ⟨by omega, fun q => absurd e53 q, fun _ => ?_⟩)
    refine p_X8_anew_8 (d2 := 1798) s_refuses (by decide) ?_
    rintro _ z ⟨e, rfl⟩; cases e
    exact g_X8_anew_11 ⟨rfl, hf⟩
  · rw [if_neg c] at eR
    refine ep_X7_anew (g_X7_anew_0 ⟨hi.1.1, by omega, fun _ => ?_, fun q => absurd (by omega) q⟩)
    refine p_X7_anew_20 (d2 := 1798) (s_keep (by decide) hP.1) (by decide) ?_
    rintro z1 ⟨-, hk⟩
    have z0 : ∀ a j, a ≠ 58 → ¬ (a = 57 ∧ j = 8) → z1 a j = m a j := fun a j q1 q2 => hk.1 a j (fun q => q.elim q1 q2)
    have z02 : z1 0 2 = m 0 2 := z0 0 2 (by decide) (by omega)
    have z6 : z1 57 6 = m 57 6 := z0 57 6 (by decide) (by omega)
    refine g_X7_anew_23 ?_
    rw [z02]
    refine p_X7_anew_35 (d2 := 1798) hi.1.1 (s_draw hi.1.1 (hx.ex hk.1 (fun a j q1 q2 => by unfold C_kx; omega)) hb c (by decide) (by rw [z6]; exact hS.2)) (by decide) ?_
    rintro x z2 ⟨rfl, x1, e, hl⟩; cases e
    rw [z6] at hl
    have xb := hl.bd hb
    refine p_X7_anew_38 (d2 := 1798) s_restart (by decide) ?_
    rintro z3 ⟨-, rfl⟩
    have r2 := rsW_2 (m := wr z1 57 6 (sdF (z1 57 6))) x
    have rk := rsW_k (m := wr z1 57 6 (sdF (z1 57 6))) x
    have rx := rsW_ex (m := wr z1 57 6 (sdF (z1 57 6))) x
    have r6 : rsW (wr z1 57 6 (sdF (z1 57 6))) x 57 6 = sdF (m 57 6) := by rw [rx 57 6 (by omega), wr_eq, z6]
    have zx : Ex (fun a j => a = 57 ∧ 0 ≤ j ∧ j ≤ 6) z1 (rsW (wr z1 57 6 (sdF (z1 57 6))) x) := Ex.trans ((Ex.refl _ _).put ⟨rfl, by omega⟩) (rx.mono (fun a j q => by omega))
    refine g_X7_anew_41 ?_
    rw [r2]
    refine ⟨_, rfl, by unfold R32; omega, ?_⟩
    generalize rsW (wr z1 57 6 (sdF (z1 57 6))) x = z at r2 rk r6 zx ⊢
    clear rx
    have zm : ∀ a j, 59 ≤ a → z a j = m a j := fun a j q => (zx a j (by omega)).trans (z0 a j (by omega) (by omega))
    have hm2 : MRm z ρ := hm.ex (C := fun a j => a < 59) (fun a j q => zm a j (by omega)) (fun a j q c => by omega)
    have p83 : z 62 83 = m 62 83 := zm 62 83 (by decide)
    have p84 : z 62 84 = m 62 84 := zm 62 84 (by decide)
    refine ep_X8_anew (g_X8_anew_0 ⟨by rw [zm 62 53 (by decide)]; omega, fun _ => ?_, fun q => absurd (by rw [zm 62 53 (by decide)]; omega) q⟩)
    refine p_X8_anew_13 (d2 := 1798) (s_keeps (by rw [p83, hP.2.1]; exact hP.1) (by rw [p84]; exact hP.2.2.1)) (by decide) ?_
    rintro z4 ⟨-, hk4⟩
    have hm4 : MRm z4 ρ := hm2.ex hk4.1 (fun a j q c => by unfold C_km at c; omega)
    have q4 : ∀ a j, a ≠ 125 → ¬ (a = 62 ∧ (j = 83 ∨ j = 84)) → z4 a j = z a j := fun a j q1 q2 => hk4.1 a j (fun q => q.elim q1 q2)
    refine g_X8_anew_16 ?_
    have l : ∀ (j i : Nat) (y : Mem), i + j = 6 → Ex (fun a j => a = 124) z4 y → (∀ k : Nat, k < i → y 124 k = 0) → S_X8_anew sc 1799 18 [aR 62, aI i] [] y (fun v2 z2 => v2 = some (aI x) ∧ Inv Ca (n + 1) z2) := by
      intro j
      induction j with
      | zero =>
        intro i y hi6 he e5
        obtain rfl : i = 6 := by omega
        refine g_X8_anew_18 ⟨by omega, fun _ => ?_, fun c => absurd (by omega) c⟩
        have y85 : y 62 85 = m 57 6 := by rw [he 62 85 (by omega), q4 62 85 (by decide) (by omega), zm 62 85 (by decide)]; exact hS.1
        refine p_X8_anew_38 (d2 := 1798) (s_isFresh (hm4.ex he (fun a j q c => by omega)) hb c (by decide) (by rw [y85]; exact hS.2)) (by decide) ?_
        rintro y2 ⟨-, x', hl', rfl⟩
        rw [y85] at hl'
        obtain rfl : x = x' := hl.eq hb hl'
        have f2 : wr (wr (wr y 62 85 (sdF (y 62 85))) 124 1 0) 124 2 x 124 2 = x := wr_eq _ _ _ _
        have f85 : wr (wr (wr y 62 85 (sdF (y 62 85))) 124 1 0) 124 2 x 62 85 = sdF (m 57 6) := by rw [wr_na _ _ _ _ _ _ (by decide), wr_na _ _ _ _ _ _ (by decide), wr_eq, y85]
        have fk : ∀ k : Nat, k < 6 → k ≠ 2 → wr (wr (wr y 62 85 (sdF (y 62 85))) 124 1 0) 124 2 x 124 k = 0 := fun k hk h2 => by
          rw [wr_ne _ _ _ _ _ _ (by omega)]
          by_cases e : k = 1
          · subst e; exact wr_eq _ _ _ _
          · rw [wr_ne _ _ _ _ _ _ (by omega), wr_na _ _ _ _ _ _ (by decide)]; exact e5 k hk
        have fx : Ex (fun a j => a = 124 ∨ (a = 62 ∧ j = 85)) z4 (wr (wr (wr y 62 85 (sdF (y 62 85))) 124 1 0) 124 2 x) := (((he.mono (fun a j q => Or.inl q)).put (Or.inr ⟨rfl, rfl⟩)).put (Or.inl rfl)).put (Or.inl rfl)
        generalize wr (wr (wr y 62 85 (sdF (y 62 85))) 124 1 0) 124 2 x = t at f2 f85 fk fx ⊢
        refine g_X8_anew_41 ⟨by rw [f2], ?_⟩
        have all : Ex (fun a j => (a = 57 ∧ 0 ≤ j ∧ j ≤ 8) ∨ a = 58 ∨ a = 125 ∨ (a = 62 ∧ (j = 83 ∨ j = 84 ∨ j = 85)) ∨ a = 124) m t := by
          refine Ex.trans (z := z4) ?_ (fx.mono (fun a j q => by omega))
          refine Ex.trans (z := z) ?_ (hk4.1.mono (fun a j q => by unfold C_km at q; omega))
          exact Ex.trans (z := z1) (hk.1.mono (fun a j q => by unfold C_kx at q; omega)) (zx.mono (fun a j q => by omega))
        have t57 : ∀ j, t 57 j = z 57 j := fun j => (fx 57 j (by omega)).trans (q4 57 j (by decide) (by omega))
        refine ⟨ρ, nr, w, hi.mod all (fun a j q => by unfold RelR; omega) (hi.tape.ex all (fun a j q => by omega)) (hi.refs.up.ex all (fun a j q => by omega)) (hi.flt.ex all (fun a j q => by omega)) ⟨fun k hk => ?_, ?_⟩ ((past_kept hP hD hk zx (fun a j q => by omega) hk4).ex fx (fun a j q => by omega)) ?_ (hi.pic.ex all (fun a j q => by omega)) (rws_ex hi.rws all (fun a j q => by omega)), hCa m _ ρ (fun a j q => all a j (by unfold CaC at q; omega)) hc⟩
        · rw [t57]
          by_cases e : k = 2
          · subst e; show t 124 2 = z 57 2; rw [f2, r2]
          · rw [fk k hk e, rk k hk e]
        · unfold DayB
          have r0 : t 57 0 = 0 := (t57 0).trans (rk 0 (by omega) (by omega))
          have r1 : t 57 1 = 0 := (t57 1).trans (rk 1 (by omega) (by omega))
          have r3 : t 57 3 = 0 := (t57 3).trans (rk 3 (by omega) (by omega))
          have r4 : t 57 4 = 0 := (t57 4).trans (rk 4 (by omega) (by omega))
          have r5 : t 57 5 = 0 := (t57 5).trans (rk 5 (by omega) (by omega))
          rw [r0, r1, r3, r4, r5, t57, r2]
          omega
        · have b := sdF_bd (m 57 6)
          unfold SeedL
          rw [f85, t57, r6]
          exact ⟨rfl, b⟩
      | succ j ih =>
        intro i y hi6 he e5
        refine g_X8_anew_18 ⟨by omega, fun c => absurd c (by omega), fun _ => ⟨by omega, by omega, ?_⟩⟩
        refine ih (i + 1) _ (by omega) (he.put rfl) (fun k hk => ?_)
        by_cases e : k = i
        · subst e; exact wr_eq _ _ _ _
        · rw [wr_ne _ _ _ _ _ _ (by omega)]; exact e5 k (by omega)
    exact l 6 0 z4 (by omega) (Ex.refl _ _) (fun k hk => by omega)
end PN
