/-! the same step, the reference's -/
section SU
variable {sc : List Int} {d : Nat} {m : Mem} {Q : Option AV → Mem → Prop} {ρ : Mem}
def dyM (m : Mem) : Int → Int := fun k => if k = 6 then m 62 85 else m 124 k
def C_sm (a j : Int) : Prop := (a = 124 ∧ 0 ≤ j ∧ j ≤ 5) ∨ (a = 62 ∧ (j = 85 ∨ j = 86))
theorem dyM_0 (m : Mem) : dyM m 0 = m 124 0 := rfl
theorem dyM_1 (m : Mem) : dyM m 1 = m 124 1 := rfl
theorem dyM_2 (m : Mem) : dyM m 2 = m 124 2 := rfl
theorem dyM_3 (m : Mem) : dyM m 3 = m 124 3 := rfl
theorem dyM_4 (m : Mem) : dyM m 4 = m 124 4 := rfl
theorem dyM_6 (m : Mem) : dyM m 6 = m 62 85 := rfl
abbrev PSm (ρ m : Mem) (c : Int) : Option AV → Mem → Prop := fun v z => ∃ t, v = some (aI (if z 124 4 = m 124 4 then 0 else 1)) ∧ Ex C_sm m z ∧ StR ρ c (dyM m) (dyM z) t ∧ z 124 5 = capF (m 124 5) t ∧ z 62 86 = m 62 86 + t
theorem sewn_b {c t1 : Int} {m1 : Mem} {s : Nat} (hm : MRm m1 ρ) (hb : RmB ρ) (hs : (s : Int) < ρ 0 1) (hd : 2 ≤ d) (he : Ex C_sm m m1) (hA : StA ρ c (dyM m) (dyM m1) t1) (ht : 0 ≤ t1 ∧ t1 ≤ 99) (e0 : m1 124 0 = s) (e1 : 0 ≤ m1 124 1 ∧ m1 124 1 ≤ 99) (e2 : 0 ≤ m1 124 2 ∧ m1 124 2 ≤ 99) (e6 : 0 ≤ m1 62 85 ∧ m1 62 85 ≤ 2147483647) (h5 : 0 ≤ m 124 5 ∧ m 124 5 ≤ 9999) (e5 : m1 124 5 = capF (m 124 5) t1) (e86 : m1 62 86 = m 62 86 + t1) :
    S_X8_isSewn sc d 27 [aR 62, aU, aU] [] m1 (PSm ρ m c) := by
  have b0 := hb.1
  have ts := (hb.2.2.2.1 s hs).1
  have hne : ρ 0 3 ≠ 0 := fun q => by have := hb.2.1.1 q; omega
  have w1 : 0 ≤ ρ 7 1 ∧ ρ 7 1 ≤ 99 := hb.2.2.2.2.1 1 (by omega)
  have w0 : 0 ≤ ρ 7 0 ∧ ρ 7 0 ≤ 99 := hb.2.2.2.2.1 0 (by omega)
  have m4 : m1 124 4 = m 124 4 := hA.1.2
  refine g_X8_isSewn_27 (p_X8_isSewn_28 (d2 := d - 1) (s_wouldLast (s := s) hm hb (by omega) e0 hs e1 e2) (by omega) ?_)
  rintro _ z ⟨e, rfl⟩; cases e
  refine g_X8_isSewn_31 ⟨by first | (split <;> omega) | (unfold R32; split <;> omega), fun q => ?_, fun q => ?_⟩
  · have lt : z 124 2 < z 124 1 + ρ 3 s := by
      by_cases g : z 124 2 < z 124 1 + ρ 3 s
      · exact g
      · rw [if_neg g] at q; exact absurd q (by decide)
    rw [if_pos lt]
    refine p_X8_isSewn_61 (d2 := d - 1) (s_settingOf (i := 1) hm (by omega)) (by omega) ?_
    rintro _ z ⟨e, rfl⟩; cases e
    refine g_X8_isSewn_64 (p_X8_isSewn_66 (d2 := d - 1) (s_settingOf (i := 0) hm (by omega)) (by omega) ?_)
    rintro _ z ⟨e, rfl⟩; cases e
    refine g_X8_isSewn_69 (p_X8_isSewn_70 (d2 := d - 1) (s_costs (l := ρ 7 1 + ρ 7 0) (by rw [e5]; unfold R32 capF; split <;> omega)) (by omega) ?_)
    rintro z1 ⟨-, rfl⟩
    rw [e5, e86, capF_capF (by omega) (by omega)]
    have zx : Ex (fun a j => (a = 124 ∧ j = 5) ∨ (a = 62 ∧ j = 86)) z (wr (wr z 62 86 (m 62 86 + t1 + (ρ 7 1 + ρ 7 0))) 124 5 (capF (m 124 5) (t1 + (ρ 7 1 + ρ 7 0)))) := ((Ex.refl _ _).put (Or.inr ⟨rfl, rfl⟩)).put (Or.inl ⟨rfl, rfl⟩)
    have z5 : wr (wr z 62 86 (m 62 86 + t1 + (ρ 7 1 + ρ 7 0))) 124 5 (capF (m 124 5) (t1 + (ρ 7 1 + ρ 7 0))) 124 5 = capF (m 124 5) (t1 + (ρ 7 1 + ρ 7 0)) := wr_eq _ _ _ _
    have z86 : wr (wr z 62 86 (m 62 86 + t1 + (ρ 7 1 + ρ 7 0))) 124 5 (capF (m 124 5) (t1 + (ρ 7 1 + ρ 7 0))) 62 86 = m 62 86 + t1 + (ρ 7 1 + ρ 7 0) := by rw [wr_na _ _ _ _ _ _ (by decide), wr_eq]
    generalize wr (wr z 62 86 (m 62 86 + t1 + (ρ 7 1 + ρ 7 0))) 124 5 (capF (m 124 5) (t1 + (ρ 7 1 + ρ 7 0))) = y at zx z5 z86 ⊢
    have yk : ∀ k, k ≠ 5 → y 124 k = z 124 k := fun k hk => zx 124 k (by omega)
    refine g_X8_isSewn_73 ?_
    rw [yk 4 (by decide)]
    have ux : Ex (fun a j => a = 124 ∧ j = 4) y (wr y 124 4 (z 124 4 + 1)) := (Ex.refl _ _).put ⟨rfl, rfl⟩
    have u4 : wr y 124 4 (z 124 4 + 1) 124 4 = z 124 4 + 1 := wr_eq _ _ _ _
    generalize wr y 124 4 (z 124 4 + 1) = u at ux u4 ⊢
    have ue : Ex C_sm z u := (zx.mono (fun a j q => by unfold C_sm; omega)).trans (ux.mono (fun a j q => by unfold C_sm; omega))
    have u85 : u 62 85 = z 62 85 := (ux 62 85 (by omega)).trans (zx 62 85 (by omega))
    refine p_X8_isSewn_84 (d2 := d - 1) (s_isFresh (hm.ex ue (fun a j q c => by unfold C_sm at c; omega)) hb hne (by omega) (by rw [u85]; exact e6)) (by omega) ?_
    rintro v ⟨-, x', hl, rfl⟩
    rw [u85] at hl ⊢
    have vx : Ex (fun a j => (a = 62 ∧ j = 85) ∨ (a = 124 ∧ (j = 1 ∨ j = 2))) u (wr (wr (wr u 62 85 (sdF (z 62 85))) 124 1 0) 124 2 x') := (((Ex.refl _ _).put (Or.inl ⟨rfl, rfl⟩)).put (Or.inr ⟨rfl, by omega⟩)).put (Or.inr ⟨rfl, by omega⟩)
    have v2 : wr (wr (wr u 62 85 (sdF (z 62 85))) 124 1 0) 124 2 x' 124 2 = x' := wr_eq _ _ _ _
    have v1 : wr (wr (wr u 62 85 (sdF (z 62 85))) 124 1 0) 124 2 x' 124 1 = 0 := by rw [wr_ne _ _ _ _ _ _ (by omega), wr_eq]
    have v85 : wr (wr (wr u 62 85 (sdF (z 62 85))) 124 1 0) 124 2 x' 62 85 = sdF (z 62 85) := by rw [wr_na _ _ _ _ _ _ (by decide), wr_na _ _ _ _ _ _ (by decide), wr_eq]
    generalize wr (wr (wr u 62 85 (sdF (z 62 85))) 124 1 0) 124 2 x' = v at vx v1 v2 v85 ⊢
    have v0 : v 124 0 = z 124 0 := (vx 124 0 (by omega)).trans ((ux 124 0 (by omega)).trans (yk 0 (by decide)))
    have v3 : v 124 3 = z 124 3 := (vx 124 3 (by omega)).trans ((ux 124 3 (by omega)).trans (yk 3 (by decide)))
    have v4 : v 124 4 = z 124 4 + 1 := (vx 124 4 (by omega)).trans u4
    have v5 : v 124 5 = capF (m 124 5) (t1 + (ρ 7 1 + ρ 7 0)) := (vx 124 5 (by omega)).trans ((ux 124 5 (by omega)).trans z5)
    have v86 : v 62 86 = m 62 86 + t1 + (ρ 7 1 + ρ 7 0) := (vx 62 86 (by omega)).trans ((ux 62 86 (by omega)).trans z86)
    have fx : Ex (fun a j => a = 124 ∧ j = 0) v (wr v 124 0 (v 124 0 + 1)) := (Ex.refl _ _).put ⟨rfl, rfl⟩
    have f0 : wr v 124 0 (v 124 0 + 1) 124 0 = z 124 0 + 1 := by rw [wr_eq, v0]
    refine g_X8_isSewn_87 ⟨by first | omega | (unfold R32; omega), ?_⟩
    generalize wr v 124 0 (v 124 0 + 1) = f at fx f0 ⊢
    have f4 : f 124 4 = z 124 4 + 1 := (fx 124 4 (by omega)).trans v4
    refine ⟨t1 + (ρ 7 1 + ρ 7 0), ?_, ?_, ⟨dyM z, t1, ρ 7 1 + ρ 7 0, hA, ⟨⟨f0, ?_⟩, Or.inr ⟨?_, ?_, ?_, f4, ?_, rfl⟩⟩, rfl⟩, ?_, ?_⟩
    · rw [f4, m4, if_neg (show ¬ (0 : Int) ≠ 0 by decide), if_neg (by omega)]
    · exact ((he.trans ue).trans (vx.mono (fun a j q => by unfold C_sm; omega))).trans (fx.mono (fun a j q => by unfold C_sm; omega))
    · exact (fx 124 3 (by omega)).trans v3
    · rw [dyM_0, e0]; exact lt
    · exact (fx 124 1 (by omega)).trans v1
    · rw [dyM_2, fx 124 2 (by omega), v2]; exact hl
    · exact (fx 62 85 (by omega)).trans v85
    · exact (fx 124 5 (by omega)).trans v5
    · rw [fx 62 86 (by omega), v86]; omega
  · have lt : ¬ z 124 2 < z 124 1 + ρ 3 s := by
      intro g
      rw [if_pos g] at q; exact absurd rfl q
    rw [if_neg lt]
    rw [e0]
    refine p_X8_isSewn_50 (d2 := d - 1) ic_124 (s_takesOf hm hb hs) (by omega) ?_
    rintro _ z ⟨e, rfl⟩; cases e
    refine g_X8_isSewn_53 ic_124 ⟨by decide, by decide, ?_⟩
    have yx : Ex (fun a j => a = 124 ∧ j = 1) z (wr z 124 1 (z 124 1 + ρ 3 s)) := (Ex.refl _ _).put ⟨rfl, rfl⟩
    have y1 : wr z 124 1 (z 124 1 + ρ 3 s) 124 1 = z 124 1 + ρ 3 s := wr_eq _ _ _ _
    generalize wr z 124 1 (z 124 1 + ρ 3 s) = y at yx y1 ⊢
    have yk : ∀ k, k ≠ 1 → y 124 k = z 124 k := fun k hk => yx 124 k (by omega)
    have fx : Ex (fun a j => a = 124 ∧ j = 0) y (wr y 124 0 (y 124 0 + 1)) := (Ex.refl _ _).put ⟨rfl, rfl⟩
    have f0 : wr y 124 0 (y 124 0 + 1) 124 0 = z 124 0 + 1 := by rw [wr_eq, yk 0 (by decide)]
    refine g_X8_isSewn_87 ⟨by first | omega | (unfold R32; omega), ?_⟩
    generalize wr y 124 0 (y 124 0 + 1) = f at fx f0 ⊢
    have fk : ∀ k, k ≠ 0 → k ≠ 1 → f 124 k = z 124 k := fun k h1 h2 => (fx 124 k (by omega)).trans (yk k h2)
    have f62 : ∀ k, f 62 k = z 62 k := fun k => (fx 62 k (by omega)).trans (yx 62 k (by omega))
    refine ⟨t1, ?_, ?_, ⟨dyM z, t1, 0, hA, ⟨⟨f0, fk 3 (by decide) (by decide)⟩, Or.inl ⟨?_, ?_, fk 2 (by decide) (by decide), fk 4 (by decide) (by decide), f62 85, rfl⟩⟩, by omega⟩, (fk 5 (by decide) (by decide)).trans e5, (f62 86).trans e86⟩
    · rw [fk 4 (by decide) (by decide), m4, if_pos rfl, if_pos (show (1 : Int) ≠ 0 by decide)]
    · exact (he.trans (yx.mono (fun a j q => by unfold C_sm; omega))).trans (fx.mono (fun a j q => by unfold C_sm; omega))
    · rw [dyM_0, dyM_1, dyM_2, e0]; omega
    · rw [dyM_0, dyM_1, dyM_1, e0]; exact (fx 124 1 (by omega)).trans y1
theorem s_isSewn {c : Int} {s : Nat} (hm : MRm m ρ) (hb : RmB ρ) (hc : R32 c) (hs : (s : Int) < ρ 0 1) (e0 : m 124 0 = s) (hv : StV ρ (dyM m)) (h5 : 0 ≤ m 124 5 ∧ m 124 5 ≤ 9999) (hd : 2 ≤ d) : P_X8_isSewn sc d [aR 62, aI c] m (PSm ρ m c) := by
  have b0 := hb.1
  obtain ⟨v0, v1, v3, v4, v6⟩ := hv
  rw [dyM_1, dyM_2] at v1
  rw [dyM_6] at v6
  have hne : ρ 0 3 ≠ 0 := fun q => by have := hb.2.1.1 q; omega
  have wb : 0 ≤ ρ 7 0 ∧ ρ 7 0 ≤ 99 := hb.2.2.2.2.1 0 (by omega)
  refine ep_X8_isSewn (g_X8_isSewn_0 ⟨hc, fun q => ?_, fun q => ?_⟩)
  · exact sewn_b (t1 := 0) hm hb hs hd (Ex.refl _ _) ⟨⟨rfl, rfl⟩, Or.inl ⟨q, rfl, rfl, rfl, rfl, rfl⟩⟩ (by omega) e0 (by omega) (by omega) v6 h5 (by unfold capF; split <;> omega) (by omega)
  · refine p_X8_isSewn_7 (d2 := d - 1) (s_settingOf (i := 0) hm (by omega)) (by omega) ?_
    rintro _ z ⟨e, rfl⟩; cases e
    refine p_X8_isSewn_10 (d2 := d - 1) (s_costs (l := ρ 7 0) (by first | omega | (unfold R32; omega))) (by omega) ?_
    rintro z1 ⟨-, rfl⟩
    have yx : Ex (fun a j => (a = 124 ∧ j = 5) ∨ (a = 62 ∧ j = 86)) z (wr (wr z 62 86 (z 62 86 + ρ 7 0)) 124 5 (capF (z 124 5) (ρ 7 0))) := ((Ex.refl _ _).put (Or.inr ⟨rfl, rfl⟩)).put (Or.inl ⟨rfl, rfl⟩)
    have y5 : wr (wr z 62 86 (z 62 86 + ρ 7 0)) 124 5 (capF (z 124 5) (ρ 7 0)) 124 5 = capF (z 124 5) (ρ 7 0) := wr_eq _ _ _ _
    have y86 : wr (wr z 62 86 (z 62 86 + ρ 7 0)) 124 5 (capF (z 124 5) (ρ 7 0)) 62 86 = z 62 86 + ρ 7 0 := by rw [wr_na _ _ _ _ _ _ (by decide), wr_eq]
    generalize wr (wr z 62 86 (z 62 86 + ρ 7 0)) 124 5 (capF (z 124 5) (ρ 7 0)) = y at yx y5 y86 ⊢
    have y3 : y 124 3 = z 124 3 := yx 124 3 (by omega)
    refine g_X8_isSewn_13 ?_
    rw [y3]
    have ux : Ex (fun a j => a = 124 ∧ j = 3) y (wr y 124 3 (z 124 3 + 1)) := (Ex.refl _ _).put ⟨rfl, rfl⟩
    have u3 : wr y 124 3 (z 124 3 + 1) 124 3 = z 124 3 + 1 := wr_eq _ _ _ _
    generalize wr y 124 3 (z 124 3 + 1) = u at ux u3 ⊢
    have ue : Ex C_sm z u := (yx.mono (fun a j q => by unfold C_sm; omega)).trans (ux.mono (fun a j q => by unfold C_sm; omega))
    have u85 : u 62 85 = z 62 85 := (ux 62 85 (by omega)).trans (yx 62 85 (by omega))
    refine p_X8_isSewn_24 (d2 := d - 1) (s_isFresh (hm.ex ue (fun a j q c => by unfold C_sm at c; omega)) hb hne (by omega) (by rw [u85]; exact v6)) (by omega) ?_
    rintro v ⟨-, x', hl, rfl⟩
    rw [u85] at hl ⊢
    have xb := hl.bd hb
    have vx : Ex (fun a j => (a = 62 ∧ j = 85) ∨ (a = 124 ∧ (j = 1 ∨ j = 2))) u (wr (wr (wr u 62 85 (sdF (z 62 85))) 124 1 0) 124 2 x') := (((Ex.refl _ _).put (Or.inl ⟨rfl, rfl⟩)).put (Or.inr ⟨rfl, by omega⟩)).put (Or.inr ⟨rfl, by omega⟩)
    have v2 : wr (wr (wr u 62 85 (sdF (z 62 85))) 124 1 0) 124 2 x' 124 2 = x' := wr_eq _ _ _ _
    have v1' : wr (wr (wr u 62 85 (sdF (z 62 85))) 124 1 0) 124 2 x' 124 1 = 0 := by rw [wr_ne _ _ _ _ _ _ (by omega), wr_eq]
    have v85 : wr (wr (wr u 62 85 (sdF (z 62 85))) 124 1 0) 124 2 x' 62 85 = sdF (z 62 85) := by rw [wr_na _ _ _ _ _ _ (by decide), wr_na _ _ _ _ _ _ (by decide), wr_eq]
    generalize wr (wr (wr u 62 85 (sdF (z 62 85))) 124 1 0) 124 2 x' = v at vx v1' v2 v85 ⊢
    have w0 : v 124 0 = z 124 0 := (vx 124 0 (by omega)).trans ((ux 124 0 (by omega)).trans (yx 124 0 (by omega)))
    have w4 : v 124 4 = z 124 4 := (vx 124 4 (by omega)).trans ((ux 124 4 (by omega)).trans (yx 124 4 (by omega)))
    have w3 : v 124 3 = z 124 3 + 1 := (vx 124 3 (by omega)).trans u3
    have w5 : v 124 5 = capF (z 124 5) (ρ 7 0) := (vx 124 5 (by omega)).trans ((ux 124 5 (by omega)).trans y5)
    have w86 : v 62 86 = z 62 86 + ρ 7 0 := (vx 62 86 (by omega)).trans ((ux 62 86 (by omega)).trans y86)
    have sb := sdF_bd (z 62 85)
    have ve : Ex C_sm z v := ue.trans (vx.mono (fun a j q => by unfold C_sm; omega))
    exact sewn_b (t1 := ρ 7 0) (hm.ex ve (fun a j q c => by unfold C_sm at c; omega)) hb hs hd ve ⟨⟨w0, w4⟩, Or.inr ⟨q, v1', by rw [dyM_2, v2]; exact hl, w3, v85, rfl⟩⟩ wb (w0.trans e0) (by omega) (by omega) (by rw [v85]; exact sb) h5 w5 w86
end SU
