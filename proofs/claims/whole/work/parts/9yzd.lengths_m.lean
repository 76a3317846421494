/-! rooms as texts: lengths of the reference -/
section RJ2
variable {sc : List Int} {d : Nat} {m ρ : Mem} {Q : Option AV → Mem → Prop} {T : Int → Int} {n : Nat} {σ : Stt}
theorem numR_le {lo hi lo2 hi2 : Int} (h1 : lo ≤ lo2) (h2 : hi2 ≤ hi) : (∀ e, numR T n lo hi σ = .error e → numR T n lo2 hi2 σ = .error e) ∧ ∀ v, numR T n lo hi σ = .ok v → numR T n lo2 hi2 σ = if lo2 ≤ v ∧ v ≤ hi2 then .ok v else .error (2, σ.1) := by
  unfold numR
  by_cases c1 : kd T n σ ≠ 257
  · rw [if_pos c1, if_pos c1]; exact ⟨fun e q => q, fun v q => by cases q⟩
  · rw [if_neg c1, if_neg c1]
    by_cases c2 : 4 < ed T n σ - σ.1
    · rw [if_pos c2, if_pos c2]; exact ⟨fun e q => q, fun v q => by cases q⟩
    · rw [if_neg c2, if_neg c2]
      by_cases c3 : nv T σ.1 (ed T n σ - σ.1) < lo ∨ hi < nv T σ.1 (ed T n σ - σ.1)
      · rw [if_pos c3, if_pos (by omega)]; exact ⟨fun e q => q, fun v q => by cases q⟩
      · rw [if_neg c3]
        refine ⟨fun e q => (by cases q), fun v q => ?_⟩
        cases q
        by_cases c4 : nv T σ.1 (ed T n σ - σ.1) < lo2 ∨ hi2 < nv T σ.1 (ed T n σ - σ.1)
        · rw [if_pos c4, if_neg (by omega)]
        · rw [if_neg c4, if_pos (by omega)]
theorem len8E {e : Int × Int} {y : Mem} (ye : Ex C_mt m y) (hy : MEr y e) (h0 : 0 ≤ y 95 0 ∧ y 95 0 ≤ 6) (hd : 2 ≤ d) : (∀ a b : Int, S_X8_lengthTold sc d 135 [aR 62, aI a, aI b] [] y (PM T n m (.error e))) ∧ (∀ a s : Int, S_X8_lengthTold sc d 107 [aR 62, aI a, aU] [aI s] y (PM T n m (.error e))) ∧ (∀ a : Int, S_X8_lengthTold sc d 100 [aR 62, aI a, aU] [] y (PM T n m (.error e))) ∧ (∀ (f : Nat) (a i : Int), 0 ≤ i → i + f = 7 → S_X8_lengthTold sc d 50 [aR 62, aI a, aI i] [] y (PM T n m (.error e))) ∧ (∀ s : Int, S_X8_lengthTold sc d 47 [aR 62, aU, aU] [aI s] y (PM T n m (.error e))) ∧ S_X8_lengthTold sc d 40 [aR 62, aU, aU] [] y (PM T n m (.error e)) := by
  have k135 : ∀ a b : Int, S_X8_lengthTold sc d 135 [aR 62, aI a, aI b] [] y (PM T n m (.error e)) := fun a b => g_X8_lengthTold_135 ⟨hy.ne.2, fun g => absurd g hy.ne.1, fun _ => ⟨rfl, ye, hy⟩⟩
  have k107 : ∀ a s : Int, S_X8_lengthTold sc d 107 [aR 62, aI a, aU] [aI s] y (PM T n m (.error e)) := fun a s => g_X8_lengthTold_107 ⟨hy.ne.2, fun _ => k135 a s, fun g => absurd hy.ne.1 g⟩
  have k100 : ∀ a : Int, S_X8_lengthTold sc d 100 [aR 62, aI a, aU] [] y (PM T n m (.error e)) := fun a => g_X8_lengthTold_100 (p_X8_lengthTold_104 (d2 := d - 1) (numE hy) (by omega) (by rintro _ z ⟨q, rfl⟩; cases q; exact k107 a 0))
  have k97 : ∀ a : Int, S_X8_lengthTold sc d 97 [aR 62, aI a, aU] [aR 67, aR 62] y (PM T n m (.error e)) := fun a => p_X8_lengthTold_97 (d2 := d - 1) (wrd_at (iw (by decide))).1 (asksE (iw (by decide)) hy) (by omega) (by rintro z ⟨-, rfl⟩; exact k100 a)
  have k50 : ∀ (f : Nat) (a i : Int), 0 ≤ i → i + f = 7 → S_X8_lengthTold sc d 50 [aR 62, aI a, aI i] [] y (PM T n m (.error e)) := by
    intro f
    induction f with
    | zero => intro a i h1 h2; exact g_X8_lengthTold_50 ⟨by omega, by omega, fun _ => k97 a, fun g => by omega⟩
    | succ f ih => intro a i h1 h2; exact g_X8_lengthTold_50 ⟨by omega, by omega, fun _ => k97 a, fun g => ⟨hy.ne.2, fun _ => g_X8_lengthTold_86 (ih a (i + 1) (by omega) (by omega)), fun g2 => absurd hy.ne.1 g2⟩⟩
  have k47 : ∀ s : Int, S_X8_lengthTold sc d 47 [aR 62, aU, aU] [aI s] y (PM T n m (.error e)) := fun s => g_X8_lengthTold_47 (k50 7 s 0 (by decide) (by decide))
  exact ⟨k135, k107, k100, k50, k47, g_X8_lengthTold_40 (p_X8_lengthTold_44 (d2 := d - 1) (numE hy) (by omega) (by rintro _ z ⟨q, rfl⟩; cases q; exact k47 0))⟩
def lenP (T : Int → Int) (n : Nat) (z : Mem) : Es ((Stt × List Int) × Mem × Int) → Prop
  | .ok a => Tm z T n ∧ MSt T n z a.1.1 ∧ MRt z a.2.1 a.1.2 ∧ z 62 10 = a.2.2
  | .error e => MEr z e
theorem s_lengthTold {q : List Int} (ht : Tm m T n) (h : MSt T n m σ) (hr : MRt m ρ q) (hp : PL ρ) (hd : 6 ≤ d) : P_X8_lengthTold sc d [aR 62] m (fun v z => v = none ∧ Ex C_mt m z ∧ lenP T n z (if wE T n σ = 1 ∧ ρ 0 0 = 6 then .error (5, (σ.1 : Nat)) else lenR T n (σ, q) ρ)) := by
  have n1 := ht.1
  have hb : RmC ρ := hp.2.2.2.2
  have b := hb.1
  have sb := hp.sb
  have r0 : ∀ y, Ex C_lk m y → y 95 0 = ρ 0 0 := fun y ye => (hr.lk ye).1.1
  have toP : ∀ (e : Int × Int) (R : Es ((Stt × List Int) × Mem × Int)), R = .error e → ∀ v z, PM T n m (.error e) v z → v = none ∧ Ex C_mt m z ∧ lenP T n z R := fun e R g v z k => by rw [g]; exact k
  refine ep_X8_lengthTold (g_X8_lengthTold_0 (p_X8_lengthTold_5 (d2 := d - 1) (wrd_at (iw (by decide))).1 (s_isHere (c := 66) (iw (by decide)) ht h (by omega)) (by omega) ?_))
  rintro _ z ⟨q1, ze, zl⟩; cases q1
  rw [show ((wOf 66 : Nat) : Int) = 1 from rfl]
  have z0 := r0 z ze
  -- from "lasts" on
  have main : ¬ (wE T n σ = 1 ∧ ρ 0 0 = 6) → S_X8_lengthTold sc d 37 [aR 62, aU, aU] [aR 66, aR 62] z (fun v z => v = none ∧ Ex C_mt m z ∧ lenP T n z (if wE T n σ = 1 ∧ ρ 0 0 = 6 then .error (5, (σ.1 : Nat)) else lenR T n (σ, q) ρ)) := by
    intro cm
    rw [if_neg cm]
    refine p_X8_lengthTold_37 (d2 := d - 1) (wrd_at (iw (by decide))).1 (s_asks (c := 66) (iw (by decide)) (ht.lk ze) zl.1 (by omega)) (by omega) ?_
    rintro y ⟨-, ye, hy⟩
    have E1 := ze.trans ye
    have y0 := r0 y E1
    rw [show ((wOf 66 : Nat) : Int) = 1 from rfl] at hy
    rcases hy with ⟨w1, hy⟩ | ⟨w1, hy⟩
    case inr =>
      have e : lenR T n (σ, q) ρ = .error (1, (σ.1 : Nat)) := by unfold lenR exW; rw [if_neg w1]; rfl
      exact (Sim.imp ((len8E (E1.mono (fun a j q => mt_lk q)) hy (by omega) (by omega)).2.2.2.2.2) (toP _ _ e))
    have e1 : lenR T n (σ, q) ρ = (numR T n 1 99 (nx T n σ)).bind fun y => if newL ρ y then
        (exW T n 2 (nx T n (nx T n σ), q)).bind fun c => (numR T n 1 (100 - sumF (ρ 2) (ρ 0 0).toNat) c.1).bind fun u => .ok ((nx T n c.1, c.2), addL ρ y u, (c.1.1 : Int))
      else .error (2, (nx T n σ).1) := by unfold lenR; rw [show exW T n 1 (σ, q) = .ok (nx T n σ, q) by unfold exW; rw [if_pos w1]]; rfl
    have k1 := wE_n2 w1 (by decide)
    refine g_X8_lengthTold_40 (p_X8_lengthTold_44 (d2 := d - 1) (s_X8_number (by decide) (by decide) (ht.lk E1) hy (by omega)) (by omega) ?_)
    rintro w u ⟨_, q1, -, ue, hu⟩; cases q1
    have E2 := E1.trans ue
    have u0 := r0 u E2
    cases g2 : numR T n 1 99 (nx T n σ) with
    | error e =>
      rw [g2] at hu e1
      exact (Sim.imp ((len8E (E2.mono (fun a j q => mt_lk q)) hu (by omega) (by omega)).2.2.2.2.1 w) (toP e _ e1))
    | ok y1 =>
    rw [g2] at hu e1
    obtain ⟨rfl, hu, u10⟩ := hu
    have v2 := numR_ok g2
    have k2 := nm_nx v2.1
    have e1 : lenR T n (σ, q) ρ = if newL ρ w then
        (exW T n 2 (nx T n (nx T n σ), q)).bind fun c => (numR T n 1 (100 - sumF (ρ 2) (ρ 0 0).toNat) c.1).bind fun u => .ok ((nx T n c.1, c.2), addL ρ w u, (c.1.1 : Int))
      else .error (2, ((nx T n σ).1 : Nat)) := e1
    have ru := hr.lk E2
    have tu := ht.lk E2
    -- behind the yards
    have at97 : newL ρ w → S_X8_lengthTold sc d 97 [aR 62, aI w, aU] [aR 67, aR 62] u (fun v z => v = none ∧ Ex C_mt m z ∧ lenP T n z (lenR T n (σ, q) ρ)) := by
      intro hn
      rw [if_pos hn] at e1
      refine p_X8_lengthTold_97 (d2 := d - 1) (wrd_at (iw (by decide))).1 (s_asks (c := 67) (iw (by decide)) tu hu (by omega)) (by omega) ?_
      rintro a ⟨-, ae, ha⟩
      have E3 := E2.trans ae
      have a0 := r0 a E3
      rw [show ((wOf 67 : Nat) : Int) = 2 from rfl] at ha
      rcases ha with ⟨w2, ha⟩ | ⟨w2, ha⟩
      case inr =>
        have e : lenR T n (σ, q) ρ = .error (1, ((nx T n (nx T n σ)).1 : Nat)) := by rw [e1]; unfold exW; rw [if_neg w2]; rfl
        exact (Sim.imp ((len8E (E3.mono (fun a j q => mt_lk q)) ha (by omega) (by omega)).2.2.1 w) (toP _ _ e))
      have e2 : lenR T n (σ, q) ρ = (numR T n 1 (100 - sumF (ρ 2) (ρ 0 0).toNat) (nx T n (nx T n (nx T n σ)))).bind fun u => .ok ((nx T n (nx T n (nx T n (nx T n σ))), q), addL ρ w u, ((nx T n (nx T n (nx T n σ))).1 : Int)) := by rw [e1]; rw [show exW T n 2 (nx T n (nx T n σ), q) = .ok (nx T n (nx T n (nx T n σ)), q) by unfold exW; rw [if_pos w2]]; rfl
      have k3 : _ ∧ (nx T n (nx T n (nx T n σ))).1 ≤ n := wE_n2 w2 (by decide)
      refine g_X8_lengthTold_100 (p_X8_lengthTold_104 (d2 := d - 1) (s_X8_number (by decide) (by decide) (ht.lk E3) ha (by omega)) (by omega) ?_)
      rintro w3 c ⟨_, q1, -, ce, hc⟩; cases q1
      have E4 := E3.trans ce
      have c0 := r0 c E4
      have nl := numR_le (T := T) (n := n) (σ := nx T n (nx T n (nx T n σ))) (lo := 1) (hi := 100) (lo2 := 1) (hi2 := 100 - sumF (ρ 2) (ρ 0 0).toNat) (by omega) (by omega)
      cases g4 : numR T n 1 100 (nx T n (nx T n (nx T n σ))) with
      | error e =>
        rw [g4] at hc
        rw [nl.1 e g4] at e2
        exact (Sim.imp ((len8E (E4.mono (fun a j q => mt_lk q)) hc (by omega) (by omega)).2.1 w w3) (toP e _ e2))
      | ok y2 =>
      rw [g4] at hc
      obtain ⟨rfl, hc, c10⟩ := hc
      have v4 := numR_ok g4
      rw [nl.2 _ g4] at e2
      have c5 := hc.2.1.1
      have rc := hr.lk E4
      have tc := ht.lk E4
      refine g_X8_lengthTold_107 ⟨by omega, fun g => absurd c5 g, fun _ => ?_⟩
      refine p_X8_lengthTold_116 (d2 := d - 1) (s_allOdds rc hb) (by omega) ?_
      rintro _ c' ⟨q1, rfl⟩; cases q1
      by_cases cs : sumF (ρ 2) (ρ 0 0).toNat + w3 ≤ 100
      · rw [if_pos ⟨v4.2.1, by omega⟩] at e2
        have e2 : lenR T n (σ, q) ρ = .ok ((nx T n (nx T n (nx T n (nx T n σ))), q), addL ρ w w3, ((nx T n (nx T n (nx T n σ))).1 : Int)) := e2
        have z95 : wr c' 97 (c' 95 0) w 95 0 = c' 95 0 := wr_na _ _ _ _ _ _ (by decide)
        have c6 : ρ 0 0 < 6 := by
          by_cases g6 : ρ 0 0 = 6
          · exact absurd ⟨w1, g6⟩ cm
          · omega
        refine g_X8_lengthTold_119 ⟨by omega, fun _ => g_X8_lengthTold_135 ⟨by omega, fun _ => ⟨by omega, by omega, by omega, by omega, ?_⟩, fun g => absurd c5 g⟩, fun g => by omega⟩
        rw [z95, wr_na _ _ _ _ 95 0 (by decide), z95]
        have we : Ex (fun a j => ((a = 97 ∨ a = 98) ∧ j = ρ 0 0) ∨ (a = 95 ∧ j = 0)) c' (wr (wr (wr c' 97 (c' 95 0) w) 98 (c' 95 0) w3) 95 0 (c' 95 0 + 1)) := by
          rw [c0]
          exact (((Ex.refl _ _).put (Or.inl ⟨Or.inl rfl, rfl⟩)).put (Or.inl ⟨Or.inr rfl, rfl⟩)).put (Or.inr ⟨rfl, rfl⟩)
        have w0 : wr (wr (wr c' 97 (c' 95 0) w) 98 (c' 95 0) w3) 95 0 (c' 95 0 + 1) 95 0 = ρ 0 0 + 1 := by rw [wr_eq, c0]
        have w97 : wr (wr (wr c' 97 (c' 95 0) w) 98 (c' 95 0) w3) 95 0 (c' 95 0 + 1) 97 (ρ 0 0) = w := by rw [wr_na _ _ _ _ _ _ (by decide), wr_na _ _ _ _ _ _ (by decide), c0, wr_eq]
        have w98 : wr (wr (wr c' 97 (c' 95 0) w) 98 (c' 95 0) w3) 95 0 (c' 95 0 + 1) 98 (ρ 0 0) = w3 := by rw [wr_na _ _ _ _ _ _ (by decide), c0, wr_eq]
        generalize wr (wr (wr c' 97 (c' 95 0) w) 98 (c' 95 0) w3) 95 0 (c' 95 0 + 1) = x at we w0 w97 w98 ⊢
        refine ⟨rfl, (E4.mono (fun a j q => mt_lk q)).trans (we.mono (fun a j q => by
          rcases q with ⟨q1 | q1, q2⟩ | ⟨q1, q2⟩
          · exact mt97 ⟨q1, by omega⟩
          · exact mt98 ⟨q1, by omega⟩
          · exact mt95 ⟨q1, by omega⟩)), ?_⟩
        rw [e2]
        refine ⟨tc.mr we (fun a j q => by unfold C_mr; omega), hc.mr we (fun a j q => by unfold C_mr; omega), ?_, ?_⟩
        · show MRt x (addL ρ w w3) q
          obtain ⟨⟨a1, a2, a3⟩, bb, cc, dd, ⟨f1, f2, f3⟩, g1, g2⟩ := rc
          have n0 : ∀ j, j ≠ 0 → addL ρ w w3 0 j = ρ 0 j := fun j hj => addL_n ⟨by omega, by omega, by omega⟩
          have na : ∀ a, a ≠ 0 → a ≠ 1 → a ≠ 2 → addL ρ w w3 a = ρ a := fun a q1 q2 q3 => funext fun j => addL_n ⟨by omega, by omega, by omega⟩
          have ee : ∀ a j, ¬ (((a = 97 ∨ a = 98) ∧ j = ρ 0 0) ∨ (a = 95 ∧ j = 0)) → x a j = c' a j := we
          refine ⟨⟨by rw [w0, addL_0], by rw [ee _ _ (by omega), n0 1 (by decide)]; exact a2, by rw [ee _ _ (by omega), n0 2 (by decide)]; exact a3⟩, fun i hi => ?_, ?_, ?_, ⟨?_, ?_, ?_⟩, ?_, ?_⟩
          · rw [addL_0] at hi
            by_cases g : (i : Int) = ρ 0 0
            · rw [g, w97, w98, addL_1, addL_2]; exact ⟨rfl, rfl⟩
            · rw [ee _ _ (by omega), ee _ _ (by omega), addL_n ⟨by omega, by omega, by omega⟩, addL_n ⟨by omega, by omega, by omega⟩]
              exact bb i (by omega)
          · rw [n0 1 (by decide)]
            intro s hs
            have := hp.2.1
            omega
          · rw [na 7 (by decide) (by decide) (by decide)]
            intro i hi
            rw [ee _ _ (by omega)]; exact dd i hi
          · rw [n0 2 (by decide)]
            intro k hk
            have := hp.2.2.1
            omega
          · rw [ee _ _ (by omega)]; exact f2
          · intro j hj
            rw [ee _ _ (by omega)]; exact f3 j hj
          · rw [n0 1 (by decide)]
            intro s hs
            have := hp.2.1
            omega
          · rw [n0 2 (by decide)]
            intro k hk
            have := hp.2.2.1
            omega
        · show x 62 10 = _
          rw [we 62 10 (by omega)]; exact c10
      · rw [if_neg (by omega)] at e2
        have e2 : lenR T n (σ, q) ρ = .error (2, ((nx T n (nx T n (nx T n σ))).1 : Nat)) := e2
        refine g_X8_lengthTold_119 ⟨by omega, fun g => by omega, fun _ => ?_⟩
        refine p_X8_lengthTold_132 (d2 := d - 1) (s_X8_fail c5 (by decide) (by omega)) (by omega) ?_
        rintro x ⟨-, xe, hx⟩
        rw [c10] at hx
        have E5 := E4.trans xe
        have x0 := r0 x E5
        exact (Sim.imp ((len8E (E5.mono (fun a j q => mt_lk q)) hx (by omega) (by omega)).1 w w3) (toP _ _ e2))
    have lp : ∀ (f i : Nat), i + f = (ρ 0 0).toNat → (∀ k : Nat, k < i → ρ 1 k ≠ w) → S_X8_lengthTold sc d 50 [aR 62, aI w, aI i] [] u (fun v z => v = none ∧ Ex C_mt m z ∧ lenP T n z (lenR T n (σ, q) ρ)) := by
      intro f
      have u5 := hu.2.1.1
      induction f with
      | zero =>
        intro i hi hk
        exact g_X8_lengthTold_50 ⟨by omega, by omega, fun _ => at97 (fun k hk2 => hk k (by omega)), fun g => by omega⟩
      | succ f ih =>
        intro i hi hk
        have ui := (ru.2.1 i (by omega)).1
        have rb := (hb.2.2.1 i (by omega)).1
        refine g_X8_lengthTold_50 ⟨by omega, by omega, fun g => by omega, fun _ => ⟨by omega, fun g => absurd u5 g, fun _ => ⟨by omega, by omega, by omega, by omega, fun g => ?_, fun g => ?_⟩⟩⟩
        · have := ih (i + 1) (by omega) (fun k hk2 => by
            by_cases e : k = i
            · rw [e, ← ui]; exact g
            · exact hk k (by omega))
          rw [show ((i + 1 : Nat) : Int) = (i : Int) + 1 by omega] at this
          exact g_X8_lengthTold_86 this
        · have hN : ¬ newL ρ w := fun q2 => q2 i (by omega) (by rw [← ui]; exact Classical.not_not.mp g)
          rw [if_neg hN] at e1
          refine p_X8_lengthTold_83 (d2 := d - 1) (s_X8_fail u5 (by decide) (by omega)) (by omega) ?_
          rintro a ⟨-, ae, ha⟩
          rw [u10] at ha
          have E3 := E2.trans ae
          have a0 := r0 a E3
          exact g_X8_lengthTold_86 (Sim.imp ((len8E (E3.mono (fun a j q => mt_lk q)) ha (by omega) (by omega)).2.2.2.1 (6 - i) w _ (by omega) (by omega)) (toP _ _ e1))
    exact g_X8_lengthTold_47 (lp (ρ 0 0).toNat 0 (by omega) (fun k hk => absurd hk (by omega)))
  have zz := zl.1.2.1.1
  by_cases c1 : wE T n σ = 1
  · rw [if_pos c1]
    refine g_X8_lengthTold_8 ⟨by omega, fun g => by omega, fun _ => ⟨by omega, fun g => main (fun q => g (by omega)), fun g => ?_⟩⟩
    have c6 : wE T n σ = 1 ∧ ρ 0 0 = 6 := ⟨c1, by omega⟩
    rw [if_pos c6]
    refine p_X8_lengthTold_28 (d2 := d - 1) (s_X8_fail zz (by decide) (zl.pl n1)) (by omega) ?_
    rintro a ⟨-, ae, ha⟩
    rw [zl.2] at ha
    exact g_X8_lengthTold_31 ⟨rfl, (ze.trans ae).mono (fun a j q => mt_lk q), ha⟩
  · rw [if_neg c1]
    exact g_X8_lengthTold_8 ⟨by omega, fun _ => main (fun q => c1 q.1), fun g => absurd rfl g⟩
end RJ2
