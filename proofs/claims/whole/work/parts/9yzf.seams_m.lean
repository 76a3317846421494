/-! rooms as texts: seams and rules of the reference -/
section RL2
variable {sc : List Int} {d : Nat} {m ρ : Mem} {Q : Option AV → Mem → Prop} {T : Int → Int} {n : Nat} {σ : Stt}
theorem mt_pc {s a j : Int} (hs : 0 ≤ s ∧ s ≤ 9) (h : C_pc s a j) : C_mt a j := by
  rcases h with h | h
  · exact mt_lk h
  · exact mt99 ⟨h.1, by omega⟩
/-- a seam that is being told -/
def C_sq (s a j : Int) : Prop := C_lk a j ∨ (a = 99 ∧ 7 * s ≤ j ∧ j < 7 * s + 7)
theorem mt_sm {s a j : Int} (hs : 0 ≤ s ∧ s ≤ 9) (h : C_sq s a j) : C_mt a j := by
  rcases h with h | h
  · exact mt_lk h
  · exact mt99 ⟨h.1, by omega⟩
theorem MRt.sm {z : Mem} {q : List Int} (h : MRt m ρ q) (hb : RmC ρ) (e : Ex (C_sq (ρ 0 1)) m z) : MRt z ρ q := by
  obtain ⟨⟨a1, a2, a3⟩, b, c, dd, ⟨f1, f2, f3⟩, g1, g2⟩ := h
  have ee : ∀ a j, (95 ≤ a ∧ a ≤ 103 ∧ ¬ (a = 99 ∧ 7 * ρ 0 1 ≤ j ∧ j < 7 * ρ 0 1 + 7)) → z a j = m a j := fun a j q => e a j (fun c => by unfold C_sq C_lk at c; omega)
  refine ⟨⟨by rw [ee _ _ (by omega)]; exact a1, by rw [ee _ _ (by omega)]; exact a2, by rw [ee _ _ (by omega)]; exact a3⟩, fun i hi => by rw [ee _ _ (by omega), ee _ _ (by omega)]; exact b i hi, fun s hs => ?_, fun i hi => by rw [ee _ _ (by omega)]; exact dd i hi, ⟨fun k hk => by rw [ee _ _ (by omega), ee _ _ (by omega)]; exact f1 k hk, by rw [e 62 51 (fun c => by unfold C_sq C_lk at c; omega)]; exact f2, fun j hj => by rw [ee _ _ (by omega)]; exact f3 j hj⟩, fun s hs => by rw [ee _ _ (by omega)]; exact g1 s hs, fun k hk => by rw [ee _ _ (by omega)]; exact g2 k hk⟩
  have q := (hb.2.2.2.1 s hs).2.2.1
  rw [ee _ _ (by omega), ee _ _ (by omega), ee _ _ (by omega)]
  exact ⟨(c s hs).1, (c s hs).2.1, (c s hs).2.2.1, fun k hk => by rw [ee _ _ (by omega)]; exact (c s hs).2.2.2 k hk⟩
theorem seam8E102 {e : Int × Int} {y : Mem} (ye : Ex C_mt m y) (hy : MEr y e) (l2 w : Int) : S_X8_seamTold sc d 102 [aR 62, aU, aI l2, aJ w, aU] [aI 0] y (PM T n m (.error e)) :=
  g_X8_seamTold_102 ⟨by omega, fun _ => ⟨hy.ne.2, fun q => absurd q hy.ne.1, fun _ => ⟨rfl, ye, hy⟩⟩, fun q => absurd rfl q⟩
theorem seam8E76 {e : Int × Int} {y : Mem} {s : Int} (hs : 0 ≤ s ∧ s ≤ 9) (ye : Ex C_mt m y) (hy : MEr y e) (w v : Int) (hv : R32 v) (hd : 2 ≤ d) : S_X8_seamTold sc d 76 [aR 62, aU, aI (7 * s), aJ w, aU] [aI v, aI (7 * s + 1), aR 99] y (PM T n m (.error e)) := by
  refine g_X8_seamTold_76 ic_99 ⟨hv, by omega, by rw [al_99]; omega, by omega, by omega, ?_⟩
  have ze : Ex (C_sq s) y (wr (wr y 99 (7 * s + 1) (if v = 0 then 0 else 1 : Int)) 99 (7 * s + 2) 0) := ((Ex.refl _ _).put (Or.inr ⟨rfl, by omega, by omega⟩)).put (Or.inr ⟨rfl, by omega, by omega⟩)
  have zE : MEr (wr (wr y 99 (7 * s + 1) (if v = 0 then 0 else 1 : Int)) 99 (7 * s + 2) 0) e := ⟨by rw [wr_na _ _ _ _ _ _ (by decide), wr_na _ _ _ _ _ _ (by decide)]; exact hy.1, by rw [wr_na _ _ _ _ _ _ (by decide), wr_na _ _ _ _ _ _ (by decide)]; exact hy.2.1, hy.2.2⟩
  refine p_X8_seamTold_99 (d2 := d - 1) (wrd_at (iw (by decide))).1 (takesE (iw (by decide)) zE (by omega)) (by omega) ?_
  rintro _ z ⟨q, rfl⟩; cases q
  exact seam8E102 (ye.trans (ze.mono (fun a j q => mt_sm hs q))) zE _ _
theorem seam8E60 {e : Int × Int} {y : Mem} {s : Int} (hs : 0 ≤ s ∧ s ≤ 9) (ye : Ex C_mt m y) (hy : MEr y e) (w v : Int) (hd : 2 ≤ d) : S_X8_seamTold sc d 60 [aR 62, aU, aI (7 * s), aJ w, aU] [aI v, aI (7 * s), aR 99] y (PM T n m (.error e)) := by
  refine g_X8_seamTold_60 ic_99 ⟨by omega, by rw [al_99]; omega, ?_⟩
  have ze : Ex (C_sq s) y (wr y 99 (7 * s) v) := (Ex.refl _ _).put (Or.inr ⟨rfl, by omega, by omega⟩)
  have zE : MEr (wr y 99 (7 * s) v) e := ⟨by rw [wr_na _ _ _ _ _ _ (by decide)]; exact hy.1, by rw [wr_na _ _ _ _ _ _ (by decide)]; exact hy.2.1, hy.2.2⟩
  refine p_X8_seamTold_73 (d2 := d - 1) ic_99 (wrd_at (iw (by decide))).1 (takesE (iw (by decide)) zE (by omega)) (by omega) ?_
  rintro _ z ⟨q, rfl⟩; cases q
  exact seam8E76 hs (ye.trans (ze.mono (fun a j q => mt_sm hs q))) zE w 0 (by decide) hd
theorem seam8E48 {e : Int × Int} {y : Mem} {s : Int} (hs : 0 ≤ s ∧ s ≤ 9) (ye : Ex C_mt m y) (hy : MEr y e) (w : Int) (hd : 2 ≤ d) : S_X8_seamTold sc d 48 [aR 62, aU, aI (7 * s), aJ w, aU] [] y (PM T n m (.error e)) := by
  refine g_X8_seamTold_48 (p_X8_seamTold_57 (d2 := d - 1) ic_99 (numE hy) (by omega) ?_)
  rintro _ z ⟨q, rfl⟩; cases q
  exact seam8E60 hs ye hy w 0 hd
theorem seam8E39 {e : Int × Int} {y : Mem} {s : Int} (hs : 0 ≤ s ∧ s ≤ 9) (ye : Ex C_mt m y) (hy : MEr y e) (w : Int) (hd : 2 ≤ d) : S_X8_seamTold sc d 39 [aR 62, aU, aI (7 * s), aU, aU] [aJ w] y (PM T n m (.error e)) := by
  refine g_X8_seamTold_39 (p_X8_seamTold_45 (d2 := d - 1) (wrd_at (iw (by decide))).1 (asksE (iw (by decide)) hy) (by omega) ?_)
  rintro z ⟨-, rfl⟩
  exact seam8E48 hs ye hy w hd
/-- a seam is told to its end -/
theorem mrt_seam {q : List Int} {f : Int → Int} {y sh w : Int} {pl : List Int} (h : MRt m ρ q) (hb : RmC ρ) (h10 : ρ 0 1 < 10) (hp : PcM m (ρ 0 1) y pl) (hsh : m 99 (7 * ρ 0 1 + 1) = sh) (hl : pl.length ≤ 4) (hn : NmOK f w) : MRt (wr (wr m 96 (ρ 0 1) w) 95 1 (ρ 0 1 + 1)) (addS ρ f y sh pl) q := by
  have b := hb.1
  obtain ⟨⟨a1, a2, a3⟩, bb, c, dd, ⟨f1, f2, f3⟩, g1, g2⟩ := h
  obtain ⟨p0, p1, p2⟩ := hp
  have ee : ∀ a j, ¬ (a = 95 ∧ j = 1) → ¬ (a = 96 ∧ j = ρ 0 1) → wr (wr m 96 (ρ 0 1) w) 95 1 (ρ 0 1 + 1) a j = m a j := fun a j q1 q2 => by rw [wr_ne _ _ _ _ _ _ q1, wr_ne _ _ _ _ _ _ q2]
  have e1 : wr (wr m 96 (ρ 0 1) w) 95 1 (ρ 0 1 + 1) 95 1 = ρ 0 1 + 1 := wr_eq _ _ _ _
  have e2 : wr (wr m 96 (ρ 0 1) w) 95 1 (ρ 0 1 + 1) 96 (ρ 0 1) = w := by rw [wr_ne _ _ _ _ _ _ (by omega), wr_eq]
  generalize wr (wr m 96 (ρ 0 1) w) 95 1 (ρ 0 1 + 1) = z at ee e1 e2 ⊢
  refine ⟨⟨by rw [ee _ _ (by omega) (by omega), aS_z (by decide)]; exact a1, by rw [e1, aS_0], by rw [ee _ _ (by omega) (by omega), aS_z (by decide)]; exact a3⟩, ?_, fun s hs => ?_, ?_, ⟨?_, ?_, ?_⟩, fun s hs => ?_, ?_⟩
  · rw [aS_z (by decide), aS_a (a := 1) (by decide), aS_a (a := 2) (by decide)]
    intro i hi
    rw [ee _ _ (by omega) (by omega), ee _ _ (by omega) (by omega)]; exact bb i hi
  · rw [aS_0] at hs
    by_cases g : (s : Int) = ρ 0 1
    · rw [g, aS_3, aS_4, aS_6, ee _ _ (by omega) (by omega), ee _ _ (by omega) (by omega), ee _ _ (by omega) (by omega)]
      exact ⟨p0, hsh, p1, fun k hk => by rw [aS_5 (by omega), ee _ _ (by omega) (by omega)]; exact p2 k (by omega)⟩
    · have k := c s (by omega)
      have q := (hb.2.2.2.1 s (by omega)).2.2.1
      rw [aS_n ⟨by omega, by omega, by omega, by omega⟩, aS_n ⟨by omega, by omega, by omega, by omega⟩, aS_n ⟨by omega, by omega, by omega, by omega⟩, ee _ _ (by omega) (by omega), ee _ _ (by omega) (by omega), ee _ _ (by omega) (by omega)]
      exact ⟨k.1, k.2.1, k.2.2.1, fun i hi => by rw [aS_n ⟨by omega, by omega, by omega, by omega⟩, ee _ _ (by omega) (by omega)]; exact k.2.2.2 i hi⟩
  · rw [aS_a (by decide)]
    intro i hi
    rw [ee _ _ (by omega) (by omega)]; exact dd i hi
  · rw [aS_z (by decide), aS_a (a := 10) (by decide)]
    intro k hk
    rw [ee _ _ (by omega) (by omega), ee _ _ (by omega) (by omega)]; exact f1 k hk
  · rw [ee _ _ (by omega) (by omega)]; exact f2
  · intro j hj
    rw [ee _ _ (by omega) (by omega)]; exact f3 j hj
  · rw [aS_0] at hs
    by_cases g : (s : Int) = ρ 0 1
    · rw [g, e2]
      exact hn.cg (fun j hj => aS_8 hj)
    · rw [ee _ _ (by omega) (by omega)]
      exact (g1 s (by omega)).cg (fun j hj => aS_n ⟨by omega, by omega, by omega, by omega⟩)
  · rw [aS_z (by decide)]
    intro k hk
    rw [ee _ _ (by omega) (by omega)]
    exact (g2 k hk).cg (fun j hj => aS_n ⟨by omega, by omega, by omega, by omega⟩)
theorem s_seamTold {x : Stt × List Int} (ht : Tm m T n) (h : MSt T n m (nx T n x.1)) (hr : MRt m ρ x.2) (hp : PI n (x, ρ)) (hk : kd T n x.1 ≠ 258) (hd : 10 ≤ d) : P_X8_seamTold sc d [aR 62, aI (x.1.1 : Nat)] m (PM T n m (seamB T n x ρ)) := by
  have n1 := ht.1
  have b : (0 ≤ ρ 0 0 ∧ ρ 0 0 ≤ 6 ∧ 0 ≤ ρ 0 1 ∧ ρ 0 1 ≤ 10 ∧ 0 ≤ ρ 0 2 ∧ ρ 0 2 ≤ 4 ∧ 0 ≤ ρ 0 3 ∧ ρ 0 3 ≤ 60) := hp.1.1
  have hb : RmC ρ := hp.1
  have c1 : m 95 1 = ρ 0 1 := hr.1.2.1
  have h5 := h.2.1.1
  have xn : x.1.1 ≤ n := hp.2.2.2.2.2
  refine ep_X8_seamTold (g_X8_seamTold_0 ⟨by omega, fun c => ?_, fun c => ?_⟩)
  case refine_2 =>
    unfold seamB
    rw [if_pos (by omega)]
    refine p_X8_seamTold_14 (d2 := d - 1) (s_X8_fail h5 (by decide) (by omega)) (by omega) ?_
    rintro z ⟨-, ze, hz⟩
    exact g_X8_seamTold_17 ⟨hz.ne.2, fun q => absurd q hz.ne.1, fun _ => ⟨rfl, ze.mono (fun a j q => mt_lk q), hz⟩⟩
  have s9 : 0 ≤ ρ 0 1 ∧ ρ 0 1 ≤ 9 := by omega
  unfold seamB
  rw [if_neg (by omega)]
  refine g_X8_seamTold_17 ⟨by omega, fun _ => ?_, fun q => absurd h5 q⟩
  rw [c1]
  refine p_X8_seamTold_36 (d2 := d - 1) (s_newName ht h hr hb (by omega)) (by omega) ?_
  rintro _ z1 ⟨w, rfl, e1, h1⟩
  refine ⟨w, rfl, ?_⟩
  have E1 := e1.mono (fun a j q => mt_n8 q)
  cases g1 : nmeR T n ρ (nx T n x.1, x.2) with
  | error e => rw [g1] at h1; exact seam8E39 s9 E1 h1 w (by omega)
  | ok a =>
  rw [g1] at h1
  obtain ⟨nmw, h1⟩ := h1
  obtain ⟨m1, m2, m3, m4, rfl⟩ := nmeR_ok g1
  have t1 := ht.n8 e1
  have r1 := hr.n8 e1
  show S_X8_seamTold sc d 39 _ _ z1 (PM T n m ((exW T n 4 _).bind _))
  refine g_X8_seamTold_39 (p_X8_seamTold_45 (d2 := d - 1) (wrd_at (iw (by decide))).1 (s_asks (c := 69) (iw (by decide)) t1 h1 (by omega)) (by omega) ?_)
  rintro z2 ⟨-, e2, h2⟩
  have E2 := E1.trans (e2.mono (fun a j q => mt_lk q))
  rw [show ((wOf 69 : Nat) : Int) = 4 from rfl] at h2
  rcases h2 with ⟨w4, h2⟩ | ⟨w4, h2⟩
  case inr =>
    have e : exW T n 4 (nx T n (nx T n x.1), x.2) = .error (1, ((nx T n (nx T n x.1)).1 : Nat)) := by unfold exW; rw [if_neg w4]
    rw [e]
    exact seam8E48 s9 E2 h2 w (by omega)
  have e4 : exW T n 4 (nx T n (nx T n x.1), x.2) = .ok (nx T n (nx T n (nx T n x.1)), x.2) := by unfold exW; rw [if_pos w4]
  rw [e4]
  have h2 : MSt T n z2 (nx T n (nx T n (nx T n x.1))) := h2
  have t2 := t1.lk e2
  have r2 := r1.lk e2
  refine g_X8_seamTold_48 (p_X8_seamTold_57 (d2 := d - 1) ic_99 (s_X8_number (by decide) (by decide) t2 h2 (by omega)) (by omega) ?_)
  rintro v z3 ⟨_, q, -, e3, h3⟩; cases q
  have E3 := E2.trans (e3.mono (fun a j q => mt_lk q))
  show S_X8_seamTold sc d 60 _ _ z3 (PM T n m ((numR T n 1 99 (nx T n (nx T n (nx T n x.1)))).bind _))
  cases g3 : numR T n 1 99 (nx T n (nx T n (nx T n x.1))) with
  | error e => rw [g3] at h3; exact seam8E60 s9 E3 h3 w v (by omega)
  | ok y =>
  rw [g3] at h3
  obtain ⟨rfl, h3, -⟩ := h3
  have v2 := numR_ok g3
  have t3 := t2.lk e3
  have r3 := r2.lk e3
  show S_X8_seamTold sc d 60 _ _ z3 (PM T n m ((plcR T n v (shS T n (nx T n (nx T n (nx T n (nx T n x.1)))))).bind fun c => .ok ((c.1, x.2), addS ρ (ltr T n (nx T n x.1)) v (shV T n (nx T n (nx T n (nx T n (nx T n x.1))))) c.2)))
  generalize nx T n (nx T n (nx T n (nx T n x.1))) = τ at h3 ⊢
  refine g_X8_seamTold_60 ic_99 ⟨by omega, by rw [al_99]; omega, ?_⟩
  have e4' : Ex (C_sq (ρ 0 1)) z3 (wr z3 99 (7 * ρ 0 1) v) := (Ex.refl _ _).put (Or.inr ⟨rfl, by omega, by omega⟩)
  have y4 : wr z3 99 (7 * ρ 0 1) v 99 (7 * ρ 0 1) = v := wr_eq _ _ _ _
  have m4' : Ex (fun a j => a = 99) z3 (wr z3 99 (7 * ρ 0 1) v) := (Ex.refl _ _).put rfl
  generalize wr z3 99 (7 * ρ 0 1) v = z4 at e4' y4 m4' ⊢
  have E4 := E3.trans (e4'.mono (fun a j q => mt_sm s9 q))
  have t4 := t3.mr m4' (fun a j q => by unfold C_mr; omega)
  have h4 := h3.mr m4' (fun a j q => by unfold C_mr; omega)
  have r4 := r3.sm hb e4'
  refine p_X8_seamTold_73 (d2 := d - 1) ic_99 (wrd_at (iw (by decide))).1 (s_takes (c := 70) (iw (by decide)) t4 h4 (by omega)) (by omega) ?_
  -- behind the look for "shown"
  have at76 : ∀ (s0 : Int) (κ : Stt) (sh : Int) (z : Mem), (s0 = 0 ∨ s0 = 1) → sh = (if s0 = 0 then 0 else 1 : Int) → Ex C_lk z4 z → MSt T n z κ → S_X8_seamTold sc d 76 [aR 62, aU, aI (7 * ρ 0 1), aJ w, aU] [aI s0, aI (7 * ρ 0 1 + 1), aR 99] z (PM T n m ((plcR T n v κ).bind fun c => .ok ((c.1, x.2), addS ρ (ltr T n (nx T n x.1)) v sh c.2))) := by
    intro s0 κ sh z hs0 hsh ze hz
    refine g_X8_seamTold_76 ic_99 ⟨by omega, by omega, by rw [al_99]; omega, by omega, by omega, ?_⟩
    rw [← hsh]
    have ue : Ex (C_sq (ρ 0 1)) z (wr (wr z 99 (7 * ρ 0 1 + 1) sh) 99 (7 * ρ 0 1 + 2) 0) := ((Ex.refl _ _).put (Or.inr ⟨rfl, by omega, by omega⟩)).put (Or.inr ⟨rfl, by omega, by omega⟩)
    have um : Ex (fun a j => a = 99) z (wr (wr z 99 (7 * ρ 0 1 + 1) sh) 99 (7 * ρ 0 1 + 2) 0) := Ex.put (Ex.put (Ex.refl (fun a j => a = 99) z) (show (99 : Int) = 99 from rfl)) (show (99 : Int) = 99 from rfl)
    have u0 : wr (wr z 99 (7 * ρ 0 1 + 1) sh) 99 (7 * ρ 0 1 + 2) 0 99 (7 * ρ 0 1) = v := by rw [wr_ne _ _ _ _ _ _ (by omega), wr_ne _ _ _ _ _ _ (by omega), ze 99 _ (fun c => by unfold C_lk at c; omega)]; exact y4
    have u1 : wr (wr z 99 (7 * ρ 0 1 + 1) sh) 99 (7 * ρ 0 1 + 2) 0 99 (7 * ρ 0 1 + 1) = sh := by rw [wr_ne _ _ _ _ _ _ (by omega), wr_eq]
    have u2 : wr (wr z 99 (7 * ρ 0 1 + 1) sh) 99 (7 * ρ 0 1 + 2) 0 99 (7 * ρ 0 1 + 2) = 0 := wr_eq _ _ _ _
    generalize wr (wr z 99 (7 * ρ 0 1 + 1) sh) 99 (7 * ρ 0 1 + 2) 0 = u at ue um u0 u1 u2 ⊢
    have Eu := (E4.trans (ze.mono (fun a j q => mt_lk q))).trans (ue.mono (fun a j q => mt_sm s9 q))
    have tu := (t4.lk ze).mr um (fun a j q => by unfold C_mr; omega)
    have su := hz.mr um (fun a j q => by unfold C_mr; omega)
    have ru := (r4.lk ze).sm hb ue
    -- the end
    have fin : ∀ (κ2 : Stt) (pl : List Int) (y : Mem), Ex (C_pc (ρ 0 1)) u y → MSt T n y κ2 → PcM y (ρ 0 1) v pl → pl.length ≤ 4 → (y 95 1 = ρ 0 1) ∧ PM T n m (.ok ((κ2, x.2), addS ρ (ltr T n (nx T n x.1)) v sh pl)) none (wr (wr y 96 (y 95 1) w) 95 1 ((wr y 96 (y 95 1) w) 95 1 + 1)) := by
      intro κ2 pl y ye hy hpl hl4
      have ry := ru.sm hb (ye.mono (fun a j q => q.elim Or.inl (fun q => Or.inr ⟨q.1, by omega, by omega⟩)))
      have y1 : y 95 1 = ρ 0 1 := ry.1.2.1
      have w1 : (wr y 96 (y 95 1) w) 95 1 = ρ 0 1 := by rw [wr_na _ _ _ _ _ _ (by decide)]; exact y1
      rw [w1, y1]
      have we : Ex (fun a j => (a = 96 ∧ j = ρ 0 1) ∨ (a = 95 ∧ j = 1)) y (wr (wr y 96 (ρ 0 1) w) 95 1 (ρ 0 1 + 1)) := ((Ex.refl _ _).put (Or.inl ⟨rfl, rfl⟩)).put (Or.inr ⟨rfl, rfl⟩)
      refine ⟨rfl, rfl, (Eu.trans (ye.mono (fun a j q => mt_pc s9 q))).trans (we.mono (fun a j q => by
        rcases q with ⟨q1, q2⟩ | ⟨q1, q2⟩
        · exact mt96 ⟨q1, by omega⟩
        · exact mt95 ⟨q1, by omega⟩)), ?_, ?_, ?_⟩
      · exact ((tu.ex ye (fun a j q c => by unfold C_pc C_lk at c; unfold IsW at q; omega))).mr we (fun a j q => by unfold C_mr; omega)
      · exact hy.mr we (fun a j q => by unfold C_mr; omega)
      · exact mrt_seam ry hb (by omega) hpl (by rw [ye 99 _ (fun c => by unfold C_pc C_lk at c; omega)]; exact u1) hl4 nmw
    refine p_X8_seamTold_99 (d2 := d - 1) (wrd_at (iw (by decide))).1 (s_takes (c := 71) (iw (by decide)) tu su (by omega)) (by omega) ?_
    rintro v0 z5 ⟨e5, ⟨q, w6, h6⟩ | ⟨q, w6, h6⟩⟩ <;> cases q
    · rw [show ((wOf 71 : Nat) : Int) = 6 from rfl] at w6
      unfold plcR
      rw [if_pos w6]
      refine g_X8_seamTold_102 ⟨by decide, fun q => absurd q (by decide), fun _ => ?_⟩
      have key : ∀ (f : Nat) (κ3 : Stt) (l : List Int) (y : Mem), l.length + f = 4 → 0 ≤ lstI l ∧ lstI l ≤ 98 → Ex (C_pc (ρ 0 1)) u y → MSt T n y κ3 → (l.length = 4 → y 62 2 = (κ3.1 : Nat)) → PcM y (ρ 0 1) v l → S_X8_seamTold sc d 105 [aR 62, aU, aI (7 * ρ 0 1), aJ w, aU] [] y (PM T n m ((plsR T n v f (lstI l) κ3 l).bind fun c => .ok ((c.1, x.2), addS ρ (ltr T n (nx T n x.1)) v sh c.2))) := by
        intro f
        induction f with
        | zero =>
          intro κ3 l y hl hL ye hy h4l hpl
          have ty : Tm y T n := tu.ex ye (fun a j q c => by unfold C_pc C_lk at c; unfold IsW at q; omega)
          refine g_X8_seamTold_105 (p_X8_seamTold_107 (d2 := d - 1) (s_placeTold ty hy h4l hpl s9 ⟨v2.2.1, v2.2.2.1⟩ ⟨by omega, hL⟩ (by omega)) (by omega) ?_)
          rintro a ⟨-, ae, ha⟩
          rw [if_pos (by omega)] at ha
          have ha : MEr a (5, (κ3.1 : Nat)) := ha
          exact g_X8_seamTold_110 ⟨ha.ne.2, fun _ => ⟨fun q => absurd q ha.ne.1, fun _ => ⟨rfl, (Eu.trans (ye.mono (fun a j q => mt_pc s9 q))).trans (ae.mono (fun a j q => mt_pc s9 q)), ha⟩⟩, fun q => absurd ha.ne.1 q⟩
        | succ f ih =>
          intro κ3 l y hl hL ye hy h4l hpl
          have ty : Tm y T n := tu.ex ye (fun a j q c => by unfold C_pc C_lk at c; unfold IsW at q; omega)
          refine g_X8_seamTold_105 (p_X8_seamTold_107 (d2 := d - 1) (s_placeTold ty hy h4l hpl s9 ⟨v2.2.1, v2.2.2.1⟩ ⟨by omega, hL⟩ (by omega)) (by omega) ?_)
          rintro a ⟨-, ae, ha⟩
          rw [if_neg (by omega)] at ha
          have Ea := ye.trans ae
          rw [plsR]
          cases gg : numR T n (lstI l + 1) (v - 1) κ3 with
          | error e =>
            rw [gg] at ha
            have ha : MEr a e := ha
            exact g_X8_seamTold_110 ⟨ha.ne.2, fun _ => ⟨fun q => absurd q ha.ne.1, fun _ => ⟨rfl, Eu.trans (Ea.mono (fun a j q => mt_pc s9 q)), ha⟩⟩, fun q => absurd ha.ne.1 q⟩
          | ok p =>
            rw [gg] at ha
            obtain ⟨ha, pa⟩ := ha
            have p2 := numR_ok gg
            have a5 := ha.2.1.1
            have ta : Tm a T n := tu.ex Ea (fun a j q c => by unfold C_pc C_lk at c; unfold IsW at q; omega)
            have lb := @lk_bd T n (nx T n κ3) ta.by
            have ll : (l ++ [p]).length = l.length + 1 := by rw [List.length_append]; rfl
            have lp : lstI (l ++ [p]) = p := by
              unfold lstI
              rw [ll, if_neg (by omega), show l.length + 1 - 1 = l.length by omega, gd_e]
            refine g_X8_seamTold_110 ⟨by omega, fun q => absurd a5 q, fun _ => ?_⟩
            refine p_X8_seamTold_118 (d2 := d - 1) (s_look ta ha) (by omega) ?_
            rintro _ c ⟨q, ce, cl⟩; cases q
            have Ec := Ea.trans (ce.mono (fun a j q => Or.inl q))
            have pc : PcM c (ρ 0 1) v (l ++ [p]) := by
              have cc : ∀ j, c 99 j = a 99 j := fun j => ce 99 j (fun q => by unfold C_lk at q; omega)
              unfold PcM
              rw [cc, cc]
              exact ⟨pa.1, pa.2.1, fun k hk => by rw [cc]; exact pa.2.2 k hk⟩
            refine p_X8_seamTold_121 (d2 := d - 1) (s_isDigit (by unfold R32; omega)) (by omega) ?_
            rintro _ c' ⟨q, rfl⟩; cases q
            show S_X8_seamTold sc d 124 _ _ c' (PM T n m ((if kd T n (nx T n κ3) = 257 then plsR T n v f p (nx T n κ3) (l ++ [p]) else .ok (nx T n κ3, l ++ [p])).bind _))
            by_cases cd : kd T n (nx T n κ3) = 257
            · rw [if_pos ((nx_dig p2.1 ta.by).mpr cd), if_pos cd]
              refine g_X8_seamTold_124 ⟨by decide, fun _ => ?_, fun q => absurd (by decide) q⟩
              have := ih (nx T n κ3) (l ++ [p]) c' (by omega) (by rw [lp]; omega) Ec cl.1 (fun _ => cl.2) pc
              rw [lp] at this
              exact this
            · rw [if_neg (fun q => cd ((nx_dig p2.1 ta.by).mp q)), if_neg cd]
              have c5 := cl.1.2.1.1
              obtain ⟨k1, k2⟩ := fin (nx T n κ3) (l ++ [p]) c' Ec cl.1 pc (by omega)
              exact g_X8_seamTold_124 ⟨by decide, fun q => absurd rfl q, fun _ => ⟨by omega, fun _ => ⟨by omega, by omega, k2⟩, fun q => absurd c5 q⟩⟩
      have := key 4 (nx T n κ) [] z5 rfl (by decide) (e5.mono (fun a j q => Or.inl q)) h6 (fun q => by cases q) ⟨by rw [e5 99 _ (fun c => by unfold C_lk at c; omega)]; exact u0, by rw [e5 99 _ (fun c => by unfold C_lk at c; omega)]; exact u2, fun k hk => absurd hk (by show ¬ k < 0; omega)⟩
      exact this
    · rw [show ((wOf 71 : Nat) : Int) = 6 from rfl] at w6
      unfold plcR
      rw [if_neg w6]
      have c5 := h6.1.2.1.1
      obtain ⟨k1, k2⟩ := fin κ [] z5 (e5.mono (fun a j q => Or.inl q)) h6.1 ⟨by rw [e5 99 _ (fun c => by unfold C_lk at c; omega)]; exact u0, by rw [e5 99 _ (fun c => by unfold C_lk at c; omega)]; exact u2, fun k hk => absurd hk (by show ¬ k < 0; omega)⟩ (by decide)
      exact g_X8_seamTold_102 ⟨by decide, fun _ => ⟨by omega, fun _ => ⟨by omega, by omega, k2⟩, fun q => absurd c5 q⟩, fun q => absurd rfl q⟩
  rintro v0 z5 ⟨e5, ⟨q, w5, h6⟩ | ⟨q, w5, h6⟩⟩ <;> cases q
  · rw [show ((wOf 70 : Nat) : Int) = 5 from rfl] at w5
    have := at76 1 (nx T n τ) 1 z5 (Or.inr rfl) rfl e5 h6
    unfold shS shV
    rw [if_pos w5, if_pos w5]
    exact this
  · rw [show ((wOf 70 : Nat) : Int) = 5 from rfl] at w5
    have := at76 0 τ 0 z5 (Or.inl rfl) rfl e5 h6.1
    unfold shS shV
    rw [if_neg w5, if_neg w5]
    exact this
end RL2
