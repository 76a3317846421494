/-! rooms as texts: rules and statements of the reference -/
section RM2
variable {sc : List Int} {d : Nat} {m ρ : Mem} {Q : Option AV → Mem → Prop} {T : Int → Int} {n : Nat} {σ : Stt}
theorem rule8E37 {e : Int × Int} {y : Mem} (ye : Ex C_mt m y) (hy : MEr y e) (w : Int) : S_X8_ruleTold sc d 37 [aR 62, aU, aJ w, aU, aU] [] y (PM T n m (.error e)) := g_X8_ruleTold_37 ⟨hy.ne.2, fun q => absurd q hy.ne.1, fun _ => ⟨rfl, ye, hy⟩⟩
theorem rule8E28 {e : Int × Int} {y : Mem} (ye : Ex C_mt m y) (hy : MEr y e) (w : Int) (hd : 2 ≤ d) : S_X8_ruleTold sc d 28 [aR 62, aU, aU, aU, aU] [aJ w] y (PM T n m (.error e)) := by
  refine g_X8_ruleTold_28 (p_X8_ruleTold_34 (d2 := d - 1) (wrd_at (iw (by decide))).1 (asksE (iw (by decide)) hy) (by omega) ?_)
  rintro z ⟨-, rfl⟩
  exact rule8E37 ye hy w
theorem s_ruleTold {x : Stt × List Int} (ht : Tm m T n) (h : MSt T n m (nx T n x.1)) (hr : MRt m ρ x.2) (hp : PI n (x, ρ)) (hk : kd T n x.1 ≠ 258) (hd : 30 ≤ d) : P_X8_ruleTold sc d [aR 62, aI (x.1.1 : Nat)] m (PM T n m (ruleB T n x ρ)) := by
  have n1 := ht.1
  have b : (0 ≤ ρ 0 0 ∧ ρ 0 0 ≤ 6 ∧ 0 ≤ ρ 0 1 ∧ ρ 0 1 ≤ 10 ∧ 0 ≤ ρ 0 2 ∧ ρ 0 2 ≤ 4 ∧ 0 ≤ ρ 0 3 ∧ ρ 0 3 ≤ 60) := hp.1.1
  have hb : RmC ρ := hp.1
  have c2 : m 95 2 = ρ 0 2 := hr.1.2.2
  have h5 := h.2.1.1
  have xn : x.1.1 ≤ n := hp.2.2.2.2.2
  have xl : x.2.length ≤ x.1.1 := hp.2.2.2.2.1
  have q10 : ρ 10 (ρ 0 2) = (x.2.length : Nat) := hp.2.2.2.1.1
  refine ep_X8_ruleTold (g_X8_ruleTold_0 ⟨by omega, fun c => ?_, fun c => ?_⟩)
  case refine_2 =>
    unfold ruleB
    rw [if_pos (by omega)]
    refine p_X8_ruleTold_13 (d2 := d - 1) (s_X8_fail h5 (by decide) (by omega)) (by omega) ?_
    rintro z ⟨-, ze, hz⟩
    exact g_X8_ruleTold_16 ⟨hz.ne.2, fun q => absurd q hz.ne.1, fun _ => ⟨rfl, ze.mono (fun a j q => mt_lk q), hz⟩⟩
  unfold ruleB
  rw [if_neg (by omega)]
  refine g_X8_ruleTold_16 ⟨by omega, fun _ => ?_, fun q => absurd h5 q⟩
  refine p_X8_ruleTold_25 (d2 := d - 1) (s_newName ht h hr hb (by omega)) (by omega) ?_
  rintro _ z1 ⟨w, rfl, e1, h1⟩
  refine ⟨w, rfl, ?_⟩
  have E1 := e1.mono (fun a j q => mt_n8 q)
  cases g1 : nmeR T n ρ (nx T n x.1, x.2) with
  | error e => rw [g1] at h1; exact rule8E28 E1 h1 w (by omega)
  | ok a =>
  rw [g1] at h1
  obtain ⟨nmw, h1⟩ := h1
  obtain ⟨m1, m2, m3, m4, rfl⟩ := nmeR_ok g1
  have t1 := ht.n8 e1
  have r1 := hr.n8 e1
  show S_X8_ruleTold sc d 28 _ _ z1 (PM T n m ((exW T n 8 _).bind _))
  refine g_X8_ruleTold_28 (p_X8_ruleTold_34 (d2 := d - 1) (wrd_at (iw (by decide))).1 (s_asks (c := 73) (iw (by decide)) t1 h1 (by omega)) (by omega) ?_)
  rintro z2 ⟨-, e2, h2⟩
  have E2 := E1.trans (e2.mono (fun a j q => mt_lk q))
  rw [show ((wOf 73 : Nat) : Int) = 8 from rfl] at h2
  rcases h2 with ⟨w4, h2⟩ | ⟨w4, h2⟩
  case inr =>
    have e : exW T n 8 (nx T n (nx T n x.1), x.2) = .error (1, ((nx T n (nx T n x.1)).1 : Nat)) := by unfold exW; rw [if_neg w4]
    rw [e]
    exact rule8E37 E2 h2 w
  have e4 : exW T n 8 (nx T n (nx T n x.1), x.2) = .ok (nx T n (nx T n (nx T n x.1)), x.2) := by unfold exW; rw [if_pos w4]
  rw [e4]
  have h2 : MSt T n z2 (nx T n (nx T n (nx T n x.1))) := h2
  have t2 := t1.lk e2
  have r2 := r1.lk e2
  have k0 := nx_of hk
  have k1 := nx_of (T := T) (n := n) (σ := nx T n x.1) (by rw [m1]; decide)
  have k2 : (nx T n (nx T n x.1)).1 < (nx T n (nx T n (nx T n x.1))).1 ∧ (nx T n (nx T n (nx T n x.1))).1 ≤ n := wE_n2 w4 (by decide)
  show S_X8_ruleTold sc d 37 _ _ z2 (PM T n m ((rdTest T n true 6 (nx T n (nx T n (nx T n x.1)))).bind fun c => .ok ((c.1, x.2 ++ c.2), addR ρ (ltr T n (nx T n x.1)) (x.2 ++ c.2))))
  generalize nx T n (nx T n (nx T n x.1)) = τ at h2 k2 ⊢
  have z5 := h2.2.1.1
  refine g_X8_ruleTold_37 ⟨by omega, fun _ => ?_, fun q => absurd z5 q⟩
  have ye : Ex (fun a j => a = 62 ∧ (j = 54 ∨ j = 112 ∨ j = 114 ∨ j = 115 ∨ j = 116)) z2 (wr (wr (wr (wr (wr z2 62 54 1) 62 112 0) 62 114 0) 62 115 0) 62 116 0) := (((((Ex.refl _ _).put ⟨rfl, by decide⟩).put ⟨rfl, by decide⟩).put ⟨rfl, by decide⟩).put ⟨rfl, by decide⟩).put ⟨rfl, by decide⟩
  have y54 : wr (wr (wr (wr (wr z2 62 54 1) 62 112 0) 62 114 0) 62 115 0) 62 116 0 62 54 = 1 := by simp [wr]
  have y112 : wr (wr (wr (wr (wr z2 62 54 1) 62 112 0) 62 114 0) 62 115 0) 62 116 0 62 112 = 0 := by simp [wr]
  have y114 : wr (wr (wr (wr (wr z2 62 54 1) 62 112 0) 62 114 0) 62 115 0) 62 116 0 62 114 = 0 := by simp [wr]
  have y115 : wr (wr (wr (wr (wr z2 62 54 1) 62 112 0) 62 114 0) 62 115 0) 62 116 0 62 115 = 0 := by simp [wr]
  generalize wr (wr (wr (wr (wr z2 62 54 1) 62 112 0) 62 114 0) 62 115 0) 62 116 0 = y at ye y54 y112 y114 y115 ⊢
  have Ey : Ex C_mt m y := E2.trans (ye.mono (fun a j q => by
    by_cases c : j = 54
    · exact mt62 ⟨q.1, by omega⟩
    · by_cases c2 : j = 116
      · exact mt_qt (Or.inr (by omega))
      · exact mt_qt (Or.inl (Or.inr (Or.inl (by omega))))))
  have ty : Tm y T n := t2.ex ye (fun a j q c => by unfold IsW at q; omega)
  have sy : MSt T n y τ := h2.ex ye (fun a j q c => by unfold C_lk at q; omega)
  have ry : MRt y ρ x.2 := r2.ex ye (fun a j c => by omega)
  have ky : MKs y [] [] 0 := ⟨y112, fun j hj => absurd hj (by show ¬ j < 0; omega), y114, trivial, fun t q => absurd q List.not_mem_nil, y115, by decide, by decide⟩
  have my : MTs T n true y τ [] [] 0 := ⟨ty, by unfold MRu; rw [y54, if_pos rfl], sy, ky, by show 0 ≤ τ.1; omega⟩
  refine p_X8_ruleTold_71 (d2 := d - 1) (s_qTest (by omega) my) (by omega) ?_
  rintro u ⟨-, ue, hu⟩
  have Eu := Ey.trans (ue.mono (fun a j q => mt_qt q))
  have ru : MRt u ρ x.2 := ry.ex ue (fun a j c => by unfold C_qt C_qs C_lk C_k at c; omega)
  cases g3 : rdTest T n true 6 τ with
  | error e =>
    rw [g3] at hu
    have hu : MEr u e := hu
    exact g_X8_ruleTold_74 ⟨hu.ne.2, fun q => absurd q hu.ne.1, fun _ => ⟨rfl, Eu, hu⟩⟩
  | ok c =>
  rw [g3] at hu
  obtain ⟨tu, -, su, ku, -⟩ := hu
  have u5 := su.2.1.1
  have cn : _ ∧ c.1.1 ≤ n ∧ τ.1 + c.2.length ≤ c.1.1 := cnt_test (T := T) (n := n) (rl := true) 6 _ c k2.2 g3
  have u95 : u 95 2 = ρ 0 2 := ru.1.2.2
  have u51 : u 62 51 = (x.2.length : Nat) := ru.2.2.2.2.1.2.1
  have len : (x.2 ++ c.2).length = x.2.length + c.2.length := List.length_append
  show S_X8_ruleTold sc d 74 _ _ u (PM T n m (.ok ((c.1, x.2 ++ c.2), addR ρ (ltr T n (nx T n x.1)) (x.2 ++ c.2))))
  refine g_X8_ruleTold_74 ⟨by omega, fun _ => ⟨by omega, by omega, ?_⟩, fun q => absurd u5 q⟩
  have e6 : Ex (fun a j => a = 101 ∧ j = ρ 0 2) u (wr u 101 (u 95 2) (u 62 51)) := (Ex.refl _ _).put ⟨rfl, u95⟩
  have v101 : wr u 101 (u 95 2) (u 62 51) 101 (ρ 0 2) = (x.2.length : Nat) := by rw [← u95, wr_eq, u51]
  generalize wr u 101 (u 95 2) (u 62 51) = v at e6 v101 ⊢
  have cq : ∀ j : Nat, j < c.2.length → v 148 j = c.2.getD j 0 := fun j hj => by
    rw [e6 148 _ (by omega)]; exact ku.2.1 j hj
  have v112 : v 62 112 = (c.2.length : Nat) := (e6 62 112 (by omega)).trans ku.1
  have v51 : v 62 51 = (x.2.length : Nat) := (e6 62 51 (by omega)).trans u51
  have v95 : v 95 2 = ρ 0 2 := (e6 95 2 (by omega)).trans u95
  have key : ∀ (f i : Nat) (z : Mem), i + f = c.2.length → Ex (fun a j => (a = 103 ∧ (x.2.length : Int) ≤ j ∧ j < 1600) ∨ (a = 62 ∧ j = 51)) v z → z 62 51 = ((x.2.length + i : Nat) : Int) → (∀ j : Nat, j < i → z 103 ((x.2.length + j : Nat) : Int) = c.2.getD j 0) → S_X8_ruleTold sc d 100 [aR 62, aU, aJ w, aU, aI i] [] z (PM T n m (.ok ((c.1, x.2 ++ c.2), addR ρ (ltr T n (nx T n x.1)) (x.2 ++ c.2)))) := by
    intro f
    induction f with
    | zero =>
      intro i z hi ze z51 hz
      have z112 : z 62 112 = (c.2.length : Nat) := (ze 62 112 (by omega)).trans v112
      have z95 : z 95 2 = ρ 0 2 := (ze 95 2 (by omega)).trans v95
      have p1 : wr z 102 (z 95 2) (z 62 51) 95 2 = ρ 0 2 := by rw [wr_na _ _ _ _ _ _ (by decide)]; exact z95
      have p2 : wr (wr z 102 (z 95 2) (z 62 51)) 96 (10 + ρ 0 2) w 95 2 = ρ 0 2 := by rw [wr_na _ _ _ _ _ _ (by decide)]; exact p1
      refine g_X8_ruleTold_100 ⟨by omega, by omega, fun _ => ⟨by omega, by omega, by rw [p1]; omega, by rw [p1]; omega, ?_⟩, fun q => by omega⟩
      rw [p1, p2, z95, z51]
      have we : Ex (fun a j => (a = 102 ∧ j = ρ 0 2) ∨ (a = 96 ∧ j = 10 + ρ 0 2) ∨ (a = 95 ∧ j = 2)) z (wr (wr (wr z 102 (ρ 0 2) ((x.2.length + i : Nat) : Int)) 96 (10 + ρ 0 2) w) 95 2 (ρ 0 2 + 1)) := (((Ex.refl _ _).put (Or.inl ⟨rfl, rfl⟩)).put (Or.inr (Or.inl ⟨rfl, rfl⟩))).put (Or.inr (Or.inr ⟨rfl, rfl⟩))
      have w95 : wr (wr (wr z 102 (ρ 0 2) ((x.2.length + i : Nat) : Int)) 96 (10 + ρ 0 2) w) 95 2 (ρ 0 2 + 1) 95 2 = ρ 0 2 + 1 := wr_eq _ _ _ _
      have w96 : wr (wr (wr z 102 (ρ 0 2) ((x.2.length + i : Nat) : Int)) 96 (10 + ρ 0 2) w) 95 2 (ρ 0 2 + 1) 96 (10 + ρ 0 2) = w := by rw [wr_na _ _ _ _ _ _ (by decide), wr_eq]
      have w102 : wr (wr (wr z 102 (ρ 0 2) ((x.2.length + i : Nat) : Int)) 96 (10 + ρ 0 2) w) 95 2 (ρ 0 2 + 1) 102 (ρ 0 2) = ((x.2.length + i : Nat) : Int) := by rw [wr_na _ _ _ _ _ _ (by decide), wr_na _ _ _ _ _ _ (by decide), wr_eq]
      generalize wr (wr (wr z 102 (ρ 0 2) ((x.2.length + i : Nat) : Int)) 96 (10 + ρ 0 2) w) 95 2 (ρ 0 2 + 1) = y2 at we w95 w96 w102 ⊢
      have all : Ex (fun a j => (a = 101 ∧ j = ρ 0 2) ∨ (a = 103 ∧ (x.2.length : Int) ≤ j ∧ j < 1600) ∨ (a = 62 ∧ j = 51) ∨ (a = 102 ∧ j = ρ 0 2) ∨ (a = 96 ∧ j = 10 + ρ 0 2) ∨ (a = 95 ∧ j = 2)) u y2 := ((e6.mono (fun a j q => Or.inl q)).trans (ze.mono (fun a j q => q.elim (fun q => Or.inr (Or.inl q)) (fun q => Or.inr (Or.inr (Or.inl q)))))).trans (we.mono (fun a j q => Or.inr (Or.inr (Or.inr q))))
      refine ⟨rfl, Eu.trans (all.mono (fun a j q => by
        rcases q with ⟨q1, q2⟩ | ⟨q1, q2, q3⟩ | ⟨q1, q2⟩ | ⟨q1, q2⟩ | ⟨q1, q2⟩ | ⟨q1, q2⟩
        · exact mt101 ⟨q1, by omega⟩
        · exact mt103 ⟨q1, by omega⟩
        · exact mt62 ⟨q1, by omega⟩
        · exact mt102 ⟨q1, by omega⟩
        · exact mt96 ⟨q1, by omega⟩
        · exact mt95 ⟨q1, by omega⟩)), tu.mr all (fun a j q => by unfold C_mr; omega), su.mr all (fun a j q => by unfold C_mr; omega), ?_⟩
      show MRt y2 (addR ρ (ltr T n (nx T n x.1)) (x.2 ++ c.2)) (x.2 ++ c.2)
      obtain ⟨⟨a1, a2, a3⟩, bb, cc, dd, ⟨f1, f2, f3⟩, g1, g2⟩ := ru
      have ee : ∀ a j, ¬ ((a = 101 ∧ j = ρ 0 2) ∨ (a = 103 ∧ (x.2.length : Int) ≤ j ∧ j < 1600) ∨ (a = 62 ∧ j = 51) ∨ (a = 102 ∧ j = ρ 0 2) ∨ (a = 96 ∧ j = 10 + ρ 0 2) ∨ (a = 95 ∧ j = 2)) → y2 a j = u a j := all
      refine ⟨⟨by rw [ee _ _ (by omega), aR_z (by decide)]; exact a1, by rw [ee _ _ (by omega), aR_z (by decide)]; exact a2, by rw [w95, aR_0]⟩, ?_, ?_, ?_, ⟨fun k hk => ?_, ?_, fun j hj => ?_⟩, ?_, fun k hk => ?_⟩
      · rw [aR_z (by decide), aR_a (a := 1) (by decide), aR_a (a := 2) (by decide)]
        intro i hi
        rw [ee _ _ (by omega), ee _ _ (by omega)]; exact bb i hi
      · rw [aR_z (by decide), aR_a (a := 3) (by decide), aR_a (a := 4) (by decide), aR_a (a := 5) (by decide), aR_a (a := 6) (by decide)]
        intro s hs
        rw [ee _ _ (by omega), ee _ _ (by omega), ee _ _ (by omega)]
        have k := cc s hs
        exact ⟨k.1, k.2.1, k.2.2.1, fun i hi => by rw [ee _ _ (by omega)]; exact k.2.2.2 i hi⟩
      · rw [aR_a (by decide)]
        intro i hi
        rw [ee _ _ (by omega)]; exact dd i hi
      · rw [aR_0] at hk
        by_cases g : (k : Int) = ρ 0 2
        · rw [g, w102, aR_10, aR_n ⟨by omega, by omega, by omega, by omega⟩, q10, len, show i = c.2.length by omega]
          refine ⟨?_, rfl⟩
          rw [we 101 _ (by omega), ze 101 _ (by omega)]
          exact v101
        · rw [ee _ _ (by omega), ee _ _ (by omega), aR_n ⟨by omega, by omega, by omega, by omega⟩, aR_n ⟨by omega, by omega, by omega, by omega⟩]
          exact f1 k (by omega)
      · rw [we 62 51 (by omega), z51, len]; omega
      · rw [len] at hj
        by_cases g : j < x.2.length
        · rw [ee _ _ (by omega), gd_l g]; exact f3 j g
        · rw [we 103 _ (by omega)]
          have := hz (j - x.2.length) (by omega)
          rw [show (x.2.length + (j - x.2.length)) = j by omega] at this
          rw [this, getD_ge 0 (by omega), getD_ge 0 (by rw [len]; omega), List.getElem_append_right (by omega)]
      · rw [aR_z (by decide)]
        intro s hs
        rw [ee _ _ (by omega)]
        exact (g1 s hs).cg (fun j hj => aR_n ⟨by omega, by omega, by omega, by omega⟩)
      · rw [aR_0] at hk
        by_cases g : (k : Int) = ρ 0 2
        · rw [g, w96]
          exact nmw.cg (fun j hj => aR_8 hj)
        · rw [ee _ _ (by omega)]
          exact (g2 k (by omega)).cg (fun j hj => aR_n ⟨by omega, by omega, by omega, by omega⟩)
    | succ f ih =>
      intro i z hi ze z51 hz
      have z112 : z 62 112 = (c.2.length : Nat) := (ze 62 112 (by omega)).trans v112
      have zc : z 148 i = c.2.getD i 0 := (ze 148 _ (by omega)).trans (cq i (by omega))
      refine g_X8_ruleTold_100 ⟨by omega, by omega, fun q => by omega, fun _ => ⟨by omega, by omega, by omega, by omega, ?_⟩⟩
      have p1 : wr z 103 (z 62 51) (z 148 i) 62 51 = ((x.2.length + i : Nat) : Int) := by rw [wr_na _ _ _ _ _ _ (by decide)]; exact z51
      rw [p1, z51, zc]
      have := ih (i + 1) (wr (wr z 103 ((x.2.length + i : Nat) : Int) (c.2.getD i 0)) 62 51 (((x.2.length + i : Nat) : Int) + 1)) (by omega) ((ze.put (Or.inl ⟨rfl, by omega, by omega⟩)).put (Or.inr ⟨rfl, rfl⟩)) (by rw [wr_eq]; omega) (fun j hj => by
        rw [wr_na _ _ _ _ _ _ (by decide)]
        by_cases e : j = i
        · rw [e, wr_eq]
        · rw [wr_ne _ _ _ _ _ _ (by omega)]; exact hz j (by omega))
      rw [show ((i + 1 : Nat) : Int) = (i : Int) + 1 by omega] at this
      exact this
  exact key c.2.length 0 v (by omega) (Ex.refl _ _) v51 (fun j hj => absurd hj (by omega))
def C_mz (a j : Int) : Prop := C_mt a j ∨ (a = 62 ∧ j = 52)
theorem wE_end {k : Int} (h : wE T n σ = k) (hk : 0 ≤ k) : kd T n σ ≠ 258 := wE_n h hk
theorem s_statementTold {a : Rx} (ht : Tm m T n) (h : MLk T n m a.1.1) (hr : MRt m a.2 a.1.2) (hp : PI n a) (h52 : m 62 52 = a.2 0 3) (hd : 40 ≤ d) : P_X8_statementTold sc d [aR 62] m (fun v z => v = none ∧ Ex C_mz m z ∧ MQr T n z (stmR T n a) ∧ ∀ b, stmR T n a = .ok b → z 62 52 = a.2 0 3 + 1) := by
  have n1 := ht.1
  have b := hp.1.1
  have h5 := h.1.2.1.1
  have tail : ∀ (R : Es Rx) (y : Mem), stmB T n a.1 a.2 = R → Ex C_mt m y → MQr T n y R → S_X8_statementTold sc d 217 [aR 62, aU] [aI 59, aR 62] y (fun v z => v = none ∧ Ex C_mz m z ∧ MQr T n z (stmR T n a) ∧ ∀ b, stmR T n a = .ok b → z 62 52 = a.2 0 3 + 1) := by
    intro R y hR ye hy
    have hs : stmR T n a = R.bind (endS T n) := by unfold stmR; rw [hR]
    have y52 : y 62 52 = a.2 0 3 := (ye 62 52 (fun c => by unfold C_mt C_qt C_qs C_lk C_k at c; omega)).trans h52
    rw [hs]
    cases R with
    | error e =>
      have hy : MEr y e := hy
      refine p_X8_statementTold_217 (d2 := d - 1) (asksSignE hy) (by omega) ?_
      rintro z ⟨-, rfl⟩
      refine g_X8_statementTold_220 ⟨rfl, (ye.mono (fun a j q => Or.inl q)).put (Or.inr ⟨rfl, rfl⟩), ⟨?_, ?_, hy.2.2⟩, fun b q => by cases q⟩
      · rw [wr_ne _ _ _ _ _ _ (by decide)]; exact hy.1
      · rw [wr_ne _ _ _ _ _ _ (by decide)]; exact hy.2.1
    | ok c =>
      obtain ⟨ty, sy, ry⟩ := hy
      refine p_X8_statementTold_217 (d2 := d - 1) (s_asksSign (c := 59) (Or.inr ⟨by decide, by decide⟩) ty sy (by omega)) (by omega) ?_
      rintro z ⟨-, ze, hz⟩
      have em := end_m ty ry ze hz
      have z52 : z 62 52 = a.2 0 3 := (ze 62 52 (fun c => by unfold C_lk at c; omega)).trans y52
      have we : Ex (fun a j => a = 62 ∧ j = 52) z (wr z 62 52 (z 62 52 + 1)) := (Ex.refl _ _).put ⟨rfl, rfl⟩
      refine g_X8_statementTold_220 ⟨rfl, ((ye.trans (ze.mono (fun a j q => mt_lk q))).mono (fun a j q => Or.inl q)).trans (we.mono (fun a j q => Or.inr q)), ?_, fun b q => by rw [wr_eq, z52]⟩
      show MQr T n _ (endS T n c)
      cases g : endS T n c with
      | error e =>
        rw [g] at em
        exact MEr.ex em we (fun a j q => by omega)
      | ok c2 =>
        rw [g] at em
        exact ⟨em.1.mr we (fun a j q => by unfold C_mr; omega), em.2.1.mr we (fun a j q => by unfold C_mr; omega), em.2.2.ex we (fun a j q => by omega)⟩
  have m2 : m 62 2 = (a.1.1.1 : Nat) := h.2
  refine ep_X8_statementTold (g_X8_statementTold_0 ⟨by omega, fun c60 => ?_, fun c60 => ?_⟩)
  case refine_2 =>
    have g : stmB T n a.1 a.2 = .error (5, (a.1.1.1 : Nat)) := by unfold stmB; rw [if_pos (by omega)]
    have g2 : stmR T n a = .error (5, (a.1.1.1 : Nat)) := by unfold stmR; rw [g]; rfl
    refine p_X8_statementTold_17 (d2 := d - 1) (s_X8_fail h5 (by decide) (h.pl n1)) (by omega) ?_
    rintro z ⟨-, ze, hz⟩
    rw [m2] at hz
    rw [g2]
    exact g_X8_statementTold_20 ⟨rfl, (ze.mono (fun a j q => mt_lk q)).mono (fun a j q => Or.inl q), hz, fun b q => by cases q⟩
  have n60 : ¬ a.2 0 3 = 60 := by omega
  rw [m2]
  -- one of the six minutes
  have mn : ∀ (w : Int) (z y : Mem) (v : Int), 0 ≤ w → w ≤ 5 → wE T n a.1.1 = 9 + w → Ex C_lk m z → Ex C_lk z y → (match numR T n (loM w) (hiM w) (nx T n a.1.1) with | .ok u => v = u ∧ MSt T n y (nx T n (nx T n a.1.1)) ∧ y 62 10 = ((nx T n a.1.1).1 : Nat) | .error e => MEr y e) → S_X8_statementTold sc d 217 [aR 62, aU] [aI 59, aR 62] (wr y 100 w v) (fun v z => v = none ∧ Ex C_mz m z ∧ MQr T n z (stmR T n a) ∧ ∀ b, stmR T n a = .ok b → z 62 52 = a.2 0 3 + 1) := by
    intro w z y v h0 h5 hw ze ye hy
    have we : Ex (fun a j => a = 100 ∧ j = w) y (wr y 100 w v) := (Ex.refl _ _).put ⟨rfl, rfl⟩
    have Ew : Ex C_mt m (wr y 100 w v) := ((ze.trans ye).mono (fun a j q => mt_lk q)).trans (we.mono (fun a j q => mt100 ⟨q.1, by have := q.2; omega⟩))
    have g : stmB T n a.1 a.2 = minB T n w a.1 a.2 := by
      unfold stmB
      rw [if_neg n60, if_neg (by omega), if_neg (by omega), if_pos ⟨by omega, by omega⟩, show wE T n a.1.1 - 9 = w by omega]
    refine tail _ _ g Ew ?_
    unfold minB
    cases gn : numR T n (loM w) (hiM w) (nx T n a.1.1) with
    | error e => rw [gn] at hy; exact MEr.ex hy we (fun a j q => by omega)
    | ok u =>
      rw [gn] at hy
      obtain ⟨rfl, hy, -⟩ := hy
      have ty := (ht.lk ze).lk ye
      obtain ⟨a1, bb, cc, dd, ⟨f1, f2, f3⟩, g1, g2⟩ := (hr.lk ze).lk ye
      refine ⟨ty.mr we (fun a j q => by unfold C_mr; omega), hy.mr we (fun a j q => by unfold C_mr; omega), ?_⟩
      show MRt (wr y 100 w v) (wr a.2 7 w v) a.1.2
      have zn : ∀ c j, c ≠ 100 → wr y 100 w v c j = y c j := fun c j q => wr_na _ _ _ _ _ _ q
      have zr : ∀ c, c ≠ 7 → wr a.2 7 w v c = a.2 c := fun c q => funext fun j => wr_na _ _ _ _ _ _ q
      unfold MRt
      rw [zr 0 (by decide), zr 1 (by decide), zr 2 (by decide), zr 3 (by decide), zr 4 (by decide), zr 5 (by decide), zr 6 (by decide), zr 8 (by decide), zr 10 (by decide), zn 95 _ (by decide), zn 95 _ (by decide), zn 95 _ (by decide), zn 62 _ (by decide)]
      refine ⟨a1, fun i hi => by rw [zn _ _ (by decide), zn _ _ (by decide)]; exact bb i hi, fun s hs => by rw [zn _ _ (by decide), zn _ _ (by decide), zn _ _ (by decide)]; exact ⟨(cc s hs).1, (cc s hs).2.1, (cc s hs).2.2.1, fun k hk => by rw [zn _ _ (by decide)]; exact (cc s hs).2.2.2 k hk⟩, fun i hi => ?_, ⟨fun k hk => by rw [zn _ _ (by decide), zn _ _ (by decide)]; exact f1 k hk, f2, fun j hj => by rw [zn _ _ (by decide)]; exact f3 j hj⟩, fun s hs => by rw [zn _ _ (by decide)]; exact g1 s hs, fun k hk => by rw [zn _ _ (by decide)]; exact g2 k hk⟩
      by_cases e : (i : Int) = w
      · rw [e, wr_eq, wr_eq]
      · rw [wr_ne _ _ _ _ _ _ (by omega), wr_ne _ _ _ _ _ _ (by omega)]; exact dd i hi
  refine p_X8_statementTold_26 (d2 := d - 1) (wrd_at (iw (by decide))).1 (s_takes (c := 68) (iw (by decide)) ht h.1 (by omega)) (by omega) ?_
  rintro v0 z0 ⟨e0, ⟨q, w0, h0⟩ | ⟨q, w0, h0⟩⟩ <;> cases q
  · rw [show ((wOf 68 : Nat) : Int) = 3 from rfl] at w0
    refine g_X8_statementTold_29 ⟨by decide, fun q => absurd q (by decide), fun _ => ?_⟩
    refine p_X8_statementTold_34 (d2 := d - 1) (s_seamTold (x := a.1) (ht.lk e0) h0 (hr.lk e0) hp (wE_n w0 (by decide)) (by omega)) (by omega) ?_
    rintro y ⟨-, ye, hy⟩
    exact g_X8_statementTold_37 (tail _ y (by unfold stmB; rw [if_neg n60, if_pos w0]) ((e0.mono (fun a j q => mt_lk q)).trans ye) hy)
  rw [show ((wOf 68 : Nat) : Int) = 3 from rfl] at w0
  refine g_X8_statementTold_29 ⟨by decide, fun _ => ?_, fun q => absurd rfl q⟩
  refine p_X8_statementTold_45 (d2 := d - 1) (wrd_at (iw (by decide))).1 (s_takes (c := 72) (iw (by decide)) (ht.lk e0) h0.1 (by omega)) (by omega) ?_
  rintro v1 z1 ⟨e1', ⟨q, w1, h1⟩ | ⟨q, w1, h1⟩⟩ <;> cases q
  · rw [show ((wOf 72 : Nat) : Int) = 7 from rfl] at w1
    have e1 := e0.trans e1'
    refine g_X8_statementTold_48 ⟨by decide, fun q => absurd q (by decide), fun _ => ?_⟩
    refine p_X8_statementTold_53 (d2 := d - 1) (s_ruleTold (x := a.1) (ht.lk e1) h1 (hr.lk e1) hp (wE_n w1 (by decide)) (by omega)) (by omega) ?_
    rintro y ⟨-, ye, hy⟩
    exact g_X8_statementTold_56 (tail _ y (by unfold stmB; rw [if_neg n60, if_neg w0, if_pos w1]) ((e1.mono (fun a j q => mt_lk q)).trans ye) hy)
  rw [show ((wOf 72 : Nat) : Int) = 7 from rfl] at w1
  have e1 := e0.trans e1'
  refine g_X8_statementTold_48 ⟨by decide, fun _ => ?_, fun q => absurd rfl q⟩
  refine p_X8_statementTold_64 (d2 := d - 1) (wrd_at (iw (by decide))).1 (s_takes (c := 74) (iw (by decide)) (ht.lk e1) h1.1 (by omega)) (by omega) ?_
  rintro v2 z2 ⟨e2', ⟨q, w2, h2⟩ | ⟨q, w2, h2⟩⟩ <;> cases q
  · rw [show ((wOf 74 : Nat) : Int) = 9 from rfl] at w2
    have e2 := e1.trans e2'
    refine g_X8_statementTold_67 ⟨by decide, fun q => absurd q (by decide), fun _ => ?_⟩
    refine p_X8_statementTold_79 (d2 := d - 1) ic_100 (s_X8_number (by decide) (by decide) (ht.lk e2) h2 (by omega)) (by omega) ?_
    rintro v y ⟨_, q, -, ye, hy⟩; cases q
    exact g_X8_statementTold_82 ic_100 ⟨by decide, by decide, mn 0 z2 y v (by decide) (by decide) (by omega) e2 ye hy⟩
  rw [show ((wOf 74 : Nat) : Int) = 9 from rfl] at w2
  have e2 := e1.trans e2'
  refine g_X8_statementTold_67 ⟨by decide, fun _ => ?_, fun q => absurd rfl q⟩
  refine p_X8_statementTold_91 (d2 := d - 1) (wrd_at (iw (by decide))).1 (s_takes (c := 75) (iw (by decide)) (ht.lk e2) h2.1 (by omega)) (by omega) ?_
  rintro v3 z3 ⟨e3', ⟨q, w3, h3⟩ | ⟨q, w3, h3⟩⟩ <;> cases q
  · rw [show ((wOf 75 : Nat) : Int) = 10 from rfl] at w3
    have e3 := e2.trans e3'
    refine g_X8_statementTold_94 ⟨by decide, fun q => absurd q (by decide), fun _ => ?_⟩
    refine p_X8_statementTold_106 (d2 := d - 1) ic_100 (s_X8_number (by decide) (by decide) (ht.lk e3) h3 (by omega)) (by omega) ?_
    rintro v y ⟨_, q, -, ye, hy⟩; cases q
    exact g_X8_statementTold_109 ic_100 ⟨by decide, by decide, mn 1 z3 y v (by decide) (by decide) (by omega) e3 ye hy⟩
  rw [show ((wOf 75 : Nat) : Int) = 10 from rfl] at w3
  have e3 := e2.trans e3'
  refine g_X8_statementTold_94 ⟨by decide, fun _ => ?_, fun q => absurd rfl q⟩
  refine p_X8_statementTold_118 (d2 := d - 1) (wrd_at (iw (by decide))).1 (s_takes (c := 76) (iw (by decide)) (ht.lk e3) h3.1 (by omega)) (by omega) ?_
  rintro v4 z4 ⟨e4', ⟨q, w4, h4⟩ | ⟨q, w4, h4⟩⟩ <;> cases q
  · rw [show ((wOf 76 : Nat) : Int) = 11 from rfl] at w4
    have e4 := e3.trans e4'
    refine g_X8_statementTold_121 ⟨by decide, fun q => absurd q (by decide), fun _ => ?_⟩
    refine p_X8_statementTold_133 (d2 := d - 1) ic_100 (s_X8_number (by decide) (by decide) (ht.lk e4) h4 (by omega)) (by omega) ?_
    rintro v y ⟨_, q, -, ye, hy⟩; cases q
    exact g_X8_statementTold_136 ic_100 ⟨by decide, by decide, mn 2 z4 y v (by decide) (by decide) (by omega) e4 ye hy⟩
  rw [show ((wOf 76 : Nat) : Int) = 11 from rfl] at w4
  have e4 := e3.trans e4'
  refine g_X8_statementTold_121 ⟨by decide, fun _ => ?_, fun q => absurd rfl q⟩
  refine p_X8_statementTold_145 (d2 := d - 1) (wrd_at (iw (by decide))).1 (s_takes (c := 77) (iw (by decide)) (ht.lk e4) h4.1 (by omega)) (by omega) ?_
  rintro v5 z5 ⟨e5', ⟨q, w5, h5'⟩ | ⟨q, w5, h5'⟩⟩ <;> cases q
  · rw [show ((wOf 77 : Nat) : Int) = 12 from rfl] at w5
    have e5 := e4.trans e5'
    refine g_X8_statementTold_148 ⟨by decide, fun q => absurd q (by decide), fun _ => ?_⟩
    refine p_X8_statementTold_160 (d2 := d - 1) ic_100 (s_X8_number (by decide) (by decide) (ht.lk e5) h5' (by omega)) (by omega) ?_
    rintro v y ⟨_, q, -, ye, hy⟩; cases q
    exact g_X8_statementTold_163 ic_100 ⟨by decide, by decide, mn 3 z5 y v (by decide) (by decide) (by omega) e5 ye hy⟩
  rw [show ((wOf 77 : Nat) : Int) = 12 from rfl] at w5
  have e5 := e4.trans e5'
  refine g_X8_statementTold_148 ⟨by decide, fun _ => ?_, fun q => absurd rfl q⟩
  refine p_X8_statementTold_172 (d2 := d - 1) (wrd_at (iw (by decide))).1 (s_takes (c := 78) (iw (by decide)) (ht.lk e5) h5'.1 (by omega)) (by omega) ?_
  rintro v6 z6 ⟨e6', ⟨q, w6, h6⟩ | ⟨q, w6, h6⟩⟩ <;> cases q
  · rw [show ((wOf 78 : Nat) : Int) = 13 from rfl] at w6
    have e6 := e5.trans e6'
    refine g_X8_statementTold_175 ⟨by decide, fun q => absurd q (by decide), fun _ => ?_⟩
    refine p_X8_statementTold_187 (d2 := d - 1) ic_100 (s_X8_number (by decide) (by decide) (ht.lk e6) h6 (by omega)) (by omega) ?_
    rintro v y ⟨_, q, -, ye, hy⟩; cases q
    exact g_X8_statementTold_190 ic_100 ⟨by decide, by decide, mn 4 z6 y v (by decide) (by decide) (by omega) e6 ye hy⟩
  rw [show ((wOf 78 : Nat) : Int) = 13 from rfl] at w6
  have e6 := e5.trans e6'
  refine g_X8_statementTold_175 ⟨by decide, fun _ => ?_, fun q => absurd rfl q⟩
  refine p_X8_statementTold_199 (d2 := d - 1) (wrd_at (iw (by decide))).1 (s_asks (c := 79) (iw (by decide)) (ht.lk e6) h6.1 (by omega)) (by omega) ?_
  rintro z7 ⟨-, e7', h7⟩
  rw [show ((wOf 79 : Nat) : Int) = 14 from rfl] at h7
  have e7 := e6.trans e7'
  rcases h7 with ⟨w7, h7⟩ | ⟨w7, h7⟩
  · refine g_X8_statementTold_202 (p_X8_statementTold_210 (d2 := d - 1) ic_100 (s_X8_number (by decide) (by decide) (ht.lk e7) h7 (by omega)) (by omega) ?_)
    rintro v y ⟨_, q, -, ye, hy⟩; cases q
    exact g_X8_statementTold_213 ic_100 ⟨by decide, by decide, mn 5 z7 y v (by decide) (by decide) (by omega) e7 ye hy⟩
  · have g : stmB T n a.1 a.2 = .error (1, (a.1.1.1 : Nat)) := by
      unfold stmB
      rw [if_neg n60, if_neg w0, if_neg w1, if_neg (by omega)]
    refine g_X8_statementTold_202 (p_X8_statementTold_210 (d2 := d - 1) ic_100 (numE h7) (by omega) ?_)
    rintro _ y ⟨q, rfl⟩; cases q
    refine g_X8_statementTold_213 ic_100 ⟨by decide, by decide, ?_⟩
    have we : Ex (fun a j => a = 100 ∧ j = 5) y (wr y 100 5 0) := (Ex.refl _ _).put ⟨rfl, rfl⟩
    exact tail _ _ g ((e7.mono (fun a j q => mt_lk q)).trans (we.mono (fun a j q => mt100 ⟨q.1, by have := q.2; omega⟩))) (MEr.ex h7 we (fun a j q => by omega))
end RM2
