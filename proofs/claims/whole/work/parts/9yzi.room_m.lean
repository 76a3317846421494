/-! rooms as texts: the reference's call -/
section RO2
variable {sc : List Int} {d : Nat} {m ρ : Mem} {Q : Option AV → Mem → Prop} {T : Int → Int} {n : Nat} {σ : Stt}
/-- a room that is told as far as it is -/
def GI (n : Nat) (a : Rx) : Prop := PI n a ∧ 1 ≤ a.2 0 3 ∧ 1 ≤ a.2 0 0 ∧ sumF (a.2 2) (a.2 0 0).toNat = 100
theorem gi_fir {a : Rx} (h : firR T n (q0S T n, []) = .ok a) : GI n a ∧ a.2 0 3 = 1 := by
  obtain ⟨b1, q1, q2⟩ := bind_ok (show (firB T n (q0S T n, [])).bind (endS T n) = .ok a from h)
  unfold firB at q1
  by_cases c0 : wE T n (q0S T n) = 0
  · rw [if_pos c0] at q1
    obtain ⟨p, q3, q4⟩ := bind_ok (show (lensR T n 6 (nx T n (q0S T n), []) ρ0 0).bind (bobF T n) = .ok b1 from q1)
    obtain ⟨l1, l2, l3, l4, l5, l6, l7⟩ := lensR_ok q3 pl_0 (by decide) (by decide) (wE_n2 c0 (by decide)).2
    unfold bobF at q4
    by_cases c1 : wE T n p.1.1 = 1
    · rw [if_pos c1] at q4; cases q4
    rw [if_neg c1] at q4
    by_cases c2 : sumF (p.2.1 2) (p.2.1 0 0).toNat < 100
    · rw [if_pos c2] at q4; cases q4
    rw [if_neg c2] at q4
    cases q4
    have sb := l1.sb
    have P : PI n (p.1, p.2.1) := by
      refine ⟨l1.2.2.2.2, ⟨l1.2.2.2.1, fun k hk => ?_⟩, ⟨fun s hs => ?_, fun k hk => ?_⟩, ⟨?_, fun j hj => ?_⟩, ?_, l5⟩
      · have := l1.2.2.1
        have hk : (k : Int) < p.2.1 0 2 := hk
        omega
      · have := l1.2.1
        have hs : (s : Int) < p.2.1 0 1 := hs
        omega
      · have := l1.2.2.1
        have hk : (k : Int) < p.2.1 0 2 := hk
        omega
      · show p.2.1 10 (p.2.1 0 2) = (p.1.2.length : Nat)
        rw [l1.2.2.1, l1.2.2.2.1, l3]; rfl
      · have hj : j < p.1.2.length := hj
        rw [l3] at hj
        exact absurd hj (by show ¬ j < 0; omega)
      · show p.1.2.length ≤ p.1.1.1
        rw [l3]; exact Nat.zero_le _
    obtain ⟨r1, r2, r3, r4⟩ := pi_end P (by show p.2.1 0 3 < 60; rw [l1.1]; decide) q2
    have r2 : a.2 0 3 = p.2.1 0 3 + 1 := r2
    have r3 : a.2 0 0 = p.2.1 0 0 := r3
    have r4 : a.2 2 = p.2.1 2 := r4
    rw [l1.1] at r2
    refine ⟨⟨r1, by omega, by omega, ?_⟩, by omega⟩
    rw [r3, r4]; omega
  · rw [if_neg c0] at q1; cases q1
theorem gi_stm {a b : Rx} (h : GI n a) (hn : n ≤ 1600) (hb : ∀ i : Nat, i < n → 0 ≤ T i ∧ T i ≤ 255) (e : stmR T n a = .ok b) : GI n b ∧ b.2 0 3 = a.2 0 3 + 1 := by
  obtain ⟨c, q1, q2⟩ := bind_ok (show (stmB T n a.1 a.2).bind (endS T n) = .ok b from e)
  obtain ⟨p1, ⟨p2, p3, p4⟩, p5⟩ := pi_stm h.1 hn hb q1
  obtain ⟨r1, r2, r3, r4⟩ := pi_end p1 (by omega) q2
  have h3 := h.2.1
  have h0 := h.2.2.1
  refine ⟨⟨r1, by omega, by omega, ?_⟩, by omega⟩
  rw [r3, r4, p4, p5]
  exact h.2.2.2
theorem gi_stms (hn : n ≤ 1600) (hb : ∀ i : Nat, i < n → 0 ≤ T i ∧ T i ≤ 255) : ∀ {f : Nat} {a b : Rx}, GI n a → stms T n f a = .ok b → GI n b
  | 0, a, b, h, e => by rw [stms] at e; cases e; exact h
  | f + 1, a, b, h, e => by
    rw [stms] at e
    by_cases c : kd T n a.1.1 = 258
    · rw [if_pos c] at e; cases e; exact h
    · rw [if_neg c] at e
      obtain ⟨x, q1, q2⟩ := bind_ok e
      exact gi_stms hn hb (gi_stm h hn hb q1).1 q2
theorem gi_room (hn : n ≤ 1600) (hb : ∀ i : Nat, i < n → 0 ≤ T i ∧ T i ≤ 255) {a : Rx} (h : rdRoom T n = .ok a) : GI n a := by
  obtain ⟨b, q1, q2⟩ := bind_ok (show (firR T n (q0S T n, [])).bind (stms T n 60) = .ok a from h)
  exact gi_stms hn hb (gi_fir q1).1 q2
theorem lk_end (hb : ∀ i : Nat, i < n → 0 ≤ T i ∧ T i ≤ 255) : lkC T n σ = -1 ↔ kd T n σ = 258 := by
  unfold lkC
  by_cases c : σ.1 < n
  · rw [if_pos c]
    have := hb _ c
    constructor
    · intro g; omega
    · intro g
      unfold kd at g
      rw [if_neg (by omega)] at g
      split at g
      · split at g <;> omega
      · split at g
        · split at g <;> omega
        · omega
  · rw [if_neg c]
    exact ⟨fun _ => by unfold kd; rw [if_pos (by omega)], fun _ => rfl⟩
def C_r0 (a j : Int) : Prop := C_mz a j ∨ (a = 62 ∧ (j = 1 ∨ j = 3))
def C_re (a j : Int) : Prop := C_mz a j ∨ (a = 62 ∧ (j = 1 ∨ j = 3 ∨ j = 7 ∨ j = 8)) ∨ (a = 64 ∧ j = 1)
def C_ro (a j : Int) : Prop := C_mz a j ∨ (a = 62 ∧ (j = 1 ∨ j = 3 ∨ j = 7 ∨ j = 8)) ∨ C_sd a j
def R8 (m z : Mem) (v : Option AV) : Es Rx → Prop
  | .error e => v = some (aI (-1)) ∧ z 62 7 = e.1 ∧ z 62 8 = e.2 ∧ z 64 1 = m 64 1 + 1 ∧ Ex C_re m z
  | .ok a => v = some (aI (a.2 0 3)) ∧ z 62 7 = 0 ∧ z 62 8 = -1 ∧ StM z a.2 ∧ Ex C_ro m z
theorem s_X8_room (hW : WrdL m) (hn : n ≤ 1600) (h1 : m 62 1 = (n : Nat)) (ht : ∀ i : Nat, i < n → m 63 i = T i ∧ 0 ≤ T i ∧ T i ≤ 255) (hd : 60 ≤ d) : P_X8_room sc d [aR 62] m (fun v z => z 62 1 = 0 ∧ R8 m z v (rdRoom T n)) := by
  have tb : ∀ i : Nat, i < n → 0 ≤ T i ∧ T i ≤ 255 := fun i hi => (ht i hi).2
  refine ep_X8_room (g_X8_room_0 ?_)
  rw [h1]
  have e0 : Ex (fun a j => a = 62 ∧ (j = 1 ∨ j = 2 ∨ j = 3 ∨ j = 4 ∨ j = 5 ∨ j = 6 ∨ j = 51)) m (wr (wr (wr (wr (wr (wr (wr m 62 3 (n : Nat)) 62 1 0) 62 2 0) 62 4 (-1)) 62 5 0) 62 6 (-1)) 62 51 0) := by
    refine Ex.put (Ex.put (Ex.put (Ex.put (Ex.put (Ex.put (Ex.put (Ex.refl _ _) ?_) ?_) ?_) ?_) ?_) ?_) ?_ <;> exact ⟨rfl, by omega⟩
  have f1 : wr (wr (wr (wr (wr (wr (wr m 62 3 (n : Nat)) 62 1 0) 62 2 0) 62 4 (-1)) 62 5 0) 62 6 (-1)) 62 51 0 62 1 = 0 := by simp [wr]
  have f2 : wr (wr (wr (wr (wr (wr (wr m 62 3 (n : Nat)) 62 1 0) 62 2 0) 62 4 (-1)) 62 5 0) 62 6 (-1)) 62 51 0 62 2 = 0 := by simp [wr]
  have f3 : wr (wr (wr (wr (wr (wr (wr m 62 3 (n : Nat)) 62 1 0) 62 2 0) 62 4 (-1)) 62 5 0) 62 6 (-1)) 62 51 0 62 3 = (n : Nat) := by simp [wr]
  have f4 : wr (wr (wr (wr (wr (wr (wr m 62 3 (n : Nat)) 62 1 0) 62 2 0) 62 4 (-1)) 62 5 0) 62 6 (-1)) 62 51 0 62 4 = -1 := by simp [wr]
  have f5 : wr (wr (wr (wr (wr (wr (wr m 62 3 (n : Nat)) 62 1 0) 62 2 0) 62 4 (-1)) 62 5 0) 62 6 (-1)) 62 51 0 62 5 = 0 := by simp [wr]
  have f6 : wr (wr (wr (wr (wr (wr (wr m 62 3 (n : Nat)) 62 1 0) 62 2 0) 62 4 (-1)) 62 5 0) 62 6 (-1)) 62 51 0 62 6 = -1 := by simp [wr]
  have f51 : wr (wr (wr (wr (wr (wr (wr m 62 3 (n : Nat)) 62 1 0) 62 2 0) 62 4 (-1)) 62 5 0) 62 6 (-1)) 62 51 0 62 51 = 0 := by simp [wr]
  generalize wr (wr (wr (wr (wr (wr (wr m 62 3 (n : Nat)) 62 1 0) 62 2 0) 62 4 (-1)) 62 5 0) 62 6 (-1)) 62 51 0 = y at e0 f1 f2 f3 f4 f5 f6 f51 ⊢
  have l40 : ∀ (Q : Option AV → Mem → Prop) (f i : Nat) (z : Mem), i + f = 3 → Ex (fun a j => a = 95 ∧ 0 ≤ j ∧ j < 3) y z → (∀ k : Nat, k < i → z 95 k = 0) → (∀ u : Mem, Ex (fun a j => (a = 95 ∧ 0 ≤ j ∧ j < 3) ∨ (a = 100 ∧ 0 ≤ j ∧ j < 6)) y u → (∀ k : Nat, k < 3 → u 95 k = 0) → (∀ k : Nat, k < 6 → u 100 k = ρ0 7 k) → S_X8_room sc d 103 [aR 62, aU] [aR 62] u Q) → S_X8_room sc d 40 [aR 62, aI i] [] z Q := by
    intro Q f
    induction f with
    | zero =>
      intro i z hi ze hz K
      refine g_X8_room_40 ⟨by omega, fun _ => K _ (Ex.put (Ex.put (Ex.put (Ex.put (Ex.put (Ex.put (ze.mono (fun a j q => Or.inl q)) (Or.inr ⟨rfl, by decide, by decide⟩)) (Or.inr ⟨rfl, by decide, by decide⟩)) (Or.inr ⟨rfl, by decide, by decide⟩)) (Or.inr ⟨rfl, by decide, by decide⟩)) (Or.inr ⟨rfl, by decide, by decide⟩)) (Or.inr ⟨rfl, by decide, by decide⟩)) (fun k hk => ?_) (fun k hk => ?_), fun q => by omega⟩
      · rw [wr_na _ _ _ _ _ _ (by decide), wr_na _ _ _ _ _ _ (by decide), wr_na _ _ _ _ _ _ (by decide), wr_na _ _ _ _ _ _ (by decide), wr_na _ _ _ _ _ _ (by decide), wr_na _ _ _ _ _ _ (by decide)]
        exact hz k (by omega)
      · rcases (by omega : k = 0 ∨ k = 1 ∨ k = 2 ∨ k = 3 ∨ k = 4 ∨ k = 5) with rfl | rfl | rfl | rfl | rfl | rfl <;> simp [wr, ρ0]
    | succ f ih =>
      intro i z hi ze hz K
      refine g_X8_room_40 ⟨by omega, fun q => by omega, fun _ => ⟨by omega, by omega, ?_⟩⟩
      have := ih (i + 1) (wr z 95 i 0) (by omega) (ze.put ⟨rfl, by omega, by omega⟩) (fun k hk => by
        by_cases e : k = i
        · rw [e, wr_eq]
        · rw [wr_ne _ _ _ _ _ _ (by omega)]; exact hz k (by omega)) K
      rw [show ((i + 1 : Nat) : Int) = (i : Int) + 1 by omega] at this
      exact this
  refine l40 _ 3 0 y (by omega) (Ex.refl _ _) (fun k hk => absurd hk (by omega)) (fun u ue u95 u100 => ?_)
  have Eu : Ex C_r0 m u := (e0.mono (fun a j q => ?_)).trans (ue.mono (fun a j q => ?_))
  case refine_1 =>
    obtain ⟨rfl, q⟩ := q
    rcases q with rfl | rfl | rfl | rfl | rfl | rfl | rfl
    · exact Or.inr ⟨rfl, Or.inl rfl⟩
    · exact Or.inl (Or.inl (mt_lk ⟨rfl, by decide, by decide, by decide, by decide, by decide⟩))
    · exact Or.inr ⟨rfl, Or.inr rfl⟩
    · exact Or.inl (Or.inl (mt_lk ⟨rfl, by decide, by decide, by decide, by decide, by decide⟩))
    · exact Or.inl (Or.inl (mt_lk ⟨rfl, by decide, by decide, by decide, by decide, by decide⟩))
    · exact Or.inl (Or.inl (mt_lk ⟨rfl, by decide, by decide, by decide, by decide, by decide⟩))
    · exact Or.inl (Or.inl (mt62 ⟨rfl, by decide⟩))
  case refine_2 =>
    rcases q with q | q
    · exact Or.inl (Or.inl (mt95 ⟨q.1, by omega⟩))
    · exact Or.inl (Or.inl (mt100 ⟨q.1, by omega⟩))
  have u62 : ∀ j, u 62 j = y 62 j := fun j => ue 62 j (by omega)
  have tu : Tm u T n := by
    refine ⟨hn, by rw [u62]; exact f3, fun i hi => ?_, fun a j q => ?_⟩
    · rw [ue 63 _ (by omega), e0 63 _ (by omega)]; exact ht i hi
    · rw [ue a j (by omega), e0 a j (by omega)]; exact hW a j q
  have q0 := q0_eq (T := T) (n := n)
  have su : MSt T n u (q0S T n) := by
    rw [q0]
    refine ⟨spn_le (Nat.zero_le n), ⟨by rw [u62]; exact f5, by rw [u62]; exact f6⟩, ⟨0, by rw [u62]; exact f2, Nat.zero_le _, rfl⟩, ?_, ?_⟩
    · rw [u62, f4]
      show -1 ≤ (-1 : Int) ∧ (-1 : Int) ≤ ((spn isBl T n 0 : Nat) : Int)
      omega
    · rw [u62, f4]
      constructor
      · intro q
        have q : (-1 : Int) = ((spn isBl T n 0 : Nat) : Int) := q
        omega
      · intro q; cases q
  have ru : MRt u ρ0 [] := by
    refine ⟨⟨u95 0 (by decide), u95 1 (by decide), u95 2 (by decide)⟩, fun i hi => absurd hi (by show ¬ (i : Int) < 0; omega), fun s hs => absurd hs (by show ¬ (s : Int) < 0; omega), u100, ⟨fun k hk => absurd hk (by show ¬ (k : Int) < 0; omega), by rw [u62]; exact f51, fun j hj => absurd hj (by show ¬ j < 0; omega)⟩, fun s hs => absurd hs (by show ¬ (s : Int) < 0; omega), fun k hk => absurd hk (by show ¬ (k : Int) < 0; omega)⟩
  have u1 : u 62 1 = 0 := by rw [u62]; exact f1
  -- the end with a fault
  have bad : ∀ (e : Int × Int) (z : Mem), rdRoom T n = .error e → Ex C_mz u z → MEr z e → S_X8_room sc d 111 [aR 62, aU] [] z (fun v z => z 62 1 = 0 ∧ R8 m z v (rdRoom T n)) := by
    intro e z hr ze hz
    have a7 : wr z 62 7 (z 62 5) 62 6 = z 62 6 := wr_ne _ _ _ _ _ _ (by decide)
    have a5 : wr (wr z 62 7 (z 62 5)) 62 8 (z 62 6) 62 5 = z 62 5 := by rw [wr_ne _ _ _ _ _ _ (by decide), wr_ne _ _ _ _ _ _ (by decide)]
    have a64 : wr (wr z 62 7 (z 62 5)) 62 8 (z 62 6) 64 1 = z 64 1 := by rw [wr_na _ _ _ _ _ _ (by decide), wr_na _ _ _ _ _ _ (by decide)]
    refine g_X8_room_111 ⟨hz.ne.2, fun _ => ?_, fun q => absurd hz.ne.1 q⟩
    rw [a7, a5, a64]
    have zz : ∀ a j, (a = 62 ∧ j = 1) ∨ (a = 64 ∧ j = 1) → z a j = u a j := fun a j q => ze a j (by
      rintro (c | c)
      · unfold C_mt C_qt C_qs C_lk C_k at c; omega
      · omega)
    have u64 : u 64 1 = m 64 1 := by rw [ue 64 1 (by omega), e0 64 1 (by omega)]
    refine ⟨hz.ne.2, fun q => absurd q hz.ne.1, fun _ => ⟨?_, ?_⟩⟩
    · rw [wr_na _ _ _ _ _ _ (by decide), wr_ne _ _ _ _ _ _ (by decide), wr_ne _ _ _ _ _ _ (by decide), zz 62 1 (by omega)]; exact u1
    · rw [hr]
      refine ⟨rfl, ?_, ?_, ?_, ?_⟩
      · rw [wr_na _ _ _ _ _ _ (by decide), wr_ne _ _ _ _ _ _ (by decide), wr_eq]; exact hz.1
      · rw [wr_na _ _ _ _ _ _ (by decide), wr_eq]; exact hz.2.1
      · rw [wr_eq, zz 64 1 (by omega), u64]
      · exact Ex.put (Ex.put (Ex.put ((Eu.mono (fun a j q => q.elim Or.inl (fun q => Or.inr (Or.inl ⟨q.1, by omega⟩)))).trans (ze.mono (fun a j q => Or.inl q))) (Or.inr (Or.inl ⟨rfl, Or.inr (Or.inr (Or.inl rfl))⟩))) (Or.inr (Or.inl ⟨rfl, Or.inr (Or.inr (Or.inr rfl))⟩))) (Or.inr (Or.inr ⟨rfl, rfl⟩))
  refine p_X8_room_103 (d2 := d - 1) (s_bobbinTold tu su ru (by omega)) (by omega) ?_
  rintro z ⟨-, ze, hz⟩
  have we : Ex (fun a j => a = 62 ∧ j = 52) z (wr z 62 52 1) := (Ex.refl _ _).put ⟨rfl, rfl⟩
  have w52 : wr z 62 52 1 62 52 = 1 := wr_eq _ _ _ _
  refine g_X8_room_106 ?_
  generalize wr z 62 52 1 = w at we w52 ⊢
  have Ew : Ex C_mz u w := (ze.mono (fun a j q => Or.inl q)).trans (we.mono (fun a j q => Or.inr q))
  -- the further statements
  have key : ∀ (f : Nat) (a : Rx) (z : Mem), rdRoom T n = stms T n f a → a.2 0 3 = 61 - (f : Int) → GI n a → Ex C_mz u z → Tm z T n → MSt T n z a.1.1 → MRt z a.2 a.1.2 → z 62 52 = a.2 0 3 → S_X8_room sc d 111 [aR 62, aU] [] z (fun v z => z 62 1 = 0 ∧ R8 m z v (rdRoom T n)) := by
    intro f
    induction f with
    | zero => intro a z hr h3 hg; have b := hg.1.1.1; omega
    | succ f ih =>
      intro a z hr h3 hg ze tz sz rz z52
      have z5 := sz.2.1.1
      refine g_X8_room_111 ⟨by omega, fun q => absurd z5 q, fun _ => ?_⟩
      refine p_X8_room_119 (d2 := d - 1) (s_look tz sz) (by omega) ?_
      rintro _ x ⟨q, xe, xl⟩; cases q
      have lb := @lk_bd T n a.1.1 tz.by
      have x5 := xl.1.2.1
      have Ex' : Ex C_mz u x := ze.trans (xe.mono (fun a j q => Or.inl (mt_lk q)))
      have x52 : x 62 52 = a.2 0 3 := (xe 62 52 (fun c => by unfold C_lk at c; omega)).trans z52
      rw [stms] at hr
      refine g_X8_room_122 ⟨by omega, fun q => ?_, fun q => ?_⟩
      · have k8 := (lk_end tz.by).mp q
        rw [if_pos k8] at hr
        have a7 : wr x 62 7 (x 62 5) 62 6 = x 62 6 := wr_ne _ _ _ _ _ _ (by decide)
        have a5 : wr (wr x 62 7 (x 62 5)) 62 8 (x 62 6) 62 5 = x 62 5 := by rw [wr_ne _ _ _ _ _ _ (by decide), wr_ne _ _ _ _ _ _ (by decide)]
        rw [a7, a5]
        refine ⟨by omega, fun _ => ?_, fun q => absurd x5.1 q⟩
        have ye : Ex (fun a j => a = 62 ∧ (j = 7 ∨ j = 8)) x (wr (wr x 62 7 (x 62 5)) 62 8 (x 62 6)) := ((Ex.refl _ _).put ⟨rfl, Or.inl rfl⟩).put ⟨rfl, Or.inr rfl⟩
        have y7 : wr (wr x 62 7 (x 62 5)) 62 8 (x 62 6) 62 7 = 0 := by rw [wr_ne _ _ _ _ _ _ (by decide), wr_eq]; exact x5.1
        have y8 : wr (wr x 62 7 (x 62 5)) 62 8 (x 62 6) 62 8 = -1 := by rw [wr_eq]; exact x5.2
        generalize wr (wr x 62 7 (x 62 5)) 62 8 (x 62 6) = y2 at ye y7 y8 ⊢
        have ry := (rz.lk xe).ex ye (fun a j q => by omega)
        refine p_X8_room_169 (d2 := d - 1) (s_stands ry hg.1 hn hg.2.2.1 (by have := hg.2.1; omega)) (by omega) ?_
        rintro s ⟨-, se, hs⟩
        have ss : ∀ j, j ≠ 53 → j ≠ 83 → j ≠ 88 → s 62 j = y2 62 j := fun j q1 q2 q3 => se 62 j (by unfold C_sd; omega)
        refine g_X8_room_172 ⟨?_, ?_⟩
        · rw [ss 1 (by decide) (by decide) (by decide), ye 62 1 (by omega), Ex' 62 1 (by
            rintro (c | c)
            · unfold C_mt C_qt C_qs C_lk C_k at c; omega
            · omega)]
          exact u1
        · rw [hr]
          refine ⟨?_, ?_, ?_, hs, ?_⟩
          · rw [ss 52 (by decide) (by decide) (by decide), ye 62 52 (by omega), x52]
          · rw [ss 7 (by decide) (by decide) (by decide)]; exact y7
          · rw [ss 8 (by decide) (by decide) (by decide)]; exact y8
          · refine ((Eu.mono (fun a j q => ?_)).trans (Ex'.mono (fun a j q => Or.inl q))).trans ((ye.mono (fun a j q => ?_)).trans (se.mono (fun a j q => Or.inr (Or.inr q))))
            · exact q.elim Or.inl (fun q => Or.inr (Or.inl ⟨q.1, by omega⟩))
            · exact Or.inr (Or.inl ⟨q.1, by omega⟩)
      · have k8 : ¬ kd T n a.1.1 = 258 := fun c => q ((lk_end tz.by).mpr c)
        rw [if_neg k8] at hr
        refine p_X8_room_127 (d2 := d - 1) (s_statementTold (tz.lk xe) xl (rz.lk xe) hg.1 x52 (by omega)) (by omega) ?_
        rintro s ⟨-, se, hs, hs2⟩
        have Es' := Ex'.trans se
        refine g_X8_room_130 ?_
        cases g : stmR T n a with
        | error e =>
          rw [g] at hs hr
          exact bad e s hr Es' hs
        | ok b =>
          rw [g] at hs hr
          obtain ⟨h1', h2'⟩ := gi_stm hg hn tb g
          have s52 := hs2 b g
          exact ih b s hr (by omega) h1' Es' hs.1 hs.2.1 hs.2.2 (by omega)
  cases g : firR T n (q0S T n, []) with
  | error e =>
    rw [g] at hz
    exact bad e w (by unfold rdRoom; rw [g]; rfl) Ew (MEr.ex hz we (fun a j q => by omega))
  | ok a =>
    rw [g] at hz
    obtain ⟨g1, g2⟩ := gi_fir g
    obtain ⟨tz, sz, rz⟩ := hz
    exact key 60 a w (by unfold rdRoom; rw [g]; rfl) (by omega) g1 Ew (tz.mr we (fun a j q => by unfold C_mr; omega)) (sz.mr we (fun a j q => by unfold C_mr; omega)) (rz.ex we (fun a j q => by omega)) (by omega)
end RO2
