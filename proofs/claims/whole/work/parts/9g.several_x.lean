/-! several girls: the class -/
section SX
variable {sc : List Int} {d : Nat} {m : Mem} {Q : Option AV → Mem → Prop} {r L : Int} {ρ : Mem} {G : Nat}
def C_go (a j : Int) : Prop := (a = 44 ∧ j = 10) ∨ a = 48 ∨ a = 49 ∨ a = 50 ∨ a = 51
/-- behind giving out the seams from s on -/
def GoP (ρ : Mem) (L : Int) (G j s : Nat) (m z : Mem) : Prop := Ex C_go m z ∧ (∀ i : Nat, i < s → z 49 i = m 49 i) ∧ (∀ g : Nat, g < 3 → z 50 g = m 50 g ∧ z 51 g = m 51 g) ∧ ((mnS (ρ 3) L (ρ 7 0) G j s (m 50) (m 51) < m 44 10 ∧ z 44 10 = mnS (ρ 3) L (ρ 7 0) G j s (m 50) (m 51) ∧ (∀ i : Nat, i < s → z 48 i = m 49 i) ∧ FsS (ρ 3) L (ρ 7 0) G j s (m 50) (m 51) (z 48)) ∨ (m 44 10 ≤ mnS (ρ 3) L (ρ 7 0) G j s (m 50) (m 51) ∧ z 44 10 = m 44 10 ∧ ∀ i : Nat, i < 10 → z 48 i = m 48 i))
/-- the girls so far -/
def GoI (m : Mem) (bz s : Nat) : Prop := (∀ g : Nat, g < 3 → (0 ≤ m 50 g ∧ m 50 g ≤ 200 * s) ∧ (0 ≤ m 51 g ∧ m 51 g ≤ 99) ∧ (m 50 g ≤ 0 → m 51 g = 0)) ∧ (∀ g : Nat, bz ≤ g → g < 3 → m 50 g = 0 ∧ m 51 g = 0) ∧ (0 ≤ m 44 10 ∧ m 44 10 ≤ 2147483647) ∧ bz ≤ 3
theorem s_giveOut (H : RoomAt r) (hb : RmB ρ) (hL : 1 ≤ L ∧ L ≤ 99) (hf : fitsAll ρ L) (hG : 1 ≤ G ∧ G ≤ 3) (h75 : ρ 7 5 = G) : ∀ (j s d bz : Nat) (m : Mem), ((s + j : Nat) : Int) = ρ 0 1 → j + 1 ≤ d → XRm m r ρ → GoI m bz s → P_X4_giveOut sc d [aR 44, aR r, aI L, aI s, aI bz] m (fun v z => v = none ∧ GoP ρ L G j s m z) := by
  have b0 := hb.1
  have hrb := room_bd H
  obtain ⟨m0, m1, m2⟩ := ch_min hb
  intro j
  induction j with
  | zero =>
    intro s d bz m hs hd hx hI
    have e8 := hx.1.2.1
    obtain ⟨i1, i2, i3, i4⟩ := hI
    have t0 := i1 0 (by omega)
    have t1 := i1 1 (by omega)
    have t2 := i1 2 (by omega)
    simp only [Int.natCast_zero, Int.natCast_one, show ((2 : Nat) : Int) = 2 from rfl] at t0 t1 t2
    refine ep_X4_giveOut (g_X4_giveOut_0 H ⟨by omega, by omega, fun c => absurd c (by omega), fun _ => ?_⟩)
    refine p_X4_giveOut_26 (d2 := d - 1) (s_max ⟨by omega, by omega⟩ ⟨by omega, by omega⟩) (by omega) ?_
    rintro _ z ⟨e, rfl⟩; cases e
    refine g_X4_giveOut_29 (p_X4_giveOut_29 (d2 := d - 1) (s_max ⟨by omega, by omega⟩ ⟨by split <;> omega, by split <;> omega⟩) (by omega) ?_)
    rintro _ z ⟨e, rfl⟩; cases e
    have me : (if z 50 0 < (if z 50 1 < z 50 2 then z 50 2 else z 50 1) then (if z 50 1 < z 50 2 then z 50 2 else z 50 1) else z 50 0) = mx3 (z 50) := by
      unfold mx3
      split <;> split <;> omega
    have mb : R32 (mx3 (z 50)) := by
      rw [← me]
      unfold R32
      split
      · split <;> omega
      · omega
    rw [me]
    refine g_X4_giveOut_32 ⟨mb, by omega, fun c => ⟨rfl, Ex.refl _ _, fun _ _ => rfl, fun _ _ => ⟨rfl, rfl⟩, Or.inr ⟨c, rfl, fun _ _ => rfl⟩⟩, fun c => ⟨by omega, rfl, ?_, ?_, ?_, Or.inl ⟨?_, ?_, ?_, trivial⟩⟩⟩
    · intro a k q
      unfold acp
      rw [if_neg (fun w => q (Or.inr (Or.inl w.1)))]
      exact wr_ne _ _ _ _ _ _ (fun w => q (Or.inl w))
    · intro i hi
      unfold acp
      rw [if_neg (fun w => absurd w.1 (by decide)), wr_na _ _ _ _ _ _ (by decide)]
    · intro g hg
      unfold acp
      rw [if_neg (fun w => absurd w.1 (by decide)), if_neg (fun w => absurd w.1 (by decide)), wr_na _ _ _ _ _ _ (by decide), wr_na _ _ _ _ _ _ (by decide)]
      exact ⟨rfl, rfl⟩
    · show mx3 (z 50) < _
      omega
    · unfold acp
      rw [if_neg (fun w => absurd w.1 (by decide)), wr_eq]
      rfl
    · intro i hi
      unfold acp
      rw [if_pos ⟨rfl, by omega, by omega⟩, wr_na _ _ _ _ _ _ (by decide)]
      congr 1
      omega
  | succ j ih =>
    intro s d bz m hs hd hx hI
    have e8 := hx.1.2.1
    obtain ⟨i1, i2, i3, i4⟩ := hI
    have ts := (hb.2.2.2.1 s (by omega)).1
    have tL := hf s (by omega)
    have e3 : m (r + 3) s = ρ 3 s := (hx.2.2.1 s (by omega)).1
    refine ep_X4_giveOut (g_X4_giveOut_0 H ⟨by omega, by omega, fun _ => ⟨by omega, by omega, ?_⟩, fun c => absurd (by omega) c⟩)
    rw [e3]
    -- what a girl brings
    have fin : ∀ (g : Nat) (z : Mem), g ≤ G → (g < G → bz < g) → Ex C_go m z → (∀ i : Nat, i < s → z 49 i = m 49 i) → (∀ q : Nat, q < 3 → z 50 q = m 50 q ∧ z 51 q = m 51 q) → (∀ q : Nat, q < g → z 44 10 ≤ mnS (ρ 3) L (ρ 7 0) G j (s + 1) (tiS L (ρ 7 0) (m 50) (m 51) q (ρ 3 s)) (onS L (m 51) q (ρ 3 s))) → ((z 44 10 = m 44 10 ∧ ∀ i : Nat, i < 10 → z 48 i = m 48 i) ∨ ∃ q : Nat, q < g ∧ z 44 10 = mnS (ρ 3) L (ρ 7 0) G j (s + 1) (tiS L (ρ 7 0) (m 50) (m 51) q (ρ 3 s)) (onS L (m 51) q (ρ 3 s)) ∧ z 44 10 < m 44 10 ∧ (∀ p : Nat, p < q → z 44 10 < mnS (ρ 3) L (ρ 7 0) G j (s + 1) (tiS L (ρ 7 0) (m 50) (m 51) p (ρ 3 s)) (onS L (m 51) p (ρ 3 s))) ∧ (∀ i : Nat, i < s → z 48 i = m 49 i) ∧ z 48 s = q ∧ FsS (ρ 3) L (ρ 7 0) G j (s + 1) (tiS L (ρ 7 0) (m 50) (m 51) q (ρ 3 s)) (onS L (m 51) q (ρ 3 s)) (z 48)) → GoP ρ L G (j + 1) s m z := by
      intro g z hg hbz he h49 h50 hle hat
      -- all girls
      have all : ∀ q : Nat, q < G → z 44 10 ≤ mnS (ρ 3) L (ρ 7 0) G j (s + 1) (tiS L (ρ 7 0) (m 50) (m 51) q (ρ 3 s)) (onS L (m 51) q (ρ 3 s)) := fun q hq => by
        by_cases c : q < g
        · exact hle q c
        · have lt := hbz (by omega)
          have a1 := i2 q (by omega) (by omega)
          have a2 := i2 bz (Nat.le_refl _) (by omega)
          rw [mnS_alike (T := ρ 3) (L := L) (W := ρ 7 0) (G := G) hG (p := q) (q := bz) hq (by omega) (by rw [a1.1, a2.1]) (by rw [a1.2, a2.2])]
          exact hle bz lt
      obtain ⟨k, k1, k2⟩ := mnS_at (T := ρ 3) (L := L) (W := ρ 7 0) (j := j) (s := s) (ti := m 50) (on := m 51) hG.1
      have low : z 44 10 ≤ mnS (ρ 3) L (ρ 7 0) G (j + 1) s (m 50) (m 51) := by rw [k2]; exact all k k1
      refine ⟨he, h49, h50, ?_⟩
      rcases hat with ⟨e, e48⟩ | ⟨q, q1, q2, q3, q4, q5, q6, q7⟩
      · exact Or.inr ⟨by omega, e, e48⟩
      · have up := mnS_le (T := ρ 3) (L := L) (W := ρ 7 0) (G := G) (j := j) (s := s) (ti := m 50) (on := m 51) (g := q) (by omega)
        have ev : z 44 10 = mnS (ρ 3) L (ρ 7 0) G (j + 1) s (m 50) (m 51) := by omega
        refine Or.inl ⟨by omega, ev, q5, q, q6, by omega, by omega, fun p hp => ?_, q7⟩
        rw [← ev]
        exact q4 p hp
    have lp : ∀ (n g : Nat) (z : Mem), g + n = G → Ex C_go m z → (∀ i : Nat, i < s → z 49 i = m 49 i) → (∀ q : Nat, q < 3 → z 50 q = m 50 q ∧ z 51 q = m 51 q) → (z 44 10 ≤ m 44 10 ∧ 0 ≤ z 44 10) → (∀ q : Nat, q < g → z 44 10 ≤ mnS (ρ 3) L (ρ 7 0) G j (s + 1) (tiS L (ρ 7 0) (m 50) (m 51) q (ρ 3 s)) (onS L (m 51) q (ρ 3 s))) → ((z 44 10 = m 44 10 ∧ ∀ i : Nat, i < 10 → z 48 i = m 48 i) ∨ ∃ q : Nat, q < g ∧ z 44 10 = mnS (ρ 3) L (ρ 7 0) G j (s + 1) (tiS L (ρ 7 0) (m 50) (m 51) q (ρ 3 s)) (onS L (m 51) q (ρ 3 s)) ∧ z 44 10 < m 44 10 ∧ (∀ p : Nat, p < q → z 44 10 < mnS (ρ 3) L (ρ 7 0) G j (s + 1) (tiS L (ρ 7 0) (m 50) (m 51) p (ρ 3 s)) (onS L (m 51) p (ρ 3 s))) ∧ (∀ i : Nat, i < s → z 48 i = m 49 i) ∧ z 48 s = q ∧ FsS (ρ 3) L (ρ 7 0) G j (s + 1) (tiS L (ρ 7 0) (m 50) (m 51) q (ρ 3 s)) (onS L (m 51) q (ρ 3 s)) (z 48)) → S_X4_giveOut sc d 76 [aR 44, aR r, aI L, aI s, aI bz, aI (ρ 3 s), aI g, aU, aU, aU] [] z (fun v z => v = none ∧ GoP ρ L G (j + 1) s m z) := by
      intro n
      induction n with
      | zero =>
        intro g z hg he h49 h50 hcb hle hat
        have hz : XRm z r ρ := hx.ex he (fun a j q1 q2 => by unfold C_go; omega)
        have e5 : z (r + 13) 5 = G := by have := hz.2.2.2.2 5 (by omega); rw [show ((5 : Nat) : Int) = 5 from rfl] at this; rw [this, h75]
        exact g_X4_giveOut_76 H ⟨by omega, by omega, fun _ => ⟨rfl, fin g z (by omega) (fun q => by omega) he h49 h50 hle hat⟩, fun _ => ⟨by omega, fun _ => ⟨rfl, fin g z (by omega) (fun q => by omega) he h49 h50 hle hat⟩, fun c => absurd (by omega) c⟩⟩
      | succ n ihn =>
        intro g z hg he h49 h50 hcb hle hat
        have hz : XRm z r ρ := hx.ex he (fun a j q1 q2 => by unfold C_go; omega)
        have e5 : z (r + 13) 5 = G := by have := hz.2.2.2.2 5 (by omega); rw [show ((5 : Nat) : Int) = 5 from rfl] at this; rw [this, h75]
        have e0 : z (r + 13) 0 = ρ 7 0 := hz.2.2.2.2 0 (by omega)
        have g50 := (h50 g (by omega)).1
        have g51 := (h50 g (by omega)).2
        have ig := i1 g (by omega)
        have we : (if m 50 g ≤ 0 then 0 else (if m 51 g + ρ 3 s ≤ L then 0 else 1 : Int) : Int) = (if m 51 g + ρ 3 s ≤ L then 0 else 1) := by
          by_cases c : m 50 g ≤ 0
          · rw [if_pos c, if_pos (by have := ig.2.2 c; omega)]
          · rw [if_neg c]
        refine g_X4_giveOut_76 H ?_
        rw [g50, g51, we, e0, e5]
        have yE : Ex C_go z (wr (wr (wr z 50 g (m 50 g + ρ 3 s + (if (if m 51 g + ρ 3 s ≤ L then 0 else 1 : Int) = 0 then 0 else ρ 7 0))) 51 g (if (if m 51 g + ρ 3 s ≤ L then 0 else 1 : Int) = 0 then m 51 g + ρ 3 s else ρ 3 s)) 49 s g) := (((Ex.refl C_go z).put (Or.inr (Or.inr (Or.inr (Or.inl rfl))))).put (Or.inr (Or.inr (Or.inr (Or.inr rfl))))).put (Or.inr (Or.inr (Or.inl rfl)))
        have wv : (if (if m 51 g + ρ 3 s ≤ L then 0 else 1 : Int) = 0 then 0 else ρ 7 0) = (if m 51 g + ρ 3 s ≤ L then 0 else ρ 7 0) := by
          by_cases c : m 51 g + ρ 3 s ≤ L
          · rw [if_pos c, if_pos c, if_pos rfl]
          · rw [if_neg c, if_neg c, if_neg (by decide)]
        have wo : (if (if m 51 g + ρ 3 s ≤ L then 0 else 1 : Int) = 0 then m 51 g + ρ 3 s else ρ 3 s) = (if m 51 g + ρ 3 s ≤ L then m 51 g + ρ 3 s else ρ 3 s) := by
          by_cases c : m 51 g + ρ 3 s ≤ L
          · rw [if_pos c, if_pos c, if_pos rfl]
          · rw [if_neg c, if_neg c, if_neg (by decide)]
        rw [wv, wo] at yE ⊢
        have y50 : ∀ q : Nat, q < 3 → wr (wr (wr z 50 g (m 50 g + ρ 3 s + (if m 51 g + ρ 3 s ≤ L then 0 else ρ 7 0))) 51 g (if m 51 g + ρ 3 s ≤ L then m 51 g + ρ 3 s else ρ 3 s)) 49 s g 50 q = tiS L (ρ 7 0) (m 50) (m 51) g (ρ 3 s) q := fun q hq => by
          rw [wr_na _ _ _ _ _ _ (by decide), wr_na _ _ _ _ _ _ (by decide)]
          unfold tiS
          by_cases e : (q : Int) = g
          · rw [if_pos e, e, wr_eq]
          · rw [if_neg e, wr_ne _ _ _ _ _ _ (by omega)]; exact (h50 q hq).1
        have y51 : ∀ q : Nat, q < 3 → wr (wr (wr z 50 g (m 50 g + ρ 3 s + (if m 51 g + ρ 3 s ≤ L then 0 else ρ 7 0))) 51 g (if m 51 g + ρ 3 s ≤ L then m 51 g + ρ 3 s else ρ 3 s)) 49 s g 51 q = onS L (m 51) g (ρ 3 s) q := fun q hq => by
          rw [wr_na _ _ _ _ _ _ (by decide)]
          unfold onS
          by_cases e : (q : Int) = g
          · rw [if_pos e, e, wr_eq]
          · rw [if_neg e, wr_ne _ _ _ _ _ _ (by omega), wr_na _ _ _ _ _ _ (by decide)]; exact (h50 q hq).2
        have y49s : wr (wr (wr z 50 g (m 50 g + ρ 3 s + (if m 51 g + ρ 3 s ≤ L then 0 else ρ 7 0))) 51 g (if m 51 g + ρ 3 s ≤ L then m 51 g + ρ 3 s else ρ 3 s)) 49 s g 49 s = g := wr_eq _ _ _ _
        have y49 : ∀ i : Nat, i < s → wr (wr (wr z 50 g (m 50 g + ρ 3 s + (if m 51 g + ρ 3 s ≤ L then 0 else ρ 7 0))) 51 g (if m 51 g + ρ 3 s ≤ L then m 51 g + ρ 3 s else ρ 3 s)) 49 s g 49 i = m 49 i := fun i hi => by
          rw [wr_ne _ _ _ _ _ _ (by omega), wr_na _ _ _ _ _ _ (by decide), wr_na _ _ _ _ _ _ (by decide)]; exact h49 i hi
        have y4 : wr (wr (wr z 50 g (m 50 g + ρ 3 s + (if m 51 g + ρ 3 s ≤ L then 0 else ρ 7 0))) 51 g (if m 51 g + ρ 3 s ≤ L then m 51 g + ρ 3 s else ρ 3 s)) 49 s g 44 10 = z 44 10 := by
          rw [wr_na _ _ _ _ _ _ (by decide), wr_na _ _ _ _ _ _ (by decide), wr_na _ _ _ _ _ _ (by decide)]
        have y48 : ∀ i : Int, wr (wr (wr z 50 g (m 50 g + ρ 3 s + (if m 51 g + ρ 3 s ≤ L then 0 else ρ 7 0))) 51 g (if m 51 g + ρ 3 s ≤ L then m 51 g + ρ 3 s else ρ 3 s)) 49 s g 48 i = z 48 i := fun i => by
          rw [wr_na _ _ _ _ _ _ (by decide), wr_na _ _ _ _ _ _ (by decide), wr_na _ _ _ _ _ _ (by decide)]
        generalize wr (wr (wr z 50 g (m 50 g + ρ 3 s + (if m 51 g + ρ 3 s ≤ L then 0 else ρ 7 0))) 51 g (if m 51 g + ρ 3 s ≤ L then m 51 g + ρ 3 s else ρ 3 s)) 49 s g = y at yE y50 y51 y49s y49 y4 y48 ⊢
        have yg : y 50 g = m 50 g + ρ 3 s + (if m 51 g + ρ 3 s ≤ L then 0 else ρ 7 0) := by
          rw [y50 g (by omega)]
          unfold tiS
          rw [if_pos rfl]
        have ygb : R32 (y 50 g) := by
          rw [yg]
          unfold R32
          split <;> omega
        -- the girl is given back
        have bk : ∀ u : Mem, Ex C_go m u → (∀ i : Nat, i < s → u 49 i = m 49 i) → (∀ q : Nat, q < 3 → u 50 q = tiS L (ρ 7 0) (m 50) (m 51) g (ρ 3 s) q ∧ u 51 q = onS L (m 51) g (ρ 3 s) q) → (u 44 10 ≤ m 44 10 ∧ 0 ≤ u 44 10) → (∀ q : Nat, q < g + 1 → u 44 10 ≤ mnS (ρ 3) L (ρ 7 0) G j (s + 1) (tiS L (ρ 7 0) (m 50) (m 51) q (ρ 3 s)) (onS L (m 51) q (ρ 3 s))) → ((u 44 10 = m 44 10 ∧ ∀ i : Nat, i < 10 → u 48 i = m 48 i) ∨ ∃ q : Nat, q < g + 1 ∧ u 44 10 = mnS (ρ 3) L (ρ 7 0) G j (s + 1) (tiS L (ρ 7 0) (m 50) (m 51) q (ρ 3 s)) (onS L (m 51) q (ρ 3 s)) ∧ u 44 10 < m 44 10 ∧ (∀ p : Nat, p < q → u 44 10 < mnS (ρ 3) L (ρ 7 0) G j (s + 1) (tiS L (ρ 7 0) (m 50) (m 51) p (ρ 3 s)) (onS L (m 51) p (ρ 3 s))) ∧ (∀ i : Nat, i < s → u 48 i = m 49 i) ∧ u 48 s = q ∧ FsS (ρ 3) L (ρ 7 0) G j (s + 1) (tiS L (ρ 7 0) (m 50) (m 51) q (ρ 3 s)) (onS L (m 51) q (ρ 3 s)) (u 48)) → S_X4_giveOut sc d 240 [aR 44, aR r, aI L, aI s, aI bz, aI (ρ 3 s), aI g, aI (m 50 g), aI (m 51 g), aU] [] u (fun v z => v = none ∧ GoP ρ L G (j + 1) s m z) := by
          intro u ue u49 u50 ucb ule uat
          refine g_X4_giveOut_240 H ⟨by omega, by omega, ?_⟩
          have k4 : wr (wr u 50 g (m 50 g)) 51 g (m 51 g) 44 10 = u 44 10 := by rw [wr_na _ _ _ _ _ _ (by decide), wr_na _ _ _ _ _ _ (by decide)]
          have k48 : wr (wr u 50 g (m 50 g)) 51 g (m 51 g) 48 = u 48 := funext fun i => by rw [wr_na _ _ _ _ _ _ (by decide), wr_na _ _ _ _ _ _ (by decide)]
          refine ihn (g + 1) _ (by omega) ((ue.put (Or.inr (Or.inr (Or.inr (Or.inl rfl))))).put (Or.inr (Or.inr (Or.inr (Or.inr rfl))))) (fun i hi => ?_) (fun q hq => ⟨?_, ?_⟩) (by rw [k4]; exact ucb) (by rw [k4]; exact ule) (by rw [k4, k48]; exact uat)
          · rw [wr_na _ _ _ _ _ _ (by decide), wr_na _ _ _ _ _ _ (by decide)]; exact u49 i hi
          · rw [wr_na _ _ _ _ _ _ (by decide)]
            by_cases e : (q : Int) = g
            · rw [e, wr_eq]
            · rw [wr_ne _ _ _ _ _ _ (by omega), (u50 q hq).1]
              unfold tiS
              rw [if_neg e]
          · by_cases e : (q : Int) = g
            · rw [e, wr_eq]
            · rw [wr_ne _ _ _ _ _ _ (by omega), wr_na _ _ _ _ _ _ (by decide), (u50 q hq).2]
              unfold onS
              rw [if_neg e]
        refine ⟨by omega, by omega, fun c => ⟨rfl, fin g z (by omega) (fun _ => by omega) he h49 h50 hle hat⟩, fun c1 => ⟨by omega, fun c => absurd c (by omega), fun _ => ⟨fun c => absurd c (by omega), fun _ => ⟨by omega, by omega, by omega, fun _ => by omega, fun _ => by omega, by split <;> omega, by split <;> omega, by omega, by omega, ygb, by rw [y4]; omega, fun c => ?_, fun c => ?_⟩⟩⟩⟩
        · rw [y4] at c
          refine bk y (he.trans yE) y49 (fun q hq => ⟨y50 q hq, y51 q hq⟩) (by rw [y4]; exact hcb) (fun q hq => ?_) ?_
          · rw [y4]
            by_cases e : q = g
            · rw [e]
              have ge := mnS_ge (T := ρ 3) (L := L) (W := ρ 7 0) (G := G) hG.1 m0.1 j (s + 1) (tiS L (ρ 7 0) (m 50) (m 51) g (ρ 3 s)) (onS L (m 51) g (ρ 3 s)) (fun i hi => by have := (hb.2.2.2.1 i (by omega)).1; omega) g (by omega)
              rw [← y50 g (by omega)] at ge
              omega
            · exact hle q (by omega)
          · rw [y4]
            rcases hat with ⟨a1, a2⟩ | ⟨q, q1, q2, q3, q4, q5, q6, q7⟩
            · exact Or.inl ⟨a1, fun i hi => by rw [y48]; exact a2 i hi⟩
            · exact Or.inr ⟨q, by omega, q2, q3, q4, fun i hi => by rw [y48]; exact q5 i hi, by rw [y48]; exact q6, FsS_congr hG.1 _ _ _ _ _ _ _ _ (fun _ _ => ⟨rfl, rfl⟩) (fun i _ _ => (y48 i).symm) q7⟩
        · rw [y4] at c
          have bze : (if (g : Int) ≠ bz then (bz : Int) else (bz : Int) + 1) = ((if g = bz then bz + 1 else bz : Nat) : Int) := by
            by_cases e : g = bz
            · rw [if_pos e, if_neg (by omega)]; rfl
            · rw [if_neg e, if_pos (by omega)]
          rw [bze]
          have yI : GoI y (if g = bz then bz + 1 else bz) (s + 1) := by
            refine ⟨fun q hq => ?_, fun q h1 h2 => ?_, by rw [y4]; omega, by split <;> omega⟩
            · have iq := i1 q hq
              rw [y50 q hq, y51 q hq]
              unfold tiS onS
              by_cases e : (q : Int) = g
              · rw [if_pos e, if_pos e]
                by_cases c2 : m 51 q + ρ 3 s ≤ L
                · rw [if_pos c2, if_pos c2]; omega
                · rw [if_neg c2, if_neg c2]; omega
              · rw [if_neg e, if_neg e]; omega
            · have qg : ¬ (q : Int) = g ∧ bz ≤ q := by split at h1 <;> omega
              have iq := i2 q qg.2 h2
              rw [y50 q h2, y51 q h2]
              unfold tiS onS
              rw [if_neg qg.1, if_neg qg.1]
              exact iq
          refine p_X4_giveOut_237 (d2 := d - 1) H H (ih (s + 1) (d - 1) (if g = bz then bz + 1 else bz) y (by omega) (by omega) (hx.ex (he.trans yE) (fun a j q1 q2 => by unfold C_go; omega)) yI) (by omega) ?_
          rintro u ⟨-, ue, u49, u50, uv⟩
          have ce : mnS (ρ 3) L (ρ 7 0) G j (s + 1) (y 50) (y 51) = mnS (ρ 3) L (ρ 7 0) G j (s + 1) (tiS L (ρ 7 0) (m 50) (m 51) g (ρ 3 s)) (onS L (m 51) g (ρ 3 s)) := mnS_congr hG.1 _ _ _ _ _ _ (fun q hq => ⟨y50 q hq, y51 q hq⟩)
          rw [ce, y4] at uv
          have vge := mnS_ge (T := ρ 3) (L := L) (W := ρ 7 0) (G := G) hG.1 m0.1 j (s + 1) (tiS L (ρ 7 0) (m 50) (m 51) g (ρ 3 s)) (onS L (m 51) g (ρ 3 s)) (fun i hi => by have := (hb.2.2.2.1 i (by omega)).1; omega) g (by omega)
          rw [← y50 g (by omega), yg] at vge
          have v0 : 0 ≤ mnS (ρ 3) L (ρ 7 0) G j (s + 1) (tiS L (ρ 7 0) (m 50) (m 51) g (ρ 3 s)) (onS L (m 51) g (ρ 3 s)) := by split at vge <;> omega
          rcases uv with ⟨w1, w2, w3, w4⟩ | ⟨w1, w2, w3⟩
          · refine bk u ((he.trans yE).trans ue) (fun i hi => (u49 i (by omega)).trans (y49 i hi)) (fun q hq => ⟨(u50 q hq).1.trans (y50 q hq), (u50 q hq).2.trans (y51 q hq)⟩) (by rw [w2]; omega) (fun q hq => ?_) (Or.inr ⟨g, by omega, w2, by rw [w2]; omega, fun p hp => ?_, fun i hi => (w3 i (by omega)).trans (y49 i hi), (w3 s (by omega)).trans y49s, ?_⟩)
            · rw [w2]
              by_cases e : q = g
              · rw [e]; exact Int.le_refl _
              · have := hle q (by omega); omega
            · rw [w2]
              have := hle p hp; omega
            · exact FsS_congr hG.1 _ _ _ _ _ _ _ _ (fun q hq => ⟨y50 q hq, y51 q hq⟩) (fun _ _ _ => rfl) w4
          · refine bk u ((he.trans yE).trans ue) (fun i hi => (u49 i (by omega)).trans (y49 i hi)) (fun q hq => ⟨(u50 q hq).1.trans (y50 q hq), (u50 q hq).2.trans (y51 q hq)⟩) (by rw [w2]; exact hcb) (fun q hq => ?_) ?_
            · rw [w2]
              by_cases e : q = g
              · rw [e]; exact w1
              · exact hle q (by omega)
            · rw [w2]
              rcases hat with ⟨a1, a2⟩ | ⟨q, q1, q2, q3, q4, q5, q6, q7⟩
              · exact Or.inl ⟨a1, fun i hi => by rw [w3 i hi, y48]; exact a2 i hi⟩
              · exact Or.inr ⟨q, by omega, q2, q3, q4, fun i hi => by rw [w3 i (by omega), y48]; exact q5 i hi, by rw [w3 s (by omega), y48]; exact q6, FsS_congr hG.1 _ _ _ _ _ _ _ _ (fun _ _ => ⟨rfl, rfl⟩) (fun i _ _ => by rw [w3 i (by omega), y48]) q7⟩
    exact lp G 0 m (by omega) (Ex.refl _ _) (fun _ _ => rfl) (fun _ _ => ⟨rfl, rfl⟩) ⟨Int.le_refl _, i3.1⟩ (fun q hq => by omega) (Or.inl ⟨rfl, fun _ _ => rfl⟩)
end SX
