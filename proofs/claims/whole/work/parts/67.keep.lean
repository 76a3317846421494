/-! the day is kept on both sides -/
def C_kx (a j : Int) : Prop := a = 58 ∨ (a = 57 ∧ j = 8)
def C_km (a j : Int) : Prop := a = 125 ∨ (a = 62 ∧ (j = 83 ∨ j = 84))
def kpW (b : Mem) : Mem := wr (wr (wr (wr (wr (wr (wr b 58 (b 57 8 * 6) (b 57 0)) 58 (b 57 8 * 6 + 1) (b 57 1)) 58 (b 57 8 * 6 + 2) (b 57 2)) 58 (b 57 8 * 6 + 3) (b 57 3)) 58 (b 57 8 * 6 + 4) (b 57 4)) 58 (b 57 8 * 6 + 5) (b 57 5)) 57 8 (b 57 8 + 1)
theorem kpW_ex (b : Mem) : Ex C_kx b (kpW b) := by
  unfold kpW
  exact (((((((Ex.refl _ _).put (Or.inl rfl)).put (Or.inl rfl)).put (Or.inl rfl)).put (Or.inl rfl)).put (Or.inl rfl)).put (Or.inl rfl)).put (Or.inr ⟨rfl, rfl⟩)
theorem kpW_8 (b : Mem) : kpW b 57 8 = b 57 8 + 1 := wr_eq _ _ _ _
theorem kpW_new (b : Mem) (k : Nat) (hk : k < 6) : kpW b 58 (b 57 8 * 6 + k) = b 57 k := by
  unfold kpW
  rw [wr_na _ _ _ _ _ _ (by decide)]
  rcases (by omega : k = 0 ∨ k = 1 ∨ k = 2 ∨ k = 3 ∨ k = 4 ∨ k = 5) with rfl | rfl | rfl | rfl | rfl | rfl
  · rw [wr_ne _ _ _ _ _ _ (by omega), wr_ne _ _ _ _ _ _ (by omega), wr_ne _ _ _ _ _ _ (by omega), wr_ne _ _ _ _ _ _ (by omega), wr_ne _ _ _ _ _ _ (by omega), show b 57 8 * 6 + ((0 : Nat) : Int) = b 57 8 * 6 by omega, wr_eq]; rfl
  · rw [wr_ne _ _ _ _ _ _ (by omega), wr_ne _ _ _ _ _ _ (by omega), wr_ne _ _ _ _ _ _ (by omega), wr_ne _ _ _ _ _ _ (by omega)]; exact wr_eq _ _ _ _
  · rw [wr_ne _ _ _ _ _ _ (by omega), wr_ne _ _ _ _ _ _ (by omega), wr_ne _ _ _ _ _ _ (by omega)]; exact wr_eq _ _ _ _
  · rw [wr_ne _ _ _ _ _ _ (by omega), wr_ne _ _ _ _ _ _ (by omega)]; exact wr_eq _ _ _ _
  · rw [wr_ne _ _ _ _ _ _ (by omega)]; exact wr_eq _ _ _ _
  · exact wr_eq _ _ _ _
theorem kpW_old (b : Mem) (q : Int) (hq : q < b 57 8 * 6) : kpW b 58 q = b 58 q := by
  unfold kpW
  rw [wr_na _ _ _ _ _ _ (by decide), wr_ne _ _ _ _ _ _ (by omega), wr_ne _ _ _ _ _ _ (by omega), wr_ne _ _ _ _ _ _ (by omega), wr_ne _ _ _ _ _ _ (by omega), wr_ne _ _ _ _ _ _ (by omega), wr_ne _ _ _ _ _ _ (by omega)]
/-- behind it: the newest is the day, the others are one older; at most 20 -/
def KpX (m z : Mem) : Prop := Ex C_kx m z ∧ (z 57 8 = if m 57 8 < 20 then m 57 8 + 1 else 20) ∧ (∀ k : Nat, k < 6 → z 58 ((z 57 8 - 1) * 6 + k) = m 57 k) ∧ ∀ i : Nat, (i : Int) + 1 < z 57 8 → ∀ k : Nat, k < 6 → z 58 ((z 57 8 - 1 - (i + 1)) * 6 + k) = m 58 ((m 57 8 - 1 - i) * 6 + k)
theorem s_keep {sc : List Int} {d : Nat} {m : Mem} (hd : 1 ≤ d) (hp : 0 ≤ m 57 8 ∧ m 57 8 ≤ 20) : P_X2_keep sc d [aR 57] m (fun v z => v = none ∧ KpX m z) := by
  refine ep_X2_keep (g_X2_keep_0 ⟨by omega, fun c => ⟨by omega, by omega, by omega, by omega, by omega, by omega, by omega, by omega, by omega, by omega, by omega, by omega, ?_⟩, fun c => ?_⟩)
  · simp only [wr_na, ne_eq, Int.reduceEq, not_false_eq_true]
    show True ∧ KpX m (kpW m)
    refine ⟨trivial, kpW_ex m, by rw [kpW_8, if_pos c], fun k hk => ?_, fun i hi k hk => ?_⟩
    · rw [kpW_8, show m 57 8 + 1 - 1 = m 57 8 by omega]
      exact kpW_new m k hk
    · rw [kpW_8] at hi ⊢
      rw [kpW_old m _ (by omega), show m 57 8 + 1 - 1 - ((i : Int) + 1) = m 57 8 - 1 - i by omega]
  · have e20 : m 57 8 = 20 := by omega
    generalize hb : wr (acp m (m 58) 6 58 0 114) 57 8 19 = b
    have b8 : b 57 8 = 19 := by rw [← hb, wr_eq]
    have bo : ∀ a j, a ≠ 58 → ¬ (a = 57 ∧ j = 8) → b a j = m a j := fun a j q1 q2 => by
      rw [← hb, wr_ne _ _ _ _ _ _ q2]
      unfold acp
      rw [if_neg (fun q => q1 q.1)]
    have bs : ∀ q : Int, 0 ≤ q → q < 114 → b 58 q = m 58 (q + 6) := fun q q1 q2 => by
      rw [← hb, wr_na _ _ _ _ _ _ (by decide)]
      unfold acp
      rw [if_pos ⟨rfl, by omega, by omega⟩]
      congr 1
      omega
    refine ⟨hd, by omega, by omega, by omega, by omega, by omega, by omega, by omega, by omega, by omega, by omega, by omega, by omega, ?_⟩
    simp only [wr_na, ne_eq, Int.reduceEq, not_false_eq_true]
    show True ∧ KpX m (kpW b)
    refine ⟨trivial, fun a j q => ?_, by rw [kpW_8, b8, if_neg c]; rfl, fun k hk => ?_, fun i hi k hk => ?_⟩
    · rw [kpW_ex b a j q]
      exact bo a j (fun c => q (Or.inl c)) (fun c => q (Or.inr c))
    · rw [kpW_8, show b 57 8 + 1 - 1 = b 57 8 by omega, kpW_new b k hk]
      exact bo 57 k (by decide) (by omega)
    · rw [kpW_8, b8] at hi ⊢
      rw [kpW_old b _ (by omega), bs _ (by omega) (by omega), e20]
      congr 1
      omega
/-- the reference: the newest is the day, others stay -/
def KpM (m z : Mem) : Prop := Ex C_km m z ∧ (z 62 83 = if m 62 83 < 20 then m 62 83 + 1 else 20) ∧ z 62 84 = (m 62 84 + 1) % 20 ∧ (∀ k : Nat, k < 6 → z 125 (6 * z 62 84 + k) = m 124 k) ∧ ∀ q : Int, (q < 6 * z 62 84 ∨ 6 * z 62 84 + 6 ≤ q) → z 125 q = m 125 q
theorem s_keeps {sc : List Int} {d : Nat} {m : Mem} (h1 : 0 ≤ m 62 83 ∧ m 62 83 ≤ 20) (h2 : 0 ≤ m 62 84 ∧ m 62 84 < 20) : P_X8_keeps sc d [aR 62] m (fun v z => v = none ∧ KpM m z) := by
  have et : (m 62 84 + 1).tmod 20 = (m 62 84 + 1) % 20 := Int.tmod_eq_emod_of_nonneg (by omega)
  have l : ∀ (j i : Nat) (z : Mem), i + j = 6 → Ex C_km m z → z 62 83 = m 62 83 → z 62 84 = (m 62 84 + 1) % 20 → (∀ k : Nat, k < i → z 125 (6 * z 62 84 + k) = m 124 k) → (∀ q : Int, (q < 6 * z 62 84 ∨ 6 * z 62 84 + 6 ≤ q) → z 125 q = m 125 q) → S_X8_keeps sc d 15 [aR 62, aI i] [] z (fun v z => v = none ∧ KpM m z) := by
    intro j
    induction j with
    | zero =>
      intro i z hi he e3 e4 e5 e6
      obtain rfl : i = 6 := by omega
      refine g_X8_keeps_15 ⟨by omega, fun _ => ⟨by omega, fun c => ⟨rfl, he, by rw [e3, if_neg (by omega)]; omega, e4, e5, e6⟩, fun c => ⟨rfl, he.put (Or.inr ⟨rfl, Or.inl rfl⟩), by rw [wr_eq, e3, if_pos (by omega)], ?_, ?_, ?_⟩⟩, fun c => absurd (by omega) c⟩
      · rw [wr_ne _ _ _ _ _ _ (by omega)]; exact e4
      · intro k hk
        rw [wr_na _ _ _ _ _ _ (by decide), wr_ne z 62 83 _ 62 84 (by omega)]; exact e5 k hk
      · intro q hq
        rw [wr_ne z 62 83 _ 62 84 (by omega)] at hq
        rw [wr_na _ _ _ _ _ _ (by decide)]; exact e6 q hq
    | succ j ih =>
      intro i z hi he e3 e4 e5 e6
      have e7 : z 124 i = m 124 i := he 124 _ (by unfold C_km; omega)
      refine g_X8_keeps_15 ⟨by omega, fun c => absurd c (by omega), fun _ => ⟨by omega, by omega, by omega, by omega, ?_⟩⟩
      refine ih (i + 1) _ (by omega) (he.put (Or.inl rfl)) (by rw [wr_na _ _ _ _ _ _ (by decide)]; exact e3) (by rw [wr_na _ _ _ _ _ _ (by decide)]; exact e4) (fun k hk => ?_) (fun q hq => ?_)
      · rw [wr_na z 125 _ _ 62 84 (by decide)]
        by_cases e : k = i
        · subst e; rw [wr_eq]; exact e7
        · rw [wr_ne _ _ _ _ _ _ (by omega)]; exact e5 k (by omega)
      · rw [wr_na z 125 _ _ 62 84 (by decide)] at hq
        rw [wr_ne _ _ _ _ _ _ (by omega)]; exact e6 q hq
  refine ep_X8_keeps (g_X8_keeps_0 ⟨by omega, ?_⟩)
  rw [et]
  exact l 6 0 _ (by omega) ((Ex.refl _ _).put (Or.inr ⟨rfl, Or.inr rfl⟩)) (wr_ne _ _ _ _ _ _ (by omega)) (wr_eq _ _ _ _) (fun k hk => by omega) (fun q hq => wr_na _ _ _ _ _ _ (by decide))
/-- both kept: what is past agrees again -/
theorem past_kept {m z0 z y ρ : Mem} {C : Int → Int → Prop} (hp : PastL m ρ) (hD : DayL m ρ) (h1 : KpX m z0) (hz : Ex C z0 z) (hc : ∀ a j, C a j → a ≤ 57 ∧ ¬ (a = 57 ∧ j = 8)) (h2 : KpM z y) : PastL y ρ := by
  obtain ⟨p1, p2, p3, p4⟩ := hp
  have hz8 : z 57 8 = z0 57 8 := hz 57 8 (fun c => (hc _ _ c).2 ⟨rfl, rfl⟩)
  have hz58 : z 58 = z0 58 := funext fun j => hz 58 j (fun c => absurd (hc _ _ c).1 (by omega))
  have hzm : ∀ a j, 58 ≤ a → z a j = z0 a j := fun a j q => hz a j (fun c => absurd (hc _ _ c).1 (by omega))
  obtain ⟨x1, x2, x3, x4⟩ := h1
  rw [← hz8] at x2
  rw [← hz8, ← hz58] at x3
  rw [← hz8, ← hz58] at x4
  obtain ⟨y1, y2, y3, y4, y5⟩ := h2
  have e1 : z 62 83 = m 62 83 := (hzm 62 83 (by decide)).trans (x1 62 83 (by unfold C_kx; omega))
  have e2 : z 62 84 = m 62 84 := (hzm 62 84 (by decide)).trans (x1 62 84 (by unfold C_kx; omega))
  have e3 : y 57 8 = z 57 8 := y1 57 8 (by unfold C_km; omega)
  have e4 : ∀ q, y 58 q = z 58 q := fun q => y1 58 q (by unfold C_km; omega)
  have e5 : ∀ q, z 125 q = m 125 q := fun q => (hzm 125 q (by decide)).trans (x1 125 q (by unfold C_kx; omega))
  have e6 : ∀ q, z 124 q = m 124 q := fun q => (hzm 124 q (by decide)).trans (x1 124 q (by unfold C_kx; omega))
  rw [e1] at y2
  rw [e2] at y3
  have z8 : 1 ≤ z 57 8 ∧ z 57 8 ≤ 20 := by rw [x2]; split <;> omega
  refine ⟨by rw [e3]; omega, by rw [e3, x2, y2, p2], by omega, fun i hi => ?_⟩
  rw [e3] at hi ⊢
  have r58 : y 58 = z 58 := funext e4
  rw [r58]
  cases i with
  | zero =>
    have en : (y 62 84 + 20 - ((0 : Nat) : Int)) % 20 = y 62 84 := by omega
    rw [en, show z 57 8 - 1 - ((0 : Nat) : Int) = z 57 8 - 1 by omega]
    refine ⟨fun k hk => ?_, hD.2.congr (fun k hk => x3 k hk)⟩
    rw [y4 k hk, x3 k hk, e6]
    exact hD.1 k hk
  | succ i =>
    have q := p4 i (by rw [x2] at hi; split at hi <;> omega)
    have en : (y 62 84 + 20 - ((i + 1 : Nat) : Int)) % 20 = (m 62 84 + 20 - i) % 20 := by omega
    have en2 : (m 62 84 + 20 - (i : Int)) % 20 ≠ y 62 84 := by omega
    have en3 : 0 ≤ (m 62 84 + 20 - (i : Int)) % 20 ∧ (m 62 84 + 20 - (i : Int)) % 20 < 20 := by omega
    rw [en, show ((i + 1 : Nat) : Int) = (i : Int) + 1 from rfl]
    have x5 := x4 i hi
    refine ⟨fun k hk => ?_, q.2.congr (fun k hk => x5 k hk)⟩
    rw [y5 _ (by omega), e5, x5 k hk]
    exact q.1 k hk
