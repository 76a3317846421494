/-! wound on both sides: the least over the number of batches -/
def wnT (a : Nat) (bt wd : Int) (n b : Nat) : Int := b * bt + ((n - a * b : Nat) : Int) * wd
def wnMin (a : Nat) (bt wd : Int) (n : Nat) (v : Int) : Prop := (∀ b : Nat, v ≤ wnT a bt wd n b) ∧ ∃ b : Nat, v = wnT a bt wd n b
theorem wnT_b (a : Nat) (bt wd : Int) (n b : Nat) : wnT a bt wd n (b + 1) = wnT a bt wd (n - a) b + bt := by
  unfold wnT
  rw [show n - a * (b + 1) = n - a - a * b by rw [Nat.mul_succ]; omega, Int.natCast_succ, Int.add_mul, Int.one_mul]
  omega
theorem wnT_n (a : Nat) (bt wd : Int) (n b : Nat) (h : a * b ≤ n) : wnT a bt wd (n + 1) b = wnT a bt wd n b + wd := by
  unfold wnT
  rw [show n + 1 - a * b = (n - a * b) + 1 by omega, Int.natCast_succ, Int.add_mul, Int.one_mul]
  omega
theorem wnT_s (a : Nat) (bt wd : Int) (n b : Nat) (h : n < a * b) : wnT a bt wd (n + 1) b = wnT a bt wd n b := by
  unfold wnT
  rw [show n + 1 - a * b = 0 by omega, show n - a * b = 0 by omega]
theorem wnT_nn {a : Nat} {bt wd : Int} (h1 : 0 ≤ bt) (h2 : 0 ≤ wd) (n b : Nat) : 0 ≤ wnT a bt wd n b := by
  unfold wnT
  have := Int.mul_nonneg (Int.natCast_nonneg b) h1
  have := Int.mul_nonneg (Int.natCast_nonneg (n - a * b)) h2
  omega
theorem wn_dp {a : Nat} {bt wd : Int} {f : Nat → Int} {N : Nat} (h1 : 0 ≤ bt) (h2 : 0 ≤ wd) (f0 : f 0 = 0) (hf : ∀ k : Nat, k < N → f (k + 1) = (if f (k + 1 - a) + bt ≤ f k + wd then f (k + 1 - a) + bt else f k + wd)) (ha : 1 ≤ a) : ∀ n : Nat, n ≤ N → wnMin a bt wd n (f n) := by
  intro n
  induction n using Nat.strongRecOn with
  | ind n ih =>
    intro hn
    cases n with
    | zero =>
      refine ⟨fun b => by rw [f0]; exact wnT_nn h1 h2 0 b, 0, ?_⟩
      rw [f0]; simp [wnT]
    | succ k =>
      have i1 := ih k (by omega) (by omega)
      have i2 := ih (k + 1 - a) (by omega) (by omega)
      have e := hf k (by omega)
      have le : ∀ b : Nat, f (k + 1) ≤ wnT a bt wd (k + 1) b := by
        intro b
        cases b with
        | zero =>
          have q := i1.1 0
          have := wnT_n a bt wd k 0 (by omega)
          rw [e]
          split <;> omega
        | succ b =>
          have q := i2.1 b
          rw [wnT_b, e]
          split <;> omega
      refine ⟨le, ?_⟩
      by_cases c : f (k + 1 - a) + bt ≤ f k + wd
      · rw [if_pos c] at e
        obtain ⟨b, hb⟩ := i2.2
        exact ⟨b + 1, by rw [wnT_b, e, hb]⟩
      · rw [if_neg c] at e
        obtain ⟨b, hb⟩ := i1.2
        refine ⟨b, ?_⟩
        by_cases c2 : a * b ≤ k
        · rw [wnT_n _ _ _ _ _ c2, e, hb]
        · have q := le b
          rw [wnT_s _ _ _ _ _ (by omega), ← hb] at q
          rw [wnT_s _ _ _ _ _ (by omega), ← hb]
          omega
theorem wnMin.eq {a : Nat} {bt wd : Int} {n : Nat} {x y : Int} (h1 : wnMin a bt wd n x) (h2 : wnMin a bt wd n y) : x = y := by
  obtain ⟨b, hb⟩ := h1.2
  obtain ⟨c, hc⟩ := h2.2
  have := h1.1 c
  have := h2.1 b
  omega
def IsWn (ρ : Mem) (n v : Int) : Prop := ((0 ≤ n ∧ n ≤ 99) ∧ wnMin (ρ 7 4).toNat (ρ 7 3) (ρ 7 0) n.toNat v) ∨ (¬ (0 ≤ n ∧ n ≤ 99) ∧ v = -1)
theorem IsWn.eq {ρ : Mem} {n x y : Int} (h1 : IsWn ρ n x) (h2 : IsWn ρ n y) : x = y := by
  rcases h1 with ⟨p, p2⟩ | ⟨p, rfl⟩ <;> rcases h2 with ⟨q, q2⟩ | ⟨q, rfl⟩
  · exact p2.eq q2
  · exact absurd p q
  · exact absurd q p
  · rfl
theorem mul_bd {x y a b : Int} (h1 : 0 ≤ x ∧ x ≤ a) (h2 : 0 ≤ y ∧ y ≤ b) : 0 ≤ x * y ∧ x * y ≤ a * b := by
  refine ⟨Int.mul_nonneg h1.1 h2.1, ?_⟩
  exact Int.mul_le_mul h1.2 h2.2 h2.1 (by omega)
section WN
variable {sc : List Int} {d : Nat} {m : Mem} {Q : Option AV → Mem → Prop} {ρ : Mem}
theorem l_X7_wound {n : Nat} (h : Xt m ρ) (hd : 1 ≤ d) (hn : n ≤ 99) (k : ∀ v, wnMin (ρ 7 4).toNat (ρ 7 3) (ρ 7 0) n v → Q (some (aI v)) m) :
    ∀ (j b : Nat) (v : Int), n ≤ b + j → (b = 0 ∨ (ρ 7 4).toNat * (b - 1) < n) → (∀ b' : Nat, b' ≤ b → v ≤ wnT (ρ 7 4).toNat (ρ 7 3) (ρ 7 0) n b') → (∃ b' : Nat, b' ≤ b ∧ v = wnT (ρ 7 4).toNat (ρ 7 3) (ρ 7 0) n b') → S_X7_wound sc d 44 [aR 0, aU, aI (ρ 7 4), aI v, aI b, aI ((n : Int) - ρ 7 4 * b), aU] [] m Q := by
  obtain ⟨H, hx, hb⟩ := h
  have M0 := hb.2.2.2.2.1 0 (by omega)
  have M3 := hb.2.2.2.2.1 3 (by omega)
  have M4 := hb.2.2.2.2.2.1
  have e0 := hx.2.2.2.2 0 (by omega)
  have e3 := hx.2.2.2.2 3 (by omega)
  have M0 : 0 ≤ ρ 7 0 ∧ ρ 7 0 ≤ 99 := M0
  have M3 : 0 ≤ ρ 7 3 ∧ ρ 7 3 ≤ 99 := M3
  have e0 : m (m 0 2 + 13) 0 = ρ 7 0 := e0
  have e3 : m (m 0 2 + 13) 3 = ρ 7 3 := e3
  obtain ⟨a, ea⟩ := Int.eq_ofNat_of_zero_le (show 0 ≤ ρ 7 4 by omega)
  rw [ea] at M4 k ⊢
  rw [Int.toNat_natCast] at k ⊢
  have cst : ∀ b : Nat, ((a : Int) * b) = ((a * b : Nat) : Int) := fun b => by rw [Int.natCast_mul]
  have fin : ∀ (b : Nat) (v : Int), n ≤ a * b → (∀ b' : Nat, b' ≤ b → v ≤ wnT a (ρ 7 3) (ρ 7 0) n b') → (∃ b' : Nat, b' ≤ b ∧ v = wnT a (ρ 7 3) (ρ 7 0) n b') → wnMin a (ρ 7 3) (ρ 7 0) n v := by
    intro b v hq h1 h2
    refine ⟨fun c => ?_, ?_⟩
    · by_cases hc : c ≤ b
      · exact h1 c hc
      · have q := h1 b (Nat.le_refl _)
        have hm : a * b ≤ a * c := Nat.mul_le_mul_left _ (by omega)
        have e1 : wnT a (ρ 7 3) (ρ 7 0) n b = b * ρ 7 3 := by unfold wnT; rw [show n - a * b = 0 by omega]; simp
        have e2 : wnT a (ρ 7 3) (ρ 7 0) n c = c * ρ 7 3 := by unfold wnT; rw [show n - a * c = 0 by omega]; simp
        have : (b : Int) * ρ 7 3 ≤ c * ρ 7 3 := Int.mul_le_mul_of_nonneg_right (by omega) M3.1
        omega
    · obtain ⟨b', -, h⟩ := h2
      exact ⟨b', h⟩
  intro j
  induction j with
  | zero =>
    intro b v hj hp h1 h2
    have hq : n ≤ a * b := Nat.le_trans (by omega : n ≤ 1 * b) (Nat.mul_le_mul_right b (by omega))
    have hb2 : (b = 0) ∨ a * (b - 1) < n := hp
    have hm2 : a * b ≤ 99 + 9 := by
      rcases hb2 with rfl | hb2
      · simp
      · have : a * b = a * (b - 1) + a ∨ b = 0 := by
          cases b with
          | zero => exact Or.inr rfl
          | succ b => exact Or.inl (by rw [Nat.add_sub_cancel, Nat.mul_succ])
        rcases this with q | q
        · omega
        · subst q; simp
    rw [cst]
    exact g_X7_wound_44 ⟨by omega, fun _ => k v (fin b v hq h1 h2), fun c => absurd (by omega) c⟩
  | succ j ih =>
    intro b v hj hp h1 h2
    have hm2 : a * b ≤ 99 + 9 := by
      rcases hp with rfl | hb2
      · simp
      · have : a * b = a * (b - 1) + a ∨ b = 0 := by
          cases b with
          | zero => exact Or.inr rfl
          | succ b => exact Or.inl (by rw [Nat.add_sub_cancel, Nat.mul_succ])
        rcases this with q | q
        · omega
        · subst q; simp
    have hbb : b ≤ 108 := by
      have : 1 * b ≤ a * b := Nat.mul_le_mul_right b (by omega)
      omega
    rw [cst]
    refine g_X7_wound_44 ⟨by omega, fun c => k v (fin b v (by omega) h1 h2), fun c => ?_⟩
    refine p_X7_wound_57 (d2 := d - 1) (s_max (by omega) (by omega)) (by omega) ?_
    rintro _ _ ⟨e, rfl⟩; cases e
    refine g_X7_wound_60 ⟨H, ?_⟩
    rw [e0, e3]
    have hs : (if (0 : Int) < (n : Int) - ((a * b : Nat) : Int) - (a : Int) then (n : Int) - ((a * b : Nat) : Int) - (a : Int) else 0) = ((n - a * (b + 1) : Nat) : Int) := by
      rw [Nat.mul_succ]
      split <;> omega
    rw [hs]
    have eT : ((b : Int) + 1) * ρ 7 3 + ((n - a * (b + 1) : Nat) : Int) * ρ 7 0 = wnT a (ρ 7 3) (ρ 7 0) n (b + 1) := by
      unfold wnT
      rw [Int.natCast_succ]
    rw [eT]
    have bT : ∀ c : Nat, c ≤ 109 → 0 ≤ wnT a (ρ 7 3) (ρ 7 0) n c ∧ wnT a (ρ 7 3) (ρ 7 0) n c ≤ 109 * 99 + 99 * 99 := by
      intro c hc
      refine ⟨wnT_nn M3.1 M0.1 n c, ?_⟩
      unfold wnT
      have q1 := mul_bd (x := c) (a := 109) ⟨by omega, by omega⟩ M3
      have q2 := mul_bd (x := ((n - a * c : Nat) : Int)) (a := 99) ⟨by omega, by omega⟩ M0
      omega
    have bv : 0 ≤ v ∧ v ≤ 109 * 99 + 99 * 99 := by
      obtain ⟨b', hb', rfl⟩ := h2
      exact bT b' (by omega)
    have bT1 := bT (b + 1) (by omega)
    refine p_X7_wound_88 (d2 := d - 1) (s_min (by omega) (by omega)) (by omega) ?_
    rintro _ _ ⟨e, rfl⟩; cases e
    refine g_X7_wound_91 ?_
    have w := ih (b + 1) (if wnT a (ρ 7 3) (ρ 7 0) n (b + 1) < v then wnT a (ρ 7 3) (ρ 7 0) n (b + 1) else v) (by omega) (Or.inr (by rw [Nat.add_sub_cancel]; omega)) (fun c hc => by
      by_cases ec : c = b + 1
      · subst ec; split <;> omega
      · have := h1 c (by omega)
        split <;> omega) (by
      split
      · exact ⟨b + 1, Nat.le_refl _, rfl⟩
      · obtain ⟨b', hb', e⟩ := h2
        exact ⟨b', by omega, e⟩)
    rw [cst (b + 1), Nat.mul_succ, show (n : Int) - ((a * b + a : Nat) : Int) = (n : Int) - ((a * b : Nat) : Int) - (a : Int) by omega] at w
    exact w
theorem s_X7_wound {n : Int} (h : Xt m ρ) (hd : 1 ≤ d) (hn : R32 n) : P_X7_wound sc d [aR 0, aI n] m (fun v z => z = m ∧ ∃ x, v = some (aI x) ∧ IsWn ρ n x) := by
  have M0 := h.2.2.2.2.2.2.1 0 (by omega)
  have M4 := h.2.2.2.2.2.2.2.1
  have M0 : 0 ≤ ρ 7 0 ∧ ρ 7 0 ≤ 99 := M0
  have e0 : m (m 0 2 + 13) 0 = ρ 7 0 := h.2.1.2.2.2.2 0 (by omega)
  have e4 : m (m 0 2 + 13) 4 = ρ 7 4 := h.2.1.2.2.2.2 4 (by omega)
  refine ep_X7_wound (g_X7_wound_0 ⟨hn, fun c => ⟨rfl, _, rfl, Or.inr ⟨by omega, rfl⟩⟩, fun c => ⟨fun c2 => ⟨h.1, ?_⟩, fun c2 => ⟨rfl, _, rfl, Or.inr ⟨by omega, rfl⟩⟩⟩⟩)
  rw [e4]
  refine p_X7_wound_22 (d2 := d - 1) (s_max (by omega) (by omega)) (by omega) ?_
  rintro _ _ ⟨e, rfl⟩; cases e
  refine g_X7_wound_25 ⟨h.1, ?_⟩
  rw [e0, show (if 1 < ρ 7 4 then ρ 7 4 else 1) = ρ 7 4 by split <;> omega]
  obtain ⟨k, rfl⟩ := Int.eq_ofNat_of_zero_le (show 0 ≤ n by omega)
  have e1 : wnT (ρ 7 4).toNat (ρ 7 3) (ρ 7 0) k 0 = k * ρ 7 0 := by unfold wnT; simp
  have w := l_X7_wound (sc := sc) (Q := fun v z => z = _ ∧ ∃ x, v = some (aI x) ∧ IsWn ρ k x) h hd (by omega) (fun v hv => ⟨rfl, v, rfl, Or.inl ⟨by omega, by rw [Int.toNat_natCast]; exact hv⟩⟩) k 0 (k * ρ 7 0) (by omega) (Or.inl rfl) (fun b' hb' => by
    rw [show b' = 0 by omega, e1]; exact Int.le_refl _) ⟨0, Nat.le_refl _, e1.symm⟩
  rw [show (k : Int) - ρ 7 4 * ((0 : Nat) : Int) = k by simp] at w
  exact w
def C_wb (a j : Int) : Prop := a = 123
theorem l_X8_wound {n : Nat} (h : MRm m ρ) (hb : RmB ρ) (hd : 1 ≤ d) (hn : n ≤ 99) (k : ∀ v z, Ex C_wb m z → wnMin (ρ 7 4).toNat (ρ 7 3) (ρ 7 0) n v → Q (some (aI v)) z) :
    ∀ (j i : Nat) (z : Mem), i + j = n → Ex C_wb m z → (z 123 0 = 0) → (∀ q : Nat, q ≤ i → 0 ≤ z 123 q ∧ z 123 q ≤ 99 * q) → (∀ q : Nat, q < i → z 123 (q + 1) = (if z 123 ((q + 1 - (ρ 7 4).toNat : Nat) : Int) + ρ 7 3 ≤ z 123 q + ρ 7 0 then z 123 ((q + 1 - (ρ 7 4).toNat : Nat) : Int) + ρ 7 3 else z 123 q + ρ 7 0)) → S_X8_wound sc d 23 [aR 62, aI n, aI ((i : Int) + 1), aU, aU] [] z Q := by
  have M0 : 0 ≤ ρ 7 0 ∧ ρ 7 0 ≤ 99 := hb.2.2.2.2.1 0 (by omega)
  have M3 : 0 ≤ ρ 7 3 ∧ ρ 7 3 ≤ 99 := hb.2.2.2.2.1 3 (by omega)
  have M4 := hb.2.2.2.2.2.1
  intro j
  induction j with
  | zero =>
    intro i z hi he h0 hbd hr
    have e : i = n := by omega
    subst e
    refine g_X8_wound_23 ⟨by omega, by omega, fun _ => ⟨by omega, by omega, k _ z he ?_⟩, fun c => absurd (by omega) c⟩
    have := wn_dp (a := (ρ 7 4).toNat) (bt := ρ 7 3) (wd := ρ 7 0) (f := fun q => z 123 q) (N := i) M3.1 M0.1 h0 (fun q hq => hr q hq) (by omega) i (Nat.le_refl _)
    exact this
  | succ j ih =>
    intro i z hi he h0 hbd hr
    have hz := h.ex he (fun a j q => by unfold C_wb; omega)
    refine g_X8_wound_23 ⟨by omega, by omega, fun c => absurd c (by omega), fun _ => ⟨by omega, by omega, ?_⟩⟩
    rw [show (i : Int) + 1 - 1 = i by omega]
    refine p_X8_wound_38 (d2 := d - 1) (s_settingOf (i := 0) hz (by omega)) (by omega) ?_
    rintro _ z ⟨e, rfl⟩; cases e
    refine g_X8_wound_41 ?_
    refine p_X8_wound_50 (d2 := d - 1) ic_123 (s_settingOf (i := 4) hz (by omega)) (by omega) ?_
    rintro _ z ⟨e, rfl⟩; cases e
    have b1 := hbd i (Nat.le_refl _)
    have tail : ∀ x : Int, x = ((i + 1 - (ρ 7 4).toNat : Nat) : Int) → S_X8_wound sc d 70 [aR 62, aI n, aI ((i : Int) + 1), aI (z 123 i + ρ 7 ((0 : Nat) : Int)), aU] [aI 3, aR 62, aI (z 123 x)] z Q := by
      intro x hx
      subst hx
      have b2 := hbd (i + 1 - (ρ 7 4).toNat) (by omega)
      refine p_X8_wound_70 (d2 := d - 1) (s_settingOf (i := 3) hz (by omega)) (by omega) ?_
      rintro _ z ⟨e, rfl⟩; cases e
      refine g_X8_wound_73 ⟨?_, ?_, by omega, by omega, ?_⟩
      · show R32 (z 123 i + ρ 7 0)
        unfold R32; omega
      · show R32 (z 123 ((i + 1 - (ρ 7 4).toNat : Nat) : Int) + ρ 7 3)
        unfold R32; omega
      · have w := ih (i + 1) (wr z 123 ((i : Int) + 1) (if z 123 ((i + 1 - (ρ 7 4).toNat : Nat) : Int) + ρ 7 3 ≤ z 123 i + ρ 7 0 then z 123 ((i + 1 - (ρ 7 4).toNat : Nat) : Int) + ρ 7 3 else z 123 i + ρ 7 0)) (by omega) (he.put rfl) (by rw [wr_ne _ _ _ _ _ _ (by omega)]; exact h0) (fun q hq => by
          by_cases e : q = i + 1
          · subst e
            rw [show ((i + 1 : Nat) : Int) = (i : Int) + 1 from rfl, wr_eq]
            split <;> omega
          · rw [wr_ne _ _ _ _ _ _ (by omega)]; exact hbd q (by omega)) (fun q hq => by
          by_cases e : q = i
          · subst e
            rw [wr_eq, wr_ne _ _ _ _ _ _ (by omega), wr_ne _ _ _ _ _ _ (by omega)]
          · rw [wr_ne _ _ _ _ _ _ (by omega), wr_ne _ _ _ _ _ _ (by omega), wr_ne _ _ _ _ _ _ (by omega)]; exact hr q (by omega))
        exact w
    refine g_X8_wound_53 ic_123 ⟨by omega, ?_, fun c => ⟨by rw [al_123]; decide, tail 0 ?_⟩, fun c => ?_⟩
    · show R32 (ρ 7 4)
      unfold R32; omega
    · have c : (i : Int) + 1 ≤ ρ 7 4 := c
      omega
    · have c : ¬ ((i : Int) + 1 ≤ ρ 7 4) := c
      refine p_X8_wound_59 (d2 := d - 1) ic_123 (s_settingOf (i := 4) hz (by omega)) (by omega) ?_
      rintro _ _ ⟨e, rfl⟩; cases e
      refine g_X8_wound_62 ic_123 ⟨?_, ?_, tail _ ?_⟩
      · show 0 ≤ (i : Int) + 1 - ρ 7 4
        omega
      · rw [al_123]
        show (i : Int) + 1 - ρ 7 4 < 100
        omega
      · show (i : Int) + 1 - ρ 7 4 = _
        omega
theorem s_X8_wound {n : Int} (h : MRm m ρ) (hb : RmB ρ) (hd : 1 ≤ d) (hn : R32 n) : P_X8_wound sc d [aR 62, aI n] m (fun v z => Ex C_wb m z ∧ ∃ x, v = some (aI x) ∧ IsWn ρ n x) := by
  refine ep_X8_wound (g_X8_wound_0 ⟨hn, ?_⟩)
  refine p_X8_wound_6 (d2 := d - 1) (s_isIn ⟨by omega, by omega⟩ ⟨by omega, by omega⟩ ⟨by omega, by omega⟩) (by omega) ?_
  rintro _ _ ⟨rfl, ⟨e, q⟩ | ⟨e, q⟩⟩ <;> cases e
  · refine g_X8_wound_9 ⟨by omega, fun _ => ?_, fun c => absurd (by decide) c⟩
    obtain ⟨k, rfl⟩ := Int.eq_ofNat_of_zero_le (show 0 ≤ n by omega)
    exact l_X8_wound (Q := fun v z => Ex C_wb _ z ∧ ∃ x, v = some (aI x) ∧ IsWn ρ k x) h hb hd (n := k) (by omega) (fun v z he hv => ⟨he, v, rfl, Or.inl ⟨by omega, by rw [Int.toNat_natCast]; exact hv⟩⟩) k 0 _ (by omega) ((Ex.refl _ _).put rfl) (wr_eq _ _ _ _) (fun q hq => by
      rw [show q = 0 by omega]
      rw [show ((0 : Nat) : Int) = 0 from rfl, wr_eq]
      decide) (fun q hq => by omega)
  · exact g_X8_wound_9 ⟨by omega, fun c => absurd rfl c, fun _ => ⟨Ex.refl _ _, _, rfl, Or.inr ⟨q, rfl⟩⟩⟩
end WN
