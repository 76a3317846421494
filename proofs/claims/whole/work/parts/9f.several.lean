/-! several girls: the soonest end and the first way to it -/
section SV
variable {T : Int → Int} {L W : Int} {G : Nat}
def tiS (L W : Int) (ti on : Int → Int) (g : Int) (t : Int) : Int → Int := fun i => if i = g then ti i + t + (if on i + t ≤ L then 0 else W) else ti i
def onS (L : Int) (on : Int → Int) (g : Int) (t : Int) : Int → Int := fun i => if i = g then (if on i + t ≤ L then on i + t else t) else on i
def mx3 (ti : Int → Int) : Int := if (if ti 1 < ti 2 then ti 2 else ti 1) < ti 0 then ti 0 else (if ti 1 < ti 2 then ti 2 else ti 1)
/-- the least of f 0 .. f n -/
def mnO (f : Nat → Int) : Nat → Int
  | 0 => f 0
  | n + 1 => if f (n + 1) < mnO f n then f (n + 1) else mnO f n
theorem mnO_le (f : Nat → Int) : ∀ (n k : Nat), k ≤ n → mnO f n ≤ f k := by
  intro n
  induction n with
  | zero => intro k hk; rw [show k = 0 by omega]; exact Int.le_refl _
  | succ n ih =>
    intro k hk
    rw [mnO]
    by_cases e : k = n + 1
    · rw [e]; split <;> omega
    · have := ih k (by omega)
      split <;> omega
theorem mnO_at (f : Nat → Int) : ∀ n : Nat, ∃ k, k ≤ n ∧ mnO f n = f k := by
  intro n
  induction n with
  | zero => exact ⟨0, Nat.le_refl _, rfl⟩
  | succ n ih =>
    rw [mnO]
    split
    · exact ⟨n + 1, Nat.le_refl _, rfl⟩
    · obtain ⟨k, h1, h2⟩ := ih
      exact ⟨k, by omega, h2⟩
def mnS (T : Int → Int) (L W : Int) (G : Nat) : Nat → Nat → (Int → Int) → (Int → Int) → Int
  | 0, _, ti, _ => mx3 ti
  | j + 1, s, ti, on => mnO (fun g => mnS T L W G j (s + 1) (tiS L W ti on g (T s)) (onS L on g (T s))) (G - 1)
def vlS (T : Int → Int) (L W : Int) : Nat → Nat → (Int → Int) → (Int → Int) → (Int → Int) → Int
  | 0, _, ti, _, _ => mx3 ti
  | j + 1, s, ti, on, a => vlS T L W j (s + 1) (tiS L W ti on (a s) (T s)) (onS L on (a s) (T s)) a
def FsS (T : Int → Int) (L W : Int) (G : Nat) : Nat → Nat → (Int → Int) → (Int → Int) → (Int → Int) → Prop
  | 0, _, _, _, _ => True
  | j + 1, s, ti, on, a => ∃ g : Nat, a s = g ∧ g < G ∧ mnS T L W G j (s + 1) (tiS L W ti on g (T s)) (onS L on g (T s)) = mnS T L W G (j + 1) s ti on ∧ (∀ q : Nat, q < g → mnS T L W G (j + 1) s ti on < mnS T L W G j (s + 1) (tiS L W ti on q (T s)) (onS L on q (T s))) ∧ FsS T L W G j (s + 1) (tiS L W ti on g (T s)) (onS L on g (T s)) a
theorem mnS_le {j s : Nat} {ti on : Int → Int} {g : Nat} (hg : g < G) : mnS T L W G (j + 1) s ti on ≤ mnS T L W G j (s + 1) (tiS L W ti on g (T s)) (onS L on g (T s)) :=
  mnO_le _ (G - 1) g (by omega)
theorem mnS_at {j s : Nat} {ti on : Int → Int} (hG : 1 ≤ G) : ∃ g : Nat, g < G ∧ mnS T L W G (j + 1) s ti on = mnS T L W G j (s + 1) (tiS L W ti on g (T s)) (onS L on g (T s)) := by
  obtain ⟨k, h1, h2⟩ := mnO_at (fun g => mnS T L W G j (s + 1) (tiS L W ti on g (T s)) (onS L on g (T s))) (G - 1)
  exact ⟨k, by omega, h2⟩
theorem mx3_congr {f g : Int → Int} (h : ∀ i : Nat, i < 3 → f i = g i) : mx3 f = mx3 g := by
  have h0 : f 0 = g 0 := h 0 (by omega)
  have h1 : f 1 = g 1 := h 1 (by omega)
  have h2 : f 2 = g 2 := h 2 (by omega)
  unfold mx3
  rw [h0, h1, h2]
theorem tiS_congr {f g on on' : Int → Int} {q t : Int} {i : Int} (h : f i = g i) (h2 : on i = on' i) : tiS L W f on q t i = tiS L W g on' q t i := by
  unfold tiS
  rw [h, h2]
theorem onS_congr {on on' : Int → Int} {q t : Int} {i : Int} (h2 : on i = on' i) : onS L on q t i = onS L on' q t i := by
  unfold onS
  rw [h2]
theorem mnS_congr (hG : 1 ≤ G) : ∀ (j s : Nat) (ti on ti' on' : Int → Int), (∀ i : Nat, i < 3 → ti i = ti' i ∧ on i = on' i) → mnS T L W G j s ti on = mnS T L W G j s ti' on' := by
  intro j
  induction j with
  | zero => intro s ti on ti' on' h; exact mx3_congr (fun i hi => (h i hi).1)
  | succ j ih =>
    intro s ti on ti' on' h
    unfold mnS
    congr 1
    funext g
    exact ih _ _ _ _ _ (fun i hi => ⟨tiS_congr (h i hi).1 (h i hi).2, onS_congr (h i hi).2⟩)
theorem FsS_congr (hG : 1 ≤ G) : ∀ (j s : Nat) (ti on ti' on' a b : Int → Int), (∀ i : Nat, i < 3 → ti i = ti' i ∧ on i = on' i) → (∀ i : Nat, s ≤ i → i < s + j → a i = b i) → FsS T L W G j s ti on a → FsS T L W G j s ti' on' b := by
  intro j
  induction j with
  | zero => intro s ti on ti' on' a b _ _ _; exact trivial
  | succ j ih =>
    rintro s ti on ti' on' a b h h2 ⟨g, g0, g1, g2, g3, g4⟩
    have ch : ∀ q : Nat, ∀ i : Nat, i < 3 → tiS L W ti on q (T s) i = tiS L W ti' on' q (T s) i ∧ onS L on q (T s) i = onS L on' q (T s) i := fun q i hi => ⟨tiS_congr (h i hi).1 (h i hi).2, onS_congr (h i hi).2⟩
    have e := mnS_congr (T := T) (L := L) (W := W) hG (j + 1) s _ _ _ _ h
    refine ⟨g, by rw [← h2 s (by omega) (by omega)]; exact g0, g1, ?_, fun q hq => ?_, ih _ _ _ _ _ _ _ (ch g) (fun i h3 h4 => h2 i (by omega) (by omega)) g4⟩
    · rw [← e, ← g2]
      exact (mnS_congr hG _ _ _ _ _ _ (ch g)).symm
    · rw [← e, ← mnS_congr hG _ _ _ _ _ _ (ch q)]
      exact g3 q hq
theorem FsS_eq : ∀ (j s : Nat) (ti on a b : Int → Int), FsS T L W G j s ti on a → FsS T L W G j s ti on b → ∀ i : Nat, s ≤ i → i < s + j → a i = b i := by
  intro j
  induction j with
  | zero => intro s ti on a b _ _ i h1 h2; omega
  | succ j ih =>
    rintro s ti on a b ⟨g, g0, g1, g2, g3, g4⟩ ⟨k, k0, k1, k2, k3, k4⟩ i h1 h2
    have e : g = k := by
      rcases Nat.lt_trichotomy g k with q | q | q
      · have := k3 g q; omega
      · exact q
      · have := g3 k q; omega
    subst e
    by_cases c : i = s
    · rw [c, g0, k0]
    · exact ih _ _ _ _ _ g4 k4 i (by omega) (by omega)
theorem FsS_bd : ∀ (j s : Nat) (ti on a : Int → Int), FsS T L W G j s ti on a → ∀ i : Nat, s ≤ i → i < s + j → 0 ≤ a i ∧ a i < G := by
  intro j
  induction j with
  | zero => intro s ti on a _ i h1 h2; omega
  | succ j ih =>
    rintro s ti on a ⟨g, g0, g1, g2, g3, g4⟩ i h1 h2
    by_cases c : i = s
    · rw [c, g0]; omega
    · exact ih _ _ _ _ g4 i (by omega) (by omega)
/-- girls that are alike -/
theorem mx3_swap {p q : Nat} (hp : p < 3) (hq : q < 3) (f : Int → Int) : mx3 (fun i => f (swp p q i)) = mx3 f := by
  unfold mx3
  rcases (by omega : p = 0 ∨ p = 1 ∨ p = 2) with rfl | rfl | rfl <;> rcases (by omega : q = 0 ∨ q = 1 ∨ q = 2) with rfl | rfl | rfl <;> simp [swp] <;> (repeat' split) <;> omega
theorem mnS_swap (hG : 1 ≤ G ∧ G ≤ 3) {p q : Nat} (hp : p < G) (hq : q < G) : ∀ (j s : Nat) (ti on : Int → Int), mnS T L W G j s (fun i => ti (swp p q i)) (fun i => on (swp p q i)) = mnS T L W G j s ti on := by
  intro j
  induction j with
  | zero => intro s ti on; exact mx3_swap (by omega) (by omega) ti
  | succ j ih =>
    intro s ti on
    have ch : ∀ (f o : Int → Int) (k k' : Nat), swp p q k = k' → mnS T L W G j (s + 1) (tiS L W (fun i => f (swp p q i)) (fun i => o (swp p q i)) k (T s)) (onS L (fun i => o (swp p q i)) k (T s)) = mnS T L W G j (s + 1) (tiS L W f o k' (T s)) (onS L o k' (T s)) := fun f o k k' e => by
      rw [← ih (s + 1) (tiS L W f o k' (T s)) (onS L o k' (T s))]
      refine mnS_congr hG.1 _ _ _ _ _ _ (fun i hi => ?_)
      have w : swp p q i = k' ↔ (i : Int) = k := by
        constructor
        · intro g; rw [← swp_swp p q (i : Int), g, ← e, swp_swp]
        · intro g; rw [g, e]
      unfold tiS onS
      by_cases g : (i : Int) = k
      · rw [if_pos g, if_pos g, if_pos (w.mpr g), if_pos (w.mpr g)]
        exact ⟨rfl, rfl⟩
      · rw [if_neg g, if_neg g, if_neg (fun z => g (w.mp z)), if_neg (fun z => g (w.mp z))]
        exact ⟨rfl, rfl⟩
    have sw : ∀ k : Nat, k < G → ∃ k' : Nat, swp p q k = k' ∧ k' < G := fun k hk => by
      obtain ⟨k', e, l⟩ := swp_lt (c := (G : Int)) (p := p) (q := q) (by omega) (by omega) k (by omega)
      exact ⟨k', e, by omega⟩
    refine Int.le_antisymm ?_ ?_
    · obtain ⟨k, k1, k2⟩ := mnS_at (T := T) (L := L) (W := W) (j := j) (s := s) (ti := ti) (on := on) hG.1
      obtain ⟨k', e, l⟩ := sw k k1
      have e' : swp p q k' = k := by rw [← e, swp_swp]
      rw [k2, ← ch ti on k' k e']
      exact mnS_le l
    · obtain ⟨k, k1, k2⟩ := mnS_at (T := T) (L := L) (W := W) (j := j) (s := s) (ti := fun i => ti (swp p q i)) (on := fun i => on (swp p q i)) hG.1
      obtain ⟨k', e, l⟩ := sw k k1
      rw [k2, ch ti on k k' e]
      exact mnS_le l
theorem mnS_alike (hG : 1 ≤ G ∧ G ≤ 3) {p q : Nat} (hp : p < G) (hq : q < G) {j s : Nat} {ti on : Int → Int} {t : Int} (e1 : ti p = ti q) (e2 : on p = on q) : mnS T L W G j s (tiS L W ti on p t) (onS L on p t) = mnS T L W G j s (tiS L W ti on q t) (onS L on q t) := by
  rw [← mnS_swap hG hp hq j s (tiS L W ti on p t)]
  refine mnS_congr hG.1 _ _ _ _ _ _ (fun i hi => ?_)
  unfold tiS onS swp
  by_cases g1 : (i : Int) = p
  · rw [if_pos g1]
    by_cases g2 : (q : Int) = p
    · rw [if_pos g2, if_pos g2, if_pos (show (i : Int) = q by omega), if_pos (show (i : Int) = q by omega), g1, g2]
      exact ⟨rfl, rfl⟩
    · rw [if_neg g2, if_neg g2, if_neg (show ¬ (i : Int) = q by omega), if_neg (show ¬ (i : Int) = q by omega), g1, e1, e2]
      exact ⟨rfl, rfl⟩
  · rw [if_neg g1]
    by_cases g2 : (i : Int) = q
    · rw [if_pos g2, if_pos rfl, if_pos rfl, if_pos g2, if_pos g2, g2, e1, e2]
      exact ⟨rfl, rfl⟩
    · rw [if_neg g2, if_neg g1, if_neg g1, if_neg g2, if_neg g2]
      exact ⟨rfl, rfl⟩
theorem mx3_ge (f : Int → Int) {i : Nat} (hi : i < 3) : f i ≤ mx3 f := by
  unfold mx3
  rcases (by omega : i = 0 ∨ i = 1 ∨ i = 2) with rfl | rfl | rfl
  · show f 0 ≤ _
    split <;> split <;> omega
  · show f 1 ≤ _
    split <;> split <;> omega
  · show f 2 ≤ _
    split <;> split <;> omega
/-- a girl's time never goes back -/
theorem mnS_ge (hG : 1 ≤ G) (hW : 0 ≤ W) : ∀ (j s : Nat) (ti on : Int → Int), (∀ i : Nat, i < s + j → 0 ≤ T i) → ∀ i : Nat, i < 3 → ti i ≤ mnS T L W G j s ti on := by
  intro j
  induction j with
  | zero => intro s ti on _ i hi; exact mx3_ge ti hi
  | succ j ih =>
    intro s ti on hT i hi
    obtain ⟨k, k1, k2⟩ := mnS_at (T := T) (L := L) (W := W) (j := j) (s := s) (ti := ti) (on := on) hG
    rw [k2]
    have h := ih (s + 1) (tiS L W ti on k (T s)) (onS L on k (T s)) (fun q hq => hT q (by omega)) i hi
    have t := hT s (by omega)
    refine Int.le_trans ?_ h
    unfold tiS
    split
    · split <;> omega
    · exact Int.le_refl _
theorem mn_vl (hG : 1 ≤ G) : ∀ (j s : Nat) (ti on a : Int → Int), (∀ i : Nat, s ≤ i → i < s + j → 0 ≤ a i ∧ a i < G) → mnS T L W G j s ti on ≤ vlS T L W j s ti on a := by
  intro j
  induction j with
  | zero => intro s ti on a _; exact Int.le_refl _
  | succ j ih =>
    intro s ti on a ha
    have h := ih (s + 1) (tiS L W ti on (a s) (T s)) (onS L on (a s) (T s)) a (fun i h1 h2 => ha i (by omega) (by omega))
    have as := ha s (by omega) (by omega)
    have le := mnS_le (T := T) (L := L) (W := W) (j := j) (s := s) (ti := ti) (on := on) (g := (a s).toNat) (G := G) (by omega)
    rw [show (((a s).toNat : Nat) : Int) = a s by omega] at le
    exact Int.le_trans le h
theorem fs_vl : ∀ (j s : Nat) (ti on a : Int → Int), FsS T L W G j s ti on a → vlS T L W j s ti on a = mnS T L W G j s ti on := by
  intro j
  induction j with
  | zero => intro s ti on a _; rfl
  | succ j ih =>
    rintro s ti on a ⟨g, g0, g1, g2, g3, g4⟩
    rw [← g2, ← ih _ _ _ _ g4, vlS, g0]
/-- what comes ahead of the first way is worse -/
theorem fs_lex (hG : 1 ≤ G) : ∀ (j s : Nat) (ti on a b : Int → Int), FsS T L W G j s ti on b → (∀ i : Nat, s ≤ i → i < s + j → 0 ≤ a i ∧ a i < G) → (∃ k : Nat, s ≤ k ∧ k < s + j ∧ (∀ i : Nat, s ≤ i → i < k → a i = b i) ∧ a k < b k) → mnS T L W G j s ti on < vlS T L W j s ti on a := by
  intro j
  induction j with
  | zero => rintro s ti on a b _ _ ⟨k, k1, k2, -⟩; omega
  | succ j ih =>
    rintro s ti on a b ⟨g, g0, g1, g2, g3, g4⟩ ha ⟨k, k1, k2, k3, k4⟩
    have as := ha s (by omega) (by omega)
    by_cases e : k = s
    · rw [e, g0] at k4
      have h := g3 (a s).toNat (by omega)
      rw [show (((a s).toNat : Nat) : Int) = a s by omega] at h
      exact Int.lt_of_lt_of_le h (mn_vl hG j (s + 1) _ _ a (fun i h1 h2 => ha i (by omega) (by omega)))
    · have e2 : a s = g := by rw [k3 s (by omega) (by omega), g0]
      rw [← g2, vlS, e2]
      exact ih _ _ _ a b g4 (fun i h1 h2 => ha i (by omega) (by omega)) ⟨k, by omega, by omega, fun i h1 h2 => k3 i (by omega) h2, k4⟩
/-- rows as numbers -/
def nmR (G : Nat) (a : Int → Int) : Nat → Int
  | 0 => 0
  | k + 1 => nmR G a k * G + a k
def pwR (G : Nat) : Nat → Int
  | 0 => 1
  | k + 1 => pwR G k * G
theorem pwR_bd (hG : 1 ≤ G ∧ G ≤ 3) {k : Nat} (hk : k ≤ 10) : 1 ≤ pwR G k ∧ pwR G k ≤ 59049 := by
  have h1 : ∀ k : Fin 11, 1 ≤ pwR 1 k ∧ pwR 1 k ≤ 59049 := by decide
  have h2 : ∀ k : Fin 11, 1 ≤ pwR 2 k ∧ pwR 2 k ≤ 59049 := by decide
  have h3 : ∀ k : Fin 11, 1 ≤ pwR 3 k ∧ pwR 3 k ≤ 59049 := by decide
  rcases (by omega : G = 1 ∨ G = 2 ∨ G = 3) with rfl | rfl | rfl
  · exact h1 ⟨k, by omega⟩
  · exact h2 ⟨k, by omega⟩
  · exact h3 ⟨k, by omega⟩
theorem nmR_bd (hG : 1 ≤ G) {a : Int → Int} : ∀ k : Nat, (∀ i : Nat, i < k → 0 ≤ a i ∧ a i < G) → 0 ≤ nmR G a k ∧ nmR G a k < pwR G k := by
  intro k
  induction k with
  | zero => intro _; exact ⟨Int.le_refl _, by show (0 : Int) < 1; decide⟩
  | succ k ih =>
    intro h
    have h1 := ih (fun i hi => h i (by omega))
    have h2 := h k (by omega)
    have h3 := Int.mul_le_mul_of_nonneg_right (show nmR G a k + 1 ≤ pwR G k by omega) (c := (G : Int)) (by omega)
    have h4 := Int.mul_nonneg h1.1 (show (0 : Int) ≤ G by omega)
    rw [Int.add_mul, Int.one_mul] at h3
    rw [nmR, pwR]
    omega
theorem nmR_congr {a b : Int → Int} : ∀ k : Nat, (∀ i : Nat, i < k → a i = b i) → nmR G a k = nmR G b k := by
  intro k
  induction k with
  | zero => intro _; rfl
  | succ k ih => intro h; rw [nmR, nmR, ih (fun i hi => h i (by omega)), h k (by omega)]
theorem nmR_all (hG : 1 ≤ G) : ∀ (k : Nat) (r : Int), 0 ≤ r → r < pwR G k → ∃ a : Int → Int, (∀ i : Nat, i < k → 0 ≤ a i ∧ a i < G) ∧ nmR G a k = r := by
  intro k
  induction k with
  | zero => intro r h1 h2; exact ⟨fun _ => 0, fun i hi => by omega, by rw [pwR] at h2; rw [nmR]; omega⟩
  | succ k ih =>
    intro r h1 h2
    have gp : (0 : Int) < G := by omega
    have d1 := Int.emod_add_mul_ediv r G
    have d2 := Int.emod_nonneg r (show (G : Int) ≠ 0 by omega)
    have d3 := Int.emod_lt_of_pos r gp
    obtain ⟨a, a1, a2⟩ := ih (r / G) (Int.ediv_nonneg h1 (by omega)) (Int.ediv_lt_of_lt_mul gp (by rw [pwR] at h2; exact h2))
    refine ⟨fun i => if i = k then r % G else a i, fun i hi => ?_, ?_⟩
    · by_cases e : (i : Int) = k
      · simp only [e, if_true]; exact ⟨d2, d3⟩
      · simp only [e, if_false]; exact a1 i (by omega)
    · rw [nmR, nmR_congr k (b := a) (fun i hi => if_neg (by omega)), a2, if_pos rfl, Int.mul_comm]
      omega
theorem nmR_lex (hG : 1 ≤ G) {a b : Int → Int} : ∀ k : Nat, (∀ i : Nat, i < k → (0 ≤ a i ∧ a i < G) ∧ 0 ≤ b i ∧ b i < G) → (nmR G a k < nmR G b k → ∃ q : Nat, q < k ∧ (∀ i : Nat, i < q → a i = b i) ∧ a q < b q) ∧ (nmR G a k = nmR G b k → ∀ i : Nat, i < k → a i = b i) := by
  intro k
  induction k with
  | zero => intro _; exact ⟨fun h => absurd h (Int.lt_irrefl _), fun _ i hi => by omega⟩
  | succ k ih =>
    intro h
    obtain ⟨i1, i2⟩ := ih (fun i hi => h i (by omega))
    have hk := h k (by omega)
    have tri : nmR G a k < nmR G b k ∨ nmR G a k = nmR G b k ∨ nmR G b k < nmR G a k := by omega
    have mu : ∀ x y : Int, x < y → x * G + G ≤ y * G := fun x y hxy => by
      have := Int.mul_le_mul_of_nonneg_right (show x + 1 ≤ y by omega) (c := (G : Int)) (by omega)
      rw [Int.add_mul, Int.one_mul] at this
      exact this
    rw [nmR, nmR]
    rcases tri with t | t | t
    · have m := mu _ _ t
      obtain ⟨q, q1, q2, q3⟩ := i1 t
      exact ⟨fun _ => ⟨q, by omega, q2, q3⟩, fun e => by omega⟩
    · rw [t]
      refine ⟨fun e => ⟨k, by omega, i2 t, by omega⟩, fun e i hi => ?_⟩
      by_cases c : i = k
      · rw [c]; omega
      · exact i2 t i (by omega)
    · have m := mu _ _ t
      exact ⟨fun e => by omega, fun e => by omega⟩
end SV
