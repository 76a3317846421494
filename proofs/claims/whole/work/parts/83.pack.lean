/-! packing in any order: which counts go, and the first way -/
section PK
def ldP (ld : Int → Int) (k t : Int) : Int → Int := fun i => if i = k then ld i + t else ld i
def Can (T : Int → Int) (L c : Int) : Nat → Nat → (Int → Int) → Prop
  | 0, _, _ => True
  | j + 1, s, ld => ∃ k : Nat, (k : Int) < c ∧ ld k + T s ≤ L ∧ Can T L c j (s + 1) (ldP ld k (T s))
def Fst (T : Int → Int) (L c : Int) : Nat → Nat → (Int → Int) → (Int → Int) → Prop
  | 0, _, _, _ => True
  | j + 1, s, ld, a => ∃ k : Nat, a s = k ∧ (k : Int) < c ∧ ld k + T s ≤ L ∧ Can T L c j (s + 1) (ldP ld k (T s)) ∧ (∀ q : Nat, q < k → ¬ (ld q + T s ≤ L ∧ Can T L c j (s + 1) (ldP ld q (T s)))) ∧ Fst T L c j (s + 1) (ldP ld k (T s)) a
variable {T : Int → Int} {L c : Int}
theorem ldP_congr {f g : Int → Int} {k t : Int} {i : Int} (h : f i = g i) : ldP f k t i = ldP g k t i := by
  unfold ldP
  rw [h]
theorem Can.congr : ∀ (j s : Nat) (f g : Int → Int), (∀ k : Nat, (k : Int) < c → f k = g k) → Can T L c j s f → Can T L c j s g := by
  intro j
  induction j with
  | zero => intro s f g h p; exact trivial
  | succ j ih =>
    rintro s f g h ⟨k, k1, k2, k3⟩
    exact ⟨k, k1, by rw [← h k k1]; exact k2, ih _ _ _ (fun i hi => ldP_congr (h i hi)) k3⟩
theorem Fst.congr : ∀ (j s : Nat) (f g a b : Int → Int), (∀ k : Nat, (k : Int) < c → f k = g k) → (∀ i : Nat, s ≤ i → i < s + j → a i = b i) → Fst T L c j s f a → Fst T L c j s g b := by
  intro j
  induction j with
  | zero => intro s f g a b h h2 p; exact trivial
  | succ j ih =>
    rintro s f g a b h h2 ⟨k, k0, k1, k2, k3, k4, k5⟩
    refine ⟨k, by rw [← h2 s (by omega) (by omega)]; exact k0, k1, by rw [← h k k1]; exact k2, Can.congr _ _ _ _ (fun i hi => ldP_congr (h i hi)) k3, fun q hq p => k4 q hq ⟨by rw [h q (by omega)]; exact p.1, Can.congr _ _ _ _ (fun i hi => ldP_congr (h i hi).symm) p.2⟩, ih _ _ _ _ _ (fun i hi => ldP_congr (h i hi)) (fun i h3 h4 => h2 i (by omega) (by omega)) k5⟩
theorem Fst.eq : ∀ (j s : Nat) (f a b : Int → Int), Fst T L c j s f a → Fst T L c j s f b → ∀ i : Nat, s ≤ i → i < s + j → a i = b i := by
  intro j
  induction j with
  | zero => intro s f a b p q i h1 h2; omega
  | succ j ih =>
    rintro s f a b ⟨k, k0, k1, k2, k3, k4, k5⟩ ⟨l, l0, l1, l2, l3, l4, l5⟩ i h1 h2
    have e : k = l := by
      rcases Nat.lt_trichotomy k l with q | q | q
      · exact absurd ⟨k2, k3⟩ (l4 k q)
      · exact q
      · exact absurd ⟨l2, l3⟩ (k4 l q)
    subst e
    by_cases g : i = s
    · rw [g, k0, l0]
    · exact ih _ _ _ _ k5 l5 i (by omega) (by omega)
def swp (p q i : Int) : Int := if i = p then q else if i = q then p else i
theorem swp_swp (p q i : Int) : swp p q (swp p q i) = i := by
  unfold swp
  split <;> split <;> (try split) <;> omega
theorem swp_lt {p q : Nat} (hp : (p : Int) < c) (hq : (q : Int) < c) (i : Nat) (hi : (i : Int) < c) : ∃ i' : Nat, swp p q i = i' ∧ (i' : Int) < c := by
  unfold swp
  split
  · exact ⟨q, rfl, hq⟩
  · split
    · exact ⟨p, rfl, hp⟩
    · exact ⟨i, rfl, hi⟩
theorem Can.swap {p q : Nat} (hp : (p : Int) < c) (hq : (q : Int) < c) : ∀ (j s : Nat) (f : Int → Int), Can T L c j s f → Can T L c j s (fun i => f (swp p q i)) := by
  intro j
  induction j with
  | zero => intro s f h; exact trivial
  | succ j ih =>
    rintro s f ⟨k, k1, k2, k3⟩
    obtain ⟨k', e, l⟩ := swp_lt hp hq k k1
    refine ⟨k', l, ?_, Can.congr _ _ _ _ (fun i hi => ?_) (ih _ _ k3)⟩
    · show f (swp p q k') + T s ≤ L
      rw [← e, swp_swp]
      exact k2
    · show ldP f k (T s) (swp p q i) = ldP (fun i => f (swp p q i)) k' (T s) i
      unfold ldP
      have w : swp p q i = k ↔ (i : Int) = k' := by
        constructor
        · intro g; rw [← e, ← g, swp_swp]
        · intro g; rw [g, ← e, swp_swp]
      by_cases g : swp p q i = k
      · rw [if_pos g, if_pos (w.mp g)]
      · rw [if_neg g, if_neg (fun g2 => g (w.mpr g2))]
/-- bobbins that are alike -/
theorem Can.alike {p q : Nat} (hp : (p : Int) < c) (hq : (q : Int) < c) {j s : Nat} {f : Int → Int} {t : Int} (e : f p = f q) (h : Can T L c j s (ldP f p t)) : Can T L c j s (ldP f q t) := by
  refine Can.congr _ _ _ _ (fun i hi => ?_) (Can.swap hp hq _ _ _ h)
  show ldP f p t (swp p q i) = ldP f q t i
  unfold ldP swp
  by_cases g1 : (i : Int) = p
  · rw [if_pos g1]
    by_cases g2 : (q : Int) = p
    · rw [if_pos g2, if_pos (by omega), g1, g2]
    · rw [if_neg g2, if_neg (by omega), g1, e]
  · rw [if_neg g1]
    by_cases g2 : (i : Int) = q
    · rw [if_pos g2, if_pos rfl, if_pos g2, g2, e]
    · rw [if_neg g2, if_neg g1, if_neg g2]
theorem sumF_ldP (f : Int → Int) (k : Nat) (t : Int) : ∀ n : Nat, sumF (ldP f k t) n = sumF f n + if k < n then t else 0 := by
  intro n
  induction n with
  | zero => rw [if_neg (by omega)]; rfl
  | succ n ih =>
    rw [sumF, ih, sumF]
    unfold ldP
    by_cases e : n = k
    · subst e
      rw [if_pos (show ((n : Nat) : Int) = n from rfl), if_neg (show ¬ n < n by omega), if_pos (show n < n + 1 by omega)]
      omega
    · rw [if_neg (show ¬ ((n : Nat) : Int) = k by omega)]
      by_cases g : k < n
      · rw [if_pos g, if_pos (show k < n + 1 by omega)]; omega
      · rw [if_neg g, if_neg (show ¬ k < n + 1 by omega)]; omega
theorem Can.load {n : Nat} (hn : (n : Int) = c) : ∀ (j s : Nat) (f : Int → Int), (∀ i : Nat, i < s + j → 0 ≤ T i) → (∀ k : Nat, k < n → 0 ≤ f k ∧ f k ≤ L) → Can T L c j s f → sumF f n + (sumF T (s + j) - sumF T s) ≤ L * n := by
  intro j
  induction j with
  | zero =>
    intro s f hT h _
    have := sumF_bd h
    rw [Nat.add_zero]
    omega
  | succ j ih =>
    rintro s f hT h ⟨k, k1, k2, k3⟩
    have ts := hT s (by omega)
    have w := ih (s + 1) _ (fun i hi => hT i (by omega)) (fun i hi => ?_) k3
    · rw [sumF_ldP, if_pos (by omega), show s + 1 + j = s + (j + 1) by omega, sumF] at w
      omega
    · have := h i hi
      unfold ldP
      split
      · rename_i g
        rw [g] at this ⊢
        omega
      · exact this
theorem Can.all : ∀ (j s : Nat) (f : Int → Int), ((s + j : Nat) : Int) ≤ c → (∀ i : Nat, i < s + j → T i ≤ L) → (∀ k : Nat, s ≤ k → (k : Int) < c → f k = 0) → Can T L c j s f := by
  intro j
  induction j with
  | zero => intro s f h1 h2 h3; exact trivial
  | succ j ih =>
    intro s f h1 h2 h3
    refine ⟨s, by omega, ?_, ih _ _ (by omega) (fun i hi => h2 i (by omega)) (fun k q1 q2 => ?_)⟩
    · rw [h3 s (by omega) (by omega)]
      have := h2 s (by omega)
      omega
    · unfold ldP
      rw [if_neg (by omega)]
      exact h3 k (by omega) q2
/-- the least count that goes and the first way -/
def Bst (T : Int → Int) (L : Int) (S : Nat) (c : Int) (a : Int → Int) : Prop := (0 ≤ c ∧ c ≤ S) ∧ Can T L c S 0 (fun _ => 0) ∧ (∀ q : Int, 0 ≤ q → q < c → ¬ Can T L q S 0 (fun _ => 0)) ∧ Fst T L c S 0 (fun _ => 0) a
theorem Bst.eq {S : Nat} {c c' : Int} {a a' : Int → Int} (h : Bst T L S c a) (h' : Bst T L S c' a') : c = c' ∧ ∀ i : Nat, i < S → a i = a' i := by
  obtain ⟨h1, h2, h3, h4⟩ := h
  obtain ⟨g1, g2, g3, g4⟩ := h'
  have e : c = c' := by
    rcases (by omega : c < c' ∨ c = c' ∨ c' < c) with q | q | q
    · exact absurd h2 (g3 c h1.1 q)
    · exact q
    · exact absurd g2 (h3 c' g1.1 q)
  subst e
  exact ⟨rfl, fun i hi => Fst.eq _ _ _ _ _ h4 g4 i (by omega) (by omega)⟩
theorem Bst.congr {S : Nat} {c : Int} {a b : Int → Int} (h : Bst T L S c a) (e : ∀ i : Nat, i < S → a i = b i) : Bst T L S c b :=
  ⟨h.1, h.2.1, h.2.2.1, Fst.congr _ _ _ _ _ _ (fun _ _ => rfl) (fun i _ h2 => e i (by omega)) h.2.2.2⟩
end PK
