/-! where bobbins may be begun -/
section HD
def nthR : List (Int × Int × Int) → Nat → Int × Int × Int
  | [], _ => (0, 0, 0)
  | v :: l, i => if i = l.length then v else nthR l i
theorem nthR_top (v : Int × Int × Int) (l : List (Int × Int × Int)) : nthR (v :: l) l.length = v := if_pos rfl
theorem nthR_old (v : Int × Int × Int) (l : List (Int × Int × Int)) {i : Nat} (h : i < l.length) : nthR (v :: l) i = nthR l i := if_neg (by omega)
/-- the places of a seam behind its begin -/
def spP (ρ : Mem) (s : Nat) (l : List (Int × Int × Int)) : Nat → List (Int × Int × Int)
  | 0 => l
  | k + 1 => (sumF (ρ 3) s + ρ 5 (s * 4 + k), 100 * (s : Int) + ρ 5 (s * 4 + k), ρ 4 s) :: spP ρ s l k
def spS (ρ : Mem) : Nat → List (Int × Int × Int)
  | 0 => []
  | s + 1 => spP ρ s ((sumF (ρ 3) s, 100 * (s : Int), 0) :: spS ρ s) (ρ 6 s).toNat
def okT (ρ : Mem) (v : Int × Int × Int) : Prop := (0 ≤ v.1 ∧ v.1 ≤ 1100) ∧ ∃ s : Nat, (s : Int) < ρ 0 1 ∧ ((v.2.1 = 100 * s ∧ v.2.2 = 0) ∨ ∃ p, 1 ≤ p ∧ p ≤ 98 ∧ v.2.1 = 100 * s + p ∧ v.2.2 = ρ 4 s)
variable {sc : List Int} {d : Nat} {m : Mem} {Q : Option AV → Mem → Prop} {r L : Int} {ρ : Mem}
theorem spP_len (s : Nat) (l : List (Int × Int × Int)) (k : Nat) : (spP ρ s l k).length = l.length + k := by
  induction k with
  | zero => rfl
  | succ k ih => rw [spP, List.length_cons, ih]; omega
theorem spS_len (hb : RmB ρ) : ∀ s : Nat, (s : Int) ≤ ρ 0 1 → (spS ρ s).length ≤ 5 * s := by
  intro s
  induction s with
  | zero => intro _; exact Nat.le_refl _
  | succ s ih =>
    intro hs
    have h := ih (by omega)
    have p := (hb.2.2.2.1 s (by omega)).2.2.1
    rw [spS, spP_len, List.length_cons]
    omega
theorem A_bd (hb : RmB ρ) : ∀ s : Nat, (s : Int) ≤ ρ 0 1 → 0 ≤ sumF (ρ 3) s ∧ sumF (ρ 3) s ≤ 99 * s := by
  intro s hs
  have := sumF_bd (f := ρ 3) (a := 0) (b := 99) (n := s) (fun i hi => by have := (hb.2.2.2.1 i (by omega)).1; omega)
  omega
theorem spP_ok (hb : RmB ρ) {s : Nat} (hs : (s : Int) < ρ 0 1) {l : List (Int × Int × Int)} (hl : ∀ i : Nat, i < l.length → okT ρ (nthR l i)) : ∀ k : Nat, (k : Int) ≤ ρ 6 s → ∀ i : Nat, i < (spP ρ s l k).length → okT ρ (nthR (spP ρ s l k) i) := by
  have b0 := hb.1
  intro k
  induction k with
  | zero => intro _; exact hl
  | succ k ih =>
    intro hk i hi
    have a := A_bd hb s (by omega)
    have p := (hb.2.2.2.1 s hs).2.2.2 k (by omega)
    by_cases e : i = (spP ρ s l k).length
    · rw [e, spP, nthR_top]
      exact ⟨⟨by show 0 ≤ sumF (ρ 3) s + ρ 5 (s * 4 + k); omega, by show sumF (ρ 3) s + ρ 5 (s * 4 + k) ≤ 1100; omega⟩, s, hs, Or.inr ⟨ρ 5 (s * 4 + k), by omega, by omega, rfl, rfl⟩⟩
    · rw [spP, List.length_cons] at hi
      rw [spP, nthR_old _ _ (by omega)]
      exact ih (by omega) i (by omega)
theorem spS_ok (hb : RmB ρ) : ∀ s : Nat, (s : Int) ≤ ρ 0 1 → ∀ i : Nat, i < (spS ρ s).length → okT ρ (nthR (spS ρ s) i) := by
  have b0 := hb.1
  intro s
  induction s with
  | zero => intro _ i hi; exact absurd hi (Nat.not_lt_zero _)
  | succ s ih =>
    intro hs
    have p := (hb.2.2.2.1 s (by omega)).2.2.1
    have a := A_bd hb s (by omega)
    refine spP_ok hb (by omega) (fun i hi => ?_) _ (by omega)
    by_cases e : i = (spS ρ s).length
    · rw [e, nthR_top]
      exact ⟨⟨a.1, by show sumF (ρ 3) s ≤ 1100; omega⟩, s, by omega, Or.inl ⟨rfl, rfl⟩⟩
    · rw [List.length_cons] at hi
      rw [nthR_old _ _ (by omega)]
      exact ih (by omega) i (by omega)
/-- the best one of some: the least, the last of those -/
def IsB (P : Nat → Prop) (c : Nat → Int) (lo hi : Nat) (v x : Int) : Prop := ((∀ j : Nat, lo ≤ j → j < hi → ¬ P j) ∧ v = 2147483647 ∧ x = -1) ∨ ∃ k : Nat, lo ≤ k ∧ k < hi ∧ P k ∧ x = k ∧ v = c k ∧ ∀ j : Nat, lo ≤ j → j < hi → P j → v ≤ c j ∧ (k < j → v < c j)
theorem IsB.eq {P : Nat → Prop} {c : Nat → Int} {lo hi : Nat} {v x v' x' : Int} (h : IsB P c lo hi v x) (h' : IsB P c lo hi v' x') : v = v' ∧ x = x' := by
  rcases h with ⟨h1, h2, h3⟩ | ⟨k, k1, k2, k3, k4, k5, k6⟩ <;> rcases h' with ⟨g1, g2, g3⟩ | ⟨l, l1, l2, l3, l4, l5, l6⟩
  · omega
  · exact absurd l3 (h1 l l1 l2)
  · exact absurd k3 (g1 k k1 k2)
  · have a := k6 l l1 l2 l3
    have b := l6 k k1 k2 k3
    have e : k = l := by
      rcases Nat.lt_trichotomy k l with q | q | q
      · have := a.2 q; omega
      · exact q
      · have := b.2 q; omega
    subst e
    omega
theorem IsB.congr {P P' : Nat → Prop} {c c' : Nat → Int} {lo hi : Nat} {v x : Int} (h : IsB P c lo hi v x) (e : ∀ j : Nat, lo ≤ j → j < hi → (P j ↔ P' j) ∧ c j = c' j) : IsB P' c' lo hi v x := by
  rcases h with ⟨h1, h2, h3⟩ | ⟨k, k1, k2, k3, k4, k5, k6⟩
  · exact Or.inl ⟨fun j j1 j2 p => h1 j j1 j2 ((e j j1 j2).1.mpr p), h2, h3⟩
  · refine Or.inr ⟨k, k1, k2, (e k k1 k2).1.mp k3, k4, by rw [← (e k k1 k2).2]; exact k5, fun j j1 j2 p => ?_⟩
    rw [← (e j j1 j2).2]
    exact k6 j j1 j2 ((e j j1 j2).1.mpr p)
/-- what it costs from each spot on, and which is next -/
def DPc (l : List (Int × Int × Int)) (Tt L : Int) (cs nx : Nat → Int) : Prop := ∀ i : Nat, i < l.length → (Tt - (nthR l i).1 ≤ L ∧ cs i = 0 ∧ nx i = -1) ∨ (¬ Tt - (nthR l i).1 ≤ L ∧ IsB (fun j => (nthR l j).1 - (nthR l i).1 ≤ L ∧ cs j < 2147483647) (fun j => cs j + (100 + (nthR l j).2.2)) (i + 1) l.length (cs i) (nx i))
/-- all from i on -/
def DPf (l : List (Int × Int × Int)) (Tt L : Int) (cs nx : Nat → Int) (lo : Nat) : Prop := ∀ i : Nat, lo ≤ i → i < l.length → (Tt - (nthR l i).1 ≤ L ∧ cs i = 0 ∧ nx i = -1) ∨ (¬ Tt - (nthR l i).1 ≤ L ∧ IsB (fun j => (nthR l j).1 - (nthR l i).1 ≤ L ∧ cs j < 2147483647) (fun j => cs j + (100 + (nthR l j).2.2)) (i + 1) l.length (cs i) (nx i))
theorem DPf.eq {l : List (Int × Int × Int)} {Tt L : Int} {cs nx cs' nx' : Nat → Int} (h : DPf l Tt L cs nx 0) (h' : DPf l Tt L cs' nx' 0) : ∀ n i : Nat, i + n = l.length → ∀ q : Nat, i ≤ q → q < l.length → cs q = cs' q ∧ nx q = nx' q := by
  intro n
  induction n with
  | zero => intro i hi q h1 h2; omega
  | succ n ih =>
    intro i hi q h1 h2
    by_cases e : q = i
    · rw [e]
      have rc := ih (i + 1) (by omega)
      rcases h i (by omega) (by omega) with ⟨a1, a2, a3⟩ | ⟨a1, a2⟩ <;> rcases h' i (by omega) (by omega) with ⟨b1, b2, b3⟩ | ⟨b1, b2⟩
      · omega
      · exact absurd a1 b1
      · exact absurd b1 a1
      · exact a2.eq (b2.congr (fun j j1 j2 => by
          have := rc j j1 j2
          exact ⟨⟨fun p => ⟨p.1, by rw [this.1]; exact p.2⟩, fun p => ⟨p.1, by rw [← this.1]; exact p.2⟩⟩, by rw [this.1]⟩))
    · exact ih (i + 1) (by omega) q (by omega) h2
/-- bounds of the costs -/
theorem DPf.bd {l : List (Int × Int × Int)} {Tt L : Int} {cs nx : Nat → Int} {lo : Nat} (h : DPf l Tt L cs nx lo) (hl : l.length ≤ 50) (ho : ∀ i : Nat, i < l.length → (nthR l i).2.2 = 0 ∨ (nthR l i).2.2 = 1) : ∀ n i : Nat, i + n = l.length → lo ≤ i → ∀ q : Nat, i ≤ q → q < l.length → (cs q = 2147483647 ∧ nx q = -1) ∨ (0 ≤ cs q ∧ cs q ≤ 101 * ((l.length : Int) - 1 - q) ∧ ((nx q = -1 ∧ cs q = 0) ∨ ∃ k : Nat, q < k ∧ k < l.length ∧ nx q = k ∧ cs k < 2147483647 ∧ cs q = cs k + (100 + (nthR l k).2.2))) := by
  intro n
  induction n with
  | zero => intro i hi hlo q h1 h2; omega
  | succ n ih =>
    intro i hi hlo q h1 h2
    by_cases e : q = i
    · rw [e]
      rcases h i hlo (by omega) with ⟨a1, a2, a3⟩ | ⟨a1, ⟨b1, b2, b3⟩ | ⟨k, k1, k2, k3, k4, k5, k6⟩⟩
      · exact Or.inr ⟨by omega, by omega, Or.inl ⟨a3, a2⟩⟩
      · exact Or.inl ⟨b2, b3⟩
      · have w := ih (i + 1) (by omega) (by omega) k k1 k2
        have o := ho k k2
        have kc : cs k < 2147483647 := k3.2
        have k5' : cs i = cs k + (100 + (nthR l k).2.2) := k5
        rcases w with ⟨w1, -⟩ | ⟨w1, w2, -⟩
        · omega
        · exact Or.inr ⟨by omega, by omega, Or.inr ⟨k, by omega, k2, k4, kc, k5⟩⟩
    · exact ih (i + 1) (by omega) (by omega) q (by omega) h2
/-- spot by spot: -1 behind the last -/
def wlk (nx : Nat → Int) : Nat → Int
  | 0 => 0
  | q + 1 => if wlk nx q < 0 then -1 else nx (wlk nx q).toNat
def hidF (l : List (Int × Int × Int)) (cs nx : Nat → Int) (a : Int) : Int :=
  if l.length = 0 then (if a = 0 then 0 else if a = 1 then 0 else -1)
  else if cs 0 = 2147483647 then -1
  else if a = 0 then cs 0 / 100 + 1
  else if a = 1 then cs 0 % 100
  else if a < 10 then -1
  else if wlk nx (a - 9).toNat < 0 then -1 else (nthR l (wlk nx (a - 9).toNat).toNat).2.1
def IsHid (ρ : Mem) (L a v : Int) : Prop := ((0 < ρ 0 3 ∧ 1 ≤ L ∧ L ≤ 99) ∧ ∃ cs nx, DPf (spS ρ (ρ 0 1).toNat) (sumF (ρ 3) (ρ 0 1).toNat) L cs nx 0 ∧ v = hidF (spS ρ (ρ 0 1).toNat) cs nx a) ∨ (¬ (0 < ρ 0 3 ∧ 1 ≤ L ∧ L ≤ 99) ∧ v = -1)
theorem sh_01 (hb : RmB ρ) (i : Nat) (hi : i < (spS ρ (ρ 0 1).toNat).length) : (nthR (spS ρ (ρ 0 1).toNat) i).2.2 = 0 ∨ (nthR (spS ρ (ρ 0 1).toNat) i).2.2 = 1 := by
  have b0 := hb.1
  obtain ⟨-, s, s1, s2⟩ := spS_ok hb (ρ 0 1).toNat (by omega) i hi
  rcases s2 with ⟨-, e⟩ | ⟨p, -, -, -, e⟩
  · exact Or.inl e
  · rw [e]; exact (hb.2.2.2.1 s s1).2.1
theorem wlk_congr {nx nx' : Nat → Int} {n : Nat} (hn : 0 < n) (h : ∀ i : Nat, i < n → nx i = nx' i) (hb : ∀ i : Nat, i < n → nx i < n) : ∀ q : Nat, wlk nx q = wlk nx' q ∧ wlk nx q < n := by
  intro q
  induction q with
  | zero => exact ⟨rfl, by show (0 : Int) < n; omega⟩
  | succ q ih =>
    obtain ⟨e, l⟩ := ih
    unfold wlk
    rw [← e]
    split
    · exact ⟨rfl, by omega⟩
    · exact ⟨h _ (by omega), hb _ (by omega)⟩
theorem IsHid.eq (hb : RmB ρ) {a x y : Int} (h1 : IsHid ρ L a x) (h2 : IsHid ρ L a y) : x = y := by
  have b0 := hb.1
  rcases h1 with ⟨p, cs, nx, p1, rfl⟩ | ⟨p, rfl⟩ <;> rcases h2 with ⟨q, cs', nx', q1, rfl⟩ | ⟨q, rfl⟩
  · have e := DPf.eq p1 q1 (spS ρ (ρ 0 1).toNat).length 0 (by omega)
    unfold hidF
    by_cases c : (spS ρ (ρ 0 1).toNat).length = 0
    · rw [if_pos c, if_pos c]
    · have len := spS_len hb (ρ 0 1).toNat (by omega)
      have e0 := e 0 (by omega) (by omega)
      have bd := DPf.bd p1 (by omega) (fun i hi => sh_01 hb i hi) (spS ρ (ρ 0 1).toNat).length 0 (by omega) (Nat.le_refl _)
      have w := (wlk_congr (nx := nx) (nx' := nx') (n := (spS ρ (ρ 0 1).toNat).length) (by omega) (fun i hi => (e i (by omega) hi).2) (fun i hi => by
        rcases bd i (by omega) hi with ⟨-, g⟩ | ⟨-, -, ⟨g, -⟩ | ⟨k, k1, k2, k3, -⟩⟩ <;> omega) (a - 9).toNat).1
      rw [if_neg c, if_neg c, e0.1, w]
  · exact absurd p q
  · exact absurd q p
  · rfl
end HD
