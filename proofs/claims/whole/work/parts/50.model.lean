/-! the room as both sides hold it: rho 0 = counts (lengths, seams, rules, statements), 1 lengths, 2 odds, 3 takes, 4 shown, 5 places (4 a seam), 6 how many places, 7 minutes, 8 letters (6 a name, rules from 10 on), 9 steps, 10 where rules begin -/
abbrev PV (r : AV) (m : Mem) : Option AV → Mem → Prop := fun v z => v = some r ∧ z = m
abbrev R32 (x : Int) : Prop := -2147483648 ≤ x ∧ x < 2147483648
abbrev R64 (x : Int) : Prop := -9223372036854775808 ≤ x ∧ x < 9223372036854775808
def sumF (f : Int → Int) : Nat → Int
  | 0 => 0
  | n + 1 => sumF f n + f n
def maxF (f : Int → Int) : Nat → Int
  | 0 => 0
  | n + 1 => if maxF f n < f n then f n else maxF f n
def minF (f : Int → Int) : Nat → Int
  | 0 => 99
  | n + 1 => if f n < minF f n then f n else minF f n
theorem sumF_congr {f g : Int → Int} {n : Nat} (h : ∀ i : Nat, i < n → f i = g i) : sumF f n = sumF g n := by
  induction n with
  | zero => rfl
  | succ n ih => rw [sumF, sumF, ih (fun i hi => h i (by omega)), h n (by omega)]
theorem sumF_bd {f : Int → Int} {a b : Int} {n : Nat} (h : ∀ i : Nat, i < n → a ≤ f i ∧ f i ≤ b) : a * n ≤ sumF f n ∧ sumF f n ≤ b * n := by
  induction n with
  | zero => simp [sumF]
  | succ n ih =>
    have h1 := ih (fun i hi => h i (by omega))
    have h2 := h n (by omega)
    rw [sumF, Int.natCast_succ, Int.mul_add, Int.mul_add]
    omega
theorem sumF_mono {f : Int → Int} {k n : Nat} (hk : k ≤ n) (h : ∀ i : Nat, i < n → 0 ≤ f i) : sumF f k ≤ sumF f n := by
  induction n with
  | zero => rw [show k = 0 by omega]; exact Int.le_refl _
  | succ n ih =>
    by_cases e : k = n + 1
    · rw [e]; exact Int.le_refl _
    · have h1 := ih (by omega) (fun i hi => h i (by omega))
      have h2 := h n (by omega)
      rw [sumF]; omega
theorem maxF_bd {f : Int → Int} {b : Int} {n : Nat} (hb : 0 ≤ b) (h : ∀ i : Nat, i < n → f i ≤ b) : 0 ≤ maxF f n ∧ maxF f n ≤ b := by
  induction n with
  | zero => simp [maxF]; exact hb
  | succ n ih =>
    have h1 := ih (fun i hi => h i (by omega))
    have h2 := h n (by omega)
    rw [maxF]
    split <;> omega
theorem maxF_le {f : Int → Int} {n : Nat} {y : Int} (hy : 0 ≤ y) : maxF f n ≤ y ↔ ∀ i : Nat, i < n → f i ≤ y := by
  induction n with
  | zero => simp [maxF]; exact hy
  | succ n ih =>
    rw [maxF]
    constructor
    · intro h i hi
      by_cases e : i = n
      · subst e
        split at h <;> omega
      · refine ih.mp ?_ i (by omega)
        split at h <;> omega
    · intro h
      have h1 := ih.mpr (fun i hi => h i (by omega))
      have h2 := h n (by omega)
      split <;> omega
theorem minF_bd {f : Int → Int} {n : Nat} (h : ∀ i : Nat, i < n → 1 ≤ f i) : 1 ≤ minF f n ∧ minF f n ≤ 99 := by
  induction n with
  | zero => simp [minF]
  | succ n ih =>
    have h1 := ih (fun i hi => h i (by omega))
    have h2 := h n (by omega)
    rw [minF]
    split <;> omega
def RmB (ρ : Mem) : Prop :=
  (0 ≤ ρ 0 0 ∧ ρ 0 0 ≤ 6 ∧ 0 ≤ ρ 0 1 ∧ ρ 0 1 ≤ 10 ∧ 0 ≤ ρ 0 2 ∧ ρ 0 2 ≤ 4 ∧ 0 ≤ ρ 0 3 ∧ ρ 0 3 ≤ 60) ∧
  ((ρ 0 3 = 0 → ρ 0 0 = 0 ∧ ρ 0 1 = 0 ∧ ρ 0 2 = 0) ∧ (ρ 0 3 ≠ 0 → 1 ≤ ρ 0 0 ∧ sumF (ρ 2) (ρ 0 0).toNat = 100)) ∧
  (∀ i : Nat, (i : Int) < ρ 0 0 → (1 ≤ ρ 1 i ∧ ρ 1 i ≤ 99) ∧ 1 ≤ ρ 2 i ∧ ρ 2 i ≤ 100) ∧
  (∀ s : Nat, (s : Int) < ρ 0 1 → (1 ≤ ρ 3 s ∧ ρ 3 s ≤ 99) ∧ (ρ 4 s = 0 ∨ ρ 4 s = 1) ∧ (0 ≤ ρ 6 s ∧ ρ 6 s ≤ 4) ∧ ∀ k : Nat, (k : Int) < ρ 6 s → 1 ≤ ρ 5 (s * 4 + k) ∧ ρ 5 (s * 4 + k) ≤ 98) ∧
  ((∀ i : Nat, i < 4 → 0 ≤ ρ 7 i ∧ ρ 7 i ≤ 99) ∧ (1 ≤ ρ 7 4 ∧ ρ 7 4 ≤ 9) ∧ 1 ≤ ρ 7 5 ∧ ρ 7 5 ≤ 3)
def XRm (m : Mem) (r : Int) (ρ : Mem) : Prop :=
  (m r 2 = ρ 0 0 ∧ m r 8 = ρ 0 1 ∧ m r 11 = ρ 0 2 ∧ m r 15 = ρ 0 3) ∧
  (∀ i : Nat, (i : Int) < ρ 0 0 → m (r + 1) i = ρ 1 i ∧ m (r + 2) i = ρ 2 i) ∧
  (∀ s : Nat, (s : Int) < ρ 0 1 → m (r + 3) s = ρ 3 s ∧ m (r + 4) s = ρ 4 s ∧ m (r + 6) s = ρ 6 s ∧ ∀ k : Nat, (k : Int) < ρ 6 s → m (r + 5) (s * 4 + k) = ρ 5 (s * 4 + k)) ∧
  (∀ s : Nat, (s : Int) ≤ ρ 0 1 → m (r + 7) s = sumF (ρ 3) s) ∧
  (∀ i : Nat, i < 6 → m (r + 13) i = ρ 7 i)
def MRm (m : Mem) (ρ : Mem) : Prop :=
  (m 95 3 = ρ 0 0 ∧ m 95 4 = ρ 0 1 ∧ m 95 5 = ρ 0 2 ∧ m 62 53 = if ρ 0 3 = 0 then 0 else 1) ∧
  (∀ i : Nat, (i : Int) < ρ 0 0 → m 97 (6 + i) = ρ 1 i ∧ m 98 (6 + i) = ρ 2 i) ∧
  (∀ s : Nat, (s : Int) < ρ 0 1 → m 99 (70 + 7 * s) = ρ 3 s ∧ m 99 (71 + 7 * s) = ρ 4 s ∧ m 99 (72 + 7 * s) = ρ 6 s ∧ ∀ k : Nat, (k : Int) < ρ 6 s → m 99 (73 + 7 * s + k) = ρ 5 (s * 4 + k)) ∧
  (∀ i : Nat, i < 6 → m 100 (6 + i) = ρ 7 i)
