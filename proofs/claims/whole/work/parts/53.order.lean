/-! what changes: all but C stays -/
def Ex (C : Int → Int → Prop) (m z : Mem) : Prop := ∀ a j, ¬ C a j → z a j = m a j
theorem Ex.refl (C : Int → Int → Prop) (m : Mem) : Ex C m m := fun _ _ _ => rfl
theorem Ex.put {C : Int → Int → Prop} {m z : Mem} {a j v : Int} (h : Ex C m z) (c : C a j) : Ex C m (wr z a j v) := fun b k hb => by
  rw [wr_ne z a j v b k (fun q => by obtain ⟨rfl, rfl⟩ := q; exact hb c)]
  exact h b k hb
theorem Ex.trans {C : Int → Int → Prop} {m z y : Mem} (h : Ex C m z) (h2 : Ex C z y) : Ex C m y := fun a j c => (h2 a j c).trans (h a j c)
theorem Ex.mono {C D : Int → Int → Prop} {m z : Mem} (h : Ex C m z) (hc : ∀ a j, C a j → D a j) : Ex D m z := fun a j c => h a j (fun q => c (hc a j q))
theorem room_bd {r : Int} (H : RoomAt r) : 2 ≤ r ∧ r ≤ 17 := by rcases H with rfl | rfl <;> omega
theorem XRm.ex {C : Int → Int → Prop} {m z : Mem} {r : Int} {ρ : Mem} (h : XRm m r ρ) (he : Ex C m z) (hc : ∀ a j, r ≤ a → a ≤ r + 13 → ¬ C a j) : XRm z r ρ := by
  have e : ∀ a j, r ≤ a → a ≤ r + 13 → z a j = m a j := fun a j h1 h2 => he a j (hc a j h1 h2)
  obtain ⟨⟨x1, x2, x3, x4⟩, xL, xS, xA, xM⟩ := h
  refine ⟨⟨by rw [e _ _ (by omega) (by omega)]; exact x1, by rw [e _ _ (by omega) (by omega)]; exact x2, by rw [e _ _ (by omega) (by omega)]; exact x3, by rw [e _ _ (by omega) (by omega)]; exact x4⟩, fun i hi => ?_, fun s hs => ?_, fun s hs => ?_, fun i hi => ?_⟩
  · rw [e _ _ (by omega) (by omega), e _ _ (by omega) (by omega)]; exact xL i hi
  · rw [e _ _ (by omega) (by omega), e _ _ (by omega) (by omega), e _ _ (by omega) (by omega)]
    exact ⟨(xS s hs).1, (xS s hs).2.1, (xS s hs).2.2.1, fun k hk => by rw [e _ _ (by omega) (by omega)]; exact (xS s hs).2.2.2 k hk⟩
  · rw [e _ _ (by omega) (by omega)]; exact xA s hs
  · rw [e _ _ (by omega) (by omega)]; exact xM i hi
theorem MRm.ex {C : Int → Int → Prop} {m z : Mem} {ρ : Mem} (h : MRm m ρ) (he : Ex C m z) (hc : ∀ a j, ((a = 95 ∧ 3 ≤ j) ∨ (a = 62 ∧ j = 53) ∨ (a = 97 ∧ 6 ≤ j) ∨ (a = 98 ∧ 6 ≤ j) ∨ (a = 99 ∧ 70 ≤ j) ∨ (a = 100 ∧ 6 ≤ j)) → ¬ C a j) : MRm z ρ := by
  have e : ∀ a j, ((a = 95 ∧ 3 ≤ j) ∨ (a = 62 ∧ j = 53) ∨ (a = 97 ∧ 6 ≤ j) ∨ (a = 98 ∧ 6 ≤ j) ∨ (a = 99 ∧ 70 ≤ j) ∨ (a = 100 ∧ 6 ≤ j)) → z a j = m a j := fun a j h1 => he a j (hc a j h1)
  obtain ⟨⟨x1, x2, x3, x4⟩, xL, xS, xM⟩ := h
  refine ⟨⟨by rw [e _ _ (by omega)]; exact x1, by rw [e _ _ (by omega)]; exact x2, by rw [e _ _ (by omega)]; exact x3, by rw [e _ _ (by omega)]; exact x4⟩, fun i hi => ?_, fun s hs => ?_, fun i hi => ?_⟩
  · rw [e _ _ (by omega), e _ _ (by omega)]; exact xL i hi
  · rw [e _ _ (by omega), e _ _ (by omega), e _ _ (by omega)]
    exact ⟨(xS s hs).1, (xS s hs).2.1, (xS s hs).2.2.1, fun k hk => by rw [e _ _ (by omega)]; exact (xS s hs).2.2.2 k hk⟩
  · rw [e _ _ (by omega)]; exact xM i hi
/-! bobbins in the order told -/
def leftF (ρ : Mem) (L : Int) : Nat → Int
  | 0 => 0
  | s + 1 => (if ρ 3 s ≤ leftF ρ L s then leftF ρ L s else L) - ρ 3 s
def begF (ρ : Mem) (L : Int) (s : Int) : Int := if ρ 3 s ≤ leftF ρ L s.toNat then 0 else 1
theorem leftF_bd {ρ : Mem} {L : Int} {n : Nat} (h : ∀ i : Nat, i < n → 1 ≤ ρ 3 i ∧ ρ 3 i ≤ L) (hL : 0 ≤ L) : ∀ i : Nat, i ≤ n → 0 ≤ leftF ρ L i ∧ leftF ρ L i ≤ L := by
  intro i
  induction i with
  | zero => intro _; exact ⟨by simp [leftF], by simpa [leftF] using hL⟩
  | succ i ih =>
    intro hi
    have h1 := ih (by omega)
    have h2 := h i (by omega)
    rw [leftF]
    split <;> omega
def C_io (a j : Int) : Prop := a = 45 ∨ (a = 44 ∧ j = 1)
section OR_
variable {sc : List Int} {d : Nat} {m : Mem} {Q : Option AV → Mem → Prop} {r : Int} {ρ : Mem} {L : Int}
theorem l_X4_inOrder (H : RoomAt r) (h : XRm m r ρ) (hb : RmB ρ) (hL : L ≤ 99) (ht : ∀ s : Nat, (s : Int) < ρ 0 1 → ρ 3 s ≤ L) (k : ∀ z, Ex C_io m z → (∀ s : Nat, (s : Int) < ρ 0 1 → z 45 s = begF ρ L s) → z 44 1 = sumF (begF ρ L) (ρ 0 1).toNat → Q none z) :
    ∀ (j i : Nat) (z : Mem), (i : Int) + j = ρ 0 1 → Ex C_io m z → (∀ s : Nat, s < i → z 45 s = begF ρ L s) → z 44 1 = sumF (begF ρ L) i → S_X4_inOrder sc d 10 [aR 44, aR r, aI L, aI (leftF ρ L i), aI i] [] z Q := by
  have hr := room_bd H
  intro j
  induction j with
  | zero =>
    intro i z hi he h1 h2
    have h' := h.ex he (fun a j q1 q2 => by unfold C_io; omega)
    have b0 := hb.1
    have e8 := h'.1.2.1
    have ei : i = (ρ 0 1).toNat := by omega
    refine g_X4_inOrder_10 H ⟨by omega, by omega, fun _ => k z he (fun s hs => h1 s (by omega)) (by rw [← ei]; exact h2), fun c => absurd (by omega) c⟩
  | succ j ih =>
    intro i z hi he h1 h2
    have h' := h.ex he (fun a j q1 q2 => by unfold C_io; omega)
    have b0 := hb.1
    have hi' : (i : Int) < ρ 0 1 := by omega
    have e8 := h'.1.2.1
    have e3 := (h'.2.2.1 i hi').1
    have t := (hb.2.2.2.1 i hi').1
    have tl := ht i hi'
    have lb := leftF_bd (ρ := ρ) (L := L) (n := (ρ 0 1).toNat) (fun q hq => ⟨(hb.2.2.2.1 q (by omega)).1.1, ht q (by omega)⟩) (by omega) i (by omega)
    have n1 : r + 3 ≠ 44 := by omega
    have n2 : r + 3 ≠ 45 := by omega
    have eb : begF ρ L i = if ρ 3 i ≤ leftF ρ L i then 0 else 1 := by unfold begF; rw [Int.toNat_natCast]
    refine g_X4_inOrder_10 H ⟨by omega, by omega, fun c => absurd c (by omega), fun _ => ⟨by omega, by omega, by omega, by omega, ?_, ?_⟩⟩
    · simp only [wr_eq, wr_na, n1, n2, ne_eq, not_false_eq_true, Int.reduceEq]
      split <;> decide
    · simp only [wr_eq, wr_na, n1, n2, ne_eq, not_false_eq_true, Int.reduceEq, e3, ← eb]
      have w := ih (i + 1) (wr (wr z 45 i (begF ρ L i)) 44 1 (z 44 1 + begF ρ L i)) (by omega) ((he.put (Or.inl rfl)).put (Or.inr ⟨rfl, rfl⟩)) (fun s hs => by
        rw [wr_na _ _ _ _ _ _ (by decide)]
        by_cases e : s = i
        · subst e; rw [wr_eq]
        · rw [wr_ne _ _ _ _ _ _ (by omega)]; exact h1 s (by omega)) (by rw [wr_eq, h2]; rfl)
      rw [leftF] at w
      have e5 : (if ¬ begF ρ L i = 1 then leftF ρ L i else L) = (if ρ 3 i ≤ leftF ρ L i then leftF ρ L i else L) := by
        rw [eb]
        split <;> simp
      rw [e5]
      exact w
theorem s_X4_inOrder (H : RoomAt r) (h : XRm m r ρ) (hb : RmB ρ) (hL : L ≤ 99) (ht : ∀ s : Nat, (s : Int) < ρ 0 1 → ρ 3 s ≤ L) :
    P_X4_inOrder sc d [aR 44, aR r, aI L] m (fun v z => v = none ∧ Ex C_io m z ∧ (∀ s : Nat, (s : Int) < ρ 0 1 → z 45 s = begF ρ L s) ∧ z 44 1 = sumF (begF ρ L) (ρ 0 1).toNat) :=
  ep_X4_inOrder (g_X4_inOrder_0 H (l_X4_inOrder H h hb hL ht (fun z h1 h2 h3 => ⟨rfl, h1, h2, h3⟩) (ρ 0 1).toNat 0 _ (by have := hb.1; omega) ((Ex.refl _ _).put (Or.inr ⟨rfl, rfl⟩)) (fun s hs => by omega) (wr_eq _ _ _ _)))
end OR_
