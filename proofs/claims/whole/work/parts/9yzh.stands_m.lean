/-! rooms as texts: the reference's whole text, and how a room comes to stand -/
section RN2
variable {sc : List Int} {d : Nat} {m ρ : Mem} {Q : Option AV → Mem → Prop} {T : Int → Int} {n : Nat} {σ : Stt}
theorem std7 (K : ∀ z, Ex (fun a j => a = 95 ∧ 3 ≤ j) m z → (∀ k : Nat, k < 3 → z 95 (3 + k) = m 95 k) → S_X8_stands sc d 34 [aR 62, aI 0] [] z Q) : S_X8_stands sc d 7 [aR 62, aI 0] [] m Q := by
  have key : ∀ (f i : Nat) (z : Mem), i + f = 3 → Ex (fun a j => a = 95 ∧ 3 ≤ j) m z → (∀ k : Nat, k < i → z 95 (3 + k) = m 95 k) → S_X8_stands sc d 7 [aR 62, aI i] [] z Q := by
    intro f
    induction f with
    | zero => intro i z hi ze hz; exact g_X8_stands_7 ⟨by omega, fun _ => K z ze (fun k hk => hz k (by omega)), fun q => by omega⟩
    | succ f ih =>
      intro i z hi ze hz
      refine g_X8_stands_7 ⟨by omega, fun q => by omega, fun _ => ⟨by omega, by omega, by omega, by omega, ?_⟩⟩
      have := ih (i + 1) (wr z 95 (3 + i) (z 95 i)) (by omega) (ze.put ⟨rfl, by omega⟩) (fun k hk => by
        by_cases e : k = i
        · rw [e, wr_eq, ze _ _ (by omega)]
        · rw [wr_ne _ _ _ _ _ _ (by omega)]; exact hz k (by omega))
      rw [show ((i + 1 : Nat) : Int) = (i : Int) + 1 by omega] at this
      exact this
  exact key 3 0 m (by omega) (Ex.refl _ _) (fun k hk => absurd hk (by omega))
theorem std34 (K : ∀ z, Ex (fun a j => a = 96 ∧ 20 ≤ j) m z → (∀ k : Nat, k < 20 → z 96 (20 + k) = m 96 k) → S_X8_stands sc d 63 [aR 62, aI 0] [] z Q) : S_X8_stands sc d 34 [aR 62, aI 0] [] m Q := by
  have key : ∀ (f i : Nat) (z : Mem), i + f = 20 → Ex (fun a j => a = 96 ∧ 20 ≤ j) m z → (∀ k : Nat, k < i → z 96 (20 + k) = m 96 k) → S_X8_stands sc d 34 [aR 62, aI i] [] z Q := by
    intro f
    induction f with
    | zero => intro i z hi ze hz; exact g_X8_stands_34 ⟨by omega, fun _ => K z ze (fun k hk => hz k (by omega)), fun q => by omega⟩
    | succ f ih =>
      intro i z hi ze hz
      refine g_X8_stands_34 ⟨by omega, fun q => by omega, fun _ => ⟨by omega, by omega, by omega, by omega, ?_⟩⟩
      have := ih (i + 1) (wr z 96 (20 + i) (z 96 i)) (by omega) (ze.put ⟨rfl, by omega⟩) (fun k hk => by
        by_cases e : k = i
        · rw [e, wr_eq, ze _ _ (by omega)]
        · rw [wr_ne _ _ _ _ _ _ (by omega)]; exact hz k (by omega))
      rw [show ((i + 1 : Nat) : Int) = (i : Int) + 1 by omega] at this
      exact this
  exact key 20 0 m (by omega) (Ex.refl _ _) (fun k hk => absurd hk (by omega))
theorem std63 (K : ∀ z, Ex (fun a j => (a = 97 ∨ a = 98 ∨ a = 100) ∧ 6 ≤ j) m z → (∀ k : Nat, k < 6 → z 97 (6 + k) = m 97 k ∧ z 98 (6 + k) = m 98 k ∧ z 100 (6 + k) = m 100 k) → S_X8_stands sc d 122 [aR 62, aI 0] [] z Q) : S_X8_stands sc d 63 [aR 62, aI 0] [] m Q := by
  have key : ∀ (f i : Nat) (z : Mem), i + f = 6 → Ex (fun a j => (a = 97 ∨ a = 98 ∨ a = 100) ∧ 6 ≤ j) m z → (∀ k : Nat, k < i → z 97 (6 + k) = m 97 k ∧ z 98 (6 + k) = m 98 k ∧ z 100 (6 + k) = m 100 k) → S_X8_stands sc d 63 [aR 62, aI i] [] z Q := by
    intro f
    induction f with
    | zero => intro i z hi ze hz; exact g_X8_stands_63 ⟨by omega, fun _ => K z ze (fun k hk => hz k (by omega)), fun q => by omega⟩
    | succ f ih =>
      intro i z hi ze hz
      refine g_X8_stands_63 ⟨by omega, fun q => by omega, fun _ => ⟨by omega, by omega, by omega, by omega, ?_⟩⟩
      have q1 : wr z 97 (6 + i) (z 97 i) 98 i = z 98 i := wr_na _ _ _ _ _ _ (by decide)
      have q2 : wr (wr z 97 (6 + i) (z 97 i)) 98 (6 + i) (z 98 i) 100 i = z 100 i := by rw [wr_na _ _ _ _ _ _ (by decide), wr_na _ _ _ _ _ _ (by decide)]
      rw [q1, q2]
      have := ih (i + 1) (wr (wr (wr z 97 (6 + i) (z 97 i)) 98 (6 + i) (z 98 i)) 100 (6 + i) (z 100 i)) (by omega) (((ze.put ⟨Or.inl rfl, by omega⟩).put ⟨Or.inr (Or.inl rfl), by omega⟩).put ⟨Or.inr (Or.inr rfl), by omega⟩) (fun k hk => by
        by_cases e : k = i
        · rw [e]
          refine ⟨?_, ?_, ?_⟩
          · rw [wr_na _ _ _ _ _ _ (by decide), wr_na _ _ _ _ _ _ (by decide), wr_eq, ze _ _ (by omega)]
          · rw [wr_na _ _ _ _ _ _ (by decide), wr_eq, ze _ _ (by omega)]
          · rw [wr_eq, ze _ _ (by omega)]
        · have := hz k (by omega)
          refine ⟨?_, ?_, ?_⟩
          · rw [wr_na _ _ _ _ _ _ (by decide), wr_na _ _ _ _ _ _ (by decide), wr_ne _ _ _ _ _ _ (by omega)]; exact this.1
          · rw [wr_na _ _ _ _ _ _ (by decide), wr_ne _ _ _ _ _ _ (by omega), wr_na _ _ _ _ _ _ (by decide)]; exact this.2.1
          · rw [wr_ne _ _ _ _ _ _ (by omega), wr_na _ _ _ _ _ _ (by decide), wr_na _ _ _ _ _ _ (by decide)]; exact this.2.2)
      rw [show ((i + 1 : Nat) : Int) = (i : Int) + 1 by omega] at this
      exact this
  exact key 6 0 m (by omega) (Ex.refl _ _) (fun k hk => absurd hk (by omega))
theorem std122 (K : ∀ z, Ex (fun a j => a = 99 ∧ 70 ≤ j) m z → (∀ k : Nat, k < 70 → z 99 (70 + k) = m 99 k) → S_X8_stands sc d 151 [aR 62, aI 0] [] z Q) : S_X8_stands sc d 122 [aR 62, aI 0] [] m Q := by
  have key : ∀ (f i : Nat) (z : Mem), i + f = 70 → Ex (fun a j => a = 99 ∧ 70 ≤ j) m z → (∀ k : Nat, k < i → z 99 (70 + k) = m 99 k) → S_X8_stands sc d 122 [aR 62, aI i] [] z Q := by
    intro f
    induction f with
    | zero => intro i z hi ze hz; exact g_X8_stands_122 ⟨by omega, fun _ => K z ze (fun k hk => hz k (by omega)), fun q => by omega⟩
    | succ f ih =>
      intro i z hi ze hz
      refine g_X8_stands_122 ⟨by omega, fun q => by omega, fun _ => ⟨by omega, by omega, by omega, by omega, ?_⟩⟩
      have := ih (i + 1) (wr z 99 (70 + i) (z 99 i)) (by omega) (ze.put ⟨rfl, by omega⟩) (fun k hk => by
        by_cases e : k = i
        · rw [e, wr_eq, ze _ _ (by omega)]
        · rw [wr_ne _ _ _ _ _ _ (by omega)]; exact hz k (by omega))
      rw [show ((i + 1 : Nat) : Int) = (i : Int) + 1 by omega] at this
      exact this
  exact key 70 0 m (by omega) (Ex.refl _ _) (fun k hk => absurd hk (by omega))
theorem std151 (K : ∀ z, Ex (fun a j => (a = 101 ∨ a = 102) ∧ 4 ≤ j) m z → (∀ k : Nat, k < 4 → z 101 (4 + k) = m 101 k ∧ z 102 (4 + k) = m 102 k) → S_X8_stands sc d 192 [aR 62, aI 0] [] z Q) : S_X8_stands sc d 151 [aR 62, aI 0] [] m Q := by
  have key : ∀ (f i : Nat) (z : Mem), i + f = 4 → Ex (fun a j => (a = 101 ∨ a = 102) ∧ 4 ≤ j) m z → (∀ k : Nat, k < i → z 101 (4 + k) = m 101 k ∧ z 102 (4 + k) = m 102 k) → S_X8_stands sc d 151 [aR 62, aI i] [] z Q := by
    intro f
    induction f with
    | zero => intro i z hi ze hz; exact g_X8_stands_151 ⟨by omega, fun _ => K z ze (fun k hk => hz k (by omega)), fun q => by omega⟩
    | succ f ih =>
      intro i z hi ze hz
      refine g_X8_stands_151 ⟨by omega, fun q => by omega, fun _ => ⟨by omega, by omega, by omega, by omega, ?_⟩⟩
      have q1 : wr z 101 (4 + i) (z 101 i) 102 i = z 102 i := wr_na _ _ _ _ _ _ (by decide)
      rw [q1]
      have := ih (i + 1) (wr (wr z 101 (4 + i) (z 101 i)) 102 (4 + i) (z 102 i)) (by omega) ((ze.put ⟨Or.inl rfl, by omega⟩).put ⟨Or.inr rfl, by omega⟩) (fun k hk => by
        by_cases e : k = i
        · rw [e]
          refine ⟨?_, ?_⟩
          · rw [wr_na _ _ _ _ _ _ (by decide), wr_eq, ze _ _ (by omega)]
          · rw [wr_eq, ze _ _ (by omega)]
        · have := hz k (by omega)
          refine ⟨?_, ?_⟩
          · rw [wr_na _ _ _ _ _ _ (by decide), wr_ne _ _ _ _ _ _ (by omega)]; exact this.1
          · rw [wr_ne _ _ _ _ _ _ (by omega), wr_na _ _ _ _ _ _ (by decide)]; exact this.2)
      rw [show ((i + 1 : Nat) : Int) = (i : Int) + 1 by omega] at this
      exact this
  exact key 4 0 m (by omega) (Ex.refl _ _) (fun k hk => absurd hk (by omega))
theorem std192 {c : Nat} (hc : m 62 51 = c) (hc2 : c ≤ 1600) (K : ∀ z, Ex (fun a j => a = 103 ∧ 1600 ≤ j) m z → (∀ k : Nat, k < c → z 103 (1600 + k) = m 103 k) → S_X8_stands sc d 224 [aR 62, aI 0] [] z Q) : S_X8_stands sc d 192 [aR 62, aI 0] [] m Q := by
  have key : ∀ (f i : Nat) (z : Mem), i + f = c → Ex (fun a j => a = 103 ∧ 1600 ≤ j) m z → (∀ k : Nat, k < i → z 103 (1600 + k) = m 103 k) → S_X8_stands sc d 192 [aR 62, aI i] [] z Q := by
    intro f
    induction f with
    | zero =>
      intro i z hi ze hz
      have z51 : z 62 51 = c := (ze 62 51 (by omega)).trans hc
      exact g_X8_stands_192 ⟨by omega, by omega, fun _ => K z ze (fun k hk => hz k (by omega)), fun q => by omega⟩
    | succ f ih =>
      intro i z hi ze hz
      have z51 : z 62 51 = c := (ze 62 51 (by omega)).trans hc
      refine g_X8_stands_192 ⟨by omega, by omega, fun q => by omega, fun _ => ⟨by omega, by omega, by omega, by omega, ?_⟩⟩
      have := ih (i + 1) (wr z 103 (1600 + i) (z 103 i)) (by omega) (ze.put ⟨rfl, by omega⟩) (fun k hk => by
        by_cases e : k = i
        · rw [e, wr_eq, ze _ _ (by omega)]
        · rw [wr_ne _ _ _ _ _ _ (by omega)]; exact hz k (by omega))
      rw [show ((i + 1 : Nat) : Int) = (i : Int) + 1 by omega] at this
      exact this
  exact key c 0 m (by omega) (Ex.refl _ _) (fun k hk => absurd hk (by omega))
theorem std224 (K : ∀ z, Ex (fun a j => a = 124 ∨ (a = 62 ∧ (j = 83 ∨ j = 88))) m z → (∀ k : Nat, k < 6 → z 124 k = if k = 2 then m 97 6 else 0) → z 62 83 = 0 → z 62 88 = 0 → Q none z) : S_X8_stands sc d 224 [aR 62, aI 0] [] m Q := by
  have key : ∀ (f i : Nat) (z : Mem), i + f = 6 → Ex (fun a j => a = 124 ∨ (a = 62 ∧ (j = 83 ∨ j = 88))) m z → (∀ k : Nat, k < i → z 124 k = 0) → S_X8_stands sc d 224 [aR 62, aI i] [] z Q := by
    intro f
    induction f with
    | zero =>
      intro i z hi ze hz
      refine g_X8_stands_224 ⟨by omega, fun _ => K _ (((ze.put (Or.inl rfl)).put (Or.inr ⟨rfl, Or.inl rfl⟩)).put (Or.inr ⟨rfl, Or.inr rfl⟩)) (fun k hk => ?_) ?_ (wr_eq _ _ _ _), fun q => by omega⟩
      · rw [wr_na _ _ _ _ _ _ (by decide), wr_na _ _ _ _ _ _ (by decide)]
        by_cases e : k = 2
        · rw [if_pos e, e]
          show wr z 124 2 (z 97 6) 124 2 = _
          rw [wr_eq, ze _ _ (by omega)]
        · rw [if_neg e, wr_ne _ _ _ _ _ _ (by omega)]; exact hz k (by omega)
      · rw [wr_ne _ _ _ _ _ _ (by decide), wr_eq]
    | succ f ih =>
      intro i z hi ze hz
      refine g_X8_stands_224 ⟨by omega, fun q => by omega, fun _ => ⟨by omega, by omega, ?_⟩⟩
      have := ih (i + 1) (wr z 124 i 0) (by omega) (ze.put (Or.inl rfl)) (fun k hk => by
        by_cases e : k = i
        · rw [e, wr_eq]
        · rw [wr_ne _ _ _ _ _ _ (by omega)]; exact hz k (by omega))
      rw [show ((i + 1 : Nat) : Int) = (i : Int) + 1 by omega] at this
      exact this
  exact key 6 0 m (by omega) (Ex.refl _ _) (fun k hk => absurd hk (by omega))
def C_sd (a j : Int) : Prop := (a = 62 ∧ (j = 53 ∨ j = 83 ∨ j = 88)) ∨ (a = 95 ∧ 3 ≤ j) ∨ (a = 96 ∧ 20 ≤ j) ∨ (a = 97 ∧ 6 ≤ j) ∨ (a = 98 ∧ 6 ≤ j) ∨ (a = 99 ∧ 70 ≤ j) ∨ (a = 100 ∧ 6 ≤ j) ∨ (a = 101 ∧ 4 ≤ j) ∨ (a = 102 ∧ 4 ≤ j) ∨ (a = 103 ∧ 1600 ≤ j) ∨ a = 124
/-- a room stands in the reference -/
def StM (z ρ : Mem) : Prop := MRm z ρ ∧ MRl z ρ ∧ ((∀ s : Nat, (s : Int) < ρ 0 1 → NmOK (fun j => ρ 8 (s * 6 + j)) (z 96 (20 + s))) ∧ ∀ k : Nat, (k : Int) < ρ 0 2 → NmOK (fun j => ρ 8 ((10 + k) * 6 + j)) (z 96 (30 + k))) ∧ (∀ k : Nat, k < 6 → z 124 k = if k = 2 then ρ 1 0 else 0) ∧ z 62 83 = 0 ∧ z 62 88 = 0
theorem s_stands {a : Rx} (hr : MRt m a.2 a.1.2) (hp : PI n a) (hn : n ≤ 1600) (h0 : 1 ≤ a.2 0 0) (h3 : a.2 0 3 ≠ 0) : P_X8_stands sc d [aR 62] m (fun v z => v = none ∧ Ex C_sd m z ∧ StM z a.2) := by
  have b := hp.1.1
  have ln := hp.2.2.2.2.1
  have ln2 := hp.2.2.2.2.2
  have q10 := hp.2.2.2.1.1
  have q9 := hp.2.2.2.1.2
  have b4 := hp.1.2.2.2.1
  obtain ⟨⟨a1, a2, a3⟩, bb, cc, dd, ⟨f1, f2, f3⟩, g1, g2⟩ := hr
  refine ep_X8_stands (g_X8_stands_0 ?_)
  have e0 : Ex (fun a j => a = 62 ∧ j = 53) m (wr m 62 53 1) := (Ex.refl _ _).put ⟨rfl, rfl⟩
  have v53 : wr m 62 53 1 62 53 = 1 := wr_eq _ _ _ _
  generalize wr m 62 53 1 = z0 at e0 v53 ⊢
  refine std7 (fun z1 e1 c1 => std34 (fun z2 e2 c2 => std63 (fun z3 e3 c3 => std122 (fun z4 e4 c4 => std151 (fun z5 e5 c5 => std192 (c := a.1.2.length) ?_ (by omega) (fun z6 e6 c6 => std224 (fun z7 e7 c7 h83 h88 => ⟨rfl, ?_, ?_⟩)))))))
  · rw [e5 62 51 (by omega), e4 62 51 (by omega), e3 62 51 (by omega), e2 62 51 (by omega), e1 62 51 (by omega), e0 62 51 (by omega)]; exact f2
  · exact ((((((e0.mono (fun a j q => by unfold C_sd; omega)).trans (e1.mono (fun a j q => by unfold C_sd; omega))).trans (e2.mono (fun a j q => by unfold C_sd; omega))).trans (e3.mono (fun a j q => by unfold C_sd; omega))).trans (e4.mono (fun a j q => by unfold C_sd; omega))).trans (e5.mono (fun a j q => by unfold C_sd; omega))).trans ((e6.mono (fun a j q => by unfold C_sd; omega)).trans (e7.mono (fun a j q => by unfold C_sd; omega)))
  · have v95 : ∀ k : Nat, k < 3 → z7 95 (3 + k) = m 95 k := fun k hk => by rw [e7 _ _ (by omega), e6 _ _ (by omega), e5 _ _ (by omega), e4 _ _ (by omega), e3 _ _ (by omega), e2 _ _ (by omega), c1 k hk, e0 _ _ (by omega)]
    have v96 : ∀ k : Nat, k < 20 → z7 96 (20 + k) = m 96 k := fun k hk => by rw [e7 _ _ (by omega), e6 _ _ (by omega), e5 _ _ (by omega), e4 _ _ (by omega), e3 _ _ (by omega), c2 k hk, e1 _ _ (by omega), e0 _ _ (by omega)]
    have v97 : ∀ k : Nat, k < 6 → z7 97 (6 + k) = m 97 k := fun k hk => by rw [e7 _ _ (by omega), e6 _ _ (by omega), e5 _ _ (by omega), e4 _ _ (by omega), (c3 k hk).1, e2 _ _ (by omega), e1 _ _ (by omega), e0 _ _ (by omega)]
    have v98 : ∀ k : Nat, k < 6 → z7 98 (6 + k) = m 98 k := fun k hk => by rw [e7 _ _ (by omega), e6 _ _ (by omega), e5 _ _ (by omega), e4 _ _ (by omega), (c3 k hk).2.1, e2 _ _ (by omega), e1 _ _ (by omega), e0 _ _ (by omega)]
    have v100 : ∀ k : Nat, k < 6 → z7 100 (6 + k) = m 100 k := fun k hk => by rw [e7 _ _ (by omega), e6 _ _ (by omega), e5 _ _ (by omega), e4 _ _ (by omega), (c3 k hk).2.2, e2 _ _ (by omega), e1 _ _ (by omega), e0 _ _ (by omega)]
    have v99 : ∀ k : Nat, k < 70 → z7 99 (70 + k) = m 99 k := fun k hk => by rw [e7 _ _ (by omega), e6 _ _ (by omega), e5 _ _ (by omega), c4 k hk, e3 _ _ (by omega), e2 _ _ (by omega), e1 _ _ (by omega), e0 _ _ (by omega)]
    have v101 : ∀ k : Nat, k < 4 → z7 101 (4 + k) = m 101 k ∧ z7 102 (4 + k) = m 102 k := fun k hk => by rw [e7 _ _ (by omega), e6 _ _ (by omega), e7 _ _ (by omega), e6 _ _ (by omega), (c5 k hk).1, (c5 k hk).2, e4 _ _ (by omega), e3 _ _ (by omega), e2 _ _ (by omega), e1 _ _ (by omega), e0 _ _ (by omega), e4 _ _ (by omega), e3 _ _ (by omega), e2 _ _ (by omega), e1 _ _ (by omega), e0 _ _ (by omega)]; exact ⟨rfl, rfl⟩
    have v103 : ∀ k : Nat, k < a.1.2.length → z7 103 (1600 + k) = m 103 k := fun k hk => by rw [e7 _ _ (by omega), c6 k hk, e5 _ _ (by omega), e4 _ _ (by omega), e3 _ _ (by omega), e2 _ _ (by omega), e1 _ _ (by omega), e0 _ _ (by omega)]
    have w53 : z7 62 53 = 1 := by rw [e7 _ _ (by omega), e6 _ _ (by omega), e5 _ _ (by omega), e4 _ _ (by omega), e3 _ _ (by omega), e2 _ _ (by omega), e1 _ _ (by omega)]; exact v53
    have w97 : z6 97 6 = m 97 0 := by
      have := v97 0 (by omega)
      rw [e7 _ _ (by omega)] at this
      exact this
    refine ⟨⟨⟨(v95 0 (by omega)).trans a1, (v95 1 (by omega)).trans a2, (v95 2 (by omega)).trans a3, by rw [w53, if_neg h3]⟩, fun i hi => ?_, fun s hs => ?_, fun i hi => by rw [v100 i hi]; exact dd i hi⟩, ⟨fun k hk => ?_, fun j hj => ?_⟩, ⟨fun s hs => ?_, fun k hk => ?_⟩, fun k hk => ?_, h83, h88⟩
    · rw [v97 i (by omega), v98 i (by omega)]; exact bb i hi
    · have k := cc s hs
      have q := (b4 s hs).2.2.1
      refine ⟨?_, ?_, ?_, fun i hi => ?_⟩
      · have := v99 (7 * s) (by omega)
        rw [show (70 + ((7 * s : Nat) : Int)) = 70 + 7 * (s : Int) by omega, show ((7 * s : Nat) : Int) = 7 * (s : Int) by omega] at this
        rw [this]; exact k.1
      · have := v99 (7 * s + 1) (by omega)
        rw [show (70 + ((7 * s + 1 : Nat) : Int)) = 71 + 7 * (s : Int) by omega, show ((7 * s + 1 : Nat) : Int) = 7 * (s : Int) + 1 by omega] at this
        rw [this]; exact k.2.1
      · have := v99 (7 * s + 2) (by omega)
        rw [show (70 + ((7 * s + 2 : Nat) : Int)) = 72 + 7 * (s : Int) by omega, show ((7 * s + 2 : Nat) : Int) = 7 * (s : Int) + 2 by omega] at this
        rw [this]; exact k.2.2.1
      · have := v99 (7 * s + 3 + i) (by omega)
        rw [show (70 + ((7 * s + 3 + i : Nat) : Int)) = 73 + 7 * (s : Int) + i by omega, show ((7 * s + 3 + i : Nat) : Int) = 7 * (s : Int) + 3 + i by omega] at this
        rw [this]; exact k.2.2.2 i hi
    · rw [(v101 k (by omega)).1, (v101 k (by omega)).2]; exact f1 k hk
    · rw [v103 j (by omega), f3 j (by omega), q9 j (by omega)]
    · rw [v96 s (by omega)]; exact g1 s hs
    · have := v96 (10 + k) (by omega)
      rw [show (20 + ((10 + k : Nat) : Int)) = 30 + (k : Int) by omega, show ((10 + k : Nat) : Int) = 10 + (k : Int) by omega] at this
      rw [this]; exact g2 k hk
    · have w : m 97 0 = a.2 1 0 := (bb 0 (by omega)).1
      rw [c7 k hk, w97, w]
end RN2
