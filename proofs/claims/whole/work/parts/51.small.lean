/-! small methods of both sides -/
theorem s_min {sc : List Int} {d : Nat} {m : Mem} {a b : Int} (ha : R32 a) (hb : R32 b) : P_J9_min_7cf53 sc d [aI a, aI b] m (PV (aI (if b < a then b else a)) m) := ep_J9_min_7cf53 (g_J9_min_7cf53_0 ⟨ha, hb, rfl, rfl⟩)
theorem s_max {sc : List Int} {d : Nat} {m : Mem} {a b : Int} (ha : R32 a) (hb : R32 b) : P_J9_max_7cf53 sc d [aI a, aI b] m (PV (aI (if a < b then b else a)) m) := ep_J9_max_7cf53 (g_J9_max_7cf53_0 ⟨ha, hb, rfl, rfl⟩)
theorem s_lmin {sc : List Int} {d : Nat} {m : Mem} {a b : Int} (ha : R64 a) (hb : R64 b) : P_J9_min_f86c9 sc d [aJ a, aJ b] m (PV (aJ (if b < a then b else a)) m) := ep_J9_min_f86c9 (g_J9_min_f86c9_0 ⟨ha, hb, rfl, rfl⟩)
theorem s_lmax {sc : List Int} {d : Nat} {m : Mem} {a b : Int} (ha : R64 a) (hb : R64 b) : P_J9_max_f86c9 sc d [aJ a, aJ b] m (PV (aJ (if a < b then b else a)) m) := ep_J9_max_f86c9 (g_J9_max_f86c9_0 ⟨ha, hb, rfl, rfl⟩)
section SM
variable {sc : List Int} {d : Nat} {m : Mem} {Q : Option AV → Mem → Prop} {r : Int} {ρ : Mem}
theorem l_X6_longest (H : RoomAt r) (h : XRm m r ρ) (hb : RmB ρ) (hd : 1 ≤ d) (k : Q (some (aI (maxF (ρ 3) (ρ 0 1).toNat))) m) : ∀ j i : Nat, (i : Int) + j = ρ 0 1 → S_X6_longest sc d 4 [aR r, aI (maxF (ρ 3) i), aI i] [] m Q := by
  obtain ⟨⟨b1, b2, b3, b4, b5, b6, b7, b8⟩, ⟨b9, b10⟩, bL, bS, bM⟩ := hb
  obtain ⟨⟨x1, x2, x3, x4⟩, xL, xS, xA, xM⟩ := h
  intro j
  induction j with
  | zero =>
    intro i hi
    have e : i = (ρ 0 1).toNat := by omega
    subst e
    refine g_X6_longest_4 H ⟨by omega, by omega, fun _ => k, fun c => absurd (by omega) c⟩
  | succ j ih =>
    intro i hi
    have hi' : (i : Int) < ρ 0 1 := by omega
    have t := (bS i hi').1
    have z := maxF_bd (f := ρ 3) (b := 99) (n := i) (by decide) (fun q hq => (bS q (by omega)).1.2)
    refine g_X6_longest_4 H ⟨by omega, by omega, fun c => absurd c (by omega), fun _ => ⟨by omega, by omega, ?_⟩⟩
    rw [(xS i hi').1]
    refine p_X6_longest_19 (d2 := d - 1) H (s_max (by omega) (by omega)) (by omega) ?_
    rintro _ _ ⟨e, rfl⟩
    cases e
    exact g_X6_longest_22 H (ih (i + 1) (by omega))
theorem s_X6_longest (H : RoomAt r) (h : XRm m r ρ) (hb : RmB ρ) (hd : 1 ≤ d) : P_X6_longest sc d [aR r] m (PV (aI (maxF (ρ 3) (ρ 0 1).toNat)) m) :=
  ep_X6_longest (g_X6_longest_0 H (l_X6_longest H h hb hd ⟨rfl, rfl⟩ (ρ 0 1).toNat 0 (by have := hb.1; omega)))
theorem l_X6_leastLength (H : RoomAt r) (h : XRm m r ρ) (hb : RmB ρ) (hd : 1 ≤ d) (k : Q (some (aI (minF (ρ 1) (ρ 0 0).toNat))) m) : ∀ j i : Nat, (i : Int) + j = ρ 0 0 → S_X6_leastLength sc d 5 [aR r, aI (minF (ρ 1) i), aI i] [] m Q := by
  obtain ⟨⟨b1, b2, b3, b4, b5, b6, b7, b8⟩, ⟨b9, b10⟩, bL, bS, bM⟩ := hb
  obtain ⟨⟨x1, x2, x3, x4⟩, xL, xS, xA, xM⟩ := h
  intro j
  induction j with
  | zero =>
    intro i hi
    have e : i = (ρ 0 0).toNat := by omega
    subst e
    refine g_X6_leastLength_5 H ⟨by omega, by omega, fun _ => k, fun c => absurd (by omega) c⟩
  | succ j ih =>
    intro i hi
    have hi' : (i : Int) < ρ 0 0 := by omega
    have t := (bL i hi').1
    have z := minF_bd (f := ρ 1) (n := i) (fun q hq => (bL q (by omega)).1.1)
    refine g_X6_leastLength_5 H ⟨by omega, by omega, fun c => absurd c (by omega), fun _ => ⟨by omega, by omega, ?_⟩⟩
    rw [(xL i hi').1]
    refine p_X6_leastLength_20 (d2 := d - 1) H (s_min (by omega) (by omega)) (by omega) ?_
    rintro _ _ ⟨e, rfl⟩
    cases e
    exact g_X6_leastLength_23 H (ih (i + 1) (by omega))
theorem s_X6_leastLength (H : RoomAt r) (h : XRm m r ρ) (hb : RmB ρ) (hd : 1 ≤ d) : P_X6_leastLength sc d [aR r] m (PV (aI (minF (ρ 1) (ρ 0 0).toNat)) m) :=
  ep_X6_leastLength (g_X6_leastLength_0 H (l_X6_leastLength H h hb hd ⟨rfl, rfl⟩ (ρ 0 0).toNat 0 (by have := hb.1; omega)))
theorem l_X6_greatestLength (H : RoomAt r) (h : XRm m r ρ) (hb : RmB ρ) (hd : 1 ≤ d) (k : Q (some (aI (maxF (ρ 1) (ρ 0 0).toNat))) m) : ∀ j i : Nat, (i : Int) + j = ρ 0 0 → S_X6_greatestLength sc d 4 [aR r, aI (maxF (ρ 1) i), aI i] [] m Q := by
  obtain ⟨⟨b1, b2, b3, b4, b5, b6, b7, b8⟩, ⟨b9, b10⟩, bL, bS, bM⟩ := hb
  obtain ⟨⟨x1, x2, x3, x4⟩, xL, xS, xA, xM⟩ := h
  intro j
  induction j with
  | zero =>
    intro i hi
    have e : i = (ρ 0 0).toNat := by omega
    subst e
    refine g_X6_greatestLength_4 H ⟨by omega, by omega, fun _ => k, fun c => absurd (by omega) c⟩
  | succ j ih =>
    intro i hi
    have hi' : (i : Int) < ρ 0 0 := by omega
    have t := (bL i hi').1
    have z := maxF_bd (f := ρ 1) (b := 99) (n := i) (by decide) (fun q hq => (bL q (by omega)).1.2)
    refine g_X6_greatestLength_4 H ⟨by omega, by omega, fun c => absurd c (by omega), fun _ => ⟨by omega, by omega, ?_⟩⟩
    rw [(xL i hi').1]
    refine p_X6_greatestLength_19 (d2 := d - 1) H (s_max (by omega) (by omega)) (by omega) ?_
    rintro _ _ ⟨e, rfl⟩
    cases e
    exact g_X6_greatestLength_22 H (ih (i + 1) (by omega))
theorem s_X6_greatestLength (H : RoomAt r) (h : XRm m r ρ) (hb : RmB ρ) (hd : 1 ≤ d) : P_X6_greatestLength sc d [aR r] m (PV (aI (maxF (ρ 1) (ρ 0 0).toNat)) m) :=
  ep_X6_greatestLength (g_X6_greatestLength_0 H (l_X6_greatestLength H h hb hd ⟨rfl, rfl⟩ (ρ 0 0).toNat 0 (by have := hb.1; omega)))
/-- the odds of a fresh bobbin to last y -/
def oddsF (ρ : Mem) (y : Int) (n : Nat) : Int := sumF (fun i => if ρ 1 i < y then 0 else ρ 2 i) n
theorem l_X6_oddsOf {y : Int} (H : RoomAt r) (h : XRm m r ρ) (hb : RmB ρ) (hy : R32 y) (k : Q (some (aI (oddsF ρ y (ρ 0 0).toNat))) m) : ∀ j i : Nat, (i : Int) + j = ρ 0 0 → S_X6_oddsOf sc d 4 [aR r, aI y, aI (oddsF ρ y i), aI i] [] m Q := by
  obtain ⟨⟨b1, b2, b3, b4, b5, b6, b7, b8⟩, ⟨b9, b10⟩, bL, bS, bM⟩ := hb
  obtain ⟨⟨x1, x2, x3, x4⟩, xL, xS, xA, xM⟩ := h
  intro j
  induction j with
  | zero =>
    intro i hi
    have e : i = (ρ 0 0).toNat := by omega
    subst e
    refine g_X6_oddsOf_4 H ⟨by omega, by omega, fun _ => k, fun c => absurd (by omega) c⟩
  | succ j ih =>
    intro i hi
    have hi' : (i : Int) < ρ 0 0 := by omega
    have t := bL i hi'
    have e1 := (xL i hi').1
    have e2 := (xL i hi').2
    refine g_X6_oddsOf_4 H ⟨by omega, by omega, fun c => absurd c (by omega), fun _ => ⟨by omega, by omega, by omega, hy, ?_⟩⟩
    rw [e1, e2]
    exact ih (i + 1) (by omega)
theorem s_X6_oddsOf {y : Int} (H : RoomAt r) (h : XRm m r ρ) (hb : RmB ρ) (hy : R32 y) : P_X6_oddsOf sc d [aR r, aI y] m (PV (aI (oddsF ρ y (ρ 0 0).toNat)) m) :=
  ep_X6_oddsOf (g_X6_oddsOf_0 H (l_X6_oddsOf H h hb hy ⟨rfl, rfl⟩ (ρ 0 0).toNat 0 (by have := hb.1; omega)))
/-- whether a length is among those told -/
def hasF (ρ : Mem) (y : Int) (n : Nat) : Prop := ∃ i : Nat, i < n ∧ ρ 1 i = y
theorem l_X6_hasLength {y : Int} (H : RoomAt r) (h : XRm m r ρ) (hb : RmB ρ) (hy : R32 y) (k1 : hasF ρ y (ρ 0 0).toNat → Q (some (aI 1)) m) (k0 : ¬ hasF ρ y (ρ 0 0).toNat → Q (some (aI 0)) m) : ∀ j i : Nat, (i : Int) + j = ρ 0 0 → ¬ hasF ρ y i → S_X6_hasLength sc d 2 [aR r, aI y, aI i] [] m Q := by
  obtain ⟨⟨b1, b2, b3, b4, b5, b6, b7, b8⟩, ⟨b9, b10⟩, bL, bS, bM⟩ := hb
  obtain ⟨⟨x1, x2, x3, x4⟩, xL, xS, xA, xM⟩ := h
  intro j
  induction j with
  | zero =>
    intro i hi hn
    have e : i = (ρ 0 0).toNat := by omega
    subst e
    refine g_X6_hasLength_2 H ⟨by omega, by omega, fun _ => k0 hn, fun c => absurd (by omega) c⟩
  | succ j ih =>
    intro i hi hn
    have hi' : (i : Int) < ρ 0 0 := by omega
    have t := bL i hi'
    have e1 := (xL i hi').1
    refine g_X6_hasLength_2 H ⟨by omega, by omega, fun c => absurd c (by omega), fun _ => ⟨by omega, by omega, by omega, hy, fun c => ih (i + 1) (by omega) ?_, fun c => k1 ⟨i, by omega, by omega⟩⟩⟩
    rintro ⟨q, hq, hq2⟩
    by_cases e : q = i
    · subst e
      omega
    · exact hn ⟨q, by omega, hq2⟩
theorem s_X6_hasLength {y : Int} (H : RoomAt r) (h : XRm m r ρ) (hb : RmB ρ) (hy : R32 y) : P_X6_hasLength sc d [aR r, aI y] m (fun v z => z = m ∧ ((v = some (aI 1) ∧ hasF ρ y (ρ 0 0).toNat) ∨ (v = some (aI 0) ∧ ¬ hasF ρ y (ρ 0 0).toNat))) :=
  ep_X6_hasLength (g_X6_hasLength_0 H (l_X6_hasLength H h hb hy (fun c => ⟨rfl, Or.inl ⟨rfl, c⟩⟩) (fun c => ⟨rfl, Or.inr ⟨rfl, c⟩⟩) (ρ 0 0).toNat 0 (by have := hb.1; omega) (by rintro ⟨q, hq, -⟩; omega)))
/-- whether one may name a sewer -/
def knF (ρ : Mem) (w : Int) : Prop := 0 < ρ 0 3 ∧ 0 ≤ w ∧ w < 4 + ρ 0 2 ∧ (w = 3 → ρ 0 1 ≤ 6)
theorem s_X6_knows {w : Int} (H : RoomAt r) (h : XRm m r ρ) (hb : RmB ρ) (hw : R32 w) : P_X6_knows sc d [aR r, aI w] m (fun v z => z = m ∧ ((v = some (aI 1) ∧ knF ρ w) ∨ (v = some (aI 0) ∧ ¬ knF ρ w))) := by
  obtain ⟨⟨b1, b2, b3, b4, b5, b6, b7, b8⟩, ⟨b9, b10⟩, bL, bS, bM⟩ := hb
  obtain ⟨⟨x1, x2, x3, x4⟩, xL, xS, xA, xM⟩ := h
  refine ep_X6_knows (g_X6_knows_0 H ⟨by omega, fun _ => hw, fun _ _ => by omega, fun _ _ _ _ => by omega, rfl, ?_⟩)
  rw [x2, x3, x4]
  unfold knF
  split
  · exact Or.inr ⟨rfl, by omega⟩
  · split
    · exact Or.inr ⟨rfl, by omega⟩
    · split
      · exact Or.inr ⟨rfl, by omega⟩
      · split
        · exact Or.inl ⟨rfl, by omega⟩
        · split
          · exact Or.inr ⟨rfl, by omega⟩
          · exact Or.inl ⟨rfl, by omega⟩
end SM
