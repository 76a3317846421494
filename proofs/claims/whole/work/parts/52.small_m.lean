/-! small methods of the reference -/
section SR
variable {sc : List Int} {d : Nat} {m : Mem} {Q : Option AV → Mem → Prop} {ρ : Mem}
theorem s_isIn {v a b : Int} (hv : R64 v) (ha : R64 a) (hb : R64 b) : P_X8_isIn sc d [aJ v, aJ a, aJ b] m (fun w z => z = m ∧ ((w = some (aI 1) ∧ a ≤ v ∧ v ≤ b) ∨ (w = some (aI 0) ∧ ¬ (a ≤ v ∧ v ≤ b)))) := by
  refine ep_X8_isIn (g_X8_isIn_0 ⟨hv, ha, fun _ => hb, rfl, ?_⟩)
  split
  · exact Or.inr ⟨rfl, by omega⟩
  · split
    · exact Or.inr ⟨rfl, by omega⟩
    · exact Or.inl ⟨rfl, by omega⟩
theorem s_lengthMany (h : MRm m ρ) : P_X8_lengthMany sc d [aR 62] m (PV (aI (ρ 0 0)) m) := ep_X8_lengthMany (g_X8_lengthMany_0 ⟨by rw [h.1.1], rfl⟩)
theorem s_seamMany (h : MRm m ρ) : P_X8_seamMany sc d [aR 62] m (PV (aI (ρ 0 1)) m) := ep_X8_seamMany (g_X8_seamMany_0 ⟨by rw [h.1.2.1], rfl⟩)
theorem s_ruleMany (h : MRm m ρ) : P_X8_ruleMany sc d [aR 62] m (PV (aI (ρ 0 2)) m) := ep_X8_ruleMany (g_X8_ruleMany_0 ⟨by rw [h.1.2.2.1], rfl⟩)
theorem s_settingOf {i : Nat} (h : MRm m ρ) (hi : i < 6) : P_X8_settingOf sc d [aR 62, aI i] m (PV (aI (ρ 7 i)) m) := ep_X8_settingOf (g_X8_settingOf_0 ⟨by omega, by omega, by rw [h.2.2.2 i hi], rfl⟩)
theorem s_takesOf {s : Nat} (h : MRm m ρ) (hb : RmB ρ) (hs : (s : Int) < ρ 0 1) : P_X8_takesOf sc d [aR 62, aI s] m (PV (aI (ρ 3 s)) m) := ep_X8_takesOf (g_X8_takesOf_0 ⟨by omega, by have := hb.1; omega, by rw [(h.2.2.1 s hs).1], rfl⟩)
theorem s_isShown {s : Nat} (h : MRm m ρ) (hb : RmB ρ) (hs : (s : Int) < ρ 0 1) : P_X8_isShown sc d [aR 62, aI s] m (PV (aI (ρ 4 s)) m) := by
  have e := (h.2.2.1 s hs).2.1
  have b := (hb.2.2.2.1 s hs).2.1
  refine ep_X8_isShown (g_X8_isShown_0 ⟨by omega, by have := hb.1; omega, by omega, ?_, rfl⟩)
  rw [e]
  rcases b with b | b <;> rw [b] <;> rfl
theorem s_placeMany {s : Nat} (h : MRm m ρ) (hb : RmB ρ) (hs : (s : Int) < ρ 0 1) : P_X8_placeMany sc d [aR 62, aI s] m (PV (aI (ρ 6 s)) m) := ep_X8_placeMany (g_X8_placeMany_0 ⟨by omega, by have := hb.1; omega, by rw [(h.2.2.1 s hs).2.2.1], rfl⟩)
theorem s_placeOf {s k : Nat} (h : MRm m ρ) (hb : RmB ρ) (hs : (s : Int) < ρ 0 1) (hk : (k : Int) < ρ 6 s) : P_X8_placeOf sc d [aR 62, aI s, aI k] m (PV (aI (ρ 5 (s * 4 + k))) m) := ep_X8_placeOf (g_X8_placeOf_0 ⟨by omega, by have := hb.1; have := (hb.2.2.2.1 s hs).2.2.1; omega, by rw [(h.2.2.1 s hs).2.2.2 k hk], rfl⟩)
/-- the yards of the seams from one on -/
def restF (ρ : Mem) (s : Nat) : Int := sumF (ρ 3) (ρ 0 1).toNat - sumF (ρ 3) s
theorem l_X8_restOf {s : Nat} (h : MRm m ρ) (hb : RmB ρ) (hd : 1 ≤ d) (k : Q (some (aI (restF ρ s))) m) : ∀ j i : Nat, (i : Int) + j = ρ 0 1 → S_X8_restOf sc d 4 [aR 62, aU, aI (sumF (ρ 3) i - sumF (ρ 3) s), aI i] [] m Q := by
  intro j
  have h0 := hb.1
  induction j with
  | zero =>
    intro i hi
    have e : i = (ρ 0 1).toNat := by omega
    subst e
    refine g_X8_restOf_4 ?_
    refine p_X8_restOf_6 (d2 := d - 1) (s_seamMany h) (by omega) ?_
    rintro _ _ ⟨e, rfl⟩; cases e
    exact g_X8_restOf_9 ⟨by omega, by omega, fun _ => k, fun c => absurd (by omega) c⟩
  | succ j ih =>
    intro i hi
    refine g_X8_restOf_4 ?_
    refine p_X8_restOf_6 (d2 := d - 1) (s_seamMany h) (by omega) ?_
    rintro _ _ ⟨e, rfl⟩; cases e
    refine g_X8_restOf_9 ⟨by omega, by omega, fun c => absurd c (by omega), fun _ => ?_⟩
    refine p_X8_restOf_15 (d2 := d - 1) (s_takesOf h hb (by omega)) (by omega) ?_
    rintro _ _ ⟨e, rfl⟩; cases e
    refine g_X8_restOf_18 ?_
    have := ih (i + 1) (by omega)
    rw [sumF, show sumF (ρ 3) i + ρ 3 i - sumF (ρ 3) s = sumF (ρ 3) i - sumF (ρ 3) s + ρ 3 i by omega] at this
    exact this
theorem s_restOf {s : Nat} (h : MRm m ρ) (hb : RmB ρ) (hd : 1 ≤ d) (hs : (s : Int) ≤ ρ 0 1) : P_X8_restOf sc d [aR 62, aI s] m (PV (aI (restF ρ s)) m) := by
  refine ep_X8_restOf (g_X8_restOf_0 ?_)
  have := l_X8_restOf (sc := sc) (Q := PV (aI (restF ρ s)) m) (s := s) h hb hd ⟨rfl, rfl⟩ ((ρ 0 1).toNat - s) s (by omega)
  rw [Int.sub_self] at this
  exact this
theorem l_X8_leastLength (h : MRm m ρ) (hb : RmB ρ) (hd : 1 ≤ d) (k : Q (some (aI (minF (ρ 1) (ρ 0 0).toNat))) m) : ∀ j i : Nat, (i : Int) + j = ρ 0 0 → S_X8_leastLength sc d 10 [aR 62, aI (minF (ρ 1) i), aI i] [] m Q := by
  intro j
  have h0 := hb.1
  induction j with
  | zero =>
    intro i hi
    have e : i = (ρ 0 0).toNat := by omega
    subst e
    refine g_X8_leastLength_10 ?_
    refine p_X8_leastLength_12 (d2 := d - 1) (s_lengthMany h) (by omega) ?_
    rintro _ _ ⟨e, rfl⟩; cases e
    exact g_X8_leastLength_15 ⟨by omega, by omega, fun _ => k, fun c => absurd (by omega) c⟩
  | succ j ih =>
    intro i hi
    have hi' : (i : Int) < ρ 0 0 := by omega
    have e1 := (h.2.1 i hi').1
    have t := (hb.2.2.1 i hi').1
    have z := minF_bd (f := ρ 1) (n := i) (fun q hq => (hb.2.2.1 q (by omega)).1.1)
    refine g_X8_leastLength_10 ?_
    refine p_X8_leastLength_12 (d2 := d - 1) (s_lengthMany h) (by omega) ?_
    rintro _ _ ⟨e, rfl⟩; cases e
    have := ih (i + 1) (by omega)
    rw [minF] at this
    refine g_X8_leastLength_15 ⟨by omega, by omega, fun c => absurd c (by omega), fun _ => ⟨by omega, by omega, by omega, by omega, fun c => ?_, fun c => ?_⟩⟩
    · rw [if_neg (by omega)] at this; exact this
    · rw [if_pos (by omega)] at this; rw [e1]; exact this
theorem s_leastLength (h : MRm m ρ) (hb : RmB ρ) (hd : 1 ≤ d) (hn : 1 ≤ ρ 0 0) : P_X8_leastLength sc d [aR 62] m (PV (aI (minF (ρ 1) (ρ 0 0).toNat)) m) := by
  refine ep_X8_leastLength (g_X8_leastLength_0 ?_)
  have := l_X8_leastLength (sc := sc) (Q := PV (aI (minF (ρ 1) (ρ 0 0).toNat)) m) h hb hd ⟨rfl, rfl⟩ ((ρ 0 0).toNat - 1) 1 (by omega)
  have e1 := (h.2.1 0 (by omega)).1
  have t := (hb.2.2.1 0 (by omega)).1
  have e2 : minF (ρ 1) 1 = ρ 1 0 := by
    show (if ρ 1 ((0 : Nat) : Int) < 99 then ρ 1 ((0 : Nat) : Int) else 99) = ρ 1 0
    have t : 1 ≤ ρ 1 0 ∧ ρ 1 0 ≤ 99 := t
    split
    · rfl
    · show 99 = ρ 1 0
      have q : ¬ (ρ 1 0 < 99) := by assumption
      omega
  rw [e2] at this
  have e1 : m 97 6 = ρ 1 0 := e1
  rw [e1]
  exact this
theorem l_X8_mostLength (h : MRm m ρ) (hb : RmB ρ) (hd : 1 ≤ d) (k : Q (some (aI (maxF (ρ 1) (ρ 0 0).toNat))) m) : ∀ j i : Nat, (i : Int) + j = ρ 0 0 → S_X8_mostLength sc d 4 [aR 62, aI (maxF (ρ 1) i), aI i] [] m Q := by
  intro j
  have h0 := hb.1
  induction j with
  | zero =>
    intro i hi
    have e : i = (ρ 0 0).toNat := by omega
    subst e
    refine g_X8_mostLength_4 ?_
    refine p_X8_mostLength_6 (d2 := d - 1) (s_lengthMany h) (by omega) ?_
    rintro _ _ ⟨e, rfl⟩; cases e
    exact g_X8_mostLength_9 ⟨by omega, by omega, fun _ => k, fun c => absurd (by omega) c⟩
  | succ j ih =>
    intro i hi
    have hi' : (i : Int) < ρ 0 0 := by omega
    have e1 := (h.2.1 i hi').1
    have t := (hb.2.2.1 i hi').1
    have z := maxF_bd (f := ρ 1) (b := 99) (n := i) (by decide) (fun q hq => (hb.2.2.1 q (by omega)).1.2)
    refine g_X8_mostLength_4 ?_
    refine p_X8_mostLength_6 (d2 := d - 1) (s_lengthMany h) (by omega) ?_
    rintro _ _ ⟨e, rfl⟩; cases e
    have := ih (i + 1) (by omega)
    rw [maxF] at this
    refine g_X8_mostLength_9 ⟨by omega, by omega, fun c => absurd c (by omega), fun _ => ⟨by omega, by omega, by omega, by omega, fun c => ?_, fun c => ?_⟩⟩
    · rw [if_neg (by omega)] at this; exact this
    · rw [if_pos (by omega)] at this; rw [e1]; exact this
theorem s_mostLength (h : MRm m ρ) (hb : RmB ρ) (hd : 1 ≤ d) : P_X8_mostLength sc d [aR 62] m (PV (aI (maxF (ρ 1) (ρ 0 0).toNat)) m) :=
  ep_X8_mostLength (g_X8_mostLength_0 (l_X8_mostLength h hb hd ⟨rfl, rfl⟩ (ρ 0 0).toNat 0 (by have := hb.1; omega)))
theorem l_X8_oddsFrom {y : Int} (h : MRm m ρ) (hb : RmB ρ) (hd : 1 ≤ d) (hy : R32 y) (k : Q (some (aI (oddsF ρ y (ρ 0 0).toNat))) m) : ∀ j i : Nat, (i : Int) + j = ρ 0 0 → S_X8_oddsFrom sc d 4 [aR 62, aI y, aI (oddsF ρ y i), aI i] [] m Q := by
  intro j
  have h0 := hb.1
  induction j with
  | zero =>
    intro i hi
    have e : i = (ρ 0 0).toNat := by omega
    subst e
    refine g_X8_oddsFrom_4 ?_
    refine p_X8_oddsFrom_6 (d2 := d - 1) (s_lengthMany h) (by omega) ?_
    rintro _ _ ⟨e, rfl⟩; cases e
    exact g_X8_oddsFrom_9 ⟨by omega, by omega, fun _ => k, fun c => absurd (by omega) c⟩
  | succ j ih =>
    intro i hi
    have hi' : (i : Int) < ρ 0 0 := by omega
    have e1 := (h.2.1 i hi').1
    have e2 := (h.2.1 i hi').2
    have t := (hb.2.2.1 i hi').1
    refine g_X8_oddsFrom_4 ?_
    refine p_X8_oddsFrom_6 (d2 := d - 1) (s_lengthMany h) (by omega) ?_
    rintro _ _ ⟨e, rfl⟩; cases e
    have := ih (i + 1) (by omega)
    have e3 : oddsF ρ y (i + 1) = oddsF ρ y i + (if ρ 1 i < y then 0 else ρ 2 i) := rfl
    rw [e3] at this
    refine g_X8_oddsFrom_9 ⟨by omega, by omega, fun c => absurd c (by omega), fun _ => ⟨by omega, by omega, by omega, hy, fun c => ?_, fun c => ?_⟩⟩
    · rw [if_pos (by omega), Int.add_zero] at this; exact this
    · rw [if_neg (by omega)] at this; rw [e2]; exact this
theorem s_oddsFrom {y : Int} (h : MRm m ρ) (hb : RmB ρ) (hd : 1 ≤ d) (hy : R32 y) : P_X8_oddsFrom sc d [aR 62, aI y] m (PV (aI (oddsF ρ y (ρ 0 0).toNat)) m) :=
  ep_X8_oddsFrom (g_X8_oddsFrom_0 (l_X8_oddsFrom h hb hd hy ⟨rfl, rfl⟩ (ρ 0 0).toNat 0 (by have := hb.1; omega)))
theorem l_X8_isLength {y : Int} (h : MRm m ρ) (hb : RmB ρ) (hd : 1 ≤ d) (hy : R32 y) (k1 : hasF ρ y (ρ 0 0).toNat → Q (some (aI 1)) m) (k0 : ¬ hasF ρ y (ρ 0 0).toNat → Q (some (aI 0)) m) : ∀ j i : Nat, (i : Int) + j = ρ 0 0 → ¬ hasF ρ y i → S_X8_isLength sc d 2 [aR 62, aI y, aI i] [] m Q := by
  intro j
  have h0 := hb.1
  induction j with
  | zero =>
    intro i hi hn
    have e : i = (ρ 0 0).toNat := by omega
    subst e
    refine g_X8_isLength_2 ?_
    refine p_X8_isLength_4 (d2 := d - 1) (s_lengthMany h) (by omega) ?_
    rintro _ _ ⟨e, rfl⟩; cases e
    exact g_X8_isLength_7 ⟨by omega, by omega, fun _ => k0 hn, fun c => absurd (by omega) c⟩
  | succ j ih =>
    intro i hi hn
    have hi' : (i : Int) < ρ 0 0 := by omega
    have e1 := (h.2.1 i hi').1
    have t := (hb.2.2.1 i hi').1
    refine g_X8_isLength_2 ?_
    refine p_X8_isLength_4 (d2 := d - 1) (s_lengthMany h) (by omega) ?_
    rintro _ _ ⟨e, rfl⟩; cases e
    refine g_X8_isLength_7 ⟨by omega, by omega, fun c => absurd c (by omega), fun _ => ⟨by omega, by omega, by omega, hy, fun c => ih (i + 1) (by omega) ?_, fun c => k1 ⟨i, by omega, by omega⟩⟩⟩
    rintro ⟨q, hq, hq2⟩
    by_cases e : q = i
    · subst e
      omega
    · exact hn ⟨q, by omega, hq2⟩
theorem s_X8_isLength {y : Int} (h : MRm m ρ) (hb : RmB ρ) (hd : 1 ≤ d) (hy : R32 y) : P_X8_isLength sc d [aR 62, aI y] m (fun v z => z = m ∧ ((v = some (aI 1) ∧ hasF ρ y (ρ 0 0).toNat) ∨ (v = some (aI 0) ∧ ¬ hasF ρ y (ρ 0 0).toNat))) :=
  ep_X8_isLength (g_X8_isLength_0 (l_X8_isLength h hb hd hy (fun c => ⟨rfl, Or.inl ⟨rfl, c⟩⟩) (fun c => ⟨rfl, Or.inr ⟨rfl, c⟩⟩) (ρ 0 0).toNat 0 (by have := hb.1; omega) (by rintro ⟨q, hq, -⟩; omega)))
theorem s_areFew (h : MRm m ρ) (hb : RmB ρ) (hd : 1 ≤ d) : P_X8_areFew sc d [aR 62] m (fun v z => z = m ∧ ((v = some (aI 1) ∧ 0 < ρ 0 3 ∧ ρ 0 1 ≤ 6) ∨ (v = some (aI 0) ∧ ¬ (0 < ρ 0 3 ∧ ρ 0 1 ≤ 6)))) := by
  have h0 := hb.1
  have eR := h.1.2.2.2
  by_cases c : ρ 0 3 = 0
  · rw [if_pos c] at eR
    exact ep_X8_areFew (g_X8_areFew_0 ⟨by omega, fun _ => ⟨rfl, Or.inr ⟨rfl, by omega⟩⟩, fun q => absurd eR q⟩)
  · rw [if_neg c] at eR
    refine ep_X8_areFew (g_X8_areFew_0 ⟨by omega, fun q => by omega, fun _ => ?_⟩)
    refine p_X8_areFew_8 (d2 := d - 1) (s_seamMany h) (by omega) ?_
    rintro _ _ ⟨e, rfl⟩; cases e
    refine g_X8_areFew_11 ⟨by omega, rfl, ?_⟩
    split
    · exact Or.inr ⟨rfl, by omega⟩
    · exact Or.inl ⟨rfl, by omega⟩
theorem s_isSewer {w : Int} (h : MRm m ρ) (hb : RmB ρ) (hd : 2 ≤ d) (hw : R32 w) : P_X8_isSewer sc d [aR 62, aI w] m (fun v z => z = m ∧ ((v = some (aI 1) ∧ knF ρ w) ∨ (v = some (aI 0) ∧ ¬ knF ρ w))) := by
  have h0 := hb.1
  have eR := h.1.2.2.2
  by_cases c : ρ 0 3 = 0
  · rw [if_pos c] at eR
    exact ep_X8_isSewer (g_X8_isSewer_0 ⟨by omega, fun _ => ⟨rfl, Or.inr ⟨rfl, by unfold knF; omega⟩⟩, fun q => absurd eR q⟩)
  · rw [if_neg c] at eR
    refine ep_X8_isSewer (g_X8_isSewer_0 ⟨by omega, fun q => by omega, fun _ => ⟨hw, ?_⟩⟩)
    refine p_X8_isSewer_12 (d2 := d - 1) (s_ruleMany h) (by omega) ?_
    rintro _ _ ⟨e, rfl⟩; cases e
    refine g_X8_isSewer_15 ⟨by omega, ?_⟩
    refine p_X8_isSewer_19 (d2 := d - 1) (s_isIn ⟨by omega, by omega⟩ ⟨by omega, by omega⟩ ⟨by omega, by omega⟩) (by omega) ?_
    rintro _ _ ⟨rfl, ⟨e, q⟩ | ⟨e, q⟩⟩ <;> cases e
    · refine g_X8_isSewer_22 ⟨by omega, fun q => absurd q (by decide), fun _ => ⟨hw, fun c3 => ⟨rfl, Or.inl ⟨rfl, by unfold knF; omega⟩⟩, fun c3 => ?_⟩⟩
      refine p_X8_isSewer_31 (d2 := d - 1) (s_areFew h hb (by omega)) (by omega) ?_
      rintro _ _ ⟨rfl, ⟨e, q⟩ | ⟨e, q⟩⟩ <;> cases e
      · exact g_X8_isSewer_34 ⟨by omega, rfl, Or.inl ⟨rfl, by unfold knF; omega⟩⟩
      · exact g_X8_isSewer_34 ⟨by omega, rfl, Or.inr ⟨rfl, by unfold knF; omega⟩⟩
    · exact g_X8_isSewer_22 ⟨by omega, fun _ => ⟨rfl, Or.inr ⟨rfl, by unfold knF; omega⟩⟩, fun q => absurd rfl q⟩
end SR
