/-! fewest on both sides -/
def C_pk (a j : Int) : Prop := a = 110 ∨ (a = 62 ∧ j = 66)
def fitsAll (ρ : Mem) (L : Int) : Prop := ∀ s : Nat, (s : Int) < ρ 0 1 → ρ 3 s ≤ L
/-- told: the room told stands at (0, 2) -/
def Xt (m : Mem) (ρ : Mem) : Prop := RoomAt (m 0 2) ∧ XRm m (m 0 2) ρ ∧ RmB ρ
section FW
variable {sc : List Int} {d : Nat} {m : Mem} {Q : Option AV → Mem → Prop} {r : Int} {ρ : Mem} {L : Int}
theorem l_packs (h : MRm m ρ) (hb : RmB ρ) (hd : 1 ≤ d) (hL : 0 ≤ L ∧ L ≤ 99) (k1 : fitsAll ρ L → ∀ z, Ex C_pk m z → (∀ s : Nat, (s : Int) < ρ 0 1 → z 110 s = begF ρ L s) → z 62 66 = sumF (begF ρ L) (ρ 0 1).toNat → Q (some (aI 1)) z) (k0 : ¬ fitsAll ρ L → ∀ z, Ex C_pk m z → Q (some (aI 0)) z) :
    ∀ (j i : Nat) (z : Mem), (i : Int) + j = ρ 0 1 → (∀ s : Nat, s < i → ρ 3 s ≤ L) → Ex C_pk m z → (∀ s : Nat, s < i → z 110 s = begF ρ L s) → z 62 66 = sumF (begF ρ L) i → S_X8_packs sc d 9 [aR 62, aI L, aI (L - leftF ρ L i), aI i, aU] [] z Q := by
  have b0 := hb.1
  intro j
  induction j with
  | zero =>
    intro i z hi hf he h1 h2
    have h' := h.ex he (fun a j q => by unfold C_pk; omega)
    have ei : i = (ρ 0 1).toNat := by omega
    refine g_X8_packs_9 ?_
    refine p_X8_packs_11 (d2 := d - 1) (s_seamMany h') (by omega) ?_
    rintro _ _ ⟨e, rfl⟩; cases e
    exact g_X8_packs_14 ⟨by omega, by omega, fun _ => k1 (fun s hs => hf s (by omega)) _ he (fun s hs => h1 s (by omega)) (by rw [← ei]; exact h2), fun c => absurd (by omega) c⟩
  | succ j ih =>
    intro i z hi hf he h1 h2
    have h' := h.ex he (fun a j q => by unfold C_pk; omega)
    have hi' : (i : Int) < ρ 0 1 := by omega
    have t := (hb.2.2.2.1 i hi').1
    refine g_X8_packs_9 ?_
    refine p_X8_packs_11 (d2 := d - 1) (s_seamMany h') (by omega) ?_
    rintro _ _ ⟨e, rfl⟩; cases e
    refine g_X8_packs_14 ⟨by omega, by omega, fun c => absurd c (by omega), fun _ => ?_⟩
    refine p_X8_packs_19 (d2 := d - 1) (s_takesOf h' hb hi') (by omega) ?_
    rintro _ _ ⟨e, rfl⟩; cases e
    refine g_X8_packs_22 ⟨by omega, by omega, fun c => ?_, fun c => k0 (fun q => c (q i hi')) _ he⟩
    refine p_X8_packs_31 (d2 := d - 1) (s_takesOf h' hb hi') (by omega) ?_
    rintro _ z ⟨e, rfl⟩; cases e
    have hf' : ∀ s : Nat, s < i + 1 → ρ 3 s ≤ L := fun s hs => by
      by_cases e : s = i
      · subst e; exact c
      · exact hf s (by omega)
    have lb := leftF_bd (ρ := ρ) (L := L) (n := i) (fun q hq => ⟨(hb.2.2.2.1 q (by omega)).1.1, hf q hq⟩) (by omega) i (by omega)
    have eb : begF ρ L i = if ρ 3 i ≤ leftF ρ L i then 0 else 1 := by unfold begF; rw [Int.toNat_natCast]
    by_cases hc : L - leftF ρ L i + ρ 3 i ≤ L
    · refine g_X8_packs_34 ⟨by omega, by omega, by split <;> omega, by omega, by omega, by split <;> omega, fun _ => ?_, fun q => absurd (if_pos hc) q⟩
      rw [if_pos hc, if_pos rfl, if_pos rfl]
      rw [if_pos (by omega)] at eb
      have he2 : Ex C_pk m (wr z 110 i 0) := he.put (Or.inl rfl)
      refine p_X8_packs_89 (d2 := d - 1) (s_takesOf (h.ex he2 (fun a j q => by unfold C_pk; omega)) hb hi') (by omega) ?_
      rintro _ _ ⟨e, rfl⟩; cases e
      refine g_X8_packs_92 ?_
      have w := ih (i + 1) (wr z 110 i 0) (by omega) hf' he2 (fun s hs => by
        by_cases e : s = i
        · subst e; rw [wr_eq]; exact eb.symm
        · rw [wr_ne _ _ _ _ _ _ (by omega)]; exact h1 s (by omega)) (by
        rw [wr_na _ _ _ _ _ _ (by decide), h2, sumF, eb, Int.add_zero])
      rw [leftF, if_pos (by omega), show L - (leftF ρ L i - ρ 3 i) = L - leftF ρ L i + ρ 3 i by omega] at w
      exact w
    · refine g_X8_packs_34 ⟨by omega, by omega, by split <;> omega, by omega, by omega, by split <;> omega, fun q => absurd q (by rw [if_neg hc]; decide), fun _ => ?_⟩
      rw [if_neg hc, if_neg (by decide), if_neg (by decide), wr_na _ _ _ _ _ _ (by decide)]
      rw [if_neg (by omega)] at eb
      have he2 : Ex C_pk m (wr (wr z 110 i 1) 62 66 (z 62 66 + 1)) := (he.put (Or.inl rfl)).put (Or.inr ⟨rfl, rfl⟩)
      refine p_X8_packs_89 (d2 := d - 1) (s_takesOf (h.ex he2 (fun a j q => by unfold C_pk; omega)) hb hi') (by omega) ?_
      rintro _ _ ⟨e, rfl⟩; cases e
      refine g_X8_packs_92 ?_
      have w := ih (i + 1) _ (by omega) hf' he2 (fun s hs => by
        rw [wr_na _ _ _ _ _ _ (by decide)]
        by_cases e : s = i
        · subst e; rw [wr_eq]; exact eb.symm
        · rw [wr_ne _ _ _ _ _ _ (by omega)]; exact h1 s (by omega)) (by
        rw [wr_eq, h2, sumF, eb])
      rw [leftF, if_neg (by omega), show L - (L - ρ 3 i) = 0 + ρ 3 i by omega] at w
      exact w
theorem s_packs (h : MRm m ρ) (hb : RmB ρ) (hd : 1 ≤ d) (hL : 0 ≤ L ∧ L ≤ 99) : P_X8_packs sc d [aR 62, aI L] m (fun v z => Ex C_pk m z ∧ ((v = some (aI 1) ∧ fitsAll ρ L ∧ (∀ s : Nat, (s : Int) < ρ 0 1 → z 110 s = begF ρ L s) ∧ z 62 66 = sumF (begF ρ L) (ρ 0 1).toNat) ∨ (v = some (aI 0) ∧ ¬ fitsAll ρ L))) := by
  refine ep_X8_packs (g_X8_packs_0 ?_)
  have w := l_packs (sc := sc) (d := d) (Q := fun v z => Ex C_pk m z ∧ ((v = some (aI 1) ∧ fitsAll ρ L ∧ (∀ s : Nat, (s : Int) < ρ 0 1 → z 110 s = begF ρ L s) ∧ z 62 66 = sumF (begF ρ L) (ρ 0 1).toNat) ∨ (v = some (aI 0) ∧ ¬ fitsAll ρ L))) h hb hd hL (fun q z h1 h2 h3 => ⟨h1, Or.inl ⟨rfl, q, h2, h3⟩⟩) (fun q z h1 => ⟨h1, Or.inr ⟨rfl, q⟩⟩) (ρ 0 1).toNat 0 (wr m 62 66 0) (by have := hb.1; omega) (fun s hs => by omega) ((Ex.refl _ _).put (Or.inr ⟨rfl, rfl⟩)) (fun s hs => by omega) (wr_eq _ _ _ _)
  rw [leftF, Int.sub_zero] at w
  exact w
/-- whether fewest, free, several have an answer -/
def plF (ρ : Mem) (L k : Int) : Prop := 0 < ρ 0 3 ∧ (1 ≤ L ∧ L ≤ 99) ∧ fitsAll ρ L ∧ -1 ≤ k ∧ k < ρ 0 1
theorem s_X7_isLength {L : Int} (hL : R32 L) : P_X7_isLength sc d [aI L] m (fun v z => z = m ∧ ((v = some (aI 1) ∧ 1 ≤ L ∧ L ≤ 99) ∨ (v = some (aI 0) ∧ ¬ (1 ≤ L ∧ L ≤ 99)))) := by
  refine ep_X7_isLength (g_X7_isLength_0 ⟨hL, rfl, ?_⟩)
  split
  · exact Or.inr ⟨rfl, by omega⟩
  · split
    · exact Or.inr ⟨rfl, by omega⟩
    · exact Or.inl ⟨rfl, by omega⟩
theorem fits_max (hb : RmB ρ) (hL : 0 ≤ L) : maxF (ρ 3) (ρ 0 1).toNat ≤ L ↔ fitsAll ρ L := by
  rw [maxF_le hL]
  exact ⟨fun h s hs => h s (by omega), fun h i hi => h i (by omega)⟩
theorem s_X7_canPlan {k : Int} (h : Xt m ρ) (hd : 2 ≤ d) (hL : R32 L) (hk : R32 k) : P_X7_canPlan sc d [aR 0, aI L, aI k] m (fun v z => z = m ∧ ((v = some (aI 1) ∧ plF ρ L k) ∨ (v = some (aI 0) ∧ ¬ plF ρ L k))) := by
  obtain ⟨H, hx, hb⟩ := h
  have b0 := hb.1
  have e15 := hx.1.2.2.2
  have e8 := hx.1.2.1
  refine ep_X7_canPlan (g_X7_canPlan_0 ⟨H, by omega, fun c => ⟨rfl, Or.inr ⟨rfl, by unfold plF; omega⟩⟩, fun c => ?_⟩)
  refine p_X7_canPlan_11 (d2 := d - 1) (s_X7_isLength hL) (by omega) ?_
  rintro _ _ ⟨rfl, ⟨e, q⟩ | ⟨e, q⟩⟩ <;> cases e
  · refine g_X7_canPlan_14 ⟨by omega, fun q => absurd q (by decide), fun _ => ?_⟩
    refine p_X7_canPlan_21 (d2 := d - 1) H (s_X6_longest H hx hb (by omega)) (by omega) ?_
    rintro _ _ ⟨e, rfl⟩; cases e
    have z := maxF_bd (f := ρ 3) (b := 99) (n := (ρ 0 1).toNat) (by decide) (fun q hq => (hb.2.2.2.1 q (by omega)).1.2)
    have fm := fits_max hb (L := L) (by omega)
    refine g_X7_canPlan_24 ⟨by omega, by omega, fun _ => hk, fun _ _ => H, fun _ _ => by omega, rfl, ?_⟩
    rw [e8]
    split
    · exact Or.inr ⟨rfl, fun p => by have := fm.mpr p.2.2.1; omega⟩
    · split
      · exact Or.inr ⟨rfl, fun p => by have := p.2.2.2; omega⟩
      · split
        · exact Or.inr ⟨rfl, fun p => by have := p.2.2.2; omega⟩
        · exact Or.inl ⟨rfl, by omega, q, fm.mp (by omega), by omega, by omega⟩
  · exact g_X7_canPlan_14 ⟨by omega, fun _ => ⟨rfl, Or.inr ⟨rfl, fun p => q p.2.1⟩⟩, fun c => absurd rfl c⟩
theorem s_isAsked {k : Int} (h : MRm m ρ) (hb : RmB ρ) (hd : 1 ≤ d) (hL : R32 L) (hk : R32 k) : P_X8_isAsked sc d [aR 62, aI L, aI k] m (fun v z => z = m ∧ ((v = some (aI 1) ∧ 0 < ρ 0 3 ∧ (1 ≤ L ∧ L ≤ 99) ∧ -1 ≤ k ∧ k < ρ 0 1) ∨ (v = some (aI 0) ∧ ¬ (0 < ρ 0 3 ∧ (1 ≤ L ∧ L ≤ 99) ∧ -1 ≤ k ∧ k < ρ 0 1)))) := by
  have b0 := hb.1
  have eR := h.1.2.2.2
  by_cases c : ρ 0 3 = 0
  · rw [if_pos c] at eR
    exact ep_X8_isAsked (g_X8_isAsked_0 ⟨by omega, fun _ => ⟨rfl, Or.inr ⟨rfl, by omega⟩⟩, fun q => absurd eR q⟩)
  · rw [if_neg c] at eR
    refine ep_X8_isAsked (g_X8_isAsked_0 ⟨by omega, fun q => by omega, fun _ => ⟨hL, ?_⟩⟩)
    refine p_X8_isAsked_13 (d2 := d - 1) (s_isIn ⟨by omega, by omega⟩ ⟨by omega, by omega⟩ ⟨by omega, by omega⟩) (by omega) ?_
    rintro _ _ ⟨rfl, ⟨e, q⟩ | ⟨e, q⟩⟩ <;> cases e
    · refine g_X8_isAsked_16 ⟨by omega, fun q => absurd q (by decide), fun _ => ⟨hk, fun c => ⟨rfl, Or.inl ⟨rfl, by omega, q, by omega, by omega⟩⟩, fun c => ?_⟩⟩
      refine p_X8_isAsked_28 (d2 := d - 1) (s_seamMany h) (by omega) ?_
      rintro _ _ ⟨e, rfl⟩; cases e
      refine g_X8_isAsked_31 ⟨by omega, ?_⟩
      refine p_X8_isAsked_34 (d2 := d - 1) (s_isIn ⟨by omega, by omega⟩ ⟨by omega, by omega⟩ ⟨by omega, by omega⟩) (by omega) ?_
      rintro _ _ ⟨rfl, ⟨e, q2⟩ | ⟨e, q2⟩⟩ <;> cases e
      · exact g_X8_isAsked_37 ⟨by omega, rfl, Or.inl ⟨rfl, by omega, q, by omega, by omega⟩⟩
      · exact g_X8_isAsked_37 ⟨by omega, rfl, Or.inr ⟨rfl, by omega⟩⟩
    · exact g_X8_isAsked_16 ⟨by omega, fun _ => ⟨rfl, Or.inr ⟨rfl, by omega⟩⟩, fun c => absurd rfl c⟩
/-- what fewest answers -/
def IsFew (ρ : Mem) (L k v : Int) : Prop := (plF ρ L k ∧ v = if k = -1 then sumF (begF ρ L) (ρ 0 1).toNat else begF ρ L k) ∨ (¬ plF ρ L k ∧ v = -1)
theorem s_X7_fewest {k : Int} (h : Xt m ρ) (hd : 3 ≤ d) (hL : R32 L) (hk : R32 k) : P_X7_fewest sc d [aR 0, aI L, aI k] m (fun v z => Ex C_io m z ∧ ∃ x, v = some (aI x) ∧ IsFew ρ L k x) := by
  have b0 := h.2.2.1
  refine ep_X7_fewest (g_X7_fewest_0 ?_)
  refine p_X7_fewest_3 (d2 := d - 1) (s_X7_canPlan h (by omega) hL hk) (by omega) ?_
  rintro _ _ ⟨rfl, ⟨e, q⟩ | ⟨e, q⟩⟩ <;> cases e
  · refine g_X7_fewest_6 ⟨by omega, fun _ => ?_, fun c => absurd (by decide) c⟩
    refine p_X7_fewest_20 (d2 := d - 1) h.1 (s_X4_inOrder h.1 h.2.1 h.2.2 q.2.1.2 q.2.2.1) (by omega) ?_
    rintro z ⟨-, h1, h2, h3⟩
    refine g_X7_fewest_23 ⟨hk, fun c => by have := q.2.2.2; omega, fun c => by have := q.2.2.2; omega, h1, _, rfl, Or.inl ⟨q, ?_⟩⟩
    by_cases c : k = -1
    · rw [if_neg (fun z => z c), if_pos c]; exact h3
    · rw [if_pos c, if_neg c]
      have := h2 k.toNat (by have := q.2.2.2; omega)
      rw [show ((k.toNat : Nat) : Int) = k by have := q.2.2.2; omega] at this
      exact this
  · exact g_X7_fewest_6 ⟨by omega, fun c => absurd rfl c, fun _ => ⟨Ex.refl _ _, _, rfl, Or.inr ⟨q, rfl⟩⟩⟩
theorem s_X8_fewest {k : Int} (h : MRm m ρ) (hb : RmB ρ) (hd : 2 ≤ d) (hL : R32 L) (hk : R32 k) : P_X8_fewest sc d [aR 62, aI L, aI k] m (fun v z => Ex C_pk m z ∧ ∃ x, v = some (aI x) ∧ IsFew ρ L k x) := by
  have b0 := hb.1
  refine ep_X8_fewest (g_X8_fewest_0 ?_)
  refine p_X8_fewest_3 (d2 := d - 1) (s_isAsked h hb (by omega) hL hk) (by omega) ?_
  rintro _ _ ⟨rfl, ⟨e, q⟩ | ⟨e, q⟩⟩ <;> cases e
  · refine g_X8_fewest_6 ⟨by omega, fun c => absurd c (by decide), fun _ => ?_⟩
    refine p_X8_fewest_11 (d2 := d - 1) (s_packs h hb (by omega) ⟨by omega, by omega⟩) (by omega) ?_
    rintro _ z ⟨h1, ⟨e, h2, h3, h4⟩ | ⟨e, h2⟩⟩ <;> cases e
    · refine g_X8_fewest_14 ⟨by omega, fun _ => ⟨hk, fun c => by omega, fun c => by omega, h1, _, rfl, Or.inl ⟨⟨q.1, q.2.1, h2, q.2.2⟩, ?_⟩⟩, fun c => absurd (by decide) c⟩
      by_cases c : k = -1
      · rw [if_neg (fun z => z c), if_pos c]; exact h4
      · rw [if_pos c, if_neg c]
        have := h3 k.toNat (by omega)
        rw [show ((k.toNat : Nat) : Int) = k by omega] at this
        exact this
    · exact g_X8_fewest_14 ⟨by omega, fun c => absurd rfl c, fun _ => ⟨h1, _, rfl, Or.inr ⟨fun p => h2 p.2.2.1, rfl⟩⟩⟩
  · exact g_X8_fewest_6 ⟨by omega, fun _ => ⟨Ex.refl _ _, _, rfl, Or.inr ⟨fun p => q ⟨p.1, p.2.1, p.2.2.2⟩, rfl⟩⟩, fun c => absurd rfl c⟩
theorem IsFew.eq {L k x y : Int} (h1 : IsFew ρ L k x) (h2 : IsFew ρ L k y) : x = y := by
  rcases h1 with ⟨p, rfl⟩ | ⟨p, rfl⟩ <;> rcases h2 with ⟨q, rfl⟩ | ⟨q, rfl⟩
  · rfl
  · exact absurd p q
  · exact absurd q p
  · rfl
end FW
