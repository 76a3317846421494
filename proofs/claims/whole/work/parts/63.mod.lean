/-! what holds between calls, part by part -/
theorem TapeL.ex {C : Int → Int → Prop} {m z : Mem} (h : TapeL m) (he : Ex C m z) (hc : ∀ a j, C a j → ¬ ((a = 0 ∧ j = 1) ∨ (a = 62 ∧ j = 1) ∨ a = 1 ∨ a = 63)) : TapeL z := by
  have e : ∀ a j, ((a = 0 ∧ j = 1) ∨ (a = 62 ∧ j = 1) ∨ a = 1 ∨ a = 63) → z a j = m a j := fun a j q => he a j (fun c => hc a j c q)
  unfold TapeL
  rw [e 0 1 (by omega), e 62 1 (by omega)]
  exact ⟨h.1, h.2.1, fun i hi => by rw [e 63 _ (by omega), e 1 _ (by omega)]; exact h.2.2 i hi⟩
theorem RefL.ex {C : Int → Int → Prop} {n : Nat} {m z : Mem} (h : RefL n m) (he : Ex C m z) (hc : ∀ a j, C a j → ¬ (a = 61 ∨ a = 64)) : RefL n z :=
  fun k hk => by rw [he 64 _ (fun c => hc _ _ c (by omega)), he 61 _ (fun c => hc _ _ c (by omega))]; exact h k hk
theorem FltL.ex {C : Int → Int → Prop} {m z : Mem} (h : FltL m) (he : Ex C m z) (hc : ∀ a j, C a j → ¬ ((a = 32 ∨ a = 62) ∧ (j = 7 ∨ j = 8))) : FltL z := by
  unfold FltL
  rw [he 62 7 (fun c => hc _ _ c (by omega)), he 62 8 (fun c => hc _ _ c (by omega)), he 32 7 (fun c => hc _ _ c (by omega)), he 32 8 (fun c => hc _ _ c (by omega))]
  exact h
theorem DayB.congr {ρ : Mem} {f g : Int → Int} (h : DayB ρ f) (e : ∀ k : Nat, k < 6 → g k = f k) : DayB ρ g := by
  have e0 : g 0 = f 0 := e 0 (by omega)
  have e1 : g 1 = f 1 := e 1 (by omega)
  have e2 : g 2 = f 2 := e 2 (by omega)
  have e3 : g 3 = f 3 := e 3 (by omega)
  have e4 : g 4 = f 4 := e 4 (by omega)
  have e5 : g 5 = f 5 := e 5 (by omega)
  unfold DayB
  rw [e0, e1, e2, e3, e4, e5]
  exact h
theorem DayL.ex {C : Int → Int → Prop} {m z ρ : Mem} (h : DayL m ρ) (he : Ex C m z) (hc : ∀ a j, C a j → ¬ ((a = 57 ∧ 0 ≤ j ∧ j ≤ 5) ∨ a = 124)) : DayL z ρ := by
  have e : ∀ k : Nat, k < 6 → z 57 k = m 57 k := fun k hk => he 57 _ (fun c => hc _ _ c (by omega))
  exact ⟨fun k hk => by rw [he 124 _ (fun c => hc _ _ c (by omega)), e k hk]; exact h.1 k hk, h.2.congr e⟩
theorem PastL.ex {C : Int → Int → Prop} {m z ρ : Mem} (h : PastL m ρ) (he : Ex C m z) (hc : ∀ a j, C a j → ¬ ((a = 57 ∧ j = 8) ∨ (a = 62 ∧ (j = 83 ∨ j = 84)) ∨ a = 58 ∨ a = 125)) : PastL z ρ := by
  have e : ∀ a j, ((a = 57 ∧ j = 8) ∨ (a = 62 ∧ (j = 83 ∨ j = 84)) ∨ a = 58 ∨ a = 125) → z a j = m a j := fun a j q => he a j (fun c => hc a j c q)
  unfold PastL
  rw [e 57 8 (by omega), e 62 83 (by omega), e 62 84 (by omega), show z 58 = m 58 from funext fun j => e 58 j (by omega), show z 125 = m 125 from funext fun j => e 125 j (by omega)]
  exact h
theorem SeedL.ex {C : Int → Int → Prop} {m z : Mem} (h : SeedL m) (he : Ex C m z) (hc : ∀ a j, C a j → ¬ ((a = 57 ∧ j = 6) ∨ (a = 62 ∧ j = 85))) : SeedL z := by
  unfold SeedL
  rw [he 57 6 (fun c => hc _ _ c (by omega)), he 62 85 (fun c => hc _ _ c (by omega))]
  exact h
theorem PicL.ex {C : Int → Int → Prop} {m z : Mem} (h : PicL m) (he : Ex C m z) (hc : ∀ a j, C a j → ¬ ((a = 0 ∧ j = 12) ∨ (a = 62 ∧ j = 122) ∨ a = 60 ∨ a = 151)) : PicL z := by
  have e : ∀ a j, ((a = 0 ∧ j = 12) ∨ (a = 62 ∧ j = 122) ∨ a = 60 ∨ a = 151) → z a j = m a j := fun a j q => he a j (fun c => hc a j c q)
  unfold PicL
  rw [e 62 122 (by omega), e 0 12 (by omega)]
  exact ⟨h.1, h.2.1, fun k hk => by rw [e 151 _ (by omega), e 60 _ (by omega)]; exact h.2.2 k hk⟩
/-- the rooms and the written words -/
def RelR (a j : Int) : Prop := (a = 0 ∧ (j = 2 ∨ j = 3)) ∨ (2 ≤ a ∧ a ≤ 31) ∨ (a = 62 ∧ j = 53) ∨ (65 ≤ a ∧ a ≤ 103) ∨ (127 ≤ a ∧ a ≤ 147)
theorem InvB.mod {C : Int → Int → Prop} {n n' : Nat} {m z ρ : Mem} {nr nr' : Int} {w w' : Int → Int} (h : InvB n m ρ nr w) (he : Ex C m z) (hc : ∀ a j, C a j → ¬ RelR a j)
    (hT : TapeL z) (hR : RefL n' z) (hF : FltL z) (hD : DayL z ρ) (hP : PastL z ρ) (hS : SeedL z) (hI : PicL z) (hw : Xrw z nr' w' ∧ Mrw z nr' w' ∧ RwB ρ nr' w') : InvB n' z ρ nr' w' := by
  have e : ∀ a j, RelR a j → z a j = m a j := fun a j q => he a j (fun c => hc a j c q)
  obtain ⟨⟨t1, t2, t3⟩, hB, hX, hM, ⟨hl, hxl, hml, hn⟩, -, -, -, -, -, -, -, ⟨hW, hs⟩, -⟩ := h
  have e2 : z 0 2 = m 0 2 := e 0 2 (Or.inl ⟨rfl, Or.inl rfl⟩)
  have e3 : z 0 3 = m 0 3 := e 0 3 (Or.inl ⟨rfl, Or.inr rfl⟩)
  have hr := room_bd t1
  have er : ∀ a j, m 0 2 ≤ a → a ≤ m 0 2 + 13 → z a j = m a j := fun a j q1 q2 => e a j (Or.inr (Or.inl ⟨by omega, by omega⟩))
  have em : ∀ a j, 65 ≤ a → a ≤ 103 → z a j = m a j := fun a j q1 q2 => e a j (Or.inr (Or.inr (Or.inr (Or.inl ⟨q1, q2⟩))))
  unfold InvB
  rw [e2, e3]
  refine ⟨⟨t1, t2, t3⟩, hB, hX.ex2 (fun a j q1 q2 _ => er a j q1 q2), ?_, ⟨hl, ?_, ?_, ?_⟩, hT, hR, hF, hD, hP, hS, hI, ?_, hw⟩
  · refine hM.ex (C := fun a j => ¬ RelR a j) (fun a j q => e a j (Classical.not_not.mp q)) (fun a j q c => c ?_)
    rcases q with ⟨rfl, q⟩ | ⟨rfl, rfl⟩ | ⟨rfl, q⟩ | ⟨rfl, q⟩ | ⟨rfl, q⟩ | ⟨rfl, q⟩
    · exact Or.inr (Or.inr (Or.inr (Or.inl ⟨by omega, by omega⟩)))
    · exact Or.inr (Or.inr (Or.inl ⟨rfl, rfl⟩))
    · exact Or.inr (Or.inr (Or.inr (Or.inl ⟨by omega, by omega⟩)))
    · exact Or.inr (Or.inr (Or.inr (Or.inl ⟨by omega, by omega⟩)))
    · exact Or.inr (Or.inr (Or.inr (Or.inl ⟨by omega, by omega⟩)))
    · exact Or.inr (Or.inr (Or.inr (Or.inl ⟨by omega, by omega⟩)))
  · exact ⟨fun k hk => by rw [er _ _ (by omega) (by omega)]; exact hxl.1 k hk, fun j hj => by rw [er _ _ (by omega) (by omega)]; exact hxl.2 j hj⟩
  · exact ⟨fun k hk => by rw [em _ _ (by omega) (by omega), em _ _ (by omega) (by omega)]; exact hml.1 k hk, fun j hj => by rw [em _ _ (by omega) (by omega)]; exact hml.2 j hj⟩
  · refine ⟨fun s hs => ?_, fun k hk => ?_⟩
    · have q := hn.1 s hs
      rw [em 96 _ (by omega) (by omega), show (fun j => z (m 0 2 + 12) (s * 6 + j)) = fun j => m (m 0 2 + 12) (s * 6 + j) from funext fun j => er _ _ (by omega) (by omega)]
      exact q
    · have q := hn.2 k hk
      rw [em 96 _ (by omega) (by omega), show (fun j => z (m 0 2 + 12) ((10 + k) * 6 + j)) = fun j => m (m 0 2 + 12) ((10 + k) * 6 + j) from funext fun j => er _ _ (by omega) (by omega)]
      exact q
  · refine ⟨fun a j q => ?_, ?_⟩
    · rw [e a j (q.elim (fun q => Or.inr (Or.inr (Or.inr (Or.inl ⟨by omega, by omega⟩)))) (fun q => Or.inr (Or.inr (Or.inr (Or.inr q)))))]
      exact hW a j q
    · unfold SpL
      rw [e 9 0 (Or.inr (Or.inl ⟨by omega, by omega⟩)), e 24 0 (Or.inr (Or.inl ⟨by omega, by omega⟩)), e 13 0 (Or.inr (Or.inl ⟨by omega, by omega⟩)), e 28 0 (Or.inr (Or.inl ⟨by omega, by omega⟩))]
      exact hs
theorem InvB.tape {n : Nat} {m ρ : Mem} {nr : Int} {w : Int → Int} (h : InvB n m ρ nr w) : TapeL m := h.2.2.2.2.2.1
theorem InvB.refs {n : Nat} {m ρ : Mem} {nr : Int} {w : Int → Int} (h : InvB n m ρ nr w) : RefL n m := h.2.2.2.2.2.2.1
theorem InvB.flt {n : Nat} {m ρ : Mem} {nr : Int} {w : Int → Int} (h : InvB n m ρ nr w) : FltL m := h.2.2.2.2.2.2.2.1
theorem InvB.dayl {n : Nat} {m ρ : Mem} {nr : Int} {w : Int → Int} (h : InvB n m ρ nr w) : DayL m ρ := h.2.2.2.2.2.2.2.2.1
theorem InvB.past {n : Nat} {m ρ : Mem} {nr : Int} {w : Int → Int} (h : InvB n m ρ nr w) : PastL m ρ := h.2.2.2.2.2.2.2.2.2.1
theorem InvB.seedl {n : Nat} {m ρ : Mem} {nr : Int} {w : Int → Int} (h : InvB n m ρ nr w) : SeedL m := h.2.2.2.2.2.2.2.2.2.2.1
theorem InvB.pic {n : Nat} {m ρ : Mem} {nr : Int} {w : Int → Int} (h : InvB n m ρ nr w) : PicL m := h.2.2.2.2.2.2.2.2.2.2.2.1
theorem InvB.rws {n : Nat} {m ρ : Mem} {nr : Int} {w : Int → Int} (h : InvB n m ρ nr w) : Xrw m nr w ∧ Mrw m nr w ∧ RwB ρ nr w := h.2.2.2.2.2.2.2.2.2.2.2.2.2
theorem InvB.mrm {n : Nat} {m ρ : Mem} {nr : Int} {w : Int → Int} (h : InvB n m ρ nr w) : MRm m ρ := h.2.2.2.1
theorem rws_ex {C : Int → Int → Prop} {m z ρ : Mem} {nr : Int} {w : Int → Int} (h : Xrw m nr w ∧ Mrw m nr w ∧ RwB ρ nr w) (he : Ex C m z) (hc : ∀ a j, C a j → ¬ ((a = 0 ∧ j = 10) ∨ a = 59 ∨ (a = 62 ∧ j = 88) ∨ a = 126)) : Xrw z nr w ∧ Mrw z nr w ∧ RwB ρ nr w :=
  ⟨h.1.ex he (fun a j q c => hc a j c (by omega)), h.2.1.ex he (fun a j q c => hc a j c (by omega)), h.2.2⟩
/-- a refusal is counted on both sides -/
theorem RefL.put {n : Nat} {m z : Mem} {k : Nat} (h : RefL n m) (hk : k < 6) (e1 : z 61 k = m 61 k + 1) (e2 : z 64 k = m 64 k + 1) (e3 : ∀ i : Nat, i < 6 → i ≠ k → z 61 i = m 61 i ∧ z 64 i = m 64 i) : RefL (n + 1) z := by
  intro i hi
  by_cases e : i = k
  · subst e
    have := h i hi
    rw [e1, e2]
    omega
  · have := h i hi
    rw [(e3 i hi e).1, (e3 i hi e).2]
    omega
theorem RefL.up {n : Nat} {m : Mem} (h : RefL n m) : RefL (n + 1) m := fun k hk => by have := h k hk; omega
