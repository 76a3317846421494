/-! on: whether bytes tell a day, on both sides -/
section PO
variable {sc : List Int} {d : Nat} {m : Mem} {ρ : Mem}
def onOK (ρ : Mem) (f : Int → Int) : Prop := f 0 ≤ ρ 0 1 ∧ f 3 ≤ f 0 ∧ f 4 ≤ f 0 ∧ hasF ρ (f 2) (ρ 0 0).toNat ∧ f 1 ≤ f 2 ∧ 256 * f 5 + f 6 ≤ 9999 ∧ f 7 = chF f 7
theorem s_tellsDay (h : Xt m ρ) (hd : 1 ≤ d) (hf : ∀ i : Nat, i < 8 → 0 ≤ m 1 i ∧ m 1 i ≤ 255) : P_X7_tellsDay sc d [aR 0] m (fun v z => z = m ∧ ((v = some (aI 1) ∧ onOK ρ (m 1)) ∨ (v = some (aI 0) ∧ ¬ onOK ρ (m 1)))) := by
  have b0 := h.2.2.1
  have e8 := h.2.1.1.2.1
  have f0 : 0 ≤ m 1 0 ∧ m 1 0 ≤ 255 := hf 0 (by omega)
  have f1 : 0 ≤ m 1 1 ∧ m 1 1 ≤ 255 := hf 1 (by omega)
  have f2 : 0 ≤ m 1 2 ∧ m 1 2 ≤ 255 := hf 2 (by omega)
  have f3 : 0 ≤ m 1 3 ∧ m 1 3 ≤ 255 := hf 3 (by omega)
  have f4 : 0 ≤ m 1 4 ∧ m 1 4 ≤ 255 := hf 4 (by omega)
  have f5 : 0 ≤ m 1 5 ∧ m 1 5 ≤ 255 := hf 5 (by omega)
  have f6 : 0 ≤ m 1 6 ∧ m 1 6 ≤ 255 := hf 6 (by omega)
  have f7 : 0 ≤ m 1 7 ∧ m 1 7 ≤ 255 := hf 7 (by omega)
  have cb := chF_bd (f := m 1) (n := 7) (fun k hk => hf k (by omega))
  have l1 : alen 1 = 1600 := al_1
  refine ep_X7_tellsDay (g_X7_tellsDay_0 ⟨h.1, by omega, by omega, fun c => ⟨rfl, Or.inr ⟨rfl, fun q => by have := q.1; omega⟩⟩, fun c => ⟨by omega, fun c2 => ⟨rfl, Or.inr ⟨rfl, fun q => by have := q.2.1; omega⟩⟩, fun c2 => ⟨by omega, fun c3 => ⟨rfl, Or.inr ⟨rfl, fun q => by have := q.2.2.1; omega⟩⟩, fun c3 => ?_⟩⟩⟩)
  refine p_X7_tellsDay_56 (d2 := d - 1) h.1 (s_X6_hasLength h.1 h.2.1 h.2.2 (by unfold R32; omega)) (by omega) ?_
  rintro _ z ⟨rfl, ⟨e, q⟩ | ⟨e, q⟩⟩ <;> cases e
  · refine g_X7_tellsDay_59 ⟨by omega, fun c => absurd c (by decide), fun _ => ⟨by omega, by omega, fun c4 => ⟨rfl, Or.inr ⟨rfl, fun q => by have := q.2.2.2.2.1; omega⟩⟩, fun c4 => ⟨by omega, fun c5 => ⟨rfl, Or.inr ⟨rfl, fun q => by have := q.2.2.2.2.2.1; omega⟩⟩, fun c5 => ?_⟩⟩⟩
    refine p_X7_tellsDay_112 (d2 := d - 1) ic_1 (s_checkOf ic_1 (by omega) (fun k hk => hf k (by omega))) (by omega) ?_
    rintro _ z ⟨e, rfl⟩; cases e
    refine g_X7_tellsDay_115 ⟨by omega, by omega, rfl, ?_⟩
    by_cases c6 : z 1 7 = chF (z 1) 7
    · rw [if_neg (fun z => z c6)]
      exact Or.inl ⟨rfl, by omega, by omega, by omega, q, by omega, by omega, c6⟩
    · rw [if_pos c6]
      exact Or.inr ⟨rfl, fun q => c6 q.2.2.2.2.2.2⟩
  · exact g_X7_tellsDay_59 ⟨by omega, fun _ => ⟨rfl, Or.inr ⟨rfl, fun p => q p.2.2.2.1⟩⟩, fun c => absurd rfl c⟩
end PO
