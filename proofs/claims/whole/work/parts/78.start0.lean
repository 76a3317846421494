/-! what holds at the start -/
def ρ0 : Mem := fun a j => if a = 7 then ([2, 9, 1, 9, 5, 1] : List Int).getD j.toNat 0 else 0
set_option maxRecDepth 40000 in
theorem m0_vals : m0 0 2 = 2 ∧ m0 0 3 = 17 ∧ m0 0 1 = 0 ∧ m0 62 1 = 0 ∧ (m0 2 2 = 0 ∧ m0 2 8 = 0 ∧ m0 2 11 = 0 ∧ m0 2 15 = 0) ∧ (m0 95 3 = 0 ∧ m0 95 4 = 0 ∧ m0 95 5 = 0 ∧ m0 62 53 = 0) ∧ m0 9 0 = 0 ∧ m0 13 0 = 0 ∧ (m0 32 7 = 0 ∧ m0 32 8 = -1 ∧ m0 62 7 = 0 ∧ m0 62 8 = -1) ∧ (m0 57 8 = 0 ∧ m0 62 83 = 0 ∧ m0 62 84 = 0 ∧ m0 57 6 = 1 ∧ m0 62 85 = 1) ∧ (m0 62 122 = 0 ∧ m0 0 12 = 0 ∧ m0 0 10 = 0 ∧ m0 62 88 = 0) := by decide +kernel
set_option maxRecDepth 40000 in
theorem m0_rows : (∀ k : Nat, k < 6 → m0 15 k = ρ0 7 k ∧ m0 100 (6 + k) = ρ0 7 k ∧ m0 64 k = 0 ∧ m0 61 k = 0 ∧ m0 124 k = 0 ∧ m0 57 k = 0) ∧ ∀ k : Nat, k < 8 → m0 151 k = 0 ∧ m0 60 k = 0 := by decide +kernel
set_option maxRecDepth 40000 in
theorem m0_57 : m0 57 6 = 1 := by decide +kernel
set_option maxRecDepth 40000 in
theorem m0_sp : SpL m0 := by unfold SpL; decide +kernel
theorem inv_0 : InvB 0 m0 ρ0 0 (fun _ => 0) := by
  obtain ⟨v1, v2, v3, v4, ⟨v5, v6, v7, v8⟩, ⟨v9, v10, v11, v12⟩, v13, v14, ⟨v15, v16, v17, v18⟩, ⟨v19, v20, v21, v22, v23⟩, v24, v25, v26, v27⟩ := m0_vals
  obtain ⟨r1, r2⟩ := m0_rows
  have z : ∀ a j : Int, a ≠ 7 → ρ0 a j = 0 := fun a j q => by unfold ρ0; rw [if_neg q]
  have z00 : ρ0 0 0 = 0 := z 0 0 (by decide)
  have z01 : ρ0 0 1 = 0 := z 0 1 (by decide)
  have z02 : ρ0 0 2 = 0 := z 0 2 (by decide)
  have z03 : ρ0 0 3 = 0 := z 0 3 (by decide)
  have z100 : ρ0 10 0 = 0 := z 10 0 (by decide)
  have d0 : ∀ k : Nat, k < 6 → m0 57 k = 0 := fun k hk => (r1 k hk).2.2.2.2.2
  refine ⟨⟨Or.inl v1, Or.inr v2, by rw [v1, v2]; decide⟩, ?_, ?_, ?_, ⟨?_, ?_, ?_, ?_⟩, ?_, ?_, ?_, ?_, ?_, ?_, ?_, ?_, ?_⟩
  · refine ⟨by omega, ⟨fun _ => ⟨z00, z01, z02⟩, fun q => absurd z03 q⟩, fun i hi => by omega, fun s hs => by omega, fun i hi => ?_, by decide, by decide⟩
    rcases (by omega : i = 0 ∨ i = 1 ∨ i = 2 ∨ i = 3) with rfl | rfl | rfl | rfl <;> decide
  · rw [v1]
    refine ⟨⟨by rw [v5, z00], by rw [v6, z01], by rw [v7, z02], by rw [v8, z03]⟩, fun i hi => by omega, fun s hs => by omega, fun s hs => ?_, fun i hi => (r1 i hi).1⟩
    obtain rfl : s = 0 := by omega
    exact v13.trans rfl
  · exact ⟨⟨by rw [v9, z00], by rw [v10, z01], by rw [v11, z02], by rw [v12, if_pos z03]⟩, fun i hi => by omega, fun s hs => by omega, fun i hi => (r1 i hi).2.1⟩
  · exact ⟨z100, fun k hk => by omega⟩
  · rw [v1]
    refine ⟨fun k hk => ?_, fun j hj => ?_⟩
    · obtain rfl : k = 0 := by omega
      exact v14.trans z100.symm
    · rw [z02, z100] at hj; omega
  · refine ⟨fun k hk => by omega, fun j hj => ?_⟩
    rw [z02, z100] at hj; omega
  · exact ⟨fun s hs => by omega, fun k hk => by omega⟩
  · exact ⟨by omega, by rw [v4, v3], fun i hi => by omega⟩
  · exact fun k hk => by have := r1 k hk; omega
  · exact ⟨by rw [v17, v15], by rw [v18, v16], by omega, by omega⟩
  · refine ⟨fun k hk => by rw [(r1 k hk).2.2.2.2.1, d0 k hk], ?_⟩
    have e0 : m0 57 0 = 0 := d0 0 (by omega)
    have e1 : m0 57 1 = 0 := d0 1 (by omega)
    have e2 : m0 57 2 = 0 := d0 2 (by omega)
    have e3 : m0 57 3 = 0 := d0 3 (by omega)
    have e4 : m0 57 4 = 0 := d0 4 (by omega)
    have e5 : m0 57 5 = 0 := d0 5 (by omega)
    unfold DayB
    rw [e0, e1, e2, e3, e4, e5]
    omega
  · exact ⟨by omega, by rw [v20, v19], by omega, fun i hi => by omega⟩
  · exact ⟨by rw [v23, v22], by omega, by omega⟩
  · refine ⟨by rw [v24, v25], by omega, fun k hk => ?_⟩
    have := r2 k hk
    rw [this.1, this.2]
    exact ⟨rfl, by unfold R32; omega⟩
  · exact ⟨fun a j q => rfl, m0_sp⟩
  · exact ⟨⟨v26, fun i hi => by omega⟩, ⟨v27, fun i hi => by omega⟩, by omega, fun i hi => by omega⟩
