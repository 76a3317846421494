/-! what searches keep, all of it -/
def CaA (m ρ : Mem) : Prop := ChC m ρ ∧ PkC m ρ ∧ ShC m ρ
theorem pkc_ex {m z ρ : Mem} (h : PkC m ρ) (e : ∀ a j, ((a = 44 ∧ (j = 4 ∨ j = 5)) ∨ a = 46) → z a j = m a j) : PkC z ρ := by
  unfold PkC at h ⊢
  rw [e 44 5 (Or.inl ⟨rfl, Or.inr rfl⟩), e 44 4 (Or.inl ⟨rfl, Or.inl rfl⟩), show z 46 = m 46 from funext fun j => e 46 j (Or.inr rfl)]
  exact h
theorem caA_fr : CaFr CaA := fun m z ρ e h => ⟨h.1.ex (fun a j q => e a j (by unfold CaC; omega)), pkc_ex h.2.1 (fun a j q => e a j (by unfold CaC; omega)), h.2.2.ex (fun a j q => e a j (by unfold C_sh at q; unfold CaC; omega))⟩
theorem caA_h : CaH CaA := ⟨fun m ρ h => h.1, fun m z ρ h e c => ⟨c, pkc_ex h.2.1 (fun a j q => e a j (by unfold CaC; omega) (by omega)), h.2.2.ex (fun a j q => e a j (by unfold C_sh at q; unfold CaC; omega) (by unfold C_sh at q; omega))⟩⟩
theorem caA_s : CaS CaA := ⟨fun m ρ h => h.2.2, fun m z ρ h e c => ⟨h.1.ex (fun a j q => e a j (by unfold CaC; omega) (by unfold C_sh; omega)), pkc_ex h.2.1 (fun a j q => e a j (by unfold CaC; omega) (by unfold C_sh; omega)), c⟩⟩
theorem caA_p : CaP CaA := ⟨fun m ρ h => h.2.1, fun m z ρ h e c => ⟨h.1.ex (fun a j q => e a j (by unfold CaC; omega) (by unfold C_an; omega)), c, h.2.2.ex (fun a j q => e a j (by unfold C_sh at q; unfold CaC; omega) (by unfold C_sh at q; unfold C_an; omega))⟩⟩
/-- nothing kept -/
theorem caA_0 {m ρ : Mem} (h1 : m 37 1 = -3) (h2 : m 44 5 = 0) (h3 : m 44 11 = 0) (h4 : ∀ g : Nat, g < 3 → m 50 g = 0 ∧ m 51 g = 0) : CaA m ρ := ⟨Or.inl h1, Or.inl h2, h4, Or.inl h3⟩
theorem caA_m0 {ρ : Mem} : CaA m0 ρ := caA_0 (by decide +kernel) (by decide +kernel) (by decide +kernel) (by decide +kernel)
