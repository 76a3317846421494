/-! more small methods of the class -/
section SM2
variable {sc : List Int} {d : Nat} {m : Mem} {r : Int} {ρ : Mem}
theorem s_weighs (h : Xt m ρ) : P_X7_weighs sc d [aR 0] m (fun v z => z = m ∧ ((v = some (aI 1) ∧ 0 < ρ 0 3 ∧ ρ 0 1 ≤ 6) ∨ (v = some (aI 0) ∧ ¬ (0 < ρ 0 3 ∧ ρ 0 1 ≤ 6)))) := by
  have b0 := h.2.2.1
  have e15 := h.2.1.1.2.2.2
  have e8 := h.2.1.1.2.1
  refine ep_X7_weighs (g_X7_weighs_0 ⟨h.1, by omega, fun _ => by omega, rfl, ?_⟩)
  rw [e15, e8]
  split
  · exact Or.inr ⟨rfl, by omega⟩
  · split
    · exact Or.inr ⟨rfl, by omega⟩
    · exact Or.inl ⟨rfl, by omega⟩
/-- what looking costs a sewer ahead of a seam -/
def lkF (ρ : Mem) (w u : Int) : Int := if w = 2 ∧ 0 < u then ρ 7 2 else 0
theorem s_lookCost {w u : Int} (H : RoomAt r) (h : XRm m r ρ) (hw : R32 w) (hu : R32 u) : P_X6_lookCost sc d [aR r, aI w, aI u] m (PV (aI (lkF ρ w u)) m) := by
  have e2 : m (r + 13) 2 = ρ 7 2 := h.2.2.2.2 2 (by omega)
  refine ep_X6_lookCost (g_X6_lookCost_0 H ⟨hw, fun _ => hu, ?_, rfl⟩)
  rw [e2]
  unfold lkF
  split
  · rw [if_neg (by omega)]
  · split
    · rw [if_neg (by omega)]
    · rw [if_pos (by omega)]
theorem capF_capF {c a b : Int} (ha : 0 ≤ a) (hb : 0 ≤ b) : capF (capF c a) b = capF c (a + b) := by
  unfold capF
  split <;> split <;> first | omega | (split <;> omega)
end SM2
