/-! rooms as texts: the class's call -/
section RP2
variable {sc : List Int} {d : Nat} {m ρ : Mem} {Q : Option AV → Mem → Prop} {T : Int → Int} {n : Nat} {σ : Stt} {r : Int}
def C_xe (r a j : Int) : Prop := C_rm r a j ∨ (a = 0 ∧ j = 1) ∨ (a = 61 ∧ j = 1)
def C_xo (r a j : Int) : Prop := C_rm r a j ∨ (a = 0 ∧ (j = 1 ∨ j = 2 ∨ j = 3 ∨ j = 10)) ∨ (a = 37 ∧ j = 1) ∨ (a = 44 ∧ (j = 5 ∨ j = 11)) ∨ (a = 57 ∧ ((0 ≤ j ∧ j ≤ 5) ∨ j = 8))
/-- a room stands in the class -/
def StX (z : Mem) (r : Int) (a : Rx) : Prop := XRt z r a.2 ∧ (∀ j : Nat, j < a.1.2.length → stepRel (z (r + 9) j) (a.1.2.getD j 0)) ∧ (z 37 1 = -3 ∧ z 44 5 = 0 ∧ z 44 11 = 0 ∧ z 57 8 = 0 ∧ z 0 10 = 0) ∧ ∀ k : Nat, k < 6 → z 57 k = if k = 2 then a.2 1 0 else 0
def R7 (m z : Mem) (v : Option AV) : Es Rx → Prop
  | .error e => v = some (aI (-1)) ∧ z 32 7 = e.1 ∧ z 32 8 = e.2 ∧ (1 ≤ e.1 ∧ e.1 ≤ 5) ∧ (0 ≤ e.2 ∧ e.2 ≤ 1600) ∧ z 61 1 = m 61 1 + 1 ∧ Ex (C_xe (m 0 3)) m z
  | .ok a => v = some (aI (a.2 0 3)) ∧ z 32 7 = 0 ∧ z 32 8 = -1 ∧ StX z (m 0 3) a ∧ z 0 2 = m 0 3 ∧ z 0 3 = m 0 2 ∧ Ex (C_xo (m 0 3)) m z
theorem s_X7_room (H0 : RoomAt (m 0 2)) (H : RoomAt (m 0 3)) (hS : SpL m) (hn : n ≤ 1600) (h1 : m 0 1 = (n : Nat)) (ht : ∀ i : Nat, i < n → m 1 i = T i ∧ 0 ≤ T i ∧ T i ≤ 255) (hd : 140 ≤ d) : P_X7_room sc d [aR 0] m (fun v z => z 0 1 = 0 ∧ R7 m z v (rdRoom T n)) := by
  have tb : ∀ i : Nat, i < n → 0 ≤ T i ∧ T i ≤ 255 := fun i hi => (ht i hi).2
  have rb := room_bd H
  have r0b := room_bd H0
  obtain ⟨s1, s2, s3, s4⟩ := hS
  have h7 : m (m 0 3 + 7) 0 = 0 := by rcases H with e | e <;> rw [e] <;> assumption
  have h11 : m (m 0 3 + 11) 0 = 0 := by rcases H with e | e <;> rw [e] <;> assumption
  refine ep_X7_room (g_X7_room_0 ?_)
  rw [h1]
  refine p_X7_room_16 (d2 := d - 1) H ic_1 (s_readRoom H h7 h11 hn ht (by omega)) (by omega) ?_
  rintro z ⟨-, ze, hx, hxt⟩
  have zc : ∀ a j, ¬ C_rm (m 0 3) a j → z a j = m a j := ze
  have z02 : z 0 2 = m 0 2 := zc 0 2 (fun c => by unfold C_rm at c; omega)
  have z03 : z 0 3 = m 0 3 := zc 0 3 (fun c => by unfold C_rm at c; omega)
  have a7 : wr z 0 1 0 32 7 = z 32 7 := wr_na _ _ _ _ _ _ (by decide)
  have a2 : wr z 0 1 0 0 2 = m 0 2 := by rw [wr_ne _ _ _ _ _ _ (by decide)]; exact z02
  have a3 : wr z 0 1 0 0 3 = m 0 3 := by rw [wr_ne _ _ _ _ _ _ (by decide)]; exact z03
  refine g_X7_room_19 ?_
  rw [a7, a2, a3]
  cases g : rdRoom T n with
  | error e =>
    rw [g] at hx
    obtain ⟨-, -, -, q7, q8, q1, q2, q4, -⟩ := hx
    refine ⟨by omega, fun q => by omega, fun _ => ?_⟩
    refine p_X7_room_36 (d2 := d - 1) (s_refuse (k := 1) (by decide)) (by omega) ?_
    rintro _ y ⟨q, rfl⟩; cases q
    refine g_X7_room_39 ⟨?_, rfl, ?_, ?_, q1, q2, ?_, ?_⟩
    · show wr (wr z 0 1 0) 61 1 (wr z 0 1 0 61 1 + 1) 0 1 = 0
      rw [wr_na _ _ _ _ _ _ (by decide), wr_eq]
    · show wr (wr z 0 1 0) 61 1 (wr z 0 1 0 61 1 + 1) 32 7 = _
      rw [wr_na _ _ _ _ _ _ (by decide), a7]; exact q7
    · show wr (wr z 0 1 0) 61 1 (wr z 0 1 0 61 1 + 1) 32 8 = _
      rw [wr_na _ _ _ _ _ _ (by decide), wr_na _ _ _ _ _ _ (by decide)]; exact q8
    · show wr (wr z 0 1 0) 61 1 (wr z 0 1 0 61 1 + 1) 61 1 = _
      rw [wr_eq, wr_na _ _ _ _ _ _ (by decide), zc 61 1 (fun c => by unfold C_rm at c; omega)]
    · exact Ex.put (Ex.put (ze.mono (fun a j q => Or.inl q)) (Or.inr (Or.inl ⟨rfl, rfl⟩))) (Or.inr (Or.inr ⟨rfl, rfl⟩))
  | ok a =>
    rw [g] at hx
    have tx := hxt a g
    have hx0 : XR T n true (m 0 3 + 8) z (.ok a.1) := hx
    obtain ⟨-, -, -, ⟨q7, q8⟩, -, -, -, qF, qs⟩ := hx
    have GI := gi_room hn tb g
    refine ⟨by omega, fun _ => ⟨H0, H, ?_⟩, fun q => absurd q7 q⟩
    have e1 : Ex (fun a j => a = 0 ∧ (j = 1 ∨ j = 2 ∨ j = 3)) z (wr (wr (wr z 0 1 0) 0 2 (m 0 3)) 0 3 (m 0 2)) := (((Ex.refl _ _).put ⟨rfl, by decide⟩).put ⟨rfl, by decide⟩).put ⟨rfl, by decide⟩
    have y1 : wr (wr (wr z 0 1 0) 0 2 (m 0 3)) 0 3 (m 0 2) 0 1 = 0 := by rw [wr_ne _ _ _ _ _ _ (by decide), wr_ne _ _ _ _ _ _ (by decide), wr_eq]
    have y2 : wr (wr (wr z 0 1 0) 0 2 (m 0 3)) 0 3 (m 0 2) 0 2 = m 0 3 := by rw [wr_ne _ _ _ _ _ _ (by decide), wr_eq]
    have y3 : wr (wr (wr z 0 1 0) 0 2 (m 0 3)) 0 3 (m 0 2) 0 3 = m 0 2 := wr_eq _ _ _ _
    generalize wr (wr (wr z 0 1 0) 0 2 (m 0 3)) 0 3 (m 0 2) = y at e1 y1 y2 y3 ⊢
    refine p_X7_room_62 (d2 := d - 1) (P := fun v u => v = none ∧ u = wr y 37 1 (-3)) (ep_X0_forget (g_X0_forget_0 ⟨rfl, rfl⟩)) (by omega) ?_
    rintro _ ⟨-, rfl⟩
    refine g_X7_room_65 (p_X7_room_69 (d2 := d - 1) (P := fun v u => v = none ∧ u = wr (wr (wr y 37 1 (-3)) 44 5 0) 44 11 0) (ep_X4_forget (g_X4_forget_0 ⟨rfl, rfl⟩)) (by omega) ?_)
    rintro _ ⟨-, rfl⟩
    have e2 : Ex (fun a j => (a = 37 ∧ j = 1) ∨ (a = 44 ∧ (j = 5 ∨ j = 11))) y (wr (wr (wr y 37 1 (-3)) 44 5 0) 44 11 0) := (((Ex.refl _ _).put (Or.inl ⟨rfl, rfl⟩)).put (Or.inr ⟨rfl, Or.inl rfl⟩)).put (Or.inr ⟨rfl, Or.inr rfl⟩)
    have u1 : wr (wr (wr y 37 1 (-3)) 44 5 0) 44 11 0 37 1 = -3 := by rw [wr_na _ _ _ _ _ _ (by decide), wr_na _ _ _ _ _ _ (by decide), wr_eq]
    have u2 : wr (wr (wr y 37 1 (-3)) 44 5 0) 44 11 0 44 5 = 0 := by rw [wr_ne _ _ _ _ _ _ (by decide), wr_eq]
    have u3 : wr (wr (wr y 37 1 (-3)) 44 5 0) 44 11 0 44 11 = 0 := wr_eq _ _ _ _
    generalize wr (wr (wr y 37 1 (-3)) 44 5 0) 44 11 0 = u at e2 u1 u2 u3 ⊢
    have u02 : u 0 2 = m 0 3 := (e2 0 2 (by omega)).trans y2
    refine g_X7_room_72 ?_
    rw [u02]
    have cell : ∀ a j, 2 ≤ a → a ≤ 32 → u a j = z a j := fun a j q1 q2 => (e2 a j (by omega)).trans (e1 a j (by omega))
    refine p_X7_room_80 (d2 := d - 1) (P := fun v w => v = none ∧ w = wr (rsW u (u (m 0 3 + 1) 0)) 57 8 0) H (ep_X2_enter (g_X2_enter_0 H (p_X2_enter_7 (d2 := d - 2) s_restart (by omega) (by rintro _ ⟨-, rfl⟩; exact g_X2_enter_10 ⟨rfl, rfl⟩)))) (by omega) ?_
    rintro _ ⟨-, rfl⟩
    have l0 : u (m 0 3 + 1) 0 = a.2 1 0 := by
      rw [cell _ _ (by omega) (by omega)]
      exact (tx.1.2.1 0 (by have := GI.2.2.1; show (0 : Int) < a.2 0 0; omega)).1
    rw [l0]
    have e3 : Ex (fun a j => a = 57 ∧ ((0 ≤ j ∧ j ≤ 5) ∨ j = 8)) u (wr (rsW u (a.2 1 0)) 57 8 0) := by
      unfold rsW
      refine Ex.put (Ex.put (Ex.put (Ex.put (Ex.put (Ex.put (Ex.put (Ex.refl _ _) ?_) ?_) ?_) ?_) ?_) ?_) ?_ <;> exact ⟨rfl, by omega⟩
    have w57 : ∀ k : Nat, k < 6 → wr (rsW u (a.2 1 0)) 57 8 0 57 k = if k = 2 then a.2 1 0 else 0 := by
      intro k hk
      rw [wr_ne _ _ _ _ _ _ (by omega)]
      unfold rsW
      rcases (by omega : k = 0 ∨ k = 1 ∨ k = 2 ∨ k = 3 ∨ k = 4 ∨ k = 5) with rfl | rfl | rfl | rfl | rfl | rfl <;> simp [wr]
    have w8 : wr (rsW u (a.2 1 0)) 57 8 0 57 8 = 0 := wr_eq _ _ _ _
    generalize wr (rsW u (a.2 1 0)) 57 8 0 = w at e3 w57 w8 ⊢
    have x0e : Ex (fun a j => a = 0 ∧ j = 10) w (wr w 0 10 0) := (Ex.refl _ _).put ⟨rfl, rfl⟩
    have x0 : wr w 0 10 0 0 10 = 0 := wr_eq _ _ _ _
    refine g_X7_room_83 ?_
    generalize wr w 0 10 0 = x at x0e x0 ⊢
    have all : Ex (fun a j => (a = 0 ∧ (j = 1 ∨ j = 2 ∨ j = 3 ∨ j = 10)) ∨ (a = 37 ∧ j = 1) ∨ (a = 44 ∧ (j = 5 ∨ j = 11)) ∨ (a = 57 ∧ ((0 ≤ j ∧ j ≤ 5) ∨ j = 8))) z x := (((e1.mono (fun a j q => by omega)).trans (e2.mono (fun a j q => by omega))).trans (e3.mono (fun a j q => by omega))).trans (x0e.mono (fun a j q => by omega))
    have x02 : x 0 2 = m 0 3 := by rw [x0e 0 2 (by omega), e3 0 2 (by omega)]; exact u02
    have x15 : x (m 0 3) 15 = a.2 0 3 := by rw [all _ _ (by omega)]; exact tx.1.1.2.2.2
    rw [x02, x15]
    refine ⟨H, ?_, rfl, ?_, ?_, ⟨?_, fun j hj => ?_, ⟨?_, ?_, ?_, ?_, x0⟩, fun k hk => ?_⟩, x02, ?_, ?_⟩
    · rw [x0e 0 1 (by omega), e3 0 1 (by omega), e2 0 1 (by omega)]; exact y1
    · rw [all _ _ (by omega)]; exact q7
    · rw [all _ _ (by omega)]; exact q8
    · exact tx.ex all (fun a j q => by omega)
    · have := qs j hj
      rw [all _ _ (by omega)]
      rw [show m 0 3 + 9 = m 0 3 + 8 + 1 by omega]
      exact this
    · rw [x0e 37 1 (by omega), e3 37 1 (by omega)]; exact u1
    · rw [x0e 44 5 (by omega), e3 44 5 (by omega)]; exact u2
    · rw [x0e 44 11 (by omega), e3 44 11 (by omega)]; exact u3
    · rw [x0e 57 8 (by omega)]; exact w8
    · rw [x0e 57 k (by omega)]; exact w57 k hk
    · rw [x0e 0 3 (by omega), e3 0 3 (by omega), e2 0 3 (by omega)]; exact y3
    · exact (ze.mono (fun a j q => Or.inl q)).trans (all.mono (fun a j q => Or.inr q))
end RP2
