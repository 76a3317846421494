/-! pair: undo -/
section PU
variable {sc : List Int} {Ca : Mem → Mem → Prop} {d : Nat} {m : Mem}
def C_bk (a j : Int) : Prop := a = 57 ∧ ((0 ≤ j ∧ j ≤ 5) ∨ j = 8)
def bkW (m : Mem) (p : Int) : Mem := wr (wr (wr (wr (wr (wr (wr m 57 8 p) 57 0 (m 58 (p * 6))) 57 1 (m 58 (p * 6 + 1))) 57 2 (m 58 (p * 6 + 2))) 57 3 (m 58 (p * 6 + 3))) 57 4 (m 58 (p * 6 + 4))) 57 5 (m 58 (p * 6 + 5))
theorem s_back (hp : 0 < m 57 8 ∧ m 57 8 ≤ 20) : P_X2_back sc d [aR 57] m (fun v z => v = none ∧ z = bkW m (m 57 8 - 1)) := by
  have e8 : wr m 57 8 (m 57 8 - 1) 57 8 = m 57 8 - 1 := wr_eq _ _ _ _
  refine ep_X2_back (g_X2_back_0 ⟨by omega, fun _ => ?_, fun c => absurd hp.1 c⟩)
  rw [e8]
  refine ⟨by omega, by omega, by omega, by omega, by omega, by omega, by omega, by omega, by omega, by omega, by omega, by omega, rfl, ?_⟩
  simp only [wr_na, ne_eq, Int.reduceEq, not_false_eq_true]
  rfl
theorem bkW_ex (p : Int) : Ex C_bk m (bkW m p) := by
  unfold bkW
  exact (((((((Ex.refl _ _).put ⟨rfl, by omega⟩).put ⟨rfl, by omega⟩).put ⟨rfl, by omega⟩).put ⟨rfl, by omega⟩).put ⟨rfl, by omega⟩).put ⟨rfl, by omega⟩).put ⟨rfl, by omega⟩
theorem bkW_8 (p : Int) : bkW m p 57 8 = p := by
  unfold bkW
  rw [wr_ne _ _ _ _ _ _ (by omega), wr_ne _ _ _ _ _ _ (by omega), wr_ne _ _ _ _ _ _ (by omega), wr_ne _ _ _ _ _ _ (by omega), wr_ne _ _ _ _ _ _ (by omega), wr_ne _ _ _ _ _ _ (by omega), wr_eq]
theorem bkW_k (p : Int) (k : Nat) (hk : k < 6) : bkW m p 57 k = m 58 (p * 6 + k) := by
  unfold bkW
  rcases (by omega : k = 0 ∨ k = 1 ∨ k = 2 ∨ k = 3 ∨ k = 4 ∨ k = 5) with rfl | rfl | rfl | rfl | rfl | rfl
  · rw [wr_ne _ _ _ _ _ _ (by omega), wr_ne _ _ _ _ _ _ (by omega), wr_ne _ _ _ _ _ _ (by omega), wr_ne _ _ _ _ _ _ (by omega), wr_ne _ _ _ _ _ _ (by omega), show p * 6 + ((0 : Nat) : Int) = p * 6 by omega]; exact wr_eq _ _ _ _
  · rw [wr_ne _ _ _ _ _ _ (by omega), wr_ne _ _ _ _ _ _ (by omega), wr_ne _ _ _ _ _ _ (by omega), wr_ne _ _ _ _ _ _ (by omega)]; exact wr_eq _ _ _ _
  · rw [wr_ne _ _ _ _ _ _ (by omega), wr_ne _ _ _ _ _ _ (by omega), wr_ne _ _ _ _ _ _ (by omega)]; exact wr_eq _ _ _ _
  · rw [wr_ne _ _ _ _ _ _ (by omega), wr_ne _ _ _ _ _ _ (by omega)]; exact wr_eq _ _ _ _
  · rw [wr_ne _ _ _ _ _ _ (by omega)]; exact wr_eq _ _ _ _
  · exact wr_eq _ _ _ _
theorem pair_undo (hCa : CaFr Ca) (n : Nat) (m : Mem) (hn : n < 512) (hi : Inv Ca n m) : PairI (Inv Ca) n m (P_X7_undo sc 1799 [aR 0]) (P_X8_undo sc 1799 [aR 62]) := by
  obtain ⟨ρ, nr, w, hi, hc⟩ := hi
  have hD := hi.dayl
  have hP := hi.past
  obtain ⟨p1, p2, p3, p4⟩ := hP
  by_cases c : m 57 8 = 0
  · refine ep_X7_undo (g_X7_undo_0 ⟨by omega, fun q => absurd c q, fun _ => ?_⟩)
    refine p_X7_undo_12 (d2 := 1798) (s_refuse (k := 3) (by omega)) (by decide) ?_
    rintro _ z ⟨e, rfl⟩; cases e
    refine g_X7_undo_15 ⟨_, rfl, by unfold R32; omega, ?_⟩
    have hf := Inv.refuse hCa hi hc 3 (by omega)
    have e83 : wr m 61 ((3 : Nat) : Int) (m 61 ((3 : Nat) : Int) + 1) 62 83 = 0 := by rw [wr_na _ _ _ _ _ _ (by decide), p2, c]
    exact ep_X8_undo (g_X8_undo_0 ⟨by omega, fun q => absurd e83 q, fun _ => ⟨rfl, hf⟩⟩)
  · refine ep_X7_undo (g_X7_undo_0 ⟨by omega, fun _ => ?_, fun q => absurd c q⟩)
    refine p_X7_undo_22 (d2 := 1798) (s_back (by omega)) (by decide) ?_
    rintro z ⟨-, rfl⟩
    refine g_X7_undo_25 ⟨_, rfl, by unfold R32; omega, ?_⟩
    have bx := bkW_ex (m := m) (m 57 8 - 1)
    have b8 := bkW_8 (m := m) (m 57 8 - 1)
    have bk := bkW_k (m := m) (m 57 8 - 1)
    generalize bkW m (m 57 8 - 1) = z at bx b8 bk ⊢
    have zo : ∀ a j, a ≠ 57 → z a j = m a j := fun a j q => bx a j (fun c => q c.1)
    have z83 : z 62 83 = m 57 8 := (zo 62 83 (by decide)).trans p2
    have z84 : z 62 84 = m 62 84 := zo 62 84 (by decide)
    have q0 := p4 0 (by omega)
    rw [show (m 62 84 + 20 - ((0 : Nat) : Int)) % 20 = m 62 84 by omega, show m 57 8 - 1 - ((0 : Nat) : Int) = m 57 8 - 1 by omega] at q0
    have l : ∀ (j i : Nat) (y : Mem), i + j = 6 → Ex (fun a j => a = 124) z y → (∀ k : Nat, k < i → y 124 k = z 57 k) → S_X8_undo sc 1799 21 [aR 62, aI i] [] y (fun v2 z2 => v2 = some (aI 1) ∧ Inv Ca (n + 1) z2) := by
      intro j
      induction j with
      | zero =>
        intro i y hi6 he e5
        obtain rfl : i = 6 := by omega
        have y83 : y 62 83 = m 57 8 := (he 62 83 (by decide)).trans z83
        have y84 : y 62 84 = m 62 84 := (he 62 84 (by decide)).trans z84
        have et : (m 62 84 + 20 - 1).tmod 20 = (m 62 84 + 20 - 1) % 20 := Int.tmod_eq_emod_of_nonneg (by omega)
        refine g_X8_undo_21 ⟨by omega, fun _ => ⟨by omega, rfl, ?_⟩, fun c => absurd (by omega) c⟩
        rw [y84, et, wr_ne y 62 84 _ 62 83 (by omega), y83]
        have hx : Ex (fun a j => (a = 57 ∧ ((0 ≤ j ∧ j ≤ 5) ∨ j = 8)) ∨ a = 124 ∨ (a = 62 ∧ (j = 83 ∨ j = 84))) m (wr (wr y 62 84 ((m 62 84 + 20 - 1) % 20)) 62 83 (m 57 8 - 1)) := by
          refine Ex.put (Ex.put ?_ (Or.inr (Or.inr ⟨rfl, Or.inr rfl⟩))) (Or.inr (Or.inr ⟨rfl, Or.inl rfl⟩))
          exact (bx.mono (fun a j q => Or.inl q)).trans (he.mono (fun a j q => Or.inr (Or.inl q)))
        have f83 : wr (wr y 62 84 ((m 62 84 + 20 - 1) % 20)) 62 83 (m 57 8 - 1) 62 83 = m 57 8 - 1 := wr_eq _ _ _ _
        have f84 : wr (wr y 62 84 ((m 62 84 + 20 - 1) % 20)) 62 83 (m 57 8 - 1) 62 84 = (m 62 84 + 20 - 1) % 20 := by rw [wr_ne _ _ _ _ _ _ (by omega), wr_eq]
        have fo : ∀ a j, a ≠ 62 → wr (wr y 62 84 ((m 62 84 + 20 - 1) % 20)) 62 83 (m 57 8 - 1) a j = y a j := fun a j q => by rw [wr_na _ _ _ _ _ _ q, wr_na _ _ _ _ _ _ q]
        generalize wr (wr y 62 84 ((m 62 84 + 20 - 1) % 20)) 62 83 (m 57 8 - 1) = x at hx f83 f84 fo ⊢
        have x57 : ∀ j, x 57 j = z 57 j := fun j => (fo 57 j (by decide)).trans (he 57 j (by omega))
        have x58 : x 58 = m 58 := funext fun j => hx 58 j (by omega)
        have x125 : ∀ q, x 125 q = m 125 q := fun q => hx 125 q (by omega)
        refine ⟨ρ, nr, w, hi.mod hx (fun a j q => by unfold RelR; omega) (hi.tape.ex hx (fun a j q => by omega)) (hi.refs.up.ex hx (fun a j q => by omega)) (hi.flt.ex hx (fun a j q => by omega)) ⟨fun k hk => ?_, ?_⟩ ⟨?_, ?_, ?_, fun i hi => ?_⟩ (hi.seedl.ex hx (fun a j q => by omega)) (hi.pic.ex hx (fun a j q => by omega)) (rws_ex hi.rws hx (fun a j q => by omega)), hCa m _ ρ (fun a j q => hx a j (by unfold CaC at q; omega)) hc⟩
        · rw [fo 124 _ (by decide), x57]; exact e5 k hk
        · exact q0.2.congr (fun k hk => (x57 _).trans (bk k hk))
        · rw [x57, b8]; omega
        · rw [f83, x57, b8]
        · rw [f84]; omega
        · rw [x57, b8] at hi ⊢
          have q := p4 (i + 1) (by omega)
          rw [f84, x58]
          have ei : ((m 62 84 + 20 - 1) % 20 + 20 - (i : Int)) % 20 = (m 62 84 + 20 - ((i + 1 : Nat) : Int)) % 20 := by omega
          have ej : m 57 8 - 1 - 1 - (i : Int) = m 57 8 - 1 - ((i + 1 : Nat) : Int) := by omega
          rw [ei, ej]
          exact ⟨fun k hk => by rw [x125]; exact q.1 k hk, q.2⟩
      | succ j ih =>
        intro i y hi6 he e5
        have y84 : y 62 84 = m 62 84 := (he 62 84 (by decide)).trans z84
        refine g_X8_undo_21 ⟨by omega, fun c => absurd c (by omega), fun _ => ⟨by omega, by omega, by omega, by omega, ?_⟩⟩
        refine ih (i + 1) _ (by omega) (he.put rfl) (fun k hk => ?_)
        by_cases e : k = i
        · subst e
          rw [wr_eq, y84, he 125 _ (by omega), zo 125 _ (by decide), q0.1 k (by omega), bk k (by omega)]
        · rw [wr_ne _ _ _ _ _ _ (by omega)]; exact e5 k (by omega)
    exact ep_X8_undo (g_X8_undo_0 ⟨by omega, fun _ => l 6 0 z (by omega) (Ex.refl _ _) (fun k hk => by omega), fun q => absurd (by omega) q⟩)
end PU
