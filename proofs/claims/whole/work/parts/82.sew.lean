/-! pair: sew -/
section PS
variable {sc : List Int} {Ca : Mem → Mem → Prop} {d : Nat} {m : Mem}
/-- an act: the day is kept on both sides, then it changes alike (and scratch cells) -/
theorem InvB.acted {C1 C2 : Int → Int → Prop} {n : Nat} {z1 z2 z3 z4 ρ : Mem} {nr : Int} {w : Int → Int} (hi : InvB n m ρ nr w) (hk : KpX m z1) (h1 : Ex C1 z1 z2) (c1 : ∀ a j, C1 a j → (a = 57 ∧ 0 ≤ j ∧ j ≤ 6) ∨ (a ≤ 56 ∧ ¬ Rel a j)) (hk2 : KpM z2 z3) (h2 : Ex C2 z3 z4) (c2 : ∀ a j, C2 a j → a = 124 ∨ (a = 62 ∧ j = 85) ∨ (62 ≤ a ∧ ¬ Rel a j)) (hE : StE (z4 57) (dyM z4)) (e5 : z4 124 5 = z4 57 5) (hV : StV ρ (z4 57)) (b5 : 0 ≤ z4 57 5 ∧ z4 57 5 ≤ 9999) : InvB (n + 1) z4 ρ nr w := by
  have all : ∀ a j, Rel a j → ¬ ((a = 57 ∧ 0 ≤ j ∧ j ≤ 8) ∨ a = 58 ∨ a = 125 ∨ (a = 62 ∧ (j = 83 ∨ j = 84 ∨ j = 85)) ∨ a = 124) → z4 a j = m a j := fun a j q1 q2 => by
    rw [h2 a j (fun c => ?_), hk2.1 a j (fun c => ?_), h1 a j (fun c => ?_), hk.1 a j (fun c => ?_)]
    · rcases c with rfl | ⟨rfl, rfl⟩
      · exact q2 (Or.inr (Or.inl rfl))
      · exact q2 (Or.inl ⟨rfl, by omega, by omega⟩)
    · rcases c1 a j c with ⟨rfl, p1, p2⟩ | ⟨p1, p2⟩
      · exact q2 (Or.inl ⟨rfl, by omega, by omega⟩)
      · exact p2 q1
    · rcases c with rfl | ⟨rfl, p⟩
      · exact q2 (Or.inr (Or.inr (Or.inl rfl)))
      · exact q2 (Or.inr (Or.inr (Or.inr (Or.inl ⟨rfl, by omega⟩))))
    · rcases c2 a j c with rfl | ⟨rfl, rfl⟩ | ⟨p1, p2⟩
      · exact q2 (Or.inr (Or.inr (Or.inr (Or.inr rfl))))
      · exact q2 (Or.inr (Or.inr (Or.inr (Or.inl ⟨rfl, by omega⟩))))
      · exact p2 q1
  have hP : PastL z4 ρ := by
    refine (past_kept hi.past hi.dayl hk h1 (fun a j q => ?_) hk2).ex h2 (fun a j q c => ?_)
    · rcases c1 a j q with ⟨rfl, p1, p2⟩ | ⟨p1, p2⟩ <;> omega
    · rcases c2 a j q with rfl | ⟨rfl, rfl⟩ | ⟨p1, p2⟩
      · omega
      · omega
      · rcases c with ⟨rfl, rfl⟩ | ⟨rfl, c⟩ | rfl | rfl
        · omega
        · exact p2 (rel62 (by omega))
        · omega
        · exact p2 (rel124 (by omega))
  obtain ⟨f0, f1, f2, f3, f4, f6⟩ := hE
  rw [dyM_0] at f0
  rw [dyM_1] at f1
  rw [dyM_2] at f2
  rw [dyM_3] at f3
  rw [dyM_4] at f4
  rw [dyM_6] at f6
  obtain ⟨v0, v1, v3, v4, v6⟩ := hV
  let m' : Mem := fun a j => @ite Int (Rel a j) (Classical.propDecidable _) (m a j) (z4 a j)
  have i' : InvB n m' ρ nr w := hi.ex (C := fun a j => ¬ Rel a j) (fun a j q => if_pos (Classical.not_not.mp q)) (fun a j q => q)
  have e' : Ex (fun a j => (a = 57 ∧ 0 ≤ j ∧ j ≤ 8) ∨ a = 58 ∨ a = 125 ∨ (a = 62 ∧ (j = 83 ∨ j = 84 ∨ j = 85)) ∨ a = 124) m' z4 := fun a j q => by
    by_cases c : Rel a j
    · rw [show m' a j = m a j from if_pos c]; exact all a j c q
    · exact (show m' a j = z4 a j from if_neg c).symm
  refine i'.mod e' (fun a j q => by unfold RelR; omega) (i'.tape.ex e' (fun a j q => by omega)) (i'.refs.up.ex e' (fun a j q => by omega)) (i'.flt.ex e' (fun a j q => by omega)) ⟨fun k hk => ?_, ⟨v0, v1, v3, v4, b5⟩⟩ hP ⟨f6.symm, v6⟩ (i'.pic.ex e' (fun a j q => by omega)) (rws_ex i'.rws e' (fun a j q => by omega))
  rcases (by omega : k = 0 ∨ k = 1 ∨ k = 2 ∨ k = 3 ∨ k = 4 ∨ k = 5) with rfl | rfl | rfl | rfl | rfl | rfl
  · exact f0.symm
  · exact f1.symm
  · exact f2.symm
  · exact f3.symm
  · exact f4.symm
  · exact e5
theorem InvB.day0 {n : Nat} {ρ : Mem} {nr : Int} {w : Int → Int} (hi : InvB n m ρ nr w) : StE (m 57) (dyM m) ∧ StV ρ (m 57) ∧ m 124 5 = m 57 5 ∧ 0 ≤ m 57 5 ∧ m 57 5 ≤ 9999 := by
  have hD := hi.dayl
  have hS := hi.seedl
  obtain ⟨y0, y1, y3, y4, y5⟩ := hD.2
  exact ⟨⟨(hD.1 0 (by omega)).symm, (hD.1 1 (by omega)).symm, (hD.1 2 (by omega)).symm, (hD.1 3 (by omega)).symm, (hD.1 4 (by omega)).symm, hS.1.symm⟩, ⟨y0, y1, y3, y4, hS.2⟩, hD.1 5 (by omega), y5⟩
theorem StE.ex {f f' : Int → Int} (h : ∀ k : Int, 0 ≤ k → k ≤ 6 → f' k = f k) : StE f f' := ⟨(h 0 (by decide) (by decide)).symm, (h 1 (by decide) (by decide)).symm, (h 2 (by decide) (by decide)).symm, (h 3 (by decide) (by decide)).symm, (h 4 (by decide) (by decide)).symm, (h 6 (by decide) (by decide)).symm⟩
theorem StE.trans {f g h : Int → Int} (a : StE f g) (b : StE g h) : StE f h := ⟨a.1.trans b.1, a.2.1.trans b.2.1, a.2.2.1.trans b.2.2.1, a.2.2.2.1.trans b.2.2.2.1, a.2.2.2.2.1.trans b.2.2.2.2.1, a.2.2.2.2.2.trans b.2.2.2.2.2⟩
theorem StE.symm {f g : Int → Int} (a : StE f g) : StE g f := ⟨a.1.symm, a.2.1.symm, a.2.2.1.symm, a.2.2.2.1.symm, a.2.2.2.2.1.symm, a.2.2.2.2.2.symm⟩
theorem StR.mend01 {ρ : Mem} {ch t : Int} {f g : Int → Int} (h : StR ρ ch f g t) : g 4 = f 4 ∨ g 4 = f 4 + 1 := by
  obtain ⟨p, t1, t2, ⟨⟨a0, a4⟩, a⟩, ⟨⟨b0, b3⟩, b⟩, rfl⟩ := h
  rcases b with ⟨-, -, -, q, -⟩ | ⟨-, -, -, q, -⟩ <;> omega
theorem pair_sew (hCa : CaFr Ca) (n : Nat) (m : Mem) (c : Int) (hn : n < 512) (hi : Inv Ca n m) (h0 : c = 0 ∨ c = 1) : PairI (Inv Ca) n m (P_X7_sew sc 1799 [aR 0, aI c]) (P_X8_sew sc 1799 [aR 62, aI c]) := by
  obtain ⟨ρ, nr, w, hi, hc⟩ := hi
  have hb := hi.2.1
  have b0 := hb.1
  have hx := hi.2.2.1
  have hm := hi.mrm
  have hr := room_bd hi.1.1
  have e8 := hx.1.2.1
  have hP := hi.past
  obtain ⟨hE, hV, k5, y5⟩ := hi.day0
  obtain ⟨v0, v1, v3, v4, v6⟩ := hV
  have k0 : m 124 0 = m 57 0 := hE.1.symm
  have k1 : m 124 1 = m 57 1 := hE.2.1.symm
  obtain ⟨s, hs⟩ := Int.eq_ofNat_of_zero_le v0.1
  have hc32 : R32 c := by first | omega | (unfold R32; omega)
  have refX : ((m (m 0 2) 8 ≤ m 57 0) ∨ (c = 1 ∧ m 57 1 = 0)) → PairI (Inv Ca) n m (P_X7_sew sc 1799 [aR 0, aI c]) (P_X8_sew sc 1799 [aR 62, aI c]) := by
    intro q
    have body : S_X7_sew sc 1799 33 [aR 0, aU, aU] [aI 2, aR 0] m (fun v z => ∃ x, v = some (aI x) ∧ R32 x ∧ P_X8_sew sc 1799 [aR 62, aI c] z (fun v2 z2 => v2 = some (aI x) ∧ Inv Ca (n + 1) z2)) := by
      refine p_X7_sew_33 (d2 := 1798) (s_refuse (k := 2) (by omega)) (by decide) ?_
      rintro _ z ⟨e, rfl⟩; cases e
      refine g_X7_sew_36 ⟨_, rfl, by first | omega | (unfold R32; omega), ?_⟩
      have hz : ∀ a j, a ≠ 61 → wr m 61 ((2 : Nat) : Int) (m 61 ((2 : Nat) : Int) + 1) a j = m a j := fun a j q => wr_na _ _ _ _ _ _ q
      have hf := Inv.refuse hCa hi hc 2 (by omega)
      generalize wr m 61 ((2 : Nat) : Int) (m 61 ((2 : Nat) : Int) + 1) = z at hz hf ⊢
      have hm2 : MRm z ρ := hm.ex (C := fun a j => a = 61) (fun a j q => hz a j q) (fun a j q c => by omega)
      have fin : S_X8_sew sc 1799 21 [aR 62, aU] [aR 62] z (fun v2 z2 => v2 = some (aI (-1)) ∧ Inv Ca (n + 1) z2) := by
        refine p_X8_sew_21 (d2 := 1798) s_refuses (by decide) ?_
        rintro _ z' ⟨e, rfl⟩; cases e
        exact g_X8_sew_24 ⟨rfl, hf⟩
      refine ep_X8_sew (g_X8_sew_0 ?_)
      refine p_X8_sew_1 (d2 := 1798) (s_isLeft hm2 hb (by decide) (by rw [hz 124 0 (by decide), k0]; first | omega | (unfold R32; omega))) (by decide) ?_
      rintro _ z' ⟨e, rfl⟩; cases e
      rw [hz 124 0 (by decide), k0]
      refine g_X8_sew_4 ⟨by first | (split <;> omega) | (unfold R32; split <;> omega), fun _ => fin, fun q2 => ?_⟩
      have lt : ¬ ρ 0 1 ≤ m 57 0 := fun g => q2 (if_pos g)
      have c1 : c = 1 ∧ m 57 1 = 0 := by omega
      refine ⟨hc32, fun q3 => by omega, fun _ => ⟨by rw [hz 124 1 (by decide), k1]; first | omega | (unfold R32; omega), fun q4 => absurd (by rw [hz 124 1 (by decide), k1]; exact c1.2) q4, fun _ => fin⟩⟩
    refine ep_X7_sew (g_X7_sew_0 ⟨hi.1.1, by first | omega | (unfold R32; omega), by first | omega | (unfold R32; omega), fun _ => body, fun q2 => ⟨hc32, fun q3 => by omega, fun q3 => ⟨by first | omega | (unfold R32; omega), fun q4 => by omega, fun _ => body⟩⟩⟩)
  by_cases cc : (m (m 0 2) 8 ≤ m 57 0) ∨ (c = 1 ∧ m 57 1 = 0)
  · exact refX cc
  have lt : m 57 0 < ρ 0 1 := by omega
  have body : S_X7_sew sc 1799 49 [aR 0, aI c, aI (m 57 4)] [aR 57] m (fun v z => ∃ x, v = some (aI x) ∧ R32 x ∧ P_X8_sew sc 1799 [aR 62, aI c] z (fun v2 z2 => v2 = some (aI x) ∧ Inv Ca (n + 1) z2)) := by
    refine p_X7_sew_49 (d2 := 1798) (s_keep (by decide) hP.1) (by decide) ?_
    rintro z1 ⟨-, hk⟩
    have z0 : ∀ a j, a ≠ 58 → ¬ (a = 57 ∧ j = 8) → z1 a j = m a j := fun a j q1 q2 => hk.1 a j (fun q => q.elim q1 q2)
    have z02 : z1 0 2 = m 0 2 := z0 0 2 (by decide) (by omega)
    refine g_X7_sew_52 ?_
    rw [z02]
    have E1 : StE (m 57) (z1 57) := StE.ex (fun k _ _ => z0 57 k (by decide) (by omega))
    refine p_X7_sew_65 (d2 := 1798) hi.1.1 (s_stitch (s := s) hi.1.1 (hx.ex hk.1 (fun a j q1 q2 => by unfold C_kx; omega)) hb hc32 (by omega) (by rw [← E1.1]; exact hs) (StV.congr ⟨v0, v1, v3, v4, v6⟩ E1) (by decide)) (by decide) ?_
    rintro t z2 ⟨t2, e, hx2, hR⟩; cases e
    have ok := hR.ok hb (by rw [← E1.1]; exact lt) (StV.congr ⟨v0, v1, v3, v4, v6⟩ E1)
    have z25 : z2 57 5 = m 57 5 := (hx2 57 5 (by unfold C_sx; omega)).trans (z0 57 5 (by decide) (by omega))
    refine g_X7_sew_68 (p_X7_sew_68 (d2 := 1798) (s_pay (by decide) (by rw [z25]; first | omega | (unfold R32; omega))) (by decide) ?_)
    rintro z3 ⟨-, rfl⟩
    rw [z25]
    have zx : Ex (fun a j => a = 57 ∧ 0 ≤ j ∧ j ≤ 6) z1 (wr z2 57 5 (capF (m 57 5) t)) := (hx2.mono (fun a j q => by unfold C_sx at q; omega)).put ⟨rfl, by omega, by omega⟩
    have f5 : wr z2 57 5 (capF (m 57 5) t) 57 5 = capF (m 57 5) t := wr_eq _ _ _ _
    have fE : StE (z2 57) (wr z2 57 5 (capF (m 57 5) t) 57) := ⟨by rw [wr_ne _ _ _ _ _ _ (by omega)], by rw [wr_ne _ _ _ _ _ _ (by omega)], by rw [wr_ne _ _ _ _ _ _ (by omega)], by rw [wr_ne _ _ _ _ _ _ (by omega)], by rw [wr_ne _ _ _ _ _ _ (by omega)], by rw [wr_ne _ _ _ _ _ _ (by omega)]⟩
    generalize wr z2 57 5 (capF (m 57 5) t) = z at zx f5 fE ⊢
    have m01 := hR.mend01
    have f4 : z 57 4 = z2 57 4 := fE.2.2.2.2.1.symm
    have g4 : z1 57 4 = m 57 4 := E1.2.2.2.2.1.symm
    refine g_X7_sew_71 ⟨_, rfl, by rw [f4]; first | omega | (unfold R32; omega), ?_⟩
    have zm : ∀ a j, 59 ≤ a → z a j = m a j := fun a j q => (zx a j (by omega)).trans (z0 a j (by omega) (by omega))
    have hm2 : MRm z ρ := hm.ex (C := fun a j => a < 59) (fun a j q => zm a j (by omega)) (fun a j q c => by omega)
    have z124 : ∀ j, z 124 j = m 124 j := fun j => zm 124 j (by decide)
    refine ep_X8_sew (g_X8_sew_0 ?_)
    refine p_X8_sew_1 (d2 := 1798) (s_isLeft hm2 hb (by decide) (by rw [z124, k0]; first | omega | (unfold R32; omega))) (by decide) ?_
    rintro _ z' ⟨e, rfl⟩; cases e
    rw [if_neg (by rw [z124, k0]; omega)]
    have p83 : z' 62 83 = m 62 83 := zm 62 83 (by decide)
    have p84 : z' 62 84 = m 62 84 := zm 62 84 (by decide)
    have body2 : S_X8_sew sc 1799 26 [aR 62, aI c] [aR 62] z' (fun v2 z2 => v2 = some (aI (z' 57 4 - m 57 4)) ∧ Inv Ca (n + 1) z2) := by
      refine p_X8_sew_26 (d2 := 1798) (s_keeps (by rw [p83, hP.2.1]; exact hP.1) (by rw [p84]; exact hP.2.2.1)) (by decide) ?_
      rintro z3 ⟨-, hk3⟩
      have q3 : ∀ a j, a ≠ 125 → ¬ (a = 62 ∧ (j = 83 ∨ j = 84)) → z3 a j = z' a j := fun a j q1 q2 => hk3.1 a j (fun q => q.elim q1 q2)
      have hm3 : MRm z3 ρ := hm2.ex hk3.1 (fun a j q c => by unfold C_km at c; omega)
      have z3124 : ∀ j, z3 124 j = m 124 j := fun j => (q3 124 j (by decide) (by omega)).trans (z124 j)
      have z385 : z3 62 85 = m 62 85 := (q3 62 85 (by decide) (by omega)).trans (zm 62 85 (by decide))
      have E3 : StE (m 57) (dyM z3) := hE.trans ⟨(z3124 0).symm, (z3124 1).symm, (z3124 2).symm, (z3124 3).symm, (z3124 4).symm, z385.symm⟩
      refine g_X8_sew_29 ?_
      refine p_X8_sew_31 (d2 := 1798) (s_isSewn (s := s) hm3 hb hc32 (by omega) (by rw [z3124, k0]; exact hs) (StV.congr ⟨v0, v1, v3, v4, v6⟩ E3) (by rw [z3124, k5]; exact y5) (by decide)) (by decide) ?_
      rintro v4' z4 ⟨t', e, hx4, hR4, c5, c86⟩; cases e
      obtain ⟨gE, rfl⟩ := StR.eq hb (E1.symm.trans E3) hR hR4
      have m4 : z4 124 4 = z2 57 4 := gE.2.2.2.2.1.symm
      have n4 : z3 124 4 = m 57 4 := (z3124 4).trans hE.2.2.2.2.1.symm
      have zz : ∀ k, z4 57 k = z' 57 k := fun k => (hx4 57 k (by unfold C_sm; omega)).trans (q3 57 k (by decide) (by omega))
      refine g_X8_sew_34 ⟨by first | (split <;> omega) | (unfold R32; split <;> omega), ?_, ρ, nr, w, hi.acted hk zx (fun a j q => Or.inl q) hk3 hx4 (fun a j q => ?_) ?_ ?_ ?_ ?_, ?_⟩
      · rw [m4, n4, f4]
        rcases m01 with g | g
        · rw [if_pos (by omega), show z2 57 4 - m 57 4 = 0 by omega]
        · rw [if_neg (by omega), show z2 57 4 - m 57 4 = 1 by omega]
      · rcases q with ⟨rfl, -⟩ | ⟨rfl, rfl | rfl⟩
        · exact Or.inl rfl
        · exact Or.inr (Or.inl ⟨rfl, rfl⟩)
        · refine Or.inr (Or.inr ⟨by decide, ?_⟩)
          unfold Rel
          omega
      · exact (StE.ex (fun k _ _ => zz k)).symm.trans (fE.symm.trans gE)
      · rw [c5, zz, f5, z3124, k5]
      · exact ok.1.congr (fE.trans (StE.ex (fun k _ _ => zz k)))
      · rw [zz, f5]
        unfold capF
        split <;> omega
      · refine hCa m z4 ρ (fun a j q => ?_) hc
        rw [hx4 a j (by unfold CaC at q; unfold C_sm; omega), q3 a j (by unfold CaC at q; omega) (by unfold CaC at q; omega), zx a j (by unfold CaC at q; omega)]
        exact z0 a j (by unfold CaC at q; omega) (by unfold CaC at q; omega)
    refine g_X8_sew_4 ⟨by omega, fun q => absurd q (by decide), fun _ => ⟨hc32, fun _ => body2, fun q => ⟨by rw [z124, k1]; first | omega | (unfold R32; omega), fun _ => body2, fun q2 => ?_⟩⟩⟩
    rw [z124, k1] at q2
    omega
  refine ep_X7_sew (g_X7_sew_0 ⟨hi.1.1, by first | omega | (unfold R32; omega), by first | omega | (unfold R32; omega), fun q => absurd q (by omega), fun q2 => ⟨hc32, fun q3 => body, fun q3 => ⟨by first | omega | (unfold R32; omega), fun q4 => body, fun q => by omega⟩⟩⟩)
end PS
