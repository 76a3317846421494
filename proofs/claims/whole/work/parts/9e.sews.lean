/-! pair: sews, the whole -/
section PX
variable {sc : List Int} {Ca : Mem → Mem → Prop} {d : Nat} {m ρ : Mem} {w : Int}
theorem pair_sews (hCa : CaFr Ca) (hH : CaH Ca) (n : Nat) (m : Mem) (w : Int) (hn : n < 512) (hi : Inv Ca n m) (h0 : R32 w) : PairI (Inv Ca) n m (P_X7_sews sc 1799 [aR 0, aI w]) (P_X8_sews sc 1799 [aR 62, aI w]) := by
  obtain ⟨ρ, nr, wd, hi, hc⟩ := hi
  have hb := hi.2.1
  have b0 := hb.1
  have hx := hi.2.2.1
  have hm := hi.mrm
  have H := hi.1.1
  have hrb := room_bd H
  have e8 := hx.1.2.1
  obtain ⟨hr, hxl, hml⟩ := Xt.rl hi
  obtain ⟨hE, hV, k5, y5⟩ := hi.day0
  have v0 := hV.1
  have k0 : m 124 0 = m 57 0 := hE.1.symm
  by_cases cc : (ρ 0 1 ≤ m 57 0) ∨ ¬ knF ρ w
  · -- a refusal
    have body : S_X7_sews sc 1799 30 [aR 0, aU, aU, aU, aU] [aI 2, aR 0] m (fun v z => ∃ x, v = some (aI x) ∧ R32 x ∧ P_X8_sews sc 1799 [aR 62, aI w] z (fun v2 z2 => v2 = some (aI x) ∧ Inv Ca (n + 1) z2)) := by
      refine p_X7_sews_30 (d2 := 1798) (s_refuse (k := 2) (by omega)) (by decide) ?_
      rintro _ z ⟨e, rfl⟩; cases e
      refine g_X7_sews_33 ⟨_, rfl, by unfold R32; omega, ?_⟩
      have hz : ∀ a j, a ≠ 61 → wr m 61 ((2 : Nat) : Int) (m 61 ((2 : Nat) : Int) + 1) a j = m a j := fun a j q => wr_na _ _ _ _ _ _ q
      have hf := Inv.refuse hCa hi hc 2 (by omega)
      generalize wr m 61 ((2 : Nat) : Int) (m 61 ((2 : Nat) : Int) + 1) = z at hz hf ⊢
      have hm2 : MRm z ρ := hm.ex (C := fun a j => a = 61) (fun a j q => hz a j q) (fun a j q c => by omega)
      have fin : S_X8_sews sc 1799 16 [aR 62, aU, aU] [aR 62] z (fun v2 z2 => v2 = some (aI (-1)) ∧ Inv Ca (n + 1) z2) := by
        refine p_X8_sews_16 (d2 := 1798) s_refuses (by decide) ?_
        rintro _ z' ⟨e, rfl⟩; cases e
        exact g_X8_sews_19 ⟨rfl, hf⟩
      refine ep_X8_sews (g_X8_sews_0 (p_X8_sews_2 (d2 := 1798) (s_isSewer hm2 hb (by decide) h0) (by decide) ?_))
      rintro _ z ⟨rfl, ⟨e, q⟩ | ⟨e, q⟩⟩ <;> cases e
      · refine g_X8_sews_5 ⟨by omega, fun c => absurd c (by decide), fun _ => ?_⟩
        refine p_X8_sews_9 (d2 := 1798) (s_isLeft hm2 hb (by decide) (by rw [hz 124 0 (by decide), k0]; unfold R32; omega)) (by decide) ?_
        rintro _ z' ⟨e, rfl⟩; cases e
        have ge : ρ 0 1 ≤ m 57 0 := cc.elim id (fun p => absurd q p)
        rw [if_pos (by rw [hz 124 0 (by decide), k0]; exact ge)]
        exact g_X8_sews_12 ⟨by omega, fun c => absurd rfl c, fun _ => fin⟩
      · exact g_X8_sews_5 ⟨by omega, fun _ => fin, fun c => absurd rfl c⟩
    refine ep_X7_sews (g_X7_sews_0 ⟨H, by omega, by omega, fun _ => body, fun c => ?_⟩)
    refine p_X7_sews_22 (d2 := 1798) H (s_X6_knows H hx hb h0) (by decide) ?_
    rintro _ m ⟨rfl, ⟨e, q⟩ | ⟨e, q⟩⟩ <;> cases e
    · exact absurd cc (fun p => p.elim (fun p => c (by omega)) (fun p => p q))
    · exact g_X7_sews_25 ⟨by omega, fun c => absurd rfl c, fun _ => body⟩
  have lt : m 57 0 < ρ 0 1 := by
    by_cases g : m 57 0 < ρ 0 1
    · exact g
    · exact absurd (Or.inl (by omega)) cc
  have kn : knF ρ w := Classical.not_not.mp (fun g => cc (Or.inr g))
  have kw : 0 ≤ w ∧ w < 4 + ρ 0 2 := ⟨kn.2.1, kn.2.2.1⟩
  have h3 : ρ 0 3 ≠ 0 := by have := kn.1; omega
  -- prepared
  have go : ∀ p : Mem, Ex (C_pr (m 0 2)) m p → ChC p ρ → (w = 3 → ρ 0 1 ≤ 6 ∧ FrX p ρ 3 (ρ 0 1).toNat) → S_X7_sews sc 1799 51 [aR 0, aI w, aU, aU, aU] [] p (fun v z => ∃ x, v = some (aI x) ∧ R32 x ∧ P_X8_sews sc 1799 [aR 62, aI w] z (fun v2 z2 => v2 = some (aI x) ∧ Inv Ca (n + 1) z2)) := by
    intro p pe pc pf
    have p02 : p 0 2 = m 0 2 := pe 0 2 (by unfold C_pr C_wx; omega)
    have pi : InvB n p ρ nr wd := hi.ex pe (cpr_rel H)
    obtain ⟨pE, pV, pk5, py5⟩ := pi.day0
    have pP := pi.past
    have p57 : ∀ j, p 57 j = m 57 j := fun j => pe 57 j (by unfold C_pr C_wx; omega)
    have pm : ∀ a j : Int, 57 ≤ a → p a j = m a j := fun a j q => pe a j (by unfold C_pr C_wx; omega)
    refine g_X7_sews_51 (p_X7_sews_55 (d2 := 1798) (s_keep (by decide) pP.1) (by decide) ?_)
    rintro z1 ⟨-, hk⟩
    have z0 : ∀ a j, a ≠ 58 → ¬ (a = 57 ∧ j = 8) → z1 a j = p a j := fun a j q1 q2 => hk.1 a j (fun q => q.elim q1 q2)
    have E1 : StE (p 57) (z1 57) := StE.ex (fun k _ _ => z0 57 k (by decide) (by omega))
    have z15 : z1 57 5 = p 57 5 := z0 57 5 (by decide) (by omega)
    obtain ⟨nn, hnn⟩ : ∃ nn : Nat, m 57 0 + nn = ρ 0 1 := ⟨(ρ 0 1 - m 57 0).toNat, by omega⟩
    have z10 : z1 57 0 = m 57 0 := (E1.1.symm).trans (p57 0)
    refine l_X7_sews (z1 := z1) (r := m 0 2) (n := nn) H ((ex_pr H hx pe).ex hk.1 (fun a j q1 q2 => by unfold C_kx; omega)) hb hr ⟨fun k hk2 => by rw [z0 _ _ (by omega) (by omega)]; exact (ex_prl H hxl pe).1 k hk2, fun j hj => by rw [z0 _ _ (by omega) (by omega)]; exact (ex_prl H hxl pe).2 j hj⟩ kw (by decide) (fun q => ⟨(pf q).1, fun i hi => by rw [z0 38 _ (by decide) (by omega)]; exact (pf q).2 i hi⟩) ((z0 0 2 (by decide) (by omega)).trans p02) (pV.congr E1) (by rw [z15]; exact py5) (by omega) ?_
    intro z2 t z2E hsw z25
    have ok := SwR.ok hb nn _ _ _ (pV.congr E1) (by rw [z10]; omega) hsw
    refine ⟨t, rfl, by unfold R32; omega, ?_⟩
    have zm : ∀ a j : Int, 59 ≤ a → z2 a j = m a j := fun a j q => (z2E a j (by unfold C_xs C_wx C_sx; omega)).trans ((z0 a j (by omega) (by omega)).trans (pm a j (by omega)))
    have hm2 : MRm z2 ρ := hm.ex (C := fun a j => a < 59) (fun a j q => zm a j (by omega)) (fun a j q c => by omega)
    have hml2 : MRl z2 ρ := hml.ex (C := fun a j => a < 59) (fun a j q => zm a j (by omega)) (fun a j q => by omega)
    refine ep_X8_sews (g_X8_sews_0 (p_X8_sews_2 (d2 := 1798) (s_isSewer hm2 hb (by decide) h0) (by decide) ?_))
    rintro _ z2 ⟨rfl, ⟨e, q⟩ | ⟨e, q⟩⟩ <;> cases e
    · refine g_X8_sews_5 ⟨by omega, fun c => absurd c (by decide), fun _ => ?_⟩
      refine p_X8_sews_9 (d2 := 1798) (s_isLeft hm2 hb (by decide) (by rw [zm 124 0 (by decide), k0]; unfold R32; omega)) (by decide) ?_
      rintro _ z2 ⟨e, rfl⟩; cases e
      rw [if_neg (by rw [zm 124 0 (by decide), k0]; omega)]
      refine g_X8_sews_12 ⟨by omega, fun _ => ?_, fun c => absurd (by decide) c⟩
      have p83 : z2 62 83 = m 62 83 := zm 62 83 (by decide)
      have p84 : z2 62 84 = m 62 84 := zm 62 84 (by decide)
      have hP := hi.past
      refine p_X8_sews_21 (d2 := 1798) (s_keeps (by rw [p83, hP.2.1]; exact hP.1) (by rw [p84]; exact hP.2.2.1)) (by decide) ?_
      rintro z3 ⟨-, hk3⟩
      have q3 : ∀ a j, a ≠ 125 → ¬ (a = 62 ∧ (j = 83 ∨ j = 84)) → z3 a j = z2 a j := fun a j q1 q2 => hk3.1 a j (fun q => q.elim q1 q2)
      have hm3 : MRm z3 ρ := hm2.ex hk3.1 (fun a j q c => by unfold C_km at c; omega)
      have hml3 : MRl z3 ρ := hml2.ex hk3.1 (fun a j q => by unfold C_km at q; omega)
      have z3k : ∀ j, z3 124 j = m 124 j := fun j => (q3 124 j (by decide) (by omega)).trans (zm 124 j (by decide))
      have E3 : StE (m 57) (dyM z3) := hE.trans ⟨(z3k 0).symm, (z3k 1).symm, (z3k 2).symm, (z3k 3).symm, (z3k 4).symm, ((q3 62 85 (by decide) (by omega)).trans (zm 62 85 (by decide))).symm⟩
      have Ep : StE (m 57) (p 57) := StE.ex (fun k _ _ => p57 k)
      -- the means, then the seams
      have fin : ∀ u : Mem, Ex C_me z3 u → (w = 3 → ρ 0 1 ≤ 6 ∧ MnM u ρ 3 (ρ 0 1).toNat) → S_X8_sews sc 1799 34 [aR 62, aI w, aU] [] u (fun v2 z2 => v2 = some (aI t) ∧ Inv Ca (n + 1) z2) := by
        intro u ue uf
        have uk : ∀ j, u 124 j = z3 124 j := fun j => ue 124 j (by unfold C_me C_it; omega)
        have E4 : StE (dyM z3) (dyM u) := ⟨(uk 0).symm, (uk 1).symm, (uk 2).symm, (uk 3).symm, (uk 4).symm, (ue 62 85 (by unfold C_me C_it; omega)).symm⟩
        refine l_X8_sews (z1 := u) (n := nn) (hm3.ex ue (fun a j q c => by unfold C_me C_it at c; omega)) hb hr (hml3.ex ue (fun a j q => by unfold C_me C_it at q; omega)) kw (by decide) uf (hV.congr (E3.trans E4)) (by rw [uk, z3k, k5]; exact y5) (by rw [uk, z3k, k0]; exact hnn) ?_
        intro z4 t' z4E hsw4 z45
        obtain ⟨gE, rfl⟩ := SwR.eq hb nn _ _ _ _ _ _ ((E1.symm.trans Ep.symm).trans (E3.trans E4)) hsw hsw4
        refine ⟨rfl, ρ, nr, wd, ?_, ?_⟩
        · have zz : ∀ k, z4 57 k = z2 57 k := fun k => (z4E 57 k (by unfold C_ms C_it C_sm; omega)).trans ((ue 57 k (by unfold C_me C_it; omega)).trans (q3 57 k (by decide) (by omega)))
          refine pi.acted (C2 := fun a j => C_me a j ∨ C_ms a j) hk z2E (fun a j q => ?_) hk3 ((ue.mono (fun a j q => Or.inl q)).trans (z4E.mono (fun a j q => Or.inr q))) (fun a j q => ?_) ?_ ?_ ?_ ?_
          · rcases q with (q | q) | q
            · refine Or.inr ⟨by unfold C_wx at q; omega, cpr_rel H a j (Or.inl q)⟩
            · unfold C_sx at q
              exact Or.inl (by omega)
            · exact Or.inl (by omega)
          · rcases q with q | q | q | q
            · exact Or.inr (Or.inr ⟨by unfold C_me C_it at q; omega, cme_rel a j q⟩)
            · exact Or.inr (Or.inr ⟨by unfold C_it at q; omega, cme_rel a j (Or.inl q)⟩)
            · rcases q with ⟨rfl, -⟩ | ⟨rfl, rfl | rfl⟩
              · exact Or.inl rfl
              · exact Or.inr (Or.inl ⟨rfl, rfl⟩)
              · refine Or.inr (Or.inr ⟨by decide, ?_⟩)
                unfold Rel
                omega
            · obtain ⟨rfl, rfl⟩ := q
              refine Or.inr (Or.inr ⟨by decide, ?_⟩)
              unfold Rel
              omega
          · exact (StE.ex (fun k _ _ => zz k)).symm.trans gE
          · rw [z45, zz, z25, uk, z3k, k5, z15, p57]
          · exact ok.1.congr (StE.ex (fun k _ _ => zz k))
          · rw [zz, z25]
            unfold capF
            split <;> omega
        · have fr : ∀ a j : Int, CaC a j → z4 a j = p a j := fun a j q => by
            have q' := q
            unfold CaC at q'
            rw [z4E a j (by unfold C_ms C_it C_sm; omega), ue a j (by unfold C_me C_it; omega), q3 a j (by omega) (by omega), z2E a j (by unfold C_xs C_wx C_sx; omega)]
            exact z0 a j (by omega) (by omega)
          refine hH.2 m z4 ρ hc (fun a j q1 q2 => ?_) (pc.ex (fun a j q => fr a j (by unfold CaC; omega)))
          rw [fr a j q1]
          exact pe a j (fun g => q2 (cpr_ca H a j g q1))
      refine g_X8_sews_24 ⟨by omega, fun c => fin z3 (Ex.refl _ _) (fun q => absurd q c), fun c => ?_⟩
      have c3 : w = 3 := Classical.not_not.mp c
      refine p_X8_sews_31 (d2 := 1798) (s_means (w := 3) hm3 hb hr hml3 h3 (kn.2.2.2 c3) (Or.inl ⟨rfl, by decide, by omega⟩) (by decide)) (by decide) ?_
      rintro u ⟨-, g1, g2⟩
      exact fin u g1 (fun _ => ⟨kn.2.2.2 c3, g2⟩)
    · exact absurd kn q
  refine ep_X7_sews (g_X7_sews_0 ⟨H, by omega, by omega, fun c => absurd c (by omega), fun _ => ?_⟩)
  refine p_X7_sews_22 (d2 := 1798) H (s_X6_knows H hx hb h0) (by decide) ?_
  rintro _ m ⟨rfl, ⟨e, q⟩ | ⟨e, q⟩⟩ <;> cases e
  · refine g_X7_sews_25 ⟨by omega, fun _ => ⟨h0, fun c => go m (Ex.refl _ _) (hH.1 m ρ hc) (fun q => absurd q c), fun c => ?_⟩, fun c => absurd (by decide) c⟩
    have c3 : w = 3 := Classical.not_not.mp c
    have h6 := kn.2.2.2 c3
    have hw3 : (3 : Int) = -2 ∨ (0 ≤ (3 : Int) ∧ (3 : Int) < 4 + ρ 0 2) := Or.inr ⟨by decide, by omega⟩
    refine p_X7_sews_48 (d2 := 1798) H (s_X0_prepare H hx hb hr hxl h3 h6 hw3 (hH.1 m ρ hc) (by decide)) (by decide) ?_
    rintro z ⟨-, g1, g2, g4⟩
    exact go z g1 (ChC.of hw3 g2 g4) (fun _ => ⟨h6, g4⟩)
  · exact absurd kn q
end PX
