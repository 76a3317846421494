/-! pair: ask -/
section QP2
variable {sc : List Int} {Ca : Mem → Mem → Prop}
theorem pair_ask (hH : CaH Ca) (n : Nat) (m : Mem) (a0 a1 : Int) (hn : n < 512) (hi : Inv Ca n m) (h0 : R32 a0) (h1 : R32 a1) : PairJ (Inv Ca) n m (P_X7_ask sc 1799 [aR 0, aI a0, aI a1]) (P_X8_ask sc 1799 [aR 62, aI a0, aI a1]) := by
  obtain ⟨ρ, nr, w, hi, hc⟩ := hi
  have hb := hi.2.1
  have b0 := hb.1
  obtain ⟨hr, hxl, hml⟩ := Xt.rl hi
  obtain ⟨t1, t2, t3⟩ := hi.tape
  obtain ⟨N, hN⟩ := Int.eq_ofNat_of_zero_le t1.1
  have H := hi.1.1
  have Hb := room_bd H
  have fl := hi.flt
  have hW : WrdL m := hi.2.2.2.2.2.2.2.2.2.2.2.2.1.1
  have tT : ∀ i : Nat, i < N → m 1 i = m 1 i ∧ 0 ≤ m 1 i ∧ m 1 i ≤ 255 := fun i hi2 => ⟨rfl, (t3 i (by omega)).2⟩
  refine CallP.imp (s_X7_ask (T := m 1) (n := N) hi.xt hr hxl (hH.1 m ρ hc) (by omega) hN tT (by decide) h0 h1) ?_
  rintro v z ⟨ze, z1, zc, hz⟩
  have zk : ∀ a j, (62 ≤ a) → z a j = m a j := fun a j g => ze a j (by unfold C_x7 C_bg C_fo C_pr C_cw C_wx C_ax; rcases H with e | e <;> rw [e] <;> omega)
  have zm : MRm z ρ := hi.mrm.ex (C := fun a j => a < 62) (fun a j q => zk a j (by omega)) (fun a j q c => by omega)
  have zl : MRl z ρ := ⟨fun k hk => by rw [zk 101 _ (by decide), zk 102 _ (by decide)]; exact hml.1 k hk, fun j hj => by rw [zk 103 _ (by decide)]; exact hml.2 j hj⟩
  have ref := s_X8_ask (sc := sc) (d := 1799) (w := a0) (L := a1) (T := m 1) (n := N) zm hb hr zl (fun a j q => by rw [zk a j (by omega)]; exact hW a j q) (by omega) (by rw [zk 62 1 (by decide)]; omega) (fun i hi2 => by rw [zk 63 _ (by decide), (t3 i (by omega)).1]; exact tT i hi2) (by decide) h0 h1
  -- between calls again
  have fin : ∀ u : Mem, Ex C_aq z u → u 62 1 = 0 → (u 62 7 = u 32 7 ∧ u 62 8 = u 32 8 ∧ (0 ≤ u 32 7 ∧ u 32 7 ≤ 5) ∧ -1 ≤ u 32 8 ∧ u 32 8 ≤ 1600) → Inv Ca (n + 1) u := by
    intro u ue u1 uf
    have e : ∀ a j, ¬ C_x7 (m 0 2) a j → ¬ C_aq a j → u a j = m a j := fun a j g1 g2 => (ue a j g2).trans (ze a j g1)
    have u01 : u 0 1 = 0 := (ue 0 1 (by unfold C_aq; omega)).trans z1
    let y : Mem := fun a j => if (a = 0 ∧ j = 1) ∨ (a = 62 ∧ (j = 1 ∨ j = 7 ∨ j = 8)) ∨ (a = 32 ∧ (j = 7 ∨ j = 8)) then u a j else m a j
    have yE : Ex (fun a j => (a = 0 ∧ j = 1) ∨ (a = 62 ∧ (j = 1 ∨ j = 7 ∨ j = 8)) ∨ (a = 32 ∧ (j = 7 ∨ j = 8))) m y := fun a j g => if_neg g
    have yu : ∀ a j, ((a = 0 ∧ j = 1) ∨ (a = 62 ∧ (j = 1 ∨ j = 7 ∨ j = 8)) ∨ (a = 32 ∧ (j = 7 ∨ j = 8))) → y a j = u a j := fun a j g => if_pos g
    have hi2 := hi.up
    have iy : InvB (n + 1) y ρ nr w := by
      have q57 : y 57 = m 57 := funext fun j => yE 57 j (by omega)
      have q58 : y 58 = m 58 := funext fun j => yE 58 j (by omega)
      have q125 : y 125 = m 125 := funext fun j => yE 125 j (by omega)
      refine hi2.mod yE (fun a j g c => by unfold RelR at c; omega) ⟨?_, ?_, ?_⟩ ?_ ?_ ?_ ?_ ?_ ?_ ?_
      · rw [yu 0 1 (by omega), u01]; omega
      · rw [yu 62 1 (by omega), yu 0 1 (by omega), u1, u01]
      · intro i hi3; rw [yu 0 1 (by omega), u01] at hi3; omega
      · intro k hk; rw [yE 64 k (by omega), yE 61 k (by omega)]; exact hi2.refs k hk
      · unfold FltL; rw [yu 62 7 (by omega), yu 62 8 (by omega), yu 32 7 (by omega), yu 32 8 (by omega)]; exact uf
      · unfold DayL; rw [q57]; exact ⟨fun k hk => by rw [yE 124 k (by omega)]; exact hi.dayl.1 k hk, hi.dayl.2⟩
      · unfold PastL; rw [q57, q58, q125, yE 62 83 (by omega), yE 62 84 (by omega)]; exact hi.past
      · unfold SeedL; rw [q57, yE 62 85 (by omega)]; exact hi.seedl
      · unfold PicL; rw [yE 62 122 (by omega), yE 0 12 (by omega)]; exact ⟨hi.pic.1, hi.pic.2.1, fun k hk => by rw [yE 151 k (by omega), yE 60 k (by omega)]; exact hi.pic.2.2 k hk⟩
      · obtain ⟨w1, w2, w3⟩ := hi.rws
        exact ⟨w1.ex yE (fun a j q c => by rcases q with ⟨rfl, rfl⟩ | rfl <;> omega), w2.ex yE (fun a j q c => by rcases q with ⟨rfl, rfl⟩ | rfl <;> omega), w3⟩
    refine ⟨ρ, nr, w, iy.ex (C := fun a j => ¬ Rel a j) (fun a j g => ?_) (fun a j g c => g c), ?_⟩
    · have g2 : Rel a j := Classical.not_not.mp g
      by_cases c : (a = 0 ∧ j = 1) ∨ (a = 62 ∧ (j = 1 ∨ j = 7 ∨ j = 8)) ∨ (a = 32 ∧ (j = 7 ∨ j = 8))
      · exact (yu a j c).symm
      · rw [yE a j c]
        refine e a j ?_ ?_
        · rintro (q | q | q | q)
          · unfold C_bg at q; unfold Rel at g2; omega
          · exact cfo_rel H a j q g2
          · unfold C_ax at q; unfold Rel at g2; omega
          · omega
        · intro q; unfold C_aq at q; unfold Rel at g2; omega
    · refine hH.2 m u ρ hc (fun a j g1 g2 => e a j ?_ ?_) (zc.ex (fun a j q => ue a j (by unfold C_aq; omega)))
      · rintro (q | q | q | q)
        · unfold C_bg at q; unfold CaC at g1; omega
        · exact g2 (cfo_ca H a j q g1)
        · unfold C_ax at q; unfold CaC at g1; omega
        · unfold CaC at g1; omega
      · intro q; unfold C_aq at q; unfold CaC at g1; omega
  have z32 : ∀ u : Mem, Ex C_aq z u → u 32 7 = z 32 7 ∧ u 32 8 = z 32 8 := fun u ue => ⟨ue 32 7 (by unfold C_aq; omega), ue 32 8 (by unfold C_aq; omega)⟩
  obtain ⟨f1, f2, f3, f4⟩ := fl
  rcases hz with ⟨g, rfl, h7, h8⟩ | ⟨g, hz⟩
  · refine ⟨_, rfl, by decide, CallP.imp ref ?_⟩
    rintro v2 u ⟨ue, u1, ⟨-, rfl, u7, u8⟩ | ⟨g2, -⟩⟩
    · refine ⟨rfl, fin u ue u1 ?_⟩
      rw [(z32 u ue).1, (z32 u ue).2, u7, u8, h7, h8, zk 62 7 (by decide), zk 62 8 (by decide)]
      exact ⟨f1, f2, f3, f4⟩
    · exact absurd g2 g
  · cases er : rdQ (m 1) N with
    | error e =>
      rw [er] at hz ref
      obtain ⟨rfl, ⟨h7, h8⟩, h9, h10⟩ := hz
      refine ⟨_, rfl, by decide, CallP.imp ref ?_⟩
      rintro v2 u ⟨ue, u1, ⟨g2, -⟩ | ⟨-, rfl, u7, u8⟩⟩
      · exact absurd g g2
      · refine ⟨rfl, fin u ue u1 ?_⟩
        rw [(z32 u ue).1, (z32 u ue).2, u7, u8, h7, h8]
        exact ⟨rfl, rfl, by omega, by omega⟩
    | ok x =>
      rw [er] at hz ref
      obtain ⟨rfl, h7, h8⟩ := hz
      obtain ⟨ty, -⟩ := rdQ_ty (fun i hi2 => (tT i hi2).2) er
      have tyN := tyL_F (rl := false) (l := x.2) (k := x.2.length) (Nat.le_refl _)
      rw [List.take_length, ty] at tyN
      have bd := asB (k := kindOf (wE (m 1) N (q0S (m 1) N))) hb (fun s hs => asV (code := cdF x.2) (N := x.2.length) hb hr g.1.2.2.1 g.2 tyN s hs) (ρ 0 1).toNat (by omega)
      refine ⟨_, rfl, by unfold ansQ R64; omega, CallP.imp ref ?_⟩
      rintro v2 u ⟨ue, u1, ⟨g2, -⟩ | ⟨-, rfl, u7, u8⟩⟩
      · exact absurd g g2
      · refine ⟨rfl, fin u ue u1 ?_⟩
        rw [(z32 u ue).1, (z32 u ue).2, u7, u8, h7, h8]
        exact ⟨rfl, rfl, by omega, by omega⟩
end QP2
