/-! pairs: when, looks, rule -/
section PO
variable {sc : List Int} {Ca : Mem → Mem → Prop} {d : Nat} {m ρ : Mem} {w : Int}
theorem HuF_le {S : Nat} (hS : S ≤ 6) : HuF S ≤ 1000000000000 := by
  have := HuF_all (j := S) hS
  have V := HuF_pos (6 - S)
  have H := HuF_pos S
  have := Int.mul_le_mul_of_nonneg_left V (c := HuF S) (by omega)
  omega
def IsWhn (ρ : Mem) (s u v : Int) : Prop := ((0 < ρ 0 3 ∧ ρ 0 1 ≤ 6) ∧ (0 ≤ s ∧ s < ρ 0 1) ∧ (0 ≤ u ∧ u ≤ 99) ∧ v = if u = 0 then 0 else tcF ρ s.toNat u) ∨ (¬ ((0 < ρ 0 3 ∧ ρ 0 1 ≤ 6) ∧ (0 ≤ s ∧ s < ρ 0 1) ∧ (0 ≤ u ∧ u ≤ 99)) ∧ v = -1)
theorem s_X7_when {s u : Int} (h : Xt m ρ) (hr : RlB ρ) (hl : XRl m (m 0 2) ρ) (hc : ChC m ρ) (hd : 7 ≤ d) (hs : R32 s) (hu : R32 u) : P_X7_when sc d [aR 0, aI s, aI u] m (fun v z => Ex (C_pr (m 0 2)) m z ∧ ChC z ρ ∧ ∃ x, v = some (aI x) ∧ IsWhn ρ s u x) := by
  have hb := h.2.2
  have b0 := hb.1
  have e8 := h.2.1.1.2.1
  have bad : ∀ y, ¬ ((0 < ρ 0 3 ∧ ρ 0 1 ≤ 6) ∧ (0 ≤ s ∧ s < ρ 0 1) ∧ (0 ≤ u ∧ u ≤ 99)) → y = m → (fun v z => Ex (C_pr (m 0 2)) m z ∧ ChC z ρ ∧ ∃ x, v = some (aI x) ∧ IsWhn ρ s u x) (some (aI (-1))) y := fun y q e => by
    subst e
    exact ⟨Ex.refl _ _, hc, _, rfl, Or.inr ⟨q, rfl⟩⟩
  refine ep_X7_when (g_X7_when_0 (p_X7_when_1 (d2 := d - 1) (s_weighs h) (by omega) ?_))
  rintro _ m ⟨rfl, ⟨e, q⟩ | ⟨e, q⟩⟩ <;> cases e
  · refine g_X7_when_4 ⟨by omega, fun c => absurd c (by decide), fun _ => ⟨hs, fun c => bad m (by omega) rfl, fun c1 => ⟨h.1, by omega, fun c => bad m (by omega) rfl, fun c2 => ⟨hu, fun c => bad m (by omega) rfl, fun c3 => ⟨fun c4 => ?_, fun c => bad m (by omega) rfl⟩⟩⟩⟩⟩
    have h3 : ρ 0 3 ≠ 0 := by omega
    have hw2 : (3 : Int) = -2 ∨ (0 ≤ (3 : Int) ∧ (3 : Int) < 4 + ρ 0 2) := Or.inr ⟨by decide, by omega⟩
    refine p_X7_when_43 (d2 := d - 1) h.1 (s_X0_prepare h.1 h.2.1 hb hr hl h3 q.2 hw2 hc (by omega)) (by omega) ?_
    rintro z ⟨-, h1, h2, h4⟩
    have hrb := room_bd h.1
    have e02 : z 0 2 = m 0 2 := h1 0 2 (by unfold C_pr C_wx; omega)
    have hz : XRm z (m 0 2) ρ := h.2.1.ex2 (fun a j q1 q2 q3 => h1 a j (fun q => by unfold C_pr C_wx at q; omega))
    have hzl : XRl z (m 0 2) ρ := ⟨fun k hk => by rw [h1 _ _ (fun q => by unfold C_pr C_wx at q; omega)]; exact hl.1 k hk, fun j hj => by rw [h1 _ _ (fun q => by unfold C_pr C_wx at q; omega)]; exact hl.2 j hj⟩
    refine g_X7_when_46 ?_
    rw [e02]
    obtain ⟨sn, hsn⟩ := Int.eq_ofNat_of_zero_le (show 0 ≤ s by omega)
    rw [hsn]
    refine p_X7_when_58 (d2 := d - 1) h.1 (s_X0_turns (w := 3) (s := sn) (u := u) (l := 0) h.1 hz hb hr hzl ⟨by decide, by omega⟩ (by omega) ⟨by omega, by omega⟩ ⟨by decide, by decide⟩ (by omega) (fun _ => ⟨q.2, h4⟩)) (by omega) ?_
    rintro _ y ⟨ye, e⟩; cases e
    have t01 := tnF_01 (w := 3) (u := u) (l := 0) (s := sn) hb hr (by omega) (by omega) ⟨by omega, by omega⟩
    have all : Ex (C_pr (m 0 2)) m y := h1.trans (ye.mono (fun a j q => Or.inl q))
    refine g_X7_when_61 ⟨by omega, all, (ChC.of hw2 h2 h4).ex (fun a j q => ye a j (fun q2 => by unfold C_wx at q2; omega)), _, rfl, Or.inl ⟨q, ⟨by omega, by omega⟩, ⟨by omega, by omega⟩, ?_⟩⟩
    have tv : tnF ρ 3 sn u 0 = if u = 0 then 0 else tcF ρ sn u := by
      unfold tnF
      by_cases c : u = 0
      · rw [if_pos c, if_pos c]
      · rw [if_neg c, if_neg c, if_neg (by decide), if_pos rfl]
    rw [show ((sn : Int)).toNat = sn by omega, ← tv]
    rcases t01 with e | e <;> rw [e] <;> rfl
  · exact g_X7_when_4 ⟨by omega, fun _ => bad _ (fun p => q p.1) rfl, fun c => absurd rfl c⟩
theorem s_isChance {s : Nat} {u : Int} (h : MRm m ρ) (hb : RmB ρ) (h3 : ρ 0 3 ≠ 0) (h6 : ρ 0 1 ≤ 6) (hs : (s : Int) < ρ 0 1) (hu : 0 ≤ u ∧ u ≤ 99) (hm : MnM m ρ 3 (ρ 0 1).toNat) (hd : 3 ≤ d) : P_X8_isChance sc d [aR 62, aI s, aI u] m (PV (aI (if u = 0 then 0 else tcF ρ s u)) m) := by
  have b0 := hb.1
  obtain ⟨j, hj⟩ : ∃ j : Nat, j = (ρ 0 1).toNat - (s + 1) := ⟨_, rfl⟩
  have ou := odR_bd hb h3 u
  have V1 := HuF_pos (6 - (j + 1))
  obtain ⟨q1, q2, -⟩ := ch_prt hb h3 3 (j := j) (by omega) (by omega) (u := u) (by omega)
  have vb1 := un_sc q1.1 V1 (sc_bd (j := j) (by omega) ou q1).2
  have vb2 := un_sc q2.1 V1 (sc_bd (j := j) (by omega) ou q2).2
  obtain ⟨-, q0, -⟩ := ch_prt hb h3 3 (j := j) (by omega) (by omega) (u := 0) (by decide)
  have vb0 := un_sc q0.1 V1 (sc_bd (j := j) (by omega) (odR_bd hb h3 0) q0).2
  have p0 := q0.1
  rw [odR_0 hb h3 (by decide)] at vb0 p0
  have g0 := bm_bd hb h3 3 (j := j) (by omega) (by omega)
  have hbm := (ch_bd hb h3 3 j (by omega) (by omega)).1
  obtain ⟨m0, m1, m2⟩ := ch_min hb
  have bm0 : 0 ≤ bmP ρ j (frC ρ 3 j) := by
    unfold bmP
    have := HuF_pos j
    have := Int.mul_nonneg (a := ρ 7 1 + ρ 7 0) (b := HuF j) (by omega) (by omega)
    omega
  have vbm := un_sc (x := 100 * bmP ρ j (frC ρ 3 j)) (by omega) V1 g0.2
  refine ep_X8_isChance (g_X8_isChance_0 ⟨by omega, fun c => ?_, fun c => ?_⟩)
  · rw [if_neg c]
    refine p_X8_isChance_8 (d2 := d - 1) (s_oddsR h hb (by omega) ⟨by omega, by omega⟩) (by omega) ?_
    rintro _ z ⟨e, rfl⟩; cases e
    refine g_X8_isChance_11 ⟨by omega, fun c2 => ?_, fun c2 => ?_⟩
    · refine p_X8_isChance_44 (d2 := d - 1) (s_changed (w := 3) (i := j + 1) h hb h6 (by omega) (by omega) (hm (j + 1) (by omega)).1) (by omega) ?_
      rintro _ z ⟨rfl, rfl⟩
      refine ⟨_, rfl, g_X8_isChance_47 (p_X8_isChance_52 (d2 := d - 1) (s_behindMended (w := 3) (i := j) h hb h6 (by omega) (by omega) (hm j (by omega)).1) (by omega) ?_)⟩
      rintro _ z ⟨rfl, rfl⟩
      refine ⟨_, rfl, g_X8_isChance_55 ⟨by omega, by omega, ?_, rfl⟩⟩
      unfold tcF
      rw [if_pos (show odR ρ u = 0 by omega), ← hj]
    · refine p_X8_isChance_16 (d2 := d - 1) (s_oddsR h hb (by omega) ⟨by omega, by omega⟩) (by omega) ?_
      rintro _ z ⟨e, rfl⟩; cases e
      refine g_X8_isChance_19 ⟨by omega, p_X8_isChance_22 (d2 := d - 1) (s_changed (w := 3) (i := j + 1) h hb h6 (by omega) (by omega) (hm (j + 1) (by omega)).1) (by omega) ?_⟩
      rintro _ z ⟨rfl, rfl⟩
      refine ⟨_, rfl, g_X8_isChance_25 (p_X8_isChance_29 (d2 := d - 1) (s_unchanged (w := 3) (i := j) h hb h3 h6 (by omega) (by omega) hu (hm j (by omega)).1 (hm j (by omega)).2) (by omega) ?_)⟩
      rintro _ z ⟨rfl, rfl⟩
      refine ⟨_, rfl, g_X8_isChance_32 ⟨by omega, by omega, ?_, rfl⟩⟩
      unfold tcF
      rw [if_neg (show ¬ odR ρ u = 0 by omega), ← hj]
  · rw [if_pos (Classical.not_not.mp c)]
    exact ⟨rfl, rfl⟩
theorem s_X8_when {s u : Int} (h : MRm m ρ) (hb : RmB ρ) (hr : RlB ρ) (hl : MRl m ρ) (hd : 7 ≤ d) (hs : R32 s) (hu : R32 u) : P_X8_when sc d [aR 62, aI s, aI u] m (fun v z => Ex C_me m z ∧ ∃ x, v = some (aI x) ∧ IsWhn ρ s u x) := by
  have b0 := hb.1
  refine ep_X8_when (g_X8_when_0 (p_X8_when_1 (d2 := d - 1) (s_areFew h hb (by omega)) (by omega) ?_))
  rintro _ m ⟨rfl, ⟨e, q⟩ | ⟨e, q⟩⟩ <;> cases e
  · refine g_X8_when_4 ⟨by omega, fun c => absurd c (by decide), fun _ => ⟨hs, ?_⟩⟩
    refine p_X8_when_11 (d2 := d - 1) (s_seamMany h) (by omega) ?_
    rintro _ m ⟨e, rfl⟩; cases e
    refine g_X8_when_14 ⟨by omega, p_X8_when_17 (d2 := d - 1) (s_isIn ⟨by omega, by omega⟩ ⟨by omega, by omega⟩ ⟨by omega, by omega⟩) (by omega) ?_⟩
    rintro _ m ⟨rfl, ⟨e, q2⟩ | ⟨e, q2⟩⟩ <;> cases e
    · refine g_X8_when_20 ⟨by omega, fun c => absurd c (by decide), fun _ => ⟨hu, ?_⟩⟩
      refine p_X8_when_29 (d2 := d - 1) (s_isIn ⟨by omega, by omega⟩ ⟨by omega, by omega⟩ ⟨by omega, by omega⟩) (by omega) ?_
      rintro _ m ⟨rfl, ⟨e, q3⟩ | ⟨e, q3⟩⟩ <;> cases e
      · have h3 : ρ 0 3 ≠ 0 := by omega
        refine g_X8_when_32 ⟨by omega, fun _ => ?_, fun c => absurd (by decide) c⟩
        refine p_X8_when_39 (d2 := d - 1) (s_means (w := 3) h hb hr hl h3 q.2 (Or.inl ⟨rfl, by decide, by omega⟩) (by omega)) (by omega) ?_
        rintro z ⟨-, h1, h2⟩
        refine g_X8_when_42 ?_
        obtain ⟨sn, hsn⟩ := Int.eq_ofNat_of_zero_le (show 0 ≤ s by omega)
        rw [hsn]
        refine p_X8_when_45 (d2 := d - 1) (s_isChance (s := sn) (h.ex h1 (fun a j q c => by unfold C_me C_it at c; omega)) hb h3 q.2 (by omega) q3 h2 (by omega)) (by omega) ?_
        rintro _ y ⟨e, rfl⟩; cases e
        have t01 := tcF_01 (ρ := ρ) sn u
        refine g_X8_when_48 ⟨by split <;> omega, h1, _, rfl, Or.inl ⟨q, ⟨by omega, by omega⟩, q3, ?_⟩⟩
        rw [show ((sn : Int)).toNat = sn by omega]
        by_cases c : u = 0
        · rw [if_pos c]; rfl
        · rw [if_neg c]
          rcases t01 with e | e <;> rw [e] <;> rfl
      · exact g_X8_when_32 ⟨by omega, fun c => absurd rfl c, fun _ => ⟨Ex.refl _ _, _, rfl, Or.inr ⟨fun p => q3 p.2.2, rfl⟩⟩⟩
    · exact g_X8_when_20 ⟨by omega, fun _ => ⟨Ex.refl _ _, _, rfl, Or.inr ⟨fun p => q2 (by omega), rfl⟩⟩, fun c => absurd rfl c⟩
  · exact g_X8_when_4 ⟨by omega, fun _ => ⟨Ex.refl _ _, _, rfl, Or.inr ⟨fun p => q p.1, rfl⟩⟩, fun c => absurd rfl c⟩
theorem pair_when (hH : CaH Ca) (n : Nat) (m : Mem) (a0 a1 : Int) (hn : n < 512) (hi : Inv Ca n m) (h0 : R32 a0) (h1 : R32 a1) : PairI (Inv Ca) n m (P_X7_when sc 1799 [aR 0, aI a0, aI a1]) (P_X8_when sc 1799 [aR 62, aI a0, aI a1]) := by
  obtain ⟨ρ, nr, wd, hi, hc⟩ := hi
  have hb := hi.2.1
  obtain ⟨hr, hxl, hml⟩ := Xt.rl hi
  have H := hi.1.1
  refine pairI_c (A := IsWhn ρ a0 a1) hH hi hc (s_X7_when hi.xt hr hxl (hH.1 m ρ hc) (by decide) h0 h1) (fun z hz => s_X8_when (hi.mrm.ex hz (fun a j q c => ?_)) hb hr (hml.ex hz (fun a j q => ?_)) (by decide) h0 h1) (fun x y p q => ?_) (fun x p => ?_) (cpr_rel H) cme_rel (cpr_ca H) cme_ca
  · have := room_bd H
    unfold C_pr C_wx at c; omega
  · have := room_bd H
    unfold C_pr C_wx at q; omega
  · rcases p with ⟨p1, p2, p3, rfl⟩ | ⟨p1, rfl⟩ <;> rcases q with ⟨q1, q2, q3, rfl⟩ | ⟨q1, rfl⟩
    · rfl
    · exact absurd ⟨p1, p2, p3⟩ q1
    · exact absurd ⟨q1, q2, q3⟩ p1
    · rfl
  · rcases p with ⟨p1, p2, p3, rfl⟩ | ⟨p1, rfl⟩
    · have := tcF_01 (ρ := ρ) a0.toNat a1
      unfold R32; split <;> omega
    · unfold R32; omega
end PO
