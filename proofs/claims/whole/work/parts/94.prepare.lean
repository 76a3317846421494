/-! what days cost on the mean: the class, prepared -/
section CY
variable {sc : List Int} {d : Nat} {m : Mem} {Q : Option AV → Mem → Prop} {r : Int} {ρ : Mem} {w : Int}
/-- what is kept of the means -/
def ChC (m ρ : Mem) : Prop := m 37 1 = -3 ∨ ((m 37 1 = -2 ∨ (0 ≤ m 37 1 ∧ m 37 1 < 4 + ρ 0 2)) ∧ FrX m ρ (m 37 1) (ρ 0 1).toNat)
def C_pr (r a j : Int) : Prop := C_wx r a ∨ a = 38 ∨ (a = 37 ∧ j = 1)
theorem fr100 (hb : RmB ρ) (h3 : ρ 0 3 ≠ 0) (w : Int) {j : Nat} (hj : j ≤ 5) (hs : (j : Int) + 1 ≤ ρ 0 1) : 0 ≤ frC ρ w (j + 1) * 100 * HuF (6 - (j + 1)) ∧ frC ρ w (j + 1) * 100 * HuF (6 - (j + 1)) ≤ 240000000000000000 := by
  have h := (ch_bd hb h3 w (j + 1) (by omega) (by omega)).1
  exact sc_bd (o := 100) hj ⟨by decide, by decide⟩ ⟨by omega, by omega⟩
theorem bm_bd (hb : RmB ρ) (h3 : ρ 0 3 ≠ 0) (w : Int) {j : Nat} (hj : j ≤ 5) (hs : (j : Int) + 1 ≤ ρ 0 1) : 0 ≤ 100 * bmP ρ j (frC ρ w j) * HuF (6 - (j + 1)) ∧ 100 * bmP ρ j (frC ρ w j) * HuF (6 - (j + 1)) ≤ 240000000000000000 := by
  have h := (ch_bd hb h3 w j (by omega) (by omega)).1
  obtain ⟨m0, m1, m2⟩ := ch_min hb
  refine sc_bd (o := 1) hj ⟨by decide, by decide⟩ ?_
  unfold bmP
  obtain ⟨v0, v1, v2, v3, v4, v5, v6⟩ := HuF_v
  rcases (by omega : j = 0 ∨ j = 1 ∨ j = 2 ∨ j = 3 ∨ j = 4 ∨ j = 5) with rfl | rfl | rfl | rfl | rfl | rfl
  · simp only [v0, v1, Int.natCast_zero, Int.mul_zero, Int.zero_mul, Nat.zero_add, Int.natCast_one] at h ⊢; omega
  · rw [v1] at h ⊢; rw [show HuF (1 + 1) = 10000 from v2]; omega
  · rw [v2] at h ⊢; rw [show HuF (2 + 1) = 1000000 from v3]; omega
  · rw [v3] at h ⊢; rw [show HuF (3 + 1) = 100000000 from v4]; omega
  · rw [v4] at h ⊢; rw [show HuF (4 + 1) = 10000000000 from v5]; omega
  · rw [v5] at h ⊢; rw [show HuF (5 + 1) = 1000000000000 from v6]; omega
theorem s_X0_prepare (H : RoomAt r) (h : XRm m r ρ) (hb : RmB ρ) (hr : RlB ρ) (hl : XRl m r ρ) (h3 : ρ 0 3 ≠ 0) (h6 : ρ 0 1 ≤ 6) (hw : w = -2 ∨ (0 ≤ w ∧ w < 4 + ρ 0 2)) (hc : ChC m ρ) (hd : 5 ≤ d) :
    P_X0_prepare sc d [aR 37, aR r, aI w] m (fun v z => v = none ∧ Ex (C_pr r) m z ∧ z 37 1 = w ∧ FrX z ρ w (ρ 0 1).toNat) := by
  have b0 := hb.1
  have hrb := room_bd H
  have e8 := h.1.2.1
  have wR : R32 w := by unfold R32; rcases hw with q | q <;> omega
  have cR : R32 (m 37 1) := by unfold R32; rcases hc with q | ⟨q | q, -⟩ <;> omega
  by_cases c : m 37 1 = w
  · refine ep_X0_prepare (g_X0_prepare_0 H ⟨cR, wR, fun _ => ⟨rfl, Ex.refl _ _, c, ?_⟩, fun q => absurd c q⟩)
    rcases hc with q | ⟨-, q⟩
    · exfalso
      rcases hw with q2 | q2 <;> omega
    · rw [c] at q; exact q
  · refine ep_X0_prepare (g_X0_prepare_0 H ⟨cR, wR, fun q => absurd q c, fun _ => ⟨by omega, fun _ => ⟨by omega, by omega, ?_⟩, fun q => absurd (by omega) q⟩⟩)
    rw [e8]
    have lp : ∀ (n i : Nat) (z : Mem), (i : Int) + n = ρ 0 1 → Ex (fun a _ => C_wx r a ∨ a = 38) m z → FrX z ρ w i → S_X0_prepare sc d 32 [aR 37, aR r, aI w, aU, aI (ρ 0 1 - 1 - i)] [] z (fun v z => v = none ∧ Ex (C_pr r) m z ∧ z 37 1 = w ∧ FrX z ρ w (ρ 0 1).toNat) := by
      intro n
      induction n with
      | zero =>
        intro i z hi he hf
        refine g_X0_prepare_32 H ⟨by omega, fun _ => ⟨rfl, ?_, wr_eq _ _ _ _, ?_⟩, fun q => absurd (by omega) q⟩
        · exact (he.mono (fun a j q => q.elim (fun q => Or.inl q) (fun q => Or.inr (Or.inl q)))).put (Or.inr (Or.inr ⟨rfl, rfl⟩))
        · intro i' hi'
          rw [wr_na _ _ _ _ _ _ (by decide)]
          exact hf i' (by omega)
      | succ n ih =>
        intro i z hi he hf
        have hz : XRm z r ρ := h.ex2 (fun a j q1 q2 q3 => he a j (fun q => by unfold C_wx at q; omega))
        have hzl : XRl z r ρ := ⟨fun k hk => by rw [he _ _ (fun q => by unfold C_wx at q; omega)]; exact hl.1 k hk, fun j hj => by rw [he _ _ (fun q => by unfold C_wx at q; omega)]; exact hl.2 j hj⟩
        obtain ⟨s, hs⟩ : ∃ s : Nat, (s : Int) = ρ 0 1 - 1 - i := ⟨(ρ 0 1 - 1 - i).toNat, by omega⟩
        rw [← hs]
        refine g_X0_prepare_32 H ⟨by omega, fun q => absurd q (by omega), fun _ => ?_⟩
        refine p_X0_prepare_49 (d2 := d - 1) H ic_38 H (s_X0_weigh (j := i + 1) H hz hb hr hzl h3 h6 hw (by omega) ⟨by decide, by decide⟩ (by omega) (fun i' hi' q => hf i' (by
          by_cases e : i' = i + 1
          · exact absurd rfl (q e)
          · omega))) (by omega) ?_
        rintro _ y ⟨ye, rfl⟩
        have v : wgX ρ w (i + 1) 0 = frC ρ w (i + 1) * HuF (6 - (i + 1)) * 100 := by
          unfold wgX
          rw [if_pos rfl, Int.mul_assoc, Int.mul_comm 100]
        have vb := fr100 hb h3 w (j := i) (by omega) (by omega)
        rw [Int.mul_assoc, Int.mul_comm 100, ← Int.mul_assoc] at vb
        rw [v]
        refine ⟨_, rfl, g_X0_prepare_52 H ic_38 ⟨by omega, by omega, by rw [show alen 38 = 7 by decide +kernel]; omega, ?_⟩⟩
        rw [Int.mul_tdiv_cancel _ (by decide)]
        have g := ih (i + 1) (wr y 38 s (frC ρ w (i + 1) * HuF (6 - (i + 1)))) (by omega) ((he.trans (ye.mono (fun a j q => Or.inl q))).put (Or.inr rfl)) ?_
        · rw [show ρ 0 1 - 1 - ((i + 1 : Nat) : Int) = (s : Int) + (-1) by omega] at g
          exact g
        · intro i' hi'
          by_cases e : i' = i + 1
          · rw [e, show (ρ 0 1).toNat - (i + 1) = s by omega, wr_eq]
          · rw [wr_ne _ _ _ _ _ _ (by omega), ye 38 _ (by unfold C_wx; omega)]
            exact hf i' (by omega)
    have g := lp (ρ 0 1).toNat 0 (wr m 38 (ρ 0 1) 0) (by omega) ((Ex.refl _ _).put (Or.inr rfl)) ?_
    · rw [show ρ 0 1 - 1 - ((0 : Nat) : Int) = ρ 0 1 - 1 by omega] at g
      exact g
    · intro i' hi'
      rw [show i' = 0 by omega, show (((ρ 0 1).toNat - 0 : Nat) : Int) = ρ 0 1 by omega, wr_eq]
      show (0 : Int) = 0 * _
      rw [Int.zero_mul]
theorem s_X0_expect (H : RoomAt r) (h : XRm m r ρ) (hb : RmB ρ) (hr : RlB ρ) (hl : XRl m r ρ) (h3 : ρ 0 3 ≠ 0) (h6 : ρ 0 1 ≤ 6) (hw : w = -2 ∨ (0 ≤ w ∧ w < 4 + ρ 0 2)) (hc : ChC m ρ) (hd : 6 ≤ d) :
    P_X0_expect sc d [aR 37, aR r, aI w] m (fun v z => v = some (aJ (frC ρ w (ρ 0 1).toNat * HuF (6 - (ρ 0 1).toNat))) ∧ Ex (C_pr r) m z ∧ z 37 1 = w ∧ FrX z ρ w (ρ 0 1).toNat) := by
  refine ep_X0_expect (g_X0_expect_0 H ?_)
  refine p_X0_expect_3 (d2 := d - 1) H (s_X0_prepare H h hb hr hl h3 h6 hw hc (by omega)) (by omega) ?_
  rintro z ⟨-, h1, h2, h4⟩
  refine g_X0_expect_6 ⟨?_, h1, h2, h4⟩
  have := h4 (ρ 0 1).toNat (Nat.le_refl _)
  rw [Nat.sub_self] at this
  rw [← this]
  rfl
/-- whether one goes by chance and changes -/
def tcF (ρ : Mem) (s : Nat) (u : Int) : Int :=
  if odR ρ u = 0 then (if 100 * bmP ρ ((ρ 0 1).toNat - (s + 1)) (frC ρ 3 ((ρ 0 1).toNat - (s + 1))) ≤ cgP ρ ((ρ 0 1).toNat - (s + 1) + 1) (frC ρ 3 ((ρ 0 1).toNat - (s + 1) + 1)) then 0 else 1)
  else (if ntP ρ ((ρ 0 1).toNat - (s + 1)) (ChP ρ 3 ((ρ 0 1).toNat - (s + 1))) u ≤ odR ρ u * cgP ρ ((ρ 0 1).toNat - (s + 1) + 1) (frC ρ 3 ((ρ 0 1).toNat - (s + 1) + 1)) then 0 else 1)
/-- whether a sewer changes ahead of a seam -/
def tnF (ρ : Mem) (w : Int) (s : Nat) (u l : Int) : Int := if u = 0 then 0 else if w = 2 then (if u + ρ 3 s ≤ l then 0 else 1) else if w = 3 then tcF ρ s u else chgF ρ w s u
theorem tcF_01 (s : Nat) (u : Int) : tcF ρ s u = 0 ∨ tcF ρ s u = 1 := by
  unfold tcF
  split <;> split <;> omega
theorem tnF_01 {u l : Int} {s : Nat} (hb : RmB ρ) (hr : RlB ρ) (hw : w < 4 + ρ 0 2) (hs : (s : Int) < ρ 0 1) (hu : 0 ≤ u ∧ u ≤ 999) : tnF ρ w s u l = 0 ∨ tnF ρ w s u l = 1 := by
  unfold tnF
  split
  · exact Or.inl rfl
  split
  · split <;> omega
  split
  · exact tcF_01 s u
  · exact chgF_01 hb hr hw hs hu
theorem mul_le_iff {a b V : Int} (hV : 1 ≤ V) : a * V ≤ b * V ↔ a ≤ b := by
  constructor
  · intro h
    exact Int.le_of_mul_le_mul_right h (by omega)
  · intro h
    exact Int.mul_le_mul_of_nonneg_right h (by omega)
theorem s_X0_turns {s : Nat} {u l : Int} (H : RoomAt r) (h : XRm m r ρ) (hb : RmB ρ) (hr : RlB ρ) (hl : XRl m r ρ) (hw : 0 ≤ w ∧ w < 4 + ρ 0 2) (hs : (s : Int) < ρ 0 1) (hu : 0 ≤ u ∧ u ≤ 99) (hl9 : 0 ≤ l ∧ l ≤ 99) (hd : 5 ≤ d) (hc : w = 3 → ρ 0 1 ≤ 6 ∧ FrX m ρ 3 (ρ 0 1).toNat) :
    P_X0_turns sc d [aR 37, aR r, aI w, aI s, aI u, aI l] m (fun v z => Ex (fun a _ => C_wx r a) m z ∧ v = some (aI (tnF ρ w s u l))) := by
  have b0 := hb.1
  have hrb := room_bd H
  have e8 := h.1.2.1
  have h3 : ρ 0 3 ≠ 0 := fun q => by have := hb.2.1.1 q; omega
  have ts := (hb.2.2.2.1 s hs).1
  have e3 : m (r + 3) s = ρ 3 s := (h.2.2.1 s hs).1
  refine ep_X0_turns (g_X0_turns_0 H ⟨by omega, fun c => ⟨Ex.refl _ _, ?_⟩, fun c0 => ⟨by omega, fun c => by omega, fun _ => ⟨by omega, fun _ => ⟨by omega, by omega, by omega, fun c2 => ⟨fun c3 => ⟨fun _ => ?_, fun c => absurd (by have := (hc c3).1; omega) c⟩, fun c3 => ?_⟩, fun c2 => ⟨by omega, by omega, Ex.refl _ _, ?_⟩⟩, fun c => absurd (by omega) c⟩⟩⟩)
  · unfold tnF; rw [if_pos c]
  · obtain ⟨h6, hf⟩ := hc c3
    subst c3
    rw [e3]
    obtain ⟨j, hj⟩ : ∃ j : Nat, j = (ρ 0 1).toNat - (s + 1) := ⟨_, rfl⟩
    have f0 : m 38 ((s : Int) + 1) = frC ρ 3 j * HuF (6 - j) := by
      have := hf j (by omega)
      rw [show (ρ 0 1).toNat - j = s + 1 by omega] at this
      exact this
    have f1 : m 38 (s : Int) = frC ρ 3 (j + 1) * HuF (6 - (j + 1)) := by
      have := hf (j + 1) (by omega)
      rw [show (ρ 0 1).toNat - (j + 1) = s by omega] at this
      exact this
    have V1 := HuF_pos (6 - (j + 1))
    have Ue := HuF_up (j := j) (by omega)
    have ou := odR_bd hb h3 u
    have ov := odR_bd hb h3 (u + ρ 3 s)
    have kk : smC ρ j = s := by unfold smC; omega
    obtain ⟨q1, q2, -⟩ := ch_prt hb h3 3 (j := j) (by omega) (by omega) (u := u) (by omega)
    have vb1 := sc_bd (j := j) (by omega) ou q1
    have vb2 := sc_bd (j := j) (by omega) ou q2
    obtain ⟨-, q0, -⟩ := ch_prt hb h3 3 (j := j) (by omega) (by omega) (u := 0) (by decide)
    have vb0 := sc_bd (j := j) (by omega) (odR_bd hb h3 0) q0
    rw [odR_0 hb h3 (by decide), Int.mul_assoc] at vb0
    have vbm := bm_bd hb h3 3 (j := j) (by omega) (by omega)
    have tn : tnF ρ 3 s u l = tcF ρ s u := by
      unfold tnF
      rw [if_neg c0, if_neg (by decide), if_pos rfl]
    refine p_X0_turns_76 (d2 := d - 1) H H (s_X6_oddsOf H h hb ⟨by omega, by omega⟩) (by omega) ?_
    rintro _ z ⟨e, rfl⟩; cases e
    rw [show oddsF ρ u (ρ 0 0).toNat = odR ρ u from rfl]
    refine g_X0_turns_79 H ⟨by omega, fun c => ?_, fun c => ?_⟩
    · refine p_X0_turns_116 (d2 := d - 1) H H (s_X6_oddsOf H h hb ⟨by omega, by omega⟩) (by omega) ?_
      rintro _ z ⟨e, rfl⟩; cases e
      rw [show oddsF ρ (u + ρ 3 s) (ρ 0 0).toNat = odR ρ (u + ρ 3 s) from rfl]
      refine g_X0_turns_119 H ⟨by omega, ?_⟩
      refine p_X0_turns_131 (d2 := d - 1) H H (s_X0_weigh (w := 3) (j := j) (s := s + 1) H h hb hr hl h3 h6 (Or.inr hw) (by omega) ⟨by omega, by omega⟩ (by omega) (fun i hi _ => hf i (by omega))) (by omega) ?_
      rintro _ y ⟨ye, rfl⟩
      have hy : XRm y r ρ := ex_wx H h ye
      have y38 : ∀ q, y 38 q = z 38 q := fun q => ye 38 q (by unfold C_wx; omega)
      refine ⟨_, rfl, g_X0_turns_134 H ?_⟩
      refine p_X0_turns_139 (d2 := d - 1) H H (s_X0_mended (w := 3) (i := j) H hy hb (by omega) (by omega) h6 (by rw [y38]; exact f0)) (by omega) ?_
      rintro _ y ⟨rfl, rfl⟩
      refine ⟨_, rfl, g_X0_turns_142 H ?_⟩
      refine p_X0_turns_151 (d2 := d - 1) H (s_X0_changed (w := 3) (i := j + 1) H hy hb (by omega) (by omega) h6 (by rw [y38]; exact f1)) (by omega) ?_
      rintro _ y ⟨rfl, rfl⟩
      refine ⟨_, rfl, ?_⟩
      have w1 : wgX ρ 3 j (u + ρ 3 s) + (odR ρ u - odR ρ (u + ρ 3 s)) * (bmP ρ j (frC ρ 3 j) * HuF (6 - j)) = ntP ρ j (ChP ρ 3 j) u * HuF (6 - (j + 1)) := by
        unfold wgX
        rw [if_neg (by omega), Ue, alg1]
        unfold ntP
        rw [kk]
        rfl
      rw [w1]
      refine g_X0_turns_154 ⟨by rw [← Int.mul_assoc]; omega, by omega, ye, ?_⟩
      rw [tn, ← Int.mul_assoc]
      unfold tcF
      rw [if_neg c, ← hj]
      by_cases g : ntP ρ j (ChP ρ 3 j) u ≤ odR ρ u * cgP ρ (j + 1) (frC ρ 3 (j + 1))
      · rw [if_pos g, if_pos ((mul_le_iff V1).mpr g)]
      · rw [if_neg g, if_neg (fun q => g ((mul_le_iff V1).mp q))]
    · refine p_X0_turns_92 (d2 := d - 1) H H (s_X0_changed (w := 3) (i := j + 1) H h hb (by omega) (by omega) h6 f1) (by omega) ?_
      rintro _ y ⟨rfl, rfl⟩
      refine ⟨_, rfl, g_X0_turns_95 H ?_⟩
      refine p_X0_turns_98 (d2 := d - 1) H (s_X0_mended (w := 3) (i := j) H h hb (by omega) (by omega) h6 f0) (by omega) ?_
      rintro _ y ⟨rfl, rfl⟩
      have w2 : bmP ρ j (frC ρ 3 j) * HuF (6 - j) = 100 * bmP ρ j (frC ρ 3 j) * HuF (6 - (j + 1)) := by
        rw [Ue, Int.mul_left_comm, ← Int.mul_assoc]
      rw [w2]
      refine ⟨_, rfl, g_X0_turns_101 ⟨by omega, by omega, Ex.refl _ _, ?_⟩⟩
      rw [tn]
      unfold tcF
      rw [if_pos (Classical.not_not.mp c), ← hj]
      by_cases g : 100 * bmP ρ j (frC ρ 3 j) ≤ cgP ρ (j + 1) (frC ρ 3 (j + 1))
      · rw [if_pos g, if_pos ((mul_le_iff V1).mpr g)]
      · rw [if_neg g, if_neg (fun q => g ((mul_le_iff V1).mp q))]
  · refine p_X0_turns_58 (d2 := d - 1) H (s_wants H h hb hr hl (by omega) hs hw ⟨c2, c3⟩ ⟨by omega, by omega⟩) (by omega) ?_
    rintro _ y ⟨ye, e⟩; cases e
    refine g_X0_turns_61 ⟨chgF_01 hb hr hw.2 hs ⟨by omega, by omega⟩, ye, ?_⟩
    unfold tnF
    rw [if_neg c0, if_neg c2, if_neg c3]
  · rw [e3]
    unfold tnF
    rw [if_neg c0, if_pos (Classical.not_not.mp c2)]
end CY
