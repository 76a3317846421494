/-! what days cost on the mean: the reference -/
section CM
variable {sc : List Int} {d : Nat} {m : Mem} {Q : Option AV → Mem → Prop} {ρ : Mem} {w : Int}
def HfM (z ρ : Mem) (w : Int) (i : Nat) : Prop := z 104 (((ρ 0 1).toNat - i : Nat)) = HuF i ∧ z 105 (((ρ 0 1).toNat - i : Nat)) = frC ρ w i
def MtM (z ρ : Mem) (w : Int) (i : Nat) : Prop := ∀ u : Nat, 1 ≤ u → u ≤ 99 → z 106 (100 * (((ρ 0 1).toNat - i : Nat) : Int) + u) = wtC ρ w i u
theorem HfM.ex {C : Int → Int → Prop} {z : Mem} {i : Nat} (h : HfM m ρ w i) (he : Ex C m z) (hc : ∀ a j, C a j → a < 104 ∨ 106 < a) : HfM z ρ w i :=
  ⟨by rw [he 104 _ (fun c => by have := hc _ _ c; omega)]; exact h.1, by rw [he 105 _ (fun c => by have := hc _ _ c; omega)]; exact h.2⟩
theorem MtM.ex {C : Int → Int → Prop} {z : Mem} {i : Nat} (h : MtM m ρ w i) (he : Ex C m z) (hc : ∀ a j, C a j → a < 104 ∨ 106 < a) : MtM z ρ w i :=
  fun u h1 h2 => by rw [he 106 _ (fun c => by have := hc _ _ c; omega)]; exact h u h1 h2
theorem s_meantAt {i s : Nat} {u : Int} (hb : RmB ρ) (h3 : ρ 0 3 ≠ 0) (h6 : ρ 0 1 ≤ 6) (hs : ((s + i : Nat) : Int) = ρ 0 1) (hu : 1 ≤ u ∧ u ≤ 900) (hm : MtM m ρ w i) : P_X8_meantAt sc d [aR 62, aI s, aI u] m (PV (aJ (wtC ρ w i u)) m) := by
  refine ep_X8_meantAt (g_X8_meantAt_0 ⟨by omega, fun _ => by omega, fun _ => by omega, ?_, rfl⟩)
  congr 2
  by_cases c : u ≤ 99
  · rw [if_pos c]
    have := hm u.toNat (by omega) (by omega)
    rw [show ((u.toNat : Nat) : Int) = u by omega, show (ρ 0 1).toNat - i = s by omega] at this
    exact this
  · rw [if_neg c, wt_99 hb h3 w (by omega) (by omega) (by omega)]
theorem s_behindMended {i s : Nat} (h : MRm m ρ) (hb : RmB ρ) (h6 : ρ 0 1 ≤ 6) (hs : ((s + (i + 1) : Nat) : Int) = ρ 0 1) (hd : 1 ≤ d) (hf : HfM m ρ w i) : P_X8_behindMended sc d [aR 62, aI s] m (PV (aJ (bmP ρ i (frC ρ w i))) m) := by
  obtain ⟨m0, m1, m2⟩ := ch_min hb
  refine ep_X8_behindMended (g_X8_behindMended_0 (p_X8_behindMended_2 (d2 := d - 1) (s_settingOf (i := 1) h (by omega)) (by omega) ?_))
  rintro _ z ⟨e, rfl⟩; cases e
  refine g_X8_behindMended_5 (p_X8_behindMended_7 (d2 := d - 1) (s_settingOf (i := 0) h (by omega)) (by omega) ?_)
  rintro _ z ⟨e, rfl⟩; cases e
  have e1 := hf.1
  have e2 := hf.2
  rw [show (ρ 0 1).toNat - i = s + 1 by omega] at e1 e2
  refine g_X8_behindMended_10 ⟨?_, by omega, by omega, ?_, rfl⟩
  · show R32 (ρ 7 1 + ρ 7 0); unfold R32; omega
  · rw [show z 104 ((s : Int) + 1) = HuF i from e1, show z 105 ((s : Int) + 1) = frC ρ w i from e2]
    rfl
theorem s_changed {i s : Nat} (h : MRm m ρ) (hb : RmB ρ) (h6 : ρ 0 1 ≤ 6) (hs : ((s + i : Nat) : Int) = ρ 0 1) (hd : 1 ≤ d) (hf : HfM m ρ w i) : P_X8_changed sc d [aR 62, aI s] m (PV (aJ (cgP ρ i (frC ρ w i))) m) := by
  obtain ⟨m0, m1, m2⟩ := ch_min hb
  refine ep_X8_changed (g_X8_changed_0 (p_X8_changed_2 (d2 := d - 1) (s_settingOf (i := 0) h (by omega)) (by omega) ?_))
  rintro _ z ⟨e, rfl⟩; cases e
  have e1 := hf.1
  have e2 := hf.2
  rw [show (ρ 0 1).toNat - i = s by omega] at e1 e2
  refine g_X8_changed_5 ⟨?_, by omega, by omega, ?_, rfl⟩
  · show R32 (ρ 7 0); unfold R32; omega
  · rw [e1, e2]
    rfl
theorem s_oddsR {u : Int} (h : MRm m ρ) (hb : RmB ρ) (hd : 1 ≤ d) (hu : R32 u) : P_X8_oddsFrom sc d [aR 62, aI u] m (PV (aI (odR ρ u)) m) := s_oddsFrom h hb hd hu
theorem s_unchanged {i s : Nat} {u : Int} (h : MRm m ρ) (hb : RmB ρ) (h3 : ρ 0 3 ≠ 0) (h6 : ρ 0 1 ≤ 6) (hs : ((s + (i + 1) : Nat) : Int) = ρ 0 1) (hd : 2 ≤ d) (hu : 0 ≤ u ∧ u ≤ 99) (hf : HfM m ρ w i) (hm : MtM m ρ w i) : P_X8_unchanged sc d [aR 62, aI s, aI u] m (PV (aJ (ntP ρ i (ChP ρ w i) u)) m) := by
  have ts := (hb.2.2.2.1 s (by omega)).1
  have ou := odR_bd hb h3 u
  have ov := odR_bd hb h3 (u + ρ 3 s)
  refine ep_X8_unchanged (g_X8_unchanged_0 (p_X8_unchanged_3 (d2 := d - 1) (s_takesOf h hb (by omega)) (by omega) ?_))
  rintro _ z ⟨e, rfl⟩; cases e
  refine g_X8_unchanged_6 (p_X8_unchanged_16 (d2 := d - 1) (s_meantAt (s := s + 1) hb h3 h6 (by omega) ⟨by omega, by omega⟩ hm) (by omega) ?_)
  rintro _ z ⟨rfl, rfl⟩
  refine ⟨_, rfl, g_X8_unchanged_19 (p_X8_unchanged_21 (d2 := d - 1) (s_oddsR h hb (by omega) ⟨by omega, by omega⟩) (by omega) ?_)⟩
  rintro _ z ⟨e, rfl⟩; cases e
  refine g_X8_unchanged_24 (p_X8_unchanged_26 (d2 := d - 1) (s_oddsR h hb (by omega) ⟨by omega, by omega⟩) (by omega) ?_)
  rintro _ z ⟨e, rfl⟩; cases e
  refine g_X8_unchanged_29 ⟨by omega, p_X8_unchanged_33 (d2 := d - 1) (s_behindMended h hb h6 hs (by omega) hf) (by omega) ?_⟩
  rintro _ z ⟨rfl, rfl⟩
  refine ⟨_, rfl, g_X8_unchanged_36 ⟨?_, rfl⟩⟩
  unfold ntP
  rw [show smC ρ i = s by unfold smC; omega]
  rfl
theorem s_looked {i s : Nat} {u : Int} (h : MRm m ρ) (hb : RmB ρ) (h3 : ρ 0 3 ≠ 0) (h6 : ρ 0 1 ≤ 6) (hs : ((s + (i + 1) : Nat) : Int) = ρ 0 1) (hd : 2 ≤ d) (hu : 0 ≤ u ∧ u ≤ 99) (hf : HfM m ρ w (i + 1)) (hm : MtM m ρ w i) : P_X8_looked sc d [aR 62, aI s, aI u] m (PV (aJ (loP ρ i (ChP ρ w i) u)) m) := by
  have ts := (hb.2.2.2.1 s (by omega)).1
  have ou := odR_bd hb h3 u
  have ov := odR_bd hb h3 (u + ρ 3 s)
  have m2 := (ch_min hb).2.2
  have e1 := hf.1
  rw [show (ρ 0 1).toNat - (i + 1) = s by omega] at e1
  have pm : 0 ≤ odR ρ u * ρ 7 2 ∧ odR ρ u * ρ 7 2 ≤ 9900 := by
    refine ⟨Int.mul_nonneg (by omega) (by omega), Int.le_trans (Int.mul_le_mul_of_nonneg_left m2.2 ou.1) (by omega)⟩
  refine ep_X8_looked (g_X8_looked_0 (p_X8_looked_3 (d2 := d - 1) (s_takesOf h hb (by omega)) (by omega) ?_))
  rintro _ z ⟨e, rfl⟩; cases e
  refine g_X8_looked_6 (p_X8_looked_10 (d2 := d - 1) (s_oddsR h hb (by omega) ⟨by omega, by omega⟩) (by omega) ?_)
  rintro _ z ⟨e, rfl⟩; cases e
  refine g_X8_looked_13 (p_X8_looked_15 (d2 := d - 1) (s_settingOf (i := 2) h (by omega)) (by omega) ?_)
  rintro _ z ⟨e, rfl⟩; cases e
  rw [show ρ 7 ((2 : Nat) : Int) = ρ 7 2 from rfl]
  refine g_X8_looked_18 ⟨by omega, by omega, by omega, ?_⟩
  rw [e1]
  refine p_X8_looked_35 (d2 := d - 1) (s_meantAt (s := s + 1) hb h3 h6 (by omega) ⟨by omega, by omega⟩ hm) (by omega) ?_
  rintro _ z ⟨rfl, rfl⟩
  refine ⟨_, rfl, g_X8_looked_38 (p_X8_looked_42 (d2 := d - 1) (s_oddsR h hb (by omega) ⟨by omega, by omega⟩) (by omega) ?_)⟩
  rintro _ z ⟨e, rfl⟩; cases e
  refine g_X8_looked_45 (p_X8_looked_47 (d2 := d - 1) (s_oddsR h hb (by omega) ⟨by omega, by omega⟩) (by omega) ?_)
  rintro _ z ⟨e, rfl⟩; cases e
  refine g_X8_looked_50 ⟨by omega, p_X8_looked_54 (d2 := d - 1) (s_changed h hb h6 hs (by omega) hf) (by omega) ?_⟩
  rintro _ z ⟨rfl, rfl⟩
  refine ⟨_, rfl, g_X8_looked_57 ⟨?_, rfl⟩⟩
  unfold loP
  rw [show smC ρ i = s by unfold smC; omega]
  rfl
/-- a sewer as the reference calls it -/
def swM (ρ : Mem) (wm w : Int) : Prop := (wm = w ∧ 0 ≤ w ∧ w < 4 + ρ 0 2) ∨ (wm = 100 ∧ w = -2)
theorem un_sc {x V B : Int} (hx : 0 ≤ x) (hV : 1 ≤ V) (h : x * V ≤ B) : x ≤ B := by
  have := Int.mul_le_mul_of_nonneg_left hV hx
  rw [Int.mul_one] at this
  omega
theorem s_chosen {wm : Int} {i s : Nat} {u : Int} (h : MRm m ρ) (hb : RmB ρ) (hr : RlB ρ) (hl : MRl m ρ) (h3 : ρ 0 3 ≠ 0) (h6 : ρ 0 1 ≤ 6) (hw : swM ρ wm w) (hs : ((s + (i + 1) : Nat) : Int) = ρ 0 1) (hd : 5 ≤ d) (hu : 1 ≤ u ∧ u ≤ 99) (hf0 : HfM m ρ w i) (hf1 : HfM m ρ w (i + 1)) (hm : MtM m ρ w i) :
    P_X8_chosen sc d [aR 62, aI wm, aI s, aI u] m (fun v z => Ex C_it m z ∧ v = some (aJ (wtC ρ w (i + 1) u))) := by
  have b0 := hb.1
  have b1 := hb.2.1.2 h3
  have V1 := HuF_pos (6 - (i + 1))
  have ou := odR_bd hb h3 u
  obtain ⟨q1, q2, q3⟩ := ch_prt hb h3 w (j := i) (by omega) (by omega) (u := u) (by omega)
  have vb1 := un_sc q1.1 V1 (sc_bd (j := i) (by omega) ou q1).2
  have vb2 := un_sc q2.1 V1 (sc_bd (j := i) (by omega) ou q2).2
  have vb3 := un_sc q3.1 V1 (sc_bd (j := i) (by omega) ou q3).2
  have kk : smC ρ i = s := by unfold smC; omega
  have wR : R32 wm := by unfold R32; rcases hw with q | q <;> omega
  have w4 : wtC ρ w (i + 1) u = ckC ρ w s u (ntP ρ i (ChP ρ w i) u) (odR ρ u * cgP ρ (i + 1) (frC ρ w (i + 1))) (loP ρ i (ChP ρ w i) u) := by
    rw [← kk]
    rfl
  have lk : ∀ d' : Nat, 2 ≤ d' → P_X8_looked sc d' [aR 62, aI s, aI u] m (PV (aJ (loP ρ i (ChP ρ w i) u)) m) := fun d' hd' => s_looked h hb h3 h6 hs hd' ⟨by omega, by omega⟩ hf1 hm
  refine ep_X8_chosen (g_X8_chosen_0 (p_X8_chosen_3 (d2 := d - 1) (s_unchanged h hb h3 h6 hs (by omega) ⟨by omega, by omega⟩ hf0 hm) (by omega) ?_))
  rintro _ z ⟨rfl, rfl⟩
  refine ⟨_, rfl, g_X8_chosen_6 (p_X8_chosen_10 (d2 := d - 1) (s_oddsR h hb (by omega) ⟨by omega, by omega⟩) (by omega) ?_)⟩
  rintro _ z ⟨e, rfl⟩; cases e
  refine g_X8_chosen_13 ⟨by omega, p_X8_chosen_16 (d2 := d - 1) (s_changed h hb h6 hs (by omega) hf1) (by omega) ?_⟩
  rintro _ z ⟨rfl, rfl⟩
  have cgv := q2
  refine ⟨_, rfl, g_X8_chosen_19 ⟨wR, fun c2 => ⟨fun c3 => ⟨by omega, by omega, fun _ => ⟨Ex.refl _ _, ?_⟩, fun c => absurd (by omega) c⟩, fun c3 => ⟨fun c4 => ?_, fun c4 => ⟨by omega, by omega, fun c => absurd c c4, fun _ => ?_⟩⟩⟩, fun c2 => ?_⟩⟩
  · have hw3 : w = 3 := by rcases hw with q | q <;> omega
    have ck : ckC ρ w s u (ntP ρ i (ChP ρ w i) u) (odR ρ u * cgP ρ (i + 1) (frC ρ w (i + 1))) (loP ρ i (ChP ρ w i) u) = if odR ρ u * cgP ρ (i + 1) (frC ρ w (i + 1)) < ntP ρ i (ChP ρ w i) u then odR ρ u * cgP ρ (i + 1) (frC ρ w (i + 1)) else ntP ρ i (ChP ρ w i) u := by
      unfold ckC
      rw [if_neg (by omega), if_pos hw3]
    rw [w4, ck]
    by_cases g : odR ρ u * cgP ρ (i + 1) (frC ρ w (i + 1)) < ntP ρ i (ChP ρ w i) u
    · rw [if_pos g, if_neg (by omega)]
    · rw [if_neg g, if_pos (by omega)]
  · have hw5 : wm = w ∧ 0 ≤ w ∧ w < 4 + ρ 0 2 := by rcases hw with q | q; exact q; omega
    obtain ⟨rfl, hw6⟩ := hw5
    refine p_X8_chosen_96 (d2 := d - 1) (s_isChange h hb hr hl b1.1 (by omega) (by omega) hw6 ⟨by omega, by omega⟩) (by omega) ?_
    rintro _ y ⟨ye, e⟩; cases e
    have c01 := chgF_01 (w := wm) (u := u) (s := s) hb hr hw6.2 (by omega) ⟨by omega, by omega⟩
    have ck : ckC ρ wm s u (ntP ρ i (ChP ρ wm i) u) (odR ρ u * cgP ρ (i + 1) (frC ρ wm (i + 1))) (loP ρ i (ChP ρ wm i) u) = if chgF ρ wm s u = 0 then ntP ρ i (ChP ρ wm i) u else odR ρ u * cgP ρ (i + 1) (frC ρ wm (i + 1)) := by
      unfold ckC
      rw [if_neg c2, if_neg c3, if_neg (by omega)]
    refine g_X8_chosen_99 ⟨by omega, ye, ?_⟩
    rw [w4, ck]
  · have hw5 : w = -2 := by rcases hw with q | q <;> omega
    have w5 : wtC ρ w (i + 1) u = (if (if ntP ρ i (ChP ρ w i) u ≤ odR ρ u * cgP ρ (i + 1) (frC ρ w (i + 1)) then ntP ρ i (ChP ρ w i) u else odR ρ u * cgP ρ (i + 1) (frC ρ w (i + 1))) ≤ loP ρ i (ChP ρ w i) u then (if ntP ρ i (ChP ρ w i) u ≤ odR ρ u * cgP ρ (i + 1) (frC ρ w (i + 1)) then ntP ρ i (ChP ρ w i) u else odR ρ u * cgP ρ (i + 1) (frC ρ w (i + 1))) else loP ρ i (ChP ρ w i) u) := by
      rw [w4]
      unfold ckC
      rw [if_neg (by omega), if_neg (by omega), if_pos hw5]
      by_cases g : odR ρ u * cgP ρ (i + 1) (frC ρ w (i + 1)) < ntP ρ i (ChP ρ w i) u
      · rw [if_pos g, if_neg (show ¬ ntP ρ i (ChP ρ w i) u ≤ odR ρ u * cgP ρ (i + 1) (frC ρ w (i + 1)) by omega)]
        split <;> split <;> omega
      · rw [if_neg g, if_pos (show ntP ρ i (ChP ρ w i) u ≤ odR ρ u * cgP ρ (i + 1) (frC ρ w (i + 1)) by omega)]
        split <;> split <;> omega
    have vi : R64 (if ntP ρ i (ChP ρ w i) u ≤ odR ρ u * cgP ρ (i + 1) (frC ρ w (i + 1)) then ntP ρ i (ChP ρ w i) u else odR ρ u * cgP ρ (i + 1) (frC ρ w (i + 1))) := by
      unfold R64
      split <;> omega
    generalize (if ntP ρ i (ChP ρ w i) u ≤ odR ρ u * cgP ρ (i + 1) (frC ρ w (i + 1)) then ntP ρ i (ChP ρ w i) u else odR ρ u * cgP ρ (i + 1) (frC ρ w (i + 1))) = best at w5 vi ⊢
    refine p_X8_chosen_71 (d2 := d - 1) (lk _ (by omega)) (by omega) ?_
    rintro _ y ⟨rfl, rfl⟩
    refine ⟨_, rfl, g_X8_chosen_74 ⟨by omega, vi, fun c => ⟨Ex.refl _ _, ?_⟩, fun c => ?_⟩⟩
    · rw [w5, if_pos c]
    · refine p_X8_chosen_83 (d2 := d - 1) (lk _ (by omega)) (by omega) ?_
      rintro _ y' ⟨rfl, rfl⟩
      refine ⟨_, rfl, g_X8_chosen_86 ⟨Ex.refl _ _, ?_⟩⟩
      rw [w5, if_neg c]
  · have hw5 : w = 2 := by rcases hw with q | q <;> omega
    refine p_X8_chosen_30 (d2 := d - 1) (lk _ (by omega)) (by omega) ?_
    rintro _ y ⟨rfl, rfl⟩
    refine ⟨_, rfl, g_X8_chosen_33 ⟨Ex.refl _ _, ?_⟩⟩
    rw [w4]
    unfold ckC
    rw [if_pos hw5]
def C_me (a j : Int) : Prop := C_it a j ∨ a = 104 ∨ a = 105 ∨ a = 106
/-- all means, as the reference has them -/
def MnM (z ρ : Mem) (w : Int) (j : Nat) : Prop := ∀ i : Nat, i ≤ j → HfM z ρ w i ∧ MtM z ρ w i
theorem s_means {wm : Int} (h : MRm m ρ) (hb : RmB ρ) (hr : RlB ρ) (hl : MRl m ρ) (h3 : ρ 0 3 ≠ 0) (h6 : ρ 0 1 ≤ 6) (hw : swM ρ wm w) (hd : 6 ≤ d) :
    P_X8_means sc d [aR 62, aI wm] m (fun v z => v = none ∧ Ex C_me m z ∧ MnM z ρ w (ρ 0 1).toNat) := by
  have b0 := hb.1
  obtain ⟨S, hS⟩ : ∃ S : Nat, S = (ρ 0 1).toNat := ⟨_, rfl⟩
  have hS1 : ρ 0 1 = S := by omega
  have mrm : ∀ z, Ex C_me m z → MRm z ρ := fun z he => h.ex he (fun a j q c => by unfold C_me C_it at c; omega)
  have mrl : ∀ z, Ex C_me m z → MRl z ρ := fun z he => ⟨fun k hk => by rw [he 101 _ (by unfold C_me C_it; omega), he 102 _ (by unfold C_me C_it; omega)]; exact hl.1 k hk, fun j hj => by rw [he 103 _ (by unfold C_me C_it; omega)]; exact hl.2 j hj⟩
  -- seam by seam, from the last one back
  have lp : ∀ (n i : Nat) (z : Mem), i + n = S → Ex C_me m z → MnM z ρ w i → S_X8_means sc d 49 [aR 62, aI wm, aU, aI ((S : Int) - 1 - i), aU, aU] [] z (fun v z => v = none ∧ Ex C_me m z ∧ MnM z ρ w (ρ 0 1).toNat) := by
    intro n
    induction n with
    | zero =>
      intro i z hi he hm
      exact g_X8_means_49 ⟨by omega, fun _ => ⟨rfl, he, by rw [← hS]; exact fun i' h' => hm i' (by omega)⟩, fun c => absurd (by omega) c⟩
    | succ n ih =>
      intro i z hi he hm
      obtain ⟨s, hs⟩ : ∃ s : Nat, (s : Int) = (S : Int) - 1 - i := ⟨((S : Int) - 1 - i).toNat, by omega⟩
      rw [← hs]
      have sS : s + (i + 1) = S := by omega
      have ts := (hb.2.2.2.1 s (by omega)).1
      have ot := odR_bd hb h3 (ρ 3 s)
      have hmi := hm i (Nat.le_refl _)
      have h4 : z 104 ((s : Int) + 1) = HuF i := by
        have := hmi.1.1
        rw [← hS, show S - i = s + 1 by omega] at this
        exact this
      refine g_X8_means_49 ⟨by omega, fun c => absurd c (by omega), fun _ => ⟨by omega, by omega, by omega, by omega, ?_⟩⟩
      rw [h4]
      -- the level's first two
      have keep : ∀ y : Mem, Ex (fun a j => C_it a j ∨ ((a = 104 ∨ a = 105) ∧ j = s) ∨ (a = 106 ∧ 100 * (s : Int) ≤ j ∧ j < 100 * (s : Int) + 100)) z y → (Ex C_me m y ∧ MnM y ρ w i) := fun y ye => by
        refine ⟨he.trans (ye.mono (fun a j q => ?_)), fun i' h' => ⟨⟨?_, ?_⟩, fun u h1 h2 => ?_⟩⟩
        · unfold C_me
          rcases q with q | q | q
          · exact Or.inl q
          · omega
          · omega
        · rw [ye 104 _ (by unfold C_it; omega)]; exact (hm i' h').1.1
        · rw [ye 105 _ (by unfold C_it; omega)]; exact (hm i' h').1.2
        · rw [ye 106 _ (by unfold C_it; omega)]; exact (hm i' h').2 u h1 h2
      have zx1 : Ex (fun a j => C_it a j ∨ ((a = 104 ∨ a = 105) ∧ j = s) ∨ (a = 106 ∧ 100 * (s : Int) ≤ j ∧ j < 100 * (s : Int) + 100)) z (wr z 104 s (100 * HuF i)) := (Ex.refl _ _).put (Or.inr (Or.inl ⟨Or.inl rfl, rfl⟩))
      have z1s : wr z 104 s (100 * HuF i) 104 s = 100 * HuF i := wr_eq _ _ _ _
      generalize wr z 104 s (100 * HuF i) = z1 at zx1 z1s ⊢
      obtain ⟨k1, k2⟩ := keep z1 zx1
      refine p_X8_means_73 (d2 := d - 1) (s_takesOf (mrm z1 k1) hb (by omega)) (by omega) ?_
      rintro _ z2 ⟨e, rfl⟩; cases e
      refine g_X8_means_76 (p_X8_means_89 (d2 := d - 1) ic_105 (s_meantAt (w := w) (i := i) (s := s + 1) hb h3 h6 (by omega) ⟨by omega, by omega⟩ (k2 i (Nat.le_refl _)).2) (by omega) ?_)
      rintro _ z3 ⟨rfl, rfl⟩
      refine ⟨_, rfl, g_X8_means_92 ic_105 (p_X8_means_97 (d2 := d - 1) ic_105 (s_oddsR (mrm z3 k1) hb (by omega) ⟨by omega, by omega⟩) (by omega) ?_)⟩
      rintro _ z4 ⟨e, rfl⟩; cases e
      refine g_X8_means_100 ic_105 ⟨by omega, p_X8_means_104 (d2 := d - 1) ic_105 (s_behindMended (w := w) (i := i) (mrm z4 k1) hb h6 (by omega) (by omega) (k2 i (Nat.le_refl _)).1) (by omega) ?_⟩
      rintro _ z5 ⟨rfl, rfl⟩
      refine ⟨_, rfl, g_X8_means_107 ic_105 ⟨by omega, by rw [show alen 105 = 7 by decide +kernel]; omega, by omega, by omega, by omega, by omega, ?_⟩⟩
      have fe : wtC ρ w i (ρ 3 s) + (100 - odR ρ (ρ 3 s)) * bmP ρ i (frC ρ w i) = frC ρ w (i + 1) := by
        show _ = frP ρ i (ChP ρ w i)
        unfold frP
        rw [show smC ρ i = s by unfold smC; omega]
        rfl
      rw [fe, wr_eq]
      have zx6 : Ex (fun a j => C_it a j ∨ ((a = 104 ∨ a = 105) ∧ j = s) ∨ (a = 106 ∧ 100 * (s : Int) ≤ j ∧ j < 100 * (s : Int) + 100)) z (wr (wr z5 105 s (frC ρ w (i + 1))) 106 (100 * s) (100 * frC ρ w (i + 1))) := (zx1.put (Or.inr (Or.inl ⟨Or.inr rfl, rfl⟩))).put (Or.inr (Or.inr ⟨rfl, by omega, by omega⟩))
      have z6a : wr (wr z5 105 s (frC ρ w (i + 1))) 106 (100 * s) (100 * frC ρ w (i + 1)) 104 s = 100 * HuF i := by rw [wr_na _ _ _ _ _ _ (by decide), wr_na _ _ _ _ _ _ (by decide)]; exact z1s
      have z6b : wr (wr z5 105 s (frC ρ w (i + 1))) 106 (100 * s) (100 * frC ρ w (i + 1)) 105 s = frC ρ w (i + 1) := by rw [wr_na _ _ _ _ _ _ (by decide), wr_eq]
      generalize wr (wr z5 105 s (frC ρ w (i + 1))) 106 (100 * s) (100 * frC ρ w (i + 1)) = z6 at zx6 z6a z6b ⊢
      have lu : ∀ (p u : Nat) (y : Mem), u + p = 100 → 1 ≤ u → Ex (fun a j => C_it a j ∨ ((a = 104 ∨ a = 105) ∧ j = s) ∨ (a = 106 ∧ 100 * (s : Int) ≤ j ∧ j < 100 * (s : Int) + 100)) z y → y 104 s = 100 * HuF i → y 105 s = frC ρ w (i + 1) → (∀ q : Nat, 1 ≤ q → q < u → y 106 (100 * (s : Int) + q) = wtC ρ w (i + 1) q) → S_X8_means sc d 132 [aR 62, aI wm, aU, aI s, aU, aI u] [] y (fun v z => v = none ∧ Ex C_me m z ∧ MnM z ρ w (ρ 0 1).toNat) := by
        intro p
        induction p with
        | zero =>
          intro u y hu h1 ye y4 y5 yq
          obtain ⟨k1, k2⟩ := keep y ye
          refine g_X8_means_132 ⟨by omega, fun _ => ?_, fun c => absurd (by omega) c⟩
          have g := ih (i + 1) y (by omega) k1 ?_
          · rw [show (S : Int) - 1 - ((i + 1 : Nat) : Int) = (s : Int) + (-1) by omega] at g
            exact g
          · intro i' hi'
            by_cases e : i' = i + 1
            · rw [e]
              refine ⟨⟨?_, ?_⟩, fun q q1 q2 => ?_⟩
              · rw [← hS, show S - (i + 1) = s by omega, y4]; rfl
              · rw [← hS, show S - (i + 1) = s by omega, y5]
              · rw [← hS, show S - (i + 1) = s by omega]; exact yq q q1 (by omega)
            · exact k2 i' (by omega)
        | succ p ihp =>
          intro u y hu h1 ye y4 y5 yq
          obtain ⟨k1, k2⟩ := keep y ye
          refine g_X8_means_132 ⟨by omega, fun c => absurd c (by omega), fun _ => ?_⟩
          have hf1 : HfM y ρ w (i + 1) := by
            refine ⟨?_, ?_⟩
            · rw [← hS, show S - (i + 1) = s by omega, y4]; rfl
            · rw [← hS, show S - (i + 1) = s by omega, y5]
          refine p_X8_means_155 (d2 := d - 1) ic_106 (s_chosen (w := w) (i := i) (mrm y k1) hb hr (mrl y k1) h3 h6 hw (by omega) (by omega) ⟨by omega, by omega⟩ (k2 i (Nat.le_refl _)).1 hf1 (k2 i (Nat.le_refl _)).2) (by omega) ?_
          rintro _ x1 ⟨xe, rfl⟩
          refine ⟨_, rfl, g_X8_means_158 ic_106 ⟨by omega, by rw [show alen 106 = 700 by decide +kernel]; omega, ?_⟩⟩
          refine ihp (u + 1) _ (by omega) (by omega) ((ye.trans (xe.mono (fun a j q => Or.inl q))).put (Or.inr (Or.inr ⟨rfl, by omega, by omega⟩))) ?_ ?_ (fun q q1 q2 => ?_)
          · rw [wr_na _ _ _ _ _ _ (by decide), xe 104 _ (by unfold C_it; omega)]; exact y4
          · rw [wr_na _ _ _ _ _ _ (by decide), xe 105 _ (by unfold C_it; omega)]; exact y5
          · by_cases e : q = u
            · rw [e, wr_eq]
            · rw [wr_ne _ _ _ _ _ _ (by omega), xe 106 _ (by unfold C_it; omega)]; exact yq q q1 (by omega)
      exact lu 99 1 z6 (by omega) (by omega) zx6 z6a z6b (fun q q1 q2 => by omega)
  refine ep_X8_means (g_X8_means_0 (p_X8_means_1 (d2 := d - 1) (s_seamMany h) (by omega) ?_))
  rintro _ m ⟨e, rfl⟩; cases e
  rw [show aI (ρ 0 1) = aI S by rw [hS1]]
  refine g_X8_means_4 ⟨by omega, by omega, ?_⟩
  have y0 : Ex C_me m (wr (wr m 104 S 1) 105 S 0) := ((Ex.refl C_me m).put (Or.inr (Or.inl rfl))).put (Or.inr (Or.inr (Or.inl rfl)))
  have y4 : wr (wr m 104 S 1) 105 S 0 104 S = 1 := by rw [wr_na _ _ _ _ _ _ (by decide), wr_eq]
  have y5 : wr (wr m 104 S 1) 105 S 0 105 S = 0 := wr_eq _ _ _ _
  generalize wr (wr m 104 S 1) 105 S 0 = y at y0 y4 y5 ⊢
  have cl : ∀ (n u : Nat) (z : Mem), u + n = 100 → Ex (fun a j => a = 106) y z → (∀ q : Nat, q < u → z 106 (100 * (S : Int) + q) = 0) → S_X8_means sc d 21 [aR 62, aI wm, aI S, aI u, aU, aU] [] z (fun v z => v = none ∧ Ex C_me m z ∧ MnM z ρ w (ρ 0 1).toNat) := by
    intro n
    induction n with
    | zero =>
      intro u z hu he hz
      refine g_X8_means_21 ⟨by omega, fun _ => ?_, fun c => absurd (by omega) c⟩
      have g := lp S 0 z (by omega) (y0.trans (he.mono (fun a j q => Or.inr (Or.inr (Or.inr q))))) ?_
      · rw [show (S : Int) - 1 - ((0 : Nat) : Int) = (S : Int) - 1 by omega] at g
        exact g
      · intro i hi
        obtain rfl : i = 0 := by omega
        refine ⟨⟨?_, ?_⟩, fun u h1 h2 => ?_⟩
        · rw [← hS, Nat.sub_zero, he 104 _ (show ¬ (104 : Int) = 106 by decide), y4]; rfl
        · rw [← hS, Nat.sub_zero, he 105 _ (show ¬ (105 : Int) = 106 by decide), y5]; rfl
        · rw [← hS, Nat.sub_zero, hz u (by omega)]; rfl
    | succ n ih =>
      intro u z hu he hz
      refine g_X8_means_21 ⟨by omega, fun c => absurd c (by omega), fun _ => ⟨by omega, by omega, ?_⟩⟩
      refine ih (u + 1) _ (by omega) (he.put rfl) (fun q hq => ?_)
      by_cases e : q = u
      · rw [e, wr_eq]
      · rw [wr_ne _ _ _ _ _ _ (by omega)]; exact hz q (by omega)
  exact cl 100 0 y (by omega) (Ex.refl _ _) (fun q hq => by omega)
end CM
