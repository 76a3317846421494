/-! pairs: mean, when, looks, rule -/
section PM
variable {sc : List Int} {Ca : Mem → Mem → Prop} {d : Nat} {m ρ : Mem} {w : Int}
/-- what Ca says of the means -/
def CaH (Ca : Mem → Mem → Prop) : Prop := (∀ m ρ : Mem, Ca m ρ → ChC m ρ) ∧ ∀ m z ρ : Mem, Ca m ρ → (∀ a j, CaC a j → ¬ (a = 38 ∨ (a = 37 ∧ j = 1)) → z a j = m a j) → ChC z ρ → Ca z ρ
theorem ChC.ex {z : Mem} (h : ChC m ρ) (e : ∀ a j, (a = 38 ∨ (a = 37 ∧ j = 1)) → z a j = m a j) : ChC z ρ := by
  unfold ChC FrX
  rw [e 37 1 (Or.inr ⟨rfl, rfl⟩), show z 38 = m 38 from funext fun j => e 38 j (Or.inl rfl)]
  exact h
theorem ChC.of {z : Mem} (hw : w = -2 ∨ (0 ≤ w ∧ w < 4 + ρ 0 2)) (h1 : z 37 1 = w) (h2 : FrX z ρ w (ρ 0 1).toNat) : ChC z ρ := by
  unfold ChC
  rw [h1]
  exact Or.inr ⟨hw, h2⟩
theorem pairI_c {n : Nat} {nr : Int} {wd : Int → Int} {dx dm lx lm : Nat} {yx ym : MethodName} {cx cm : ByteArray} {rx rm : Option FieldType} {ax am : List AV} {CX CM : Int → Int → Prop} {A : Int → Prop} (hH : CaH Ca) (hi : InvB n m ρ nr wd) (hc : Ca m ρ)
    (hx : CallP sc dx yx cx lx rx ax m (fun v z => Ex CX m z ∧ ChC z ρ ∧ ∃ x, v = some (aI x) ∧ A x)) (hm : ∀ z, Ex CX m z → CallP sc dm ym cm lm rm am z (fun v z2 => Ex CM z z2 ∧ ∃ x, v = some (aI x) ∧ A x)) (heq : ∀ x y, A x → A y → x = y) (hr : ∀ x, A x → R32 x)
    (c1 : ∀ a j, CX a j → ¬ Rel a j) (c2 : ∀ a j, CM a j → ¬ Rel a j) (c3 : ∀ a j, CX a j → CaC a j → (a = 38 ∨ (a = 37 ∧ j = 1))) (c4 : ∀ a j, CM a j → ¬ CaC a j) :
    PairI (Inv Ca) n m (CallP sc dx yx cx lx rx ax) (CallP sc dm ym cm lm rm am) := by
  refine CallP.imp hx ?_
  rintro v z ⟨h1, hC, x, rfl, hA⟩
  refine ⟨x, rfl, hr x hA, CallP.imp (hm z h1) ?_⟩
  rintro v2 z2 ⟨h2, y, rfl, hB⟩
  have all : Ex (fun a j => CX a j ∨ CM a j) m z2 := (h1.mono (fun a j q => Or.inl q)).trans (h2.mono (fun a j q => Or.inr q))
  refine ⟨by rw [heq y x hB hA], ρ, nr, wd, (hi.ex all (fun a j q => q.elim (c1 a j) (c2 a j))).up, hH.2 m z2 ρ hc (fun a j q1 q2 => all a j (fun q => q.elim (fun q => q2 (c3 a j q q1)) (fun q => c4 a j q q1))) (hC.ex (fun a j q => h2 a j (fun c => c4 a j c ?_)))⟩
  unfold CaC
  omega
theorem cpr_rel {r : Int} (H : RoomAt r) (a j : Int) (h : C_pr r a j) : ¬ Rel a j := by
  unfold C_pr C_wx at h
  unfold Rel
  rcases H with rfl | rfl <;> omega
theorem cpr_ca {r : Int} (H : RoomAt r) (a j : Int) (h : C_pr r a j) (h2 : CaC a j) : a = 38 ∨ (a = 37 ∧ j = 1) := by
  unfold C_pr C_wx at h
  unfold CaC at h2
  rcases H with rfl | rfl <;> omega
theorem cme_rel (a j : Int) (h : C_me a j) : ¬ Rel a j := by
  unfold C_me C_it at h
  unfold Rel
  omega
theorem cme_ca (a j : Int) (h : C_me a j) : ¬ CaC a j := by
  unfold C_me C_it at h
  unfold CaC
  omega
/-- thousandths on both sides -/
theorem th_eq {f : Int} {S : Nat} (hS : S ≤ 6) : (f * HuF (6 - S)).tdiv 1000000000 = (1000 * f).tdiv (HuF S) := by
  have e := HuF_all (j := S) hS
  have V := HuF_pos (6 - S)
  rw [← Int.mul_tdiv_mul_of_pos (a := 1000) _ _ (by decide), show (1000 : Int) * 1000000000 = HuF S * HuF (6 - S) by rw [e]; decide, ← Int.mul_assoc, Int.mul_tdiv_mul_of_pos_left _ _ (by omega)]
theorem th_bd {f : Int} {S : Nat} (h : -2400 * HuF S ≤ f ∧ f ≤ 2400 * HuF S) : R32 ((1000 * f).tdiv (HuF S)) := by
  have H := HuF_pos S
  have e : ((1000 * f).tdiv (HuF S)).natAbs ≤ 2400000 := by
    rw [Int.natAbs_tdiv]
    exact Nat.div_le_of_le_mul (by omega)
  unfold R32
  omega
theorem fr_bd (hb : RmB ρ) (h3 : ρ 0 3 ≠ 0) (h6 : ρ 0 1 ≤ 6) (w : Int) : 0 ≤ frC ρ w (ρ 0 1).toNat ∧ frC ρ w (ρ 0 1).toNat ≤ 2400 * HuF (ρ 0 1).toNat ∧ 0 ≤ frC ρ w (ρ 0 1).toNat * HuF (6 - (ρ 0 1).toNat) ∧ frC ρ w (ρ 0 1).toNat * HuF (6 - (ρ 0 1).toNat) ≤ 2400000000000000 := by
  have b0 := hb.1
  obtain ⟨S, hS⟩ : ∃ S : Nat, S = (ρ 0 1).toNat := ⟨_, rfl⟩
  rw [← hS]
  have h := (ch_bd hb h3 w S (by omega) (by omega)).1
  have H := HuF_pos S
  have V := HuF_pos (6 - S)
  have e := HuF_all (j := S) (by omega)
  have k : frC ρ w S ≤ 2400 * HuF S := Int.le_trans h.2 (Int.mul_le_mul_of_nonneg_right (by omega) (by omega))
  refine ⟨h.1, k, Int.mul_nonneg h.1 (by omega), ?_⟩
  have g := Int.mul_le_mul_of_nonneg_right k (c := HuF (6 - S)) (by omega)
  rw [Int.mul_assoc, e] at g
  omega
def IsMea (ρ : Mem) (w v : Int) : Prop := (ρ 0 1 ≤ 6 ∧ knF ρ w ∧ v = (1000 * frC ρ w (ρ 0 1).toNat).tdiv (HuF (ρ 0 1).toNat)) ∨ (¬ (ρ 0 1 ≤ 6 ∧ knF ρ w) ∧ v = -1)
theorem s_thousandths {v : Int} (h : R64 v) : P_X0_thousandths sc d [aJ v] m (PV (aI (v.tdiv 1000000000)) m) := ep_X0_thousandths (g_X0_thousandths_0 ⟨h, rfl, rfl⟩)
theorem Xt.rl {n : Nat} {nr : Int} {wd : Int → Int} (hi : InvB n m ρ nr wd) : RlB ρ ∧ XRl m (m 0 2) ρ ∧ MRl m ρ := ⟨hi.2.2.2.2.1.1, hi.2.2.2.2.1.2.1, hi.2.2.2.2.1.2.2.1⟩
theorem MRl.ex {C : Int → Int → Prop} {z : Mem} (h : MRl m ρ) (he : Ex C m z) (hc : ∀ a j, C a j → a < 101 ∨ 103 < a) : MRl z ρ :=
  ⟨fun k hk => by rw [he 101 _ (fun c => by have := hc _ _ c; omega), he 102 _ (fun c => by have := hc _ _ c; omega)]; exact h.1 k hk, fun j hj => by rw [he 103 _ (fun c => by have := hc _ _ c; omega)]; exact h.2 j hj⟩
theorem s_X7_mean (h : Xt m ρ) (hr : RlB ρ) (hl : XRl m (m 0 2) ρ) (hc : ChC m ρ) (hd : 7 ≤ d) (hw : R32 w) : P_X7_mean sc d [aR 0, aI w] m (fun v z => Ex (C_pr (m 0 2)) m z ∧ ChC z ρ ∧ ∃ x, v = some (aI x) ∧ IsMea ρ w x) := by
  have hb := h.2.2
  have b0 := hb.1
  refine ep_X7_mean (g_X7_mean_0 (p_X7_mean_1 (d2 := d - 1) (s_weighs h) (by omega) ?_))
  rintro _ m ⟨rfl, ⟨e, q⟩ | ⟨e, q⟩⟩ <;> cases e
  · refine g_X7_mean_4 ⟨by omega, fun c => absurd c (by decide), fun _ => ?_⟩
    refine p_X7_mean_12 (d2 := d - 1) h.1 (s_X6_knows h.1 h.2.1 hb hw) (by omega) ?_
    rintro _ m ⟨rfl, ⟨e, q2⟩ | ⟨e, q2⟩⟩ <;> cases e
    · have h3 : ρ 0 3 ≠ 0 := by have := q2.1; omega
      have hw2 : w = -2 ∨ (0 ≤ w ∧ w < 4 + ρ 0 2) := Or.inr ⟨q2.2.1, q2.2.2.1⟩
      refine g_X7_mean_15 ⟨by omega, fun _ => ?_, fun c => absurd (by decide) c⟩
      refine p_X7_mean_29 (d2 := d - 1) h.1 (s_X0_expect h.1 h.2.1 hb hr hl h3 q.2 hw2 hc (by omega)) (by omega) ?_
      rintro _ z ⟨rfl, h1, h2, h4⟩
      have fb := fr_bd hb h3 q.2 w
      refine ⟨_, rfl, g_X7_mean_32 (p_X7_mean_32 (d2 := d - 1) (s_thousandths (by unfold R64; omega)) (by omega) ?_)⟩
      rintro _ z ⟨e, rfl⟩; cases e
      refine g_X7_mean_35 ⟨h1, ChC.of hw2 h2 h4, _, rfl, Or.inl ⟨q.2, q2, th_eq (by omega)⟩⟩
    · exact g_X7_mean_15 ⟨by omega, fun c => absurd rfl c, fun _ => ⟨Ex.refl _ _, hc, _, rfl, Or.inr ⟨fun p => q2 p.2, rfl⟩⟩⟩
  · exact g_X7_mean_4 ⟨by omega, fun _ => ⟨Ex.refl _ _, hc, _, rfl, Or.inr ⟨fun p => q ⟨p.2.1, p.1⟩, rfl⟩⟩, fun c => absurd rfl c⟩
theorem s_X8_mean (h : MRm m ρ) (hb : RmB ρ) (hr : RlB ρ) (hl : MRl m ρ) (hd : 7 ≤ d) (hw : R32 w) : P_X8_mean sc d [aR 62, aI w] m (fun v z => Ex C_me m z ∧ ∃ x, v = some (aI x) ∧ IsMea ρ w x) := by
  have b0 := hb.1
  refine ep_X8_mean (g_X8_mean_0 (p_X8_mean_1 (d2 := d - 1) (s_areFew h hb (by omega)) (by omega) ?_))
  rintro _ m ⟨rfl, ⟨e, q⟩ | ⟨e, q⟩⟩ <;> cases e
  · refine g_X8_mean_4 ⟨by omega, fun c => absurd c (by decide), fun _ => ?_⟩
    refine p_X8_mean_9 (d2 := d - 1) (s_isSewer h hb (by omega) hw) (by omega) ?_
    rintro _ m ⟨rfl, ⟨e, q2⟩ | ⟨e, q2⟩⟩ <;> cases e
    · have h3 : ρ 0 3 ≠ 0 := by have := q2.1; omega
      refine g_X8_mean_12 ⟨by omega, fun _ => ?_, fun c => absurd (by decide) c⟩
      refine p_X8_mean_19 (d2 := d - 1) (s_means (w := w) h hb hr hl h3 q.2 (Or.inl ⟨rfl, q2.2.1, q2.2.2.1⟩) (by omega)) (by omega) ?_
      rintro z ⟨-, h1, h2⟩
      have fb := fr_bd hb h3 q.2 w
      have H := HuF_pos (ρ 0 1).toNat
      have v4 := HuF_v
      obtain ⟨⟨e4, e5⟩, -⟩ := h2 (ρ 0 1).toNat (Nat.le_refl _)
      rw [Nat.sub_self] at e4 e5
      have e4' : z 104 0 = HuF (ρ 0 1).toNat := e4
      have e5' : z 105 0 = frC ρ w (ρ 0 1).toNat := e5
      have Hb : HuF (ρ 0 1).toNat ≤ 1000000000000 := by
        have := HuF_all (j := (ρ 0 1).toNat) (by omega)
        have V := HuF_pos (6 - (ρ 0 1).toNat)
        have := Int.mul_le_mul_of_nonneg_left V (c := HuF (ρ 0 1).toNat) (by omega)
        omega
      refine g_X8_mean_22 ?_
      rw [e4', e5']
      exact ⟨by omega, by omega, by omega, h1, _, rfl, Or.inl ⟨q.2, q2, rfl⟩⟩
    · exact g_X8_mean_12 ⟨by omega, fun c => absurd rfl c, fun _ => ⟨Ex.refl _ _, _, rfl, Or.inr ⟨fun p => q2 p.2, rfl⟩⟩⟩
  · exact g_X8_mean_4 ⟨by omega, fun _ => ⟨Ex.refl _ _, _, rfl, Or.inr ⟨fun p => q ⟨p.2.1, p.1⟩, rfl⟩⟩, fun c => absurd rfl c⟩
theorem pair_mean (hH : CaH Ca) (n : Nat) (m : Mem) (a0 : Int) (hn : n < 512) (hi : Inv Ca n m) (h0 : R32 a0) : PairI (Inv Ca) n m (P_X7_mean sc 1799 [aR 0, aI a0]) (P_X8_mean sc 1799 [aR 62, aI a0]) := by
  obtain ⟨ρ, nr, wd, hi, hc⟩ := hi
  have hb := hi.2.1
  obtain ⟨hr, hxl, hml⟩ := Xt.rl hi
  have H := hi.1.1
  refine pairI_c (A := IsMea ρ a0) hH hi hc (s_X7_mean hi.xt hr hxl (hH.1 m ρ hc) (by decide) h0) (fun z hz => s_X8_mean (hi.mrm.ex hz (fun a j q c => ?_)) hb hr (hml.ex hz (fun a j q => ?_)) (by decide) h0) (fun x y p q => ?_) (fun x p => ?_) (cpr_rel H) cme_rel (cpr_ca H) cme_ca
  · have := room_bd H
    unfold C_pr C_wx at c; omega
  · have := room_bd H
    unfold C_pr C_wx at q; omega
  · rcases p with ⟨p1, p2, rfl⟩ | ⟨p1, rfl⟩ <;> rcases q with ⟨q1, q2, rfl⟩ | ⟨q1, rfl⟩
    · rfl
    · exact absurd ⟨p1, p2⟩ q1
    · exact absurd ⟨q1, q2⟩ p1
    · rfl
  · rcases p with ⟨p1, p2, rfl⟩ | ⟨p1, rfl⟩
    · have fb := fr_bd hb (by have := p2.1; omega) p1 a0
      have := HuF_pos (ρ 0 1).toNat
      exact th_bd ⟨by omega, fb.2.1⟩
    · unfold R32; omega
end PM
