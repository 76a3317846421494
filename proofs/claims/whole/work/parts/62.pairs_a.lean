/-! pairs of calls: those that leave what holds between calls as it was -/
theorem CallP.imp {sc : List Int} {d nL : Nat} {y : MethodName} {cc : ByteArray} {ret : Option FieldType} {as : List AV} {m : Mem} {P P' : Option AV → Mem → Prop} (h : CallP sc d y cc nL ret as m P) (hi : ∀ v z, P v z → P' v z) : CallP sc d y cc nL ret as m P' := by
  intro l g p e ha hc hk s mt args below hf happ hp ht
  obtain ⟨k, o, h1, h2, h3, hQ, hL⟩ := h l g p e ha hc hk s mt args below hf happ hp ht
  exact ⟨k, o, h1, h2, h3, by obtain ⟨r, m', q1, q⟩ := hQ; exact ⟨r, m', hi _ _ q1, q⟩, hL⟩
section PA
variable {sc : List Int} {Ca : Mem → Mem → Prop}
theorem Inv.keep {C : Int → Int → Prop} {n : Nat} {m z ρ : Mem} {nr : Int} {w : Int → Int} (hCa : CaFr Ca) (h : InvB n m ρ nr w) (hc : Ca m ρ) (he : Ex C m z) (h1 : ∀ a j, C a j → ¬ Rel a j) (h2 : ∀ a j, C a j → ¬ CaC a j) : Inv Ca (n + 1) z :=
  ⟨ρ, nr, w, (h.ex he h1).up, hCa m z ρ (fun a j q => he a j (fun c => h2 a j c q)) hc⟩
theorem pairI_of {Iv : Nat → Mem → Prop} {n : Nat} {m : Mem} {dx dm lx lm : Nat} {yx ym : MethodName} {cx cm : ByteArray} {rx rm : Option FieldType} {ax am : List AV} {CX CM : Int → Int → Prop} {A : Int → Prop}
    (hx : CallP sc dx yx cx lx rx ax m (fun v z => Ex CX m z ∧ ∃ x, v = some (aI x) ∧ A x)) (hm : ∀ z, Ex CX m z → CallP sc dm ym cm lm rm am z (fun v z2 => Ex CM z z2 ∧ ∃ x, v = some (aI x) ∧ A x)) (heq : ∀ x y, A x → A y → x = y) (hr : ∀ x, A x → R32 x) (hi : ∀ z, Ex (fun a j => CX a j ∨ CM a j) m z → Iv (n + 1) z) :
    PairI Iv n m (CallP sc dx yx cx lx rx ax) (CallP sc dm ym cm lm rm am) := by
  refine CallP.imp hx ?_
  rintro v z ⟨h1, x, rfl, hA⟩
  refine ⟨x, rfl, hr x hA, CallP.imp (hm z h1) ?_⟩
  rintro v2 z2 ⟨h2, y, rfl, hB⟩
  refine ⟨by rw [heq y x hB hA], hi z2 ((h1.mono (fun a j q => Or.inl q)).trans (h2.mono (fun a j q => Or.inr q)))⟩
/-- nothing changes -/
def C_no (a j : Int) : Prop := False
theorem Ex.same {m : Mem} : Ex C_no m m := Ex.refl _ _
theorem Ex.no {m z : Mem} (h : Ex C_no m z) : z = m := by
  funext a j
  exact h a j (fun q => q)
/-- a pair that only reads -/
theorem pairI_ro {Iv : Nat → Mem → Prop} {n : Nat} {m : Mem} {dx dm lx lm : Nat} {yx ym : MethodName} {cx cm : ByteArray} {rx rm : Option FieldType} {ax am : List AV} {A : Int → Prop}
    (hx : CallP sc dx yx cx lx rx ax m (fun v z => z = m ∧ ∃ x, v = some (aI x) ∧ A x)) (hm : CallP sc dm ym cm lm rm am m (fun v z2 => z2 = m ∧ ∃ x, v = some (aI x) ∧ A x)) (heq : ∀ x y, A x → A y → x = y) (hr : ∀ x, A x → R32 x) (hi : Iv (n + 1) m) :
    PairI Iv n m (CallP sc dx yx cx lx rx ax) (CallP sc dm ym cm lm rm am) := by
  refine CallP.imp hx ?_
  rintro v z ⟨rfl, x, rfl, hA⟩
  refine ⟨x, rfl, hr x hA, CallP.imp hm ?_⟩
  rintro v2 z2 ⟨rfl, y, rfl, hB⟩
  exact ⟨by rw [heq y x hB hA], hi⟩
theorem pair_fewest (hCa : CaFr Ca) (n : Nat) (m : Mem) (a0 a1 : Int) (hn : n < 512) (hi : Inv Ca n m) (h0 : R32 a0) (h1 : R32 a1) : PairI (Inv Ca) n m (P_X7_fewest sc 1799 [aR 0, aI a0, aI a1]) (P_X8_fewest sc 1799 [aR 62, aI a0, aI a1]) := by
  obtain ⟨ρ, nr, w, hi, hc⟩ := hi
  have hb := hi.2.1
  refine pairI_of (CX := C_io) (CM := C_pk) (A := IsFew ρ a0 a1) (s_X7_fewest hi.xt (by decide) h0 h1) (fun z hz => s_X8_fewest (hi.2.2.2.1.ex hz (fun a j q => by unfold C_io; omega)) hb (by decide) h0 h1) (fun x y p q => IsFew.eq p q) (fun x hA => ?_) (fun z hz => Inv.keep hCa hi hc hz (fun a j q => ?_) (fun a j q => ?_))
  · rcases hA with ⟨p, rfl⟩ | ⟨p, rfl⟩
    · have b := sumF_bd (f := begF ρ a0) (a := 0) (b := 1) (n := (ρ 0 1).toNat) (fun i hi => by rcases begF_01 (ρ := ρ) (L := a0) (s := i) with e | e <;> omega)
      have b0 := hb.1
      rcases begF_01 (ρ := ρ) (L := a0) (s := a1) with e | e <;> unfold R32 <;> split <;> omega
    · unfold R32; omega
  · unfold C_io C_pk at q; unfold Rel; omega
  · unfold C_io C_pk at q; unfold CaC; omega
theorem pair_fits (hCa : CaFr Ca) (n : Nat) (m : Mem) (a0 : Int) (hn : n < 512) (hi : Inv Ca n m) (h0 : R32 a0) : PairI (Inv Ca) n m (P_X7_fits sc 1799 [aR 0, aI a0]) (P_X8_fits sc 1799 [aR 62, aI a0]) := by
  obtain ⟨ρ, nr, w, hi, hc⟩ := hi
  have hb := hi.2.1
  obtain ⟨w1, w2, w3⟩ := hi.2.2.2.2.2.2.2.2.2.2.2.2.2
  refine pairI_of (CX := C_io) (CM := C_pk) (A := IsFit ρ nr w a0) (s_X7_fits hi.xt w1 w3 (by decide) h0) (fun z hz => s_X8_fits (hi.2.2.2.1.ex hz (fun a j q => by unfold C_io; omega)) hb (w2.ex hz (fun a j q => by unfold C_io; omega)) w3 (by decide) h0) (fun x y => IsFit.eq) (fun x hA => ?_) (fun z hz => Inv.keep hCa hi hc hz (fun a j q => ?_) (fun a j q => ?_))
  · rcases hA with ⟨p, rfl⟩ | ⟨p, p2, rfl⟩
    · unfold R32; omega
    · have bd := cfl_bd (ftB ρ w nr.toNat) 99
      unfold R32
      split
      · omega
      · split <;> omega
  · unfold C_io C_pk at q; unfold Rel; omega
  · unfold C_io C_pk at q; unfold CaC; omega
theorem pair_wound (hCa : CaFr Ca) (n : Nat) (m : Mem) (a0 : Int) (hn : n < 512) (hi : Inv Ca n m) (h0 : R32 a0) : PairI (Inv Ca) n m (P_X7_wound sc 1799 [aR 0, aI a0]) (P_X8_wound sc 1799 [aR 62, aI a0]) := by
  obtain ⟨ρ, nr, w, hi, hc⟩ := hi
  have hb := hi.2.1
  refine pairI_of (CX := C_no) (CM := C_wb) (A := IsWn ρ a0) (CallP.imp (s_X7_wound hi.xt (by decide) h0) (fun v z q => ⟨by rw [q.1]; exact Ex.same, q.2⟩)) (fun z hz => s_X8_wound (hi.2.2.2.1.ex hz (fun a j q c => c)) hb (by decide) h0) (fun x y => IsWn.eq) (fun x hA => ?_) (fun z hz => Inv.keep hCa hi hc hz (fun a j q => ?_) (fun a j q => ?_))
  · rcases hA with ⟨p, p2⟩ | ⟨p, rfl⟩
    · have M0 : 0 ≤ ρ 7 0 ∧ ρ 7 0 ≤ 99 := hb.2.2.2.2.1 0 (by omega)
      have M3 : 0 ≤ ρ 7 3 ∧ ρ 7 3 ≤ 99 := hb.2.2.2.2.1 3 (by omega)
      have q0 := p2.1 0
      have e1 : wnT (ρ 7 4).toNat (ρ 7 3) (ρ 7 0) a0.toNat 0 = (a0.toNat : Int) * ρ 7 0 := by unfold wnT; simp
      have q1 := mul_bd (x := (a0.toNat : Int)) (a := 99) ⟨by omega, by omega⟩ M0
      obtain ⟨b, hb⟩ := p2.2
      have q2 := wnT_nn (a := (ρ 7 4).toNat) M3.1 M0.1 a0.toNat b
      unfold R32; omega
    · unfold R32; omega
  · rcases q with q | q
    · exact q.elim
    · unfold C_wb at q; unfold Rel; omega
  · rcases q with q | q
    · exact q.elim
    · unfold C_wb at q; unfold CaC; omega
theorem pair_fault (hCa : CaFr Ca) (n : Nat) (m : Mem) (a0 : Int) (hn : n < 512) (hi : Inv Ca n m) (h0 : R32 a0) : PairI (Inv Ca) n m (P_X7_fault sc 1799 [aR 0, aI a0]) (P_X8_fault sc 1799 [aR 62, aI a0]) := by
  have hi1 := hi.up
  obtain ⟨ρ, nr, w, hi, hc⟩ := hi
  obtain ⟨f1, f2, f3, f4⟩ := hi.2.2.2.2.2.2.2.1
  refine pairI_ro (A := fun x => x = if a0 = 0 then m 32 7 else if a0 = 1 then m 32 8 else -1) ?_ ?_ (fun x y p q => by rw [p, q]) (fun x p => ?_) hi1
  · refine ep_X7_fault (g_X7_fault_0 ⟨h0, fun c => ⟨rfl, _, rfl, ?_⟩, fun c => ⟨rfl, _, rfl, ?_⟩⟩)
    · rw [if_neg c]
      by_cases c1 : a0 = 1
      · rw [if_neg (fun z => z c1), if_pos c1]
      · rw [if_pos c1, if_neg c1]
    · rw [if_pos (by omega)]
  · refine ep_X8_fault (g_X8_fault_0 ⟨h0, rfl, _, rfl, ?_⟩)
    rw [f1, f2]
    by_cases c : a0 = 0
    · rw [if_neg (fun z => z c), if_pos c]
    · rw [if_pos c, if_neg c]
      by_cases c1 : a0 = 1
      · rw [if_neg (fun z => z c1), if_pos c1]
      · rw [if_pos c1, if_neg c1]
  · rw [p]; unfold R32
    split
    · omega
    · split <;> omega
theorem pair_status (hCa : CaFr Ca) (n : Nat) (m : Mem) (a0 : Int) (hn : n < 512) (hi : Inv Ca n m) (h0 : R32 a0) : PairI (Inv Ca) n m (P_X7_status sc 1799 [aR 0, aI a0]) (P_X8_status sc 1799 [aR 62, aI a0]) := by
  have hi1 := hi.up
  obtain ⟨ρ, nr, w, hi, hc⟩ := hi
  have hR := hi.2.2.2.2.2.2.1
  refine pairI_ro (A := fun x => x = if 0 ≤ a0 ∧ a0 ≤ 5 then m 61 a0 else -1) ?_ ?_ (fun x y p q => by rw [p, q]) (fun x p => ?_) hi1
  · refine ep_X7_status (g_X7_status_0 ⟨h0, fun _ _ => by omega, fun _ _ => by omega, rfl, _, rfl, ?_⟩)
    split
    · rw [if_neg (by omega)]
    · split
      · rw [if_neg (by omega)]
      · rw [if_pos (by omega)]
  · refine ep_X8_status (g_X8_status_0 ⟨h0, ?_⟩)
    refine p_X8_status_6 (d2 := 1798) (s_isIn ⟨by omega, by omega⟩ ⟨by omega, by omega⟩ ⟨by omega, by omega⟩) (by decide) ?_
    rintro _ _ ⟨rfl, ⟨e, q⟩ | ⟨e, q⟩⟩ <;> cases e
    · refine g_X8_status_9 ⟨by omega, fun _ => by omega, fun _ => by omega, rfl, _, rfl, ?_⟩
      rw [if_neg (by decide), if_pos q]
      have := (hR a0.toNat (by omega)).1
      rw [show ((a0.toNat : Nat) : Int) = a0 by omega] at this
      exact this
    · refine g_X8_status_9 ⟨by omega, fun c => absurd rfl c, fun c => absurd rfl c, rfl, _, rfl, ?_⟩
      rw [if_pos rfl, if_neg q]
  · rw [p]; unfold R32
    split
    · have := (hR a0.toNat (by omega)).2
      rw [show ((a0.toNat : Nat) : Int) = a0 by omega] at this
      omega
    · omega
theorem pair_octet (hCa : CaFr Ca) (n : Nat) (m : Mem) (a0 : Int) (hn : n < 512) (hi : Inv Ca n m) (h0 : R32 a0) : PairI (Inv Ca) n m (P_X7_octet sc 1799 [aR 0, aI a0]) (P_X8_octet sc 1799 [aR 62, aI a0]) := by
  have hi1 := hi.up
  obtain ⟨ρ, nr, w, hi, hc⟩ := hi
  obtain ⟨p1, p2, p3⟩ := hi.2.2.2.2.2.2.2.2.2.2.2.1
  have p4 : 0 ≤ a0 → a0 < m 0 12 → m 151 a0 = m 60 a0 ∧ R32 (m 60 a0) := fun q1 q2 => by
    have := p3 a0.toNat (by omega)
    rw [show ((a0.toNat : Nat) : Int) = a0 by omega] at this
    exact this
  refine pairI_ro (A := fun x => x = if 0 ≤ a0 ∧ a0 < m 0 12 then m 60 a0 else -1) ?_ ?_ (fun x y p q => by rw [p, q]) (fun x p => ?_) hi1
  · refine ep_X7_octet (g_X7_octet_0 ⟨h0, fun _ => by omega, fun _ _ => by omega, fun _ _ => by omega, rfl, _, rfl, ?_⟩)
    split
    · rw [if_neg (by omega)]
    · split
      · rw [if_neg (by omega)]
      · rw [if_pos (by omega)]
  · refine ep_X8_octet (g_X8_octet_0 ⟨h0, fun _ => by omega, fun _ _ => by omega, fun _ _ => by omega, rfl, _, rfl, ?_⟩)
    rw [p1]
    split
    · rw [if_neg (by omega)]
    · split
      · rw [if_neg (by omega)]
      · rw [if_pos (by omega), (p4 (by omega) (by omega)).1]
  · rw [p]
    split
    · rename_i q
      exact (p4 q.1 q.2).2
    · unfold R32; omega
theorem s_isLeft {d : Nat} {m ρ : Mem} (h : MRm m ρ) (hb : RmB ρ) (hd : 1 ≤ d) (h0 : R32 (m 124 0)) : P_X8_isLeft sc d [aR 62] m (PV (aI (if ρ 0 1 ≤ m 124 0 then 0 else 1)) m) := by
  have b0 := hb.1
  refine ep_X8_isLeft (g_X8_isLeft_0 ?_)
  refine p_X8_isLeft_7 (d2 := d - 1) (s_seamMany h) (by omega) ?_
  rintro _ _ ⟨e, rfl⟩; cases e
  exact g_X8_isLeft_10 ⟨h0, by omega, rfl, rfl⟩
theorem pair_day (hCa : CaFr Ca) (n : Nat) (m : Mem) (a0 : Int) (hn : n < 512) (hi : Inv Ca n m) (h0 : R32 a0) : PairI (Inv Ca) n m (P_X7_day sc 1799 [aR 0, aI a0]) (P_X8_day sc 1799 [aR 62, aI a0]) := by
  have hi1 := hi.up
  obtain ⟨ρ, nr, w, hi, hc⟩ := hi
  have hb := hi.2.1
  have b0 := hb.1
  have hx := hi.2.2.1
  obtain ⟨d1, d2⟩ := hi.2.2.2.2.2.2.2.2.1
  obtain ⟨y0, y1, y3, y4, y5⟩ := d2
  have k0 : m 124 0 = m 57 0 := d1 0 (by omega)
  have k1 : m 124 1 = m 57 1 := d1 1 (by omega)
  have k3 : m 124 3 = m 57 3 := d1 3 (by omega)
  have k4 : m 124 4 = m 57 4 := d1 4 (by omega)
  have k5 : m 124 5 = m 57 5 := d1 5 (by omega)
  have e8 := hx.1.2.1
  refine pairI_ro (A := fun x => x = if a0 = 0 then m 57 0 else if a0 = 1 then m 57 1 else if a0 = 2 then m 57 3 else if a0 = 3 then m 57 4 else if a0 = 4 then m 57 5 else if a0 = 5 then (if ρ 0 1 ≤ m 57 0 then 0 else 1) else -1) ?_ ?_ (fun x y p q => by rw [p, q]) (fun x p => ?_) hi1
  · refine ep_X7_day (g_X7_day_0 ⟨h0, fun c => ⟨rfl, _, rfl, by rw [c]; rfl⟩, fun c => ⟨rfl, _, rfl, by rw [c]; rfl⟩, fun c => ⟨rfl, _, rfl, by rw [c]; rfl⟩, fun c => ⟨rfl, _, rfl, by rw [c]; rfl⟩, fun c => ⟨rfl, _, rfl, by rw [c]; rfl⟩, fun c => ⟨hi.1.1, by omega, by omega, rfl, _, rfl, by rw [c, e8]; rfl⟩, fun c => ⟨rfl, _, rfl, by rw [if_neg c.1, if_neg c.2.1, if_neg c.2.2.1, if_neg c.2.2.2.1, if_neg c.2.2.2.2.1, if_neg c.2.2.2.2.2]⟩⟩)
  · refine ep_X8_day (g_X8_day_0 ⟨h0, fun c => ⟨rfl, _, rfl, by rw [c]; exact k0⟩, fun c => ⟨rfl, _, rfl, by rw [c]; exact k1⟩, fun c => ⟨rfl, _, rfl, by rw [c]; exact k3⟩, fun c => ⟨rfl, _, rfl, by rw [c]; exact k4⟩, fun c => ⟨rfl, _, rfl, by rw [c]; exact k5⟩, fun c => ?_, fun c => ⟨rfl, _, rfl, by rw [if_neg c.1, if_neg c.2.1, if_neg c.2.2.1, if_neg c.2.2.2.1, if_neg c.2.2.2.2.1, if_neg c.2.2.2.2.2]⟩⟩)
    refine p_X8_day_76 (d2 := 1798) (s_isLeft hi.2.2.2.1 hb (by decide) (by rw [k0]; unfold R32; omega)) (by decide) ?_
    rintro _ _ ⟨e, rfl⟩; cases e
    refine g_X8_day_79 ⟨by split <;> omega, rfl, _, rfl, ?_⟩
    rw [c, k0]
    generalize hq : (if ρ 0 1 ≤ _ then (0 : Int) else 1) = q
    have : q = 0 ∨ q = 1 := by
      rw [← hq]
      split
      · exact Or.inl rfl
      · exact Or.inr rfl
    rcases this with rfl | rfl <;> rfl
  · rw [p]; unfold R32
    repeat (first | omega | split)
end PA
