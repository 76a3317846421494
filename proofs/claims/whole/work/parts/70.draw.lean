/-! draws by the seed on both sides -/
theorem land31 (n : Nat) (h : n < 9223372036854775808) : a_land n 2147483647 = ((n % 2147483648 : Nat) : Int) := by
  unfold a_land
  have e1 : (Int64.ofInt n &&& Int64.ofInt 2147483647) = Int64.ofNat (n % 2147483648) := by
    apply Int64.toBitVec_inj.mp
    apply BitVec.eq_of_toNat_eq
    have e2 : (Int64.ofInt (n : Int)).toBitVec.toNat = n := by
      show (BitVec.ofInt 64 (n : Int)).toNat = n
      rw [BitVec.ofInt_natCast, BitVec.toNat_ofNat, Nat.mod_eq_of_lt (by omega)]
    have e3 : (Int64.ofNat (n % 2147483648)).toBitVec.toNat = n % 2147483648 := by
      show (BitVec.ofNat 64 (n % 2147483648)).toNat = n % 2147483648
      rw [BitVec.toNat_ofNat, Nat.mod_eq_of_lt (by omega)]
    rw [e3]
    show ((Int64.ofInt (n : Int)).toBitVec &&& (Int64.ofInt 2147483647).toBitVec).toNat = _
    rw [BitVec.toNat_and, e2]
    exact Nat.and_two_pow_sub_one_eq_mod n 31
  rw [e1]
  exact Int64.toInt_ofNat_of_lt (by omega)
def sdF (s : Int) : Int := (1103515245 * s + 12345) % 2147483648
theorem sdF_bd (s : Int) : 0 ≤ sdF s ∧ sdF s ≤ 2147483647 := by unfold sdF; omega
theorem sd_x {s : Int} (h : 0 ≤ s ∧ s ≤ 2147483647) : a_land (1103515245 * s + 12345) 2147483647 = sdF s := by
  obtain ⟨n, hn⟩ := Int.eq_ofNat_of_zero_le (show 0 ≤ 1103515245 * s + 12345 by omega)
  unfold sdF
  rw [hn, land31 n (by omega)]
  omega
def drF (s : Int) : Int := (sdF s / 64) % 100
theorem dr_x {s : Int} (h : 0 ≤ s ∧ s ≤ 2147483647) : (sdF s).tdiv 64 = sdF s / 64 ∧ ((sdF s).tdiv 64).tmod 100 = drF s := by
  have b := sdF_bd s
  have e : (sdF s).tdiv 64 = sdF s / 64 := Int.tdiv_eq_ediv_of_nonneg b.1
  exact ⟨e, by rw [e, Int.tmod_eq_emod_of_nonneg (by omega)]; rfl⟩
def IsLb (ρ : Mem) (d y : Int) : Prop := ∃ i : Nat, (i : Int) < ρ 0 0 ∧ sumF (ρ 2) i ≤ d ∧ d < sumF (ρ 2) (i + 1) ∧ y = ρ 1 i
theorem IsLb.eq {ρ : Mem} {d x y : Int} (hb : RmB ρ) (h1 : IsLb ρ d x) (h2 : IsLb ρ d y) : x = y := by
  obtain ⟨i, i1, i2, i3, rfl⟩ := h1
  obtain ⟨j, j1, j2, j3, rfl⟩ := h2
  have o : ∀ k : Nat, k < (ρ 0 0).toNat → 0 ≤ ρ 2 k := fun k hk => by have := hb.2.2.1 k (by omega); omega
  by_cases e : i = j
  · rw [e]
  · exfalso
    rcases Nat.lt_or_gt_of_ne e with q | q
    · have := sumF_mono (f := ρ 2) (k := i + 1) (n := j) (by omega) (fun k hk => o k (by omega)); omega
    · have := sumF_mono (f := ρ 2) (k := j + 1) (n := i) (by omega) (fun k hk => o k (by omega)); omega
theorem IsLb.bd {ρ : Mem} {d x : Int} (hb : RmB ρ) (h : IsLb ρ d x) : 1 ≤ x ∧ x ≤ 99 := by
  obtain ⟨i, i1, i2, i3, rfl⟩ := h
  exact (hb.2.2.1 i i1).1
section DR
variable {sc : List Int} {d : Nat} {m : Mem} {Q : Option AV → Mem → Prop} {r : Int} {ρ : Mem}
theorem l_lengthBy {w : Int} (H : RoomAt r) (h : XRm m r ρ) (hb : RmB ρ) (h3 : ρ 0 3 ≠ 0) (hw : 0 ≤ w ∧ w < 100) (k : ∀ x, IsLb ρ w x → Q (some (aI x)) m) : ∀ (j i : Nat), (i : Int) + j = ρ 0 0 → sumF (ρ 2) i ≤ w → S_X6_lengthBy sc d 4 [aR r, aI w, aI (sumF (ρ 2) i), aI i] [] m Q := by
  have b0 := hb.1
  have b1 := hb.2.1.2 h3
  obtain ⟨⟨x1, x2, x3, x4⟩, xL, xS, xA, xM⟩ := h
  intro j
  induction j with
  | zero =>
    intro i hi hs
    have e : i = (ρ 0 0).toNat := by omega
    rw [e] at hs
    omega
  | succ j ih =>
    intro i hi hs
    have hi' : (i : Int) < ρ 0 0 := by omega
    have t := hb.2.2.1 i hi'
    have e1 := (xL i hi').1
    have e2 := (xL i hi').2
    have bd := sumF_bd (f := ρ 2) (a := 0) (b := 100) (n := i) (fun q hq => by have := hb.2.2.1 q (by omega); omega)
    refine g_X6_lengthBy_4 H ⟨by omega, by omega, fun c => absurd c (by omega), fun _ => ⟨by omega, by omega, by omega, by omega, fun c => ?_, fun c => ?_⟩⟩
    · rw [e2] at c ⊢
      exact ih (i + 1) (by omega) c
    · rw [e2] at c
      rw [e1]
      exact k _ ⟨i, hi', hs, by rw [sumF]; omega, rfl⟩
theorem s_lengthBy {w : Int} (H : RoomAt r) (h : XRm m r ρ) (hb : RmB ρ) (h3 : ρ 0 3 ≠ 0) (hw : 0 ≤ w ∧ w < 100) : P_X6_lengthBy sc d [aR r, aI w] m (fun v z => z = m ∧ ∃ x, v = some (aI x) ∧ IsLb ρ w x) :=
  ep_X6_lengthBy (g_X6_lengthBy_0 H (l_lengthBy H h hb h3 hw (fun x q => ⟨rfl, x, rfl, q⟩) (ρ 0 0).toNat 0 (by have := hb.1; omega) (by show (0 : Int) ≤ w; omega)))
theorem s_draw (H : RoomAt r) (h : XRm m r ρ) (hb : RmB ρ) (h3 : ρ 0 3 ≠ 0) (hd : 1 ≤ d) (hs : 0 ≤ m 57 6 ∧ m 57 6 ≤ 2147483647) : P_X2_draw sc d [aR 57, aR r] m (fun v z => z = wr m 57 6 (sdF (m 57 6)) ∧ ∃ x, v = some (aI x) ∧ IsLb ρ (drF (m 57 6)) x) := by
  have hr := room_bd H
  have b := sdF_bd (m 57 6)
  refine ep_X2_draw (g_X2_draw_0 H ?_)
  rw [sd_x hs, wr_eq, (dr_x hs).1, show (sdF (m 57 6) / 64).tmod 100 = drF (m 57 6) by rw [← (dr_x hs).1]; exact (dr_x hs).2]
  refine ⟨by omega, by omega, by omega, ?_⟩
  refine p_X2_draw_33 (d2 := d - 1) H (s_lengthBy H (h.ex (C := fun a j => a = 57) (fun a j q => wr_na _ _ _ _ _ _ q) (fun a j q1 q2 => by omega)) hb h3 (by unfold drF; omega)) (by omega) ?_
  rintro _ z ⟨rfl, x, e, q⟩; cases e
  exact g_X2_draw_36 ⟨rfl, _, rfl, q⟩
theorem s_drawOf (hs : 0 ≤ m 62 85 ∧ m 62 85 ≤ 2147483647) : P_X8_drawOf sc d [aR 62, aI 100] m (PV (aI (drF (m 62 85))) (wr m 62 85 (sdF (m 62 85)))) := by
  have b := sdF_bd (m 62 85)
  have e : (1103515245 * m 62 85 + 12345).tmod 2147483648 = sdF (m 62 85) := by rw [Int.tmod_eq_emod_of_nonneg (by omega)]; rfl
  refine ep_X8_drawOf (g_X8_drawOf_0 ?_)
  rw [e, wr_eq, (dr_x hs).1, show (sdF (m 62 85) / 64).tmod 100 = drF (m 62 85) by rw [← (dr_x hs).1]; exact (dr_x hs).2]
  exact ⟨by omega, by omega, by omega, by omega, by decide, rfl, rfl⟩
theorem l_isFresh {w : Int} (h : MRm m ρ) (hb : RmB ρ) (h3 : ρ 0 3 ≠ 0) (hw : 0 ≤ w ∧ w < 100) (k : ∀ x, IsLb ρ w x → Q none (wr (wr m 124 1 0) 124 2 x)) : ∀ (j i : Nat), (i : Int) + j + 1 = ρ 0 0 → sumF (ρ 2) i ≤ w → S_X8_isFresh sc d 17 [aR 62, aI w, aI i, aI (sumF (ρ 2) (i + 1))] [] m Q := by
  have b0 := hb.1
  have b1 := hb.2.1.2 h3
  have fin : ∀ i : Nat, (i : Int) < ρ 0 0 → sumF (ρ 2) i ≤ w → w < sumF (ρ 2) (i + 1) → Q none (wr (wr m 124 1 0) 124 2 (wr m 124 1 0 97 (6 + i))) := fun i hi h1 h2 => by
    rw [wr_na _ _ _ _ _ _ (by decide), (h.2.1 i hi).1]
    exact k _ ⟨i, hi, h1, h2, rfl⟩
  have bd : ∀ i : Nat, (i : Int) ≤ ρ 0 0 → 0 ≤ sumF (ρ 2) i ∧ sumF (ρ 2) i ≤ 600 := fun i hi => by
    have := sumF_bd (f := ρ 2) (a := 0) (b := 100) (n := i) (fun q hq => by have := hb.2.2.1 q (by omega); omega)
    omega
  intro j
  induction j with
  | zero =>
    intro i hi hs
    have q := bd (i + 1) (by omega)
    have e : i + 1 = (ρ 0 0).toNat := by omega
    have e2 : sumF (ρ 2) (i + 1) = 100 := by rw [e]; exact b1.2
    exact g_X8_isFresh_17 ⟨by omega, by omega, fun c => ⟨by omega, by omega, fin i (by omega) hs c⟩, fun c => absurd (by omega) c⟩
  | succ j ih =>
    intro i hi hs
    have q := bd (i + 1) (by omega)
    refine g_X8_isFresh_17 ⟨by omega, by omega, fun c => ⟨by omega, by omega, fin i (by omega) hs c⟩, fun c => ⟨by omega, by omega, ?_⟩⟩
    have e1 := (h.2.1 (i + 1) (by omega)).2
    have w2 := ih (i + 1) (by omega) (by omega)
    rw [show ((i + 1 : Nat) : Int) = (i : Int) + 1 from rfl] at e1
    rw [e1]
    exact w2
theorem s_isFresh (h : MRm m ρ) (hb : RmB ρ) (h3 : ρ 0 3 ≠ 0) (hd : 1 ≤ d) (hs : 0 ≤ m 62 85 ∧ m 62 85 ≤ 2147483647) : P_X8_isFresh sc d [aR 62] m (fun v z => v = none ∧ ∃ x, IsLb ρ (drF (m 62 85)) x ∧ z = wr (wr (wr m 62 85 (sdF (m 62 85))) 124 1 0) 124 2 x) := by
  have b1 := hb.2.1.2 h3
  refine ep_X8_isFresh (g_X8_isFresh_0 ?_)
  refine p_X8_isFresh_3 (d2 := d - 1) (s_drawOf hs) (by omega) ?_
  rintro _ z ⟨e, rfl⟩; cases e
  refine g_X8_isFresh_6 ?_
  have h' : MRm (wr m 62 85 (sdF (m 62 85))) ρ := h.ex (C := fun a j => a = 62 ∧ j = 85) (fun a j q => wr_ne _ _ _ _ _ _ q) (fun a j q c => by omega)
  have e6 : wr m 62 85 (sdF (m 62 85)) 98 6 = ρ 2 0 := (h'.2.1 0 (by omega)).2
  have e7 : ρ 2 0 = sumF (ρ 2) (0 + 1) := by show ρ 2 0 = 0 + ρ 2 ((0 : Nat) : Int); rw [Int.zero_add]; rfl
  rw [e6, e7]
  exact l_isFresh (Q := fun v z => v = none ∧ ∃ x, IsLb ρ (drF (m 62 85)) x ∧ z = wr (wr (wr m 62 85 (sdF (m 62 85))) 124 1 0) 124 2 x) h' hb h3 (by unfold drF; omega) (fun x q => ⟨rfl, x, q, rfl⟩) ((ρ 0 0).toNat - 1) 0 (by omega) (by show (0 : Int) ≤ _; unfold drF; omega)
end DR
