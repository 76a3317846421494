/-! what days cost on the mean: the class -/
section CX
variable {sc : List Int} {d : Nat} {m : Mem} {Q : Option AV → Mem → Prop} {r : Int} {ρ : Mem} {w : Int}
/-- the bounds of the three ways -/
theorem ch_prt (hb : RmB ρ) (h3 : ρ 0 3 ≠ 0) (w : Int) {j : Nat} (hj : j ≤ 5) (hs : (j : Int) + 1 ≤ ρ 0 1) {u : Int} (hu : 0 ≤ u) :
    (0 ≤ ntP ρ j (ChP ρ w j) u ∧ ntP ρ j (ChP ρ w j) u ≤ odR ρ u * (400 * (j + 1 : Nat) * HuF (j + 1))) ∧ (0 ≤ odR ρ u * cgP ρ (j + 1) (frC ρ w (j + 1)) ∧ odR ρ u * cgP ρ (j + 1) (frC ρ w (j + 1)) ≤ odR ρ u * (400 * (j + 1 : Nat) * HuF (j + 1))) ∧ (0 ≤ loP ρ j (ChP ρ w j) u ∧ loP ρ j (ChP ρ w j) u ≤ odR ρ u * (400 * (j + 1 : Nat) * HuF (j + 1))) := by
  obtain ⟨m0, m1, m2⟩ := ch_min hb
  obtain ⟨i1, i2⟩ := ch_bd hb h3 w j (by omega) (by omega)
  have ts := (hb.2.2.2.1 (smC ρ j) (by unfold smC; omega)).1
  have st := chS (m0 := ρ 7 0) (m1 := ρ 7 1) (m2 := ρ 7 2) (f := frC ρ w j) (ot := odR ρ (ρ 3 (smC ρ j))) (ou := odR ρ u) (ov := odR ρ (u + ρ 3 (smC ρ j))) (g := wtC ρ w j (ρ 3 (smC ρ j))) (gv := wtC ρ w j (u + ρ 3 (smC ρ j))) j (by omega) rfl rfl m0 m1 m2 i1 (odR_bd hb h3 _) ⟨(odR_bd hb h3 _).1, odR_mono hb (by omega), (odR_bd hb h3 _).2⟩ (i2 _ (by omega)) (i2 _ (by omega))
  exact ⟨st.2.1, st.2.2.1, st.2.2.2⟩
theorem sc_bd {j : Nat} (hj : j ≤ 5) {o x : Int} (ho : 0 ≤ o ∧ o ≤ 100) (hx : 0 ≤ x ∧ x ≤ o * (400 * (j + 1 : Nat) * HuF (j + 1))) : 0 ≤ x * HuF (6 - (j + 1)) ∧ x * HuF (6 - (j + 1)) ≤ 240000000000000000 := by
  have h1 : x ≤ 100 * (400 * (j + 1 : Nat) * HuF (j + 1)) := by
    refine Int.le_trans hx.2 (Int.mul_le_mul_of_nonneg_right ho.2 ?_)
    have := HuF_pos (j + 1)
    exact Int.mul_nonneg (by omega) (by omega)
  have h0 := hx.1
  clear hx
  rcases (by omega : j = 0 ∨ j = 1 ∨ j = 2 ∨ j = 3 ∨ j = 4 ∨ j = 5) with rfl | rfl | rfl | rfl | rfl | rfl
  · have e : (100 * (400 * ((0 + 1 : Nat) : Int) * HuF (0 + 1))) = 4000000 := by decide
    have e2 : HuF (6 - (0 + 1)) = 10000000000 := by decide
    rw [e] at h1; rw [e2]; omega
  · have e : (100 * (400 * ((1 + 1 : Nat) : Int) * HuF (1 + 1))) = 800000000 := by decide
    have e2 : HuF (6 - (1 + 1)) = 100000000 := by decide
    rw [e] at h1; rw [e2]; omega
  · have e : (100 * (400 * ((2 + 1 : Nat) : Int) * HuF (2 + 1))) = 120000000000 := by decide
    have e2 : HuF (6 - (2 + 1)) = 1000000 := by decide
    rw [e] at h1; rw [e2]; omega
  · have e : (100 * (400 * ((3 + 1 : Nat) : Int) * HuF (3 + 1))) = 16000000000000 := by decide
    have e2 : HuF (6 - (3 + 1)) = 10000 := by decide
    rw [e] at h1; rw [e2]; omega
  · have e : (100 * (400 * ((4 + 1 : Nat) : Int) * HuF (4 + 1))) = 2000000000000000 := by decide
    have e2 : HuF (6 - (4 + 1)) = 100 := by decide
    rw [e] at h1; rw [e2]; omega
  · have e : (100 * (400 * ((5 + 1 : Nat) : Int) * HuF (5 + 1))) = 240000000000000000 := by decide
    have e2 : HuF (6 - (5 + 1)) = 1 := by decide
    rw [e] at h1; rw [e2]; omega
theorem mul_lt_iff {a b V : Int} (hV : 1 ≤ V) : a * V < b * V ↔ a < b := by
  constructor
  · intro h
    exact Int.lt_of_mul_lt_mul_right h (by omega)
  · intro h
    exact Int.mul_lt_mul_of_pos_right h (by omega)
/-- the fresh ones, as the class has them -/
def FrX (m ρ : Mem) (w : Int) (j : Nat) : Prop := ∀ i : Nat, i ≤ j → m 38 (((ρ 0 1).toNat - i : Nat)) = frC ρ w i * HuF (6 - i)
theorem s_X0_mended {i s : Nat} (H : RoomAt r) (h : XRm m r ρ) (hb : RmB ρ) (hi : i ≤ 5) (hs : ((s + (i + 1) : Nat) : Int) = ρ 0 1) (h6 : ρ 0 1 ≤ 6) (hf : m 38 ((s : Int) + 1) = frC ρ w i * HuF (6 - i)) : P_X0_mended sc d [aR 37, aR r, aI s] m (PV (aJ (bmP ρ i (frC ρ w i) * HuF (6 - i))) m) := by
  obtain ⟨m0, m1, m2⟩ := ch_min hb
  have e0 : m (r + 13) 0 = ρ 7 0 := h.2.2.2.2 0 (by omega)
  have e1 : m (r + 13) 1 = ρ 7 1 := h.2.2.2.2 1 (by omega)
  refine ep_X0_mended (g_X0_mended_0 H ?_)
  rw [e0, e1, hf]
  refine ⟨by omega, by omega, by omega, ?_, rfl⟩
  rw [← HuF_all (j := i) (by omega)]
  congr 2
  unfold bmP
  rw [Int.add_mul _ (frC ρ w i), Int.mul_assoc]
theorem s_X0_changed {i s : Nat} (H : RoomAt r) (h : XRm m r ρ) (hb : RmB ρ) (hi : i ≤ 6) (hs : ((s + i : Nat) : Int) = ρ 0 1) (h6 : ρ 0 1 ≤ 6) (hf : m 38 s = frC ρ w i * HuF (6 - i)) : P_X0_changed sc d [aR 37, aR r, aI s] m (PV (aJ (cgP ρ i (frC ρ w i) * HuF (6 - i))) m) := by
  obtain ⟨m0, m1, m2⟩ := ch_min hb
  have e0 : m (r + 13) 0 = ρ 7 0 := h.2.2.2.2 0 (by omega)
  refine ep_X0_changed (g_X0_changed_0 H ?_)
  rw [e0, hf]
  refine ⟨by omega, by omega, by omega, ?_, rfl⟩
  rw [← HuF_all (j := i) (by omega)]
  congr 2
  unfold cgP
  rw [Int.add_mul, Int.mul_assoc]
/-- what weigh answers -/
def wgX (ρ : Mem) (w : Int) (j : Nat) (u : Int) : Int := if u = 0 then frC ρ w j * (100 * HuF (6 - j)) else wtC ρ w j u * HuF (6 - j)
theorem ex_wx {z : Mem} (H : RoomAt r) (h : XRm m r ρ) (he : Ex (fun a _ => C_wx r a) m z) : XRm z r ρ :=
  h.ex2 (fun a j q1 q2 q3 => he a j (fun q => by unfold C_wx at q; omega))
theorem ex_wl {z : Mem} (h : XRl m r ρ) (he : Ex (fun a _ => C_wx r a) m z) : XRl z r ρ :=
  ⟨fun k hk => by rw [he _ _ (fun q => by unfold C_wx at q; omega)]; exact h.1 k hk, fun j hj => by rw [he _ _ (fun q => by unfold C_wx at q; omega)]; exact h.2 j hj⟩
theorem alg1 (a t b V : Int) : a * (100 * V) + t * (b * (100 * V)) = 100 * (a + t * b) * V := by
  rw [Int.mul_add, Int.add_mul]
  congr 1
  · rw [Int.mul_left_comm, ← Int.mul_assoc]
  · rw [Int.mul_left_comm b 100 V, Int.mul_left_comm t 100, ← Int.mul_assoc t b V, ← Int.mul_assoc 100]
theorem alg3 (o m2 H a t c V : Int) (e : H * V = 1000000000000) : o * m2 * 1000000000000 + a * (100 * V) + t * (c * V) = (o * m2 * H + 100 * a + t * c) * V := by
  rw [← e, Int.add_mul, Int.add_mul, Int.mul_assoc (o * m2) H V, Int.mul_left_comm a 100 V, Int.mul_assoc t c V, Int.mul_assoc 100 a V]
theorem alg0 (a t b V : Int) : a * V + t * (b * V) = (a + t * b) * V := by
  rw [Int.add_mul, Int.mul_assoc]
theorem s_X0_weigh {j s : Nat} {u : Int} (H : RoomAt r) (h : XRm m r ρ) (hb : RmB ρ) (hr : RlB ρ) (hl : XRl m r ρ) (h3 : ρ 0 3 ≠ 0) (h6 : ρ 0 1 ≤ 6) (hw : w = -2 ∨ (0 ≤ w ∧ w < 4 + ρ 0 2)) (hs : ((s + j : Nat) : Int) = ρ 0 1) (hu : 0 ≤ u ∧ u ≤ 300) (hd : 4 ≤ d) (hf : ∀ i : Nat, i ≤ j → (i = j → u ≠ 0) → m 38 (((ρ 0 1).toNat - i : Nat)) = frC ρ w i * HuF (6 - i)) :
    P_X0_weigh sc d [aR 37, aR r, aI w, aI s, aI u] m (fun v z => Ex (fun a _ => C_wx r a) m z ∧ v = some (aJ (wgX ρ w j u))) := by
  have b0 := hb.1
  have hrb := room_bd H
  have wR : R32 w := by unfold R32; rcases hw with q | q <;> omega
  have e8 := h.1.2.1
  obtain ⟨S, hS⟩ : ∃ S : Nat, S = (ρ 0 1).toNat := ⟨_, rfl⟩
  have hS1 : ρ 0 1 = S := by omega
  have tk : ∀ k : Nat, k < S → 1 ≤ ρ 3 k ∧ ρ 3 k ≤ 99 := fun k hk => (hb.2.2.2.1 k (by omega)).1
  have sumb : ∀ n : Nat, n ≤ S → ∀ k : Nat, k ≤ n → sumF (ρ 3) k + (n - k : Nat) ≤ sumF (ρ 3) n ∧ sumF (ρ 3) n ≤ sumF (ρ 3) k + 99 * (n - k : Nat) := by
    intro n
    induction n with
    | zero => intro _ k hk; rw [show k = 0 by omega]; simp
    | succ n ih =>
      intro hn k hk
      by_cases e : k = n + 1
      · rw [e]; simp
      · have h1 := ih (by omega) k (by omega)
        have h2 := tk n (by omega)
        rw [sumF]
        omega
  refine ep_X0_weigh (g_X0_weigh_0 H ?_)
  rw [e8]
  have lp : ∀ (n i : Nat) (z : Mem) (rest : Int), i + n = j → Ex (fun a _ => C_wx r a) m z → rest = (if i = j then wgX ρ w j u else wtC ρ w i (u + sumF (ρ 3) (S - i : Nat) - sumF (ρ 3) s) * HuF (6 - i)) → S_X0_weigh sc d 11 [aR 37, aR r, aI w, aI s, aI u, aJ rest, aU, aI (ρ 0 1 - 1 - i), aU, aU, aU, aU, aU, aU, aU, aU, aU, aU, aU] [] z (fun v z => Ex (fun a _ => C_wx r a) m z ∧ v = some (aJ (wgX ρ w j u))) := by
    intro n
    induction n with
    | zero =>
      intro i z rest hi he hrest
      obtain rfl : i = j := by omega
      rw [if_pos rfl] at hrest
      exact g_X0_weigh_11 H ⟨by omega, by omega, fun _ => ⟨he, by rw [hrest]⟩, fun c => absurd (by omega) c⟩
    | succ n ih =>
      intro i z rest hi he hrest
      rw [if_neg (by omega)] at hrest
      have hz : XRm z r ρ := ex_wx H h he
      have hzl : XRl z r ρ := ex_wl hl he
      have z38 : ∀ q, z 38 q = m 38 q := fun q => he 38 q (by unfold C_wx; omega)
      obtain ⟨k, hk⟩ : ∃ k : Nat, (k : Int) = ρ 0 1 - 1 - i := ⟨(ρ 0 1 - 1 - i).toNat, by omega⟩
      have kS : k + (i + 1) = S := by omega
      have kk : smC ρ i = k := by unfold smC; omega
      have t1 := tk k (by omega)
      have e7k : z (r + 7) k = sumF (ρ 3) k := hz.2.2.2.1 k (by omega)
      have e7s : z (r + 7) s = sumF (ρ 3) s := hz.2.2.2.1 s (by omega)
      have e3k : z (r + 3) k = ρ 3 k := (hz.2.2.1 k (by omega)).1
      have e2 : z (r + 13) 2 = ρ 7 2 := hz.2.2.2.2 2 (by omega)
      have sb := sumb k (by omega) s (by omega)
      have s1 : sumF (ρ 3) (S - i : Nat) = sumF (ρ 3) k + ρ 3 k := by rw [show S - i = k + 1 by omega, sumF]
      have hh : u + sumF (ρ 3) (S - i : Nat) - sumF (ρ 3) s = u + sumF (ρ 3) k - sumF (ρ 3) s + ρ 3 k := by rw [s1]; omega
      rw [hh] at hrest
      have hb' : 0 ≤ u + sumF (ρ 3) k - sumF (ρ 3) s ∧ u + sumF (ρ 3) k - sumF (ρ 3) s ≤ 900 := by omega
      have hz0 : u + sumF (ρ 3) k - sumF (ρ 3) s = 0 → i + 1 = j ∧ u = 0 := fun q => by omega
      have hz1 : i + 1 = j → u + sumF (ρ 3) k - sumF (ρ 3) s = u := fun q => by rw [show k = s by omega]; omega
      have V1 := HuF_pos (6 - (i + 1))
      have Ue := HuF_up (j := i) (by omega)
      have HV := HuF_all (j := i + 1) (by omega)
      have f0 : m 38 ((k : Int) + 1) = frC ρ w i * HuF (6 - i) := by
        have := hf i (by omega) (fun q => by omega)
        rw [← hS, show S - i = k + 1 by omega] at this
        exact this
      rw [← hk]
      refine g_X0_weigh_11 H ⟨by omega, by omega, fun c => absurd c (by omega), fun _ => ⟨by omega, by omega, by omega, by omega, ?_⟩⟩
      rw [e7k, e7s]
      generalize hhr : u + sumF (ρ 3) k - sumF (ρ 3) s = hr' at hrest hb' hz0 hz1 ⊢
      refine p_X0_weigh_39 (d2 := d - 1) H H (s_X6_oddsOf H hz hb ⟨by omega, by omega⟩) (by omega) ?_
      rintro _ z ⟨e, rfl⟩; cases e
      rw [show oddsF ρ hr' (ρ 0 0).toNat = odR ρ hr' from rfl]
      have oh := odR_bd hb h3 hr'
      have oh2 := odR_bd hb h3 (hr' + ρ 3 k)
      refine g_X0_weigh_42 H ⟨by omega, by omega, by omega, ?_⟩
      rw [e3k]
      refine p_X0_weigh_58 (d2 := d - 1) H H (s_X6_oddsOf H hz hb ⟨by omega, by omega⟩) (by omega) ?_
      rintro _ z ⟨e, rfl⟩; cases e
      rw [show oddsF ρ (hr' + ρ 3 k) (ρ 0 0).toNat = odR ρ (hr' + ρ 3 k) from rfl]
      refine g_X0_weigh_61 H ⟨by omega, ?_⟩
      refine p_X0_weigh_73 (d2 := d - 1) H H (s_X0_mended (w := w) (i := i) H hz hb (by omega) (by omega) h6 (by rw [z38]; exact f0)) (by omega) ?_
      rintro _ z ⟨rfl, rfl⟩
      refine ⟨_, rfl, g_X0_weigh_76 H ⟨by omega, fun c => ?_, fun c => ?_⟩⟩
      · have f1 : m 38 (k : Int) = frC ρ w (i + 1) * HuF (6 - (i + 1)) := by
          have := hf (i + 1) (by omega) (fun q q2 => c (by rw [hz1 q]; exact q2))
          rw [← hS, show S - (i + 1) = k by omega] at this
          exact this
        have cgx : ∀ d' : Nat, P_X0_changed sc d' [aR 37, aR r, aI k] z (PV (aJ (cgP ρ (i + 1) (frC ρ w (i + 1)) * HuF (6 - (i + 1)))) z) := fun d' => s_X0_changed H hz hb (by omega) (by omega) h6 (by rw [z38]; exact f1)
        refine p_X0_weigh_98 (d2 := d - 1) H H (cgx _) (by omega) ?_
        rintro _ z' ⟨rfl, rfl⟩
        refine ⟨_, rfl, g_X0_weigh_101 H ⟨by rw [e2]; have := (ch_min hb).2.2; omega, ?_⟩⟩
        rw [e2]
        refine p_X0_weigh_127 (d2 := d - 1) H H (cgx _) (by omega) ?_
        rintro _ z'' ⟨rfl, rfl⟩
        obtain ⟨q1, q2, q3⟩ := ch_prt hb h3 w (j := i) (by omega) (by omega) (u := hr') hb'.1
        have vb1 := sc_bd (j := i) (by omega) oh q1
        have vb2 := sc_bd (j := i) (by omega) oh q2
        have vb3 := sc_bd (j := i) (by omega) oh q3
        -- the three ways
        have w1 : rest + (odR ρ hr' - odR ρ (hr' + ρ 3 k)) * (bmP ρ i (frC ρ w i) * HuF (6 - i)) = ntP ρ i (ChP ρ w i) hr' * HuF (6 - (i + 1)) := by
          rw [hrest, Ue, alg1]
          unfold ntP
          rw [kk]
          rfl
        have w2 : odR ρ hr' * (cgP ρ (i + 1) (frC ρ w (i + 1)) * HuF (6 - (i + 1))) = odR ρ hr' * cgP ρ (i + 1) (frC ρ w (i + 1)) * HuF (6 - (i + 1)) := by rw [Int.mul_assoc]
        have w3 : odR ρ hr' * ρ 7 2 * 1000000000000 + rest + (odR ρ hr' - odR ρ (hr' + ρ 3 k)) * (cgP ρ (i + 1) (frC ρ w (i + 1)) * HuF (6 - (i + 1))) = loP ρ i (ChP ρ w i) hr' * HuF (6 - (i + 1)) := by
          rw [hrest, Ue, alg3 _ _ _ _ _ _ _ HV]
          unfold loP
          rw [kk]
          rfl
        have w4 : wtC ρ w (i + 1) hr' = ckC ρ w k hr' (ntP ρ i (ChP ρ w i) hr') (odR ρ hr' * cgP ρ (i + 1) (frC ρ w (i + 1))) (loP ρ i (ChP ρ w i) hr') := by
          rw [← kk]
          rfl
        have fin : ∀ (y : Mem) (v : Int), Ex (fun a _ => C_wx r a) m y → v = wtC ρ w (i + 1) hr' * HuF (6 - (i + 1)) → S_X0_weigh sc d 11 [aR 37, aR r, aI w, aI s, aI u, aJ v, aU, aI ((k : Int) + (-1)), aU, aU, aU, aU, aU, aU, aU, aU, aU, aU, aU] [] y (fun v z => Ex (fun a _ => C_wx r a) m z ∧ v = some (aJ (wgX ρ w j u))) := fun y v ye hv => by
          have g := ih (i + 1) y v (by omega) ye ?_
          · rw [show ρ 0 1 - 1 - ((i + 1 : Nat) : Int) = (k : Int) + (-1) by omega] at g
            exact g
          · rw [hv]
            by_cases ej : i + 1 = j
            · rw [if_pos ej, hz1 ej]
              unfold wgX
              rw [if_neg (by rw [← hz1 ej]; exact c), ← ej]
            · rw [if_neg ej]
              congr 2
              rw [show S - (i + 1) = k by omega]
              exact hhr.symm
        rw [w1, w2]
        refine ⟨_, rfl, g_X0_weigh_130 H ⟨wR, fun c2 => ⟨fun c3 => ⟨fun c4 => ?_, fun c4 => ?_⟩, fun c3 => ?_⟩, fun c2 => ?_⟩⟩
        · have hw2 : 0 ≤ w ∧ w < 4 + ρ 0 2 := hw.elim (fun q => absurd q c4) id
          refine p_X0_weigh_192 (d2 := d - 1) H H (s_wants H hz hb hr hzl (by omega) (by omega) hw2 ⟨c2, c3⟩ ⟨by omega, by omega⟩) (by omega) ?_
          rintro _ y ⟨ye, e⟩; cases e
          have c01 := chgF_01 (w := w) (u := hr') (s := k) hb hr hw2.2 (by omega) ⟨by omega, by omega⟩
          refine g_X0_weigh_195 H ⟨by omega, fin y _ (he.trans ye) ?_⟩
          rw [w4]
          unfold ckC
          rw [if_neg c2, if_neg c3, if_neg c4]
          by_cases g : chgF ρ w k hr' = 0
          · rw [if_pos g, if_pos g]
          · rw [if_neg g, if_neg g]
        · rw [w3]
          refine p_X0_weigh_175 (d2 := d - 1) H (s_lmin ⟨by omega, by omega⟩ ⟨by omega, by omega⟩) (by omega) ?_
          rintro _ y ⟨rfl, rfl⟩
          refine ⟨_, rfl, g_X0_weigh_178 H ?_⟩
          refine p_X0_weigh_178 (d2 := d - 1) H (s_lmin ⟨by omega, by omega⟩ ⟨by split <;> omega, by split <;> omega⟩) (by omega) ?_
          rintro _ y ⟨rfl, rfl⟩
          refine ⟨_, rfl, g_X0_weigh_181 H (fin _ _ he ?_)⟩
          rw [w4]
          unfold ckC
          rw [if_neg c2, if_neg c3, if_pos (Classical.not_not.mp c4)]
          by_cases g : odR ρ hr' * cgP ρ (i + 1) (frC ρ w (i + 1)) < ntP ρ i (ChP ρ w i) hr'
          · rw [if_pos ((mul_lt_iff V1).mpr g), if_pos g]
            by_cases g2 : odR ρ hr' * cgP ρ (i + 1) (frC ρ w (i + 1)) < loP ρ i (ChP ρ w i) hr'
            · rw [if_pos ((mul_lt_iff V1).mpr g2), if_pos g2]
            · rw [if_neg (fun q => g2 ((mul_lt_iff V1).mp q)), if_neg g2]
          · rw [if_neg (fun q => g ((mul_lt_iff V1).mp q)), if_neg g]
            by_cases g2 : ntP ρ i (ChP ρ w i) hr' < loP ρ i (ChP ρ w i) hr'
            · rw [if_pos ((mul_lt_iff V1).mpr g2), if_pos g2]
            · rw [if_neg (fun q => g2 ((mul_lt_iff V1).mp q)), if_neg g2]
        · refine p_X0_weigh_155 (d2 := d - 1) H (s_lmin ⟨by omega, by omega⟩ ⟨by omega, by omega⟩) (by omega) ?_
          rintro _ y ⟨rfl, rfl⟩
          refine ⟨_, rfl, g_X0_weigh_158 H (fin _ _ he ?_)⟩
          rw [w4]
          unfold ckC
          rw [if_neg c2, if_pos (Classical.not_not.mp c3)]
          by_cases g : odR ρ hr' * cgP ρ (i + 1) (frC ρ w (i + 1)) < ntP ρ i (ChP ρ w i) hr'
          · rw [if_pos ((mul_lt_iff V1).mpr g), if_pos g]
          · rw [if_neg (fun q => g ((mul_lt_iff V1).mp q)), if_neg g]
        · rw [w3]
          refine fin _ _ he ?_
          rw [w4]
          unfold ckC
          rw [if_pos (Classical.not_not.mp c2)]
      · obtain ⟨ej, eu⟩ := hz0 (Classical.not_not.mp c)
        have h0 : hr' = 0 := Classical.not_not.mp c
        have g := ih (i + 1) z (rest + (odR ρ hr' - odR ρ (hr' + ρ 3 k)) * (bmP ρ i (frC ρ w i) * HuF (6 - i))) (by omega) he ?_
        · rw [show ρ 0 1 - 1 - ((i + 1 : Nat) : Int) = (k : Int) + (-1) by omega] at g
          exact g
        · rw [if_pos ej, hrest, alg0, h0, odR_0 hb h3 (by decide), Int.zero_add]
          unfold wgX
          rw [if_pos eu, ← ej, ← Ue]
          congr 1
          show _ = frP ρ i (ChP ρ w i)
          unfold frP
          rw [kk]
          rfl
  have g := lp j 0 m 0 (by omega) (Ex.refl _ _) ?_
  · rw [show ρ 0 1 - 1 - ((0 : Nat) : Int) = ρ 0 1 - 1 by omega] at g
    exact g
  · by_cases e : 0 = j
    · rw [if_pos e, ← e]
      unfold wgX
      split
      · show (0 : Int) = 0 * _; rw [Int.zero_mul]
      · show (0 : Int) = 0 * _; rw [Int.zero_mul]
    · rw [if_neg e]
      show (0 : Int) = 0 * _
      rw [Int.zero_mul]
end CX
