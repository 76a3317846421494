/-! where bobbins may be begun: the class -/
section HX
variable {sc : List Int} {d : Nat} {m : Mem} {Q : Option AV → Mem → Prop} {r L : Int} {ρ : Mem}
def SpX (z : Mem) (l : List (Int × Int × Int)) : Prop := ∀ i : Nat, i < l.length → z 52 i = (nthR l i).1 ∧ z 53 i = (nthR l i).2.1
def C_ls (a j : Int) : Prop := a = 52 ∨ a = 53
theorem SpX.push {z : Mem} {l : List (Int × Int × Int)} (h : SpX z l) (y n e : Int) : SpX (wr (wr z 52 (l.length : Nat) y) 53 (l.length : Nat) n) ((y, n, e) :: l) := by
  intro i hi
  rw [List.length_cons] at hi
  by_cases c : i = l.length
  · rw [c, nthR_top, wr_eq, wr_na _ _ _ _ _ _ (by decide), wr_eq]
    exact ⟨rfl, rfl⟩
  · rw [nthR_old _ _ (by omega), wr_na _ _ _ _ _ _ (by decide), wr_ne _ _ _ _ _ _ (by omega), wr_ne _ _ _ _ _ _ (by omega), wr_na _ _ _ _ _ _ (by decide)]
    exact h i (by omega)
theorem s_listSpots (H : RoomAt r) (hx : XRm m r ρ) (hb : RmB ρ) : P_X4_listSpots sc d [aR 44, aR r] m (fun v z => Ex C_ls m z ∧ v = some (aI ((spS ρ (ρ 0 1).toNat).length : Nat)) ∧ SpX z (spS ρ (ρ 0 1).toNat)) := by
  have b0 := hb.1
  have hrb := room_bd H
  have xrm : ∀ z, Ex C_ls m z → XRm z r ρ := fun z he => hx.ex he (fun a j q1 q2 => by unfold C_ls; omega)
  have lp : ∀ (n s : Nat) (z : Mem), (s : Int) + n = ρ 0 1 → Ex C_ls m z → SpX z (spS ρ s) → S_X4_listSpots sc d 4 [aR 44, aR r, aI ((spS ρ s).length : Nat), aI s, aU, aU] [] z (fun v z => Ex C_ls m z ∧ v = some (aI ((spS ρ (ρ 0 1).toNat).length : Nat)) ∧ SpX z (spS ρ (ρ 0 1).toNat)) := by
    intro n
    induction n with
    | zero =>
      intro s z hs he hp
      have e8 := (xrm z he).1.2.1
      rw [show (ρ 0 1).toNat = s by omega]
      exact g_X4_listSpots_4 H ⟨by omega, by omega, fun _ => ⟨he, rfl, hp⟩, fun c => absurd (by omega) c⟩
    | succ n ih =>
      intro s z hs he hp
      have hz := xrm z he
      have e8 := hz.1.2.1
      have len := spS_len hb s (by omega)
      have e7 : z (r + 7) s = sumF (ρ 3) s := hz.2.2.2.1 s (by omega)
      have pc := (hb.2.2.2.1 s (by omega)).2.2.1
      refine g_X4_listSpots_4 H ⟨by omega, by omega, fun c => absurd c (by omega), fun _ => ⟨by omega, by omega, by omega, by omega, ?_⟩⟩
      rw [e7]
      have pl : ∀ (q k : Nat) (y : Mem), (k : Int) + q = ρ 6 s → Ex C_ls m y → SpX y (spP ρ s ((sumF (ρ 3) s, 100 * (s : Int), 0) :: spS ρ s) k) → S_X4_listSpots sc d 40 [aR 44, aR r, aI ((spP ρ s ((sumF (ρ 3) s, 100 * (s : Int), 0) :: spS ρ s) k).length : Nat), aI s, aI k, aU] [] y (fun v z => Ex C_ls m z ∧ v = some (aI ((spS ρ (ρ 0 1).toNat).length : Nat)) ∧ SpX z (spS ρ (ρ 0 1).toNat)) := by
        intro q
        induction q with
        | zero =>
          intro k y hk ye yp
          have hy := xrm y ye
          have e6 : y (r + 6) s = ρ 6 s := (hy.2.2.1 s (by omega)).2.2.1
          have g := ih (s + 1) y (by omega) ye (by rw [spS, show (ρ 6 s).toNat = k by omega]; exact yp)
          rw [spS, show (ρ 6 s).toNat = k by omega] at g
          exact g_X4_listSpots_40 H ⟨by omega, by omega, by omega, by omega, fun _ => g, fun c => absurd (by omega) c⟩
        | succ q ihq =>
          intro k y hk ye yp
          have hy := xrm y ye
          have e6 : y (r + 6) s = ρ 6 s := (hy.2.2.1 s (by omega)).2.2.1
          have e5 : y (r + 5) ((s : Int) * 4 + k) = ρ 5 ((s : Int) * 4 + k) := (hy.2.2.1 s (by omega)).2.2.2 k (by omega)
          have e7 : y (r + 7) s = sumF (ρ 3) s := hy.2.2.2.1 s (by omega)
          have ll := spP_len (ρ := ρ) s ((sumF (ρ 3) s, 100 * (s : Int), 0) :: spS ρ s) k
          rw [List.length_cons] at ll
          refine g_X4_listSpots_40 H ⟨by omega, by omega, by omega, by omega, fun c => absurd c (by omega), fun _ => ⟨fun c => absurd c (by omega), fun _ => ⟨by omega, by omega, by omega, by omega, by omega, ?_⟩⟩⟩
          rw [e7, e5]
          exact ihq (k + 1) _ (by omega) ((ye.put (Or.inl rfl)).put (Or.inr rfl)) (yp.push _ _ _)
      exact pl (ρ 6 s).toNat 0 _ (by omega) ((he.put (Or.inl rfl)).put (Or.inr rfl)) (hp.push _ _ _)
  exact ep_X4_listSpots (g_X4_listSpots_0 H (lp (ρ 0 1).toNat 0 m (by omega) (Ex.refl _ _) (fun i hi => absurd hi (Nat.not_lt_zero _))))
theorem s_costOf {i : Nat} (H : RoomAt r) (hx : XRm m r ρ) (hb : RmB ρ) (hp : SpX m (spS ρ (ρ 0 1).toNat)) (hi : i < (spS ρ (ρ 0 1).toNat).length) : P_X4_costOf sc d [aR 44, aR r, aI i] m (PV (aI (100 + (nthR (spS ρ (ρ 0 1).toNat) i).2.2)) m) := by
  have b0 := hb.1
  have len := spS_len hb (ρ 0 1).toNat (by omega)
  have e8 := hx.1.2.1
  obtain ⟨-, s, s1, s2⟩ := spS_ok hb (ρ 0 1).toNat (by omega) i hi
  have e3 := (hp i hi).2
  have e4 : m (r + 4) s = ρ 4 s := (hx.2.2.1 s s1).2.1
  have sh := (hb.2.2.2.1 s s1).2.1
  refine ep_X4_costOf (g_X4_costOf_0 H ?_)
  rw [e3]
  generalize nthR (spS ρ (ρ 0 1).toNat) i = v at s2 ⊢
  have n0 : 0 ≤ v.2.1 ∧ v.2.1 ≤ 1100 := by rcases s2 with ⟨a, -⟩ | ⟨p, a, b, c, -⟩ <;> omega
  rw [Int.tmod_eq_emod_of_nonneg n0.1, Int.tdiv_eq_ediv_of_nonneg n0.1]
  rcases s2 with ⟨a, b⟩ | ⟨p, a, b, c, e⟩
  · have z : v.2.1 % 100 = 0 := by omega
    rw [z, if_pos rfl, if_pos rfl, b]
    exact ⟨by omega, by omega, by omega, by decide, by decide, fun c => absurd rfl c, fun c => absurd rfl c, fun c => absurd rfl c, fun c => absurd rfl c, rfl, rfl⟩
  · have z : ¬ v.2.1 % 100 = 0 := by omega
    have w : v.2.1 / 100 = s := by omega
    rw [if_neg z, w, if_neg (by decide), if_neg (by omega), e4, e]
    exact ⟨by omega, by omega, by omega, by omega, by decide, fun _ => by omega, fun _ => by omega, fun _ _ => by omega, fun _ _ => by omega, rfl, rfl⟩
theorem IsB.skip {P : Nat → Prop} {c : Nat → Int} {lo hi : Nat} {v x : Int} (h : IsB P c lo hi v x) (hs : ¬ P hi ∨ (v < c hi ∧ c hi < 2147483647)) : IsB P c lo (hi + 1) v x := by
  rcases h with ⟨h1, h2, h3⟩ | ⟨k, k1, k2, k3, k4, k5, k6⟩
  · refine Or.inl ⟨fun j j1 j2 p => ?_, h2, h3⟩
    by_cases e : j = hi
    · rw [e] at p
      rcases hs with q | q
      · exact q p
      · omega
    · exact h1 j j1 (by omega) p
  · refine Or.inr ⟨k, k1, by omega, k3, k4, k5, fun j j1 j2 p => ?_⟩
    by_cases e : j = hi
    · rw [e] at p ⊢
      rcases hs with q | q
      · exact absurd p q
      · omega
    · exact k6 j j1 (by omega) p
theorem IsB.take {P : Nat → Prop} {c : Nat → Int} {lo hi : Nat} {v x : Int} (h : IsB P c lo hi v x) (hl : lo ≤ hi) (p : P hi) (hc : c hi ≤ v) : IsB P c lo (hi + 1) (c hi) hi := by
  refine Or.inr ⟨hi, hl, by omega, p, rfl, rfl, fun j j1 j2 q => ?_⟩
  by_cases e : j = hi
  · rw [e]; omega
  · rcases h with ⟨h1, -, -⟩ | ⟨k, k1, k2, k3, k4, k5, k6⟩
    · exact absurd q (h1 j j1 (by omega))
    · have := (k6 j j1 (by omega) q).1
      omega
def C_hx (a j : Int) : Prop := a = 52 ∨ a = 53 ∨ a = 54 ∨ a = 55 ∨ a = 56 ∨ (a = 44 ∧ (j = 17 ∨ j = 18))
/-- the chain, as the class lists it -/
theorem s_listStarts {cs nx : Nat → Int} {Tt : Int} (H : RoomAt r) (hx : XRm m r ρ) (hb : RmB ρ) (hp : SpX m (spS ρ (ρ 0 1).toNat)) (hd : 1 ≤ d) (hD : DPf (spS ρ (ρ 0 1).toNat) Tt L cs nx 0) (hnx : ∀ i : Nat, i < (spS ρ (ρ 0 1).toNat).length → m 55 i = nx i) (h0 : 0 < (spS ρ (ρ 0 1).toNat).length) (hc : cs 0 < 2147483647) (h17 : m 44 17 = 0) (h18 : m 44 18 = 0) :
    P_X4_listStarts sc d [aR 44, aR r] m (fun v z => v = none ∧ Ex C_hx m z ∧ ∃ n : Nat, z 44 17 = n ∧ (n : Int) = cs 0 / 100 ∧ z 44 18 = cs 0 % 100 ∧ (∀ q : Nat, q < n → 0 ≤ wlk nx (q + 1) ∧ z 56 q = (nthR (spS ρ (ρ 0 1).toNat) (wlk nx (q + 1)).toNat).2.1) ∧ (∀ q : Nat, n < q → wlk nx q < 0) ∧ n < 50) := by
  have b0 := hb.1
  have hrb := room_bd H
  have len := spS_len hb (ρ 0 1).toNat (by omega)
  have bd := DPf.bd hD (by omega) (fun i hi => sh_01 hb i hi) (spS ρ (ρ 0 1).toNat).length 0 (by omega) (Nat.le_refl _)
  obtain ⟨l, hl⟩ : ∃ l, l = spS ρ (ρ 0 1).toNat := ⟨_, rfl⟩
  have cost := fun (z : Mem) (i : Nat) (h1 : XRm z r ρ) (h2 : SpX z l) (h3 : i < l.length) => s_costOf (sc := sc) (d := d - 1) (m := z) (i := i) H h1 hb (by rw [hl] at h2; exact h2) (by rw [hl] at h3; exact h3)
  have sh01 := fun i hi => sh_01 hb i hi
  rw [← hl] at hp hD hnx h0 len bd sh01 cost ⊢
  have xrm : ∀ z, Ex C_hx m z → XRm z r ρ := fun z he => hx.ex he (fun a j q1 q2 => by unfold C_hx; omega)
  refine ep_X4_listStarts (g_X4_listStarts_0 H ?_)
  have lp : ∀ (p n k : Nat) (z : Mem), n + p = 50 → n ≤ k → k < l.length → wlk nx n = k → cs k < 2147483647 → Ex (fun a j => a = 56 ∨ (a = 44 ∧ (j = 17 ∨ j = 18))) m z → z 44 17 = n → (0 ≤ z 44 18 ∧ z 44 18 ≤ n) → cs 0 = cs k + 100 * n + z 44 18 → (∀ q : Nat, q < n → 0 ≤ wlk nx (q + 1) ∧ z 56 q = (nthR l (wlk nx (q + 1)).toNat).2.1) → S_X4_listStarts sc d 9 [aR 44, aR r, aI (nx k), aI n] [] z (fun v z => v = none ∧ Ex C_hx m z ∧ ∃ n : Nat, z 44 17 = n ∧ (n : Int) = cs 0 / 100 ∧ z 44 18 = cs 0 % 100 ∧ (∀ q : Nat, q < n → 0 ≤ wlk nx (q + 1) ∧ z 56 q = (nthR l (wlk nx (q + 1)).toNat).2.1) ∧ (∀ q : Nat, n < q → wlk nx q < 0) ∧ n < 50) := by
    intro p
    induction p with
    | zero => intro n k z hn hk hkl; omega
    | succ p ih =>
      intro n k z hn hk hkl hw hck he e17 e18 hc0 hq
      have zA : Ex C_hx m z := he.mono (fun a j q => by unfold C_hx; omega)
      have zp : SpX z l := fun i hi => by rw [he 52 i (by omega), he 53 i (by omega)]; exact hp i hi
      rcases bd k (by omega) hkl with ⟨b1, -⟩ | ⟨b1, b2, ⟨b3, b4⟩ | ⟨x, x1, x2, x3, x4, x5⟩⟩
      · omega
      · refine g_X4_listStarts_9 H ⟨by omega, fun c => absurd c (by omega), fun _ => ⟨by omega, fun _ => ⟨rfl, zA, n, e17, by omega, by omega, hq, ?_, by omega⟩, fun c => absurd (by omega) c⟩⟩
        have w1 : wlk nx (n + 1) = -1 := by
          unfold wlk
          rw [hw, if_neg (by omega), show ((k : Nat) : Int).toNat = k by omega, b3]
        intro q hq2
        have : ∀ q : Nat, wlk nx (n + 1 + q) = -1 := by
          intro q
          induction q with
          | zero => exact w1
          | succ q ihq =>
            rw [← Nat.add_assoc, wlk, ihq, if_pos (by decide)]
        have g := this (q - (n + 1))
        rw [show n + 1 + (q - (n + 1)) = q by omega] at g
        omega
      · have w1 : wlk nx (n + 1) = x := by
          unfold wlk
          rw [hw, if_neg (by omega), show ((k : Nat) : Int).toNat = k by omega, x3]
        have s01 := sh01 x x2
        rw [x3]
        refine g_X4_listStarts_9 H ⟨by omega, fun c => absurd c (by omega), fun _ => ⟨by omega, fun c => absurd c (by omega), fun _ => ⟨by omega, by omega, by omega, by omega, ?_⟩⟩⟩
        rw [e17, (zp x x2).2]
        have yE : Ex (fun a j => a = 56 ∨ (a = 44 ∧ (j = 17 ∨ j = 18))) m (wr (wr z 56 n (nthR l x).2.1) 44 17 (wr z 56 n (nthR l x).2.1 44 17 + 1)) := (he.put (Or.inl rfl)).put (Or.inr ⟨rfl, Or.inl rfl⟩)
        have y17 : wr (wr z 56 n (nthR l x).2.1) 44 17 (wr z 56 n (nthR l x).2.1 44 17 + 1) 44 17 = (n : Int) + 1 := by rw [wr_eq, wr_na _ _ _ _ _ _ (by decide), e17]
        have y18 : wr (wr z 56 n (nthR l x).2.1) 44 17 (wr z 56 n (nthR l x).2.1 44 17 + 1) 44 18 = z 44 18 := by rw [wr_ne _ _ _ _ _ _ (by decide), wr_na _ _ _ _ _ _ (by decide)]
        have y56 : ∀ q : Nat, q < n + 1 → wr (wr z 56 n (nthR l x).2.1) 44 17 (wr z 56 n (nthR l x).2.1 44 17 + 1) 56 q = if q = n then (nthR l x).2.1 else z 56 q := fun q hq => by
          rw [wr_na _ _ _ _ _ _ (by decide)]
          by_cases e : q = n
          · rw [if_pos e, e, wr_eq]
          · rw [if_neg e, wr_ne _ _ _ _ _ _ (by omega)]
        have y55 : wr (wr z 56 n (nthR l x).2.1) 44 17 (wr z 56 n (nthR l x).2.1 44 17 + 1) 55 x = nx x := by rw [wr_na _ _ _ _ _ _ (by decide), wr_na _ _ _ _ _ _ (by decide), he 55 x (by omega)]; exact hnx x x2
        generalize wr (wr z 56 n (nthR l x).2.1) 44 17 (wr z 56 n (nthR l x).2.1 44 17 + 1) = y at yE y17 y18 y56 y55 ⊢
        have yp : SpX y l := fun i hi => by rw [yE 52 i (by omega), yE 53 i (by omega)]; exact hp i hi
        rw [y18]
        refine p_X4_listStarts_52 (d2 := d - 1) H H (cost y x (xrm y (yE.mono (fun a j q => by unfold C_hx; omega))) yp x2) (by omega) ?_
        rintro _ y ⟨e, rfl⟩; cases e
        refine g_X4_listStarts_55 H ⟨by omega, by omega, by omega, ?_⟩
        have tm : (100 + (nthR l x).2.2).tmod 100 = (nthR l x).2.2 := by
          rw [Int.tmod_eq_emod_of_nonneg (by omega)]
          omega
        rw [tm, wr_na y 44 18 _ 55 _ (by decide), y55]
        refine ih (n + 1) x _ (by omega) (by omega) x2 w1 x4 (yE.put (Or.inr ⟨rfl, Or.inr rfl⟩)) ?_ ?_ ?_ (fun q hq2 => ?_)
        · rw [wr_ne _ _ _ _ _ _ (by decide)]; exact y17
        · rw [wr_eq]; omega
        · rw [wr_eq]; omega
        · rw [wr_na _ _ _ _ _ _ (by decide), y56 q hq2]
          by_cases e : q = n
          · rw [if_pos e, e, w1]
            exact ⟨by omega, by rw [show ((x : Nat) : Int).toNat = x by omega]⟩
          · rw [if_neg e]; exact hq q (by omega)
  have g := lp 50 0 0 m (by omega) (Nat.le_refl _) h0 rfl hc (Ex.refl _ _) h17 (by omega) (by omega) (fun q hq => by omega)
  rw [show m 55 0 = nx 0 from hnx 0 h0]
  exact g
end HX
