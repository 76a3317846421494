/-! where bobbins may be begun: the class's search -/
section HY
variable {sc : List Int} {d : Nat} {m : Mem} {Q : Option AV → Mem → Prop} {r L : Int} {ρ : Mem}
theorem s_hide (H : RoomAt r) (hx : XRm m r ρ) (hb : RmB ρ) (hL : 1 ≤ L ∧ L ≤ 99) (hd : 2 ≤ d) : P_X4_hide sc d [aR 44, aR r, aI L] m (fun v z => v = none ∧ Ex C_hx m z ∧ ∃ cs nx, DPf (spS ρ (ρ 0 1).toNat) (sumF (ρ 3) (ρ 0 1).toNat) L cs nx 0 ∧ (((spS ρ (ρ 0 1).toNat).length = 0 ∧ z 44 17 = 0 ∧ z 44 18 = 0) ∨ (0 < (spS ρ (ρ 0 1).toNat).length ∧ cs 0 = 2147483647 ∧ z 44 17 = -1) ∨ (0 < (spS ρ (ρ 0 1).toNat).length ∧ cs 0 < 2147483647 ∧ ∃ n : Nat, z 44 17 = n ∧ (n : Int) = cs 0 / 100 ∧ z 44 18 = cs 0 % 100 ∧ (∀ q : Nat, q < n → 0 ≤ wlk nx (q + 1) ∧ z 56 q = (nthR (spS ρ (ρ 0 1).toNat) (wlk nx (q + 1)).toNat).2.1) ∧ (∀ q : Nat, n < q → wlk nx q < 0) ∧ n < 50))) := by
  have b0 := hb.1
  have hrb := room_bd H
  have e8 := hx.1.2.1
  have len := spS_len hb (ρ 0 1).toNat (by omega)
  have e7 : m (r + 7) (ρ 0 1) = sumF (ρ 3) (ρ 0 1).toNat := by
    have := hx.2.2.2.1 (ρ 0 1).toNat (by omega)
    rw [show (((ρ 0 1).toNat : Nat) : Int) = ρ 0 1 by omega] at this
    exact this
  have tb := A_bd hb (ρ 0 1).toNat (by omega)
  refine ep_X4_hide (g_X4_hide_0 H ?_)
  rw [e8, e7]
  refine ⟨by omega, by omega, p_X4_hide_12 (d2 := d - 1) H H (s_listSpots H hx hb) (by omega) ?_⟩
  rintro _ y ⟨yE, e, yp⟩; cases e
  obtain ⟨T, hT⟩ : ∃ T, T = sumF (ρ 3) (ρ 0 1).toNat := ⟨_, rfl⟩
  have okl := spS_ok hb (ρ 0 1).toNat (by omega)
  have cost := fun (z : Mem) (i : Nat) (h1 : XRm z r ρ) (h2 : SpX z (spS ρ (ρ 0 1).toNat)) (h3 : i < (spS ρ (ρ 0 1).toNat).length) => s_costOf (sc := sc) (d := d - 1) (m := z) (i := i) H h1 hb h2 h3
  have lst := fun (z : Mem) (cs nx : Nat → Int) (h1 : XRm z r ρ) (h2 : SpX z (spS ρ (ρ 0 1).toNat)) (h3 : DPf (spS ρ (ρ 0 1).toNat) T L cs nx 0) => s_listStarts (sc := sc) (d := d - 1) (m := z) (cs := cs) (nx := nx) (Tt := T) (L := L) H h1 hb h2 (by omega) h3
  have sh01 := fun i hi => sh_01 hb i hi
  rw [← hT] at tb ⊢
  generalize spS ρ (ρ 0 1).toNat = l at len yp okl cost lst sh01 ⊢
  have okb : ∀ i : Nat, i < l.length → 0 ≤ (nthR l i).1 ∧ (nthR l i).1 ≤ 1100 := fun i hi => (okl i hi).1
  have xrm : ∀ z, Ex C_hx m z → XRm z r ρ := fun z he => hx.ex he (fun a j q1 q2 => by unfold C_hx; omega)
  have yA : Ex C_hx m y := yE.mono (fun a j q => by unfold C_ls at q; unfold C_hx; omega)
  refine g_X4_hide_15 H ?_
  -- from spot to spot, from the last one back
  have lp : ∀ (i : Nat) (z : Mem), i ≤ l.length → Ex (fun a j => a = 54 ∨ a = 55) y z → DPf l T L (fun q => z 54 q) (fun q => z 55 q) i → S_X4_hide sc d 23 [aR 44, aR r, aI L, aI T, aI (l.length : Nat), aI ((i : Int) - 1), aU, aU, aU] [] z (fun v z => v = none ∧ Ex C_hx m z ∧ ∃ cs nx, DPf l T L cs nx 0 ∧ ((l.length = 0 ∧ z 44 17 = 0 ∧ z 44 18 = 0) ∨ (0 < l.length ∧ cs 0 = 2147483647 ∧ z 44 17 = -1) ∨ (0 < l.length ∧ cs 0 < 2147483647 ∧ ∃ n : Nat, z 44 17 = n ∧ (n : Int) = cs 0 / 100 ∧ z 44 18 = cs 0 % 100 ∧ (∀ q : Nat, q < n → 0 ≤ wlk nx (q + 1) ∧ z 56 q = (nthR l (wlk nx (q + 1)).toNat).2.1) ∧ (∀ q : Nat, n < q → wlk nx q < 0) ∧ n < 50))) := by
    intro i
    induction i with
    | zero =>
      intro z hi he hD
      have zA : Ex C_hx m z := yA.trans (he.mono (fun a j q => by unfold C_hx; omega))
      have zp : SpX z l := fun i hi => by rw [he 52 i (by omega), he 53 i (by omega)]; exact yp i hi
      by_cases n0 : l.length = 0
      · refine g_X4_hide_23 H ⟨by omega, fun _ => ⟨by omega, fun c => absurd (by omega) c, by omega, fun c => ?_, fun c => absurd (by omega) c⟩, fun c => absurd (by omega) c⟩
        rw [if_pos c]
        refine g_X4_hide_244 ⟨rfl, (zA.put (Or.inr (Or.inr (Or.inr (Or.inr (Or.inr ⟨rfl, Or.inl rfl⟩)))))).put (Or.inr (Or.inr (Or.inr (Or.inr (Or.inr ⟨rfl, Or.inr rfl⟩))))), _, _, hD, Or.inl ⟨n0, ?_, wr_eq _ _ _ _⟩⟩
        rw [wr_ne _ _ _ _ _ _ (by decide), wr_eq]
      · have b := DPf.bd hD (by omega) (fun i hi => sh01 i hi) l.length 0 (by omega) (Nat.le_refl _) 0 (by omega) (by omega)
        have b' : (z 54 0 = 2147483647 ∧ z 55 0 = -1) ∨ (0 ≤ z 54 0 ∧ z 54 0 ≤ 101 * ((l.length : Int) - 1 - (0 : Nat))) := by
          rcases b with b | ⟨b1, b2, -⟩
          · exact Or.inl b
          · exact Or.inr ⟨b1, b2⟩
        clear b
        have r54 : R32 (z 54 0) := by unfold R32; omega
        refine g_X4_hide_23 H ⟨by omega, fun _ => ⟨by omega, fun _ => r54, by omega, fun c => absurd c (by omega), fun c => ?_⟩, fun c => absurd (by omega) c⟩
        rw [if_neg c]
        by_cases cm : z 54 0 = 2147483647
        · rw [if_neg (fun q => q cm)]
          have uE : Ex C_hx m (wr (wr z 44 17 (-1)) 44 18 0) := (zA.put (Or.inr (Or.inr (Or.inr (Or.inr (Or.inr ⟨rfl, Or.inl rfl⟩)))))).put (Or.inr (Or.inr (Or.inr (Or.inr (Or.inr ⟨rfl, Or.inr rfl⟩)))))
          have u17 : wr (wr z 44 17 (-1)) 44 18 0 44 17 = -1 := by rw [wr_ne _ _ _ _ _ _ (by decide), wr_eq]
          rw [u17]
          exact ⟨by decide, fun _ => g_X4_hide_244 ⟨rfl, uE, _, _, hD, Or.inr (Or.inl ⟨by omega, cm, u17⟩)⟩, fun q => absurd (by decide) q⟩
        · rw [if_pos cm]
          have uE : Ex (fun a j => a = 54 ∨ a = 55 ∨ (a = 44 ∧ (j = 17 ∨ j = 18))) y (wr (wr z 44 17 0) 44 18 0) := ((he.mono (fun a j q => by omega)).put (Or.inr (Or.inr ⟨rfl, Or.inl rfl⟩))).put (Or.inr (Or.inr ⟨rfl, Or.inr rfl⟩))
          have u17 : wr (wr z 44 17 0) 44 18 0 44 17 = 0 := by rw [wr_ne _ _ _ _ _ _ (by decide), wr_eq]
          have u18 : wr (wr z 44 17 0) 44 18 0 44 18 = 0 := wr_eq _ _ _ _
          have u55 : ∀ j, wr (wr z 44 17 0) 44 18 0 55 j = z 55 j := fun j => by rw [wr_na _ _ _ _ _ _ (by decide), wr_na _ _ _ _ _ _ (by decide)]
          rw [u17]
          refine ⟨by decide, fun q => absurd rfl q, fun _ => ?_⟩
          generalize wr (wr z 44 17 0) 44 18 0 = u at uE u17 u18 u55 ⊢
          have uA : Ex C_hx m u := yA.trans (uE.mono (fun a j q => by unfold C_hx; omega))
          refine p_X4_hide_241 (d2 := d - 1) H (lst u _ _ (xrm u uA) (fun i hi => by rw [uE 52 i (by omega), uE 53 i (by omega)]; exact yp i hi) hD (fun i hi => u55 i) (by omega) (show z 54 0 < 2147483647 by omega) u17 u18) (by omega) ?_
          rintro x1 ⟨-, xE, n, n1, n2, n3, n4, n5, n6⟩
          exact g_X4_hide_244 ⟨rfl, uA.trans xE, _, _, hD, Or.inr (Or.inr ⟨by omega, show z 54 0 < 2147483647 by omega, n, n1, n2, n3, n4, n5, n6⟩)⟩
    | succ i ih =>
      intro z hi he hD
      have il : i < l.length := by omega
      have e3 : ((i + 1 : Nat) : Int) - 1 = i := by omega
      rw [e3]
      have zp : ∀ z' : Mem, Ex (fun a j => a = 54 ∨ a = 55) y z' → SpX z' l := fun z' h' i hi => by rw [h' 52 i (by omega), h' 53 i (by omega)]; exact yp i hi
      have y52 := (yp i il).1
      have bi := okb i il
      refine g_X4_hide_23 H ⟨by omega, fun c => absurd c (by omega), fun _ => ?_⟩
      have w52 : wr z 55 i (-1) 52 i = (nthR l i).1 := by rw [wr_na _ _ _ _ _ _ (by decide)]; exact ((zp z he) i il).1
      rw [w52]
      refine ⟨by omega, by omega, by omega, by omega, ?_⟩
      have uE : Ex (fun a j => a = 54 ∨ a = 55) y (wr (wr z 55 i (-1)) 54 i (if L < T - (nthR l i).1 then 2147483647 else 0)) := (he.put (Or.inr rfl)).put (Or.inl rfl)
      have u54 : wr (wr z 55 i (-1)) 54 i (if L < T - (nthR l i).1 then 2147483647 else 0) 54 i = (if L < T - (nthR l i).1 then 2147483647 else 0) := wr_eq _ _ _ _
      have u55 : wr (wr z 55 i (-1)) 54 i (if L < T - (nthR l i).1 then 2147483647 else 0) 55 i = -1 := by rw [wr_na _ _ _ _ _ _ (by decide), wr_eq]
      have uo : ∀ q : Nat, q ≠ i → wr (wr z 55 i (-1)) 54 i (if L < T - (nthR l i).1 then 2147483647 else 0) 54 q = z 54 q ∧ wr (wr z 55 i (-1)) 54 i (if L < T - (nthR l i).1 then 2147483647 else 0) 55 q = z 55 q := fun q hq => by
        rw [wr_ne _ _ _ _ _ _ (by omega), wr_na _ _ _ _ _ _ (by decide), wr_na _ _ _ _ _ _ (by decide), wr_ne _ _ _ _ _ _ (by omega)]; exact ⟨rfl, rfl⟩
      generalize wr (wr z 55 i (-1)) 54 i (if L < T - (nthR l i).1 then 2147483647 else 0) = u at uE u54 u55 uo ⊢
      have bd := DPf.bd hD (by omega) (fun i hi => sh01 i hi) (l.length - (i + 1)) (i + 1)
      -- the others do not change
      have nxt : ∀ u2 : Mem, Ex (fun a j => a = 54 ∨ a = 55) y u2 → (∀ q : Nat, q ≠ i → u2 54 q = z 54 q ∧ u2 55 q = z 55 q) → ((T - (nthR l i).1 ≤ L ∧ u2 54 i = 0 ∧ u2 55 i = -1) ∨ (¬ T - (nthR l i).1 ≤ L ∧ IsB (fun j => (nthR l j).1 - (nthR l i).1 ≤ L ∧ z 54 j < 2147483647) (fun j => z 54 j + (100 + (nthR l j).2.2)) (i + 1) l.length (u2 54 i) (u2 55 i))) → S_X4_hide sc d 23 [aR 44, aR r, aI L, aI T, aI (l.length : Nat), aI ((i : Int) + (-1)), aU, aU, aU] [] u2 (fun v z => v = none ∧ Ex C_hx m z ∧ ∃ cs nx, DPf l T L cs nx 0 ∧ ((l.length = 0 ∧ z 44 17 = 0 ∧ z 44 18 = 0) ∨ (0 < l.length ∧ cs 0 = 2147483647 ∧ z 44 17 = -1) ∨ (0 < l.length ∧ cs 0 < 2147483647 ∧ ∃ n : Nat, z 44 17 = n ∧ (n : Int) = cs 0 / 100 ∧ z 44 18 = cs 0 % 100 ∧ (∀ q : Nat, q < n → 0 ≤ wlk nx (q + 1) ∧ z 56 q = (nthR l (wlk nx (q + 1)).toNat).2.1) ∧ (∀ q : Nat, n < q → wlk nx q < 0) ∧ n < 50))) := by
        intro u2 u2E u2o u2i
        have g := ih u2 (by omega) u2E (fun q h1 h2 => ?_)
        · rw [show (i : Int) + (-1) = (i : Int) - 1 by omega]
          exact g
        · have cong : ∀ j : Nat, q + 1 ≤ j → j < l.length → (((nthR l j).1 - (nthR l q).1 ≤ L ∧ z 54 j < 2147483647) ↔ ((nthR l j).1 - (nthR l q).1 ≤ L ∧ u2 54 j < 2147483647)) ∧ z 54 j + (100 + (nthR l j).2.2) = u2 54 j + (100 + (nthR l j).2.2) := fun j j1 j2 => by
            have := (u2o j (by omega)).1
            rw [this]
            exact ⟨Iff.rfl, rfl⟩
          by_cases e : q = i
          · rw [e] at cong ⊢
            rcases u2i with a | ⟨a, b⟩
            · exact Or.inl a
            · exact Or.inr ⟨a, b.congr cong⟩
          · have o := u2o q e
            rcases hD q (by omega) h2 with ⟨a1, a2, a3⟩ | ⟨a, b⟩
            · exact Or.inl ⟨a1, by show u2 54 q = 0; rw [o.1]; exact a2, by show u2 55 q = -1; rw [o.2]; exact a3⟩
            · refine Or.inr ⟨a, ?_⟩
              show IsB _ _ _ _ (u2 54 q) (u2 55 q)
              rw [o.1, o.2]
              exact b.congr cong
      by_cases ct : T - (nthR l i).1 ≤ L
      · have u0 : u 54 i = 0 := by rw [u54, if_neg (by omega)]
        have st := nxt u uE uo (Or.inl ⟨ct, u0, u55⟩)
        exact g_X4_hide_68 H ⟨by omega, by omega, fun _ => st, fun c => ⟨by omega, by omega, by omega, fun _ => st, fun c2 => absurd (by omega) c2⟩⟩
      · have um : u 54 i = 2147483647 := by rw [u54, if_pos (by omega)]
        have inn : ∀ (p t : Nat) (x : Mem), t + p = l.length → i + 1 ≤ t → Ex (fun a j => a = 54 ∨ a = 55) y x → (∀ q : Nat, q ≠ i → x 54 q = z 54 q ∧ x 55 q = z 55 q) → IsB (fun j => (nthR l j).1 - (nthR l i).1 ≤ L ∧ z 54 j < 2147483647) (fun j => z 54 j + (100 + (nthR l j).2.2)) (i + 1) t (x 54 i) (x 55 i) → S_X4_hide sc d 68 [aR 44, aR r, aI L, aI T, aI (l.length : Nat), aI i, aI t, aU, aU] [] x (fun v z => v = none ∧ Ex C_hx m z ∧ ∃ cs nx, DPf l T L cs nx 0 ∧ ((l.length = 0 ∧ z 44 17 = 0 ∧ z 44 18 = 0) ∨ (0 < l.length ∧ cs 0 = 2147483647 ∧ z 44 17 = -1) ∨ (0 < l.length ∧ cs 0 < 2147483647 ∧ ∃ n : Nat, z 44 17 = n ∧ (n : Int) = cs 0 / 100 ∧ z 44 18 = cs 0 % 100 ∧ (∀ q : Nat, q < n → 0 ≤ wlk nx (q + 1) ∧ z 56 q = (nthR l (wlk nx (q + 1)).toNat).2.1) ∧ (∀ q : Nat, n < q → wlk nx q < 0) ∧ n < 50))) := by
          intro p
          induction p with
          | zero =>
            intro t x ht hit xE xo hB
            have tl : t = l.length := by omega
            rw [tl] at hB ⊢
            exact g_X4_hide_68 H ⟨by omega, by omega, fun _ => nxt x xE xo (Or.inr ⟨ct, hB⟩), fun c => absurd (Int.le_refl _) c⟩
          | succ p ihp =>
            intro t x ht hit xE xo hB
            have tl : t < l.length := by omega
            have x52i := ((zp x xE) i il).1
            have x52t := ((zp x xE) t tl).1
            have bt := okb t tl
            have st01 := sh01 t tl
            have ot := (xo t (by omega)).1
            have bt2 := bd (by omega) (Nat.le_refl _) t (by omega) tl
            have zt : (z 54 t = 2147483647) ∨ (0 ≤ z 54 t ∧ z 54 t ≤ 5050) := by
              rcases bt2 with ⟨a, -⟩ | ⟨a, b, -⟩
              · exact Or.inl a
              · have a' : 0 ≤ z 54 t := a
                have b' : z 54 t ≤ 101 * ((l.length : Int) - 1 - t) := b
                exact Or.inr ⟨a', by omega⟩
            clear bt2
            have xi : 100 ≤ x 54 i ∧ x 54 i ≤ 2147483647 := by
              rcases hB with ⟨-, a, -⟩ | ⟨k, k1, k2, k3, k4, k5, k6⟩
              · omega
              · have k5' : x 54 i = z 54 k + (100 + (nthR l k).2.2) := k5
                have k3' : z 54 k < 2147483647 := k3.2
                have s01 := sh01 k (by omega)
                have bk := bd (by omega) (Nat.le_refl _) k (by omega) (by omega)
                rcases bk with ⟨a, -⟩ | ⟨a, b, -⟩
                · have a' : z 54 k = 2147483647 := a
                  omega
                · have a' : 0 ≤ z 54 k := a
                  have b' : z 54 k ≤ 101 * ((l.length : Int) - 1 - k) := b
                  omega
            have sk : ¬ ((nthR l t).1 - (nthR l i).1 ≤ L ∧ z 54 t < 2147483647) ∨ (x 54 i < z 54 t + (100 + (nthR l t).2.2) ∧ z 54 t + (100 + (nthR l t).2.2) < 2147483647) → S_X4_hide sc d 68 [aR 44, aR r, aI L, aI T, aI (l.length : Nat), aI i, aI ((t : Int) + 1), aU, aU] [] x (fun v z => v = none ∧ Ex C_hx m z ∧ ∃ cs nx, DPf l T L cs nx 0 ∧ ((l.length = 0 ∧ z 44 17 = 0 ∧ z 44 18 = 0) ∨ (0 < l.length ∧ cs 0 = 2147483647 ∧ z 44 17 = -1) ∨ (0 < l.length ∧ cs 0 < 2147483647 ∧ ∃ n : Nat, z 44 17 = n ∧ (n : Int) = cs 0 / 100 ∧ z 44 18 = cs 0 % 100 ∧ (∀ q : Nat, q < n → 0 ≤ wlk nx (q + 1) ∧ z 56 q = (nthR l (wlk nx (q + 1)).toNat).2.1) ∧ (∀ q : Nat, n < q → wlk nx q < 0) ∧ n < 50))) := fun q => ihp (t + 1) x (by omega) (by omega) xE xo (hB.skip q)
            refine g_X4_hide_68 H ?_
            rw [x52t, x52i, ot]
            refine ⟨by omega, by omega, fun c => absurd c (by omega), fun _ => ⟨by omega, by omega, by omega, fun c => absurd c (by omega), fun _ => ⟨by omega, by omega, by omega, by omega, fun _ => by omega, by split <;> (try split) <;> omega, fun c => ⟨fun _ => sk (Or.inl ?_), fun c2 => absurd c c2⟩, fun c => ?_⟩⟩⟩
            · intro w
              rw [if_neg (by omega), if_neg (by omega)] at c
              exact absurd c (by decide)
            · have P1 : (nthR l t).1 - (nthR l i).1 ≤ L ∧ z 54 t < 2147483647 := by
                by_cases g : L < (nthR l t).1 - (nthR l i).1
                · rw [if_pos g] at c; exact absurd rfl c
                · rw [if_neg g] at c
                  by_cases g2 : 2147483647 ≤ z 54 t
                  · rw [if_pos g2] at c; exact absurd rfl c
                  · exact ⟨by omega, by omega⟩
              rw [if_neg (by omega), if_neg (by omega)]
              refine p_X4_hide_139 (d2 := d - 1) H H (cost x t (xrm x (yA.trans (xE.mono (fun a j q => by unfold C_hx; omega)))) (zp x xE) tl) (by omega) ?_
              rintro _ x ⟨e, rfl⟩; cases e
              refine g_X4_hide_142 H ⟨by decide, fun q => absurd q (by decide), fun _ => ⟨by omega, by omega, by omega, by omega, fun c2 => sk (Or.inr ⟨c2, by omega⟩), fun c2 => ?_⟩⟩
              refine ihp (t + 1) _ (by omega) (by omega) ((xE.put (Or.inl rfl)).put (Or.inr rfl)) (fun q hq => ?_) ?_
              · rw [wr_na _ _ _ _ _ _ (by decide), wr_ne _ _ _ _ _ _ (by omega), wr_ne _ _ _ _ _ _ (by omega), wr_na _ _ _ _ _ _ (by decide)]
                exact xo q hq
              · rw [wr_na _ _ _ _ _ _ (by decide), wr_eq, wr_eq]
                exact hB.take hit P1 (by show z 54 t + (100 + (nthR l t).2.2) ≤ x 54 i; omega)
        have st := inn (l.length - (i + 1)) (i + 1) u (by omega) (Nat.le_refl _) uE uo (Or.inl ⟨fun j j1 j2 => by omega, um, u55⟩)
        exact st
  exact lp l.length y (Nat.le_refl _) (Ex.refl _ _) (fun q h1 h2 => by omega)
theorem s_X7_hidden {a : Int} (h : Xt m ρ) (hd : 3 ≤ d) (hL : R32 L) (ha : R32 a) : P_X7_hidden sc d [aR 0, aI L, aI a] m (fun v z => Ex C_hx m z ∧ ∃ x, v = some (aI x) ∧ IsHid ρ L a x) := by
  have hb := h.2.2
  have b0 := hb.1
  have H := h.1
  have hrb := room_bd H
  have e15 := h.2.1.1.2.2.2
  refine ep_X7_hidden (g_X7_hidden_0 ⟨H, by omega, fun c => ⟨Ex.refl _ _, _, rfl, Or.inr ⟨fun p => by omega, rfl⟩⟩, fun c0 => ?_⟩)
  refine p_X7_hidden_11 (d2 := d - 1) (s_X7_isLength hL) (by omega) ?_
  rintro _ m ⟨rfl, ⟨e, q⟩ | ⟨e, q⟩⟩ <;> cases e
  · refine g_X7_hidden_14 ⟨by omega, fun _ => ?_, fun c => absurd (by decide) c⟩
    refine p_X7_hidden_28 (d2 := d - 1) H (s_hide H h.2.1 hb q (by omega)) (by omega) ?_
    rintro z ⟨-, zE, cs, nx, hD, hv⟩
    have e02 : z 0 2 = m 0 2 := zE 0 2 (by unfold C_hx; omega)
    have hz : XRm z (m 0 2) ρ := h.2.1.ex zE (fun a j q1 q2 => by unfold C_hx; omega)
    have e8 := hz.1.2.1
    have few : 0 < ρ 0 3 ∧ 1 ≤ L ∧ L ≤ 99 := ⟨by omega, q⟩
    have fin : ∀ x, x = hidF (spS ρ (ρ 0 1).toNat) cs nx a → (fun v z => Ex C_hx m z ∧ ∃ x, v = some (aI x) ∧ IsHid ρ L a x) (some (aI x)) z := fun x hx => ⟨zE, x, rfl, Or.inl ⟨few, cs, nx, hD, hx⟩⟩
    have S0 : (spS ρ (ρ 0 1).toNat).length = 0 ↔ ρ 0 1 = 0 := by
      constructor
      · intro g
        by_cases c : ρ 0 1 = 0
        · exact c
        · exfalso
          rw [show (ρ 0 1).toNat = ((ρ 0 1).toNat - 1) + 1 by omega, spS, spP_len, List.length_cons] at g
          omega
      · intro g; rw [g]; rfl
    rcases hv with ⟨l0, h17, h18⟩ | ⟨l0, hm, h17⟩ | ⟨l0, hm, n, h17, hn, h18, hq, hq2, n50⟩
    · refine g_X7_hidden_31 ?_
      rw [h17, h18, e02]
      refine ⟨by decide, fun _ => ⟨ha, fun c => ⟨fun c1 => ⟨fun _ => by omega, fun _ _ => by omega, fun _ _ => by omega, fin _ ?_⟩, fun c1 => fin _ ?_⟩, fun c => ⟨H, by omega, fin _ ?_⟩⟩, fun c => absurd (by decide) c⟩
      · unfold hidF
        rw [if_pos l0, if_neg c, if_neg c1]
        split
        · rfl
        · rw [if_pos (by omega)]
      · unfold hidF
        rw [if_pos l0, if_neg c, if_pos (Classical.not_not.mp c1)]
      · unfold hidF
        rw [if_pos l0, if_pos (Classical.not_not.mp c), if_neg (fun q => q (by rw [e8]; exact S0.mp l0))]
    · refine g_X7_hidden_31 ?_
      rw [h17]
      refine ⟨by decide, fun c => absurd c (by decide), fun _ => fin _ ?_⟩
      unfold hidF
      rw [if_neg (by omega), if_pos hm]
    · refine g_X7_hidden_31 ?_
      rw [h17, h18, e02]
      refine ⟨by omega, fun _ => ⟨ha, fun c => ⟨fun c1 => ⟨fun _ => by omega, fun _ _ => by omega, fun _ _ => by omega, fin _ ?_⟩, fun c1 => fin _ ?_⟩, fun c => ⟨H, by omega, fin _ ?_⟩⟩, fun c => absurd (by omega) c⟩
      · unfold hidF
        rw [if_neg (show ¬ (spS ρ (ρ 0 1).toNat).length = 0 by omega), if_neg (show ¬ cs 0 = 2147483647 by omega), if_neg c, if_neg c1]
        by_cases c2 : a < 10
        · rw [if_pos c2, if_pos c2]
        · rw [if_neg c2, if_neg c2]
          by_cases c3 : (n : Int) ≤ a - 10
          · rw [if_pos c3, if_pos (hq2 _ (by omega))]
          · have w := hq (a - 10).toNat (by omega)
            rw [show (a - 10).toNat + 1 = (a - 9).toNat by omega, show (((a - 10).toNat : Nat) : Int) = a - 10 by omega] at w
            rw [if_neg c3, if_neg (by omega)]
            exact w.2
      · unfold hidF
        rw [if_neg (show ¬ (spS ρ (ρ 0 1).toNat).length = 0 by omega), if_neg (show ¬ cs 0 = 2147483647 by omega), if_neg c, if_pos (Classical.not_not.mp c1)]
      · unfold hidF
        rw [if_neg (show ¬ (spS ρ (ρ 0 1).toNat).length = 0 by omega), if_neg (show ¬ cs 0 = 2147483647 by omega), if_pos (Classical.not_not.mp c), if_pos (by rw [e8]; intro g; have := S0.mpr g; omega), hn]
  · exact g_X7_hidden_14 ⟨by omega, fun c => absurd rfl c, fun _ => ⟨Ex.refl _ _, _, rfl, Or.inr ⟨fun p => q p.2, rfl⟩⟩⟩
end HY
