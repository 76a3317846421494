/-! packing in any order: the class -/
section FX
variable {sc : List Int} {d : Nat} {m : Mem} {Q : Option AV → Mem → Prop} {r L : Int} {ρ : Mem}
theorem s_isLoadAhead {q : Nat} (hq : q < 10) (hr : ∀ i : Nat, i < 10 → R32 (m 47 i)) : P_X4_isLoadAhead sc d [aR 44, aI q] m (fun v z => z = m ∧ ((v = some (aI 1) ∧ ∃ p : Nat, p < q ∧ m 47 p = m 47 q) ∨ v = some (aI 0))) := by
  have l : ∀ (j i : Nat), i + j = q → S_X4_isLoadAhead sc d 2 [aR 44, aI q, aI i] [] m (fun v z => z = m ∧ ((v = some (aI 1) ∧ ∃ p : Nat, p < q ∧ m 47 p = m 47 q) ∨ v = some (aI 0))) := by
    intro j
    induction j with
    | zero =>
      intro i hi
      exact g_X4_isLoadAhead_2 ⟨by first | omega | (unfold R32; omega), by first | omega | (unfold R32; omega), fun _ => ⟨rfl, Or.inr rfl⟩, fun c => absurd (by omega) c⟩
    | succ j ih =>
      intro i hi
      exact g_X4_isLoadAhead_2 ⟨by first | omega | (unfold R32; omega), by first | omega | (unfold R32; omega), fun c => absurd c (by omega), fun _ => ⟨by omega, by omega, by omega, by omega, hr i (by omega), hr q (by omega), fun c => ih (i + 1) (by omega), fun c => ⟨rfl, Or.inl ⟨rfl, i, by omega, Classical.not_not.mp c⟩⟩⟩⟩
  exact ep_X4_isLoadAhead (g_X4_isLoadAhead_0 (l q 0 (by omega)))
def C_fx (a j : Int) : Prop := a = 46 ∨ a = 47
theorem s_X4_packs (H : RoomAt r) (hb : RmB ρ) (hL : 0 ≤ L ∧ L ≤ 99) {c : Int} (hc : 0 ≤ c ∧ c ≤ 10) : ∀ (j s d : Nat) (m : Mem), (s : Int) + j = ρ 0 1 → j ≤ d → XRm m r ρ → m 44 4 = c → (∀ i : Nat, i < 10 → 0 ≤ m 47 i ∧ m 47 i ≤ 99) → P_X4_packs sc d [aR 44, aR r, aI L, aI s] m (fun v z => Ex C_fx m z ∧ (∀ i : Nat, i < s → z 46 i = m 46 i) ∧ ((v = some (aI 1) ∧ Can (ρ 3) L c j s (m 47) ∧ Fst (ρ 3) L c j s (m 47) (z 46)) ∨ (v = some (aI 0) ∧ ¬ Can (ρ 3) L c j s (m 47) ∧ ∀ i : Nat, i < 10 → z 47 i = m 47 i))) := by
  have b0 := hb.1
  have hr := room_bd H
  intro j
  induction j with
  | zero =>
    intro s d m hs hd hx h4 hl
    have e8 := hx.1.2.1
    exact ep_X4_packs (g_X4_packs_0 H ⟨by first | omega | (unfold R32; omega), by first | omega | (unfold R32; omega), fun c => absurd c (by omega), fun _ => ⟨Ex.refl _ _, fun _ _ => rfl, Or.inl ⟨rfl, trivial, trivial⟩⟩⟩)
  | succ j ih =>
    intro s d m hs hd hx h4 hl
    have e8 := hx.1.2.1
    have ts := (hb.2.2.2.1 s (by omega)).1
    have e3 : m (r + 3) s = ρ 3 s := (hx.2.2.1 s (by omega)).1
    refine ep_X4_packs (g_X4_packs_0 H ⟨by first | omega | (unfold R32; omega), by first | omega | (unfold R32; omega), fun _ => ⟨by omega, by omega, ?_⟩, fun c => absurd (by omega) c⟩)
    rw [e3]
    have lp : ∀ (n q : Nat) (z : Mem), (q : Int) + n = c → Ex C_fx m z → (∀ i : Nat, i < s → z 46 i = m 46 i) → (∀ i : Nat, i < 10 → z 47 i = m 47 i) → (∀ p : Nat, p < q → ¬ (m 47 p + ρ 3 s ≤ L ∧ Can (ρ 3) L c j (s + 1) (ldP (m 47) p (ρ 3 s)))) → S_X4_packs sc d 21 [aR 44, aR r, aI L, aI s, aI (ρ 3 s), aI q] [] z (fun v z => Ex C_fx m z ∧ (∀ i : Nat, i < s → z 46 i = m 46 i) ∧ ((v = some (aI 1) ∧ Can (ρ 3) L c (j + 1) s (m 47) ∧ Fst (ρ 3) L c (j + 1) s (m 47) (z 46)) ∨ (v = some (aI 0) ∧ ¬ Can (ρ 3) L c (j + 1) s (m 47) ∧ ∀ i : Nat, i < 10 → z 47 i = m 47 i))) := by
      intro n
      induction n with
      | zero =>
        intro q z hq he h46 h47 hf
        have z4 : z 44 4 = c := (he 44 4 (by unfold C_fx; omega)).trans h4
        refine g_X4_packs_21 H ⟨by first | omega | (unfold R32; omega), by first | omega | (unfold R32; omega), fun _ => ⟨he, h46, Or.inr ⟨rfl, ?_, h47⟩⟩, fun g => absurd (by omega) g⟩
        rintro ⟨k, k1, k2, k3⟩
        exact hf k (by omega) ⟨k2, k3⟩
      | succ n ihn =>
        intro q z hq he h46 h47 hf
        have z4 : z 44 4 = c := (he 44 4 (by unfold C_fx; omega)).trans h4
        have zq : z 47 q = m 47 q := h47 q (by omega)
        have lq := hl q (by omega)
        have nxt : ∀ y : Mem, Ex C_fx m y → (∀ i : Nat, i < s → y 46 i = m 46 i) → (∀ i : Nat, i < 10 → y 47 i = m 47 i) → ¬ (m 47 q + ρ 3 s ≤ L ∧ Can (ρ 3) L c j (s + 1) (ldP (m 47) q (ρ 3 s))) → S_X4_packs sc d 21 [aR 44, aR r, aI L, aI s, aI (ρ 3 s), aI (q + 1 : Nat)] [] y (fun v z => Ex C_fx m z ∧ (∀ i : Nat, i < s → z 46 i = m 46 i) ∧ ((v = some (aI 1) ∧ Can (ρ 3) L c (j + 1) s (m 47) ∧ Fst (ρ 3) L c (j + 1) s (m 47) (z 46)) ∨ (v = some (aI 0) ∧ ¬ Can (ρ 3) L c (j + 1) s (m 47) ∧ ∀ i : Nat, i < 10 → z 47 i = m 47 i))) := fun y ye y46 y47 g => ihn (q + 1) y (by omega) ye y46 y47 (fun p hp => by
          by_cases e : p = q
          · rw [e]; exact g
          · exact hf p (by omega))
        refine g_X4_packs_21 H ⟨by first | omega | (unfold R32; omega), by first | omega | (unfold R32; omega), fun g => absurd g (by omega), fun _ => ⟨fun g => absurd g (by omega), fun _ => ⟨by omega, by omega, by rw [zq]; first | omega | (unfold R32; omega), by first | omega | (unfold R32; omega), fun g => nxt z he h46 h47 (fun p => by rw [zq] at g; omega), fun g => ?_⟩⟩⟩
        rw [zq] at g
        refine p_X4_packs_54 (d2 := d - 1) H (s_isLoadAhead (q := q) (by omega) (fun i hi => by rw [h47 i hi]; have := hl i hi; first | omega | (unfold R32; omega))) (by omega) ?_
        rintro _ z ⟨rfl, ⟨e, p, p1, p2⟩ | e⟩ <;> cases e
        · refine g_X4_packs_57 H ⟨by first | omega | (unfold R32; omega), fun _ => nxt _ he h46 h47 (fun w => ?_), fun g2 => absurd (by decide) g2⟩
          rw [h47 p (by omega), h47 q (by omega)] at p2
          exact hf p p1 ⟨by omega, Can.alike (p := q) (q := p) (by omega) (by omega) p2.symm w.2⟩
        · refine g_X4_packs_57 H ⟨by first | omega | (unfold R32; omega), fun g2 => absurd rfl g2, fun _ => ⟨by omega, by omega, by omega, by omega, ?_⟩⟩
          rw [zq]
          have ye : Ex C_fx z (wr (wr z 47 q (m 47 q + ρ 3 s)) 46 s q) := ((Ex.refl C_fx z).put (Or.inr rfl)).put (Or.inl rfl)
          have y47 : ∀ i : Nat, i < 10 → wr (wr z 47 q (m 47 q + ρ 3 s)) 46 s q 47 i = ldP (m 47) q (ρ 3 s) i := fun i hi => by
            rw [wr_na _ _ _ _ _ _ (by decide)]
            unfold ldP
            by_cases e : (i : Int) = q
            · rw [if_pos e, e, wr_eq]
            · rw [if_neg e, wr_ne _ _ _ _ _ _ (by omega)]; exact h47 i hi
          have y46 : ∀ i : Nat, i < s → wr (wr z 47 q (m 47 q + ρ 3 s)) 46 s q 46 i = m 46 i := fun i hi => by
            rw [wr_ne _ _ _ _ _ _ (by omega), wr_na _ _ _ _ _ _ (by decide)]; exact h46 i hi
          have y46s : wr (wr z 47 q (m 47 q + ρ 3 s)) 46 s q 46 s = q := wr_eq _ _ _ _
          generalize wr (wr z 47 q (m 47 q + ρ 3 s)) 46 s q = y at ye y47 y46 y46s ⊢
          have ae : Ex C_fx m y := he.trans ye
          refine p_X4_packs_86 (d2 := d - 1) H H (ih (s + 1) (d - 1) y (by omega) (by omega) (hx.ex ae (fun a j q1 q2 => by unfold C_fx; omega)) ((ye 44 4 (by unfold C_fx; omega)).trans z4) (fun i hi => ?_)) (by omega) ?_
          · rw [y47 i hi]
            have := hl i hi
            unfold ldP
            split
            · rename_i e; rw [e] at this ⊢; omega
            · exact this
          rintro _ u ⟨ue, u46, ⟨e, uc, uf⟩ | ⟨e, uc, u47⟩⟩ <;> cases e
          · refine g_X4_packs_89 H ⟨by first | omega | (unfold R32; omega), fun g2 => absurd g2 (by decide), fun _ => ⟨ae.trans ue, fun i hi => (u46 i (by omega)).trans (y46 i hi), Or.inl ⟨rfl, ?_⟩⟩⟩
            have uc' := Can.congr _ _ _ _ (fun k hk => y47 k (by omega)) uc
            exact ⟨⟨q, by omega, by omega, uc'⟩, q, (u46 s (by omega)).trans y46s, by omega, by omega, uc', hf, Fst.congr _ _ _ _ _ _ (fun k hk => y47 k (by omega)) (fun _ _ _ => rfl) uf⟩
          · refine g_X4_packs_89 H ⟨by first | omega | (unfold R32; omega), fun _ => ⟨by omega, by omega, ?_⟩, fun g2 => absurd rfl g2⟩
            refine nxt _ ((ae.trans ue).put (Or.inr rfl)) (fun i hi => by rw [wr_na _ _ _ _ _ _ (by decide)]; exact (u46 i (by omega)).trans (y46 i hi)) (fun i hi => ?_) (fun w => uc (Can.congr _ _ _ _ (fun k hk => (y47 k (by omega)).symm) w.2))
            by_cases e : (i : Int) = q
            · rw [e, wr_eq, u47 q (by omega), y47 q (by omega)]
              unfold ldP
              rw [if_pos rfl]
              omega
            · rw [wr_ne _ _ _ _ _ _ (by omega), u47 i hi, y47 i hi]
              unfold ldP
              rw [if_neg e]
    exact lp c.toNat 0 m (by omega) (Ex.refl _ _) (fun _ _ => rfl) (fun _ _ => rfl) (fun p hp => by omega)
def C_an (a j : Int) : Prop := (a = 44 ∧ (j = 4 ∨ j = 5)) ∨ a = 46 ∨ a = 47
/-- what is kept of a packing -/
def PkC (m ρ : Mem) : Prop := m 44 5 = 0 ∨ ((1 ≤ m 44 5 ∧ m 44 5 ≤ 99) ∧ fitsAll ρ (m 44 5) ∧ Bst (ρ 3) (m 44 5) (ρ 0 1).toNat (m 44 4) (m 46))
theorem PkC.r32 {m ρ : Mem} (h : PkC m ρ) : R32 (m 44 5) := by
  unfold R32
  rcases h with h | ⟨h, -⟩ <;> omega
theorem s_anyOrder (H : RoomAt r) (hx : XRm m r ρ) (hb : RmB ρ) (hL : 1 ≤ L ∧ L ≤ 99) (hf : fitsAll ρ L) (hp : PkC m ρ) (hd : 11 ≤ d) : P_X4_anyOrder sc d [aR 44, aR r, aI L] m (fun v z => v = none ∧ Ex C_an m z ∧ z 44 5 = L ∧ Bst (ρ 3) L (ρ 0 1).toNat (z 44 4) (z 46)) := by
  have b0 := hb.1
  have hr := room_bd H
  by_cases c5 : m 44 5 = L
  · refine ep_X4_anyOrder (g_X4_anyOrder_0 H ⟨hp.r32, by first | omega | (unfold R32; omega), fun q => absurd c5 q, fun _ => ⟨rfl, Ex.refl _ _, c5, ?_⟩⟩)
    rcases hp with h | ⟨h, h2, h3⟩
    · omega
    · rw [c5] at h3; exact h3
  obtain ⟨S, hS⟩ := Int.eq_ofNat_of_zero_le (show 0 ≤ ρ 0 1 by omega)
  have hS2 : (ρ 0 1).toNat = S := by omega
  have tb := sumF_bd (f := ρ 3) (a := 1) (b := L) (n := S) (fun i hi => ⟨(hb.2.2.2.1 i (by omega)).1.1, hf i (by omega)⟩)
  have mb : L * S ≤ 99 * 10 := by
    have h1 : L * S ≤ 99 * (S : Int) := Int.mul_le_mul_of_nonneg_right hL.2 (by omega)
    omega
  have ye : Ex C_an m (wr m 44 5 L) := (Ex.refl C_an m).put (Or.inl ⟨rfl, Or.inr rfl⟩)
  have y5 : wr m 44 5 L 44 5 = L := wr_eq _ _ _ _
  have y8 : wr m 44 5 L r 8 = S := by rw [wr_na _ _ _ _ _ _ (by omega), hx.1.2.1, hS]
  have y7 : wr m 44 5 L (r + 7) (wr m 44 5 L r 8) = sumF (ρ 3) S := by rw [y8, wr_na _ _ _ _ _ _ (by omega)]; exact hx.2.2.2.1 S (by omega)
  refine ep_X4_anyOrder (g_X4_anyOrder_0 H ⟨hp.r32, by first | omega | (unfold R32; omega), fun _ => ?_, fun q => absurd c5 q⟩)
  rw [y7, y8]
  generalize wr m 44 5 L = y at ye y5 y7 y8 ⊢
  refine ⟨by omega, by omega, p_X4_anyOrder_30 (d2 := d - 1) H (s_max ⟨by omega, by omega⟩ ⟨by omega, by omega⟩) (by omega) ?_⟩
  rintro _ z ⟨e, rfl⟩; cases e
  rw [show (if 1 < L then L else 1) = L by split <;> omega]
  refine g_X4_anyOrder_33 H ⟨by first | omega | (unfold R32; omega), by first | omega | (unfold R32; omega), by omega, ?_⟩
  rw [Int.tdiv_eq_ediv_of_nonneg (by omega)]
  have c0 : 0 ≤ (sumF (ρ 3) S + L - 1) / L ∧ (sumF (ρ 3) S + L - 1) / L ≤ S ∧ (1 ≤ S → 1 ≤ (sumF (ρ 3) S + L - 1) / L) ∧ ∀ q : Int, q < (sumF (ρ 3) S + L - 1) / L → L * q < sumF (ρ 3) S := by
    refine ⟨Int.ediv_nonneg (by omega) (by omega), ?_, fun g => ?_, fun q hq => ?_⟩
    · have : (sumF (ρ 3) S + L - 1) / L < S + 1 := Int.ediv_lt_of_lt_mul (by omega) (by rw [Int.add_mul, Int.mul_comm]; omega)
      omega
    · exact (Int.le_ediv_iff_mul_le (by omega)).mpr (by omega)
    · have h1 : (q + 1) * L ≤ sumF (ρ 3) S + L - 1 := (Int.le_ediv_iff_mul_le (by omega)).mp (by omega)
      rw [Int.add_mul, Int.mul_comm q L] at h1
      omega
  generalize (sumF (ρ 3) S + L - 1) / L = c0v at c0 ⊢
  have no : ∀ q : Int, 0 ≤ q → q < c0v → ¬ Can (ρ 3) L q S 0 (fun _ => 0) := fun q q0 hq h => by
    have := Can.load (n := q.toNat) (by omega) S 0 _ (fun i hi => by have := (hb.2.2.2.1 i (by omega)).1; omega) (fun _ _ => ⟨Int.le_refl _, by omega⟩) h
    have z0 : ∀ n : Nat, sumF (fun _ => 0) n = 0 := fun n => by
      induction n with
      | zero => rfl
      | succ n ih => rw [sumF, ih]; rfl
    have l := c0.2.2.2 q hq
    rw [z0, Nat.zero_add, show ((q.toNat : Nat) : Int) = q by omega] at this
    have s0 : sumF (ρ 3) 0 = 0 := rfl
    omega
  have lo : ∀ (n i : Nat) (c : Int) (u : Mem), i + n = 10 → Ex C_an m u → u 44 5 = L → u 44 4 = c → (0 ≤ c ∧ c ≤ S) → (S : Int) + 1 ≤ c + n → (∀ q : Int, 0 ≤ q → q < c → ¬ Can (ρ 3) L q S 0 (fun _ => 0)) → S_X4_anyOrder sc d 39 [aR 44, aR r, aI L, aI i, aU] [] u (fun v z => v = none ∧ Ex C_an m z ∧ z 44 5 = L ∧ Bst (ρ 3) L (ρ 0 1).toNat (z 44 4) (z 46)) := by
    intro n
    induction n with
    | zero => intro i c u h1 h2 h3 h4 h5 h6 h7; omega
    | succ n ih =>
      intro i c u h1 h2 h3 h4 h5 h6 h7
      refine g_X4_anyOrder_39 H ⟨by first | omega | (unfold R32; omega), fun g => absurd g (by omega), fun _ => ?_⟩
      have cl : ∀ (p k : Nat) (x : Mem), k + p = 10 → Ex (fun a j => a = 47) u x → (∀ q : Nat, q < k → x 47 q = 0) → S_X4_anyOrder sc d 48 [aR 44, aR r, aI L, aI i, aI k] [] x (fun v z => v = none ∧ Ex C_an m z ∧ z 44 5 = L ∧ Bst (ρ 3) L (ρ 0 1).toNat (z 44 4) (z 46)) := by
        intro p
        induction p with
        | zero =>
          intro k x hk xe xz
          refine g_X4_anyOrder_48 H ⟨by first | omega | (unfold R32; omega), fun _ => ?_, fun g => absurd (by omega) g⟩
          have x4 : x 44 4 = c := (xe 44 4 (by decide)).trans h4
          have ax : Ex C_an m x := h2.trans (xe.mono (fun a j q => by unfold C_an; omega))
          refine p_X4_anyOrder_73 (d2 := d - 1) H H (s_X4_packs (c := c) H hb ⟨by omega, by omega⟩ ⟨by omega, by omega⟩ S 0 (d - 1) x (by omega) (by omega) (hx.ex ax (fun a j q1 q2 => by unfold C_an; omega)) x4 (fun i hi => by rw [xz i (by omega)]; omega)) (by omega) ?_
          rintro _ t ⟨te, -, ⟨e, tc, tf⟩ | ⟨e, tc, t47⟩⟩ <;> cases e
          · have t4 : t 44 4 = c := (te 44 4 (by unfold C_fx; omega)).trans x4
            have t5 : t 44 5 = L := (te 44 5 (by unfold C_fx; omega)).trans ((xe 44 5 (by decide)).trans h3)
            refine g_X4_anyOrder_76 H ⟨by first | omega | (unfold R32; omega), fun g => absurd g (by decide), fun _ => ⟨rfl, ax.trans (te.mono (fun a j q => by unfold C_fx at q; unfold C_an; omega)), t5, ?_⟩⟩
            rw [hS2, t4]
            exact ⟨h5, Can.congr _ _ _ _ (fun k hk => xz k (by omega)) tc, h7, Fst.congr _ _ _ _ _ _ (fun k hk => xz k (by omega)) (fun _ _ _ => rfl) tf⟩
          · have t4 : t 44 4 = c := (te 44 4 (by unfold C_fx; omega)).trans x4
            have t5 : t 44 5 = L := (te 44 5 (by unfold C_fx; omega)).trans ((xe 44 5 (by decide)).trans h3)
            have nc : ¬ Can (ρ 3) L c S 0 (fun _ => 0) := fun w => tc (Can.congr _ _ _ _ (fun k hk => (xz k (by omega)).symm) w)
            have lt : c < S := by
              by_cases g : c < S
              · exact g
              · exact absurd (Can.all S 0 (fun _ => 0) (by omega) (fun i hi => hf i (by omega)) (fun _ _ _ => rfl)) nc
            refine g_X4_anyOrder_76 H ⟨by first | omega | (unfold R32; omega), fun _ => ?_, fun g => absurd rfl g⟩
            rw [t4]
            exact ih (i + 1) (c + 1) _ (by omega) ((ax.trans (te.mono (fun a j q => by unfold C_fx at q; unfold C_an; omega))).put (Or.inl ⟨rfl, Or.inl rfl⟩)) (by rw [wr_ne _ _ _ _ _ _ (by omega)]; exact t5) (wr_eq _ _ _ _) (by omega) (by omega) (fun q q0 q1 => by
              by_cases g : q = c
              · rw [g]; exact nc
              · exact h7 q q0 (by omega))
        | succ p ihp =>
          intro k x hk xe xz
          refine g_X4_anyOrder_48 H ⟨by first | omega | (unfold R32; omega), fun g => absurd g (by omega), fun _ => ⟨by omega, by omega, ?_⟩⟩
          refine ihp (k + 1) _ (by omega) (xe.put rfl) (fun q hq => ?_)
          by_cases e : q = k
          · rw [e]; exact wr_eq _ _ _ _
          · rw [wr_ne _ _ _ _ _ _ (by omega)]; exact xz q (by omega)
      exact cl 10 0 u (by omega) (Ex.refl _ _) (fun q hq => by omega)
  exact lo 10 0 c0v _ (by omega) (ye.put (Or.inl ⟨rfl, Or.inl rfl⟩)) (by rw [wr_ne _ _ _ _ _ _ (by omega)]; exact y5) (wr_eq _ _ _ _) ⟨c0.1, c0.2.1⟩ (by have := c0.2.2.1; omega) no
end FX
