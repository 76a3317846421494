/-! rules: whether a sewer changes -/
section RW
variable {sc : List Int} {d : Nat} {m : Mem} {Q : Option AV → Mem → Prop} {r : Int} {ρ : Mem}
def rlN (ρ : Mem) (k : Nat) : Nat := (ρ 10 (k + 1) - ρ 10 k).toNat
def rlC (ρ : Mem) (k : Nat) : Int → Int := fun j => ρ 9 (ρ 10 k + j)
def rulF (ρ : Mem) (k s : Nat) (u : Int) : Int := (evF (ptA ρ s u 0 0 0) (ydF ρ) (rlC ρ k) (rlN ρ k)).headD 0
theorem rul_val {k s : Nat} {u : Int} (hb : RmB ρ) (hr : RlB ρ) (hk : (k : Int) < ρ 0 2) (hs : (s : Int) < ρ 0 1) (hu : 0 ≤ u ∧ u ≤ 999) : evF (ptA ρ s u 0 0 0) (ydF ρ) (rlC ρ k) (rlN ρ k) = [rulF ρ k s u] ∧ (rulF ρ k s u = 0 ∨ rulF ρ k s u = 1) := by
  have ty := (hr.2 k hk).2.2
  have w := evF_ty (pt := ptA ρ s u 0 0 0) (yd := ydF ρ) (f := rlC ρ k) (rl := true) (fun i _ => ptA_bd hb hs hu ⟨by decide, by decide⟩ (Or.inl rfl) (Or.inl rfl) i) (fun v => by have := ydF_bd hb v; omega) (rlN ρ k) [true] ty
  unfold rulF
  match hE : evF (ptA ρ s u 0 0 0) (ydF ρ) (rlC ρ k) (rlN ρ k), w with
  | [y], w => exact ⟨rfl, w.1.2 rfl⟩
/-- whether a sewer who neither looks nor goes by chance changes -/
def chgF (ρ : Mem) (w : Int) (s : Nat) (u : Int) : Int := if w = 1 then (if u + ρ 3 s ≤ minF (ρ 1) (ρ 0 0).toNat then 0 else 1) else if 4 ≤ w then rulF ρ (w - 4).toNat s u else 0
theorem chgF_01 {w u : Int} {s : Nat} (hb : RmB ρ) (hr : RlB ρ) (hw : w < 4 + ρ 0 2) (hs : (s : Int) < ρ 0 1) (hu : 0 ≤ u ∧ u ≤ 999) : chgF ρ w s u = 0 ∨ chgF ρ w s u = 1 := by
  unfold chgF
  split
  · split <;> omega
  · split
    · exact (rul_val hb hr (by omega) hs hu).2
    · exact Or.inl rfl
theorem rl_mono (hr : RlB ρ) : ∀ n : Nat, (n : Int) ≤ ρ 0 2 → ∀ k : Nat, k ≤ n → ρ 10 k ≤ ρ 10 n := by
  intro n
  induction n with
  | zero => intro _ k hk; rw [show k = 0 by omega]; exact Int.le_refl _
  | succ n ih =>
    intro hn k hk
    by_cases e : k = n + 1
    · rw [e]; exact Int.le_refl _
    · have h1 := ih (by omega) k (by omega)
      have h2 := (hr.2 n (by omega)).1
      have e2 : ρ 10 ((n + 1 : Nat) : Int) = ρ 10 ((n : Int) + 1) := rfl
      omega
theorem rl_ge (hr : RlB ρ) (k : Nat) (hk : (k : Int) ≤ ρ 0 2) : 0 ≤ ρ 10 k := by
  have := rl_mono hr k hk 0 (by omega)
  have e : ρ 10 ((0 : Nat) : Int) = 0 := hr.1
  omega
/-- what the class's wants changes -/
def C_wx (r a : Int) : Prop := a = r + 14 ∨ a = r + 10
theorem ic_r14 (H : RoomAt r) : IsC (r + 14) 100 ∧ alen (r + 14) = 10 ∧ FormAt (r + 8) := by
  rcases H with rfl | rfl
  · exact ⟨ic_16, by decide +kernel, Or.inl rfl⟩
  · exact ⟨ic_31, by decide +kernel, Or.inr (Or.inl rfl)⟩
theorem s_wants {w u : Int} {s : Nat} (H : RoomAt r) (h : XRm m r ρ) (hb : RmB ρ) (hr : RlB ρ) (hl : XRl m r ρ) (hd : 3 ≤ d) (hs : (s : Int) < ρ 0 1) (hw : 0 ≤ w ∧ w < 4 + ρ 0 2) (h23 : w ≠ 2 ∧ w ≠ 3) (hu : 1 ≤ u ∧ u ≤ 999) : P_X6_wants sc d [aR r, aI w, aI s, aI u] m (fun v z => Ex (fun a _ => C_wx r a) m z ∧ v = some (aI (chgF ρ w s u))) := by
  have b0 := hb.1
  have hrb := room_bd H
  obtain ⟨i14, a14, HF⟩ := ic_r14 H
  have e8 := h.1.2.1
  have e11 := h.1.2.2.1
  have t := hb.2.2.2.1 s hs
  have e3 := (h.2.2.1 s hs).1
  have e4 := (h.2.2.1 s hs).2.1
  have e7 : m (r + 7) s = sumF (ρ 3) s := h.2.2.2.1 s (by omega)
  have e7' : m (r + 7) (ρ 0 1) = sumF (ρ 3) (ρ 0 1).toNat := by
    have := h.2.2.2.1 (ρ 0 1).toNat (by omega)
    rw [show (((ρ 0 1).toNat : Nat) : Int) = ρ 0 1 by omega] at this
    exact this
  have l1 := minF_bd (f := ρ 1) (n := (ρ 0 0).toNat) (fun i hi => (hb.2.2.1 i (by omega)).1.1)
  refine ep_X6_wants (g_X6_wants_0 H ⟨by first | omega | (unfold R32; omega), fun c => by omega, fun _ => ⟨by first | omega | (unfold R32; omega), fun c => by omega, fun _ => ⟨by first | omega | (unfold R32; omega), fun _ => ⟨by first | omega | (unfold R32; omega), fun c1 => ⟨by first | omega | (unfold R32; omega), fun c2 => ⟨Ex.refl _ _, ?_⟩, fun c2 => ⟨by first | omega | (unfold R32; omega), fun c3 => ?_, fun c3 => absurd (by omega) c3⟩⟩, fun c1 => ⟨by omega, by omega, ?_⟩⟩, fun c => absurd (by omega) c⟩⟩⟩)
  · show some (aI 0) = _
    unfold chgF
    rw [if_neg c1, if_neg (by omega)]
  · have k0 : ∀ k : Nat, k = (w - 4).toNat → ((k : Nat) : Int) = w - 4 := fun k e => by omega
    obtain ⟨k, hk⟩ : ∃ k : Nat, k = (w - 4).toNat := ⟨_, rfl⟩
    have hkw := k0 k hk
    have hk2 : (k : Int) < ρ 0 2 := by omega
    -- the parts
    have o3 : wr (wr (wr m (r + 14) 0 (m (r + 3) s)) (r + 14) 1 (wr m (r + 14) 0 (m (r + 3) s) (r + 4) s)) (r + 14) 2 u r 8 = ρ 0 1 := by
      rw [wr_na _ _ _ _ _ _ (by omega), wr_na _ _ _ _ _ _ (by omega), wr_na _ _ _ _ _ _ (by omega)]; exact e8
    have o7 : ∀ j, wr (wr (wr m (r + 14) 0 (m (r + 3) s)) (r + 14) 1 (wr m (r + 14) 0 (m (r + 3) s) (r + 4) s)) (r + 14) 2 u (r + 7) j = m (r + 7) j := fun j => by
      rw [wr_na _ _ _ _ _ _ (by omega), wr_na _ _ _ _ _ _ (by omega), wr_na _ _ _ _ _ _ (by omega)]
    rw [o3, o7, o7, e7', e7, show wr m (r + 14) 0 (m (r + 3) s) (r + 4) s = ρ 4 s from (wr_na _ _ _ _ _ _ (by omega)).trans e4, e3]
    refine ⟨by omega, by omega, by omega, by omega, by omega, ?_⟩
    have yx : Ex (fun a _ => a = r + 14) m (wr (wr (wr (wr (wr m (r + 14) 0 (ρ 3 s)) (r + 14) 1 (ρ 4 s)) (r + 14) 2 u) (r + 14) 3 (sumF (ρ 3) (ρ 0 1).toNat - sumF (ρ 3) s)) (r + 14) 4 s) := (((((Ex.refl (fun a _ => a = r + 14) m).put rfl).put rfl).put rfl).put rfl).put rfl
    have y0 : wr (wr (wr (wr (wr m (r + 14) 0 (ρ 3 s)) (r + 14) 1 (ρ 4 s)) (r + 14) 2 u) (r + 14) 3 (sumF (ρ 3) (ρ 0 1).toNat - sumF (ρ 3) s)) (r + 14) 4 s (r + 14) 0 = ρ 3 s := by
      rw [wr_ne _ _ _ _ _ _ (by omega), wr_ne _ _ _ _ _ _ (by omega), wr_ne _ _ _ _ _ _ (by omega), wr_ne _ _ _ _ _ _ (by omega), wr_eq]
    have y1 : wr (wr (wr (wr (wr m (r + 14) 0 (ρ 3 s)) (r + 14) 1 (ρ 4 s)) (r + 14) 2 u) (r + 14) 3 (sumF (ρ 3) (ρ 0 1).toNat - sumF (ρ 3) s)) (r + 14) 4 s (r + 14) 1 = ρ 4 s := by
      rw [wr_ne _ _ _ _ _ _ (by omega), wr_ne _ _ _ _ _ _ (by omega), wr_ne _ _ _ _ _ _ (by omega), wr_eq]
    have y2 : wr (wr (wr (wr (wr m (r + 14) 0 (ρ 3 s)) (r + 14) 1 (ρ 4 s)) (r + 14) 2 u) (r + 14) 3 (sumF (ρ 3) (ρ 0 1).toNat - sumF (ρ 3) s)) (r + 14) 4 s (r + 14) 2 = u := by
      rw [wr_ne _ _ _ _ _ _ (by omega), wr_ne _ _ _ _ _ _ (by omega), wr_eq]
    have y3 : wr (wr (wr (wr (wr m (r + 14) 0 (ρ 3 s)) (r + 14) 1 (ρ 4 s)) (r + 14) 2 u) (r + 14) 3 (sumF (ρ 3) (ρ 0 1).toNat - sumF (ρ 3) s)) (r + 14) 4 s (r + 14) 3 = restF ρ s := by
      rw [wr_ne _ _ _ _ _ _ (by omega), wr_eq]; rfl
    have y4 : wr (wr (wr (wr (wr m (r + 14) 0 (ρ 3 s)) (r + 14) 1 (ρ 4 s)) (r + 14) 2 u) (r + 14) 3 (sumF (ρ 3) (ρ 0 1).toNat - sumF (ρ 3) s)) (r + 14) 4 s (r + 14) 4 = s := wr_eq _ _ _ _
    generalize wr (wr (wr (wr (wr m (r + 14) 0 (ρ 3 s)) (r + 14) 1 (ρ 4 s)) (r + 14) 2 u) (r + 14) 3 (sumF (ρ 3) (ρ 0 1).toNat - sumF (ρ 3) s)) (r + 14) 4 s = y at yx y0 y1 y2 y3 y4 ⊢
    have hy : XRm y r ρ := h.ex yx (fun a j q1 q2 => by omega)
    refine p_X6_wants_131 (d2 := d - 1) H i14 H (s_X6_leastLength H hy hb (by omega)) (by omega) ?_
    rintro _ y' ⟨e, rfl⟩; cases e
    refine g_X6_wants_134 H i14 ⟨by omega, by rw [a14]; omega, ?_⟩
    have ux : Ex (fun a _ => a = r + 14) m (wr y' (r + 14) 5 (minF (ρ 1) (ρ 0 0).toNat)) := yx.put rfl
    have uk : ∀ j, j ≠ 5 → wr y' (r + 14) 5 (minF (ρ 1) (ρ 0 0).toNat) (r + 14) j = y' (r + 14) j := fun j hj => wr_ne _ _ _ _ _ _ (by omega)
    have u5 : wr y' (r + 14) 5 (minF (ρ 1) (ρ 0 0).toNat) (r + 14) 5 = minF (ρ 1) (ρ 0 0).toNat := wr_eq _ _ _ _
    generalize wr y' (r + 14) 5 (minF (ρ 1) (ρ 0 0).toNat) = x1 at ux uk u5 ⊢
    have hx1 : XRm x1 r ρ := h.ex ux (fun a j q1 q2 => by omega)
    refine p_X6_wants_142 (d2 := d - 1) H i14 H (s_X6_greatestLength H hx1 hb (by omega)) (by omega) ?_
    rintro _ x2 ⟨e, rfl⟩; cases e
    refine g_X6_wants_145 H i14 ⟨by omega, by rw [a14]; omega, by omega, by omega, by omega, by omega, ?_⟩
    have wx : Ex (fun a _ => a = r + 14) m (wr x2 (r + 14) 6 (maxF (ρ 1) (ρ 0 0).toNat)) := ux.put rfl
    have wk : ∀ j, j ≠ 6 → wr x2 (r + 14) 6 (maxF (ρ 1) (ρ 0 0).toNat) (r + 14) j = x2 (r + 14) j := fun j hj => wr_ne _ _ _ _ _ _ (by omega)
    have w6 : wr x2 (r + 14) 6 (maxF (ρ 1) (ρ 0 0).toNat) (r + 14) 6 = maxF (ρ 1) (ρ 0 0).toNat := wr_eq _ _ _ _
    generalize wr x2 (r + 14) 6 (maxF (ρ 1) (ρ 0 0).toNat) = z at wx wk w6 ⊢
    have t1 : z (r + 11) (w - 4) = ρ 10 k := by rw [wx _ _ (by omega), ← hkw]; exact hl.1 k (by omega)
    have t2 : z (r + 11) (w - 4 + 1) = ρ 10 (k + 1) := by rw [wx _ _ (by omega), ← hkw]; exact hl.1 (k + 1) (by omega)
    rw [t1, t2]
    obtain ⟨m1, m2, ty⟩ := hr.2 k hk2
    have g0 := rl_ge hr k (by omega)
    have gn : ρ 10 ((k : Int) + 1) ≤ ρ 10 (ρ 0 2) := by
      have := rl_mono hr (ρ 0 2).toNat (by omega) (k + 1) (by omega)
      rw [show (((ρ 0 2).toNat : Nat) : Int) = ρ 0 2 by omega] at this
      exact this
    refine p_X6_wants_171 (d2 := d - 1) H HF i14 H (s_worth (rl := true) (b := true) (pt := ptA ρ s u 0 0 0) (code := rlC ρ k) (n := rlN ρ k) HF i14 H (h.ex wx (fun a j q1 q2 => by omega)) hb a14 (by omega) (by omega) (fun q => q.2.2 (by omega)) g0 (by unfold rlN; omega) m2 (fun j hj => ?_) ty (fun i hi => ?_) (fun i _ => ptA_bd hb hs ⟨by omega, by omega⟩ ⟨by decide, by decide⟩ (Or.inl rfl) (Or.inl rfl) i)) (by omega) ?_
    · rw [show r + 8 + 1 = r + 9 by omega, wx _ _ (by omega)]
      have := hl.2 (ρ 10 k + j).toNat (by unfold rlN at hj; omega)
      rw [show (((ρ 10 k + j).toNat : Nat) : Int) = ρ 10 k + j by omega] at this
      exact this
    · obtain ⟨q1, q2, q3⟩ := hi
      have q4 : i ≤ 6 := by rcases q3 with ⟨-, g⟩ | ⟨g, -⟩; exact g; exact absurd g (by decide)
      rcases (by omega : i = 0 ∨ i = 1 ∨ i = 2 ∨ i = 3 ∨ i = 4 ∨ i = 5 ∨ i = 6) with rfl | rfl | rfl | rfl | rfl | rfl | rfl
      · show z (r + 14) 0 = ρ 3 s; rw [wk 0 (by decide), uk 0 (by decide), y0]
      · show z (r + 14) 1 = ρ 4 s; rw [wk 1 (by decide), uk 1 (by decide), y1]
      · show z (r + 14) 2 = u; rw [wk 2 (by decide), uk 2 (by decide), y2]
      · show z (r + 14) 4 = s; rw [wk 4 (by decide), uk 4 (by decide), y4]
      · show z (r + 14) 3 = restF ρ s; rw [wk 3 (by decide), uk 3 (by decide), y3]
      · show z (r + 14) 5 = minF (ρ 1) (ρ 0 0).toNat; rw [wk 5 (by decide), u5]
      · exact w6
    · rintro y z2 ⟨zx, y2, e, hy2⟩; cases e
      obtain ⟨v1, v2⟩ := rul_val hb hr hk2 hs ⟨by omega, hu.2⟩
      rw [v1] at hy2
      obtain rfl : rulF ρ k s u = y := by injection hy2
      refine g_X6_wants_174 H ⟨by first | omega | (unfold R32; omega), (wx.mono (fun a j q => Or.inl q)).trans (zx.mono (fun a j q => Or.inr (by omega))), ?_⟩
      unfold chgF
      rw [if_neg c1, if_pos (show 4 ≤ w by omega), ← hk]
      rcases v2 with e | e <;> rw [e] <;> rfl
  · rw [e3]
    refine p_X6_wants_32 (d2 := d - 1) H H (s_X6_leastLength H h hb (by omega)) (by omega) ?_
    rintro _ z ⟨e, rfl⟩; cases e
    refine g_X6_wants_35 H ⟨by first | omega | (unfold R32; omega), by first | omega | (unfold R32; omega), Ex.refl _ _, ?_⟩
    unfold chgF
    rw [if_pos (Classical.not_not.mp c1)]
/-- what the reference's isTold changes -/
def C_it (a j : Int) : Prop := a = 150 ∨ (a = 62 ∧ (j = 55 ∨ j = 56 ∨ j = 118))
theorem s_isTold {u : Int} {k s : Nat} (h : MRm m ρ) (hb : RmB ρ) (hr : RlB ρ) (hl : MRl m ρ) (hn : 1 ≤ ρ 0 0) (hd : 3 ≤ d) (hs : (s : Int) < ρ 0 1) (hk : (k : Int) < ρ 0 2) (hu : 1 ≤ u ∧ u ≤ 999) : P_X8_isTold sc d [aR 62, aI k, aI s, aI u] m (fun v z => Ex C_it m z ∧ v = some (aI (rulF ρ k s u))) := by
  have b0 := hb.1
  obtain ⟨m1, m2, ty⟩ := hr.2 k hk
  have g0 := rl_ge hr k (by omega)
  have gn : ρ 10 ((k : Int) + 1) ≤ ρ 10 (ρ 0 2) := by
    have := rl_mono hr (ρ 0 2).toNat (by omega) (k + 1) (by omega)
    rw [show (((ρ 0 2).toNat : Nat) : Int) = ρ 0 2 by omega] at this
    exact this
  have hpb : ∀ i, alw true i → -1000000 ≤ ptA ρ s u 0 0 0 i ∧ ptA ρ s u 0 0 0 i ≤ 1000000 := fun i _ => ptA_bd hb hs ⟨by omega, hu.2⟩ ⟨by decide, by decide⟩ (Or.inl rfl) (Or.inl rfl) i
  have hy : ∀ v, -1000000 ≤ ydF ρ v ∧ ydF ρ v ≤ 1000000 := fun v => by have := ydF_bd hb v; omega
  have f1 := (hl.1 k hk).1
  have f2 := (hl.1 k hk).2
  have zx : Ex C_it m (wr (wr (wr m 62 55 s) 62 56 u) 62 118 0) := (((Ex.refl C_it m).put (Or.inr ⟨rfl, by omega⟩)).put (Or.inr ⟨rfl, by omega⟩)).put (Or.inr ⟨rfl, by omega⟩)
  have z5 : wr (wr (wr m 62 55 s) 62 56 u) 62 118 0 62 55 = s := by rw [wr_ne _ _ _ _ _ _ (by omega), wr_ne _ _ _ _ _ _ (by omega), wr_eq]
  have z6 : wr (wr (wr m 62 55 s) 62 56 u) 62 118 0 62 56 = u := by rw [wr_ne _ _ _ _ _ _ (by omega), wr_eq]
  have zp : PlM (wr (wr (wr m 62 55 s) 62 56 u) 62 118 0) [] := ⟨wr_eq _ _ _ _, trivial⟩
  refine ep_X8_isTold (g_X8_isTold_0 ⟨by omega, by omega, ?_⟩)
  generalize wr (wr (wr m 62 55 s) 62 56 u) 62 118 0 = z at zx z5 z6 zp ⊢
  rw [zx 101 _ (by unfold C_it; omega), f1]
  have main : ∀ (j i : Nat) (y : Mem), i + j = rlN ρ k → Ex C_q z y → PlM y (evF (ptA ρ s u 0 0 0) (ydF ρ) (rlC ρ k) i) → S_X8_isTold sc d 25 [aR 62, aI k, aI s, aU, aI (ρ 10 k + i), aU] [] y (fun v z => Ex C_it m z ∧ v = some (aI (rulF ρ k s u))) := by
    intro j
    induction j with
    | zero =>
      intro i y hi he hp
      have a1 : Ex C_it m y := zx.trans (he.mono (fun a j q => by unfold C_q at q; unfold C_it; omega))
      obtain rfl : i = rlN ρ k := by omega
      obtain ⟨v1, v2⟩ := rul_val hb hr hk hs ⟨by omega, hu.2⟩
      rw [v1] at hp
      have p0 : y 150 0 = rulF ρ k s u := hp.2.1
      refine g_X8_isTold_25 ⟨by omega, by omega, by unfold rlN; omega, by rw [a1 102 _ (by unfold C_it; omega), f2]; first | omega | (unfold R32; omega), fun _ => ⟨by rw [p0]; first | omega | (unfold R64; omega), a1, ?_⟩, fun c => absurd (by rw [a1 102 _ (by unfold C_it; omega), f2]; unfold rlN; omega) c⟩
      rw [p0]
      rcases v2 with e | e <;> rw [e] <;> rfl
    | succ j ih =>
      intro i y hi he hp
      have a1 : Ex C_it m y := zx.trans (he.mono (fun a j q => by unfold C_q at q; unfold C_it; omega))
      have ym : MRm y ρ := h.ex a1 (fun a j q c => by unfold C_it at c; omega)
      have yc : y 103 (1600 + (ρ 10 k + i)) = rlC ρ k i := by
        rw [a1 103 _ (by unfold C_it; omega)]
        have := hl.2 (ρ 10 k + i).toNat (by unfold rlN at hi; omega)
        rw [show (((ρ 10 k + i).toNat : Nat) : Int) = ρ 10 k + i by omega] at this
        exact this
      have s1 := tyF_pre (f := rlC ρ k) (rlN ρ k) (i + 1) (by omega) (by unfold rlN rlC; rw [ty]; rfl)
      have s0 := tyF_pre (f := rlC ρ k) (rlN ρ k) i (by omega) (by unfold rlN rlC; rw [ty]; rfl)
      obtain ⟨st, hst0⟩ := Option.isSome_iff_exists.mp s0
      obtain ⟨st', hst1⟩ := Option.isSome_iff_exists.mp s1
      have tS : tyS true (rlC ρ k i) st = some st' := by
        unfold tyF at hst1
        rw [hst0] at hst1
        exact hst1
      have tyk := evF_ty (f := rlC ρ k) hpb hy i _ hst0
      have len := tyk.len
      obtain ⟨h64, cs⟩ := tyS_cases tS
      have y5 : y 62 55 = s := (he 62 55 (by unfold C_q; omega)).trans z5
      have y6 : y 62 56 = u := (he 62 56 (by unfold C_q; omega)).trans z6
      have eS : evF (ptA ρ s u 0 0 0) (ydF ρ) (rlC ρ k) (i + 1) = evS (ptA ρ s u 0 0 0) (ydF ρ) (rlC ρ k i) (evF (ptA ρ s u 0 0 0) (ydF ρ) (rlC ρ k) i) := rfl
      have nx : ∀ y' : Mem, Ex C_q y y' → PlM y' (evS (ptA ρ s u 0 0 0) (ydF ρ) (rlC ρ k i) (evF (ptA ρ s u 0 0 0) (ydF ρ) (rlC ρ k) i)) → S_X8_isTold sc d 152 [aR 62, aI k, aI s, aU, aI (ρ 10 k + i), aU] [] y' (fun v z => Ex C_it m z ∧ v = some (aI (rulF ρ k s u))) := fun y' e1 p1 => by
        refine g_X8_isTold_152 ?_
        have w := ih (i + 1) y' (by omega) (he.trans e1) (by rw [eS]; exact p1)
        rw [show ρ 10 k + ((i + 1 : Nat) : Int) = ρ 10 k + (i : Int) + 1 by omega] at w
        exact w
      generalize evF (ptA ρ s u 0 0 0) (ydF ρ) (rlC ρ k) i = l at hp tyk len nx
      refine g_X8_isTold_25 ⟨by omega, by omega, by unfold rlN at hi; omega, by rw [a1 102 _ (by unfold C_it; omega), f2]; first | omega | (unfold R32; omega), fun c => absurd c (by rw [a1 102 _ (by unfold C_it; omega), f2]; unfold rlN at hi; omega), fun _ => ?_⟩
      rw [yc]
      have cb : R32 (rlC ρ k i) := by
        unfold R32
        rcases cs with ⟨q1, q2, -⟩ | ⟨q, -⟩ | ⟨q, -⟩ | ⟨q, -⟩ | ⟨q, -⟩ | ⟨q1, q2, -⟩ | ⟨q1, q2, -⟩ | ⟨q, -⟩
        · omega
        · have := q.1; have := q.2.1; omega
        all_goals omega
      refine ⟨by unfold rlN at hi; omega, by unfold rlN at hi; omega, cb, fun c1 => ⟨fun c2 => ⟨fun c3 => ⟨fun c4 => ?_, fun c4 => ?_⟩, fun c3 => ?_⟩, fun c2 => ?_⟩, fun c1 => ⟨by unfold R32 at cb; omega, ?_⟩⟩
      · have two : ∃ b2 s2, st = b2 :: b2 :: s2 ∧ 1 ≤ rlC ρ k i ∧ rlC ρ k i ≤ 11 := by
          rcases cs with ⟨q1, q2, -⟩ | ⟨q, -⟩ | ⟨q, -⟩ | ⟨q, q2, -⟩ | ⟨q, -⟩ | ⟨q1, q2, s2, e, -⟩ | ⟨q1, q2, s2, e, -⟩ | ⟨q, s2, e, -⟩
          · omega
          · have := q.1; omega
          · omega
          · exact absurd q2 (by decide)
          · omega
          · exact ⟨_, _, e, by omega, by omega⟩
          · exact ⟨_, _, e, by omega, by omega⟩
          · exact ⟨_, _, e, by omega, by omega⟩
        obtain ⟨b2, s2, rfl, k1, k2⟩ := two
        match l, tyk with
        | v :: u' :: l, tyk =>
          have ev : evS (ptA ρ s u 0 0 0) (ydF ρ) (rlC ρ k i) (v :: u' :: l) = jnF (rlC ρ k i) u' v :: l := by
            unfold evS
            rw [if_neg (by omega), if_neg (by omega), if_neg (by omega)]
            show (if rlC ρ k i = 60 then _ else if rlC ρ k i = 12 then _ else jnF (rlC ρ k i) u' v :: l) = _
            rw [if_neg (by omega), if_neg (by omega)]
          rw [ev] at nx
          exact p_X8_isTold_149 (d2 := d - 1) (s_qJoins hp (by simp at len h64; omega) (by omega) ⟨k1, k2⟩ tyk.2.1.1 tyk.1.1) (by omega) (fun z2 q => nx z2 q.2.1 q.2.2)
      · have e12 : rlC ρ k i = 12 := Classical.not_not.mp c4
        have one : ∃ s1, st = true :: s1 := by
          rcases cs with ⟨q1, q2, -⟩ | ⟨q, -⟩ | ⟨q, -⟩ | ⟨q, q2, -⟩ | ⟨q, s1, e, -⟩ | ⟨q1, q2, s2, e, -⟩ | ⟨q1, q2, s2, e, -⟩ | ⟨q, s2, e, -⟩
          · omega
          · have := q.1; omega
          · omega
          · omega
          · exact ⟨_, e⟩
          all_goals omega
        obtain ⟨s1', rfl⟩ := one
        match l, tyk with
        | v :: l, tyk =>
          have ev : evS (ptA ρ s u 0 0 0) (ydF ρ) (rlC ρ k i) (v :: l) = (1 - v) :: l := by rw [e12]; rfl
          rw [ev] at nx
          have e1 : y 62 118 - 1 = (l.length : Nat) := by rw [hp.1]; simp
          rw [e1]
          have v0 : y 150 (l.length : Nat) = v := hp.2.1
          refine ⟨by omega, by simp at len h64; omega, nx _ ((Ex.refl C_q y).put (Or.inl rfl)) ⟨?_, ?_, ?_⟩⟩
          · rw [wr_na _ _ _ _ _ _ (by decide), hp.1]; simp
          · rw [wr_eq, v0]
          · exact hp.2.2.congr (fun i hi => wr_ne _ _ _ _ _ _ (by omega))
      · have e13 : rlC ρ k i = 13 := Classical.not_not.mp c3
        have ev : evS (ptA ρ s u 0 0 0) (ydF ρ) (rlC ρ k i) l = 1 :: l := by rw [e13]; rfl
        rw [ev] at nx
        exact p_X8_isTold_106 (d2 := d - 1) (s_qPuts hp (by omega)) (by omega) (fun z2 q => g_X8_isTold_109 (nx z2 q.2.1 q.2.2))
      · have al : alw true (rlC ρ k i - 40) := by
          rcases cs with ⟨q1, q2, -⟩ | ⟨q, -⟩ | ⟨q, -⟩ | ⟨q, q2, -⟩ | ⟨q, s1, e, -⟩ | ⟨q1, q2, s2, e, -⟩ | ⟨q1, q2, s2, e, -⟩ | ⟨q, s2, e, -⟩
          · omega
          · exact q
          · omega
          · exact absurd q2 (by decide)
          all_goals omega
        have ev : evS (ptA ρ s u 0 0 0) (ydF ρ) (rlC ρ k i) l = ptA ρ s u 0 0 0 (rlC ρ k i - 40) :: l := by
          unfold evS
          rw [if_neg (by omega), if_pos ⟨by omega, by have := al.2.1; omega⟩]
        rw [ev] at nx
        refine p_X8_isTold_88 (d2 := d - 1) (s_qPartOf (rl := true) (L := 0) (ch := 0) (me := 0) ym hb hs (by omega) al y5 y6 ⟨by omega, hu.2⟩ (fun _ => hn) (fun z => by cases z)) (by omega) ?_
        rintro _ y' ⟨rfl, rfl⟩
        refine ⟨_, rfl, g_X8_isTold_91 (p_X8_isTold_91 (d2 := d - 1) (s_qPuts hp (by omega)) (by omega) (fun z2 q => g_X8_isTold_94 (nx z2 q.2.1 q.2.2)))⟩
      · have ev : evS (ptA ρ s u 0 0 0) (ydF ρ) (rlC ρ k i) l = (rlC ρ k i - 1000) :: l := by
          unfold evS
          rw [if_pos (by omega)]
        rw [ev] at nx
        exact p_X8_isTold_67 (d2 := d - 1) (s_qPuts hp (by omega)) (by omega) (fun z2 q => g_X8_isTold_70 (nx z2 q.2.1 q.2.2))
  have w := main (rlN ρ k) 0 z (by omega) (Ex.refl _ _) zp
  rw [show ρ 10 k + ((0 : Nat) : Int) = ρ 10 k by omega] at w
  exact w
theorem s_isChange {w u : Int} {s : Nat} (h : MRm m ρ) (hb : RmB ρ) (hr : RlB ρ) (hl : MRl m ρ) (hn : 1 ≤ ρ 0 0) (hd : 4 ≤ d) (hs : (s : Int) < ρ 0 1) (hw : 0 ≤ w ∧ w < 4 + ρ 0 2) (hu : 1 ≤ u ∧ u ≤ 999) : P_X8_isChange sc d [aR 62, aI w, aI s, aI u] m (fun v z => Ex C_it m z ∧ v = some (aI (chgF ρ w s u))) := by
  have b0 := hb.1
  have t := hb.2.2.2.1 s hs
  have l1 := minF_bd (f := ρ 1) (n := (ρ 0 0).toNat) (fun i hi => (hb.2.2.1 i (by omega)).1.1)
  refine ep_X8_isChange (g_X8_isChange_0 ⟨by first | omega | (unfold R32; omega), fun c => ⟨fun c2 => ⟨Ex.refl _ _, ?_⟩, fun c2 => ?_⟩, fun c => ?_⟩)
  · unfold chgF; rw [if_neg c, if_neg (by omega)]
  · obtain ⟨k, hk⟩ : ∃ k : Nat, k = (w - 4).toNat := ⟨_, rfl⟩
    rw [show w - 4 = (k : Int) by omega]
    refine p_X8_isChange_38 (d2 := d - 1) (s_isTold h hb hr hl hn (by omega) hs (by omega) hu) (by omega) ?_
    rintro _ z ⟨zx, e⟩; cases e
    obtain ⟨-, v2⟩ := rul_val hb hr (k := k) (by omega) hs ⟨by omega, hu.2⟩
    refine g_X8_isChange_41 ⟨by first | omega | (unfold R32; omega), zx, ?_⟩
    unfold chgF
    rw [if_neg c, if_pos (show 4 ≤ w by omega), ← hk]
    rcases v2 with e | e <;> rw [e] <;> rfl
  · refine p_X8_isChange_8 (d2 := d - 1) (s_takesOf h hb hs) (by omega) ?_
    rintro _ z ⟨e, rfl⟩; cases e
    refine g_X8_isChange_11 (p_X8_isChange_13 (d2 := d - 1) (s_leastLength h hb (by omega) hn) (by omega) ?_)
    rintro _ z ⟨e, rfl⟩; cases e
    refine g_X8_isChange_16 ⟨by first | omega | (unfold R32; omega), by first | omega | (unfold R32; omega), Ex.refl _ _, ?_⟩
    unfold chgF
    rw [if_pos (Classical.not_not.mp c)]
end RW
