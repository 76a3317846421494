/-! a day of a sewer, each bobbin lasting a told length -/
section CR
variable {sc : List Int} {d : Nat} {m : Mem} {Q : Option AV → Mem → Prop} {r : Int} {ρ : Mem} {w l : Int}
def uR (ρ : Mem) (w l : Int) : Nat → Int
  | 0 => 0
  | s + 1 => if (if tnF ρ w s (uR ρ w l s) l = 0 then uR ρ w l s else 0) + ρ 3 s ≤ l then (if tnF ρ w s (uR ρ w l s) l = 0 then uR ρ w l s else 0) + ρ 3 s else 0
def chA (ρ : Mem) (w l : Int) (s : Nat) : Int := tnF ρ w s (uR ρ w l s) l
def usA (ρ : Mem) (w l : Int) (s : Nat) : Int := if chA ρ w l s = 0 then uR ρ w l s else 0
def mdA (ρ : Mem) (w l : Int) (s : Nat) : Int := if usA ρ w l s + ρ 3 s ≤ l then 0 else 1
def coA (ρ : Mem) (w l : Int) : Nat → Int
  | 0 => 0
  | s + 1 => coA ρ w l s + lkF ρ w (uR ρ w l s) + ((chA ρ w l s + mdA ρ w l s) * ρ 7 0 + mdA ρ w l s * ρ 7 1)
def csA (ρ : Mem) (w l : Int) : Nat → Int
  | 0 => 0
  | s + 1 => csA ρ w l s + chA ρ w l s
def msA (ρ : Mem) (w l : Int) : Nat → Int
  | 0 => 0
  | s + 1 => msA ρ w l s + mdA ρ w l s
def fmA (ρ : Mem) (w l : Int) : Nat → Int
  | 0 => -1
  | s + 1 => if fmA ρ w l s = -1 ∧ mdA ρ w l s = 1 then s else fmA ρ w l s
theorem uR_succ (s : Nat) : uR ρ w l (s + 1) = if usA ρ w l s + ρ 3 s ≤ l then usA ρ w l s + ρ 3 s else 0 := rfl
theorem mdA_01 (s : Nat) : mdA ρ w l s = 0 ∨ mdA ρ w l s = 1 := by unfold mdA; split <;> omega
theorem row_bd (hb : RmB ρ) (hl : 1 ≤ l ∧ l ≤ 99) : ∀ s : Nat, (s : Int) ≤ ρ 0 1 → 0 ≤ uR ρ w l s ∧ uR ρ w l s ≤ l := by
  intro s
  induction s with
  | zero => intro _; exact ⟨Int.le_refl _, by show (0 : Int) ≤ l; omega⟩
  | succ s ih =>
    intro hs
    have h := ih (by omega)
    have t := (hb.2.2.2.1 s (by omega)).1
    rw [uR_succ]
    have : 0 ≤ usA ρ w l s ∧ usA ρ w l s ≤ l := by unfold usA; split <;> omega
    split <;> omega
theorem us_bd (hb : RmB ρ) (hl : 1 ≤ l ∧ l ≤ 99) {s : Nat} (hs : (s : Int) ≤ ρ 0 1) : 0 ≤ usA ρ w l s ∧ usA ρ w l s ≤ l := by
  have h := row_bd (w := w) hb hl s hs
  unfold usA
  split <;> omega
theorem chA_01 (hb : RmB ρ) (hr : RlB ρ) (hw : w < 4 + ρ 0 2) (hl : 1 ≤ l ∧ l ≤ 99) {s : Nat} (hs : (s : Int) < ρ 0 1) : chA ρ w l s = 0 ∨ chA ρ w l s = 1 := by
  have h := row_bd (w := w) hb hl s (by omega)
  exact tnF_01 hb hr hw hs ⟨by omega, by omega⟩
theorem co_bd (hb : RmB ρ) (hr : RlB ρ) (hw : w < 4 + ρ 0 2) (hl : 1 ≤ l ∧ l ≤ 99) : ∀ s : Nat, (s : Int) ≤ ρ 0 1 → (0 ≤ coA ρ w l s ∧ coA ρ w l s ≤ 400 * s) ∧ (0 ≤ csA ρ w l s ∧ csA ρ w l s ≤ s) ∧ (0 ≤ msA ρ w l s ∧ msA ρ w l s ≤ s) ∧ -1 ≤ fmA ρ w l s ∧ fmA ρ w l s < s ∨ s = 0 := by
  obtain ⟨m0, m1, m2⟩ := ch_min hb
  intro s
  induction s with
  | zero => intro _; exact Or.inr rfl
  | succ s ih =>
    intro hs
    left
    have c1 := chA_01 (w := w) (l := l) hb hr hw hl (s := s) (by omega)
    have c2 := mdA_01 (ρ := ρ) (w := w) (l := l) s
    have lk : 0 ≤ lkF ρ w (uR ρ w l s) ∧ lkF ρ w (uR ρ w l s) ≤ 99 := by unfold lkF; split <;> omega
    have h : (0 ≤ coA ρ w l s ∧ coA ρ w l s ≤ 400 * s) ∧ (0 ≤ csA ρ w l s ∧ csA ρ w l s ≤ s) ∧ (0 ≤ msA ρ w l s ∧ msA ρ w l s ≤ s) ∧ -1 ≤ fmA ρ w l s ∧ fmA ρ w l s < s + 1 := by
      rcases ih (by omega) with h | rfl
      · omega
      · exact ⟨⟨Int.le_refl _, by show (0 : Int) ≤ _; omega⟩, ⟨Int.le_refl _, by show (0 : Int) ≤ _; omega⟩, ⟨Int.le_refl _, by show (0 : Int) ≤ _; omega⟩, Int.le_refl _, by show (-1 : Int) < _; omega⟩
    have p : 0 ≤ (chA ρ w l s + mdA ρ w l s) * ρ 7 0 + mdA ρ w l s * ρ 7 1 ∧ (chA ρ w l s + mdA ρ w l s) * ρ 7 0 + mdA ρ w l s * ρ 7 1 ≤ 297 := by
      rcases c1 with e1 | e1 <;> rcases c2 with e2 | e2 <;> rw [e1, e2] <;> omega
    refine ⟨?_, ?_, ?_, ?_⟩
    · rw [coA]; omega
    · rw [csA]; omega
    · rw [msA]; omega
    · rw [fmA]; split <;> omega
/-- the row as the class has it -/
def RowX (z ρ : Mem) (w l : Int) (n : Nat) : Prop := z 39 4 = l ∧ (∀ s : Nat, s < n → z 40 s = usA ρ w l s ∧ z 41 s = chA ρ w l s ∧ z 42 s = mdA ρ w l s) ∧ z 39 5 = fmA ρ w l n ∧ z 39 6 = csA ρ w l n ∧ z 39 7 = msA ρ w l n ∧ z 39 8 = coA ρ w l n
def C_nt (s a j : Int) : Prop := ((a = 41 ∨ a = 42) ∧ j = s) ∨ (a = 39 ∧ 5 ≤ j ∧ j ≤ 8)
theorem s_X1_note {s : Nat} {ch md : Int} (H : RoomAt r) (hx : XRm m r ρ) (hs : s < 10) (hc : ch = 0 ∨ ch = 1) (hm : md = 0 ∨ md = 1) (h5 : R32 (m 39 5)) : P_X1_note sc d [aR 39, aR r, aI s, aI ch, aI md] m (fun v z => v = none ∧ Ex (C_nt s) m z ∧ z 41 s = ch ∧ z 42 s = md ∧ z 39 6 = m 39 6 + ch ∧ z 39 7 = m 39 7 + md ∧ z 39 8 = m 39 8 + ((ch + md) * ρ 7 0 + md * ρ 7 1) ∧ z 39 5 = if m 39 5 = -1 ∧ md = 1 then (s : Int) else m 39 5) := by
  have hrb := room_bd H
  have e0 : m (r + 13) 0 = ρ 7 0 := hx.2.2.2.2 0 (by omega)
  have e1 : m (r + 13) 1 = ρ 7 1 := hx.2.2.2.2 1 (by omega)
  have f1 : (if ch = 0 then 0 else 1 : Int) = ch := by rcases hc with rfl | rfl <;> rfl
  have f2 : (if md = 0 then 0 else 1 : Int) = md := by rcases hm with rfl | rfl <;> rfl
  refine ep_X1_note (g_X1_note_0 H ?_)
  rw [f1, f2]
  have aE : Ex (C_nt s) m (wr (wr m 41 s ch) 42 s md) := ((Ex.refl (C_nt s) m).put (Or.inl ⟨Or.inl rfl, rfl⟩)).put (Or.inl ⟨Or.inr rfl, rfl⟩)
  have a1 : wr (wr m 41 s ch) 42 s md 41 s = ch := by rw [wr_na _ _ _ _ _ _ (by decide), wr_eq]
  have a2 : wr (wr m 41 s ch) 42 s md 42 s = md := wr_eq _ _ _ _
  have aj : ∀ j, wr (wr m 41 s ch) 42 s md 39 j = m 39 j := fun j => by rw [wr_na _ _ _ _ _ _ (by decide), wr_na _ _ _ _ _ _ (by decide)]
  generalize wr (wr m 41 s ch) 42 s md = A at aE a1 a2 aj ⊢
  have bE : Ex (C_nt s) m (wr A 39 6 (A 39 6 + A 41 s)) := aE.put (Or.inr ⟨rfl, by decide, by decide⟩)
  have b6 : wr A 39 6 (A 39 6 + A 41 s) 39 6 = m 39 6 + ch := by rw [wr_eq, aj, a1]
  have bk : ∀ a j, ¬ (a = 39 ∧ j = 6) → wr A 39 6 (A 39 6 + A 41 s) a j = A a j := fun a j q => wr_ne _ _ _ _ _ _ q
  generalize wr A 39 6 (A 39 6 + A 41 s) = B at bE b6 bk ⊢
  have cE : Ex (C_nt s) m (wr B 39 7 (B 39 7 + B 42 s)) := bE.put (Or.inr ⟨rfl, by decide, by decide⟩)
  have c7 : wr B 39 7 (B 39 7 + B 42 s) 39 7 = m 39 7 + md := by rw [wr_eq, bk 39 7 (by decide), bk 42 s (by omega), aj, a2]
  have ck : ∀ a j, ¬ (a = 39 ∧ j = 7) → wr B 39 7 (B 39 7 + B 42 s) a j = B a j := fun a j q => wr_ne _ _ _ _ _ _ q
  generalize wr B 39 7 (B 39 7 + B 42 s) = C at cE c7 ck ⊢
  have g1 : C 41 s = ch := by rw [ck 41 s (by omega), bk 41 s (by omega), a1]
  have g2 : C 42 s = md := by rw [ck 42 s (by omega), bk 42 s (by omega), a2]
  have g3 : C (r + 13) 0 = ρ 7 0 := by rw [cE _ _ (by unfold C_nt; omega)]; exact e0
  have g4 : C (r + 13) 1 = ρ 7 1 := by rw [cE _ _ (by unfold C_nt; omega)]; exact e1
  have g5 : C 39 5 = m 39 5 := by rw [ck 39 5 (by decide), bk 39 5 (by decide), aj]
  have g6 : C 39 6 = m 39 6 + ch := by rw [ck 39 6 (by decide), b6]
  have g8 : C 39 8 = m 39 8 := by rw [ck 39 8 (by decide), bk 39 8 (by decide), aj]
  rw [g1, g2, g3, g4, g8]
  have dE : Ex (C_nt s) m (wr C 39 8 (m 39 8 + ((ch + md) * ρ 7 0 + md * ρ 7 1))) := cE.put (Or.inr ⟨rfl, by decide, by decide⟩)
  have d8 : wr C 39 8 (m 39 8 + ((ch + md) * ρ 7 0 + md * ρ 7 1)) 39 8 = m 39 8 + ((ch + md) * ρ 7 0 + md * ρ 7 1) := wr_eq _ _ _ _
  have dk : ∀ a j, ¬ (a = 39 ∧ j = 8) → wr C 39 8 (m 39 8 + ((ch + md) * ρ 7 0 + md * ρ 7 1)) a j = C a j := fun a j q => wr_ne _ _ _ _ _ _ q
  generalize wr C 39 8 (m 39 8 + ((ch + md) * ρ 7 0 + md * ρ 7 1)) = D at dE d8 dk ⊢
  have k1 : D 41 s = ch := by rw [dk 41 s (by omega), g1]
  have k2 : D 42 s = md := by rw [dk 42 s (by omega), g2]
  have k5 : D 39 5 = m 39 5 := by rw [dk 39 5 (by decide), g5]
  have k6 : D 39 6 = m 39 6 + ch := by rw [dk 39 6 (by decide), g6]
  have k7 : D 39 7 = m 39 7 + md := by rw [dk 39 7 (by decide), c7]
  refine ⟨by omega, by omega, by omega, by omega, by omega, fun c => ⟨rfl, dE, k1, k2, k6, k7, d8, ?_⟩, fun c => ⟨by rw [k5]; exact h5, fun c2 => ⟨rfl, dE, k1, k2, k6, k7, d8, ?_⟩, fun c2 => ⟨rfl, dE.put (Or.inr ⟨rfl, by decide, by decide⟩), ?_, ?_, ?_, ?_, ?_, ?_⟩⟩⟩
  · rw [k5, if_neg (by omega)]
  · rw [k5] at c2 ⊢
    rw [if_neg (fun q => c2 q.1)]
  · rw [wr_na _ _ _ _ _ _ (by decide)]; exact k1
  · rw [wr_na _ _ _ _ _ _ (by decide)]; exact k2
  · rw [wr_ne _ _ _ _ _ _ (by decide)]; exact k6
  · rw [wr_ne _ _ _ _ _ _ (by decide)]; exact k7
  · rw [wr_ne _ _ _ _ _ _ (by decide)]; exact d8
  · rw [k5] at c2
    rw [wr_eq, if_pos ⟨Classical.not_not.mp c2, by omega⟩]
def C_cw (r a j : Int) : Prop := C_wx r a ∨ a = 40 ∨ a = 41 ∨ a = 42 ∨ (a = 39 ∧ 4 ≤ j ∧ j ≤ 8)
theorem s_X1_run (H : RoomAt r) (h : XRm m r ρ) (hb : RmB ρ) (hr : RlB ρ) (hl : XRl m r ρ) (hw : 0 ≤ w ∧ w < 4 + ρ 0 2) (hl9 : 1 ≤ l ∧ l ≤ 99) (hd : 6 ≤ d) (hc : w = 3 → ρ 0 1 ≤ 6 ∧ FrX m ρ 3 (ρ 0 1).toNat) :
    P_X1_run sc d [aR 39, aR r, aR 37, aI w, aI l] m (fun v z => v = none ∧ Ex (C_cw r) m z ∧ RowX z ρ w l (ρ 0 1).toNat) := by
  have b0 := hb.1
  have hrb := room_bd H
  refine ep_X1_run (g_X1_run_0 H ?_)
  have zE : Ex (C_cw r) m (wr (wr (wr (wr (wr m 39 4 l) 39 5 (-1)) 39 6 0) 39 7 0) 39 8 0) := (((((Ex.refl (C_cw r) m).put (Or.inr (Or.inr (Or.inr (Or.inr ⟨rfl, by decide, by decide⟩))))).put (Or.inr (Or.inr (Or.inr (Or.inr ⟨rfl, by decide, by decide⟩))))).put (Or.inr (Or.inr (Or.inr (Or.inr ⟨rfl, by decide, by decide⟩))))).put (Or.inr (Or.inr (Or.inr (Or.inr ⟨rfl, by decide, by decide⟩))))).put (Or.inr (Or.inr (Or.inr (Or.inr ⟨rfl, by decide, by decide⟩))))
  have z4 : wr (wr (wr (wr (wr m 39 4 l) 39 5 (-1)) 39 6 0) 39 7 0) 39 8 0 39 4 = l := by rw [wr_ne _ _ _ _ _ _ (by decide), wr_ne _ _ _ _ _ _ (by decide), wr_ne _ _ _ _ _ _ (by decide), wr_ne _ _ _ _ _ _ (by decide), wr_eq]
  have z5 : wr (wr (wr (wr (wr m 39 4 l) 39 5 (-1)) 39 6 0) 39 7 0) 39 8 0 39 5 = -1 := by rw [wr_ne _ _ _ _ _ _ (by decide), wr_ne _ _ _ _ _ _ (by decide), wr_ne _ _ _ _ _ _ (by decide), wr_eq]
  have z6 : wr (wr (wr (wr (wr m 39 4 l) 39 5 (-1)) 39 6 0) 39 7 0) 39 8 0 39 6 = 0 := by rw [wr_ne _ _ _ _ _ _ (by decide), wr_ne _ _ _ _ _ _ (by decide), wr_eq]
  have z7 : wr (wr (wr (wr (wr m 39 4 l) 39 5 (-1)) 39 6 0) 39 7 0) 39 8 0 39 7 = 0 := by rw [wr_ne _ _ _ _ _ _ (by decide), wr_eq]
  have z8 : wr (wr (wr (wr (wr m 39 4 l) 39 5 (-1)) 39 6 0) 39 7 0) 39 8 0 39 8 = 0 := wr_eq _ _ _ _
  generalize wr (wr (wr (wr (wr m 39 4 l) 39 5 (-1)) 39 6 0) 39 7 0) 39 8 0 = z at zE z4 z5 z6 z7 z8 ⊢
  have lp : ∀ (n s : Nat) (y : Mem), (s : Int) + n = ρ 0 1 → Ex (C_cw r) m y → RowX y ρ w l s → S_X1_run sc d 32 [aR 39, aR r, aR 37, aI w, aI l, aI (uR ρ w l s), aI s, aU, aU] [] y (fun v z => v = none ∧ Ex (C_cw r) m z ∧ RowX z ρ w l (ρ 0 1).toNat) := by
    intro n
    induction n with
    | zero =>
      intro s y hs he hR
      have hy : XRm y r ρ := h.ex2 (fun a j q1 q2 q3 => he a j (fun q => by unfold C_cw C_wx at q; omega))
      have e8 := hy.1.2.1
      exact g_X1_run_32 H ⟨by omega, by omega, fun _ => ⟨rfl, he, by rw [show (ρ 0 1).toNat = s by omega]; exact hR⟩, fun c => absurd (by omega) c⟩
    | succ n ih =>
      intro s y hs he hR
      have hy : XRm y r ρ := h.ex2 (fun a j q1 q2 q3 => he a j (fun q => by unfold C_cw C_wx at q; omega))
      have hyl : XRl y r ρ := ⟨fun k hk => by rw [he _ _ (fun q => by unfold C_cw C_wx at q; omega)]; exact hl.1 k hk, fun j hj => by rw [he _ _ (fun q => by unfold C_cw C_wx at q; omega)]; exact hl.2 j hj⟩
      have hyc : w = 3 → ρ 0 1 ≤ 6 ∧ FrX y ρ 3 (ρ 0 1).toNat := fun q => ⟨(hc q).1, fun i hi => by rw [he 38 _ (fun q => by unfold C_cw C_wx at q; omega)]; exact (hc q).2 i hi⟩
      have e8 := hy.1.2.1
      have ub := row_bd (w := w) hb hl9 s (by omega)
      have vb := us_bd (w := w) hb hl9 (s := s) (by omega)
      have ts := (hb.2.2.2.1 s (by omega)).1
      have c01 := chA_01 (w := w) (l := l) hb hr hw.2 hl9 (s := s) (by omega)
      have m01 := mdA_01 (ρ := ρ) (w := w) (l := l) s
      obtain ⟨r4, rk, r5, r6, r7, r8⟩ := hR
      have cb := co_bd (w := w) (l := l) hb hr hw.2 hl9 s (by omega)
      have fb : R32 (fmA ρ w l s) := by
        unfold R32
        rcases cb with q | rfl
        · omega
        · show _ ≤ (-1 : Int) ∧ (-1 : Int) < _; decide
      refine g_X1_run_32 H ⟨by omega, by omega, fun c => absurd c (by omega), fun _ => ?_⟩
      refine p_X1_run_50 (d2 := d - 1) H H (s_lookCost H hy ⟨by omega, by omega⟩ ⟨by omega, by omega⟩) (by omega) ?_
      rintro _ y ⟨e, rfl⟩; cases e
      refine g_X1_run_53 H ?_
      rw [r8]
      have y1E : Ex (C_cw r) m (wr y 39 8 (coA ρ w l s + lkF ρ w (uR ρ w l s))) := he.put (Or.inr (Or.inr (Or.inr (Or.inr ⟨rfl, by decide, by decide⟩))))
      have y18 : wr y 39 8 (coA ρ w l s + lkF ρ w (uR ρ w l s)) 39 8 = coA ρ w l s + lkF ρ w (uR ρ w l s) := wr_eq _ _ _ _
      have y1k : ∀ a j, ¬ (a = 39 ∧ j = 8) → wr y 39 8 (coA ρ w l s + lkF ρ w (uR ρ w l s)) a j = y a j := fun a j q => wr_ne _ _ _ _ _ _ q
      generalize wr y 39 8 (coA ρ w l s + lkF ρ w (uR ρ w l s)) = y1 at y1E y18 y1k ⊢
      have exm : ∀ u : Mem, Ex (C_cw r) m u → XRm u r ρ := fun u ue => h.ex2 (fun a j q1 q2 q3 => ue a j (fun q => by unfold C_cw C_wx at q; omega))
      have exl : ∀ u : Mem, Ex (C_cw r) m u → XRl u r ρ := fun u ue => ⟨fun k hk => by rw [ue _ _ (fun q => by unfold C_cw C_wx at q; omega)]; exact hl.1 k hk, fun j hj => by rw [ue _ _ (fun q => by unfold C_cw C_wx at q; omega)]; exact hl.2 j hj⟩
      refine p_X1_run_66 (d2 := d - 1) H H (s_X0_turns (w := w) (s := s) (u := uR ρ w l s) (l := l) H (exm y1 y1E) hb hr (exl y1 y1E) hw (by omega) ⟨by omega, by omega⟩ ⟨by omega, by omega⟩ (by omega) (fun q => ⟨(hc q).1, fun i hi => by rw [y1E 38 _ (fun q => by unfold C_cw C_wx at q; omega)]; exact (hc q).2 i hi⟩)) (by omega) ?_
      rintro _ y2 ⟨y2E, e⟩; cases e
      rw [show tnF ρ w s (uR ρ w l s) l = chA ρ w l s from rfl]
      refine g_X1_run_69 H ?_
      rw [show (if chA ρ w l s = 0 then uR ρ w l s else 0) = usA ρ w l s from rfl]
      have y3E : Ex (C_cw r) m (wr y2 40 s (usA ρ w l s)) := (y1E.trans (y2E.mono (fun a j q => Or.inl q))).put (Or.inr (Or.inl rfl))
      have y3s : wr y2 40 s (usA ρ w l s) 40 s = usA ρ w l s := wr_eq _ _ _ _
      have y3k : ∀ a j : Int, (39 ≤ a ∧ a ≤ 42) → ¬ (a = 40 ∧ j = s) → wr y2 40 s (usA ρ w l s) a j = y1 a j := fun a j q1 q2 => (wr_ne _ _ _ _ _ _ q2).trans (y2E a j (fun q => by unfold C_wx at q; omega))
      generalize wr y2 40 s (usA ρ w l s) = y3 at y3E y3s y3k ⊢
      have e3 : y3 (r + 3) s = ρ 3 s := ((exm y3 y3E).2.2.1 s (by omega)).1
      rw [e3]
      rw [show (if usA ρ w l s + ρ 3 s ≤ l then 0 else 1 : Int) = mdA ρ w l s from rfl]
      have e9 : (if mdA ρ w l s = 0 then usA ρ w l s + ρ 3 s else 0) = uR ρ w l (s + 1) := by
        rw [uR_succ]
        unfold mdA
        by_cases c : usA ρ w l s + ρ 3 s ≤ l
        · rw [if_pos c, if_pos c, if_pos rfl]
        · rw [if_neg c, if_neg c, if_neg (by decide)]
      rw [e9]
      refine ⟨by omega, by omega, by omega, by omega, by omega, by omega, ?_⟩
      have q5 : y3 39 5 = fmA ρ w l s := by rw [y3k 39 5 (by decide) (by omega), y1k 39 5 (by decide)]; exact r5
      refine p_X1_run_140 (d2 := d - 1) H H (s_X1_note H (exm y3 y3E) (by omega) c01 m01 (by rw [q5]; exact fb)) (by omega) ?_
      rintro y4 ⟨-, y4E, n1, n2, n6, n7, n8, n5⟩
      refine g_X1_run_143 H ?_
      refine ih (s + 1) y4 (by omega) (y3E.trans (y4E.mono (fun a j q => by unfold C_nt at q; unfold C_cw; omega))) ⟨?_, fun i hi => ?_, ?_, ?_, ?_, ?_⟩
      · rw [y4E 39 4 (by unfold C_nt; omega), y3k 39 4 (by decide) (by omega), y1k 39 4 (by decide)]; exact r4
      · by_cases e : i = s
        · rw [e]
          exact ⟨by rw [y4E 40 s (by unfold C_nt; omega)]; exact y3s, n1, n2⟩
        · obtain ⟨a0, a1, a2⟩ := rk i (by omega)
          exact ⟨by rw [y4E 40 i (by unfold C_nt; omega), y3k 40 i (by decide) (by omega), y1k 40 i (by omega)]; exact a0, by rw [y4E 41 i (by unfold C_nt; omega), y3k 41 i (by decide) (by omega), y1k 41 i (by omega)]; exact a1, by rw [y4E 42 i (by unfold C_nt; omega), y3k 42 i (by decide) (by omega), y1k 42 i (by omega)]; exact a2⟩
      · rw [n5, q5]; rfl
      · rw [n6, y3k 39 6 (by decide) (by omega), y1k 39 6 (by decide), r6]; rfl
      · rw [n7, y3k 39 7 (by decide) (by omega), y1k 39 7 (by decide), r7]; rfl
      · rw [n8, y3k 39 8 (by decide) (by omega), y18]; rfl
  exact lp (ρ 0 1).toNat 0 z (by omega) zE ⟨z4, fun i hi => by omega, z5, z6, z7, z8⟩
end CR
