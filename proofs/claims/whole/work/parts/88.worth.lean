/-! what a formula comes to: the class's loop -/
section WW
variable {sc : List Int} {d : Nat} {m : Mem} {Q : Option AV → Mem → Prop} {r : Int} {ρ : Mem} {l0 l2 l3 l4 l5 l6 : Int}
theorem w10_end (Hl0 : FormAt l0) (Hl3 : IsC l3 100) (Hl4 : RoomAt l4) (h6 : R32 l6) (h2 : R32 l2) (lt : l2 ≤ l6) (h5 : 1 ≤ l5 ∧ l5 ≤ 64) (k : Q (some (aI (m (l0 + 2) (l5 - 1)))) m) : S_X3_worth sc d 10 [aR l0, aU, aI l2, aR l3, aR l4, aI l5, aI l6, aU, aU, aU, aU, aU, aU, aU] [] m Q := by
  refine g_X3_worth_10 Hl0 Hl3 Hl4 ⟨h6, h2, fun _ => ⟨by first | omega | (unfold R32; omega), fun _ => by omega, fun _ => by omega, ?_⟩, fun c => absurd lt c⟩
  rw [if_neg (by omega)]
  exact k
theorem w10_push (Hl0 : FormAt l0) (Hl3 : IsC l3 100) (Hl4 : RoomAt l4) (h6 : 0 ≤ l6 ∧ l6 < 1600) (h2 : R32 l2) (lt : l6 < l2) (hx : R32 (m (l0 + 1) l6)) (hp : -10 ≤ m (l0 + 1) l6) (h5 : 0 ≤ l5 ∧ l5 < 64) (ha : alen l3 = 10) (k : S_X3_worth sc d 10 [aR l0, aU, aI l2, aR l3, aR l4, aI (l5 + 1), aI (l6 + 1), aU, aU, aU, aU, aU, aU, aU] [] (wr m (l0 + 2) l5 (if m (l0 + 1) l6 < 0 then m l3 (-1 - m (l0 + 1) l6) else m (l0 + 1) l6)) Q) : S_X3_worth sc d 10 [aR l0, aU, aI l2, aR l3, aR l4, aI l5, aI l6, aU, aU, aU, aU, aU, aU, aU] [] m Q := by
  have e1 : (if (-13) < m (l0 + 1) l6 then 0 else 1 : Int) = 0 := if_pos (by omega)
  have e2 : (if m (l0 + 1) l6 = (-11) then 1 else (if m (l0 + 1) l6 ≠ (-12) then 0 else 1 : Int) : Int) = 0 := by rw [if_neg (by omega), if_pos (by omega)]
  have e3 : (if m (l0 + 1) l6 < 0 then (if alen l3 ≤ (-1) - m (l0 + 1) l6 then 0 else m l3 ((-1) - m (l0 + 1) l6) : Int) else m (l0 + 1) l6 : Int) = if m (l0 + 1) l6 < 0 then m l3 (-1 - m (l0 + 1) l6) else m (l0 + 1) l6 := by
    by_cases c : m (l0 + 1) l6 < 0
    · rw [if_pos c, if_pos c, if_neg (by omega)]
    · rw [if_neg c, if_neg c]
  have n1 : ¬ l2 ≤ l6 := by omega
  have n2 : ¬ 1600 ≤ l6 := by omega
  have n4 : l5 < 64 := h5.2
  refine g_X3_worth_10 Hl0 Hl3 Hl4 ?_
  simp only [e1, e2, e3, n1, n2, n4, ne_eq, not_true_eq_false, not_false_eq_true, false_implies, true_implies, true_and, and_true]
  exact ⟨⟨by omega, by omega⟩, h2, h6.1, h6.2, hx, hx, by decide, by decide, by omega, hx, fun c => by omega, fun _ => by omega, fun _ _ => by omega, fun _ _ => by omega, h5.1, k⟩
theorem w10_turn (Hl0 : FormAt l0) (Hl3 : IsC l3 100) (Hl4 : RoomAt l4) (h6 : 0 ≤ l6 ∧ l6 < 1600) (h2 : R32 l2) (lt : l6 < l2) (hp : m (l0 + 1) l6 = -11 ∨ m (l0 + 1) l6 = -12) (h5 : 1 ≤ l5 ∧ l5 ≤ 64) (k : S_X3_worth sc d 199 [aR l0, aU, aI l2, aR l3, aR l4, aI (l5 - 1), aI l6, aU, aU, aU, aU, aU, aU, aU] [aR l4, aI (m (l0 + 2) (l5 - 1)), aI (m (l0 + 1) l6), aI (l5 - 1), aR (l0 + 2)] m Q) : S_X3_worth sc d 10 [aR l0, aU, aI l2, aR l3, aR l4, aI l5, aI l6, aU, aU, aU, aU, aU, aU, aU] [] m Q := by
  have e1 : (if (-13) < m (l0 + 1) l6 then 0 else 1 : Int) = 0 := if_pos (by omega)
  have e2 : (if m (l0 + 1) l6 = (-11) then 1 else (if m (l0 + 1) l6 ≠ (-12) then 0 else 1 : Int) : Int) = 1 := by
    rcases hp with e | e <;> rw [e] <;> decide
  have n1 : ¬ l2 ≤ l6 := by omega
  have n2 : ¬ 1600 ≤ l6 := by omega
  have n3 : ¬ l5 ≤ 0 := by omega
  have n4 : l5 + (-1) < 64 := by omega
  have e5 : l5 + (-1) = l5 - 1 := by omega
  have z : ¬ (1 : Int) = 0 := by decide
  refine g_X3_worth_10 Hl0 Hl3 Hl4 ?_
  simp only [e1, e2, n1, n2, n3, n4, z, ne_eq, not_true_eq_false, not_false_eq_true, false_implies, true_implies, true_and, and_true]
  rw [e5]
  have hx : R32 (m (l0 + 1) l6) := by first | omega | (unfold R32; omega)
  exact ⟨⟨by omega, by omega⟩, h2, h6.1, h6.2, hx, hx, by decide, by decide, by omega, by omega, by omega, k⟩
theorem w10_join (Hl0 : FormAt l0) (Hl3 : IsC l3 100) (Hl4 : RoomAt l4) (h6 : 0 ≤ l6 ∧ l6 < 1600) (h2 : R32 l2) (lt : l6 < l2) (hx : R32 (m (l0 + 1) l6)) (hp : m (l0 + 1) l6 ≤ -13) (h5 : 2 ≤ l5 ∧ l5 ≤ 64) (v1 : R32 (m (l0 + 2) (l5 - 1))) (v2 : R32 (m (l0 + 2) (l5 - 2))) (k : S_X3_worth sc d 152 [aR l0, aU, aI l2, aR l3, aR l4, aI (l5 - 2), aI l6, aU, aU, aU, aU, aU, aU, aU] [aJ (m (l0 + 2) (l5 - 1)), aJ (m (l0 + 2) (l5 - 2)), aI (m (l0 + 1) l6)] m Q) : S_X3_worth sc d 10 [aR l0, aU, aI l2, aR l3, aR l4, aI l5, aI l6, aU, aU, aU, aU, aU, aU, aU] [] m Q := by
  have e1 : (if (-13) < m (l0 + 1) l6 then 0 else 1 : Int) = 1 := if_neg (by omega)
  have n1 : ¬ l2 ≤ l6 := by omega
  have n2 : ¬ 1600 ≤ l6 := by omega
  have n3 : ¬ l5 ≤ 0 := by omega
  have n4 : ¬ l5 - 1 ≤ 0 := by omega
  have n6 : l5 - 2 < 64 := by omega
  have e5 : l5 + (-1) = l5 - 1 := by omega
  have e6 : l5 - 1 + (-1) = l5 - 2 := by omega
  have z : ¬ (1 : Int) = 0 := by decide
  refine g_X3_worth_10 Hl0 Hl3 Hl4 ?_
  rw [e5, e6]
  simp only [e1, n1, n2, n3, n4, n6, z, ne_eq, not_true_eq_false, not_false_eq_true, false_implies, true_implies, true_and, and_true]
  exact ⟨⟨by omega, by omega⟩, h2, h6.1, h6.2, hx, hx, by decide, by omega, by omega, by omega, by omega, by omega, by omega, v2, v1, k⟩
def prm (i : Int) : Int := if i = 3 then 4 else if i = 4 then 3 else i
theorem stepRel.cases {x c : Int} (h : stepRel x c) : (0 ≤ x ∧ x ≤ 9999 ∧ (c = 1000 + x ∨ (x = 1 ∧ c = 13))) ∨ (-10 ≤ x ∧ x ≤ -1 ∧ 40 ≤ c ∧ c ≤ 49 ∧ -1 - x = prm (c - 40)) ∨ (x = -11 ∧ c = 12) ∨ (x = -12 ∧ c = 60) ∨ (x = -12 - c ∧ 1 ≤ c ∧ c ≤ 11) := by
  unfold stepRel at h
  rcases h with h | ⟨rfl, rfl⟩ | ⟨rfl, rfl⟩ | ⟨rfl, rfl⟩ | ⟨rfl, rfl⟩ | ⟨rfl, rfl⟩ | ⟨rfl, rfl⟩ | ⟨rfl, rfl⟩ | ⟨rfl, rfl⟩ | ⟨rfl, rfl⟩ | ⟨rfl, rfl⟩ | ⟨rfl, rfl⟩ | ⟨rfl, rfl⟩ | h
  · exact Or.inl h
  · exact Or.inr (Or.inl (by decide))
  · exact Or.inr (Or.inl (by decide))
  · exact Or.inr (Or.inl (by decide))
  · exact Or.inr (Or.inl (by decide))
  · exact Or.inr (Or.inl (by decide))
  · exact Or.inr (Or.inl (by decide))
  · exact Or.inr (Or.inl (by decide))
  · exact Or.inr (Or.inl (by decide))
  · exact Or.inr (Or.inl (by decide))
  · exact Or.inr (Or.inl (by decide))
  · exact Or.inr (Or.inr (Or.inl ⟨rfl, rfl⟩))
  · exact Or.inr (Or.inr (Or.inr (Or.inl ⟨rfl, rfl⟩)))
  · refine Or.inr (Or.inr (Or.inr (Or.inr ?_)))
    rcases h with ⟨rfl, rfl⟩ | ⟨rfl, rfl⟩ | ⟨rfl, rfl⟩ | ⟨rfl, rfl⟩ | ⟨rfl, rfl⟩ | ⟨rfl, rfl⟩ | ⟨rfl, rfl⟩ | ⟨rfl, rfl⟩ | ⟨rfl, rfl⟩ | ⟨rfl, rfl⟩ | ⟨rfl, rfl⟩ <;> decide
def ydF (ρ : Mem) (v : Int) : Int := if v < 0 then 0 else if ρ 0 1 ≤ v then 0 else ρ 3 v
theorem ydF_bd (hb : RmB ρ) (v : Int) : 0 ≤ ydF ρ v ∧ ydF ρ v ≤ 99 := by
  unfold ydF
  split
  · omega
  · split
    · omega
    · have := (hb.2.2.2.1 v.toNat (by omega)).1
      rw [show ((v.toNat : Nat) : Int) = v by omega] at this
      omega
theorem s_turned {x v : Int} (H : RoomAt r) (h : XRm m r ρ) (hb : RmB ρ) (hx : x = -11 ∨ x = -12) (hv : R32 v) : P_X3_turned sc d [aI x, aI v, aR r] m (PV (aI (if x = -11 then (if v ≠ 0 then 0 else 1) else ydF ρ v)) m) := by
  have b0 := hb.1
  have e8 := h.1.2.1
  refine ep_X3_turned (g_X3_turned_0 H ⟨by first | omega | (unfold R32; omega), fun c => ⟨hv, fun _ => by first | omega | (unfold R32; omega), fun c2 _ => by omega, fun _ c2 => by omega, ?_⟩, fun c => ⟨hv, ?_⟩⟩)
  · rw [if_neg c, e8]
    unfold ydF
    by_cases c1 : v < 0
    · rw [if_pos c1, if_pos c1]; exact ⟨rfl, rfl⟩
    · rw [if_neg c1, if_neg c1]
      by_cases c2 : ρ 0 1 ≤ v
      · rw [if_pos c2, if_pos c2]; exact ⟨rfl, rfl⟩
      · rw [if_neg c2, if_neg c2]
        have := (h.2.2.1 v.toNat (by omega)).1
        rw [show ((v.toNat : Nat) : Int) = v by omega] at this
        rw [this]; exact ⟨rfl, rfl⟩
  · rw [if_pos (Classical.not_not.mp c)]; exact ⟨rfl, rfl⟩
theorem form_bd {l : Int} (H : FormAt l) : (10 ≤ l ∧ l ≤ 34) ∧ IsC (l + 2) 100 ∧ alen (l + 2) = 64 := by
  rcases H with rfl | rfl | rfl
  · exact ⟨by omega, ic_12, by decide +kernel⟩
  · exact ⟨by omega, ic_27, by decide +kernel⟩
  · exact ⟨by omega, ic_36, by decide +kernel⟩
/-- the parts as both have them -/
def PtX (rl : Bool) (fx pt : Int → Int) : Prop := ∀ i, alw rl i → fx (prm i) = pt i
theorem s_worth {rl b : Bool} {pt code : Int → Int} {fr to : Int} {n : Nat} (HF : FormAt l0) (H3 : IsC l3 100) (H : RoomAt r) (hx : XRm m r ρ) (hb : RmB ρ) (ha : alen l3 = 10) (hd : 2 ≤ d) (h30 : l3 ≠ l0 + 2) (hsep : ¬ (r ≤ l0 + 2 ∧ l0 + 2 ≤ r + 13 ∧ l0 + 2 ≠ r + 10)) (hf : 0 ≤ fr) (hto : to = fr + n) (ht : to ≤ 1600) (hst : ∀ j : Nat, j < n → stepRel (m (l0 + 1) (fr + j)) (code j)) (hty : tyF rl code n = some [b]) (hpx : PtX rl (m l3) pt) (hpb : ∀ i, alw rl i → -1000000 ≤ pt i ∧ pt i ≤ 1000000) :
    P_X3_worth sc d [aR l0, aI fr, aI to, aR l3, aR r] m (fun v z => Ex (fun a _ => a = l0 + 2) m z ∧ ∃ y, v = some (aI y) ∧ evF pt (ydF ρ) code n = [y]) := by
  obtain ⟨fb, ic2, al2⟩ := form_bd HF
  have hy : ∀ v, -1000000 ≤ ydF ρ v ∧ ydF ρ v ≤ 1000000 := fun v => by have := ydF_bd hb v; omega
  refine ep_X3_worth (g_X3_worth_0 HF H3 H ?_)
  refine p_X3_worth_5 (d2 := d - 1) HF H3 H (s_max ⟨by omega, by omega⟩ ⟨by omega, by omega⟩) (by omega) ?_
  rintro _ z ⟨e, rfl⟩; cases e
  rw [show (if 0 < fr then fr else 0) = fr by split <;> omega]
  refine g_X3_worth_8 HF H3 H ?_
  have main : ∀ (j i : Nat) (y : Mem), i + j = n → Ex (fun a _ => a = l0 + 2) z y → stk (y (l0 + 2)) (evF pt (ydF ρ) code i) → S_X3_worth sc d 10 [aR l0, aU, aI to, aR l3, aR r, aI ((evF pt (ydF ρ) code i).length : Nat), aI (fr + i), aU, aU, aU, aU, aU, aU, aU] [] y (fun v u => Ex (fun a _ => a = l0 + 2) z u ∧ ∃ y, v = some (aI y) ∧ evF pt (ydF ρ) code n = [y]) := by
    intro j
    induction j with
    | zero =>
      intro i y hi he hs
      obtain rfl : i = n := by omega
      have ty := evF_ty (f := code) hpb hy i _ hty
      match hE : evF pt (ydF ρ) code i, ty with
      | [v], _ =>
        rw [hE] at hs
        refine w10_end HF H3 H (by first | omega | (unfold R32; omega)) (by first | omega | (unfold R32; omega)) (by omega) (by simp) ⟨he, _, rfl, ?_⟩
        rw [← hs.1]
        rfl
    | succ j ih =>
      intro i y hi he hs
      -- the step
      have s1 := tyF_pre (f := code) n (i + 1) (by omega) (by rw [hty]; rfl)
      have s0 := tyF_pre (f := code) n i (by omega) (by rw [hty]; rfl)
      obtain ⟨st, hst0⟩ := Option.isSome_iff_exists.mp s0
      obtain ⟨st', hst1⟩ := Option.isSome_iff_exists.mp s1
      have tS : tyS rl (code i) st = some st' := by
        unfold tyF at hst1
        rw [hst0] at hst1
        exact hst1
      have ty := evF_ty (f := code) hpb hy i _ hst0
      have len := ty.len
      obtain ⟨h64, cs⟩ := tyS_cases tS
      have sr := (hst i (by omega)).cases
      have ex : y (l0 + 1) (fr + i) = z (l0 + 1) (fr + i) := he _ _ (by omega)
      rw [← ex] at sr
      have nx := fun y' => ih (i + 1) y' (by omega)
      have eS : evF pt (ydF ρ) code (i + 1) = evS pt (ydF ρ) (code i) (evF pt (ydF ρ) code i) := rfl
      rw [eS] at nx
      generalize evF pt (ydF ρ) code i = l at hs ty len nx ⊢
      have e1 : fr + ((i + 1 : Nat) : Int) = fr + (i : Int) + 1 := by omega
      rw [e1] at nx
      have pu : ∀ v : Int, evS pt (ydF ρ) (code i) l = v :: l → (if y (l0 + 1) (fr + i) < 0 then y l3 (-1 - y (l0 + 1) (fr + i)) else y (l0 + 1) (fr + i)) = v → -10 ≤ y (l0 + 1) (fr + i) → y (l0 + 1) (fr + i) ≤ 9999 → S_X3_worth sc d 10 [aR l0, aU, aI to, aR l3, aR r, aI (l.length : Nat), aI (fr + i), aU, aU, aU, aU, aU, aU, aU] [] y (fun v u => Ex (fun a _ => a = l0 + 2) z u ∧ ∃ y, v = some (aI y) ∧ evF pt (ydF ρ) code n = [y]) := by
        intro v hv hv2 hx1 hx2
        refine w10_push HF H3 H (by omega) (by first | omega | (unfold R32; omega)) (by omega) (by first | omega | (unfold R32; omega)) hx1 (by omega) ha ?_
        rw [hv2]
        rw [hv] at nx
        exact nx _ (he.put rfl) ⟨wr_eq _ _ _ _, hs.congr (fun k hk => wr_ne _ _ _ _ _ _ (by omega))⟩
      rcases sr with ⟨x1, x2, x3⟩ | ⟨x1, x2, x3, x4, x5⟩ | ⟨x1, x2⟩ | ⟨x1, x2⟩ | ⟨x1, x2, x3⟩
      · refine pu (y (l0 + 1) (fr + i)) ?_ (if_neg (by omega)) (by omega) x2
        unfold evS
        rcases x3 with x3 | ⟨x3, x4⟩
        · rw [if_pos (by omega), show code i - 1000 = y (l0 + 1) (fr + i) by omega]
        · rw [if_neg (by omega), if_neg (by omega), if_pos x4, x3]
      · have al : alw rl (code i - 40) := by
          rcases cs with ⟨q, -⟩ | ⟨q, -⟩ | ⟨q, -⟩ | ⟨q, -⟩ | ⟨q, -⟩ | ⟨-, q, -⟩ | ⟨-, q, -⟩ | ⟨q, -⟩
          · omega
          · exact q
          all_goals omega
        refine pu (pt (code i - 40)) ?_ ?_ (by omega) (by omega)
        · unfold evS
          rw [if_neg (by omega), if_pos ⟨x3, x4⟩]
        · rw [if_pos (by omega), x5, he _ _ h30]
          exact hpx _ al
      · rcases cs with ⟨q, -⟩ | ⟨q, -⟩ | ⟨q, -⟩ | ⟨q, -⟩ | ⟨-, s1, rfl, rfl⟩ | ⟨-, q, -⟩ | ⟨-, q, -⟩ | ⟨q, -⟩
        · omega
        · have := q.1; omega
        · omega
        · omega
        · match l, ty with
          | v :: l, ty =>
            have v01 := ty.1.2 rfl
            have ev : evS pt (ydF ρ) (code i) (v :: l) = (1 - v) :: l := by rw [x2]; rfl
            rw [ev] at nx
            have tv : y (l0 + 2) ((((v :: l).length : Nat) : Int) - 1) = v := by rw [← hs.1]; congr 1; simp
            refine w10_turn HF H3 H (by omega) (by first | omega | (unfold R32; omega)) (by omega) (Or.inl x1) (by simp at len h64 ⊢; omega) ?_
            rw [tv, x1]
            refine p_X3_worth_199 (d2 := d - 1) HF H3 H ic2 H (s_turned H (hx.ex2 (fun a j q1 q2 q3 => he a j (by intro q; rw [q] at q1 q2 q3; exact hsep ⟨q1, q2, q3⟩))) hb (Or.inl rfl) (by first | omega | (unfold R32; omega))) (by omega) ?_
            rintro _ y' ⟨e, rfl⟩; cases e
            have hl : (((v :: l).length : Nat) : Int) - 1 = (l.length : Nat) := by simp
            rw [hl, if_pos rfl, show (if v ≠ 0 then 0 else 1) = 1 - v by rcases v01 with rfl | rfl <;> rfl]
            refine g_X3_worth_202 HF H3 H ic2 ⟨by omega, by rw [al2]; simp at len h64; omega, nx _ (he.put rfl) ⟨wr_eq _ _ _ _, hs.2.congr (fun k hk => wr_ne _ _ _ _ _ _ (by omega))⟩⟩
        · omega
        · omega
        · omega
      · rcases cs with ⟨q, -⟩ | ⟨q, -⟩ | ⟨q, -⟩ | ⟨-, -, s1, rfl, rfl⟩ | ⟨q, -⟩ | ⟨-, q, -⟩ | ⟨-, q, -⟩ | ⟨q, -⟩
        · omega
        · have := q.2.1; omega
        · omega
        · match l, ty with
          | v :: l, ty =>
            have vb := ty.1.1
            have ev : evS pt (ydF ρ) (code i) (v :: l) = ydF ρ v :: l := by rw [x2]; rfl
            rw [ev] at nx
            have tv : y (l0 + 2) ((((v :: l).length : Nat) : Int) - 1) = v := by rw [← hs.1]; congr 1; simp
            refine w10_turn HF H3 H (by omega) (by first | omega | (unfold R32; omega)) (by omega) (Or.inr x1) (by simp at len h64 ⊢; omega) ?_
            rw [tv, x1]
            refine p_X3_worth_199 (d2 := d - 1) HF H3 H ic2 H (s_turned H (hx.ex2 (fun a j q1 q2 q3 => he a j (by intro q; rw [q] at q1 q2 q3; exact hsep ⟨q1, q2, q3⟩))) hb (Or.inr rfl) (by first | omega | (unfold R32; omega))) (by omega) ?_
            rintro _ y' ⟨e, rfl⟩; cases e
            have hl : (((v :: l).length : Nat) : Int) - 1 = (l.length : Nat) := by simp
            rw [hl, if_neg (by decide)]
            refine g_X3_worth_202 HF H3 H ic2 ⟨by omega, by rw [al2]; simp at len h64; omega, nx _ (he.put rfl) ⟨wr_eq _ _ _ _, hs.2.congr (fun k hk => wr_ne _ _ _ _ _ _ (by omega))⟩⟩
        · omega
        · omega
        · omega
        · omega
      · have two : ∃ b2 s2, st = b2 :: b2 :: s2 ∧ (10 ≤ code i → b2 = true) := by
          rcases cs with ⟨q, -⟩ | ⟨q, -⟩ | ⟨q, -⟩ | ⟨q, -⟩ | ⟨q, -⟩ | ⟨-, q, s2, e, -⟩ | ⟨-, q, s2, e, -⟩ | ⟨-, s2, e, -⟩
          · omega
          · have := q.1; omega
          · omega
          · omega
          · omega
          · exact ⟨_, _, e, fun z => by omega⟩
          · exact ⟨_, _, e, fun z => by omega⟩
          · exact ⟨_, _, e, fun _ => rfl⟩
        obtain ⟨b2, s2, rfl, hb2⟩ := two
        match l, ty with
        | v :: u :: l, ty =>
          have vb := ty.1.1
          have ub := ty.2.1.1
          have ev : evS pt (ydF ρ) (code i) (v :: u :: l) = jnF (code i) u v :: l := by
            unfold evS
            rw [if_neg (by omega), if_neg (by omega), if_neg (by omega)]
            show (if code i = 60 then _ else if code i = 12 then _ else jnF (code i) u v :: l) = _
            rw [if_neg (by omega), if_neg (by omega)]
          rw [ev] at nx
          have tv : y (l0 + 2) ((((v :: u :: l).length : Nat) : Int) - 1) = v := by rw [← hs.1]; congr 1; simp
          have tu : y (l0 + 2) ((((v :: u :: l).length : Nat) : Int) - 2) = u := by rw [← hs.2.1]; congr 1; simp; omega
          refine w10_join HF H3 H (by omega) (by first | omega | (unfold R32; omega)) (by omega) (by first | omega | (unfold R32; omega)) (by omega) (by simp at len h64 ⊢; omega) (by rw [tv]; first | omega | (unfold R32; omega)) (by rw [tu]; first | omega | (unfold R32; omega)) ?_
          rw [tv, tu]
          refine p_X3_worth_152 (d2 := d - 1) HF H3 H (s_joined x1 (by omega) ub vb ⟨x2, x3⟩ (fun z => ⟨ty.2.1.2 (hb2 z), ty.1.2 (hb2 z)⟩)) (by omega) ?_
          rintro _ y' ⟨rfl, w, rfl, wr64, hw⟩
          refine ⟨_, rfl, g_X3_worth_155 HF H3 H ?_⟩
          refine p_X3_worth_171 (d2 := d - 1) HF H3 H ic2 (ep_J9_min_f86c9 (g_J9_min_f86c9_0 ⟨by decide, wr64, rfl, rfl⟩ : S_J9_min_f86c9 sc (d - 1) 0 _ [] y' (PV (aJ (if w < 1000000 then w else 1000000)) y'))) (by omega) ?_
          rintro _ y'' ⟨rfl, rfl⟩
          refine ⟨_, rfl, g_X3_worth_174 HF H3 H ic2 ?_⟩
          have w2 : R64 (if w < 1000000 then w else 1000000) := by first | (split <;> omega) | (unfold R64; split <;> omega)
          refine p_X3_worth_174 (d2 := d - 1) HF H3 H ic2 (ep_J9_max_f86c9 (g_J9_max_f86c9_0 ⟨by decide, w2, rfl, rfl⟩ : S_J9_max_f86c9 sc (d - 1) 0 _ [] y'' (PV (aJ (if -1000000 < (if w < 1000000 then w else 1000000) then (if w < 1000000 then w else 1000000) else -1000000)) y''))) (by omega) ?_
          rintro _ y3 ⟨rfl, rfl⟩
          have ce : (if -1000000 < (if w < 1000000 then w else 1000000) then (if w < 1000000 then w else 1000000) else -1000000) = jnF (code i) u v := by
            rw [← hw]
            unfold clp
            by_cases c1 : w < 1000000
            · rw [if_pos c1, if_pos (show w ≤ 1000000 by omega)]
              by_cases c2 : -1000000 < w
              · rw [if_pos c2, if_pos (show -1000000 ≤ w by omega)]
              · rw [if_neg c2]
                by_cases c3 : -1000000 ≤ w
                · rw [if_pos c3]; omega
                · rw [if_neg c3]
            · rw [if_neg c1, if_pos (show (-1000000 : Int) < 1000000 by decide)]
              by_cases c2 : w ≤ 1000000
              · rw [if_pos c2, if_pos (show -1000000 ≤ w by omega)]; omega
              · rw [if_neg c2]
          have hl : (((v :: u :: l).length : Nat) : Int) - 2 = (l.length : Nat) := by simp; omega
          rw [ce, hl]
          refine ⟨_, rfl, g_X3_worth_177 HF H3 H ic2 ⟨by omega, by rw [al2]; simp at len h64; omega, nx _ (he.put rfl) ⟨wr_eq _ _ _ _, hs.2.2.congr (fun k hk => wr_ne _ _ _ _ _ _ (by omega))⟩⟩⟩
  have w := main n 0 z (by omega) (Ex.refl _ _) trivial
  rw [show fr + ((0 : Nat) : Int) = fr by omega] at w
  exact w
end WW
