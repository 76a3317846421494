/-! reading: parts and sums of the class -/
section XP
variable {sc : List Int} {d : Nat} {m : Mem} {Q : Option AV → Mem → Prop} {T : Int → Int} {n : Nat} {rl : Bool} {F : Int}
theorem Slk.none {r : Rs} (h : ∀ x, r ≠ .ok x) : Slk n r := fun x e => absurd e (h x)
theorem XR.err {e : Int × Int} (h : XR T n rl F m (.error e)) : m 32 4 = 260 := h.k4.1
theorem XR.kok {x : Stt × List Int} (h : XR T n rl F m (.ok x)) : m 32 4 = kd T n x.1 := h.k4.1
theorem PR.pre {y z : Mem} {r : Rs} {v : Option AV} (he : Ex (C_rd F) m y) (h : PR T n rl F y r v z) : PR T n rl F m r v z := ⟨h.1, he.trans h.2.1, h.2.2⟩
theorem XR.F11 {r : Rs} (h : XR T n rl F m r) : m 32 11 = F ∧ FormAt F := h.2.2.1
theorem s_namedPart {r : Rs} (h : XR T n rl F m r) (hs : Slk n r) (hd : 8 ≤ d) : P_X5_namedPart sc d [aR 32] m (PR T n rl F m (namR T n rl r)) := by
  have h4 := h.k4
  have n1 := h.1.1
  have bad : (∀ x, r = .ok x → pcode rl (wE T n x.1) = 0) → S_X5_namedPart sc d 36 [aR 32, aU] [aI (m 32 3), aI 1, aR 32] m (PR T n rl F m (namR T n rl r)) := by
    intro g
    refine p_X5_namedPart_36 (d2 := d - 1) (s_fail (k := 1) h (by decide) (fun x e => ?_)) (by omega) ?_
    · subst e; rw [h.s3]; have := h.2.2.2.2.2.1; omega
    · rintro z hz
      refine g_X5_namedPart_39 ?_
      cases r with
      | ok x =>
        show PR T n rl F m (if pcode rl (wE T n x.1) = 0 then .error (1, x.1.1) else .ok (nx T n x.1, x.2 ++ [pcode rl (wE T n x.1)])) none z
        rw [if_pos (g x rfl), ← h.s3]
        exact hz
      | error e => exact hz
  refine ep_X5_namedPart (g_X5_namedPart_0 ⟨by omega, fun c => bad (fun x e => ?_), fun c => ?_⟩)
  · subst e
    by_cases q : pcode rl (wE T n x.1) = 0
    · exact q
    · exact absurd (h.kok.trans (pc_kd q)) c
  · cases r with
    | error e => have := h.err; omega
    | ok x =>
      have e4 := h.kok
      have ek : kd T n x.1 = 256 := by omega
      have e5 : m 32 5 = wi T n x.1 := h.2.2.2.2.1.2.2.2.1 ek
      have wb := @wi_bd T n x.1
      have ew : wE T n x.1 = wi T n x.1 := by unfold wE; rw [if_pos ek]
      rw [e5]
      refine p_X5_namedPart_18 (d2 := d - 1) (s_stepOf (rl := rl) (by omega) h.2.1) (by omega) ?_
      rintro v z ⟨x2, e2, rfl, q1, q2, q3⟩; cases e2
      rw [← ew] at q2 q3
      refine g_X5_namedPart_21 ⟨by omega, fun c0 => ?_, fun c0 => ?_⟩
      · have p0 : pcode rl (wE T n x.1) ≠ 0 := fun q => c0 (q2 q)
        have sl := hs x rfl
        obtain ⟨f1, f2⟩ := h.F11
        rw [f1]
        refine p_X5_namedPart_45 (d2 := d - 1) f2 (s_put h (q3 p0).2 (fun y e => by cases e; omega)) (by omega) ?_
        rintro y ⟨-, ye, hy⟩
        refine g_X5_namedPart_48 (p_X5_namedPart_49 (d2 := d - 1) (s_advance hy (by omega)) (by omega) ?_)
        rintro u hu
        refine g_X5_namedPart_52 (PR.pre ye ?_)
        show PR T n rl F y (if pcode rl (wE T n x.1) = 0 then .error (1, x.1.1) else .ok (nx T n x.1, x.2 ++ [pcode rl (wE T n x.1)])) none u
        rw [if_neg p0]
        exact hu
      · refine bad (fun y e => ?_)
        cases e
        by_cases q : pcode rl (wE T n x.1) = 0
        · exact q
        · exact absurd (fun g => (q3 q).1 g) c0
/-- contracts of the methods by how many more may be opened -/
def OkPart (sc : List Int) (T : Int → Int) (n : Nat) (rl : Bool) (F : Int) (k d0 : Nat) : Prop := ∀ (d : Nat) (m : Mem) (r : Rs), d0 ≤ d → XR T n rl F m r → Slk n r → P_X5_part sc d [aR 32, aI (6 - (k : Int))] m (PR T n rl F m (apR (rdPart T n rl k) r))
def OkProd (sc : List Int) (T : Int → Int) (n : Nat) (rl : Bool) (F : Int) (k d0 : Nat) : Prop := ∀ (d : Nat) (m : Mem) (r : Rs), d0 ≤ d → XR T n rl F m r → Slk n r → P_X5_product sc d [aR 32, aI (6 - (k : Int))] m (PR T n rl F m (apR (rdProd T n rl k) r))
def OkSum (sc : List Int) (T : Int → Int) (n : Nat) (rl : Bool) (F : Int) (k d0 : Nat) : Prop := ∀ (d : Nat) (m : Mem) (r : Rs), d0 ≤ d → XR T n rl F m r → Slk n r → P_X5_sum sc d [aR 32, aI (6 - (k : Int))] m (PR T n rl F m (apR (rdSum T n rl k) r))
theorem loop_step {op : Stt → Int} {p : Ps} {f : Nat} {x : Stt × List Int} (c : op x.1 ≠ 0) : lLoop T n op p (f + 1) x = (ptR (op x.1) (apR p (nxR T n (.ok x)))).bind (lLoop T n op p f) := by
  rw [lLoop, if_neg c]
  show (p (nx T n x.1)).bind _ = (ptR (op x.1) ((p (nx T n x.1)).bind fun y => .ok (y.1, x.2 ++ y.2))).bind _
  cases p (nx T n x.1) with
  | error e => rfl
  | ok y => rfl
theorem loop_end {op : Stt → Int} {p : Ps} {f : Nat} {x : Stt × List Int} (c : op x.1 = 0) : lLoop T n op p f x = .ok x := by
  cases f with
  | zero => rfl
  | succ f => rw [lLoop, if_pos c]
theorem s_product {k d0 : Nat} (hk : k ≤ 6) (h7 : 7 ≤ d0) (HP : OkPart sc T n rl F k d0) : OkProd sc T n rl F k (d0 + 1) := by
  intro d m r hd h hs
  refine ep_X5_product (g_X5_product_0 (p_X5_product_2 (d2 := d - 1) (HP (d - 1) m r (by omega) h hs) (by omega) ?_))
  rintro z ⟨-, ze, hz⟩
  refine g_X5_product_5 ?_
  have hc := apR_chain (op := opP T n) (p := rdPart T n rl k) (r := r) (T := T) (n := n)
  rw [show apR (rdProd T n rl k) r = (apR (rdPart T n rl k) r).bind (lLoop T n (opP T n) (rdPart T n rl k) 1600) from hc]
  have hs2 := hs.ap (cnt_part (T := T) (rl := rl) k)
  generalize apR (rdPart T n rl k) r = r at hz hs2
  have lp : ∀ (f i : Nat) (z : Mem) (r : Rs), i + f = 1600 → Ex (C_rd F) m z → XR T n rl F z r → Slk n r → S_X5_product sc d 7 [aR 32, aI (6 - (k : Int)), aI i, aU] [] z (PR T n rl F m (r.bind (lLoop T n (opP T n) (rdPart T n rl k) f))) := by
    intro f
    induction f with
    | zero =>
      intro i z r hi ze hz hs
      refine g_X5_product_7 ⟨by omega, fun _ => ⟨rfl, ze, ?_⟩, fun c => absurd (by omega) c⟩
      cases r with
      | ok x => exact hz
      | error e => exact hz
    | succ f ih =>
      intro i z r hi ze hz hs
      have h4 := hz.k4
      have stop : z 32 4 ≠ 42 → z 32 4 ≠ 47 → PR T n rl F m (r.bind (lLoop T n (opP T n) (rdPart T n rl k) (f + 1))) none z := by
        intro c1 c2
        refine ⟨rfl, ze, ?_⟩
        cases r with
        | ok x =>
          show XR T n rl F z (lLoop T n (opP T n) (rdPart T n rl k) (f + 1) x)
          rw [loop_end (by unfold opP; rw [← hz.kok, if_neg c1, if_neg c2])]
          exact hz
        | error e => exact hz
      have go : (z 32 4 = 42 ∨ z 32 4 = 47) → S_X5_product sc d 50 [aR 32, aI (6 - (k : Int)), aI i, aI (if (z 32 4) ≠ 42 then (-16) else (-15) : Int)] [aR 32] z (PR T n rl F m (r.bind (lLoop T n (opP T n) (rdPart T n rl k) (f + 1)))) := by
        intro c
        cases r with
        | error e => have := hz.err; omega
        | ok x =>
          have e4 := hz.kok
          have oc : opP T n x.1 ≠ 0 := by unfold opP; rw [← e4]; rcases c with c | c <;> rw [c] <;> decide
          have st : stepRel (if z 32 4 ≠ 42 then (-16) else (-15) : Int) (opP T n x.1) := by
            unfold opP; rw [← e4]
            rcases c with c | c <;> rw [c] <;> simp [stepRel]
          show S_X5_product sc d 50 _ _ z (PR T n rl F m (lLoop T n (opP T n) (rdPart T n rl k) (f + 1) x))
          rw [loop_step oc]
          obtain ⟨s1, s2⟩ := hs.ad (T := T) (fun y e => by cases e; exact opP_kd _ oc)
          refine p_X5_product_50 (d2 := d - 1) (s_advance hz (by omega)) (by omega) ?_
          rintro y ⟨-, ye, hy⟩
          refine g_X5_product_53 (p_X5_product_55 (d2 := d - 1) (HP (d - 1) y _ (by omega) hy s1) (by omega) ?_)
          rintro u ⟨-, ue, hu⟩
          have s3 := s1.ap (cnt_part (T := T) (rl := rl) k)
          have s4 := s1.ap2 s2 (cnt_part (T := T) (rl := rl) k)
          obtain ⟨f1, f2⟩ := hu.F11
          refine g_X5_product_58 ?_
          rw [f1]
          refine p_X5_product_63 (d2 := d - 1) f2 (s_put hu st (fun y e => by have := s4 y e; omega)) (by omega) ?_
          rintro w ⟨-, we, hw⟩
          refine g_X5_product_66 ?_
          rw [show ((i : Nat) : Int) + 1 = ((i + 1 : Nat) : Int) by omega]
          exact ih (i + 1) w _ (by omega) (((ze.trans ye).trans ue).trans we) hw (s3.pt s4)
      exact g_X5_product_7 ⟨by omega, fun c => absurd c (by omega), fun _ => ⟨by omega, fun c => go (Or.inl c), fun c => ⟨fun c2 => stop c c2, fun c2 => go (Or.inr (by omega))⟩⟩⟩
  exact lp 1600 0 z r (by omega) ze hz hs2
theorem s_sum {k d0 : Nat} (hk : k ≤ 6) (h7 : 7 ≤ d0) (HP : OkProd sc T n rl F k d0) : OkSum sc T n rl F k (d0 + 1) := by
  intro d m r hd h hs
  refine ep_X5_sum (g_X5_sum_0 (p_X5_sum_2 (d2 := d - 1) (HP (d - 1) m r (by omega) h hs) (by omega) ?_))
  rintro z ⟨-, ze, hz⟩
  refine g_X5_sum_5 ?_
  have hc := apR_chain (op := opS T n) (p := rdProd T n rl k) (r := r) (T := T) (n := n)
  rw [show apR (rdSum T n rl k) r = (apR (rdProd T n rl k) r).bind (lLoop T n (opS T n) (rdProd T n rl k) 1600) from hc]
  have hs2 := hs.ap (cnt_prod (T := T) (rl := rl) k)
  generalize apR (rdProd T n rl k) r = r at hz hs2
  have lp : ∀ (f i : Nat) (z : Mem) (r : Rs), i + f = 1600 → Ex (C_rd F) m z → XR T n rl F z r → Slk n r → S_X5_sum sc d 7 [aR 32, aI (6 - (k : Int)), aI i, aU] [] z (PR T n rl F m (r.bind (lLoop T n (opS T n) (rdProd T n rl k) f))) := by
    intro f
    induction f with
    | zero =>
      intro i z r hi ze hz hs
      refine g_X5_sum_7 ⟨by omega, fun _ => ⟨rfl, ze, ?_⟩, fun c => absurd (by omega) c⟩
      cases r with
      | ok x => exact hz
      | error e => exact hz
    | succ f ih =>
      intro i z r hi ze hz hs
      have h4 := hz.k4
      have stop : z 32 4 ≠ 43 → z 32 4 ≠ 45 → PR T n rl F m (r.bind (lLoop T n (opS T n) (rdProd T n rl k) (f + 1))) none z := by
        intro c1 c2
        refine ⟨rfl, ze, ?_⟩
        cases r with
        | ok x =>
          show XR T n rl F z (lLoop T n (opS T n) (rdProd T n rl k) (f + 1) x)
          rw [loop_end (by unfold opS; rw [← hz.kok, if_neg c1, if_neg c2])]
          exact hz
        | error e => exact hz
      have go : (z 32 4 = 43 ∨ z 32 4 = 45) → S_X5_sum sc d 50 [aR 32, aI (6 - (k : Int)), aI i, aI (if (z 32 4) ≠ 43 then (-14) else (-13) : Int)] [aR 32] z (PR T n rl F m (r.bind (lLoop T n (opS T n) (rdProd T n rl k) (f + 1)))) := by
        intro c
        cases r with
        | error e => have := hz.err; omega
        | ok x =>
          have e4 := hz.kok
          have oc : opS T n x.1 ≠ 0 := by unfold opS; rw [← e4]; rcases c with c | c <;> rw [c] <;> decide
          have st : stepRel (if z 32 4 ≠ 43 then (-14) else (-13) : Int) (opS T n x.1) := by
            unfold opS; rw [← e4]
            rcases c with c | c <;> rw [c] <;> simp [stepRel]
          show S_X5_sum sc d 50 _ _ z (PR T n rl F m (lLoop T n (opS T n) (rdProd T n rl k) (f + 1) x))
          rw [loop_step oc]
          obtain ⟨s1, s2⟩ := hs.ad (T := T) (fun y e => by cases e; exact opS_kd _ oc)
          refine p_X5_sum_50 (d2 := d - 1) (s_advance hz (by omega)) (by omega) ?_
          rintro y ⟨-, ye, hy⟩
          refine g_X5_sum_53 (p_X5_sum_55 (d2 := d - 1) (HP (d - 1) y _ (by omega) hy s1) (by omega) ?_)
          rintro u ⟨-, ue, hu⟩
          have s3 := s1.ap (cnt_prod (T := T) (rl := rl) k)
          have s4 := s1.ap2 s2 (cnt_prod (T := T) (rl := rl) k)
          obtain ⟨f1, f2⟩ := hu.F11
          refine g_X5_sum_58 ?_
          rw [f1]
          refine p_X5_sum_63 (d2 := d - 1) f2 (s_put hu st (fun y e => by have := s4 y e; omega)) (by omega) ?_
          rintro w ⟨-, we, hw⟩
          refine g_X5_sum_66 ?_
          rw [show ((i : Nat) : Int) + 1 = ((i + 1 : Nat) : Int) by omega]
          exact ih (i + 1) w _ (by omega) (((ze.trans ye).trans ue).trans we) hw (s3.pt s4)
      exact g_X5_sum_7 ⟨by omega, fun c => absurd c (by omega), fun _ => ⟨by omega, fun c => go (Or.inl c), fun c => ⟨fun c2 => stop c c2, fun c2 => go (Or.inr (by omega))⟩⟩⟩
  exact lp 1600 0 z r (by omega) ze hz hs2
end XP
