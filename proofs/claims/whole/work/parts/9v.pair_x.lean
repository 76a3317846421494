/-! reading: parts of the class; tests -/
section XV
variable {sc : List Int} {d : Nat} {m : Mem} {Q : Option AV → Mem → Prop} {T : Int → Int} {n : Nat} {rl : Bool} {F : Int}
theorem open_s {k : Nat} : 6 - ((k + 1 : Nat) : Int) + 1 = 6 - (k : Int) := by omega
theorem kd32 {r : Rs} (h : XR T n rl F m r) : R32 (m 32 4) := by have := h.k4; unfold R32; omega
theorem s_pair {k d0 : Nat} {w : Int} (hk : k ≤ 6) (hw : w = 28 ∨ w = 29) (h7 : 8 ≤ d0) (HS : ∀ k', k = k' + 1 → OkSum sc T n rl F k' d0) (hd : d0 + 1 ≤ d) {r : Rs} (h : XR T n rl F m r) (hs : Slk n r) (hw2 : ∀ x, r = .ok x → wE T n x.1 = w) :
    P_X5_pair sc d [aR 32, aI (6 - (k : Int)), aI (if w = 28 then -17 else -18)] m (PR T n rl F m (apR (rdPart T n rl k) r)) := by
  have n1 := h.1.1
  refine ep_X5_pair (g_X5_pair_0 (p_X5_pair_1 (d2 := d - 1) (s_advance h (by omega)) (by omega) ?_))
  rintro z ⟨-, ze, hz⟩
  have h4 := hz.k4
  have lw : lPart T n rl = lPart T n rl := rfl
  -- what the pure reader does
  have pure1 : ∀ x, r = .ok x → rdPart T n rl k x.1 = if kd T n (nx T n x.1) ≠ 40 then .error (1, (nx T n x.1).1) else if k = 0 then .error (4, (nx T n x.1).1) else
      (rdSum T n rl (k - 1) (nx T n (nx T n x.1))).bind fun x' => (exS T n 44 x').bind fun y => (rdSum T n rl (k - 1) y.1).bind fun z => (exS T n 41 (z.1, y.2 ++ z.2)).bind fun u => .ok (u.1, u.2 ++ [if w = 28 then 5 else 6]) := by
    intro x e
    have e1 := hw2 x e
    have k2 := wE_kd e1 (by omega)
    cases k with
    | zero => unfold rdPart lPart; rw [if_neg (by rw [k2]; decide), if_neg (by rw [k2]; decide), if_pos (by rw [e1]; exact hw), if_pos rfl, if_pos rfl]
    | succ k => unfold rdPart lPart; rw [if_neg (by rw [k2]; decide), if_neg (by rw [k2]; decide), if_pos (by rw [e1]; exact hw), if_neg (Nat.succ_ne_zero k), if_neg (Nat.succ_ne_zero k), e1]; rfl
  have sn := hs.ad (T := T) (fun x e => wE_n (hw2 x e) (by omega))
  by_cases c : z 32 4 = 40
  · refine g_X5_pair_4 ⟨kd32 hz, fun _ => ?_, fun q => absurd c q⟩
    cases r with
    | error e => have := XR.err (T := T) (n := n) (rl := rl) (F := F) (e := e) hz; omega
    | ok x =>
      have e4 : z 32 4 = kd T n (nx T n x.1) := XR.kok (x := (nx T n x.1, x.2)) hz
      have ek : kd T n (nx T n x.1) = 40 := by omega
      have p1 := pure1 x rfl
      rw [if_neg (fun q => q ek)] at p1
      refine p_X5_pair_25 (d2 := d - 1) (s_enter hz hk (by omega)) (by omega) ?_
      rintro y ⟨-, ye, hy⟩
      cases k with
      | zero =>
        refine g_X5_pair_28 ⟨by omega, fun _ => g_X5_pair_68 ⟨rfl, ze.trans ye, ?_⟩, fun q => absurd (by omega) q⟩
        rw [if_pos rfl] at p1
        show XR T n rl F y ((rdPart T n rl 0 x.1).bind _)
        rw [p1]
        exact hy
      | succ k =>
        rw [if_neg (Nat.succ_ne_zero k)] at p1
        refine g_X5_pair_28 ⟨by omega, fun q => by omega, fun _ => ?_⟩
        rw [open_s]
        have hy2 : XR T n rl F y (nxR T n (nxR T n (.ok x))) := hy
        have sy := (sn.1.ad (T := T) (fun x' e => by cases e; rw [ek]; decide))
        refine p_X5_pair_38 (d2 := d - 1) (HS k rfl (d - 1) y _ (by omega) hy2 sy.1) (by omega) ?_
        rintro u ⟨-, ue, hu⟩
        have su := sy.1.ap (cnt_sum (T := T) (rl := rl) k)
        refine g_X5_pair_41 (p_X5_pair_44 (d2 := d - 1) (s_expectSign hu (by decide) (by omega)) (by omega) ?_)
        rintro v ⟨-, ve, hv⟩
        have sv := su.ex (T := T) (c := 44) (by decide)
        refine g_X5_pair_47 ?_
        rw [open_s]
        refine p_X5_pair_51 (d2 := d - 1) (HS k rfl (d - 1) v _ (by omega) hv sv.1) (by omega) ?_
        rintro w1 ⟨-, we, hw1⟩
        have sw := sv.1.ap (cnt_sum (T := T) (rl := rl) k)
        refine g_X5_pair_54 (p_X5_pair_57 (d2 := d - 1) (s_expectSign hw1 (by decide) (by omega)) (by omega) ?_)
        rintro t ⟨-, te, ht⟩
        have st := sw.ex (T := T) (c := 41) (by decide)
        obtain ⟨f1, f2⟩ := ht.F11
        refine g_X5_pair_60 ?_
        rw [f1]
        have sr : stepRel (if w = 28 then -17 else -18) (if w = 28 then 5 else 6) := by rcases hw with e | e <;> subst e <;> simp [stepRel]
        refine p_X5_pair_65 (d2 := d - 1) f2 (s_put ht sr (fun y e => by have := st.2 y e; omega)) (by omega) ?_
        rintro o ⟨-, oe, ho⟩
        refine g_X5_pair_68 ⟨rfl, (((((ze.trans ye).trans ue).trans ve).trans we).trans te).trans oe, ?_⟩
        show XR T n rl F o ((rdPart T n rl (k + 1) x.1).bind _)
        rw [p1]
        rw [show (k + 1 - 1) = k from rfl]
        revert ho
        show XR T n rl F o (ptR _ (((apR (rdSum T n rl k) ((((rdSum T n rl k (nx T n (nx T n x.1))).bind fun y => .ok (y.1, x.2 ++ y.2)) : Rs).bind (exS T n 44)))).bind (exS T n 41))) → _
        cases rdSum T n rl k (nx T n (nx T n x.1)) with
        | error e => exact fun ho => ho
        | ok a =>
          show XR T n rl F o (ptR _ ((apR (rdSum T n rl k) (exS T n 44 (a.1, x.2 ++ a.2))).bind (exS T n 41))) → XR T n rl F o (((exS T n 44 a).bind _).bind _)
          unfold exS
          by_cases q : kd T n a.1 = 44
          · rw [if_pos q, if_pos q]
            show XR T n rl F o (ptR _ (((rdSum T n rl k (nx T n a.1)).bind _).bind _)) → XR T n rl F o (((rdSum T n rl k (nx T n a.1)).bind _).bind _)
            cases rdSum T n rl k (nx T n a.1) with
            | error e => exact fun ho => ho
            | ok b =>
              show XR T n rl F o (ptR _ (if kd T n b.1 = 41 then _ else _)) → XR T n rl F o (((if kd T n b.1 = 41 then _ else _) : Rs).bind _ |>.bind _)
              by_cases q2 : kd T n b.1 = 41
              · rw [if_pos q2, if_pos q2]
                show XR T n rl F o (.ok (nx T n b.1, (x.2 ++ a.2 ++ b.2) ++ [if w = 28 then 5 else 6])) → XR T n rl F o (.ok (nx T n b.1, x.2 ++ ((a.2 ++ b.2) ++ [if w = 28 then 5 else 6])))
                rw [List.append_assoc, List.append_assoc, List.append_assoc]
                exact fun ho => ho
              · rw [if_neg q2, if_neg q2]
                exact fun ho => ho
          · rw [if_neg q, if_neg q]
            exact fun ho => ho
  · refine g_X5_pair_4 ⟨kd32 hz, fun q => absurd q c, fun _ => ?_⟩
    refine p_X5_pair_19 (d2 := d - 1) (s_fail (k := 1) hz (by decide) (fun x e => ?_)) (by omega) ?_
    · rw [e] at hz; rw [hz.s3]; have : x.1.1 ≤ n := hz.2.2.2.2.2.1; omega
    · rintro y ⟨-, ye, hy⟩
      refine g_X5_pair_22 ⟨rfl, ze.trans ye, ?_⟩
      cases r with
      | error e => exact hy
      | ok x =>
        have e4 : z 32 4 = kd T n (nx T n x.1) := XR.kok (x := (nx T n x.1, x.2)) hz
        have e3 : z 32 3 = ((nx T n x.1).1 : Nat) := XR.s3 (x := (nx T n x.1, x.2)) hz
        have p1 := pure1 x rfl
        rw [if_pos (show kd T n (nx T n x.1) ≠ 40 by omega)] at p1
        show XR T n rl F y ((rdPart T n rl k x.1).bind _)
        rw [p1, ← e3]
        exact hy
end XV
