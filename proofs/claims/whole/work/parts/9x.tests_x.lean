/-! reading: tests of the class -/
section XT
variable {sc : List Int} {d : Nat} {m : Mem} {Q : Option AV → Mem → Prop} {T : Int → Int} {n : Nat} {rl : Bool} {F : Int}
def OkFact (sc : List Int) (T : Int → Int) (n : Nat) (rl : Bool) (F : Int) (k d0 : Nat) : Prop := ∀ (d : Nat) (m : Mem) (r : Rs), d0 ≤ d → XR T n rl F m r → Slk n r → P_X5_fact sc d [aR 32, aI (6 - (k : Int))] m (PR T n rl F m (apR (rdFact T n rl k) r))
def OkBoth (sc : List Int) (T : Int → Int) (n : Nat) (rl : Bool) (F : Int) (k d0 : Nat) : Prop := ∀ (d : Nat) (m : Mem) (r : Rs), d0 ≤ d → XR T n rl F m r → Slk n r → P_X5_both sc d [aR 32, aI (6 - (k : Int))] m (PR T n rl F m (apR (rdBoth T n rl k) r))
def OkTest (sc : List Int) (T : Int → Int) (n : Nat) (rl : Bool) (F : Int) (k d0 : Nat) : Prop := ∀ (d : Nat) (m : Mem) (r : Rs), d0 ≤ d → XR T n rl F m r → Slk n r → P_X5_test sc d [aR 32, aI (6 - (k : Int))] m (PR T n rl F m (apR (rdTest T n rl k) r))
theorem s_both {k d0 : Nat} (hk : k ≤ 6) (h7 : 7 ≤ d0) (HP : OkFact sc T n rl F k d0) : OkBoth sc T n rl F k (d0 + 1) := by
  intro d m r hd h hs
  refine ep_X5_both (g_X5_both_0 (p_X5_both_2 (d2 := d - 1) (HP (d - 1) m r (by omega) h hs) (by omega) ?_))
  rintro z ⟨-, ze, hz⟩
  refine g_X5_both_5 ?_
  have hc := apR_chain (op := opA T n) (p := rdFact T n rl k) (r := r) (T := T) (n := n)
  rw [show apR (rdBoth T n rl k) r = (apR (rdFact T n rl k) r).bind (lLoop T n (opA T n) (rdFact T n rl k) 1600) from hc]
  have hs2 := hs.ap (cnt_fact (T := T) (rl := rl) k)
  generalize apR (rdFact T n rl k) r = r at hz hs2
  have lp : ∀ (f i : Nat) (z : Mem) (r : Rs), i + f = 1600 → Ex (C_rd F) m z → XR T n rl F z r → Slk n r → S_X5_both sc d 7 [aR 32, aI (6 - (k : Int)), aI i] [] z (PR T n rl F m (r.bind (lLoop T n (opA T n) (rdFact T n rl k) f))) := by
    intro f
    induction f with
    | zero =>
      intro i z r hi ze hz hs
      refine g_X5_both_7 ⟨by omega, fun _ => ⟨rfl, ze, ?_⟩, fun c => absurd (by omega) c⟩
      cases r with
      | ok x => exact hz
      | error e => exact hz
    | succ f ih =>
      intro i z r hi ze hz hs
      refine g_X5_both_7 ⟨by omega, fun c => absurd c (by omega), fun _ => ?_⟩
      refine p_X5_both_17 (d2 := d - 1) (s_isWord hz (by decide)) (by omega) ?_
      rintro _ z ⟨e, rfl⟩; cases e
      refine g_X5_both_20 ⟨by split <;> omega, fun c => ?_, fun c => ?_⟩
      · refine ⟨rfl, ze, ?_⟩
        cases r with
        | ok x =>
          show XR T n rl F z (lLoop T n (opA T n) (rdFact T n rl k) (f + 1) x)
          rw [loop_end (by unfold opA; rw [if_neg (fun g => by rw [if_pos (show wEE T n (.ok x) = 25 from g)] at c; omega)])]
          exact hz
        | error e => exact hz
      · have wc : wEE T n r = 25 := Classical.byContradiction (fun g => c (if_neg g))
        cases r with
        | error e => exact absurd wc (by show ¬ (-1 : Int) = 25; omega)
        | ok x =>
          have wx : wE T n x.1 = 25 := wc
          have ov : opA T n x.1 = 10 := by unfold opA; rw [if_pos wx]
          have oc : opA T n x.1 ≠ 0 := by rw [ov]; decide
          show S_X5_both sc d 24 _ _ z (PR T n rl F m (lLoop T n (opA T n) (rdFact T n rl k) (f + 1) x))
          rw [loop_step oc, ov]
          obtain ⟨s1, s2⟩ := hs.ad (T := T) (fun y e => by cases e; exact opA_kd _ oc)
          refine p_X5_both_24 (d2 := d - 1) (s_advance hz (by omega)) (by omega) ?_
          rintro y ⟨-, ye, hy⟩
          refine g_X5_both_27 (p_X5_both_29 (d2 := d - 1) (HP (d - 1) y _ (by omega) hy s1) (by omega) ?_)
          rintro u ⟨-, ue, hu⟩
          have s3 := s1.ap (cnt_fact (T := T) (rl := rl) k)
          have s4 := s1.ap2 s2 (cnt_fact (T := T) (rl := rl) k)
          obtain ⟨f1, f2⟩ := hu.F11
          refine g_X5_both_32 ?_
          rw [f1]
          refine p_X5_both_38 (d2 := d - 1) f2 (s_put (c := 10) hu (by simp [stepRel]) (fun y e => by have := s4 y e; omega)) (by omega) ?_
          rintro w ⟨-, we, hw⟩
          refine g_X5_both_41 ?_
          rw [show ((i : Nat) : Int) + 1 = ((i + 1 : Nat) : Int) by omega]
          exact ih (i + 1) w _ (by omega) (((ze.trans ye).trans ue).trans we) hw (s3.pt s4)
  exact lp 1600 0 z r (by omega) ze hz hs2
theorem s_test {k d0 : Nat} (hk : k ≤ 6) (h7 : 7 ≤ d0) (HP : OkBoth sc T n rl F k d0) : OkTest sc T n rl F k (d0 + 1) := by
  intro d m r hd h hs
  refine ep_X5_test (g_X5_test_0 (p_X5_test_2 (d2 := d - 1) (HP (d - 1) m r (by omega) h hs) (by omega) ?_))
  rintro z ⟨-, ze, hz⟩
  refine g_X5_test_5 ?_
  have hc := apR_chain (op := opO T n) (p := rdBoth T n rl k) (r := r) (T := T) (n := n)
  rw [show apR (rdTest T n rl k) r = (apR (rdBoth T n rl k) r).bind (lLoop T n (opO T n) (rdBoth T n rl k) 1600) from hc]
  have hs2 := hs.ap (cnt_both (T := T) (rl := rl) k)
  generalize apR (rdBoth T n rl k) r = r at hz hs2
  have lp : ∀ (f i : Nat) (z : Mem) (r : Rs), i + f = 1600 → Ex (C_rd F) m z → XR T n rl F z r → Slk n r → S_X5_test sc d 7 [aR 32, aI (6 - (k : Int)), aI i] [] z (PR T n rl F m (r.bind (lLoop T n (opO T n) (rdBoth T n rl k) f))) := by
    intro f
    induction f with
    | zero =>
      intro i z r hi ze hz hs
      refine g_X5_test_7 ⟨by omega, fun _ => ⟨rfl, ze, ?_⟩, fun c => absurd (by omega) c⟩
      cases r with
      | ok x => exact hz
      | error e => exact hz
    | succ f ih =>
      intro i z r hi ze hz hs
      refine g_X5_test_7 ⟨by omega, fun c => absurd c (by omega), fun _ => ?_⟩
      refine p_X5_test_17 (d2 := d - 1) (s_isWord hz (by decide)) (by omega) ?_
      rintro _ z ⟨e, rfl⟩; cases e
      refine g_X5_test_20 ⟨by split <;> omega, fun c => ?_, fun c => ?_⟩
      · refine ⟨rfl, ze, ?_⟩
        cases r with
        | ok x =>
          show XR T n rl F z (lLoop T n (opO T n) (rdBoth T n rl k) (f + 1) x)
          rw [loop_end (by unfold opO; rw [if_neg (fun g => by rw [if_pos (show wEE T n (.ok x) = 24 from g)] at c; omega)])]
          exact hz
        | error e => exact hz
      · have wc : wEE T n r = 24 := Classical.byContradiction (fun g => c (if_neg g))
        cases r with
        | error e => exact absurd wc (by show ¬ (-1 : Int) = 24; omega)
        | ok x =>
          have wx : wE T n x.1 = 24 := wc
          have ov : opO T n x.1 = 11 := by unfold opO; rw [if_pos wx]
          have oc : opO T n x.1 ≠ 0 := by rw [ov]; decide
          show S_X5_test sc d 24 _ _ z (PR T n rl F m (lLoop T n (opO T n) (rdBoth T n rl k) (f + 1) x))
          rw [loop_step oc, ov]
          obtain ⟨s1, s2⟩ := hs.ad (T := T) (fun y e => by cases e; exact opO_kd _ oc)
          refine p_X5_test_24 (d2 := d - 1) (s_advance hz (by omega)) (by omega) ?_
          rintro y ⟨-, ye, hy⟩
          refine g_X5_test_27 (p_X5_test_29 (d2 := d - 1) (HP (d - 1) y _ (by omega) hy s1) (by omega) ?_)
          rintro u ⟨-, ue, hu⟩
          have s3 := s1.ap (cnt_both (T := T) (rl := rl) k)
          have s4 := s1.ap2 s2 (cnt_both (T := T) (rl := rl) k)
          obtain ⟨f1, f2⟩ := hu.F11
          refine g_X5_test_32 ?_
          rw [f1]
          refine p_X5_test_38 (d2 := d - 1) f2 (s_put (c := 11) hu (by simp [stepRel]) (fun y e => by have := s4 y e; omega)) (by omega) ?_
          rintro w ⟨-, we, hw⟩
          refine g_X5_test_41 ?_
          rw [show ((i : Nat) : Int) + 1 = ((i + 1 : Nat) : Int) by omega]
          exact ih (i + 1) w _ (by omega) (((ze.trans ye).trans ue).trans we) hw (s3.pt s4)
  exact lp 1600 0 z r (by omega) ze hz hs2
theorem fact_eq {k : Nat} {σ : Stt} : rdFact T n rl k σ = lFact T n (rdFact T n rl (k - 1)) (rdTest T n rl (k - 1)) (rdSum T n rl k) k σ := by
  cases k with
  | zero =>
    unfold rdFact lFact
    rw [if_pos rfl, if_pos rfl, if_pos rfl, if_pos rfl]
  | succ k => rfl
theorem s_fact {k d0 : Nat} (hk : k ≤ 6) (h7 : 9 ≤ d0) (HF : ∀ k', k = k' + 1 → OkFact sc T n rl F k' d0) (HT : ∀ k', k = k' + 1 → OkTest sc T n rl F k' d0) (HS : OkSum sc T n rl F k d0) : OkFact sc T n rl F k (d0 + 1) := by
  intro d m r hd h hs
  have n1 := h.1.1
  have h4 := h.k4
  have k32 := kd32 h
  refine ep_X5_fact (g_X5_fact_0 (p_X5_fact_3 (d2 := d - 1) (s_isWord h (by decide)) (by omega) ?_))
  rintro _ m ⟨e, rfl⟩; cases e
  refine g_X5_fact_6 ⟨by split <;> omega, fun q => ?_, fun q => ?_⟩
  · have w26 : wEE T n r ≠ 26 := fun g => by rw [if_pos g] at q; omega
    refine ⟨k32, fun c => ?_, fun c => ?_⟩
    · refine p_X5_fact_78 (d2 := d - 1) (s_isWord h (by decide)) (by omega) ?_
      rintro _ m ⟨e, rfl⟩; cases e
      refine g_X5_fact_81 ⟨by split <;> omega, fun q => ?_, fun q => ?_⟩
      · -- two sums
        have w27 : wEE T n r ≠ 27 := fun g => by rw [if_pos g] at q; omega
        have pe : ∀ x, r = .ok x → rdFact T n rl k x.1 = (rdSum T n rl k x.1).bind fun x => if kd T n x.1 = 60 ∨ kd T n x.1 = 62 ∨ kd T n x.1 = 61 then (rdSum T n rl k (nx T n x.1)).bind fun y => .ok (y.1, x.2 ++ y.2 ++ [cmpC (kd T n x.1)]) else .error (1, x.1.1) := by
          intro x e
          subst e
          have e4 := h.kok
          rw [fact_eq]
          unfold lFact
          rw [if_neg (show ¬ wE T n x.1 = 26 from w26), if_neg (by omega), if_neg (show ¬ wE T n x.1 = 27 from w27)]
        refine p_X5_fact_101 (d2 := d - 1) (HS (d - 1) m r (by omega) h hs) (by omega) ?_
        rintro z ⟨-, ze, hz⟩
        have sz := hs.ap (cnt_sum (T := T) (rl := rl) k)
        have z32 := kd32 hz
        have zn := hz.1.1
        -- in the class the state behind the first sum, whole
        have go : (z 32 4 = 60 ∨ z 32 4 = 62 ∨ z 32 4 = 61) → S_X5_fact sc d 173 [aR 32, aI (6 - (k : Int)), aI (if (z 32 4) ≠ 60 then (if (z 32 4) ≠ 62 then (-21) else (-20) : Int) else (-19) : Int)] [aR 32] z (PR T n rl F m (apR (rdFact T n rl k) r)) := by
          intro g
          cases r with
          | error e => have := XR.err (T := T) (n := n) (rl := rl) (F := F) (e := e) hz; omega
          | ok x =>
            have pe := pe x rfl
            show S_X5_fact sc d 173 _ _ z (PR T n rl F m ((rdFact T n rl k x.1).bind _))
            rw [pe]
            clear pe
            have hz2 : XR T n rl F z ((rdSum T n rl k x.1).bind fun y => .ok (y.1, x.2 ++ y.2)) := hz
            have sz2 : Slk n ((rdSum T n rl k x.1).bind fun y => .ok (y.1, x.2 ++ y.2)) := sz
            cases ea : rdSum T n rl k x.1 with
            | error e => rw [ea] at hz2; have := XR.err (T := T) (n := n) (rl := rl) (F := F) (e := e) hz2; omega
            | ok a =>
              rw [ea] at hz2 sz2
              have hz3 : XR T n rl F z (.ok (a.1, x.2 ++ a.2)) := hz2
              have sz3 : Slk n (.ok (a.1, x.2 ++ a.2)) := sz2
              have e4 : z 32 4 = kd T n a.1 := hz3.kok
              obtain ⟨s1, s2⟩ := sz3.ad (T := T) (fun y e => by cases e; show kd T n a.1 ≠ 258; omega)
              have st : stepRel (if (z 32 4) ≠ 60 then (if (z 32 4) ≠ 62 then (-21) else (-20) : Int) else (-19) : Int) (cmpC (kd T n a.1)) := by
                unfold cmpC; rw [← e4]
                rcases g with g | g | g <;> rw [g] <;> simp [stepRel]
              refine p_X5_fact_173 (d2 := d - 1) (s_advance hz3 (by omega)) (by omega) ?_
              rintro y ⟨-, ye, hy⟩
              refine g_X5_fact_176 (p_X5_fact_178 (d2 := d - 1) (HS (d - 1) y _ (by omega) hy s1) (by omega) ?_)
              rintro u ⟨-, ue, hu⟩
              have s4 := s1.ap2 s2 (cnt_sum (T := T) (rl := rl) k)
              obtain ⟨f1, f2⟩ := hu.F11
              refine g_X5_fact_181 ?_
              rw [f1]
              refine p_X5_fact_186 (d2 := d - 1) f2 (s_put hu st (fun y e => by have := s4 y e; omega)) (by omega) ?_
              rintro w ⟨-, we, hw⟩
              refine g_X5_fact_189 ⟨rfl, ((ze.trans ye).trans ue).trans we, ?_⟩
              show XR T n rl F w ((if kd T n a.1 = 60 ∨ kd T n a.1 = 62 ∨ kd T n a.1 = 61 then (rdSum T n rl k (nx T n a.1)).bind fun y => .ok (y.1, a.2 ++ y.2 ++ [cmpC (kd T n a.1)]) else .error (1, a.1.1)).bind _)
              rw [if_pos (by omega)]
              revert hw
              show XR T n rl F w (ptR _ ((rdSum T n rl k (nx T n a.1)).bind fun y => .ok (y.1, x.2 ++ a.2 ++ y.2))) → _
              cases rdSum T n rl k (nx T n a.1) with
              | error e => exact fun hw => hw
              | ok b =>
                show XR T n rl F w (.ok (b.1, x.2 ++ a.2 ++ b.2 ++ [cmpC (kd T n a.1)])) → XR T n rl F w (.ok (b.1, x.2 ++ (a.2 ++ b.2 ++ [cmpC (kd T n a.1)])))
                rw [List.append_assoc, List.append_assoc, List.append_assoc]; exact fun hw => hw
        refine g_X5_fact_104 ⟨z32, z32, fun g => go (Or.inl g), fun g => ⟨fun g2 => go (Or.inr (Or.inl g2)), fun g2 => ⟨fun g3 => go (Or.inr (Or.inr g3)), fun g3 => ?_⟩⟩⟩
        refine p_X5_fact_168 (d2 := d - 1) (s_fail (k := 1) hz (by decide) (fun x e => ?_)) (by omega) ?_
        · rw [e] at hz; rw [hz.s3]; have : x.1.1 ≤ n := hz.2.2.2.2.2.1; omega
        · rintro y ⟨-, ye, hy⟩
          refine g_X5_fact_171 ⟨rfl, ze.trans ye, ?_⟩
          cases r with
          | error e => exact hy
          | ok x =>
            have pe := pe x rfl
            show XR T n rl F y ((rdFact T n rl k x.1).bind _)
            rw [pe]
            revert hy hz
            show XR T n rl F z ((rdSum T n rl k x.1).bind fun y => .ok (y.1, x.2 ++ y.2)) → XR T n rl F y (((rdSum T n rl k x.1).bind fun y => .ok (y.1, x.2 ++ y.2)).bind fun _ => .error (1, z 32 3)) → _
            cases rdSum T n rl k x.1 with
            | error e => exact fun _ hy => hy
            | ok a =>
              intro hz hy
              have e4 : z 32 4 = kd T n a.1 := XR.kok (x := (a.1, x.2 ++ a.2)) hz
              have e3 : z 32 3 = (a.1.1 : Nat) := XR.s3 (x := (a.1, x.2 ++ a.2)) hz
              show XR T n rl F y ((if kd T n a.1 = 60 ∨ kd T n a.1 = 62 ∨ kd T n a.1 = 61 then (rdSum T n rl k (nx T n a.1)).bind fun y => .ok (y.1, a.2 ++ y.2 ++ [cmpC (kd T n a.1)]) else .error (1, a.1.1)).bind _)
              rw [if_neg (by omega), ← e3]
              exact hy
      · -- all
        have w27 : wEE T n r = 27 := Classical.byContradiction (fun g => q (if_neg g))
        refine p_X5_fact_85 (d2 := d - 1) (s_advance h (by omega)) (by omega) ?_
        rintro y ⟨-, ye, hy⟩
        cases r with
        | error e => exact absurd w27 (by show ¬ (-1 : Int) = 27; omega)
        | ok x =>
          have x27 : wE T n x.1 = 27 := w27
          have k2 := wE_kd x27 (by decide)
          have sy := hs.ad (T := T) (fun x' e => by cases e; rw [k2]; decide)
          obtain ⟨f1, f2⟩ := hy.F11
          refine g_X5_fact_88 ?_
          rw [f1]
          refine p_X5_fact_93 (d2 := d - 1) f2 (s_put (c := 13) hy (by simp [stepRel]) (fun y e => by have := sy.2 y e; omega)) (by omega) ?_
          rintro u ⟨-, ue, hu⟩
          refine g_X5_fact_96 (g_X5_fact_189 ⟨rfl, ye.trans ue, ?_⟩)
          show XR T n rl F u ((rdFact T n rl k x.1).bind _)
          rw [fact_eq]
          unfold lFact
          rw [if_neg (by omega), if_neg (by rw [k2]; decide), if_pos x27]
          exact hu
    · -- in brackets
      cases r with
      | error e => have := h.err; omega
      | ok x =>
        have e4 := h.kok
        have k2 : kd T n x.1 = 91 := by omega
        have pe : rdFact T n rl k x.1 = if k = 0 then .error (4, x.1.1) else (rdTest T n rl (k - 1) (nx T n x.1)).bind fun x => exS T n 93 x := by
          rw [fact_eq]
          unfold lFact
          rw [if_neg (show ¬ wE T n x.1 = 26 from w26), if_pos k2]
        refine p_X5_fact_50 (d2 := d - 1) (s_enter h hk (by omega)) (by omega) ?_
        rintro y ⟨-, ye, hy⟩
        cases k with
        | zero =>
          refine g_X5_fact_53 ⟨by omega, fun _ => g_X5_fact_189 ⟨rfl, ye, ?_⟩, fun q => absurd (by omega) q⟩
          rw [if_pos rfl] at pe
          show XR T n rl F y ((rdFact T n rl 0 x.1).bind _)
          rw [pe]; exact hy
        | succ k =>
          rw [if_neg (Nat.succ_ne_zero k)] at pe
          refine g_X5_fact_53 ⟨by omega, fun q => by omega, fun _ => ?_⟩
          rw [open_s]
          have hy2 : XR T n rl F y (nxR T n (.ok x)) := hy
          have sy := hs.ad (T := T) (fun x' e => by cases e; rw [k2]; decide)
          refine p_X5_fact_63 (d2 := d - 1) (HT k rfl (d - 1) y _ (by omega) hy2 sy.1) (by omega) ?_
          rintro u ⟨-, ue, hu⟩
          refine g_X5_fact_66 (p_X5_fact_69 (d2 := d - 1) (s_expectSign hu (by decide) (by omega)) (by omega) ?_)
          rintro o ⟨-, oe, ho⟩
          refine g_X5_fact_72 (g_X5_fact_189 ⟨rfl, (ye.trans ue).trans oe, ?_⟩)
          show XR T n rl F o ((rdFact T n rl (k + 1) x.1).bind _)
          rw [pe, show k + 1 - 1 = k from rfl]
          revert ho
          show XR T n rl F o (((rdTest T n rl k (nx T n x.1)).bind fun y => .ok (y.1, x.2 ++ y.2)).bind (exS T n 93)) → _
          cases rdTest T n rl k (nx T n x.1) with
          | error e => exact fun ho => ho
          | ok a =>
            show XR T n rl F o (if kd T n a.1 = 93 then _ else _) → XR T n rl F o ((if kd T n a.1 = 93 then _ else _ : Rs).bind _)
            by_cases q : kd T n a.1 = 93
            · rw [if_pos q, if_pos q]; exact fun ho => ho
            · rw [if_neg q, if_neg q]; exact fun ho => ho
  · -- not
    have w26 : wEE T n r = 26 := Classical.byContradiction (fun g => q (if_neg g))
    refine p_X5_fact_11 (d2 := d - 1) (s_enter h hk (by omega)) (by omega) ?_
    rintro y ⟨-, ye, hy⟩
    cases r with
    | error e => exact absurd w26 (by show ¬ (-1 : Int) = 26; omega)
    | ok x =>
      have x26 : wE T n x.1 = 26 := w26
      have k2 := wE_kd x26 (by decide)
      have pe : rdFact T n rl k x.1 = if k = 0 then .error (4, x.1.1) else (rdFact T n rl (k - 1) (nx T n x.1)).bind fun x => .ok (x.1, x.2 ++ [12]) := by
        rw [fact_eq]
        unfold lFact
        rw [if_pos x26]
      cases k with
      | zero =>
        refine g_X5_fact_14 ⟨by omega, fun _ => g_X5_fact_189 ⟨rfl, ye, ?_⟩, fun q => absurd (by omega) q⟩
        rw [if_pos rfl] at pe
        show XR T n rl F y ((rdFact T n rl 0 x.1).bind _)
        rw [pe]; exact hy
      | succ k =>
        rw [if_neg (Nat.succ_ne_zero k)] at pe
        refine g_X5_fact_14 ⟨by omega, fun q => by omega, fun _ => ?_⟩
        rw [open_s]
        have hy2 : XR T n rl F y (nxR T n (.ok x)) := hy
        have sy := hs.ad (T := T) (fun x' e => by cases e; rw [k2]; decide)
        refine p_X5_fact_24 (d2 := d - 1) (HF k rfl (d - 1) y _ (by omega) hy2 sy.1) (by omega) ?_
        rintro u ⟨-, ue, hu⟩
        have su := sy.1.ap2 sy.2 (cnt_fact (T := T) (rl := rl) k)
        obtain ⟨g1, g2⟩ := hu.F11
        refine g_X5_fact_27 ?_
        rw [g1]
        refine p_X5_fact_33 (d2 := d - 1) g2 (s_put (c := 12) hu (by simp [stepRel]) (fun y e => by have := su y e; omega)) (by omega) ?_
        rintro o ⟨-, oe, ho⟩
        refine g_X5_fact_36 (g_X5_fact_189 ⟨rfl, (ye.trans ue).trans oe, ?_⟩)
        show XR T n rl F o ((rdFact T n rl (k + 1) x.1).bind _)
        rw [pe, show k + 1 - 1 = k from rfl]
        revert ho
        show XR T n rl F o (ptR 12 ((rdFact T n rl k (nx T n x.1)).bind fun y => .ok (y.1, x.2 ++ y.2))) → _
        cases rdFact T n rl k (nx T n x.1) with
        | error e => exact fun ho => ho
        | ok a =>
          show XR T n rl F o (.ok (a.1, x.2 ++ a.2 ++ [12])) → XR T n rl F o (.ok (a.1, x.2 ++ (a.2 ++ [12])))
          rw [List.append_assoc]; exact fun ho => ho
theorem okFacts : ∀ k : Nat, k ≤ 6 → OkFact sc T n rl F k (60 + 5 * k) ∧ OkTest sc T n rl F k (62 + 5 * k) := by
  intro k
  induction k with
  | zero =>
    intro hk
    have p : OkFact sc T n rl F 0 60 := s_fact (d0 := 59) (by omega) (by omega) (fun k' e => by omega) (fun k' e => by omega) (fun d m r hd => (okParts 0 (by omega)).2 d m r (by omega))
    exact ⟨p, s_test (by omega) (by omega) (s_both (by omega) (by omega) p)⟩
  | succ k ih =>
    intro hk
    obtain ⟨i1, i2⟩ := ih (by omega)
    have p : OkFact sc T n rl F (k + 1) (60 + 5 * (k + 1)) := fun d m r hd => s_fact (d0 := 64 + 5 * k) hk (by omega) (fun k' e => by cases e; exact fun d m r hd => i1 d m r (by omega)) (fun k' e => by cases e; exact fun d m r hd => i2 d m r (by omega)) (fun d m r hd => (okParts (k + 1) hk).2 d m r (by omega)) d m r (by omega)
    exact ⟨p, fun d m r hd => s_test (by omega) (by omega) (s_both (by omega) (by omega) p) d m r (by omega)⟩
end XT
