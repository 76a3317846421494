/-! reading: whole tests of the reference -/
section QL
variable {sc : List Int} {d : Nat} {m : Mem} {Q : Option AV → Mem → Prop} {T : Int → Int} {n : Nat} {rl : Bool} {σ : Stt}
theorem s_qTest (hd : 20 ≤ d) (h : MTs T n rl m σ [] [] 0) : P_X8_qTest sc d [aR 62] m (fun v z => v = none ∧ FPost T n rl m [] [] 0 (rdTest T n rl 6 σ) z) := by
  obtain ⟨F, hF⟩ := run_test (T := T) (rl := rl) (σ := σ) h.1.1 h.2.2.1.1
  obtain ⟨r, hr, hrE, hrO⟩ : ∃ r, runT T n rl F true σ ([], [], 0) = some r ∧ (∀ e, r = .error e → rdTest T n rl 6 σ = .error e) ∧ (∀ τ q' w o', r = .ok (τ, (q', w, o')) → o' = 0 ∧ rdTest T n rl 6 σ = .ok (τ, q' ++ w)) := by
    cases e1 : rdTest T n rl 6 σ with
    | error e =>
      rw [e1] at hF
      exact ⟨_, hF, fun e2 g => by cases g; rfl, fun τ q' w o' g => by cases g⟩
    | ok x =>
      rw [e1] at hF
      obtain ⟨q', ops, h1, h2⟩ := hF
      refine ⟨_, h2, fun e2 g => (by cases g), fun τ q2 w o' g => ?_⟩
      cases g
      exact ⟨rfl, by rw [h1]⟩
  refine ep_X8_qTest (g_X8_qTest_0 ?_)
  have endE : ∀ (z : Mem) (e : Int × Int), Ex C_qt m z → MEr z e → rdTest T n rl 6 σ = .error e → S_X8_qTest sc d 110 [aR 62, aU, aU] [] z (fun v z => v = none ∧ FPost T n rl m [] [] 0 (rdTest T n rl 6 σ) z) := by
    intro z e ze hz hr
    refine g_X8_qTest_110 ⟨hz.ne.2, fun _ => ⟨rfl, ze, ?_⟩, fun g => absurd hz.ne.1 g⟩
    rw [hr]; exact hz
  have errL : ∀ (z : Mem) (e : Int × Int) (l1 : Int), R32 l1 → Ex C_qt m z → MEr z e → rdTest T n rl 6 σ = .error e → S_X8_qTest sc d 2 [aR 62, aI l1, aU] [] z (fun v z => v = none ∧ FPost T n rl m [] [] 0 (rdTest T n rl 6 σ) z) := by
    intro z e l1 hl ze hz hr
    exact g_X8_qTest_2 ⟨hl, fun _ => endE z e ze hz hr, fun _ => ⟨hz.ne.2, fun _ => endE z e ze hz hr, fun g => absurd hz.ne.1 g⟩⟩
  have endO : ∀ (w q' : List Int) (τ : Stt) (z : Mem), Ex C_qt m z → MTs T n rl z τ q' w 0 → rdTest T n rl 6 σ = .ok (τ, q' ++ w) → S_X8_qTest sc d 110 [aR 62, aU, aU] [] z (fun v z => v = none ∧ FPost T n rl m [] [] 0 (rdTest T n rl 6 σ) z) := by
    intro w
    induction w with
    | nil =>
      intro q' τ z ze hz hr
      have h3 := hz.2.2.2.1.2.2.1
      have b5 := hz.2.2.1.2.1.1
      rw [List.length_nil] at h3
      refine g_X8_qTest_110 ⟨by omega, fun g => absurd b5 g, fun _ => ⟨by omega, fun _ => ⟨rfl, ze, ?_⟩, fun g => by omega⟩⟩
      rw [hr, List.append_nil]
      exact hz
    | cons t w ih =>
      intro q' τ z ze hz hr
      have h3 := hz.2.2.2.1.2.2.1
      have h8 := hz.2.2.2.1.2.2.2.2.2.2.2
      have b5 := hz.2.2.1.2.1.1
      have hl := hz.2.2.2.2
      rw [List.length_cons] at h3 hl h8
      refine g_X8_qTest_110 ⟨by omega, fun g => absurd b5 g, fun _ => ⟨by omega, fun g => by omega, fun _ => ?_⟩⟩
      refine p_X8_qTest_125 (d2 := d - 1) (s_qDrops hz.2.2.2.1 (by omega)) (by omega) ?_
      rintro u ⟨-, ue, hu⟩
      have lq : (q' ++ [t]).length = q'.length + 1 := by rw [List.length_append]; rfl
      refine g_X8_qTest_128 (ih (q' ++ [t]) τ u (ze.trans (qt_q (q_k ue))) ⟨hz.1.k ue, hz.2.1.k ue, hz.2.2.1.k ue, hu, by omega⟩ (by rw [hr, List.append_assoc]; rfl))
  have key : ∀ (N f : Nat) (z : Mem) (τ : Stt) (q w : List Int) (o : Nat), f ≤ N → runT T n rl f true τ (q, w, o) = some r → Ex C_qt m z → MVs T n rl z τ (q, w, o) → S_X8_qTest sc d 2 [aR 62, aI 1, aU] [] z (fun v z => v = none ∧ FPost T n rl m [] [] 0 (rdTest T n rl 6 σ) z) := by
    intro N
    induction N with
    | zero => intro f z τ q w o hf hr; rw [show f = 0 by omega] at hr; cases hr
    | succ N ih =>
      intro f z τ q w o hf hr ze hz
      cases f with
      | zero => cases hr
      | succ f =>
      rw [runT] at hr
      obtain ⟨hy, h10, ho⟩ := hz
      have hy : MTs T n rl z τ q w o := hy
      have h10 : ∀ t ∈ w, 10 ≤ t := h10
      have ho : opn w ≤ o := ho
      have ht := hy.1
      have n1 := ht.1
      have sn := hy.2.2.1.1
      have hl := hy.2.2.2.2
      have b5 := hy.2.2.1.2.1.1
      have o6 := hy.2.2.2.1.2.2.2.2.2.2.1
      refine g_X8_qTest_2 ⟨by decide, fun g => absurd g (by decide), fun _ => ⟨by omega, fun g => absurd b5 g, fun _ => ?_⟩⟩
      refine p_X8_qTest_14 (d2 := d - 1) (s_look ht hy.2.2.1) (by omega) ?_
      rintro _ z1 ⟨e, e1, l1⟩; cases e
      have z1z := hy.lk e1 l1.1 (Nat.le_refl _)
      have lb := @lk_bd T n τ ht.by
      have s91 := lk_sign (T := T) (n := n) (σ := τ) (c := 91) (Or.inr (by decide)) ht.by
      have M1 := ze.trans (qt_q (q_lk e1))
      refine g_X8_qTest_17 ⟨by omega, fun c => ?_, fun c => ?_⟩
      · have c91 : ¬ kd T n τ = 91 := fun g => c (s91.mpr g)
        rw [if_neg c91] at hr
        refine p_X8_qTest_52 (d2 := d - 1) (wrd_at (iw (by decide))).1 (s_isHere (c := 133) (iw (by decide)) z1z.1 l1.1 (by omega)) (by omega) ?_
        rintro _ z2 ⟨e, e2, l2⟩; cases e
        rw [show wOf 133 = 26 from rfl]
        have z2z := z1z.lk e2 l2.1 (Nat.le_refl _)
        have M2 := M1.trans (qt_q (q_lk e2))
        by_cases g : wE T n τ = 26
        · -- not
          rw [if_pos g] at hr
          rw [if_pos (show wE T n τ = ((26 : Nat) : Int) from g)]
          have nn := @nx_of T n τ (wE_n g (by decide))
          refine g_X8_qTest_55 ⟨by decide, fun q => absurd q (by decide), fun _ => ?_⟩
          refine p_X8_qTest_65 (d2 := d - 1) (s_qOpens (t := 12) l2.1.2.1.1 z2z.2.2.2.1 (by decide) (by omega) (l2.pl n1) (by omega)) (by omega) ?_
          rintro z6 ⟨-, ⟨o6, e6, er⟩ | ⟨o6, e6, k6⟩⟩
          · rw [if_pos o6] at hr
            cases hr
            rw [l2.2] at er
            refine g_X8_qTest_68 (p_X8_qTest_73 (d2 := d - 1) (wrd_at (iw (by decide))).1 (asksE (c := 133) (iw (by decide)) er) (by omega) ?_)
            rintro _ ⟨-, rfl⟩
            exact g_X8_qTest_76 (errL _ _ 1 (by decide) (M2.trans (qt_q (q_lk e6))) er (hrE _ rfl))
          · rw [if_neg o6] at hr
            refine g_X8_qTest_68 (p_X8_qTest_73 (d2 := d - 1) (wrd_at (iw (by decide))).1 (s_asks (c := 133) (iw (by decide)) (z2z.1.k e6) (l2.1.k e6) (by omega)) (by omega) ?_)
            rintro z7 ⟨-, e7, ⟨-, s7⟩ | ⟨q7, -⟩⟩
            · refine g_X8_qTest_76 (ih f z7 (nx T n τ) q (12 :: w) (o + 1) (by omega) hr ((M2.trans (qt_q (q_k e6))).trans (qt_q (q_lk e7))) ⟨⟨(z2z.1.k e6).lk e7, (z2z.2.1.k e6).lk e7, s7, k6.lk e7, ?_⟩, ?_, ?_⟩)
              · show q.length + (12 :: w).length ≤ (nx T n τ).1
                rw [List.length_cons]; omega
              · intro t ht
                rcases List.mem_cons.mp ht with g | g
                · omega
                · exact h10 t g
              · show opn (12 :: w) ≤ o + 1
                rw [opn_c (by decide)]; omega
            · exact absurd g q7
        · -- a fact
          rw [if_neg g] at hr
          rw [if_neg (show ¬ wE T n τ = ((26 : Nat) : Int) from g)]
          refine g_X8_qTest_55 ⟨by decide, fun _ => ?_, fun q => absurd rfl q⟩
          have cf : (∀ e, factR T n rl (6 - o) τ = .error e → r = .error e) ∧ ∀ x, factR T n rl (6 - o) τ = .ok x → runT T n rl f false x.1 (dropN w o (q ++ x.2)) = some r := by
            unfold factR
            by_cases c27 : wE T n τ = 27
            · rw [if_pos c27] at hr ⊢
              exact ⟨fun e g => (by cases g), fun x g => by cases g; exact hr⟩
            · rw [if_neg c27] at hr ⊢
              cases e0 : fact0 T n (rdSum T n rl (6 - o)) τ with
              | error e => rw [e0] at hr; cases hr; exact ⟨fun e g => by cases g; rfl, fun x g => by cases g⟩
              | ok x => rw [e0] at hr; exact ⟨fun e g => (by cases g), fun x g => by cases g; exact hr⟩
          refine p_X8_qTest_80 (d2 := d - 1) (s_qFact (k := 6 - o) h10 (by omega) (by omega) z2z) (by omega) ?_
          rintro y ⟨-, ye, hy3⟩
          have MY := M2.trans ye
          cases e0 : factR T n rl (6 - o) τ with
          | error e =>
            rw [e0] at hy3
            have hy3 : MEr y e := hy3
            have re := hrE e (cf.1 e e0)
            refine g_X8_qTest_83 (p_X8_qTest_84 (d2 := d - 1) (P := fun v u => v = none ∧ u = y) (ep_X8_qDropsNots (g_X8_qDropsNots_0 ⟨hy3.ne.2, fun _ => ⟨rfl, rfl⟩, fun g => absurd hy3.ne.1 g⟩)) (by omega) ?_)
            rintro _ ⟨-, rfl⟩
            exact g_X8_qTest_87 ⟨hy3.ne.2, fun _ => errL _ e 0 (by decide) MY hy3 re, fun g => absurd hy3.ne.1 g⟩
          | ok x =>
            rw [e0] at hy3
            have hy3 : MTs T n rl y x.1 (q ++ x.2) w o := hy3
            have hr2 := cf.2 x e0
            obtain ⟨d1, d2, d3⟩ := @dropN_all w (q ++ x.2) o
            refine g_X8_qTest_83 (p_X8_qTest_84 (d2 := d - 1) (s_qDropsNots (by omega) w (q ++ x.2) o y hy3.2.2.1.2.1.1 ho hy3.2.2.2.1) (by omega) ?_)
            rintro u ⟨-, ue, hu⟩
            have us := hy3.2.2.1.k ue
            have u5 := us.2.1.1
            have hx := hy3.2.2.2.2
            refine g_X8_qTest_87 ⟨by omega, fun g => absurd u5 g, fun _ => ?_⟩
            refine p_X8_qTest_95 (d2 := d - 1) (s_qGoesOnTest (by omega) f u x.1 _ r hr2 ⟨⟨hy3.1.k ue, hy3.2.1.k ue, us, hu, by omega⟩, d3 h10, d2 ho⟩) (by omega) ?_
            rintro v a ⟨ae, ⟨e, f2, τ3, x3, i1, i2, i3⟩ | ⟨e, ⟨e2, i1, i2⟩ | ⟨τ3, x3, i1, i2⟩⟩⟩ <;> cases e
            · exact g_X8_qTest_98 ⟨by decide, ih f2 a τ3 x3.1 x3.2.1 x3.2.2 (by omega) i2 ((MY.trans (qt_q (q_k ue))).trans ae) i3⟩
            · refine g_X8_qTest_98 ⟨by decide, ?_⟩
              rw [if_pos (show (0 : Int) = 0 from rfl)]
              exact errL a e2 0 (by decide) ((MY.trans (qt_q (q_k ue))).trans ae) i2 (hrE e2 i1)
            · obtain ⟨q3, w3, o3⟩ := x3
              obtain ⟨oe, hc⟩ := hrO τ3 q3 w3 o3 i1
              subst oe
              refine g_X8_qTest_98 ⟨by decide, ?_⟩
              rw [if_pos (show (0 : Int) = 0 from rfl)]
              exact g_X8_qTest_2 ⟨by decide, fun _ => endO w3 q3 τ3 a ((MY.trans (qt_q (q_k ue))).trans ae) i2.1 hc, fun g => absurd rfl g⟩
      · have c91 : kd T n τ = 91 := s91.mp (Classical.not_not.mp c)
        rw [if_pos c91] at hr
        have nn := @nx_of T n τ (by omega)
        refine p_X8_qTest_31 (d2 := d - 1) (s_qOpens (t := 25) l1.1.2.1.1 z1z.2.2.2.1 (by decide) (by omega) (l1.pl n1) (by omega)) (by omega) ?_
        rintro z6 ⟨-, ⟨o6, e6, er⟩ | ⟨o6, e6, k6⟩⟩
        · rw [if_pos o6] at hr
          cases hr
          rw [l1.2] at er
          exact g_X8_qTest_34 (errL _ _ 1 (by decide) ((M1.trans (qt_q (q_lk e6))).trans (qt_q (q_lk ((Ex.refl C_lk z6).put ⟨rfl, by decide, by decide, by decide, by decide, by decide⟩)))) er.at2 (hrE _ rfl))
        · rw [if_neg o6] at hr
          have l6 : MLk T n z6 τ := ⟨l1.1.k e6, (e6 62 2 (fun c => by unfold C_k at c; omega)).trans l1.2⟩
          have s7 := l6.go (Or.inr (by decide)) c91
          have e7 : Ex C_lk z6 (wr z6 62 2 (z6 62 2 + 1)) := (Ex.refl C_lk z6).put ⟨rfl, by decide, by decide, by decide, by decide, by decide⟩
          refine g_X8_qTest_34 (ih f _ (nx T n τ) q (25 :: w) (o + 1) (by omega) hr ((M1.trans (qt_q (q_k e6))).trans (qt_q (q_lk e7))) ⟨⟨(z1z.1.k e6).lk e7, (z1z.2.1.k e6).lk e7, s7, k6.lk e7, ?_⟩, ?_, ?_⟩)
          · show q.length + (25 :: w).length ≤ (nx T n τ).1
            rw [List.length_cons]; omega
          · intro t ht
            rcases List.mem_cons.mp ht with g | g
            · omega
            · exact h10 t g
          · show opn (25 :: w) ≤ o + 1
            rw [opn_c (by decide)]; omega
  exact key F F m σ [] [] 0 (Nat.le_refl _) hr (Ex.refl _ _) ⟨h, fun t ht => absurd ht List.not_mem_nil, Nat.zero_le _⟩
end QL
