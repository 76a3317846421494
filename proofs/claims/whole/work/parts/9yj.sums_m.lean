/-! reading: whole sums and facts of the reference -/
section QF
variable {sc : List Int} {d : Nat} {m : Mem} {Q : Option AV → Mem → Prop} {T : Int → Int} {n : Nat} {rl : Bool} {σ : Stt}
def C_qt (a j : Int) : Prop := C_qs a j ∨ (a = 62 ∧ j = 116)
/-- codes and stack, and the token at hand -/
def MTs (T : Int → Int) (n : Nat) (rl : Bool) (m : Mem) (σ : Stt) (q S : List Int) (o : Nat) : Prop := Tm m T n ∧ MRu m rl ∧ MSt T n m σ ∧ MKs m q S o ∧ q.length + S.length ≤ σ.1
theorem Tm.t {z : Mem} (h : Tm m T n) (e : Ex C_qt m z) : Tm z T n := h.ex e (fun a j q c => by unfold C_qt C_qs C_lk C_k at c; unfold IsW at q; omega)
theorem MRu.t {z : Mem} (h : MRu m rl) (e : Ex C_qt m z) : MRu z rl := (e 62 54 (fun c => by unfold C_qt C_qs C_lk C_k at c; omega)).trans h
theorem qt_q {z : Mem} (e : Ex C_qs m z) : Ex C_qt m z := e.mono (fun _ _ q => Or.inl q)
def FltK (m : Mem) (e : Int × Int) : Prop := MEr m e ∧ 0 ≤ m 62 112 ∧ m 62 112 ≤ 1660
/-- what reading leaves -/
def RPost (T : Int → Int) (n : Nat) (rl : Bool) (m : Mem) (q S : List Int) (o : Nat) (R : Rs) (z : Mem) : Prop := Ex C_qt m z ∧ match R with
  | .error e => FltK z e
  | .ok x => MTs T n rl z x.1 (q ++ x.2) S o
theorem K112 (h : ∃ q S o, MKs m q S o) : 0 ≤ m 62 112 ∧ m 62 112 ≤ 1660 := by
  obtain ⟨q, S, o, h⟩ := h
  have k1 := h.1
  have k8 := h.2.2.2.2.2.2.2
  omega
theorem s_qSums {wb : List Int} (hwb : ∀ t ∈ wb, 10 ≤ t) (hd : 12 ≤ d) {k o : Nat} {q : List Int} (ho : o + k = 6) (h : MTs T n rl m σ q wb o) : P_X8_qSums sc d [aR 62] m (fun v z => v = none ∧ z 62 116 = m 62 116 ∧ RPost T n rl m q wb o (rdSum T n rl k σ) z) := by
  obtain ⟨ht, hu, hs, hk, hl⟩ := h
  have n1 := ht.1
  have sn := hs.1
  refine ep_X8_qSums (g_X8_qSums_0 ?_)
  have h3 := hk.2.2.1
  have yE : Ex C_qt m (wr m 62 116 (m 62 114)) := (Ex.refl C_qt m).put (Or.inr ⟨rfl, rfl⟩)
  have y1 : Ex (fun a j => a = 62 ∧ j = 116) m (wr m 62 116 (m 62 114)) := (Ex.refl _ m).put ⟨rfl, rfl⟩
  have yt := ht.t yE
  have yu := hu.t yE
  have ys : MSt T n (wr m 62 116 (m 62 114)) σ := hs.ex y1 (fun a j q c => by unfold C_lk at q; omega)
  have yk : MKs (wr m 62 116 (m 62 114)) q wb o := hk.ex y1 (fun a j q c => by unfold C_k at q; omega)
  have y116 : wr m 62 116 (m 62 114) 62 116 = (wb.length : Nat) := by rw [wr_eq]; exact h3
  generalize wr m 62 116 (m 62 114) = y at yE yt yu ys yk y116 ⊢
  obtain ⟨F, hF⟩ := run_sum (rl := rl) (σ := σ) n1 ht.by (k := k) (q := q) (o := o) ho hs.1
  -- the end
  have ext : ∀ z : Mem, Ex C_qt m z → Ex C_qt m (wr z 62 116 (m 62 116)) ∧ wr z 62 116 (m 62 116) 62 116 = m 62 116 := fun z e => ⟨e.put (Or.inr ⟨rfl, rfl⟩), wr_eq _ _ _ _⟩
  have endE : ∀ (z : Mem) (e : Int × Int), Ex C_qt m z → FltK z e → rdSum T n rl k σ = .error e → S_X8_qSums sc d 53 [aR 62, aI (m 62 116), aU] [] z (fun v z => v = none ∧ z 62 116 = m 62 116 ∧ RPost T n rl m q wb o (rdSum T n rl k σ) z) := by
    intro z e ze hz hr
    refine g_X8_qSums_53 ⟨hz.1.ne.2, fun _ => ⟨rfl, (ext z ze).2, (ext z ze).1, ?_⟩, fun g => absurd hz.1.ne.1 g⟩
    rw [hr]
    obtain ⟨h1, h2⟩ := hz
    have e1 : Ex (fun a j => a = 62 ∧ j = 116) z (wr z 62 116 (m 62 116)) := (Ex.refl _ z).put ⟨rfl, rfl⟩
    exact ⟨⟨(e1 62 5 (by decide)).trans h1.1, (e1 62 6 (by decide)).trans h1.2.1, h1.2.2⟩, by rw [e1 62 112 (by decide)]; exact h2⟩
  have endO : ∀ (w q' : List Int) (τ : Stt) (z : Mem), Ex C_qt m z → MSt T n z τ → MKs z q' (w ++ wb) o → z 62 116 = (wb.length : Nat) → q'.length + w.length + wb.length ≤ τ.1 → (∃ c, rdSum T n rl k σ = .ok (τ, c) ∧ q ++ c = q' ++ w) → S_X8_qSums sc d 53 [aR 62, aI (m 62 116), aU] [] z (fun v z => v = none ∧ z 62 116 = m 62 116 ∧ RPost T n rl m q wb o (rdSum T n rl k σ) z) := by
    intro w
    induction w with
    | nil =>
      intro q' τ z ze zs zk z116 zl hr
      have z3 := zk.2.2.1
      have b5 := zs.2.1.1
      have k8 := zk.2.2.2.2.2.2.2
      rw [List.nil_append] at z3 k8
      refine g_X8_qSums_53 ⟨by omega, fun g => absurd b5 g, fun _ => ⟨by omega, by omega, fun _ => ⟨rfl, (ext z ze).2, (ext z ze).1, ?_⟩, fun g => by omega⟩⟩
      obtain ⟨c, hc1, hc2⟩ := hr
      rw [hc1]
      have e1 : Ex (fun a j => a = 62 ∧ j = 116) z (wr z 62 116 (m 62 116)) := (Ex.refl _ z).put ⟨rfl, rfl⟩
      rw [List.append_nil] at hc2
      show MTs T n rl _ τ (q ++ c) wb o
      rw [hc2]
      exact ⟨ht.t (ext z ze).1, hu.t (ext z ze).1, zs.ex e1 (fun a j q c => by unfold C_lk at q; omega), zk.ex e1 (fun a j q c => by unfold C_k at q; omega), by rw [List.length_nil] at zl; omega⟩
    | cons t w ih =>
      intro q' τ z ze zs zk z116 zl hr
      have z3 := zk.2.2.1
      have b5 := zs.2.1.1
      have k8 := zk.2.2.2.2.2.2.2
      have lw : (w ++ wb).length = w.length + wb.length := List.length_append
      rw [List.cons_append, List.length_cons] at z3 k8
      refine g_X8_qSums_53 ⟨by omega, fun g => absurd b5 g, fun _ => ⟨by omega, by omega, fun g => by omega, fun _ => ?_⟩⟩
      refine p_X8_qSums_72 (d2 := d - 1) (s_qDrops (t := t) (S := w ++ wb) zk (by omega)) (by omega) ?_
      rintro u ⟨-, ue, uk⟩
      refine g_X8_qSums_75 (ih (q' ++ [t]) τ u (ze.trans (qt_q (q_k ue))) (zs.k ue) uk (b116 z116 (q_k ue)) (by rw [List.length_cons] at zl; rw [List.length_append, List.length_singleton]; omega) ?_)
      obtain ⟨c, hc1, hc2⟩ := hr
      exact ⟨c, hc1, by rw [hc2, List.append_assoc]; rfl⟩
  -- what the machine answers, is the sum
  obtain ⟨r, hr, hrE, hrO⟩ : ∃ r, run T n rl F true σ (q, [], o) = some r ∧ (∀ e, r = .error e → rdSum T n rl k σ = .error e) ∧ (∀ τ q' w o', r = .ok (τ, (q', w, o')) → o' = o ∧ ∃ c, rdSum T n rl k σ = .ok (τ, c) ∧ q ++ c = q' ++ w) := by
    cases e1 : rdSum T n rl k σ with
    | error e =>
      rw [e1] at hF
      exact ⟨_, hF, fun e2 g => by cases g; rfl, fun τ q' w o' g => by cases g⟩
    | ok x =>
      rw [e1] at hF
      obtain ⟨q', ops, h1, h2⟩ := hF
      refine ⟨_, h2, fun e2 g => (by cases g), fun τ q2 w o' g => ?_⟩
      cases g
      exact ⟨rfl, x.2, rfl, by rw [← h1, List.append_assoc]⟩
  have key : ∀ (N f : Nat) (z : Mem) (τ : Stt) (x : Xs), f ≤ N → run T n rl f true τ x = some r → Ex C_qt m z → MQs T n rl wb z τ x → S_X8_qSums sc d 15 [aR 62, aI (m 62 116), aI 1] [] z (fun v z => v = none ∧ z 62 116 = m 62 116 ∧ RPost T n rl m q wb o (rdSum T n rl k σ) z) := by
    intro N
    induction N with
    | zero => intro f z τ x hf hr; rw [show f = 0 by omega] at hr; cases hr
    | succ N ih =>
      intro f z τ x hf hr ze hz
      have b5 := hz.2.2.2.1.2.1.1
      refine g_X8_qSums_15 ⟨by omega, fun g => absurd g (by decide), fun _ => ⟨by omega, fun g => absurd b5 g, fun _ => ?_⟩⟩
      refine p_X8_qSums_27 (d2 := d - 1) (s_qPartTold (by omega) f z τ x.1 x.2.1 x.2.2 r hr hz) (by omega) ?_
      rintro y ⟨-, ye, ⟨e, g1, g2, g3⟩ | ⟨f', τ2, x2, g1, g2, g3⟩⟩
      · refine g_X8_qSums_30 ⟨g2.ne.2, fun _ => ?_, fun g => absurd g2.ne.1 g⟩
        refine g_X8_qSums_15 ⟨by omega, fun _ => endE y e (ze.trans (qt_q ye)) ⟨g2, K112 g3⟩ (hrE e g1), fun g => absurd rfl g⟩
      · have b6 := g3.2.2.2.1.2.1.1
        refine g_X8_qSums_30 ⟨by omega, fun g => absurd b6 g, fun _ => ?_⟩
        refine p_X8_qSums_38 (d2 := d - 1) (s_qGoesOn hwb (by omega) f' y τ2 x2.1 x2.2.1 x2.2.2 r g2 g3) (by omega) ?_
        rintro v u ⟨ue, ⟨e, f2, τ3, x3, i1, i2, i3⟩ | ⟨e, ⟨e2, i1, i2, i3⟩ | ⟨τ3, x3, i1, i2⟩⟩⟩ <;> cases e
        · exact g_X8_qSums_41 ⟨by omega, ih f2 u τ3 x3 (by omega) i2 ((ze.trans (qt_q ye)).trans (qt_q ue)) i3⟩
        · refine g_X8_qSums_41 ⟨by omega, g_X8_qSums_15 ⟨by decide, fun _ => endE u e2 ((ze.trans (qt_q ye)).trans (qt_q ue)) ⟨i2, K112 i3⟩ (hrE e2 i1), fun g => absurd (if_pos rfl) g⟩⟩
        · obtain ⟨q3, w3, o3⟩ := x3
          obtain ⟨oe, hc⟩ := hrO τ3 q3 w3 o3 i1
          subst oe
          refine g_X8_qSums_41 ⟨by omega, g_X8_qSums_15 ⟨by decide, fun _ => endO w3 q3 τ3 u ((ze.trans (qt_q ye)).trans (qt_q ue)) i2.2.2.2.1 i2.2.2.2.2.1 i2.2.2.1 i2.2.2.2.2.2.1 hc, fun g => absurd (if_pos rfl) g⟩⟩
  exact key F F y σ (q, [], o) (Nat.le_refl _) hr yE ⟨yt, yu, y116, ys, yk, by show q.length + 0 + wb.length ≤ σ.1; omega, Nat.zero_le _⟩
theorem s_qCodeE {e : Int × Int} {c : Int} (h : FltK m e) : P_X8_qCode sc d [aR 62, aI c] m (fun v z => v = none ∧ Ex C_k m z ∧ MEr z e ∧ z 62 112 = m 62 112 + 1) := by
  obtain ⟨h1, h2⟩ := h
  have ze : Ex C_k m (wr (wr m 148 (m 62 112) c) 62 112 (((wr m 148 (m 62 112) c) 62 112) + 1)) := ((Ex.refl C_k m).put (Or.inr (Or.inl rfl))).put (Or.inl ⟨rfl, Or.inl rfl⟩)
  exact ep_X8_qCode (g_X8_qCode_0 ⟨by omega, by omega, rfl, ze, h1.k ze, by rw [wr_eq, wr_na _ _ _ _ _ _ (by decide)]⟩)
def FPost (T : Int → Int) (n : Nat) (rl : Bool) (m : Mem) (q S : List Int) (o : Nat) (R : Rs) (z : Mem) : Prop := Ex C_qt m z ∧ match R with
  | .error e => MEr z e
  | .ok x => MTs T n rl z x.1 (q ++ x.2) S o
def factR (T : Int → Int) (n : Nat) (rl : Bool) (k : Nat) (σ : Stt) : Rs := if wE T n σ = 27 then .ok (nx T n σ, [13]) else fact0 T n (rdSum T n rl k) σ
theorem MTs.lk {z : Mem} {q S : List Int} {o : Nat} {τ : Stt} (h : MTs T n rl m σ q S o) (e : Ex C_lk m z) (hs : MSt T n z τ) (hτ : σ.1 ≤ τ.1) : MTs T n rl z τ q S o := ⟨h.1.lk e, h.2.1.lk e, hs, h.2.2.2.1.lk e, Nat.le_trans h.2.2.2.2 hτ⟩
theorem RPost.pre {y z : Mem} {q S : List Int} {o : Nat} {R : Rs} (he : Ex C_qt m y) (h : RPost T n rl y q S o R z) : RPost T n rl m q S o R z := ⟨he.trans h.1, h.2⟩
theorem s_qFact {wb : List Int} (hwb : ∀ t ∈ wb, 10 ≤ t) (hd : 14 ≤ d) {k o : Nat} {q : List Int} (ho : o + k = 6) (h : MTs T n rl m σ q wb o) : P_X8_qFact sc d [aR 62] m (fun v z => v = none ∧ FPost T n rl m q wb o (factR T n rl k σ) z) := by
  have ht := h.1
  have hk := h.2.2.2.1
  have n1 := ht.1
  have hl := h.2.2.2.2
  refine ep_X8_qFact (g_X8_qFact_0 (p_X8_qFact_5 (d2 := d - 1) (wrd_at (iw (by decide))).1 (s_takes (c := 136) (iw (by decide)) ht h.2.2.1 (by omega)) (by omega) ?_))
  rintro v z ⟨ze, ⟨e, g1, g2⟩ | ⟨e, g1, g2⟩⟩ <;> cases e
  · have g1 : wE T n σ = 27 := g1
    have nn := @nx_of T n σ (wE_n g1 (by decide))
    have s2 := h.lk ze g2 (by omega)
    refine g_X8_qFact_8 ⟨by omega, fun g => absurd g (by decide), fun _ => ?_⟩
    refine p_X8_qFact_14 (d2 := d - 1) (s_qCode s2.2.2.2.1 (by omega)) (by omega) ?_
    rintro u ⟨-, ue, uk⟩
    refine g_X8_qFact_17 ⟨rfl, (qt_q (q_lk ze)).trans (qt_q (q_k ue)), ?_⟩
    unfold factR
    rw [if_pos g1]
    refine ⟨s2.1.k ue, s2.2.1.k ue, s2.2.2.1.k ue, uk, ?_⟩
    rw [List.length_append, List.length_singleton]
    show q.length + 1 + wb.length ≤ (nx T n σ).1
    omega
  · have g1 : ¬ wE T n σ = 27 := g1
    have s2 := h.lk ze g2.1 (Nat.le_refl _)
    have zQ := qt_q (q_lk ze)
    have fe : factR T n rl k σ = fact0 T n (rdSum T n rl k) σ := by unfold factR; rw [if_neg g1]
    rw [fe]
    unfold fact0
    refine g_X8_qFact_8 ⟨by omega, fun _ => ?_, fun g => absurd rfl g⟩
    refine p_X8_qFact_19 (d2 := d - 1) (s_qSums hwb (by omega) ho s2) (by omega) ?_
    rintro y ⟨-, -, ye, hy⟩
    cases e1 : rdSum T n rl k σ with
    | error e =>
      rw [e1] at hy
      have hy : FltK y e := hy
      exact g_X8_qFact_22 ⟨hy.1.ne.2, fun g => absurd g hy.1.ne.1, fun _ => ⟨rfl, zQ.trans ye, hy.1⟩⟩
    | ok x =>
      rw [e1] at hy
      have hy : MTs T n rl y x.1 (q ++ x.2) wb o := hy
      have b5 := hy.2.2.1.2.1.1
      have tb := hy.1.by
      refine g_X8_qFact_22 ⟨by omega, fun _ => ?_, fun g => absurd b5 g⟩
      refine p_X8_qFact_31 (d2 := d - 1) (s_look hy.1 hy.2.2.1) (by omega) ?_
      rintro _ u ⟨e, ue, ul⟩; cases e
      have lb := @lk_bd T n x.1 tb
      have s60 := lk_sign (T := T) (n := n) (σ := x.1) (c := 60) (Or.inr (by decide)) tb
      have s62 := lk_sign (T := T) (n := n) (σ := x.1) (c := 62) (Or.inr (by decide)) tb
      have s61 := lk_sign (T := T) (n := n) (σ := x.1) (c := 61) (Or.inr (by decide)) tb
      have su := hy.lk ue ul.1 (Nat.le_refl _)
      have uQ := (zQ.trans ye).trans (qt_q (q_lk ue))
      show S_X8_qFact sc d 34 _ _ u (fun v z => v = none ∧ FPost T n rl m q wb o (if kd T n x.1 = 60 ∨ kd T n x.1 = 62 ∨ kd T n x.1 = 61 then (rdSum T n rl k (nx T n x.1)).bind fun y => .ok (y.1, x.2 ++ y.2 ++ [cmpC (kd T n x.1)]) else .error (1, x.1.1)) z)
      have go : (kd T n x.1 = 60 ∨ kd T n x.1 = 62 ∨ kd T n x.1 = 61) → lkC T n x.1 = kd T n x.1 → S_X8_qFact sc d 74 [aR 62, aI (lkC T n x.1)] [aR 62] (wr u 62 2 ((u 62 2) + 1)) (fun v z => v = none ∧ FPost T n rl m q wb o (if kd T n x.1 = 60 ∨ kd T n x.1 = 62 ∨ kd T n x.1 = 61 then (rdSum T n rl k (nx T n x.1)).bind fun y => .ok (y.1, x.2 ++ y.2 ++ [cmpC (kd T n x.1)]) else .error (1, x.1.1)) z) := by
        intro g gl
        rw [if_pos g]
        have nn := @nx_of T n x.1 (by omega)
        have s3 := ul.go (c := kd T n x.1) (by unfold IsS; omega) rfl
        have e3 : Ex C_lk u (wr u 62 2 (u 62 2 + 1)) := (Ex.refl C_lk u).put ⟨rfl, by decide, by decide, by decide, by decide, by decide⟩
        generalize wr u 62 2 (u 62 2 + 1) = u2 at s3 e3 ⊢
        have t3 := su.lk e3 s3 (by omega)
        refine p_X8_qFact_74 (d2 := d - 1) (s_qSums hwb (by omega) ho t3) (by omega) ?_
        rintro a ⟨-, -, ae, ha⟩
        have cc : (if lkC T n x.1 ≠ 60 then (if lkC T n x.1 ≠ 62 then 9 else 8 : Int) else 7 : Int) = cmpC (kd T n x.1) := by
          rw [gl]; unfold cmpC
          by_cases g6 : kd T n x.1 = 60
          · rw [if_neg (fun q => q g6), if_pos g6]
          · rw [if_pos g6, if_neg g6]
            by_cases g7 : kd T n x.1 = 62
            · rw [if_neg (fun q => q g7), if_pos g7]
            · rw [if_pos g7, if_neg g7]
        refine g_X8_qFact_77 ⟨by omega, ?_⟩
        rw [cc]
        have aQ := (uQ.trans (qt_q (q_lk e3))).trans ae
        cases e2 : rdSum T n rl k (nx T n x.1) with
        | error e =>
          rw [e2] at ha
          have ha : FltK a e := ha
          refine p_X8_qFact_102 (d2 := d - 1) (s_qCodeE (e := e) ha) (by omega) ?_
          rintro b ⟨-, be, hb⟩
          exact g_X8_qFact_105 ⟨rfl, aQ.trans (qt_q (q_k be)), hb.1⟩
        | ok y2 =>
          rw [e2] at ha
          have ha : MTs T n rl a y2.1 (q ++ x.2 ++ y2.2) wb o := ha
          have l3 := ha.2.2.2.2
          have an := ha.2.2.1.1
          have cs := cnt_sum (T := T) (n := n) (rl := rl) k _ y2 nn.2 e2
          refine p_X8_qFact_102 (d2 := d - 1) (s_qCode ha.2.2.2.1 (by omega)) (by omega) ?_
          rintro b ⟨-, be, hb⟩
          refine g_X8_qFact_105 ⟨rfl, aQ.trans (qt_q (q_k be)), ha.1.k be, ha.2.1.k be, ha.2.2.1.k be, ?_, ?_⟩
          · show MKs b (q ++ (x.2 ++ y2.2 ++ [cmpC (kd T n x.1)])) wb o
            rw [show q ++ (x.2 ++ y2.2 ++ [cmpC (kd T n x.1)]) = q ++ x.2 ++ y2.2 ++ [cmpC (kd T n x.1)] by simp only [List.append_assoc]]
            exact hb
          · have hx := hy.2.2.2.2
            show (q ++ (x.2 ++ y2.2 ++ [cmpC (kd T n x.1)])).length + wb.length ≤ y2.1.1
            rw [List.length_append] at hx
            rw [List.length_append, List.length_append, List.length_append, List.length_singleton]
            omega
      refine g_X8_qFact_34 ⟨by omega, fun g => go (Or.inl (s60.mp g)) (by rw [s60.mp g]; exact g), fun g1 => ⟨fun g => go (Or.inr (Or.inl (s62.mp g))) (by rw [s62.mp g]; exact g), fun g2 => ⟨fun g => go (Or.inr (Or.inr (s61.mp g))) (by rw [s61.mp g]; exact g), fun g3 => ?_⟩⟩⟩
      rw [if_neg (by rintro (g | g | g); exact g1 (s60.mpr g); exact g2 (s62.mpr g); exact g3 (s61.mpr g))]
      refine p_X8_qFact_59 (d2 := d - 1) (s_X8_fail ul.1.2.1.1 (by decide) (ul.pl n1)) (by omega) ?_
      rintro a ⟨-, ae, er⟩
      rw [ul.2] at er
      exact g_X8_qFact_62 ⟨rfl, uQ.trans (qt_q (q_lk ae)), er⟩
end QF
