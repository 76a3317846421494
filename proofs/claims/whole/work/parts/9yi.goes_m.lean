/-! reading: sums of the reference, on -/
section QG
variable {sc : List Int} {d : Nat} {m : Mem} {Q : Option AV → Mem → Prop} {T : Int → Int} {n : Nat} {rl : Bool} {σ : Stt}
theorem brk_pop : ∀ {w q : List Int}, brk w ≠ -1 → ∃ w2, (popW nBk w q).2 = brk w :: w2 ∧ isBk (brk w) = true := by
  intro w
  induction w with
  | nil => intro q h; exact absurd rfl h
  | cons t w ih =>
    intro q h
    rw [brk] at h ⊢
    rw [popW]
    by_cases g : isBk t = true
    · have n2 : ¬ nBk t = true := by unfold nBk; rw [g]; decide
      rw [if_pos g, if_neg n2]; exact ⟨w, rfl, g⟩
    · have n2 : nBk t = true := by unfold nBk; cases hh : isBk t with | true => exact absurd hh g | false => rfl
      rw [if_neg g] at h ⊢
      rw [if_pos n2]
      exact ih h
theorem popW_opn {P : Int → Bool} : ∀ {w q : List Int}, opn (popW P w q).2 ≤ opn w := by
  intro w
  induction w with
  | nil => intro q; exact Nat.le_refl _
  | cons t w ih =>
    intro q
    rw [popW]
    by_cases g : P t = true
    · rw [if_pos g]
      refine Nat.le_trans ih ?_
      by_cases c : 12 = t ∨ 20 ≤ t
      · rw [opn_c c]; omega
      · rw [opn_n c]; exact Nat.le_refl _
    · rw [if_neg g]; exact Nat.le_refl _
theorem kd_T {c : Int} (hc : IsS c) (hb : ∀ i : Nat, i < n → 0 ≤ T i ∧ T i ≤ 255) (h : kd T n σ = c) : σ.1 < n ∧ T σ.1 = c := by
  have := (lk_sign (T := T) (n := n) (σ := σ) hc hb).mpr h
  unfold lkC at this
  unfold IsS at hc
  split at this
  · next g => exact ⟨g, this⟩
  · omega
/-- what goes on leaves -/
def GPost (T : Int → Int) (n : Nat) (rl : Bool) (wb : List Int) (m : Mem) (F : Nat) (r : Except (Int × Int) (Stt × Xs)) (v : Option AV) (z : Mem) : Prop := Ex C_qs m z ∧ ((v = some (aI 1) ∧ ∃ f' τ x, f' < F ∧ run T n rl f' true τ x = some r ∧ MQs T n rl wb z τ x) ∨ (v = some (aI 0) ∧ ((∃ e, r = .error e ∧ MEr z e ∧ ∃ q S o, MKs z q S o) ∨ ∃ τ x, r = .ok (τ, x) ∧ MQs T n rl wb z τ x)))
theorem topI_c {S : List Int} {t v : Int} : topI (t :: S) v = if t = v then 1 else 0 := rfl
theorem s_qGoesOn {wb : List Int} (hwb : ∀ t ∈ wb, 10 ≤ t) (hd : 10 ≤ d) : ∀ (F : Nat) (m : Mem) (σ : Stt) (q w : List Int) (o : Nat) (r : Except (Int × Int) (Stt × Xs)), run T n rl F false σ (q, w, o) = some r → MQs T n rl wb m σ (q, w, o) → P_X8_qGoesOn sc d [aR 62] m (GPost T n rl wb m F r) := by
  intro F m σ q w o r hr hm
  -- an operator: what binds as close is dropped, it is laid down
  have hnw : ∀ v : Int, v < 10 → topI wb v = 0 := by
    intro v hv
    cases wb with
    | nil => rfl
    | cons t wb =>
      have := hwb t (List.mem_cons_self ..)
      rw [topI_c, if_neg (by omega)]
  have mul : ∀ (f : Nat) (τ : Stt) (x : Int), 1 ≤ x ∧ x ≤ 4 → f < F → ∀ (w q : List Int) (o : Nat) (y : Mem), run T n rl f true τ (pshB o x (popW is34 w q)) = some r → Ex C_qs m y → Tm y T n → MRu y rl → y 62 116 = (wb.length : Nat) → MSt T n y τ → MKs y q (w ++ wb) o → q.length + w.length + wb.length + 1 ≤ τ.1 → opn w ≤ o → S_X8_qGoesOn sc d 162 [aR 62, aI x] [] y (GPost T n rl wb m F r) := by
    intro f τ x hx hf w
    induction w with
    | nil =>
      intro q o y hr ye ht hu hb hs hk hl ho
      rw [List.nil_append] at hk
      have n1 := ht.1
      have sn := hs.1
      refine g_X8_qGoesOn_162 (p_X8_qGoesOn_164 (d2 := d - 1) (s_qIsOn hk (by decide)) (by omega) ?_)
      rintro _ z ⟨e, rfl⟩; cases e
      rw [hnw 3 (by decide)]
      refine g_X8_qGoesOn_167 ⟨by omega, fun g => absurd rfl g, fun _ => ?_⟩
      refine p_X8_qGoesOn_172 (d2 := d - 1) (s_qIsOn hk (by decide)) (by omega) ?_
      rintro _ z ⟨e, rfl⟩; cases e
      rw [hnw 4 (by decide)]
      have h3 := hk.2.2.1
      have hp := hk.push (t := x) (by omega) (by rw [List.length_nil] at hl; omega)
      have e1 : ∀ v, wr z 149 (z 62 114) v 62 114 = z 62 114 := fun v => wr_na _ _ _ _ _ _ (by decide)
      have zk : Ex C_k z (wr (wr z 149 (wb.length : Nat) x) 62 114 ((wb.length : Nat) + 1)) := ((Ex.refl C_k z).put (Or.inr (Or.inr rfl))).put (Or.inl ⟨rfl, Or.inr (Or.inl rfl)⟩)
      refine g_X8_qGoesOn_175 ⟨by omega, fun _ => ?_, fun g => absurd rfl g⟩
      rw [e1, h3]
      rw [List.length_nil] at hl
      refine ⟨by omega, by omega, ye.trans (q_k zk), Or.inl ⟨rfl, f, τ, _, hf, hr, ht.k zk, hu.k zk, b116 hb (q_k zk), hs.k zk, hp, ?_, ?_⟩⟩
      · show q.length + [x].length + wb.length ≤ τ.1
        rw [List.length_singleton]; omega
      · show opn [x] ≤ o
        rw [opn_n (by omega)]; exact ho
    | cons t w ih =>
      intro q o y hr ye ht hu hb hs hk hl ho
      have n1 := ht.1
      have sn := hs.1
      rw [List.cons_append] at hk
      rw [List.length_cons] at hl
      rw [popW] at hr
      have drop : is34 t = true → S_X8_qGoesOn sc d 179 [aR 62, aI x] [aR 62] y (GPost T n rl wb m F r) := by
        intro g
        rw [if_pos g] at hr
        refine p_X8_qGoesOn_179 (d2 := d - 1) (s_qDrops hk (by omega)) (by omega) ?_
        rintro u ⟨-, ue, hk2⟩
        refine g_X8_qGoesOn_182 (ih (q ++ [t]) o u hr (ye.trans (q_k ue)) (ht.k ue) (hu.k ue) (b116 hb (q_k ue)) (hs.k ue) hk2 (by rw [List.length_append, List.length_singleton]; omega) ?_)
        unfold is34 at g; rw [decide_eq_true_iff] at g
        rw [opn_n (by omega)] at ho; exact ho
      refine g_X8_qGoesOn_162 (p_X8_qGoesOn_164 (d2 := d - 1) (s_qIsOn hk (by decide)) (by omega) ?_)
      rintro _ z ⟨e, rfl⟩; cases e
      rw [topI_c]
      refine g_X8_qGoesOn_167 ⟨by split <;> omega, fun g => drop (by unfold is34; rw [decide_eq_true_iff]; exact Or.inl (Classical.byContradiction (fun q => g (if_neg q)))), fun g => ?_⟩
      have t3 : ¬ t = 3 := fun q => g (by rw [if_pos q]; decide)
      refine p_X8_qGoesOn_172 (d2 := d - 1) (s_qIsOn hk (by decide)) (by omega) ?_
      rintro _ z ⟨e, rfl⟩; cases e
      rw [topI_c]
      refine g_X8_qGoesOn_175 ⟨by split <;> omega, fun g => ?_, fun g => drop (by unfold is34; rw [decide_eq_true_iff]; exact Or.inr (Classical.byContradiction (fun q => g (if_neg q))))⟩
      have t4 : ¬ t = 4 := fun q => by rw [if_pos q] at g; omega
      have n34 : ¬ is34 t = true := by unfold is34; rw [decide_eq_true_iff]; omega
      rw [if_neg n34] at hr
      have h3 := hk.2.2.1
      have lw : (w ++ wb).length = w.length + wb.length := List.length_append
      have hp := hk.push (t := x) (by omega) (by rw [List.length_cons]; omega)
      have e1 : ∀ v, wr z 149 (z 62 114) v 62 114 = z 62 114 := fun v => wr_na _ _ _ _ _ _ (by decide)
      have zk : Ex C_k z (wr (wr z 149 ((t :: (w ++ wb)).length : Nat) x) 62 114 (((t :: (w ++ wb)).length : Nat) + 1)) := ((Ex.refl C_k z).put (Or.inr (Or.inr rfl))).put (Or.inl ⟨rfl, Or.inr (Or.inl rfl)⟩)
      rw [e1, h3]
      refine ⟨by omega, by rw [List.length_cons]; omega, ye.trans (q_k zk), Or.inl ⟨rfl, f, τ, _, hf, hr, ht.k zk, hu.k zk, b116 hb (q_k zk), hs.k zk, hp, ?_, ?_⟩⟩
      · show q.length + (x :: t :: w).length + wb.length ≤ τ.1
        rw [List.length_cons, List.length_cons]; omega
      · show opn (x :: t :: w) ≤ o
        rw [opn_n (by omega)]; exact ho
  have add : ∀ (f : Nat) (τ : Stt) (x : Int), 1 ≤ x ∧ x ≤ 4 → f < F → ∀ (w q : List Int) (o : Nat) (y : Mem), run T n rl f true τ (pshB o x (popW is14 w q)) = some r → Ex C_qs m y → Tm y T n → MRu y rl → y 62 116 = (wb.length : Nat) → MSt T n y τ → MKs y q (w ++ wb) o → q.length + w.length + wb.length + 1 ≤ τ.1 → opn w ≤ o → S_X8_qGoesOn sc d 247 [aR 62, aI x] [] y (GPost T n rl wb m F r) := by
    intro f τ x hx hf w
    induction w with
    | nil =>
      intro q o y hr ye ht hu hb hs hk hl ho
      rw [List.nil_append] at hk
      have n1 := ht.1
      have sn := hs.1
      refine g_X8_qGoesOn_247 (p_X8_qGoesOn_249 (d2 := d - 1) (s_qIsOn hk (by decide)) (by omega) ?_)
      rintro _ z ⟨e, rfl⟩; cases e
      rw [hnw 3 (by decide)]
      refine g_X8_qGoesOn_252 ⟨by omega, fun g => absurd rfl g, fun _ => ?_⟩
      refine p_X8_qGoesOn_257 (d2 := d - 1) (s_qIsOn hk (by decide)) (by omega) ?_
      rintro _ z ⟨e, rfl⟩; cases e
      rw [hnw 4 (by decide)]
      refine g_X8_qGoesOn_260 ⟨by omega, fun g => absurd rfl g, fun _ => ?_⟩
      refine p_X8_qGoesOn_265 (d2 := d - 1) (s_qIsOn hk (by decide)) (by omega) ?_
      rintro _ z ⟨e, rfl⟩; cases e
      rw [hnw 1 (by decide)]
      refine g_X8_qGoesOn_268 ⟨by omega, fun g => absurd rfl g, fun _ => ?_⟩
      refine p_X8_qGoesOn_273 (d2 := d - 1) (s_qIsOn hk (by decide)) (by omega) ?_
      rintro _ z ⟨e, rfl⟩; cases e
      rw [hnw 2 (by decide)]
      have h3 := hk.2.2.1
      have hp := hk.push (t := x) (by omega) (by rw [List.length_nil] at hl; omega)
      have e1 : ∀ v, wr z 149 (z 62 114) v 62 114 = z 62 114 := fun v => wr_na _ _ _ _ _ _ (by decide)
      have zk : Ex C_k z (wr (wr z 149 (wb.length : Nat) x) 62 114 ((wb.length : Nat) + 1)) := ((Ex.refl C_k z).put (Or.inr (Or.inr rfl))).put (Or.inl ⟨rfl, Or.inr (Or.inl rfl)⟩)
      refine g_X8_qGoesOn_276 ⟨by omega, fun _ => ?_, fun g => absurd rfl g⟩
      rw [e1, h3]
      rw [List.length_nil] at hl
      refine ⟨by omega, by omega, ye.trans (q_k zk), Or.inl ⟨rfl, f, τ, _, hf, hr, ht.k zk, hu.k zk, b116 hb (q_k zk), hs.k zk, hp, ?_, ?_⟩⟩
      · show q.length + [x].length + wb.length ≤ τ.1
        rw [List.length_singleton]; omega
      · show opn [x] ≤ o
        rw [opn_n (by omega)]; exact ho
    | cons t w ih =>
      intro q o y hr ye ht hu hb hs hk hl ho
      have n1 := ht.1
      have sn := hs.1
      rw [List.cons_append] at hk
      rw [List.length_cons] at hl
      rw [popW] at hr
      have drop : (t = 3 ∨ t = 4 ∨ t = 1 ∨ t = 2) → S_X8_qGoesOn sc d 280 [aR 62, aI x] [aR 62] y (GPost T n rl wb m F r) := by
        intro g
        rw [if_pos (by unfold is14; rw [decide_eq_true_iff]; exact g)] at hr
        refine p_X8_qGoesOn_280 (d2 := d - 1) (s_qDrops hk (by omega)) (by omega) ?_
        rintro u ⟨-, ue, hk2⟩
        refine g_X8_qGoesOn_283 (ih (q ++ [t]) o u hr (ye.trans (q_k ue)) (ht.k ue) (hu.k ue) (b116 hb (q_k ue)) (hs.k ue) hk2 (by rw [List.length_append, List.length_singleton]; omega) ?_)
        rw [opn_n (by omega)] at ho; exact ho
      refine g_X8_qGoesOn_247 (p_X8_qGoesOn_249 (d2 := d - 1) (s_qIsOn hk (by decide)) (by omega) ?_)
      rintro _ z ⟨e, rfl⟩; cases e
      rw [topI_c]
      refine g_X8_qGoesOn_252 ⟨by split <;> omega, fun g => drop (Or.inl (Classical.byContradiction (fun q => g (if_neg q)))), fun g => ?_⟩
      have t3 : ¬ t = 3 := fun q => g (by rw [if_pos q]; decide)
      refine p_X8_qGoesOn_257 (d2 := d - 1) (s_qIsOn hk (by decide)) (by omega) ?_
      rintro _ z ⟨e, rfl⟩; cases e
      rw [topI_c]
      refine g_X8_qGoesOn_260 ⟨by split <;> omega, fun g => drop (Or.inr (Or.inl (Classical.byContradiction (fun q => g (if_neg q))))), fun g => ?_⟩
      have t4 : ¬ t = 4 := fun q => g (by rw [if_pos q]; decide)
      refine p_X8_qGoesOn_265 (d2 := d - 1) (s_qIsOn hk (by decide)) (by omega) ?_
      rintro _ z ⟨e, rfl⟩; cases e
      rw [topI_c]
      refine g_X8_qGoesOn_268 ⟨by split <;> omega, fun g => drop (Or.inr (Or.inr (Or.inl (Classical.byContradiction (fun q => g (if_neg q)))))), fun g => ?_⟩
      have t1 : ¬ t = 1 := fun q => g (by rw [if_pos q]; decide)
      refine p_X8_qGoesOn_273 (d2 := d - 1) (s_qIsOn hk (by decide)) (by omega) ?_
      rintro _ z ⟨e, rfl⟩; cases e
      rw [topI_c]
      refine g_X8_qGoesOn_276 ⟨by split <;> omega, fun g => ?_, fun g => drop (Or.inr (Or.inr (Or.inr (Classical.byContradiction (fun q => g (if_neg q))))))⟩
      have t2 : ¬ t = 2 := fun q => by rw [if_pos q] at g; omega
      have n34 : ¬ is14 t = true := by unfold is14; rw [decide_eq_true_iff]; omega
      rw [if_neg n34] at hr
      have h3 := hk.2.2.1
      have lw : (w ++ wb).length = w.length + wb.length := List.length_append
      have hp := hk.push (t := x) (by omega) (by rw [List.length_cons]; omega)
      have e1 : ∀ v, wr z 149 (z 62 114) v 62 114 = z 62 114 := fun v => wr_na _ _ _ _ _ _ (by decide)
      have zk : Ex C_k z (wr (wr z 149 ((t :: (w ++ wb)).length : Nat) x) 62 114 (((t :: (w ++ wb)).length : Nat) + 1)) := ((Ex.refl C_k z).put (Or.inr (Or.inr rfl))).put (Or.inl ⟨rfl, Or.inr (Or.inl rfl)⟩)
      rw [e1, h3]
      refine ⟨by omega, by rw [List.length_cons]; omega, ye.trans (q_k zk), Or.inl ⟨rfl, f, τ, _, hf, hr, ht.k zk, hu.k zk, b116 hb (q_k zk), hs.k zk, hp, ?_, ?_⟩⟩
      · show q.length + (x :: t :: w).length + wb.length ≤ τ.1
        rw [List.length_cons, List.length_cons]; omega
      · show opn (x :: t :: w) ≤ o
        rw [opn_n (by omega)]; exact ho
  refine ep_X8_qGoesOn ?_
  have key : ∀ (f : Nat) (y : Mem) (σ : Stt) (q w : List Int) (o : Nat), f ≤ F → run T n rl f false σ (q, w, o) = some r → Ex C_qs m y → MQs T n rl wb y σ (q, w, o) → S_X8_qGoesOn sc d 0 [aR 62, aU] [] y (GPost T n rl wb m F r) := by
    intro f
    induction f with
    | zero => intro y σ q w o hF hr; cases hr
    | succ f ih =>
      intro y σ q w o hF hr ye hy
      rw [run] at hr
      obtain ⟨ht, hu, hb, hs, hk, hl, ho⟩ := hy
      have hl : q.length + w.length + wb.length ≤ σ.1 := hl
      have ho : opn w ≤ o := ho
      have hk : MKs y q (w ++ wb) o := hk
      have lw : (w ++ wb).length = w.length + wb.length := List.length_append
      have n1 := ht.1
      have sn := hs.1
      have b5 := hs.2.1.1
      refine g_X8_qGoesOn_0 ⟨by omega, fun g => absurd b5 g, fun _ => ?_⟩
      refine p_X8_qGoesOn_8 (d2 := d - 1) (s_look ht hs) (by omega) ?_
      rintro _ z ⟨e, ze, zl⟩; cases e
      have t2 := ht.lk ze
      have u2 := hu.lk ze
      have k2 := hk.lk ze
      have b2 := b116 hb (q_lk ze)
      have mE : Ex C_qs m z := ye.trans (q_lk ze)
      have lb := @lk_bd T n σ ht.by
      have s41 := lk_sign (T := T) (n := n) (σ := σ) (c := 41) (Or.inl (by decide)) ht.by
      have rb : R32 (brk w) := by
        by_cases g : brk w = -1
        · rw [g]; decide
        · obtain ⟨w2, -, g2⟩ := @brk_pop w q g
          unfold isBk at g2; rw [decide_eq_true_iff] at g2
          unfold R32; omega
      have brQ : P_X8_qBracket sc (d - 1) [aR 62] z (PV (aI (brk w)) z) := s_qBracket k2 b2 (by omega)
      -- no bracket closed
      have rest : ¬ (kd T n σ = 41 ∧ (brk w = 20 ∨ brk w = 23 ∨ brk w = 24)) → S_X8_qGoesOn sc d 125 [aR 62, aU] [aI 42, aR 62] z (GPost T n rl wb m F r) := by
        intro nc
        rw [if_neg nc] at hr
        have opr : ∀ (c x : Int) (y : Mem), IsS c → kd T n σ = c → Ex C_lk z y → y 62 2 = (σ.1 : Int) + 1 → σ.1 < n ∧ 0 ≤ y 62 2 - 1 ∧ y 62 2 - 1 < 1600 ∧ y 63 (y 62 2 - 1) = c := by
          intro c x y hc hk hy h2
          obtain ⟨g1, g2⟩ := kd_T hc ht.by hk
          have := ((t2.lk hy).2.2.1 σ.1 g1).1
          rw [h2, show (σ.1 : Int) + 1 - 1 = σ.1 by omega, this, g2]
          exact ⟨g1, by omega, by omega, rfl⟩
        refine p_X8_qGoesOn_125 (d2 := d - 1) (s_takesSign (c := 42) (Or.inl (by decide)) t2 zl.1 (by omega)) (by omega) ?_
        rintro v z1 ⟨e1, ⟨e, q1, s1, p1⟩ | ⟨e, q1, l1⟩⟩ <;> cases e
        · obtain ⟨g1, g2, g3, g4⟩ := opr 42 0 z1 (Or.inl (by decide)) q1 e1 p1
          have nn := @nx_of T n σ (by omega)
          have ov : opP T n σ = 3 := by unfold opP; rw [if_pos q1]
          rw [if_pos (by rw [ov]; decide), ov] at hr
          refine g_X8_qGoesOn_128 ⟨by omega, fun _ => ⟨g2, g3, by rw [g4]; decide, ?_⟩, fun g => absurd (by decide) g⟩
          rw [g4, if_neg (show ¬ (42 : Int) ≠ 42 by decide)]
          exact mul f (nx T n σ) 3 (by decide) (by omega) w q o z1 hr (mE.trans (q_lk e1)) (t2.lk e1) (u2.lk e1) (b116 b2 (q_lk e1)) s1 (k2.lk e1) (by omega) ho
        refine g_X8_qGoesOn_128 ⟨by omega, fun g => absurd rfl g, fun _ => ?_⟩
        refine p_X8_qGoesOn_134 (d2 := d - 1) (s_takesSign (c := 47) (Or.inl (by decide)) (t2.lk e1) l1.1 (by omega)) (by omega) ?_
        rintro v z2 ⟨e2, ⟨e, q2, s2, p2⟩ | ⟨e, q2, l2⟩⟩ <;> cases e
        · have E2 := e1.trans e2
          obtain ⟨g1, g2, g3, g4⟩ := opr 47 0 z2 (Or.inl (by decide)) q2 E2 p2
          have nn := @nx_of T n σ (by omega)
          have ov : opP T n σ = 4 := by unfold opP; rw [if_neg q1, if_pos q2]
          rw [if_pos (by rw [ov]; decide), ov] at hr
          refine g_X8_qGoesOn_137 ⟨by omega, fun g => absurd g (by decide), fun _ => ⟨g2, g3, by rw [g4]; decide, ?_⟩⟩
          rw [g4, if_pos (show (47 : Int) ≠ 42 by decide)]
          exact mul f (nx T n σ) 4 (by decide) (by omega) w q o z2 hr (mE.trans (q_lk E2)) (t2.lk E2) (u2.lk E2) (b116 b2 (q_lk E2)) s2 (k2.lk E2) (by omega) ho
        have oP : opP T n σ = 0 := opP_of q1 q2
        rw [if_neg (fun g => g oP)] at hr
        refine g_X8_qGoesOn_137 ⟨by omega, fun _ => ?_, fun g => absurd rfl g⟩
        refine p_X8_qGoesOn_210 (d2 := d - 1) (s_takesSign (c := 43) (Or.inl (by decide)) ((t2.lk e1).lk e2) l2.1 (by omega)) (by omega) ?_
        rintro v z3 ⟨e3, ⟨e, q3, s3, p3⟩ | ⟨e, q3, l3⟩⟩ <;> cases e
        · have E2 := (e1.trans e2).trans e3
          obtain ⟨g1, g2, g3, g4⟩ := opr 43 0 z3 (Or.inl (by decide)) q3 E2 p3
          have nn := @nx_of T n σ (by omega)
          have ov : opS T n σ = 1 := by unfold opS; rw [if_pos q3]
          rw [if_pos (by rw [ov]; decide), ov] at hr
          refine g_X8_qGoesOn_213 ⟨by omega, fun _ => ⟨g2, g3, by rw [g4]; decide, ?_⟩, fun g => absurd (by decide) g⟩
          rw [g4, if_neg (show ¬ (43 : Int) ≠ 43 by decide)]
          exact add f (nx T n σ) 1 (by decide) (by omega) w q o z3 hr (mE.trans (q_lk E2)) (t2.lk E2) (u2.lk E2) (b116 b2 (q_lk E2)) s3 (k2.lk E2) (by omega) ho
        refine g_X8_qGoesOn_213 ⟨by omega, fun g => absurd rfl g, fun _ => ?_⟩
        refine p_X8_qGoesOn_219 (d2 := d - 1) (s_takesSign (c := 45) (Or.inl (by decide)) (((t2.lk e1).lk e2).lk e3) l3.1 (by omega)) (by omega) ?_
        rintro v z4 ⟨e4, ⟨e, q4, s4, p4⟩ | ⟨e, q4, l4⟩⟩ <;> cases e
        · have E2 := ((e1.trans e2).trans e3).trans e4
          obtain ⟨g1, g2, g3, g4⟩ := opr 45 0 z4 (Or.inl (by decide)) q4 E2 p4
          have nn := @nx_of T n σ (by omega)
          have ov : opS T n σ = 2 := by unfold opS; rw [if_neg q3, if_pos q4]
          rw [if_pos (by rw [ov]; decide), ov] at hr
          refine g_X8_qGoesOn_222 ⟨by omega, fun g => absurd g (by decide), fun _ => ⟨g2, g3, by rw [g4]; decide, ?_⟩⟩
          rw [g4, if_pos (show (45 : Int) ≠ 43 by decide)]
          exact add f (nx T n σ) 2 (by decide) (by omega) w q o z4 hr (mE.trans (q_lk E2)) (t2.lk E2) (u2.lk E2) (b116 b2 (q_lk E2)) s4 (k2.lk E2) (by omega) ho
        have oS : opS T n σ = 0 := opS_of q3 q4
        rw [if_neg (fun g => g oS)] at hr
        have E4 := ((e1.trans e2).trans e3).trans e4
        have t4 := t2.lk E4
        have k4 := k2.lk E4
        have b4 := b116 b2 (q_lk E4)
        have M4 := mE.trans (q_lk E4)
        have br4 : P_X8_qBracket sc (d - 1) [aR 62] z4 (PV (aI (brk w)) z4) := s_qBracket k4 b4 (by omega)
        refine g_X8_qGoesOn_222 ⟨by omega, fun _ => ?_, fun g => absurd rfl g⟩
        -- the comma
        have com : (brk w = 21 ∨ brk w = 22) → S_X8_qGoesOn sc d 329 [aR 62, aU] [aI 44, aR 62] z4 (GPost T n rl wb m F r) := by
          intro g
          rw [if_pos g] at hr
          refine p_X8_qGoesOn_329 (d2 := d - 1) (s_asksSign (c := 44) (Or.inl (by decide)) t4 l4.1 (by omega)) (by omega) ?_
          rintro z5 ⟨-, e5, ⟨q5, s5⟩ | ⟨q5, er⟩⟩
          · rw [if_pos q5] at hr
            have nn := @nx_of T n σ (by omega)
            have n5 := s5.2.1.1
            refine g_X8_qGoesOn_332 ⟨by omega, fun _ => ?_, fun g => absurd n5 g⟩
            have E5 := E4.trans e5
            refine p_X8_qGoesOn_342 (d2 := d - 1) (s_qDropsToBracket (by omega) w q z5 (k2.lk E5) (b116 b2 (q_lk E5))) (by omega) ?_
            rintro z6 ⟨-, e6, k6⟩
            obtain ⟨w2, hw2, -⟩ := @brk_pop w q (by omega)
            have lp := @popW_len nBk w q
            have op := @popW_opn nBk w q
            rw [hw2] at k6 lp op
            rw [List.length_cons] at lp
            rw [opn_c (by omega)] at op
            have hr : run T n rl f true (nx T n σ) ((popW nBk w q).1, (brk w + 2) :: w2, o) = some r := by
              rw [show popW nBk w q = ((popW nBk w q).1, brk w :: w2) from by rw [← hw2]] at hr
              exact hr
            generalize (popW nBk w q).1 = q1 at hr k6 lp
            have k6 : MKs z6 q1 (brk w :: (w2 ++ wb)) o := k6
            have l2 : (w2 ++ wb).length = w2.length + wb.length := List.length_append
            have h3 := k6.2.2.1
            rw [List.length_cons] at h3
            have e1' : z6 62 114 - 1 = ((w2 ++ wb).length : Nat) := by omega
            have ev : z6 149 ((w2 ++ wb).length : Nat) = brk w := k6.2.2.2.1.1
            have zk : Ex C_k z6 (wr z6 149 ((w2 ++ wb).length : Nat) (brk w + 2)) := (Ex.refl C_k z6).put (Or.inr (Or.inr rfl))
            refine g_X8_qGoesOn_345 ?_
            rw [e1', ev]
            refine ⟨by omega, by omega, (((mE.trans (q_lk E5)).trans (q_k e6)).trans (q_k zk)), Or.inl ⟨rfl, f, _, _, by omega, hr, ((t2.lk E5).k e6).k zk, ((u2.lk E5).k e6).k zk, b116 (b116 (b116 b2 (q_lk E5)) (q_k e6)) (q_k zk), (s5.k e6).k zk, ?_, ?_, ?_⟩⟩
            · obtain ⟨a1, a2, a3, a4, a5, a6, a7, a8⟩ := k6
              refine ⟨?_, a2.congr (fun j _ => by rw [wr_na _ _ _ _ _ _ (by decide)]), ?_, ⟨wr_eq _ _ _ _, a4.2.congr (fun i hi => by rw [wr_ne _ _ _ _ _ _ (by omega)])⟩, ?_, ?_, a7, a8⟩
              · rw [wr_na _ _ _ _ _ _ (by decide)]; exact a1
              · rw [wr_na _ _ _ _ _ _ (by decide)]; exact a3
              · intro t ht
                rcases List.mem_cons.mp ht with g | g
                · rw [g]; omega
                · exact a5 t (List.mem_cons_of_mem _ g)
              · rw [wr_na _ _ _ _ _ _ (by decide)]; exact a6
            · show q1.length + ((brk w + 2) :: w2).length + wb.length ≤ (nx T n σ).1
              rw [List.length_cons]; omega
            · show opn ((brk w + 2) :: w2) ≤ o
              rw [opn_c (by omega)]; omega
          · rw [if_neg q5] at hr
            cases hr
            exact g_X8_qGoesOn_332 ⟨er.ne.2, fun g => absurd g er.ne.1, fun _ => ⟨M4.trans (q_lk e5), Or.inr ⟨rfl, Or.inl ⟨_, rfl, er, _, _, _, k4.lk e5⟩⟩⟩⟩
        refine p_X8_qGoesOn_309 (d2 := d - 1) br4 (by omega) ?_
        rintro _ z5 ⟨e, rfl⟩; cases e
        refine g_X8_qGoesOn_312 ⟨rb, fun g => com (Or.inl g), fun g1 => ?_⟩
        refine p_X8_qGoesOn_318 (d2 := d - 1) br4 (by omega) ?_
        rintro _ z5 ⟨e, rfl⟩; cases e
        refine g_X8_qGoesOn_321 ⟨rb, fun g2 => ?_, fun g => com (Or.inr (Classical.not_not.mp g))⟩
        rw [if_neg (by omega)] at hr
        refine p_X8_qGoesOn_363 (d2 := d - 1) br4 (by omega) ?_
        rintro _ z5 ⟨e, rfl⟩; cases e
        refine g_X8_qGoesOn_366 ⟨rb, fun g => ?_, fun g => ⟨by rw [l4.1.2.1.1]; decide, fun q => absurd l4.1.2.1.1 q, fun _ => ?_⟩⟩
        · rw [if_pos g] at hr
          cases hr
          exact g_X8_qGoesOn_386 ⟨M4, Or.inr ⟨rfl, Or.inr ⟨σ, _, rfl, t4, u2.lk E4, b4, l4.1, k4, hl, ho⟩⟩⟩
        · rw [if_neg g] at hr
          cases hr
          refine p_X8_qGoesOn_383 (d2 := d - 1) (s_X8_fail l4.1.2.1.1 (by decide) (l4.pl n1)) (by omega) ?_
          rintro z6 ⟨-, e6, er⟩
          rw [l4.2] at er
          exact g_X8_qGoesOn_386 ⟨M4.trans (q_lk e6), Or.inr ⟨rfl, Or.inl ⟨_, rfl, er, _, _, _, k4.lk e6⟩⟩⟩
      -- a bracket closed
      have cls : kd T n σ = 41 → (brk w = 20 ∨ brk w = 23 ∨ brk w = 24) → S_X8_qGoesOn sc d 54 [aR 62, aU] [aR 62] (wr z 62 2 ((z 62 2) + 1)) (GPost T n rl wb m F r) := by
        intro c41 cb
        rw [if_pos ⟨c41, cb⟩] at hr
        have nn := @nx_of T n σ (by omega)
        have s3 := zl.go (Or.inl (by decide)) c41
        have e3 : Ex C_lk z (wr z 62 2 (z 62 2 + 1)) := (Ex.refl C_lk z).put ⟨rfl, by decide, by decide, by decide, by decide, by decide⟩
        generalize wr z 62 2 (z 62 2 + 1) = z3 at s3 e3 ⊢
        refine p_X8_qGoesOn_54 (d2 := d - 1) (s_qDropsToBracket (by omega) w q z3 (k2.lk e3) (b116 b2 (q_lk e3))) (by omega) ?_
        rintro z6 ⟨-, e6, k6⟩
        obtain ⟨w2, hw2, -⟩ := @brk_pop w q (by omega)
        have lp := @popW_len nBk w q
        have op := @popW_opn nBk w q
        rw [hw2] at k6 lp op
        rw [List.length_cons] at lp
        rw [opn_c (by omega)] at op
        have hr : run T n rl f false (nx T n σ) (endP w2 (o - 1) (if brk w = 20 then (popW nBk w q).1 else (popW nBk w q).1 ++ [if brk w = 23 then 5 else 6])) = some r := by
          rw [show popW nBk w q = ((popW nBk w q).1, brk w :: w2) from by rw [← hw2]] at hr
          exact hr
        generalize (popW nBk w q).1 = q1 at hr k6 lp
        have k6 : MKs z6 q1 (brk w :: (w2 ++ wb)) o := k6
        have l2 : (w2 ++ wb).length = w2.length + wb.length := List.length_append
        have h3 := k6.2.2.1
        have h6 := k6.2.2.2.2.2.1
        rw [List.length_cons] at h3
        have e1' : z6 62 114 - 1 = ((w2 ++ wb).length : Nat) := by omega
        have k7 := k6.pop.dec
        have v7 : (wr (wr z6 62 114 ((w2 ++ wb).length : Nat)) 62 115 ((o - 1 : Nat) : Int)) 149 ((w2 ++ wb).length : Nat) = brk w := by rw [wr_na _ _ _ _ _ _ (by decide), wr_na _ _ _ _ _ _ (by decide)]; exact k6.2.2.2.1.1
        have p7 := k7.2.2.1
        have zk : Ex C_k z6 (wr (wr z6 62 114 ((w2 ++ wb).length : Nat)) 62 115 ((o - 1 : Nat) : Int)) := ((Ex.refl C_k z6).put (Or.inl ⟨rfl, Or.inr (Or.inl rfl)⟩)).put (Or.inl ⟨rfl, Or.inr (Or.inr rfl)⟩)
        have e115 : wr z6 62 114 ((w2 ++ wb).length : Nat) 62 115 - 1 = ((o - 1 : Nat) : Int) := by rw [wr_ne _ _ _ _ _ _ (by decide), h6]; omega
        refine g_X8_qGoesOn_57 ?_
        rw [e1', e115]
        generalize wr (wr z6 62 114 ((w2 ++ wb).length : Nat)) 62 115 ((o - 1 : Nat) : Int) = z7 at k7 v7 p7 zk ⊢
        rw [p7, v7]
        have M7 := ((mE.trans (q_lk e3)).trans (q_k e6)).trans (q_k zk)
        have t7 := ((t2.lk e3).k e6).k zk
        have u7 := ((u2.lk e3).k e6).k zk
        have b7 := b116 (b116 (b116 b2 (q_lk e3)) (q_k e6)) (q_k zk)
        have s7 := (s3.k e6).k zk
        have aft : ∀ (q2 : List Int) (z8 : Mem), Ex C_k z7 z8 → MKs z8 q2 (w2 ++ wb) (o - 1) → q2.length ≤ q1.length + 1 → run T n rl f false (nx T n σ) (endP w2 (o - 1) q2) = some r → S_X8_qGoesOn sc d 115 [aR 62, aU] [] z8 (GPost T n rl wb m F r) := by
          intro q2 z8 e8 k8 hq2 hr
          refine g_X8_qGoesOn_115 (p_X8_qGoesOn_116 (d2 := d - 1) (s_qEndsPart (by omega) w2 q2 (o - 1) z8 (s7.k e8).2.1.1 (by omega) k8 (b116 b7 (q_k e8))) (by omega) ?_)
          rintro z9 ⟨-, e9, k9⟩
          have el := @endP_len w2 q2 (o - 1)
          refine g_X8_qGoesOn_119 (ih z9 (nx T n σ) _ _ _ (by omega) hr ((M7.trans (q_k e8)).trans (q_k e9)) ⟨(t7.k e8).k e9, (u7.k e8).k e9, b116 (b116 b7 (q_k e8)) (q_k e9), (s7.k e8).k e9, k9, ?_, endP_opn (by omega)⟩)
          show (endP w2 (o - 1) q2).1.length + (endP w2 (o - 1) q2).2.1.length + wb.length ≤ (nx T n σ).1
          omega
        refine ⟨by omega, by omega, rb, fun g => ?_, fun g => ?_⟩
        · rw [if_pos g] at hr
          exact aft q1 z7 (Ex.refl _ _) k7 (by omega) hr
        · rw [if_neg g] at hr
          rw [show (if brk w ≠ 23 then 6 else 5 : Int) = if brk w = 23 then 5 else 6 from by by_cases g2 : brk w = 23 <;> simp [g2]]
          refine p_X8_qGoesOn_112 (d2 := d - 1) (s_qCode k7 (by omega)) (by omega) ?_
          rintro z8 ⟨-, e8, k8⟩
          exact aft _ z8 e8 k8 (by rw [List.length_append, List.length_singleton]; omega) hr
      refine g_X8_qGoesOn_11 ⟨by omega, fun g => rest (fun q => g (s41.mpr q.1)), fun g => ?_⟩
      have c41 : kd T n σ = 41 := s41.mp (Classical.not_not.mp g)
      refine p_X8_qGoesOn_17 (d2 := d - 1) brQ (by omega) ?_
      rintro _ z1 ⟨e, rfl⟩; cases e
      refine g_X8_qGoesOn_20 ⟨rb, fun g => cls c41 (Or.inl g), fun g1 => ?_⟩
      refine p_X8_qGoesOn_26 (d2 := d - 1) brQ (by omega) ?_
      rintro _ z1 ⟨e, rfl⟩; cases e
      refine g_X8_qGoesOn_29 ⟨rb, fun g => cls c41 (Or.inr (Or.inl g)), fun g2 => ?_⟩
      refine p_X8_qGoesOn_35 (d2 := d - 1) brQ (by omega) ?_
      rintro _ z1 ⟨e, rfl⟩; cases e
      exact g_X8_qGoesOn_38 ⟨rb, fun g => rest (by omega), fun g => cls c41 (Or.inr (Or.inr (Classical.not_not.mp g)))⟩
  exact key F m σ q w o (Nat.le_refl _) hr (Ex.refl _ _) hm
end QG
