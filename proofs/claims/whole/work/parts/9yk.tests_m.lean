/-! reading: tests of the reference -/
section QT
variable {sc : List Int} {d : Nat} {m : Mem} {Q : Option AV → Mem → Prop} {T : Int → Int} {n : Nat} {rl : Bool} {σ : Stt}
def MVs (T : Int → Int) (n : Nat) (rl : Bool) (m : Mem) (σ : Stt) (x : Xs) : Prop := MTs T n rl m σ x.1 x.2.1 x.2.2 ∧ (∀ t ∈ x.2.1, 10 ≤ t) ∧ opn x.2.1 ≤ x.2.2
theorem dropN_all {w : List Int} : ∀ {q : List Int} {o : Nat}, (dropN w o q).1.length + (dropN w o q).2.1.length = q.length + w.length ∧ (opn w ≤ o → opn (dropN w o q).2.1 ≤ (dropN w o q).2.2) ∧ ((∀ t ∈ w, 10 ≤ t) → ∀ t ∈ (dropN w o q).2.1, 10 ≤ t) := by
  induction w with
  | nil => intro q o; exact ⟨rfl, fun h => h, fun h => h⟩
  | cons t w ih =>
    intro q o
    rw [dropN]
    by_cases g : t = 12
    · rw [if_pos g]
      obtain ⟨i1, i2, i3⟩ := @ih (q ++ [t]) (o - 1)
      refine ⟨by rw [i1, List.length_append, List.length_singleton, List.length_cons]; omega, fun h => i2 ?_, fun h => i3 (fun u hu => h u (List.mem_cons_of_mem _ hu))⟩
      rw [opn_c (by omega)] at h; omega
    · rw [if_neg g]; exact ⟨rfl, fun h => h, fun h => h⟩
theorem popW_mem {P : Int → Bool} : ∀ {w q : List Int}, ∀ t ∈ (popW P w q).2, t ∈ w := by
  intro w
  induction w with
  | nil => intro q t h; exact h
  | cons u w ih =>
    intro q t h
    rw [popW] at h
    by_cases g : P u = true
    · rw [if_pos g] at h; exact List.mem_cons_of_mem _ (ih t h)
    · rw [if_neg g] at h; exact h
theorem pop25 : ∀ {w q : List Int}, 25 ∈ w → ∃ w2, (popW n25 w q).2 = 25 :: w2 := by
  intro w
  induction w with
  | nil => intro q h; cases h
  | cons t w ih =>
    intro q h
    rw [popW]
    by_cases g : t = 25
    · have n2 : ¬ n25 t = true := by unfold n25; rw [decide_eq_true_iff]; omega
      rw [if_neg n2, g]; exact ⟨w, rfl⟩
    · have n2 : n25 t = true := by unfold n25; rw [decide_eq_true_iff]; exact g
      rw [if_pos n2]
      exact ih ((List.mem_cons.mp h).resolve_left (fun e => g e.symm))
theorem s_qDropsNots (hd : 3 ≤ d) : ∀ (w q : List Int) (o : Nat) (m : Mem), m 62 5 = 0 → opn w ≤ o → MKs m q w o → P_X8_qDropsNots sc d [aR 62] m (fun v z => v = none ∧ Ex C_k m z ∧ MKs z (dropN w o q).1 (dropN w o q).2.1 (dropN w o q).2.2) := by
  intro w q o m h5 ho h
  refine ep_X8_qDropsNots ?_
  have key : ∀ (w q : List Int) (o : Nat) (y : Mem), Ex C_k m y → opn w ≤ o → MKs y q w o → S_X8_qDropsNots sc d 0 [aR 62] [] y (fun v z => v = none ∧ Ex C_k m z ∧ MKs z (dropN w o q).1 (dropN w o q).2.1 (dropN w o q).2.2) := by
    intro w
    induction w with
    | nil =>
      intro q o y ye ho hy
      have y5 : y 62 5 = 0 := (ye 62 5 (fun c => by unfold C_k at c; omega)).trans h5
      refine g_X8_qDropsNots_0 ⟨by omega, fun g => absurd y5 g, fun _ => ?_⟩
      refine p_X8_qDropsNots_10 (d2 := d - 1) (s_qIsOn hy (by decide)) (by omega) ?_
      rintro _ z ⟨e, rfl⟩; cases e
      exact g_X8_qDropsNots_13 ⟨by decide, fun _ => ⟨rfl, ye, hy⟩, fun g => absurd rfl g⟩
    | cons t w ih =>
      intro q o y ye ho hy
      have y5 : y 62 5 = 0 := (ye 62 5 (fun c => by unfold C_k at c; omega)).trans h5
      have h6 := hy.2.2.2.2.2.1
      refine g_X8_qDropsNots_0 ⟨by omega, fun g => absurd y5 g, fun _ => ?_⟩
      refine p_X8_qDropsNots_10 (d2 := d - 1) (s_qIsOn hy (by decide)) (by omega) ?_
      rintro _ z ⟨e, rfl⟩; cases e
      rw [topI_c, dropN]
      by_cases g : t = 12
      · rw [if_pos g, if_pos g]
        refine g_X8_qDropsNots_13 ⟨by decide, fun q => absurd q (by decide), fun _ => ?_⟩
        have o1 := opn_c (t := t) (w := w) (by omega)
        have hd2 := hy.dec
        rw [show z 62 115 - 1 = (((o - 1 : Nat)) : Int) by omega]
        refine p_X8_qDropsNots_27 (d2 := d - 1) (s_qDrops hd2 (by omega)) (by omega) ?_
        rintro u ⟨-, ue, hu⟩
        have ue2 : Ex C_k z u := ((Ex.refl C_k z).put (Or.inl ⟨rfl, Or.inr (Or.inr rfl)⟩)).trans ue
        exact g_X8_qDropsNots_30 (ih (q ++ [t]) (o - 1) u (ye.trans ue2) (by omega) hu)
      · rw [if_neg g, if_neg g]
        exact g_X8_qDropsNots_13 ⟨by decide, fun _ => ⟨rfl, ye, hy⟩, fun g => absurd rfl g⟩
  exact key w q o m (Ex.refl _ _) ho h
theorem stk_at {S : List Int} (h : StkM m S) : (∀ i : Nat, i < S.length → m 149 i ∈ S) ∧ ∀ t ∈ S, ∃ i : Nat, i < S.length ∧ m 149 i = t := by
  induction S with
  | nil => exact ⟨fun i hi => absurd hi (Nat.not_lt_zero i), fun t ht => absurd ht List.not_mem_nil⟩
  | cons u S ih =>
    obtain ⟨i1, i2⟩ := ih h.2
    refine ⟨fun i hi => ?_, fun t ht => ?_⟩
    · rw [List.length_cons] at hi
      by_cases e : i = S.length
      · rw [e, h.1]; exact List.mem_cons_self ..
      · exact List.mem_cons_of_mem _ (i1 i (by omega))
    · rw [List.length_cons]
      rcases List.mem_cons.mp ht with g | g
      · exact ⟨S.length, by omega, by rw [h.1, g]⟩
      · obtain ⟨i, hi, hv⟩ := i2 t g
        exact ⟨i, by omega, hv⟩
theorem s_qHasSquare {q S : List Int} {o : Nat} (h : MKs m q S o) : P_X8_qHasSquare sc d [aR 62] m (PV (aI (if 25 ∈ S then 1 else 0)) m) := by
  have h3 := h.2.2.1
  have h8 := h.2.2.2.2.2.2.2
  obtain ⟨s1, s2⟩ := stk_at h.2.2.2.1
  refine ep_X8_qHasSquare (g_X8_qHasSquare_0 ?_)
  have key : ∀ (f i : Nat), i + f = S.length → (∀ j : Nat, j < i → m 149 j ≠ 25) → S_X8_qHasSquare sc d 2 [aR 62, aI i] [] m (PV (aI (if 25 ∈ S then 1 else 0)) m) := by
    intro f
    induction f with
    | zero =>
      intro i hi hj
      refine g_X8_qHasSquare_2 ⟨by omega, by omega, fun _ => ⟨?_, rfl⟩, fun g => absurd (by omega) g⟩
      rw [if_neg]
      intro g
      obtain ⟨j, hj1, hj2⟩ := s2 25 g
      exact hj j (by omega) hj2
    | succ f ih =>
      intro i hi hj
      have mm := s1 i (by omega)
      have rr := h.2.2.2.2.1 _ mm
      refine g_X8_qHasSquare_2 ⟨by omega, by omega, fun g => by omega, fun _ => ⟨by omega, by omega, by omega, fun g => ?_, fun g => ⟨?_, rfl⟩⟩⟩
      · rw [show ((i : Nat) : Int) + 1 = ((i + 1 : Nat) : Int) by omega]
        refine ih (i + 1) (by omega) (fun j hj2 => ?_)
        by_cases e : j = i
        · rw [e]; exact g
        · exact hj j (by omega)
      · have g2 : m 149 i = 25 := Classical.not_not.mp g
        rw [g2] at mm
        rw [if_pos mm]
  exact key S.length 0 (Nat.zero_add _) (fun j hj => absurd hj (Nat.not_lt_zero j))
def HPost (T : Int → Int) (n : Nat) (rl : Bool) (m : Mem) (F : Nat) (r : Except (Int × Int) (Stt × Xs)) (v : Option AV) (z : Mem) : Prop := Ex C_qt m z ∧ ((v = some (aI 1) ∧ ∃ f' τ x, f' < F ∧ runT T n rl f' true τ x = some r ∧ MVs T n rl z τ x) ∨ (v = some (aI 0) ∧ ((∃ e, r = .error e ∧ MEr z e) ∨ ∃ τ x, r = .ok (τ, x) ∧ MVs T n rl z τ x)))
theorem s_qGoesOnTest (hd : 10 ≤ d) : ∀ (F : Nat) (m : Mem) (σ : Stt) (x : Xs) (r : Except (Int × Int) (Stt × Xs)), runT T n rl F false σ x = some r → MVs T n rl m σ x → P_X8_qGoesOnTest sc d [aR 62] m (HPost T n rl m F r) := by
  intro F m σ x r hr hm
  -- what binds as close is dropped, the word laid down
  have fin : ∀ (f : Nat) (τ : Stt) (x : Int) (w q : List Int) (o : Nat) (z : Mem), x = 10 ∨ x = 11 → f < F → runT T n rl f true τ (q, x :: w, o) = some r → Ex C_qt m z → MTs T n rl z τ q w o → q.length + w.length + 1 ≤ τ.1 → (∀ t ∈ w, 10 ≤ t) → opn w ≤ o → (0 ≤ (z 62 114)) ∧ ((z 62 114) < 1700) ∧ HPost T n rl m F r (some (aI 1)) (wr (wr z 149 (z 62 114) x) 62 114 (((wr z 149 (z 62 114) x) 62 114) + 1)) := by
    intro f τ x w q o z hx hf hr ze hz hl h10 ho
    have h3 := hz.2.2.2.1.2.2.1
    have n1 := hz.1.1
    have sn := hz.2.2.1.1
    have hp := hz.2.2.2.1.push (t := x) (by omega) (by omega)
    have e1 : ∀ v, wr z 149 (z 62 114) v 62 114 = z 62 114 := fun v => wr_na _ _ _ _ _ _ (by decide)
    have zk : Ex C_k z (wr (wr z 149 (w.length : Nat) x) 62 114 ((w.length : Nat) + 1)) := ((Ex.refl C_k z).put (Or.inr (Or.inr rfl))).put (Or.inl ⟨rfl, Or.inr (Or.inl rfl)⟩)
    rw [e1, h3]
    refine ⟨by omega, by omega, ze.trans (qt_q (q_k zk)), Or.inl ⟨rfl, f, τ, _, hf, hr, ⟨hz.1.k zk, hz.2.1.k zk, hz.2.2.1.k zk, hp, ?_⟩, ?_, ?_⟩⟩
    · show q.length + (x :: w).length ≤ τ.1
      rw [List.length_cons]; omega
    · intro t ht
      rcases List.mem_cons.mp ht with g | g
      · omega
      · exact h10 t g
    · show opn (x :: w) ≤ o
      rw [opn_n (by omega)]; exact ho
  have conj : ∀ (f : Nat) (τ : Stt), f < F → ∀ (w q : List Int) (o : Nat) (y : Mem), runT T n rl f true τ (pshB o 10 (popW is10 w q)) = some r → Ex C_qt m y → MTs T n rl y τ q w o → q.length + w.length + 1 ≤ τ.1 → (∀ t ∈ w, 10 ≤ t) → opn w ≤ o → S_X8_qGoesOnTest sc d 87 [aR 62] [] y (HPost T n rl m F r) := by
    intro f τ hf w
    induction w with
    | nil =>
      intro q o y hr ye hy hl h10 ho
      refine g_X8_qGoesOnTest_87 (p_X8_qGoesOnTest_90 (d2 := d - 1) (s_qIsOn hy.2.2.2.1 (by decide)) (by omega) ?_)
      rintro _ z ⟨e, rfl⟩; cases e
      exact g_X8_qGoesOnTest_93 ⟨by decide, fun _ => fin f τ 10 [] q o z (Or.inl rfl) hf hr ye hy hl h10 ho, fun g => absurd rfl g⟩
    | cons t w ih =>
      intro q o y hr ye hy hl h10 ho
      rw [popW] at hr
      rw [List.length_cons] at hl
      refine g_X8_qGoesOnTest_87 (p_X8_qGoesOnTest_90 (d2 := d - 1) (s_qIsOn hy.2.2.2.1 (by decide)) (by omega) ?_)
      rintro _ z ⟨e, rfl⟩; cases e
      rw [topI_c]
      by_cases g : t = 10
      · rw [if_pos (by unfold is10; rw [decide_eq_true_iff]; exact g)] at hr
        rw [if_pos g]
        refine g_X8_qGoesOnTest_93 ⟨by decide, fun q => absurd q (by decide), fun _ => ?_⟩
        refine p_X8_qGoesOnTest_97 (d2 := d - 1) (s_qDrops hy.2.2.2.1 (by omega)) (by omega) ?_
        rintro u ⟨-, ue, hu⟩
        have lq : (q ++ [t]).length = q.length + 1 := by rw [List.length_append]; rfl
        refine g_X8_qGoesOnTest_100 (ih (q ++ [t]) o u hr (ye.trans (qt_q (q_k ue))) ⟨hy.1.k ue, hy.2.1.k ue, hy.2.2.1.k ue, hu, by omega⟩ (by omega) (fun u hu => h10 u (List.mem_cons_of_mem _ hu)) ?_)
        rw [opn_n (by omega)] at ho; exact ho
      · rw [if_neg (by unfold is10; rw [decide_eq_true_iff]; exact g)] at hr
        rw [if_neg g]
        exact g_X8_qGoesOnTest_93 ⟨by decide, fun _ => fin f τ 10 (t :: w) q o z (Or.inl rfl) hf hr ye hy (by rw [List.length_cons]; omega) h10 ho, fun g => absurd rfl g⟩
  have disj : ∀ (f : Nat) (τ : Stt), f < F → ∀ (w q : List Int) (o : Nat) (y : Mem), runT T n rl f true τ (pshB o 11 (popW is11 w q)) = some r → Ex C_qt m y → MTs T n rl y τ q w o → q.length + w.length + 1 ≤ τ.1 → (∀ t ∈ w, 10 ≤ t) → opn w ≤ o → S_X8_qGoesOnTest sc d 137 [aR 62] [] y (HPost T n rl m F r) := by
    intro f τ hf w
    induction w with
    | nil =>
      intro q o y hr ye hy hl h10 ho
      refine g_X8_qGoesOnTest_137 (p_X8_qGoesOnTest_140 (d2 := d - 1) (s_qIsOn hy.2.2.2.1 (by decide)) (by omega) ?_)
      rintro _ z ⟨e, rfl⟩; cases e
      refine g_X8_qGoesOnTest_143 ⟨by decide, fun g => absurd rfl g, fun _ => ?_⟩
      refine p_X8_qGoesOnTest_149 (d2 := d - 1) (s_qIsOn hy.2.2.2.1 (by decide)) (by omega) ?_
      rintro _ z ⟨e, rfl⟩; cases e
      exact g_X8_qGoesOnTest_152 ⟨by decide, fun _ => fin f τ 11 [] q o z (Or.inr rfl) hf hr ye hy hl h10 ho, fun g => absurd rfl g⟩
    | cons t w ih =>
      intro q o y hr ye hy hl h10 ho
      rw [popW] at hr
      rw [List.length_cons] at hl
      have drop : (t = 10 ∨ t = 11) → S_X8_qGoesOnTest sc d 156 [aR 62] [aR 62] y (HPost T n rl m F r) := by
        intro g
        rw [if_pos (by unfold is11; rw [decide_eq_true_iff]; exact g)] at hr
        refine p_X8_qGoesOnTest_156 (d2 := d - 1) (s_qDrops hy.2.2.2.1 (by omega)) (by omega) ?_
        rintro u ⟨-, ue, hu⟩
        have lq : (q ++ [t]).length = q.length + 1 := by rw [List.length_append]; rfl
        refine g_X8_qGoesOnTest_159 (ih (q ++ [t]) o u hr (ye.trans (qt_q (q_k ue))) ⟨hy.1.k ue, hy.2.1.k ue, hy.2.2.1.k ue, hu, by omega⟩ (by omega) (fun u hu => h10 u (List.mem_cons_of_mem _ hu)) ?_)
        rw [opn_n (by omega)] at ho; exact ho
      refine g_X8_qGoesOnTest_137 (p_X8_qGoesOnTest_140 (d2 := d - 1) (s_qIsOn hy.2.2.2.1 (by decide)) (by omega) ?_)
      rintro _ z ⟨e, rfl⟩; cases e
      rw [topI_c]
      refine g_X8_qGoesOnTest_143 ⟨by split <;> omega, fun g => drop (Or.inl (Classical.byContradiction (fun q => g (if_neg q)))), fun g => ?_⟩
      have t1 : ¬ t = 10 := fun q => g (by rw [if_pos q]; decide)
      refine p_X8_qGoesOnTest_149 (d2 := d - 1) (s_qIsOn hy.2.2.2.1 (by decide)) (by omega) ?_
      rintro _ z ⟨e, rfl⟩; cases e
      rw [topI_c]
      refine g_X8_qGoesOnTest_152 ⟨by split <;> omega, fun g => ?_, fun g => drop (Or.inr (Classical.byContradiction (fun q => g (if_neg q))))⟩
      have t2 : ¬ t = 11 := fun q => by rw [if_pos q] at g; omega
      rw [if_neg (by unfold is11; rw [decide_eq_true_iff]; omega)] at hr
      exact fin f τ 11 (t :: w) q o z (Or.inr rfl) hf hr ye hy (by rw [List.length_cons]; omega) h10 ho
  refine ep_X8_qGoesOnTest ?_
  have key : ∀ (f : Nat) (y : Mem) (σ : Stt) (q w : List Int) (o : Nat), f ≤ F → runT T n rl f false σ (q, w, o) = some r → Ex C_qt m y → MVs T n rl y σ (q, w, o) → S_X8_qGoesOnTest sc d 0 [aR 62] [] y (HPost T n rl m F r) := by
    intro f
    induction f with
    | zero => intro y σ q w o hF hr; cases hr
    | succ f ih =>
      intro y σ q w o hF hr ye hy
      rw [runT] at hr
      obtain ⟨hy, h10, ho⟩ := hy
      have hy : MTs T n rl y σ q w o := hy
      have h10 : ∀ t ∈ w, 10 ≤ t := h10
      have ho : opn w ≤ o := ho
      have ht := hy.1
      have n1 := ht.1
      have sn := hy.2.2.1.1
      have hl := hy.2.2.2.2
      have b5 := hy.2.2.1.2.1.1
      refine g_X8_qGoesOnTest_0 ⟨by omega, fun g => absurd b5 g, fun _ => ?_⟩
      refine p_X8_qGoesOnTest_8 (d2 := d - 1) (s_look ht hy.2.2.1) (by omega) ?_
      rintro _ z ⟨e, ze, zl⟩; cases e
      have zz := hy.lk ze zl.1 (Nat.le_refl _)
      have lb := @lk_bd T n σ ht.by
      have s93 := lk_sign (T := T) (n := n) (σ := σ) (c := 93) (Or.inr (by decide)) ht.by
      have mE := ye.trans (qt_q (q_lk ze))
      have rest : ¬ (kd T n σ = 93 ∧ 25 ∈ w) → S_X8_qGoesOnTest sc d 81 [aR 62] [aR 134, aR 62] z (HPost T n rl m F r) := by
        intro nc
        rw [if_neg nc] at hr
        refine p_X8_qGoesOnTest_81 (d2 := d - 1) (wrd_at (iw (by decide))).1 (s_takes (c := 134) (iw (by decide)) zz.1 zl.1 (by omega)) (by omega) ?_
        rintro v z1 ⟨e1, ⟨e, q1, s1⟩ | ⟨e, q1, l1⟩⟩ <;> cases e
        · have q1 : wE T n σ = 25 := q1
          have nn := @nx_of T n σ (wE_n q1 (by decide))
          have ov : opA T n σ = 10 := by unfold opA; rw [if_pos q1]
          rw [if_pos (by rw [ov]; decide), ov] at hr
          refine g_X8_qGoesOnTest_84 ⟨by decide, fun g => absurd g (by decide), fun _ => ?_⟩
          exact conj f (nx T n σ) (by omega) w q o z1 hr (mE.trans (qt_q (q_lk e1))) (zz.lk e1 s1 (by omega)) (by omega) h10 ho
        have q1 : ¬ wE T n σ = 25 := q1
        have oA : opA T n σ = 0 := by unfold opA; rw [if_neg q1]
        rw [if_neg (fun g => g oA)] at hr
        refine g_X8_qGoesOnTest_84 ⟨by decide, fun _ => ?_, fun g => absurd rfl g⟩
        have z1z := zz.lk e1 l1.1 (Nat.le_refl _)
        refine p_X8_qGoesOnTest_131 (d2 := d - 1) (wrd_at (iw (by decide))).1 (s_takes (c := 135) (iw (by decide)) z1z.1 l1.1 (by omega)) (by omega) ?_
        rintro v z2 ⟨e2, ⟨e, q2, s2⟩ | ⟨e, q2, l2⟩⟩ <;> cases e
        · have q2 : wE T n σ = 24 := q2
          have nn := @nx_of T n σ (wE_n q2 (by decide))
          have ov : opO T n σ = 11 := by unfold opO; rw [if_pos q2]
          rw [if_pos (by rw [ov]; decide), ov] at hr
          refine g_X8_qGoesOnTest_134 ⟨by decide, fun g => absurd g (by decide), fun _ => ?_⟩
          exact disj f (nx T n σ) (by omega) w q o z2 hr ((mE.trans (qt_q (q_lk e1))).trans (qt_q (q_lk e2))) (z1z.lk e2 s2 (by omega)) (by omega) h10 ho
        have q2 : ¬ wE T n σ = 24 := q2
        have oO : opO T n σ = 0 := by unfold opO; rw [if_neg q2]
        rw [if_neg (fun g => g oO)] at hr
        have z2z := z1z.lk e2 l2.1 (Nat.le_refl _)
        have M2 := (mE.trans (qt_q (q_lk e1))).trans (qt_q (q_lk e2))
        refine g_X8_qGoesOnTest_134 ⟨by decide, fun _ => ⟨by rw [l2.1.2.1.1]; decide, fun g => absurd l2.1.2.1.1 g, fun _ => ?_⟩, fun g => absurd rfl g⟩
        refine p_X8_qGoesOnTest_193 (d2 := d - 1) (s_qHasSquare z2z.2.2.2.1) (by omega) ?_
        rintro _ z3 ⟨e, rfl⟩; cases e
        by_cases g : 25 ∈ w
        · rw [if_pos g] at hr ⊢
          cases hr
          refine g_X8_qGoesOnTest_196 ⟨by decide, fun q => absurd q (by decide), fun _ => ?_⟩
          refine p_X8_qGoesOnTest_205 (d2 := d - 1) (s_X8_fail l2.1.2.1.1 (by decide) (l2.pl n1)) (by omega) ?_
          rintro z6 ⟨-, e6, er⟩
          rw [l2.2] at er
          exact g_X8_qGoesOnTest_208 ⟨M2.trans (qt_q (q_lk e6)), Or.inr ⟨rfl, Or.inl ⟨_, rfl, er⟩⟩⟩
        · rw [if_neg g] at hr ⊢
          cases hr
          exact g_X8_qGoesOnTest_196 ⟨by decide, fun _ => g_X8_qGoesOnTest_208 ⟨M2, Or.inr ⟨rfl, Or.inr ⟨σ, _, rfl, z2z, h10, ho⟩⟩⟩, fun g => absurd rfl g⟩
      refine g_X8_qGoesOnTest_11 ⟨by omega, fun g => rest (fun q => g (s93.mpr q.1)), fun g => ?_⟩
      have c93 : kd T n σ = 93 := s93.mp (Classical.not_not.mp g)
      refine p_X8_qGoesOnTest_17 (d2 := d - 1) (s_qHasSquare zz.2.2.2.1) (by omega) ?_
      rintro _ z1 ⟨e, rfl⟩; cases e
      by_cases g25 : 25 ∈ w
      · rw [if_pos g25]
        rw [if_pos ⟨c93, g25⟩] at hr
        have nn := @nx_of T n σ (by omega)
        have s3 := zl.go (Or.inr (by decide)) c93
        have e3 : Ex C_lk z1 (wr z1 62 2 (z1 62 2 + 1)) := (Ex.refl C_lk z1).put ⟨rfl, by decide, by decide, by decide, by decide, by decide⟩
        refine g_X8_qGoesOnTest_20 ⟨by decide, fun q => absurd q (by decide), fun _ => ?_⟩
        generalize wr z1 62 2 (z1 62 2 + 1) = z3 at s3 e3 ⊢
        have z3z := zz.lk e3 s3 (by omega)
        have M3 := mE.trans (qt_q (q_lk e3))
        -- down to the bracket
        have dn : ∀ (v q : List Int) (u : Mem), Ex C_qt m u → MTs T n rl u (nx T n σ) q v o → 25 ∈ v → (∀ t ∈ v, 10 ≤ t) → opn v ≤ o → runT T n rl f false (nx T n σ) (clsT o (popW n25 v q)) = some r → S_X8_qGoesOnTest sc d 33 [aR 62] [] u (HPost T n rl m F r) := by
          intro v
          induction v with
          | nil => intro q u _ _ h; cases h
          | cons t v ihv =>
            intro q u ue hu h25 h10 ho hr
            refine g_X8_qGoesOnTest_33 (p_X8_qGoesOnTest_36 (d2 := d - 1) (s_qIsOn hu.2.2.2.1 (by decide)) (by omega) ?_)
            rintro _ u ⟨e, rfl⟩; cases e
            rw [topI_c]
            rw [popW] at hr
            have hl := hu.2.2.2.2
            rw [List.length_cons] at hl
            by_cases g : t = 25
            · have n2 : ¬ n25 t = true := by unfold n25; rw [decide_eq_true_iff]; omega
              rw [if_neg n2, clsT] at hr
              rw [if_pos g]
              have o1 := opn_c (t := t) (w := v) (by omega)
              have h3 := hu.2.2.2.1.2.2.1
              have h6 := hu.2.2.2.1.2.2.2.2.2.1
              rw [List.length_cons] at h3
              have k7 := hu.2.2.2.1.pop.dec
              have zk : Ex C_k u (wr (wr u 62 114 (v.length : Nat)) 62 115 ((o - 1 : Nat) : Int)) := ((Ex.refl C_k u).put (Or.inl ⟨rfl, Or.inr (Or.inl rfl)⟩)).put (Or.inl ⟨rfl, Or.inr (Or.inr rfl)⟩)
              refine g_X8_qGoesOnTest_39 ⟨by decide, fun _ => ?_, fun q => absurd (by decide) q⟩
              rw [show u 62 114 - 1 = (v.length : Nat) by omega, show wr u 62 114 (v.length : Nat) 62 115 - 1 = ((o - 1 : Nat) : Int) by rw [wr_ne _ _ _ _ _ _ (by decide), h6]; omega]
              generalize wr (wr u 62 114 (v.length : Nat)) 62 115 ((o - 1 : Nat) : Int) = z7 at k7 zk ⊢
              refine p_X8_qGoesOnTest_70 (d2 := d - 1) (s_qDropsNots (by omega) v q (o - 1) z7 (hu.2.2.1.k zk).2.1.1 (by omega) k7) (by omega) ?_
              rintro z9 ⟨-, e9, k9⟩
              obtain ⟨d1, d2, d3⟩ := @dropN_all v q (o - 1)
              exact g_X8_qGoesOnTest_73 (ih z9 (nx T n σ) _ _ _ (by omega) hr ((ue.trans (qt_q (q_k zk))).trans (qt_q (q_k e9))) ⟨⟨(hu.1.k zk).k e9, (hu.2.1.k zk).k e9, (hu.2.2.1.k zk).k e9, k9, by show (dropN v (o - 1) q).1.length + (dropN v (o - 1) q).2.1.length ≤ (nx T n σ).1; omega⟩, d3 (fun t ht => h10 t (List.mem_cons_of_mem _ ht)), d2 (by omega)⟩)
            · have n2 : n25 t = true := by unfold n25; rw [decide_eq_true_iff]; exact g
              rw [if_pos n2] at hr
              rw [if_neg g]
              refine g_X8_qGoesOnTest_39 ⟨by decide, fun q => absurd rfl q, fun _ => ?_⟩
              refine p_X8_qGoesOnTest_43 (d2 := d - 1) (s_qDrops hu.2.2.2.1 (by omega)) (by omega) ?_
              rintro u2 ⟨-, ue2, hu2⟩
              have lq : (q ++ [t]).length = q.length + 1 := by rw [List.length_append]; rfl
              refine g_X8_qGoesOnTest_46 (ihv (q ++ [t]) u2 (ue.trans (qt_q (q_k ue2))) ⟨hu.1.k ue2, hu.2.1.k ue2, hu.2.2.1.k ue2, hu2, by omega⟩ ((List.mem_cons.mp h25).resolve_left (fun e => g e.symm)) (fun u hu => h10 u (List.mem_cons_of_mem _ hu)) ?_ hr)
              by_cases c : 12 = t ∨ 20 ≤ t
              · rw [opn_c c] at ho; omega
              · rw [opn_n c] at ho; exact ho
        exact dn w q z3 M3 z3z g25 h10 ho hr
      · rw [if_neg g25]
        exact g_X8_qGoesOnTest_20 ⟨by decide, fun _ => rest (fun q => g25 q.2), fun q => absurd rfl q⟩
  exact key F m σ x.1 x.2.1 x.2.2 (Nat.le_refl _) hr (Ex.refl _ _) hm
end QT
