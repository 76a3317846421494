/-! reading: sums of the reference -/
section QS
variable {sc : List Int} {d : Nat} {m : Mem} {Q : Option AV → Mem → Prop} {T : Int → Int} {n : Nat} {rl : Bool} {σ : Stt}
def MQs (T : Int → Int) (n : Nat) (rl : Bool) (wb : List Int) (m : Mem) (σ : Stt) (x : Xs) : Prop := Tm m T n ∧ MRu m rl ∧ m 62 116 = (wb.length : Nat) ∧ MSt T n m σ ∧ MKs m x.1 (x.2.1 ++ wb) x.2.2 ∧ x.1.length + x.2.1.length + wb.length ≤ σ.1 ∧ opn x.2.1 ≤ x.2.2
def C_qs (a j : Int) : Prop := C_lk a j ∨ C_k a j
theorem MRu.k {z : Mem} (h : MRu m rl) (e : Ex C_k m z) : MRu z rl := (e 62 54 (fun c => by unfold C_k at c; omega)).trans h
theorem q_lk {z : Mem} (e : Ex C_lk m z) : Ex C_qs m z := e.mono (fun _ _ q => Or.inl q)
theorem q_k {z : Mem} (e : Ex C_k m z) : Ex C_qs m z := e.mono (fun _ _ q => Or.inr q)
theorem b116 {z : Mem} {v : Int} (h : m 62 116 = v) (e : Ex C_qs m z) : z 62 116 = v := (e 62 116 (fun c => by unfold C_qs C_lk C_k at c; omega)).trans h
theorem MEr.k {z : Mem} {e : Int × Int} (h : MEr m e) (ex : Ex C_k m z) : MEr z e := ⟨(ex 62 5 (fun c => by unfold C_k at c; omega)).trans h.1, (ex 62 6 (fun c => by unfold C_k at c; omega)).trans h.2.1, h.2.2⟩
theorem MEr.at2 {e : Int × Int} {v : Int} (h : MEr m e) : MEr (wr m 62 2 v) e := ⟨(wr_ne _ _ _ _ _ _ (by decide)).trans h.1, (wr_ne _ _ _ _ _ _ (by decide)).trans h.2.1, h.2.2⟩
theorem MEr.ne {e : Int × Int} (h : MEr m e) : m 62 5 ≠ 0 ∧ R32 (m 62 5) := by
  obtain ⟨a, b, c, e⟩ := h
  unfold R32
  omega
theorem asksSignE {e : Int × Int} {c : Int} (h : MEr m e) : P_X8_asksSign sc d [aR 62, aI c] m (fun v z => v = none ∧ z = m) := ep_X8_asksSign (g_X8_asksSign_0 ⟨h.ne.2, fun _ => g_X8_asksSign_24 ⟨rfl, rfl⟩, fun g => absurd h.ne.1 g⟩)
theorem asksE {e : Int × Int} {c : Int} (hc : IsW c) (h : MEr m e) : P_X8_asks sc d [aR 62, aR c] m (fun v z => v = none ∧ z = m) := ep_X8_asks (g_X8_asks_0 (wrd_at hc).1 ⟨h.ne.2, fun _ => g_X8_asks_24 ⟨rfl, rfl⟩, fun g => absurd h.ne.1 g⟩)
theorem qAsksWordE {e : Int × Int} (h : MEr m e) (hd : 1 ≤ d) : P_X8_qAsksWord sc d [aR 62, aI 10] m (fun v z => v = none ∧ z = m) := by
  refine ep_X8_qAsksWord (g_X8_qAsksWord_0 ⟨by omega, fun g => by omega, fun g => by omega, fun g => by omega, fun g => by omega, fun g => by omega, fun g => by omega, fun g => by omega, fun g => by omega, fun g => by omega, fun g => by omega, fun g => ?_⟩)
  refine p_X8_qAsksWord_171 (d2 := d - 1) (wrd_at (iw (by decide))).1 (asksE (iw (by decide)) h) (by omega) ?_
  rintro z hz
  exact g_X8_qAsksWord_174 hz
theorem opn_c {t : Int} {w : List Int} (h : 12 = t ∨ 20 ≤ t) : opn (t :: w) = opn w + 1 := by unfold opn; rw [List.filter_cons_of_pos (by rw [decide_eq_true_iff]; omega), List.length_cons]
theorem opn_n {t : Int} {w : List Int} (h : ¬ (12 = t ∨ 20 ≤ t)) : opn (t :: w) = opn w := by unfold opn; rw [List.filter_cons_of_neg (by rw [decide_eq_true_iff]; omega)]
theorem endP_opn : ∀ {w q : List Int} {o : Nat}, opn w ≤ o → opn (endP w o q).2.1 ≤ (endP w o q).2.2 := by
  intro w
  induction w with
  | nil => intro q o h; exact h
  | cons t w ih =>
    intro q o h
    rw [endP]
    by_cases g : 60 ≤ t
    · rw [if_pos g]
      rw [opn_c (by omega)] at h
      exact ih (by omega)
    · rw [if_neg g]; exact h
/-- what a part leaves: a fault, or the machine behind it -/
def PPost (T : Int → Int) (n : Nat) (rl : Bool) (wb : List Int) (m : Mem) (f : Nat) (ph : Bool) (r : Except (Int × Int) (Stt × Xs)) (z : Mem) : Prop := Ex C_qs m z ∧ ((∃ e, r = .error e ∧ MEr z e ∧ ∃ q S o, MKs z q S o) ∨ ∃ f' τ x, f' < f ∧ run T n rl f' ph τ x = some r ∧ MQs T n rl wb z τ x)
theorem PPost.up {wb : List Int} {y z : Mem} {f f2 : Nat} {ph : Bool} {r : Except (Int × Int) (Stt × Xs)} (he : Ex C_qs m y) (hf : f ≤ f2) (h : PPost T n rl wb y f ph r z) : PPost T n rl wb m f2 ph r z := by
  obtain ⟨a, b⟩ := h
  refine ⟨he.trans a, b.imp id ?_⟩
  rintro ⟨f', τ, x, c, e⟩
  exact ⟨f', τ, x, by omega, e⟩
theorem s_qPartTold {wb : List Int} (hd : 10 ≤ d) : ∀ (F : Nat) (m : Mem) (σ : Stt) (q w : List Int) (o : Nat) (r : Except (Int × Int) (Stt × Xs)), run T n rl F true σ (q, w, o) = some r → MQs T n rl wb m σ (q, w, o) → P_X8_qPartTold sc d [aR 62] m (fun v z => v = none ∧ PPost T n rl wb m F false r z) := by
  intro F m σ q w o r hr hm
  refine ep_X8_qPartTold (g_X8_qPartTold_0 ?_)
  -- a fault ends it
  have flt : ∀ (y : Mem) (e : Int × Int) (l1 : Int), R32 l1 → Ex C_qs m y → MEr y e → (∃ q S o, MKs y q S o) → r = .error e → S_X8_qPartTold sc d 2 [aR 62, aI l1, aU, aU, aU, aU] [] y (fun v z => v = none ∧ PPost T n rl wb m F false r z) := by
    intro y e l1 hl ye hy hk hr
    have n5 := hy.ne
    have fin : (none : Option AV) = none ∧ PPost T n rl wb m F false r y := ⟨rfl, ye, Or.inl ⟨e, hr, hy, hk⟩⟩
    exact g_X8_qPartTold_2 ⟨hl, fun _ => ⟨n5.2, fun g => absurd g n5.1, fun _ => fin⟩, fun _ => ⟨n5.2, fun _ => ⟨fun g => absurd g n5.1, fun _ => fin⟩, fun g => absurd n5.1 g⟩⟩
  have key : ∀ (f : Nat) (y : Mem) (σ : Stt) (q w : List Int) (o : Nat), f ≤ F → run T n rl f true σ (q, w, o) = some r → Ex C_qs m y → MQs T n rl wb y σ (q, w, o) → S_X8_qPartTold sc d 2 [aR 62, aI 1, aU, aU, aU, aU] [] y (fun v z => v = none ∧ PPost T n rl wb m F false r z) := by
    intro f
    induction f with
    | zero => intro y σ q w o hF hr; cases hr
    | succ f ih =>
      intro y σ q w o hF hr ye hy
      rw [run] at hr
      obtain ⟨ht, hu, hb, hs, hk, hl, ho⟩ := hy
      have hl : q.length + w.length + wb.length ≤ σ.1 := hl
      have ho : opn w ≤ o := ho
      have hk : MKs y q (w ++ wb) o := hk
      have lw : (w ++ wb).length = w.length + wb.length := List.length_append
      have n1 := ht.1
      have sn := hs.1
      have b5 := hs.2.1.1
      -- goes on with more
      have more : ∀ (z : Mem) (τ : Stt) (q w : List Int) (o : Nat), run T n rl f true τ (q, w, o) = some r → Ex C_qs m z → MQs T n rl wb z τ (q, w, o) → S_X8_qPartTold sc d 2 [aR 62, aI 1, aU, aU, aU, aU] [] z (fun v z => v = none ∧ PPost T n rl wb m F false r z) := fun z τ q w o h1 h2 h3 => ih z τ q w o (by omega) h1 h2 h3
      refine g_X8_qPartTold_2 ⟨by omega, fun g => absurd g (by decide), fun _ => ⟨by omega, fun g => absurd b5 g, fun _ => ?_⟩⟩
      refine p_X8_qPartTold_14 (d2 := d - 1) (s_look ht hs) (by omega) ?_
      rintro _ z ⟨e, ze, zl⟩; cases e
      refine g_X8_qPartTold_17 (p_X8_qPartTold_23 (d2 := d - 1) (s_qWordOf (Or.inr ⟨rfl, rfl⟩) (ht.lk ze) (hu.lk ze) zl.1 (by omega)) (by omega) ?_)
      rintro _ z2 ⟨e, ze2, zl2⟩; cases e
      rw [if_neg (show ¬ (10 : Int) = 0 by decide)]
      have zE := ze.trans ze2
      have t2 := ht.lk zE
      have u2 := hu.lk zE
      have k2 := hk.lk zE
      have b2 := b116 hb (q_lk zE)
      have mE : Ex C_qs m z2 := ye.trans (q_lk zE)
      have lb := @lk_bd T n σ ht.by
      have s40 := lk_sign (T := T) (n := n) (σ := σ) (c := 40) (Or.inl (by decide)) ht.by
      have p2 := zl2.pl n1
      refine g_X8_qPartTold_26 ⟨by omega, fun c => ?_, fun c => ?_⟩
      · -- no bracket
        have c40 : ¬ kd T n σ = 40 := fun g => c (s40.mpr g)
        rw [if_neg c40] at hr
        -- min or max
        have mm : (wE T n σ = 28 ∨ wE T n σ = 29) → ∀ (z3 : Mem), Ex C_lk z2 z3 → MLk T n z3 σ → S_X8_qPartTold sc d 83 [aR 62, aI 1, aU, aU, aU, aU] [aR 137, aR 62] z3 (fun v z => v = none ∧ PPost T n rl wb m F false r z) := by
          intro cw z3 e3 l3
          rw [if_pos cw] at hr
          have t3 := t2.lk e3
          have nn := @nx_of T n σ (by rcases cw with g | g <;> exact wE_n g (by decide))
          -- behind the word
          have aft : ∀ (z4 : Mem) (l4 : Int), (l4 = if wE T n σ = 28 then 1 else 0) → Ex C_lk z2 z4 → MSt T n z4 (nx T n σ) → S_X8_qPartTold sc d 101 [aR 62, aI 1, aU, aU, aI l4, aU] [] z4 (fun v z => v = none ∧ PPost T n rl wb m F false r z) := by
            intro z4 l4 hl4 e4 s4
            refine g_X8_qPartTold_101 (p_X8_qPartTold_102 (d2 := d - 1) (s_look (t2.lk e4) s4) (by omega) ?_)
            rintro _ z5 ⟨e, e5, l5⟩; cases e
            have E5 := e4.trans e5
            have t5 := t2.lk E5
            have k5 := k2.lk E5
            have lb2 := @lk_bd T n (nx T n σ) ht.by
            have s402 := lk_sign (T := T) (n := n) (σ := nx T n σ) (c := 40) (Or.inl (by decide)) ht.by
            have p5 := l5.pl n1
            have M5 : Ex C_qs m z5 := mE.trans (q_lk E5)
            have sq : (if l4 = 0 then 22 else 21 : Int) = if wE T n σ = 28 then 21 else 22 := by
              rw [hl4]
              by_cases g : wE T n σ = 28
              · rw [if_pos g, if_pos g]; rfl
              · rw [if_neg g, if_neg g]; rfl
            by_cases g : kd T n (nx T n σ) = 40
            · have gl := s402.mpr g
              rw [if_neg (fun q => q g)] at hr
              refine g_X8_qPartTold_105 ⟨by omega, by split <;> omega, fun q => ?_, fun _ => ⟨by rw [hl4]; split <;> omega, ?_⟩⟩
              · rw [if_neg (fun q => q gl)] at q; omega
              rw [if_neg (fun q => q gl), sq]
              have b20 : 0 ≤ (if wE T n σ = 28 then 21 else 22 : Int) ∧ (if wE T n σ = 28 then 21 else 22 : Int) ≤ 100 := by split <;> omega
              refine p_X8_qPartTold_141 (d2 := d - 1) (s_qOpens l5.1.2.1.1 k5 b20 (by omega) p5 (by omega)) (by omega) ?_
              rintro z6 ⟨-, ⟨o6, e6, er⟩ | ⟨o6, e6, k6⟩⟩
              · rw [if_pos o6] at hr
                cases hr
                rw [l5.2] at er
                refine g_X8_qPartTold_144 (p_X8_qPartTold_147 (d2 := d - 1) (asksSignE er) (by omega) ?_)
                rintro _ ⟨-, rfl⟩
                exact g_X8_qPartTold_150 (flt _ _ 1 (by decide) (M5.trans (q_lk e6)) er ⟨_, _, _, k5.lk e6⟩ rfl)
              · rw [if_neg o6] at hr
                refine g_X8_qPartTold_144 (p_X8_qPartTold_147 (d2 := d - 1) (s_asksSign (c := 40) (Or.inl (by decide)) (t5.k e6) (l5.1.k e6) (by omega)) (by omega) ?_)
                rintro z7 ⟨-, e7, ⟨-, s7⟩ | ⟨q7, -⟩⟩
                · have n2 := @nx_of T n (nx T n σ) (by rw [g]; decide)
                  refine g_X8_qPartTold_150 (more z7 _ _ _ _ hr ((M5.trans (q_k e6)).trans (q_lk e7)) ⟨(t5.k e6).lk e7, ((u2.lk E5).k e6).lk e7, b116 (b116 (b116 b2 (q_lk E5)) (q_k e6)) (q_lk e7), s7, k6.lk e7, ?_, ?_⟩)
                  · show q.length + (_ :: w).length + wb.length ≤ (nx T n (nx T n σ)).1
                    rw [List.length_cons]; omega
                  · show opn (_ :: w) ≤ o + 1
                    rw [opn_c (by split <;> omega)]; omega
                · exact absurd g q7
            · have gl : lkC T n (nx T n σ) ≠ 40 := fun q => g (s402.mp q)
              rw [if_pos (show kd T n (nx T n σ) ≠ 40 from g)] at hr
              cases hr
              refine g_X8_qPartTold_105 ⟨by omega, by split <;> omega, fun _ => ?_, fun q => absurd (if_pos gl) q⟩
              refine g_X8_qPartTold_144 (p_X8_qPartTold_147 (d2 := d - 1) (s_asksSign (c := 40) (Or.inl (by decide)) t5 l5.1 (by omega)) (by omega) ?_)
              rintro z7 ⟨-, e7, ⟨q7, -⟩ | ⟨-, er⟩⟩
              · exact absurd q7 g
              · exact g_X8_qPartTold_150 (flt _ _ 1 (by decide) (M5.trans (q_lk e7)) er ⟨_, _, _, k5.lk e7⟩ rfl)
          refine p_X8_qPartTold_83 (d2 := d - 1) (wrd_at (iw (by decide))).1 (s_takes (c := 137) (iw (by decide)) t3 l3.1 (by omega)) (by omega) ?_
          rintro v z4 ⟨e4, ⟨e, q4, s4⟩ | ⟨e, q4, s4⟩⟩ <;> cases e
          · have q4 : wE T n σ = 28 := q4
            exact g_X8_qPartTold_86 ⟨by omega, fun _ => aft z4 1 (by rw [if_pos q4]) (e3.trans e4) s4, fun q => absurd (by decide) q⟩
          · have q4 : ¬ wE T n σ = 28 := q4
            refine g_X8_qPartTold_86 ⟨by omega, fun q => absurd rfl q, fun _ => ?_⟩
            refine p_X8_qPartTold_98 (d2 := d - 1) (wrd_at (iw (by decide))).1 (s_asks (c := 138) (iw (by decide)) (t3.lk e4) s4.1 (by omega)) (by omega) ?_
            rintro z5 ⟨-, e5, ⟨-, s5⟩ | ⟨q5, -⟩⟩
            · exact aft z5 0 (by rw [if_neg q4]) ((e3.trans e4).trans e5) s5
            · have q5 : ¬ wE T n σ = 29 := q5
              omega
        refine p_X8_qPartTold_61 (d2 := d - 1) (wrd_at (iw (by decide))).1 (s_isHere (c := 137) (iw (by decide)) t2 zl2.1 (by omega)) (by omega) ?_
        rintro _ z3 ⟨e, e3, l3⟩; cases e
        rw [show wOf 137 = 28 from rfl]
        refine g_X8_qPartTold_64 ⟨by split <;> omega, fun g => ?_, fun g => ?_⟩
        · exact mm (Or.inl (Classical.byContradiction (fun q => g (if_neg q)))) z3 e3 l3
        have w28 : ¬ wE T n σ = 28 := fun q => g (by rw [if_pos (show wE T n σ = ((28 : Nat) : Int) from q)]; decide)
        refine p_X8_qPartTold_72 (d2 := d - 1) (wrd_at (iw (by decide))).1 (s_isHere (c := 138) (iw (by decide)) (t2.lk e3) l3.1 (by omega)) (by omega) ?_
        rintro _ z4 ⟨e, e4, l4⟩; cases e
        rw [show wOf 138 = 29 from rfl]
        have E4 := e3.trans e4
        refine g_X8_qPartTold_75 ⟨by split <;> omega, fun g => ⟨by split <;> omega, fun of => ?_, fun of => ?_⟩, fun g => ?_⟩
        · -- a part
          have w29 : ¬ wE T n σ = 29 := fun q => by rw [if_pos (show wE T n σ = ((29 : Nat) : Int) from q)] at g; omega
          have nof : ¬ (rl = false ∧ wE T n σ = 23) := fun q => by rw [if_pos q] at of; omega
          rw [if_neg (fun q => q.elim w28 w29), if_neg nof] at hr
          have M4 : Ex C_qs m z4 := mE.trans (q_lk E4)
          have t4 := t2.lk E4
          have k4 := k2.lk E4
          -- its code told, what waits for it dropped
          have fin : ∀ (z5 : Mem) (c : Int) (τ : Stt), Ex C_lk z4 z5 → MSt T n z5 τ → σ.1 + 1 ≤ τ.1 → run T n rl f false τ (endP w o (q ++ [c])) = some r → S_X8_qPartTold sc d 237 [aR 62, aU, aU, aU, aU, aU] [aI c, aR 62] z5 (fun v z => v = none ∧ PPost T n rl wb m F false r z) := by
            intro z5 c τ e5 s5 hτ hr
            have tn := s5.1
            refine p_X8_qPartTold_237 (d2 := d - 1) (s_qCode (k4.lk e5) (by omega)) (by omega) ?_
            rintro z6 ⟨-, e6, k6⟩
            have s6 := s5.k e6
            refine g_X8_qPartTold_240 (p_X8_qPartTold_241 (d2 := d - 1) (s_qEndsPart (by omega) w (q ++ [c]) o z6 s6.2.1.1 ho k6 (b116 (b116 (b116 b2 (q_lk E4)) (q_lk e5)) (q_k e6))) (by omega) ?_)
            rintro z7 ⟨-, e7, k7⟩
            refine g_X8_qPartTold_244 ⟨rfl, ((M4.trans (q_lk e5)).trans (q_k e6)).trans (q_k e7), Or.inr ⟨f, τ, _, hF, hr, (((t4.lk e5).k e6).k e7), ((((u2.lk E4).lk e5).k e6).k e7), b116 (b116 (b116 (b116 b2 (q_lk E4)) (q_lk e5)) (q_k e6)) (q_k e7), s6.k e7, k7, ?_, endP_opn ho⟩⟩
            have := @endP_len w (q ++ [c]) o
            rw [List.length_append, List.length_singleton] at this
            omega
          refine g_X8_qPartTold_2 ⟨by omega, fun _ => ⟨by rw [l4.1.2.1.1]; decide, fun _ => ?_, fun q => absurd l4.1.2.1.1 q⟩, fun q => absurd rfl q⟩
          refine p_X8_qPartTold_198 (d2 := d - 1) (s_qWordOf (Or.inl ⟨rfl, rfl⟩) t4 (u2.lk E4) l4.1 (by omega)) (by omega) ?_
          rintro _ z5 ⟨e, e5, l5⟩; cases e
          rw [if_pos (show (0 : Int) = 0 from rfl)]
          have pb := @widx_p rl (wE T n σ)
          have wb2 := @widx_bd (wE T n σ)
          by_cases p0 : pcode rl (wE T n σ) = 0
          · rw [if_pos p0] at hr ⊢
            refine g_X8_qPartTold_201 ⟨by omega, fun _ => ?_, fun q => absurd rfl q⟩
            refine g_X8_qPartTold_212 ⟨by omega, fun _ => ?_, fun q => absurd rfl q⟩
            refine p_X8_qPartTold_233 (d2 := d - 1) (s_X8_number (lo := 0) (hi := 9999) (by decide) (by decide) (t4.lk e5) l5.1 (by omega)) (by omega) ?_
            rintro u z6 ⟨v, e, -, e6, hv⟩; cases e
            refine g_X8_qPartTold_236 ?_
            cases en : numR T n 0 9999 σ with
            | error e =>
              rw [en] at hr hv
              cases hr
              have hv : MEr z6 e := hv
              refine p_X8_qPartTold_237 (d2 := d - 1) (s_qCode ((k4.lk e5).lk e6) (by omega)) (by omega) ?_
              rintro z7 ⟨-, e7, k7⟩
              have er := hv.k e7
              refine g_X8_qPartTold_240 (p_X8_qPartTold_241 (d2 := d - 1) (P := fun v y => v = none ∧ y = z7) (ep_X8_qEndsPart (g_X8_qEndsPart_0 ⟨er.ne.2, fun _ => ⟨rfl, rfl⟩, fun q => absurd er.ne.1 q⟩)) (by omega) ?_)
              rintro _ ⟨-, rfl⟩
              exact g_X8_qPartTold_244 ⟨rfl, ((M4.trans (q_lk e5)).trans (q_lk e6)).trans (q_k e7), Or.inl ⟨e, rfl, er, _, _, _, k7⟩⟩
            | ok a =>
              rw [en] at hr hv
              obtain ⟨rfl, s6, -⟩ := hv
              have kn : kd T n σ ≠ 258 := fun q => by unfold numR at en; rw [if_pos (by rw [q]; decide)] at en; cases en
              exact fin z6 _ _ (e5.trans e6) s6 (nx_of kn).1 hr
          · rw [if_neg p0] at hr ⊢
            have px : 0 ≤ widx (wE T n σ) ∧ pcode rl (wE T n σ) = 40 + widx (wE T n σ) := by
              by_cases g0 : widx (wE T n σ) < 0
              · exact absurd (pb.2.2.1 g0) p0
              · by_cases g1 : 10 ≤ widx (wE T n σ)
                · exact absurd (pb.2.2.2 g1) p0
                · by_cases g2 : alw2 rl (widx (wE T n σ))
                  · exact ⟨by omega, pb.1 (by omega) (by omega) g2⟩
                  · exact absurd (pb.2.1 g2) p0
            have ek : pcode rl (wE T n σ) - 40 = widx (wE T n σ) := by omega
            rw [ek]
            refine g_X8_qPartTold_201 ⟨by omega, fun q => by omega, fun _ => ?_⟩
            refine p_X8_qPartTold_209 (d2 := d - 1) (s_qAsksWord px.1 rfl (t4.lk e5) l5.1 (by omega)) (by omega) ?_
            rintro z6 ⟨-, e6, s6⟩
            refine g_X8_qPartTold_212 ⟨by omega, fun q => by omega, fun _ => ?_⟩
            rw [← px.2]
            exact fin z6 _ _ (e5.trans e6) s6 (nx_of (by rw [pc_kd p0]; decide)).1 hr
        · -- yards of
          have w29 : ¬ wE T n σ = 29 := fun q => by rw [if_pos (show wE T n σ = ((29 : Nat) : Int) from q)] at g; omega
          have yof : rl = false ∧ wE T n σ = 23 := Classical.byContradiction (fun q => of (if_neg q))
          rw [if_neg (fun q => q.elim w28 w29), if_pos yof] at hr
          rw [if_pos yof]
          have p4 := l4.pl n1
          have M4 : Ex C_qs m z4 := mE.trans (q_lk E4)
          have nn := @nx_of T n σ (wE_n yof.2 (by decide))
          refine p_X8_qPartTold_170 (d2 := d - 1) (s_qOpens (t := 60 + 10 - 10) l4.1.2.1.1 (k2.lk E4) (by decide) (by omega) p4 (by omega)) (by omega) ?_
          rintro z6 ⟨-, ⟨o6, e6, er⟩ | ⟨o6, e6, k6⟩⟩
          · rw [if_pos o6] at hr
            cases hr
            rw [l4.2] at er
            refine g_X8_qPartTold_173 (p_X8_qPartTold_175 (d2 := d - 1) (qAsksWordE er (by omega)) (by omega) ?_)
            rintro _ ⟨-, rfl⟩
            exact g_X8_qPartTold_178 (flt _ _ 1 (by decide) (M4.trans (q_lk e6)) er ⟨_, _, _, (k2.lk E4).lk e6⟩ rfl)
          · rw [if_neg o6] at hr
            refine g_X8_qPartTold_173 (p_X8_qPartTold_175 (d2 := d - 1) (s_qAsksWord (by decide) (widx_10.mpr yof.2) ((t2.lk E4).k e6) (l4.1.k e6) (by omega)) (by omega) ?_)
            rintro z7 ⟨-, e7, s7⟩
            refine g_X8_qPartTold_178 (more z7 _ _ _ _ hr ((M4.trans (q_k e6)).trans (q_lk e7)) ⟨((t2.lk E4).k e6).lk e7, ((u2.lk E4).k e6).lk e7, b116 (b116 (b116 b2 (q_lk E4)) (q_k e6)) (q_lk e7), s7, k6.lk e7, ?_, ?_⟩)
            · show q.length + (_ :: w).length + wb.length ≤ (nx T n σ).1
              rw [List.length_cons]; omega
            · show opn (60 :: w) ≤ o + 1
              rw [opn_c (by decide)]; omega
        · exact mm (Or.inr (Classical.byContradiction (fun q => g (if_neg q)))) z4 E4 l4
      · -- a bracket
        have c40 : kd T n σ = 40 := s40.mp (Classical.not_not.mp c)
        rw [if_pos c40] at hr
        have nn := @nx_of T n σ (by rw [c40]; decide)
        refine p_X8_qPartTold_40 (d2 := d - 1) (s_qOpens (t := 20) zl2.1.2.1.1 k2 (by decide) (by omega) p2 (by omega)) (by omega) ?_
        rintro z6 ⟨-, ⟨o6, e6, er⟩ | ⟨o6, e6, k6⟩⟩
        · rw [if_pos o6] at hr
          cases hr
          rw [zl2.2] at er
          exact g_X8_qPartTold_43 (flt _ _ 1 (by decide) ((mE.trans (q_lk e6)).put (Or.inl ⟨rfl, by decide, by decide, by decide, by decide, by decide⟩)) er.at2 ⟨_, _, _, (k2.lk e6).lk ((Ex.refl C_lk z6).put ⟨rfl, by decide, by decide, by decide, by decide, by decide⟩)⟩ rfl)
        · rw [if_neg o6] at hr
          have l6 : MLk T n z6 σ := ⟨zl2.1.k e6, (e6 62 2 (fun c => by unfold C_k at c; omega)).trans zl2.2⟩
          have s7 := l6.go (Or.inl (by decide)) c40
          have e7 : Ex C_lk z6 (wr z6 62 2 (z6 62 2 + 1)) := (Ex.refl C_lk z6).put ⟨rfl, by decide, by decide, by decide, by decide, by decide⟩
          refine g_X8_qPartTold_43 (more _ _ _ _ _ hr ((mE.trans (q_k e6)).trans (q_lk e7)) ⟨(t2.k e6).lk e7, (u2.k e6).lk e7, b116 (b116 b2 (q_k e6)) (q_lk e7), s7, k6.lk e7, ?_, ?_⟩)
          · show q.length + (_ :: w).length + wb.length ≤ (nx T n σ).1
            rw [List.length_cons]; omega
          · show opn (20 :: w) ≤ o + 1
            rw [opn_c (by decide)]; omega
  exact key F m σ q w o (Nat.le_refl _) hr (Ex.refl _ _) hm
end QS
