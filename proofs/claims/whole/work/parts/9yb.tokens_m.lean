/-! reading: tokens of the reference, on -/
section MB
variable {sc : List Int} {d : Nat} {m : Mem} {Q : Option AV → Mem → Prop} {T : Int → Int} {n : Nat} {σ : Stt}
theorem s_X8_fail {k s : Int} (h5 : m 62 5 = 0) (hk : 1 ≤ k ∧ k ≤ 5) (hs : 0 ≤ s ∧ s ≤ 1600) : P_X8_fail sc d [aR 62, aI k, aI s] m (fun v z => v = none ∧ Ex C_lk m z ∧ MEr z (k, s)) := by
  refine ep_X8_fail (g_X8_fail_0 ⟨by omega, fun _ => ⟨rfl, ((Ex.refl C_lk m).put ⟨rfl, by decide, by decide, by decide, by decide, by decide⟩).put ⟨rfl, by decide, by decide, by decide, by decide, by decide⟩, ?_, wr_eq _ _ _ _, hk, hs⟩, fun c => absurd h5 c⟩)
  rw [wr_ne _ _ _ _ _ _ (by decide), wr_eq]
/-- behind a token -/
theorem MSt.nx {z : Mem} (hl : σ.1 ≤ n) (h5 : z 62 5 = 0 ∧ z 62 6 = -1) (h2 : z 62 2 = (ed T n σ : Nat)) (h4 : -1 ≤ z 62 4 ∧ z 62 4 ≤ ed T n σ) (h4b : z 62 4 = (ed T n σ : Nat) ↔ (kd T n σ = 256 ∨ kd T n σ = 257)) : MSt T n z (nx T n σ) := by
  have el := @ed_le T n σ hl
  have g1 := @tkN_ge T n (ed T n σ) (kd T n σ)
  have g2 := @tkN_le T n (ed T n σ) (kd T n σ) el.2
  refine ⟨g2, h5, ⟨ed T n σ, h2, g1, rfl⟩, ⟨h4.1, ?_⟩, ?_⟩
  · show z 62 4 ≤ ((tkN T n (ed T n σ) (kd T n σ)).1 : Nat); omega
  · show z 62 4 = ((tkN T n (ed T n σ) (kd T n σ)).1 : Nat) ↔ (tkN T n (ed T n σ) (kd T n σ)).2 = true
    have e1 : (tkN T n (ed T n σ) (kd T n σ)).1 = spn isBl T n (ed T n σ) := rfl
    have e2 : (tkN T n (ed T n σ) (kd T n σ)).2 = decide ((kd T n σ = 256 ∨ kd T n σ = 257) ∧ spn isBl T n (ed T n σ) = ed T n σ) := rfl
    rw [e2, decide_eq_true_iff, ← h4b, e1]
    rw [e1] at g1
    constructor
    · intro q; exact ⟨by omega, by omega⟩
    · intro q; rw [q.2]; exact q.1
theorem s_takes {c : Int} (hc : IsW c) (ht : Tm m T n) (h : MSt T n m σ) (hd : 3 ≤ d) : P_X8_takes sc d [aR 62, aR c] m (fun v z => Ex C_lk m z ∧ ((v = some (aI 1) ∧ wE T n σ = wOf c ∧ MSt T n z (nx T n σ)) ∨ (v = some (aI 0) ∧ wE T n σ ≠ wOf c ∧ MLk T n z σ))) := by
  obtain ⟨w1, w2, w3, w4, w5⟩ := wrd_at hc
  refine ep_X8_takes (g_X8_takes_0 w1 (p_X8_takes_2 (d2 := d - 1) w1 w1 (s_isHere hc ht h (by omega)) (by omega) ?_))
  rintro _ z ⟨e, ze, zl⟩; cases e
  by_cases q : wE T n σ = wOf c
  · rw [if_pos q]
    have tz := ht.lk ze
    have k2 := wE_kd q (by omega)
    have wv : wE T n σ = wi T n σ := by unfold wE; rw [if_pos k2]
    have el : ed T n σ = σ.1 + (WL.getD (wOf c) []).length := (wIs_iff.mp ((wi_eq w2).mp (by rw [← wv]; exact q))).1
    have e2 : z 62 2 + alen c = (ed T n σ : Nat) := by rw [zl.2, w3, el]; omega
    refine g_X8_takes_5 w1 ⟨by omega, fun _ => ⟨?_, Or.inl ⟨rfl, q, ?_⟩⟩, fun g => absurd (by decide) g⟩
    · exact (ze.put ⟨rfl, by decide, by decide, by decide, by decide, by decide⟩).put ⟨rfl, by decide, by decide, by decide, by decide, by decide⟩
    · rw [e2, wr_eq]
      refine MSt.nx zl.1.1 ⟨?_, ?_⟩ ?_ ⟨?_, ?_⟩ ?_
      · rw [wr_ne _ _ _ _ _ _ (by decide), wr_ne _ _ _ _ _ _ (by decide)]; exact zl.1.2.1.1
      · rw [wr_ne _ _ _ _ _ _ (by decide), wr_ne _ _ _ _ _ _ (by decide)]; exact zl.1.2.1.2
      · rw [wr_ne _ _ _ _ _ _ (by decide), wr_eq]
      · rw [wr_eq]; omega
      · rw [wr_eq]; omega
      · rw [wr_eq]; exact ⟨fun _ => Or.inl k2, fun _ => rfl⟩
  · rw [if_neg q]
    exact g_X8_takes_5 w1 ⟨by omega, fun g => absurd rfl g, fun _ => ⟨ze, Or.inr ⟨rfl, q, zl⟩⟩⟩
theorem MLk.pl (h : MLk T n m σ) (hn : n ≤ 1600) : 0 ≤ m 62 2 ∧ m 62 2 ≤ 1600 := by
  have := h.1.1
  rw [h.2]; omega
theorem s_asks {c : Int} (hc : IsW c) (ht : Tm m T n) (h : MSt T n m σ) (hd : 4 ≤ d) : P_X8_asks sc d [aR 62, aR c] m (fun v z => v = none ∧ Ex C_lk m z ∧ ((wE T n σ = wOf c ∧ MSt T n z (nx T n σ)) ∨ (wE T n σ ≠ wOf c ∧ MEr z (1, σ.1)))) := by
  have w1 := (wrd_at hc).1
  have b5 := h.2.1.1
  refine ep_X8_asks (g_X8_asks_0 w1 ⟨by omega, fun q => absurd b5 q, fun _ => ?_⟩)
  refine p_X8_asks_9 (d2 := d - 1) w1 (s_takes hc ht h (by omega)) (by omega) ?_
  rintro v z ⟨ze, ⟨e, q1, q2⟩ | ⟨e, q1, q2⟩⟩ <;> cases e
  · exact g_X8_asks_12 ⟨by omega, fun _ => g_X8_asks_24 ⟨rfl, ze, Or.inl ⟨q1, q2⟩⟩, fun g => absurd (by decide) g⟩
  · refine g_X8_asks_12 ⟨by omega, fun g => absurd rfl g, fun _ => ?_⟩
    refine p_X8_asks_21 (d2 := d - 1) (s_X8_fail q2.1.2.1.1 (by decide) (q2.pl ht.1)) (by omega) ?_
    rintro y ⟨-, ye, hy⟩
    rw [q2.2] at hy
    exact g_X8_asks_24 ⟨rfl, ze.trans ye, Or.inr ⟨q1, hy⟩⟩
/-- a sign: no blank, letter or digit -/
def IsS (c : Int) : Prop := (33 ≤ c ∧ c ≤ 47) ∨ (58 ≤ c ∧ c ≤ 96)
theorem lk_sign {c : Int} (hc : IsS c) (hb : ∀ i : Nat, i < n → 0 ≤ T i ∧ T i ≤ 255) : lkC T n σ = c ↔ kd T n σ = c := by
  unfold lkC kd
  unfold IsS at hc
  by_cases q : σ.1 < n
  · rw [if_pos q, if_neg (by omega)]
    by_cases q2 : isLe (T σ.1) = true
    · rw [if_pos q2]
      have := isLe_iff.mp q2
      constructor
      · intro g; omega
      · intro g; split at g <;> omega
    · rw [if_neg q2]
      by_cases q3 : isDi (T σ.1) = true
      · rw [if_pos q3]
        have := isDi_iff.mp q3
        constructor
        · intro g; omega
        · intro g; split at g <;> omega
      · rw [if_neg q3]
  · rw [if_neg q, if_pos (by omega)]
    constructor <;> intro g <;> omega
theorem ed_sign {c : Int} (hc : IsS c) (h : kd T n σ = c) : ed T n σ = σ.1 + 1 := by
  unfold IsS at hc
  unfold kd at h
  unfold ed
  by_cases q : n ≤ σ.1
  · rw [if_pos q] at h; omega
  · rw [if_neg q] at h ⊢
    by_cases q2 : isLe (T σ.1) = true
    · rw [if_pos q2] at h; split at h <;> omega
    · rw [if_neg q2] at h ⊢
      by_cases q3 : isDi (T σ.1) = true
      · rw [if_pos q3] at h; split at h <;> omega
      · rw [if_neg q3]
/-- a sign gone by -/
theorem MLk.go {c : Int} {z : Mem} (h : MLk T n z σ) (hc : IsS c) (hk : kd T n σ = c) : MSt T n (wr z 62 2 (z 62 2 + 1)) (nx T n σ) := by
  have es := ed_sign hc hk
  have := h.1.2.2.2.1
  unfold IsS at hc
  refine MSt.nx h.1.1 ⟨?_, ?_⟩ ?_ ⟨?_, ?_⟩ ?_
  · rw [wr_ne _ _ _ _ _ _ (by decide)]; exact h.1.2.1.1
  · rw [wr_ne _ _ _ _ _ _ (by decide)]; exact h.1.2.1.2
  · rw [wr_eq, h.2, es]; omega
  · rw [wr_ne _ _ _ _ _ _ (by decide)]; exact this.1
  · rw [wr_ne _ _ _ _ _ _ (by decide), es]; omega
  · rw [wr_ne _ _ _ _ _ _ (by decide), es]
    constructor <;> intro g <;> omega
theorem s_takesSign {c : Int} (hc : IsS c) (ht : Tm m T n) (h : MSt T n m σ) (hd : 3 ≤ d) : P_X8_takesSign sc d [aR 62, aI c] m (fun v z => Ex C_lk m z ∧ ((v = some (aI 1) ∧ kd T n σ = c ∧ MSt T n z (nx T n σ) ∧ z 62 2 = (σ.1 : Int) + 1) ∨ (v = some (aI 0) ∧ kd T n σ ≠ c ∧ MLk T n z σ))) := by
  have b5 := h.2.1.1
  have hs := hc
  unfold IsS at hs
  refine ep_X8_takesSign (g_X8_takesSign_0 ⟨by omega, fun q => absurd b5 q, fun _ => ?_⟩)
  refine p_X8_takesSign_8 (d2 := d - 1) (s_look ht h) (by omega) ?_
  rintro _ z ⟨e, ze, zl⟩; cases e
  have tz := ht.lk ze
  have lb := @lk_bd T n σ tz.by
  refine g_X8_takesSign_11 ⟨by omega, by omega, fun q => ?_, fun q => ⟨ze, Or.inr ⟨rfl, fun g => q ((lk_sign hc tz.by).mpr g), zl⟩⟩⟩
  have hk := (lk_sign hc tz.by).mp q
  exact ⟨ze.put ⟨rfl, by decide, by decide, by decide, by decide, by decide⟩, Or.inl ⟨rfl, hk, zl.go hc hk, by rw [wr_eq, zl.2]⟩⟩
theorem s_asksSign {c : Int} (hc : IsS c) (ht : Tm m T n) (h : MSt T n m σ) (hd : 4 ≤ d) : P_X8_asksSign sc d [aR 62, aI c] m (fun v z => v = none ∧ Ex C_lk m z ∧ ((kd T n σ = c ∧ MSt T n z (nx T n σ)) ∨ (kd T n σ ≠ c ∧ MEr z (1, σ.1)))) := by
  have b5 := h.2.1.1
  refine ep_X8_asksSign (g_X8_asksSign_0 ⟨by omega, fun q => absurd b5 q, fun _ => ?_⟩)
  refine p_X8_asksSign_9 (d2 := d - 1) (s_takesSign hc ht h (by omega)) (by omega) ?_
  rintro v z ⟨ze, ⟨e, q1, q2, -⟩ | ⟨e, q1, q2⟩⟩ <;> cases e
  · exact g_X8_asksSign_12 ⟨by omega, fun _ => g_X8_asksSign_24 ⟨rfl, ze, Or.inl ⟨q1, q2⟩⟩, fun g => absurd (by decide) g⟩
  · refine g_X8_asksSign_12 ⟨by omega, fun g => absurd rfl g, fun _ => ?_⟩
    refine p_X8_asksSign_21 (d2 := d - 1) (s_X8_fail q2.1.2.1.1 (by decide) (q2.pl ht.1)) (by omega) ?_
    rintro y ⟨-, ye, hy⟩
    rw [q2.2] at hy
    exact g_X8_asksSign_24 ⟨rfl, ze.trans ye, Or.inr ⟨q1, hy⟩⟩
theorem lk_dig : (48 ≤ lkC T n σ ∧ lkC T n σ ≤ 57) ∧ ¬ σ.2 = true ↔ kd T n σ = 257 ∧ σ.1 < n ∧ isDi (T σ.1) = true := by
  unfold lkC kd
  by_cases c : σ.1 < n
  · rw [if_pos c, if_neg (by omega)]
    by_cases c2 : isLe (T σ.1) = true
    · rw [if_pos c2]
      have := isLe_iff.mp c2
      constructor
      · intro g; omega
      · intro g; have := isDi_iff.mp g.2.2; omega
    · rw [if_neg c2]
      by_cases c4 : isDi (T σ.1) = true
      · rw [if_pos c4]
        have := isDi_iff.mp c4
        by_cases c3 : σ.2 = true
        · rw [if_pos c3]; exact ⟨fun g => absurd c3 g.2, fun g => absurd g.1 (by decide)⟩
        · rw [if_neg c3]; exact ⟨fun _ => ⟨rfl, c, c4⟩, fun _ => ⟨this, c3⟩⟩
      · rw [if_neg c4]
        exact ⟨fun g => absurd (isDi_iff.mpr g.1) c4, fun g => absurd g.2.2 c4⟩
  · rw [if_neg c]
    exact ⟨fun g => by omega, fun g => absurd g.2.1 c⟩
theorem kd257 (h : kd T n σ = 257) (hb : ∀ i : Nat, i < n → 0 ≤ T i ∧ T i ≤ 255) : σ.1 < n ∧ isDi (T σ.1) = true ∧ σ.2 = false ∧ ed T n σ = spn isDi T n (σ.1 + 1) := by
  have lt : σ.1 < n := kd_lt (by rw [h]; decide)
  have b := hb _ lt
  unfold kd at h
  rw [if_neg (by omega)] at h
  unfold ed
  rw [if_neg (by omega)]
  by_cases c : isLe (T σ.1) = true
  · rw [if_pos c] at h
    split at h <;> omega
  · rw [if_neg c] at h ⊢
    by_cases c4 : isDi (T σ.1) = true
    · rw [if_pos c4] at h ⊢
      by_cases c2 : σ.2 = true
      · rw [if_pos c2] at h; omega
      · exact ⟨lt, c4, by cases g : σ.2 with | true => exact absurd g c2 | false => rfl, rfl⟩
    · rw [if_neg c4] at h; omega
theorem s_X8_number {lo hi : Int} (hl : 0 ≤ lo ∧ lo ≤ 9999) (hh : 0 ≤ hi ∧ hi ≤ 9999) (ht : Tm m T n) (h : MSt T n m σ) (hd : 4 ≤ d) : P_X8_number sc d [aR 62, aI lo, aI hi] m (fun v z => ∃ w, v = some (aI w) ∧ R32 w ∧ Ex C_lk m z ∧ match numR T n lo hi σ with | .ok u => w = u ∧ MSt T n z (nx T n σ) ∧ z 62 10 = (σ.1 : Nat) | .error e => MEr z e) := by
  have b5 := h.2.1.1
  refine ep_X8_number (g_X8_number_0 ⟨by omega, fun _ => ?_, fun q => absurd b5 q⟩)
  refine p_X8_number_10 (d2 := d - 1) (s_look ht h) (by omega) ?_
  rintro _ z ⟨e, ze, zl⟩; cases e
  have tz := ht.lk ze
  have n1 := tz.1
  have e3 := tz.2.1
  have lb := @lk_bd T n σ tz.by
  have sn := zl.1.1
  have z2 := zl.2
  have z4 := zl.1.2.2.2
  refine g_X8_number_13 (p_X8_number_13 (d2 := d - 1) (ep_X8_isDigit (g_X8_isDigit_0 (Q := PV (aI (if lkC T n σ < 48 then 0 else (if 57 < lkC T n σ then 0 else 1 : Int) : Int)) z) ⟨by omega, rfl, rfl⟩)) (by omega) ?_)
  rintro _ z ⟨e, rfl⟩; cases e
  have no : kd T n σ ≠ 257 → S_X8_number sc d 36 [aR 62, aU, aU, aU, aU] [aI (z 62 2), aI 1, aR 62] z (fun v z => ∃ w, v = some (aI w) ∧ R32 w ∧ Ex C_lk m z ∧ match numR T n lo hi σ with | .ok u => w = u ∧ MSt T n z (nx T n σ) ∧ z 62 10 = (σ.1 : Nat) | .error e => MEr z e) := by
    intro g
    refine p_X8_number_36 (d2 := d - 1) (s_X8_fail zl.1.2.1.1 (by decide) (zl.pl n1)) (by omega) ?_
    rintro y ⟨-, ye, hy⟩
    refine g_X8_number_39 ⟨0, rfl, by decide, ze.trans ye, ?_⟩
    rw [show numR T n lo hi σ = .error (1, σ.1) by unfold numR; rw [if_pos g]]
    rw [z2] at hy
    exact hy
  refine g_X8_number_16 ⟨by split <;> (try split) <;> omega, fun q => no (fun g => ?_), fun q => ⟨by omega, by omega, fun q2 => ?_, fun q2 => no (fun g => ?_)⟩⟩
  · have := (lk_dig (T := T) (n := n) (σ := σ)).mpr ⟨g, (kd257 g tz.by).1, (kd257 g tz.by).2.1⟩
    rw [if_neg (by omega), if_neg (by omega)] at q; omega
  · have l1 : 48 ≤ lkC T n σ ∧ lkC T n σ ≤ 57 := by
      by_cases g : lkC T n σ < 48
      · rw [if_pos g] at q; exact absurd rfl q
      · rw [if_neg g] at q
        by_cases g2 : 57 < lkC T n σ
        · rw [if_pos g2] at q; exact absurd rfl q
        · omega
    have ng : ¬ σ.2 = true := fun g => q2 (by rw [z2]; exact (z4.2.mpr g).symm)
    obtain ⟨k1, k2, k3⟩ := (lk_dig (T := T) (n := n) (σ := σ)).mp ⟨l1, ng⟩
    obtain ⟨u1, u2, u3⟩ := kd_num k1 tz.by
    have ked := (kd257 k1 tz.by).2.2.2
    rw [z2]
    -- at the end of the digits
    have fin : ∀ (y : Mem) (v : Int), Ex C_lk m y → y 62 2 = (ed T n σ : Nat) → y 62 5 = 0 ∧ y 62 6 = -1 → ed T n σ - σ.1 ≤ 4 → v = nv T σ.1 (ed T n σ - σ.1) → R32 v ∧ R32 lo ∧ R32 hi ∧ S_X8_number sc d 149 [aR 62, aU, aU, aI σ.1, aI v] [aJ hi, aJ lo, aJ v] (wr (wr y 62 4 (y 62 2)) 62 10 σ.1) (fun v z => ∃ w, v = some (aI w) ∧ R32 w ∧ Ex C_lk m z ∧ match numR T n lo hi σ with | .ok u => w = u ∧ MSt T n z (nx T n σ) ∧ z 62 10 = (σ.1 : Nat) | .error e => MEr z e) := by
      intro y v ye y2 y5 l4 hv
      have nb := nv_bd (T := T) (s := σ.1) u3 l4
      have r0 : R32 v := by unfold R32; omega
      refine ⟨r0, by unfold R32; omega, by unfold R32; omega, ?_⟩
      have xE : Ex C_lk m (wr (wr y 62 4 (y 62 2)) 62 10 σ.1) := (ye.put ⟨rfl, by decide, by decide, by decide, by decide, by decide⟩).put ⟨rfl, by decide, by decide, by decide, by decide, by decide⟩
      have x5 : wr (wr y 62 4 (y 62 2)) 62 10 σ.1 62 5 = 0 := by rw [wr_ne _ _ _ _ _ _ (by decide), wr_ne _ _ _ _ _ _ (by decide)]; exact y5.1
      have x6 : wr (wr y 62 4 (y 62 2)) 62 10 σ.1 62 6 = -1 := by rw [wr_ne _ _ _ _ _ _ (by decide), wr_ne _ _ _ _ _ _ (by decide)]; exact y5.2
      have x2 : wr (wr y 62 4 (y 62 2)) 62 10 σ.1 62 2 = (ed T n σ : Nat) := by rw [wr_ne _ _ _ _ _ _ (by decide), wr_ne _ _ _ _ _ _ (by decide)]; exact y2
      have x4 : wr (wr y 62 4 (y 62 2)) 62 10 σ.1 62 4 = (ed T n σ : Nat) := by rw [wr_ne _ _ _ _ _ _ (by decide), wr_eq]; exact y2
      have x10 : wr (wr y 62 4 (y 62 2)) 62 10 σ.1 62 10 = (σ.1 : Nat) := wr_eq _ _ _ _
      generalize wr (wr y 62 4 (y 62 2)) 62 10 σ.1 = x at xE x5 x6 x2 x4 x10 ⊢
      refine p_X8_number_149 (d2 := d - 1) (s_isIn (by unfold R64; omega) (by unfold R64; omega) (by unfold R64; omega)) (by omega) ?_
      rintro _ x ⟨rfl, ⟨e, g⟩ | ⟨e, g⟩⟩ <;> cases e
      · refine g_X8_number_152 ⟨by omega, fun _ => g_X8_number_161 ⟨v, rfl, r0, xE, ?_⟩, fun g => absurd (by decide) g⟩
        rw [show numR T n lo hi σ = .ok v by unfold numR; rw [if_neg (fun q => q k1), if_neg (by omega), if_neg (by omega), ← hv]]
        exact ⟨rfl, MSt.nx sn ⟨x5, x6⟩ x2 ⟨by omega, by omega⟩ ⟨fun _ => Or.inr k1, fun _ => x4⟩, x10⟩
      · refine g_X8_number_152 ⟨by omega, fun g => absurd rfl g, fun _ => ?_⟩
        refine p_X8_number_158 (d2 := d - 1) (s_X8_fail x5 (by decide) (by omega)) (by omega) ?_
        rintro o ⟨-, oe, ho⟩
        refine g_X8_number_161 ⟨v, rfl, r0, xE.trans oe, ?_⟩
        rw [show numR T n lo hi σ = .error (2, σ.1) by unfold numR; rw [if_neg (fun q => q k1), if_neg (by omega), if_pos (by omega)]]
        exact ho
    have lp : ∀ (f a : Nat) (y : Mem) (v : Int), a + f = n → σ.1 ≤ a → Ex C_lk m y → y 62 2 = (a : Nat) → y 62 5 = 0 ∧ y 62 6 = -1 → (a = σ.1 ∨ spn isDi T n (σ.1 + 1) = spn isDi T n a) → a - σ.1 ≤ 4 → a ≤ ed T n σ → v = nv T σ.1 (a - σ.1) → S_X8_number sc d 49 [aR 62, aI lo, aI hi, aI σ.1, aI v] [] y (fun v z => ∃ w, v = some (aI w) ∧ R32 w ∧ Ex C_lk m z ∧ match numR T n lo hi σ with | .ok u => w = u ∧ MSt T n z (nx T n σ) ∧ z 62 10 = (σ.1 : Nat) | .error e => MEr z e) := by
      intro f
      induction f with
      | zero =>
        intro a y v ha hsa ye y2 y5 hsp l4 lae hv
        have ty := ht.lk ye
        have q3 := ty.2.1
        have ea : a = ed T n σ := by
          rcases hsp with g | g
          · omega
          · rw [ked, g, spn_st (by omega)]
        exact g_X8_number_49 ⟨by omega, by omega, fun _ => fin y v ye (by rw [y2, ea]) y5 (by omega) (by rw [hv, ea]), fun g => absurd (by omega) g⟩
      | succ f ih =>
        intro a y v ha hsa ye y2 y5 hsp l4 lae hv
        have ty := ht.lk ye
        have q3 := ty.2.1
        have tb := ty.2.2.1 a (by omega)
        refine g_X8_number_49 ⟨by omega, by omega, fun g => by omega, fun _ => ⟨by omega, by omega, ?_⟩⟩
        rw [y2, tb.1]
        refine p_X8_number_69 (d2 := d - 1) (ep_X8_isDigit (g_X8_isDigit_0 (Q := PV (aI (if T a < 48 then 0 else (if 57 < T a then 0 else 1 : Int) : Int)) y) ⟨by omega, rfl, rfl⟩)) (by omega) ?_
        rintro _ y ⟨e, rfl⟩; cases e
        refine g_X8_number_72 ⟨by split <;> (try split) <;> omega, fun g => ?_, fun g => ?_⟩
        · have nl : ¬ isDi (T a) = true := fun q => by have := isDi_iff.mp q; rw [if_neg (by omega), if_neg (by omega)] at g; omega
          have ea : a = ed T n σ := by
            rcases hsp with q | q
            · rw [q] at nl; exact absurd k3 nl
            · rw [ked, q, spn_st (fun q => nl q.2)]
          exact fin y v ye (by rw [y2, ea]) y5 (by omega) (by rw [hv, ea])
        · have il : isDi (T a) = true := by
            by_cases q : T a < 48
            · rw [if_pos q] at g; exact absurd rfl g
            · rw [if_neg q] at g
              by_cases q2 : 57 < T a
              · rw [if_pos q2] at g; exact absurd rfl g
              · exact isDi_iff.mpr (by omega)
          have hsp2 : spn isDi T n (σ.1 + 1) = spn isDi T n (a + 1) := by
            rcases hsp with q | q
            · rw [q]
            · rw [q, spn_go (by omega) il]
          have lt : a < ed T n σ := by rw [ked, hsp2]; exact spn_ge
          refine ⟨by omega, fun g4 => ⟨by omega, by omega, ?_⟩, fun g4 => ?_⟩
          · rw [y2, tb.1, show ((a : Nat) : Int) + 1 = ((a + 1 : Nat) : Int) by omega]
            refine ih (a + 1) _ _ (by omega) (by omega) (ye.put ⟨rfl, by decide, by decide, by decide, by decide, by decide⟩) (wr_eq _ _ _ _) ⟨?_, ?_⟩ (Or.inr hsp2) (by omega) (by omega) ?_
            · rw [wr_ne _ _ _ _ _ _ (by decide)]; exact y5.1
            · rw [wr_ne _ _ _ _ _ _ (by decide)]; exact y5.2
            · rw [show a + 1 - σ.1 = (a - σ.1) + 1 by omega, nv, ← hv, show ((σ.1 : Int) + ((a - σ.1 : Nat) : Int)) = a by omega]
          · refine p_X8_number_91 (d2 := d - 1) (s_X8_fail y5.1 (by decide) (by omega)) (by omega) ?_
            rintro o ⟨-, oe, ho⟩
            refine g_X8_number_94 ⟨0, rfl, by decide, ye.trans oe, ?_⟩
            rw [show numR T n lo hi σ = .error (1, (σ.1 : Int) + 4) by unfold numR; rw [if_neg (fun q => q k1), if_pos (by omega)]]
            rw [show y 62 2 = (σ.1 : Int) + 4 by omega] at ho
            exact ho
    exact lp (n - σ.1) σ.1 z 0 (by omega) (Nat.le_refl _) ze z2 zl.1.2.1 (Or.inl rfl) (by omega) (by omega) (by rw [Nat.sub_self]; rfl)
  · have := (kd257 g tz.by).2.2.1
    have q4 := z4.2.mp (by omega)
    rw [this] at q4; cases q4
end MB
