/-! reading: the class's reader, small methods; how far a formula reaches -/
section XN
variable {sc : List Int} {d : Nat} {m : Mem} {Q : Option AV → Mem → Prop} {T : Int → Int} {n : Nat} {rl : Bool} {F : Int}
theorem kd_num {σ : Stt} (h : kd T n σ = 257) (ht : ∀ i : Nat, i < n → 0 ≤ T i ∧ T i ≤ 255) : σ.1 < ed T n σ ∧ ed T n σ ≤ n ∧ ∀ i : Nat, i < ed T n σ - σ.1 → 48 ≤ T ((σ.1 : Int) + i) ∧ T ((σ.1 : Int) + i) ≤ 57 := by
  have lt : σ.1 < n := kd_lt (by rw [h]; decide)
  have eg := @ed_gt T n σ lt
  have b := ht σ.1 lt
  refine ⟨eg.1, eg.2, fun i hi => ?_⟩
  have hed : isDi (T σ.1) = true ∧ ed T n σ = spn isDi T n (σ.1 + 1) := by
    unfold kd at h
    rw [if_neg (by omega)] at h
    unfold ed
    rw [if_neg (by omega)]
    by_cases c : isLe (T σ.1) = true
    · rw [if_pos c] at h; split at h <;> omega
    · rw [if_neg c] at h ⊢
      by_cases c2 : isDi (T σ.1) = true
      · rw [if_pos c2]; exact ⟨c2, rfl⟩
      · rw [if_neg c2] at h; omega
  by_cases i0 : i = 0
  · have := isDi_iff.mp hed.1
    rw [i0, show ((σ.1 : Int) + ((0 : Nat) : Int)) = σ.1 by omega]; exact this
  · have := isDi_iff.mp (@spn_in isDi T n (σ.1 + 1) (σ.1 + i) (by omega) (by rw [← hed.2]; omega))
    rw [show ((σ.1 : Int) + (i : Int)) = ((σ.1 + i : Nat) : Int) by omega]; exact this
theorem Tx.by {m : Mem} (h : Tx m T n) : ∀ i : Nat, i < n → 0 ≤ T i ∧ T i ≤ 255 := fun i hi => (h.2.2.2 i hi).2
theorem s_expectSign {r : Rs} {c : Int} (h : XR T n rl F m r) (hc : 0 ≤ c ∧ c ≤ 255) (hd : 7 ≤ d) : P_X5_expectSign sc d [aR 32, aI c] m (PR T n rl F m (r.bind (exS T n c))) := by
  have h4 := h.k4
  have n1 := h.1.1
  refine ep_X5_expectSign (g_X5_expectSign_0 ⟨by omega, by omega, fun c1 => ?_, fun c1 => ?_⟩)
  · refine p_X5_expectSign_21 (d2 := d - 1) (s_fail (k := 1) h (by decide) (fun x e => ?_)) (by omega) ?_
    · subst e; rw [h.s3]; have := h.2.2.2.2.2.1; omega
    · rintro z hz
      refine g_X5_expectSign_24 ?_
      cases r with
      | ok x =>
        show PR T n rl F m (exS T n c x) none z
        unfold exS
        rw [if_neg (show ¬ kd T n x.1 = c from fun q => c1 (h4.1.trans q)), ← h.s3]
        exact hz
      | error e => exact hz
  · refine p_X5_expectSign_9 (d2 := d - 1) (s_advance h (by omega)) (by omega) ?_
    rintro z hz
    refine g_X5_expectSign_12 (g_X5_expectSign_24 ?_)
    cases r with
    | ok x =>
      show PR T n rl F m (exS T n c x) none z
      have e4 : m 32 4 = kd T n x.1 := h4.1
      unfold exS
      rw [if_pos (by omega)]
      exact hz
    | error e => have e4 : m 32 4 = 260 := h4.1; omega
def exW (T : Int → Int) (n : Nat) (k : Int) (x : Stt × List Int) : Rs := if wE T n x.1 = k then .ok (nx T n x.1, x.2) else .error (1, x.1.1)
theorem s_expect {r : Rs} {k : Int} (h : XR T n rl F m r) (hk : 0 ≤ k ∧ k ≤ 40) (hd : 7 ≤ d) : P_X5_expect sc d [aR 32, aI k] m (PR T n rl F m (r.bind (exW T n k))) := by
  have n1 := h.1.1
  refine ep_X5_expect (g_X5_expect_0 (p_X5_expect_2 (d2 := d - 1) (s_isWord h hk) (by omega) ?_))
  rintro _ z ⟨e, rfl⟩; cases e
  refine g_X5_expect_5 ⟨by split <;> omega, fun c => ?_, fun c => ?_⟩
  · refine p_X5_expect_21 (d2 := d - 1) (s_fail (k := 1) h (by decide) (fun x e => ?_)) (by omega) ?_
    · subst e; rw [h.s3]; have := h.2.2.2.2.2.1; omega
    · rintro y hz
      refine g_X5_expect_24 ?_
      cases r with
      | ok x =>
        show PR T n rl F z (exW T n k x) none y
        unfold exW
        rw [if_neg (fun q => by rw [if_pos (show wEE T n (.ok x) = k from q)] at c; omega), ← h.s3]
        exact hz
      | error e => exact hz
  · refine p_X5_expect_9 (d2 := d - 1) (s_advance h (by omega)) (by omega) ?_
    rintro y hz
    refine g_X5_expect_12 (g_X5_expect_24 ?_)
    cases r with
    | ok x =>
      show PR T n rl F z (exW T n k x) none y
      unfold exW
      rw [if_pos (show wE T n x.1 = k from Classical.byContradiction (fun q => c (if_neg q)))]
      exact hz
    | error e => exact absurd (if_neg (show ¬ (-1 : Int) = k by omega)) c
theorem s_number {r : Rs} {lo hi : Int} (h : XR T n rl F m r) (hl : 0 ≤ lo ∧ lo ≤ 1000) (hh : -1 ≤ hi ∧ hi ≤ 1000000) (hd : 7 ≤ d) : P_X5_number sc d [aR 32, aI lo, aI hi] m (fun v z => ∃ w, v = some (aI w) ∧ (Ex (C_rd F) m z ∧ XR T n rl F z (r.bind fun x => (numR T n lo hi x.1).bind fun _ => .ok (nx T n x.1, x.2))) ∧ ∀ x u, r = .ok x → numR T n lo hi x.1 = .ok u → w = u) := by
  have h4 := h.k4
  have n1 := h.1.1
  cases r with
  | error e =>
    have e4 : m 32 4 = 260 := h4.1
    refine ep_X5_number (g_X5_number_0 ⟨by omega, fun c => by omega, fun _ => ?_⟩)
    refine p_X5_number_21 (d2 := d - 1) (s_fail (k := 1) h (by decide) (fun x e => by cases e)) (by omega) ?_
    rintro z ⟨-, ze, hz⟩
    exact g_X5_number_24 (g_X5_number_80 ⟨_, rfl, ⟨ze, hz⟩, fun x u e => by cases e⟩)
  | ok x =>
    have e4 : m 32 4 = kd T n x.1 := h4.1
    have e3 := h.s3
    have e2 : m 32 2 = (ed T n x.1 : Nat) := h.2.2.2.2.1.2.2.1
    have xn : x.1.1 ≤ n := h.2.2.2.2.2.1
    by_cases c : kd T n x.1 = 257
    · have e6 : m 32 6 = nv T x.1.1 (min (ed T n x.1 - x.1.1) 4) := h.2.2.2.2.1.2.2.2.2 c
      obtain ⟨k1, k2, k3⟩ := kd_num c h.1.by
      by_cases c4 : 4 < ed T n x.1 - x.1.1
      · refine ep_X5_number (g_X5_number_0 ⟨by omega, fun _ => ⟨by omega, fun q => by omega, fun _ => ?_⟩, fun q => by omega⟩)
        refine p_X5_number_48 (d2 := d - 1) (s_fail (k := 1) h (by decide) (fun y e => by omega)) (by omega) ?_
        rintro z ⟨-, ze, hz⟩
        refine g_X5_number_51 (g_X5_number_80 ⟨_, rfl, ⟨ze, ?_⟩, fun y u e1 e2 => ?_⟩)
        · show XR T n rl F z ((numR T n lo hi x.1).bind fun _ => .ok (nx T n x.1, x.2))
          unfold numR
          rw [if_neg (fun q => q c), if_pos c4, ← e3]
          exact hz
        · cases e1
          unfold numR at e2
          rw [if_neg (fun q => q c), if_pos c4] at e2
          cases e2
      · rw [show min (ed T n x.1 - x.1.1) 4 = ed T n x.1 - x.1.1 by omega] at e6
        have nb := nv_bd (T := T) (s := x.1.1) (k := ed T n x.1 - x.1.1) k3 (by omega)
        have bad : (m 32 6 < lo ∨ hi < m 32 6) → S_X5_number sc d 70 [aR 32, aU, aU, aI (m 32 6)] [aI (m 32 3), aI 2, aR 32] m (fun v z => ∃ w, v = some (aI w) ∧ (Ex (C_rd F) m z ∧ XR T n rl F z ((numR T n lo hi x.1).bind fun _ => .ok (nx T n x.1, x.2))) ∧ ∀ y u, (.ok x : Rs) = .ok y → numR T n lo hi y.1 = .ok u → w = u) := by
          intro g
          have hnum : numR T n lo hi x.1 = .error (2, x.1.1) := by
            unfold numR
            rw [if_neg (fun q => q c), if_neg c4, if_pos (by rw [← e6]; exact g)]
          refine p_X5_number_70 (d2 := d - 1) (s_fail (k := 2) h (by decide) (fun y e => by omega)) (by omega) ?_
          rintro z ⟨-, ze, hz⟩
          refine g_X5_number_73 (g_X5_number_80 ⟨_, rfl, ⟨ze, ?_⟩, fun y u q1 q2 => ?_⟩)
          · rw [hnum, ← e3]; exact hz
          · cases q1; rw [hnum] at q2; cases q2
        refine ep_X5_number (g_X5_number_0 ⟨by omega, fun _ => ⟨by omega, fun _ => ⟨by omega, by omega, fun g => bad (Or.inl g), fun g => ⟨by omega, fun g2 => ?_, fun g2 => bad (Or.inr (by omega))⟩⟩, fun q => by omega⟩, fun q => by omega⟩)
        have hnum : numR T n lo hi x.1 = .ok (m 32 6) := by
          unfold numR
          rw [if_neg (fun q => q c), if_neg c4, if_neg (by rw [← e6]; omega), e6]
        refine p_X5_number_77 (d2 := d - 1) (s_advance h (by omega)) (by omega) ?_
        rintro z ⟨-, ze, hz⟩
        refine g_X5_number_80 ⟨_, rfl, ⟨ze, ?_⟩, fun y u q1 q2 => ?_⟩
        · show XR T n rl F z ((numR T n lo hi x.1).bind fun _ => .ok (nx T n x.1, x.2))
          rw [hnum]; exact hz
        · cases q1; rw [hnum] at q2; cases q2; rfl
    · refine ep_X5_number (g_X5_number_0 ⟨by omega, fun c => by omega, fun _ => ?_⟩)
      refine p_X5_number_21 (d2 := d - 1) (s_fail (k := 1) h (by decide) (fun y e => by omega)) (by omega) ?_
      rintro z ⟨-, ze, hz⟩
      refine g_X5_number_24 (g_X5_number_80 ⟨_, rfl, ⟨ze, ?_⟩, fun y u q1 q2 => ?_⟩)
      · show XR T n rl F z ((numR T n lo hi x.1).bind fun _ => .ok (nx T n x.1, x.2))
        unfold numR
        rw [if_pos c, ← e3]
        exact hz
      · cases q1
        unfold numR at q2
        rw [if_pos c] at q2
        cases q2
def entR (T : Int → Int) (n k : Nat) (r : Rs) : Rs := r.bind fun x => if k = 0 then .error (4, x.1.1) else .ok (nx T n x.1, x.2)
theorem s_enter {r : Rs} {k : Nat} (h : XR T n rl F m r) (hk : k ≤ 6) (hd : 7 ≤ d) : P_X5_enter sc d [aR 32, aI (6 - (k : Int))] m (PR T n rl F m (entR T n k r)) := by
  have n1 := h.1.1
  by_cases c : k = 0
  · refine ep_X5_enter (g_X5_enter_0 ⟨by omega, fun _ => ?_, fun q => by omega⟩)
    refine p_X5_enter_19 (d2 := d - 1) (s_fail (k := 4) h (by decide) (fun x e => ?_)) (by omega) ?_
    · subst e; rw [h.s3]; have := h.2.2.2.2.2.1; omega
    · rintro z hz
      refine g_X5_enter_22 ?_
      cases r with
      | ok x =>
        show PR T n rl F m (if k = 0 then .error (4, x.1.1) else .ok (nx T n x.1, x.2)) none z
        rw [if_pos c, ← h.s3]
        exact hz
      | error e => exact hz
  · refine ep_X5_enter (g_X5_enter_0 ⟨by omega, fun q => by omega, fun _ => ?_⟩)
    refine p_X5_enter_7 (d2 := d - 1) (s_advance h (by omega)) (by omega) ?_
    rintro z hz
    refine g_X5_enter_10 (g_X5_enter_22 ?_)
    cases r with
    | ok x =>
      show PR T n rl F m (if k = 0 then .error (4, x.1.1) else .ok (nx T n x.1, x.2)) none z
      rw [if_neg c]
      exact hz
    | error e => exact hz
theorem s_stepOf {w a : Int} (hw : -1 ≤ w ∧ w ≤ 40) (ha : a = if rl = true then 0 else 1) : P_X5_stepOf sc d [aI w, aI a] m (fun v z => ∃ x, v = some (aI x) ∧ z = m ∧ R32 x ∧ (pcode rl w = 0 → x = 0) ∧ (pcode rl w ≠ 0 → x ≠ 0 ∧ stepRel x (pcode rl w))) := by
  refine ep_X5_stepOf (g_X5_stepOf_0 ?_)
  subst ha
  refine ⟨by omega, fun c => ?_, fun c => ?_, fun c => ?_, fun c => ?_, fun c => ?_, fun c => ?_, fun c => ?_, fun c => ?_, fun c => ?_, fun c => ?_, fun c => ?_⟩
  · subst c; exact ⟨_, rfl, rfl, by decide, fun q => by simp [pcode] at q, fun _ => ⟨by decide, by simp [pcode, stepRel]⟩⟩
  · subst c; exact ⟨_, rfl, rfl, by decide, fun q => by simp [pcode] at q, fun _ => ⟨by decide, by simp [pcode, stepRel]⟩⟩
  · subst c; exact ⟨_, rfl, rfl, by decide, fun q => by simp [pcode] at q, fun _ => ⟨by decide, by simp [pcode, stepRel]⟩⟩
  · subst c
    cases rl
    · exact ⟨by decide, _, rfl, rfl, by decide, fun _ => rfl, fun q => by simp [pcode] at q⟩
    · exact ⟨by decide, _, rfl, rfl, by decide, fun q => by simp [pcode] at q, fun _ => ⟨by decide, by simp [pcode, stepRel]⟩⟩
  · subst c; exact ⟨_, rfl, rfl, by decide, fun q => by simp [pcode] at q, fun _ => ⟨by decide, by simp [pcode, stepRel]⟩⟩
  · subst c
    cases rl
    · exact ⟨by decide, _, rfl, rfl, by decide, fun _ => rfl, fun q => by simp [pcode] at q⟩
    · exact ⟨by decide, _, rfl, rfl, by decide, fun q => by simp [pcode] at q, fun _ => ⟨by decide, by simp [pcode, stepRel]⟩⟩
  · subst c
    cases rl
    · exact ⟨by decide, _, rfl, rfl, by decide, fun _ => rfl, fun q => by simp [pcode] at q⟩
    · exact ⟨by decide, _, rfl, rfl, by decide, fun q => by simp [pcode] at q, fun _ => ⟨by decide, by simp [pcode, stepRel]⟩⟩
  · subst c
    cases rl
    · exact ⟨by decide, _, rfl, rfl, by decide, fun q => by simp [pcode] at q, fun _ => ⟨by decide, by simp [pcode, stepRel]⟩⟩
    · exact ⟨by decide, _, rfl, rfl, by decide, fun _ => rfl, fun q => by simp [pcode] at q⟩
  · subst c
    cases rl
    · exact ⟨by decide, _, rfl, rfl, by decide, fun q => by simp [pcode] at q, fun _ => ⟨by decide, by simp [pcode, stepRel]⟩⟩
    · exact ⟨by decide, _, rfl, rfl, by decide, fun _ => rfl, fun q => by simp [pcode] at q⟩
  · subst c
    cases rl
    · exact ⟨by decide, _, rfl, rfl, by decide, fun q => by simp [pcode] at q, fun _ => ⟨by decide, by simp [pcode, stepRel]⟩⟩
    · exact ⟨by decide, _, rfl, rfl, by decide, fun _ => rfl, fun q => by simp [pcode] at q⟩
  · obtain ⟨c1, c2, c3, c4, c5, c6, c7, c8, c9, c10⟩ := c
    have p0 : pcode rl w = 0 := by unfold pcode; rw [if_neg c1, if_neg c2, if_neg c3, if_neg c5, if_neg c4, if_neg c6, if_neg c7, if_neg c8, if_neg c9, if_neg c10]
    exact ⟨_, rfl, rfl, by decide, fun _ => rfl, fun q => absurd p0 q⟩
def namR (T : Int → Int) (n : Nat) (rl : Bool) (r : Rs) : Rs := r.bind fun x => if pcode rl (wE T n x.1) = 0 then .error (1, x.1.1) else .ok (nx T n x.1, x.2 ++ [pcode rl (wE T n x.1)])
end XN
