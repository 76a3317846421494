/-! reading: questions of the reference; codes are well formed -/
section QM
variable {sc : List Int} {d : Nat} {m : Mem} {Q : Option AV → Mem → Prop} {T : Int → Int} {n : Nat} {rl : Bool} {σ : Stt}
def kindOf (w : Int) : Int := if w = 30 then 0 else if w = 31 then 1 else if w = 32 then 2 else if w = 33 then 3 else if w = 19 then 4 else 5
theorem s_qKind (ht : Tm m T n) (h : MSt T n m σ) (hd : 5 ≤ d) : P_X8_qKind sc d [aR 62] m (fun v z => v = some (aI (kindOf (wE T n σ))) ∧ Ex C_lk m z ∧ ((kindOf (wE T n σ) = 5 ∧ wE T n σ ≠ 18 ∧ MEr z (1, σ.1)) ∨ ((kindOf (wE T n σ) ≠ 5 ∨ wE T n σ = 18) ∧ MSt T n z (nx T n σ)))) := by
  refine ep_X8_qKind (g_X8_qKind_0 ?_)
  refine p_X8_qKind_5 (d2 := d - 1) (wrd_at (iw (by decide))).1 (s_takes (c := 127) (iw (by decide)) ht h (by omega)) (by omega) ?_
  rintro v z1 ⟨e1, ⟨e, q1, s1⟩ | ⟨e, q1, l1⟩⟩ <;> cases e
  · have q1 : wE T n σ = 30 := q1
    refine g_X8_qKind_8 ⟨by decide, fun g => absurd g (by decide), fun _ => g_X8_qKind_90 ⟨?_, e1, Or.inr ⟨Or.inl ?_, s1⟩⟩⟩ <;> rw [q1] <;> decide
  have q1 : ¬ wE T n σ = 30 := q1
  refine g_X8_qKind_8 ⟨by decide, fun _ => ?_, fun g => absurd rfl g⟩
  refine p_X8_qKind_20 (d2 := d - 1) (wrd_at (iw (by decide))).1 (s_takes (c := 128) (iw (by decide)) (ht.lk e1) l1.1 (by omega)) (by omega) ?_
  rintro v z2 ⟨e2, ⟨e, q2, s2⟩ | ⟨e, q2, l2⟩⟩ <;> cases e
  · have q2 : wE T n σ = 31 := q2
    refine g_X8_qKind_23 ⟨by decide, fun g => absurd g (by decide), fun _ => g_X8_qKind_90 ⟨?_, e1.trans e2, Or.inr ⟨Or.inl ?_, s2⟩⟩⟩ <;> rw [q2] <;> decide
  have q2 : ¬ wE T n σ = 31 := q2
  have E2 := e1.trans e2
  refine g_X8_qKind_23 ⟨by decide, fun _ => ?_, fun g => absurd rfl g⟩
  refine p_X8_qKind_35 (d2 := d - 1) (wrd_at (iw (by decide))).1 (s_takes (c := 129) (iw (by decide)) (ht.lk E2) l2.1 (by omega)) (by omega) ?_
  rintro v z3 ⟨e3, ⟨e, q3, s3⟩ | ⟨e, q3, l3⟩⟩ <;> cases e
  · have q3 : wE T n σ = 32 := q3
    refine g_X8_qKind_38 ⟨by decide, fun g => absurd g (by decide), fun _ => g_X8_qKind_90 ⟨?_, E2.trans e3, Or.inr ⟨Or.inl ?_, s3⟩⟩⟩ <;> rw [q3] <;> decide
  have q3 : ¬ wE T n σ = 32 := q3
  have E3 := E2.trans e3
  refine g_X8_qKind_38 ⟨by decide, fun _ => ?_, fun g => absurd rfl g⟩
  refine p_X8_qKind_50 (d2 := d - 1) (wrd_at (iw (by decide))).1 (s_takes (c := 130) (iw (by decide)) (ht.lk E3) l3.1 (by omega)) (by omega) ?_
  rintro v z4 ⟨e4, ⟨e, q4, s4⟩ | ⟨e, q4, l4⟩⟩ <;> cases e
  · have q4 : wE T n σ = 33 := q4
    refine g_X8_qKind_53 ⟨by decide, fun g => absurd g (by decide), fun _ => g_X8_qKind_90 ⟨?_, E3.trans e4, Or.inr ⟨Or.inl ?_, s4⟩⟩⟩ <;> rw [q4] <;> decide
  have q4 : ¬ wE T n σ = 33 := q4
  have E4 := E3.trans e4
  refine g_X8_qKind_53 ⟨by decide, fun _ => ?_, fun g => absurd rfl g⟩
  refine p_X8_qKind_65 (d2 := d - 1) (wrd_at (iw (by decide))).1 (s_takes (c := 131) (iw (by decide)) (ht.lk E4) l4.1 (by omega)) (by omega) ?_
  rintro v z5 ⟨e5, ⟨e, q5, s5⟩ | ⟨e, q5, l5⟩⟩ <;> cases e
  · have q5 : wE T n σ = 19 := q5
    refine g_X8_qKind_68 ⟨by decide, by decide, fun _ => g_X8_qKind_90 ⟨?_, E4.trans e5, Or.inr ⟨Or.inl ?_, s5⟩⟩, fun g => absurd (by decide) g⟩ <;> rw [q5] <;> decide
  have q5 : ¬ wE T n σ = 19 := q5
  have E5 := E4.trans e5
  have k5 : kindOf (wE T n σ) = 5 := by unfold kindOf; rw [if_neg q1, if_neg q2, if_neg q3, if_neg q4, if_neg q5]
  rw [k5]
  refine g_X8_qKind_68 ⟨by decide, by decide, fun g => absurd rfl g, fun _ => ?_⟩
  refine p_X8_qKind_87 (d2 := d - 1) (wrd_at (iw (by decide))).1 (s_asks (c := 132) (iw (by decide)) (ht.lk E5) l5.1 (by omega)) (by omega) ?_
  rintro z6 ⟨-, e6, ⟨q6, s6⟩ | ⟨q6, er⟩⟩
  · exact g_X8_qKind_90 ⟨rfl, E5.trans e6, Or.inr ⟨Or.inr q6, s6⟩⟩
  · exact g_X8_qKind_90 ⟨rfl, E5.trans e6, Or.inl ⟨rfl, q6, er⟩⟩
/-- kinds along a list of codes -/
def tyL (rl : Bool) : List Int → List Bool → Option (List Bool)
  | [], st => some st
  | c :: l, st => (tyS rl c st).bind (tyL rl l)
theorem tyL_app : ∀ {l r : List Int} {st : List Bool}, tyL rl (l ++ r) st = (tyL rl l st).bind (tyL rl r) := by
  intro l
  induction l with
  | nil => intro r st; rfl
  | cons c l ih =>
    intro r st
    rw [List.cons_append, tyL, tyL]
    cases tyS rl c st with
    | none => rfl
    | some s => exact ih
theorem tyL_F {l : List Int} : ∀ {k : Nat}, k ≤ l.length → tyF rl (fun j => l.getD j.toNat 0) k = tyL rl (l.take k) [] := by
  intro k
  induction k with
  | zero => intro _; rfl
  | succ k ih =>
    intro h
    rw [tyF, ih (by omega), List.take_succ_eq_append_getElem (by omega), tyL_app]
    show _ = (tyL rl (l.take k) []).bind fun st => (tyS rl l[k] st).bind (tyL rl [])
    have e : l.getD ((k : Int)).toNat 0 = l[k] := by rw [show ((k : Nat) : Int).toNat = k by omega]; exact getD_ge 0 (by omega)
    show (tyL rl (l.take k) []).bind (tyS rl (l.getD ((k : Int)).toNat 0)) = _
    rw [e]
    cases tyL rl (l.take k) [] with
    | none => rfl
    | some s =>
      show tyS rl l[k] s = (tyS rl l[k] s).bind (tyL rl [])
      cases tyS rl l[k] s with
      | none => rfl
      | some s => rfl
/-- a formula's codes lay one number (a test: one truth) on any low stack -/
def TyP (rl : Bool) (b : Bool) (h : Nat) (p : Ps) : Prop := ∀ σ x st, p σ = .ok x → st.length + h ≤ 64 → tyL rl x.2 st = some (b :: st)
theorem ty_bin {c : Int} {st : List Bool} (hc : 1 ≤ c ∧ c ≤ 6) (h : st.length + 2 ≤ 63) : tyS rl c (false :: false :: st) = some (false :: st) := by
  unfold tyS
  rw [if_neg (by rw [List.length_cons, List.length_cons]; omega), if_neg (by omega), if_neg (by omega), if_neg (by omega)]
  show (if c = 60 ∧ rl = false then some (false :: false :: st) else if 1 ≤ c ∧ c ≤ 6 then some (false :: st) else if 7 ≤ c ∧ c ≤ 9 then some (true :: st) else none) = _
  rw [if_neg (by omega), if_pos hc]
theorem ty_cmp {c : Int} {st : List Bool} (hc : 7 ≤ c ∧ c ≤ 9) (h : st.length + 2 ≤ 63) : tyS rl c (false :: false :: st) = some (true :: st) := by
  unfold tyS
  rw [if_neg (by rw [List.length_cons, List.length_cons]; omega), if_neg (by omega), if_neg (by omega), if_neg (by omega)]
  show (if c = 60 ∧ rl = false then some (false :: false :: st) else if 1 ≤ c ∧ c ≤ 6 then some (false :: st) else if 7 ≤ c ∧ c ≤ 9 then some (true :: st) else none) = _
  rw [if_neg (by omega), if_neg (by omega), if_pos hc]
theorem ty_log {c : Int} {st : List Bool} (hc : c = 10 ∨ c = 11) (h : st.length + 2 ≤ 63) : tyS rl c (true :: true :: st) = some (true :: st) := by
  unfold tyS
  rw [if_neg (by rw [List.length_cons, List.length_cons]; omega), if_neg (by omega), if_neg (by omega), if_neg (by omega)]
  show (if c = 12 then some (true :: true :: st) else if c = 10 ∨ c = 11 then some (true :: st) else none) = _
  rw [if_neg (by omega), if_pos hc]
theorem ty_not {st : List Bool} (h : st.length + 1 ≤ 63) : tyS rl 12 (true :: st) = some (true :: st) := by
  unfold tyS
  rw [if_neg (by rw [List.length_cons]; omega), if_neg (by decide), if_neg (by decide), if_neg (by decide)]
  rfl
theorem ty_of {st : List Bool} (hr : rl = false) (h : st.length + 1 ≤ 63) : tyS rl 60 (false :: st) = some (false :: st) := by
  unfold tyS
  rw [if_neg (by rw [List.length_cons]; omega), if_neg (by decide), if_neg (by decide), if_neg (by decide)]
  show (if (60 : Int) = 60 ∧ rl = false then some (false :: st) else _) = _
  rw [if_pos ⟨rfl, hr⟩]
theorem ty_num {v : Int} {st : List Bool} (hv : 0 ≤ v ∧ v ≤ 9999) (h : st.length ≤ 63) : tyS rl (1000 + v) st = some (false :: st) := by
  unfold tyS
  rw [if_neg (by omega), if_pos (by omega), if_pos (by omega)]
theorem ty_all {st : List Bool} (h : st.length ≤ 63) : tyS rl 13 st = some (true :: st) := by
  unfold tyS
  rw [if_neg (by omega), if_neg (by decide), if_neg (by decide), if_pos rfl]
theorem ty_part {w : Int} {st : List Bool} (hp : pcode rl w ≠ 0) (h : st.length ≤ 63) : tyS rl (pcode rl w) st = some (false :: st) := by
  have v : (rl = true ∧ 40 ≤ pcode rl w ∧ pcode rl w ≤ 46) ∨ (rl = false ∧ ((40 ≤ pcode rl w ∧ pcode rl w ≤ 43) ∨ (47 ≤ pcode rl w ∧ pcode rl w ≤ 49))) := by
    rcases widx_v rl w with h | h | h | h | h | h | h | h | h | h | h | h
    iterate 11 (obtain ⟨h1, -⟩ := h; subst h1; cases rl <;> simp [pcode] at hp ⊢)
    exact absurd h.2.1 hp
  unfold tyS
  rw [if_neg (by omega), if_neg (by omega), if_pos (by omega)]
  rw [if_pos]
  rcases v with ⟨v1, v2, v3⟩ | ⟨v1, v2⟩
  · exact Or.inl ⟨v1, by omega⟩
  · exact Or.inr ⟨v1, by omega⟩
theorem ty_chain {op : Stt → Int} {p : Ps} {b : Bool} {h : Nat} (hp : TyP rl b h p) (ho : ∀ σ st, op σ ≠ 0 → st.length + 2 ≤ 63 → tyS rl (op σ) (b :: b :: st) = some (b :: st)) (hh : 3 ≤ h) : TyP rl b (h + 1) (lChain T n op p) := by
  have lp : ∀ (f : Nat) (r x : Stt × List Int) (st : List Bool), lLoop T n op p f r = .ok x → st.length + (h + 1) ≤ 64 → tyL rl r.2 st = some (b :: st) → tyL rl x.2 st = some (b :: st) := by
    intro f
    induction f with
    | zero => intro r x st e hl ht; rw [lLoop] at e; cases e; exact ht
    | succ f ih =>
      intro r x st e hl ht
      rw [lLoop] at e
      by_cases c : op r.1 = 0
      · rw [if_pos c] at e; cases e; exact ht
      · rw [if_neg c] at e
        obtain ⟨q, q1, q2⟩ := bd_ok e
        refine ih _ x st q2 hl ?_
        show tyL rl (r.2 ++ q.2 ++ [op r.1]) st = _
        rw [tyL_app, tyL_app, ht]
        show ((tyL rl q.2 (b :: st))).bind _ = _
        rw [hp _ q (b :: st) q1 (by rw [List.length_cons]; omega)]
        show (tyS rl (op r.1) (b :: b :: st)).bind _ = _
        rw [ho _ st c (by omega)]
        rfl
  intro σ x st e hl
  obtain ⟨q, q1, q2⟩ := bd_ok e
  exact lp 1600 q x st q2 hl (hp σ q st q1 (by omega))
theorem ty_lPart {dp ds : Ps} {k h : Nat} (hb : ∀ i : Nat, i < n → 0 ≤ T i ∧ T i ≤ 255) (h1 : k ≠ 0 → TyP rl false h dp) (h2 : k ≠ 0 → TyP rl false h ds) (hh : 3 ≤ h) : TyP rl false (h + 1) (lPart T n rl dp ds k) := by
  intro σ x st e hl
  unfold lPart at e
  by_cases c1 : kd T n σ = 257
  · rw [if_pos c1, numR_9 c1 hb] at e
    obtain ⟨v, v1, v2⟩ := bd_ok e
    cases v2
    have vb : 0 ≤ v ∧ v ≤ 9999 := by
      unfold numR at v1
      rw [if_neg (fun q => q c1)] at v1
      by_cases c4 : 4 < ed T n σ - σ.1
      · rw [if_pos c4] at v1; cases v1
      · rw [if_neg c4] at v1
        split at v1
        · cases v1
        · next g => cases v1; omega
    show (tyS rl (1000 + v) st).bind _ = _
    rw [ty_num vb (by omega)]; rfl
  rw [if_neg c1] at e
  by_cases c2 : kd T n σ = 40
  · rw [if_pos c2] at e
    by_cases k0 : k = 0
    · rw [if_pos k0] at e; cases e
    rw [if_neg k0] at e
    obtain ⟨q, q1, q2⟩ := bd_ok e
    obtain ⟨-, f2, -⟩ := exS_ok (by decide) q2
    rw [show x.2 = q.2 by rw [f2]]
    exact h2 k0 _ q st q1 (by omega)
  rw [if_neg c2] at e
  by_cases c3 : wE T n σ = 28 ∨ wE T n σ = 29
  · rw [if_pos c3] at e
    by_cases c4 : kd T n (nx T n σ) ≠ 40
    · rw [if_pos c4] at e; cases e
    rw [if_neg c4] at e
    by_cases k0 : k = 0
    · rw [if_pos k0] at e; cases e
    rw [if_neg k0] at e
    obtain ⟨a, a1, a2⟩ := bd_ok e
    obtain ⟨b, b1, b2⟩ := bd_ok a2
    obtain ⟨c, d1, d2⟩ := bd_ok b2
    obtain ⟨u, u1, u2⟩ := bd_ok d2
    cases u2
    obtain ⟨-, f2, -⟩ := exS_ok (by decide) b1
    obtain ⟨-, i2, -⟩ := exS_ok (by decide) u1
    show tyL rl (u.2 ++ [if wE T n σ = 28 then 5 else 6]) st = _
    rw [show u.2 = b.2 ++ c.2 by rw [i2], show b.2 = a.2 by rw [f2], tyL_app, tyL_app, h2 k0 _ a st a1 (by omega)]
    show ((tyL rl c.2 (false :: st))).bind _ = _
    rw [h2 k0 _ c (false :: st) d1 (by rw [List.length_cons]; omega)]
    show (tyS rl _ (false :: false :: st)).bind _ = _
    rw [ty_bin (by split <;> omega) (by omega)]; rfl
  rw [if_neg c3] at e
  by_cases c4 : rl = false ∧ wE T n σ = 23
  · rw [if_pos c4] at e
    by_cases k0 : k = 0
    · rw [if_pos k0] at e; cases e
    rw [if_neg k0] at e
    obtain ⟨q, q1, q2⟩ := bd_ok e
    cases q2
    show tyL rl (q.2 ++ [60]) st = _
    rw [tyL_app, h1 k0 _ q st q1 (by omega)]
    show (tyS rl 60 (false :: st)).bind _ = _
    rw [ty_of c4.1 (by omega)]; rfl
  rw [if_neg c4] at e
  by_cases c5 : pcode rl (wE T n σ) = 0
  · rw [if_pos c5] at e; cases e
  rw [if_neg c5] at e
  cases e
  show (tyS rl (pcode rl (wE T n σ)) st).bind _ = _
  rw [ty_part c5 (by omega)]; rfl
theorem opP_ty (σ : Stt) (st : List Bool) (h : opP T n σ ≠ 0) (hl : st.length + 2 ≤ 63) : tyS rl (opP T n σ) (false :: false :: st) = some (false :: st) := ty_bin (by rcases opP_v (T := T) (n := n) σ with g | ⟨g, -⟩ | ⟨g, -⟩ <;> omega) hl
theorem opS_ty (σ : Stt) (st : List Bool) (h : opS T n σ ≠ 0) (hl : st.length + 2 ≤ 63) : tyS rl (opS T n σ) (false :: false :: st) = some (false :: st) := ty_bin (by rcases opS_v (T := T) (n := n) σ with g | ⟨g, -⟩ | ⟨g, -⟩ <;> omega) hl
theorem opA_ty (σ : Stt) (st : List Bool) (h : opA T n σ ≠ 0) (hl : st.length + 2 ≤ 63) : tyS rl (opA T n σ) (true :: true :: st) = some (true :: st) := ty_log (by rcases opA_v (T := T) (n := n) σ with g | ⟨g, -⟩ <;> omega) hl
theorem opO_ty (σ : Stt) (st : List Bool) (h : opO T n σ ≠ 0) (hl : st.length + 2 ≤ 63) : tyS rl (opO T n σ) (true :: true :: st) = some (true :: st) := ty_log (by rcases opO_v (T := T) (n := n) σ with g | ⟨g, -⟩ <;> omega) hl
theorem ty_parts (hb : ∀ i : Nat, i < n → 0 ≤ T i ∧ T i ≤ 255) : ∀ k : Nat, TyP rl false (4 + 3 * k) (rdPart T n rl k) ∧ TyP rl false (6 + 3 * k) (rdSum T n rl k) := by
  intro k
  induction k with
  | zero =>
    have p : TyP rl false 4 (rdPart T n rl 0) := ty_lPart (h := 3) hb (fun c => absurd rfl c) (fun c => absurd rfl c) (by omega)
    exact ⟨p, ty_chain (ty_chain p opP_ty (by omega)) opS_ty (by omega)⟩
  | succ k ih =>
    have p : TyP rl false (4 + 3 * (k + 1)) (rdPart T n rl (k + 1)) := by
      have := ty_lPart (T := T) (n := n) (rl := rl) (k := k + 1) (dp := rdPart T n rl k) (ds := rdSum T n rl k) (h := 6 + 3 * k) hb (fun _ σ x st e hl => ih.1 σ x st e (by omega)) (fun _ => ih.2) (by omega)
      exact fun σ x st e hl => this σ x st e (by omega)
    exact ⟨p, fun σ x st e hl => ty_chain (h := 4 + 3 * (k + 1) + 1) (ty_chain (h := 4 + 3 * (k + 1)) p opP_ty (by omega)) opS_ty (by omega) σ x st e (by omega)⟩
theorem ty_lFact {df dt sm : Ps} {k h : Nat} (h1 : k ≠ 0 → TyP rl true h df) (h2 : k ≠ 0 → TyP rl true h dt) (h3 : TyP rl false h sm) (hh : 3 ≤ h) : TyP rl true (h + 1) (lFact T n df dt sm k) := by
  intro σ x st e hl
  unfold lFact at e
  by_cases c1 : wE T n σ = 26
  · rw [if_pos c1] at e
    by_cases k0 : k = 0
    · rw [if_pos k0] at e; cases e
    rw [if_neg k0] at e
    obtain ⟨q, q1, q2⟩ := bd_ok e
    cases q2
    show tyL rl (q.2 ++ [12]) st = _
    rw [tyL_app, h1 k0 _ q st q1 (by omega)]
    show (tyS rl 12 (true :: st)).bind _ = _
    rw [ty_not (by omega)]; rfl
  rw [if_neg c1] at e
  by_cases c2 : kd T n σ = 91
  · rw [if_pos c2] at e
    by_cases k0 : k = 0
    · rw [if_pos k0] at e; cases e
    rw [if_neg k0] at e
    obtain ⟨q, q1, q2⟩ := bd_ok e
    obtain ⟨-, f2, -⟩ := exS_ok (by decide) q2
    rw [show x.2 = q.2 by rw [f2]]
    exact h2 k0 _ q st q1 (by omega)
  rw [if_neg c2] at e
  by_cases c3 : wE T n σ = 27
  · rw [if_pos c3] at e
    cases e
    show (tyS rl 13 st).bind _ = _
    rw [ty_all (by omega)]; rfl
  rw [if_neg c3] at e
  obtain ⟨a, a1, a2⟩ := bd_ok e
  by_cases c4 : kd T n a.1 = 60 ∨ kd T n a.1 = 62 ∨ kd T n a.1 = 61
  · rw [if_pos c4] at a2
    obtain ⟨b, b1, b2⟩ := bd_ok a2
    cases b2
    show tyL rl (a.2 ++ b.2 ++ [cmpC (kd T n a.1)]) st = _
    rw [tyL_app, tyL_app, h3 _ a st a1 (by omega)]
    show ((tyL rl b.2 (false :: st))).bind _ = _
    rw [h3 _ b (false :: st) b1 (by rw [List.length_cons]; omega)]
    show (tyS rl _ (false :: false :: st)).bind _ = _
    rw [ty_cmp (by unfold cmpC; split <;> (try split) <;> omega) (by omega)]; rfl
  · rw [if_neg c4] at a2; cases a2
theorem ty_facts (hb : ∀ i : Nat, i < n → 0 ≤ T i ∧ T i ≤ 255) : ∀ k : Nat, TyP rl true (7 + 3 * k) (rdFact T n rl k) ∧ TyP rl true (9 + 3 * k) (rdTest T n rl k) := by
  intro k
  induction k with
  | zero =>
    have p : TyP rl true 7 (rdFact T n rl 0) := ty_lFact (h := 6) (fun c => absurd rfl c) (fun c => absurd rfl c) (ty_parts hb 0).2 (by omega)
    exact ⟨p, ty_chain (ty_chain p opA_ty (by omega)) opO_ty (by omega)⟩
  | succ k ih =>
    have p : TyP rl true (7 + 3 * (k + 1)) (rdFact T n rl (k + 1)) := by
      have := ty_lFact (T := T) (n := n) (rl := rl) (k := k + 1) (df := rdFact T n rl k) (dt := rdTest T n rl k) (sm := rdSum T n rl (k + 1)) (h := 9 + 3 * k) (fun _ σ x st e hl => ih.1 σ x st e (by omega)) (fun _ => ih.2) (fun σ x st e hl => (ty_parts hb (k + 1)).2 σ x st e (by omega)) (by omega)
      exact fun σ x st e hl => this σ x st e (by omega)
    exact ⟨p, fun σ x st e hl => ty_chain (h := 7 + 3 * (k + 1) + 1) (ty_chain (h := 7 + 3 * (k + 1)) p opA_ty (by omega)) opO_ty (by omega) σ x st e (by omega)⟩
end QM
