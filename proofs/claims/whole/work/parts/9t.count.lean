/-! reading: how far formulas reach; numbers of the class -/
theorem bd_ok {α β : Type} {e : Except (Int × Int) α} {f : α → Except (Int × Int) β} {b : β} (h : e.bind f = .ok b) : ∃ a, e = .ok a ∧ f a = .ok b := by
  cases e with
  | ok a => exact ⟨a, rfl, h⟩
  | error e => cases h
section CN
variable {T : Int → Int} {n : Nat} {rl : Bool}
def Cnt (n : Nat) (p : Ps) : Prop := ∀ σ x, σ.1 ≤ n → p σ = .ok x → σ.1 < x.1.1 ∧ x.1.1 ≤ n ∧ σ.1 + x.2.length ≤ x.1.1
theorem cnt_loop {op : Stt → Int} {p : Ps} (hp : Cnt n p) (ho : ∀ σ, op σ ≠ 0 → kd T n σ ≠ 258) : ∀ (f : Nat) (r x : Stt × List Int) (s0 : Nat), r.1.1 ≤ n → s0 + r.2.length ≤ r.1.1 → lLoop T n op p f r = .ok x → r.1.1 ≤ x.1.1 ∧ x.1.1 ≤ n ∧ s0 + x.2.length ≤ x.1.1 := by
  intro f
  induction f with
  | zero =>
    intro r x s0 hr hl h
    rw [lLoop] at h
    cases h
    exact ⟨Nat.le_refl _, hr, hl⟩
  | succ f ih =>
    intro r x s0 hr hl h
    rw [lLoop] at h
    by_cases c : op r.1 = 0
    · rw [if_pos c] at h; cases h; exact ⟨Nat.le_refl _, hr, hl⟩
    · rw [if_neg c] at h
      obtain ⟨q, q1, q2⟩ := bd_ok h
      have nx1 := @nx_of T n r.1 (ho _ c)
      obtain ⟨c1, c2, c3⟩ := hp _ q nx1.2 q1
      have := ih (q.1, r.2 ++ q.2 ++ [op r.1]) x s0 c2 (by rw [List.length_append, List.length_append, List.length_singleton]; show _ ≤ q.1.1; omega) q2
      have t : q.1.1 ≤ x.1.1 := this.1
      exact ⟨by omega, this.2⟩
theorem cnt_chain {op : Stt → Int} {p : Ps} (hp : Cnt n p) (ho : ∀ σ, op σ ≠ 0 → kd T n σ ≠ 258) : Cnt n (lChain T n op p) := by
  intro σ x hs h
  obtain ⟨q, q1, q2⟩ := bd_ok h
  obtain ⟨c1, c2, c3⟩ := hp σ q hs q1
  obtain ⟨d1, d2, d3⟩ := cnt_loop hp ho 1600 q x σ.1 c2 c3 q2
  exact ⟨by omega, d2, d3⟩
theorem op_kd {σ : Stt} {a b c e : Int} (ha : a ≠ 258) (hb : b ≠ 258) (h : (if kd T n σ = a then c else if kd T n σ = b then e else 0) ≠ 0) : kd T n σ ≠ 258 := by
  intro q
  rw [q, if_neg (fun g => ha g.symm), if_neg (fun g => hb g.symm)] at h
  exact h rfl
theorem opP_kd (σ : Stt) (h : opP T n σ ≠ 0) : kd T n σ ≠ 258 := op_kd (by decide) (by decide) h
theorem opS_kd (σ : Stt) (h : opS T n σ ≠ 0) : kd T n σ ≠ 258 := op_kd (by decide) (by decide) h
theorem wE_kd {σ : Stt} {k : Int} (h : wE T n σ = k) (hk : 0 ≤ k) : kd T n σ = 256 := by
  unfold wE at h
  by_cases c : kd T n σ = 256
  · exact c
  · rw [if_neg c] at h; omega
theorem wE_n {σ : Stt} {k : Int} (h : wE T n σ = k) (hk : 0 ≤ k) : kd T n σ ≠ 258 := by rw [wE_kd h hk]; decide
theorem opA_kd (σ : Stt) (h : opA T n σ ≠ 0) : kd T n σ ≠ 258 := by
  unfold opA at h
  by_cases c : wE T n σ = 25
  · exact wE_n c (by decide)
  · rw [if_neg c] at h; exact absurd rfl h
theorem opO_kd (σ : Stt) (h : opO T n σ ≠ 0) : kd T n σ ≠ 258 := by
  unfold opO at h
  by_cases c : wE T n σ = 24
  · exact wE_n c (by decide)
  · rw [if_neg c] at h; exact absurd rfl h
theorem exS_ok {c : Int} {x y : Stt × List Int} (hc : c ≠ 258) (h : exS T n c x = .ok y) : kd T n x.1 = c ∧ y = (nx T n x.1, x.2) ∧ x.1.1 < y.1.1 ∧ y.1.1 ≤ n := by
  unfold exS at h
  by_cases q : kd T n x.1 = c
  · rw [if_pos q] at h
    cases h
    exact ⟨q, rfl, nx_of (by rw [q]; exact hc)⟩
  · rw [if_neg q] at h; cases h
theorem pc_kd {σ : Stt} (h : pcode rl (wE T n σ) ≠ 0) : kd T n σ = 256 := by
  by_cases c : kd T n σ = 256
  · exact c
  · unfold wE at h
    rw [if_neg c] at h
    exact absurd rfl h
theorem cnt_lPart {dp ds : Ps} {k : Nat} (h1 : k ≠ 0 → Cnt n dp) (h2 : k ≠ 0 → Cnt n ds) : Cnt n (lPart T n rl dp ds k) := by
  intro σ x hs h
  unfold lPart at h
  by_cases c1 : kd T n σ = 257
  · rw [if_pos c1] at h
    obtain ⟨v, -, v2⟩ := bd_ok h
    cases v2
    have := @nx_of T n σ (by rw [c1]; decide)
    exact ⟨this.1, this.2, this.1⟩
  rw [if_neg c1] at h
  by_cases c2 : kd T n σ = 40
  · rw [if_pos c2] at h
    by_cases k0 : k = 0
    · rw [if_pos k0] at h; cases h
    · rw [if_neg k0] at h
      obtain ⟨q, q1, q2⟩ := bd_ok h
      have nx1 := @nx_of T n σ (by rw [c2]; decide)
      obtain ⟨e1, e2, e3⟩ := h2 k0 _ q nx1.2 q1
      obtain ⟨f1, f2, f3, f4⟩ := exS_ok (by decide) q2
      have f5 : x.2 = q.2 := by rw [f2]
      rw [f5]
      exact ⟨by omega, f4, by omega⟩
  rw [if_neg c2] at h
  by_cases c3 : wE T n σ = 28 ∨ wE T n σ = 29
  · rw [if_pos c3] at h
    by_cases c4 : kd T n (nx T n σ) ≠ 40
    · rw [if_pos c4] at h; cases h
    rw [if_neg c4] at h
    by_cases k0 : k = 0
    · rw [if_pos k0] at h; cases h
    rw [if_neg k0] at h
    obtain ⟨a, a1, a2⟩ := bd_ok h
    obtain ⟨b, b1, b2⟩ := bd_ok a2
    obtain ⟨c, c1', c2'⟩ := bd_ok b2
    obtain ⟨u, u1, u2⟩ := bd_ok c2'
    cases u2
    have nx1 := @nx_of T n σ (by rcases c3 with c | c <;> exact wE_n c (by decide))
    have nx2 := @nx_of T n (nx T n σ) (fun g => by omega)
    obtain ⟨e1, e2, e3⟩ := h2 k0 _ a nx2.2 a1
    obtain ⟨f1, f2, f3, f4⟩ := exS_ok (by decide) b1
    obtain ⟨g1, g2, g3⟩ := h2 k0 _ c f4 c1'
    obtain ⟨i1, i2, i3, i4⟩ := exS_ok (by decide) u1
    have i3' : c.1.1 < u.1.1 := i3
    have f5 : b.2 = a.2 := by rw [f2]
    have i5 : u.2 = b.2 ++ c.2 := by rw [i2]
    refine ⟨?_, i4, ?_⟩
    · show σ.1 < u.1.1; omega
    · show σ.1 + (u.2 ++ _).length ≤ u.1.1
      rw [i5, f5, List.length_append, List.length_append, List.length_singleton]; omega
  rw [if_neg c3] at h
  by_cases c4 : rl = false ∧ wE T n σ = 23
  · rw [if_pos c4] at h
    by_cases k0 : k = 0
    · rw [if_pos k0] at h; cases h
    rw [if_neg k0] at h
    obtain ⟨q, q1, q2⟩ := bd_ok h
    cases q2
    have nx1 := @nx_of T n σ (wE_n c4.2 (by decide))
    obtain ⟨e1, e2, e3⟩ := h1 k0 _ q nx1.2 q1
    refine ⟨?_, e2, ?_⟩
    · show σ.1 < q.1.1; omega
    · show σ.1 + (q.2 ++ [60]).length ≤ q.1.1
      rw [List.length_append, List.length_singleton]; omega
  rw [if_neg c4] at h
  by_cases c5 : pcode rl (wE T n σ) = 0
  · rw [if_pos c5] at h; cases h
  rw [if_neg c5] at h
  cases h
  have nx1 := @nx_of T n σ (by rw [pc_kd c5]; decide)
  exact ⟨nx1.1, nx1.2, nx1.1⟩
theorem cnt_part : ∀ k, Cnt n (rdPart T n rl k) := by
  intro k
  induction k with
  | zero => exact cnt_lPart (fun c => absurd rfl c) (fun c => absurd rfl c)
  | succ k ih => exact cnt_lPart (fun _ => ih) (fun _ => cnt_chain (cnt_chain ih opP_kd) opS_kd)
theorem cnt_prod (k : Nat) : Cnt n (rdProd T n rl k) := cnt_chain (cnt_part k) opP_kd
theorem cnt_sum (k : Nat) : Cnt n (rdSum T n rl k) := cnt_chain (cnt_prod k) opS_kd
theorem cnt_lFact {df dt sm : Ps} {k : Nat} (h1 : k ≠ 0 → Cnt n df) (h2 : k ≠ 0 → Cnt n dt) (h3 : Cnt n sm) : Cnt n (lFact T n df dt sm k) := by
  intro σ x hs h
  unfold lFact at h
  by_cases c1 : wE T n σ = 26
  · rw [if_pos c1] at h
    by_cases k0 : k = 0
    · rw [if_pos k0] at h; cases h
    rw [if_neg k0] at h
    obtain ⟨q, q1, q2⟩ := bd_ok h
    cases q2
    have nx1 := @nx_of T n σ (wE_n c1 (by decide))
    obtain ⟨e1, e2, e3⟩ := h1 k0 _ q nx1.2 q1
    refine ⟨?_, e2, ?_⟩
    · show σ.1 < q.1.1; omega
    · show σ.1 + (q.2 ++ [12]).length ≤ q.1.1
      rw [List.length_append, List.length_singleton]; omega
  rw [if_neg c1] at h
  by_cases c2 : kd T n σ = 91
  · rw [if_pos c2] at h
    by_cases k0 : k = 0
    · rw [if_pos k0] at h; cases h
    rw [if_neg k0] at h
    obtain ⟨q, q1, q2⟩ := bd_ok h
    have nx1 := @nx_of T n σ (by rw [c2]; decide)
    obtain ⟨e1, e2, e3⟩ := h2 k0 _ q nx1.2 q1
    obtain ⟨f1, f2, f3, f4⟩ := exS_ok (by decide) q2
    have f5 : x.2 = q.2 := by rw [f2]
    rw [f5]
    exact ⟨by omega, f4, by omega⟩
  rw [if_neg c2] at h
  by_cases c3 : wE T n σ = 27
  · rw [if_pos c3] at h
    cases h
    have nx1 := @nx_of T n σ (wE_n c3 (by decide))
    exact ⟨nx1.1, nx1.2, nx1.1⟩
  rw [if_neg c3] at h
  obtain ⟨a, a1, a2⟩ := bd_ok h
  by_cases c4 : kd T n a.1 = 60 ∨ kd T n a.1 = 62 ∨ kd T n a.1 = 61
  · rw [if_pos c4] at a2
    obtain ⟨b, b1, b2⟩ := bd_ok a2
    cases b2
    obtain ⟨e1, e2, e3⟩ := h3 _ a hs a1
    have nx1 := @nx_of T n a.1 (by omega)
    obtain ⟨f1, f2, f3⟩ := h3 _ b nx1.2 b1
    refine ⟨?_, f2, ?_⟩
    · show σ.1 < b.1.1; omega
    · show σ.1 + (a.2 ++ b.2 ++ _).length ≤ b.1.1
      rw [List.length_append, List.length_append, List.length_singleton]; omega
  · rw [if_neg c4] at a2; cases a2
theorem cnt_fact : ∀ k, Cnt n (rdFact T n rl k) := by
  intro k
  induction k with
  | zero => exact cnt_lFact (fun c => absurd rfl c) (fun c => absurd rfl c) (cnt_sum 0)
  | succ k ih => exact cnt_lFact (fun _ => ih) (fun _ => cnt_chain (cnt_chain ih opA_kd) opO_kd) (cnt_sum (k + 1))
theorem cnt_both (k : Nat) : Cnt n (rdBoth T n rl k) := cnt_chain (cnt_fact k) opA_kd
theorem cnt_test (k : Nat) : Cnt n (rdTest T n rl k) := cnt_chain (cnt_both k) opO_kd
theorem lLoop_pre {op : Stt → Int} {p : Ps} {q : List Int} : ∀ (f : Nat) (σ : Stt) (cs : List Int), lLoop T n op p f (σ, q ++ cs) = (lLoop T n op p f (σ, cs)).bind fun y => .ok (y.1, q ++ y.2) := by
  intro f
  induction f with
  | zero => intro σ cs; rfl
  | succ f ih =>
    intro σ cs
    rw [lLoop, lLoop]
    by_cases c : op σ = 0
    · rw [if_pos c, if_pos c]; rfl
    · rw [if_neg c, if_neg c]
      cases p (nx T n σ) with
      | error e => rfl
      | ok y =>
        show lLoop T n op p f (y.1, q ++ cs ++ y.2 ++ [op σ]) = (lLoop T n op p f (y.1, cs ++ y.2 ++ [op σ])).bind _
        rw [List.append_assoc, List.append_assoc, ih, List.append_assoc]
def apR (p : Ps) (r : Rs) : Rs := r.bind fun x => (p x.1).bind fun y => .ok (y.1, x.2 ++ y.2)
theorem apR_chain {op : Stt → Int} {p : Ps} {r : Rs} : apR (lChain T n op p) r = (apR p r).bind (lLoop T n op p 1600) := by
  cases r with
  | error e => rfl
  | ok x =>
    show ((p x.1).bind fun r => lLoop T n op p 1600 r).bind _ = ((p x.1).bind fun y => .ok (y.1, x.2 ++ y.2)).bind _
    cases p x.1 with
    | error e => rfl
    | ok y => exact (lLoop_pre 1600 y.1 y.2).symm
/-- room is left for one code more -/
def Slk (n : Nat) (r : Rs) : Prop := ∀ x, r = .ok x → x.2.length + 1 ≤ x.1.1 ∧ x.1.1 ≤ n
theorem Slk.ad {r : Rs} (h : Slk n r) (hk : ∀ x, r = .ok x → kd T n x.1 ≠ 258) : Slk n (nxR T n r) ∧ ∀ x, nxR T n r = .ok x → x.2.length + 2 ≤ x.1.1 := by
  cases r with
  | error e => exact ⟨fun x e => (by cases e), fun x e => (by cases e)⟩
  | ok x =>
    have h1 := h x rfl
    have n1 := @nx_of T n x.1 (hk x rfl)
    refine ⟨fun y e => ?_, fun y e => ?_⟩ <;> cases e
    · show x.2.length + 1 ≤ (nx T n x.1).1 ∧ (nx T n x.1).1 ≤ n; omega
    · show x.2.length + 2 ≤ (nx T n x.1).1; omega
theorem Slk.ap {p : Ps} {r : Rs} (h : Slk n r) (hp : Cnt n p) : Slk n (apR p r) := by
  intro y e
  obtain ⟨x, x1, x2⟩ := bd_ok e
  obtain ⟨z, z1, z2⟩ := bd_ok x2
  cases z2
  have h1 := h x x1
  obtain ⟨c1, c2, c3⟩ := hp _ z h1.2 z1
  show (x.2 ++ z.2).length + 1 ≤ z.1.1 ∧ z.1.1 ≤ n
  rw [List.length_append]; omega
theorem Slk.ap2 {p : Ps} {r : Rs} (h : Slk n r) (h2 : ∀ x, r = .ok x → x.2.length + 2 ≤ x.1.1) (hp : Cnt n p) : ∀ y, apR p r = .ok y → y.2.length + 2 ≤ y.1.1 := by
  intro y e
  obtain ⟨x, x1, x2⟩ := bd_ok e
  obtain ⟨z, z1, z2⟩ := bd_ok x2
  cases z2
  have h1 := h x x1
  have h3 := h2 x x1
  obtain ⟨c1, c2, c3⟩ := hp _ z h1.2 z1
  show (x.2 ++ z.2).length + 2 ≤ z.1.1
  rw [List.length_append]; omega
theorem Slk.ex {c : Int} {r : Rs} (h : Slk n r) (hc : c ≠ 258) : Slk n (r.bind (exS T n c)) ∧ ∀ x, r.bind (exS T n c) = .ok x → x.2.length + 2 ≤ x.1.1 := by
  have key : ∀ y, r.bind (exS T n c) = .ok y → y.2.length + 2 ≤ y.1.1 ∧ y.1.1 ≤ n := by
    intro y e
    obtain ⟨x, x1, x2⟩ := bd_ok e
    have h1 := h x x1
    obtain ⟨f1, f2, f3, f4⟩ := exS_ok hc x2
    have f5 : y.2 = x.2 := by rw [f2]
    rw [f5]
    omega
  exact ⟨fun y e => by have := key y e; omega, fun y e => (key y e).1⟩
theorem Slk.pt {c : Int} {r : Rs} (h : Slk n r) (h2 : ∀ x, r = .ok x → x.2.length + 2 ≤ x.1.1) : Slk n (ptR c r) := by
  intro y e
  obtain ⟨x, x1, x2⟩ := bd_ok e
  cases x2
  have h1 := h x x1
  have h3 := h2 x x1
  show (x.2 ++ [c]).length + 1 ≤ x.1.1 ∧ x.1.1 ≤ n
  rw [List.length_append, List.length_singleton]; omega
end CN
