/-! reading: tests with a stack -/
def dropN : List Int → Nat → List Int → Xs
  | [], o, q => (q, [], o)
  | t :: w, o, q => if t = 12 then dropN w (o - 1) (q ++ [t]) else (q, t :: w, o)
def is10 (t : Int) : Bool := decide (t = 10)
def is11 (t : Int) : Bool := decide (t = 10 ∨ t = 11)
def n25 (t : Int) : Bool := decide (t ≠ 25)
def clsT (o : Nat) : List Int × List Int → Xs
  | (q, []) => (q, [], o)
  | (q, _ :: w) => dropN w (o - 1) q
section TY
variable (T : Int → Int) (n : Nat) (rl : Bool)
def fact0 (sm : Ps) (σ : Stt) : Rs := (sm σ).bind fun x => if kd T n x.1 = 60 ∨ kd T n x.1 = 62 ∨ kd T n x.1 = 61 then (sm (nx T n x.1)).bind fun y => .ok (y.1, x.2 ++ y.2 ++ [cmpC (kd T n x.1)]) else .error (1, x.1.1)
def runT : Nat → Bool → Stt → Xs → Option (Except (Int × Int) (Stt × Xs))
  | 0, _, _, _ => none
  | f + 1, true, σ, (q, w, o) =>
    if kd T n σ = 91 then (if o = 6 then some (.error (4, σ.1)) else runT f true (nx T n σ) (q, 25 :: w, o + 1))
    else if wE T n σ = 26 then (if o = 6 then some (.error (4, σ.1)) else runT f true (nx T n σ) (q, 12 :: w, o + 1))
    else if wE T n σ = 27 then runT f false (nx T n σ) (dropN w o (q ++ [13]))
    else (match fact0 T n (rdSum T n rl (6 - o)) σ with | .error e => some (.error e) | .ok x => runT f false x.1 (dropN w o (q ++ x.2)))
  | f + 1, false, σ, (q, w, o) =>
    if kd T n σ = 93 ∧ 25 ∈ w then runT f false (nx T n σ) (clsT o (popW n25 w q))
    else if opA T n σ ≠ 0 then runT f true (nx T n σ) (pshB o (opA T n σ) (popW is10 w q))
    else if opO T n σ ≠ 0 then runT f true (nx T n σ) (pshB o (opO T n σ) (popW is11 w q))
    else if 25 ∈ w then some (.error (1, σ.1)) else some (.ok (σ, (q, w, o)))
def Lt (ph : Bool) (σ : Stt) (x : Xs) (ph2 : Bool) (τ : Stt) (y : Xs) : Prop := ∃ N, ∀ f, runT T n rl (f + N) ph σ x = runT T n rl f ph2 τ y
def LtE (ph : Bool) (σ : Stt) (x : Xs) (e : Int × Int) : Prop := ∃ N, ∀ f, runT T n rl (f + N) ph σ x = some (.error e)
end TY
section TP
variable {T : Int → Int} {n : Nat} {rl : Bool} {σ τ ν : Stt} {x y z : Xs} {a b c : Bool}
theorem Lt.trans (h1 : Lt T n rl a σ x b τ y) (h2 : Lt T n rl b τ y c ν z) : Lt T n rl a σ x c ν z := by
  obtain ⟨N, h1⟩ := h1
  obtain ⟨M, h2⟩ := h2
  exact ⟨M + N, fun f => by rw [← Nat.add_assoc, h1, h2]⟩
theorem Lt.err {e : Int × Int} (h1 : Lt T n rl a σ x b τ y) (h2 : LtE T n rl b τ y e) : LtE T n rl a σ x e := by
  obtain ⟨N, h1⟩ := h1
  obtain ⟨M, h2⟩ := h2
  exact ⟨M + N, fun f => by rw [← Nat.add_assoc, h1, h2]⟩
theorem Lt.one (h : ∀ f, runT T n rl (f + 1) a σ x = runT T n rl f b τ y) : Lt T n rl a σ x b τ y := ⟨1, h⟩
theorem LtE.one {e : Int × Int} (h : ∀ f, runT T n rl (f + 1) a σ x = some (.error e)) : LtE T n rl a σ x e := ⟨1, h⟩
theorem is10_11 {t : Int} (h : is10 t = true) : is11 t = true := by
  unfold is10 at h
  rw [decide_eq_true_iff] at h
  unfold is11
  rw [decide_eq_true_iff]
  omega
theorem opA_v (σ : Stt) : opA T n σ = 0 ∨ (opA T n σ = 10 ∧ kd T n σ = 256) := by
  unfold opA
  by_cases c : wE T n σ = 25
  · rw [if_pos c]; exact Or.inr ⟨rfl, wE_kd c (by decide)⟩
  · rw [if_neg c]; exact Or.inl rfl
theorem opO_v (σ : Stt) : opO T n σ = 0 ∨ (opO T n σ = 11 ∧ kd T n σ = 256) := by
  unfold opO
  by_cases c : wE T n σ = 24
  · rw [if_pos c]; exact Or.inr ⟨rfl, wE_kd c (by decide)⟩
  · rw [if_neg c]; exact Or.inl rfl
theorem opA_of (h1 : kd T n σ ≠ 256) : opA T n σ = 0 := by
  rcases opA_v (T := T) (n := n) σ with g | ⟨-, g⟩
  · exact g
  · exact absurd g h1
theorem opO_of (h1 : kd T n σ ≠ 256) : opO T n σ = 0 := by
  rcases opO_v (T := T) (n := n) σ with g | ⟨-, g⟩
  · exact g
  · exact absurd g h1
theorem dropN_st {w q : List Int} {o : Nat} (h : Tp (fun t => t = 12) w) : dropN w o q = (q, w, o) := by
  cases w with
  | nil => rfl
  | cons t v => rw [dropN, if_neg (h t v rfl)]
def FactS (T : Int → Int) (n : Nat) (rl : Bool) (k : Nat) : Prop := ∀ σ q w o, o + k = 6 → σ.1 ≤ n → match rdFact T n rl k σ with
  | .error e => LtE T n rl true σ (q, w, o) e
  | .ok x => Lt T n rl true σ (q, w, o) false x.1 (dropN w o (q ++ x.2))
/-- where a product or sum ends -/
def EndT (T : Int → Int) (n : Nat) (rl : Bool) (P : Int → Bool) (σ : Stt) (q w : List Int) (o : Nat) (x : Stt × List Int) : Prop := ∃ q' ops, q' ++ ops = x.2 ∧ (∀ t ∈ ops, P t = true) ∧ Lt T n rl true σ (q, w, o) false x.1 (q ++ q', ops ++ w, o)
def BothS (T : Int → Int) (n : Nat) (rl : Bool) (k : Nat) : Prop := ∀ σ q w o, o + k = 6 → σ.1 ≤ n → Tp (fun t => is10 t = true) w → Tp (fun t => t = 12) w → match rdBoth T n rl k σ with
  | .error e => LtE T n rl true σ (q, w, o) e
  | .ok x => opA T n x.1 = 0 ∧ EndT T n rl is10 σ q w o x
def TestS (T : Int → Int) (n : Nat) (rl : Bool) (k : Nat) : Prop := ∀ σ q w o, o + k = 6 → σ.1 ≤ n → Tp (fun t => is11 t = true) w → Tp (fun t => t = 12) w → match rdTest T n rl k σ with
  | .error e => LtE T n rl true σ (q, w, o) e
  | .ok x => opA T n x.1 = 0 ∧ opO T n x.1 = 0 ∧ EndT T n rl is11 σ q w o x
theorem bothS {k : Nat} (hn : n ≤ 1600) (hp : FactS T n rl k) : BothS T n rl k := by
  intro σ q w o ho hs h34 h60
  have hc := cnt_fact (T := T) (n := n) (rl := rl) k
  -- the loop
  have lp : ∀ (f : Nat) (τ : Stt) (cs q' ops : List Int), 1600 ≤ τ.1 + f → τ.1 ≤ n → q' ++ ops = cs → (∀ t ∈ ops, is10 t = true) → match lLoop T n (opA T n) (rdFact T n rl k) f (τ, cs) with
      | .error e => LtE T n rl false τ (q ++ q', ops ++ w, o) e
      | .ok x => opA T n x.1 = 0 ∧ ∃ q2 ops2, q2 ++ ops2 = x.2 ∧ (∀ t ∈ ops2, is10 t = true) ∧ Lt T n rl false τ (q ++ q', ops ++ w, o) false x.1 (q ++ q2, ops2 ++ w, o) := by
    intro f
    induction f with
    | zero =>
      intro τ cs q' ops hf ht hq hops
      rw [lLoop]
      have k0 : kd T n τ = 258 := by unfold kd; rw [if_pos (by omega)]
      exact ⟨opA_of (by rw [k0]; decide), q', ops, hq, hops, ⟨0, fun _ => rfl⟩⟩
    | succ f ih =>
      intro τ cs q' ops hf ht hq hops
      rw [lLoop]
      by_cases c : opA T n τ = 0
      · rw [if_pos (show opA T n (τ, cs).1 = 0 from c)]
        exact ⟨c, q', ops, hq, hops, ⟨0, fun _ => rfl⟩⟩
      · rw [if_neg (show ¬ opA T n (τ, cs).1 = 0 from c)]
        have nt := @nx_of T n τ (opA_kd τ c)
        have c41 : kd T n τ ≠ 93 := by rcases opA_v (T := T) (n := n) τ with g | ⟨-, g⟩ <;> omega
        have s1 : Lt T n rl false τ (q ++ q', ops ++ w, o) true (nx T n τ) (q ++ cs, opA T n τ :: w, o) := by
          refine Lt.one (fun f => ?_)
          rw [runT, if_neg (fun g => c41 g.1), if_pos c, popW_all h34 hops, List.append_assoc, hq]
          rfl
        have x60 : opA T n τ ≠ 12 := by rcases opA_v (T := T) (n := n) τ with g | ⟨g, -⟩ <;> omega
        have x34 : is10 (opA T n τ) = true := by
          unfold is10; rw [decide_eq_true_iff]
          rcases opA_v (T := T) (n := n) τ with g | ⟨g, -⟩ <;> omega
        have s2 := hp (nx T n τ) (q ++ cs) (opA T n τ :: w) o ho nt.2
        cases e1 : rdFact T n rl k (nx T n τ) with
        | error e =>
          rw [e1] at s2
          exact s1.err s2
        | ok y =>
          rw [e1] at s2
          have cy := hc _ y nt.2 e1
          have s2 : Lt T n rl true (nx T n τ) (q ++ cs, opA T n τ :: w, o) false y.1 (dropN (opA T n τ :: w) o (q ++ cs ++ y.2)) := s2
          rw [dropN, if_neg x60] at s2
          have s3 := ih y.1 (cs ++ y.2 ++ [opA T n τ]) (cs ++ y.2) [opA T n τ] (by omega) cy.2.1 rfl (fun t ht => by rw [List.mem_singleton.mp ht]; exact x34)
          show match lLoop T n (opA T n) (rdFact T n rl k) f (y.1, cs ++ y.2 ++ [opA T n τ]) with | .error e => _ | .ok x => _
          have s12 := s1.trans s2
          rw [List.append_assoc] at s12
          cases e2 : lLoop T n (opA T n) (rdFact T n rl k) f (y.1, cs ++ y.2 ++ [opA T n τ]) with
          | error e => rw [e2] at s3; exact s12.err s3
          | ok x =>
            rw [e2] at s3
            obtain ⟨t1, q2, ops2, t2, t3, t4⟩ := s3
            exact ⟨t1, q2, ops2, t2, t3, s12.trans t4⟩
  show match lChain T n (opA T n) (rdFact T n rl k) σ with | .error e => _ | .ok x => _
  unfold lChain
  have s2 := hp σ q w o ho hs
  cases e1 : rdFact T n rl k σ with
  | error e => rw [e1] at s2; exact s2
  | ok y =>
    rw [e1] at s2
    have cy := hc _ y hs e1
    have s2 : Lt T n rl true σ (q, w, o) false y.1 (dropN w o (q ++ y.2)) := s2
    rw [dropN_st h60] at s2
    have s3 := lp 1600 y.1 y.2 y.2 [] (by omega) cy.2.1 (List.append_nil _) (fun t ht => absurd ht (List.not_mem_nil))
    show match lLoop T n (opA T n) (rdFact T n rl k) 1600 y with | .error e => _ | .ok x => _
    cases e2 : lLoop T n (opA T n) (rdFact T n rl k) 1600 y with
    | error e => rw [show (y.1, y.2) = y from rfl, e2] at s3; exact s2.err s3
    | ok x =>
      rw [show (y.1, y.2) = y from rfl, e2] at s3
      obtain ⟨t1, q2, ops2, t2, t3, t4⟩ := s3
      exact ⟨t1, q2, ops2, t2, t3, s2.trans t4⟩
theorem testS {k : Nat} (hn : n ≤ 1600) (hp : BothS T n rl k) : TestS T n rl k := by
  intro σ q w o ho hs h14 h60
  have hc := cnt_both (T := T) (n := n) (rl := rl) k
  have h34 : Tp (fun t => is10 t = true) w := fun t v e g => h14 t v e (is10_11 g)
  have lp : ∀ (f : Nat) (τ : Stt) (cs q' ops : List Int), 1600 ≤ τ.1 + f → τ.1 ≤ n → q' ++ ops = cs → (∀ t ∈ ops, is11 t = true) → opA T n τ = 0 → match lLoop T n (opO T n) (rdBoth T n rl k) f (τ, cs) with
      | .error e => LtE T n rl false τ (q ++ q', ops ++ w, o) e
      | .ok x => opA T n x.1 = 0 ∧ opO T n x.1 = 0 ∧ ∃ q2 ops2, q2 ++ ops2 = x.2 ∧ (∀ t ∈ ops2, is11 t = true) ∧ Lt T n rl false τ (q ++ q', ops ++ w, o) false x.1 (q ++ q2, ops2 ++ w, o) := by
    intro f
    induction f with
    | zero =>
      intro τ cs q' ops hf ht hq hops hP
      rw [lLoop]
      have k0 : kd T n τ = 258 := by unfold kd; rw [if_pos (by omega)]
      exact ⟨hP, opO_of (by rw [k0]; decide), q', ops, hq, hops, ⟨0, fun _ => rfl⟩⟩
    | succ f ih =>
      intro τ cs q' ops hf ht hq hops hP
      rw [lLoop]
      by_cases c : opO T n τ = 0
      · rw [if_pos (show opO T n (τ, cs).1 = 0 from c)]
        exact ⟨hP, c, q', ops, hq, hops, ⟨0, fun _ => rfl⟩⟩
      · rw [if_neg (show ¬ opO T n (τ, cs).1 = 0 from c)]
        have nt := @nx_of T n τ (opO_kd τ c)
        have c41 : kd T n τ ≠ 93 := by rcases opO_v (T := T) (n := n) τ with g | ⟨-, g⟩ <;> omega
        have s1 : Lt T n rl false τ (q ++ q', ops ++ w, o) true (nx T n τ) (q ++ cs, opO T n τ :: w, o) := by
          refine Lt.one (fun f => ?_)
          rw [runT, if_neg (fun g => c41 g.1), if_neg (fun g => g hP), if_pos c, popW_all h14 hops, List.append_assoc, hq]
          rfl
        have x60 : Tp (fun t => t = 12) (opO T n τ :: w) := fun t v e g => by
          cases e
          have g : opO T n τ = 12 := g
          rcases opO_v (T := T) (n := n) τ with g | ⟨g, -⟩ <;> omega
        have x34 : Tp (fun t => is10 t = true) (opO T n τ :: w) := fun t v e g => by
          cases e
          have g : is10 (opO T n τ) = true := g
          unfold is10 at g; rw [decide_eq_true_iff] at g
          rcases opO_v (T := T) (n := n) τ with g | ⟨g, -⟩ <;> omega
        have x14 : is11 (opO T n τ) = true := by
          unfold is11; rw [decide_eq_true_iff]
          rcases opO_v (T := T) (n := n) τ with g | ⟨g, -⟩ <;> omega
        have s2 := hp (nx T n τ) (q ++ cs) (opO T n τ :: w) o ho nt.2 x34 x60
        cases e1 : rdBoth T n rl k (nx T n τ) with
        | error e =>
          rw [e1] at s2
          exact s1.err s2
        | ok y =>
          rw [e1] at s2
          have cy := hc _ y nt.2 e1
          obtain ⟨u1, q1, ops1, u2, u3, u4⟩ := s2
          have s3 := ih y.1 (cs ++ y.2 ++ [opO T n τ]) (cs ++ q1) (ops1 ++ [opO T n τ]) (by omega) cy.2.1 (by rw [← u2, List.append_assoc, List.append_assoc, List.append_assoc]) (fun t ht => by
            rcases List.mem_append.mp ht with g | g
            · exact is10_11 (u3 t g)
            · rw [List.mem_singleton.mp g]; exact x14) u1
          show match lLoop T n (opO T n) (rdBoth T n rl k) f (y.1, cs ++ y.2 ++ [opO T n τ]) with | .error e => _ | .ok x => _
          have s12 := s1.trans u4
          rw [List.append_assoc] at s12
          rw [List.append_assoc ops1] at s3
          cases e2 : lLoop T n (opO T n) (rdBoth T n rl k) f (y.1, cs ++ y.2 ++ [opO T n τ]) with
          | error e => rw [e2] at s3; exact s12.err s3
          | ok x =>
            rw [e2] at s3
            obtain ⟨t0, t1, q2, ops2, t2, t3, t4⟩ := s3
            exact ⟨t0, t1, q2, ops2, t2, t3, s12.trans t4⟩
  show match lChain T n (opO T n) (rdBoth T n rl k) σ with | .error e => _ | .ok x => _
  unfold lChain
  have s2 := hp σ q w o ho hs h34 h60
  cases e1 : rdBoth T n rl k σ with
  | error e => rw [e1] at s2; exact s2
  | ok y =>
    rw [e1] at s2
    have cy := hc _ y hs e1
    obtain ⟨u1, q1, ops1, u2, u3, u4⟩ := s2
    have s3 := lp 1600 y.1 y.2 q1 ops1 (by omega) cy.2.1 u2 (fun t ht => is10_11 (u3 t ht)) u1
    show match lLoop T n (opO T n) (rdBoth T n rl k) 1600 y with | .error e => _ | .ok x => _
    cases e2 : lLoop T n (opO T n) (rdBoth T n rl k) 1600 y with
    | error e => rw [show (y.1, y.2) = y from rfl, e2] at s3; exact u4.err s3
    | ok x =>
      rw [show (y.1, y.2) = y from rfl, e2] at s3
      obtain ⟨t0, t1, q2, ops2, t2, t3, t4⟩ := s3
      exact ⟨t0, t1, q2, ops2, t2, t3, u4.trans t4⟩
theorem ops_n25 {ops : List Int} (h : ∀ t ∈ ops, is11 t = true) : (∀ t ∈ ops, n25 t = true) ∧ 25 ∉ ops := by
  have k : ∀ t ∈ ops, t ≠ 25 := fun t ht e => by
    have := h t ht
    unfold is11 at this
    rw [decide_eq_true_iff] at this
    omega
  exact ⟨fun t ht => by unfold n25; rw [decide_eq_true_iff]; exact k t ht, fun g => k 25 g rfl⟩
theorem factS_step {k : Nat} (hf : ∀ k', k = k' + 1 → FactS T n rl k') (ht : ∀ k', k = k' + 1 → TestS T n rl k') : FactS T n rl k := by
  intro σ q w o ho hσ
  rw [fact_eq]
  unfold lFact
  by_cases c1 : wE T n σ = 26
  · rw [if_pos c1]
    have k2 := wE_kd c1 (by decide)
    cases k with
    | zero => exact LtE.one (fun f => by rw [runT, if_neg (by omega), if_pos c1, if_pos (by omega)])
    | succ k =>
      rw [if_neg (Nat.succ_ne_zero k)]
      have n1 := @nx_of T n σ (by omega)
      have s1 : Lt T n rl true σ (q, w, o) true (nx T n σ) (q, 12 :: w, o + 1) := Lt.one (fun f => by rw [runT, if_neg (by omega), if_pos c1, if_neg (by omega)])
      have s2 := hf k rfl (nx T n σ) q (12 :: w) (o + 1) (by omega) n1.2
      show match (rdFact T n rl k (nx T n σ)).bind fun x => .ok (x.1, x.2 ++ [12]) with | .error e => _ | .ok x => _
      cases e1 : rdFact T n rl k (nx T n σ) with
      | error e => rw [e1] at s2; exact s1.err s2
      | ok x =>
        rw [e1] at s2
        have s2 : Lt T n rl true (nx T n σ) (q, 12 :: w, o + 1) false x.1 (dropN (12 :: w) (o + 1) (q ++ x.2)) := s2
        rw [dropN, if_pos rfl, Nat.add_sub_cancel, List.append_assoc] at s2
        exact s1.trans s2
  rw [if_neg c1]
  by_cases c2 : kd T n σ = 91
  · rw [if_pos c2]
    cases k with
    | zero => exact LtE.one (fun f => by rw [runT, if_pos c2, if_pos (by omega)])
    | succ k =>
      rw [if_neg (Nat.succ_ne_zero k)]
      have n1 := @nx_of T n σ (by omega)
      have s1 : Lt T n rl true σ (q, w, o) true (nx T n σ) (q, 25 :: w, o + 1) := Lt.one (fun f => by rw [runT, if_pos c2, if_neg (by omega)])
      have s2 := ht k rfl (nx T n σ) q (25 :: w) (o + 1) (by omega) n1.2 (fun t v e g => by cases e; exact absurd g (by decide)) (fun t v e g => by cases e; exact absurd g (by decide))
      show match (rdTest T n rl k (nx T n σ)).bind fun x => exS T n 93 x with | .error e => _ | .ok x => _
      cases e1 : rdTest T n rl k (nx T n σ) with
      | error e => rw [e1] at s2; exact s1.err s2
      | ok x =>
        rw [e1] at s2
        obtain ⟨t1, t2, q', ops, t3, t4, t5⟩ := s2
        obtain ⟨o1, o2⟩ := ops_n25 t4
        have mem : (25 : Int) ∈ ops ++ 25 :: w := List.mem_append.mpr (Or.inr (List.mem_cons_self ..))
        show match exS T n 93 x with | .error e => _ | .ok x => _
        unfold exS
        by_cases g : kd T n x.1 = 93
        · rw [if_pos g]
          have s3 : Lt T n rl false x.1 (q ++ q', ops ++ 25 :: w, o + 1) false (nx T n x.1) (dropN w o (q ++ x.2)) := by
            refine Lt.one (fun f => ?_)
            rw [runT, if_pos ⟨g, mem⟩, popW_all (fun t v e g => by cases e; exact absurd g (by decide)) o1, clsT, Nat.add_sub_cancel, List.append_assoc, t3]
          exact (s1.trans t5).trans s3
        · rw [if_neg g]
          exact (s1.trans t5).err (LtE.one (fun f => by rw [runT, if_neg (fun q => g q.1), if_neg (fun g => g t1), if_neg (fun g => g t2), if_pos mem]))
  rw [if_neg c2]
  by_cases c3 : wE T n σ = 27
  · rw [if_pos c3]
    exact Lt.one (fun f => by rw [runT, if_neg c2, if_neg c1, if_pos c3])
  rw [if_neg c3]
  have e0 : 6 - o = k := by omega
  show match fact0 T n (rdSum T n rl k) σ with | .error e => _ | .ok x => _
  cases e1 : fact0 T n (rdSum T n rl k) σ with
  | error e => exact LtE.one (fun f => by rw [runT, if_neg c2, if_neg c1, if_neg c3, e0, e1])
  | ok x => exact Lt.one (fun f => by rw [runT, if_neg c2, if_neg c1, if_neg c3, e0, e1])
theorem factsS (hn : n ≤ 1600) : ∀ k : Nat, FactS T n rl k ∧ TestS T n rl k := by
  intro k
  induction k with
  | zero =>
    have p : FactS T n rl 0 := factS_step (fun k' e => by omega) (fun k' e => by omega)
    exact ⟨p, testS hn (bothS hn p)⟩
  | succ k ih =>
    have p : FactS T n rl (k + 1) := factS_step (fun k' e => by cases e; exact ih.1) (fun k' e => by cases e; exact ih.2)
    exact ⟨p, testS hn (bothS hn p)⟩
/-- a test as a whole -/
theorem run_test (hn : n ≤ 1600) (hσ : σ.1 ≤ n) : ∃ f, match rdTest T n rl 6 σ with
    | .error e => runT T n rl f true σ ([], [], 0) = some (.error e)
    | .ok x => ∃ q' ops, q' ++ ops = x.2 ∧ runT T n rl f true σ ([], [], 0) = some (.ok (x.1, (q', ops, 0))) := by
  have s := (factsS (rl := rl) (T := T) hn 6).2 σ [] [] 0 rfl hσ (fun t v e => by cases e) (fun t v e => by cases e)
  cases e1 : rdTest T n rl 6 σ with
  | error e =>
    rw [e1] at s
    obtain ⟨N, h⟩ := s
    exact ⟨0 + N, h 0⟩
  | ok x =>
    rw [e1] at s
    obtain ⟨t1, t2, q', ops, t3, t4, N, h⟩ := s
    refine ⟨1 + N, q', ops, t3, ?_⟩
    rw [h 1, List.append_nil, List.nil_append]
    obtain ⟨o1, o2⟩ := ops_n25 t4
    show (if kd T n x.1 = 93 ∧ 25 ∈ ops then _ else _) = _
    rw [if_neg (fun g => o2 g.2), if_neg (fun g => g t1), if_neg (fun g => g t2), if_neg o2]
end TP
