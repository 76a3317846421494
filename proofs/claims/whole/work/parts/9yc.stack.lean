/-! reading: sums with a stack, as the reference reads them, out of sums by levels -/
abbrev Xs := List Int × List Int × Nat
def endP : List Int → Nat → List Int → Xs
  | [], o, q => (q, [], o)
  | t :: w, o, q => if 60 ≤ t then endP w (o - 1) (q ++ [t]) else (q, t :: w, o)
def popW (P : Int → Bool) : List Int → List Int → List Int × List Int
  | [], q => (q, [])
  | t :: w, q => if P t = true then popW P w (q ++ [t]) else (q, t :: w)
def isBk (t : Int) : Bool := decide (20 ≤ t ∧ t ≤ 24)
def nBk (t : Int) : Bool := !isBk t
def is34 (t : Int) : Bool := decide (t = 3 ∨ t = 4)
def is14 (t : Int) : Bool := decide (t = 3 ∨ t = 4 ∨ t = 1 ∨ t = 2)
def brk : List Int → Int
  | [] => -1
  | t :: w => if isBk t = true then t else brk w
/-- a bracket closed -/
def clsB (o : Nat) : List Int × List Int → Xs
  | (q, []) => (q, [], o)
  | (q, b :: w) => endP w (o - 1) (if b = 20 then q else q ++ [if b = 23 then 5 else 6])
def nxtB (o : Nat) : List Int × List Int → Xs
  | (q, []) => (q, [], o)
  | (q, b :: w) => (q, (b + 2) :: w, o)
def pshB (o : Nat) (x : Int) (p : List Int × List Int) : Xs := (p.1, x :: p.2, o)
section SY
variable (T : Int → Int) (n : Nat) (rl : Bool)
def run : Nat → Bool → Stt → Xs → Option (Except (Int × Int) (Stt × Xs))
  | 0, _, _, _ => none
  | f + 1, true, σ, (q, w, o) =>
    if kd T n σ = 40 then (if o = 6 then some (.error (4, σ.1)) else run f true (nx T n σ) (q, 20 :: w, o + 1))
    else if wE T n σ = 28 ∨ wE T n σ = 29 then
      (if kd T n (nx T n σ) ≠ 40 then some (.error (1, (nx T n σ).1)) else if o = 6 then some (.error (4, (nx T n σ).1)) else run f true (nx T n (nx T n σ)) (q, (if wE T n σ = 28 then 21 else 22) :: w, o + 1))
    else if rl = false ∧ wE T n σ = 23 then (if o = 6 then some (.error (4, σ.1)) else run f true (nx T n σ) (q, 60 :: w, o + 1))
    else if pcode rl (wE T n σ) = 0 then (match numR T n 0 9999 σ with | .error e => some (.error e) | .ok v => run f false (nx T n σ) (endP w o (q ++ [1000 + v])))
    else run f false (nx T n σ) (endP w o (q ++ [pcode rl (wE T n σ)]))
  | f + 1, false, σ, (q, w, o) =>
    if kd T n σ = 41 ∧ (brk w = 20 ∨ brk w = 23 ∨ brk w = 24) then run f false (nx T n σ) (clsB o (popW nBk w q))
    else if opP T n σ ≠ 0 then run f true (nx T n σ) (pshB o (opP T n σ) (popW is34 w q))
    else if opS T n σ ≠ 0 then run f true (nx T n σ) (pshB o (opS T n σ) (popW is14 w q))
    else if brk w = 21 ∨ brk w = 22 then (if kd T n σ = 44 then run f true (nx T n σ) (nxtB o (popW nBk w q)) else some (.error (1, σ.1)))
    else if brk w = -1 then some (.ok (σ, (q, w, o))) else some (.error (1, σ.1))
def Ld (ph : Bool) (σ : Stt) (x : Xs) (ph2 : Bool) (τ : Stt) (y : Xs) : Prop := ∃ N, ∀ f, run T n rl (f + N) ph σ x = run T n rl f ph2 τ y
def LdE (ph : Bool) (σ : Stt) (x : Xs) (e : Int × Int) : Prop := ∃ N, ∀ f, run T n rl (f + N) ph σ x = some (.error e)
end SY
section SP
variable {T : Int → Int} {n : Nat} {rl : Bool} {σ τ ν : Stt} {x y z : Xs} {a b c : Bool}
theorem Ld.trans (h1 : Ld T n rl a σ x b τ y) (h2 : Ld T n rl b τ y c ν z) : Ld T n rl a σ x c ν z := by
  obtain ⟨N, h1⟩ := h1
  obtain ⟨M, h2⟩ := h2
  exact ⟨M + N, fun f => by rw [← Nat.add_assoc, h1, h2]⟩
theorem Ld.err {e : Int × Int} (h1 : Ld T n rl a σ x b τ y) (h2 : LdE T n rl b τ y e) : LdE T n rl a σ x e := by
  obtain ⟨N, h1⟩ := h1
  obtain ⟨M, h2⟩ := h2
  exact ⟨M + N, fun f => by rw [← Nat.add_assoc, h1, h2]⟩
theorem Ld.one (h : ∀ f, run T n rl (f + 1) a σ x = run T n rl f b τ y) : Ld T n rl a σ x b τ y := ⟨1, h⟩
theorem LdE.one {e : Int × Int} (h : ∀ f, run T n rl (f + 1) a σ x = some (.error e)) : LdE T n rl a σ x e := ⟨1, h⟩
/-- on top of a stack stands none of these -/
def Tp (S : Int → Prop) (w : List Int) : Prop := ∀ t v, w = t :: v → ¬ S t
theorem popW_all {P : Int → Bool} {w : List Int} (hw : Tp (fun t => P t = true) w) : ∀ {ops q : List Int}, (∀ t ∈ ops, P t = true) → popW P (ops ++ w) q = (q ++ ops, w) := by
  intro ops
  induction ops with
  | nil =>
    intro q _
    rw [List.nil_append, List.append_nil]
    cases w with
    | nil => rfl
    | cons t v => rw [popW, if_neg (hw t v rfl)]
  | cons t ops ih =>
    intro q h
    rw [List.cons_append, popW, if_pos (h t (List.mem_cons_self ..)), ih (fun u hu => h u (List.mem_cons_of_mem _ hu)), List.append_assoc, List.singleton_append]
theorem brk_ops {w : List Int} : ∀ {ops : List Int}, (∀ t ∈ ops, isBk t = false) → brk (ops ++ w) = brk w := by
  intro ops
  induction ops with
  | nil => intro _; rfl
  | cons t ops ih =>
    intro h
    rw [List.cons_append, brk, if_neg (by rw [h t (List.mem_cons_self ..)]; decide), ih (fun u hu => h u (List.mem_cons_of_mem _ hu))]
theorem is14_nb {t : Int} (h : is14 t = true) : isBk t = false := by
  unfold is14 at h
  rw [decide_eq_true_iff] at h
  unfold isBk
  rw [decide_eq_false_iff_not]
  omega
theorem is34_14 {t : Int} (h : is34 t = true) : is14 t = true := by
  unfold is34 at h
  rw [decide_eq_true_iff] at h
  unfold is14
  rw [decide_eq_true_iff]
  omega
theorem opP_v (σ : Stt) : opP T n σ = 0 ∨ (opP T n σ = 3 ∧ kd T n σ = 42) ∨ (opP T n σ = 4 ∧ kd T n σ = 47) := by
  unfold opP
  by_cases c : kd T n σ = 42
  · rw [if_pos c]; exact Or.inr (Or.inl ⟨rfl, c⟩)
  · rw [if_neg c]
    by_cases c2 : kd T n σ = 47
    · rw [if_pos c2]; exact Or.inr (Or.inr ⟨rfl, c2⟩)
    · rw [if_neg c2]; exact Or.inl rfl
theorem opS_v (σ : Stt) : opS T n σ = 0 ∨ (opS T n σ = 1 ∧ kd T n σ = 43) ∨ (opS T n σ = 2 ∧ kd T n σ = 45) := by
  unfold opS
  by_cases c : kd T n σ = 43
  · rw [if_pos c]; exact Or.inr (Or.inl ⟨rfl, c⟩)
  · rw [if_neg c]
    by_cases c2 : kd T n σ = 45
    · rw [if_pos c2]; exact Or.inr (Or.inr ⟨rfl, c2⟩)
    · rw [if_neg c2]; exact Or.inl rfl
theorem opP_of (h1 : kd T n σ ≠ 42) (h2 : kd T n σ ≠ 47) : opP T n σ = 0 := by unfold opP; rw [if_neg h1, if_neg h2]
theorem opS_of (h1 : kd T n σ ≠ 43) (h2 : kd T n σ ≠ 45) : opS T n σ = 0 := by unfold opS; rw [if_neg h1, if_neg h2]
def PartS (T : Int → Int) (n : Nat) (rl : Bool) (k : Nat) : Prop := ∀ σ q w o, o + k = 6 → σ.1 ≤ n → match rdPart T n rl k σ with
  | .error e => LdE T n rl true σ (q, w, o) e
  | .ok x => Ld T n rl true σ (q, w, o) false x.1 (endP w o (q ++ x.2))
/-- where a product or sum ends -/
def EndS (T : Int → Int) (n : Nat) (rl : Bool) (P : Int → Bool) (σ : Stt) (q w : List Int) (o : Nat) (x : Stt × List Int) : Prop := ∃ q' ops, q' ++ ops = x.2 ∧ (∀ t ∈ ops, P t = true) ∧ Ld T n rl true σ (q, w, o) false x.1 (q ++ q', ops ++ w, o)
def ProdS (T : Int → Int) (n : Nat) (rl : Bool) (k : Nat) : Prop := ∀ σ q w o, o + k = 6 → σ.1 ≤ n → Tp (fun t => is34 t = true) w → Tp (fun t => 60 ≤ t) w → match rdProd T n rl k σ with
  | .error e => LdE T n rl true σ (q, w, o) e
  | .ok x => opP T n x.1 = 0 ∧ EndS T n rl is34 σ q w o x
def SumS (T : Int → Int) (n : Nat) (rl : Bool) (k : Nat) : Prop := ∀ σ q w o, o + k = 6 → σ.1 ≤ n → Tp (fun t => is14 t = true) w → Tp (fun t => 60 ≤ t) w → match rdSum T n rl k σ with
  | .error e => LdE T n rl true σ (q, w, o) e
  | .ok x => opP T n x.1 = 0 ∧ opS T n x.1 = 0 ∧ EndS T n rl is14 σ q w o x
theorem endP_st {w q : List Int} {o : Nat} (h : Tp (fun t => 60 ≤ t) w) : endP w o q = (q, w, o) := by
  cases w with
  | nil => rfl
  | cons t v => rw [endP, if_neg (h t v rfl)]
theorem prodS {k : Nat} (hn : n ≤ 1600) (hp : PartS T n rl k) : ProdS T n rl k := by
  intro σ q w o ho hs h34 h60
  have hc := cnt_part (T := T) (n := n) (rl := rl) k
  -- the loop
  have lp : ∀ (f : Nat) (τ : Stt) (cs q' ops : List Int), 1600 ≤ τ.1 + f → τ.1 ≤ n → q' ++ ops = cs → (∀ t ∈ ops, is34 t = true) → match lLoop T n (opP T n) (rdPart T n rl k) f (τ, cs) with
      | .error e => LdE T n rl false τ (q ++ q', ops ++ w, o) e
      | .ok x => opP T n x.1 = 0 ∧ ∃ q2 ops2, q2 ++ ops2 = x.2 ∧ (∀ t ∈ ops2, is34 t = true) ∧ Ld T n rl false τ (q ++ q', ops ++ w, o) false x.1 (q ++ q2, ops2 ++ w, o) := by
    intro f
    induction f with
    | zero =>
      intro τ cs q' ops hf ht hq hops
      rw [lLoop]
      have k0 : kd T n τ = 258 := by unfold kd; rw [if_pos (by omega)]
      exact ⟨opP_of (by rw [k0]; decide) (by rw [k0]; decide), q', ops, hq, hops, ⟨0, fun _ => rfl⟩⟩
    | succ f ih =>
      intro τ cs q' ops hf ht hq hops
      rw [lLoop]
      by_cases c : opP T n τ = 0
      · rw [if_pos (show opP T n (τ, cs).1 = 0 from c)]
        exact ⟨c, q', ops, hq, hops, ⟨0, fun _ => rfl⟩⟩
      · rw [if_neg (show ¬ opP T n (τ, cs).1 = 0 from c)]
        have nt := @nx_of T n τ (opP_kd τ c)
        have c41 : kd T n τ ≠ 41 := by rcases opP_v (T := T) (n := n) τ with g | ⟨-, g⟩ | ⟨-, g⟩ <;> omega
        have s1 : Ld T n rl false τ (q ++ q', ops ++ w, o) true (nx T n τ) (q ++ cs, opP T n τ :: w, o) := by
          refine Ld.one (fun f => ?_)
          rw [run, if_neg (fun g => c41 g.1), if_pos c, popW_all h34 hops, List.append_assoc, hq]
          rfl
        have x60 : opP T n τ < 60 := by rcases opP_v (T := T) (n := n) τ with g | ⟨g, -⟩ | ⟨g, -⟩ <;> omega
        have x34 : is34 (opP T n τ) = true := by
          unfold is34; rw [decide_eq_true_iff]
          rcases opP_v (T := T) (n := n) τ with g | ⟨g, -⟩ | ⟨g, -⟩ <;> omega
        have s2 := hp (nx T n τ) (q ++ cs) (opP T n τ :: w) o ho nt.2
        cases e1 : rdPart T n rl k (nx T n τ) with
        | error e =>
          rw [e1] at s2
          exact s1.err s2
        | ok y =>
          rw [e1] at s2
          have cy := hc _ y nt.2 e1
          have s2 : Ld T n rl true (nx T n τ) (q ++ cs, opP T n τ :: w, o) false y.1 (endP (opP T n τ :: w) o (q ++ cs ++ y.2)) := s2
          rw [endP, if_neg (by omega)] at s2
          have s3 := ih y.1 (cs ++ y.2 ++ [opP T n τ]) (cs ++ y.2) [opP T n τ] (by omega) cy.2.1 rfl (fun t ht => by rw [List.mem_singleton.mp ht]; exact x34)
          show match lLoop T n (opP T n) (rdPart T n rl k) f (y.1, cs ++ y.2 ++ [opP T n τ]) with | .error e => _ | .ok x => _
          have s12 := s1.trans s2
          rw [List.append_assoc] at s12
          cases e2 : lLoop T n (opP T n) (rdPart T n rl k) f (y.1, cs ++ y.2 ++ [opP T n τ]) with
          | error e => rw [e2] at s3; exact s12.err s3
          | ok x =>
            rw [e2] at s3
            obtain ⟨t1, q2, ops2, t2, t3, t4⟩ := s3
            exact ⟨t1, q2, ops2, t2, t3, s12.trans t4⟩
  show match lChain T n (opP T n) (rdPart T n rl k) σ with | .error e => _ | .ok x => _
  unfold lChain
  have s2 := hp σ q w o ho hs
  cases e1 : rdPart T n rl k σ with
  | error e => rw [e1] at s2; exact s2
  | ok y =>
    rw [e1] at s2
    have cy := hc _ y hs e1
    have s2 : Ld T n rl true σ (q, w, o) false y.1 (endP w o (q ++ y.2)) := s2
    rw [endP_st h60] at s2
    have s3 := lp 1600 y.1 y.2 y.2 [] (by omega) cy.2.1 (List.append_nil _) (fun t ht => absurd ht (List.not_mem_nil))
    show match lLoop T n (opP T n) (rdPart T n rl k) 1600 y with | .error e => _ | .ok x => _
    cases e2 : lLoop T n (opP T n) (rdPart T n rl k) 1600 y with
    | error e => rw [show (y.1, y.2) = y from rfl, e2] at s3; exact s2.err s3
    | ok x =>
      rw [show (y.1, y.2) = y from rfl, e2] at s3
      obtain ⟨t1, q2, ops2, t2, t3, t4⟩ := s3
      exact ⟨t1, q2, ops2, t2, t3, s2.trans t4⟩
theorem sumS {k : Nat} (hn : n ≤ 1600) (hp : ProdS T n rl k) : SumS T n rl k := by
  intro σ q w o ho hs h14 h60
  have hc := cnt_prod (T := T) (n := n) (rl := rl) k
  have h34 : Tp (fun t => is34 t = true) w := fun t v e g => h14 t v e (is34_14 g)
  have lp : ∀ (f : Nat) (τ : Stt) (cs q' ops : List Int), 1600 ≤ τ.1 + f → τ.1 ≤ n → q' ++ ops = cs → (∀ t ∈ ops, is14 t = true) → opP T n τ = 0 → match lLoop T n (opS T n) (rdProd T n rl k) f (τ, cs) with
      | .error e => LdE T n rl false τ (q ++ q', ops ++ w, o) e
      | .ok x => opP T n x.1 = 0 ∧ opS T n x.1 = 0 ∧ ∃ q2 ops2, q2 ++ ops2 = x.2 ∧ (∀ t ∈ ops2, is14 t = true) ∧ Ld T n rl false τ (q ++ q', ops ++ w, o) false x.1 (q ++ q2, ops2 ++ w, o) := by
    intro f
    induction f with
    | zero =>
      intro τ cs q' ops hf ht hq hops hP
      rw [lLoop]
      have k0 : kd T n τ = 258 := by unfold kd; rw [if_pos (by omega)]
      exact ⟨hP, opS_of (by rw [k0]; decide) (by rw [k0]; decide), q', ops, hq, hops, ⟨0, fun _ => rfl⟩⟩
    | succ f ih =>
      intro τ cs q' ops hf ht hq hops hP
      rw [lLoop]
      by_cases c : opS T n τ = 0
      · rw [if_pos (show opS T n (τ, cs).1 = 0 from c)]
        exact ⟨hP, c, q', ops, hq, hops, ⟨0, fun _ => rfl⟩⟩
      · rw [if_neg (show ¬ opS T n (τ, cs).1 = 0 from c)]
        have nt := @nx_of T n τ (opS_kd τ c)
        have c41 : kd T n τ ≠ 41 := by rcases opS_v (T := T) (n := n) τ with g | ⟨-, g⟩ | ⟨-, g⟩ <;> omega
        have s1 : Ld T n rl false τ (q ++ q', ops ++ w, o) true (nx T n τ) (q ++ cs, opS T n τ :: w, o) := by
          refine Ld.one (fun f => ?_)
          rw [run, if_neg (fun g => c41 g.1), if_neg (fun g => g hP), if_pos c, popW_all h14 hops, List.append_assoc, hq]
          rfl
        have x60 : Tp (fun t => 60 ≤ t) (opS T n τ :: w) := fun t v e g => by
          cases e
          have g : 60 ≤ opS T n τ := g
          rcases opS_v (T := T) (n := n) τ with g | ⟨g, -⟩ | ⟨g, -⟩ <;> omega
        have x34 : Tp (fun t => is34 t = true) (opS T n τ :: w) := fun t v e g => by
          cases e
          have g : is34 (opS T n τ) = true := g
          unfold is34 at g; rw [decide_eq_true_iff] at g
          rcases opS_v (T := T) (n := n) τ with g | ⟨g, -⟩ | ⟨g, -⟩ <;> omega
        have x14 : is14 (opS T n τ) = true := by
          unfold is14; rw [decide_eq_true_iff]
          rcases opS_v (T := T) (n := n) τ with g | ⟨g, -⟩ | ⟨g, -⟩ <;> omega
        have s2 := hp (nx T n τ) (q ++ cs) (opS T n τ :: w) o ho nt.2 x34 x60
        cases e1 : rdProd T n rl k (nx T n τ) with
        | error e =>
          rw [e1] at s2
          exact s1.err s2
        | ok y =>
          rw [e1] at s2
          have cy := hc _ y nt.2 e1
          obtain ⟨u1, q1, ops1, u2, u3, u4⟩ := s2
          have s3 := ih y.1 (cs ++ y.2 ++ [opS T n τ]) (cs ++ q1) (ops1 ++ [opS T n τ]) (by omega) cy.2.1 (by rw [← u2, List.append_assoc, List.append_assoc, List.append_assoc]) (fun t ht => by
            rcases List.mem_append.mp ht with g | g
            · exact is34_14 (u3 t g)
            · rw [List.mem_singleton.mp g]; exact x14) u1
          show match lLoop T n (opS T n) (rdProd T n rl k) f (y.1, cs ++ y.2 ++ [opS T n τ]) with | .error e => _ | .ok x => _
          have s12 := s1.trans u4
          rw [List.append_assoc] at s12
          rw [List.append_assoc ops1] at s3
          cases e2 : lLoop T n (opS T n) (rdProd T n rl k) f (y.1, cs ++ y.2 ++ [opS T n τ]) with
          | error e => rw [e2] at s3; exact s12.err s3
          | ok x =>
            rw [e2] at s3
            obtain ⟨t0, t1, q2, ops2, t2, t3, t4⟩ := s3
            exact ⟨t0, t1, q2, ops2, t2, t3, s12.trans t4⟩
  show match lChain T n (opS T n) (rdProd T n rl k) σ with | .error e => _ | .ok x => _
  unfold lChain
  have s2 := hp σ q w o ho hs h34 h60
  cases e1 : rdProd T n rl k σ with
  | error e => rw [e1] at s2; exact s2
  | ok y =>
    rw [e1] at s2
    have cy := hc _ y hs e1
    obtain ⟨u1, q1, ops1, u2, u3, u4⟩ := s2
    have s3 := lp 1600 y.1 y.2 q1 ops1 (by omega) cy.2.1 u2 (fun t ht => is34_14 (u3 t ht)) u1
    show match lLoop T n (opS T n) (rdProd T n rl k) 1600 y with | .error e => _ | .ok x => _
    cases e2 : lLoop T n (opS T n) (rdProd T n rl k) 1600 y with
    | error e => rw [show (y.1, y.2) = y from rfl, e2] at s3; exact u4.err s3
    | ok x =>
      rw [show (y.1, y.2) = y from rfl, e2] at s3
      obtain ⟨t0, t1, q2, ops2, t2, t3, t4⟩ := s3
      exact ⟨t0, t1, q2, ops2, t2, t3, u4.trans t4⟩
end SP
