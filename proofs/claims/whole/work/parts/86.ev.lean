/-! what a formula comes to -/
section EV
def clp (v : Int) : Int := if v ≤ 1000000 then (if -1000000 ≤ v then v else -1000000) else 1000000
def jnF (c a b : Int) : Int :=
  if c = 1 then clp (a + b) else if c = 2 then clp (a - b) else if c = 3 then clp (a * b) else if c = 4 then (if b = 0 then 0 else a.fdiv b) else if c = 5 then (if b ≤ a then b else a) else if c = 6 then (if a ≤ b then b else a)
  else if c = 7 then (if b ≤ a then 0 else 1) else if c = 8 then (if a ≤ b then 0 else 1) else if c = 9 then (if a ≠ b then 0 else 1) else if c = 10 then a * b else (if a + b ≤ 0 then 0 else 1)
def evS (pt yd : Int → Int) (c : Int) (l : List Int) : List Int :=
  if 1000 ≤ c then (c - 1000) :: l else if 40 ≤ c ∧ c ≤ 49 then pt (c - 40) :: l else if c = 13 then 1 :: l
  else match l with
    | [] => []
    | v :: l1 => if c = 60 then yd v :: l1 else if c = 12 then (1 - v) :: l1 else match l1 with
      | [] => []
      | u :: l2 => jnF c u v :: l2
def evF (pt yd f : Int → Int) : Nat → List Int
  | 0 => []
  | n + 1 => evS pt yd (f n) (evF pt yd f n)
def vld (b : Bool) (v : Int) : Prop := (-1000000 ≤ v ∧ v ≤ 1000000) ∧ (b = true → v = 0 ∨ v = 1)
def tyOK : List Bool → List Int → Prop
  | [], [] => True
  | b :: s, v :: l => vld b v ∧ tyOK s l
  | _, _ => False
theorem tyOK.len : ∀ {s : List Bool} {l : List Int}, tyOK s l → l.length = s.length
  | [], [], _ => rfl
  | b :: s, v :: l, h => by rw [List.length_cons, List.length_cons, tyOK.len h.2]
/-- parts that one asks for -/
def alw (rl : Bool) (i : Int) : Prop := 0 ≤ i ∧ i ≤ 9 ∧ ((rl = true ∧ i ≤ 6) ∨ (rl = false ∧ (i ≤ 3 ∨ 7 ≤ i)))
theorem clp_bd (v : Int) : -1000000 ≤ clp v ∧ clp v ≤ 1000000 := by unfold clp; split <;> (try split) <;> omega
theorem fdiv_bd {a b : Int} (hb : b ≠ 0) (ha : -1000000 ≤ a ∧ a ≤ 1000000) : -1000000 ≤ a.fdiv b ∧ a.fdiv b ≤ 1000000 := by
  rcases (by omega : 0 < b ∨ b < 0) with p | p
  · rw [Int.fdiv_eq_ediv_of_nonneg _ (by omega)]
    constructor
    · exact (Int.le_ediv_iff_mul_le p).mpr (by
        have := Int.mul_le_mul_of_nonneg_left (a := 1) (b := b) (c := 1000000) (by omega) (by omega)
        omega)
    · have : a / b < 1000001 := Int.ediv_lt_of_lt_mul p (by
        have := Int.mul_le_mul_of_nonneg_left (a := 1) (b := b) (c := 1000001) (by omega) (by omega)
        omega)
      omega
  · have e2 : a.fdiv b = (-a).fdiv (-b) := by rw [Int.neg_fdiv_neg]
    rw [e2, Int.fdiv_eq_ediv_of_nonneg _ (by omega)]
    constructor
    · exact (Int.le_ediv_iff_mul_le (by omega)).mpr (by
        have := Int.mul_le_mul_of_nonneg_left (a := 1) (b := -b) (c := 1000000) (by omega) (by omega)
        omega)
    · have : (-a) / (-b) < 1000001 := Int.ediv_lt_of_lt_mul (by omega) (by
        have := Int.mul_le_mul_of_nonneg_left (a := 1) (b := -b) (c := 1000001) (by omega) (by omega)
        omega)
      omega
/-- a code's step, by kinds: what it does to a stack of values -/
theorem tyS_cases {rl : Bool} {c : Int} {st st' : List Bool} (h : tyS rl c st = some st') : st.length < 64 ∧
    ((1000 ≤ c ∧ c ≤ 10999 ∧ st' = false :: st) ∨ (alw rl (c - 40) ∧ st' = false :: st) ∨ (c = 13 ∧ st' = true :: st) ∨ (c = 60 ∧ rl = false ∧ ∃ s1, st = false :: s1 ∧ st' = false :: s1) ∨ (c = 12 ∧ ∃ s1, st = true :: s1 ∧ st' = true :: s1) ∨
     (1 ≤ c ∧ c ≤ 6 ∧ ∃ s2, st = false :: false :: s2 ∧ st' = false :: s2) ∨ (7 ≤ c ∧ c ≤ 9 ∧ ∃ s2, st = false :: false :: s2 ∧ st' = true :: s2) ∨ ((c = 10 ∨ c = 11) ∧ ∃ s2, st = true :: true :: s2 ∧ st' = true :: s2)) := by
  unfold tyS at h
  split at h
  · cases h
  rename_i h64
  refine ⟨by omega, ?_⟩
  split at h
  · split at h
    · cases h; exact Or.inl ⟨by assumption, by assumption, rfl⟩
    · cases h
  split at h
  · split at h
    · rename_i q1 q2 q3
      cases h
      refine Or.inr (Or.inl ⟨⟨by omega, by omega, ?_⟩, rfl⟩)
      rcases q3 with ⟨a, b⟩ | ⟨a, b⟩
      · exact Or.inl ⟨a, by omega⟩
      · exact Or.inr ⟨a, by omega⟩
    · cases h
  split at h
  · cases h; exact Or.inr (Or.inr (Or.inl ⟨by assumption, rfl⟩))
  split at h
  · split at h
    · rename_i q
      cases h; exact Or.inr (Or.inr (Or.inr (Or.inl ⟨q.1, q.2, _, rfl, rfl⟩)))
    · split at h
      · split at h
        · rename_i q
          cases h; exact Or.inr (Or.inr (Or.inr (Or.inr (Or.inr (Or.inl ⟨q.1, q.2, _, rfl, rfl⟩)))))
        · split at h
          · rename_i q
            cases h; exact Or.inr (Or.inr (Or.inr (Or.inr (Or.inr (Or.inr (Or.inl ⟨q.1, q.2, _, rfl, rfl⟩))))))
          · cases h
      · cases h
  · split at h
    · rename_i q
      cases h; exact Or.inr (Or.inr (Or.inr (Or.inr (Or.inl ⟨q, _, rfl, rfl⟩))))
    · split at h
      · split at h
        · rename_i q
          cases h; exact Or.inr (Or.inr (Or.inr (Or.inr (Or.inr (Or.inr (Or.inr ⟨q, _, rfl, rfl⟩))))))
        · cases h
      · cases h
  · cases h
variable {pt yd f : Int → Int} {rl : Bool}
theorem jn_num {c u v : Int} (h : 1 ≤ c ∧ c ≤ 6) (hu : -1000000 ≤ u ∧ u ≤ 1000000) (hv : -1000000 ≤ v ∧ v ≤ 1000000) : -1000000 ≤ jnF c u v ∧ jnF c u v ≤ 1000000 := by
  unfold jnF
  rcases (by omega : c = 1 ∨ c = 2 ∨ c = 3 ∨ c = 4 ∨ c = 5 ∨ c = 6) with rfl | rfl | rfl | rfl | rfl | rfl
  · exact clp_bd _
  · exact clp_bd _
  · exact clp_bd _
  · simp only [Int.reduceEq, ite_true, ite_false]
    split
    · omega
    · exact fdiv_bd (by assumption) hu
  · simp only [Int.reduceEq, ite_true, ite_false]
    split <;> omega
  · simp only [Int.reduceEq, ite_true, ite_false]
    split <;> omega
theorem jn_cmp {c u v : Int} (h : 7 ≤ c ∧ c ≤ 9) : jnF c u v = 0 ∨ jnF c u v = 1 := by
  unfold jnF
  rcases (by omega : c = 7 ∨ c = 8 ∨ c = 9) with rfl | rfl | rfl <;> simp only [Int.reduceEq, ite_true, ite_false] <;> split <;> omega
theorem jn_log {c u v : Int} (h : c = 10 ∨ c = 11) (hu : u = 0 ∨ u = 1) (hv : v = 0 ∨ v = 1) : jnF c u v = 0 ∨ jnF c u v = 1 := by
  unfold jnF
  rcases h with rfl | rfl <;> rcases hu with rfl | rfl <;> rcases hv with rfl | rfl <;> decide
theorem ev_ty (hp : ∀ i, alw rl i → -1000000 ≤ pt i ∧ pt i ≤ 1000000) (hy : ∀ v, -1000000 ≤ yd v ∧ yd v ≤ 1000000) {c : Int} {st st' : List Bool} {l : List Int} (h : tyS rl c st = some st') (hl : tyOK st l) : tyOK st' (evS pt yd c l) := by
  obtain ⟨-, q⟩ := tyS_cases h
  unfold evS
  rcases q with ⟨q1, q2, rfl⟩ | ⟨q1, rfl⟩ | ⟨rfl, rfl⟩ | ⟨rfl, -, s1, rfl, rfl⟩ | ⟨rfl, s1, rfl, rfl⟩ | ⟨q1, q2, s2, rfl, rfl⟩ | ⟨q1, q2, s2, rfl, rfl⟩ | ⟨q1, s2, rfl, rfl⟩
  · rw [if_pos q1]
    exact ⟨⟨by omega, fun z => by cases z⟩, hl⟩
  · rw [if_neg (by have := q1.2.1; omega), if_pos (by have := q1.1; have := q1.2.1; omega)]
    exact ⟨⟨hp _ q1, fun z => by cases z⟩, hl⟩
  · rw [if_neg (by decide), if_neg (by decide), if_pos rfl]
    exact ⟨⟨by omega, fun _ => Or.inr rfl⟩, hl⟩
  · match l, hl with
    | v :: l, hl =>
      rw [if_neg (by decide), if_neg (by decide), if_neg (by decide)]
      show tyOK _ (if (60 : Int) = 60 then yd v :: l else _)
      rw [if_pos rfl]
      exact ⟨⟨hy _, fun z => by cases z⟩, hl.2⟩
  · match l, hl with
    | v :: l, hl =>
      rw [if_neg (by decide), if_neg (by decide), if_neg (by decide)]
      show tyOK _ (if (12 : Int) = 60 then _ else if (12 : Int) = 12 then (1 - v) :: l else _)
      rw [if_neg (by decide), if_pos rfl]
      have := hl.1.2 rfl
      exact ⟨⟨by omega, fun _ => by omega⟩, hl.2⟩
  · match l, hl with
    | v :: u :: l, hl =>
      rw [if_neg (by omega), if_neg (by omega), if_neg (by omega)]
      show tyOK _ (if c = 60 then _ else if c = 12 then _ else jnF c u v :: l)
      rw [if_neg (by omega), if_neg (by omega)]
      exact ⟨⟨jn_num ⟨q1, q2⟩ hl.2.1.1 hl.1.1, fun z => by cases z⟩, hl.2.2⟩
  · match l, hl with
    | v :: u :: l, hl =>
      rw [if_neg (by omega), if_neg (by omega), if_neg (by omega)]
      show tyOK _ (if c = 60 then _ else if c = 12 then _ else jnF c u v :: l)
      rw [if_neg (by omega), if_neg (by omega)]
      have := jn_cmp (u := u) (v := v) ⟨q1, q2⟩
      exact ⟨⟨by omega, fun _ => this⟩, hl.2.2⟩
  · match l, hl with
    | v :: u :: l, hl =>
      rw [if_neg (by omega), if_neg (by omega), if_neg (by omega)]
      show tyOK _ (if c = 60 then _ else if c = 12 then _ else jnF c u v :: l)
      rw [if_neg (by omega), if_neg (by omega)]
      have := jn_log q1 (hl.2.1.2 rfl) (hl.1.2 rfl)
      exact ⟨⟨by omega, fun _ => this⟩, hl.2.2⟩
theorem evF_ty (hp : ∀ i, alw rl i → -1000000 ≤ pt i ∧ pt i ≤ 1000000) (hy : ∀ v, -1000000 ≤ yd v ∧ yd v ≤ 1000000) : ∀ (n : Nat) (st : List Bool), tyF rl f n = some st → tyOK st (evF pt yd f n) := by
  intro n
  induction n with
  | zero => intro st h; cases h; exact trivial
  | succ n ih =>
    intro st h
    unfold tyF at h
    match e : tyF rl f n with
    | none => rw [e] at h; cases h
    | some s => rw [e] at h; exact ev_ty hp hy h (ih s e)
/-- all beginnings of a good row are good -/
theorem tyF_pre : ∀ (n k : Nat), k ≤ n → (tyF rl f n).isSome → (tyF rl f k).isSome := by
  intro n
  induction n with
  | zero => intro k hk h; rw [show k = 0 by omega]; exact h
  | succ n ih =>
    intro k hk h
    by_cases e : k = n + 1
    · rw [e]; exact h
    · refine ih k (by omega) ?_
      unfold tyF at h
      match g : tyF rl f n with
      | none => rw [g] at h; cases h
      | some s => rfl
/-- values as they stand in a row -/
def stk (g : Int → Int) : List Int → Prop
  | [] => True
  | v :: l => g l.length = v ∧ stk g l
theorem stk.congr {g g' : Int → Int} : ∀ {l : List Int}, stk g l → (∀ i : Nat, i < l.length → g' i = g i) → stk g' l
  | [], _, _ => trivial
  | v :: l, h, e => ⟨(e l.length (by simp)).trans h.1, stk.congr h.2 (fun i hi => e i (by rw [List.length_cons]; omega))⟩
end EV
