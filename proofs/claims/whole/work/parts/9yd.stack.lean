/-! reading: sums with a stack, on -/
section SD
variable {T : Int → Int} {n : Nat} {rl : Bool} {σ τ ν : Stt} {x y z : Xs} {a b c : Bool}
theorem bk20 {t : Int} (h : 20 ≤ t ∧ t ≤ 24) : isBk t = true ∧ is14 t = false ∧ nBk t = false ∧ ¬ 60 ≤ t := by
  have b : isBk t = true := by unfold isBk; rw [decide_eq_true_iff]; exact h
  refine ⟨b, ?_, by unfold nBk; rw [b]; rfl, by omega⟩
  unfold is14; rw [decide_eq_false_iff_not]; omega
theorem ops_nb {ops : List Int} (h : ∀ t ∈ ops, is14 t = true) : (∀ t ∈ ops, isBk t = false) ∧ ∀ t ∈ ops, nBk t = true := by
  refine ⟨fun t ht => is14_nb (h t ht), fun t ht => ?_⟩
  unfold nBk; rw [is14_nb (h t ht)]; rfl
/-- a deep sum behind a bracket -/
theorem deepS {k : Nat} (hs : SumS T n rl k) {b : Int} (hb : 20 ≤ b ∧ b ≤ 24) {σ : Stt} {q w : List Int} {o : Nat} (ho : o + k = 6) (hσ : σ.1 ≤ n) : match rdSum T n rl k σ with
    | .error e => LdE T n rl true σ (q, b :: w, o) e
    | .ok x => opP T n x.1 = 0 ∧ opS T n x.1 = 0 ∧ ∃ q' ops, q' ++ ops = x.2 ∧ (∀ t ∈ ops, is14 t = true) ∧ Ld T n rl true σ (q, b :: w, o) false x.1 (q ++ q', ops ++ b :: w, o) := by
  obtain ⟨b1, b2, b3, b4⟩ := bk20 hb
  exact hs σ q (b :: w) o ho hσ (fun t v e g => by cases e; rw [b2] at g; cases g) (fun t v e g => by cases e; exact b4 g)
/-- behind it, its bracket closed -/
theorem closeS {b : Int} (hb : b = 20 ∨ b = 23 ∨ b = 24) {σ : Stt} {q q' ops w : List Int} {o : Nat} (hops : ∀ t ∈ ops, is14 t = true) (hk : kd T n σ = 41) : Ld T n rl false σ (q ++ q', ops ++ b :: w, o + 1) false (nx T n σ) (endP w o (if b = 20 then q ++ (q' ++ ops) else q ++ (q' ++ ops) ++ [if b = 23 then 5 else 6])) := by
  obtain ⟨o1, o2⟩ := ops_nb hops
  obtain ⟨b1, b2, b3, b4⟩ := bk20 (t := b) (by omega)
  refine Ld.one (fun f => ?_)
  rw [run, if_pos ⟨hk, by rw [brk_ops o1, brk, if_pos b1]; exact hb⟩, popW_all (fun t v e g => by cases e; rw [b3] at g; cases g) o2, clsB, Nat.add_sub_cancel, List.append_assoc]
theorem wrongS {b : Int} (hb : 20 ≤ b ∧ b ≤ 24) {σ : Stt} {q ops w : List Int} {o : Nat} (hops : ∀ t ∈ ops, is14 t = true) (h1 : opP T n σ = 0) (h2 : opS T n σ = 0) (hk : ((b = 21 ∨ b = 22) ∧ kd T n σ ≠ 44) ∨ (¬ (b = 21 ∨ b = 22) ∧ kd T n σ ≠ 41)) : LdE T n rl false σ (q, ops ++ b :: w, o) (1, σ.1) := by
  obtain ⟨o1, o2⟩ := ops_nb hops
  obtain ⟨b1, b2, b3, b4⟩ := bk20 hb
  have eb : brk (ops ++ b :: w) = b := by rw [brk_ops o1, brk, if_pos b1]
  refine LdE.one (fun f => ?_)
  rw [run, eb]
  rcases hk with ⟨g1, g2⟩ | ⟨g1, g2⟩
  · rw [if_neg (by omega), if_neg (fun g => g h1), if_neg (fun g => g h2), if_pos g1, if_neg g2]
  · rw [if_neg (fun g => g2 g.1), if_neg (fun g => g h1), if_neg (fun g => g h2), if_neg g1, if_neg (by omega)]
theorem nextS {b : Int} (hb : b = 21 ∨ b = 22) {σ : Stt} {q q' ops w : List Int} {o : Nat} (hops : ∀ t ∈ ops, is14 t = true) (h1 : opP T n σ = 0) (h2 : opS T n σ = 0) (hk : kd T n σ = 44) : Ld T n rl false σ (q ++ q', ops ++ b :: w, o) true (nx T n σ) (q ++ (q' ++ ops), (b + 2) :: w, o) := by
  obtain ⟨o1, o2⟩ := ops_nb hops
  obtain ⟨b1, b2, b3, b4⟩ := bk20 (t := b) (by omega)
  have eb : brk (ops ++ b :: w) = b := by rw [brk_ops o1, brk, if_pos b1]
  refine Ld.one (fun f => ?_)
  rw [run, eb, if_neg (by omega), if_neg (fun g => g h1), if_neg (fun g => g h2), if_pos hb, if_pos hk, popW_all (fun t v e g => by cases e; rw [b3] at g; cases g) o2, nxtB, List.append_assoc]
theorem numR_9 (h : kd T n σ = 257) (hb : ∀ i : Nat, i < n → 0 ≤ T i ∧ T i ≤ 255) : numR T n 0 1000000 σ = numR T n 0 9999 σ := by
  unfold numR
  rw [if_neg (show ¬ kd T n σ ≠ 257 from fun q => q h), if_neg (show ¬ kd T n σ ≠ 257 from fun q => q h)]
  by_cases c : 4 < ed T n σ - σ.1
  · rw [if_pos c, if_pos c]
  · rw [if_neg c, if_neg c]
    have := nv_bd (T := T) (s := σ.1) (kd_num h hb).2.2 (by omega)
    rw [if_neg (by omega), if_neg (by omega)]
theorem partS_step {k : Nat} (hb : ∀ i : Nat, i < n → 0 ≤ T i ∧ T i ≤ 255) (hp : ∀ k', k = k' + 1 → PartS T n rl k') (hs : ∀ k', k = k' + 1 → SumS T n rl k') : PartS T n rl k := by
  intro σ q w o ho hσ
  rw [part_eq]
  unfold lPart
  by_cases c1 : kd T n σ = 257
  · -- a number
    have w0 : wE T n σ = -1 := by unfold wE; rw [if_neg (by omega)]
    have p0 : pcode rl (wE T n σ) = 0 := by rw [w0]; rfl
    rw [if_pos c1, numR_9 c1 hb]
    cases e1 : numR T n 0 9999 σ with
    | error e =>
      exact LdE.one (fun f => by rw [run, if_neg (by omega), if_neg (by omega), if_neg (by omega), if_pos p0, e1])
    | ok v =>
      exact Ld.one (fun f => by rw [run, if_neg (by omega), if_neg (by omega), if_neg (by omega), if_pos p0, e1])
  rw [if_neg c1]
  by_cases c2 : kd T n σ = 40
  · rw [if_pos c2]
    cases k with
    | zero => exact LdE.one (fun f => by rw [run, if_pos c2, if_pos (by omega)])
    | succ k =>
      rw [if_neg (Nat.succ_ne_zero k)]
      have n1 := @nx_of T n σ (by rw [c2]; decide)
      have s1 : Ld T n rl true σ (q, w, o) true (nx T n σ) (q, 20 :: w, o + 1) := Ld.one (fun f => by rw [run, if_pos c2, if_neg (by omega)])
      have s2 := deepS (hs k rfl) (b := 20) (by decide) (σ := nx T n σ) (q := q) (w := w) (o := o + 1) (by omega) n1.2
      show match (rdSum T n rl k (nx T n σ)).bind fun x => exS T n 41 x with | .error e => _ | .ok x => _
      cases e1 : rdSum T n rl k (nx T n σ) with
      | error e => rw [e1] at s2; exact s1.err s2
      | ok x =>
        rw [e1] at s2
        obtain ⟨t1, t2, q', ops, t3, t4, t5⟩ := s2
        show match exS T n 41 x with | .error e => _ | .ok x => _
        unfold exS
        by_cases g : kd T n x.1 = 41
        · rw [if_pos g]
          have s3 := closeS (rl := rl) (b := 20) (Or.inl rfl) (q := q) (q' := q') (w := w) (o := o) t4 g
          rw [if_pos rfl, t3] at s3
          exact (s1.trans t5).trans s3
        · rw [if_neg g]
          exact (s1.trans t5).err (wrongS (by decide) t4 t1 t2 (Or.inr ⟨by decide, g⟩))
  rw [if_neg c2]
  by_cases c3 : wE T n σ = 28 ∨ wE T n σ = 29
  · rw [if_pos c3]
    by_cases c4 : kd T n (nx T n σ) ≠ 40
    · rw [if_pos c4]
      exact LdE.one (fun f => by rw [run, if_neg c2, if_pos c3, if_pos c4])
    rw [if_neg c4]
    cases k with
    | zero => exact LdE.one (fun f => by rw [run, if_neg c2, if_pos c3, if_neg c4, if_pos (by omega)])
    | succ k =>
      rw [if_neg (Nat.succ_ne_zero k)]
      have n1 := @nx_of T n σ (by rcases c3 with c | c <;> exact wE_n c (by decide))
      have n2 := @nx_of T n (nx T n σ) (fun g => by omega)
      obtain ⟨b, hb1, hb2⟩ : ∃ b : Int, (b = 21 ∨ b = 22) ∧ (if wE T n σ = 28 then 21 else 22 : Int) = b := by
        rcases c3 with c | c
        · exact ⟨21, Or.inl rfl, by rw [if_pos c]⟩
        · exact ⟨22, Or.inr rfl, by rw [if_neg (by omega)]⟩
      have cb : (if b + 2 = 23 then 5 else 6 : Int) = if wE T n σ = 28 then 5 else 6 := by
        rcases c3 with c | c
        · rw [if_pos c] at hb2 ⊢; rw [if_pos (by omega)]
        · rw [if_neg (by omega)] at hb2 ⊢; rw [if_neg (by omega)]
      have s1 : Ld T n rl true σ (q, w, o) true (nx T n (nx T n σ)) (q, b :: w, o + 1) := Ld.one (fun f => by rw [run, if_neg c2, if_pos c3, if_neg c4, if_neg (by omega), hb2])
      have s2 := deepS (hs k rfl) (b := b) (by omega) (σ := nx T n (nx T n σ)) (q := q) (w := w) (o := o + 1) (by omega) n2.2
      show match (rdSum T n rl k (nx T n (nx T n σ))).bind fun x => (exS T n 44 x).bind fun y => (rdSum T n rl k y.1).bind fun z => (exS T n 41 (z.1, y.2 ++ z.2)).bind fun u => .ok (u.1, u.2 ++ [if wE T n σ = 28 then 5 else 6]) with | .error e => _ | .ok x => _
      cases e1 : rdSum T n rl k (nx T n (nx T n σ)) with
      | error e => rw [e1] at s2; exact s1.err s2
      | ok x =>
        rw [e1] at s2
        obtain ⟨t1, t2, q', ops, t3, t4, t5⟩ := s2
        have cx := cnt_sum (T := T) (n := n) (rl := rl) k _ x n2.2 e1
        show match (exS T n 44 x).bind fun y => (rdSum T n rl k y.1).bind fun z => (exS T n 41 (z.1, y.2 ++ z.2)).bind fun u => .ok (u.1, u.2 ++ [if wE T n σ = 28 then 5 else 6]) with | .error e => _ | .ok x => _
        by_cases g : kd T n x.1 = 44
        · have ex1 : exS T n 44 x = .ok (nx T n x.1, x.2) := by unfold exS; rw [if_pos g]
          rw [ex1]
          have n3 := @nx_of T n x.1 (by rw [g]; decide)
          have s3 := nextS (rl := rl) hb1 (q := q) (q' := q') (w := w) (o := o + 1) t4 t1 t2 g
          rw [t3] at s3
          have s4 := deepS (hs k rfl) (b := b + 2) (by omega) (σ := nx T n x.1) (q := q ++ x.2) (w := w) (o := o + 1) (by omega) n3.2
          show match (rdSum T n rl k (nx T n x.1)).bind fun z => (exS T n 41 (z.1, x.2 ++ z.2)).bind fun u => .ok (u.1, u.2 ++ [if wE T n σ = 28 then 5 else 6]) with | .error e => _ | .ok x => _
          cases e2 : rdSum T n rl k (nx T n x.1) with
          | error e => rw [e2] at s4; exact ((s1.trans t5).trans s3).err s4
          | ok z =>
            rw [e2] at s4
            obtain ⟨v1, v2, q2, ops2, v3, v4, v5⟩ := s4
            show match (exS T n 41 (z.1, x.2 ++ z.2)).bind fun u => .ok (u.1, u.2 ++ [if wE T n σ = 28 then 5 else 6]) with | .error e => _ | .ok x => _
            by_cases g2 : kd T n z.1 = 41
            · have ex2 : exS T n 41 (z.1, x.2 ++ z.2) = .ok (nx T n z.1, x.2 ++ z.2) := by unfold exS; rw [if_pos g2]
              rw [ex2]
              have s5 := closeS (rl := rl) (b := b + 2) (by omega) (q := q ++ x.2) (q' := q2) (w := w) (o := o) v4 g2
              rw [if_neg (by omega), v3, cb, show q ++ x.2 ++ z.2 ++ [if wE T n σ = 28 then 5 else 6] = q ++ (x.2 ++ z.2 ++ [if wE T n σ = 28 then 5 else 6]) by simp only [List.append_assoc]] at s5
              exact (((s1.trans t5).trans s3).trans v5).trans s5
            · have ex2 : exS T n 41 (z.1, x.2 ++ z.2) = .error (1, z.1.1) := by unfold exS; rw [if_neg g2]
              rw [ex2]
              exact (((s1.trans t5).trans s3).trans v5).err (wrongS (by omega) v4 v1 v2 (Or.inr ⟨by omega, g2⟩))
        · have ex1 : exS T n 44 x = .error (1, x.1.1) := by unfold exS; rw [if_neg g]
          rw [ex1]
          exact (s1.trans t5).err (wrongS (by omega) t4 t1 t2 (Or.inl ⟨hb1, g⟩))
  rw [if_neg c3]
  by_cases c4 : rl = false ∧ wE T n σ = 23
  · rw [if_pos c4]
    cases k with
    | zero => exact LdE.one (fun f => by rw [run, if_neg c2, if_neg c3, if_pos c4, if_pos (by omega)])
    | succ k =>
      rw [if_neg (Nat.succ_ne_zero k)]
      have n1 := @nx_of T n σ (wE_n c4.2 (by decide))
      have s1 : Ld T n rl true σ (q, w, o) true (nx T n σ) (q, 60 :: w, o + 1) := Ld.one (fun f => by rw [run, if_neg c2, if_neg c3, if_pos c4, if_neg (by omega)])
      have s2 := hp k rfl (nx T n σ) q (60 :: w) (o + 1) (by omega) n1.2
      show match (rdPart T n rl k (nx T n σ)).bind fun x => .ok (x.1, x.2 ++ [60]) with | .error e => _ | .ok x => _
      cases e1 : rdPart T n rl k (nx T n σ) with
      | error e => rw [e1] at s2; exact s1.err s2
      | ok x =>
        rw [e1] at s2
        have s2 : Ld T n rl true (nx T n σ) (q, 60 :: w, o + 1) false x.1 (endP (60 :: w) (o + 1) (q ++ x.2)) := s2
        rw [endP, if_pos (by decide), Nat.add_sub_cancel, List.append_assoc] at s2
        exact s1.trans s2
  rw [if_neg c4]
  by_cases c5 : pcode rl (wE T n σ) = 0
  · rw [if_pos c5]
    have e1 : numR T n 0 9999 σ = .error (1, σ.1) := by unfold numR; rw [if_pos c1]
    exact LdE.one (fun f => by rw [run, if_neg c2, if_neg c3, if_neg c4, if_pos c5, e1])
  · rw [if_neg c5]
    exact Ld.one (fun f => by rw [run, if_neg c2, if_neg c3, if_neg c4, if_neg c5])
theorem partsS (hn : n ≤ 1600) (hb : ∀ i : Nat, i < n → 0 ≤ T i ∧ T i ≤ 255) : ∀ k : Nat, PartS T n rl k ∧ SumS T n rl k := by
  intro k
  induction k with
  | zero =>
    have p : PartS T n rl 0 := partS_step hb (fun k' e => by omega) (fun k' e => by omega)
    exact ⟨p, sumS hn (prodS hn p)⟩
  | succ k ih =>
    have p : PartS T n rl (k + 1) := partS_step hb (fun k' e => by cases e; exact ih.1) (fun k' e => by cases e; exact ih.2)
    exact ⟨p, sumS hn (prodS hn p)⟩
/-- a sum as a whole -/
theorem run_sum (hn : n ≤ 1600) (hb : ∀ i : Nat, i < n → 0 ≤ T i ∧ T i ≤ 255) {k : Nat} {q : List Int} {o : Nat} (ho : o + k = 6) (hσ : σ.1 ≤ n) : ∃ f, match rdSum T n rl k σ with
    | .error e => run T n rl f true σ (q, [], o) = some (.error e)
    | .ok x => ∃ q' ops, q' ++ ops = x.2 ∧ run T n rl f true σ (q, [], o) = some (.ok (x.1, (q ++ q', ops, o))) := by
  have s := (partsS (rl := rl) hn hb k).2 σ q [] o ho hσ (fun t v e => by cases e) (fun t v e => by cases e)
  cases e1 : rdSum T n rl k σ with
  | error e =>
    rw [e1] at s
    obtain ⟨N, h⟩ := s
    exact ⟨0 + N, h 0⟩
  | ok x =>
    rw [e1] at s
    obtain ⟨t1, t2, q', ops, t3, t4, N, h⟩ := s
    refine ⟨1 + N, q', ops, t3, ?_⟩
    rw [h 1, List.append_nil]
    obtain ⟨o1, o2⟩ := ops_nb t4
    have eb : brk ops = -1 := by have := brk_ops (w := []) o1; rw [List.append_nil] at this; exact this
    show (if kd T n x.1 = 41 ∧ (brk ops = 20 ∨ brk ops = 23 ∨ brk ops = 24) then _ else _) = _
    rw [eb, if_neg (by omega), if_neg (fun g => g t1), if_neg (fun g => g t2), if_neg (by omega), if_pos rfl]
end SD
