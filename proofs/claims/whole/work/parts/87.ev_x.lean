/-! what a formula comes to: the class -/
section WX
variable {sc : List Int} {d : Nat} {m : Mem} {Q : Option AV → Mem → Prop} {r : Int} {ρ : Mem}
theorem lxor_sign {a b : Int} (ha : R64 a) (hb : R64 b) : 0 ≤ a_lxor a b ↔ (0 ≤ a ↔ 0 ≤ b) := by
  have e : ∀ x : Int64, decide (x.toInt < 0) = x.toBitVec.msb := fun x => (BitVec.msb_eq_toInt (x := x.toBitVec)).symm
  have h := e (Int64.ofInt a ^^^ Int64.ofInt b)
  rw [Int64.toBitVec_xor, BitVec.msb_xor, ← e, ← e, Int64.toInt_ofInt_of_le (by unfold R64 at ha; omega) (by unfold R64 at ha; omega), Int64.toInt_ofInt_of_le (by unfold R64 at hb; omega) (by unfold R64 at hb; omega)] at h
  unfold a_lxor
  generalize (Int64.ofInt a ^^^ Int64.ofInt b).toInt = y at h ⊢
  by_cases p : a < 0 <;> by_cases q : b < 0 <;> by_cases s : y < 0 <;> simp [p, q, s] at h <;> omega
theorem a_lxor_bd (x y : Int) : R64 (a_lxor x y) := ⟨Int64.le_toInt _, Int64.toInt_lt _⟩
theorem fdiv_t {a b : Int} (hb : b ≠ 0) : a.fdiv b = if b ∣ a ∨ (0 ≤ a ↔ 0 ≤ b) then a.tdiv b else a.tdiv b - 1 := by
  rw [Int.fdiv_eq_tdiv]
  by_cases c : b ∣ a
  · rw [if_pos c, if_pos (Or.inl c)]; omega
  · rw [if_neg c]
    by_cases p : 0 ≤ a <;> by_cases q : 0 ≤ b
    · rw [if_pos p, if_pos q, if_pos (Or.inr ⟨fun _ => q, fun _ => p⟩)]; omega
    · rw [if_pos p, if_neg q, if_neg (fun z => z.elim c (fun w => q (w.mp p)))]
    · rw [if_neg p, if_pos q, if_neg (fun z => z.elim c (fun w => p (w.mpr q))), Int.sign_eq_one_of_pos (by omega)]
    · rw [if_neg p, if_neg q, if_pos (Or.inr ⟨fun w => absurd w p, fun w => absurd w q⟩), Int.sign_eq_neg_one_of_neg (by omega)]; omega
theorem tdiv_bd {a b : Int} (hb : b ≠ 0) (ha : -1000000 ≤ a ∧ a ≤ 1000000) : -1000001 ≤ a.tdiv b ∧ a.tdiv b ≤ 1000001 := by
  have h := fdiv_bd hb ha
  rw [fdiv_t hb] at h
  split at h <;> omega
theorem tdm_bd {a b : Int} (ha : -1000000 ≤ a ∧ a ≤ 1000000) : -1000000 ≤ a.tdiv b * b ∧ a.tdiv b * b ≤ 1000000 := by
  have h : (a.tdiv b * b).natAbs ≤ a.natAbs := by
    rw [Int.natAbs_mul, Int.natAbs_tdiv]
    exact Nat.div_mul_le_self _ _
  omega
theorem s_floorDiv {a b : Int} (hb : b ≠ 0) (ha : -1000000 ≤ a ∧ a ≤ 1000000) (hb2 : -1000000 ≤ b ∧ b ≤ 1000000) : P_J9_floorDiv_f86c9 sc d [aJ a, aJ b] m (PV (aJ (a.fdiv b)) m) := by
  have ra : R64 a := by first | omega | (unfold R64; omega)
  have rb : R64 b := by first | omega | (unfold R64; omega)
  have sg := lxor_sign ra rb
  have bd := tdm_bd (b := b) ha
  refine ep_J9_floorDiv_f86c9 (g_J9_floorDiv_f86c9_0 ⟨ra, rb, hb, a_lxor_bd a b, fun c => ?_, fun c => ⟨by first | omega | (unfold R64; omega), fun c2 => ?_, fun c2 => ?_⟩⟩)
  · rw [fdiv_t hb, if_pos (Or.inr (sg.mp c))]; exact ⟨rfl, rfl⟩
  · rw [fdiv_t hb, if_pos (Or.inl ⟨a.tdiv b, by rw [Int.mul_comm]; exact c2.symm⟩)]; exact ⟨rfl, rfl⟩
  · rw [fdiv_t hb, if_neg (fun z => z.elim (fun w => c2 (Int.tdiv_mul_cancel w)) (fun w => c (sg.mpr w)))]; exact ⟨rfl, rfl⟩
theorem land01 {a b : Int} (ha : a = 0 ∨ a = 1) (hb : b = 0 ∨ b = 1) : a_land a b = jnF 10 a b ∧ a_lor a b = jnF 11 a b := by
  rcases ha with rfl | rfl <;> rcases hb with rfl | rfl <;> decide +kernel
theorem clp_id {v : Int} (h : -1000000 ≤ v ∧ v ≤ 1000000) : clp v = v := by unfold clp; rw [if_pos h.2, if_pos h.1]
/-- what the class joins, before it is cut -/
theorem s_joined {x c a b : Int} (hxc : x = -12 - c) (hd : 1 ≤ d) (ha : -1000000 ≤ a ∧ a ≤ 1000000) (hb : -1000000 ≤ b ∧ b ≤ 1000000) (hc : 1 ≤ c ∧ c ≤ 11) (hl : 10 ≤ c → (a = 0 ∨ a = 1) ∧ (b = 0 ∨ b = 1)) : P_X3_joined sc d [aI x, aJ a, aJ b] m (fun v z => z = m ∧ ∃ y, v = some (aJ y) ∧ R64 y ∧ clp y = jnF c a b) := by
  have ra : R64 a := by first | omega | (unfold R64; omega)
  have rb : R64 b := by first | omega | (unfold R64; omega)
  have pb : -1000000000000 ≤ a * b ∧ a * b ≤ 1000000000000 := by
    have h : (a * b).natAbs ≤ 1000000 * 1000000 := by rw [Int.natAbs_mul]; exact Nat.mul_le_mul (by omega) (by omega)
    omega
  have jb := fun h => clp_id (jn_num (c := c) (u := a) (v := b) h ha hb)
  have jc := fun h => jn_cmp (c := c) (u := a) (v := b) h
  have jl := fun h => jn_log (c := c) (u := a) (v := b) h
  have cl : ∀ y, y = jnF c a b → (R64 y ∧ clp y = jnF c a b) := fun y e => by
    rw [e]
    rcases (by omega : c ≤ 6 ∨ (7 ≤ c ∧ c ≤ 9) ∨ 10 ≤ c) with h | h | h
    · have := jn_num (c := c) (u := a) (v := b) ⟨hc.1, h⟩ ha hb
      exact ⟨by first | omega | (unfold R64; omega), jb ⟨hc.1, h⟩⟩
    · have := jc h
      exact ⟨by first | omega | (unfold R64; omega), clp_id (by omega)⟩
    · have := jl (by omega) (hl h).1 (hl h).2
      exact ⟨by first | omega | (unfold R64; omega), clp_id (by omega)⟩
  subst hxc
  refine ep_X3_joined (g_X3_joined_0 ⟨by first | omega | (unfold R32; omega), fun e => ?_, fun e => ?_, fun e => ⟨ra, rb, ?_⟩, fun e => ⟨ra, rb, ?_⟩, fun e => ⟨ra, rb, ?_⟩, fun e => ?_, fun e => ?_, fun e => ⟨rb, fun e2 => ?_, fun e2 => ?_⟩, fun e => ?_, fun e => ?_, fun e => ?_, fun e => by omega⟩)
  · obtain rfl : c = 11 := by omega
    have := (land01 (hl (by decide)).1 (hl (by decide)).2).2
    exact ⟨rfl, _, rfl, cl _ this⟩
  · obtain rfl : c = 10 := by omega
    have := (land01 (hl (by decide)).1 (hl (by decide)).2).1
    exact ⟨rfl, _, rfl, cl _ this⟩
  · obtain rfl : c = 9 := by omega
    exact ⟨rfl, _, rfl, cl _ rfl⟩
  · obtain rfl : c = 8 := by omega
    exact ⟨rfl, _, rfl, cl _ rfl⟩
  · obtain rfl : c = 7 := by omega
    exact ⟨rfl, _, rfl, cl _ rfl⟩
  · obtain rfl : c = 6 := by omega
    refine p_X3_joined_96 (d2 := d - 1) (ep_J9_max_f86c9 (g_J9_max_f86c9_0 ⟨ra, rb, rfl, rfl⟩ : S_J9_max_f86c9 sc (d - 1) 0 _ [] m (PV (aJ (if a < b then b else a)) m))) (by omega) ?_
    rintro _ z ⟨rfl, rfl⟩
    refine ⟨_, rfl, g_X3_joined_99 ⟨rfl, _, rfl, cl _ ?_⟩⟩
    show (if a < b then b else a) = (if a ≤ b then b else a)
    split <;> split <;> omega
  · obtain rfl : c = 5 := by omega
    refine p_X3_joined_90 (d2 := d - 1) (ep_J9_min_f86c9 (g_J9_min_f86c9_0 ⟨ra, rb, rfl, rfl⟩ : S_J9_min_f86c9 sc (d - 1) 0 _ [] m (PV (aJ (if b < a then b else a)) m))) (by omega) ?_
    rintro _ z ⟨rfl, rfl⟩
    refine ⟨_, rfl, g_X3_joined_93 ⟨rfl, _, rfl, cl _ ?_⟩⟩
    show (if b < a then b else a) = (if b ≤ a then b else a)
    split <;> split <;> omega
  · obtain rfl : c = 4 := by omega
    refine p_X3_joined_84 (d2 := d - 1) (s_floorDiv e2 ha hb) (by omega) ?_
    rintro _ z ⟨rfl, rfl⟩
    refine ⟨_, rfl, g_X3_joined_87 ⟨rfl, _, rfl, cl _ ?_⟩⟩
    show a.fdiv b = if b = 0 then 0 else a.fdiv b
    rw [if_neg e2]
  · obtain rfl : c = 4 := by omega
    refine g_X3_joined_87 ⟨rfl, _, rfl, cl _ ?_⟩
    show 0 = if b = 0 then 0 else a.fdiv b
    rw [if_pos (Classical.not_not.mp e2)]
  · obtain rfl : c = 3 := by omega
    exact ⟨rfl, _, rfl, by first | omega | (unfold R64; omega), rfl⟩
  · obtain rfl : c = 2 := by omega
    exact ⟨rfl, _, rfl, by first | omega | (unfold R64; omega), rfl⟩
  · obtain rfl : c = 1 := by omega
    exact ⟨rfl, _, rfl, by first | omega | (unfold R64; omega), rfl⟩
end WX
