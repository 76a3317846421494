/-! what days cost on the mean -/
section CH
def HuF : Nat → Int
  | 0 => 1
  | j + 1 => 100 * HuF j
def odR (ρ : Mem) (u : Int) : Int := oddsF ρ u (ρ 0 0).toNat
def smC (ρ : Mem) (j : Nat) : Nat := (ρ 0 1).toNat - (j + 1)
def bmP (ρ : Mem) (j : Nat) (f : Int) : Int := (ρ 7 1 + ρ 7 0) * HuF j + f
def frP (ρ : Mem) (j : Nat) (p : Int × (Int → Int)) : Int := p.2 (ρ 3 (smC ρ j)) + (100 - odR ρ (ρ 3 (smC ρ j))) * bmP ρ j p.1
def cgP (ρ : Mem) (j : Nat) (f : Int) : Int := ρ 7 0 * HuF j + f
def ntP (ρ : Mem) (j : Nat) (p : Int × (Int → Int)) (u : Int) : Int := 100 * (p.2 (u + ρ 3 (smC ρ j)) + (odR ρ u - odR ρ (u + ρ 3 (smC ρ j))) * bmP ρ j p.1)
def loP (ρ : Mem) (j : Nat) (p : Int × (Int → Int)) (u : Int) : Int := odR ρ u * ρ 7 2 * HuF (j + 1) + 100 * p.2 (u + ρ 3 (smC ρ j)) + (odR ρ u - odR ρ (u + ρ 3 (smC ρ j))) * cgP ρ (j + 1) (frP ρ j p)
/-- what a sewer chooses -/
def ckC (ρ : Mem) (w : Int) (s : Nat) (u nt cg lo : Int) : Int := if w = 2 then lo else if w = 3 then (if cg < nt then cg else nt) else if w = -2 then (if (if cg < nt then cg else nt) < lo then (if cg < nt then cg else nt) else lo) else if chgF ρ w s u = 0 then nt else cg
def ChP (ρ : Mem) (w : Int) : Nat → Int × (Int → Int)
  | 0 => (0, fun _ => 0)
  | j + 1 => (frP ρ j (ChP ρ w j), fun u => ckC ρ w (smC ρ j) u (ntP ρ j (ChP ρ w j) u) (odR ρ u * cgP ρ (j + 1) (frP ρ j (ChP ρ w j))) (loP ρ j (ChP ρ w j) u))
def frC (ρ : Mem) (w : Int) (j : Nat) : Int := (ChP ρ w j).1
def wtC (ρ : Mem) (w : Int) (j : Nat) (u : Int) : Int := (ChP ρ w j).2 u
variable {ρ : Mem}
theorem odR_mono (hb : RmB ρ) {u v : Int} (h : u ≤ v) : odR ρ v ≤ odR ρ u := by
  unfold odR oddsF
  have aux : ∀ n : Nat, (n : Int) ≤ ρ 0 0 → sumF (fun i => if ρ 1 i < v then 0 else ρ 2 i) n ≤ sumF (fun i => if ρ 1 i < u then 0 else ρ 2 i) n := by
    intro n
    induction n with
    | zero => intro _; exact Int.le_refl _
    | succ n ih =>
      intro hn
      have h1 := ih (by omega)
      have h2 := (hb.2.2.1 n (by omega)).2
      rw [sumF, sumF]
      split <;> split <;> omega
  have b0 := hb.1
  exact aux _ (by omega)
theorem odR_bd (hb : RmB ρ) (h3 : ρ 0 3 ≠ 0) (u : Int) : 0 ≤ odR ρ u ∧ odR ρ u ≤ 100 := by
  have b0 := hb.1
  have s := (hb.2.1.2 h3).2
  have aux : ∀ n : Nat, (n : Int) ≤ ρ 0 0 → 0 ≤ sumF (fun i => if ρ 1 i < u then 0 else ρ 2 i) n ∧ sumF (fun i => if ρ 1 i < u then 0 else ρ 2 i) n ≤ sumF (ρ 2) n := by
    intro n
    induction n with
    | zero => intro _; exact ⟨Int.le_refl _, Int.le_refl _⟩
    | succ n ih =>
      intro hn
      have h1 := ih (by omega)
      have h2 := (hb.2.2.1 n (by omega)).2
      rw [sumF, sumF]
      split <;> omega
  have := aux (ρ 0 0).toNat (by omega)
  unfold odR oddsF
  omega
theorem odR_0 (hb : RmB ρ) (h3 : ρ 0 3 ≠ 0) {u : Int} (hu : u ≤ 1) : odR ρ u = 100 := by
  rw [← (hb.2.1.2 h3).2]
  unfold odR oddsF
  have b0 := hb.1
  refine sumF_congr (fun i hi => if_neg ?_)
  have := (hb.2.2.1 i (by omega)).1
  omega
theorem odR_99 (hb : RmB ρ) {u : Int} (hu : 99 < u) : odR ρ u = 0 := by
  have b0 := hb.1
  have aux : ∀ n : Nat, (n : Int) ≤ ρ 0 0 → sumF (fun i => if ρ 1 i < u then 0 else ρ 2 i) n = 0 := by
    intro n
    induction n with
    | zero => intro _; rfl
    | succ n ih =>
      intro hn
      have h2 := (hb.2.2.1 n (by omega)).1
      rw [sumF, ih (by omega), if_pos (by omega)]
      rfl
  exact aux _ (by omega)
theorem HuF_v : HuF 0 = 1 ∧ HuF 1 = 100 ∧ HuF 2 = 10000 ∧ HuF 3 = 1000000 ∧ HuF 4 = 100000000 ∧ HuF 5 = 10000000000 ∧ HuF 6 = 1000000000000 := by decide
theorem HuF_up {j : Nat} (hj : j ≤ 5) : HuF (6 - j) = 100 * HuF (6 - (j + 1)) := by
  rcases (by omega : j = 0 ∨ j = 1 ∨ j = 2 ∨ j = 3 ∨ j = 4 ∨ j = 5) with rfl | rfl | rfl | rfl | rfl | rfl <;> rfl
theorem HuF_all {j : Nat} (hj : j ≤ 6) : HuF j * HuF (6 - j) = 1000000000000 := by
  rcases (by omega : j = 0 ∨ j = 1 ∨ j = 2 ∨ j = 3 ∨ j = 4 ∨ j = 5 ∨ j = 6) with rfl | rfl | rfl | rfl | rfl | rfl | rfl <;> decide
theorem HuF_pos (j : Nat) : 1 ≤ HuF j := by
  induction j with
  | zero => decide
  | succ j ih => rw [HuF]; omega
theorem chS {H K m0 m1 m2 f ot ou ov g gv : Int} (j : Nat) (hj : j ≤ 5) (hH : H = HuF j) (hK : K = 400 * j * H) (h0 : 0 ≤ m0 ∧ m0 ≤ 99) (h1 : 0 ≤ m1 ∧ m1 ≤ 99) (h2 : 0 ≤ m2 ∧ m2 ≤ 99) (hf : 0 ≤ f ∧ f ≤ K) (ht : 0 ≤ ot ∧ ot ≤ 100) (hu : 0 ≤ ov ∧ ov ≤ ou ∧ ou ≤ 100) (hg : 0 ≤ g ∧ g ≤ ot * K) (hv : 0 ≤ gv ∧ gv ≤ ov * K) :
    (0 ≤ g + (100 - ot) * ((m1 + m0) * H + f) ∧ g + (100 - ot) * ((m1 + m0) * H + f) ≤ 400 * (j + 1) * (100 * H)) ∧
    (0 ≤ 100 * (gv + (ou - ov) * ((m1 + m0) * H + f)) ∧ 100 * (gv + (ou - ov) * ((m1 + m0) * H + f)) ≤ ou * (400 * (j + 1) * (100 * H))) ∧
    (0 ≤ ou * (m0 * (100 * H) + (g + (100 - ot) * ((m1 + m0) * H + f))) ∧ ou * (m0 * (100 * H) + (g + (100 - ot) * ((m1 + m0) * H + f))) ≤ ou * (400 * (j + 1) * (100 * H))) ∧
    (0 ≤ ou * m2 * (100 * H) + 100 * gv + (ou - ov) * (m0 * (100 * H) + (g + (100 - ot) * ((m1 + m0) * H + f))) ∧ ou * m2 * (100 * H) + 100 * gv + (ou - ov) * (m0 * (100 * H) + (g + (100 - ot) * ((m1 + m0) * H + f))) ≤ ou * (400 * (j + 1) * (100 * H))) := by
  have o2 : 0 ≤ ou * m2 ∧ ou * m2 ≤ ou * 99 := ⟨Int.mul_nonneg (by omega) (by omega), Int.mul_le_mul_of_nonneg_left (by omega) (by omega)⟩
  generalize ou * m2 = om at o2 ⊢
  have aux : ∀ B C : Int, B = (m1 + m0) * H + f → C = m0 * (100 * H) + (g + (100 - ot) * B) → ∀ Bm Cm : Int, (0 ≤ B ∧ B ≤ Bm) → (0 ≤ (100 - ot) * B ∧ (100 - ot) * B ≤ (100 - ot) * Bm → 0 ≤ C ∧ C ≤ Cm) → (0 ≤ (100 - ot) * B ∧ (100 - ot) * B ≤ (100 - ot) * Bm) ∧ (0 ≤ (ou - ov) * B ∧ (ou - ov) * B ≤ (ou - ov) * Bm) ∧ (0 ≤ C ∧ C ≤ Cm) ∧ (0 ≤ ou * C ∧ ou * C ≤ ou * Cm) ∧ (0 ≤ (ou - ov) * C ∧ (ou - ov) * C ≤ (ou - ov) * Cm) := by
    intro B C _ _ Bm Cm hB hC
    have p1 : 0 ≤ (100 - ot) * B ∧ (100 - ot) * B ≤ (100 - ot) * Bm := ⟨Int.mul_nonneg (by omega) (by omega), Int.mul_le_mul_of_nonneg_left hB.2 (by omega)⟩
    have c := hC p1
    exact ⟨p1, ⟨Int.mul_nonneg (by omega) (by omega), Int.mul_le_mul_of_nonneg_left hB.2 (by omega)⟩, c, ⟨Int.mul_nonneg (by omega) (by omega), Int.mul_le_mul_of_nonneg_left c.2 (by omega)⟩, ⟨Int.mul_nonneg (by omega) (by omega), Int.mul_le_mul_of_nonneg_left c.2 (by omega)⟩⟩
  have big := aux _ _ rfl rfl (198 * H + K) (297 * (100 * H) + 100 * K)
  generalize hB : (m1 + m0) * H + f = B at big ⊢
  generalize hC : m0 * (100 * H) + (g + (100 - ot) * B) = C at big ⊢
  generalize (100 - ot) * B = X1 at hC big ⊢
  generalize (ou - ov) * B = X2 at big ⊢
  generalize ou * C = X3 at big ⊢
  generalize (ou - ov) * C = X4 at big ⊢
  obtain ⟨v0, v1, v2, v3, v4, v5, v6⟩ := HuF_v
  rcases (by omega : j = 0 ∨ j = 1 ∨ j = 2 ∨ j = 3 ∨ j = 4 ∨ j = 5) with rfl | rfl | rfl | rfl | rfl | rfl
  · rw [v0] at hH; subst hH; simp only [Int.natCast_zero, Int.mul_zero, Int.zero_mul] at hK; subst hK
    obtain ⟨b1, b2, b3, b4, b5⟩ := big ⟨by omega, by omega⟩ (fun q => ⟨by omega, by omega⟩)
    refine ⟨⟨?_, ?_⟩, ⟨?_, ?_⟩, ⟨?_, ?_⟩, ?_, ?_⟩ <;> omega
  · rw [v1] at hH; subst hH; simp only [Int.natCast_one, Int.mul_one, Int.reduceMul] at hK; subst hK
    obtain ⟨b1, b2, b3, b4, b5⟩ := big ⟨by omega, by omega⟩ (fun q => ⟨by omega, by omega⟩)
    refine ⟨⟨?_, ?_⟩, ⟨?_, ?_⟩, ⟨?_, ?_⟩, ?_, ?_⟩ <;> omega
  · rw [v2] at hH; subst hH; have hK2 : K = 400 * 2 * 10000 := hK; subst hK2
    obtain ⟨b1, b2, b3, b4, b5⟩ := big ⟨by omega, by omega⟩ (fun q => ⟨by omega, by omega⟩)
    refine ⟨⟨?_, ?_⟩, ⟨?_, ?_⟩, ⟨?_, ?_⟩, ?_, ?_⟩ <;> omega
  · rw [v3] at hH; subst hH; have hK2 : K = 400 * 3 * 1000000 := hK; subst hK2
    obtain ⟨b1, b2, b3, b4, b5⟩ := big ⟨by omega, by omega⟩ (fun q => ⟨by omega, by omega⟩)
    refine ⟨⟨?_, ?_⟩, ⟨?_, ?_⟩, ⟨?_, ?_⟩, ?_, ?_⟩ <;> omega
  · rw [v4] at hH; subst hH; have hK2 : K = 400 * 4 * 100000000 := hK; subst hK2
    obtain ⟨b1, b2, b3, b4, b5⟩ := big ⟨by omega, by omega⟩ (fun q => ⟨by omega, by omega⟩)
    refine ⟨⟨?_, ?_⟩, ⟨?_, ?_⟩, ⟨?_, ?_⟩, ?_, ?_⟩ <;> omega
  · rw [v5] at hH; subst hH; have hK2 : K = 400 * 5 * 10000000000 := hK; subst hK2
    obtain ⟨b1, b2, b3, b4, b5⟩ := big ⟨by omega, by omega⟩ (fun q => ⟨by omega, by omega⟩)
    refine ⟨⟨?_, ?_⟩, ⟨?_, ?_⟩, ⟨?_, ?_⟩, ?_, ?_⟩ <;> omega
theorem ck_bd {w : Int} {s : Nat} {u nt cg lo A : Int} (h1 : 0 ≤ nt ∧ nt ≤ A) (h2 : 0 ≤ cg ∧ cg ≤ A) (h3 : 0 ≤ lo ∧ lo ≤ A) : 0 ≤ ckC ρ w s u nt cg lo ∧ ckC ρ w s u nt cg lo ≤ A := by
  unfold ckC
  split
  · exact h3
  split
  · split <;> omega
  split
  · by_cases c : cg < nt
    · rw [if_pos c]; split <;> omega
    · rw [if_neg c]; split <;> omega
  split <;> omega
theorem ch_min (hb : RmB ρ) : (0 ≤ ρ 7 0 ∧ ρ 7 0 ≤ 99) ∧ (0 ≤ ρ 7 1 ∧ ρ 7 1 ≤ 99) ∧ (0 ≤ ρ 7 2 ∧ ρ 7 2 ≤ 99) := ⟨hb.2.2.2.2.1 0 (by omega), hb.2.2.2.2.1 1 (by omega), hb.2.2.2.2.1 2 (by omega)⟩
/-- all bounds at once -/
theorem ch_bd (hb : RmB ρ) (h3 : ρ 0 3 ≠ 0) (w : Int) : ∀ j : Nat, j ≤ 6 → (j : Int) ≤ ρ 0 1 → (0 ≤ frC ρ w j ∧ frC ρ w j ≤ 400 * j * HuF j) ∧ ∀ u : Int, 0 ≤ u → 0 ≤ wtC ρ w j u ∧ wtC ρ w j u ≤ odR ρ u * (400 * j * HuF j) := by
  obtain ⟨m0, m1, m2⟩ := ch_min hb
  intro j
  induction j with
  | zero =>
    intro _ _
    refine ⟨⟨Int.le_refl _, by show (0 : Int) ≤ _; simp⟩, fun u _ => ⟨Int.le_refl _, by show (0 : Int) ≤ _; simp⟩⟩
  | succ j ih =>
    intro hj hs
    obtain ⟨i1, i2⟩ := ih (by omega) (by omega)
    have ts := (hb.2.2.2.1 (smC ρ j) (by unfold smC; omega)).1
    have st : ∀ u : Int, 0 ≤ u → _ := fun u hu => chS (m0 := ρ 7 0) (m1 := ρ 7 1) (m2 := ρ 7 2) (f := frC ρ w j) (ot := odR ρ (ρ 3 (smC ρ j))) (ou := odR ρ u) (ov := odR ρ (u + ρ 3 (smC ρ j))) (g := wtC ρ w j (ρ 3 (smC ρ j))) (gv := wtC ρ w j (u + ρ 3 (smC ρ j))) j (by omega) rfl rfl m0 m1 m2 i1 (odR_bd hb h3 _) ⟨(odR_bd hb h3 _).1, odR_mono hb (by omega), (odR_bd hb h3 _).2⟩ (i2 _ (by omega)) (i2 _ (by omega))
    refine ⟨(st 0 (by decide)).1, fun u hu => ?_⟩
    obtain ⟨-, s2, s3, s4⟩ := st u hu
    exact ck_bd s2 s3 s4
theorem wt_99 (hb : RmB ρ) (h3 : ρ 0 3 ≠ 0) (w : Int) {j : Nat} (hj : j ≤ 6) (hs : (j : Int) ≤ ρ 0 1) {u : Int} (hu : 99 < u) : wtC ρ w j u = 0 := by
  have h := (ch_bd hb h3 w j hj hs).2 u (by omega)
  rw [odR_99 hb hu, Int.zero_mul] at h
  omega
end CH
