/-! pair: image -/
section PI_
variable {sc : List Int} {Ca : Mem → Mem → Prop} {d : Nat} {m : Mem}
def chF (f : Int → Int) : Nat → Int
  | 0 => 199
  | n + 1 => (3 * chF f n + f n).tmod 251
theorem chF_bd {f : Int → Int} {n : Nat} (h : ∀ k : Nat, k < n → 0 ≤ f k ∧ f k ≤ 255) : 0 ≤ chF f n ∧ chF f n ≤ 250 := by
  induction n with
  | zero => simp [chF]
  | succ n ih =>
    have h1 := ih (fun k hk => h k (by omega))
    have h2 := h n (by omega)
    rw [chF, Int.tmod_eq_emod_of_nonneg (by omega)]
    omega
theorem chF_congr {f g : Int → Int} {n : Nat} (h : ∀ k : Nat, k < n → f k = g k) : chF f n = chF g n := by
  induction n with
  | zero => rfl
  | succ n ih => rw [chF, chF, ih (fun k hk => h k (by omega)), h n (by omega)]
theorem s_checkOf {a : Int} (H : IsC a 100) (hl : 7 ≤ alen a ∧ alen a < 5000) (h : ∀ k : Nat, k < 7 → 0 ≤ m a k ∧ m a k ≤ 255) : P_X7_checkOf sc d [aR a] m (PV (aI (chF (m a) 7)) m) := by
  have l : ∀ (j i : Nat), i + j = 7 → S_X7_checkOf sc d 6 [aR a, aI (chF (m a) i), aI i] [] m (PV (aI (chF (m a) 7)) m) := by
    intro j
    induction j with
    | zero =>
      intro i hi
      obtain rfl : i = 7 := by omega
      exact g_X7_checkOf_6 H ⟨by omega, fun _ => ⟨rfl, rfl⟩, fun c => absurd (by omega) c⟩
    | succ j ih =>
      intro i hi
      have b := chF_bd (f := m a) (n := i) (fun k hk => h k (by omega))
      have c := h i (by omega)
      exact g_X7_checkOf_6 H ⟨by omega, fun q => absurd q (by omega), fun _ => ⟨by omega, fun q => absurd q (by omega), fun _ => ⟨by omega, by omega, by omega, ih (i + 1) (by omega)⟩⟩⟩
  exact ep_X7_checkOf (g_X7_checkOf_0 H (l 7 0 (by omega)))
theorem s_checked {a : Int} (H : IsC a 100) (hl : 7 ≤ alen a ∧ alen a < 5000) (h : ∀ k : Nat, k < 7 → 0 ≤ m a k ∧ m a k ≤ 255) : P_X8_checked sc d [aR a, aI 7] m (PV (aI (chF (m a) 7)) m) := by
  have l : ∀ (j i : Nat), i + j = 7 → S_X8_checked sc d 6 [aR a, aI 7, aI (chF (m a) i), aI i] [] m (PV (aI (chF (m a) 7)) m) := by
    intro j
    induction j with
    | zero =>
      intro i hi
      obtain rfl : i = 7 := by omega
      exact g_X8_checked_6 H ⟨by omega, by omega, fun _ => ⟨rfl, rfl⟩, fun c => absurd (by omega) c⟩
    | succ j ih =>
      intro i hi
      have b := chF_bd (f := m a) (n := i) (fun k hk => h k (by omega))
      have c := h i (by omega)
      exact g_X8_checked_6 H ⟨by omega, by omega, fun q => absurd q (by omega), fun _ => ⟨by omega, by omega, by omega, ih (i + 1) (by omega)⟩⟩
  exact ep_X8_checked (g_X8_checked_0 H (l 7 0 (by omega)))
/-- an image's bytes ahead of the last -/
def imF (f : Int → Int) (k : Int) : Int := if k = 5 then (f 5).tdiv 256 else if k = 6 then (f 5).tmod 256 else f k
theorem imF_bd {ρ : Mem} {f : Int → Int} (hb : RmB ρ) (h : DayB ρ f) (k : Nat) (hk : k < 7) : 0 ≤ imF f k ∧ imF f k ≤ 255 := by
  obtain ⟨y0, y1, y3, y4, y5⟩ := h
  have b0 := hb.1
  have e1 : (f 5).tdiv 256 = f 5 / 256 := Int.tdiv_eq_ediv_of_nonneg y5.1
  have e2 : (f 5).tmod 256 = f 5 % 256 := Int.tmod_eq_emod_of_nonneg y5.1
  rcases (by omega : k = 0 ∨ k = 1 ∨ k = 2 ∨ k = 3 ∨ k = 4 ∨ k = 5 ∨ k = 6) with rfl | rfl | rfl | rfl | rfl | rfl | rfl
  · show 0 ≤ f 0 ∧ f 0 ≤ 255; omega
  · show 0 ≤ f 1 ∧ f 1 ≤ 255; omega
  · show 0 ≤ f 2 ∧ f 2 ≤ 255; omega
  · show 0 ≤ f 3 ∧ f 3 ≤ 255; omega
  · show 0 ≤ f 4 ∧ f 4 ≤ 255; omega
  · show 0 ≤ (f 5).tdiv 256 ∧ (f 5).tdiv 256 ≤ 255; omega
  · show 0 ≤ (f 5).tmod 256 ∧ (f 5).tmod 256 ≤ 255; omega
theorem pair_image (hCa : CaFr Ca) (n : Nat) (m : Mem) (hn : n < 512) (hi : Inv Ca n m) : PairI (Inv Ca) n m (P_X7_image sc 1799 [aR 0]) (P_X8_image sc 1799 [aR 62]) := by
  obtain ⟨ρ, nr, w, hi, hc⟩ := hi
  have hb := hi.2.1
  have hD := hi.dayl
  have hB := hD.2
  obtain ⟨y0, y1, y3, y4, y5⟩ := hD.2
  have a60 : IsC 60 100 := ic_60
  have a151 : IsC 151 100 := ic_151
  have l60 : alen 60 = 8 := al_60
  have l151 : alen 151 = 8 := al_151
  refine ep_X7_image (g_X7_image_0 ?_)
  simp only [wr_na, ne_eq, Int.reduceEq, not_false_eq_true]
  refine ⟨by omega, by omega, ?_⟩
  have zx : Ex (fun a j => a = 60) m (wr (wr (wr (wr (wr (wr (wr m 60 0 (m 57 0)) 60 1 (m 57 1)) 60 2 (m 57 2)) 60 3 (m 57 3)) 60 4 (m 57 4)) 60 5 ((m 57 5).tdiv 256)) 60 6 ((m 57 5).tmod 256)) := (((((((Ex.refl (fun a j => a = 60) m).put (show (60 : Int) = 60 from rfl)).put (show (60 : Int) = 60 from rfl)).put (show (60 : Int) = 60 from rfl)).put (show (60 : Int) = 60 from rfl)).put (show (60 : Int) = 60 from rfl)).put (show (60 : Int) = 60 from rfl)).put (show (60 : Int) = 60 from rfl)
  have zk : ∀ k : Nat, k < 7 → (wr (wr (wr (wr (wr (wr (wr m 60 0 (m 57 0)) 60 1 (m 57 1)) 60 2 (m 57 2)) 60 3 (m 57 3)) 60 4 (m 57 4)) 60 5 ((m 57 5).tdiv 256)) 60 6 ((m 57 5).tmod 256)) 60 k = imF (m 57) k := by
    intro k hk
    rcases (by omega : k = 0 ∨ k = 1 ∨ k = 2 ∨ k = 3 ∨ k = 4 ∨ k = 5 ∨ k = 6) with rfl | rfl | rfl | rfl | rfl | rfl | rfl <;> rfl
  generalize wr (wr (wr (wr (wr (wr (wr m 60 0 (m 57 0)) 60 1 (m 57 1)) 60 2 (m 57 2)) 60 3 (m 57 3)) 60 4 (m 57 4)) 60 5 ((m 57 5).tdiv 256)) 60 6 ((m 57 5).tmod 256) = z at zx zk ⊢
  refine p_X7_image_110 (d2 := 1798) a60 a60 (s_checkOf a60 (by omega) (fun k hk => by rw [zk k hk]; exact imF_bd hb hB k hk)) (by decide) ?_
  rintro _ z ⟨e, rfl⟩; cases e
  have ec : chF (z 60) 7 = chF (imF (m 57)) 7 := chF_congr zk
  have cb := chF_bd (f := imF (m 57)) (n := 7) (fun k hk => imF_bd hb hB k hk)
  rw [ec]
  have e8 : wr (wr z 60 7 (chF (imF (m 57)) 7)) 0 12 8 0 12 = 8 := wr_eq _ _ _ _
  refine g_X7_image_113 a60 ⟨by omega, by omega, ?_⟩
  rw [e8]
  refine ⟨_, rfl, by unfold R32; omega, ?_⟩
  have zx2 : Ex (fun a j => a = 60 ∨ (a = 0 ∧ j = 12)) m (wr (wr z 60 7 (chF (imF (m 57)) 7)) 0 12 8) := ((zx.mono (fun a j q => Or.inl q)).put (Or.inl rfl)).put (Or.inr ⟨rfl, rfl⟩)
  have zk2 : ∀ k : Nat, k < 8 → wr (wr z 60 7 (chF (imF (m 57)) 7)) 0 12 8 60 k = if k < 7 then imF (m 57) k else chF (imF (m 57)) 7 := fun k hk => by
    rw [wr_na _ _ _ _ _ _ (by decide)]
    by_cases q : k < 7
    · rw [if_pos q, wr_ne _ _ _ _ _ _ (by omega)]; exact zk k q
    · obtain rfl : k = 7 := by omega
      rw [if_neg q]; exact wr_eq _ _ _ _
  generalize wr (wr z 60 7 (chF (imF (m 57)) 7)) 0 12 8 = y at zx2 zk2 e8 ⊢
  have y124 : ∀ k : Nat, k < 6 → y 124 k = m 57 k := fun k hk => (zx2 124 k (by omega)).trans (hD.1 k hk)
  have l : ∀ (j i : Nat) (t : Mem), i + j = 5 → Ex (fun a j => a = 151) y t → (∀ k : Nat, k < i → t 151 k = m 57 k) → S_X8_image sc 1799 2 [aR 62, aI i] [] t (fun v2 z2 => v2 = some (aI 8) ∧ Inv Ca (n + 1) z2) := by
    intro j
    induction j with
    | zero =>
      intro i t hi5 he e5
      obtain rfl : i = 5 := by omega
      have t5 : t 124 5 = m 57 5 := (he 124 5 (by omega)).trans (y124 5 (by omega))
      refine g_X8_image_2 ⟨by omega, fun _ => ?_, fun c => absurd (by omega) c⟩
      rw [wr_na t 151 5 _ 124 5 (by decide), t5]
      refine ⟨by omega, by omega, ?_⟩
      have tx : Ex (fun a j => a = 151) y (wr (wr t 151 5 ((m 57 5).tdiv 256)) 151 6 ((m 57 5).tmod 256)) := (he.put rfl).put rfl
      have tk : ∀ k : Nat, k < 7 → wr (wr t 151 5 ((m 57 5).tdiv 256)) 151 6 ((m 57 5).tmod 256) 151 k = imF (m 57) k := fun k hk => by
        by_cases q6 : k = 6
        · subst q6; rfl
        · by_cases q5 : k = 5
          · subst q5; rfl
          · rw [wr_ne _ _ _ _ _ _ (by omega), wr_ne _ _ _ _ _ _ (by omega), e5 k (by omega)]
            unfold imF
            rw [if_neg (by omega), if_neg (by omega)]
      generalize wr (wr t 151 5 ((m 57 5).tdiv 256)) 151 6 ((m 57 5).tmod 256) = u at tx tk ⊢
      refine p_X8_image_70 (d2 := 1798) a151 a151 (s_checked a151 (by omega) (fun k hk => by rw [tk k hk]; exact imF_bd hb hB k hk)) (by decide) ?_
      rintro _ u ⟨e, rfl⟩; cases e
      have ec2 : chF (u 151) 7 = chF (imF (m 57)) 7 := chF_congr tk
      rw [ec2]
      have f8 : wr (wr u 151 7 (chF (imF (m 57)) 7)) 62 122 8 62 122 = 8 := wr_eq _ _ _ _
      refine g_X8_image_73 a151 ⟨by omega, by omega, ?_⟩
      rw [f8]
      refine ⟨rfl, ?_⟩
      have fx : Ex (fun a j => a = 60 ∨ (a = 0 ∧ j = 12) ∨ a = 151 ∨ (a = 62 ∧ j = 122)) m (wr (wr u 151 7 (chF (imF (m 57)) 7)) 62 122 8) := by
        refine Ex.put (Ex.put ?_ (Or.inr (Or.inr (Or.inl rfl)))) (Or.inr (Or.inr (Or.inr ⟨rfl, rfl⟩)))
        exact (zx2.mono (fun a j q => by omega)).trans (tx.mono (fun a j q => by omega))
      have fk : ∀ k : Nat, k < 8 → wr (wr u 151 7 (chF (imF (m 57)) 7)) 62 122 8 151 k = if k < 7 then imF (m 57) k else chF (imF (m 57)) 7 := fun k hk => by
        rw [wr_na _ _ _ _ _ _ (by decide)]
        by_cases q : k < 7
        · rw [if_pos q, wr_ne _ _ _ _ _ _ (by omega)]; exact tk k q
        · obtain rfl : k = 7 := by omega
          rw [if_neg q]; exact wr_eq _ _ _ _
      have f60 : ∀ k : Nat, wr (wr u 151 7 (chF (imF (m 57)) 7)) 62 122 8 60 k = y 60 k := fun k => by
        rw [wr_na _ _ _ _ _ _ (by decide), wr_na _ _ _ _ _ _ (by decide)]; exact tx 60 k (by omega)
      have f12 : wr (wr u 151 7 (chF (imF (m 57)) 7)) 62 122 8 0 12 = 8 := by
        rw [wr_na _ _ _ _ _ _ (by decide), wr_na _ _ _ _ _ _ (by decide), tx 0 12 (by omega)]; exact e8
      generalize wr (wr u 151 7 (chF (imF (m 57)) 7)) 62 122 8 = x1 at f8 fx fk f60 f12 ⊢
      refine ⟨ρ, nr, w, hi.mod fx (fun a j q => by unfold RelR; omega) (hi.tape.ex fx (fun a j q => by omega)) (hi.refs.up.ex fx (fun a j q => by omega)) (hi.flt.ex fx (fun a j q => by omega)) (hi.dayl.ex fx (fun a j q => by omega)) (hi.past.ex fx (fun a j q => by omega)) (hi.seedl.ex fx (fun a j q => by omega)) ⟨by rw [f8, f12], by omega, fun k hk => ?_⟩ (rws_ex hi.rws fx (fun a j q => by omega)), hCa m _ ρ (fun a j q => fx a j (by unfold CaC at q; omega)) hc⟩
      rw [fk k hk, f60 k, zk2 k hk]
      refine ⟨rfl, ?_⟩
      unfold R32
      split
      · rename_i q
        have := imF_bd hb hB k q
        omega
      · omega
    | succ j ih =>
      intro i t hi5 he e5
      have t5 : t 124 i = m 57 i := (he 124 i (by omega)).trans (y124 i (by omega))
      refine g_X8_image_2 ⟨by omega, fun c => absurd c (by omega), fun _ => ⟨by omega, by omega, by omega, ?_⟩⟩
      refine ih (i + 1) _ (by omega) (he.put rfl) (fun k hk => ?_)
      by_cases e : k = i
      · subst e; rw [wr_eq]; exact t5
      · rw [wr_ne _ _ _ _ _ _ (by omega)]; exact e5 k (by omega)
  exact ep_X8_image (g_X8_image_0 (l 5 0 y (by omega) (Ex.refl _ _) (fun k hk => by omega)))
end PI_
