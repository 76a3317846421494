/-! reading: tokens of the class -/
section TX
variable {sc : List Int} {d : Nat} {m : Mem} {Q : Option AV → Mem → Prop} {T : Int → Int} {n : Nat}
def Tx (m : Mem) (T : Int → Int) (n : Nat) : Prop := n ≤ 1600 ∧ m 32 0 = 1 ∧ m 32 1 = n ∧ ∀ i : Nat, i < n → m 1 i = T i ∧ 0 ≤ T i ∧ T i ≤ 255
def TXL : List Int := WL.flatMap (fun w => w ++ [32])
theorem txl_len : TXB.length = TXL.length := by decide +kernel
theorem txl_n : TXL.length = 183 := by decide +kernel
theorem txl_at : ∀ i : Nat, i < 183 → a_i2c (a_and ((TXB.getD i 0).toInt) 255) = TXL.getD i 0 ∧ 0 ≤ TXL.getD i 0 ∧ TXL.getD i 0 < 256 := by decide +kernel
theorem shr0 : a_shr 183 0 = 183 := by decide +kernel
theorem s_len5 (hd : 1 ≤ d) : P_J0_length_8abf5 sc d [aR (-5)] m (PV (aI 183) m) := by
  refine ep_J0_length_8abf5 (g_J0_length_8abf5_0 ?_)
  refine p_J0_length_8abf5_6 (d2 := d - 1) (ep_J0_coder_7d493 (g_J0_coder_7d493_0 (Q := PV (aI 0) m) ⟨rfl, rfl⟩)) (by omega) ?_
  rintro _ z ⟨e, rfl⟩; cases e
  refine g_J0_length_8abf5_9 ⟨?_, rfl⟩
  rw [txl_len, txl_n, show ((183 : Nat) : Int) = 183 from rfl, shr0]
theorem s_chr {i : Nat} (hi : i < 183) (hd : 4 ≤ d) : P_J0_charAt_5068e sc d [aR (-5), aI i] m (PV (aI (TXL.getD i 0)) m) := by
  have at1 := txl_at i hi
  refine ep_J0_charAt_5068e (g_J0_charAt_5068e_0 ?_)
  refine p_J0_charAt_5068e_1 (d2 := d - 1) (ep_J0_isLatin1_aae02 (g_J0_isLatin1_aae02_0 (Q := PV (aI 1) m) ⟨rfl, rfl⟩)) (by omega) ?_
  rintro _ z ⟨e, rfl⟩; cases e
  refine g_J0_charAt_5068e_4 ⟨by omega, fun c => absurd c (by decide), fun _ => ?_⟩
  have c1 : P_J1_charAt_3b067 sc (d - 1) [aR (-6), aI i] z (PV (aI (TXL.getD i 0)) z) := by
    refine ep_J1_charAt_3b067 (g_J1_charAt_3b067_0 ?_)
    rw [txl_len, txl_n]
    have c2 : P_J0_checkIndex_df160 sc (d - 2) [aI i, aI ((183 : Nat) : Int)] z (fun v y => v = none ∧ y = z) := by
      refine ep_J0_checkIndex_df160 (g_J0_checkIndex_df160_0 ?_)
      refine p_J0_checkIndex_df160_5 (d2 := d - 3) (ep_J3_checkIndex_8e157 (g_J3_checkIndex_8e157_0 (Q := PV (aI i) z) ⟨by omega, fun c => absurd c (by omega), fun _ => ⟨by omega, fun _ => ⟨rfl, rfl⟩, fun c => absurd (by omega) c⟩⟩)) (by omega) ?_
      rintro _ y ⟨e, rfl⟩; cases e
      exact g_J0_checkIndex_df160_8 ⟨rfl, rfl⟩
    refine p_J1_charAt_3b067_3 (d2 := d - 2) c2 (by omega) ?_
    rintro y ⟨-, rfl⟩
    refine g_J1_charAt_3b067_6 ?_
    rw [txl_len, txl_n, show ((i : Nat) : Int).toNat = i by omega, at1.1]
    exact ⟨by omega, by omega, by omega, rfl, rfl⟩
  refine p_J0_charAt_5068e_12 (d2 := d - 1) c1 (by omega) ?_
  rintro _ y ⟨e, rfl⟩; cases e
  exact g_J0_charAt_5068e_15 ⟨by omega, rfl, rfl⟩
/-- the walk along the words -/
def wbF (T : Int → Int) (n s e : Nat) : List Int → Int → Nat → Bool → Int
  | [], _, _, _ => -1
  | c :: l, k, b, q => if c = 32 then (if q = true ∧ b = e then k else wbF T n s e l (k + 1) s true) else wbF T n s e l k (b + 1) (q && decide (b < e) && decide (T b = c))
theorem wbF_word {s e : Nat} {l : List Int} {k : Int} : ∀ {w : List Int} {b : Nat} {q : Bool}, (∀ c ∈ w, c ≠ 32) → wbF T n s e (w ++ 32 :: l) k b q = if (q && wIs T b e w) = true then k else wbF T n s e l (k + 1) s true := by
  intro w
  induction w with
  | nil =>
    intro b q _
    rw [List.nil_append, wbF, if_pos rfl, wIs]
    simp only [Bool.and_eq_true, decide_eq_true_iff]
  | cons c w ih =>
    intro b q h
    rw [List.cons_append, wbF, if_neg (h c (List.mem_cons_self ..)), ih (fun x hx => h x (List.mem_cons_of_mem _ hx)), wIs]
    have : (q && decide (b < e) && decide (T b = c) && wIs T (b + 1) e w) = (q && (decide (b < e ∧ T b = c) && wIs T (b + 1) e w)) := by
      rw [Bool.decide_and, Bool.and_assoc, Bool.and_assoc, Bool.and_assoc]
    rw [this]
theorem wbF_all {s e : Nat} : ∀ {ws : List (List Int)} {k : Int}, (∀ w ∈ ws, ∀ c ∈ w, c ≠ 32) → wbF T n s e (ws.flatMap (fun w => w ++ [32])) k s true = wIx T s e ws k := by
  intro ws
  induction ws with
  | nil => intro k _; rfl
  | cons w ws ih =>
    intro k h
    rw [List.flatMap_cons, List.append_assoc, List.singleton_append, wbF_word (h w (List.mem_cons_self ..)), ih (fun x hx => h x (List.mem_cons_of_mem _ hx)), wIx, Bool.true_and]
theorem wl_32 : ∀ w ∈ WL, ∀ c ∈ w, c ≠ 32 := by decide +kernel
theorem s_wordBetween {s e : Nat} (h : Tx m T n) (he : e ≤ n) (hd : 5 ≤ d) (hs : s ≤ n) : P_X5_wordBetween sc d [aR 32, aI s, aI e] m (PV (aI (wIx T s e WL 0)) m) := by
  obtain ⟨h0, h1, h2, h3⟩ := h
  refine ep_X5_wordBetween (g_X5_wordBetween_0 ?_)
  have key : ∀ (f k : Nat) (w : Int) (b : Nat) (q : Bool) (x : Int), k + f = 183 → 0 ≤ w → w ≤ k → b ≤ s + k → (x = if q = true then 1 else 0) → wbF T n s e (TXL.drop k) w b q = wIx T s e WL 0 → S_X5_wordBetween sc d 11 [aR 32, aI s, aI e, aI w, aI b, aI x, aI k, aU] [] m (PV (aI (wIx T s e WL 0)) m) := by
    intro f
    induction f with
    | zero =>
      intro k w b q x hk hw hwk hb hx hv
      refine g_X5_wordBetween_11 (p_X5_wordBetween_15 (d2 := d - 1) (s_len5 (by omega)) (by omega) ?_)
      rintro _ z ⟨e1, rfl⟩; cases e1
      refine g_X5_wordBetween_18 ⟨by omega, by omega, fun _ => ⟨?_, rfl⟩, fun c => absurd (by omega) c⟩
      rw [List.drop_eq_nil_of_le (by rw [txl_n]; omega), wbF] at hv
      rw [hv]
    | succ f ih =>
      intro k w b q x hk hw hwk hb hx hv
      refine g_X5_wordBetween_11 (p_X5_wordBetween_15 (d2 := d - 1) (s_len5 (by omega)) (by omega) ?_)
      rintro _ z ⟨e1, rfl⟩; cases e1
      refine g_X5_wordBetween_18 ⟨by omega, by omega, fun c => absurd c (by omega), fun _ => ?_⟩
      refine p_X5_wordBetween_25 (d2 := d - 1) (s_chr (i := k) (by omega) (by omega)) (by omega) ?_
      rintro _ z ⟨e1, rfl⟩; cases e1
      have at1 := txl_at k (by omega)
      rw [List.drop_eq_getElem_cons (by rw [txl_n]; omega), ← getD_ge 0 (by rw [txl_n]; omega), wbF] at hv
      generalize TXL.getD k 0 = c at hv at1 ⊢
      have ek : ((k : Nat) : Int) + 1 = ((k + 1 : Nat) : Int) := by omega
      have eb : ((b : Nat) : Int) + 1 = ((b + 1 : Nat) : Int) := by omega
      have x01 : x = 0 ∨ x = 1 := by rw [hx]; split <;> omega
      refine g_X5_wordBetween_28 ⟨by omega, fun c32 => ⟨by omega, fun x0 => ?_, fun x0 => ⟨by omega, by omega, fun be => ?_, fun be => ⟨?_, rfl⟩⟩⟩, fun c32 => ⟨by omega, fun _ => by omega, fun _ => by omega, fun _ _ => by omega, fun _ _ _ => by rw [h1]; exact ic_1, fun _ _ _ => by omega, fun _ _ g => by rw [h1, al_1]; rw [h2] at g; omega, fun _ g g2 => ?_, ?_⟩⟩
      · have q0 : q = false := by cases q with | false => rfl | true => rw [if_pos rfl] at hx; omega
        rw [if_pos c32, if_neg (fun g => by rw [q0] at g; exact absurd g.1 (by decide))] at hv
        rw [ek]
        exact ih (k + 1) (w + 1) s true 1 (by omega) (by omega) (by omega) (by omega) (by rw [if_pos rfl]) hv
      · rw [if_pos c32, if_neg (fun g => be (by rw [g.2]))] at hv
        rw [ek]
        exact ih (k + 1) (w + 1) s true 1 (by omega) (by omega) (by omega) (by omega) (by rw [if_pos rfl]) hv
      · have q1 : q = true := by cases q with | true => rfl | false => rw [if_neg (by decide)] at hx; omega
        rw [if_pos c32, if_pos ⟨q1, by omega⟩] at hv
        rw [hv]
      · rw [h2] at g2
        have := h3 b (by omega)
        rw [h1, this.1]; omega
      · rw [if_neg c32] at hv
        rw [ek, eb]
        refine ih (k + 1) w (b + 1) _ _ (by omega) (by omega) (by omega) (by omega) ?_ hv
        rw [h1, h2]
        cases q with
        | false => rw [if_neg (by decide)] at hx; rw [if_pos hx]; rfl
        | true =>
          rw [if_pos rfl] at hx
          rw [if_neg (by omega)]
          by_cases b1 : b < e
          · have t := h3 b (by omega)
            rw [if_neg (by omega), if_neg (by omega), t.1]
            by_cases c1 : T b = c
            · rw [if_neg (fun g => g c1), Bool.true_and, decide_eq_true b1, decide_eq_true c1]; rfl
            · rw [if_pos c1, Bool.true_and, decide_eq_true b1, decide_eq_false c1]; rfl
          · rw [if_pos (by omega), Bool.true_and, decide_eq_false b1]; rfl
  exact key 183 0 0 s true 1 (by omega) (by omega) (by omega) (by omega) (by rw [if_pos rfl]) (by rw [List.drop_zero]; exact wbF_all wl_32)
end TX
