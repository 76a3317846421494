/-! rooms as texts: the reference's room while it is told; a new name, lengths -/
section RI
variable {sc : List Int} {d : Nat} {m ρ : Mem} {Q : Option AV → Mem → Prop} {T : Int → Int} {n : Nat} {σ : Stt}
/-- what telling a room may change -/
def C_mt (a j : Int) : Prop := C_qt a j ∨ (a = 62 ∧ (j = 41 ∨ j = 51 ∨ j = 54)) ∨ (a = 95 ∧ j < 3) ∨ (a = 96 ∧ j < 20) ∨ (a = 97 ∧ j < 6) ∨ (a = 98 ∧ j < 6) ∨ (a = 99 ∧ j < 70) ∨ (a = 100 ∧ j < 6) ∨ (a = 101 ∧ j < 4) ∨ (a = 102 ∧ j < 4) ∨ (a = 103 ∧ j < 1600)
theorem mt62 {a j : Int} (h : a = 62 ∧ (j = 41 ∨ j = 51 ∨ j = 54)) : C_mt a j := Or.inr (Or.inl h)
theorem mt95 {a j : Int} (h : a = 95 ∧ j < 3) : C_mt a j := Or.inr (Or.inr (Or.inl (h)))
theorem mt96 {a j : Int} (h : a = 96 ∧ j < 20) : C_mt a j := Or.inr (Or.inr (Or.inr (Or.inl (h))))
theorem mt97 {a j : Int} (h : a = 97 ∧ j < 6) : C_mt a j := Or.inr (Or.inr (Or.inr (Or.inr (Or.inl (h)))))
theorem mt98 {a j : Int} (h : a = 98 ∧ j < 6) : C_mt a j := Or.inr (Or.inr (Or.inr (Or.inr (Or.inr (Or.inl (h))))))
theorem mt99 {a j : Int} (h : a = 99 ∧ j < 70) : C_mt a j := Or.inr (Or.inr (Or.inr (Or.inr (Or.inr (Or.inr (Or.inl (h)))))))
theorem mt100 {a j : Int} (h : a = 100 ∧ j < 6) : C_mt a j := Or.inr (Or.inr (Or.inr (Or.inr (Or.inr (Or.inr (Or.inr (Or.inl (h))))))))
theorem mt101 {a j : Int} (h : a = 101 ∧ j < 4) : C_mt a j := Or.inr (Or.inr (Or.inr (Or.inr (Or.inr (Or.inr (Or.inr (Or.inr (Or.inl (h)))))))))
theorem mt102 {a j : Int} (h : a = 102 ∧ j < 4) : C_mt a j := Or.inr (Or.inr (Or.inr (Or.inr (Or.inr (Or.inr (Or.inr (Or.inr (Or.inr (Or.inl (h))))))))))
theorem mt103 {a j : Int} (h : a = 103 ∧ j < 1600) : C_mt a j := Or.inr (Or.inr (Or.inr (Or.inr (Or.inr (Or.inr (Or.inr (Or.inr (Or.inr (Or.inr (h))))))))))
theorem mt_lk {a j : Int} (h : C_lk a j) : C_mt a j := Or.inl (Or.inl (Or.inl h))
theorem mt_qt {a j : Int} (h : C_qt a j) : C_mt a j := Or.inl h
theorem mt_n8 {a j : Int} (h : C_n8 a j) : C_mt a j := by
  rcases h with h | h
  · exact mt_lk h
  · exact Or.inr (Or.inl ⟨h.1, Or.inl h.2⟩)
/-- cells of the reference's room itself -/
def C_mr (a j : Int) : Prop := (95 ≤ a ∧ a ≤ 103) ∨ (a = 62 ∧ (j = 51 ∨ j = 52))
theorem Tm.mr {z : Mem} {C : Int → Int → Prop} (h : Tm m T n) (e : Ex C m z) (hc : ∀ a j, C a j → C_mr a j) : Tm z T n := h.ex e (fun a j q c => by have := hc a j c; unfold C_mr at this; unfold IsW at q; omega)
theorem MSt.mr {z : Mem} {C : Int → Int → Prop} (h : MSt T n m σ) (e : Ex C m z) (hc : ∀ a j, C a j → C_mr a j) : MSt T n z σ := h.ex e (fun a j q c => by have := hc a j c; unfold C_mr at this; unfold C_lk at q; omega)
theorem MEr.ex {z : Mem} {C : Int → Int → Prop} {e : Int × Int} (h : MEr m e) (ex : Ex C m z) (hc : ∀ a j, C a j → ¬ (a = 62 ∧ (j = 5 ∨ j = 6))) : MEr z e := ⟨(ex 62 5 (fun c => hc _ _ c (by omega))).trans h.1, (ex 62 6 (fun c => hc _ _ c (by omega))).trans h.2.1, h.2.2⟩
def MRt (m ρ : Mem) (q : List Int) : Prop :=
  (m 95 0 = ρ 0 0 ∧ m 95 1 = ρ 0 1 ∧ m 95 2 = ρ 0 2) ∧ (∀ i : Nat, (i : Int) < ρ 0 0 → m 97 i = ρ 1 i ∧ m 98 i = ρ 2 i) ∧
  (∀ s : Nat, (s : Int) < ρ 0 1 → m 99 (7 * s) = ρ 3 s ∧ m 99 (7 * s + 1) = ρ 4 s ∧ m 99 (7 * s + 2) = ρ 6 s ∧ ∀ k : Nat, (k : Int) < ρ 6 s → m 99 (7 * s + 3 + k) = ρ 5 (s * 4 + k)) ∧
  (∀ i : Nat, i < 6 → m 100 i = ρ 7 i) ∧
  ((∀ k : Nat, (k : Int) < ρ 0 2 → m 101 k = ρ 10 k ∧ m 102 k = ρ 10 (k + 1)) ∧ m 62 51 = (q.length : Nat) ∧ ∀ j : Nat, j < q.length → m 103 j = q.getD j 0) ∧
  (∀ s : Nat, (s : Int) < ρ 0 1 → NmOK (fun j => ρ 8 (s * 6 + j)) (m 96 s)) ∧ ∀ k : Nat, (k : Int) < ρ 0 2 → NmOK (fun j => ρ 8 ((10 + k) * 6 + j)) (m 96 (10 + k))
theorem MRt.ex {z : Mem} {C : Int → Int → Prop} {q : List Int} (h : MRt m ρ q) (e : Ex C m z) (hc : ∀ a j, C a j → ¬ ((95 ≤ a ∧ a ≤ 103) ∨ (a = 62 ∧ j = 51))) : MRt z ρ q := by
  obtain ⟨⟨a1, a2, a3⟩, b, c, dd, ⟨f1, f2, f3⟩, g1, g2⟩ := h
  have ee : ∀ a j, (95 ≤ a ∧ a ≤ 103) → z a j = m a j := fun a j q => e a j (fun c => hc _ _ c (Or.inl q))
  refine ⟨⟨by rw [ee _ _ (by omega)]; exact a1, by rw [ee _ _ (by omega)]; exact a2, by rw [ee _ _ (by omega)]; exact a3⟩, fun i hi => by rw [ee _ _ (by omega), ee _ _ (by omega)]; exact b i hi, fun s hs => ?_, fun i hi => by rw [ee _ _ (by omega)]; exact dd i hi, ⟨fun k hk => by rw [ee _ _ (by omega), ee _ _ (by omega)]; exact f1 k hk, by rw [e 62 51 (fun c => hc _ _ c (Or.inr ⟨rfl, rfl⟩))]; exact f2, fun j hj => by rw [ee _ _ (by omega)]; exact f3 j hj⟩, fun s hs => by rw [ee _ _ (by omega)]; exact g1 s hs, fun k hk => by rw [ee _ _ (by omega)]; exact g2 k hk⟩
  rw [ee _ _ (by omega), ee _ _ (by omega), ee _ _ (by omega)]
  exact ⟨(c s hs).1, (c s hs).2.1, (c s hs).2.2.1, fun k hk => by rw [ee _ _ (by omega)]; exact (c s hs).2.2.2 k hk⟩
theorem MRt.lk {z : Mem} {q : List Int} (h : MRt m ρ q) (e : Ex C_lk m z) : MRt z ρ q := h.ex e (fun a j c => by unfold C_lk at c; omega)
theorem MRt.n8 {z : Mem} {q : List Int} (h : MRt m ρ q) (e : Ex C_n8 m z) : MRt z ρ q := h.ex e (fun a j c => by unfold C_n8 C_lk at c; omega)
theorem Tm.n8 {z : Mem} (h : Tm m T n) (e : Ex C_n8 m z) : Tm z T n := h.ex e (fun a j q c => by unfold C_n8 C_lk at c; unfold IsW at q; omega)
/-- the reference at an end of a piece -/
def MQr (T : Int → Int) (n : Nat) (z : Mem) : Es Rx → Prop
  | .ok a => Tm z T n ∧ MSt T n z a.1.1 ∧ MRt z a.2 a.1.2
  | .error e => MEr z e
def PM (T : Int → Int) (n : Nat) (m : Mem) (q : Es Rx) : Option AV → Mem → Prop := fun v z => v = none ∧ Ex C_mt m z ∧ MQr T n z q
theorem s_newName {q : List Int} (ht : Tm m T n) (h : MSt T n m σ) (hr : MRt m ρ q) (hb : RmC ρ) (hd : 6 ≤ d) : P_X8_newName sc d [aR 62] m (fun v z => ∃ w, v = some (aJ w) ∧ Ex C_n8 m z ∧ match nmeR T n ρ (σ, q) with | .ok x => NmOK (ltr T n σ) w ∧ MSt T n z x.1 | .error e => MEr z e) := by
  have n1 := ht.1
  have b := hb.1
  refine ep_X8_newName (g_X8_newName_0 (p_X8_newName_1 (d2 := d - 1) (s_X8_name ht h (by omega)) (by omega) ?_))
  rintro _ z ⟨w, rfl, ze, hz⟩
  refine ⟨w, rfl, g_X8_newName_4 ?_⟩
  have c1 : ∀ y, Ex C_n8 m y → y 95 1 = ρ 0 1 ∧ y 95 2 = ρ 0 2 := fun y ye => ⟨(hr.n8 ye).1.2.1, (hr.n8 ye).1.2.2⟩
  -- behind a fault
  have E7 : ∀ (e : Int × Int) (y : Mem), nmeR T n ρ (σ, q) = .error e → Ex C_n8 m y → MEr y e → ∀ k : Int, k = 3 → S_X8_newName sc d 7 [aR 62, aJ w, aU, aI k, aU] [] y (fun v z => ∃ w, v = some (aJ w) ∧ Ex C_n8 m z ∧ match nmeR T n ρ (σ, q) with | .ok x => NmOK (ltr T n σ) w ∧ MSt T n z x.1 | .error e => MEr z e) := by
    rintro e y hn ye hy _ rfl
    exact g_X8_newName_7 ⟨by omega, fun _ => ⟨_, rfl, ye, by rw [hn]; exact hy⟩, fun q => by omega⟩
  have E15b : ∀ (e : Int × Int) (y : Mem), nmeR T n ρ (σ, q) = .error e → Ex C_n8 m y → MEr y e → ∀ (f : Nat) (i : Int), 0 ≤ i → i + f = 4 → S_X8_newName sc d 15 [aR 62, aJ w, aU, aI 2, aI i] [] y (fun v z => ∃ w, v = some (aJ w) ∧ Ex C_n8 m z ∧ match nmeR T n ρ (σ, q) with | .ok x => NmOK (ltr T n σ) w ∧ MSt T n z x.1 | .error e => MEr z e) := by
    intro e y hn ye hy f
    have cc := (c1 y ye).2
    induction f with
    | zero => intro i h0 hi; exact g_X8_newName_15 ⟨by omega, by omega, by omega, by omega, fun _ => E7 e y hn ye hy _ (by decide), fun g => by omega⟩
    | succ f ih => intro i h0 hi; exact g_X8_newName_15 ⟨by omega, by omega, by omega, by omega, fun _ => E7 e y hn ye hy _ (by decide), fun g => ⟨hy.ne.2, fun _ => g_X8_newName_61 (ih (i + 1) (by omega) (by omega)), fun g2 => absurd hy.ne.1 g2⟩⟩
  have E7b : ∀ (e : Int × Int) (y : Mem), nmeR T n ρ (σ, q) = .error e → Ex C_n8 m y → MEr y e → ∀ k : Int, k = 2 → S_X8_newName sc d 7 [aR 62, aJ w, aU, aI k, aU] [] y (fun v z => ∃ w, v = some (aJ w) ∧ Ex C_n8 m z ∧ match nmeR T n ρ (σ, q) with | .ok x => NmOK (ltr T n σ) w ∧ MSt T n z x.1 | .error e => MEr z e) := by
    rintro e y hn ye hy _ rfl
    exact g_X8_newName_7 ⟨by omega, fun q => by omega, fun _ => E15b e y hn ye hy 4 0 (by decide) (by decide)⟩
  have E15a : ∀ (e : Int × Int) (y : Mem), nmeR T n ρ (σ, q) = .error e → Ex C_n8 m y → MEr y e → ∀ (f : Nat) (i : Int), 0 ≤ i → i + f = 10 → S_X8_newName sc d 15 [aR 62, aJ w, aU, aI 1, aI i] [] y (fun v z => ∃ w, v = some (aJ w) ∧ Ex C_n8 m z ∧ match nmeR T n ρ (σ, q) with | .ok x => NmOK (ltr T n σ) w ∧ MSt T n z x.1 | .error e => MEr z e) := by
    intro e y hn ye hy f
    have cc := (c1 y ye).1
    induction f with
    | zero => intro i h0 hi; exact g_X8_newName_15 ⟨by omega, by omega, by omega, by omega, fun _ => E7b e y hn ye hy _ (by decide), fun g => by omega⟩
    | succ f ih => intro i h0 hi; exact g_X8_newName_15 ⟨by omega, by omega, by omega, by omega, fun _ => E7b e y hn ye hy _ (by decide), fun g => ⟨hy.ne.2, fun _ => g_X8_newName_61 (ih (i + 1) (by omega) (by omega)), fun g2 => absurd hy.ne.1 g2⟩⟩
  have start : ∀ y, S_X8_newName sc d 15 [aR 62, aJ w, aU, aI 1, aI 0] [] y (fun v z => ∃ w, v = some (aJ w) ∧ Ex C_n8 m z ∧ match nmeR T n ρ (σ, q) with | .ok x => NmOK (ltr T n σ) w ∧ MSt T n z x.1 | .error e => MEr z e) → S_X8_newName sc d 7 [aR 62, aJ w, aU, aI 1, aU] [] y (fun v z => ∃ w, v = some (aJ w) ∧ Ex C_n8 m z ∧ match nmeR T n ρ (σ, q) with | .ok x => NmOK (ltr T n σ) w ∧ MSt T n z x.1 | .error e => MEr z e) := fun y k => g_X8_newName_7 ⟨by omega, fun q => by omega, fun _ => k⟩
  by_cases k1 : kd T n σ ≠ 256 ∨ (0 ≤ wi T n σ ∧ wi T n σ < 30)
  · rw [if_pos k1] at hz
    exact start z (E15a _ z (by unfold nmeR; rw [if_pos k1]) ze hz 10 0 (by decide) (by decide))
  rw [if_neg k1] at hz
  by_cases k2 : (σ.1 : Int) + 6 < (ed T n σ : Nat)
  · rw [if_pos k2] at hz
    exact start z (E15a _ z (by unfold nmeR; rw [if_neg k1, if_pos k2]) ze hz 10 0 (by decide) (by decide))
  rw [if_neg k2] at hz
  obtain ⟨hw, z41, hz⟩ := hz
  have k6 : kd T n σ = 256 := Classical.not_not.mp (fun q => k1 (Or.inl q))
  have nm := ltr_nm k6 ht.by (by omega)
  rw [← hw] at nm
  have z5 : z 62 5 = 0 ∧ z 62 6 = -1 := hz.2.1
  have rz := hr.n8 ze
  have sn := h.1
  have wb : R64 w := by
    obtain ⟨a, ⟨-, a2⟩, a3, -, a5⟩ := nm
    have := horn_bd a2 a3
    rw [← a5] at this
    unfold R64; omega
  have nb : ∀ {f : Int → Int} {v : Int}, NmOK f v → R64 v := by
    rintro f v ⟨a, ⟨-, a2⟩, a3, -, a5⟩
    have := horn_bd a2 a3
    rw [← a5] at this
    unfold R64; omega
  -- a name that is told already
  have dup : ¬ fresh ρ (ltr T n σ) → ∀ l3 i : Int, (∀ y, Ex C_n8 m y → MEr y (3, (σ.1 : Nat)) → S_X8_newName sc d 61 [aR 62, aJ w, aU, aI l3, aI i] [] y (fun v z => ∃ w, v = some (aJ w) ∧ Ex C_n8 m z ∧ match nmeR T n ρ (σ, q) with | .ok x => NmOK (ltr T n σ) w ∧ MSt T n z x.1 | .error e => MEr z e)) → S_X8_newName sc d 58 [aR 62, aJ w, aU, aI l3, aI i] [aI (z 62 41), aI 3, aR 62] z (fun v z => ∃ w, v = some (aJ w) ∧ Ex C_n8 m z ∧ match nmeR T n ρ (σ, q) with | .ok x => NmOK (ltr T n σ) w ∧ MSt T n z x.1 | .error e => MEr z e) := by
    intro hf l3 i K
    refine p_X8_newName_58 (d2 := d - 1) (s_X8_fail z5.1 (by decide) (by omega)) (by omega) ?_
    rintro y ⟨-, ye, hy⟩
    rw [z41] at hy
    exact K y (ze.trans (ye.mono (fun a j q => Or.inl q))) hy
  have nr : ¬ fresh ρ (ltr T n σ) → nmeR T n ρ (σ, q) = .error (3, (σ.1 : Nat)) := fun hf => by unfold nmeR; rw [if_neg k1, if_neg k2, if_neg hf]
  have lpB : (∀ s : Nat, s < (ρ 0 1).toNat → ¬ sameL (ltr T n σ) (fun j => ρ 8 (s * 6 + j))) → ∀ (f i : Nat), i + f = (ρ 0 2).toNat → (∀ s : Nat, s < i → ¬ sameL (ltr T n σ) (fun j => ρ 8 ((10 + s) * 6 + j))) → S_X8_newName sc d 15 [aR 62, aJ w, aU, aI 2, aI i] [] z (fun v z => ∃ w, v = some (aJ w) ∧ Ex C_n8 m z ∧ match nmeR T n ρ (σ, q) with | .ok x => NmOK (ltr T n σ) w ∧ MSt T n z x.1 | .error e => MEr z e) := by
    intro hA f
    have cc := rz.1.2.2
    induction f with
    | zero =>
      intro i hi hs
      have hf : fresh ρ (ltr T n σ) := ⟨hA, fun s q => hs s (by omega)⟩
      refine g_X8_newName_15 ⟨by omega, by omega, by omega, by omega, fun _ => g_X8_newName_7 ⟨by omega, fun _ => ⟨_, rfl, ze, ?_⟩, fun q => by omega⟩, fun g => by omega⟩
      have e : nmeR T n ρ (σ, q) = .ok (nx T n σ, q) := by unfold nmeR; rw [if_neg k1, if_neg k2, if_pos hf]
      rw [e]
      exact ⟨nm, hz⟩
    | succ f ih =>
      intro i hi hs
      have hN := rz.2.2.2.2.2.2 i (by omega)
      have bN := nb hN
      refine g_X8_newName_15 ⟨by omega, by omega, by omega, by omega, fun g => by omega, fun _ => ⟨by omega, fun g => absurd z5.1 g, fun _ => ⟨by omega, by omega, by rw [show (10 * (2 - 1) + (i : Int)) = 10 + i by omega]; exact bN, wb, fun g => ?_, fun g => ?_⟩⟩⟩
      · rw [show (10 * (2 - 1) + (i : Int)) = 10 + i by omega] at g
        have := ih (i + 1) (by omega) (fun s q2 => by
          by_cases e : s = i
          · rw [e]; exact fun q3 => g ((nm_eq nm hN).mpr q3).symm
          · exact hs s (by omega))
        rw [show ((i + 1 : Nat) : Int) = (i : Int) + 1 by omega] at this
        exact g_X8_newName_61 this
      · rw [show (10 * (2 - 1) + (i : Int)) = 10 + i by omega] at g
        have hf : ¬ fresh ρ (ltr T n σ) := fun q2 => q2.2 i (by omega) ((nm_eq nm hN).mp (Classical.not_not.mp g).symm)
        exact dup hf 2 i (fun y ye hy => g_X8_newName_61 (E15b _ y (nr hf) ye hy (3 - i) _ (by omega) (by omega)))
  have lpA : ∀ (f i : Nat), i + f = (ρ 0 1).toNat → (∀ s : Nat, s < i → ¬ sameL (ltr T n σ) (fun j => ρ 8 (s * 6 + j))) → S_X8_newName sc d 15 [aR 62, aJ w, aU, aI 1, aI i] [] z (fun v z => ∃ w, v = some (aJ w) ∧ Ex C_n8 m z ∧ match nmeR T n ρ (σ, q) with | .ok x => NmOK (ltr T n σ) w ∧ MSt T n z x.1 | .error e => MEr z e) := by
    intro f
    have cc := rz.1.2.1
    induction f with
    | zero =>
      intro i hi hs
      refine g_X8_newName_15 ⟨by omega, by omega, by omega, by omega, fun _ => g_X8_newName_7 ⟨by omega, fun q => by omega, fun _ => ?_⟩, fun g => by omega⟩
      exact lpB (fun s q => hs s (by omega)) (ρ 0 2).toNat 0 (by omega) (fun s q => absurd q (by omega))
    | succ f ih =>
      intro i hi hs
      have hN := rz.2.2.2.2.2.1 i (by omega)
      have bN := nb hN
      refine g_X8_newName_15 ⟨by omega, by omega, by omega, by omega, fun g => by omega, fun _ => ⟨by omega, fun g => absurd z5.1 g, fun _ => ⟨by omega, by omega, by rw [show (10 * (1 - 1) + (i : Int)) = i by omega]; exact bN, wb, fun g => ?_, fun g => ?_⟩⟩⟩
      · rw [show (10 * (1 - 1) + (i : Int)) = i by omega] at g
        have := ih (i + 1) (by omega) (fun s q2 => by
          by_cases e : s = i
          · rw [e]; exact fun q3 => g ((nm_eq nm hN).mpr q3).symm
          · exact hs s (by omega))
        rw [show ((i + 1 : Nat) : Int) = (i : Int) + 1 by omega] at this
        exact g_X8_newName_61 this
      · rw [show (10 * (1 - 1) + (i : Int)) = i by omega] at g
        have hf : ¬ fresh ρ (ltr T n σ) := fun q2 => q2.1 i (by omega) ((nm_eq nm hN).mp (Classical.not_not.mp g).symm)
        exact dup hf 1 i (fun y ye hy => g_X8_newName_61 (E15a _ y (nr hf) ye hy (9 - i) _ (by omega) (by omega)))
  exact start z (lpA (ρ 0 1).toNat 0 (by omega) (fun s q => absurd q (by omega)))
theorem s_allOdds {q : List Int} (h : MRt m ρ q) (hb : RmC ρ) : P_X8_allOdds sc d [aR 62] m (PV (aI (sumF (ρ 2) (ρ 0 0).toNat)) m) := by
  have b := hb.1
  have c0 := h.1.1
  have key : ∀ (f i : Nat), i + f = (ρ 0 0).toNat → S_X8_allOdds sc d 4 [aR 62, aI (sumF (ρ 2) i), aI i] [] m (PV (aI (sumF (ρ 2) (ρ 0 0).toNat)) m) := by
    intro f
    induction f with
    | zero =>
      intro i hi
      exact g_X8_allOdds_4 ⟨by omega, by omega, fun _ => ⟨by rw [show i = (ρ 0 0).toNat by omega], rfl⟩, fun q => by omega⟩
    | succ f ih =>
      intro i hi
      have := ih (i + 1) (by omega)
      rw [sumF, ← (h.2.1 i (by omega)).2, show ((i + 1 : Nat) : Int) = (i : Int) + 1 by omega] at this
      exact g_X8_allOdds_4 ⟨by omega, by omega, fun q => by omega, fun _ => ⟨by omega, by omega, this⟩⟩
  exact ep_X8_allOdds (g_X8_allOdds_0 (key (ρ 0 0).toNat 0 (by omega)))
def C_l2 (a j : Int) : Prop := a = 62 ∧ j = 2
theorem l2_lk {a j : Int} (h : C_l2 a j) : C_lk a j := by unfold C_l2 at h; unfold C_lk; omega
theorem Tm.l2 {z : Mem} (h : Tm m T n) (e : Ex C_l2 m z) : Tm z T n := h.lk (e.mono (fun a j q => l2_lk q))
theorem s_look2 (ht : Tm m T n) (h : MSt T n m σ) : P_X8_look sc d [aR 62] m (fun v z => v = some (aI (lkC T n σ)) ∧ Ex C_l2 m z ∧ MLk T n z σ) := by
  refine ep_X8_look ?_
  have key : ∀ (f a : Nat) (z : Mem), a + f = σ.1 → Ex C_l2 m z → MSt T n z σ → z 62 2 = (a : Nat) → spn isBl T n a = σ.1 → S_X8_look sc d 0 [aR 62] [] z (fun v z => v = some (aI (lkC T n σ)) ∧ Ex C_l2 m z ∧ MLk T n z σ) := by
    intro f
    induction f with
    | zero =>
      intro a z ha ze hz z2 hsp
      have tz := ht.l2 ze
      have n1 := tz.1
      have e3 := tz.2.1
      have e : a = σ.1 := by omega
      subst e
      have sn := hz.1
      have ans : (if (z 62 3) ≤ (z 62 2) then (-1) else (z 63 (z 62 2)) : Int) = lkC T n σ := by
        unfold lkC
        rw [z2, e3]
        by_cases c : σ.1 < n
        · rw [if_neg (by omega), if_pos c]; exact (tz.2.2.1 _ c).1
        · rw [if_pos (by omega), if_neg c]
      have fin : (some (aI (if (z 62 3) ≤ (z 62 2) then (-1) else (z 63 (z 62 2)) : Int)) : Option AV) = some (aI (lkC T n σ)) ∧ Ex C_l2 m z ∧ MLk T n z σ := ⟨by rw [ans], ze, hz, z2⟩
      refine g_X8_look_0 ⟨by omega, by omega, fun c => ⟨fun g => by omega, fun g => by omega, fin⟩, fun c => ?_⟩
      have tb := tz.2.2.1 σ.1 (by omega)
      have nb : isBl (T σ.1) = false := by
        have := @spn_end isBl T n σ.1 (by rw [hsp]; omega)
        rw [hsp] at this; exact this
      have n10 : ¬ (T σ.1 = 10 ∨ T σ.1 = 32) := fun g => by rw [isBl_iff.mpr g] at nb; cases nb
      refine ⟨by omega, by omega, by rw [z2, tb.1]; omega, fun g => ?_, fun g => ⟨fun g2 => fin, fun g2 => ?_⟩⟩
      · rw [z2, tb.1] at g; omega
      · rw [z2, tb.1] at g2; omega
    | succ f ih =>
      intro a z ha ze hz z2 hsp
      have tz := ht.l2 ze
      have n1 := tz.1
      have e3 := tz.2.1
      have sn := hz.1
      have bl : isBl (T a) = true := @spn_in isBl T n a a (Nat.le_refl _) (by rw [hsp]; omega)
      have tb := tz.2.2.1 a (by omega)
      have sp2 : spn isBl T n (a + 1) = σ.1 := by rw [← hsp, spn_go (by omega) bl]
      have stp : S_X8_look sc d 0 [aR 62] [] (wr z 62 2 ((z 62 2) + 1)) (fun v z => v = some (aI (lkC T n σ)) ∧ Ex C_l2 m z ∧ MLk T n z σ) := by
        rw [z2, show ((a : Nat) : Int) + 1 = ((a + 1 : Nat) : Int) by omega]
        exact ih (a + 1) _ (by omega) (ze.put ⟨rfl, rfl⟩) (hz.wr2 (by omega) sp2) (wr_eq _ _ _ _) sp2
      have b2 := isBl_iff.mp bl
      refine g_X8_look_0 ⟨by omega, by omega, fun c => by omega, fun c => ⟨by omega, by omega, by rw [z2, tb.1]; omega, fun _ => stp, fun g => ⟨fun g2 => ?_, fun _ => stp⟩⟩⟩
      rw [z2, tb.1] at g g2
      omega
  obtain ⟨a, a1, a2, a3⟩ := h.2.2.1
  exact key (σ.1 - a) a m (by omega) (Ex.refl _ _) h a1 a3
theorem s_isHere2 {c : Int} (hc : IsW c) (ht : Tm m T n) (h : MSt T n m σ) (hd : 2 ≤ d) : P_X8_isHere sc d [aR 62, aR c] m (fun v z => v = some (aI (if wE T n σ = wOf c then 1 else 0)) ∧ Ex C_l2 m z ∧ MLk T n z σ) := by
  obtain ⟨w1, w2, w3, w4, w5⟩ := wrd_at hc
  have b5 := h.2.1.1
  refine ep_X8_isHere (g_X8_isHere_0 w1 ⟨by omega, fun q => absurd b5 q, fun _ => ?_⟩)
  refine p_X8_isHere_8 (d2 := d - 1) w1 (s_look2 ht h) (by omega) ?_
  rintro _ z ⟨e, ze, zl⟩; cases e
  have tz := ht.l2 ze
  have n1 := tz.1
  have e3 := tz.2.1
  have lb := @lk_bd T n σ tz.by
  refine p_X8_isHere_11 (d2 := d - 1) w1 (ep_X8_isLetter (g_X8_isLetter_0 (Q := PV (aI (if lkC T n σ < 97 then 0 else (if 122 < lkC T n σ then 0 else 1 : Int) : Int)) z) ⟨by omega, rfl, rfl⟩)) (by omega) ?_
  rintro _ z ⟨e, rfl⟩; cases e
  have sn := zl.1.1
  have z2 := zl.2
  have z4 := zl.1.2.2.2
  have no : kd T n σ ≠ 256 → (fun v z => v = some (aI (if wE T n σ = wOf c then 1 else 0)) ∧ Ex C_l2 m z ∧ MLk T n z σ) (some (aI 0)) z := by
    intro g
    refine ⟨?_, ze, zl⟩
    rw [if_neg]
    unfold wE; rw [if_neg g]; omega
  refine g_X8_isHere_14 w1 ⟨by split <;> (try split) <;> omega, fun q => no (fun g => ?_), fun q => ⟨by omega, by omega, fun q2 => ?_, fun q2 => no (fun g => ?_)⟩⟩
  · have := (lk_let (T := T) (n := n) (σ := σ)).mpr ⟨g, (kd256 g tz.by).1, (kd256 g tz.by).2.1⟩
    rw [if_neg (by omega), if_neg (by omega)] at q; omega
  · have l1 : 97 ≤ lkC T n σ ∧ lkC T n σ ≤ 122 := by
      by_cases g : lkC T n σ < 97
      · rw [if_pos g] at q; exact absurd rfl q
      · rw [if_neg g] at q
        by_cases g2 : 122 < lkC T n σ
        · rw [if_pos g2] at q; exact absurd rfl q
        · omega
    have ng : ¬ σ.2 = true := fun g => q2 (by rw [z2]; exact (z4.2.mpr g).symm)
    obtain ⟨k1, k2, k3⟩ := (lk_let (T := T) (n := n) (σ := σ)).mp ⟨l1, ng⟩
    have ked := (kd256 k1 tz.by).2.2.2
    have wv : wE T n σ = wi T n σ := by unfold wE; rw [if_pos k1]
    -- the letters compared
    have cmp : ed T n σ = σ.1 + (WL.getD (wOf c) []).length → ∀ (f i : Nat), i + f = (WL.getD (wOf c) []).length → (∀ j : Nat, j < i → T ((σ.1 : Int) + j) = (WL.getD (wOf c) []).getD j 0) → S_X8_isHere sc d 76 [aR 62, aR c, aU, aI i] [] z (fun v z => v = some (aI (if wE T n σ = wOf c then 1 else 0)) ∧ Ex C_l2 m z ∧ MLk T n z σ) := by
      intro el f
      have el2 := @ed_le T n σ sn
      induction f with
      | zero =>
        intro i hi hj
        refine g_X8_isHere_76 w1 ⟨by omega, by omega, fun _ => ⟨?_, ze, zl⟩, fun g => absurd (by omega) g⟩
        rw [if_pos]
        rw [wv]
        exact (wi_eq w2).mpr (wIs_iff.mpr ⟨el, fun j hj2 => hj j (by omega)⟩)
      | succ f ih =>
        intro i hi hj
        have tb := tz.2.2.1 (σ.1 + i) (by omega)
        have cw : z c i = (WL.getD (wOf c) []).getD i 0 := (tz.2.2.2 c i hc).trans (w5 i (by omega) (by omega))
        have ea : (σ.1 : Int) + (i : Int) = ((σ.1 + i : Nat) : Int) := by omega
        have wb : 0 ≤ z c i ∧ z c i ≤ 255 ∨ True := Or.inr trivial
        have r1 : R32 (z c i) := by rw [cw]; exact wl_r32 w2 (by omega)
        refine g_X8_isHere_76 w1 ⟨by omega, by omega, fun g => by omega, fun _ => ⟨by omega, by omega, by omega, by omega, by rw [z2, ea, tb.1]; omega, r1, fun g => ?_, fun g => ⟨?_, ze, zl⟩⟩⟩
        · rw [z2, ea, tb.1, cw] at g
          rw [show ((i : Nat) : Int) + 1 = ((i + 1 : Nat) : Int) by omega]
          refine ih (i + 1) (by omega) (fun j hj2 => ?_)
          by_cases ej : j = i
          · rw [ej, ea]; exact g
          · exact hj j (by omega)
        · rw [z2, ea, tb.1, cw] at g
          rw [if_neg]
          intro g2
          rw [wv] at g2
          have := (wIs_iff.mp ((wi_eq w2).mp g2)).2 i (by omega)
          rw [ea] at this
          exact g this
    have lenc : ∀ (y : Int), y = (ed T n σ : Nat) → (R32 (y - z 62 2)) ∧ (R32 (alen c)) ∧ (((y - (z 62 2)) = (alen c)) → (S_X8_isHere sc d 76 [aR 62, aR c, aU, aI 0] [] z (fun v z => v = some (aI (if wE T n σ = wOf c then 1 else 0)) ∧ Ex C_l2 m z ∧ MLk T n z σ))) ∧ (¬ ((y - (z 62 2)) = (alen c)) → (fun v z => v = some (aI (if wE T n σ = wOf c then 1 else 0)) ∧ Ex C_l2 m z ∧ MLk T n z σ) (some (aI 0)) z) := by
      intro y hy
      have el2 := @ed_le T n σ sn
      refine ⟨by unfold R32; omega, by unfold R32; omega, fun g => cmp (by omega) _ 0 (Nat.zero_add _) (fun j hj => absurd hj (Nat.not_lt_zero j)), fun g => ⟨?_, ze, zl⟩⟩
      rw [if_neg]
      intro g2
      rw [wv] at g2
      have := (wIs_iff.mp ((wi_eq w2).mp g2)).1
      omega
    -- the run of letters
    have run : ∀ (f a : Nat), a + f = n → σ.1 ≤ a → (a = σ.1 ∨ spn isLe T n (σ.1 + 1) = spn isLe T n a) → S_X8_isHere sc d 35 [aR 62, aR c, aI a, aU] [] z (fun v z => v = some (aI (if wE T n σ = wOf c then 1 else 0)) ∧ Ex C_l2 m z ∧ MLk T n z σ) := by
      intro f
      induction f with
      | zero =>
        intro a ha hsa hsp
        have ea : a = ed T n σ := by
          rcases hsp with g | g
          · omega
          · rw [ked, g, spn_st (by omega)]
        have := lenc a (by rw [ea])
        exact g_X8_isHere_35 w1 ⟨by omega, by omega, fun _ => this, fun g => absurd (by omega) g⟩
      | succ f ih =>
        intro a ha hsa hsp
        have tb := tz.2.2.1 a (by omega)
        refine g_X8_isHere_35 w1 ⟨by omega, by omega, fun g => by omega, fun _ => ⟨by omega, by omega, ?_⟩⟩
        rw [tb.1]
        refine p_X8_isHere_49 (d2 := d - 1) w1 (ep_X8_isLetter (g_X8_isLetter_0 (Q := PV (aI (if T a < 97 then 0 else (if 122 < T a then 0 else 1 : Int) : Int)) z) ⟨by omega, rfl, rfl⟩)) (by omega) ?_
        rintro _ y ⟨e, rfl⟩; cases e
        refine g_X8_isHere_52 w1 ⟨by split <;> (try split) <;> omega, fun g => ?_, fun g => ?_⟩
        · have nl : ¬ isLe (T a) = true := fun q => by have := isLe_iff.mp q; rw [if_neg (by omega), if_neg (by omega)] at g; omega
          have ea : a = ed T n σ := by
            rcases hsp with q | q
            · rw [q] at nl; exact absurd k3 nl
            · rw [ked, q, spn_st (fun q => nl q.2)]
          exact lenc a (by rw [ea])
        · have il : isLe (T a) = true := by
            by_cases q : T a < 97
            · rw [if_pos q] at g; exact absurd rfl g
            · rw [if_neg q] at g
              by_cases q2 : 122 < T a
              · rw [if_pos q2] at g; exact absurd rfl g
              · exact isLe_iff.mpr (by omega)
          rw [show ((a : Nat) : Int) + 1 = ((a + 1 : Nat) : Int) by omega]
          refine ih (a + 1) (by omega) (by omega) (Or.inr ?_)
          rcases hsp with q | q
          · rw [q]
          · rw [q, spn_go (by omega) il]
    have := run (n - σ.1) σ.1 (by omega) (Nat.le_refl _) (Or.inl rfl)
    rw [z2]
    exact this
  · have := (kd256 g tz.by).2.2.1
    have q4 := z4.2.mp (by omega)
    rw [this] at q4; cases q4
theorem s_isWordHere (ht : Tm m T n) (h : MSt T n m σ) (hd : 4 ≤ d) : P_X8_isWordHere sc d [aR 62] m (fun v z => v = some (aI (if wE T n σ = 1 then 1 else 0)) ∧ Ex C_l2 m z ∧ MLk T n z σ) := by
  have n1 := ht.1
  have sn := h.1
  have lb := @lk_bd T n σ ht.by
  refine ep_X8_isWordHere (g_X8_isWordHere_0 (p_X8_isWordHere_1 (d2 := d - 1) (s_look2 ht h) (by omega) ?_))
  rintro _ z ⟨q, ze, zl⟩; cases q
  refine p_X8_isWordHere_4 (d2 := d - 1) (s_isLetter (by unfold R32; omega)) (by omega) ?_
  rintro _ z ⟨q, rfl⟩; cases q
  have z2 := zl.2
  have z4 := zl.1.2.2.2.1
  have z4b := zl.1.2.2.2.2
  have nw : kd T n σ ≠ 256 → (if wE T n σ = 1 then (1 : Int) else 0) = 0 := fun k => if_neg (fun q => by unfold wE at q; rw [if_neg k] at q; omega)
  by_cases cl : 97 ≤ lkC T n σ ∧ lkC T n σ ≤ 122
  · rw [if_pos cl]
    refine g_X8_isWordHere_7 ⟨by omega, fun q => by omega, fun _ => ⟨by omega, by omega, fun g => ⟨?_, ze, zl⟩, fun g => ?_⟩⟩
    · rw [nw (fun k => by
        have := (kd256 k ht.by).2.2.1
        have g2 := z4b.mp (by omega)
        rw [g2] at this; cases this)]
    · refine p_X8_isWordHere_26 (d2 := d - 1) (wrd_at (iw (by decide))).1 (s_isHere2 (c := 66) (iw (by decide)) (ht.l2 ze) zl.1 (by omega)) (by omega) ?_
      rintro _ y ⟨q, ye, yl⟩; cases q
      rw [show ((wOf 66 : Nat) : Int) = 1 from rfl]
      refine g_X8_isWordHere_29 ⟨by split <;> omega, ?_, ze.trans ye, yl⟩
      by_cases c : wE T n σ = 1
      · rw [if_pos c, if_neg (by decide)]
      · rw [if_neg c, if_pos rfl]
  · rw [if_neg cl]
    refine g_X8_isWordHere_7 ⟨by omega, fun _ => ⟨?_, ze, zl⟩, fun q => absurd rfl q⟩
    rw [nw (fun k => by
      have q := kd256 k ht.by
      have := isLe_iff.mp q.2.1
      unfold lkC at cl
      rw [if_pos q.1] at cl
      omega)]
end RI
