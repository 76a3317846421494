/-! rooms as texts: the class's room while it is told, small methods -/
def nrm (x : Int) : Int := (Int32.ofInt x).toInt
theorem nrm_r (x : Int) : R32 (nrm x) := ⟨Int32.le_toInt _, Int32.toInt_lt _⟩
theorem nrm_of {x : Int} (h : R32 x) : nrm x = x := Int32.toInt_ofInt_of_le h.1 h.2
theorem cv_nrm (g : Gd) (x : Int) : cv g (aI (nrm x)) = cv g (aI x) := by
  rw [cv_I, cv_I]
  unfold nrm
  rw [Int32.ofInt_toInt]
theorem Lok.nrm {g : Gd} {lsC : Array Slot} {nL : Nat} {l1 l2 : List AV} {x : Int} (h : Lok g lsC nL (l1 ++ aI x :: l2)) : Lok g lsC nL (l1 ++ aI (nrm x) :: l2) := by
  obtain ⟨h1, h2, h3, h4⟩ := h
  refine ⟨h1, h2, by rw [List.length_append] at h3 ⊢; exact h3, fun i v hv hu => ?_⟩
  by_cases e : i = l1.length
  · subst e
    rw [List.getElem?_append_right (Nat.le_refl _), Nat.sub_self] at hv
    have hv : some (aI (_root_.Jvm.Pilot.CBelowThreadLaw_law_r8583_fae400.nrm x)) = some v := hv
    cases hv
    rw [cv_nrm]
    refine h4 l1.length (aI x) ?_ (fun q => by cases q)
    rw [List.getElem?_append_right (Nat.le_refl _), Nat.sub_self]
    rfl
  · refine h4 i v ?_ hu
    rw [← hv]
    by_cases e2 : i < l1.length
    · rw [List.getElem?_append_left e2, List.getElem?_append_left e2]
    · rw [List.getElem?_append_right (by omega), List.getElem?_append_right (by omega)]
      obtain ⟨k, hk⟩ : ∃ k, i - l1.length = k + 1 := ⟨i - l1.length - 1, by omega⟩
      rw [hk]
      rfl
theorem Sim.nst {sc : List Int} {o : String} {cc : ByteArray} {nL : Nat} {ret : Option FieldType} {d pc : Nat} {ls st : List AV} {x : Int} {m : Mem} {Q : Option AV → Mem → Prop} (h : Sim sc o cc nL ret d pc ls (aI (nrm x) :: st) m Q) : Sim sc o cc nL ret d pc ls (aI x :: st) m Q := by
  intro p l e R s mt args below meth c g H locs lsC cells slots Qw h1 h2 h3 h4 h5
  have := h p l e R s mt args below meth c g H locs lsC cells slots Qw h1 h2 h3 h4 h5
  rw [List.map_cons, cv_nrm, ← List.map_cons] at this
  exact this
theorem Sim.nls {sc : List Int} {o : String} {cc : ByteArray} {nL : Nat} {ret : Option FieldType} {d pc : Nat} {l1 l2 st : List AV} {x : Int} {m : Mem} {Q : Option AV → Mem → Prop} (h : Sim sc o cc nL ret d pc (l1 ++ aI (nrm x) :: l2) st m Q) : Sim sc o cc nL ret d pc (l1 ++ aI x :: l2) st m Q := by
  intro p l e R s mt args below meth c g H locs lsC cells slots Qw h1 h2 h3 h4 h5
  exact h p l e R s mt args below meth c g H locs lsC cells slots Qw h1 h2 h3 h4.nrm h5
theorem Sim.imp {sc : List Int} {o : String} {cc : ByteArray} {nL : Nat} {ret : Option FieldType} {d pc : Nat} {ls st : List AV} {m : Mem} {Q Q2 : Option AV → Mem → Prop} (h : Sim sc o cc nL ret d pc ls st m Q) (hq : ∀ v z, Q v z → Q2 v z) : Sim sc o cc nL ret d pc ls st m Q2 := by
  intro p l e R s mt args below meth c g H locs lsC cells slots Qw h1 h2 h3 h4 h5
  exact h p l e R s mt args below meth c g H locs lsC cells slots Qw h1 h2 h3 h4 (fun v m' H' locs' pc' ls' q => h5 v m' H' locs' pc' ls' (hq v m' q))
section RC
variable {sc : List Int} {d : Nat} {m ρ : Mem} {Q : Option AV → Mem → Prop} {T : Int → Int} {n : Nat} {rl : Bool} {F r : Int}
/-- what telling a room may change -/
def C_rm (r a j : Int) : Prop := (a = 32 ∧ 0 ≤ j ∧ j ≤ 11) ∨ (r ≤ a ∧ a ≤ r + 13 ∧ ¬ (a = r + 7 ∧ j = 0) ∧ ¬ (a = r + 11 ∧ j = 0))
theorem rm_rd {a j : Int} (h : C_rd (r + 8) a j) : C_rm r a j := by unfold C_rd at h; unfold C_rm; omega
theorem rm_bg {a j : Int} (h : C_bg (r + 8) a j) : C_rm r a j := by unfold C_bg at h; unfold C_rm; omega
theorem XR.exr {C : Int → Int → Prop} {q : Rs} {z : Mem} (h : XR T n rl F m q) (e : Ex C m z) (hc : ∀ a j, C a j → a ≠ 32 ∧ a ≠ 1 ∧ a ≠ F ∧ a ≠ F + 1) : XR T n rl F z q := by
  have e32 : ∀ j, z 32 j = m 32 j := fun j => e 32 j (fun q => (hc _ _ q).1 rfl)
  have eF : ∀ j, z F j = m F j := fun j => e F j (fun q => (hc _ _ q).2.2.1 rfl)
  have eG : ∀ j, z (F + 1) j = m (F + 1) j := fun j => e (F + 1) j (fun q => (hc _ _ q).2.2.2 rfl)
  obtain ⟨ht, h9, ⟨h11, hF⟩, hr⟩ := h
  refine ⟨ht.ex e (fun a j q c => ?_), by rw [e32]; exact h9, ⟨by rw [e32]; exact h11, hF⟩, ?_⟩
  · have := hc a j c
    omega
  · cases q with
    | ok x =>
      obtain ⟨⟨r7, r8⟩, rt, r1, r2, r3, r4⟩ := hr
      exact ⟨⟨by rw [e32]; exact r7, by rw [e32]; exact r8⟩, by unfold Tok; rw [e32, e32, e32, e32, e32]; exact rt, r1, r2, by rw [eF]; exact r3, fun j hj => by rw [eG]; exact r4 j hj⟩
    | error e0 =>
      obtain ⟨r7, r8, r1, r2, r4, r5⟩ := hr
      exact ⟨by rw [e32]; exact r7, by rw [e32]; exact r8, r1, r2, by rw [e32]; exact r4, by rw [eF]; exact r5⟩
theorem XRm.ex3 {z : Mem} (h : XRm m r ρ) (e : ∀ a j, ((r ≤ a ∧ a ≤ r + 7) ∨ a = r + 13) → z a j = m a j) : XRm z r ρ := by
  obtain ⟨⟨x1, x2, x3, x4⟩, xL, xS, xA, xM⟩ := h
  refine ⟨⟨by rw [e _ _ (by omega)]; exact x1, by rw [e _ _ (by omega)]; exact x2, by rw [e _ _ (by omega)]; exact x3, by rw [e _ _ (by omega)]; exact x4⟩, fun i hi => ?_, fun s hs => ?_, fun s hs => ?_, fun i hi => ?_⟩
  · rw [e _ _ (by omega), e _ _ (by omega)]; exact xL i hi
  · rw [e _ _ (by omega), e _ _ (by omega), e _ _ (by omega)]
    exact ⟨(xS s hs).1, (xS s hs).2.1, (xS s hs).2.2.1, fun k hk => by rw [e _ _ (by omega)]; exact (xS s hs).2.2.2 k hk⟩
  · rw [e _ _ (by omega)]; exact xA s hs
  · rw [e _ _ (by omega)]; exact xM i hi
/-- the class's room and what is told so far -/
def XRt (m : Mem) (r : Int) (ρ : Mem) : Prop := XRm m r ρ ∧ (∀ k : Nat, (k : Int) ≤ ρ 0 2 → m (r + 11) k = ρ 10 k) ∧ ∀ j : Int, ((0 ≤ j ∧ j < 6 * ρ 0 1) ∨ (60 ≤ j ∧ j < 60 + 6 * ρ 0 2)) → m (r + 12) j = ρ 8 j
theorem XRt.ex {C : Int → Int → Prop} {z : Mem} (h : XRt m r ρ) (e : Ex C m z) (hc : ∀ a j, C a j → ¬ ((r ≤ a ∧ a ≤ r + 7) ∨ a = r + 11 ∨ a = r + 12 ∨ a = r + 13)) : XRt z r ρ :=
  ⟨h.1.ex3 (fun a j q => e a j (fun c => hc a j c (by omega))), fun k hk => by rw [e _ _ (fun c => hc _ _ c (by omega))]; exact h.2.1 k hk, fun j hj => by rw [e _ _ (fun c => hc _ _ c (by omega))]; exact h.2.2 j hj⟩
theorem XRt.rd {z : Mem} (H : RoomAt r) (h : XRt m r ρ) (e : Ex (C_rd (r + 8)) m z) : XRt z r ρ := h.ex e (fun a j q => by have := room_bd H; unfold C_rd at q; omega)
def fsR : Es Rx → Rs
  | .ok a => .ok a.1
  | .error e => .error e
def PX (T : Int → Int) (n : Nat) (r : Int) (m : Mem) (q : Es Rx) : Option AV → Mem → Prop := fun v z => v = none ∧ Ex (C_rm r) m z ∧ XR T n true (r + 8) z (fsR q) ∧ ∀ a, q = .ok a → XRt z r a.2
def PE (T : Int → Int) (n : Nat) (r : Int) (m : Mem) (e : Int × Int) : Option AV → Mem → Prop := fun v z => v = none ∧ Ex (C_rm r) m z ∧ XR T n true (r + 8) z (.error e)
theorem PE.px {e : Int × Int} {v : Option AV} {z : Mem} (h : PE T n r m e v z) : PX T n r m (.error e) v z := ⟨h.1, h.2.1, h.2.2, fun a q => by cases q⟩
theorem rm_form (H : RoomAt r) : FormAt (r + 8) := by rcases H with rfl | rfl; exact Or.inl rfl; exact Or.inr (Or.inl rfl)
theorem s_clear (H : RoomAt r) (h7 : m (r + 7) 0 = 0) (h11 : m (r + 11) 0 = 0) (hd : 1 ≤ d) : P_X6_clear sc d [aR r] m (fun v z => v = none ∧ Ex (C_rm r) m z ∧ XRt z r ρ0) := by
  have rb := room_bd H
  refine ep_X6_clear (g_X6_clear_0 H ⟨hd, rfl, fun a j q => ?_, ⟨⟨?_, ?_, ?_, ?_⟩, fun i hi => absurd hi (by show ¬ (i : Int) < 0; omega), fun s hs => absurd hs (by show ¬ (s : Int) < 0; omega), fun s hs => ?_, fun i hi => ?_⟩, fun k hk => ?_, fun j hj => ?_⟩)
  · unfold C_rm at q
    unfold acp
    rw [if_neg (by omega), wr_ne _ _ _ _ _ _ (by omega), wr_ne _ _ _ _ _ _ (by omega), wr_ne _ _ _ _ _ _ (by omega), wr_ne _ _ _ _ _ _ (by omega), wr_ne _ _ _ _ _ _ (by omega)]
  · unfold acp
    rw [if_neg (by omega), wr_ne _ _ _ _ _ _ (by omega), wr_ne _ _ _ _ _ _ (by omega), wr_ne _ _ _ _ _ _ (by omega), wr_ne _ _ _ _ _ _ (by omega), wr_eq]; rfl
  · unfold acp
    rw [if_neg (by omega), wr_ne _ _ _ _ _ _ (by omega), wr_ne _ _ _ _ _ _ (by omega), wr_ne _ _ _ _ _ _ (by omega), wr_eq]; rfl
  · unfold acp
    rw [if_neg (by omega), wr_ne _ _ _ _ _ _ (by omega), wr_ne _ _ _ _ _ _ (by omega), wr_eq]; rfl
  · unfold acp
    rw [if_neg (by omega), wr_ne _ _ _ _ _ _ (by omega), wr_eq]; rfl
  · obtain rfl : s = 0 := by have hs : (s : Int) ≤ 0 := hs; omega
    unfold acp
    rw [if_neg (by omega), wr_ne _ _ _ _ _ _ (by omega), wr_ne _ _ _ _ _ _ (by omega), wr_ne _ _ _ _ _ _ (by omega), wr_ne _ _ _ _ _ _ (by omega), wr_ne _ _ _ _ _ _ (by omega)]
    exact h7
  · unfold acp
    rw [if_pos ⟨rfl, by omega, by omega⟩]
    rcases (by omega : i = 0 ∨ i = 1 ∨ i = 2 ∨ i = 3 ∨ i = 4 ∨ i = 5) with rfl | rfl | rfl | rfl | rfl | rfl <;> rfl
  · obtain rfl : k = 0 := by have hk : (k : Int) ≤ 0 := hk; omega
    unfold acp
    rw [if_neg (by omega), wr_ne _ _ _ _ _ _ (by omega), wr_ne _ _ _ _ _ _ (by omega), wr_ne _ _ _ _ _ _ (by omega), wr_ne _ _ _ _ _ _ (by omega), wr_ne _ _ _ _ _ _ (by omega)]
    exact h11
  · have hj : ((0 ≤ j ∧ j < 6 * 0) ∨ (60 ≤ j ∧ j < 60 + 6 * (0 : Int))) := hj
    omega
theorem s_addLength {y c : Int} (H : RoomAt r) (h : 0 ≤ m r 2 ∧ m r 2 ≤ 6) : P_X6_addLength sc d [aR r, aI y, aI c] m (fun v z => v = none ∧ Ex (fun a j => (a = r ∧ j = 2) ∨ ((a = r + 1 ∨ a = r + 2) ∧ j = m r 2)) m z ∧ (m r 2 < 6 → z (r + 1) (m r 2) = y ∧ z (r + 2) (m r 2) = c ∧ z r 2 = m r 2 + 1)) := by
  have rb := room_bd H
  refine ep_X6_addLength (g_X6_addLength_0 H ⟨by omega, fun q => ⟨rfl, Ex.refl _ _, fun q2 => by omega⟩, fun q => ?_⟩)
  have e1 : wr m (r + 1) (m r 2) y r 2 = m r 2 := wr_na _ _ _ _ _ _ (by omega)
  have e2 : (wr (wr m (r + 1) (m r 2) y) (r + 2) (m r 2) c) r 2 = m r 2 := by rw [wr_na _ _ _ _ _ _ (by omega), e1]
  rw [e1, e2]
  refine ⟨by omega, by omega, by omega, by omega, rfl, (((Ex.refl _ _).put (Or.inr ⟨Or.inl rfl, rfl⟩)).put (Or.inr ⟨Or.inr rfl, rfl⟩)).put (Or.inl ⟨rfl, rfl⟩), fun _ => ⟨?_, ?_, wr_eq _ _ _ _⟩⟩
  · rw [wr_na _ _ _ _ _ _ (by omega), wr_na _ _ _ _ _ _ (by omega), wr_eq]
  · rw [wr_na _ _ _ _ _ _ (by omega), wr_eq]
theorem s_addRule (H : RoomAt r) (h : 0 ≤ m r 11 ∧ m r 11 ≤ 4) : P_X6_addRule sc d [aR r] m (fun v z => v = none ∧ Ex (fun a j => (a = r ∧ j = 11) ∨ (a = r + 11 ∧ j = m r 11 + 1)) m z ∧ (m r 11 < 4 → z r 11 = m r 11 + 1 ∧ z (r + 11) (m r 11 + 1) = m (r + 8) 2)) := by
  have rb := room_bd H
  refine ep_X6_addRule (g_X6_addRule_0 H ⟨by omega, fun q => ⟨rfl, Ex.refl _ _, fun q2 => by omega⟩, fun q => ?_⟩)
  have e1 : wr m r 11 (m r 11 + 1) r 11 = m r 11 + 1 := wr_eq _ _ _ _
  have e2 : wr m r 11 (m r 11 + 1) (r + 8) 2 = m (r + 8) 2 := wr_na _ _ _ _ _ _ (by omega)
  rw [e1, e2]
  exact ⟨by omega, by omega, rfl, ((Ex.refl _ _).put (Or.inl ⟨rfl, rfl⟩)).put (Or.inr ⟨rfl, rfl⟩), fun _ => ⟨by rw [wr_na _ _ _ _ _ _ (by omega)]; exact e1, wr_eq _ _ _ _⟩⟩
theorem s_addSeam {y sh c : Int} (H : RoomAt r) (h : 0 ≤ m r 8 ∧ m r 8 ≤ 10) : P_X6_addSeam sc d [aR r, aI y, aI sh, aI c] m (fun v z => v = none ∧ Ex (fun a j => (a = r ∧ j = 8) ∨ ((a = r + 3 ∨ a = r + 4 ∨ a = r + 6) ∧ j = m r 8) ∨ (a = r + 7 ∧ j = m r 8 + 1)) m z ∧ (m r 8 < 10 → z r 8 = m r 8 + 1 ∧ z (r + 3) (m r 8) = y ∧ z (r + 4) (m r 8) = sh ∧ z (r + 6) (m r 8) = c ∧ z (r + 7) (m r 8 + 1) = m (r + 7) (m r 8) + y)) := by
  have rb := room_bd H
  refine ep_X6_addSeam (g_X6_addSeam_0 H ⟨by omega, fun q => ⟨rfl, Ex.refl _ _, fun q2 => by omega⟩, fun q => ?_⟩)
  have e1 : wr m (r + 3) (m r 8) y r 8 = m r 8 := wr_na _ _ _ _ _ _ (by omega)
  rw [e1]
  have e2 : wr (wr m (r + 3) (m r 8) y) (r + 4) (m r 8) sh r 8 = m r 8 := by rw [wr_na _ _ _ _ _ _ (by omega), e1]
  rw [e2]
  have e3 : wr (wr (wr m (r + 3) (m r 8) y) (r + 4) (m r 8) sh) (r + 6) (m r 8) c r 8 = m r 8 := by rw [wr_na _ _ _ _ _ _ (by omega), e2]
  rw [e3]
  have e4 : wr (wr (wr m (r + 3) (m r 8) y) (r + 4) (m r 8) sh) (r + 6) (m r 8) c (r + 7) (m r 8) = m (r + 7) (m r 8) := by
    rw [wr_na _ _ _ _ _ _ (by omega), wr_na _ _ _ _ _ _ (by omega), wr_na _ _ _ _ _ _ (by omega)]
  rw [e4]
  have e5 : wr (wr (wr (wr m (r + 3) (m r 8) y) (r + 4) (m r 8) sh) (r + 6) (m r 8) c) (r + 7) (m r 8 + 1) (m (r + 7) (m r 8) + y) r 8 = m r 8 := by rw [wr_na _ _ _ _ _ _ (by omega), e3]
  rw [e5]
  refine ⟨by omega, by omega, by omega, by omega, by omega, by omega, by omega, by omega, by omega, by omega, rfl, ?_, fun _ => ⟨wr_eq _ _ _ _, ?_, ?_, ?_, ?_⟩⟩
  · exact (((((Ex.refl _ _).put (Or.inr (Or.inl ⟨Or.inl rfl, rfl⟩))).put (Or.inr (Or.inl ⟨Or.inr (Or.inl rfl), rfl⟩))).put (Or.inr (Or.inl ⟨Or.inr (Or.inr rfl), rfl⟩))).put (Or.inr (Or.inr ⟨rfl, rfl⟩))).put (Or.inl ⟨rfl, rfl⟩)
  · rw [wr_na _ _ _ _ _ _ (by omega), wr_na _ _ _ _ _ _ (by omega), wr_na _ _ _ _ _ _ (by omega), wr_na _ _ _ _ _ _ (by omega), wr_eq]
  · rw [wr_na _ _ _ _ _ _ (by omega), wr_na _ _ _ _ _ _ (by omega), wr_na _ _ _ _ _ _ (by omega), wr_eq]
  · rw [wr_na _ _ _ _ _ _ (by omega), wr_na _ _ _ _ _ _ (by omega), wr_eq]
  · rw [wr_na _ _ _ _ _ _ (by omega), wr_eq]
theorem s_hasLength {y : Int} (H : RoomAt r) (h : XRt m r ρ) (hb : RmC ρ) (hy : R32 y) : P_X6_hasLength sc d [aR r, aI y] m (PV (aI (if newL ρ y then 0 else 1)) m) := by
  have b := hb.1
  have c0 : m r 2 = ρ 0 0 := h.1.1.1
  have key : ∀ (f i : Nat), i + f = (ρ 0 0).toNat → (∀ k : Nat, k < i → ρ 1 k ≠ y) → S_X6_hasLength sc d 2 [aR r, aI y, aI i] [] m (PV (aI (if newL ρ y then 0 else 1)) m) := by
    intro f
    induction f with
    | zero =>
      intro i hi hk
      have hN : newL ρ y := fun k h2 => hk k (by omega)
      refine g_X6_hasLength_2 H ⟨by omega, by omega, fun q => ⟨by rw [if_pos hN], rfl⟩, fun q => by omega⟩
    | succ f ih =>
      intro i hi hk
      have hl := (h.1.2.1 i (by omega)).1
      have hr := (hb.2.2.1 i (by omega)).1
      refine g_X6_hasLength_2 H ⟨by omega, by omega, fun q => by omega, fun q => ⟨by omega, by omega, by omega, hy, fun g => ?_, fun g => ?_⟩⟩
      · have := ih (i + 1) (by omega) (fun k h2 => by
          by_cases e : k = i
          · rw [e, ← hl]; exact g
          · exact hk k (by omega))
        rw [show ((i + 1 : Nat) : Int) = (i : Int) + 1 by omega] at this
        exact this
      · have hN : ¬ newL ρ y := fun q2 => q2 i (by omega) (by rw [← hl]; exact Classical.not_not.mp g)
        exact ⟨by rw [if_neg hN], rfl⟩
  exact ep_X6_hasLength (g_X6_hasLength_0 H (key (ρ 0 0).toNat 0 (by omega) (fun k hk => absurd hk (by omega))))
theorem s_sameLetters {a b : Int} {f g : Int → Int} (H : RoomAt r) (ha : 0 ≤ a ∧ a ≤ 13) (hb : 0 ≤ b ∧ b ≤ 13) (hf : ∀ j : Nat, j < 6 → m (r + 12) (a * 6 + j) = f j ∧ R32 (f j)) (hg : ∀ j : Nat, j < 6 → m (r + 12) (b * 6 + j) = g j ∧ R32 (g j)) : P_X6_sameLetters sc d [aR r, aI a, aI b] m (PV (aI (if sameL f g then 1 else 0)) m) := by
  have key : ∀ (k i : Nat), i + k = 6 → (∀ j : Nat, j < i → f j = g j) → S_X6_sameLetters sc d 2 [aR r, aI a, aI b, aI i] [] m (PV (aI (if sameL f g then 1 else 0)) m) := by
    intro k
    induction k with
    | zero =>
      intro i hi hk
      have hN : sameL f g := fun j h2 => hk j (by omega)
      exact g_X6_sameLetters_2 H ⟨by omega, fun q => ⟨by rw [if_pos hN], rfl⟩, fun q => by omega⟩
    | succ k ih =>
      intro i hi hk
      have h1 := hf i (by omega)
      have h2 := hg i (by omega)
      refine g_X6_sameLetters_2 H ⟨by omega, fun q => by omega, fun q => ⟨by omega, by omega, by omega, by omega, by rw [h1.1]; exact h1.2, by rw [h2.1]; exact h2.2, fun c => ?_, fun c => ?_⟩⟩
      · rw [h1.1, h2.1] at c
        have := ih (i + 1) (by omega) (fun j hj => by
          by_cases e : j = i
          · rw [e]; exact c
          · exact hk j (by omega))
        rw [show ((i + 1 : Nat) : Int) = (i : Int) + 1 by omega] at this
        exact this
      · rw [h1.1, h2.1] at c
        exact ⟨by rw [if_neg (fun q2 => c (q2 i (by omega)))], rfl⟩
  exact ep_X6_sameLetters (g_X6_sameLetters_0 H (key 6 0 (by omega) (fun k hk => absurd hk (by omega))))
theorem nm_r32 {f : Int → Int} {v : Int} (h : NmOK f v) : ∀ j : Nat, j < 6 → R32 (f j) := by
  obtain ⟨k, ⟨k1, k2⟩, k3, k4, -⟩ := h
  intro j hj
  by_cases c : j < k
  · have := k3 j c; unfold R32; omega
  · rw [k4 j (by omega) hj]; decide
theorem s_isNamed {a : Int} {f : Int → Int} (H : RoomAt r) (h : XRt m r ρ) (hb : RmC ρ) (hn : NmI ρ) (ha : 0 ≤ a ∧ a ≤ 13) (hf : ∀ j : Nat, j < 6 → m (r + 12) (a * 6 + j) = f j ∧ R32 (f j)) (hd : 1 ≤ d) : P_X6_isNamed sc d [aR r, aI a] m (PV (aI (if fresh ρ f then 0 else 1)) m) := by
  have b := hb.1
  have c1 : m r 8 = ρ 0 1 := h.1.1.2.1
  have c2 : m r 11 = ρ 0 2 := h.1.1.2.2.1
  have key : ∀ (k i : Nat), i + k = 14 → (∀ s : Nat, s < i → s < (ρ 0 1).toNat → ¬ sameL f (fun j => ρ 8 (s * 6 + j))) → (∀ s : Nat, 10 + s < i → s < (ρ 0 2).toNat → ¬ sameL f (fun j => ρ 8 ((10 + s) * 6 + j))) → S_X6_isNamed sc d 2 [aR r, aI a, aI i, aU] [] m (PV (aI (if fresh ρ f then 0 else 1)) m) := by
    intro k
    induction k with
    | zero =>
      intro i hi h1 h2
      have hN : fresh ρ f := ⟨fun s hs => h1 s (by omega) hs, fun s hs => h2 s (by omega) hs⟩
      exact g_X6_isNamed_2 H ⟨by omega, fun q => ⟨by rw [if_pos hN], rfl⟩, fun q => by omega⟩
    | succ k ih =>
      intro i hi h1 h2
      refine g_X6_isNamed_2 H ⟨by omega, fun q => by omega, fun q => ⟨fun _ => by omega, fun _ => by omega, fun _ => by omega, ?_, fun g => ?_, fun g => ?_⟩⟩
      · split <;> split <;> omega
      · have nt : ¬ (i < 10 ∧ i < (ρ 0 1).toNat) ∧ ¬ (10 ≤ i ∧ i - 10 < (ρ 0 2).toNat) := by
          by_cases c : 10 ≤ (i : Int)
          · rw [if_pos c] at g
            by_cases c3 : m r 11 ≤ (i : Int) - 10
            · omega
            · rw [if_neg c3] at g; omega
          · rw [if_neg c] at g
            by_cases c3 : m r 8 ≤ (i : Int)
            · omega
            · rw [if_neg c3] at g; omega
        have := ih (i + 1) (by omega) (fun s hs hs2 => h1 s (by omega) hs2) (fun s hs hs2 => h2 s (by omega) hs2)
        rw [show ((i + 1 : Nat) : Int) = (i : Int) + 1 by omega] at this
        exact this
      · have go : ∀ gg : Int → Int, (∀ j : Nat, j < 6 → m (r + 12) ((i : Int) * 6 + j) = gg j ∧ R32 (gg j)) → (sameL f gg → ¬ fresh ρ f) → (¬ sameL f gg → S_X6_isNamed sc d 2 [aR r, aI a, aI ((i : Int) + 1), aU] [] m (PV (aI (if fresh ρ f then 0 else 1)) m)) → S_X6_isNamed sc d 54 [aR r, aI a, aI i, aU] [aI i, aI a, aR r] m (PV (aI (if fresh ρ f then 0 else 1)) m) := by
          intro gg hg q1 q2
          refine p_X6_isNamed_54 (d2 := d - 1) H H (s_sameLetters H ha (by omega) hf hg) (by omega) ?_
          rintro _ z ⟨e, rfl⟩; cases e
          by_cases c : sameL f gg
          · rw [if_pos c]
            exact g_X6_isNamed_57 H ⟨by omega, fun q => by omega, fun _ => ⟨by rw [if_neg (q1 c)], rfl⟩⟩
          · rw [if_neg c]
            exact g_X6_isNamed_57 H ⟨by omega, fun _ => q2 c, fun q => by omega⟩
        by_cases c : 10 ≤ (i : Int)
        · rw [if_pos c] at g
          have c3 : ¬ m r 11 ≤ (i : Int) - 10 := fun q => g (if_pos q)
          obtain ⟨v, hv⟩ := hn.2 (i - 10) (by omega)
          have hv2 := nm_r32 hv
          refine go (fun j => ρ 8 ((10 + ((i - 10 : Nat) : Int)) * 6 + j)) (fun j hj => ⟨?_, hv2 j hj⟩) (fun q1 q2 => q2.2 (i - 10) (by omega) q1) (fun q1 => ?_)
          · rw [show (10 + ((i - 10 : Nat) : Int)) = i by omega]
            exact h.2.2 _ (by omega)
          · have := ih (i + 1) (by omega) (fun s hs hs2 => h1 s (by omega) hs2) (fun s hs hs2 => by
              by_cases e : s = i - 10
              · rw [e]; exact q1
              · exact h2 s (by omega) hs2)
            rw [show ((i + 1 : Nat) : Int) = (i : Int) + 1 by omega] at this
            exact this
        · rw [if_neg c] at g
          have c3 : ¬ m r 8 ≤ (i : Int) := fun q => g (if_pos q)
          obtain ⟨v, hv⟩ := hn.1 i (by omega)
          have hv2 := nm_r32 hv
          refine go (fun j => ρ 8 ((i : Int) * 6 + j)) (fun j hj => ⟨h.2.2 _ (by omega), hv2 j hj⟩) (fun q1 q2 => q2.1 i (by omega) q1) (fun q1 => ?_)
          have := ih (i + 1) (by omega) (fun s hs hs2 => by
              by_cases e : s = i
              · rw [e]; exact q1
              · exact h1 s (by omega) hs2) (fun s hs hs2 => h2 s (by omega) hs2)
          rw [show ((i + 1 : Nat) : Int) = (i : Int) + 1 by omega] at this
          exact this
  exact ep_X6_isNamed (g_X6_isNamed_0 H (key 14 0 (by omega) (fun s hs => absurd hs (by omega)) (fun s hs => absurd hs (by omega))))
end RC
