/-! what holds between calls -/
def hornF (f : Int → Int) : Nat → Int
  | 0 => 0
  | n + 1 => 27 * hornF f n + f n
/-- a name: its letters (behind them 0), and as a number -/
def NmOK (f : Int → Int) (v : Int) : Prop := ∃ n : Nat, (1 ≤ n ∧ n ≤ 6) ∧ (∀ j : Nat, j < n → 1 ≤ f j ∧ f j ≤ 26) ∧ (∀ j : Nat, n ≤ j → j < 6 → f j = 0) ∧ v = hornF f n
/-- a step of the class and a code of the reference -/
def stepRel (x c : Int) : Prop :=
  (0 ≤ x ∧ x ≤ 9999 ∧ (c = 1000 + x ∨ (x = 1 ∧ c = 13))) ∨ (x = -1 ∧ c = 40) ∨ (x = -2 ∧ c = 41) ∨ (x = -3 ∧ c = 42) ∨ (x = -4 ∧ c = 44) ∨ (x = -5 ∧ c = 43) ∨ (x = -6 ∧ c = 45) ∨ (x = -7 ∧ c = 46) ∨ (x = -8 ∧ c = 47) ∨ (x = -9 ∧ c = 48) ∨ (x = -10 ∧ c = 49) ∨
  (x = -11 ∧ c = 12) ∨ (x = -12 ∧ c = 60) ∨ (x = -13 ∧ c = 1) ∨ (x = -14 ∧ c = 2) ∨ (x = -15 ∧ c = 3) ∨ (x = -16 ∧ c = 4) ∨ (x = -17 ∧ c = 5) ∨ (x = -18 ∧ c = 6) ∨ (x = -19 ∧ c = 7) ∨ (x = -20 ∧ c = 8) ∨ (x = -21 ∧ c = 9) ∨ (x = -22 ∧ c = 10) ∨ (x = -23 ∧ c = 11)
/-- kinds on the stack behind a code: true a test, false a number; 'rl': in a rule -/
def tyS (rl : Bool) (c : Int) (st : List Bool) : Option (List Bool) :=
  if 64 ≤ st.length then none
  else if 1000 ≤ c then (if c ≤ 10999 then some (false :: st) else none)
  else if 40 ≤ c ∧ c ≤ 49 then (if (rl = true ∧ c ≤ 46) ∨ (rl = false ∧ (c ≤ 43 ∨ 47 ≤ c)) then some (false :: st) else none)
  else if c = 13 then some (true :: st)
  else match st with
    | false :: st1 => if c = 60 ∧ rl = false then some (false :: st1) else match st1 with
      | false :: st2 => if 1 ≤ c ∧ c ≤ 6 then some (false :: st2) else if 7 ≤ c ∧ c ≤ 9 then some (true :: st2) else none
      | _ => none
    | true :: st1 => if c = 12 then some (true :: st1) else match st1 with
      | true :: st2 => if c = 10 ∨ c = 11 then some (true :: st2) else none
      | _ => none
    | [] => none
def tyF (rl : Bool) (f : Int → Int) : Nat → Option (List Bool)
  | 0 => some []
  | n + 1 => (tyF rl f n).bind (tyS rl (f n))
/-- rules: rho 9 their codes (all in one row), rho 10 where they begin -/
def RlB (ρ : Mem) : Prop := ρ 10 0 = 0 ∧ (∀ k : Nat, (k : Int) < ρ 0 2 → ρ 10 k ≤ ρ 10 (k + 1) ∧ ρ 10 (k + 1) ≤ 1600 ∧ tyF true (fun j => ρ 9 (ρ 10 k + j)) (ρ 10 (k + 1) - ρ 10 k).toNat = some [true])
def XRl (m : Mem) (r : Int) (ρ : Mem) : Prop := (∀ k : Nat, (k : Int) ≤ ρ 0 2 → m (r + 11) k = ρ 10 k) ∧ ∀ j : Nat, (j : Int) < ρ 10 (ρ 0 2) → stepRel (m (r + 9) j) (ρ 9 j)
def MRl (m : Mem) (ρ : Mem) : Prop := (∀ k : Nat, (k : Int) < ρ 0 2 → m 101 (4 + k) = ρ 10 k ∧ m 102 (4 + k) = ρ 10 (k + 1)) ∧ ∀ j : Nat, (j : Int) < ρ 10 (ρ 0 2) → m 103 (1600 + j) = ρ 9 j
def NmL (m : Mem) (r : Int) (ρ : Mem) : Prop := (∀ s : Nat, (s : Int) < ρ 0 1 → NmOK (fun j => m (r + 12) (s * 6 + j)) (m 96 (20 + s))) ∧ ∀ k : Nat, (k : Int) < ρ 0 2 → NmOK (fun j => m (r + 12) ((10 + k) * 6 + j)) (m 96 (30 + k))
def DayB (ρ : Mem) (f : Int → Int) : Prop := (0 ≤ f 0 ∧ f 0 ≤ ρ 0 1) ∧ (0 ≤ f 1 ∧ f 1 ≤ f 2 ∧ f 2 ≤ 99) ∧ (0 ≤ f 3 ∧ f 3 ≤ f 0) ∧ (0 ≤ f 4 ∧ f 4 ≤ f 0) ∧ 0 ≤ f 5 ∧ f 5 ≤ 9999
def TapeL (m : Mem) : Prop := (0 ≤ m 0 1 ∧ m 0 1 ≤ 1600) ∧ m 62 1 = m 0 1 ∧ ∀ i : Nat, (i : Int) < m 0 1 → m 63 i = m 1 i ∧ 0 ≤ m 1 i ∧ m 1 i ≤ 255
def RefL (n : Nat) (m : Mem) : Prop := ∀ k : Nat, k < 6 → m 64 k = m 61 k ∧ 0 ≤ m 61 k ∧ m 61 k ≤ n
def FltL (m : Mem) : Prop := m 62 7 = m 32 7 ∧ m 62 8 = m 32 8 ∧ (0 ≤ m 32 7 ∧ m 32 7 ≤ 5) ∧ -1 ≤ m 32 8 ∧ m 32 8 ≤ 1600
def DayL (m : Mem) (ρ : Mem) : Prop := (∀ k : Nat, k < 6 → m 124 k = m 57 k) ∧ DayB ρ (m 57)
def PastL (m : Mem) (ρ : Mem) : Prop := (0 ≤ m 57 8 ∧ m 57 8 ≤ 20) ∧ m 62 83 = m 57 8 ∧ (0 ≤ m 62 84 ∧ m 62 84 < 20) ∧ ∀ i : Nat, (i : Int) < m 57 8 → (∀ k : Nat, k < 6 → m 125 (6 * ((m 62 84 + 20 - i) % 20) + k) = m 58 ((m 57 8 - 1 - i) * 6 + k)) ∧ DayB ρ (fun k => m 58 ((m 57 8 - 1 - i) * 6 + k))
def SeedL (m : Mem) : Prop := m 62 85 = m 57 6 ∧ 0 ≤ m 57 6 ∧ m 57 6 ≤ 2147483647
def PicL (m : Mem) : Prop := m 62 122 = m 0 12 ∧ (0 ≤ m 0 12 ∧ m 0 12 ≤ 8) ∧ ∀ k : Nat, k < 8 → m 151 k = m 60 k ∧ R32 (m 60 k)
/-- the reference's written words -/
def WrdL (m : Mem) : Prop := ∀ a j, ((65 ≤ a ∧ a ≤ 94) ∨ (127 ≤ a ∧ a ≤ 147)) → m a j = m0 a j
/-- the slots that no room ever writes: what lies ahead of the first seam, where the first rule begins -/
def SpL (m : Mem) : Prop := m 9 0 = 0 ∧ m 24 0 = 0 ∧ m 13 0 = 0 ∧ m 28 0 = 0
def InvB (n : Nat) (m ρ : Mem) (nr : Int) (w : Int → Int) : Prop :=
  (RoomAt (m 0 2) ∧ RoomAt (m 0 3) ∧ m 0 2 ≠ m 0 3) ∧ RmB ρ ∧ XRm m (m 0 2) ρ ∧ MRm m ρ ∧ (RlB ρ ∧ XRl m (m 0 2) ρ ∧ MRl m ρ ∧ NmL m (m 0 2) ρ) ∧ TapeL m ∧ RefL n m ∧ FltL m ∧ DayL m ρ ∧ PastL m ρ ∧ SeedL m ∧ PicL m ∧ (WrdL m ∧ SpL m) ∧ (Xrw m nr w ∧ Mrw m nr w ∧ RwB ρ nr w)
/-- what of the memory that speaks of -/
def Rel (a j : Int) : Prop := (0 ≤ a ∧ a ≤ 31 ∧ a ≠ 12 ∧ a ≠ 27 ∧ a ≠ 16 ∧ a ≠ 31) ∨ (a = 32 ∧ (j = 7 ∨ j = 8)) ∨ (57 ≤ a ∧ a ≤ 61) ∨ (a = 62 ∧ (j = 1 ∨ j = 7 ∨ j = 8 ∨ j = 53 ∨ j = 83 ∨ j = 84 ∨ j = 85 ∨ j = 88 ∨ j = 122)) ∨ (63 ≤ a ∧ a ≤ 94) ∨ (a = 95 ∧ 3 ≤ j) ∨ (a = 96 ∧ 20 ≤ j) ∨ (a = 97 ∧ 6 ≤ j) ∨ (a = 98 ∧ 6 ≤ j) ∨ (a = 99 ∧ 70 ≤ j) ∨ (a = 100 ∧ 6 ≤ j) ∨ (a = 101 ∧ 4 ≤ j) ∨ (a = 102 ∧ 4 ≤ j) ∨ (a = 103 ∧ 1600 ≤ j) ∨ (124 ≤ a ∧ a ≤ 147) ∨ a = 151
theorem rel0 {j : Int} : Rel 0 j := Or.inl ⟨by omega, by omega, by omega, by omega, by omega, by omega⟩
theorem rel1 {j : Int} : Rel 1 j := Or.inl ⟨by omega, by omega, by omega, by omega, by omega, by omega⟩
theorem rel32 {j : Int} (h : j = 7 ∨ j = 8) : Rel 32 j := Or.inr (Or.inl ⟨rfl, h⟩)
theorem rel57 {a j : Int} (h : 57 ≤ a ∧ a ≤ 61) : Rel a j := Or.inr (Or.inr (Or.inl h))
theorem rel62 {j : Int} (h : j = 1 ∨ j = 7 ∨ j = 8 ∨ j = 53 ∨ j = 83 ∨ j = 84 ∨ j = 85 ∨ j = 88 ∨ j = 122) : Rel 62 j := Or.inr (Or.inr (Or.inr (Or.inl ⟨rfl, h⟩)))
theorem rel63 {a j : Int} (h : 63 ≤ a ∧ a ≤ 94) : Rel a j := Or.inr (Or.inr (Or.inr (Or.inr (Or.inl h))))
theorem relT {a j : Int} (h : (a = 95 ∧ 3 ≤ j) ∨ (a = 96 ∧ 20 ≤ j) ∨ (a = 97 ∧ 6 ≤ j) ∨ (a = 98 ∧ 6 ≤ j) ∨ (a = 99 ∧ 70 ≤ j) ∨ (a = 100 ∧ 6 ≤ j) ∨ (a = 101 ∧ 4 ≤ j) ∨ (a = 102 ∧ 4 ≤ j) ∨ (a = 103 ∧ 1600 ≤ j) ∨ (124 ≤ a ∧ a ≤ 147) ∨ a = 151) : Rel a j := Or.inr (Or.inr (Or.inr (Or.inr (Or.inr h))))
theorem rel124 {a j : Int} (h : 124 ≤ a ∧ a ≤ 147) : Rel a j := relT (Or.inr (Or.inr (Or.inr (Or.inr (Or.inr (Or.inr (Or.inr (Or.inr (Or.inr (Or.inl h))))))))))
theorem rel151 {j : Int} : Rel 151 j := relT (Or.inr (Or.inr (Or.inr (Or.inr (Or.inr (Or.inr (Or.inr (Or.inr (Or.inr (Or.inr rfl))))))))))
theorem relM {a j : Int} (h : (a = 95 ∧ 3 ≤ j) ∨ (a = 62 ∧ j = 53) ∨ (a = 97 ∧ 6 ≤ j) ∨ (a = 98 ∧ 6 ≤ j) ∨ (a = 99 ∧ 70 ≤ j) ∨ (a = 100 ∧ 6 ≤ j)) : Rel a j := by
  rcases h with ⟨rfl, h⟩ | ⟨rfl, rfl⟩ | ⟨rfl, h⟩ | ⟨rfl, h⟩ | ⟨rfl, h⟩ | ⟨rfl, h⟩
  · exact relT (Or.inl ⟨rfl, h⟩)
  · exact rel62 (by decide)
  · exact relT (Or.inr (Or.inr (Or.inl ⟨rfl, h⟩)))
  · exact relT (Or.inr (Or.inr (Or.inr (Or.inl ⟨rfl, h⟩))))
  · exact relT (Or.inr (Or.inr (Or.inr (Or.inr (Or.inl ⟨rfl, h⟩)))))
  · exact relT (Or.inr (Or.inr (Or.inr (Or.inr (Or.inr (Or.inl ⟨rfl, h⟩))))))
theorem XRm.ex2 {m z : Mem} {r : Int} {ρ : Mem} (h : XRm m r ρ) (e : ∀ a j, r ≤ a → a ≤ r + 13 → a ≠ r + 10 → z a j = m a j) : XRm z r ρ := by
  obtain ⟨⟨x1, x2, x3, x4⟩, xL, xS, xA, xM⟩ := h
  refine ⟨⟨by rw [e _ _ (by omega) (by omega) (by omega)]; exact x1, by rw [e _ _ (by omega) (by omega) (by omega)]; exact x2, by rw [e _ _ (by omega) (by omega) (by omega)]; exact x3, by rw [e _ _ (by omega) (by omega) (by omega)]; exact x4⟩, fun i hi => ?_, fun s hs => ?_, fun s hs => ?_, fun i hi => ?_⟩
  · rw [e _ _ (by omega) (by omega) (by omega), e _ _ (by omega) (by omega) (by omega)]; exact xL i hi
  · rw [e _ _ (by omega) (by omega) (by omega), e _ _ (by omega) (by omega) (by omega), e _ _ (by omega) (by omega) (by omega)]
    exact ⟨(xS s hs).1, (xS s hs).2.1, (xS s hs).2.2.1, fun k hk => by rw [e _ _ (by omega) (by omega) (by omega)]; exact (xS s hs).2.2.2 k hk⟩
  · rw [e _ _ (by omega) (by omega) (by omega)]; exact xA s hs
  · rw [e _ _ (by omega) (by omega) (by omega)]; exact xM i hi
theorem rel_room {r a : Int} (j : Int) (H : RoomAt r) (h1 : r ≤ a) (h2 : a ≤ r + 13) (h3 : a ≠ r + 10) : Rel a j := by
  left
  rcases H with rfl | rfl <;> omega
theorem InvB.ex {C : Int → Int → Prop} {n : Nat} {m z ρ : Mem} {nr : Int} {w : Int → Int} (h : InvB n m ρ nr w) (he : Ex C m z) (hc : ∀ a j, C a j → ¬ Rel a j) : InvB n z ρ nr w := by
  have e : ∀ a j, Rel a j → z a j = m a j := fun a j q => he a j (fun c => hc a j c q)
  obtain ⟨⟨t1, t2, t3⟩, hB, hX, hM, ⟨hl, hxl, hml, hn⟩, hT, hR, hF, hD, hP, hS, hI, ⟨hW, hs⟩, ⟨w1, w2, w3⟩⟩ := h
  have e2 : z 0 2 = m 0 2 := e 0 2 rel0
  have e3 : z 0 3 = m 0 3 := e 0 3 rel0
  have e1 : z 0 1 = m 0 1 := e 0 1 rel0
  have er : ∀ a j, m 0 2 ≤ a → a ≤ m 0 2 + 13 → a ≠ m 0 2 + 10 → z a j = m a j := fun a j q1 q2 q3 => e a j (rel_room j t1 q1 q2 q3)
  have e58 : ∀ j, z 57 j = m 57 j := fun j => e 57 j (rel57 (by decide))
  unfold InvB
  rw [e2, e3]
  refine ⟨⟨t1, t2, t3⟩, hB, hX.ex2 er, hM.ex (C := fun a j => ¬ Rel a j) (fun a j q => e a j (Classical.not_not.mp q)) (fun a j q c => c (relM q)), ⟨hl, ?_, ?_, ?_⟩, ?_, ?_, ?_, ?_, ?_, ?_, ?_, ?_, ?_⟩
  · exact ⟨fun k hk => by rw [er _ _ (by omega) (by omega) (by omega)]; exact hxl.1 k hk, fun j hj => by rw [er _ _ (by omega) (by omega) (by omega)]; exact hxl.2 j hj⟩
  · exact ⟨fun k hk => by rw [e 101 _ (relT (Or.inr (Or.inr (Or.inr (Or.inr (Or.inr (Or.inr (Or.inl ⟨rfl, by omega⟩)))))))), e 102 _ (relT (Or.inr (Or.inr (Or.inr (Or.inr (Or.inr (Or.inr (Or.inr (Or.inl ⟨rfl, by omega⟩)))))))))]; exact hml.1 k hk, fun j hj => by rw [e 103 _ (relT (Or.inr (Or.inr (Or.inr (Or.inr (Or.inr (Or.inr (Or.inr (Or.inr (Or.inl ⟨rfl, by omega⟩))))))))))]; exact hml.2 j hj⟩
  · refine ⟨fun s hs => ?_, fun k hk => ?_⟩
    · have q := hn.1 s hs
      rw [e 96 _ (relT (Or.inr (Or.inl ⟨rfl, by omega⟩))), show (fun j => z (m 0 2 + 12) (s * 6 + j)) = fun j => m (m 0 2 + 12) (s * 6 + j) from funext fun j => er _ _ (by omega) (by omega) (by omega)]
      exact q
    · have q := hn.2 k hk
      rw [e 96 _ (relT (Or.inr (Or.inl ⟨rfl, by omega⟩))), show (fun j => z (m 0 2 + 12) ((10 + k) * 6 + j)) = fun j => m (m 0 2 + 12) ((10 + k) * 6 + j) from funext fun j => er _ _ (by omega) (by omega) (by omega)]
      exact q
  · unfold TapeL
    rw [e1, e 62 1 (rel62 (by decide))]
    exact ⟨hT.1, hT.2.1, fun i hi => by rw [e 63 _ (rel63 (by decide)), e 1 _ rel1]; exact hT.2.2 i hi⟩
  · exact fun k hk => by rw [e 64 _ (rel63 (by decide)), e 61 _ (rel57 (by decide))]; exact hR k hk
  · unfold FltL
    rw [e 62 7 (rel62 (by decide)), e 62 8 (rel62 (by decide)), e 32 7 (rel32 (by decide)), e 32 8 (rel32 (by decide))]
    exact hF
  · unfold DayL
    rw [show z 57 = m 57 from funext e58]
    exact ⟨fun k hk => by rw [e 124 _ (rel124 (by decide))]; exact hD.1 k hk, hD.2⟩
  · unfold PastL
    rw [e58, e 62 83 (rel62 (by decide)), e 62 84 (rel62 (by decide))]
    have e8 : ∀ j, z 58 j = m 58 j := fun j => e 58 j (rel57 (by decide))
    have e5 : ∀ j, z 125 j = m 125 j := fun j => e 125 j (rel124 (by decide))
    rw [show z 58 = m 58 from funext e8, show z 125 = m 125 from funext e5]
    exact hP
  · unfold SeedL
    rw [e58, e 62 85 (rel62 (by decide))]
    exact hS
  · unfold PicL
    rw [e 62 122 (rel62 (by decide)), e 0 12 rel0]
    exact ⟨hI.1, hI.2.1, fun k hk => by rw [e 151 _ rel151, e 60 _ (rel57 (by decide))]; exact hI.2.2 k hk⟩
  · refine ⟨fun a j q => by rw [e a j (q.elim (fun q => rel63 ⟨by omega, by omega⟩) (fun q => rel124 ⟨by omega, by omega⟩))]; exact hW a j q, ?_⟩
    unfold SpL
    rw [e 9 0 (rel_room (r := 2) 0 (Or.inl rfl) (by omega) (by omega) (by omega)), e 24 0 (rel_room (r := 17) 0 (Or.inr rfl) (by omega) (by omega) (by omega)), e 13 0 (rel_room (r := 2) 0 (Or.inl rfl) (by omega) (by omega) (by omega)), e 28 0 (rel_room (r := 17) 0 (Or.inr rfl) (by omega) (by omega) (by omega))]
    exact hs
  · exact ⟨w1.ex (C := fun a j => ¬ Rel a j) (fun a j q => e a j (Classical.not_not.mp q)) (fun a j q c => c (by rcases q with ⟨rfl, -⟩ | rfl; exact rel0; exact rel57 (by decide))), w2.ex (C := fun a j => ¬ Rel a j) (fun a j q => e a j (Classical.not_not.mp q)) (fun a j q c => c (by rcases q with ⟨rfl, rfl⟩ | rfl; exact rel62 (by decide); exact rel124 (by decide))), w3⟩
theorem InvB.up {n : Nat} {m ρ : Mem} {nr : Int} {w : Int → Int} (h : InvB n m ρ nr w) : InvB (n + 1) m ρ nr w := by
  obtain ⟨h1, hB, hX, hM, h2, hT, hR, h3⟩ := h
  exact ⟨h1, hB, hX, hM, h2, hT, fun k hk => by have := hR k hk; omega, h3⟩
/-- what searches keep: their cells -/
def CaC (a j : Int) : Prop := (a = 37 ∧ j = 1) ∨ a = 38 ∨ (a = 44 ∧ (j = 4 ∨ j = 5 ∨ j = 10 ∨ j = 11)) ∨ a = 46 ∨ a = 48 ∨ a = 50 ∨ a = 51
def CaFr (Ca : Mem → Mem → Prop) : Prop := ∀ m z ρ : Mem, (∀ a j, CaC a j → z a j = m a j) → Ca m ρ → Ca z ρ
def Inv (Ca : Mem → Mem → Prop) (n : Nat) (m : Mem) : Prop := ∃ (ρ : Mem) (nr : Int) (w : Int → Int), InvB n m ρ nr w ∧ Ca m ρ
theorem Inv.up {Ca : Mem → Mem → Prop} {n : Nat} {m : Mem} (h : Inv Ca n m) : Inv Ca (n + 1) m := by
  obtain ⟨ρ, nr, w, h, c⟩ := h
  exact ⟨ρ, nr, w, h.up, c⟩
theorem InvB.xt {n : Nat} {m ρ : Mem} {nr : Int} {w : Int → Int} (h : InvB n m ρ nr w) : Xt m ρ := ⟨h.1.1, h.2.2.1, h.2.1⟩
