/-! rooms as texts: names, minutes, places, seams of the class -/
theorem ite_f {α : Type} {A P : Prop} [Decidable A] [Decidable P] {a b : α} (h : ¬ A) : (if A ∨ P then a else b) = if P then a else b := by
  by_cases c : P
  · rw [if_pos (Or.inr c), if_pos c]
  · rw [if_neg (fun q => q.elim h c), if_neg c]
section RD2
variable {sc : List Int} {d : Nat} {m ρ : Mem} {Q : Option AV → Mem → Prop} {T : Int → Int} {n : Nat} {rl : Bool} {F r : Int}
theorem rm_al (H : RoomAt r) : alen (r + 13) = 6 ∧ IsC (r + 13) 100 := by
  rcases H with rfl | rfl
  · exact ⟨al_15, ic_15⟩
  · exact ⟨al_30, ic_30⟩
theorem ltr_r (σ : Stt) (j : Nat) (hj : j < 6) {m : Mem} (hv : NmOK (ltr T n σ) (hornF (ltr T n σ) (ed T n σ - σ.1))) : R32 (ltr T n σ j) := nm_r32 hv j hj
def C_nm (r s a j : Int) : Prop := C_rd (r + 8) a j ∨ (a = r + 12 ∧ s * 6 ≤ j ∧ j < s * 6 + 6)
theorem s_name {x : Stt × List Int} {s : Int} (H : RoomAt r) (h : XR T n true (r + 8) m (.ok x)) (ht : XRt m r ρ) (hb : RmC ρ) (hn : NmI ρ) (hs : (s = ρ 0 1 ∧ s < 10) ∨ (s = 10 + ρ 0 2 ∧ ρ 0 2 < 4)) (hd : 8 ≤ d) : P_X5_name sc d [aR 32, aR r, aI s] m (fun v z => v = none ∧ Ex (C_nm r s) m z ∧ XR T n true (r + 8) z (nmeR T n ρ x) ∧ ∀ y, nmeR T n ρ x = .ok y → ∀ j : Nat, j < 6 → z (r + 12) (s * 6 + j) = ltr T n x.1 j) := by
  have rb := room_bd H
  have b := hb.1
  have n1 := h.1.1
  have e4 : m 32 4 = kd T n x.1 := h.kok
  have e3 := h.s3
  have e2 : m 32 2 = (ed T n x.1 : Nat) := h.2.2.2.2.1.2.2.1
  have xn : x.1.1 ≤ n := h.2.2.2.2.2.1
  have en := (ed_le (T := T) xn)
  have wb := @wi_bd T n x.1
  have s0 : 0 ≤ s ∧ s ≤ 13 := by omega
  have mono : ∀ {z : Mem}, Ex (C_rd (r + 8)) m z → Ex (C_nm r s) m z := fun e => e.mono (fun a j q => Or.inl q)
  have err1 : (kd T n x.1 ≠ 256 ∨ (0 ≤ wi T n x.1 ∧ wi T n x.1 < 30)) → S_X5_name sc d 32 [aR 32, aU, aU, aU] [aI (m 32 3), aI 1, aR 32] m (fun v z => v = none ∧ Ex (C_nm r s) m z ∧ XR T n true (r + 8) z (nmeR T n ρ x) ∧ ∀ y, nmeR T n ρ x = .ok y → ∀ j : Nat, j < 6 → z (r + 12) (s * 6 + j) = ltr T n x.1 j) := by
    intro c
    refine p_X5_name_32 (d2 := d - 1) (s_fail (k := 1) h (by decide) (fun y e => by omega)) (by omega) ?_
    rintro z ⟨-, ze, hz⟩
    have e : nmeR T n ρ x = .error (1, x.1.1) := by unfold nmeR; rw [if_pos c]
    rw [e]
    rw [e3] at hz
    exact g_X5_name_35 ⟨rfl, mono ze, hz, fun y q => by cases q⟩
  have big : kd T n x.1 = 256 → ¬ (0 ≤ wi T n x.1 ∧ wi T n x.1 < 30) → (R32 (m 32 2 - m 32 3)) ∧ ((m 32 2 - m 32 3 ≤ 6) → S_X5_name sc d 65 [aR 32, aR r, aI s, aI 0] [] m (fun v z => v = none ∧ Ex (C_nm r s) m z ∧ XR T n true (r + 8) z (nmeR T n ρ x) ∧ ∀ y, nmeR T n ρ x = .ok y → ∀ j : Nat, j < 6 → z (r + 12) (s * 6 + j) = ltr T n x.1 j)) ∧ (¬ (m 32 2 - m 32 3 ≤ 6) → S_X5_name sc d 59 [aR 32, aU, aU, aU] [aI (m 32 3 + 6), aI 1, aR 32] m (fun v z => v = none ∧ Ex (C_nm r s) m z ∧ XR T n true (r + 8) z (nmeR T n ρ x) ∧ ∀ y, nmeR T n ρ x = .ok y → ∀ j : Nat, j < 6 → z (r + 12) (s * 6 + j) = ltr T n x.1 j)) := by
    intro c1 c2
    have c12 : ¬ (kd T n x.1 ≠ 256 ∨ (0 ≤ wi T n x.1 ∧ wi T n x.1 < 30)) := by
      rintro (q | q)
      · exact q c1
      · exact c2 q
    refine ⟨by omega, fun c => ?_, fun c => ?_⟩
    · have c6 : (ed T n x.1 : Int) ≤ (x.1.1 : Int) + 6 := by omega
      have nm := ltr_nm c1 h.1.by c6
      have key : ∀ (k i : Nat) (z : Mem), i + k = 6 → Ex (fun a j => a = r + 12 ∧ s * 6 ≤ j ∧ j < s * 6 + 6) m z → (∀ j : Nat, j < i → z (r + 12) (s * 6 + j) = ltr T n x.1 j) → S_X5_name sc d 65 [aR 32, aR r, aI s, aI i] [] z (fun v z => v = none ∧ Ex (C_nm r s) m z ∧ XR T n true (r + 8) z (nmeR T n ρ x) ∧ ∀ y, nmeR T n ρ x = .ok y → ∀ j : Nat, j < 6 → z (r + 12) (s * 6 + j) = ltr T n x.1 j) := by
        intro k
        induction k with
        | zero =>
          intro i z hi ze hk
          have hz : XR T n true (r + 8) z (.ok x) := h.exr ze (fun a j q => by omega)
          have tz : XRm z r ρ := ht.1.ex3 (fun a j q => ze a j (by omega))
          have tz2 : XRt z r ρ := ⟨tz, fun k hk => by rw [ze _ _ (by omega)]; exact ht.2.1 k hk, fun j hj => by rw [ze _ _ (by omega)]; exact ht.2.2 j hj⟩
          have r32 := nm_r32 nm
          have z3 : z 32 3 = (x.1.1 : Nat) := hz.s3
          refine g_X5_name_65 H ⟨by omega, fun q => ?_, fun q => by omega⟩
          refine p_X5_name_123 (d2 := d - 1) H (s_isNamed (f := ltr T n x.1) H tz2 hb hn s0 (fun j hj => ⟨hk j (by omega), r32 j hj⟩) (by omega)) (by omega) ?_
          rintro _ y ⟨e, rfl⟩; cases e
          by_cases cf : fresh ρ (ltr T n x.1)
          · rw [if_pos cf]
            refine g_X5_name_126 ⟨by omega, fun _ => ?_, fun q => by omega⟩
            refine p_X5_name_142 (d2 := d - 1) (s_advance hz (by omega)) (by omega) ?_
            rintro u ⟨-, ue, hu⟩
            have e : nmeR T n ρ x = .ok (nx T n x.1, x.2) := by unfold nmeR; rw [if_neg c12, if_neg (by omega), if_pos cf]
            rw [e]
            refine g_X5_name_145 ⟨rfl, (ze.mono (fun a j q => Or.inr q)).trans (ue.mono (fun a j q => Or.inl q)), hu, fun _ _ j hj => ?_⟩
            rw [ue _ _ (fun q => by unfold C_rd at q; omega)]
            exact hk j (by omega)
          · rw [if_neg cf]
            refine g_X5_name_126 ⟨by omega, fun q => by omega, fun _ => ?_⟩
            refine p_X5_name_135 (d2 := d - 1) (s_fail (k := 3) hz (by decide) (fun y e => by omega)) (by omega) ?_
            rintro u ⟨-, ue, hu⟩
            have e : nmeR T n ρ x = .error (3, x.1.1) := by unfold nmeR; rw [if_neg c12, if_neg (by omega), if_neg cf]
            rw [e]
            rw [z3] at hu
            exact g_X5_name_138 (g_X5_name_145 ⟨rfl, (ze.mono (fun a j q => Or.inr q)).trans (ue.mono (fun a j q => Or.inl q)), hu, fun y q => by cases q⟩)
        | succ k ih =>
          intro i z hi ze hk
          have hz : XR T n true (r + 8) z (.ok x) := h.exr ze (fun a j q => by omega)
          have z3 : z 32 3 = (x.1.1 : Nat) := hz.s3
          have z2 : z 32 2 = (ed T n x.1 : Nat) := hz.2.2.2.2.1.2.2.1
          have z0 : z 32 0 = 1 := hz.1.2.1
          refine g_X5_name_65 H ⟨by omega, fun q => by omega, fun q => ⟨by omega, by omega, fun _ => by rw [z0]; exact ic_1, fun _ => by omega, fun q2 => by rw [z0, al_1]; omega, by omega, by omega, ?_⟩⟩
          have vv : (if z 32 2 ≤ z 32 3 + i then 0 else z (z 32 0) (z 32 3 + i) - 97 + 1 : Int) = ltr T n x.1 i := by
            unfold ltr
            rw [z3, z2, z0]
            by_cases g : ((ed T n x.1 : Nat) : Int) ≤ (x.1.1 : Int) + i
            · rw [if_pos g, if_pos g]
            · rw [if_neg g, if_neg g]
              have := (hz.1.2.2.2 (x.1.1 + i) (by omega)).1
              rw [show ((x.1.1 + i : Nat) : Int) = (x.1.1 : Int) + i by omega] at this
              rw [this]
          rw [vv]
          have := ih (i + 1) (wr z (r + 12) (s * 6 + i) (ltr T n x.1 i)) (by omega) (ze.put ⟨rfl, by omega, by omega⟩) (fun j hj => by
            by_cases e : j = i
            · rw [e, wr_eq]
            · rw [wr_ne _ _ _ _ _ _ (by omega)]; exact hk j (by omega))
          rw [show ((i + 1 : Nat) : Int) = (i : Int) + 1 by omega] at this
          exact this
      exact key 6 0 m (by omega) (Ex.refl _ _) (fun j hj => absurd hj (by omega))
    · refine p_X5_name_59 (d2 := d - 1) (s_fail (k := 1) h (by decide) (fun y e => by omega)) (by omega) ?_
      rintro z ⟨-, ze, hz⟩
      have e : nmeR T n ρ x = .error (1, (x.1.1 : Int) + 6) := by unfold nmeR; rw [if_neg c12, if_pos (by omega)]
      rw [e]
      rw [e3] at hz
      exact g_X5_name_62 ⟨rfl, mono ze, hz, fun y q => by cases q⟩
  refine ep_X5_name (g_X5_name_0 H ⟨kd32 h, fun c => err1 (Or.inl (by omega)), fun c => ?_⟩)
  have k6 : kd T n x.1 = 256 := by omega
  have e5 : m 32 5 = wi T n x.1 := h.2.2.2.2.1.2.2.2.1 k6
  exact ⟨by omega, fun c2 => big k6 (by omega), fun c2 => ⟨fun c3 => big k6 (by omega), fun c3 => err1 (Or.inr (by omega))⟩⟩
theorem xt_min {w : Int} (h : 0 ≤ w ∧ w ≤ 5) : (xt sc (-3)).getD w.toNat 0 = loM w ∧ (xt sc (-4)).getD w.toNat 0 = hiM w := by
  rcases (by omega : w = 0 ∨ w = 1 ∨ w = 2 ∨ w = 3 ∨ w = 4 ∨ w = 5) with rfl | rfl | rfl | rfl | rfl | rfl <;> exact ⟨rfl, rfl⟩
theorem s_tellMinutes {x : Stt × List Int} {w : Int} (H : RoomAt r) (h : XR T n true (r + 8) m (.ok x)) (ht : XRt m r ρ) (hw : -1 ≤ w ∧ w ≤ 40) (hd : 8 ≤ d) : P_X5_tellMinutes sc d [aR 32, aR r, aI w] m (PX T n r m (if 9 ≤ w ∧ w ≤ 14 then minB T n (w - 9) x ρ else .error (1, x.1.1))) := by
  have rb := room_bd H
  have n1 := h.1.1
  have e3 := h.s3
  have xn : x.1.1 ≤ n := h.2.2.2.2.2.1
  have err1 : ¬ (9 ≤ w ∧ w ≤ 14) → S_X5_tellMinutes sc d 24 [aR 32, aU, aU, aU] [aI (m 32 3), aI 1, aR 32] m (PX T n r m (if 9 ≤ w ∧ w ≤ 14 then minB T n (w - 9) x ρ else .error (1, x.1.1))) := by
    intro c
    refine p_X5_tellMinutes_24 (d2 := d - 1) (s_fail (k := 1) h (by decide) (fun y e => by omega)) (by omega) ?_
    rintro z ⟨-, ze, hz⟩
    rw [if_neg c]
    rw [e3] at hz
    exact g_X5_tellMinutes_27 ⟨rfl, ze.mono (fun a j q => rm_rd q), hz, fun a q => by cases q⟩
  refine ep_X5_tellMinutes (g_X5_tellMinutes_0 H ⟨by omega, fun c => err1 (by omega), fun c => ⟨fun c2 => ?_, fun c2 => err1 (by omega)⟩⟩)
  have cw : 9 ≤ w ∧ w ≤ 14 := by omega
  rw [if_pos cw]
  refine p_X5_tellMinutes_29 (d2 := d - 1) H (s_advance h (by omega)) (by omega) ?_
  rintro z ⟨-, ze, hz⟩
  have hz : XR T n true (r + 8) z (.ok (nx T n x.1, x.2)) := hz
  have xm := xt_min (sc := sc) (w := w - 9) (by omega)
  refine g_X5_tellMinutes_32 H ⟨by omega, by omega, ?_⟩
  rw [xm.1, xm.2]
  have al := rm_al H
  refine p_X5_tellMinutes_48 (d2 := d - 1) al.2 (s_number hz (by unfold loM; split <;> omega) (by unfold hiM; split <;> (try split) <;> omega) (by omega)) (by omega) ?_
  rintro v u ⟨_, e, ⟨ue, hu⟩, hv⟩; cases e
  have tu : XRt u r ρ := (ht.rd H ze).rd H ue
  have eu : Ex (C_rm r) m u := (ze.mono (fun a j q => rm_rd q)).trans (ue.mono (fun a j q => rm_rd q))
  refine g_X5_tellMinutes_51 al.2 ⟨by omega, by rw [al.1]; omega, rfl, eu.put (Or.inr ⟨by omega, by omega, by omega, by omega⟩), ?_, ?_⟩
  · have := hu.exr (C := fun a j => a = r + 13) ((Ex.refl _ _).put rfl : Ex _ u (wr u (r + 13) (w - 9) v)) (fun a j q => by omega)
    unfold minB
    cases g : numR T n (loM (w - 9)) (hiM (w - 9)) (nx T n x.1) with
    | ok y => rw [show (Except.ok (nx T n x.1, x.2) : Rs).bind (fun x => (numR T n (loM (w - 9)) (hiM (w - 9)) x.1).bind fun _ => .ok (nx T n x.1, x.2)) = (numR T n (loM (w - 9)) (hiM (w - 9)) (nx T n x.1)).bind (fun _ => .ok (nx T n (nx T n x.1), x.2)) from rfl, g] at this; exact this
    | error y => rw [show (Except.ok (nx T n x.1, x.2) : Rs).bind (fun x => (numR T n (loM (w - 9)) (hiM (w - 9)) x.1).bind fun _ => .ok (nx T n x.1, x.2)) = (numR T n (loM (w - 9)) (hiM (w - 9)) (nx T n x.1)).bind (fun _ => .ok (nx T n (nx T n x.1), x.2)) from rfl, g] at this; exact this
  · intro a ha
    unfold minB at ha
    obtain ⟨y, e1, ha⟩ := bind_ok ha
    have := hv _ y rfl e1
    subst this
    cases ha
    show XRt (wr u (r + 13) (w - 9) v) r (wr ρ 7 (w - 9) v)
    obtain ⟨⟨⟨x1, x2, x3, x4⟩, xL, xS, xA, xM⟩, y1, y2⟩ := tu
    have zn : ∀ a j, a ≠ r + 13 → wr u (r + 13) (w - 9) v a j = u a j := fun a j q => wr_na _ _ _ _ _ _ q
    have zr : ∀ a, a ≠ 7 → wr ρ 7 (w - 9) v a = ρ a := fun a q => funext fun j => wr_na _ _ _ _ _ _ q
    refine ⟨⟨⟨?_, ?_, ?_, ?_⟩, ?_, ?_, ?_, ?_⟩, ?_, ?_⟩
    · rw [zn _ _ (by omega), zr 0 (by decide)]; exact x1
    · rw [zn _ _ (by omega), zr 0 (by decide)]; exact x2
    · rw [zn _ _ (by omega), zr 0 (by decide)]; exact x3
    · rw [zn _ _ (by omega), zr 0 (by decide)]; exact x4
    · rw [zr 0 (by decide), zr 1 (by decide), zr 2 (by decide)]
      intro i hi
      rw [zn _ _ (by omega), zn _ _ (by omega)]; exact xL i hi
    · rw [zr 0 (by decide), zr 3 (by decide), zr 4 (by decide), zr 5 (by decide), zr 6 (by decide)]
      intro s hs
      rw [zn _ _ (by omega), zn _ _ (by omega), zn _ _ (by omega)]
      exact ⟨(xS s hs).1, (xS s hs).2.1, (xS s hs).2.2.1, fun k hk => by rw [zn _ _ (by omega)]; exact (xS s hs).2.2.2 k hk⟩
    · rw [zr 0 (by decide), zr 3 (by decide)]
      intro s hs
      rw [zn _ _ (by omega)]; exact xA s hs
    · intro i hi
      by_cases c : (i : Int) = w - 9
      · rw [c, wr_eq, wr_eq]
      · rw [wr_ne _ _ _ _ _ _ (by omega), wr_ne _ _ _ _ _ _ (by omega)]; exact xM i hi
    · rw [zr 0 (by decide), zr 10 (by decide)]
      intro k hk
      rw [zn _ _ (by omega)]; exact y1 k hk
    · rw [zr 0 (by decide), zr 8 (by decide)]
      intro j hj
      rw [zn _ _ (by omega)]; exact y2 j hj
def C_pl (r s a j : Int) : Prop := C_rd (r + 8) a j ∨ (a = r + 5 ∧ s * 4 ≤ j ∧ j < s * 4 + 4)
def plQ (q : List Int) : Es (Stt × List Int) → Rs
  | .ok a => .ok (a.1, q)
  | .error e => .error e
def PPl (T : Int → Int) (n : Nat) (r s : Int) (m : Mem) (q : List Int) (p : Es (Stt × List Int)) : Option AV → Mem → Prop := fun v z => ∃ c, v = some (aI c) ∧ Ex (C_pl r s) m z ∧ XR T n true (r + 8) z (plQ q p) ∧ ∀ a, p = .ok a → c = (a.2.length : Nat) ∧ ∀ k : Nat, k < a.2.length → z (r + 5) (s * 4 + k) = a.2.getD k 0
theorem s_tellPlaces {x : Stt × List Int} {y s : Int} (H : RoomAt r) (h : XR T n true (r + 8) m (.ok x)) (hs : m r 8 = s ∧ 0 ≤ s ∧ s < 10) (hy : 1 ≤ y ∧ y ≤ 99) (hd : 8 ≤ d) : P_X5_tellPlaces sc d [aR 32, aR r, aI y] m (PPl T n r s m x.2 (plsR T n y 4 0 (nx T n x.1) [])) := by
  have rb := room_bd H
  have fin : ∀ (e : Int × Int) (c : Int) (z : Mem), Ex (C_pl r s) m z → XR T n true (r + 8) z (.error e) → (m r 8 = z r 8) → ∀ b i : Int, 1 ≤ i ∧ i ≤ 4 → S_X5_tellPlaces sc d 12 [aR 32, aR r, aI y, aI c, aI b, aI i] [] z (PPl T n r s m x.2 (.error e)) := by
    intro e c z ze hz h8 b i hi
    have e4 := hz.err
    have k9 : S_X5_tellPlaces sc d 90 [aR 32, aU, aU, aI c, aU, aU] [] z (PPl T n r s m x.2 (.error e)) := g_X5_tellPlaces_90 ⟨c, rfl, ze, hz, fun a q => by cases q⟩
    refine g_X5_tellPlaces_12 H ⟨by omega, fun g => ⟨kd32 hz, fun _ => k9, fun q => by omega⟩, fun g => ⟨fun q => by omega, fun _ => ⟨kd32 hz, fun _ => ⟨fun _ => k9, fun q => by omega⟩, fun q => by omega⟩⟩⟩
  have key : ∀ (f : Nat) (b : Int) (σ : Stt) (l : List Int) (z : Mem), l.length + f = 4 → Ex (C_pl r s) m z → XR T n true (r + 8) z (.ok (σ, x.2)) → 0 ≤ b ∧ b ≤ 98 → (l = [] ∨ kd T n σ = 257 ∨ True) → (∀ k : Nat, k < l.length → z (r + 5) (s * 4 + k) = l.getD k 0) → S_X5_tellPlaces sc d 12 [aR 32, aR r, aI y, aI ((l.length : Nat) : Int), aI b, aI ((l.length : Nat) : Int)] [] z (PPl T n r s m x.2 (if l.length = 0 ∨ kd T n σ = 257 then plsR T n y f b σ l else .ok (σ, l))) := by
    intro f
    induction f with
    | zero =>
      intro b σ l z hl ze hz hb _ hk
      have n1 := hz.1.1
      have e4 : z 32 4 = kd T n σ := hz.kok
      have e3 : z 32 3 = (σ.1 : Nat) := hz.s3
      have xn : σ.1 ≤ n := hz.2.2.2.2.2.1
      refine g_X5_tellPlaces_12 H ⟨by omega, fun _ => ⟨kd32 hz, fun g => ?_, fun g => ?_⟩, fun g => by omega⟩
      · rw [if_neg (by omega)]
        exact g_X5_tellPlaces_90 ⟨_, rfl, ze, hz, fun a q => by cases q; exact ⟨rfl, hk⟩⟩
      · rw [if_pos (Or.inr (by omega))]
        refine p_X5_tellPlaces_87 (d2 := d - 1) (s_fail (k := 5) hz (by decide) (fun y e => by omega)) (by omega) ?_
        rintro u ⟨-, ue, hu⟩
        rw [e3] at hu
        exact g_X5_tellPlaces_90 ⟨_, rfl, ze.trans (ue.mono (fun a j q => Or.inl q)), hu, fun a q => by cases q⟩
    | succ f ih =>
      intro b σ l z hl ze hz hb _ hk
      have n1 := hz.1.1
      have e4 : z 32 4 = kd T n σ := hz.kok
      have go : (l.length = 0 ∨ kd T n σ = 257) → S_X5_tellPlaces sc d 41 [aR 32, aR r, aI y, aI ((l.length : Nat) : Int), aU, aI ((l.length : Nat) : Int)] [aI (y - 1), aI (b + 1), aR 32] z (PPl T n r s m x.2 (if l.length = 0 ∨ kd T n σ = 257 then plsR T n y (f + 1) b σ l else .ok (σ, l))) := by
        intro c
        rw [if_pos c]
        refine p_X5_tellPlaces_41 (d2 := d - 1) H (s_number hz (by omega) (by omega) (by omega)) (by omega) ?_
        rintro v u ⟨_, e, ⟨ue, hu⟩, hv⟩; cases e
        have eu : Ex (C_pl r s) m u := ze.trans (ue.mono (fun a j q => Or.inl q))
        have u8 : u r 8 = s := by rw [eu _ _ (fun q => by unfold C_pl C_rd at q; omega)]; exact hs.1
        rw [show (Except.ok (σ, x.2) : Rs).bind (fun x => (numR T n (b + 1) (y - 1) x.1).bind fun _ => .ok (nx T n x.1, x.2)) = (numR T n (b + 1) (y - 1) σ).bind (fun _ => .ok (nx T n σ, x.2)) from rfl] at hu
        refine g_X5_tellPlaces_44 H ⟨by omega, by omega, ?_⟩
        rw [u8]
        have pe : Ex (C_pl r s) m (wr u (r + 5) (s * 4 + ((l.length : Nat) : Int)) v) := eu.put (Or.inr ⟨rfl, by omega, by omega⟩)
        have px := hu.exr (C := fun a j => a = r + 5) ((Ex.refl _ _).put rfl : Ex _ u (wr u (r + 5) (s * 4 + ((l.length : Nat) : Int)) v)) (fun a j q => by omega)
        rw [plsR]
        cases g : numR T n (b + 1) (y - 1) σ with
        | error e0 =>
          rw [g] at px
          exact fin e0 _ _ pe px (by rw [pe _ _ (fun q => by unfold C_pl C_rd at q; omega)]) v _ (by omega)
        | ok v2 =>
          rw [g] at px
          have e := hv _ v2 rfl g
          subst e
          have v3 := numR_ok g
          have := ih v (nx T n σ) (l ++ [v]) _ (by rw [List.length_append, List.length_singleton]; omega) pe px (by omega) (Or.inr (Or.inr trivial)) (fun k hk2 => by
            rw [List.length_append, List.length_singleton] at hk2
            by_cases ek : k = l.length
            · rw [ek, wr_eq, gd_e]
            · rw [wr_ne _ _ _ _ _ _ (by omega), gd_l (by omega), ue _ _ (fun q => by unfold C_rd at q; omega)]
              exact hk k (by omega))
          rw [List.length_append, List.length_singleton] at this
          rw [show ((l.length + 1 : Nat) : Int) = (l.length : Int) + 1 by omega] at this
          rw [ite_f (by omega)] at this
          exact this
      refine g_X5_tellPlaces_12 H ⟨by omega, fun g => by omega, fun g => ⟨fun q => go (Or.inl (by omega)), fun q => ⟨kd32 hz, fun q2 => ⟨fun _ => ?_, fun q3 => absurd q2 q3⟩, fun q2 => go (Or.inr (by omega))⟩⟩⟩
      rw [if_neg (by omega)]
      exact g_X5_tellPlaces_90 ⟨_, rfl, ze, hz, fun a q => by cases q; exact ⟨rfl, hk⟩⟩
  refine ep_X5_tellPlaces (g_X5_tellPlaces_0 H (p_X5_tellPlaces_1 (d2 := d - 1) H (s_advance h (by omega)) (by omega) ?_))
  rintro z ⟨-, ze, hz⟩
  have := key 4 0 (nx T n x.1) [] z rfl (ze.mono (fun a j q => Or.inl q)) hz (by decide) (Or.inl rfl) (fun k hk => absurd hk (by show ¬ k < 0; omega))
  exact g_X5_tellPlaces_4 H this
end RD2
