/-! what a formula comes to: the reference -/
section WM
variable {sc : List Int} {d : Nat} {m : Mem} {Q : Option AV → Mem → Prop} {ρ : Mem}
/-- the parts at a seam -/
def ptA (ρ : Mem) (s : Nat) (u L ch me : Int) (i : Int) : Int := if i = 0 then ρ 3 s else if i = 1 then ρ 4 s else if i = 2 then u else if i = 3 then s else if i = 4 then restF ρ s else if i = 5 then minF (ρ 1) (ρ 0 0).toNat else if i = 6 then maxF (ρ 1) (ρ 0 0).toNat else if i = 7 then L - u else if i = 8 then ch else me
theorem ptA_bd {s : Nat} {u L ch me : Int} (hb : RmB ρ) (hs : (s : Int) < ρ 0 1) (hu : 0 ≤ u ∧ u ≤ 999) (hL : 0 ≤ L ∧ L ≤ 99) (hc : ch = 0 ∨ ch = 1) (hm : me = 0 ∨ me = 1) (i : Int) : -1000000 ≤ ptA ρ s u L ch me i ∧ ptA ρ s u L ch me i ≤ 1000000 := by
  have b0 := hb.1
  have t := hb.2.2.2.1 s hs
  have r := restF_bd hb s (by omega)
  have l1 := minF_bd (f := ρ 1) (n := (ρ 0 0).toNat) (fun i hi => (hb.2.2.1 i (by omega)).1.1)
  have l2 := maxF_bd (f := ρ 1) (b := 99) (n := (ρ 0 0).toNat) (by decide) (fun i hi => (hb.2.2.1 i (by omega)).1.2)
  unfold ptA
  split
  · omega
  split
  · omega
  split
  · omega
  split
  · omega
  split
  · omega
  split
  · omega
  split
  · omega
  split
  · omega
  split <;> omega
theorem s_qPartOf {rl : Bool} {s : Nat} {u L ch me i x : Int} (h : MRm m ρ) (hb : RmB ρ) (hs : (s : Int) < ρ 0 1) (hd : 2 ≤ d) (ha : alw rl i) (e5 : m 62 55 = s) (e6 : m 62 56 = u) (hu : 0 ≤ u ∧ u ≤ 999) (hn : rl = true → 1 ≤ ρ 0 0) (hq : rl = false → m 62 57 = L ∧ m 108 s = ch ∧ m 109 s = me ∧ (0 ≤ L ∧ L ≤ 99) ∧ (ch = 0 ∨ ch = 1) ∧ (me = 0 ∨ me = 1)) : P_X8_qPartOf sc d [aR 62, aI i, aI x] m (PV (aJ (ptA ρ s u L ch me i)) m) := by
  have b0 := hb.1
  have t := hb.2.2.2.1 s hs
  obtain ⟨a1, a2, a3⟩ := ha
  have rb := restF_bd hb s (by omega)
  have l1 := minF_bd (f := ρ 1) (n := (ρ 0 0).toNat) (fun i hi => (hb.2.2.1 i (by omega)).1.1)
  have l2 := maxF_bd (f := ρ 1) (b := 99) (n := (ρ 0 0).toNat) (by decide) (fun i hi => (hb.2.2.1 i (by omega)).1.2)
  have qf : 7 ≤ i → rl = false := fun c => by rcases a3 with ⟨g, g2⟩ | ⟨g, -⟩; omega; exact g
  have qt : 4 ≤ i → i ≤ 6 → rl = true := fun c c2 => by rcases a3 with ⟨g, g2⟩ | ⟨g, g2⟩; exact g; omega
  refine ep_X8_qPartOf (g_X8_qPartOf_0 ⟨by first | omega | (unfold R32; omega), fun c => ?_, fun c => ?_, fun c => ?_, fun c => ?_, fun c => ?_, fun c => ?_, fun c => ?_, fun c => ?_, fun c => ?_, fun c => ?_⟩)
  · subst c
    rw [e5]
    refine p_X8_qPartOf_57 (d2 := d - 1) (s_takesOf h hb hs) (by omega) ?_
    rintro _ z ⟨e, rfl⟩; cases e
    exact g_X8_qPartOf_60 ⟨by first | omega | (unfold R32; omega), rfl, rfl⟩
  · subst c
    rw [e5]
    refine p_X8_qPartOf_67 (d2 := d - 1) (s_isShown h hb hs) (by omega) ?_
    rintro _ z ⟨e, rfl⟩; cases e
    refine g_X8_qPartOf_70 ⟨by first | omega | (unfold R32; omega), ?_, rfl⟩
    show _ = some (aJ (ρ 4 s))
    congr 2
    rcases t.2.1 with e | e <;> rw [e] <;> rfl
  · subst c
    exact ⟨by first | omega | (unfold R32; omega), by rw [e6]; rfl, rfl⟩
  · subst c
    exact ⟨by first | omega | (unfold R32; omega), by rw [e5]; rfl, rfl⟩
  · subst c
    rw [e5]
    refine p_X8_qPartOf_96 (d2 := d - 1) (s_restOf h hb (by omega) (by omega)) (by omega) ?_
    rintro _ z ⟨e, rfl⟩; cases e
    exact g_X8_qPartOf_99 ⟨by first | omega | (unfold R32; omega), rfl, rfl⟩
  · subst c
    refine p_X8_qPartOf_102 (d2 := d - 1) (s_leastLength h hb (by omega) (hn (qt (by decide) (by decide)))) (by omega) ?_
    rintro _ z ⟨e, rfl⟩; cases e
    exact g_X8_qPartOf_105 ⟨by first | omega | (unfold R32; omega), rfl, rfl⟩
  · subst c
    refine p_X8_qPartOf_108 (d2 := d - 1) (s_mostLength h hb (by omega)) (by omega) ?_
    rintro _ z ⟨e, rfl⟩; cases e
    exact g_X8_qPartOf_111 ⟨by first | omega | (unfold R32; omega), rfl, rfl⟩
  · subst c
    obtain ⟨f1, f2, f3, f4, f5, f6⟩ := hq (qf (by decide))
    exact ⟨by first | omega | (unfold R32; omega), by rw [f1, e6]; rfl, rfl⟩
  · subst c
    obtain ⟨f1, f2, f3, f4, f5, f6⟩ := hq (qf (by decide))
    rw [e5, f2]
    exact ⟨by omega, by omega, by first | omega | (unfold R32; omega), rfl, rfl⟩
  · obtain rfl : i = 9 := by omega
    obtain ⟨f1, f2, f3, f4, f5, f6⟩ := hq (qf (by decide))
    rw [e5, f3]
    exact ⟨by omega, by omega, by first | omega | (unfold R32; omega), rfl, rfl⟩
theorem s_qClip {v : Int} (h : R64 v) : P_X8_qClip sc d [aJ v] m (PV (aJ (clp v)) m) := ep_X8_qClip (g_X8_qClip_0 ⟨h, rfl, rfl⟩)
theorem s_qFloor {a b : Int} (ha : -1000000 ≤ a ∧ a ≤ 1000000) (hb : -1000000 ≤ b ∧ b ≤ 1000000) : P_X8_qFloor sc d [aJ a, aJ b] m (PV (aJ (if b = 0 then 0 else a.fdiv b)) m) := by
  have ra : R64 a := by first | omega | (unfold R64; omega)
  have rb : R64 b := by first | omega | (unfold R64; omega)
  refine ep_X8_qFloor (g_X8_qFloor_0 ⟨rb, fun c => ⟨ra, c, ?_, ?_⟩, fun c => ?_⟩)
  · have e := Int.natAbs_tmod a b
    have := Nat.mod_le a.natAbs b.natAbs
    first | omega | (unfold R64; omega)
  · rw [if_neg c, fdiv_t c]
    by_cases t : a.tmod b = 0
    · rw [if_pos t, if_pos (Or.inl (Int.dvd_of_tmod_eq_zero t))]; exact ⟨rfl, rfl⟩
    · have nd : ¬ b ∣ a := fun w => t (Int.tmod_eq_zero_of_dvd w)
      rw [if_neg t]
      by_cases p : 0 ≤ a <;> by_cases q : 0 ≤ b
      · rw [if_pos p, if_pos q, if_pos (Or.inr ⟨fun _ => q, fun _ => p⟩)]; exact ⟨rfl, rfl⟩
      · rw [if_pos p, if_neg q, if_neg (fun z => z.elim nd (fun w => q (w.mp p)))]; exact ⟨rfl, rfl⟩
      · rw [if_neg p, if_pos q, if_neg (fun z => z.elim nd (fun w => p (w.mpr q)))]; exact ⟨rfl, rfl⟩
      · rw [if_neg p, if_neg q, if_pos (Or.inr ⟨fun w => absurd w p, fun w => absurd w q⟩)]; exact ⟨rfl, rfl⟩
  · rw [if_pos (Classical.not_not.mp c)]; exact ⟨rfl, rfl⟩
/-- the reference's pile -/
def PlM (m : Mem) (l : List Int) : Prop := m 62 118 = (l.length : Nat) ∧ stk (m 150) l
def C_q (a j : Int) : Prop := a = 150 ∨ (a = 62 ∧ j = 118)
theorem s_qPuts {v : Int} {l : List Int} (hp : PlM m l) (hl : l.length < 1700) : P_X8_qPuts sc d [aR 62, aJ v] m (fun w z => w = none ∧ Ex C_q m z ∧ PlM z (v :: l)) := by
  refine ep_X8_qPuts (g_X8_qPuts_0 ⟨by rw [hp.1]; omega, by rw [hp.1]; omega, rfl, ((Ex.refl C_q m).put (Or.inl rfl)).put (Or.inr ⟨rfl, rfl⟩), ?_, ?_, ?_⟩)
  · rw [wr_eq, wr_na _ _ _ _ _ _ (by decide), hp.1]; simp
  · rw [wr_na _ _ _ _ _ _ (by decide), hp.1, wr_eq]
  · refine hp.2.congr (fun i hi => ?_)
    rw [wr_na _ _ _ _ _ _ (by decide), wr_ne _ _ _ _ _ _ (by rw [hp.1]; omega)]
theorem s_qJoins {c u v : Int} {l : List Int} (hp : PlM m (v :: u :: l)) (hl : l.length < 1600) (hd : 1 ≤ d) (hc : 1 ≤ c ∧ c ≤ 11) (ub : -1000000 ≤ u ∧ u ≤ 1000000) (vb : -1000000 ≤ v ∧ v ≤ 1000000) : P_X8_qJoins sc d [aR 62, aI c] m (fun w z => w = none ∧ Ex C_q m z ∧ PlM z (jnF c u v :: l)) := by
  have e1 : m 62 118 - 1 = (l.length : Nat) + 1 := by rw [hp.1]; simp
  have e2 : m 62 118 - 2 = (l.length : Nat) := by rw [hp.1]; simp; omega
  have ev : m 150 ((l.length : Nat) + 1) = v := hp.2.1
  have eu : m 150 (l.length : Nat) = u := hp.2.2.1
  have ru : R64 u := by first | omega | (unfold R64; omega)
  have rv : R64 v := by first | omega | (unfold R64; omega)
  have pb : -1000000000000 ≤ u * v ∧ u * v ≤ 1000000000000 := by
    have h : (u * v).natAbs ≤ 1000000 * 1000000 := by rw [Int.natAbs_mul]; exact Nat.mul_le_mul (by omega) (by omega)
    omega
  have yx : Ex C_q m (wr m 62 118 (l.length : Nat)) := (Ex.refl C_q m).put (Or.inr ⟨rfl, rfl⟩)
  have yp : PlM (wr m 62 118 (l.length : Nat)) l := ⟨wr_eq _ _ _ _, hp.2.2.2.congr (fun i hi => wr_na _ _ _ _ _ _ (by decide))⟩
  have pu : ∀ (y : Mem) (w : Int), Ex C_q m y → PlM y l → P_X8_qPuts sc (d - 1) [aR 62, aJ w] y (fun o z => o = none ∧ Ex C_q m z ∧ PlM z (w :: l)) := fun y w ye yl => CallP.imp (s_qPuts yl (by omega)) (fun o z q => ⟨q.1, ye.trans q.2.1, q.2.2⟩)
  refine ep_X8_qJoins (g_X8_qJoins_0 ?_)
  rw [e1, e2, ev, eu]
  generalize wr m 62 118 (l.length : Nat) = y at yx yp ⊢
  refine ⟨by omega, by omega, by omega, by omega, by first | omega | (unfold R32; omega), fun c1 => ?_, fun c1 => ?_, fun c1 => ?_, fun c1 => ?_, fun c1 => ⟨ru, rv, ?_⟩, fun c1 => ⟨ru, rv, ?_⟩, fun c1 => ⟨ru, rv, ?_⟩, fun c1 => ⟨ru, rv, ?_⟩, fun c1 => ⟨ru, rv, ?_⟩, fun c1 => ?_, fun c1 => ⟨by first | omega | (unfold R64; omega), ?_⟩⟩
  · subst c1
    refine p_X8_qJoins_97 (d2 := d - 1) (s_qClip (by first | omega | (unfold R64; omega))) (by omega) ?_
    rintro _ z ⟨rfl, rfl⟩
    refine ⟨_, rfl, g_X8_qJoins_100 (p_X8_qJoins_100 (d2 := d - 1) (pu z _ yx yp) (by omega) ?_)⟩
    exact fun z q => g_X8_qJoins_103 (g_X8_qJoins_273 q)
  · subst c1
    refine p_X8_qJoins_111 (d2 := d - 1) (s_qClip (by first | omega | (unfold R64; omega))) (by omega) ?_
    rintro _ z ⟨rfl, rfl⟩
    refine ⟨_, rfl, g_X8_qJoins_114 (p_X8_qJoins_114 (d2 := d - 1) (pu z _ yx yp) (by omega) ?_)⟩
    exact fun z q => g_X8_qJoins_117 (g_X8_qJoins_273 q)
  · subst c1
    refine p_X8_qJoins_125 (d2 := d - 1) (s_qClip (by first | omega | (unfold R64; omega))) (by omega) ?_
    rintro _ z ⟨rfl, rfl⟩
    refine ⟨_, rfl, g_X8_qJoins_128 (p_X8_qJoins_128 (d2 := d - 1) (pu z _ yx yp) (by omega) ?_)⟩
    exact fun z q => g_X8_qJoins_131 (g_X8_qJoins_273 q)
  · subst c1
    refine p_X8_qJoins_138 (d2 := d - 1) (s_qFloor ub vb) (by omega) ?_
    rintro _ z ⟨rfl, rfl⟩
    refine ⟨_, rfl, g_X8_qJoins_141 (p_X8_qJoins_141 (d2 := d - 1) (pu z _ yx yp) (by omega) ?_)⟩
    exact fun z q => g_X8_qJoins_144 (g_X8_qJoins_273 q)
  · subst c1
    exact p_X8_qJoins_161 (d2 := d - 1) (pu y _ yx yp) (by omega) (fun z q => g_X8_qJoins_164 (g_X8_qJoins_273 q))
  · subst c1
    exact p_X8_qJoins_181 (d2 := d - 1) (pu y _ yx yp) (by omega) (fun z q => g_X8_qJoins_184 (g_X8_qJoins_273 q))
  · subst c1
    exact p_X8_qJoins_200 (d2 := d - 1) (pu y _ yx yp) (by omega) (fun z q => g_X8_qJoins_203 (g_X8_qJoins_273 q))
  · subst c1
    exact p_X8_qJoins_219 (d2 := d - 1) (pu y _ yx yp) (by omega) (fun z q => g_X8_qJoins_222 (g_X8_qJoins_273 q))
  · subst c1
    exact p_X8_qJoins_238 (d2 := d - 1) (pu y _ yx yp) (by omega) (fun z q => g_X8_qJoins_241 (g_X8_qJoins_273 q))
  · subst c1
    exact p_X8_qJoins_249 (d2 := d - 1) (pu y _ yx yp) (by omega) (fun z q => g_X8_qJoins_252 (g_X8_qJoins_273 q))
  · obtain rfl : c = 11 := by omega
    exact p_X8_qJoins_270 (d2 := d - 1) (pu y _ yx yp) (by omega) (fun z q => g_X8_qJoins_273 q)
end WM
