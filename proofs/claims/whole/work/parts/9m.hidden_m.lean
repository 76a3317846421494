/-! where bobbins may be begun: the reference -/
section HM
variable {sc : List Int} {Ca : Mem → Mem → Prop} {d : Nat} {m : Mem} {Q : Option AV → Mem → Prop} {L : Int} {ρ : Mem}
def SpM (z : Mem) (l : List (Int × Int × Int)) : Prop := z 62 75 = (l.length : Nat) ∧ ∀ i : Nat, i < l.length → z 113 i = (nthR l i).1 ∧ z 114 i = (nthR l i).2.1 ∧ z 115 i = (nthR l i).2.2
def C_ms2 (a j : Int) : Prop := a = 113 ∨ a = 114 ∨ a = 115 ∨ (a = 62 ∧ j = 75)
theorem s_mayStart {l : List (Int × Int × Int)} {y n e : Int} (hp : SpM m l) (hl : l.length ≤ 50) (he : e = 0 ∨ e = 1) : P_X8_mayStart sc d [aR 62, aI y, aI n, aI e] m (fun v z => v = none ∧ Ex C_ms2 m z ∧ SpM z ((y, n, e) :: l)) := by
  have ee : (if e = 0 then 0 else 1 : Int) = e := by rcases he with rfl | rfl <;> rfl
  refine ep_X8_mayStart (g_X8_mayStart_0 ?_)
  simp only [wr_na, ne_eq, Int.reduceEq, not_false_eq_true]
  rw [ee, hp.1]
  refine ⟨by omega, by omega, by omega, by omega, by omega, by omega, by omega, trivial, ((((Ex.refl C_ms2 m).put (Or.inl rfl)).put (Or.inr (Or.inl rfl))).put (Or.inr (Or.inr (Or.inl rfl)))).put (Or.inr (Or.inr (Or.inr ⟨rfl, rfl⟩))), ?_, fun i hi => ?_⟩
  · rw [wr_eq, List.length_cons]; rfl
  · rw [List.length_cons] at hi
    by_cases c : i = l.length
    · rw [c, nthR_top, wr_na _ _ _ _ _ _ (by decide), wr_na _ _ _ _ _ _ (by decide), wr_na _ _ _ _ _ _ (by decide), wr_eq, wr_na _ _ _ _ _ _ (by decide), wr_na _ _ _ _ _ _ (by decide), wr_eq, wr_na _ _ _ _ _ _ (by decide), wr_eq]
      exact ⟨rfl, rfl, rfl⟩
    · obtain ⟨a1, a2, a3⟩ := hp.2 i (by omega)
      rw [nthR_old _ _ (by omega), wr_na _ _ _ _ _ _ (by decide), wr_na _ _ _ _ _ _ (by decide), wr_na _ _ _ _ _ _ (by decide), wr_ne _ _ _ _ _ _ (by omega), wr_na _ _ _ _ _ _ (by decide), wr_na _ _ _ _ _ _ (by decide), wr_ne _ _ _ _ _ _ (by omega), wr_na _ _ _ _ _ _ (by decide), wr_na _ _ _ _ _ _ (by decide), wr_ne _ _ _ _ _ _ (by omega), wr_na _ _ _ _ _ _ (by decide), wr_na _ _ _ _ _ _ (by decide)]
      exact ⟨a1, a2, a3⟩
theorem s_laysStarts (h : MRm m ρ) (hb : RmB ρ) (hd : 2 ≤ d) : P_X8_laysStarts sc d [aR 62] m (fun v z => v = none ∧ Ex C_ms2 m z ∧ SpM z (spS ρ (ρ 0 1).toNat) ∧ z 113 ((spS ρ (ρ 0 1).toNat).length : Nat) = sumF (ρ 3) (ρ 0 1).toNat) := by
  have b0 := hb.1
  have mrm : ∀ z, Ex C_ms2 m z → MRm z ρ := fun z he => h.ex he (fun a j q c => by unfold C_ms2 at c; omega)
  have lp : ∀ (n s : Nat) (z : Mem), (s : Int) + n = ρ 0 1 → Ex C_ms2 m z → SpM z (spS ρ s) → S_X8_laysStarts sc d 9 [aR 62, aI (sumF (ρ 3) s), aI s, aU] [] z (fun v z => v = none ∧ Ex C_ms2 m z ∧ SpM z (spS ρ (ρ 0 1).toNat) ∧ z 113 ((spS ρ (ρ 0 1).toNat).length : Nat) = sumF (ρ 3) (ρ 0 1).toNat) := by
    intro n
    induction n with
    | zero =>
      intro s z hs he hp
      have len := spS_len hb s (by omega)
      rw [show (ρ 0 1).toNat = s by omega]
      refine g_X8_laysStarts_9 (p_X8_laysStarts_11 (d2 := d - 1) (s_seamMany (mrm z he)) (by omega) ?_)
      rintro _ z ⟨e, rfl⟩; cases e
      refine g_X8_laysStarts_14 ⟨by omega, by omega, fun _ => ?_, fun c => absurd (by omega) c⟩
      rw [hp.1]
      refine ⟨by omega, by omega, rfl, he.put (Or.inl rfl), ⟨by rw [wr_na _ _ _ _ _ _ (by decide)]; exact hp.1, fun i hi => ?_⟩, wr_eq _ _ _ _⟩
      rw [wr_ne _ _ _ _ _ _ (by omega), wr_na _ _ _ _ _ _ (by decide), wr_na _ _ _ _ _ _ (by decide)]
      exact hp.2 i hi
    | succ n ih =>
      intro s z hs he hp
      have len := spS_len hb s (by omega)
      have sh := (hb.2.2.2.1 s (by omega)).2.1
      have pc := (hb.2.2.2.1 s (by omega)).2.2.1
      refine g_X8_laysStarts_9 (p_X8_laysStarts_11 (d2 := d - 1) (s_seamMany (mrm z he)) (by omega) ?_)
      rintro _ z ⟨e, rfl⟩; cases e
      refine g_X8_laysStarts_14 ⟨by omega, by omega, fun c => absurd c (by omega), fun _ => ?_⟩
      refine p_X8_laysStarts_24 (d2 := d - 1) (s_mayStart (l := spS ρ s) hp (by omega) (Or.inl rfl)) (by omega) ?_
      rintro y ⟨-, yE, yp⟩
      refine g_X8_laysStarts_27 ?_
      have pl : ∀ (q k : Nat) (y : Mem), (k : Int) + q = ρ 6 s → Ex C_ms2 m y → SpM y (spP ρ s ((sumF (ρ 3) s, 100 * (s : Int), 0) :: spS ρ s) k) → S_X8_laysStarts sc d 29 [aR 62, aI (sumF (ρ 3) s), aI s, aI k] [] y (fun v z => v = none ∧ Ex C_ms2 m z ∧ SpM z (spS ρ (ρ 0 1).toNat) ∧ z 113 ((spS ρ (ρ 0 1).toNat).length : Nat) = sumF (ρ 3) (ρ 0 1).toNat) := by
        intro q
        induction q with
        | zero =>
          intro k y hk ye yp
          refine g_X8_laysStarts_29 (p_X8_laysStarts_32 (d2 := d - 1) (s_placeMany (mrm y ye) hb (by omega)) (by omega) ?_)
          rintro _ y ⟨e, rfl⟩; cases e
          refine g_X8_laysStarts_35 ⟨by omega, by omega, fun _ => ?_, fun c => absurd (by omega) c⟩
          refine p_X8_laysStarts_75 (d2 := d - 1) (s_takesOf (mrm y ye) hb (by omega)) (by omega) ?_
          rintro _ y ⟨e, rfl⟩; cases e
          refine g_X8_laysStarts_78 ?_
          have g := ih (s + 1) y (by omega) ye (by rw [spS, show (ρ 6 s).toNat = k by omega]; exact yp)
          rw [sumF] at g
          exact g
        | succ q ihq =>
          intro k y hk ye yp
          have ll := spP_len (ρ := ρ) s ((sumF (ρ 3) s, 100 * (s : Int), 0) :: spS ρ s) k
          rw [List.length_cons] at ll
          refine g_X8_laysStarts_29 (p_X8_laysStarts_32 (d2 := d - 1) (s_placeMany (mrm y ye) hb (by omega)) (by omega) ?_)
          rintro _ y ⟨e, rfl⟩; cases e
          refine g_X8_laysStarts_35 ⟨by omega, by omega, fun c => absurd c (by omega), fun _ => ?_⟩
          refine p_X8_laysStarts_43 (d2 := d - 1) (s_placeOf (mrm y ye) hb (by omega) (by omega)) (by omega) ?_
          rintro _ y ⟨e, rfl⟩; cases e
          refine g_X8_laysStarts_46 (p_X8_laysStarts_54 (d2 := d - 1) (s_placeOf (mrm y ye) hb (by omega) (by omega)) (by omega) ?_)
          rintro _ y ⟨e, rfl⟩; cases e
          refine g_X8_laysStarts_57 (p_X8_laysStarts_60 (d2 := d - 1) (s_isShown (mrm y ye) hb (by omega)) (by omega) ?_)
          rintro _ y ⟨e, rfl⟩; cases e
          refine g_X8_laysStarts_63 (p_X8_laysStarts_63 (d2 := d - 1) (s_mayStart yp (by omega) sh) (by omega) ?_)
          rintro u ⟨-, uE, up⟩
          exact g_X8_laysStarts_66 (ihq (k + 1) u (by omega) (ye.trans uE) up)
      exact pl (ρ 6 s).toNat 0 y (by omega) (he.trans yE) yp
  have zE : Ex C_ms2 m (wr m 62 75 0) := (Ex.refl C_ms2 m).put (Or.inr (Or.inr (Or.inr ⟨rfl, rfl⟩)))
  exact ep_X8_laysStarts (g_X8_laysStarts_0 (lp (ρ 0 1).toNat 0 _ (by omega) zE ⟨wr_eq _ _ _ _, fun i hi => absurd hi (Nat.not_lt_zero _)⟩))
theorem IsB.down {P : Nat → Prop} {c : Nat → Int} {lo hi : Nat} {v x : Int} (h : IsB P c (lo + 1) hi v x) (hs : ¬ P lo ∨ v ≤ c lo) (hv : v < 2147483647 ∨ ¬ P lo) : IsB P c lo hi v x := by
  rcases h with ⟨h1, h2, h3⟩ | ⟨k, k1, k2, k3, k4, k5, k6⟩
  · refine Or.inl ⟨fun j j1 j2 p => ?_, h2, h3⟩
    by_cases e : j = lo
    · rw [e] at p
      rcases hv with q | q
      · omega
      · exact q p
    · exact h1 j (by omega) j2 p
  · refine Or.inr ⟨k, by omega, k2, k3, k4, k5, fun j j1 j2 p => ?_⟩
    by_cases e : j = lo
    · rw [e] at p ⊢
      exact ⟨hs.elim (fun q => absurd p q) id, fun q => by omega⟩
    · exact k6 j (by omega) j2 p
theorem IsB.dtake {P : Nat → Prop} {c : Nat → Int} {lo hi : Nat} {v x : Int} (h : IsB P c (lo + 1) hi v x) (hl : lo < hi) (p : P lo) (hc : c lo < v) : IsB P c lo hi (c lo) lo := by
  refine Or.inr ⟨lo, Nat.le_refl _, hl, p, rfl, rfl, fun j j1 j2 q => ?_⟩
  by_cases e : j = lo
  · rw [e]; omega
  · rcases h with ⟨h1, -, -⟩ | ⟨k, k1, k2, k3, k4, k5, k6⟩
    · exact absurd q (h1 j (by omega) j2)
    · have := (k6 j (by omega) j2 q).1
      omega
/-- costs and next ones, out of the reference's three rows -/
def csM (z : Mem) (i : Nat) : Int := if z 116 i = 1000 then 2147483647 else 100 * (z 116 i - 1) + z 117 i
def nxM (z : Mem) (N : Nat) (i : Nat) : Int := if z 118 i = N then -1 else z 118 i
def okM (z : Mem) (N i : Nat) : Prop := (z 116 i = 1000 ∧ z 117 i = 0 ∧ z 118 i = -1) ∨ ((1 ≤ z 116 i ∧ z 116 i ≤ (N : Int) - i) ∧ (0 ≤ z 117 i ∧ z 117 i ≤ z 116 i - 1) ∧ (i : Int) < z 118 i ∧ z 118 i ≤ N)
def C_sf (a j : Int) : Prop := a = 116 ∨ a = 117 ∨ a = 118
theorem s_startsFrom {l : List (Int × Int × Int)} {T : Int} {i : Nat} (hp : SpM m l) (hT : m 113 (l.length : Nat) = T) (hTb : 0 ≤ T ∧ T ≤ 1100) (hl : l.length ≤ 50) (hi : i < l.length) (hL : 1 ≤ L ∧ L ≤ 99) (okb : ∀ q : Nat, q < l.length → (0 ≤ (nthR l q).1 ∧ (nthR l q).1 ≤ 1100) ∧ ((nthR l q).2.2 = 0 ∨ (nthR l q).2.2 = 1)) (hD : DPf l T L (csM m) (nxM m l.length) (i + 1)) (hk : ∀ q : Nat, i + 1 ≤ q → q < l.length → okM m l.length q) :
    P_X8_startsFrom sc d [aR 62, aI i, aI L] m (fun v z => v = none ∧ Ex C_sf m z ∧ DPf l T L (csM z) (nxM z l.length) i ∧ ∀ q : Nat, i ≤ q → q < l.length → okM z l.length q) := by
  have bi := okb i hi
  refine ep_X8_startsFrom (g_X8_startsFrom_0 ⟨by omega, by omega, ?_⟩)
  have uE : Ex C_sf m (wr (wr (wr m 116 i 1000) 117 i 0) 118 i (-1)) := (((Ex.refl C_sf m).put (Or.inl rfl)).put (Or.inr (Or.inl rfl))).put (Or.inr (Or.inr rfl))
  have u6 : wr (wr (wr m 116 i 1000) 117 i 0) 118 i (-1) 116 i = 1000 := by rw [wr_na _ _ _ _ _ _ (by decide), wr_na _ _ _ _ _ _ (by decide), wr_eq]
  have u7 : wr (wr (wr m 116 i 1000) 117 i 0) 118 i (-1) 117 i = 0 := by rw [wr_na _ _ _ _ _ _ (by decide), wr_eq]
  have u8 : wr (wr (wr m 116 i 1000) 117 i 0) 118 i (-1) 118 i = -1 := wr_eq _ _ _ _
  have uo : ∀ q : Nat, q ≠ i → wr (wr (wr m 116 i 1000) 117 i 0) 118 i (-1) 116 q = m 116 q ∧ wr (wr (wr m 116 i 1000) 117 i 0) 118 i (-1) 117 q = m 117 q ∧ wr (wr (wr m 116 i 1000) 117 i 0) 118 i (-1) 118 q = m 118 q := fun q hq => by
    rw [wr_na _ _ _ _ _ _ (by decide), wr_na _ _ _ _ _ _ (by decide), wr_ne _ _ _ _ _ _ (by omega), wr_na _ _ _ _ _ _ (by decide), wr_ne _ _ _ _ _ _ (by omega), wr_na _ _ _ _ _ _ (by decide), wr_ne _ _ _ _ _ _ (by omega), wr_na _ _ _ _ _ _ (by decide), wr_na _ _ _ _ _ _ (by decide)]
    exact ⟨rfl, rfl, rfl⟩
  have u75 : wr (wr (wr m 116 i 1000) 117 i 0) 118 i (-1) 62 75 = (l.length : Nat) := by rw [wr_na _ _ _ _ _ _ (by decide), wr_na _ _ _ _ _ _ (by decide), wr_na _ _ _ _ _ _ (by decide)]; exact hp.1
  rw [u75]
  generalize wr (wr (wr m 116 i 1000) 117 i 0) 118 i (-1) = u at uE u6 u7 u8 uo u75 ⊢
  -- at the end
  have fin : ∀ z : Mem, Ex C_sf m z → (∀ q : Nat, q ≠ i → z 116 q = m 116 q ∧ z 117 q = m 117 q ∧ z 118 q = m 118 q) → okM z l.length i → ((T - (nthR l i).1 ≤ L ∧ csM z i = 0 ∧ nxM z l.length i = -1) ∨ (¬ T - (nthR l i).1 ≤ L ∧ IsB (fun j => (nthR l j).1 - (nthR l i).1 ≤ L ∧ csM m j < 2147483647) (fun j => csM m j + (100 + (nthR l j).2.2)) (i + 1) l.length (csM z i) (nxM z l.length i))) → (fun (v : Option AV) (z : Mem) => v = none ∧ Ex C_sf m z ∧ DPf l T L (csM z) (nxM z l.length) i ∧ ∀ q : Nat, i ≤ q → q < l.length → okM z l.length q) none z := by
    intro z ze zo zk zi
    have ce : ∀ q : Nat, q ≠ i → csM z q = csM m q ∧ nxM z l.length q = nxM m l.length q := fun q hq => by
      obtain ⟨a1, a2, a3⟩ := zo q hq
      unfold csM nxM
      rw [a1, a2, a3]
      exact ⟨rfl, rfl⟩
    refine ⟨rfl, ze, fun q h1 h2 => ?_, fun q h1 h2 => ?_⟩
    · have cong : ∀ j : Nat, q + 1 ≤ j → j < l.length → (((nthR l j).1 - (nthR l q).1 ≤ L ∧ csM m j < 2147483647) ↔ ((nthR l j).1 - (nthR l q).1 ≤ L ∧ csM z j < 2147483647)) ∧ csM m j + (100 + (nthR l j).2.2) = csM z j + (100 + (nthR l j).2.2) := fun j j1 j2 => by
        rw [(ce j (by omega)).1]
        exact ⟨Iff.rfl, rfl⟩
      by_cases e : q = i
      · rw [e] at cong ⊢
        rcases zi with a | ⟨a, b⟩
        · exact Or.inl a
        · exact Or.inr ⟨a, b.congr cong⟩
      · rw [(ce q e).1, (ce q e).2]
        rcases hD q (by omega) h2 with a | ⟨a, b⟩
        · exact Or.inl a
        · exact Or.inr ⟨a, b.congr cong⟩
    · by_cases e : q = i
      · rw [e]; exact zk
      · obtain ⟨a1, a2, a3⟩ := zo q e
        unfold okM
        rw [a1, a2, a3]
        exact hk q (by omega) h2
  have lp : ∀ (p j : Nat) (z : Mem), j = i + p → j < l.length → Ex C_sf m z → (∀ q : Nat, q ≠ i → z 116 q = m 116 q ∧ z 117 q = m 117 q ∧ z 118 q = m 118 q) → okM z l.length i → ((T - (nthR l i).1 ≤ L ∧ z 116 i = 1 ∧ csM z i = 0 ∧ nxM z l.length i = -1) ∨ (¬ T - (nthR l i).1 ≤ L ∧ IsB (fun j => (nthR l j).1 - (nthR l i).1 ≤ L ∧ csM m j < 2147483647) (fun j => csM m j + (100 + (nthR l j).2.2)) (j + 1) l.length (csM z i) (nxM z l.length i))) → S_X8_startsFrom sc d 28 [aR 62, aI i, aI L, aI j, aU, aU] [] z (fun v z => v = none ∧ Ex C_sf m z ∧ DPf l T L (csM z) (nxM z l.length) i ∧ ∀ q : Nat, i ≤ q → q < l.length → okM z l.length q) := by
    intro p
    induction p with
    | zero =>
      intro j z hj hjl ze zo zk zi
      have e : j = i := by omega
      rw [e] at zi
      refine g_X8_startsFrom_28 ⟨by omega, by omega, fun _ => fin z ze zo zk (zi.elim (fun a => Or.inl ⟨a.1, a.2.2⟩) Or.inr), fun c => absurd (by omega) c⟩
    | succ p ih =>
      intro j z hj hjl ze zo zk zi
      have e113 : ∀ q : Int, z 113 q = m 113 q := fun q => ze 113 q (by unfold C_sf; omega)
      have e115 : z 115 j = (nthR l j).2.2 := (ze 115 j (by unfold C_sf; omega)).trans (hp.2 j hjl).2.2
      have z75 : z 62 75 = (l.length : Nat) := (ze 62 75 (by unfold C_sf; omega)).trans hp.1
      have yj := (hp.2 j hjl).1
      have yi := (hp.2 i hi).1
      have bj := okb j hjl
      obtain ⟨o6, o7, o8⟩ := zo j (by omega)
      have kj := hk j (by omega) hjl
      have jm : (j : Int) + (-1) = ((j - 1 : Nat) : Int) := by omega
      have skip : (T - (nthR l i).1 ≤ L ∨ ¬ ((nthR l j).1 - (nthR l i).1 ≤ L ∧ csM m j < 2147483647) ∨ (csM z i ≤ csM m j + (100 + (nthR l j).2.2) ∧ csM z i < 2147483647)) → S_X8_startsFrom sc d 28 [aR 62, aI i, aI L, aI ((j : Int) + (-1)), aU, aU] [] z (fun v z => v = none ∧ Ex C_sf m z ∧ DPf l T L (csM z) (nxM z l.length) i ∧ ∀ q : Nat, i ≤ q → q < l.length → okM z l.length q) := fun c => by
        rw [jm]
        refine ih (j - 1) z (by omega) (by omega) ze zo zk ?_
        rcases zi with a | ⟨a, b⟩
        · exact Or.inl a
        · refine Or.inr ⟨a, ?_⟩
          rw [show j - 1 + 1 = j by omega]
          refine b.down ?_ ?_
          · rcases c with c | c | c
            · exact absurd c a
            · exact Or.inl c
            · exact Or.inr c.1
          · rcases c with c | c | c
            · exact absurd c a
            · exact Or.inr c
            · exact Or.inl c.2
      have ii : csM z i = if z 116 i = 1000 then 2147483647 else 100 * (z 116 i - 1) + z 117 i := rfl
      have ij : csM m j = if m 116 j = 1000 then 2147483647 else 100 * (m 116 j - 1) + m 117 j := rfl
      have zkc := zk
      unfold okM at zkc kj
      refine g_X8_startsFrom_28 ?_
      rw [e113, e113, yj, yi, z75, o6, o7, e115, if_pos (show (j : Int) ≠ (l.length : Nat) by omega), if_pos (show (j : Int) ≠ (l.length : Nat) by omega)]
      -- a better one
      have take : (nthR l j).1 - (nthR l i).1 ≤ L → m 116 j ≠ 1000 → (1 + m 116 j < z 116 i ∨ (1 + m 116 j = z 116 i ∧ m 117 j + (nthR l j).2.2 < z 117 i)) → S_X8_startsFrom sc d 28 [aR 62, aI i, aI L, aI ((j : Int) + (-1)), aU, aU] [] (wr (wr (wr z 116 i (1 + m 116 j)) 117 i (m 117 j + (nthR l j).2.2)) 118 i j) (fun v z => v = none ∧ Ex C_sf m z ∧ DPf l T L (csM z) (nxM z l.length) i ∧ ∀ q : Nat, i ≤ q → q < l.length → okM z l.length q) := fun c1 c2 c3 => by
        have kj2 : (1 ≤ m 116 j ∧ m 116 j ≤ (l.length : Int) - j) ∧ (0 ≤ m 117 j ∧ m 117 j ≤ m 116 j - 1) ∧ (j : Int) < m 118 j ∧ m 118 j ≤ l.length := kj.elim (fun q => absurd q.1 c2) id
        have xE : Ex C_sf m (wr (wr (wr z 116 i (1 + m 116 j)) 117 i (m 117 j + (nthR l j).2.2)) 118 i j) := ((ze.put (Or.inl rfl)).put (Or.inr (Or.inl rfl))).put (Or.inr (Or.inr rfl))
        have x6 : wr (wr (wr z 116 i (1 + m 116 j)) 117 i (m 117 j + (nthR l j).2.2)) 118 i j 116 i = 1 + m 116 j := by rw [wr_na _ _ _ _ _ _ (by decide), wr_na _ _ _ _ _ _ (by decide), wr_eq]
        have x7 : wr (wr (wr z 116 i (1 + m 116 j)) 117 i (m 117 j + (nthR l j).2.2)) 118 i j 117 i = m 117 j + (nthR l j).2.2 := by rw [wr_na _ _ _ _ _ _ (by decide), wr_eq]
        have x8 : wr (wr (wr z 116 i (1 + m 116 j)) 117 i (m 117 j + (nthR l j).2.2)) 118 i j 118 i = j := wr_eq _ _ _ _
        have xo : ∀ q : Nat, q ≠ i → wr (wr (wr z 116 i (1 + m 116 j)) 117 i (m 117 j + (nthR l j).2.2)) 118 i j 116 q = m 116 q ∧ wr (wr (wr z 116 i (1 + m 116 j)) 117 i (m 117 j + (nthR l j).2.2)) 118 i j 117 q = m 117 q ∧ wr (wr (wr z 116 i (1 + m 116 j)) 117 i (m 117 j + (nthR l j).2.2)) 118 i j 118 q = m 118 q := fun q hq => by
          rw [wr_na _ _ _ _ _ _ (by decide), wr_na _ _ _ _ _ _ (by decide), wr_ne _ _ _ _ _ _ (by omega), wr_na _ _ _ _ _ _ (by decide), wr_ne _ _ _ _ _ _ (by omega), wr_na _ _ _ _ _ _ (by decide), wr_ne _ _ _ _ _ _ (by omega), wr_na _ _ _ _ _ _ (by decide), wr_na _ _ _ _ _ _ (by decide)]
          exact zo q hq
        generalize wr (wr (wr z 116 i (1 + m 116 j)) 117 i (m 117 j + (nthR l j).2.2)) 118 i j = x1 at xE x6 x7 x8 xo ⊢
        have ci : csM x1 i = csM m j + (100 + (nthR l j).2.2) := by
          rw [ij, if_neg c2]
          unfold csM
          rw [x6, x7, if_neg (by omega)]
          omega
        have ni : nxM x1 l.length i = j := by
          unfold nxM
          rw [x8, if_neg (by omega)]
        have lt : csM m j + (100 + (nthR l j).2.2) < csM z i := by
          rw [ii, ij, if_neg c2]
          by_cases q : z 116 i = 1000
          · rw [if_pos q]; omega
          · rw [if_neg q]
            rcases zkc with q2 | q2
            · exact absurd q2.1 q
            · omega
        rw [jm]
        refine ih (j - 1) x1 (by omega) (by omega) xE xo (Or.inr ⟨by rw [x6]; omega, by rw [x6, x7]; omega, by rw [x8]; omega⟩) ?_
        rcases zi with ⟨a, b, -⟩ | ⟨a, b⟩
        · exfalso
          rcases zkc with q | q <;> omega
        · refine Or.inr ⟨a, ?_⟩
          rw [show j - 1 + 1 = j by omega, ci, ni]
          exact b.dtake hjl ⟨c1, by rw [ij, if_neg c2]; omega⟩ lt
      refine ⟨by omega, by omega, fun c => absurd c (by omega), fun _ => ⟨by omega, by omega, by omega, by omega, by omega, by omega, fun c => ⟨by omega, by omega, by rcases kj with q | q <;> omega, by rcases zkc with q | q <;> omega, fun c2 => skip ?_, fun c2 => ⟨fun c3 => take c (fun q => ?_) (Or.inl (by omega)), fun c3 => ⟨by rcases kj with q | q <;> omega, by rcases zkc with q | q <;> omega, fun c4 => take c (fun q => ?_) (Or.inr ⟨by omega, c4⟩), fun c4 => skip ?_⟩⟩⟩, fun c => skip (Or.inr (Or.inl (fun w => c w.1)))⟩⟩
      · -- worse
        rcases zi with ⟨a, -⟩ | ⟨a, b⟩
        · exact Or.inl a
        · refine Or.inr ?_
          by_cases q : m 116 j = 1000
          · refine Or.inl (fun w => ?_)
            have := w.2
            rw [ij, if_pos q] at this
            omega
          · have kj2 := kj.elim (fun w => absurd w.1 q) id
            refine Or.inr ?_
            have z1 : z 116 i ≠ 1000 := by omega
            have zk2 := zkc.elim (fun w => absurd w.1 z1) id
            rw [ii, ij, if_neg q, if_neg z1]
            omega
      · rcases zkc with w | w <;> omega
      · rcases zkc with w | w <;> omega
      · rcases zi with ⟨a, -⟩ | ⟨a, b⟩
        · exact Or.inl a
        · refine Or.inr ?_
          have e1 : 1 + m 116 j = z 116 i := Classical.not_not.mp c3
          by_cases q : m 116 j = 1000
          · refine Or.inl (fun w => ?_)
            have := w.2
            rw [ij, if_pos q] at this
            omega
          · have kj2 := kj.elim (fun w => absurd w.1 q) id
            refine Or.inr ?_
            have z1 : z 116 i ≠ 1000 := by omega
            have zk2 := zkc.elim (fun w => absurd w.1 z1) id
            rw [ii, ij, if_neg q, if_neg z1]
            omega
  -- the end itself
  have yi := (hp.2 i hi).1
  have e113 : ∀ q : Int, u 113 q = m 113 q := fun q => uE 113 q (by unfold C_sf; omega)
  have lm : ((l.length : Nat) : Int) + (-1) = ((l.length - 1 : Nat) : Int) := by omega
  refine g_X8_startsFrom_28 ?_
  rw [e113, e113, hT, yi, u75, u6, u7, if_neg (fun q => q rfl), if_neg (fun q => q rfl)]
  refine ⟨by omega, by omega, fun c => absurd c (by omega), fun _ => ⟨by omega, by omega, by omega, by omega, by omega, by omega, fun c => ⟨by omega, by omega, by decide, by decide, fun c2 => absurd c2 (by decide), fun _ => ⟨fun _ => ?_, fun c3 => absurd (by decide) c3⟩⟩, fun c => ?_⟩⟩
  · have xE : Ex C_sf m (wr (wr (wr u 116 i (1 + 0)) 117 i 0) 118 i (l.length : Nat)) := ((uE.put (Or.inl rfl)).put (Or.inr (Or.inl rfl))).put (Or.inr (Or.inr rfl))
    have x6 : wr (wr (wr u 116 i (1 + 0)) 117 i 0) 118 i (l.length : Nat) 116 i = 1 := by rw [wr_na _ _ _ _ _ _ (by decide), wr_na _ _ _ _ _ _ (by decide), wr_eq]; rfl
    have x7 : wr (wr (wr u 116 i (1 + 0)) 117 i 0) 118 i (l.length : Nat) 117 i = 0 := by rw [wr_na _ _ _ _ _ _ (by decide), wr_eq]
    have x8 : wr (wr (wr u 116 i (1 + 0)) 117 i 0) 118 i (l.length : Nat) 118 i = (l.length : Nat) := wr_eq _ _ _ _
    have xo : ∀ q : Nat, q ≠ i → wr (wr (wr u 116 i (1 + 0)) 117 i 0) 118 i (l.length : Nat) 116 q = m 116 q ∧ wr (wr (wr u 116 i (1 + 0)) 117 i 0) 118 i (l.length : Nat) 117 q = m 117 q ∧ wr (wr (wr u 116 i (1 + 0)) 117 i 0) 118 i (l.length : Nat) 118 q = m 118 q := fun q hq => by
      rw [wr_na _ _ _ _ _ _ (by decide), wr_na _ _ _ _ _ _ (by decide), wr_ne _ _ _ _ _ _ (by omega), wr_na _ _ _ _ _ _ (by decide), wr_ne _ _ _ _ _ _ (by omega), wr_na _ _ _ _ _ _ (by decide), wr_ne _ _ _ _ _ _ (by omega), wr_na _ _ _ _ _ _ (by decide), wr_na _ _ _ _ _ _ (by decide)]
      exact uo q hq
    generalize wr (wr (wr u 116 i (1 + 0)) 117 i 0) 118 i (l.length : Nat) = x1 at xE x6 x7 x8 xo ⊢
    rw [lm]
    exact lp (l.length - 1 - i) (l.length - 1) x1 (by omega) (by omega) xE xo (Or.inr ⟨by rw [x6]; omega, by rw [x6, x7]; omega, by rw [x8]; omega⟩) (Or.inl ⟨c, x6, by unfold csM; rw [x6, x7, if_neg (by decide)]; rfl, by unfold nxM; rw [x8, if_pos rfl]⟩)
  · rw [lm]
    refine lp (l.length - 1 - i) (l.length - 1) u (by omega) (by omega) uE uo (Or.inl ⟨u6, u7, u8⟩) (Or.inr ⟨c, Or.inl ⟨fun j j1 j2 => by omega, by unfold csM; rw [if_pos u6], ?_⟩⟩)
    unfold nxM
    rw [u8, if_neg (by omega)]
end HM
