/-! reading: codes and stack of the reference -/
section QK
variable {sc : List Int} {d : Nat} {m : Mem} {Q : Option AV → Mem → Prop} {T : Int → Int} {n : Nat} {rl : Bool} {σ : Stt}
def StkM (m : Mem) : List Int → Prop
  | [] => True
  | t :: w => m 149 (w.length : Nat) = t ∧ StkM m w
def CdM (m : Mem) (q : List Int) : Prop := ∀ j : Nat, j < q.length → m 148 j = q.getD j 0
def Rg (S : List Int) : Prop := ∀ t ∈ S, 0 ≤ t ∧ t ≤ 100
def MKs (m : Mem) (q S : List Int) (o : Nat) : Prop := m 62 112 = (q.length : Nat) ∧ CdM m q ∧ m 62 114 = (S.length : Nat) ∧ StkM m S ∧ Rg S ∧ m 62 115 = (o : Nat) ∧ o ≤ 6 ∧ q.length + S.length ≤ 1650
def C_k (a j : Int) : Prop := (a = 62 ∧ (j = 112 ∨ j = 114 ∨ j = 115)) ∨ a = 148 ∨ a = 149
theorem StkM.congr {z : Mem} : ∀ {S : List Int}, StkM m S → (∀ i : Nat, i < S.length → z 149 i = m 149 i) → StkM z S := by
  intro S
  induction S with
  | nil => intro _ _; trivial
  | cons t w ih =>
    intro h e
    exact ⟨(e w.length (by rw [List.length_cons]; omega)).trans h.1, ih h.2 (fun i hi => e i (by rw [List.length_cons]; omega))⟩
theorem CdM.congr {z : Mem} {q : List Int} (h : CdM m q) (e : ∀ j : Nat, j < q.length → z 148 j = m 148 j) : CdM z q := fun j hj => (e j hj).trans (h j hj)
theorem MKs.ex {C : Int → Int → Prop} {z : Mem} {q S : List Int} {o : Nat} (h : MKs m q S o) (e : Ex C m z) (hc : ∀ a j, C_k a j → ¬ C a j) : MKs z q S o := by
  obtain ⟨h1, h2, h3, h4, h5, h6, h7, h8⟩ := h
  refine ⟨?_, h2.congr (fun j _ => e 148 j (hc _ _ (Or.inr (Or.inl rfl)))), ?_, h4.congr (fun i _ => e 149 i (hc _ _ (Or.inr (Or.inr rfl)))), h5, ?_, h7, h8⟩
  · rw [e 62 112 (hc _ _ (Or.inl ⟨rfl, Or.inl rfl⟩))]; exact h1
  · rw [e 62 114 (hc _ _ (Or.inl ⟨rfl, Or.inr (Or.inl rfl)⟩))]; exact h3
  · rw [e 62 115 (hc _ _ (Or.inl ⟨rfl, Or.inr (Or.inr rfl)⟩))]; exact h6
theorem MKs.lk {z : Mem} {q S : List Int} {o : Nat} (h : MKs m q S o) (e : Ex C_lk m z) : MKs z q S o := h.ex e (fun a j q c => by unfold C_k at q; unfold C_lk at c; omega)
theorem MSt.ex {C : Int → Int → Prop} {z : Mem} (h : MSt T n m σ) (e : Ex C m z) (hc : ∀ a j, C_lk a j → ¬ C a j) : MSt T n z σ := by
  obtain ⟨a1, a2, ⟨a, b1, b2, b3⟩, a4, a5⟩ := h
  have k : ∀ j, 2 ≤ j → j ≤ 6 → j ≠ 3 → z 62 j = m 62 j := fun j q1 q2 q3 => e 62 j (hc _ _ ⟨rfl, by omega, by omega, q3, by omega, by omega⟩)
  refine ⟨a1, ⟨by rw [k 5 (by decide) (by decide) (by decide)]; exact a2.1, by rw [k 6 (by decide) (by decide) (by decide)]; exact a2.2⟩, ⟨a, by rw [k 2 (by decide) (by decide) (by decide)]; exact b1, b2, b3⟩, by rw [k 4 (by decide) (by decide) (by decide)]; exact a4, by rw [k 4 (by decide) (by decide) (by decide)]; exact a5⟩
theorem MSt.k {z : Mem} (h : MSt T n m σ) (e : Ex C_k m z) : MSt T n z σ := h.ex e (fun a j q c => by unfold C_lk at q; unfold C_k at c; omega)
theorem Tm.k {z : Mem} (h : Tm m T n) (e : Ex C_k m z) : Tm z T n := h.ex e (fun a j q c => by unfold C_k at c; unfold IsW at q; omega)
theorem s_qCode {q S : List Int} {o : Nat} {c : Int} (h : MKs m q S o) (hl : q.length + S.length ≤ 1649) : P_X8_qCode sc d [aR 62, aI c] m (fun v z => v = none ∧ Ex C_k m z ∧ MKs z (q ++ [c]) S o) := by
  obtain ⟨h1, h2, h3, h4, h5, h6, h7, h8⟩ := h
  refine ep_X8_qCode (g_X8_qCode_0 ?_)
  have e0 : ∀ v, wr m 148 (m 62 112) v 62 112 = m 62 112 := fun v => wr_na _ _ _ _ _ _ (by decide)
  rw [e0, h1]
  refine ⟨by omega, by omega, rfl, ((Ex.refl C_k m).put (Or.inr (Or.inl rfl))).put (Or.inl ⟨rfl, Or.inl rfl⟩), ?_, fun j hj => ?_, ?_, ?_, h5, ?_, h7, by rw [List.length_append, List.length_singleton]; omega⟩
  · rw [wr_eq, List.length_append]; rfl
  · rw [List.length_append, List.length_singleton] at hj
    rw [wr_na _ _ _ _ _ _ (by decide)]
    by_cases e : j = q.length
    · rw [e, wr_eq, gd_e]
    · rw [wr_ne _ _ _ _ _ _ (by omega), gd_l (by omega)]; exact h2 j (by omega)
  · rw [wr_ne _ _ _ _ _ _ (by decide), wr_na _ _ _ _ _ _ (by decide)]; exact h3
  · exact h4.congr (fun i _ => by rw [wr_na _ _ _ _ _ _ (by decide), wr_na _ _ _ _ _ _ (by decide)])
  · rw [wr_ne _ _ _ _ _ _ (by decide), wr_na _ _ _ _ _ _ (by decide)]; exact h6
/-- the top of the stack gone (nothing told) -/
theorem MKs.pop {q S : List Int} {o : Nat} {t : Int} (h : MKs m q (t :: S) o) : MKs (wr m 62 114 (S.length : Nat)) q S o := by
  obtain ⟨h1, h2, h3, h4, h5, h6, h7, h8⟩ := h
  rw [List.length_cons] at h8
  refine ⟨?_, h2.congr (fun j _ => by rw [wr_na _ _ _ _ _ _ (by decide)]), wr_eq _ _ _ _, h4.2.congr (fun i _ => by rw [wr_na _ _ _ _ _ _ (by decide)]), fun t ht => h5 t (List.mem_cons_of_mem _ ht), ?_, h7, by omega⟩
  · rw [wr_ne _ _ _ _ _ _ (by decide)]; exact h1
  · rw [wr_ne _ _ _ _ _ _ (by decide)]; exact h6
/-- something laid on the stack -/
theorem MKs.push {q S : List Int} {o : Nat} {t : Int} (h : MKs m q S o) (ht : 0 ≤ t ∧ t ≤ 100) (hl : q.length + S.length ≤ 1649) : MKs (wr (wr m 149 (S.length : Nat) t) 62 114 ((S.length : Nat) + 1)) q (t :: S) o := by
  obtain ⟨h1, h2, h3, h4, h5, h6, h7, h8⟩ := h
  refine ⟨?_, h2.congr (fun j _ => by rw [wr_na _ _ _ _ _ _ (by decide), wr_na _ _ _ _ _ _ (by decide)]), ?_, ⟨?_, h4.congr (fun i hi => by rw [wr_na _ _ _ _ _ _ (by decide), wr_ne _ _ _ _ _ _ (by omega)])⟩, ?_, ?_, h7, by rw [List.length_cons]; omega⟩
  · rw [wr_ne _ _ _ _ _ _ (by decide), wr_na _ _ _ _ _ _ (by decide)]; exact h1
  · rw [wr_eq, List.length_cons]; rfl
  · rw [wr_na _ _ _ _ _ _ (by decide), wr_eq]
  · intro u hu
    rcases List.mem_cons.mp hu with g | g
    · rw [g]; exact ht
    · exact h5 u g
  · rw [wr_ne _ _ _ _ _ _ (by decide), wr_na _ _ _ _ _ _ (by decide)]; exact h6
theorem s_qDrops {q S : List Int} {o : Nat} {t : Int} (h : MKs m q (t :: S) o) (hd : 1 ≤ d) : P_X8_qDrops sc d [aR 62] m (fun v z => v = none ∧ Ex C_k m z ∧ MKs z (q ++ [t]) S o) := by
  have hp := h.pop
  have h3 := h.2.2.1
  have h4 := h.2.2.2.1.1
  have h8 := h.2.2.2.2.2.2.2
  rw [List.length_cons] at h3 h8
  have e1 : m 62 114 - 1 = (S.length : Nat) := by omega
  have pe : Ex C_k m (wr m 62 114 (S.length : Nat)) := (Ex.refl C_k m).put (Or.inl ⟨rfl, Or.inr (Or.inl rfl)⟩)
  have p4 : wr m 62 114 (S.length : Nat) 149 (S.length : Nat) = t := by rw [wr_na _ _ _ _ _ _ (by decide)]; exact h4
  have p14 : wr m 62 114 (S.length : Nat) 62 114 = (S.length : Nat) := wr_eq _ _ _ _
  refine ep_X8_qDrops (g_X8_qDrops_0 ?_)
  rw [e1]
  generalize wr m 62 114 (S.length : Nat) = y at hp pe p4 p14 ⊢
  rw [p14, p4]
  refine ⟨by omega, by omega, p_X8_qDrops_20 (d2 := d - 1) (s_qCode hp (by omega)) (by omega) ?_⟩
  rintro z ⟨-, ze, hz⟩
  exact g_X8_qDrops_23 ⟨rfl, pe.trans ze, hz⟩
def topI (S : List Int) (v : Int) : Int := match S with | [] => 0 | t :: _ => if t = v then 1 else 0
theorem s_qIsOn {q S : List Int} {o : Nat} {v : Int} (h : MKs m q S o) (hv : 0 ≤ v ∧ v ≤ 100) : P_X8_qIsOn sc d [aR 62, aI v] m (PV (aI (topI S v)) m) := by
  have h3 := h.2.2.1
  have h8 := h.2.2.2.2.2.2.2
  cases S with
  | nil =>
    rw [List.length_nil] at h3
    refine ep_X8_qIsOn (g_X8_qIsOn_0 ⟨by omega, fun g => by omega, fun g => by omega, fun g => by omega, fun g => by omega, ?_, rfl⟩)
    rw [if_pos (by omega)]; rfl
  | cons t S =>
    have h4 := h.2.2.2.1.1
    have h5 := h.2.2.2.2.1 t (List.mem_cons_self ..)
    rw [List.length_cons] at h3 h8
    have e1 : m 62 114 - 1 = (S.length : Nat) := by omega
    refine ep_X8_qIsOn (g_X8_qIsOn_0 ⟨by omega, fun g => by omega, fun g => by omega, fun g => by rw [e1, h4]; omega, fun g => by omega, ?_, rfl⟩)
    rw [if_neg (by omega), e1, h4]
    show some (aI (if t ≠ v then 0 else 1)) = some (aI (if t = v then 1 else 0))
    by_cases g : t = v
    · rw [if_neg (fun q => q g), if_pos g]
    · rw [if_pos g, if_neg g]
theorem s_qOpens {q S : List Int} {o : Nat} {t s : Int} (h5 : m 62 5 = 0) (h : MKs m q S o) (ht : 0 ≤ t ∧ t ≤ 100) (hl : q.length + S.length ≤ 1649) (hs : 0 ≤ s ∧ s ≤ 1600) (hd : 1 ≤ d) : P_X8_qOpens sc d [aR 62, aI t, aI s] m (fun v z => v = none ∧ ((o = 6 ∧ Ex C_lk m z ∧ MEr z (4, s)) ∨ (o ≠ 6 ∧ Ex C_k m z ∧ MKs z q (t :: S) (o + 1)))) := by
  have h3 := h.2.2.1
  have h6 := h.2.2.2.2.2.1
  have h7 := h.2.2.2.2.2.2.1
  by_cases c : o = 6
  · refine ep_X8_qOpens (g_X8_qOpens_0 ⟨by omega, fun _ => ⟨by omega, fun g => by omega, fun _ => ?_⟩, fun g => absurd h5 g⟩)
    refine p_X8_qOpens_20 (d2 := d - 1) (s_X8_fail h5 (by decide) hs) (by omega) ?_
    rintro z ⟨-, ze, hz⟩
    exact g_X8_qOpens_23 ⟨rfl, Or.inl ⟨c, ze, hz⟩⟩
  · have hy : MKs (wr m 62 115 (m 62 115 + 1)) q S (o + 1) := by
      obtain ⟨a1, a2, a3, a4, a5, a6, a7, a8⟩ := h
      refine ⟨?_, a2.congr (fun j _ => by rw [wr_na _ _ _ _ _ _ (by decide)]), ?_, a4.congr (fun j _ => by rw [wr_na _ _ _ _ _ _ (by decide)]), a5, ?_, by omega, a8⟩
      · rw [wr_ne _ _ _ _ _ _ (by decide)]; exact a1
      · rw [wr_ne _ _ _ _ _ _ (by decide)]; exact a3
      · rw [wr_eq, a6]; omega
    have ye : Ex C_k m (wr m 62 115 (m 62 115 + 1)) := (Ex.refl C_k m).put (Or.inl ⟨rfl, Or.inr (Or.inr rfl)⟩)
    have y3 := hy.2.2.1
    refine ep_X8_qOpens (g_X8_qOpens_0 ⟨by omega, fun _ => ⟨by omega, fun g => ?_, fun g => by omega⟩, fun g => absurd h5 g⟩)
    generalize wr m 62 115 (m 62 115 + 1) = y at hy ye y3 ⊢
    have e1 : ∀ v, wr y 149 (y 62 114) v 62 114 = y 62 114 := fun v => wr_na _ _ _ _ _ _ (by decide)
    rw [e1, y3]
    exact ⟨by omega, by omega, rfl, Or.inr ⟨c, (ye.put (Or.inr (Or.inr rfl))).put (Or.inl ⟨rfl, Or.inr (Or.inl rfl)⟩), hy.push ht hl⟩⟩
theorem s_qIsBracket {t : Int} (ht : 0 ≤ t ∧ t ≤ 100) : P_X8_qIsBracket sc d [aI t] m (PV (aI (if isBk t = true then 1 else 0)) m) := by
  refine ep_X8_qIsBracket (g_X8_qIsBracket_0 ⟨by omega, ?_, rfl⟩)
  by_cases g : isBk t = true
  · have g2 := g
    unfold isBk at g2; rw [decide_eq_true_iff] at g2
    rw [if_pos g, if_neg (by omega), if_neg (by omega)]
  · rw [if_neg g]
    unfold isBk at g; rw [decide_eq_true_iff] at g
    by_cases g3 : t < 20
    · rw [if_pos g3]
    · rw [if_neg g3, if_pos (by omega)]
theorem s_qBracket {q w wb : List Int} {o : Nat} (h : MKs m q (w ++ wb) o) (hb : m 62 116 = (wb.length : Nat)) (hd : 1 ≤ d) : P_X8_qBracket sc d [aR 62] m (PV (aI (brk w)) m) := by
  have h8 := h.2.2.2.2.2.2.2
  refine ep_X8_qBracket (g_X8_qBracket_0 ?_)
  have key : ∀ (w : List Int), StkM m (w ++ wb) → Rg (w ++ wb) → (w ++ wb).length ≤ 1650 → ∀ i : Int, i = ((w ++ wb).length : Nat) - 1 → S_X8_qBracket sc d 7 [aR 62, aI i] [] m (PV (aI (brk w)) m) := by
    intro w
    induction w with
    | nil =>
      intro _ _ hl i hi
      rw [List.nil_append] at hi hl
      refine g_X8_qBracket_7 ⟨by omega, by omega, fun g => ⟨fun g2 => absurd g g2, fun g2 => absurd g g2, ?_, rfl⟩, fun g => by omega⟩
      rw [if_pos g]; rfl
    | cons t w ih =>
      intro hs hr hl i hi
      rw [List.cons_append, List.length_cons] at hi hl
      have ll : (w ++ wb).length = w.length + wb.length := List.length_append
      have ei : i = ((w ++ wb).length : Nat) := by omega
      have rt := hr t (List.mem_cons_self ..)
      have ht : m 149 i = t := by rw [ei]; exact hs.1
      refine g_X8_qBracket_7 ⟨by omega, by omega, fun g => by omega, fun g => ⟨by omega, by omega, ?_⟩⟩
      rw [ht]
      refine p_X8_qBracket_21 (d2 := d - 1) (s_qIsBracket rt) (by omega) ?_
      rintro _ z ⟨e, rfl⟩; cases e
      refine g_X8_qBracket_24 ⟨by split <;> omega, fun q => ⟨by omega, by omega, fun _ => by omega, fun _ => by omega, ?_, rfl⟩, fun q => ?_⟩
      · have g : isBk t = true := Classical.byContradiction (fun g => q (if_neg g))
        rw [if_neg (by omega), ht, brk, if_pos g]
      · have g : ¬ isBk t = true := fun g => q (by rw [if_pos g]; decide)
        rw [brk, if_neg g]
        exact ih hs.2 (fun u hu => hr u (List.mem_cons_of_mem _ hu)) (by omega) _ (by omega)
  exact key w h.2.2.2.1 h.2.2.2.2.1 (by omega) _ (by rw [h.2.2.1])
theorem popW_len {P : Int → Bool} : ∀ {w q : List Int}, (popW P w q).1.length + (popW P w q).2.length = q.length + w.length := by
  intro w
  induction w with
  | nil => intro q; rfl
  | cons t w ih =>
    intro q
    rw [popW]
    by_cases g : P t = true
    · rw [if_pos g, ih, List.length_append, List.length_singleton, List.length_cons]; omega
    · rw [if_neg g]
theorem s_qDropsToBracket {wb : List Int} {o : Nat} (hd : 2 ≤ d) : ∀ (w q : List Int) (m : Mem), MKs m q (w ++ wb) o → m 62 116 = (wb.length : Nat) → P_X8_qDropsToBracket sc d [aR 62] m (fun v z => v = none ∧ Ex C_k m z ∧ MKs z (popW nBk w q).1 ((popW nBk w q).2 ++ wb) o) := by
  intro w q m h hb
  refine ep_X8_qDropsToBracket ?_
  have key : ∀ (w q : List Int) (y : Mem), Ex C_k m y → MKs y q (w ++ wb) o → y 62 116 = (wb.length : Nat) → S_X8_qDropsToBracket sc d 0 [aR 62] [] y (fun v z => v = none ∧ Ex C_k m z ∧ MKs z (popW nBk w q).1 ((popW nBk w q).2 ++ wb) o) := by
    intro w
    induction w with
    | nil =>
      intro q y ye hy yb
      have h3 := hy.2.2.1
      have h8 := hy.2.2.2.2.2.2.2
      rw [List.nil_append] at h3 h8
      exact g_X8_qDropsToBracket_0 ⟨by omega, by omega, fun _ => ⟨rfl, ye, hy⟩, fun g => by omega⟩
    | cons t w ih =>
      intro q y ye hy yb
      have h3 := hy.2.2.1
      have h4 := hy.2.2.2.1.1
      have rt := hy.2.2.2.2.1 t (List.mem_cons_self ..)
      have h8 := hy.2.2.2.2.2.2.2
      rw [List.cons_append, List.length_cons] at h3 h8
      have ll : (w ++ wb).length = w.length + wb.length := List.length_append
      have e1 : y 62 114 - 1 = ((w ++ wb).length : Nat) := by omega
      refine g_X8_qDropsToBracket_0 ⟨by omega, by omega, fun g => by omega, fun _ => ⟨by omega, by omega, ?_⟩⟩
      rw [e1, show y 149 ((w ++ wb).length : Nat) = t from h4]
      refine p_X8_qDropsToBracket_22 (d2 := d - 1) (s_qIsBracket rt) (by omega) ?_
      rintro _ z ⟨e, rfl⟩; cases e
      refine g_X8_qDropsToBracket_25 ⟨by split <;> omega, fun g => ?_, fun g => ?_⟩
      · have g2 : isBk t = true := Classical.byContradiction (fun g2 => g (if_neg g2))
        have n2 : ¬ nBk t = true := by unfold nBk; rw [g2]; decide
        rw [popW, if_neg n2]
        exact ⟨rfl, ye, hy⟩
      · have g2 : ¬ isBk t = true := fun g2 => g (by rw [if_pos g2]; decide)
        have n2 : nBk t = true := by unfold nBk; cases hh : isBk t with | true => exact absurd hh g2 | false => rfl
        refine p_X8_qDropsToBracket_29 (d2 := d - 1) (s_qDrops (t := t) (S := w ++ wb) hy (by omega)) (by omega) ?_
        rintro u ⟨-, ue, hu⟩
        rw [popW, if_pos n2]
        exact g_X8_qDropsToBracket_32 (ih (q ++ [t]) u (ye.trans ue) hu (by rw [ue 62 116 (fun c => by unfold C_k at c; omega)]; exact yb))
  exact key w q m (Ex.refl _ _) h hb
theorem endP_len : ∀ {w q : List Int} {o : Nat}, (endP w o q).1.length + (endP w o q).2.1.length = q.length + w.length := by
  intro w
  induction w with
  | nil => intro q o; rfl
  | cons t w ih =>
    intro q o
    rw [endP]
    by_cases g : 60 ≤ t
    · rw [if_pos g, ih, List.length_append, List.length_singleton, List.length_cons]; omega
    · rw [if_neg g]
theorem MKs.dec {q S : List Int} {o : Nat} (h : MKs m q S o) : MKs (wr m 62 115 (((o - 1 : Nat)) : Int)) q S (o - 1) := by
  obtain ⟨a1, a2, a3, a4, a5, a6, a7, a8⟩ := h
  refine ⟨?_, a2.congr (fun j _ => by rw [wr_na _ _ _ _ _ _ (by decide)]), ?_, a4.congr (fun j _ => by rw [wr_na _ _ _ _ _ _ (by decide)]), a5, wr_eq _ _ _ _, by omega, a8⟩
  · rw [wr_ne _ _ _ _ _ _ (by decide)]; exact a1
  · rw [wr_ne _ _ _ _ _ _ (by decide)]; exact a3
/-- as many open as stand on the stack -/
def opn (w : List Int) : Nat := (w.filter (fun t => decide (t = 12 ∨ 20 ≤ t))).length
theorem s_qEndsPart {wb : List Int} (hd : 2 ≤ d) : ∀ (w q : List Int) (o : Nat) (m : Mem), m 62 5 = 0 → opn w ≤ o → MKs m q (w ++ wb) o → m 62 116 = (wb.length : Nat) → P_X8_qEndsPart sc d [aR 62] m (fun v z => v = none ∧ Ex C_k m z ∧ MKs z (endP w o q).1 ((endP w o q).2.1 ++ wb) (endP w o q).2.2) := by
  intro w q o m h5 ho h hb
  refine ep_X8_qEndsPart ?_
  have key : ∀ (w q : List Int) (o : Nat) (y : Mem), Ex C_k m y → opn w ≤ o → MKs y q (w ++ wb) o → y 62 116 = (wb.length : Nat) → S_X8_qEndsPart sc d 0 [aR 62] [] y (fun v z => v = none ∧ Ex C_k m z ∧ MKs z (endP w o q).1 ((endP w o q).2.1 ++ wb) (endP w o q).2.2) := by
    intro w
    induction w with
    | nil =>
      intro q o y ye ho hy yb
      have h3 := hy.2.2.1
      have h8 := hy.2.2.2.2.2.2.2
      have y5 : y 62 5 = 0 := (ye 62 5 (fun c => by unfold C_k at c; omega)).trans h5
      rw [List.nil_append] at h3 h8
      exact g_X8_qEndsPart_0 ⟨by omega, fun g => absurd y5 g, fun _ => ⟨by omega, by omega, fun _ => ⟨rfl, ye, hy⟩, fun g => by omega⟩⟩
    | cons t w ih =>
      intro q o y ye ho hy yb
      have h3 := hy.2.2.1
      have h4 := hy.2.2.2.1.1
      have h6 := hy.2.2.2.2.2.1
      have rt := hy.2.2.2.2.1 t (List.mem_cons_self ..)
      have h8 := hy.2.2.2.2.2.2.2
      have y5 : y 62 5 = 0 := (ye 62 5 (fun c => by unfold C_k at c; omega)).trans h5
      rw [List.cons_append, List.length_cons] at h3 h8
      have ll : (w ++ wb).length = w.length + wb.length := List.length_append
      have e1 : y 62 114 - 1 = ((w ++ wb).length : Nat) := by omega
      have e4 : y 149 ((w ++ wb).length : Nat) = t := h4
      refine g_X8_qEndsPart_0 ⟨by omega, fun g => absurd y5 g, fun _ => ⟨by omega, by omega, fun g => by omega, fun _ => ⟨by omega, by omega, by rw [e1, e4]; omega, fun g => ?_, fun g => ?_⟩⟩⟩
      · rw [e1, e4] at g
        rw [endP, if_neg (by omega)]
        exact ⟨rfl, ye, hy⟩
      · rw [e1, e4] at g
        rw [endP, if_pos (by omega)]
        have o1 : opn (t :: w) = opn w + 1 := by unfold opn; rw [List.filter_cons_of_pos (by rw [decide_eq_true_iff]; omega), List.length_cons]
        have hd2 := hy.dec
        rw [show y 62 115 - 1 = (((o - 1 : Nat)) : Int) by omega]
        refine p_X8_qEndsPart_45 (d2 := d - 1) (s_qDrops (t := t) (S := w ++ wb) hd2 (by omega)) (by omega) ?_
        rintro u ⟨-, ue, hu⟩
        have ue2 : Ex C_k y u := ((Ex.refl C_k y).put (Or.inl ⟨rfl, Or.inr (Or.inr rfl)⟩)).trans ue
        exact g_X8_qEndsPart_48 (ih (q ++ [t]) (o - 1) u (ye.trans ue2) (by omega) hu (by rw [ue2 62 116 (fun c => by unfold C_k at c; omega)]; exact yb))
  exact key w q o m (Ex.refl _ _) ho h hb
end QK
