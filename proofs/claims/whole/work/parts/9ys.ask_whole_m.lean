/-! ask: the reference, whole -/
section QA
variable {sc : List Int} {d : Nat} {m : Mem} {Q : Option AV → Mem → Prop} {ρ : Mem} {w L : Int} {T : Int → Int} {n : Nat}
def cdF (q : List Int) (j : Int) : Int := q.getD j.toNat 0
/-- what a question answers -/
def ansQ (ρ : Mem) (w L : Int) (T : Int → Int) (n : Nat) (x : Stt × List Int) : Int := asF ρ w L (cdF x.2) x.2.length (kindOf (wE T n (q0S T n))) (ρ 0 1).toNat
def C_aq (a j : Int) : Prop := (a = 62 ∧ (j = 64 ∨ (1 ≤ j ∧ j ≤ 10) ∨ (54 ≤ j ∧ j ≤ 57) ∨ (112 ≤ j ∧ j ≤ 120))) ∨ (104 ≤ a ∧ a ≤ 109) ∨ (148 ≤ a ∧ a ≤ 150)
theorem aq_t {z : Mem} (e : Ex C_qt m z) : Ex C_aq m z := e.mono (fun a j q => by unfold C_qt C_qs C_lk C_k at q; unfold C_aq; omega)
theorem asV {code : Int → Int} {N : Nat} {b : Bool} (hb : RmB ρ) (hrl : RlB ρ) (hw : w < 4 + ρ 0 2) (hL : 1 ≤ L ∧ L ≤ 99) (hty : tyF false code N = some [b]) (s : Nat) (hs : (s : Int) < ρ 0 1) : evF (ptA ρ s (usA ρ w L s) L (chA ρ w L s) (mdA ρ w L s)) (ydF ρ) code N = [ynF ρ w L code N s] ∧ vld b (ynF ρ w L code N s) := by
  have hy : ∀ v, -1000000 ≤ ydF ρ v ∧ ydF ρ v ≤ 1000000 := fun v => by have := ydF_bd hb v; omega
  have rb := row_bd (w := w) hb hL s (by omega)
  have pb := fun i => ptA_bd (u := usA ρ w L s) (L := L) hb hs (by unfold usA; omega) ⟨by omega, by omega⟩ (chA_01 (w := w) hb hrl hw hL hs) (mdA_01 (ρ := ρ) (w := w) (l := L) s) i
  have t := evF_ty (f := code) (fun i _ => pb i) hy N _ hty
  unfold ynF
  match hl : evF (ptA ρ s (usA ρ w L s) L (chA ρ w L s) (mdA ρ w L s)) (ydF ρ) code N, t with
  | [v], t => exact ⟨rfl, t.1⟩
theorem asB {code : Int → Int} {N : Nat} {b : Bool} {k : Int} (hb : RmB ρ) (val : ∀ s : Nat, (s : Int) < ρ 0 1 → evF (ptA ρ s (usA ρ w L s) L (chA ρ w L s) (mdA ρ w L s)) (ydF ρ) code N = [ynF ρ w L code N s] ∧ vld b (ynF ρ w L code N s)) : ∀ s : Nat, (s : Int) ≤ ρ 0 1 → -1000000 * (s + 1) ≤ asF ρ w L code N k s ∧ asF ρ w L code N k s ≤ 1000000 * (s + 1) := by
  have b0 := hb.1
  intro s
  induction s with
  | zero => intro _; rw [asF]; split <;> omega
  | succ s ih =>
    intro hs
    have i := ih (by omega)
    have v := (val s (by omega)).2.1
    rw [asF]
    unfold stQ
    repeat' split
    all_goals omega
theorem s_X8_ask (hm : MRm m ρ) (hb : RmB ρ) (hr : RlB ρ) (hl : MRl m ρ) (hW : WrdL m) (hn : n ≤ 1600) (h1 : m 62 1 = (n : Nat)) (ht : ∀ i : Nat, i < n → m 63 i = T i ∧ 0 ≤ T i ∧ T i ≤ 255) (hd : 100 ≤ d) (hw : R32 w) (hL : R32 L) : P_X8_ask sc d [aR 62, aI w, aI L] m (fun v z => Ex C_aq m z ∧ z 62 1 = 0 ∧ ((¬ (knF ρ w ∧ 1 ≤ L ∧ L ≤ 99) ∧ v = some (aJ (-1000000000000000)) ∧ z 62 7 = m 62 7 ∧ z 62 8 = m 62 8) ∨ ((knF ρ w ∧ 1 ≤ L ∧ L ≤ 99) ∧ match rdQ T n with
      | .error e => v = some (aJ (-1000000000000000)) ∧ z 62 7 = e.1 ∧ z 62 8 = e.2
      | .ok x => v = some (aJ (ansQ ρ w L T n x)) ∧ z 62 7 = 0 ∧ z 62 8 = -1))) := by
  have b0 := hb.1
  have off : ¬ (knF ρ w ∧ 1 ≤ L ∧ L ≤ 99) → (fun v z => Ex C_aq m z ∧ z 62 1 = 0 ∧ ((¬ (knF ρ w ∧ 1 ≤ L ∧ L ≤ 99) ∧ v = some (aJ (-1000000000000000)) ∧ z 62 7 = m 62 7 ∧ z 62 8 = m 62 8) ∨ ((knF ρ w ∧ 1 ≤ L ∧ L ≤ 99) ∧ match rdQ T n with
      | .error e => v = some (aJ (-1000000000000000)) ∧ z 62 7 = e.1 ∧ z 62 8 = e.2
      | .ok x => v = some (aJ (ansQ ρ w L T n x)) ∧ z 62 7 = 0 ∧ z 62 8 = -1))) (some (aJ (-1000000000000000))) (wr m 62 1 0) := fun g => ⟨(Ex.refl C_aq m).put (Or.inl ⟨rfl, by omega⟩), wr_eq _ _ _ _, Or.inl ⟨g, rfl, wr_ne _ _ _ _ _ _ (by decide), wr_ne _ _ _ _ _ _ (by decide)⟩⟩
  refine ep_X8_ask (g_X8_ask_0 (p_X8_ask_2 (d2 := d - 1) (s_isSewer hm hb (by omega) hw) (by omega) ?_))
  rintro _ m ⟨rfl, ⟨e, k1⟩ | ⟨e, k1⟩⟩ <;> cases e
  rotate_left
  · exact g_X8_ask_5 ⟨by decide, fun _ => off (fun g => k1 g.1), fun g => absurd rfl g⟩
  refine g_X8_ask_5 ⟨by decide, fun g => absurd g (by decide), fun _ => ⟨hL, p_X8_ask_14 (d2 := d - 1) (s_isIn (by unfold R64; omega) (by unfold R64; omega) (by unfold R64; omega)) (by omega) ?_⟩⟩
  rintro _ m ⟨rfl, ⟨e, k2⟩ | ⟨e, k2⟩⟩ <;> cases e
  rotate_left
  · exact g_X8_ask_17 ⟨by decide, fun g => absurd rfl g, fun _ => off (fun g => k2 g.2)⟩
  refine g_X8_ask_17 ⟨by decide, fun _ => ?_, fun g => absurd (by decide) g⟩
  rw [h1]
  have yE : Ex C_aq m (wr (wr (wr (wr (wr (wr (wr (wr (wr (wr (wr m 62 3 n) 62 1 0) 62 2 0) 62 4 (-1)) 62 5 0) 62 6 (-1)) 62 54 0) 62 112 0) 62 114 0) 62 115 0) 62 116 0) := by
    refine Ex.put (Ex.put (Ex.put (Ex.put (Ex.put (Ex.put (Ex.put (Ex.put (Ex.put (Ex.put (Ex.put (Ex.refl _ _) ?_) ?_) ?_) ?_) ?_) ?_) ?_) ?_) ?_) ?_) ?_ <;> exact Or.inl ⟨rfl, by omega⟩
  have f : ∀ j, wr (wr (wr (wr (wr (wr (wr (wr (wr (wr (wr m 62 3 n) 62 1 0) 62 2 0) 62 4 (-1)) 62 5 0) 62 6 (-1)) 62 54 0) 62 112 0) 62 114 0) 62 115 0) 62 116 0 62 j = if j = 116 ∨ j = 115 ∨ j = 114 ∨ j = 112 ∨ j = 54 ∨ j = 5 ∨ j = 2 ∨ j = 1 then 0 else if j = 6 ∨ j = 4 then -1 else if j = 3 then (n : Int) else m 62 j := by
    intro j
    simp only [wr, true_and]
    repeat' split
    all_goals omega
  generalize wr (wr (wr (wr (wr (wr (wr (wr (wr (wr (wr m 62 3 n) 62 1 0) 62 2 0) 62 4 (-1)) 62 5 0) 62 6 (-1)) 62 54 0) 62 112 0) 62 114 0) 62 115 0) 62 116 0 = y at yE f ⊢
  have y1 : y 62 1 = 0 := by rw [f]; rfl
  have y2 : y 62 2 = 0 := by rw [f]; rfl
  have y3 : y 62 3 = n := by rw [f]; rfl
  have y4 : y 62 4 = -1 := by rw [f]; rfl
  have y5 : y 62 5 = 0 := by rw [f]; rfl
  have y6 : y 62 6 = -1 := by rw [f]; rfl
  have y54 : y 62 54 = 0 := by rw [f]; rfl
  have y12 : y 62 112 = 0 := by rw [f]; rfl
  have y14 : y 62 114 = 0 := by rw [f]; rfl
  have y15 : y 62 115 = 0 := by rw [f]; rfl
  have tm : Tm y T n := ⟨hn, y3, fun i hi => by rw [yE 63 _ (by unfold C_aq; omega)]; exact ht i hi, fun a j q => by rw [yE a j (by unfold C_aq; omega)]; exact hW a j q⟩
  have q0 : (q0S T n).1 ≤ n := tkN_le (Nat.zero_le _)
  have q2 : (q0S T n).2 = false := by rw [q0_eq]
  have st : MTs T n false y (q0S T n) [] [] 0 := by
    refine ⟨tm, y54, ⟨q0, ⟨y5, y6⟩, ⟨0, y2, Nat.zero_le _, rfl⟩, ⟨by omega, by omega⟩, ?_⟩, ⟨y12, fun j hj => absurd hj (Nat.not_lt_zero j), y14, trivial, fun t ht => absurd ht List.not_mem_nil, y15, Nat.zero_le _, by decide⟩, Nat.zero_le _⟩
    rw [q2, y4]
    exact ⟨fun g => by omega, fun g => by cases g⟩
  refine ask_read (by omega) st (fun z ze hz => ?_)
  have zE : Ex C_aq m z := yE.trans (aq_t ze)
  have z1 : z 62 1 = 0 := (ze 62 1 (by unfold C_qt C_qs C_lk C_k; omega)).trans y1
  have xE : Ex C_aq m (wr (wr z 62 7 (z 62 5)) 62 8 ((wr z 62 7 (z 62 5)) 62 6)) := (zE.put (Or.inl ⟨rfl, by omega⟩)).put (Or.inl ⟨rfl, by omega⟩)
  have x1 : wr (wr z 62 7 (z 62 5)) 62 8 ((wr z 62 7 (z 62 5)) 62 6) 62 1 = 0 := by rw [wr_ne _ _ _ _ _ _ (by decide), wr_ne _ _ _ _ _ _ (by decide)]; exact z1
  have x5 : wr (wr z 62 7 (z 62 5)) 62 8 ((wr z 62 7 (z 62 5)) 62 6) 62 5 = z 62 5 := by rw [wr_ne _ _ _ _ _ _ (by decide), wr_ne _ _ _ _ _ _ (by decide)]
  have x7 : wr (wr z 62 7 (z 62 5)) 62 8 ((wr z 62 7 (z 62 5)) 62 6) 62 7 = z 62 5 := by rw [wr_ne _ _ _ _ _ _ (by decide), wr_eq]
  have x8 : wr (wr z 62 7 (z 62 5)) 62 8 ((wr z 62 7 (z 62 5)) 62 6) 62 8 = z 62 6 := by rw [wr_eq, wr_ne _ _ _ _ _ _ (by decide)]
  have x12 : wr (wr z 62 7 (z 62 5)) 62 8 ((wr z 62 7 (z 62 5)) 62 6) 62 112 = z 62 112 := by rw [wr_ne _ _ _ _ _ _ (by decide), wr_ne _ _ _ _ _ _ (by decide)]
  have x48 : ∀ j, wr (wr z 62 7 (z 62 5)) 62 8 ((wr z 62 7 (z 62 5)) 62 6) 148 j = z 148 j := fun j => by rw [wr_na _ _ _ _ _ _ (by decide), wr_na _ _ _ _ _ _ (by decide)]
  refine g_X8_ask_146 ?_
  generalize wr (wr z 62 7 (z 62 5)) 62 8 ((wr z 62 7 (z 62 5)) 62 6) = x at xE x1 x5 x7 x8 x12 x48 ⊢
  have kb : 0 ≤ kindOf (wE T n (q0S T n)) ∧ kindOf (wE T n (q0S T n)) ≤ 5 := by
    unfold kindOf
    repeat' split
    all_goals omega
  cases e1 : rdQ T n with
  | error e =>
    rw [e1] at hz
    have hz : MEr z e := hz
    have ne := hz.ne
    exact ⟨by rw [x5]; exact ne.2, fun g => absurd (x5 ▸ g) ne.1, fun _ => ⟨xE, x1, Or.inr ⟨⟨k1, k2⟩, rfl, x7.trans hz.1, x8.trans hz.2.1⟩⟩⟩
  | ok q =>
    rw [e1] at hz
    have hz : MTs T n false z q.1 q.2 [] 0 := hz
    have z5 := hz.2.2.1.2.1
    have zk := hz.2.2.2.1
    have lq := hz.2.2.2.2
    have qn := hz.2.2.1.1
    obtain ⟨ty, kw⟩ := rdQ_ty tm.by e1
    have tyN : tyF false (cdF q.2) q.2.length = some [decide (wE T n (q0S T n) = 30 ∨ wE T n (q0S T n) = 31 ∨ wE T n (q0S T n) = 32)] := by
      have := tyL_F (rl := false) (l := q.2) (k := q.2.length) (Nat.le_refl _)
      rw [List.take_length] at this
      exact this.trans ty
    refine ⟨by rw [x5, z5.1]; decide, fun _ => ⟨by omega, ?_⟩, fun g => absurd (x5.trans z5.1) g⟩
    have uE : Ex C_aq m (wr (wr x 62 119 (if 2 ≤ kindOf (wE T n (q0S T n)) then 0 else (-1) : Int)) 62 120 1) := (xE.put (Or.inl ⟨rfl, by omega⟩)).put (Or.inl ⟨rfl, by omega⟩)
    have ux : Ex (fun a j => a = 62 ∧ (j = 119 ∨ j = 120)) x (wr (wr x 62 119 (if 2 ≤ kindOf (wE T n (q0S T n)) then 0 else (-1) : Int)) 62 120 1) := ((Ex.refl _ x).put ⟨rfl, Or.inl rfl⟩).put ⟨rfl, Or.inr rfl⟩
    have u9 : wr (wr x 62 119 (if 2 ≤ kindOf (wE T n (q0S T n)) then 0 else (-1) : Int)) 62 120 1 62 119 = (if 2 ≤ kindOf (wE T n (q0S T n)) then 0 else (-1) : Int) := by rw [wr_ne _ _ _ _ _ _ (by decide), wr_eq]
    have u0 : wr (wr x 62 119 (if 2 ≤ kindOf (wE T n (q0S T n)) then 0 else (-1) : Int)) 62 120 1 62 120 = 1 := wr_eq _ _ _ _
    generalize wr (wr x 62 119 (if 2 ≤ kindOf (wE T n (q0S T n)) then 0 else (-1) : Int)) 62 120 1 = u at uE ux u9 u0 ⊢
    have um : MRm u ρ := hm.ex uE (fun a j q c => by unfold C_aq at c; omega)
    have ul : MRl u ρ := hl.ex uE (fun a j q => by unfold C_aq at q; omega)
    refine p_X8_ask_197 (d2 := d - 1) (s_laysRow um hb hr ul k1 k2 (by omega)) (by omega) ?_
    rintro t ⟨-, te, tr⟩
    have tE : Ex C_aq m t := uE.trans (te.mono (fun a j q => by unfold C_lr C_me C_it at q; unfold C_aq; omega))
    have tf : ∀ a j, (a = 62 ∧ (j = 112 ∨ j = 119 ∨ j = 120 ∨ j = 1 ∨ j = 7 ∨ j = 8)) ∨ a = 148 → t a j = u a j := fun a j g => te a j (by unfold C_lr C_me C_it; omega)
    have rb : ∀ s : Nat, (s : Int) < ρ 0 1 → evF (ptA ρ s (usA ρ w L s) L (chA ρ w L s) (mdA ρ w L s)) (ydF ρ) (cdF q.2) q.2.length = [ynF ρ w L (cdF q.2) q.2.length s] ∧ vld (decide (wE T n (q0S T n) = 30 ∨ wE T n (q0S T n) = 31 ∨ wE T n (q0S T n) = 32)) (ynF ρ w L (cdF q.2) q.2.length s) := fun s hs => asV hb hr k1.2.2.1 k2 tyN s hs
    refine g_X8_ask_200 ?_
    refine askM_loop (sc := sc) (d := d) (m := t) (k := kindOf (wE T n (q0S T n))) (N := q.2.length) (code := cdF q.2) (um.ex te (fun a j q c => by unfold C_lr C_me C_it at c; omega)) hb hr k1.2.2.1 k2 tr (by omega) (by rw [tf 62 112 (Or.inl ⟨rfl, by omega⟩), ux 62 112 (by omega), x12]; exact zk.1) (by rw [List.length_nil] at lq; omega) (fun j hj => by rw [tf 148 j (Or.inr rfl), ux 148 j (by omega), x48]; unfold cdF; rw [show ((j : Nat) : Int).toNat = j by omega]; exact zk.2.1 j hj) tyN kb (asB hb rb) rb (fun z ez => ?_) (ρ 0 1).toNat 0 t (by omega) (Ex.refl _ _) (by rw [tf 62 119 (Or.inl ⟨rfl, by omega⟩), u9, asF]; by_cases g : kindOf (wE T n (q0S T n)) < 2 <;> simp [g] <;> omega) (by rw [tf 62 120 (Or.inl ⟨rfl, by omega⟩), u0]; rfl)
    have g : ∀ j, (j = 1 ∨ j = 7 ∨ j = 8) → z 62 j = x 62 j := fun j hj => by rw [ez 62 j (by unfold C_am; omega), tf 62 j (Or.inl ⟨rfl, by omega⟩), ux 62 j (by omega)]
    refine ⟨tE.trans (ez.mono (fun a j q => by unfold C_am at q; unfold C_aq; omega)), (g 1 (by omega)).trans x1, Or.inr ⟨⟨k1, k2⟩, rfl, ?_, ?_⟩⟩
    · rw [g 7 (by omega), x7]; exact z5.1
    · rw [g 8 (by omega), x8]; exact z5.2
end QA
