/-! ask: the class, whole -/
section QB
variable {sc : List Int} {d : Nat} {m : Mem} {Q : Option AV → Mem → Prop} {ρ : Mem} {w L : Int} {T : Int → Int} {n : Nat}
def C_x7 (r a j : Int) : Prop := C_bg 34 a j ∨ C_fo r a j ∨ C_ax a j ∨ (a = 0 ∧ j = 1)
theorem fo_no {r : Int} (H : RoomAt r) {a j : Int} (h : a = 32 ∨ a = 34 ∨ a = 35 ∨ a = 0) : ¬ C_fo r a j := by
  have := room_bd H
  intro c
  unfold C_fo C_pr C_cw C_wx at c
  rcases H with rfl | rfl <;> omega
theorem s_X7_ask (hx : Xt m ρ) (hr : RlB ρ) (hl : XRl m (m 0 2) ρ) (hc : ChC m ρ) (hn : n ≤ 1600) (h1 : m 0 1 = (n : Nat)) (ht : ∀ i : Nat, i < n → m 1 i = T i ∧ 0 ≤ T i ∧ T i ≤ 255) (hd : 400 ≤ d) (hw : R32 w) (hL : R32 L) : P_X7_ask sc d [aR 0, aI w, aI L] m (fun v z => Ex (C_x7 (m 0 2)) m z ∧ z 0 1 = 0 ∧ ChC z ρ ∧ ((¬ (knF ρ w ∧ 1 ≤ L ∧ L ≤ 99) ∧ v = some (aJ (-1000000000000000)) ∧ z 32 7 = m 32 7 ∧ z 32 8 = m 32 8) ∨ ((knF ρ w ∧ 1 ≤ L ∧ L ≤ 99) ∧ match rdQ T n with
      | .error e => v = some (aJ (-1000000000000000)) ∧ (z 32 7 = e.1 ∧ z 32 8 = e.2) ∧ (1 ≤ e.1 ∧ e.1 ≤ 5) ∧ 0 ≤ e.2 ∧ e.2 ≤ 1600
      | .ok x => v = some (aJ (ansQ ρ w L T n x)) ∧ z 32 7 = 0 ∧ z 32 8 = -1))) := by
  have H := hx.1
  have hb := hx.2.2
  have b0 := hb.1
  have e1 : Ex (fun a j => a = 0 ∧ j = 1) m (wr m 0 1 0) := (Ex.refl _ m).put ⟨rfl, rfl⟩
  have e2 : wr m 0 1 0 0 2 = m 0 2 := wr_ne _ _ _ _ _ _ (by decide)
  have y1 : wr m 0 1 0 0 1 = 0 := wr_eq _ _ _ _
  have yx : Xt (wr m 0 1 0) ρ := hx.ex e1 (fun a j q c => by omega)
  have yc : ChC (wr m 0 1 0) ρ := hc.ex (fun a j q => e1 a j (by omega))
  refine ep_X7_ask (g_X7_ask_0 ?_)
  rw [h1, e2]
  generalize wr m 0 1 0 = y at e1 e2 y1 yx yc ⊢
  have yE : Ex (C_x7 (m 0 2)) m y := e1.mono (fun a j q => Or.inr (Or.inr (Or.inr q)))
  have off : ¬ (knF ρ w ∧ 1 ≤ L ∧ L ≤ 99) → (fun v z => Ex (C_x7 (m 0 2)) m z ∧ z 0 1 = 0 ∧ ChC z ρ ∧ ((¬ (knF ρ w ∧ 1 ≤ L ∧ L ≤ 99) ∧ v = some (aJ (-1000000000000000)) ∧ z 32 7 = m 32 7 ∧ z 32 8 = m 32 8) ∨ ((knF ρ w ∧ 1 ≤ L ∧ L ≤ 99) ∧ match rdQ T n with
      | .error e => v = some (aJ (-1000000000000000)) ∧ (z 32 7 = e.1 ∧ z 32 8 = e.2) ∧ (1 ≤ e.1 ∧ e.1 ≤ 5) ∧ 0 ≤ e.2 ∧ e.2 ≤ 1600
      | .ok x => v = some (aJ (ansQ ρ w L T n x)) ∧ z 32 7 = 0 ∧ z 32 8 = -1))) (some (aJ (-1000000000000000))) y := fun g => ⟨yE, y1, yc, Or.inl ⟨g, rfl, e1 32 7 (by omega), e1 32 8 (by omega)⟩⟩
  have yX : XRm y (m 0 2) ρ := by have := yx.2.1; rw [e2] at this; exact this
  refine p_X7_ask_15 (d2 := d - 1) H (s_X6_knows H yX hb hw) (by omega) ?_
  rintro _ y ⟨rfl, ⟨e, k1⟩ | ⟨e, k1⟩⟩ <;> cases e
  rotate_left
  · exact g_X7_ask_18 ⟨by decide, fun _ => off (fun g => k1 g.1), fun g => absurd rfl g⟩
  refine g_X7_ask_18 ⟨by decide, fun g => absurd g (by decide), fun _ => p_X7_ask_22 (d2 := d - 1) (s_X7_isLength hL) (by omega) ?_⟩
  rintro _ y ⟨rfl, ⟨e, k2⟩ | ⟨e, k2⟩⟩ <;> cases e
  rotate_left
  · exact g_X7_ask_25 ⟨by decide, fun g => absurd rfl g, fun _ => off (fun g => k2 g.2)⟩
  refine g_X7_ask_25 ⟨by decide, fun _ => ?_, fun g => absurd (by decide) g⟩
  refine p_X7_ask_41 (d2 := d - 1) ic_1 (s_readQuestion hn (fun i hi => by rw [e1 1 i (by omega)]; exact ht i hi) (by omega)) (by omega) ?_
  rintro _ z ⟨e, ze, hz⟩; cases e
  have zE : Ex (C_x7 (m 0 2)) m z := yE.trans (ze.mono (fun a j q => Or.inl q))
  have z1 : z 0 1 = 0 := (ze 0 1 (by unfold C_bg; omega)).trans y1
  have z2 : z 0 2 = m 0 2 := (ze 0 2 (by unfold C_bg; omega)).trans e2
  have zc : ChC z ρ := yc.ex (fun a j q => ze a j (by unfold C_bg; omega))
  have zx : Xt z ρ := yx.ex ze (fun a j q c => by unfold C_bg at c; omega)
  cases er : rdQ T n with
  | error e =>
    rw [er] at hz
    obtain ⟨-, -, -, h7, h8, h9, h10, -⟩ := hz
    refine g_X7_ask_44 ⟨by omega, fun _ => ⟨zE, z1, zc, Or.inr ⟨⟨k1, k2⟩, rfl, ⟨h7, h8⟩, h9, h10⟩⟩, fun g => by omega⟩
  | ok x =>
    rw [er] at hz
    have tb := hz.1.by
    obtain ⟨-, -, -, ⟨h7, h8⟩, -, xn, xl, h2, hst⟩ := hz
    obtain ⟨ty, kw⟩ := rdQ_ty tb er
    have tyN : tyF false (cdF x.2) x.2.length = some [decide (wE T n (q0S T n) = 30 ∨ wE T n (q0S T n) = 31 ∨ wE T n (q0S T n) = 32)] := by
      have := tyL_F (rl := false) (l := x.2) (k := x.2.length) (Nat.le_refl _)
      rw [List.take_length] at this
      exact this.trans ty
    have zl : XRl z (z 0 2) ρ := by
      rw [z2]
      have rb := room_bd H
      have e : ∀ a j, 2 ≤ a → a ≤ 31 → z a j = m a j := fun a j g1 g2 => (ze a j (by unfold C_bg; omega)).trans (e1 a j (by omega))
      exact ⟨fun k hk => by rw [e _ _ (by omega) (by omega)]; exact hl.1 k hk, fun j hj => by rw [e _ _ (by omega) (by omega)]; exact hl.2 j hj⟩
    refine g_X7_ask_44 ⟨by omega, fun g => absurd h7 g, fun _ => ?_⟩
    refine p_X7_ask_59 (d2 := d - 1) (s_X7_follow zx hr zl zc (by omega) hw hL) (by omega) ?_
    rintro _ u ⟨ue, uc, ⟨e, -, ur⟩ | ⟨e, g⟩⟩ <;> cases e
    · rw [z2] at ue
      have u2 : u 0 2 = m 0 2 := (ue 0 2 (fo_no H (by omega))).trans z2
      have uX : XRm u (m 0 2) ρ := by
        have zX := zx.2.1
        rw [z2] at zX
        exact zX.ex2 (fun a j g1 g2 g3 => ue a j (by have := room_bd H; unfold C_fo C_pr C_cw C_wx; omega))
      have hkk : (decide (wE T n (q0S T n) = 30 ∨ wE T n (q0S T n) = 31 ∨ wE T n (q0S T n) = 32) = true ∧ (wE T n (q0S T n) = 30 ∨ wE T n (q0S T n) = 31 ∨ wE T n (q0S T n) = 32) ∧ kindOf (wE T n (q0S T n)) = if wE T n (q0S T n) = 30 then 0 else if wE T n (q0S T n) = 31 then 1 else 2) ∨ (decide (wE T n (q0S T n) = 30 ∨ wE T n (q0S T n) = 31 ∨ wE T n (q0S T n) = 32) = false ∧ (wE T n (q0S T n) = 33 ∨ wE T n (q0S T n) = 19 ∨ wE T n (q0S T n) = 18) ∧ kindOf (wE T n (q0S T n)) = if wE T n (q0S T n) = 33 then 3 else if wE T n (q0S T n) = 19 then 4 else 5) := by
        rcases kw with g | g | g | g | g | g <;> rw [g] <;> decide
      have al := ask_loop (sc := sc) (d := d) (m := u) (w0 := wE T n (q0S T n)) (k := kindOf (wE T n (q0S T n))) (N := x.2.length) (code := cdF x.2) (Q := fun v z => Ex (C_x7 (m 0 2)) m z ∧ z 0 1 = 0 ∧ ChC z ρ ∧ ((¬ (knF ρ w ∧ 1 ≤ L ∧ L ≤ 99) ∧ v = some (aJ (-1000000000000000)) ∧ z 32 7 = m 32 7 ∧ z 32 8 = m 32 8) ∨ ((knF ρ w ∧ 1 ≤ L ∧ L ≤ 99) ∧ (v = some (aJ (ansQ ρ w L T n x)) ∧ z 32 7 = 0 ∧ z 32 8 = -1)))) H u2 uX hb hr k1.2.2.1 k2 ur (by omega) (by rw [ue 34 2 (fo_no H (by omega))]; exact h2) (by omega) (fun j hj => by rw [ue 35 j (fo_no H (by omega))]; unfold cdF; rw [show ((j : Nat) : Int).toNat = j by omega]; exact hst j hj) tyN hkk (fun t te => ⟨(zE.trans (ue.mono (fun a j q => Or.inr (Or.inl q)))).trans (te.mono (fun a j q => Or.inr (Or.inr (Or.inl q)))), ?_, uc.ex (fun a j q => te a j (by unfold C_ax; omega)), Or.inr ⟨⟨k1, k2⟩, rfl, ?_, ?_⟩⟩)
      · have fl := al.2.2 (ρ 0 1).toNat 0 u (by omega) (Ex.refl _ _)
        refine g_X7_ask_62 ⟨by decide, fun _ => ⟨by omega, by omega, ?_⟩, fun g => absurd (by decide) g⟩
        have f5 : (if wE T n (q0S T n) = 30 then 1 else (if wE T n (q0S T n) = 31 then 1 else (if wE T n (q0S T n) ≠ 32 then 0 else 1 : Int) : Int) : Int) = if decide (wE T n (q0S T n) = 30 ∨ wE T n (q0S T n) = 31 ∨ wE T n (q0S T n) = 32) = true then 1 else 0 := by
          rcases kw with g | g | g | g | g | g <;> rw [g] <;> decide
        have f6 : (if wE T n (q0S T n) = 30 then (-1) else (if wE T n (q0S T n) ≠ 31 then 0 else (-1) : Int) : Int) = asF ρ w L (cdF x.2) x.2.length (kindOf (wE T n (q0S T n))) 0 := by
          rw [asF]
          rcases kw with g | g | g | g | g | g <;> rw [g] <;> decide
        rw [f5, f6]
        exact fl
      · rw [te 0 1 (by unfold C_ax; omega), ue 0 1 (fo_no H (by omega))]; exact z1
      · rw [te 32 7 (by unfold C_ax; omega), ue 32 7 (fo_no H (by omega))]; exact h7
      · rw [te 32 8 (by unfold C_ax; omega), ue 32 8 (fo_no H (by omega))]; exact h8
    · exact absurd ⟨k1, k2⟩ g
end QB
