/-! the reference asks along a row -/
section QZ
variable {sc : List Int} {d : Nat} {m : Mem} {Q : Option AV → Mem → Prop} {ρ : Mem} {w L : Int}
def C_am (a j : Int) : Prop := a = 150 ∨ (a = 62 ∧ (j = 55 ∨ j = 56 ∨ j = 57 ∨ j = 118 ∨ j = 119 ∨ j = 120))
theorem askM_loop {k : Int} {N : Nat} {b : Bool} {code : Int → Int} (hx : MRm m ρ) (hb : RmB ρ) (hrl : RlB ρ) (hw : w < 4 + ρ 0 2) (hL : 1 ≤ L ∧ L ≤ 99) (hr : RowM m ρ w L (ρ 0 1).toNat) (hd : 10 ≤ d) (h2 : m 62 112 = (N : Nat)) (hN : N ≤ 1600) (hc : ∀ j : Nat, j < N → m 148 j = code j) (hty : tyF false code N = some [b]) (hk : 0 ≤ k ∧ k ≤ 5)
    (bd : ∀ s : Nat, (s : Int) ≤ ρ 0 1 → -1000000 * (s + 1) ≤ asF ρ w L code N k s ∧ asF ρ w L code N k s ≤ 1000000 * (s + 1)) (val : ∀ s : Nat, (s : Int) < ρ 0 1 → evF (ptA ρ s (usA ρ w L s) L (chA ρ w L s) (mdA ρ w L s)) (ydF ρ) code N = [ynF ρ w L code N s] ∧ vld b (ynF ρ w L code N s)) (hQ : ∀ z, Ex C_am m z → Q (some (aJ (asF ρ w L code N k (ρ 0 1).toNat))) z) :
    ∀ (j s : Nat) (z : Mem), (s : Int) + j = ρ 0 1 → Ex C_am m z → z 62 119 = asF ρ w L code N k s → z 62 120 = (if s = 0 then 1 else 0) → S_X8_ask sc d 203 [aR 62, aU, aI L, aI k, aI s] [] z Q := by
  have b0 := hb.1
  intro j
  induction j with
  | zero =>
    intro s z hs ze z9 z0
    have zx : MRm z ρ := hx.ex ze (fun a j q c => by unfold C_am at c; omega)
    refine g_X8_ask_203 (p_X8_ask_206 (d2 := d - 1) (s_seamMany zx) (by omega) ?_)
    rintro _ y ⟨e, rfl⟩; cases e
    refine g_X8_ask_209 ⟨by omega, by omega, fun _ => ?_, fun c => absurd (by omega) c⟩
    have h := hQ y ze
    rw [show (ρ 0 1).toNat = s by omega] at h
    rw [z9]
    exact h
  | succ j ih =>
    intro s z hs ze z9 z0
    have zx : MRm z ρ := hx.ex ze (fun a j q c => by unfold C_am at c; omega)
    obtain ⟨u1, u2, u3⟩ := hr.1 s (by omega)
    have rb := row_bd (w := w) hb hL s (by omega)
    refine g_X8_ask_203 (p_X8_ask_206 (d2 := d - 1) (s_seamMany zx) (by omega) ?_)
    rintro _ y ⟨e, rfl⟩; cases e
    refine g_X8_ask_209 ⟨by omega, by omega, fun c => by omega, fun _ => ⟨by omega, by omega, ?_⟩⟩
    have e107 : ∀ v, wr y 62 55 v 107 s = usA ρ w L s := fun v => by rw [wr_na _ _ _ _ _ _ (by decide), ze 107 s (by unfold C_am; omega)]; exact u1
    rw [e107]
    have xE : Ex C_am m (wr (wr (wr y 62 55 s) 62 56 (usA ρ w L s)) 62 57 L) := ((ze.put (Or.inr ⟨rfl, Or.inl rfl⟩)).put (Or.inr ⟨rfl, Or.inr (Or.inl rfl)⟩)).put (Or.inr ⟨rfl, Or.inr (Or.inr (Or.inl rfl))⟩)
    have x5 : wr (wr (wr y 62 55 s) 62 56 (usA ρ w L s)) 62 57 L 62 55 = s := by rw [wr_ne _ _ _ _ _ _ (by decide), wr_ne _ _ _ _ _ _ (by decide), wr_eq]
    have x6 : wr (wr (wr y 62 55 s) 62 56 (usA ρ w L s)) 62 57 L 62 56 = usA ρ w L s := by rw [wr_ne _ _ _ _ _ _ (by decide), wr_eq]
    have x7 : wr (wr (wr y 62 55 s) 62 56 (usA ρ w L s)) 62 57 L 62 57 = L := wr_eq _ _ _ _
    have x9 : wr (wr (wr y 62 55 s) 62 56 (usA ρ w L s)) 62 57 L 62 119 = asF ρ w L code N k s := by rw [wr_ne _ _ _ _ _ _ (by decide), wr_ne _ _ _ _ _ _ (by decide), wr_ne _ _ _ _ _ _ (by decide)]; exact z9
    have x0 : wr (wr (wr y 62 55 s) 62 56 (usA ρ w L s)) 62 57 L 62 120 = (if s = 0 then 1 else 0) := by rw [wr_ne _ _ _ _ _ _ (by decide), wr_ne _ _ _ _ _ _ (by decide), wr_ne _ _ _ _ _ _ (by decide)]; exact z0
    generalize wr (wr (wr y 62 55 s) 62 56 (usA ρ w L s)) 62 57 L = x at xE x5 x6 x7 x9 x0 ⊢
    have xx : MRm x ρ := hx.ex xE (fun a j q c => by unfold C_am at c; omega)
    refine p_X8_ask_239 (d2 := d - 1) (s_qTold (code := code) (N := N) (b := b) xx hb (by omega) (by omega) (by unfold usA; omega) x5 x6 x7 ((xE 108 s (by unfold C_am; omega)).trans u2) ((xE 109 s (by unfold C_am; omega)).trans u3) (by omega) (chA_01 hb hrl hw hL (by omega)) (mdA_01 s) ((xE 62 112 (by unfold C_am; omega)).trans h2) hN (fun j hj => (xE 148 j (by unfold C_am; omega)).trans (hc j hj)) hty) (by omega) ?_
    rintro r u ⟨ue, y2, rfl, hy2, vb⟩
    refine ⟨y2, rfl, g_X8_ask_242 ?_⟩
    obtain ⟨v1, v2⟩ := val s (by omega)
    rw [v1] at hy2
    obtain rfl : ynF ρ w L code N s = y2 := by injection hy2
    have i1 := bd s (by omega)
    have vb1 := vb.1
    have u9 : u 62 119 = asF ρ w L code N k s := (ue 62 119 (by unfold C_q; omega)).trans x9
    have u0 : u 62 120 = (if s = 0 then 1 else 0) := (ue 62 120 (by unfold C_q; omega)).trans x0
    refine p_X8_ask_244 (d2 := d - 1) (s_qTakes (a := asF ρ w L code N k s) hk vb1 (by omega) (by omega) u9 u0) (by omega) ?_
    rintro t ⟨-, te, t9, t0⟩
    refine g_X8_ask_247 ?_
    rw [show ((s : Nat) : Int) + 1 = ((s + 1 : Nat) : Int) by omega]
    exact ih (s + 1) t (by omega) ((xE.trans (ue.mono (fun a j q => by unfold C_q at q; unfold C_am; omega))).trans (te.mono (fun a j q => by unfold C_tk at q; unfold C_am; omega))) t9 (by rw [t0, if_neg (Nat.succ_ne_zero s)])
end QZ
