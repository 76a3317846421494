/-! the class asks along a row -/
section QX
variable {sc : List Int} {d : Nat} {m : Mem} {Q : Option AV → Mem → Prop} {ρ : Mem} {w L : Int}
/-- what a question is worth at a seam, what is gathered -/
def ynF (ρ : Mem) (w L : Int) (code : Int → Int) (N s : Nat) : Int := (evF (ptA ρ s (usA ρ w L s) L (chA ρ w L s) (mdA ρ w L s)) (ydF ρ) code N).headD 0
def asF (ρ : Mem) (w L : Int) (code : Int → Int) (N : Nat) (k : Int) : Nat → Int
  | 0 => if k < 2 then -1 else 0
  | s + 1 => stQ k s (asF ρ w L code N k s) (ynF ρ w L code N s)
theorem s_partsOf {r : Int} {s n : Nat} (H : RoomAt r) (hx : XRm m r ρ) (hb : RmB ρ) (hr : RowX m ρ w L n) (hs : (s : Int) < ρ 0 1) (hn : s < n) : P_X1_partsOf sc d [aR 39, aR r, aI s] m (fun v z => v = some (aR 43) ∧ Ex (fun a _ => a = 43) m z ∧ PtX false (z 43) (ptA ρ s (usA ρ w L s) L (chA ρ w L s) (mdA ρ w L s))) := by
  have b0 := hb.1
  have hrb := room_bd H
  obtain ⟨⟨x1, x2, x3, x4⟩, xL, xS, xA, xM⟩ := hx
  obtain ⟨r4, rs, -⟩ := hr
  obtain ⟨u1, u2, u3⟩ := rs s hn
  obtain ⟨t1, t2, -⟩ := xS s hs
  have n1 : ∀ (m : Mem) (j v k : Int), wr m 43 j v (r + 3) k = m (r + 3) k := fun m j v k => wr_na _ _ _ _ _ _ (by omega)
  have n2 : ∀ (m : Mem) (j v k : Int), wr m 43 j v (r + 4) k = m (r + 4) k := fun m j v k => wr_na _ _ _ _ _ _ (by omega)
  have n3 : ∀ (m : Mem) (j v k : Int), wr m 43 j v 40 k = m 40 k := fun m j v k => wr_na _ _ _ _ _ _ (by omega)
  have n4 : ∀ (m : Mem) (j v k : Int), wr m 43 j v 41 k = m 41 k := fun m j v k => wr_na _ _ _ _ _ _ (by omega)
  have n5 : ∀ (m : Mem) (j v k : Int), wr m 43 j v 42 k = m 42 k := fun m j v k => wr_na _ _ _ _ _ _ (by omega)
  have n6 : ∀ (m : Mem) (j v k : Int), wr m 43 j v 39 k = m 39 k := fun m j v k => wr_na _ _ _ _ _ _ (by omega)
  refine ep_X1_partsOf (g_X1_partsOf_0 H ?_)
  simp only [n1, n2, n3, n4, n5, n6]
  rw [t1, t2, u1, u2, u3, r4]
  refine ⟨by omega, fun c => by omega, fun _ => ⟨by omega, fun c => by omega, fun _ => ⟨by omega, by omega, trivial, ?_, ?_⟩⟩⟩
  · exact ((((((Ex.refl (fun a _ => a = 43) m).put rfl).put rfl).put rfl).put rfl).put rfl).put rfl |>.put rfl
  · intro i hi
    obtain ⟨q1, q2, q3⟩ := hi
    have q4 : i ≤ 3 ∨ 7 ≤ i := by rcases q3 with ⟨g, -⟩ | ⟨-, g⟩; exact absurd g (by decide); exact g
    rcases (by omega : i = 0 ∨ i = 1 ∨ i = 2 ∨ i = 3 ∨ i = 7 ∨ i = 8 ∨ i = 9) with rfl | rfl | rfl | rfl | rfl | rfl | rfl <;> simp [prm, ptA, wr]
def C_ax (a j : Int) : Prop := a = 43 ∨ a = 36
theorem ask_loop {r k w0 : Int} {N : Nat} {b : Bool} {code : Int → Int} (H : RoomAt r) (hm : m 0 2 = r) (hx : XRm m r ρ) (hb : RmB ρ) (hrl : RlB ρ) (hw : w < 4 + ρ 0 2) (hL : 1 ≤ L ∧ L ≤ 99) (hr : RowX m ρ w L (ρ 0 1).toNat) (hd : 10 ≤ d) (h2 : m 34 2 = (N : Nat)) (hN : N ≤ 1600) (hc : ∀ j : Nat, j < N → stepRel (m 35 j) (code j)) (hty : tyF false code N = some [b])
    (hk : (b = true ∧ (w0 = 30 ∨ w0 = 31 ∨ w0 = 32) ∧ k = if w0 = 30 then 0 else if w0 = 31 then 1 else 2) ∨ (b = false ∧ (w0 = 33 ∨ w0 = 19 ∨ w0 = 18) ∧ k = if w0 = 33 then 3 else if w0 = 19 then 4 else 5)) (hQ : ∀ z, Ex C_ax m z → Q (some (aJ (asF ρ w L code N k (ρ 0 1).toNat))) z) :
    (∀ s : Nat, (s : Int) ≤ ρ 0 1 → -1000000 * (s + 1) ≤ asF ρ w L code N k s ∧ asF ρ w L code N k s ≤ 1000000 * (s + 1)) ∧ (∀ s : Nat, (s : Int) < ρ 0 1 → evF (ptA ρ s (usA ρ w L s) L (chA ρ w L s) (mdA ρ w L s)) (ydF ρ) code N = [ynF ρ w L code N s] ∧ vld b (ynF ρ w L code N s)) ∧
    ∀ (j s : Nat) (z : Mem), (s : Int) + j = ρ 0 1 → Ex C_ax m z → S_X7_ask sc d 123 [aR 0, aU, aU, aU, aI w0, aI (if b = true then 1 else 0), aJ (asF ρ w L code N k s), aU, aI s, aU] [] z Q := by
  have b0 := hb.1
  have hrb := room_bd H
  have hy : ∀ v, -1000000 ≤ ydF ρ v ∧ ydF ρ v ≤ 1000000 := fun v => by have := ydF_bd hb v; omega
  have pb : ∀ s : Nat, (s : Int) < ρ 0 1 → ∀ i, -1000000 ≤ ptA ρ s (usA ρ w L s) L (chA ρ w L s) (mdA ρ w L s) i ∧ ptA ρ s (usA ρ w L s) L (chA ρ w L s) (mdA ρ w L s) i ≤ 1000000 := fun s hs i => by
    have rb := row_bd (w := w) hb hL s (by omega)
    exact ptA_bd hb hs (by unfold usA; omega) ⟨by omega, by omega⟩ (chA_01 hb hrl hw hL hs) (mdA_01 s) i
  have val : ∀ s : Nat, (s : Int) < ρ 0 1 → evF (ptA ρ s (usA ρ w L s) L (chA ρ w L s) (mdA ρ w L s)) (ydF ρ) code N = [ynF ρ w L code N s] ∧ vld b (ynF ρ w L code N s) := by
    intro s hs
    have t := evF_ty (f := code) (fun i _ => pb s hs i) hy N _ hty
    unfold ynF
    match hl : evF (ptA ρ s (usA ρ w L s) L (chA ρ w L s) (mdA ρ w L s)) (ydF ρ) code N, t with
    | [v], t => exact ⟨rfl, t.1⟩
  have bd : ∀ s : Nat, (s : Int) ≤ ρ 0 1 → -1000000 * (s + 1) ≤ asF ρ w L code N k s ∧ asF ρ w L code N k s ≤ 1000000 * (s + 1) := by
    intro s
    induction s with
    | zero => intro _; rw [asF]; split <;> omega
    | succ s ih =>
      intro hs
      have i := ih (by omega)
      have v := (val s (by omega)).2.1
      rw [asF]
      unfold stQ
      repeat' split
      all_goals omega
  refine ⟨bd, val, ?_⟩
  intro j
  induction j with
  | zero =>
    intro s z hs ze
    have z2 : z 0 2 = r := (ze 0 2 (by unfold C_ax; omega)).trans hm
    have z8 : z r 8 = ρ 0 1 := (ze r 8 (by unfold C_ax; omega)).trans hx.1.2.1
    refine g_X7_ask_123 ⟨by rw [z2]; exact H, by omega, by rw [z2, z8]; omega, fun _ => ?_, fun c => absurd (by rw [z2, z8]; omega) c⟩
    have h := hQ z ze
    rw [show (ρ 0 1).toNat = s by omega] at h
    exact h
  | succ j ih =>
    intro s z hs ze
    have z2 : z 0 2 = r := (ze 0 2 (by unfold C_ax; omega)).trans hm
    have z8 : z r 8 = ρ 0 1 := (ze r 8 (by unfold C_ax; omega)).trans hx.1.2.1
    have zx : XRm z r ρ := hx.ex ze (fun a j q1 q2 c => by unfold C_ax at c; omega)
    have zr : RowX z ρ w L (ρ 0 1).toNat := by
      have e : ∀ a j, 39 ≤ a → a ≤ 42 → z a j = m a j := fun a j g1 g2 => ze a j (by unfold C_ax; omega)
      obtain ⟨a1, a2, a3, a4, a5, a6⟩ := hr
      exact ⟨by rw [e 39 4 (by decide) (by decide)]; exact a1, fun s hs => by rw [e 40 s (by decide) (by decide), e 41 s (by decide) (by decide), e 42 s (by decide) (by decide)]; exact a2 s hs, by rw [e 39 5 (by decide) (by decide)]; exact a3, by rw [e 39 6 (by decide) (by decide)]; exact a4, by rw [e 39 7 (by decide) (by decide)]; exact a5, by rw [e 39 8 (by decide) (by decide)]; exact a6⟩
    have z34 : z 34 2 = (N : Nat) := (ze 34 2 (by unfold C_ax; omega)).trans h2
    refine g_X7_ask_123 ⟨by rw [z2]; exact H, by omega, by rw [z2, z8]; omega, fun c => absurd c (by rw [z2, z8]; omega), fun _ => ?_⟩
    rw [z2, z34]
    refine p_X7_ask_163 (d2 := d - 1) fm_34 H (s_partsOf H zx hb zr (by omega) (by omega)) (by omega) ?_
    rintro _ y ⟨rfl, ye, yp⟩
    have mE : Ex C_ax m y := ze.trans (ye.mono (fun a j q => Or.inl q))
    refine ⟨43, rfl, g_X7_ask_166 fm_34 (by decide +kernel) ?_⟩
    rw [show y 0 2 = r from (ye 0 2 (by decide)).trans z2]
    obtain ⟨v1, v2⟩ := val s (by omega)
    have i1 := bd s (by omega)
    refine p_X7_ask_170 (d2 := d - 1) fm_34 (by decide +kernel) H (s_worth (rl := false) (b := b) (pt := ptA ρ s (usA ρ w L s) L (chA ρ w L s) (mdA ρ w L s)) (code := code) (n := N) fm_34 (by decide +kernel) H (zx.ex ye (fun a j q1 q2 c => by omega)) hb rfl (by omega) (by decide) (fun q => by omega) (by omega) (by omega) (by omega) (fun j hj => ?_) hty yp (fun i _ => pb s (by omega) i)) (by omega) ?_
    · rw [show (34 : Int) + 1 = 35 from rfl, show (0 : Int) + (j : Int) = j by omega, mE 35 j (by unfold C_ax; omega)]
      exact hc j hj
    · rintro x u ⟨ue, y2, e, hy2⟩; cases e
      rw [v1] at hy2
      obtain rfl : ynF ρ w L code N s = x := by injection hy2
      have uE : Ex C_ax m u := mE.trans (ue.mono (fun a j q => Or.inr q))
      have vb := v2.1
      have nxt : ∀ a, a = stQ k s (asF ρ w L code N k s) (ynF ρ w L code N s) → S_X7_ask sc d 123 [aR 0, aU, aU, aU, aI w0, aI (if b = true then 1 else 0), aJ a, aU, aI ((s : Int) + 1), aU] [] u Q := by
        intro a ha
        have g := ih (s + 1) u (by omega) uE
        rw [asF, ← ha, show ((s + 1 : Nat) : Int) = (s : Int) + 1 by omega] at g
        exact g
      rcases hk with ⟨rfl, hw0, hk⟩ | ⟨rfl, hw0, hk⟩
      · rw [if_pos rfl] at nxt ⊢
        refine g_X7_ask_173 ⟨by omega, fun c => absurd c (by decide), fun _ => ⟨by omega, fun c => ?_, fun c => ?_⟩⟩
        · have y1 : ynF ρ w L code N s = 1 := (v2.2 rfl).resolve_left c
          refine p_X7_ask_196 (d2 := d - 1) (s_counted (y := ynF ρ w L code N s) hw0 (by omega) (by omega) y1) (by omega) ?_
          rintro _ t ⟨rfl, rfl⟩
          exact ⟨_, rfl, g_X7_ask_199 (nxt _ (by rw [hk]))⟩
        · have y0 : ynF ρ w L code N s = 0 := Classical.not_not.mp c
          refine g_X7_ask_199 (nxt _ ?_)
          rw [y0, hk]
          rcases hw0 with rfl | rfl | rfl <;> simp [stQ]
      · rw [if_neg (by decide)] at nxt ⊢
        refine g_X7_ask_173 ⟨by omega, fun _ => ⟨by omega, fun c => ?_, fun c => ⟨by omega, g_X7_ask_224 (nxt _ ?_)⟩⟩, fun c => absurd rfl c⟩
        · refine p_X7_ask_221 (d2 := d - 1) (s_gathered (s := s) hw0 (by omega) vb (by omega) (by omega)) (by omega) ?_
          rintro _ t ⟨rfl, rfl⟩
          exact ⟨_, rfl, g_X7_ask_224 (nxt _ (by rw [hk]))⟩
        · have s0 : s = 0 := by omega
          subst s0
          rw [hk]
          rcases hw0 with rfl | rfl | rfl <;> simp [stQ, asF]
end QX
