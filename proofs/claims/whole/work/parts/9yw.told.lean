/-! rooms as texts: what a room's text says, purely -/
section RM
variable (T : Int → Int) (n : Nat)
abbrev Es (α : Type) := Except (Int × Int) α
abbrev Rx := (Stt × List Int) × Mem
def ltr (σ : Stt) : Int → Int := fun j => if ((ed T n σ : Nat) : Int) ≤ (σ.1 : Int) + j then 0 else T ((σ.1 : Int) + j) - 97 + 1
abbrev sameL (f g : Int → Int) : Prop := ∀ j : Nat, j < 6 → f j = g j
abbrev fresh (ρ : Mem) (f : Int → Int) : Prop := (∀ s : Nat, s < (ρ 0 1).toNat → ¬ sameL f (fun j => ρ 8 (s * 6 + j))) ∧ ∀ k : Nat, k < (ρ 0 2).toNat → ¬ sameL f (fun j => ρ 8 ((10 + k) * 6 + j))
def nmeR (ρ : Mem) (x : Stt × List Int) : Rs :=
  if kd T n x.1 ≠ 256 ∨ (0 ≤ wi T n x.1 ∧ wi T n x.1 < 30) then .error (1, x.1.1) else if (x.1.1 : Int) + 6 < (ed T n x.1 : Nat) then .error (1, (x.1.1 : Int) + 6) else if fresh ρ (ltr T n x.1) then .ok (nx T n x.1, x.2) else .error (3, x.1.1)
abbrev newL (ρ : Mem) (y : Int) : Prop := ∀ i : Nat, i < (ρ 0 0).toNat → ρ 1 i ≠ y
def addL (ρ : Mem) (y c : Int) : Mem := wr (wr (wr ρ 1 (ρ 0 0) y) 2 (ρ 0 0) c) 0 0 (ρ 0 0 + 1)
def lenR (x : Stt × List Int) (ρ : Mem) : Es ((Stt × List Int) × Mem × Int) :=
  (exW T n 1 x).bind fun a => (numR T n 1 99 a.1).bind fun y => if newL ρ y then
    (exW T n 2 (nx T n a.1, a.2)).bind fun c => (numR T n 1 (100 - sumF (ρ 2) (ρ 0 0).toNat) c.1).bind fun u => .ok ((nx T n c.1, c.2), addL ρ y u, (c.1.1 : Int))
  else .error (2, a.1.1)
def lensR : Nat → Stt × List Int → Mem → Int → Es ((Stt × List Int) × Mem × Int)
  | 0, x, ρ, p => .ok (x, ρ, p)
  | f + 1, x, ρ, _ => (lenR T n x ρ).bind fun a => if wE T n a.1.1 = 1 then lensR f a.1 a.2.1 a.2.2 else .ok a
def bobF (p : (Stt × List Int) × Mem × Int) : Es Rx := if wE T n p.1.1 = 1 then .error (5, p.1.1.1) else if sumF (p.2.1 2) (p.2.1 0 0).toNat < 100 then .error (2, p.2.2) else .ok (p.1, p.2.1)
def bobB (x : Stt × List Int) (ρ : Mem) : Es Rx := (lensR T n 6 (nx T n x.1, x.2) ρ 0).bind (bobF T n)
def plsR (y : Int) : Nat → Int → Stt → List Int → Es (Stt × List Int)
  | 0, _, σ, _ => .error (5, σ.1)
  | f + 1, b, σ, l => (numR T n (b + 1) (y - 1) σ).bind fun v => if kd T n (nx T n σ) = 257 then plsR y f v (nx T n σ) (l ++ [v]) else .ok (nx T n σ, l ++ [v])
def plcR (y : Int) (σ : Stt) : Es (Stt × List Int) := if wE T n σ = 6 then plsR T n y 4 0 (nx T n σ) [] else .ok (σ, [])
def shV (σ : Stt) : Int := if wE T n σ = 5 then 1 else 0
def shS (σ : Stt) : Stt := if wE T n σ = 5 then nx T n σ else σ
def addS (ρ : Mem) (f : Int → Int) (y sh : Int) (pl : List Int) : Mem := fun a j =>
  if a = 0 ∧ j = 1 then ρ 0 1 + 1 else if a = 3 ∧ j = ρ 0 1 then y else if a = 4 ∧ j = ρ 0 1 then sh else if a = 5 ∧ ρ 0 1 * 4 ≤ j ∧ j < ρ 0 1 * 4 + 4 then pl.getD (j - ρ 0 1 * 4).toNat 0 else if a = 6 ∧ j = ρ 0 1 then (pl.length : Nat) else if a = 8 ∧ ρ 0 1 * 6 ≤ j ∧ j < ρ 0 1 * 6 + 6 then f (j - ρ 0 1 * 6) else ρ a j
def seamB (x : Stt × List Int) (ρ : Mem) : Es Rx := if ρ 0 1 = 10 then .error (5, x.1.1) else
  (nmeR T n ρ (nx T n x.1, x.2)).bind fun a => (exW T n 4 a).bind fun b => (numR T n 1 99 b.1).bind fun y => (plcR T n y (shS T n (nx T n b.1))).bind fun c => .ok ((c.1, x.2), addS ρ (ltr T n (nx T n x.1)) y (shV T n (nx T n b.1)) c.2)
def addR (ρ : Mem) (f : Int → Int) (q : List Int) : Mem := fun a j =>
  if a = 0 ∧ j = 2 then ρ 0 2 + 1 else if a = 8 ∧ (10 + ρ 0 2) * 6 ≤ j ∧ j < (10 + ρ 0 2) * 6 + 6 then f (j - (10 + ρ 0 2) * 6) else if a = 9 then q.getD j.toNat 0 else if a = 10 ∧ j = ρ 0 2 + 1 then (q.length : Nat) else ρ a j
def ruleB (x : Stt × List Int) (ρ : Mem) : Es Rx := if ρ 0 2 = 4 then .error (5, x.1.1) else
  (nmeR T n ρ (nx T n x.1, x.2)).bind fun a => (exW T n 8 a).bind fun b => (rdTest T n true 6 b.1).bind fun c => .ok ((c.1, b.2 ++ c.2), addR ρ (ltr T n (nx T n x.1)) (b.2 ++ c.2))
def loM (w : Int) : Int := if w < 4 then 0 else 1
def hiM (w : Int) : Int := if w < 4 then 99 else if w = 4 then 9 else 3
def minB (w : Int) (x : Stt × List Int) (ρ : Mem) : Es Rx := (numR T n (loM w) (hiM w) (nx T n x.1)).bind fun v => .ok ((nx T n (nx T n x.1), x.2), wr ρ 7 w v)
def stmB (x : Stt × List Int) (ρ : Mem) : Es Rx :=
  if ρ 0 3 = 60 then .error (5, x.1.1) else if wE T n x.1 = 3 then seamB T n x ρ else if wE T n x.1 = 7 then ruleB T n x ρ else if 9 ≤ wE T n x.1 ∧ wE T n x.1 ≤ 14 then minB T n (wE T n x.1 - 9) x ρ else .error (1, x.1.1)
def endS (a : Rx) : Es Rx := (exS T n 59 a.1).bind fun b => .ok (b, wr a.2 0 3 (a.2 0 3 + 1))
def stmR (a : Rx) : Es Rx := (stmB T n a.1 a.2).bind (endS T n)
def firB (x : Stt × List Int) : Es Rx := if wE T n x.1 = 0 then bobB T n x ρ0 else .error (1, x.1.1)
def firR (x : Stt × List Int) : Es Rx := (firB T n x).bind (endS T n)
def stms : Nat → Rx → Es Rx
  | 0, a => .ok a
  | f + 1, a => if kd T n a.1.1 = 258 then .ok a else (stmR T n a).bind (stms f)
def rdRoom : Es Rx := (firR T n (q0S T n, [])).bind (stms T n 60)
end RM
/-- bounds of a room that is being told -/
def RmC (ρ : Mem) : Prop :=
  (0 ≤ ρ 0 0 ∧ ρ 0 0 ≤ 6 ∧ 0 ≤ ρ 0 1 ∧ ρ 0 1 ≤ 10 ∧ 0 ≤ ρ 0 2 ∧ ρ 0 2 ≤ 4 ∧ 0 ≤ ρ 0 3 ∧ ρ 0 3 ≤ 60) ∧ sumF (ρ 2) (ρ 0 0).toNat ≤ 100 ∧
  (∀ i : Nat, (i : Int) < ρ 0 0 → (1 ≤ ρ 1 i ∧ ρ 1 i ≤ 99) ∧ 1 ≤ ρ 2 i ∧ ρ 2 i ≤ 100) ∧
  (∀ s : Nat, (s : Int) < ρ 0 1 → (1 ≤ ρ 3 s ∧ ρ 3 s ≤ 99) ∧ (ρ 4 s = 0 ∨ ρ 4 s = 1) ∧ (0 ≤ ρ 6 s ∧ ρ 6 s ≤ 4) ∧ ∀ k : Nat, (k : Int) < ρ 6 s → 1 ≤ ρ 5 (s * 4 + k) ∧ ρ 5 (s * 4 + k) ≤ 98) ∧
  ((∀ i : Nat, i < 4 → 0 ≤ ρ 7 i ∧ ρ 7 i ≤ 99) ∧ (1 ≤ ρ 7 4 ∧ ρ 7 4 ≤ 9) ∧ 1 ≤ ρ 7 5 ∧ ρ 7 5 ≤ 3)
def NmI (ρ : Mem) : Prop := (∀ s : Nat, (s : Int) < ρ 0 1 → ∃ v, NmOK (fun j => ρ 8 (s * 6 + j)) v) ∧ ∀ k : Nat, (k : Int) < ρ 0 2 → ∃ v, NmOK (fun j => ρ 8 ((10 + k) * 6 + j)) v
/-- what holds of it -/
def PI (n : Nat) (a : Rx) : Prop := RmC a.2 ∧ RlB a.2 ∧ NmI a.2 ∧ (a.2 10 (a.2 0 2) = (a.1.2.length : Nat) ∧ ∀ j : Nat, j < a.1.2.length → a.2 9 j = a.1.2.getD j 0) ∧ a.1.2.length ≤ a.1.1.1 ∧ a.1.1.1 ≤ n
section RF
variable {T : Int → Int} {n : Nat} {rl : Bool}
theorem numR_ok {lo hi v : Int} {σ : Stt} (h : numR T n lo hi σ = .ok v) : kd T n σ = 257 ∧ lo ≤ v ∧ v ≤ hi ∧ v = nv T σ.1 (ed T n σ - σ.1) ∧ ed T n σ - σ.1 ≤ 4 := by
  unfold numR at h
  by_cases c1 : kd T n σ ≠ 257
  · rw [if_pos c1] at h; cases h
  · rw [if_neg c1] at h
    by_cases c2 : 4 < ed T n σ - σ.1
    · rw [if_pos c2] at h; cases h
    · rw [if_neg c2] at h
      by_cases c3 : nv T σ.1 (ed T n σ - σ.1) < lo ∨ hi < nv T σ.1 (ed T n σ - σ.1)
      · rw [if_pos c3] at h; cases h
      · rw [if_neg c3] at h
        cases h
        exact ⟨Classical.not_not.mp c1, by omega, by omega, rfl, by omega⟩
theorem exW_ok {k : Int} {x y : Stt × List Int} (h : exW T n k x = .ok y) : wE T n x.1 = k ∧ y = (nx T n x.1, x.2) := by
  unfold exW at h
  by_cases c : wE T n x.1 = k
  · rw [if_pos c] at h; cases h; exact ⟨c, rfl⟩
  · rw [if_neg c] at h; cases h
theorem exS_ok2 {k : Int} {x y : Stt × List Int} (h : exS T n k x = .ok y) : kd T n x.1 = k ∧ y = (nx T n x.1, x.2) := by
  unfold exS at h
  by_cases c : kd T n x.1 = k
  · rw [if_pos c] at h; cases h; exact ⟨c, rfl⟩
  · rw [if_neg c] at h; cases h
theorem bind_ok {α β : Type} {r : Es α} {f : α → Es β} {y : β} (h : r.bind f = .ok y) : ∃ x, r = .ok x ∧ f x = .ok y := by
  cases r with
  | ok x => exact ⟨x, rfl, h⟩
  | error e => cases h
theorem nmeR_ok {ρ : Mem} {x y : Stt × List Int} (h : nmeR T n ρ x = .ok y) : kd T n x.1 = 256 ∧ ¬ (0 ≤ wi T n x.1 ∧ wi T n x.1 < 30) ∧ (ed T n x.1 : Int) ≤ (x.1.1 : Int) + 6 ∧ fresh ρ (ltr T n x.1) ∧ y = (nx T n x.1, x.2) := by
  unfold nmeR at h
  by_cases c1 : kd T n x.1 ≠ 256 ∨ (0 ≤ wi T n x.1 ∧ wi T n x.1 < 30)
  · rw [if_pos c1] at h; cases h
  · rw [if_neg c1] at h
    by_cases c2 : (x.1.1 : Int) + 6 < (ed T n x.1 : Nat)
    · rw [if_pos c2] at h; cases h
    · rw [if_neg c2] at h
      by_cases c3 : fresh ρ (ltr T n x.1)
      · rw [if_pos c3] at h; cases h
        exact ⟨Classical.not_not.mp (fun q => c1 (Or.inl q)), fun q => c1 (Or.inr q), by omega, c3, rfl⟩
      · rw [if_neg c3] at h; cases h
theorem ltr_nm {σ : Stt} (h : kd T n σ = 256) (hb : ∀ i : Nat, i < n → 0 ≤ T i ∧ T i ≤ 255) (h6 : (ed T n σ : Int) ≤ (σ.1 : Int) + 6) : NmOK (ltr T n σ) (hornF (ltr T n σ) (ed T n σ - σ.1)) := by
  obtain ⟨lt, hl, -, he⟩ := kd256 h hb
  have ge : σ.1 + 1 ≤ ed T n σ := by rw [he]; exact spn_ge
  refine ⟨ed T n σ - σ.1, ⟨by omega, by omega⟩, fun j hj => ?_, fun j h1 h2 => ?_, rfl⟩
  · unfold ltr
    rw [if_neg (by omega)]
    have hh : isLe (T ((σ.1 : Int) + j)) = true := by
      by_cases j0 : j = 0
      · rw [j0, show ((σ.1 : Int) + ((0 : Nat) : Int)) = σ.1 by omega]; exact hl
      · have := @spn_in isLe T n (σ.1 + 1) (σ.1 + j) (by omega) (by rw [← he]; omega)
        rw [show ((σ.1 : Int) + (j : Int)) = ((σ.1 + j : Nat) : Int) by omega]; exact this
    have := isLe_iff.mp hh
    omega
  · unfold ltr
    rw [if_pos (by omega)]
theorem NmOK.cg {f g : Int → Int} {v : Int} (h : NmOK f v) (e : ∀ j : Nat, j < 6 → g j = f j) : NmOK g v := by
  obtain ⟨k, ⟨k1, k2⟩, k3, k4, k5⟩ := h
  have hh : ∀ i : Nat, i ≤ k → hornF g i = hornF f i := by
    intro i
    induction i with
    | zero => intro _; rfl
    | succ i ih => intro hi; rw [hornF, hornF, ih (by omega), e i (by omega)]
  exact ⟨k, ⟨k1, k2⟩, fun j hj => by rw [e j (by omega)]; exact k3 j hj, fun j q1 q2 => by rw [e j q2]; exact k4 j q1 q2, by rw [hh k (Nat.le_refl _)]; exact k5⟩
theorem tyF_congr {f g : Int → Int} : ∀ {k : Nat}, (∀ j : Nat, j < k → f j = g j) → tyF rl f k = tyF rl g k
  | 0, _ => rfl
  | k + 1, h => by rw [tyF, tyF, tyF_congr (k := k) (fun j hj => h j (by omega)), h k (by omega)]
end RF
/-! rooms as texts: what holds of a room that is told -/
section RP
variable {T : Int → Int} {n : Nat}
theorem nx1 {σ : Stt} (h : kd T n σ ≠ 258) (hl : σ.1 ≤ n) : σ.1 < (nx T n σ).1 ∧ (nx T n σ).1 ≤ n := nx_of h
theorem wE_n2 {σ : Stt} {k : Int} (h : wE T n σ = k) (hk : 0 ≤ k) : σ.1 < (nx T n σ).1 ∧ (nx T n σ).1 ≤ n := nx_of (wE_n h hk)
theorem nm_nx {σ : Stt} (h : kd T n σ = 257) : σ.1 < (nx T n σ).1 ∧ (nx T n σ).1 ≤ n := nx_of (by rw [h]; decide)
theorem addL_0 {ρ : Mem} {y c : Int} : addL ρ y c 0 0 = ρ 0 0 + 1 := by unfold addL; rw [wr_eq]
theorem addL_n {ρ : Mem} {y c a j : Int} (h : ¬ (a = 0 ∧ j = 0) ∧ ¬ (a = 1 ∧ j = ρ 0 0) ∧ ¬ (a = 2 ∧ j = ρ 0 0)) : addL ρ y c a j = ρ a j := by
  unfold addL
  rw [wr_ne _ _ _ _ _ _ h.1, wr_ne _ _ _ _ _ _ h.2.2, wr_ne _ _ _ _ _ _ h.2.1]
theorem addL_1 {ρ : Mem} {y c : Int} : addL ρ y c 1 (ρ 0 0) = y := by
  unfold addL
  rw [wr_ne _ _ _ _ _ _ (by omega), wr_ne _ _ _ _ _ _ (by omega), wr_eq]
theorem addL_2 {ρ : Mem} {y c : Int} : addL ρ y c 2 (ρ 0 0) = c := by
  unfold addL
  rw [wr_ne _ _ _ _ _ _ (by omega), wr_eq]
theorem addL_sum {ρ : Mem} {y c : Int} (h0 : 0 ≤ ρ 0 0) : sumF (addL ρ y c 2) (addL ρ y c 0 0).toNat = sumF (ρ 2) (ρ 0 0).toNat + c := by
  rw [addL_0, show (ρ 0 0 + 1).toNat = (ρ 0 0).toNat + 1 by omega, sumF]
  rw [show (((ρ 0 0).toNat : Nat) : Int) = ρ 0 0 by omega, addL_2]
  rw [sumF_congr (fun i hi => addL_n (a := 2) (j := (i : Int)) ⟨by omega, by omega, by omega⟩)]
/-- while the lengths are told -/
def PL (ρ : Mem) : Prop := ρ 0 3 = 0 ∧ ρ 0 1 = 0 ∧ ρ 0 2 = 0 ∧ ρ 10 0 = 0 ∧ RmC ρ
theorem PL.sb {ρ : Mem} (h : PL ρ) : 0 ≤ sumF (ρ 2) (ρ 0 0).toNat ∧ sumF (ρ 2) (ρ 0 0).toNat ≤ 100 := by
  obtain ⟨-, -, -, -, b1, b2, b3, -, -⟩ := h
  have := (sumF_bd (f := ρ 2) (a := 1) (b := 100) (n := (ρ 0 0).toNat) (fun i hi => (b3 i (by omega)).2)).1
  omega
theorem PL.add {ρ : Mem} {y c : Int} (h : PL ρ) (h6 : ρ 0 0 < 6) (hy : 1 ≤ y ∧ y ≤ 99) (hc : 1 ≤ c ∧ c ≤ 100 - sumF (ρ 2) (ρ 0 0).toNat) : PL (addL ρ y c) := by
  obtain ⟨h3, h1, h2, h10, b1, b2, b3, b4, b5⟩ := h
  have n0 : ∀ j, j ≠ 0 → addL ρ y c 0 j = ρ 0 j := fun j hj => addL_n ⟨by omega, by omega, by omega⟩
  have s0 : 0 ≤ sumF (ρ 2) (ρ 0 0).toNat := by
    have := (sumF_bd (f := ρ 2) (a := 1) (b := 100) (n := (ρ 0 0).toNat) (fun i hi => (b3 i (by omega)).2)).1
    omega
  refine ⟨by rw [n0 3 (by decide)]; exact h3, by rw [n0 1 (by decide)]; exact h1, by rw [n0 2 (by decide)]; exact h2, by rw [addL_n ⟨by omega, by omega, by omega⟩]; exact h10, ?_, ?_, fun i hi => ?_, fun s hs => ?_, ?_⟩
  · rw [addL_0, n0 1 (by decide), n0 2 (by decide), n0 3 (by decide)]; omega
  · rw [addL_sum b1.1]; omega
  · rw [addL_0] at hi
    by_cases e : (i : Int) = ρ 0 0
    · rw [e, addL_1, addL_2]; exact ⟨hy, by omega⟩
    · rw [addL_n ⟨by omega, by omega, by omega⟩, addL_n ⟨by omega, by omega, by omega⟩]
      exact b3 i (by omega)
  · rw [n0 1 (by decide)] at hs; omega
  · refine ⟨fun i hi => by rw [addL_n ⟨by omega, by omega, by omega⟩]; exact b5.1 i hi, by rw [addL_n ⟨by omega, by omega, by omega⟩]; exact b5.2.1, by rw [addL_n ⟨by omega, by omega, by omega⟩]; exact b5.2.2⟩
theorem lenR_ok {x : Stt × List Int} {ρ : Mem} {a : (Stt × List Int) × Mem × Int} (h : lenR T n x ρ = .ok a) (hp : PL ρ) (h6 : ρ 0 0 < 6) : PL a.2.1 ∧ a.2.1 0 0 = ρ 0 0 + 1 ∧ a.1.2 = x.2 ∧ x.1.1 < a.1.1.1 ∧ a.1.1.1 ≤ n ∧ 0 ≤ a.2.2 ∧ a.2.2 ≤ n := by
  unfold lenR at h
  obtain ⟨b, e1, h⟩ := bind_ok h
  obtain ⟨w1, rfl⟩ := exW_ok e1
  obtain ⟨y, e2, h⟩ := bind_ok h
  have y2 := numR_ok e2
  by_cases c : newL ρ y
  · rw [if_pos c] at h
    obtain ⟨b2, e3, h⟩ := bind_ok h
    obtain ⟨w2, rfl⟩ := exW_ok e3
    obtain ⟨u, e4, h⟩ := bind_ok h
    have u2 := numR_ok e4
    cases h
    have k1 := wE_n2 w1 (by decide)
    have k2 := nm_nx y2.1
    have k3 := wE_n2 w2 (by decide)
    have k4 := nm_nx u2.1
    refine ⟨hp.add h6 ⟨y2.2.1, y2.2.2.1⟩ ⟨u2.2.1, u2.2.2.1⟩, addL_0 (y := y) (c := u), rfl, ?_, k4.2, ?_, ?_⟩
    · show x.1.1 < (nx T n (nx T n (nx T n (nx T n x.1)))).1
      have q1 : (nx T n x.1).1 < (nx T n (nx T n x.1)).1 := k2.1
      have q2 : (nx T n (nx T n x.1)).1 < (nx T n (nx T n (nx T n x.1))).1 := k3.1
      have q3 : (nx T n (nx T n (nx T n x.1))).1 < (nx T n (nx T n (nx T n (nx T n x.1)))).1 := k4.1
      omega
    · show (0 : Int) ≤ ((nx T n (nx T n (nx T n x.1))).1 : Nat); omega
    · show (((nx T n (nx T n (nx T n x.1))).1 : Nat) : Int) ≤ n
      have : (nx T n (nx T n (nx T n x.1))).1 ≤ n := k3.2
      omega
  · rw [if_neg c] at h; cases h
theorem lensR_ok : ∀ {f : Nat} {x : Stt × List Int} {ρ : Mem} {p : Int} {a : (Stt × List Int) × Mem × Int}, lensR T n f x ρ p = .ok a → PL ρ → ρ 0 0 + f ≤ 6 → 1 ≤ f → x.1.1 ≤ n → PL a.2.1 ∧ 1 ≤ a.2.1 0 0 ∧ a.1.2 = x.2 ∧ x.1.1 < a.1.1.1 ∧ a.1.1.1 ≤ n ∧ 0 ≤ a.2.2 ∧ a.2.2 ≤ n
  | 0, _, _, _, _, _, _, _, h1, _ => absurd h1 (by decide)
  | f + 1, x, ρ, p, a, h, hp, h6, _, hx => by
    rw [lensR] at h
    obtain ⟨b, e1, h⟩ := bind_ok h
    obtain ⟨q1, q2, q3, q4, q5, q6, q7⟩ := lenR_ok e1 hp (by omega)
    have p0 : 0 ≤ ρ 0 0 := hp.2.2.2.2.1.1
    by_cases c : wE T n b.1.1 = 1
    · rw [if_pos c] at h
      by_cases f0 : f = 0
      · subst f0
        rw [lensR] at h
        cases h
        exact ⟨q1, by show 1 ≤ b.2.1 0 0; omega, q3, q4, q5, q6, q7⟩
      · obtain ⟨r1, r2, r3, r4, r5, r6, r7⟩ := lensR_ok h q1 (by omega) (by omega) q5
        exact ⟨r1, r2, r3.trans q3, by omega, r5, r6, r7⟩
    · rw [if_neg c] at h
      cases h
      exact ⟨q1, by omega, q3, q4, q5, q6, q7⟩
theorem pl_0 : PL ρ0 := by
  refine ⟨rfl, rfl, rfl, rfl, by decide, by decide, fun i hi => ?_, fun s hs => ?_, fun i hi => ?_, by decide, by decide⟩
  · have : (i : Int) < 0 := hi
    omega
  · have : (s : Int) < 0 := hs
    omega
  · rcases (by omega : i = 0 ∨ i = 1 ∨ i = 2 ∨ i = 3) with rfl | rfl | rfl | rfl <;> decide
theorem PI.mk {σ : Stt} {q : List Int} {ρ : Mem} (h1 : RmC ρ) (h2 : RlB ρ) (h3 : NmI ρ) (h4 : ρ 10 (ρ 0 2) = (q.length : Nat)) (h5 : ∀ j : Nat, j < q.length → ρ 9 j = q.getD j 0) (h6 : q.length ≤ σ.1) (h7 : σ.1 ≤ n) : PI n ((σ, q), ρ) := ⟨h1, h2, h3, ⟨h4, h5⟩, h6, h7⟩
theorem pi_end {a b : Rx} (h : PI n a) (hs : a.2 0 3 < 60) (e : endS T n a = .ok b) : PI n b ∧ b.2 0 3 = a.2 0 3 + 1 ∧ b.2 0 0 = a.2 0 0 ∧ b.2 2 = a.2 2 := by
  unfold endS at e
  obtain ⟨c, e1, e⟩ := bind_ok e
  obtain ⟨k1, rfl⟩ := exS_ok2 e1
  cases e
  obtain ⟨⟨b1, b2, b3, b4, b5⟩, ⟨hl0, hl⟩, hn, ⟨hq, hq2⟩, hc, hc2⟩ := h
  have nn := nx_of (T := T) (n := n) (σ := a.1.1) (by rw [k1]; decide)
  have z : ∀ c k, ¬ (c = 0 ∧ k = 3) → wr a.2 0 3 (a.2 0 3 + 1) c k = a.2 c k := fun c k q => wr_ne _ _ _ _ _ _ q
  have za : ∀ c, c ≠ 0 → wr a.2 0 3 (a.2 0 3 + 1) c = a.2 c := fun c q => funext fun k => z c k (by omega)
  have z3 : wr a.2 0 3 (a.2 0 3 + 1) 0 3 = a.2 0 3 + 1 := wr_eq _ _ _ _
  refine ⟨PI.mk ⟨?_, ?_, ?_, ?_, ?_⟩ ⟨?_, ?_⟩ ?_ ?_ ?_ ?_ nn.2, z3, z 0 0 (by omega), za 2 (by omega)⟩
  · show 0 ≤ wr a.2 0 3 (a.2 0 3 + 1) 0 0 ∧ _
    rw [z 0 0 (by omega), z 0 1 (by omega), z 0 2 (by omega), z3]; omega
  · show sumF (wr a.2 0 3 (a.2 0 3 + 1) 2) _ ≤ 100
    rw [za 2 (by omega), z 0 0 (by omega)]; exact b2
  · intro i hi
    show (1 ≤ wr a.2 0 3 (a.2 0 3 + 1) 1 i ∧ _) ∧ _
    rw [za 1 (by omega), za 2 (by omega)]
    exact b3 i (by rw [← z 0 0 (by omega)]; exact hi)
  · intro i hi
    show (1 ≤ wr a.2 0 3 (a.2 0 3 + 1) 3 i ∧ _) ∧ _
    rw [za 3 (by omega), za 4 (by omega), za 5 (by omega), za 6 (by omega)]
    exact b4 i (by rw [← z 0 1 (by omega)]; exact hi)
  · show (∀ i : Nat, i < 4 → 0 ≤ wr a.2 0 3 (a.2 0 3 + 1) 7 i ∧ _) ∧ _
    rw [za 7 (by omega)]; exact b5
  · show wr a.2 0 3 (a.2 0 3 + 1) 10 0 = 0
    rw [za 10 (by omega)]; exact hl0
  · intro k hk
    show wr a.2 0 3 (a.2 0 3 + 1) 10 k ≤ _ ∧ _
    rw [za 10 (by omega), za 9 (by omega)]
    exact hl k (by rw [← z 0 2 (by omega)]; exact hk)
  · refine ⟨fun s hs => ?_, fun k hk => ?_⟩
    · show ∃ v, NmOK (fun j => wr a.2 0 3 (a.2 0 3 + 1) 8 (s * 6 + j)) v
      rw [za 8 (by omega)]; exact hn.1 s (by rw [← z 0 1 (by omega)]; exact hs)
    · show ∃ v, NmOK (fun j => wr a.2 0 3 (a.2 0 3 + 1) 8 ((10 + k) * 6 + j)) v
      rw [za 8 (by omega)]; exact hn.2 k (by rw [← z 0 2 (by omega)]; exact hk)
  · show wr a.2 0 3 (a.2 0 3 + 1) 10 (wr a.2 0 3 (a.2 0 3 + 1) 0 2) = _
    rw [za 10 (by omega), z 0 2 (by omega)]; exact hq
  · intro j hj
    show wr a.2 0 3 (a.2 0 3 + 1) 9 j = _
    rw [za 9 (by omega)]; exact hq2 j hj
  · show a.1.2.length ≤ (nx T n a.1.1).1
    omega
theorem pi_min {w : Int} {x : Stt × List Int} {ρ : Mem} {b : Rx} (h : PI n (x, ρ)) (hw : 0 ≤ w ∧ w ≤ 5) (e : minB T n w x ρ = .ok b) (hk : kd T n x.1 ≠ 258) : PI n b ∧ ∀ j, b.2 0 j = ρ 0 j := by
  unfold minB at e
  obtain ⟨v, e1, e⟩ := bind_ok e
  have v2 := numR_ok e1
  cases e
  obtain ⟨⟨b1, b2, b3, b4, b5⟩, ⟨hl0, hl⟩, hn, ⟨hq, hq2⟩, hc, hc2⟩ := h
  have za : ∀ c, c ≠ 7 → wr ρ 7 w v c = ρ c := fun c q => funext fun k => wr_na _ _ _ _ _ _ q
  have n1 := nx_of hk
  have n2 := nm_nx v2.1
  have zw : ∀ i : Int, wr ρ 7 w v 7 i = if i = w then v else ρ 7 i := fun i => by
    by_cases c : i = w
    · rw [if_pos c, c, wr_eq]
    · rw [if_neg c, wr_ne _ _ _ _ _ _ (by omega)]
  have lo := v2.2.1
  have hi := v2.2.2.1
  unfold loM at lo
  unfold hiM at hi
  refine ⟨PI.mk ⟨by rw [za 0 (by omega)]; exact b1, by rw [za 0 (by omega), za 2 (by omega)]; exact b2, ?_, ?_, ?_⟩ ⟨?_, ?_⟩ ?_ ?_ ?_ ?_ n2.2, fun j => by show wr ρ 7 w v 0 j = _; rw [za 0 (by omega)]⟩
  · show ∀ i : Nat, (i : Int) < wr ρ 7 w v 0 0 → _
    rw [za 0 (by omega), za 1 (by omega), za 2 (by omega)]; exact b3
  · show ∀ i : Nat, (i : Int) < wr ρ 7 w v 0 1 → _
    rw [za 0 (by omega), za 3 (by omega), za 4 (by omega), za 5 (by omega), za 6 (by omega)]; exact b4
  · obtain ⟨b5a, b5b, b5c⟩ := b5
    refine ⟨fun i hi2 => ?_, ?_, ?_⟩
    · have := b5a i hi2
      show 0 ≤ wr ρ 7 w v 7 i ∧ wr ρ 7 w v 7 i ≤ 99
      rw [zw i]
      split
      · next c => rw [if_pos (by omega)] at lo hi; omega
      · exact this
    · show 1 ≤ wr ρ 7 w v 7 4 ∧ wr ρ 7 w v 7 4 ≤ 9
      rw [zw 4]
      split
      · next c => rw [if_neg (by omega)] at lo hi; rw [if_pos (by omega)] at hi; omega
      · exact b5b
    · show 1 ≤ wr ρ 7 w v 7 5 ∧ wr ρ 7 w v 7 5 ≤ 3
      rw [zw 5]
      split
      · next c => rw [if_neg (by omega)] at lo hi; rw [if_neg (by omega)] at hi; omega
      · exact b5c
  · show wr ρ 7 w v 10 0 = 0
    rw [za 10 (by omega)]; exact hl0
  · show ∀ k : Nat, (k : Int) < wr ρ 7 w v 0 2 → _
    rw [za 0 (by omega), za 10 (by omega), za 9 (by omega)]; exact hl
  · show (∀ s : Nat, (s : Int) < wr ρ 7 w v 0 1 → ∃ u, NmOK (fun j => wr ρ 7 w v 8 (s * 6 + j)) u) ∧ ∀ k : Nat, (k : Int) < wr ρ 7 w v 0 2 → ∃ u, NmOK (fun j => wr ρ 7 w v 8 ((10 + k) * 6 + j)) u
    rw [za 0 (by omega), za 8 (by omega)]; exact hn
  · show wr ρ 7 w v 10 (wr ρ 7 w v 0 2) = _
    rw [za 0 (by omega), za 10 (by omega)]; exact hq
  · show ∀ j : Nat, j < x.2.length → wr ρ 7 w v 9 j = _
    rw [za 9 (by omega)]; exact hq2
  · show x.2.length ≤ (nx T n (nx T n x.1)).1
    have : x.2.length ≤ x.1.1 := hc
    omega
theorem plsR_ok {y : Int} : ∀ {f : Nat} {b : Int} {σ : Stt} {l : List Int} {a : Stt × List Int}, plsR T n y f b σ l = .ok a → 0 ≤ b → y ≤ 99 → l.length + f ≤ 4 → (∀ v ∈ l, 1 ≤ v ∧ v ≤ 98) → σ.1 ≤ n → a.2.length ≤ 4 ∧ (∀ v ∈ a.2, 1 ≤ v ∧ v ≤ 98) ∧ σ.1 < a.1.1 ∧ a.1.1 ≤ n
  | 0, _, _, _, _, h, _, _, _, _, _ => by rw [plsR] at h; cases h
  | f + 1, b, σ, l, a, h, hb, hy, hl, hm, hn => by
    rw [plsR] at h
    obtain ⟨v, e1, h⟩ := bind_ok h
    have v2 := numR_ok e1
    have k := nm_nx v2.1
    have ml : ∀ u ∈ l ++ [v], 1 ≤ u ∧ u ≤ 98 := by
      intro u hu
      rcases List.mem_append.mp hu with q | q
      · exact hm u q
      · rw [List.mem_singleton.mp q]; omega
    have ll : (l ++ [v]).length = l.length + 1 := by rw [List.length_append]; rfl
    by_cases c : kd T n (nx T n σ) = 257
    · rw [if_pos c] at h
      obtain ⟨r1, r2, r3, r4⟩ := plsR_ok h (by omega) hy (by omega) ml k.2
      exact ⟨r1, r2, by omega, r4⟩
    · rw [if_neg c] at h
      cases h
      exact ⟨by show (l ++ [v]).length ≤ 4; omega, ml, k.1, k.2⟩
theorem shS_ok {σ : Stt} (h : σ.1 ≤ n) : σ.1 ≤ (shS T n σ).1 ∧ (shS T n σ).1 ≤ n := by
  unfold shS
  by_cases c : wE T n σ = 5
  · rw [if_pos c]; have := wE_n2 c (by decide); omega
  · rw [if_neg c]; omega
theorem plcR_ok {y : Int} {σ : Stt} {a : Stt × List Int} (h : plcR T n y σ = .ok a) (hy : y ≤ 99) (hn : σ.1 ≤ n) : a.2.length ≤ 4 ∧ (∀ v ∈ a.2, 1 ≤ v ∧ v ≤ 98) ∧ σ.1 ≤ a.1.1 ∧ a.1.1 ≤ n := by
  unfold plcR at h
  by_cases c : wE T n σ = 6
  · rw [if_pos c] at h
    have k := wE_n2 c (by decide)
    obtain ⟨r1, r2, r3, r4⟩ := plsR_ok h (by decide) hy (by decide) (fun v hv => absurd hv List.not_mem_nil) k.2
    exact ⟨r1, r2, by omega, r4⟩
  · rw [if_neg c] at h
    cases h
    exact ⟨Nat.zero_le _, fun v hv => absurd hv List.not_mem_nil, Nat.le_refl _, hn⟩
end RP
/-! rooms as texts: a seam and a rule more -/
section RQ
variable {T : Int → Int} {n : Nat}
theorem gdl {pl : List Int} {k : Nat} (h : k < pl.length) : pl.getD k 0 ∈ pl := by
  rw [getD_ge 0 h]; exact List.getElem_mem h
section AS
variable {ρ : Mem} {f : Int → Int} {y sh : Int} {pl : List Int}
theorem aS_0 : addS ρ f y sh pl 0 1 = ρ 0 1 + 1 := by unfold addS; rw [if_pos ⟨rfl, rfl⟩]
theorem aS_3 : addS ρ f y sh pl 3 (ρ 0 1) = y := by unfold addS; rw [if_neg (by omega), if_pos ⟨rfl, rfl⟩]
theorem aS_4 : addS ρ f y sh pl 4 (ρ 0 1) = sh := by unfold addS; rw [if_neg (by omega), if_neg (by omega), if_pos ⟨rfl, rfl⟩]
theorem aS_6 : addS ρ f y sh pl 6 (ρ 0 1) = (pl.length : Nat) := by unfold addS; rw [if_neg (by omega), if_neg (by omega), if_neg (by omega), if_neg (by omega), if_pos ⟨rfl, rfl⟩]
theorem aS_5 {k : Nat} (hk : k < 4) : addS ρ f y sh pl 5 (ρ 0 1 * 4 + k) = pl.getD k 0 := by
  unfold addS
  rw [if_neg (by omega), if_neg (by omega), if_neg (by omega), if_pos ⟨rfl, by omega, by omega⟩, show (ρ 0 1 * 4 + k - ρ 0 1 * 4).toNat = k by omega]
theorem aS_8 {j : Nat} (hj : j < 6) : addS ρ f y sh pl 8 (ρ 0 1 * 6 + j) = f j := by
  unfold addS
  rw [if_neg (by omega), if_neg (by omega), if_neg (by omega), if_neg (by omega), if_neg (by omega), if_pos ⟨rfl, by omega, by omega⟩, show ρ 0 1 * 6 + (j : Int) - ρ 0 1 * 6 = j by omega]
theorem aS_n {a j : Int} (h : ¬ (a = 0 ∧ j = 1) ∧ ¬ ((a = 3 ∨ a = 4 ∨ a = 6) ∧ j = ρ 0 1) ∧ ¬ (a = 5 ∧ ρ 0 1 * 4 ≤ j ∧ j < ρ 0 1 * 4 + 4) ∧ ¬ (a = 8 ∧ ρ 0 1 * 6 ≤ j ∧ j < ρ 0 1 * 6 + 6)) : addS ρ f y sh pl a j = ρ a j := by
  unfold addS
  rw [if_neg h.1, if_neg (fun q => h.2.1 ⟨Or.inl q.1, q.2⟩), if_neg (fun q => h.2.1 ⟨Or.inr (Or.inl q.1), q.2⟩), if_neg h.2.2.1, if_neg (fun q => h.2.1 ⟨Or.inr (Or.inr q.1), q.2⟩), if_neg h.2.2.2]
theorem aS_a {a : Int} (h : a ≠ 0 ∧ a ≠ 3 ∧ a ≠ 4 ∧ a ≠ 5 ∧ a ≠ 6 ∧ a ≠ 8) : addS ρ f y sh pl a = ρ a := funext fun j => aS_n ⟨by omega, by omega, by omega, by omega⟩
theorem aS_z {j : Int} (h : j ≠ 1) : addS ρ f y sh pl 0 j = ρ 0 j := aS_n ⟨by omega, by omega, by omega, by omega⟩
theorem aS_k (f : Int → Int) (y sh : Int) (pl : List Int) : addS ρ f y sh pl 0 3 = ρ 0 3 ∧ addS ρ f y sh pl 0 0 = ρ 0 0 ∧ addS ρ f y sh pl 2 = ρ 2 := ⟨aS_z (by decide), aS_z (by decide), aS_a (by decide)⟩
end AS
section AR
variable {ρ : Mem} {f : Int → Int} {q : List Int}
theorem aR_0 : addR ρ f q 0 2 = ρ 0 2 + 1 := by unfold addR; rw [if_pos ⟨rfl, rfl⟩]
theorem aR_8 {j : Nat} (hj : j < 6) : addR ρ f q 8 ((10 + ρ 0 2) * 6 + j) = f j := by
  unfold addR
  rw [if_neg (by omega), if_pos ⟨rfl, by omega, by omega⟩, show (10 + ρ 0 2) * 6 + (j : Int) - (10 + ρ 0 2) * 6 = j by omega]
theorem aR_9 {j : Int} : addR ρ f q 9 j = q.getD j.toNat 0 := by
  unfold addR
  rw [if_neg (by omega), if_neg (by omega), if_pos rfl]
theorem aR_10 : addR ρ f q 10 (ρ 0 2 + 1) = (q.length : Nat) := by
  unfold addR
  rw [if_neg (by omega), if_neg (by omega), if_neg (by omega), if_pos ⟨rfl, rfl⟩]
theorem aR_n {a j : Int} (h : ¬ (a = 0 ∧ j = 2) ∧ ¬ (a = 8 ∧ (10 + ρ 0 2) * 6 ≤ j ∧ j < (10 + ρ 0 2) * 6 + 6) ∧ a ≠ 9 ∧ ¬ (a = 10 ∧ j = ρ 0 2 + 1)) : addR ρ f q a j = ρ a j := by
  unfold addR
  rw [if_neg h.1, if_neg h.2.1, if_neg h.2.2.1, if_neg h.2.2.2]
theorem aR_a {a : Int} (h : a ≠ 0 ∧ a ≠ 8 ∧ a ≠ 9 ∧ a ≠ 10) : addR ρ f q a = ρ a := funext fun j => aR_n ⟨by omega, by omega, by omega, by omega⟩
theorem aR_z {j : Int} (h : j ≠ 2) : addR ρ f q 0 j = ρ 0 j := aR_n ⟨by omega, by omega, by omega, by omega⟩
theorem aR_k (f : Int → Int) (q : List Int) : addR ρ f q 0 3 = ρ 0 3 ∧ addR ρ f q 0 0 = ρ 0 0 ∧ addR ρ f q 2 = ρ 2 := ⟨aR_z (by decide), aR_z (by decide), aR_a (by decide)⟩
end AR
theorem pi_seam {x : Stt × List Int} {ρ : Mem} {b : Rx} (h : PI n (x, ρ)) (hb : ∀ i : Nat, i < n → 0 ≤ T i ∧ T i ≤ 255) (e : seamB T n x ρ = .ok b) (hk : kd T n x.1 ≠ 258) : PI n b ∧ (b.2 0 3 = ρ 0 3 ∧ b.2 0 0 = ρ 0 0) ∧ b.2 2 = ρ 2 := by
  unfold seamB at e
  by_cases c0 : ρ 0 1 = 10
  · rw [if_pos c0] at e; cases e
  rw [if_neg c0] at e
  obtain ⟨a1, e1, e⟩ := bind_ok e
  obtain ⟨m1, m2, m3, m4, rfl⟩ := nmeR_ok e1
  obtain ⟨a2, e2, e⟩ := bind_ok e
  obtain ⟨w1, rfl⟩ := exW_ok e2
  have m1 : kd T n (nx T n x.1) = 256 := m1
  have w1 : wE T n (nx T n (nx T n x.1)) = 4 := w1
  obtain ⟨y, e3, e⟩ := bind_ok e
  have e3 : numR T n 1 99 (nx T n (nx T n (nx T n x.1))) = .ok y := e3
  have y2 := numR_ok e3
  obtain ⟨c, e4, e⟩ := bind_ok e
  have e4 : plcR T n y (shS T n (nx T n (nx T n (nx T n (nx T n x.1))))) = .ok c := e4
  cases e
  obtain ⟨⟨b1, b2, b3, b4, b5⟩, ⟨hl0, hl⟩, hn, ⟨hq, hq2⟩, hc, hc2⟩ := h
  have b1 : (0 ≤ ρ 0 0 ∧ ρ 0 0 ≤ 6 ∧ 0 ≤ ρ 0 1 ∧ ρ 0 1 ≤ 10 ∧ 0 ≤ ρ 0 2 ∧ ρ 0 2 ≤ 4 ∧ 0 ≤ ρ 0 3 ∧ ρ 0 3 ≤ 60) := b1
  have b4 : ∀ s : Nat, (s : Int) < ρ 0 1 → (1 ≤ ρ 3 s ∧ ρ 3 s ≤ 99) ∧ (ρ 4 s = 0 ∨ ρ 4 s = 1) ∧ (0 ≤ ρ 6 s ∧ ρ 6 s ≤ 4) ∧ ∀ k : Nat, (k : Int) < ρ 6 s → 1 ≤ ρ 5 (s * 4 + k) ∧ ρ 5 (s * 4 + k) ≤ 98 := b4
  have k0 := nx_of hk
  have k1 := nx_of (T := T) (n := n) (σ := nx T n x.1) (by rw [m1]; decide)
  have k2 : (nx T n (nx T n x.1)).1 < (nx T n (nx T n (nx T n x.1))).1 ∧ (nx T n (nx T n (nx T n x.1))).1 ≤ n := wE_n2 w1 (by decide)
  have k3 := nm_nx y2.1
  have ks := shS_ok (T := T) (n := n) k3.2
  obtain ⟨p1, p2, p3, p4⟩ := plcR_ok e4 y2.2.2.1 ks.2
  have nm := ltr_nm m1 hb m3
  have sv : shV T n (nx T n (nx T n (nx T n (nx T n x.1)))) = 0 ∨ shV T n (nx T n (nx T n (nx T n (nx T n x.1)))) = 1 := by
    unfold shV; split
    · exact Or.inr rfl
    · exact Or.inl rfl
  have hx : x.2.length ≤ x.1.1 := hc
  refine ⟨PI.mk ⟨?_, ?_, ?_, ?_, ?_⟩ ⟨?_, ?_⟩ ?_ ?_ ?_ ?_ p4, ⟨(aS_k (ρ := ρ) (ltr T n (nx T n x.1)) y (shV T n (nx T n (nx T n (nx T n (nx T n x.1))))) c.2).1, (aS_k (ρ := ρ) (ltr T n (nx T n x.1)) y (shV T n (nx T n (nx T n (nx T n (nx T n x.1))))) c.2).2.1⟩, (aS_k (ρ := ρ) (ltr T n (nx T n x.1)) y (shV T n (nx T n (nx T n (nx T n (nx T n x.1))))) c.2).2.2⟩
  · show 0 ≤ addS ρ _ y _ c.2 0 0 ∧ _
    rw [aS_z (by decide), aS_z (j := 2) (by decide), aS_z (j := 3) (by decide), aS_0]; omega
  · show sumF (addS ρ _ y _ c.2 2) (addS ρ _ y _ c.2 0 0).toNat ≤ 100
    rw [aS_z (by decide), aS_a (by decide)]; exact b2
  · show ∀ i : Nat, (i : Int) < addS ρ _ y _ c.2 0 0 → _
    rw [aS_z (by decide), aS_a (a := 1) (by decide), aS_a (a := 2) (by decide)]; exact b3
  · intro s hs
    have hs : (s : Int) < addS ρ (ltr T n (nx T n x.1)) y (shV T n (nx T n (nx T n (nx T n (nx T n x.1))))) c.2 0 1 := hs
    rw [aS_0] at hs
    show (1 ≤ addS ρ (ltr T n (nx T n x.1)) y (shV T n (nx T n (nx T n (nx T n (nx T n x.1))))) c.2 3 s ∧ addS ρ (ltr T n (nx T n x.1)) y (shV T n (nx T n (nx T n (nx T n (nx T n x.1))))) c.2 3 s ≤ 99) ∧ (addS ρ (ltr T n (nx T n x.1)) y (shV T n (nx T n (nx T n (nx T n (nx T n x.1))))) c.2 4 s = 0 ∨ addS ρ (ltr T n (nx T n x.1)) y (shV T n (nx T n (nx T n (nx T n (nx T n x.1))))) c.2 4 s = 1) ∧ (0 ≤ addS ρ (ltr T n (nx T n x.1)) y (shV T n (nx T n (nx T n (nx T n (nx T n x.1))))) c.2 6 s ∧ addS ρ (ltr T n (nx T n x.1)) y (shV T n (nx T n (nx T n (nx T n (nx T n x.1))))) c.2 6 s ≤ 4) ∧ ∀ k : Nat, (k : Int) < addS ρ (ltr T n (nx T n x.1)) y (shV T n (nx T n (nx T n (nx T n (nx T n x.1))))) c.2 6 s → 1 ≤ addS ρ (ltr T n (nx T n x.1)) y (shV T n (nx T n (nx T n (nx T n (nx T n x.1))))) c.2 5 (s * 4 + k) ∧ addS ρ (ltr T n (nx T n x.1)) y (shV T n (nx T n (nx T n (nx T n (nx T n x.1))))) c.2 5 (s * 4 + k) ≤ 98
    by_cases g : (s : Int) = ρ 0 1
    · rw [g, aS_3, aS_4, aS_6]
      refine ⟨⟨y2.2.1, y2.2.2.1⟩, sv, ⟨by omega, by omega⟩, fun k hk => ?_⟩
      rw [aS_5 (by omega)]
      exact p2 _ (gdl (by omega))
    · rw [aS_n ⟨by omega, by omega, by omega, by omega⟩, aS_n ⟨by omega, by omega, by omega, by omega⟩, aS_n ⟨by omega, by omega, by omega, by omega⟩]
      obtain ⟨r1, r2, r3, r4⟩ := b4 s (by omega)
      exact ⟨r1, r2, r3, fun k hk => by rw [aS_n ⟨by omega, by omega, by omega, by omega⟩]; exact r4 k hk⟩
  · show (∀ i : Nat, i < 4 → 0 ≤ addS ρ _ y _ c.2 7 i ∧ _) ∧ _
    rw [aS_a (by decide)]; exact b5
  · show addS ρ _ y _ c.2 10 0 = 0
    rw [aS_a (by decide)]; exact hl0
  · show ∀ k : Nat, (k : Int) < addS ρ _ y _ c.2 0 2 → addS ρ _ y _ c.2 10 k ≤ _ ∧ _ ∧ tyF true (fun j => addS ρ _ y _ c.2 9 (_ + j)) _ = _
    rw [aS_z (by decide), aS_a (a := 10) (by decide), aS_a (a := 9) (by decide)]; exact hl
  · refine ⟨fun s hs => ?_, ?_⟩
    · have hs : (s : Int) < addS ρ (ltr T n (nx T n x.1)) y (shV T n (nx T n (nx T n (nx T n (nx T n x.1))))) c.2 0 1 := hs
      rw [aS_0] at hs
      show ∃ v, NmOK (fun j => addS ρ (ltr T n (nx T n x.1)) y (shV T n (nx T n (nx T n (nx T n (nx T n x.1))))) c.2 8 (s * 6 + j)) v
      by_cases g : (s : Int) = ρ 0 1
      · exact ⟨_, nm.cg (fun j hj => by rw [g]; exact aS_8 hj)⟩
      · obtain ⟨v, hv⟩ := hn.1 s (by show (s : Int) < ρ 0 1; omega)
        exact ⟨v, hv.cg (fun j hj => aS_n ⟨by omega, by omega, by omega, by omega⟩)⟩
    · show ∀ k : Nat, (k : Int) < addS ρ _ y _ c.2 0 2 → ∃ v, NmOK (fun j => addS ρ (ltr T n (nx T n x.1)) y (shV T n (nx T n (nx T n (nx T n (nx T n x.1))))) c.2 8 ((10 + k) * 6 + j)) v
      rw [aS_z (by decide)]
      intro k hk
      obtain ⟨v, hv⟩ := hn.2 k hk
      exact ⟨v, hv.cg (fun j hj => aS_n ⟨by omega, by omega, by omega, by omega⟩)⟩
  · show addS ρ _ y _ c.2 10 (addS ρ _ y _ c.2 0 2) = _
    rw [aS_z (by decide), aS_a (by decide)]; exact hq
  · show ∀ j : Nat, j < x.2.length → addS ρ _ y _ c.2 9 j = _
    rw [aS_a (by decide)]; exact hq2
  · show x.2.length ≤ c.1.1
    omega
theorem pi_rule {x : Stt × List Int} {ρ : Mem} {b : Rx} (h : PI n (x, ρ)) (hn1 : n ≤ 1600) (hb : ∀ i : Nat, i < n → 0 ≤ T i ∧ T i ≤ 255) (e : ruleB T n x ρ = .ok b) (hk : kd T n x.1 ≠ 258) : PI n b ∧ (b.2 0 3 = ρ 0 3 ∧ b.2 0 0 = ρ 0 0) ∧ b.2 2 = ρ 2 := by
  unfold ruleB at e
  by_cases c0 : ρ 0 2 = 4
  · rw [if_pos c0] at e; cases e
  rw [if_neg c0] at e
  obtain ⟨a1, e1, e⟩ := bind_ok e
  obtain ⟨m1, m2, m3, m4, rfl⟩ := nmeR_ok e1
  obtain ⟨a2, e2, e⟩ := bind_ok e
  obtain ⟨w1, rfl⟩ := exW_ok e2
  have m1 : kd T n (nx T n x.1) = 256 := m1
  have w1 : wE T n (nx T n (nx T n x.1)) = 8 := w1
  obtain ⟨c, e4, e⟩ := bind_ok e
  have e4 : rdTest T n true 6 (nx T n (nx T n (nx T n x.1))) = .ok c := e4
  cases e
  obtain ⟨⟨b1, b2, b3, b4, b5⟩, ⟨hl0, hl⟩, hn, ⟨hq, hq2⟩, hc, hc2⟩ := h
  have b1 : (0 ≤ ρ 0 0 ∧ ρ 0 0 ≤ 6 ∧ 0 ≤ ρ 0 1 ∧ ρ 0 1 ≤ 10 ∧ 0 ≤ ρ 0 2 ∧ ρ 0 2 ≤ 4 ∧ 0 ≤ ρ 0 3 ∧ ρ 0 3 ≤ 60) := b1
  have hq : ρ 10 (ρ 0 2) = (x.2.length : Nat) := hq
  have hq2 : ∀ j : Nat, j < x.2.length → ρ 9 j = x.2.getD j 0 := hq2
  have hl : ∀ k : Nat, (k : Int) < ρ 0 2 → ρ 10 k ≤ ρ 10 (k + 1) ∧ ρ 10 (k + 1) ≤ 1600 ∧ tyF true (fun j => ρ 9 (ρ 10 k + j)) (ρ 10 (k + 1) - ρ 10 k).toNat = some [true] := hl
  have k0 := nx_of hk
  have k1 := nx_of (T := T) (n := n) (σ := nx T n x.1) (by rw [m1]; decide)
  have k2 : (nx T n (nx T n x.1)).1 < (nx T n (nx T n (nx T n x.1))).1 ∧ (nx T n (nx T n (nx T n x.1))).1 ≤ n := wE_n2 w1 (by decide)
  have k3 : _ ∧ c.1.1 ≤ n ∧ (nx T n (nx T n (nx T n x.1))).1 + c.2.length ≤ c.1.1 := cnt_test (T := T) (n := n) (rl := true) 6 _ c k2.2 e4
  have nm := ltr_nm m1 hb m3
  have hx : x.2.length ≤ x.1.1 := hc
  have ty : tyL true c.2 [] = some [true] := (ty_facts hb 6).2 _ c [] e4 (by decide)
  have len : (x.2 ++ c.2).length = x.2.length + c.2.length := List.length_append
  have rm : ∀ k : Nat, (k : Int) ≤ ρ 0 2 → 0 ≤ ρ 10 k ∧ ρ 10 k ≤ ρ 10 (ρ 0 2) := by
    intro k hk
    have up : ∀ i : Nat, (i : Int) ≤ ρ 0 2 → 0 ≤ ρ 10 i := by
      intro i
      induction i with
      | zero => intro _; rw [show ((0 : Nat) : Int) = 0 from rfl, show ρ 10 0 = 0 from hl0]; exact Int.le_refl _
      | succ i ih =>
        intro hi
        have := (hl i (by omega)).1
        have := ih (by omega)
        rw [show ((i + 1 : Nat) : Int) = (i : Int) + 1 by omega]
        omega
    refine ⟨up k hk, ?_⟩
    have dn : ∀ i : Nat, (k + i : Nat) ≤ (ρ 0 2).toNat → ρ 10 k ≤ ρ 10 (k + i : Nat) := by
      intro i
      induction i with
      | zero => intro _; exact Int.le_refl _
      | succ i ih =>
        intro hi
        have h1 := ih (by omega)
        have h2 := (hl (k + i) (by omega)).1
        rw [show ((k + (i + 1) : Nat) : Int) = ((k + i : Nat) : Int) + 1 by omega]
        omega
    have := dn ((ρ 0 2).toNat - k) (by omega)
    rw [show ((k + ((ρ 0 2).toNat - k) : Nat) : Int) = ρ 0 2 by omega] at this
    exact this
  refine ⟨PI.mk ⟨?_, ?_, ?_, ?_, ?_⟩ ⟨?_, ?_⟩ ?_ ?_ ?_ ?_ k3.2.1, ⟨(aR_k (ρ := ρ) (ltr T n (nx T n x.1)) (x.2 ++ c.2)).1, (aR_k (ρ := ρ) (ltr T n (nx T n x.1)) (x.2 ++ c.2)).2.1⟩, (aR_k (ρ := ρ) (ltr T n (nx T n x.1)) (x.2 ++ c.2)).2.2⟩
  · show 0 ≤ addR ρ _ (x.2 ++ c.2) 0 0 ∧ _
    rw [aR_z (by decide), aR_z (j := 1) (by decide), aR_z (j := 3) (by decide), aR_0]; omega
  · show sumF (addR ρ _ (x.2 ++ c.2) 2) (addR ρ _ (x.2 ++ c.2) 0 0).toNat ≤ 100
    rw [aR_z (by decide), aR_a (by decide)]; exact b2
  · show ∀ i : Nat, (i : Int) < addR ρ _ (x.2 ++ c.2) 0 0 → _
    rw [aR_z (by decide), aR_a (a := 1) (by decide), aR_a (a := 2) (by decide)]; exact b3
  · show ∀ i : Nat, (i : Int) < addR ρ _ (x.2 ++ c.2) 0 1 → _
    rw [aR_z (by decide), aR_a (a := 3) (by decide), aR_a (a := 4) (by decide), aR_a (a := 5) (by decide), aR_a (a := 6) (by decide)]; exact b4
  · show (∀ i : Nat, i < 4 → 0 ≤ addR ρ _ (x.2 ++ c.2) 7 i ∧ _) ∧ _
    rw [aR_a (by decide)]; exact b5
  · show addR ρ _ (x.2 ++ c.2) 10 0 = 0
    rw [aR_n ⟨by omega, by omega, by omega, by omega⟩]; exact hl0
  · intro k hk
    have hk : (k : Int) < addR ρ (ltr T n (nx T n x.1)) (x.2 ++ c.2) 0 2 := hk
    rw [aR_0] at hk
    show addR ρ (ltr T n (nx T n x.1)) (x.2 ++ c.2) 10 k ≤ addR ρ (ltr T n (nx T n x.1)) (x.2 ++ c.2) 10 (k + 1) ∧ addR ρ (ltr T n (nx T n x.1)) (x.2 ++ c.2) 10 (k + 1) ≤ 1600 ∧ tyF true (fun j => addR ρ (ltr T n (nx T n x.1)) (x.2 ++ c.2) 9 (addR ρ (ltr T n (nx T n x.1)) (x.2 ++ c.2) 10 k + j)) (addR ρ (ltr T n (nx T n x.1)) (x.2 ++ c.2) 10 (k + 1) - addR ρ (ltr T n (nx T n x.1)) (x.2 ++ c.2) 10 k).toNat = some [true]
    rw [aR_n (a := 10) (j := (k : Int)) ⟨by omega, by omega, by omega, by omega⟩]
    have r0 := rm k (by omega)
    by_cases g : (k : Int) = ρ 0 2
    · rw [g, aR_10, hq, len]
      refine ⟨by omega, by omega, ?_⟩
      rw [show (((x.2.length + c.2.length : Nat) : Int) - (x.2.length : Nat)).toNat = c.2.length by omega]
      rw [tyF_congr (g := fun j => c.2.getD j.toNat 0) (fun j hj => ?_), tyL_F (Nat.le_refl _), List.take_length]
      · exact ty
      · show addR ρ (ltr T n (nx T n x.1)) (x.2 ++ c.2) 9 (((x.2.length : Nat) : Int) + j) = c.2.getD ((j : Nat) : Int).toNat 0
        rw [aR_9, show (((x.2.length : Nat) : Int) + (j : Int)).toNat = x.2.length + j by omega, show ((j : Nat) : Int).toNat = j by omega, getD_ge 0 (by omega), getD_ge 0 hj, List.getElem_append_right (by omega)]
        congr 1
        omega
    · obtain ⟨r1, r2, r3⟩ := hl k (by omega)
      have rr := rm (k + 1) (by omega)
      rw [show ((k + 1 : Nat) : Int) = (k : Int) + 1 by omega] at rr
      rw [aR_n ⟨by omega, by omega, by omega, by omega⟩]
      refine ⟨r1, r2, ?_⟩
      rw [← r3]
      refine tyF_congr (fun j hj => ?_)
      show addR ρ (ltr T n (nx T n x.1)) (x.2 ++ c.2) 9 (ρ 10 k + j) = ρ 9 (ρ 10 k + j)
      have hq3 := hq2 (ρ 10 k + j).toNat (by omega)
      rw [show (((ρ 10 k + j).toNat : Nat) : Int) = ρ 10 k + j by omega] at hq3
      rw [aR_9, hq3, gd_l (by omega)]
  · refine ⟨?_, fun k hk => ?_⟩
    · show ∀ s : Nat, (s : Int) < addR ρ _ (x.2 ++ c.2) 0 1 → ∃ v, NmOK (fun j => addR ρ (ltr T n (nx T n x.1)) (x.2 ++ c.2) 8 (s * 6 + j)) v
      rw [aR_z (by decide)]
      intro s hs
      obtain ⟨v, hv⟩ := hn.1 s hs
      exact ⟨v, hv.cg (fun j hj => aR_n ⟨by omega, by omega, by omega, by omega⟩)⟩
    · have hk : (k : Int) < addR ρ (ltr T n (nx T n x.1)) (x.2 ++ c.2) 0 2 := hk
      rw [aR_0] at hk
      show ∃ v, NmOK (fun j => addR ρ (ltr T n (nx T n x.1)) (x.2 ++ c.2) 8 ((10 + k) * 6 + j)) v
      by_cases g : (k : Int) = ρ 0 2
      · exact ⟨_, nm.cg (fun j hj => by rw [g]; exact aR_8 hj)⟩
      · obtain ⟨v, hv⟩ := hn.2 k (by show (k : Int) < ρ 0 2; omega)
        exact ⟨v, hv.cg (fun j hj => aR_n ⟨by omega, by omega, by omega, by omega⟩)⟩
  · show addR ρ _ (x.2 ++ c.2) 10 (addR ρ _ (x.2 ++ c.2) 0 2) = ((x.2 ++ c.2).length : Nat)
    rw [aR_0, aR_10]
  · show ∀ j : Nat, j < (x.2 ++ c.2).length → addR ρ _ (x.2 ++ c.2) 9 j = (x.2 ++ c.2).getD j 0
    intro j hj
    rw [aR_9, show ((j : Nat) : Int).toNat = j by omega]
  · show (x.2 ++ c.2).length ≤ c.1.1
    omega
theorem pi_stm {a b : Rx} (h : PI n a) (hn1 : n ≤ 1600) (hb : ∀ i : Nat, i < n → 0 ≤ T i ∧ T i ≤ 255) (e : stmB T n a.1 a.2 = .ok b) : PI n b ∧ (a.2 0 3 < 60 ∧ b.2 0 3 = a.2 0 3 ∧ b.2 0 0 = a.2 0 0) ∧ b.2 2 = a.2 2 := by
  unfold stmB at e
  have b3 := h.1.1
  by_cases c0 : a.2 0 3 = 60
  · rw [if_pos c0] at e; cases e
  rw [if_neg c0] at e
  by_cases c1 : wE T n a.1.1 = 3
  · rw [if_pos c1] at e
    obtain ⟨r1, r2, r3⟩ := pi_seam h hb e (wE_n c1 (by decide))
    exact ⟨r1, ⟨by omega, r2⟩, r3⟩
  rw [if_neg c1] at e
  by_cases c2 : wE T n a.1.1 = 7
  · rw [if_pos c2] at e
    obtain ⟨r1, r2, r3⟩ := pi_rule h hn1 hb e (wE_n c2 (by decide))
    exact ⟨r1, ⟨by omega, r2⟩, r3⟩
  rw [if_neg c2] at e
  by_cases c3 : 9 ≤ wE T n a.1.1 ∧ wE T n a.1.1 ≤ 14
  · rw [if_pos c3] at e
    have hkd := wE_n (T := T) (n := n) (σ := a.1.1) rfl (by omega)
    obtain ⟨r1, r2⟩ := pi_min (w := wE T n a.1.1 - 9) h (by omega) e hkd
    refine ⟨r1, ⟨by omega, r2 3, r2 0⟩, ?_⟩
    unfold minB at e
    obtain ⟨v, -, e⟩ := bind_ok e
    cases e
    exact funext fun k => by
      show wr a.2 7 (wE T n a.1.1 - 9) v 2 k = a.2 2 k
      exact wr_na _ _ _ _ _ _ (by decide)
  · rw [if_neg c3] at e; cases e
end RQ
