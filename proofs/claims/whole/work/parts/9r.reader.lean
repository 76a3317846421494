/-! reading: what a formula is, and the class's reader between tokens -/
abbrev Rs := Except (Int × Int) (Stt × List Int)
abbrev Ps := Stt → Rs
section RD
variable (T : Int → Int) (n : Nat)
def lLoop (op : Stt → Int) (p : Ps) : Nat → Stt × List Int → Rs
  | 0, r => .ok r
  | f + 1, r => if op r.1 = 0 then .ok r else (p (nx T n r.1)).bind fun q => lLoop op p f (q.1, r.2 ++ q.2 ++ [op r.1])
def lChain (op : Stt → Int) (p : Ps) (σ : Stt) : Rs := (p σ).bind fun r => lLoop T n op p 1600 r
def opP (σ : Stt) : Int := if kd T n σ = 42 then 3 else if kd T n σ = 47 then 4 else 0
def opS (σ : Stt) : Int := if kd T n σ = 43 then 1 else if kd T n σ = 45 then 2 else 0
def wE (σ : Stt) : Int := if kd T n σ = 256 then wi T n σ else -1
def opA (σ : Stt) : Int := if wE T n σ = 25 then 10 else 0
def opO (σ : Stt) : Int := if wE T n σ = 24 then 11 else 0
def numR (lo hi : Int) (σ : Stt) : Except (Int × Int) Int :=
  if kd T n σ ≠ 257 then .error (1, σ.1) else if 4 < ed T n σ - σ.1 then .error (1, (σ.1 : Int) + 4) else if nv T σ.1 (ed T n σ - σ.1) < lo ∨ hi < nv T σ.1 (ed T n σ - σ.1) then .error (2, σ.1) else .ok (nv T σ.1 (ed T n σ - σ.1))
def pcode (rl : Bool) (w : Int) : Int :=
  if w = 4 then 40 else if w = 5 then 41 else if w = 15 then 42 else if w = 17 then 43 else if w = 16 then (if rl = true then 44 else 0) else if w = 18 then (if rl = true then 45 else 0) else if w = 19 then (if rl = true then 46 else 0) else if w = 20 then (if rl = true then 0 else 47) else if w = 21 then (if rl = true then 0 else 48) else if w = 22 then (if rl = true then 0 else 49) else 0
/-- a sign that must stand there -/
def exS (c : Int) (x : Stt × List Int) : Rs := if kd T n x.1 = c then .ok (nx T n x.1, x.2) else .error (1, x.1.1)
def lPart (rl : Bool) (dp ds : Ps) (k : Nat) (σ : Stt) : Rs :=
  if kd T n σ = 257 then (numR T n 0 1000000 σ).bind fun v => .ok (nx T n σ, [1000 + v])
  else if kd T n σ = 40 then (if k = 0 then .error (4, σ.1) else (ds (nx T n σ)).bind fun x => exS T n 41 x)
  else if wE T n σ = 28 ∨ wE T n σ = 29 then
    (if kd T n (nx T n σ) ≠ 40 then .error (1, (nx T n σ).1) else if k = 0 then .error (4, (nx T n σ).1) else
      (ds (nx T n (nx T n σ))).bind fun x => (exS T n 44 x).bind fun y => (ds y.1).bind fun z => (exS T n 41 (z.1, y.2 ++ z.2)).bind fun u => .ok (u.1, u.2 ++ [if wE T n σ = 28 then 5 else 6]))
  else if rl = false ∧ wE T n σ = 23 then (if k = 0 then .error (4, σ.1) else (dp (nx T n σ)).bind fun x => .ok (x.1, x.2 ++ [60]))
  else if pcode rl (wE T n σ) = 0 then .error (1, σ.1) else .ok (nx T n σ, [pcode rl (wE T n σ)])
def rdPart (rl : Bool) : Nat → Ps
  | 0 => lPart T n rl (fun _ => .error (1, 0)) (fun _ => .error (1, 0)) 0
  | k + 1 => lPart T n rl (rdPart rl k) (lChain T n (opS T n) (lChain T n (opP T n) (rdPart rl k))) (k + 1)
def rdProd (rl : Bool) (k : Nat) : Ps := lChain T n (opP T n) (rdPart T n rl k)
def rdSum (rl : Bool) (k : Nat) : Ps := lChain T n (opS T n) (rdProd T n rl k)
def cmpC (κ : Int) : Int := if κ = 60 then 7 else if κ = 62 then 8 else 9
def lFact (df dt sm : Ps) (k : Nat) (σ : Stt) : Rs :=
  if wE T n σ = 26 then (if k = 0 then .error (4, σ.1) else (df (nx T n σ)).bind fun x => .ok (x.1, x.2 ++ [12]))
  else if kd T n σ = 91 then (if k = 0 then .error (4, σ.1) else (dt (nx T n σ)).bind fun x => exS T n 93 x)
  else if wE T n σ = 27 then .ok (nx T n σ, [13])
  else (sm σ).bind fun x => if kd T n x.1 = 60 ∨ kd T n x.1 = 62 ∨ kd T n x.1 = 61 then (sm (nx T n x.1)).bind fun y => .ok (y.1, x.2 ++ y.2 ++ [cmpC (kd T n x.1)]) else .error (1, x.1.1)
def rdFact (rl : Bool) : Nat → Ps
  | 0 => lFact T n (fun _ => .error (1, 0)) (fun _ => .error (1, 0)) (rdSum T n rl 0) 0
  | k + 1 => lFact T n (rdFact rl k) (lChain T n (opO T n) (lChain T n (opA T n) (rdFact rl k))) (rdSum T n rl (k + 1)) (k + 1)
def rdBoth (rl : Bool) (k : Nat) : Ps := lChain T n (opA T n) (rdFact T n rl k)
def rdTest (rl : Bool) (k : Nat) : Ps := lChain T n (opO T n) (rdBoth T n rl k)
end RD
theorem gd_l {α : Type} {l r : List α} {i : Nat} {d : α} (h : i < l.length) : (l ++ r).getD i d = l.getD i d := by
  rw [getD_ge d (by rw [List.length_append]; omega), getD_ge d h, List.getElem_append_left h]
theorem gd_e {α : Type} {l : List α} {c d : α} : (l ++ [c]).getD l.length d = c := by simp [List.getD]
section XR
variable {sc : List Int} {d : Nat} {m : Mem} {Q : Option AV → Mem → Prop} {T : Int → Int} {n : Nat} {rl : Bool} {F : Int}
def kE (T : Int → Int) (n : Nat) : Rs → Int
  | .ok x => kd T n x.1
  | .error _ => 260
def wEE (T : Int → Int) (n : Nat) : Rs → Int
  | .ok x => wE T n x.1
  | .error _ => -1
def XRs (T : Int → Int) (n : Nat) (F : Int) (m : Mem) : Rs → Prop
  | .ok x => (m 32 7 = 0 ∧ m 32 8 = -1) ∧ Tok T n m x.1 ∧ x.1.1 ≤ n ∧ x.2.length ≤ x.1.1 ∧ m F 2 = (x.2.length : Nat) ∧ ∀ j : Nat, j < x.2.length → stepRel (m (F + 1) j) (x.2.getD j 0)
  | .error e => m 32 7 = e.1 ∧ m 32 8 = e.2 ∧ (1 ≤ e.1 ∧ e.1 ≤ 5) ∧ (0 ≤ e.2 ∧ e.2 ≤ 1600) ∧ m 32 4 = 260 ∧ 0 ≤ m F 2 ∧ m F 2 ≤ 1600
/-- the class's reader between tokens -/
def XR (T : Int → Int) (n : Nat) (rl : Bool) (F : Int) (m : Mem) (r : Rs) : Prop := Tx m T n ∧ (m 32 9 = if rl = true then 0 else 1) ∧ (m 32 11 = F ∧ FormAt F) ∧ XRs T n F m r
def C_rd (F a j : Int) : Prop := (a = 32 ∧ 2 ≤ j ∧ j ≤ 8) ∨ a = F + 1 ∨ (a = F ∧ j = 2)
/-- what a method of the reader leaves -/
def PR (T : Int → Int) (n : Nat) (rl : Bool) (F : Int) (m : Mem) (r : Rs) : Option AV → Mem → Prop := fun v z => v = none ∧ Ex (C_rd F) m z ∧ XR T n rl F z r
theorem kd_bd {σ : Stt} (h : ∀ i : Nat, i < n → 0 ≤ T i ∧ T i ≤ 255) : 0 ≤ kd T n σ ∧ kd T n σ ≤ 259 := by
  unfold kd
  by_cases c : n ≤ σ.1
  · rw [if_pos c]; omega
  · rw [if_neg c]
    have := h σ.1 (by omega)
    split
    · split <;> omega
    · split
      · split <;> omega
      · omega
theorem fm_bd (h : FormAt F) : F = 10 ∨ F = 25 ∨ F = 34 := h
theorem XR.k4 {r : Rs} (h : XR T n rl F m r) : m 32 4 = kE T n r ∧ 0 ≤ m 32 4 ∧ m 32 4 ≤ 260 := by
  obtain ⟨ht, -, -, hr⟩ := h
  cases r with
  | ok x =>
    have := hr.2.1.2.1
    have b := @kd_bd T n x.1 (fun i hi => (ht.2.2.2 i hi).2)
    exact ⟨this, by rw [this]; omega⟩
  | error e => exact ⟨hr.2.2.2.2.1, by rw [hr.2.2.2.2.1]; decide⟩
theorem XR.s3 {x : Stt × List Int} (h : XR T n rl F m (.ok x)) : m 32 3 = (x.1.1 : Nat) := h.2.2.2.2.1.1
theorem s_fail {r : Rs} {k s : Int} (h : XR T n rl F m r) (hk : 1 ≤ k ∧ k ≤ 5) (hs : ∀ x, r = .ok x → 0 ≤ s ∧ s ≤ 1600) : P_X5_fail sc d [aR 32, aI k, aI s] m (PR T n rl F m (r.bind fun _ => .error (k, s))) := by
  obtain ⟨ht, h9, ⟨h11, hF⟩, hr⟩ := h
  have fb := fm_bd hF
  cases r with
  | ok x =>
    obtain ⟨⟨r7, r8⟩, rt, r1, r2, r3, r4⟩ := hr
    have hs := hs x rfl
    have e1 : Ex (C_rd F) m (wr (wr (wr m 32 7 k) 32 8 s) 32 4 260) := (((Ex.refl (C_rd F) m).put (Or.inl ⟨rfl, by omega, by omega⟩)).put (Or.inl ⟨rfl, by omega, by omega⟩)).put (Or.inl ⟨rfl, by omega, by omega⟩)
    have n1 := ht.1
    refine ep_X5_fail (g_X5_fail_0 ⟨by rw [r7]; decide, fun c => absurd r7 c, fun _ => ⟨rfl, e1, ht.ex e1 (fun a j q c => by unfold C_rd at c; omega), ?_, ⟨?_, hF⟩, ?_, ?_, hk, hs, wr_eq _ _ _ _, ?_⟩⟩)
    · rw [wr_ne _ _ _ _ _ _ (by decide), wr_ne _ _ _ _ _ _ (by decide), wr_ne _ _ _ _ _ _ (by decide)]; exact h9
    · rw [wr_ne _ _ _ _ _ _ (by decide), wr_ne _ _ _ _ _ _ (by decide), wr_ne _ _ _ _ _ _ (by decide)]; exact h11
    · rw [wr_ne _ _ _ _ _ _ (by decide), wr_ne _ _ _ _ _ _ (by decide), wr_eq]
    · rw [wr_ne _ _ _ _ _ _ (by decide), wr_eq]
    · rw [wr_na _ _ _ _ _ _ (by omega), wr_na _ _ _ _ _ _ (by omega), wr_na _ _ _ _ _ _ (by omega), r3]; omega
  | error e =>
    obtain ⟨r7, r8, r1, r2, r4, r5⟩ := hr
    have e1 : Ex (C_rd F) m (wr m 32 4 260) := (Ex.refl (C_rd F) m).put (Or.inl ⟨rfl, by omega, by omega⟩)
    refine ep_X5_fail (g_X5_fail_0 ⟨by omega, fun _ => ⟨rfl, e1, ht.ex e1 (fun a j q c => by unfold C_rd at c; omega), ?_, ⟨?_, hF⟩, ?_, ?_, r1, r2, wr_eq _ _ _ _, ?_⟩, fun c => by omega⟩)
    · rw [wr_ne _ _ _ _ _ _ (by decide)]; exact h9
    · rw [wr_ne _ _ _ _ _ _ (by decide)]; exact h11
    · rw [wr_ne _ _ _ _ _ _ (by decide)]; exact r7
    · rw [wr_ne _ _ _ _ _ _ (by decide)]; exact r8
    · rw [wr_na _ _ _ _ _ _ (by omega)]; exact r5
def nxR (T : Int → Int) (n : Nat) (r : Rs) : Rs := r.bind fun x => .ok (nx T n x.1, x.2)
theorem s_advance {r : Rs} (h : XR T n rl F m r) (hd : 6 ≤ d) : P_X5_advance sc d [aR 32] m (PR T n rl F m (nxR T n r)) := by
  have h4 := h.k4
  have h0 := h
  obtain ⟨ht, h9, ⟨h11, hF⟩, hr⟩ := h
  have fb := fm_bd hF
  cases r with
  | ok x =>
    obtain ⟨⟨r7, r8⟩, rt, r1, r2, r3, r4⟩ := hr
    have el := @ed_le T n x.1 r1
    refine (s_adv (p := ed T n x.1) ht el.2 r7 rt.2.2.1 (by omega) hd).imp ?_
    rintro v z ⟨rfl, ze, zt⟩
    have e2 : Ex (C_rd F) m z := ze.mono (fun a j q => Or.inl ⟨q.1, q.2.1, by have := q.2.2; omega⟩)
    have k1 := @tkN_ge T n (ed T n x.1) (kd T n x.1)
    have k2 := @tkN_le T n (ed T n x.1) (kd T n x.1) el.2
    rw [rt.2.1] at zt
    have zF : ∀ a, (a = F ∨ a = F + 1) → ∀ j, z a j = m a j := fun a ha j => ze a j (fun q => by unfold C_adv at q; omega)
    refine ⟨rfl, e2, ht.adv ze, ?_, ⟨?_, hF⟩, ⟨?_, ?_⟩, zt, k2, Nat.le_trans r2 (Nat.le_trans el.1 k1), ?_, fun j hj => ?_⟩
    · rw [ze 32 9 (fun q => by unfold C_adv at q; omega)]; exact h9
    · rw [ze 32 11 (fun q => by unfold C_adv at q; omega)]; exact h11
    · rw [ze 32 7 (fun q => by unfold C_adv at q; omega)]; exact r7
    · rw [ze 32 8 (fun q => by unfold C_adv at q; omega)]; exact r8
    · rw [zF _ (Or.inl rfl)]; exact r3
    · rw [zF _ (Or.inr rfl)]; exact r4 j hj
  | error e =>
    have r7 := hr.1
    have r1 := hr.2.2.1
    exact ep_X5_advance (g_X5_advance_0 ⟨by omega, fun c => by omega, fun _ => ⟨rfl, Ex.refl _ _, h0⟩⟩)
def ptR (c : Int) (r : Rs) : Rs := r.bind fun x => .ok (x.1, x.2 ++ [c])
theorem s_put {r : Rs} {x c : Int} (h : XR T n rl F m r) (hs : stepRel x c) (hq : ∀ y, r = .ok y → y.2.length + 1 ≤ y.1.1) : P_X3_put sc d [aR F, aI x] m (PR T n rl F m (ptR c r)) := by
  obtain ⟨ht, h9, ⟨h11, hF⟩, hr⟩ := h
  have fb := fm_bd hF
  have n1 := ht.1
  have eq : ∀ v, (wr m (F + 1) (m F 2) v) F 2 = m F 2 := fun v => wr_na _ _ _ _ _ _ (by omega)
  have E1 : Ex (C_rd F) m (wr (wr m (F + 1) (m F 2) x) F 2 (m F 2 + 1)) := ((Ex.refl (C_rd F) m).put (Or.inr (Or.inl rfl))).put (Or.inr (Or.inr ⟨rfl, rfl⟩))
  have c9 : wr (wr m (F + 1) (m F 2) x) F 2 (m F 2 + 1) 32 9 = if rl = true then 0 else 1 := by rw [wr_na _ _ _ _ _ _ (by omega), wr_na _ _ _ _ _ _ (by omega)]; exact h9
  have c11 : wr (wr m (F + 1) (m F 2) x) F 2 (m F 2 + 1) 32 11 = F := by rw [wr_na _ _ _ _ _ _ (by omega), wr_na _ _ _ _ _ _ (by omega)]; exact h11
  have ct : Tx (wr (wr m (F + 1) (m F 2) x) F 2 (m F 2 + 1)) T n := ht.ex E1 (fun a j q c => by unfold C_rd at c; omega)
  have c32 : ∀ j, wr (wr m (F + 1) (m F 2) x) F 2 (m F 2 + 1) 32 j = m 32 j := fun j => by rw [wr_na _ _ _ _ _ _ (by omega), wr_na _ _ _ _ _ _ (by omega)]
  cases r with
  | ok y =>
    obtain ⟨⟨r7, r8⟩, rt, r1, r2, r3, r4⟩ := hr
    have hq := hq y rfl
    refine ep_X3_put (g_X3_put_0 hF ⟨by omega, fun c => by omega, fun _ => ⟨by omega, by omega, ?_⟩⟩)
    rw [eq]
    refine ⟨rfl, E1, ct, c9, ⟨c11, hF⟩, ⟨?_, ?_⟩, ?_, r1, by rw [List.length_append]; exact hq, ?_, fun j hj => ?_⟩
    · rw [c32]; exact r7
    · rw [c32]; exact r8
    · unfold Tok; rw [c32, c32, c32, c32, c32]; exact rt
    · rw [wr_eq, List.length_append, r3]; rfl
    · rw [List.length_append, List.length_singleton] at hj
      rw [wr_na _ _ _ _ _ _ (by omega)]
      by_cases e : j = y.2.length
      · rw [e, ← r3, wr_eq, gd_e]
        exact hs
      · rw [wr_ne _ _ _ _ _ _ (by omega), gd_l (by omega)]
        exact r4 j (by omega)
  | error e =>
    obtain ⟨r7, r8, r1, r2, r4, r5⟩ := hr
    refine ep_X3_put (g_X3_put_0 hF ⟨by omega, fun c => ⟨rfl, Ex.refl _ _, ht, h9, ⟨h11, hF⟩, r7, r8, r1, r2, r4, r5⟩, fun _ => ⟨by omega, by omega, ?_⟩⟩)
    rw [eq]
    refine ⟨rfl, E1, ct, c9, ⟨c11, hF⟩, ?_, ?_, r1, r2, ?_, ?_⟩
    · rw [c32]; exact r7
    · rw [c32]; exact r8
    · rw [c32]; exact r4
    · rw [wr_eq]; omega
theorem s_isWord {r : Rs} {k : Int} (h : XR T n rl F m r) (hk : 0 ≤ k ∧ k ≤ 40) : P_X5_isWord sc d [aR 32, aI k] m (PV (aI (if wEE T n r = k then 1 else 0)) m) := by
  have h4 := h.k4
  refine ep_X5_isWord (g_X5_isWord_0 ⟨by omega, fun c => ?_, fun _ => by omega, ?_, rfl⟩)
  · cases r with
    | ok x =>
      have t4 : m 32 4 = kd T n x.1 := h4.1
      have t5 : m 32 5 = wi T n x.1 := h.2.2.2.2.1.2.2.2.1 (by omega)
      have b := @wi_bd T n x.1
      omega
    | error e => have t4 : m 32 4 = 260 := h4.1; omega
  · cases r with
    | ok x =>
      have e4 : m 32 4 = kd T n x.1 := h4.1
      show some (aI _) = some (aI (if wE T n x.1 = k then 1 else 0))
      unfold wE
      rw [e4]
      by_cases c : kd T n x.1 = 256
      · rw [if_neg (fun q => q c), if_pos c, h.2.2.2.2.1.2.2.2.1 c]
        by_cases c2 : wi T n x.1 = k
        · rw [if_neg (fun q => q c2), if_pos c2]
        · rw [if_pos c2, if_neg c2]
      · rw [if_pos c, if_neg c, if_neg (by omega)]
    | error e =>
      have e4 : m 32 4 = 260 := h4.1
      show some (aI _) = some (aI (if (-1 : Int) = k then 1 else 0))
      rw [e4, if_pos (by decide), if_neg (by omega)]
end XR
