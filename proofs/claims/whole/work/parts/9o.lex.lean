/-! reading: what stands in a text -/
def isBl (c : Int) : Bool := decide (c = 10 ∨ c = 32)
def isLe (c : Int) : Bool := decide (97 ≤ c ∧ c ≤ 122)
def isDi (c : Int) : Bool := decide (48 ≤ c ∧ c ≤ 57)
theorem isBl_iff {c : Int} : isBl c = true ↔ c = 10 ∨ c = 32 := by unfold isBl; rw [decide_eq_true_iff]
theorem isLe_iff {c : Int} : isLe c = true ↔ 97 ≤ c ∧ c ≤ 122 := by unfold isLe; rw [decide_eq_true_iff]
theorem isDi_iff {c : Int} : isDi c = true ↔ 48 ≤ c ∧ c ≤ 57 := by unfold isDi; rw [decide_eq_true_iff]
def spnF (P : Int → Bool) (T : Int → Int) (n : Nat) : Nat → Nat → Nat
  | 0, p => p
  | f + 1, p => if p < n ∧ P (T p) = true then spnF P T n f (p + 1) else p
def spn (P : Int → Bool) (T : Int → Int) (n p : Nat) : Nat := spnF P T n (n - p) p
section LEX
variable {P : Int → Bool} {T : Int → Int} {n p : Nat}
theorem spn_go (h1 : p < n) (h2 : P (T p) = true) : spn P T n p = spn P T n (p + 1) := by
  unfold spn
  rw [show n - p = (n - (p + 1)) + 1 by omega, spnF, if_pos ⟨h1, h2⟩]
theorem spn_st (h : ¬ (p < n ∧ P (T p) = true)) : spn P T n p = p := by
  unfold spn
  cases n - p with
  | zero => rfl
  | succ f => rw [spnF, if_neg h]
theorem spn_all : (p ≤ spn P T n p) ∧ (p ≤ n → spn P T n p ≤ n) ∧ (∀ i : Nat, p ≤ i → i < spn P T n p → P (T i) = true) ∧ (spn P T n p < n → P (T (spn P T n p)) = false) := by
  have key : ∀ (f p : Nat), n - p = f → (p ≤ spn P T n p) ∧ (p ≤ n → spn P T n p ≤ n) ∧ (∀ i : Nat, p ≤ i → i < spn P T n p → P (T i) = true) ∧ (spn P T n p < n → P (T (spn P T n p)) = false) := by
    intro f
    induction f with
    | zero =>
      intro p hf
      rw [spn_st (by omega)]
      exact ⟨by omega, by omega, fun i h1 h2 => by omega, fun c => by omega⟩
    | succ f ih =>
      intro p hf
      by_cases c : P (T p) = true
      · rw [spn_go (by omega) c]
        obtain ⟨i1, i2, i3, i4⟩ := ih (p + 1) (by omega)
        refine ⟨by omega, fun _ => i2 (by omega), fun i h1 h2 => ?_, i4⟩
        by_cases e : i = p
        · rw [e]; exact c
        · exact i3 i (by omega) h2
      · rw [spn_st (fun q => c q.2)]
        exact ⟨by omega, by omega, fun i h1 h2 => by omega, fun _ => by cases hh : P (T p) with | true => exact absurd hh c | false => rfl⟩
  exact key (n - p) p rfl
theorem spn_ge : p ≤ spn P T n p := spn_all.1
theorem spn_le (h : p ≤ n) : spn P T n p ≤ n := spn_all.2.1 h
theorem spn_in {i : Nat} (h1 : p ≤ i) (h2 : i < spn P T n p) : P (T i) = true := spn_all.2.2.1 i h1 h2
theorem spn_end (h : spn P T n p < n) : P (T (spn P T n p)) = false := spn_all.2.2.2 h
theorem spn_mid {a : Nat} (h : p ≤ a) (hb : ∀ i : Nat, p ≤ i → i < a → P (T i) = true) (hn : a ≤ n) : spn P T n p = spn P T n a := by
  have key : ∀ (f p : Nat), a - p = f → p ≤ a → (∀ i : Nat, p ≤ i → i < a → P (T i) = true) → spn P T n p = spn P T n a := by
    intro f
    induction f with
    | zero => intro p hf hp hb; rw [show p = a by omega]
    | succ f ih =>
      intro p hf hp hb
      rw [spn_go (by omega) (hb p (by omega) (by omega))]
      exact ih (p + 1) (by omega) (by omega) (fun i h1 h2 => hb i (by omega) h2)
  exact key (a - p) p rfl h hb
end LEX
/-- where the next word, number or sign stands; whether it stands right behind a word or number -/
abbrev Stt := Nat × Bool
def kd (T : Int → Int) (n : Nat) (σ : Stt) : Int :=
  if n ≤ σ.1 then 258 else if isLe (T σ.1) = true then (if σ.2 = true then 259 else 256) else if isDi (T σ.1) = true then (if σ.2 = true then 259 else 257) else T σ.1
def ed (T : Int → Int) (n : Nat) (σ : Stt) : Nat :=
  if n ≤ σ.1 then σ.1 else if isLe (T σ.1) = true then spn isLe T n (σ.1 + 1) else if isDi (T σ.1) = true then spn isDi T n (σ.1 + 1) else σ.1 + 1
def tkN (T : Int → Int) (n p : Nat) (κ : Int) : Stt := (spn isBl T n p, decide ((κ = 256 ∨ κ = 257) ∧ spn isBl T n p = p))
def nx (T : Int → Int) (n : Nat) (σ : Stt) : Stt := tkN T n (ed T n σ) (kd T n σ)
def nv (T : Int → Int) (s : Nat) : Nat → Int
  | 0 => 0
  | k + 1 => 10 * nv T s k + T ((s : Int) + k) - 48
theorem getD_ge {α : Type} {l : List α} {i : Nat} (d : α) (h : i < l.length) : l.getD i d = l[i] := by simp [List.getD, h]
def wIs (T : Int → Int) : Nat → Nat → List Int → Bool
  | s, e, [] => decide (s = e)
  | s, e, c :: w => decide (s < e ∧ T s = c) && wIs T (s + 1) e w
def wIx (T : Int → Int) (s e : Nat) : List (List Int) → Int → Int
  | [], _ => -1
  | w :: l, k => if wIs T s e w = true then k else wIx T s e l (k + 1)
def chs (s : String) : List Int := s.toList.map (fun c => (c.toNat : Int))
def WL : List (List Int) := ["bobbin", "lasts", "odds", "seam", "takes", "shown", "anew", "rule", "when", "wind", "mend", "look", "batch", "ahead", "girls", "used", "rest", "number", "least", "most", "left", "changed", "mended", "yards", "or", "and", "not", "all", "min", "max", "first", "last", "often", "total"].map chs
def wi (T : Int → Int) (n : Nat) (σ : Stt) : Int := wIx T σ.1 (ed T n σ) WL 0
theorem wIs_iff {T : Int → Int} : ∀ {w : List Int} {s e : Nat}, wIs T s e w = true ↔ e = s + w.length ∧ ∀ i : Nat, i < w.length → T ((s : Int) + i) = w.getD i 0 := by
  intro w
  induction w with
  | nil =>
    intro s e
    rw [wIs, decide_eq_true_iff]
    exact ⟨fun h => ⟨by rw [h]; rfl, fun i hi => absurd hi (by simp)⟩, fun h => h.1.symm⟩
  | cons c w ih =>
    intro s e
    rw [wIs, Bool.and_eq_true, decide_eq_true_iff, ih, List.length_cons]
    constructor
    · rintro ⟨⟨h1, h2⟩, h3, h4⟩
      refine ⟨by omega, fun i hi => ?_⟩
      cases i with
      | zero => rw [show ((s : Int) + ((0 : Nat) : Int)) = s by omega, h2]; rfl
      | succ i =>
        have := h4 i (by omega)
        rw [show ((s : Int) + ((i + 1 : Nat) : Int)) = ((s + 1 : Nat) : Int) + i by omega, this]; rfl
    · rintro ⟨h1, h2⟩
      refine ⟨⟨by omega, ?_⟩, by omega, fun i hi => ?_⟩
      · have := h2 0 (by omega)
        rw [show ((s : Int) + ((0 : Nat) : Int)) = s by omega] at this
        exact this
      · have := h2 (i + 1) (by omega)
        rw [show ((s : Int) + ((i + 1 : Nat) : Int)) = ((s + 1 : Nat) : Int) + i by omega] at this
        exact this
theorem wIs_inj {T : Int → Int} {s e : Nat} {w v : List Int} (h1 : wIs T s e w = true) (h2 : wIs T s e v = true) : w = v := by
  obtain ⟨a1, a2⟩ := wIs_iff.mp h1
  obtain ⟨b1, b2⟩ := wIs_iff.mp h2
  refine List.ext_getElem (by omega) (fun i hi hj => ?_)
  have q1 := a2 i hi
  have q2 := b2 i hj
  rw [q1, getD_ge _ hi, getD_ge _ hj] at q2
  exact q2
theorem wIx_bd {T : Int → Int} {s e : Nat} : ∀ {l : List (List Int)} {k : Int}, 0 ≤ k → -1 ≤ wIx T s e l k ∧ wIx T s e l k < k + l.length ∧ (wIx T s e l k = -1 ∨ k ≤ wIx T s e l k) := by
  intro l
  induction l with
  | nil => intro k hk; rw [wIx, List.length_nil]; exact ⟨by omega, by omega, Or.inl rfl⟩
  | cons w l ih =>
    intro k hk
    rw [wIx, List.length_cons]
    split
    · exact ⟨by omega, by omega, Or.inr (by omega)⟩
    · obtain ⟨i1, i2, i3⟩ := @ih (k + 1) (by omega)
      exact ⟨i1, by omega, by omega⟩
theorem wIx_eq {T : Int → Int} {s e : Nat} : ∀ {l : List (List Int)} {k : Int} {j : Nat}, 0 ≤ k → l.Nodup → j < l.length → (wIx T s e l k = k + j ↔ wIs T s e (l.getD j []) = true) := by
  intro l
  induction l with
  | nil => intro k j hk hd hj; exact absurd hj (by simp)
  | cons w l ih =>
    intro k j hk hd hj
    rw [List.length_cons] at hj
    obtain ⟨d1, d2⟩ := List.nodup_cons.mp hd
    rw [wIx]
    cases j with
    | zero =>
      show _ ↔ wIs T s e w = true
      constructor
      · intro h
        by_cases c : wIs T s e w = true
        · exact c
        · rw [if_neg c] at h
          have := @wIx_bd T s e l (k + 1) (by omega)
          omega
      · intro h
        rw [if_pos h]; omega
    | succ j =>
      show _ ↔ wIs T s e (l.getD j []) = true
      by_cases c : wIs T s e w = true
      · rw [if_pos c]
        refine ⟨fun h => by omega, fun h => ?_⟩
        have := wIs_inj c h
        rw [this, getD_ge _ (by omega)] at d1
        exact absurd (List.getElem_mem _) d1
      · rw [if_neg c]
        have := @ih (k + 1) j (by omega) d2 (by omega)
        rw [← this]
        omega
theorem WL_nd : WL.Nodup := by decide +kernel
theorem WL_len : WL.length = 34 := by decide +kernel
theorem wi_bd {T : Int → Int} {n : Nat} {σ : Stt} : -1 ≤ wi T n σ ∧ wi T n σ < 34 := by
  have := @wIx_bd T σ.1 (ed T n σ) WL 0 (by omega)
  rw [WL_len] at this
  exact ⟨this.1, this.2.1⟩
theorem wi_eq {T : Int → Int} {n : Nat} {σ : Stt} {j : Nat} (hj : j < 34) : wi T n σ = (j : Int) ↔ wIs T σ.1 (ed T n σ) (WL.getD j []) = true := by
  have := @wIx_eq T σ.1 (ed T n σ) WL 0 j (by omega) WL_nd (by rw [WL_len]; exact hj)
  rw [← this]
  unfold wi
  omega
section TKS
variable {T : Int → Int} {n : Nat} {σ : Stt}
theorem ed_gt (h : σ.1 < n) : σ.1 < ed T n σ ∧ ed T n σ ≤ n := by
  unfold ed
  rw [if_neg (by omega)]
  have a := @spn_ge isLe T n (σ.1 + 1)
  have b := @spn_ge isDi T n (σ.1 + 1)
  have c := @spn_le isLe T n (σ.1 + 1) (by omega)
  have e := @spn_le isDi T n (σ.1 + 1) (by omega)
  split
  · omega
  · split <;> omega
theorem ed_le (h : σ.1 ≤ n) : σ.1 ≤ ed T n σ ∧ ed T n σ ≤ n := by
  by_cases c : σ.1 < n
  · have := @ed_gt T n σ c
    omega
  · unfold ed
    rw [if_pos (by omega)]
    omega
theorem tkN_ge {p : Nat} {κ : Int} : p ≤ (tkN T n p κ).1 := spn_ge
theorem tkN_le {p : Nat} {κ : Int} (h : p ≤ n) : (tkN T n p κ).1 ≤ n := spn_le h
theorem nx_gt (h : σ.1 < n) : σ.1 < (nx T n σ).1 ∧ (nx T n σ).1 ≤ n := by
  have a := @ed_gt T n σ h
  have b := @tkN_ge T n (ed T n σ) (kd T n σ)
  have c := @tkN_le T n (ed T n σ) (kd T n σ) a.2
  unfold nx
  omega
theorem kd_lt (h : kd T n σ ≠ 258) : σ.1 < n := by
  unfold kd at h
  by_cases c : n ≤ σ.1
  · rw [if_pos c] at h; exact absurd rfl h
  · omega
theorem nx_of (h : kd T n σ ≠ 258) : σ.1 < (nx T n σ).1 ∧ (nx T n σ).1 ≤ n := nx_gt (kd_lt h)
/-- nothing blank stands there -/
def SOk (T : Int → Int) (n : Nat) (σ : Stt) : Prop := σ.1 ≤ n ∧ (σ.1 < n → isBl (T σ.1) = false)
theorem tkN_ok {p : Nat} {κ : Int} (h : p ≤ n) : SOk T n (tkN T n p κ) := ⟨spn_le h, fun c => spn_end c⟩
theorem nx_ok (h : σ.1 ≤ n) : SOk T n (nx T n σ) := tkN_ok (ed_le h).2
end TKS
