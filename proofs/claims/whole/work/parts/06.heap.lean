/-! rows of the heap -/
theorem len_small : ∀ k : Nat, (sk k).2.1 < 4000 := by
  intro k
  by_cases h : k < 152
  · have : (List.range 152).all (fun k => decide ((sk k).2.1 < 4000)) = true := by decide +kernel
    have := List.all_eq_true.mp this k (List.mem_range.mpr h)
    simpa using this
  · have e : sk k = (0, 0, []) := by
      unfold sk
      rw [List.getD_eq_getElem?_getD, List.getElem?_eq_none (by rw [SH_len]; omega)]
      rfl
    rw [e]
    exact Nat.le_of_ble_eq_true rfl
theorem alen_lt (a : Int) : alen a < 4000 := by
  have := len_small a.toNat
  unfold alen
  omega
def CFok (ci : Nat) : Prop := ∃ q : vw_C, vwCl[ci]? = some q ∧ ci < 9 ∧ (∀ w ∈ u_ws q.1 q.2.1 q.2.2, w ∈ BW)
/-- entry idx of o's pool: field j of class ci -/
def FL (o : String) (idx ci j : Nat) : Prop := ∃ q : vw_C, vwCl[ci]? = some q ∧ ci < 9 ∧ (∀ w ∈ u_ws q.1 q.2.1 q.2.2, w ∈ BW) ∧ j < q.2.2 ∧ ((Cond.fieldLink o idx (q.2.1 j).1 (q.2.1 j).2.1 (q.2.1 j).2.2.1 ∈ BW) ∨ ∃ h, Cond.fieldLinkNest o idx (q.2.1 j).1 (q.2.1 j).2.1 (q.2.1 j).2.2.1 h ∈ NW)
/-- field j of class ci is not final, of type t -/
def FT (ci j : Nat) (t : FieldType) : Prop := ∃ (q : vw_C) (ty : Nat → FieldType), vwCl[ci]? = some q ∧ (∀ k, k < q.2.2 → parseFieldDescriptor (q.2.1 k).2.2.1 = some (ty k)) ∧ (∀ a, a < q.2.2 → ∀ b, b < q.2.2 → a ≠ b → (q.2.1 a).2.1 ≠ (q.2.1 b).2.1) ∧ (q.2.1 j).2.2.2 = false ∧ ty j = t ∧ j < q.2.2
theorem eC_obj (g : Gd) (m : Mem) {a : Int} {ci : Nat} (h : IsC a ci) (h9 : ci < 9) : eC g m a.toNat = .inr (ci, (List.range (nfl ci)).map (fVal g m a.toNat)) := by
  have e : (sk a.toNat).1 = ci := h.2.2
  unfold eC
  rw [e, if_neg (by omega), if_neg (by omega), if_neg (by omega)]
theorem eC_int (g : Gd) (m : Mem) {a : Int} (h : IsC a 100) : eC g m a.toNat = .inl (g.2.2.2.1.1, (sk a.toNat).2.1, .inl (fun j => Int32.ofInt (m a j))) := by
  have e : (sk a.toNat).1 = 100 := h.2.2
  unfold eC
  rw [if_pos e, show ((a.toNat : Nat) : Int) = a by have := h.1; omega]
theorem eC_long (g : Gd) (m : Mem) {a : Int} (h : IsC a 101) : eC g m a.toNat = .inl (g.2.2.2.1.2.1, (sk a.toNat).2.1, .inr (.inl (fun j => Int64.ofInt (m a j)))) := by
  have e : (sk a.toNat).1 = 101 := h.2.2
  unfold eC
  rw [if_neg (by omega), if_pos e, show ((a.toNat : Nat) : Int) = a by have := h.1; omega]
theorem eC_char (g : Gd) (m : Mem) {a : Int} (h : IsC a 102) : eC g m a.toNat = .inl (g.2.2.2.1.2.2, (sk a.toNat).2.1, .inl (fun j => Int32.ofInt (m a j))) := by
  have e : (sk a.toNat).1 = 102 := h.2.2
  unfold eC
  rw [if_neg (by omega), if_neg (by omega), if_pos e, show ((a.toNat : Nat) : Int) = a by have := h.1; omega]
theorem at_nat {a : Int} {t : Nat} (h : IsC a t) : a.toNat < 152 ∧ ((a.toNat : Nat) : Int) = a := ⟨by have := h.1; have := h.2.1; omega, by have := h.1; omega⟩
theorem fv_i (m : Mem) {a : Int} {ci j : Nat} (h : IsC a ci) (ht : fty ci j = 0) (g : Gd) : fVal g m a.toNat j = cv g (aI (m a j)) := by
  have e : (sk a.toNat).1 = ci := h.2.2
  unfold fVal
  rw [e, ht, if_neg (by omega), if_neg (by omega), if_neg (by omega), (at_nat h).2]
  rfl
theorem fv_j (m : Mem) {a : Int} {ci j : Nat} (h : IsC a ci) (ht : fty ci j = 1) (g : Gd) : fVal g m a.toNat j = cv g (aJ (m a j)) := by
  have e : (sk a.toNat).1 = ci := h.2.2
  unfold fVal
  rw [e, ht, if_pos rfl, (at_nat h).2]
  rfl
theorem fv_r (m : Mem) {a : Int} {ci j : Nat} (h : IsC a ci) (ht : fty ci j = 2) (g : Gd) : fVal g m a.toNat j = cv g (aR (rfo a j)) := by
  have e : (sk a.toNat).1 = ci := h.2.2
  unfold fVal
  rw [e, ht, if_neg (by omega), if_pos rfl, (at_nat h).2]
theorem fv_m (m : Mem) {a : Int} {ci j : Nat} (h : IsC a ci) (ht : fty ci j = 3) (g : Gd) : fVal g m a.toNat j = cv g (aR (m a j)) := by
  have e : (sk a.toNat).1 = ci := h.2.2
  unfold fVal
  rw [e, ht, if_neg (by omega), if_neg (by omega), if_pos rfl, (at_nat h).2]
def acp (m : Mem) (src : Int → Int) (sp dst dp n : Int) : Mem := fun b k => if b = dst ∧ dp ≤ k ∧ k < dp + n then src (sp + (k - dp)) else m b k
section XH
variable {sc : List Int} {o : String} {cc : ByteArray} {nL : Nat} {ret : Option FieldType} {d pc pc2 : Nat} {ls st : List AV} {m : Mem} {Q : Option AV → Mem → Prop}
theorem x_getf {ci j idx : Nat} {a : Int} {v : AV} (hf : FL o idx ci j) (ha : IsC a ci) (hv : ∀ g : Gd, fVal g m a.toNat j = cv g v) (hd : decode cc pc = .ok (.getfield idx, 3)) (hp : pc + 3 = pc2)
    (k : Sim sc o cc nL ret d pc2 ls (v :: st) m Q) : Sim sc o cc nL ret d pc ls (aR a :: st) m Q := by
  subst hp
  intro p l e R s mt args below meth c g H locs lsC cells slots Qw hC hP hS hL hK
  obtain ⟨⟨C, T, N⟩, h1, h9, h2, h3, h4⟩ := hf
  have k := k p l e R s mt args below meth c g H locs lsC cells slots Qw hC hP hS hL hK
  show W p l e R s mt args below meth c H locs cells slots Qw (F0 mt pc lsC (cv g (aR a) :: st.map (cv g)))
  rw [cv_R g a ha.1]
  have hg := wW_get g m (at_nat ha).1
  rw [eC_obj g m ha h9] at hg
  have hn : nfl ci = N := vw_len ci h9 _ h1
  have hfs : ((List.range (nfl ci)).map (fVal g m a.toNat))[j]? = some (cv g v) := by
    rw [← hv g]
    simp [hn, show j < N from h3]
  rcases h4 with h4 | ⟨h, h4⟩
  · exact va_get hC.1 hC.2.1 hC.2.2.2.2.1 h2 hC.2.2.2.1 hC.2.2.2.2.2.2.2.1 hP _ hg h1 j h3 (hC.2.2.2.2.1 _ h4) (fun _ q => q) hfs hd k
  · exact va_getN hC.1 hC.2.1 hC.2.2.2.2.1 h2 hC.2.2.2.1 hC.2.2.2.2.2.2.2.1 hP _ hg h1 j h3 (nw_use h4 (hC.2.2.2.2.2.2.2.2.1.1 _ h4)) (fun _ q => q) hfs hd k
theorem x_putf {ci j idx : Nat} {a x : Int} {v : AV} {t : FieldType} (hf : FL o idx ci j) (ht : FT ci j t) (ha : IsC a ci) (hv : ∀ g : Gd, ∀ i, i < nfl ci → fVal g (wr m a j x) a.toNat i = if i = j then cv g v else fVal g m a.toNat i) (hn : ∀ g : Gd, narrow t (cv g v) = cv g v ∧ fits t (cv g v) = true) (hd : decode cc pc = .ok (.putfield idx, 3)) (hp : pc + 3 = pc2)
    (k : Sim sc o cc nL ret d pc2 ls st (wr m a j x) Q) : Sim sc o cc nL ret d pc ls (v :: aR a :: st) m Q := by
  subst hp
  intro p l e R s mt args below meth c g H locs lsC cells slots Qw hC hP hS hL hK
  obtain ⟨⟨C, T, N⟩, h1, h9, h2, h3, h4⟩ := hf
  obtain ⟨q', ty, g1, g2, g3, g4, g5, g6⟩ := ht
  cases h1.symm.trans g1
  subst g5
  show W p l e R s mt args below meth c H locs cells slots Qw (F0 mt pc lsC (cv g v :: cv g (aR a) :: st.map (cv g)))
  rw [cv_R g a ha.1]
  have hg := wW_get g m (at_nat ha).1
  rw [eC_obj g m ha h9] at hg
  have hN : nfl ci = N := vw_len ci h9 _ h1
  have hl : j < ((List.range (nfl ci)).map (fVal g m a.toNat)).length := by simp [hN]; exact h3
  have hset : (wW g m).set a.toNat (g.1 + a.toNat, .inr (ci, ((List.range (nfl ci)).map (fVal g m a.toNat)).set j (cv g v))) = wW g (wr m a j x) := by
    rw [← wW_set g m (wr m a j x) (at_nat ha).1 (fun q hq => eC_wr g m a j x (fun e => hq (by omega))), eC_obj g (wr m a j x) ha h9]
    congr 4
    apply List.ext_getElem?
    intro i
    by_cases hi : i < nfl ci
    · by_cases hij : i = j
      · subst hij
        rw [List.getElem?_set_self hl]
        simp [hi, hv g i hi]
      · rw [List.getElem?_set_ne (fun e => hij e.symm)]
        simp [hi, hv g i hi, hij]
    · rw [List.getElem?_eq_none (by simp; omega), List.getElem?_eq_none (by simp; omega)]
  rcases h4 with h4 | ⟨h, h4⟩
  · refine va_put hC.1 hC.2.1 hC.2.2.2.2.1 h2 ty g2 g3 hC.2.2.2.1 hC.2.2.2.2.2.2.2.1 hP (wW_D g m) hS _ hg h1 j h3 (hC.2.2.2.2.1 _ h4) (fun _ q => q) g4 (g2 j h3) (hn g).1 (hn g).2 hl hd (fun H1 locs1 hP hD hS => ?_)
    rw [hset] at hP
    exact k p l e R s mt args below meth c g H1 locs1 lsC cells slots Qw hC hP hS hL hK
  · refine va_putN hC.1 hC.2.1 hC.2.2.2.2.1 h2 ty g2 g3 hC.2.2.2.1 hC.2.2.2.2.2.2.2.1 hP (wW_D g m) hS _ hg h1 j h3 (nw_use h4 (hC.2.2.2.2.2.2.2.2.1.1 _ h4)) (fun _ q => q) g4 (g2 j h3) (hn g).1 (hn g).2 hl hd (fun H1 locs1 hP hD hS => ?_)
    rw [hset] at hP
    exact k p l e R s mt args below meth c g H1 locs1 lsC cells slots Qw hC hP hS hL hK
theorem pv_i (m : Mem) {a x : Int} {ci j : Nat} (h : IsC a ci) (ht : fty ci j = 0) (g : Gd) (i : Nat) (_ : i < nfl ci) : fVal g (wr m a j x) a.toNat i = if i = j then cv g (aI x) else fVal g m a.toNat i := by
  by_cases hij : i = j
  · subst hij
    rw [if_pos rfl, fv_i _ h ht, wr_eq]
  · rw [if_neg hij]
    unfold fVal
    rw [(at_nat h).2, wr_ne _ _ _ _ _ _ (fun q => hij (by omega))]
theorem pv_j (m : Mem) {a x : Int} {ci j : Nat} (h : IsC a ci) (ht : fty ci j = 1) (g : Gd) (i : Nat) (_ : i < nfl ci) : fVal g (wr m a j x) a.toNat i = if i = j then cv g (aJ x) else fVal g m a.toNat i := by
  by_cases hij : i = j
  · subst hij
    rw [if_pos rfl, fv_j _ h ht, wr_eq]
  · rw [if_neg hij]
    unfold fVal
    rw [(at_nat h).2, wr_ne _ _ _ _ _ _ (fun q => hij (by omega))]
theorem pv_m (m : Mem) {a x : Int} {ci j : Nat} (h : IsC a ci) (ht : fty ci j = 3) (g : Gd) (i : Nat) (_ : i < nfl ci) : fVal g (wr m a j x) a.toNat i = if i = j then cv g (aR x) else fVal g m a.toNat i := by
  by_cases hij : i = j
  · subst hij
    rw [if_pos rfl, fv_m _ h ht, wr_eq]
  · rw [if_neg hij]
    unfold fVal
    rw [(at_nat h).2, wr_ne _ _ _ _ _ _ (fun q => hij (by omega))]
theorem pn_i (x : Int) (g : Gd) : narrow .int (cv g (aI x)) = cv g (aI x) ∧ fits .int (cv g (aI x)) = true := ⟨rfl, rfl⟩
theorem pn_j (x : Int) (g : Gd) : narrow .long (cv g (aJ x)) = cv g (aJ x) ∧ fits .long (cv g (aJ x)) = true := ⟨rfl, rfl⟩
theorem pn_z {x : Int} (h : x = 0 ∨ x = 1) (g : Gd) : narrow .boolean (cv g (aI x)) = cv g (aI x) ∧ fits .boolean (cv g (aI x)) = true := by
  rcases h with rfl | rfl <;> exact ⟨rfl, rfl⟩
theorem pn_o {x : Int} (h : 0 ≤ x) (C : String) (g : Gd) : narrow (.object C) (cv g (aR x)) = cv g (aR x) ∧ fits (.object C) (cv g (aR x)) = true := by
  rw [cv_R g x h]; exact ⟨rfl, rfl⟩
theorem pn_a {x : Int} (h : 0 ≤ x) (t : FieldType) (g : Gd) : narrow (.array t) (cv g (aR x)) = cv g (aR x) ∧ fits (.array t) (cv g (aR x)) = true := by
  rw [cv_R g x h]; exact ⟨rfl, rfl⟩
theorem x_iald {a i : Int} (ha : IsC a 100) (h0 : 0 ≤ i) (h1 : i < alen a) (hd : decode cc pc = .ok (.iaload, 1)) (hp : pc + 1 = pc2)
    (k : Sim sc o cc nL ret d pc2 ls (aI (m a i) :: st) m Q) : Sim sc o cc nL ret d pc ls (aI i :: aR a :: st) m Q := by
  subst hp
  intro p l e R s mt args below meth c g H locs lsC cells slots Qw hC hP hS hL hK
  have k := k p l e R s mt args below meth c g H locs lsC cells slots Qw hC hP hS hL hK
  show W p l e R s mt args below meth c H locs cells slots Qw (F0 mt pc lsC (.int (Int32.ofInt i) :: cv g (aR a) :: st.map (cv g)))
  rw [cv_R g a ha.1]
  have hg := wW_get g m (at_nat ha).1
  rw [eC_int g m ha] at hg
  have hb := alen_lt a
  refine va_iald hC.1 hC.2.1 hC.2.2.2.2.2.2.2.1 hP _ 0 hg rfl (i32_in ⟨h0, h1⟩ (by have := len_small a.toNat; omega)) hd ?_
  rw [i32_clamp ⟨h0, by omega⟩, show ((i.toNat : Nat) : Int) = i by omega]
  exact k
theorem x_lald {a i : Int} (ha : IsC a 101) (h0 : 0 ≤ i) (h1 : i < alen a) (hd : decode cc pc = .ok (.laload, 1)) (hp : pc + 1 = pc2)
    (k : Sim sc o cc nL ret d pc2 ls (aJ (m a i) :: st) m Q) : Sim sc o cc nL ret d pc ls (aI i :: aR a :: st) m Q := by
  subst hp
  intro p l e R s mt args below meth c g H locs lsC cells slots Qw hC hP hS hL hK
  have k := k p l e R s mt args below meth c g H locs lsC cells slots Qw hC hP hS hL hK
  show W p l e R s mt args below meth c H locs cells slots Qw (F0 mt pc lsC (.int (Int32.ofInt i) :: cv g (aR a) :: st.map (cv g)))
  rw [cv_R g a ha.1]
  have hg := wW_get g m (at_nat ha).1
  rw [eC_long g m ha] at hg
  have hb := alen_lt a
  refine va_lald hC.1 hC.2.1 hC.2.2.2.2.2.2.2.1 hP _ 1 hg rfl (i32_in ⟨h0, h1⟩ (by have := len_small a.toNat; omega)) hd ?_
  rw [i32_clamp ⟨h0, by omega⟩, show ((i.toNat : Nat) : Int) = i by omega]
  exact k
theorem x_cald {a i : Int} (ha : IsC a 102) (h0 : 0 ≤ i) (h1 : i < alen a) (hd : decode cc pc = .ok (.caload, 1)) (hp : pc + 1 = pc2)
    (k : Sim sc o cc nL ret d pc2 ls (aI (m a i) :: st) m Q) : Sim sc o cc nL ret d pc ls (aI i :: aR a :: st) m Q := by
  subst hp
  intro p l e R s mt args below meth c g H locs lsC cells slots Qw hC hP hS hL hK
  have k := k p l e R s mt args below meth c g H locs lsC cells slots Qw hC hP hS hL hK
  show W p l e R s mt args below meth c H locs cells slots Qw (F0 mt pc lsC (.int (Int32.ofInt i) :: cv g (aR a) :: st.map (cv g)))
  rw [cv_R g a ha.1]
  have hg := wW_get g m (at_nat ha).1
  rw [eC_char g m ha] at hg
  have hb := alen_lt a
  refine va_cald hC.1 hC.2.1 hC.2.2.2.2.2.2.2.1 hP _ 2 hg rfl (i32_in ⟨h0, h1⟩ (by have := len_small a.toNat; omega)) hd ?_
  rw [i32_clamp ⟨h0, by omega⟩, show ((i.toNat : Nat) : Int) = i by omega]
  exact k
theorem x_iast {a i x : Int} (ha : IsC a 100) (h0 : 0 ≤ i) (h1 : i < alen a) (hd : decode cc pc = .ok (.iastore, 1)) (hp : pc + 1 = pc2)
    (k : Sim sc o cc nL ret d pc2 ls st (wr m a i x) Q) : Sim sc o cc nL ret d pc ls (aI x :: aI i :: aR a :: st) m Q := by
  subst hp
  intro p l e R s mt args below meth c g H locs lsC cells slots Qw hC hP hS hL hK
  show W p l e R s mt args below meth c H locs cells slots Qw (F0 mt pc lsC (cv g (aI x) :: .int (Int32.ofInt i) :: cv g (aR a) :: st.map (cv g)))
  rw [cv_R g a ha.1]
  have hg := wW_get g m (at_nat ha).1
  rw [eC_int g m ha] at hg
  have hb := alen_lt a
  refine va_iast hC.1 hC.2.1 hC.2.2.2.2.2.2.2.1 hP (wW_D g m) hS _ 0 hg rfl (i32_in ⟨h0, h1⟩ (by have := len_small a.toNat; omega)) hd (fun H1 locs1 hP hD hS => ?_)
  have e9 : (wW g m).set a.toNat (g.1 + a.toNat, eC g (wr m a i x) a.toNat) = wW g (wr m a i x) := wW_set g m (wr m a i x) (at_nat ha).1 (fun q hq => eC_wr g m a i x (fun e => hq (by omega)))
  rw [eC_int g (wr m a i x) ha] at e9
  have e2 : (upd (fun j : Nat => Int32.ofInt (m a j)) (Int32.ofInt i).toNatClampNeg (Int32.ofInt x)) = fun j : Nat => Int32.ofInt (wr m a i x a j) := by
    funext j
    rw [i32_clamp ⟨h0, by omega⟩]
    by_cases hj : j = i.toNat
    · subst hj
      rw [show ((i.toNat : Nat) : Int) = i by omega, wr_eq]
      simp [upd]
    · rw [wr_ne _ _ _ _ _ _ (fun q => hj (by omega))]
      simp [upd, hj]
  rw [e2, e9] at hP
  exact k p l e R s mt args below meth c g H1 locs1 lsC cells slots Qw hC hP hS hL hK
theorem x_last {a i x : Int} (ha : IsC a 101) (h0 : 0 ≤ i) (h1 : i < alen a) (hd : decode cc pc = .ok (.lastore, 1)) (hp : pc + 1 = pc2)
    (k : Sim sc o cc nL ret d pc2 ls st (wr m a i x) Q) : Sim sc o cc nL ret d pc ls (aJ x :: aI i :: aR a :: st) m Q := by
  subst hp
  intro p l e R s mt args below meth c g H locs lsC cells slots Qw hC hP hS hL hK
  show W p l e R s mt args below meth c H locs cells slots Qw (F0 mt pc lsC (cv g (aJ x) :: .int (Int32.ofInt i) :: cv g (aR a) :: st.map (cv g)))
  rw [cv_R g a ha.1]
  have hg := wW_get g m (at_nat ha).1
  rw [eC_long g m ha] at hg
  have hb := alen_lt a
  refine va_last hC.1 hC.2.1 hC.2.2.2.2.2.2.2.1 hP (wW_D g m) hS _ 1 hg rfl (i32_in ⟨h0, h1⟩ (by have := len_small a.toNat; omega)) hd (fun H1 locs1 hP hD hS => ?_)
  have e9 : (wW g m).set a.toNat (g.1 + a.toNat, eC g (wr m a i x) a.toNat) = wW g (wr m a i x) := wW_set g m (wr m a i x) (at_nat ha).1 (fun q hq => eC_wr g m a i x (fun e => hq (by omega)))
  rw [eC_long g (wr m a i x) ha] at e9
  have e2 : (vp_updL (fun j : Nat => Int64.ofInt (m a j)) (Int32.ofInt i).toNatClampNeg (Int64.ofInt x)) = fun j : Nat => Int64.ofInt (wr m a i x a j) := by
    funext j
    rw [i32_clamp ⟨h0, by omega⟩]
    by_cases hj : j = i.toNat
    · subst hj
      rw [show ((i.toNat : Nat) : Int) = i by omega, wr_eq]
      simp [vp_updL]
    · rw [wr_ne _ _ _ _ _ _ (fun q => hj (by omega))]
      simp [vp_updL, hj]
  rw [e2, e9] at hP
  exact k p l e R s mt args below meth c g H1 locs1 lsC cells slots Qw hC hP hS hL hK
theorem x_alen {a : Int} (ha : IsC a 100 ∨ IsC a 102) (hd : decode cc pc = .ok (.arraylength, 1)) (hp : pc + 1 = pc2)
    (k : Sim sc o cc nL ret d pc2 ls (aI (alen a) :: st) m Q) : Sim sc o cc nL ret d pc ls (aR a :: st) m Q := by
  subst hp
  intro p l e R s mt args below meth c g H locs lsC cells slots Qw hC hP hS hL hK
  have k := k p l e R s mt args below meth c g H locs lsC cells slots Qw hC hP hS hL hK
  have ha0 : 0 ≤ a := by rcases ha with h | h <;> exact h.1
  show W p l e R s mt args below meth c H locs cells slots Qw (F0 mt pc lsC (cv g (aR a) :: st.map (cv g)))
  rw [cv_R g a ha0]
  have e : Int32.ofNat (sk a.toNat).2.1 = Int32.ofInt (alen a) := Int32.ofInt_eq_ofNat.symm
  rcases ha with ha | ha
  · have hg := wW_get g m (at_nat ha).1
    rw [eC_int g m ha] at hg
    exact va_alen hC.1 hC.2.1 hC.2.2.2.2.2.2.2.1 hP _ 0 hg rfl e hd k
  · have hg := wW_get g m (at_nat ha).1
    rw [eC_char g m ha] at hg
    exact va_alen hC.1 hC.2.1 hC.2.2.2.2.2.2.2.1 hP _ 2 hg rfl e hd k
theorem x_xald {a i : Int} (ha : a = -2 ∨ a = -3 ∨ a = -4 ∨ a = -7) (h0 : 0 ≤ i) (h1 : i < (xt sc a).length) (hd : decode cc pc = .ok (.iaload, 1)) (hp : pc + 1 = pc2)
    (k : Sim sc o cc nL ret d pc2 ls (aI ((xt sc a).getD i.toNat 0) :: st) m Q) : Sim sc o cc nL ret d pc ls (aI i :: aR a :: st) m Q := by
  subst hp
  intro p l e R s mt args below meth c g H locs lsC cells slots Qw hC hP hS hL hK
  have k := k p l e R s mt args below meth c g H locs lsC cells slots Qw hC hP hS hL hK
  have hE := hC.2.2.2.2.2.2.2.2.1
  have hlen : (xt sc a).length < 2147483648 := by
    have := hE.2.2.2.2.2
    rcases ha with rfl | rfl | rfl | rfl
    · exact Nat.le_of_ble_eq_true rfl
    · exact Nat.le_of_ble_eq_true rfl
    · exact Nat.le_of_ble_eq_true rfl
    · exact this
  show W p l e R s mt args below meth c H locs cells slots Qw (F0 mt pc lsC (.int (Int32.ofInt i) :: cv g (aR a) :: st.map (cv g)))
  rw [cv_X g a (by omega) (by omega)]
  exact va_ti hC.1 hC.2.1 (hE.2.2.1 a ha) hS (i32_in ⟨h0, h1⟩ hlen) (by rw [i32_clamp ⟨h0, by omega⟩]; rfl) hd k
theorem x_xlen (hd : decode cc pc = .ok (.arraylength, 1)) (hp : pc + 1 = pc2)
    (k : Sim sc o cc nL ret d pc2 ls (aI sc.length :: st) m Q) : Sim sc o cc nL ret d pc ls (aR (-7) :: st) m Q := by
  subst hp
  intro p l e R s mt args below meth c g H locs lsC cells slots Qw hC hP hS hL hK
  have k := k p l e R s mt args below meth c g H locs lsC cells slots Qw hC hP hS hL hK
  have hE := hC.2.2.2.2.2.2.2.2.1
  show W p l e R s mt args below meth c H locs cells slots Qw (F0 mt pc lsC (cv g (aR (-7)) :: st.map (cv g)))
  rw [cv_X g (-7) (by omega) (by omega)]
  exact va_tlen hC.1 hC.2.1 (hE.2.2.1 (-7) (Or.inr (Or.inr (Or.inr rfl)))) hS (v := Int32.ofInt sc.length) (Int32.ofInt_eq_ofNat.symm) hd k
theorem txb_T {sc : List Int} {g : Gd} {s : State} (h : Ext sc g s) : va_T .byte (g.2.1 (-6)) TXB.length (fun j => .int (TXB.getD j 0)) (gA g) s s.heap := by
  have h1 := (h.2.2.2.1.2.1 0 Nat.zero_lt_one).2.2.2
  simpa only [List.getD_cons_zero] using h1
theorem x_blen (hd : decode cc pc = .ok (.arraylength, 1)) (hp : pc + 1 = pc2)
    (k : Sim sc o cc nL ret d pc2 ls (aI TXB.length :: st) m Q) : Sim sc o cc nL ret d pc ls (aR (-6) :: st) m Q := by
  subst hp
  intro p l e R s mt args below meth c g H locs lsC cells slots Qw hC hP hS hL hK
  have k := k p l e R s mt args below meth c g H locs lsC cells slots Qw hC hP hS hL hK
  have hE := hC.2.2.2.2.2.2.2.2.1
  show W p l e R s mt args below meth c H locs cells slots Qw (F0 mt pc lsC (cv g (aR (-6)) :: st.map (cv g)))
  rw [cv_X g (-6) (by omega) (by omega)]
  exact va_tlen hC.1 hC.2.1 (txb_T hE) hS (v := Int32.ofInt TXB.length) (Int32.ofInt_eq_ofNat.symm) hd k
theorem x_bald {i : Int} (h0 : 0 ≤ i) (h1 : i < TXB.length) (hd : decode cc pc = .ok (.baload, 1)) (hp : pc + 1 = pc2)
    (k : Sim sc o cc nL ret d pc2 ls (aI (TXB.getD i.toNat 0).toInt :: st) m Q) : Sim sc o cc nL ret d pc ls (aI i :: aR (-6) :: st) m Q := by
  subst hp
  intro p l e R s mt args below meth c g H locs lsC cells slots Qw hC hP hS hL hK
  have k := k p l e R s mt args below meth c g H locs lsC cells slots Qw hC hP hS hL hK
  have hE := hC.2.2.2.2.2.2.2.2.1
  have hlen : TXB.length < 2147483648 := by decide +kernel
  show W p l e R s mt args below meth c H locs cells slots Qw (F0 mt pc lsC (.int (Int32.ofInt i) :: cv g (aR (-6)) :: st.map (cv g)))
  rw [cv_X g (-6) (by omega) (by omega)]
  refine va_tb hC.1 hC.2.1 (txb_T hE) hS (i32_in ⟨h0, h1⟩ hlen) (v := cv g (aI (TXB.getD i.toNat 0).toInt)) ?_ hd k
  rw [i32_clamp ⟨h0, by omega⟩, cv_I, Int32.ofInt_toInt]
theorem x_gets {C n ds : String} {idx : Nat} {v : AV} (hZ : ∀ (g : Gd) (s : State), Ext sc g s → va_Z C n ds (cv g v) (gA g) s s.heap) (hl : (Cond.fieldLink o idx C n ds ∈ BW) ∨ ∃ h, Cond.fieldLinkNest o idx C n ds h ∈ NW) (hd : decode cc pc = .ok (.getstatic idx, 3)) (hp : pc + 3 = pc2)
    (k : Sim sc o cc nL ret d pc2 ls (v :: st) m Q) : Sim sc o cc nL ret d pc ls st m Q := by
  subst hp
  intro p l e R s mt args below meth c g H locs lsC cells slots Qw hC hP hS hL hK
  have k := k p l e R s mt args below meth c g H locs lsC cells slots Qw hC hP hS hL hK
  have hE := hC.2.2.2.2.2.2.2.2.1
  rcases hl with hl | ⟨h, hl⟩
  · exact va_gets hC.1 hC.2.1 (hZ g s hE) hS hC.2.2.2.1 (hC.2.2.2.2.1 _ hl) (fun _ q => q) hd k
  · exact va_getsN hC.1 hC.2.1 (hZ g s hE) hS hC.2.2.2.1 (nw_use hl (hE.1 _ hl)) (fun _ q => q) hd k
theorem z_without {sc : List Int} (g : Gd) (s : State) (h : Ext sc g s) : va_Z RX7 "WITHOUT" "[I" (cv g (aR (-2))) (gA g) s s.heap := by rw [cv_X g (-2) (by omega) (by omega)]; exact h.2.1.1
theorem z_lowest {sc : List Int} (g : Gd) (s : State) (h : Ext sc g s) : va_Z RX7 "LOWEST" "[I" (cv g (aR (-3))) (gA g) s s.heap := by rw [cv_X g (-3) (by omega) (by omega)]; exact h.2.1.2.1
theorem z_highest {sc : List Int} (g : Gd) (s : State) (h : Ext sc g s) : va_Z RX7 "HIGHEST" "[I" (cv g (aR (-4))) (gA g) s s.heap := by rw [cv_X g (-4) (by omega) (by omega)]; exact h.2.1.2.2
theorem z_compact {sc : List Int} (g : Gd) (s : State) (h : Ext sc g s) : va_Z RJ0 "COMPACT_STRINGS" "Z" (cv g (aI 1)) (gA g) s s.heap := h.2.2.2.2.1.1
theorem z_sioobe {sc : List Int} (g : Gd) (s : State) (h : Ext sc g s) : va_Z RJ3 "SIOOBE_FORMATTER" "Ljava/util/function/BiFunction;" (cv g (aR (-8))) (gA g) s s.heap := h.2.2.2.2.1.2.1
theorem x_ldcS (ho : o = RX5) (hd : decode cc pc = .ok (.ldc 69, 2)) (hp : pc + 2 = pc2)
    (k : Sim sc o cc nL ret d pc2 ls (aR (-5) :: st) m Q) : Sim sc o cc nL ret d pc ls st m Q := by
  subst hp
  subst ho
  intro p l e R s mt args below meth c g H locs lsC cells slots Qw hC hP hS hL hK
  have k := k p l e R s mt args below meth c g H locs lsC cells slots Qw hC hP hS hL hK
  have k : W p l e R s mt args below meth c H locs cells slots Qw (F0 mt (pc + 2) lsC (cv g (aR (-5)) :: st.map (cv g))) := k
  rw [cv_X g (-5) (by omega) (by omega)] at k
  exact va_ldcS hC.1 hC.2.1 hC.2.2.2.1 (hC.2.2.2.2.2.2.2.2.1.2.2.2.1.1) hd k
theorem x_getS {n ds : String} {idx : Nat} {v : AV} (hE : ∀ (g : Gd) (s : State), Ext sc g s → va_OF RJ0 n ds (cv g v) (g.2.1 (-5)) (gA g) s s.heap) (hl : Cond.fieldLink o idx RJ0 n ds ∈ BW) (hd : decode cc pc = .ok (.getfield idx, 3)) (hp : pc + 3 = pc2)
    (k : Sim sc o cc nL ret d pc2 ls (v :: st) m Q) : Sim sc o cc nL ret d pc ls (aR (-5) :: st) m Q := by
  subst hp
  intro p l e R s mt args below meth c g H locs lsC cells slots Qw hC hP hS hL hK
  have k := k p l e R s mt args below meth c g H locs lsC cells slots Qw hC hP hS hL hK
  show W p l e R s mt args below meth c H locs cells slots Qw (F0 mt pc lsC (cv g (aR (-5)) :: st.map (cv g)))
  rw [cv_X g (-5) (by omega) (by omega)]
  exact vk_getf hC.1 hC.2.1 (hE g s hC.2.2.2.2.2.2.2.2.1) hS hC.2.2.2.1 (hC.2.2.2.2.1 _ hl) (fun _ q => q) hd k
theorem s_value {sc : List Int} (g : Gd) (s : State) (h : Ext sc g s) : va_OF RJ0 "value" "[B" (cv g (aR (-6))) (g.2.1 (-5)) (gA g) s s.heap := by rw [cv_X g (-6) (by omega) (by omega)]; exact (h.2.2.2.1.2.1 0 Nat.zero_lt_one).2.2.1
theorem s_coder {sc : List Int} (g : Gd) (s : State) (h : Ext sc g s) : va_OF RJ0 "coder" "B" (cv g (aI 0)) (g.2.1 (-5)) (gA g) s s.heap := (h.2.2.2.1.2.1 0 Nat.zero_lt_one).2.1
end XH
