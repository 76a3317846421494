/-! frames that make cells: the world is a list of rows (kind, contents) -/
abbrev CS : Type := List (Nat × List Int)
def cfv (g : Gd) (ci j : Nat) (v : Int) : Value := if fty ci j = 1 then .long (Int64.ofInt v) else if fty ci j = 2 ∨ fty ci j = 3 then cv g (aR v) else .int (Int32.ofInt v)
def cE (g : Gd) (q : Nat × List Int) : va_E :=
  if q.1 = 100 then .inl (g.2.2.2.1.1, q.2.length, .inl (fun j => Int32.ofInt (q.2.getD j 0)))
  else if q.1 = 101 then .inl (g.2.2.2.1.2.1, q.2.length, .inr (.inl (fun j => Int64.ofInt (q.2.getD j 0))))
  else if q.1 = 102 then .inl (g.2.2.2.1.2.2, q.2.length, .inl (fun j => Int32.ofInt (q.2.getD j 0)))
  else .inr (q.1, (List.range (nfl q.1)).map (fun j => cfv g q.1 j (q.2.getD j 0)))
def cW (g : Gd) (cs : CS) : va_W := (List.range cs.length).map (fun k => (g.1 + k, cE g (cs.getD k (0, []))))
def slc (cs : CS) : Nat := (cs.map (fun q => q.2.length)).sum
theorem cW_get (g : Gd) (cs : CS) {k : Nat} (h : k < cs.length) : (cW g cs)[k]? = some (g.1 + k, cE g (cs.getD k (0, []))) := by simp [cW, h]
theorem cW_at (g : Gd) (cs : CS) {k : Nat} {q : Nat × va_E} (h : (cW g cs)[k]? = some q) : k < cs.length ∧ q = (g.1 + k, cE g (cs.getD k (0, []))) := by
  have hk : k < cs.length := by
    have := (List.getElem?_eq_some_iff.mp h).1
    simpa [cW] using this
  rw [cW_get g cs hk] at h
  exact ⟨hk, (Option.some.inj h).symm⟩
theorem cW_D (g : Gd) (cs : CS) : va_D (gA g) (cW g cs) := by
  refine ⟨fun i j p q hp hq h => ?_, fun k q hq => ?_⟩
  · obtain ⟨-, rfl⟩ := cW_at g cs hp
    obtain ⟨-, rfl⟩ := cW_at g cs hq
    have h : g.1 + i = g.1 + j := h
    omega
  · obtain ⟨-, rfl⟩ := cW_at g cs hq
    exact Nat.le_add_right _ _
theorem cW_set (g : Gd) (cs : CS) {a : Nat} (h : a < cs.length) (q : Nat × List Int) : (cW g cs).set a (g.1 + a, cE g q) = cW g (cs.set a q) := by
  apply List.ext_getElem?
  intro i
  by_cases hi : i < cs.length
  · by_cases hk : i = a
    · subst hk
      rw [cW_get g (cs.set i q) (by simpa using hi), List.getElem?_set_self (by simp [cW]; exact hi)]
      simp [List.getD_eq_getElem?_getD, hi]
    · rw [List.getElem?_set_ne (fun e => hk e.symm), cW_get g cs hi, cW_get g (cs.set a q) (by simpa using hi)]
      simp [List.getD_eq_getElem?_getD, List.getElem?_set_ne (fun e => hk e.symm)]
  · rw [List.getElem?_eq_none (by simp [cW]; omega), List.getElem?_eq_none (by simp [cW]; omega)]
theorem cW_app (g : Gd) (cs : CS) (q : Nat × List Int) : cW g (cs ++ [q]) = cW g cs ++ [(g.1 + cs.length, cE g q)] := by
  unfold cW
  rw [List.length_append, show [q].length = 1 from rfl, List.range_succ, List.map_append]
  congr 1
  · apply List.map_congr_left
    intro k hk
    have hk := List.mem_range.mp hk
    rw [List.getD_eq_getElem?_getD, List.getD_eq_getElem?_getD, List.getElem?_append_left hk]
  · simp [List.getD_eq_getElem?_getD]
def KCtx (sc : List Int) (o : String) (cc : ByteArray) (nL : Nat) (ini : Bool) (d NC NS : Nat) (p : Program) (e : Env) (R : Room) (s : State) (mt : MethodId) (args : Array Value) (meth : Method) (c : Code) (g : Gd) : Prop :=
  p.tables.exec = Jvm.exec ∧ c.code = cc ∧ c.maxLocals = nL ∧ s.vm.findClass o = some mt.cls ∧ (∀ w ∈ BW, w.before args s = true) ∧ va_K (gD g) vwCl (gT g) s ∧ Ext sc g s ∧ (d ≤ R.frames ∧ 45 * d ≤ R.locals ∧ NC ≤ R.cells ∧ NS ≤ R.slots) ∧ (ini = true → meth.name = "<init>")
def KSim (sc : List Int) (o : String) (cc : ByteArray) (nL : Nat) (ini : Bool) (d NC NS n0 s0 : Nat) (pc : Nat) (ls st : List AV) (cs : CS) (Fi : Nat → List AV → List AV → CS → Prop) : Prop :=
  ∀ (p : Program) (l : Launch) (e : Env) (R : Room) (s : State) (mt : MethodId) (args : Array Value) (below : List Frame) (meth : Method) (c : Code) (g : Gd) (H : Heap) (locs : List Loc) (lsC : Array Slot) (Qw : State → Prop),
    KCtx sc o cc nL ini d NC NS p e R s mt args meth c g → va_P (gD g) vwCl (cW g cs) H → H.size = g.1 + cs.length → va_S (gA g) s.heap H locs → Lok g lsC nL ls → (g.1 ≤ s.heap.size) →
    (∀ (pc' : Nat) (ls' st' : List AV) (cs' : CS) (H' : Heap) (locs' : List Loc) (lsC' : Array Slot), Fi pc' ls' st' cs' → va_P (gD g) vwCl (cW g cs') H' → H'.size = g.1 + cs'.length → va_S (gA g) s.heap H' locs' → Lok g lsC' nL ls' →
      W p l e R s mt args below meth c H' locs' (cs'.length - n0) (slc cs' - s0) Qw (F0 mt pc' lsC' (st'.map (cv g)))) →
    W p l e R s mt args below meth c H locs (cs.length - n0) (slc cs - s0) Qw (F0 mt pc lsC (st.map (cv g)))
section XK
variable {sc : List Int} {o : String} {cc : ByteArray} {nL : Nat} {ini : Bool} {d NC NS n0 s0 pc pc2 : Nat} {ls st : List AV} {cs : CS} {Fi : Nat → List AV → List AV → CS → Prop}
theorem k_done (h : Fi pc ls st cs) : KSim sc o cc nL ini d NC NS n0 s0 pc ls st cs Fi := by
  intro p l e R s mt args below meth c g H locs lsC Qw hC hP hz hS hL hb hK
  exact hK pc ls st cs H locs lsC h hP hz hS hL
theorem k_aload {n : Fin 4} {x : Int} (hd : decode cc pc = .ok (.aload_n n, 1)) (hp : pc + 1 = pc2) (hl : ls[(n : Nat)]? = some (aR x)) (hx : 0 ≤ x) (k : KSim sc o cc nL ini d NC NS n0 s0 pc2 ls (aR x :: st) cs Fi) : KSim sc o cc nL ini d NC NS n0 s0 pc ls st cs Fi := by
  subst hp
  intro p l e R s mt args below meth c g H locs lsC Qw hC hP hz hS hL hb hK
  have k := k p l e R s mt args below meth c g H locs lsC Qw hC hP hz hS hL hb hK
  have hv := hL.2.2.2 _ _ hl (by simp)
  have k : W p l e R s mt args below meth c H locs (cs.length - n0) (slc cs - s0) Qw (F0 mt (pc + 1) lsC (cv g (aR x) :: st.map (cv g))) := k
  rw [cv_R g x hx] at hv k
  exact lv_aload_n hC.1 hC.2.1 hd rfl hv k
theorem k_astore {n : Fin 4} {x : Int} {ls2 : List AV} (hd : decode cc pc = .ok (.astore_n n, 1)) (hp : pc + 1 = pc2) (hi : (n : Nat) < nL) (hl : lset ls n (aR x) = ls2) (hx : 0 ≤ x) (k : KSim sc o cc nL ini d NC NS n0 s0 pc2 ls2 st cs Fi) : KSim sc o cc nL ini d NC NS n0 s0 pc ls (aR x :: st) cs Fi := by
  subst hp
  subst hl
  intro p l e R s mt args below meth c g H locs lsC Qw hC hP hz hS hL hb hK
  show W p l e R s mt args below meth c H locs (cs.length - n0) (slc cs - s0) Qw (F0 mt pc lsC (cv g (aR x) :: st.map (cv g)))
  rw [cv_R g x hx]
  refine lv_astore_n hC.1 hC.2.1 hd rfl hL.has hi rfl (fun ls' h' => ?_)
  exact k p l e R s mt args below meth c g H locs ls' Qw hC hP hz hS (Lok.st1 (v := aR x) hC.2.2.2.2.2.2.1 hL hi (by rw [cv_R g x hx]; exact h')) hb hK
theorem k_istore {n : Fin 4} {x : Int} {ls2 : List AV} (hd : decode cc pc = .ok (.istore_n n, 1)) (hp : pc + 1 = pc2) (hi : (n : Nat) < nL) (hl : lset ls n (aI x) = ls2) (k : KSim sc o cc nL ini d NC NS n0 s0 pc2 ls2 st cs Fi) : KSim sc o cc nL ini d NC NS n0 s0 pc ls (aI x :: st) cs Fi := by
  subst hp
  subst hl
  intro p l e R s mt args below meth c g H locs lsC Qw hC hP hz hS hL hb hK
  refine lv_istore_n hC.1 hC.2.1 hd rfl hL.has hi rfl (fun ls' h' => ?_)
  exact k p l e R s mt args below meth c g H locs ls' Qw hC hP hz hS (Lok.st1 (v := aI x) hC.2.2.2.2.2.2.1 hL hi h') hb hK
theorem k_iconst {n : Int} (hd : decode cc pc = .ok (.iconst n, 1)) (hp : pc + 1 = pc2) (k : KSim sc o cc nL ini d NC NS n0 s0 pc2 ls (aI n :: st) cs Fi) : KSim sc o cc nL ini d NC NS n0 s0 pc ls st cs Fi := by
  subst hp
  intro p l e R s mt args below meth c g H locs lsC Qw hC hP hz hS hL hb hK
  exact lv_iconst hC.1 hC.2.1 hd rfl (k p l e R s mt args below meth c g H locs lsC Qw hC hP hz hS hL hb hK)
theorem k_bipush {n : Int} (hd : decode cc pc = .ok (.bipush n, 2)) (hp : pc + 2 = pc2) (hv : (Int8.ofInt n).toInt32 = Int32.ofInt n) (k : KSim sc o cc nL ini d NC NS n0 s0 pc2 ls (aI n :: st) cs Fi) : KSim sc o cc nL ini d NC NS n0 s0 pc ls st cs Fi := by
  subst hp
  intro p l e R s mt args below meth c g H locs lsC Qw hC hP hz hS hL hb hK
  exact lv_bipush hC.1 hC.2.1 hd hv (k p l e R s mt args below meth c g H locs lsC Qw hC hP hz hS hL hb hK)
theorem k_sipush {n : Int} (hd : decode cc pc = .ok (.sipush n, 3)) (hp : pc + 3 = pc2) (hv : (Int16.ofInt n).toInt32 = Int32.ofInt n) (k : KSim sc o cc nL ini d NC NS n0 s0 pc2 ls (aI n :: st) cs Fi) : KSim sc o cc nL ini d NC NS n0 s0 pc ls st cs Fi := by
  subst hp
  intro p l e R s mt args below meth c g H locs lsC Qw hC hP hz hS hL hb hK
  exact lv_sipush hC.1 hC.2.1 hd hv (k p l e R s mt args below meth c g H locs lsC Qw hC hP hz hS hL hb hK)
theorem k_lconst {n : Fin 2} {v : Int} (hd : decode cc pc = .ok (.lconst n, 1)) (hp : pc + 1 = pc2) (hv : Int64.ofNat (n : Nat) = Int64.ofInt v) (k : KSim sc o cc nL ini d NC NS n0 s0 pc2 ls (aJ v :: st) cs Fi) : KSim sc o cc nL ini d NC NS n0 s0 pc ls st cs Fi := by
  subst hp
  intro p l e R s mt args below meth c g H locs lsC Qw hC hP hz hS hL hb hK
  exact lv_lconst hC.1 hC.2.1 hd hv (k p l e R s mt args below meth c g H locs lsC Qw hC hP hz hS hL hb hK)
theorem k_dup {x : Int} (hd : decode cc pc = .ok (.dup, 1)) (hp : pc + 1 = pc2) (hx : 0 ≤ x) (k : KSim sc o cc nL ini d NC NS n0 s0 pc2 ls (aR x :: aR x :: st) cs Fi) : KSim sc o cc nL ini d NC NS n0 s0 pc ls (aR x :: st) cs Fi := by
  subst hp
  intro p l e R s mt args below meth c g H locs lsC Qw hC hP hz hS hL hb hK
  exact lv_dup hC.1 hC.2.1 hd (cv_cat g rfl (fun a h => by cases h; exact Or.inl hx)) (k p l e R s mt args below meth c g H locs lsC Qw hC hP hz hS hL hb hK)
theorem k_oinit {idx : Nat} {x : Int} (hl : Cond.methodLink o idx Lib.objectInit ∈ BW) (hi : Cond.instanceMethod Lib.objectInit ∈ BW) (hc : Cond.code Lib.objectInit ⟨#[0xb1]⟩ 1 none ∈ BW) (hd : decode cc pc = .ok (.invokespecial idx, 3)) (hp : pc + 3 = pc2) (hdd : 1 ≤ d) (hx : 0 ≤ x) (hr : (st.map acat).sum ≤ 8) (k : KSim sc o cc nL ini d NC NS n0 s0 pc2 ls st cs Fi) : KSim sc o cc nL ini d NC NS n0 s0 pc ls (aR x :: st) cs Fi := by
  subst hp
  intro p l e R s mt args below meth c g H locs lsC Qw hC hP hz hS hL hb hK
  have k := k p l e R s mt args below meth c g H locs lsC Qw hC hP hz hS hL hb hK
  have hts := hC.2.2.2.2.1
  obtain ⟨f1, f2, f3, f4⟩ := hC.2.2.2.2.2.2.2.1
  show W p l e R s mt args below meth c H locs (cs.length - n0) (slc cs - s0) Qw (F0 mt pc lsC (cv g (aR x) :: st.map (cv g)))
  rw [cv_R g x hx]
  refine W.objInit hC.1 hC.2.1 hC.2.2.2.1 (hts _ hl) (hts _ hi) (hts _ hc) rfl (hL.1.trans hC.2.2.1.symm) rfl hd (by omega) ?_ k
  show 2 * 0 + _ + 12 ≤ _
  rw [cat_sum hC.2.2.2.2.2.2.1]
  omega
theorem k_newa {at_ : ArrayType} {n : Int} {t : Nat} {ty : FieldType} {ia : Nat} (ht : (at_ = .int ∧ t = 100) ∨ (at_ = .long ∧ t = 101) ∨ (at_ = .char ∧ t = 102)) (hw : Cond.arrayClass (newarray.typeOf at_) ∈ BW) (hn : 0 ≤ n ∧ n < 5000) (hd : decode cc pc = .ok (.newarray at_, 2)) (hp : pc + 2 = pc2)
    (h0 : n0 ≤ cs.length ∧ s0 ≤ slc cs) (h1 : cs.length - n0 + 1 ≤ NC) (h2 : slc cs - s0 + n.toNat ≤ NS)
    (k : KSim sc o cc nL ini d NC NS n0 s0 pc2 ls (aR cs.length :: st) (cs ++ [(t, List.replicate n.toNat 0)]) Fi) : KSim sc o cc nL ini d NC NS n0 s0 pc ls (aI n :: st) cs Fi := by
  subst hp
  intro p l e R s mt args below meth c g H locs lsC Qw hC hP hz hS hL hb hK
  have hts := hC.2.2.2.2.1
  obtain ⟨f1, f2, f3, f4⟩ := hC.2.2.2.2.2.2.2.1
  have hKs := hC.2.2.2.2.2.1
  refine va_newaK hC.1 hC.2.1 (hts _ hw) (g := F0 mt pc lsC (.int (Int32.ofInt n) :: st.map (cv g))) rfl hd rfl (i32_nn ⟨hn.1, by omega⟩) (i32_clamp ⟨hn.1, by omega⟩) ?_ (by omega) (by omega) hz (fun H1 cA e1 z1 o1 hA hNm => ?_)
  · have : componentBytes (newarray.typeOf at_) ≤ 8 := by rcases ht with ⟨rfl, -⟩ | ⟨rfl, -⟩ | ⟨rfl, -⟩ <;> decide
    have h5 : n.toNat * componentBytes (newarray.typeOf at_) ≤ n.toNat * 8 := Nat.mul_le_mul_left _ this
    omega
  · have hap := cW_app g cs (t, List.replicate n.toNat 0)
    have hP1 : va_P (gD g) vwCl (cW g (cs ++ [(t, List.replicate n.toNat 0)])) H1 := by
      rw [hap]
      refine va_P.app (hP.kept (fun k q hq => o1 q.1 ?_)) (fun k q hq => ?_)
      · have := (hP k q hq).lt
        rw [hz] at this
        exact this
      · have hk : k < 1 := (List.getElem?_eq_some_iff.mp hq).1
        rw [show k = 0 by omega] at hq
        cases hq
        have z : ∀ j : Nat, (List.replicate n.toNat (0 : Int)).getD j 0 = 0 := fun j => by
          rw [List.getD_eq_getElem?_getD, List.getElem?_replicate]
          by_cases hj : j < n.toNat
          · rw [if_pos hj]; rfl
          · rw [if_neg hj]; rfl
        rcases ht with ⟨rfl, rfl⟩ | ⟨rfl, rfl⟩ | ⟨rfl, rfl⟩
        · have hc : cA = g.2.2.2.1.1 := Option.some.inj (hNm.symm.trans (hKs.2 0 _ rfl).2)
          subst hc
          have ec : cE g (100, List.replicate n.toNat 0) = .inl (g.2.2.2.1.1, n.toNat, .inl (fun _ => 0)) := by
            unfold cE
            simp only [if_pos, z, List.length_replicate]
            rfl
          rw [ec]
          exact e1
        · have hc : cA = g.2.2.2.1.2.1 := Option.some.inj (hNm.symm.trans (hKs.2 1 _ rfl).2)
          subst hc
          have ec : cE g (101, List.replicate n.toNat 0) = .inl (g.2.2.2.1.2.1, n.toNat, .inr (.inl (fun _ => 0))) := by
            unfold cE
            simp only [z, List.length_replicate]
            rfl
          rw [ec]
          exact e1
        · have hc : cA = g.2.2.2.1.2.2 := Option.some.inj (hNm.symm.trans (hKs.2 2 _ rfl).2)
          subst hc
          have ec : cE g (102, List.replicate n.toNat 0) = .inl (g.2.2.2.1.2.2, n.toNat, .inl (fun _ => 0)) := by
            unfold cE
            simp only [z, List.length_replicate]
            rfl
          rw [ec]
          exact e1
    have k := k p l e R s mt args below meth c g H1 locs lsC Qw hC hP1 (by rw [z1]; simp; omega) ⟨Nat.le_trans hS.1 (by omega), fun x g1 g2 => (o1 x (by rw [← hz]; exact Nat.lt_of_lt_of_le g1 hS.1)).trans (hS.2.1 x g1 g2), hS.2.2⟩ hL hb hK
    have e3 : (cs ++ [(t, List.replicate n.toNat (0 : Int))]).length - n0 = cs.length - n0 + 1 := by simp; omega
    have e4 : slc (cs ++ [(t, List.replicate n.toNat (0 : Int))]) - s0 = slc cs - s0 + n.toNat := by simp [slc] at h0 ⊢; omega
    rw [e3, e4] at k
    have e5 : cv g (aR cs.length) = .ref (g.1 + cs.length) := by rw [cv_R g _ (by omega)]; rfl
    rw [← e5]
    exact k
theorem k_new {ci : Nat} {idx : Nat} {q : vw_C} {ty : Nat → FieldType} (hq : vwCl[ci]? = some q) (h9 : ci < 9) (hcf : ∀ w ∈ u_ws q.1 q.2.1 q.2.2, w ∈ BW) (hty : ∀ k, k < q.2.2 → parseFieldDescriptor (q.2.1 k).2.2.1 = some (ty k)) (hdf : ∀ (g : Gd) (j : Nat), j < q.2.2 → defaultValue (ty j) = cfv g ci j (if fty ci j = 2 ∨ fty ci j = 3 then -1 else 0)) (hcl : Cond.classLink o idx q.1 ∈ BW) (hin : Cond.instantiable q.1 q.2.2 ∈ BW) (hini : Cond.initialized q.1 ∈ BW) (hd : decode cc pc = .ok (.new idx, 3)) (hp : pc + 3 = pc2)
    (h0 : n0 ≤ cs.length ∧ s0 ≤ slc cs) (h1 : cs.length - n0 + 1 ≤ NC) (h2 : slc cs - s0 + q.2.2 ≤ NS)
    (k : KSim sc o cc nL ini d NC NS n0 s0 pc2 ls (aR cs.length :: st) (cs ++ [(ci, (List.range q.2.2).map (fun j => if fty ci j = 2 ∨ fty ci j = 3 then -1 else 0))]) Fi) : KSim sc o cc nL ini d NC NS n0 s0 pc ls st cs Fi := by
  subst hp
  intro p l e R s mt args below meth c g H locs lsC Qw hC hP hz hS hL hb hK
  have hts := hC.2.2.2.2.1
  obtain ⟨f1, f2, f3, f4⟩ := hC.2.2.2.2.2.2.2.1
  have hKs := hC.2.2.2.2.2.1
  have hKn := hKs.1 ci _ hq
  have hN : nfl ci = q.2.2 := vw_len ci h9 _ hq
  refine W.newcK hC.1 hC.2.1 hC.2.2.2.1 (hts _ hcl) (hts _ hin) (hts _ hini) (g := F0 mt pc lsC (st.map (cv g))) rfl hd (by omega) (by omega) hKn.2.1 hz (fun H1 kC hkC e1 z1 o1 => ?_)
  have hap := cW_app g cs (ci, (List.range q.2.2).map (fun j => if fty ci j = 2 ∨ fty ci j = 3 then (-1 : Int) else 0))
  have hP1 : va_P (gD g) vwCl (cW g (cs ++ [(ci, (List.range q.2.2).map (fun j => if fty ci j = 2 ∨ fty ci j = 3 then (-1 : Int) else 0))])) H1 := by
    rw [hap]
    refine va_P.app (hP.kept (fun k q hq => o1 q.1 ?_)) (fun k q' hq' => ?_)
    · have := (hP k q hq).lt
      rw [hz] at this
      exact this
    · have hk : k < 1 := (List.getElem?_eq_some_iff.mp hq').1
      rw [show k = 0 by omega] at hq'
      cases hq'
      have ec : cE g (ci, (List.range q.2.2).map (fun j => if fty ci j = 2 ∨ fty ci j = 3 then (-1 : Int) else 0)) = .inr (ci, (List.range q.2.2).map (fun j => cfv g ci j (if fty ci j = 2 ∨ fty ci j = 3 then -1 else 0))) := by
        unfold cE
        rw [if_neg (show ¬ ci = 100 by omega), if_neg (show ¬ ci = 101 by omega), if_neg (show ¬ ci = 102 by omega), hN]
        congr 2
        apply List.map_congr_left
        intro j hj
        have hj := List.mem_range.mp hj
        simp [List.getD_eq_getElem?_getD, hj]
      rw [ec]
      refine ⟨_, hq, (u_born ty hts hcf hKn hkC e1 hty).to (fun j hj => ?_)⟩
      rw [hdf g j hj]
      simp [vp_V, List.getD_eq_getElem?_getD, hj]
  have k := k p l e R s mt args below meth c g H1 locs lsC Qw hC hP1 (by rw [z1]; simp; omega) ⟨Nat.le_trans hS.1 (by omega), fun x g1 g2 => (o1 x (by rw [← hz]; exact Nat.lt_of_lt_of_le g1 hS.1)).trans (hS.2.1 x g1 g2), hS.2.2⟩ hL hb hK
  have e3 : (cs ++ [(ci, (List.range q.2.2).map (fun j => if fty ci j = 2 ∨ fty ci j = 3 then (-1 : Int) else 0))]).length - n0 = cs.length - n0 + 1 := by simp; omega
  have e4 : slc (cs ++ [(ci, (List.range q.2.2).map (fun j => if fty ci j = 2 ∨ fty ci j = 3 then (-1 : Int) else 0))]) - s0 = slc cs - s0 + q.2.2 := by simp [slc] at h0 ⊢; omega
  rw [e3, e4] at k
  have e5 : cv g (aR cs.length) = .ref (g.1 + cs.length) := by rw [cv_R g _ (by omega)]; rfl
  show W p l e R s mt args below meth c H1 locs _ _ Qw (F0 mt (pc + 3) lsC (.ref (g.1 + cs.length) :: st.map (cv g)))
  rw [← e5]
  exact k
theorem k_put {ci j idx : Nat} {a x : Int} {v : AV} {row : List Int} {cs2 : CS} {q : vw_C} {ty : Nat → FieldType} (hf : FL o idx ci j) (hq : vwCl[ci]? = some q) (hty : ∀ k, k < q.2.2 → parseFieldDescriptor (q.2.1 k).2.2.1 = some (ty k)) (hnm : ∀ a, a < q.2.2 → ∀ b, b < q.2.2 → a ≠ b → (q.2.1 a).2.1 ≠ (q.2.1 b).2.1) (hfin : (q.2.1 j).2.2.2 = false ∨ ((q.2.1 j).2.2.2 = true ∧ ini = true ∧ (q.2.1 j).1 = o ∧ Cond.fieldLink o idx (q.2.1 j).1 (q.2.1 j).2.1 (q.2.1 j).2.2.1 ∈ BW)) (ha : 0 ≤ a ∧ a.toNat < cs.length) (hc : cs.getD a.toNat (0, []) = (ci, row)) (hrow : row.length = nfl ci) (hv : ∀ g : Gd, cfv g ci j x = cv g v) (hn : ∀ g : Gd, narrow (ty j) (cv g v) = cv g v ∧ fits (ty j) (cv g v) = true) (hset : cs.set a.toNat (ci, row.set j x) = cs2) (hd : decode cc pc = .ok (.putfield idx, 3)) (hp : pc + 3 = pc2)
    (k : KSim sc o cc nL ini d NC NS n0 s0 pc2 ls st cs2 Fi) : KSim sc o cc nL ini d NC NS n0 s0 pc ls (v :: aR a :: st) cs Fi := by
  subst hp
  subst hset
  intro p l e R s mt args below meth c g H locs lsC Qw hC hP hz hS hL hb hK
  obtain ⟨q', h1, h9, h2, h3, h4⟩ := hf
  cases h1.symm.trans hq
  have hts := hC.2.2.2.2.1
  have hKs := hC.2.2.2.2.2.1
  have hN : nfl ci = q.2.2 := vw_len ci h9 _ hq
  show W p l e R s mt args below meth c H locs (cs.length - n0) (slc cs - s0) Qw (F0 mt pc lsC (cv g v :: cv g (aR a) :: st.map (cv g)))
  rw [cv_R g a ha.1]
  have eo : ∀ r : List Int, cE g (ci, r) = .inr (ci, (List.range (nfl ci)).map (fun i => cfv g ci i (r.getD i 0))) := fun r => by
    unfold cE
    rw [if_neg (show ¬ ci = 100 by omega), if_neg (show ¬ ci = 101 by omega), if_neg (show ¬ ci = 102 by omega)]
  have hg := cW_get g cs ha.2
  rw [hc, eo row] at hg
  have hl : j < ((List.range (nfl ci)).map (fun i => cfv g ci i (row.getD i 0))).length := by simp [hN]; exact h3
  have hs : (cW g cs).set a.toNat (g.1 + a.toNat, .inr (ci, ((List.range (nfl ci)).map (fun i => cfv g ci i (row.getD i 0))).set j (cv g v))) = cW g (cs.set a.toNat (ci, row.set j x)) := by
    rw [← cW_set g cs ha.2, eo (row.set j x)]
    congr 4
    apply List.ext_getElem?
    intro i
    by_cases hi : i < nfl ci
    · by_cases hij : i = j
      · subst hij
        rw [List.getElem?_set_self hl]
        simp [hi, List.getD_eq_getElem?_getD, hrow, hv g]
      · rw [List.getElem?_set_ne (fun e => hij e.symm)]
        simp [hi, List.getD_eq_getElem?_getD, List.getElem?_set_ne (fun e => hij e.symm)]
    · rw [List.getElem?_eq_none (by simp; omega), List.getElem?_eq_none (by simp; omega)]
  have e4 : slc (cs.set a.toNat (ci, row.set j x)) = slc cs := by
    unfold slc
    congr 1
    rw [List.map_set]
    have : (ci, row.set j x).2.length = (cs.map (fun q => q.2.length))[a.toNat]'(by simpa using ha.2) := by
      have hx : cs[a.toNat]'ha.2 = (ci, row) := by
        rw [List.getD_eq_getElem?_getD, List.getElem?_eq_getElem ha.2] at hc
        exact hc
      simp [hx]
    rw [this]
    exact List.set_getElem_self _
  have fin : ∀ (H1 : Heap) (locs1 : List Loc), va_P (gD g) vwCl ((cW g cs).set a.toNat (g.1 + a.toNat, .inr (ci, ((List.range (nfl ci)).map (fun i => cfv g ci i (row.getD i 0))).set j (cv g v)))) H1 → va_S (gA g) s.heap H1 locs1 → H1.size = H.size → W p l e R s mt args below meth c H1 locs1 (cs.length - n0) (slc cs - s0) Qw (F0 mt (pc + 3) lsC (st.map (cv g))) := fun H1 locs1 hP1 hS1 hz1 => by
    rw [hs] at hP1
    have k := k p l e R s mt args below meth c g H1 locs1 lsC Qw hC hP1 (by rw [hz1, hz]; simp) hS1 hL hb hK
    rw [e4, List.length_set] at k
    exact k
  have hap := va_apart (own := o) hts h2 ty hty hnm hKs hq
  obtain ⟨hSl, hfc, kC, hkC, hkind⟩ := hKs.1 ci _ hq
  obtain ⟨r', h1', cell, q1, q2, q3, q4⟩ := hP _ _ hg
  have hr : r' = q := Option.some.inj (h1'.symm.trans hq)
  subst hr
  obtain ⟨cf, kf, fi, f, hi, hsl⟩ := hSl j h3
  have hst := (u_facts hfc hkC (u_lays hts h2 h3) hi).1
  have last : ∀ H' : Heap, H'[g.1 + a.toNat]? = some (cell.setSlot f.slot (cv g v)) → H'.size = H.size → (∀ q, q ≠ g.1 + a.toNat → H'[q]? = H[q]?) → W p l e R s mt args below meth c H' (locs ++ [⟨g.1 + a.toNat, f.slot⟩]) (cs.length - n0) (slc cs - s0) Qw (F0 mt (pc + 3) lsC (st.map (cv g))) := fun H' e1 e2 e3 => by
    rw [hsl] at e1 ⊢
    exact fin H' _ (hP.set (cW_D g cs) hg ⟨_, hq, t_OB.to (V := updV (vp_V ((List.range (nfl ci)).map (fun i => cfv g ci i (row.getD i 0)))) j (cv g v)) ⟨_, e1, q2, q3, t_set q4 hap h3 (cv g v)⟩ (fun i _ => vp_updV_set hl (cv g v) i)⟩ e3) (hS.put e2 e3 (Nat.le_add_right _ _)) e2
  have hlay := hts _ (h2 _ (u_in_lay h3))
  unfold u_lay at hlay
  rcases hfin with hfin | ⟨hfin, hini, hown, hlk⟩
  · rw [if_neg (by rw [hfin]; decide)] at hlay
    have h6 := u_store hfc hkC hkind hlay hi (hty j h3) (hn g).1 (hn g).2
    rcases h4 with h4 | ⟨h, h4⟩
    · exact W.putK hC.1 hC.2.1 (f := f) ⟨hC.2.2.2.1, hts _ h4, ⟨_, _, _, hi⟩, hst⟩ (by rw [q2]; exact h6) q1 q3 (by rw [hsl]; exact k2_hasslot (q4 j h3)) rfl rfl hd last
    · exact va_WputK hC.1 hC.2.1 hC.2.2.2.1 (nw_use h4 (hC.2.2.2.2.2.2.1.1 _ h4)) hi hst (by rw [q2]; exact h6) q1 q3 (by rw [hsl]; exact k2_hasslot (q4 j h3)) rfl rfl hd last
  · rw [if_pos hfin] at hlay
    have hcf : mt.cls = cf := by
      obtain ⟨_, _, c', _, _, _, -, -, hf', -, -, -, hown2, -⟩ := Cond.laysFinal_spec hlay
      have e1 : c' = cf := by have := hi.symm.trans hf'; simp at this; exact this.1.symm
      rw [hown] at hown2
      rw [← e1]; exact Option.some.inj (hC.2.2.2.1.symm.trans hown2)
    have h6 := u_fits hfc hkC hkind (Or.inr hlay) hi (hty j h3) (hn g).1 (hn g).2
    exact W.putFinK hC.1 hC.2.1 hC.2.2.2.1 (hts _ hlk) hi hst hcf (hC.2.2.2.2.2.2.2.2 hini) (by rw [q2]; exact h6) q1 q3 (by rw [hsl]; exact k2_hasslot (q4 j h3)) rfl rfl hd last
theorem slc_set {cs : CS} {a t : Nat} {row row2 : List Int} (ha : a < cs.length) (hc : cs.getD a (0, []) = (t, row)) (hl : row2.length = row.length) : slc (cs.set a (t, row2)) = slc cs := by
  unfold slc
  congr 1
  rw [List.map_set]
  have : (t, row2).2.length = (cs.map (fun q => q.2.length))[a]'(by simpa using ha) := by
    have hx : cs[a]'ha = (t, row) := by
      rw [List.getD_eq_getElem?_getD, List.getElem?_eq_getElem ha] at hc
      exact hc
    simp [hx, hl]
  rw [this]
  exact List.set_getElem_self _
theorem k_ast {a i x : Int} {t : Nat} {row : List Int} {cs2 : CS} (ht : (decode cc pc = .ok (.iastore, 1) ∧ t = 100) ∨ (decode cc pc = .ok (.castore, 1) ∧ t = 102 ∧ vp_nar .char (Int32.ofInt x) = Int32.ofInt x)) (ha : 0 ≤ a ∧ a.toNat < cs.length) (hc : cs.getD a.toNat (0, []) = (t, row)) (hi : 0 ≤ i ∧ i < row.length ∧ i < 5000) (hset : cs.set a.toNat (t, row.set i.toNat x) = cs2) (hp : pc + 1 = pc2)
    (k : KSim sc o cc nL ini d NC NS n0 s0 pc2 ls st cs2 Fi) : KSim sc o cc nL ini d NC NS n0 s0 pc ls (aI x :: aI i :: aR a :: st) cs Fi := by
  subst hp
  subst hset
  intro p l e R s mt args below meth c g H locs lsC Qw hC hP hz hS hL hb hK
  have hKs := hC.2.2.2.2.2.1
  show W p l e R s mt args below meth c H locs (cs.length - n0) (slc cs - s0) Qw (F0 mt pc lsC (.int (Int32.ofInt x) :: .int (Int32.ofInt i) :: cv g (aR a) :: st.map (cv g)))
  rw [cv_R g a ha.1]
  have hg := cW_get g cs ha.2
  rw [hc] at hg
  have e2 : ∀ j : Nat, (if j = i.toNat then Int32.ofInt x else Int32.ofInt (row.getD j 0)) = Int32.ofInt ((row.set i.toNat x).getD j 0) := fun j => by
    by_cases hj : j = i.toNat
    · subst hj
      rw [if_pos rfl, List.getD_eq_getElem?_getD, List.getElem?_set_self (by omega)]
      rfl
    · rw [if_neg hj, List.getD_eq_getElem?_getD, List.getD_eq_getElem?_getD, List.getElem?_set_ne (fun e => hj e.symm)]
  have hin : ¬ (Int32.ofInt i < 0 ∨ row.length ≤ (Int32.ofInt i).toNatClampNeg) := by
    rw [i32_clamp ⟨hi.1, by omega⟩]
    intro q
    rcases q with q | q
    · exact i32_nn ⟨hi.1, by omega⟩ q
    · omega
  have last : ∀ (cA : ClassId) (H1 : Heap), cE g (t, row.set i.toNat x) = .inl (cA, row.length, .inl (fun j => Int32.ofInt ((row.set i.toNat x).getD j 0))) → H1[g.1 + a.toNat]? = some (arrV cA row.length (fun j => .int (if j = i.toNat then Int32.ofInt x else Int32.ofInt (row.getD j 0)))) → H1.size = H.size → (∀ q, q ≠ g.1 + a.toNat → H1[q]? = H[q]?) → ∀ z : Nat, W p l e R s mt args below meth c H1 (locs ++ [⟨g.1 + a.toNat, z⟩]) (cs.length - n0) (slc cs - s0) Qw (F0 mt (pc + 1) lsC (st.map (cv g))) := fun cA H1 e0 e1 z1 oq z => by
    have hP1 := hP.set (cW_D g cs) hg (e := cE g (t, row.set i.toNat x)) (by rw [e0]; simp only [e2] at e1; exact e1) oq
    rw [cW_set g cs ha.2] at hP1
    have k := k p l e R s mt args below meth c g H1 _ lsC Qw hC hP1 (by rw [z1, hz]; simp) (hS.put (k := z) z1 oq (Nat.le_add_right _ _)) hL hb hK
    rw [slc_set ha.2 hc (by simp), List.length_set] at k
    exact k
  have upd : ∀ cA : ClassId, (arrV cA row.length (fun j => .int (Int32.ofInt (row.getD j 0)))).setSlot i.toNat (.int (Int32.ofInt x)) = arrV cA row.length (fun j => .int (if j = i.toNat then Int32.ofInt x else Int32.ofInt (row.getD j 0))) := fun cA => by
    rw [arrV_store]
    congr 1
    funext j
    by_cases hj : j = i.toNat <;> simp [updV, hj]
  rcases ht with ⟨hd, rfl⟩ | ⟨hd, rfl, hx⟩
  · have ec : cE g (100, row) = .inl (g.2.2.2.1.1, row.length, .inl (fun j => Int32.ofInt (row.getD j 0))) := rfl
    rw [ec] at hg
    refine W.iast hC.1 hC.2.1 (hP _ _ hg) ((hKs.2 0 _ rfl).1 row.length (fun j => .int (Int32.ofInt (row.getD j 0)))) (fun q => by cases q) (by show ¬ (_ < 0 ∨ (arrV _ _ _).slots.size ≤ _); rw [arrV_size]; exact hin) rfl rfl hd fun H1 e z oq => ?_
    refine last g.2.2.2.1.1 H1 (by unfold cE; rw [if_pos rfl]; simp) ?_ z oq _
    rw [e, i32_clamp ⟨hi.1, by omega⟩, ← upd]
    rfl
  · have ec : cE g (102, row) = .inl (g.2.2.2.1.2.2, row.length, .inl (fun j => Int32.ofInt (row.getD j 0))) := rfl
    rw [ec] at hg
    refine W.cast hC.1 hC.2.1 (hP _ _ hg) ((hKs.2 2 _ rfl).1 row.length (fun j => .int (Int32.ofInt (row.getD j 0)))) (fun q => by cases q) (by show ¬ (_ < 0 ∨ (arrV _ _ _).slots.size ≤ _); rw [arrV_size]; exact hin) rfl rfl hd fun H1 e z oq => ?_
    refine last g.2.2.2.1.2.2 H1 (by unfold cE; simp) ?_ z oq _
    have hx2 : narrow .char (Value.int (Int32.ofInt x)) = .int (Int32.ofInt x) := congrArg Value.int hx
    rw [e, i32_clamp ⟨hi.1, by omega⟩, ← upd]
    first | rfl | (rw [hx2]; rfl) | (simp only [hx2]; rfl)
theorem k_getf {ci j idx : Nat} {a x : Int} {row : List Int} (hf : FL o idx ci j) (h9 : ci < 9) (ht : fty ci j = 2 ∨ fty ci j = 3) (ha : 0 ≤ a ∧ a.toNat < cs.length) (hc : cs.getD a.toNat (0, []) = (ci, row)) (hx : row.getD j 0 = x) (hx0 : 0 ≤ x) (hj : j < nfl ci) (hd : decode cc pc = .ok (.getfield idx, 3)) (hp : pc + 3 = pc2)
    (k : KSim sc o cc nL ini d NC NS n0 s0 pc2 ls (aR x :: st) cs Fi) : KSim sc o cc nL ini d NC NS n0 s0 pc ls (aR a :: st) cs Fi := by
  subst hp
  intro p l e R s mt args below meth c g H locs lsC Qw hC hP hz hS hL hb hK
  obtain ⟨q, h1, -, h2, h3, h4⟩ := hf
  have k := (k p l e R s mt args below meth c g H locs lsC Qw hC hP hz hS hL hb hK)
  show W p l e R s mt args below meth c H locs (cs.length - n0) (slc cs - s0) Qw (F0 mt pc lsC (cv g (aR a) :: st.map (cv g)))
  rw [cv_R g a ha.1]
  have hg := cW_get g cs ha.2
  have eo : cE g (ci, row) = .inr (ci, (List.range (nfl ci)).map (fun i => cfv g ci i (row.getD i 0))) := by
    unfold cE
    rw [if_neg (show ¬ ci = 100 by omega), if_neg (show ¬ ci = 101 by omega), if_neg (show ¬ ci = 102 by omega)]
  rw [hc, eo] at hg
  have hfs : ((List.range (nfl ci)).map (fun i => cfv g ci i (row.getD i 0)))[j]? = some (cv g (aR x)) := by
    rw [List.getElem?_map, List.getElem?_range hj]
    show some (cfv g ci j (row.getD j 0)) = _
    rw [hx]
    unfold cfv
    rcases ht with h | h <;> simp [h]
  rcases h4 with h4 | ⟨h, h4⟩
  · exact va_get hC.1 hC.2.1 hC.2.2.2.2.1 h2 hC.2.2.2.1 hC.2.2.2.2.2.1 hP _ hg h1 j h3 (hC.2.2.2.2.1 _ h4) (fun _ q => q) hfs hd k
  · exact va_getN hC.1 hC.2.1 hC.2.2.2.2.1 h2 hC.2.2.2.1 hC.2.2.2.2.2.1 hP _ hg h1 j h3 (nw_use h4 (hC.2.2.2.2.2.2.1.1 _ h4)) (fun _ q => q) hfs hd k
theorem k_gets {C n ds : String} {idx : Nat} {v : AV} (hZ : ∀ (g : Gd) (s : State), Ext sc g s → va_Z C n ds (cv g v) (gA g) s s.heap) (hl : (Cond.fieldLink o idx C n ds ∈ BW) ∨ ∃ h, Cond.fieldLinkNest o idx C n ds h ∈ NW) (hd : decode cc pc = .ok (.getstatic idx, 3)) (hp : pc + 3 = pc2)
    (k : KSim sc o cc nL ini d NC NS n0 s0 pc2 ls (v :: st) cs Fi) : KSim sc o cc nL ini d NC NS n0 s0 pc ls st cs Fi := by
  subst hp
  intro p l e R s mt args below meth c g H locs lsC Qw hC hP hz hS hL hb hK
  have k := (k p l e R s mt args below meth c g H locs lsC Qw hC hP hz hS hL hb hK)
  have hE := hC.2.2.2.2.2.2.1
  rcases hl with hl | ⟨h, hl⟩
  · exact va_gets hC.1 hC.2.1 (hZ g s hE) hS hC.2.2.2.1 (hC.2.2.2.2.1 _ hl) (fun _ q => q) hd k
  · exact va_getsN hC.1 hC.2.1 (hZ g s hE) hS hC.2.2.2.1 (nw_use hl (hE.1 _ hl)) (fun _ q => q) hd k
theorem k_alen {a n : Int} {row : List Int} (ha : 0 ≤ a ∧ a.toNat < cs.length) (hc : cs.getD a.toNat (0, []) = (100, row)) (hn : (row.length : Int) = n) (hd : decode cc pc = .ok (.arraylength, 1)) (hp : pc + 1 = pc2)
    (k : KSim sc o cc nL ini d NC NS n0 s0 pc2 ls (aI n :: st) cs Fi) : KSim sc o cc nL ini d NC NS n0 s0 pc ls (aR a :: st) cs Fi := by
  subst hp
  subst hn
  intro p l e R s mt args below meth c g H locs lsC Qw hC hP hz hS hL hb hK
  have k := (k p l e R s mt args below meth c g H locs lsC Qw hC hP hz hS hL hb hK)
  show W p l e R s mt args below meth c H locs (cs.length - n0) (slc cs - s0) Qw (F0 mt pc lsC (cv g (aR a) :: st.map (cv g)))
  rw [cv_R g a ha.1]
  have hg := cW_get g cs ha.2
  rw [hc] at hg
  exact va_alen hC.1 hC.2.1 hC.2.2.2.2.2.1 hP _ 0 hg rfl (v := Int32.ofInt row.length) (Int32.ofInt_eq_ofNat.symm) hd k
/-- a table that stood before, laid whole into an array of the same length -/
theorem k_xcopy {idx : Nat} {src dst n : Int} {row : List Int} {cs2 : CS} (hl : AC o idx) (hw : ACW) (hs : src = -2 ∨ src = -3 ∨ src = -4 ∨ src = -7) (ha : 0 ≤ dst ∧ dst.toNat < cs.length) (hc : cs.getD dst.toNat (0, []) = (100, row)) (h3 : 0 ≤ n ∧ n < 5000) (h4 : n = (xt sc src).length) (h5 : n = row.length) (hset : cs.set dst.toNat (100, xt sc src) = cs2) (hdd : 1 ≤ d) (hr : (st.map acat).sum ≤ 8) (hd : decode cc pc = .ok (.invokestatic idx, 3)) (hp : pc + 3 = pc2)
    (k : KSim sc o cc nL ini d NC NS n0 s0 pc2 ls st cs2 Fi) : KSim sc o cc nL ini d NC NS n0 s0 pc ls (aI n :: aI 0 :: aR dst :: aI 0 :: aR src :: st) cs Fi := by
  subst hp
  subst hset
  intro p l e R s mt args below meth c g H locs lsC Qw hC hP hz hS hL hb hK
  have hE := hC.2.2.2.2.2.2.1
  have hts := hC.2.2.2.2.1
  have hKs := hC.2.2.2.2.2.1
  obtain ⟨f1, f2, f3, f4⟩ := hC.2.2.2.2.2.2.2.1
  show W p l e R s mt args below meth c H locs (cs.length - n0) (slc cs - s0) Qw (F0 mt pc lsC (.int (Int32.ofInt n) :: .int (Int32.ofInt 0) :: cv g (aR dst) :: .int (Int32.ofInt 0) :: cv g (aR src) :: st.map (cv g)))
  rw [cv_R g dst ha.1, cv_X g src (by omega) (by omega)]
  have hg1 := cW_get g cs ha.2
  rw [hc] at hg1
  have hX := hE.2.2.1 src hs
  have z1 : (0 : Int) ≤ 0 ∧ (0 : Int) < 2147483648 := ⟨by omega, by omega⟩
  have z3 : 0 ≤ n ∧ n < 2147483648 := ⟨h3.1, by omega⟩
  have n1 : (Int32.ofInt 0).toInt = 0 := i32_of ⟨by omega, z1.2⟩
  have n3 : (Int32.ofInt n).toInt = n := i32_of ⟨by omega, z3.2⟩
  intro T hT X
  obtain ⟨scr, hs1, hs2, hs3, hs4, -, hs5, hs7⟩ := hX
  have hc0 : H[g.2.1 src]? = some scr := by rw [hS.2.1 _ (Array.getElem?_eq_some_iff.mp hs1).1 hs7]; exact hs1
  have hc1 : H[g.1 + dst.toNat]? = some (vp_cell g.2.2.2.1.1 (row.length, .inl (fun j : Nat => Int32.ofInt (row.getD j 0)))) := hP _ _ hg1
  obtain ⟨hs6, k0, hk0, cm0, hkk0⟩ := hs2
  obtain ⟨-, k1, hk1, cm1, hkk1⟩ := (hKs.2 0 (g.2.2.2.1.1, .int) rfl).1 row.length (fun j => .int (Int32.ofInt (row.getD j 0)))
  obtain ⟨vm', X', step⟩ := X.arraycopy hC.1 hC.2.2.2.1 (hts _ hl) (hts _ hw.1) (hts _ hw.2.1) (hts _ hw.2.2) (src := g.2.1 src) (dst := g.1 + dst.toNat) (cs := scr) (cd := vp_cell g.2.2.2.1.1 (row.length, .inl (fun j : Nat => Int32.ofInt (row.getD j 0)))) (srcPos := Int32.ofInt 0) (destPos := Int32.ofInt 0) (n := Int32.ofInt n) (by rw [hT]; exact hc0) (by rw [hT]; exact hc1)
    hs6 (fun _ h => by cases h) hs3 (fun h => by cases h) hk0 hk1 hkk0 hkk1 (by simp [refKind]) (i32_nn z1) (i32_nn z1) (i32_nn z3)
    (by rw [n1, n3]; omega)
    (by rw [n1, n3]; show ¬ _ > ((arrV g.2.2.2.1.1 row.length (fun j => .int (Int32.ofInt (row.getD j 0)))).slots.size : Int); rw [arrV_size]; omega)
    (fun vm₁ _ i hi => by
      have hi : i < n.toNat := by rw [i32_clamp z3] at hi; exact hi
      have e : scr.slots.getD ((Int32.ofInt 0).toNatClampNeg + i) .null = .int (Int32.ofInt ((xt sc src).getD ((Int32.ofInt 0).toNatClampNeg + i) 0)) := by
        rw [Array.getD_eq_getD_getElem?, hs5 _ (by rw [i32_clamp z1]; omega)]
        rfl
      exact ⟨by rw [e]; rfl, by rw [e]; exact trivial⟩)
    (g := F0 mt pc lsC (.int (Int32.ofInt n) :: .int (Int32.ofInt 0) :: .ref (g.1 + dst.toNat) :: .int (Int32.ofInt 0) :: .ref (g.2.1 src) :: st.map (cv g))) rfl (by rw [hC.2.2.1]; exact hL.1) (rest := st.map (cv g)) rfl (by rw [hC.2.1]; exact hd) (by omega) (by rw [cat_sum hE]; show 2 * 0 + _ + (7 + 11) ≤ _; omega)
  have e1 : copied scr (vp_cell g.2.2.2.1.1 (row.length, .inl (fun j : Nat => Int32.ofInt (row.getD j 0)))) (Int32.ofInt 0) (Int32.ofInt 0) (Int32.ofInt n) = vp_cell g.2.2.2.1.1 ((xt sc src).length, .inl (fun j : Nat => Int32.ofInt ((xt sc src).getD j 0))) := by
    rw [show copied scr (vp_cell g.2.2.2.1.1 (row.length, .inl (fun j : Nat => Int32.ofInt (row.getD j 0)))) (Int32.ofInt 0) (Int32.ofInt 0) (Int32.ofInt n) = vp_cell g.2.2.2.1.1 (row.length, .inl (va_cpy (fun j => Int32.ofInt ((xt sc src).getD j 0)) (fun j : Nat => Int32.ofInt (row.getD j 0)) (Int32.ofInt 0).toNatClampNeg (Int32.ofInt 0).toNatClampNeg (Int32.ofInt n).toNatClampNeg)) from va_copiedX (fun z => .int z) scr g.2.2.2.1.1 (fun j => Int32.ofInt ((xt sc src).getD j 0)) (fun j : Nat => Int32.ofInt (row.getD j 0)) hs5 (by rw [i32_clamp z1, i32_clamp z3]; omega)]
    rw [show row.length = (xt sc src).length by omega]
    congr 3
    funext j
    rw [i32_clamp z1, i32_clamp z3]
    unfold va_cpy
    by_cases hj : j < n.toNat
    · rw [if_pos ⟨by omega, by omega⟩]
      congr 2
      omega
    · rw [if_neg (fun q => hj (by omega))]
      show Int32.ofInt (row.getD j 0) = _
      rw [List.getD_eq_getElem?_getD, List.getD_eq_getElem?_getD, List.getElem?_eq_none (by omega), List.getElem?_eq_none (by omega)]
  rw [e1] at X' step
  have hl9 : g.1 + dst.toNat < H.size := (Array.getElem?_eq_some_iff.mp hc1).1
  generalize hnew : vp_cell g.2.2.2.1.1 ((xt sc src).length, Sum.inl (fun j : Nat => Int32.ofInt ((xt sc src).getD j 0))) = newc at *
  have hheap : ((T.setVm vm').setCell (g.1 + dst.toNat) newc).heap = H.setIfInBounds (g.1 + dst.toNat) newc := by rw [← hT]; rfl
  have oq : ∀ q : Nat, q ≠ g.1 + dst.toNat → (H.setIfInBounds (g.1 + dst.toNat) newc)[q]? = H[q]? := fun q hq => by simp [Array.getElem?_setIfInBounds, Ne.symm hq]
  have hP1 := hP.set (cW_D g cs) hg1 (e := cE g (100, xt sc src)) (show (H.setIfInBounds (g.1 + dst.toNat) newc)[g.1 + dst.toNat]? = some _ by rw [← hnew]; simp [Array.getElem?_setIfInBounds, hl9]) oq
  rw [cW_set g cs ha.2] at hP1
  have kw : ∀ L : List Loc, va_S (gA g) s.heap (H.setIfInBounds (g.1 + dst.toNat) newc) (locs ++ L) → W p l e R s mt args below meth c (H.setIfInBounds (g.1 + dst.toNat) newc) (locs ++ L) (cs.length - n0) (slc cs - s0) Qw (F0 mt (pc + 3) lsC (st.map (cv g))) := fun L hL' => by
    have k := k p l e R s mt args below meth c g _ (locs ++ L) lsC Qw hC hP1 (by simp [hz]) hL' hL hb hK
    rw [slc_set ha.2 hc (by omega), List.length_set] at k
    exact k
  obtain ⟨t, a1, b1'⟩ := kw _ ⟨by simp; exact hS.1, fun q g1 g2 => by
      rw [oq q (fun e => g2 (by rw [e]; exact Nat.le_add_right _ _))]
      exact hS.2.1 q g1 g2, fun q hq => by
      rcases List.mem_append.mp hq with h | h
      · exact hS.2.2 q h
      · obtain ⟨z, -, hz⟩ := List.mem_map.mp h
        rw [← hz]
        exact Nat.le_add_right _ _⟩ _ hheap X'
  exact ⟨t, step t a1, b1'⟩
end XK
