/-! the abstract machine: values, memory, what they stand for, and when a frame runs -/
abbrev AV : Type := Int ⊕ (Int ⊕ (Int ⊕ Unit))
abbrev aI (x : Int) : AV := Sum.inl x
abbrev aJ (x : Int) : AV := Sum.inr (Sum.inl x)
abbrev aR (x : Int) : AV := Sum.inr (Sum.inr (Sum.inl x))
abbrev aU : AV := Sum.inr (Sum.inr (Sum.inr ()))
abbrev Mem : Type := Int → Int → Int
def wr (m : Mem) (a j v : Int) : Mem := fun b k => if b = a ∧ k = j then v else m b k
theorem wr_eq (m : Mem) (a j v : Int) : wr m a j v a j = v := by simp [wr]
theorem wr_ne (m : Mem) (a j v b k : Int) (h : ¬ (b = a ∧ k = j)) : wr m a j v b k = m b k := by simp [wr, h]
theorem wr_na (m : Mem) (a j v b k : Int) (h : b ≠ a) : wr m a j v b k = m b k := by simp [wr, h]
/-- what the abstract stands for: base address, addresses of what stood before, the bounds formatter, array classes, the classes' slots -/
abbrev Gd : Type := Nat × (Int → Nat) × Value × (ClassId × ClassId × ClassId) × va_G
def gad (g : Gd) (a : Int) : Nat := if a < 0 then g.2.1 a else g.1 + a.toNat
def cv (g : Gd) (v : AV) : Value := match v with
  | .inl x => .int (Int32.ofInt x)
  | .inr (.inl x) => .long (Int64.ofInt x)
  | .inr (.inr (.inl a)) => if a = -1 then .null else if a = -8 then g.2.2.1 else .ref (gad g a)
  | .inr (.inr (.inr _)) => .null
theorem cv_I (g : Gd) (x : Int) : cv g (aI x) = .int (Int32.ofInt x) := rfl
theorem cv_J (g : Gd) (x : Int) : cv g (aJ x) = .long (Int64.ofInt x) := rfl
theorem cv_R (g : Gd) (a : Int) (h : 0 ≤ a) : cv g (aR a) = .ref (g.1 + a.toNat) := by
  show (if a = -1 then Value.null else if a = -8 then g.2.2.1 else .ref (gad g a)) = _
  rw [if_neg (by omega), if_neg (by omega), gad, if_neg (by omega)]
theorem cv_X (g : Gd) (a : Int) (h : a < -1) (h8 : a ≠ -8) : cv g (aR a) = .ref (g.2.1 a) := by
  show (if a = -1 then Value.null else if a = -8 then g.2.2.1 else .ref (gad g a)) = _
  rw [if_neg (by omega), if_neg h8, gad, if_pos (by omega)]
def acat (v : AV) : Nat := match v with
  | .inr (.inl _) => 2
  | _ => 1
def gA (g : Gd) : Nat → Prop := fun q => g.1 ≤ q
def gT (g : Gd) : List (ClassId × FieldType) := [(g.2.2.2.1.1, .int), (g.2.2.2.1.2.1, .long), (g.2.2.2.1.2.2, .char)]
abbrev gD (g : Gd) : va_G := g.2.2.2.2
def fVal (g : Gd) (m : Mem) (k j : Nat) : Value :=
  if fty (sk k).1 j = 1 then .long (Int64.ofInt (m k j)) else if fty (sk k).1 j = 2 then cv g (aR (rfo k j)) else if fty (sk k).1 j = 3 then cv g (aR (m k j)) else .int (Int32.ofInt (m k j))
def eC (g : Gd) (m : Mem) (k : Nat) : va_E :=
  if (sk k).1 = 100 then .inl (g.2.2.2.1.1, (sk k).2.1, .inl (fun j => Int32.ofInt (m k j)))
  else if (sk k).1 = 101 then .inl (g.2.2.2.1.2.1, (sk k).2.1, .inr (.inl (fun j => Int64.ofInt (m k j))))
  else if (sk k).1 = 102 then .inl (g.2.2.2.1.2.2, (sk k).2.1, .inl (fun j => Int32.ofInt (m k j)))
  else .inr ((sk k).1, (List.range (nfl (sk k).1)).map (fVal g m k))
def wW (g : Gd) (m : Mem) : va_W := (List.range 152).map (fun k => (g.1 + k, eC g m k))
theorem wW_get (g : Gd) (m : Mem) {k : Nat} (h : k < 152) : (wW g m)[k]? = some (g.1 + k, eC g m k) := by
  simp [wW, h]
theorem wW_at (g : Gd) (m : Mem) {k : Nat} {q : Nat × va_E} (h : (wW g m)[k]? = some q) : k < 152 ∧ q = (g.1 + k, eC g m k) := by
  have hk : k < 152 := by
    have := (List.getElem?_eq_some_iff.mp h).1
    simpa [wW] using this
  rw [wW_get g m hk] at h
  exact ⟨hk, (Option.some.inj h).symm⟩
theorem wW_set (g : Gd) (m m' : Mem) {k : Nat} (h : k < 152) (ho : ∀ q : Nat, q ≠ k → eC g m' q = eC g m q) : (wW g m).set k (g.1 + k, eC g m' k) = wW g m' := by
  apply List.ext_getElem?
  intro i
  by_cases hi : i < 152
  · by_cases hk : i = k
    · subst hk
      rw [wW_get g m' hi, List.getElem?_set_self (by simp [wW]; exact hi)]
    · rw [List.getElem?_set_ne (fun e => hk e.symm), wW_get g m hi, wW_get g m' hi, ho i hk]
  · rw [List.getElem?_eq_none (by simp [wW]; omega), List.getElem?_eq_none (by simp [wW]; omega)]
theorem eC_wr (g : Gd) (m : Mem) (a j v : Int) {q : Nat} (h : (q : Int) ≠ a) : eC g (wr m a j v) q = eC g m q := by
  have e : ∀ k : Int, wr m a j v q k = m q k := fun k => wr_na m a j v q k h
  have e2 : fVal g (wr m a j v) q = fVal g m q := by funext i; simp only [fVal, e]
  simp only [eC, e, e2]
theorem wW_D (g : Gd) (m : Mem) : va_D (gA g) (wW g m) := by
  refine ⟨fun i j p q hp hq h => ?_, fun k q hq => ?_⟩
  · obtain ⟨-, rfl⟩ := wW_at g m hp
    obtain ⟨-, rfl⟩ := wW_at g m hq
    have h : g.1 + i = g.1 + j := h
    omega
  · obtain ⟨-, rfl⟩ := wW_at g m hq
    exact Nat.le_add_right _ _
/-! the tables' words -/
def isNest (w : Cond) : Bool := match w with
  | .fieldLinkNest .. => true
  | .methodLinkNest .. => true
  | _ => false
def BW : List Cond := lw_tbl.filter goodWord
def NW : List Cond := lw_tbl.filter isNest
theorem bw_in {w : Cond} (i : Nat) (h : tables_1[i]? = some w) (g : goodWord w = true) : w ∈ BW := List.mem_filter.mpr ⟨List.mem_append_right _ (List.mem_of_getElem? h), g⟩
theorem nw_in {w : Cond} (i : Nat) (h : tables_1[i]? = some w) (g : isNest w = true) : w ∈ NW := List.mem_filter.mpr ⟨List.mem_append_right _ (List.mem_of_getElem? h), g⟩
theorem bw_good {ws : List Cond} (h : ∀ w ∈ ws, w ∈ BW) (big : List Cond) (hb : ∀ w ∈ BW, w ∈ big) : GoodIn big ws := fun w hw => ⟨hb w (h w hw), good_of_word (List.mem_filter.mp (h w hw)).2⟩
theorem nw_warm {w : Cond} (hw : w ∈ NW) {s U : State} (hW : s.WarmedH U.vm) (h : va_Nw w s) : va_Nw w U := by
  have hn := (List.mem_filter.mp hw).2
  cases w <;> first | exact va_Nw.warmF hW h | exact va_Nw.warmM hW h | (exfalso; simp [isNest] at hn)
theorem nw_same {w : Cond} (hw : w ∈ NW) {u U : State} (hv : u.vm = U.vm) (h : va_Nw w u) : va_Nw w U := by
  have hn := (List.mem_filter.mp hw).2
  cases w <;> first | exact va_Nw.same rfl hv h | (exfalso; simp [isNest] at hn)
theorem nw_of {w : Cond} (hw : w ∈ NW) {A : Array Value} {U : State} (h : w.before A U = true) : va_Nw w U := by
  have hn := (List.mem_filter.mp hw).2
  cases w <;> first | exact va_Nw.of rfl h | (exfalso; simp [isNest] at hn)
theorem nw_use {w : Cond} (hw : w ∈ NW) {A : Array Value} {U : State} (h : va_Nw w U) : w.before A U = true := by
  have hn := (List.mem_filter.mp hw).2
  cases w <;> first | exact va_Nw.use rfl h | (exfalso; simp [isNest] at hn)
/-! what stood before: the tables WITHOUT (-2), LOWEST (-3), HIGHEST (-4), the words (-5, their bytes -6), the script (-7), the formatter (-8) -/
def TXT : String := "bobbin lasts odds seam takes shown anew rule when wind mend look batch ahead girls used rest number least most left changed mended yards or and not all min max first last often total "
def TXB : List Int32 := TXT.toList.map (fun c => Int32.ofNat c.toNat)
def xt (sc : List Int) (a : Int) : List Int := if a = -2 then [2, 9, 1, 9, 5, 1] else if a = -3 then [0, 0, 0, 0, 1, 1] else if a = -4 then [99, 99, 99, 99, 9, 3] else if a = -7 then sc else []
def Ext (sc : List Int) (g : Gd) (U : State) : Prop :=
  (∀ w ∈ NW, va_Nw w U) ∧
  (va_Z RX7 "WITHOUT" "[I" (.ref (g.2.1 (-2))) (gA g) U U.heap ∧ va_Z RX7 "LOWEST" "[I" (.ref (g.2.1 (-3))) (gA g) U U.heap ∧ va_Z RX7 "HIGHEST" "[I" (.ref (g.2.1 (-4))) (gA g) U U.heap) ∧
  (∀ a : Int, (a = -2 ∨ a = -3 ∨ a = -4 ∨ a = -7) → va_T .int (g.2.1 a) (xt sc a).length (fun j => .int (Int32.ofInt ((xt sc a).getD j 0))) (gA g) U U.heap) ∧
  (vk_R RX5 69 TXT (g.2.1 (-5)) U ∧ vk_S 1 [TXB.length] [TXB] (fun _ => g.2.1 (-5)) (fun _ => g.2.1 (-6)) (gA g) U U.heap) ∧
  (va_Z RJ0 "COMPACT_STRINGS" "Z" (.int 1) (gA g) U U.heap ∧ va_Z RJ3 "SIOOBE_FORMATTER" "Ljava/util/function/BiFunction;" g.2.2.1 (gA g) U U.heap ∧ (g.2.2.1 = .null ∨ ∃ t : Nat, g.2.2.1 = .ref t)) ∧
  sc.length < 2 ^ 31
/-- the same at the start of a call -/
theorem Ext.call {sc : List Int} {g : Gd} {s U : State} {H : Heap} {locs : List Loc} (h : Ext sc g s) (hS : va_S (gA g) s.heap H locs) (hU : U.heap = H) (hW : s.WarmedH U.vm) : Ext sc g U := by
  obtain ⟨h1, ⟨a1, a2, a3⟩, h3, ⟨b1, b2⟩, ⟨c1, c2, c3⟩, h6⟩ := h
  have kk : ∀ a : Nat, a < s.heap.size → ¬ gA g a → U.heap[a]? = s.heap[a]? := fun a q1 q2 => by rw [hU]; exact hS.2.1 a q1 q2
  have hv := hW.alike
  exact ⟨fun w hw => nw_warm hw hW (h1 w hw), ⟨(va_Z.moved hv a1).kept kk, (va_Z.moved hv a2).kept kk, (va_Z.moved hv a3).kept kk⟩, fun a ha => (va_T.moved hv (h3 a ha)).kept kk, ⟨vk_R.warm hW b1, (vk_S.moved hv b2).kept kk⟩, ⟨(va_Z.moved hv c1).kept kk, (va_Z.moved hv c2).kept kk, c3⟩, h6⟩
theorem Ext.same {sc : List Int} {g : Gd} {s U : State} (h : Ext sc g s) (hh : U.heap = s.heap) (hv : U.vm = s.vm) : Ext sc g U := by
  obtain ⟨h1, ⟨a1, a2, a3⟩, h3, ⟨b1, b2⟩, ⟨c1, c2, c3⟩, h6⟩ := h
  have al : s.vm.Alike U.vm := by rw [hv]; exact Vm.Alike.refl _
  refine ⟨fun w hw => nw_same hw hv.symm (h1 w hw), ?_, ?_, ?_, ?_, h6⟩
  · rw [hh]; exact ⟨va_Z.moved al a1, va_Z.moved al a2, va_Z.moved al a3⟩
  · rw [hh]; exact fun a ha => va_T.moved al (h3 a ha)
  · rw [hh]; exact ⟨vk_R.same hv b1, vk_S.moved al b2⟩
  · rw [hh]; exact ⟨va_Z.moved al c1, va_Z.moved al c2, c3⟩
/-! locals -/
def Lok (g : Gd) (lsC : Array Slot) (nL : Nat) (ls : List AV) : Prop := lsC.size = nL ∧ lv_wf lsC ∧ ls.length = nL ∧ ∀ (i : Nat) (v : AV), ls[i]? = some v → v ≠ aU → lsC[i]? = some (.val (cv g v))
/-! a frame runs: from here it comes to a return with Q -/
def Ctx (sc : List Int) (o : String) (cc : ByteArray) (nL : Nat) (ret : Option FieldType) (d : Nat) (p : Program) (e : Env) (R : Room) (s : State) (mt : MethodId) (args : Array Value) (meth : Method) (c : Code) (g : Gd) (cells slots : Nat) : Prop :=
  p.tables.exec = Jvm.exec ∧ c.code = cc ∧ c.maxLocals = nL ∧ s.vm.findClass o = some mt.cls ∧ (∀ w ∈ BW, w.before args s = true) ∧ meth.locks = false ∧ meth.sig.returnType = ret ∧ va_K (gD g) vwCl (gT g) s ∧ Ext sc g s ∧ d ≤ R.frames ∧ 45 * d ≤ R.locals ∧ cells ≤ R.cells ∧ slots ≤ R.slots
def RetOK (ret : Option FieldType) (v : Option AV) : Prop := match v with
  | none => ret = none
  | some (.inl x) => ∃ t : FieldType, ret = some t ∧ narrow t (.int (Int32.ofInt x)) = .int (Int32.ofInt x)
  | some (.inr (.inl _)) => ret = some .long
  | some (.inr (.inr (.inl a))) => 0 ≤ a ∧ ∃ t : FieldType, ret = some (.array t)
  | some (.inr (.inr (.inr _))) => False
def retI (v : Option AV) : Instr := match v with
  | none => .return_
  | some (.inl _) => .ireturn
  | some (.inr (.inl _)) => .lreturn
  | some (.inr (.inr _)) => .areturn
def Sim (sc : List Int) (o : String) (cc : ByteArray) (nL : Nat) (ret : Option FieldType) (d : Nat) (pc : Nat) (ls st : List AV) (m : Mem) (Q : Option AV → Mem → Prop) : Prop :=
  ∀ (p : Program) (l : Launch) (e : Env) (R : Room) (s : State) (mt : MethodId) (args : Array Value) (below : List Frame) (meth : Method) (c : Code) (g : Gd) (H : Heap) (locs : List Loc) (lsC : Array Slot) (cells slots : Nat) (Qw : State → Prop),
    Ctx sc o cc nL ret d p e R s mt args meth c g cells slots → va_P (gD g) vwCl (wW g m) H → va_S (gA g) s.heap H locs → Lok g lsC nL ls →
    (∀ (v : Option AV) (m' : Mem) (H' : Heap) (locs' : List Loc) (pc' : Nat) (ls' : Array Slot), Q v m' → RetOK ret v → va_P (gD g) vwCl (wW g m') H' → va_S (gA g) s.heap H' locs' → decode cc pc' = .ok (retI v, 1) →
      W p l e R s mt args below meth c H' locs' cells slots Qw (F0 mt pc' ls' (v.toList.map (cv g)))) →
    W p l e R s mt args below meth c H locs cells slots Qw (F0 mt pc lsC (st.map (cv g)))
def PcC (sc : List Int) (g : Gd) (as : List AV) (m : Mem) : Array Value → State → Prop := fun v U => v = (as.map (cv g)).toArray ∧ va_P (gD g) vwCl (wW g m) U.heap ∧ va_K (gD g) vwCl (gT g) U ∧ Ext sc g U
def QcC (g : Gd) (r : Option AV) (m' : Mem) : Array Value → State → Outcome → State → Prop := fun _ st oc t => oc = .returned (r.map (cv g)) ∧ va_P (gD g) vwCl (wW g m') t.heap ∧ va_F (gA g) st t
def rmd (d : Nat) : Room := { frames := d, cells := 0, slots := 0, locals := 45 * d }
/-- a method's contract: from these arguments and this memory it returns r, with that memory -/
def Call (sc : List Int) (d : Nat) (y : MethodName) (cc : ByteArray) (nL : Nat) (ret : Option FieldType) (as : List AV) (m : Mem) (r : Option AV) (m' : Mem) : Prop :=
  ∀ (l : Launch) (g : Gd), Met l y (.code y cc nL ret :: BW) (rmd d) (PcC sc g as m) (QcC g r m') 0 0 (gA g)
