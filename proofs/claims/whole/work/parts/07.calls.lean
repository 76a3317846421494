/-! calls -/
theorem cat_eq {sc : List Int} {g : Gd} {s : State} (h : Ext sc g s) (v : AV) : (cv g v).category = acat v := by
  rcases v with x | x | x | x
  · rfl
  · rfl
  · exact cv_catR sc h x
  · rfl
theorem cat_sum {sc : List Int} {g : Gd} {s : State} (h : Ext sc g s) (vs : List AV) : ((vs.map (cv g)).map fun v => v.category).sum = (vs.map acat).sum := by
  induction vs with
  | nil => rfl
  | cons v t ih => simp only [List.map_cons, List.sum_cons, ih, cat_eq h v]
theorem PcC_blind (sc : List Int) (g : Gd) (as : List AV) (m : Mem) : FrameBlind (PcC sc g as m) := fun a U f mk q => ⟨q.1, q.2.1, va_K.moved (u := U) (U := U.calling f mk a) (Vm.Alike.refl U.vm) q.2.2.1, Ext.same (s := U) (U := U.calling f mk a) q.2.2.2 rfl rfl⟩
theorem gi_code {y : MethodName} {cc : ByteArray} {nL : Nat} {ret : Option FieldType} (h : Cond.code y cc nL ret ∈ BW) : GoodIn BW (.code y cc nL ret :: BW) := by
  refine bw_good (fun w hw => ?_) BW (fun w hw => hw)
  rcases List.mem_cons.mp hw with rfl | hw
  · exact h
  · exact hw
/-- a method of the tables: its code, its class, how many arguments (the receiver apart) -/
def MK (y : MethodName) (cc : ByteArray) (nL : Nat) (ret : Option FieldType) (n : Nat) : Prop := Cond.code y cc nL ret ∈ BW ∧ Cond.initialized y.cls ∈ BW ∧ (y.cls ≠ "java/lang/invoke/MethodHandle" ∧ y.cls ≠ "java/lang/invoke/VarHandle") ∧ (parseMethodDescriptor y.desc).map (fun d => d.parameters.length) = some n ∧ nL ≤ 20
def MV (y : MethodName) : Prop := Cond.instanceMethod y ∈ BW ∧ Cond.selects y.cls y y ∈ BW
def MS (y : MethodName) : Prop := Cond.static y ∈ BW
def LK (o : String) (idx : Nat) (y : MethodName) : Prop := Cond.methodLink o idx y ∈ BW ∨ ∃ h, Cond.methodLinkNest o idx y h ∈ NW
def RV (y : MethodName) (b : Int) : Prop := (∃ (ci : Nat) (q : vw_C), IsC b ci ∧ ci < 9 ∧ vwCl[ci]? = some q ∧ q.1 = y.cls) ∨ (b = -5 ∧ y.cls = RJ0)
section XC
variable {sc : List Int} {o : String} {cc : ByteArray} {nL : Nat} {ret : Option FieldType} {d pc pc2 : Nat} {ls st : List AV} {m : Mem} {Q : Option AV → Mem → Prop}
theorem x_behind {p : Program} {l : Launch} {e : Env} {R : Room} {s : State} {mt : MethodId} {args : Array Value} {below : List Frame} {meth : Method} {c : Code} {g : Gd} {H : Heap} {locs : List Loc} {lsC : Array Slot} {cells slots : Nat} {Qw : State → Prop} {r : Option AV} {m' : Mem} {st0 rest : List Value} {a : Array Value}
    (hr : va_Run p l e R s mt args below meth c H locs cells slots 0 0 (F0 mt pc lsC st0) rest (QcC g r m' a) (gA g)) (hS : va_S (gA g) s.heap H locs)
    (kk : ∀ (H1 : Heap) (locs1 : List Loc), va_P (gD g) vwCl (wW g m') H1 → va_S (gA g) s.heap H1 locs1 → W p l e R s mt args below meth c H1 locs1 cells slots Qw (F0 mt (pc + 3) lsC ((r.map (cv g)).toList ++ rest))) : W p l e R s mt args below meth c H locs cells slots Qw (F0 mt pc lsC st0) := by
  intro T hT X
  obtain ⟨v, st₀, t, T', L, h0, X', hL, e1, e2, ⟨hv, hp, hz, hk⟩, st⟩ := hr T hT X
  cases hv
  rw [h0] at hz hk
  obtain ⟨t2, a1, b1⟩ := kk T'.heap (locs ++ L) (by rw [e1]; exact hp) ⟨Nat.le_trans hS.1 (by rw [e1]; exact hz), fun q h1 h2 => by rw [e1, hk q (Nat.lt_of_lt_of_le h1 hS.1) h2]; exact hS.2.1 q h1 h2, fun q hq => by
      rcases List.mem_append.mp hq with h | h
      · exact hS.2.2 q h
      · exact hL q h⟩ T' rfl X'
  exact ⟨t2, st t2 a1, b1⟩
theorem x_callV {y : MethodName} {cc' : ByteArray} {nL' n d' idx : Nat} {ret' : Option FieldType} {as rest : List AV} {b : Int} {r : Option AV} {m' : Mem} (hM : Call sc d' y cc' nL' ret' (aR b :: as) m r m') (hk : MK y cc' nL' ret' n) (hv : MV y) (hl : LK o idx y) (hb : RV y b) (hdd : d' + 1 ≤ d) (hn : as.length = n) (hst : st = as.reverse ++ aR b :: rest) (hr : (rest.map acat).sum ≤ 8) (hd : decode cc pc = .ok (.invokevirtual idx, 3)) (hp : pc + 3 = pc2)
    (k : Sim sc o cc nL ret d pc2 ls (r.toList ++ rest) m' Q) : Sim sc o cc nL ret d pc ls st m Q := by
  subst hp
  subst hst
  intro p l e R s mt args below meth c g H locs lsC cells slots Qw hC hP hS hL hK
  have hE := hC.2.2.2.2.2.2.2.2.1
  have hts := hC.2.2.2.2.1
  have hKs := hC.2.2.2.2.2.2.2.1
  obtain ⟨q1, q2, q3, q4, q5⟩ := hk
  obtain ⟨f1, f2, f3, f4⟩ := hC.2.2.2.2.2.2.2.2.2
  have F : CallFix p mt c cc nL s args BW o := ⟨hC.1, hC.2.1, hC.2.2.1, hC.2.2.2.1, hts⟩
  have hb1 : cv g (aR b) = .ref (gad g b) := by
    rcases hb with ⟨ci, q, h1, -⟩ | ⟨h1, -⟩
    · rw [cv_R g b h1.1, gad, if_neg (by have := h1.1; omega)]
    · subst h1; rw [cv_X g (-5) (by omega) (by omega), gad, if_pos (by omega)]
  have hrecv : ∃ cell : Cell, H[gad g b]? = some cell ∧ cell.vm.isStatics = false ∧ s.vm.findClass y.cls = some cell.cls := by
    rcases hb with ⟨ci, q, h1, h9, h2, h3⟩ | ⟨h1, h2⟩
    · have hg := wW_get g m (at_nat h1).1
      rw [eC_obj g m h1 h9] at hg
      rw [← h3, gad, if_neg (by have := h1.1; omega)]
      exact va_recv hKs hP h2 hg
    · subst h1
      rw [h2, gad, if_pos (by omega)]
      exact vk_recv hE.2.2.2.1.2 Nat.zero_lt_one hS
  have hPc : ∀ U : State, U.heap = H → s.WarmedH U.vm → PcC sc g (aR b :: as) m (Value.ref (gad g b) :: as.map (cv g)).toArray U := fun U hU hW => ⟨by rw [← hb1]; rfl, by rw [hU]; exact hP, va_K.moved hW.alike hKs, hE.call hS hU hW⟩
  have hstk : ((as.reverse ++ aR b :: rest).map (cv g)) = (as.map (cv g)).reverse ++ Value.ref (gad g b) :: rest.map (cv g) := by
    rw [List.map_append, List.map_reverse, List.map_cons, hb1]
  have hW8 : 2 * (F0 mt pc lsC ((as.reverse ++ aR b :: rest).map (cv g))).monitorRoom + ((rest.map (cv g)).map fun v => v.category).sum ≤ 8 := lv_room (by rw [cat_sum hE]; exact hr)
  have hroom : (rmd d').frames + 1 ≤ R.frames ∧ 8 + (nL' + 11) + (rmd d').locals ≤ R.locals := ⟨by show d' + 1 ≤ _; omega, by show 8 + (nL' + 11) + 45 * d' ≤ _; omega⟩
  have hlen : ∀ sig, parseMethodDescriptor y.desc = some sig → n = sig.parameters.length := fun sig h => by
    rw [h] at q4
    exact (Option.some.inj q4).symm
  refine x_behind (r := r) (m' := m') (rest := rest.map (cv g)) (a := (Value.ref (gad g b) :: as.map (cv g)).toArray) ?_ hS (fun H1 locs1 hP1 hS1 => ?_)
  · rcases hl with hl | ⟨h, hl⟩
    · exact va_runV (As := as.map (cv g)) F (hM l g) ⟨⟨rfl, rfl, hroom.1, hroom.2, pay_in hts (gi_code q1), List.mem_cons_self, hts _ q1, hts _ q2, q3, hlen, hts _ hl⟩, hts _ hv.1, hts _ hv.2⟩ ⟨PcC_blind sc g _ m, hrecv, hPc⟩ rfl (by rw [List.length_map]; exact hn) hL.1 hstk hW8 hd ⟨f3, f4⟩
    · exact va_runVN (As := as.map (cv g)) F (hM l g) ⟨⟨⟨rfl, rfl, hroom.1, hroom.2, pay_in hts (gi_code q1), List.mem_cons_self⟩, hts _ q1, hts _ q2, q3, hlen, nw_use hl (hE.1 _ hl)⟩, hts _ hv.1, hts _ hv.2⟩ ⟨PcC_blind sc g _ m, hrecv, hPc⟩ rfl (by rw [List.length_map]; exact hn) hL.1 hstk hW8 hd ⟨f3, f4⟩
  · have k := k p l e R s mt args below meth c g H1 locs1 lsC cells slots Qw hC hP1 hS1 hL hK
    rw [List.map_append] at k
    rw [show (r.map (cv g)).toList = r.toList.map (cv g) by cases r <;> rfl]
    exact k
theorem x_callS {y : MethodName} {cc' : ByteArray} {nL' n d' idx : Nat} {ret' : Option FieldType} {as rest : List AV} {r : Option AV} {m' : Mem} (hM : Call sc d' y cc' nL' ret' as m r m') (hk : MK y cc' nL' ret' n) (hv : MS y) (hl : LK o idx y) (hdd : d' + 1 ≤ d) (hn : as.length = n) (hst : st = as.reverse ++ rest) (hr : (rest.map acat).sum ≤ 8) (hd : decode cc pc = .ok (.invokestatic idx, 3)) (hp : pc + 3 = pc2)
    (k : Sim sc o cc nL ret d pc2 ls (r.toList ++ rest) m' Q) : Sim sc o cc nL ret d pc ls st m Q := by
  subst hp
  subst hst
  intro p l e R s mt args below meth c g H locs lsC cells slots Qw hC hP hS hL hK
  have hE := hC.2.2.2.2.2.2.2.2.1
  have hts := hC.2.2.2.2.1
  have hKs := hC.2.2.2.2.2.2.2.1
  obtain ⟨q1, q2, q3, q4, q5⟩ := hk
  obtain ⟨f1, f2, f3, f4⟩ := hC.2.2.2.2.2.2.2.2.2
  have F : CallFix p mt c cc nL s args BW o := ⟨hC.1, hC.2.1, hC.2.2.1, hC.2.2.2.1, hts⟩
  have hPc : ∀ U : State, U.heap = H → s.WarmedH U.vm → PcC sc g as m (as.map (cv g)).toArray U := fun U hU hW => ⟨rfl, by rw [hU]; exact hP, va_K.moved hW.alike hKs, hE.call hS hU hW⟩
  have hstk : ((as.reverse ++ rest).map (cv g)) = (as.map (cv g)).reverse ++ rest.map (cv g) := by
    rw [List.map_append, List.map_reverse]
  have hW8 : 2 * (F0 mt pc lsC ((as.reverse ++ rest).map (cv g))).monitorRoom + ((rest.map (cv g)).map fun v => v.category).sum ≤ 8 := lv_room (by rw [cat_sum hE]; exact hr)
  have hroom : (rmd d').frames + 1 ≤ R.frames ∧ 8 + (nL' + 11) + (rmd d').locals ≤ R.locals := ⟨by show d' + 1 ≤ _; omega, by show 8 + (nL' + 11) + 45 * d' ≤ _; omega⟩
  have hlen : ∀ sig, parseMethodDescriptor y.desc = some sig → n = sig.parameters.length := fun sig h => by
    rw [h] at q4
    exact (Option.some.inj q4).symm
  refine x_behind (r := r) (m' := m') (rest := rest.map (cv g)) (a := (as.map (cv g)).toArray) ?_ hS (fun H1 locs1 hP1 hS1 => ?_)
  · rcases hl with hl | ⟨h, hl⟩
    · exact va_runS (As := as.map (cv g)) F (hM l g) ⟨⟨rfl, rfl, hroom.1, hroom.2, pay_in hts (gi_code q1), List.mem_cons_self, hts _ q1, hts _ q2, q3, hlen, hts _ hl⟩, hts _ hv⟩ ⟨PcC_blind sc g _ m, hPc⟩ rfl (by rw [List.length_map]; exact hn) hL.1 hstk hW8 hd ⟨f3, f4⟩
    · exact va_runSN (As := as.map (cv g)) F (hM l g) ⟨⟨⟨rfl, rfl, hroom.1, hroom.2, pay_in hts (gi_code q1), List.mem_cons_self⟩, hts _ q1, hts _ q2, q3, hlen, nw_use hl (hE.1 _ hl)⟩, hts _ hv, trivial⟩ ⟨PcC_blind sc g _ m, hPc⟩ rfl (by rw [List.length_map]; exact hn) hL.1 hstk hW8 hd ⟨f3, f4⟩
  · have k := k p l e R s mt args below meth c g H1 locs1 lsC cells slots Qw hC hP1 hS1 hL hK
    rw [List.map_append] at k
    rw [show (r.map (cv g)).toList = r.toList.map (cv g) by cases r <;> rfl]
    exact k
/-! arraycopy -/
def AC (o : String) (idx : Nat) : Prop := Cond.methodLink o idx arraycopyName ∈ BW
def ACW : Prop := Cond.native arraycopyName ∈ BW ∧ Cond.static arraycopyName ∈ BW ∧ Cond.initialized "java/lang/System" ∈ BW
theorem i32_nn {x : Int} (h : 0 ≤ x ∧ x < 2147483648) : ¬ Int32.ofInt x < 0 := by
  rw [i32_0, i32_lt ⟨by omega, h.2⟩ ⟨by omega, by omega⟩]
  omega
theorem cpy_eq (m : Mem) {f : Nat → Int32} {src : Int → Int} {sp dst dp n : Int} (hf : ∀ j : Nat, sp ≤ j → (j : Int) < sp + n → f j = Int32.ofInt (src j)) (h1 : 0 ≤ sp ∧ sp < 2147483648) (h2 : 0 ≤ dp ∧ dp < 2147483648) (h3 : 0 ≤ n ∧ n < 2147483648) : (va_cpy f (fun j : Nat => Int32.ofInt (m dst j)) (Int32.ofInt sp).toNatClampNeg (Int32.ofInt dp).toNatClampNeg (Int32.ofInt n).toNatClampNeg) = fun j : Nat => Int32.ofInt (acp m src sp dst dp n dst j) := by
  funext j
  rw [i32_clamp h1, i32_clamp h2, i32_clamp h3]
  unfold va_cpy acp
  by_cases h : dp.toNat ≤ j ∧ j < dp.toNat + n.toNat
  · rw [if_pos h, if_pos ⟨rfl, by omega, by omega⟩, hf _ (by omega) (by omega)]
    congr 2
    omega
  · rw [if_neg h, if_neg (fun q => h ⟨by omega, by omega⟩)]
theorem eC_acp (g : Gd) (m : Mem) (src : Int → Int) (sp dst dp n : Int) {q : Nat} (h : (q : Int) ≠ dst) : eC g (acp m src sp dst dp n) q = eC g m q := by
  have e : ∀ k : Int, acp m src sp dst dp n q k = m q k := fun k => if_neg (fun z => h z.1)
  have e2 : fVal g (acp m src sp dst dp n) q = fVal g m q := by funext i; simp only [fVal, e]
  simp only [eC, e, e2]
theorem x_acopy {idx : Nat} {src dst sp dp n : Int} (hl : AC o idx) (hw : ACW) (hs : IsC src 100) (ht : IsC dst 100) (h1 : 0 ≤ sp) (h2 : 0 ≤ dp) (h3 : 0 ≤ n) (h4 : sp + n ≤ alen src) (h5 : dp + n ≤ alen dst) (hdd : 1 ≤ d) (hr : (st.map acat).sum ≤ 8) (hd : decode cc pc = .ok (.invokestatic idx, 3)) (hp : pc + 3 = pc2)
    (k : Sim sc o cc nL ret d pc2 ls st (acp m (m src) sp dst dp n) Q) : Sim sc o cc nL ret d pc ls (aI n :: aI dp :: aR dst :: aI sp :: aR src :: st) m Q := by
  subst hp
  intro p l e R s mt args below meth c g H locs lsC cells slots Qw hC hP hS hL hK
  have hE := hC.2.2.2.2.2.2.2.2.1
  have hts := hC.2.2.2.2.1
  have hKs := hC.2.2.2.2.2.2.2.1
  obtain ⟨f1, f2, f3, f4⟩ := hC.2.2.2.2.2.2.2.2.2
  show W p l e R s mt args below meth c H locs cells slots Qw (F0 mt pc lsC (.int (Int32.ofInt n) :: .int (Int32.ofInt dp) :: cv g (aR dst) :: .int (Int32.ofInt sp) :: cv g (aR src) :: st.map (cv g)))
  rw [cv_R g dst ht.1, cv_R g src hs.1]
  have hg0 := wW_get g m (at_nat hs).1
  rw [eC_int g m hs] at hg0
  have hg1 := wW_get g m (at_nat ht).1
  rw [eC_int g m ht] at hg1
  have b0 := alen_lt src
  have b1 := alen_lt dst
  have z1 : 0 ≤ sp ∧ sp < 2147483648 := ⟨h1, by omega⟩
  have z2 : 0 ≤ dp ∧ dp < 2147483648 := ⟨h2, by omega⟩
  have z3 : 0 ≤ n ∧ n < 2147483648 := ⟨h3, by omega⟩
  refine va_copyi hC.1 hC.2.1 (hC.2.2.1.trans hL.1.symm) hC.2.2.2.1 (hts _ hl) (hts _ hw.1) (hts _ hw.2.1) (hts _ hw.2.2) hKs hP (wW_D g m) hS _ _ 0 0 (ty := .int) hg0 hg1 rfl rfl rfl (i32_nn z1) (i32_nn z2) (i32_nn z3)
    (by rw [i32_clamp z1, i32_clamp z3]; unfold alen at h4; omega) (by rw [i32_clamp z2, i32_clamp z3]; unfold alen at h5; omega) (fun _ _ => rfl) (by omega) (by rw [cat_sum hE]; show _ + (7 + 11) ≤ _; omega) hd (fun H1 locs1 hP1 hD1 hS1 => ?_)
  rw [cpy_eq m (src := m src) (fun j _ _ => rfl) z1 z2 z3] at hP1
  have e9 : (wW g m).set dst.toNat (g.1 + dst.toNat, eC g (acp m (m src) sp dst dp n) dst.toNat) = wW g (acp m (m src) sp dst dp n) := wW_set g m _ (at_nat ht).1 (fun q hq => eC_acp g m _ _ _ _ _ (fun e => hq (by omega)))
  rw [eC_int g (acp m (m src) sp dst dp n) ht] at e9
  rw [e9] at hP1
  exact k p l e R s mt args below meth c g H1 locs1 lsC cells slots Qw hC hP1 hS1 hL hK
/-- from a table that stood before -/
theorem x_xcopy {idx : Nat} {src dst sp dp n : Int} (hl : AC o idx) (hw : ACW) (hs : src = -2 ∨ src = -3 ∨ src = -4 ∨ src = -7) (ht : IsC dst 100) (h1 : 0 ≤ sp) (h2 : 0 ≤ dp) (h3 : 0 ≤ n) (h4 : sp + n ≤ (xt sc src).length) (h5 : dp + n ≤ alen dst) (hdd : 1 ≤ d) (hr : (st.map acat).sum ≤ 8) (hd : decode cc pc = .ok (.invokestatic idx, 3)) (hp : pc + 3 = pc2)
    (k : Sim sc o cc nL ret d pc2 ls st (acp m (fun j => (xt sc src).getD j.toNat 0) sp dst dp n) Q) : Sim sc o cc nL ret d pc ls (aI n :: aI dp :: aR dst :: aI sp :: aR src :: st) m Q := by
  subst hp
  intro p l e R s mt args below meth c g H locs lsC cells slots Qw hC hP hS hL hK
  have hE := hC.2.2.2.2.2.2.2.2.1
  have hts := hC.2.2.2.2.1
  have hKs := hC.2.2.2.2.2.2.2.1
  obtain ⟨f1, f2, f3, f4⟩ := hC.2.2.2.2.2.2.2.2.2
  show W p l e R s mt args below meth c H locs cells slots Qw (F0 mt pc lsC (.int (Int32.ofInt n) :: .int (Int32.ofInt dp) :: cv g (aR dst) :: .int (Int32.ofInt sp) :: cv g (aR src) :: st.map (cv g)))
  rw [cv_R g dst ht.1, cv_X g src (by omega) (by omega)]
  have hg1 := wW_get g m (at_nat ht).1
  rw [eC_int g m ht] at hg1
  have hX := hE.2.2.1 src hs
  have b1 := alen_lt dst
  have hlen : (xt sc src).length < 2147483648 := by
    have := hE.2.2.2.2.2
    rcases hs with rfl | rfl | rfl | rfl
    · exact Nat.le_of_ble_eq_true rfl
    · exact Nat.le_of_ble_eq_true rfl
    · exact Nat.le_of_ble_eq_true rfl
    · exact this
  have z1 : 0 ≤ sp ∧ sp < 2147483648 := ⟨h1, by omega⟩
  have z2 : 0 ≤ dp ∧ dp < 2147483648 := ⟨h2, by omega⟩
  have z3 : 0 ≤ n ∧ n < 2147483648 := ⟨h3, by omega⟩
  have n1 : (Int32.ofInt sp).toInt = sp := i32_of ⟨by omega, z1.2⟩
  have n2 : (Int32.ofInt dp).toInt = dp := i32_of ⟨by omega, z2.2⟩
  have n3 : (Int32.ofInt n).toInt = n := i32_of ⟨by omega, z3.2⟩
  intro T hT X
  obtain ⟨scr, hs1, hs2, hs3, hs4, -, hs5, hs7⟩ := hX
  have hc0 : H[g.2.1 src]? = some scr := by rw [hS.2.1 _ (Array.getElem?_eq_some_iff.mp hs1).1 hs7]; exact hs1
  have hc1 : H[g.1 + dst.toNat]? = some (vp_cell g.2.2.2.1.1 ((sk dst.toNat).2.1, .inl (fun j : Nat => Int32.ofInt (m dst j)))) := hP _ _ hg1
  obtain ⟨hs6, k0, hk0, cm0, hkk0⟩ := hs2
  obtain ⟨-, k1, hk1, cm1, hkk1⟩ := (hKs.2 0 (g.2.2.2.1.1, .int) rfl).1 (sk dst.toNat).2.1 (fun j => .int (Int32.ofInt (m dst j)))
  obtain ⟨vm', X', step⟩ := X.arraycopy hC.1 hC.2.2.2.1 (hts _ hl) (hts _ hw.1) (hts _ hw.2.1) (hts _ hw.2.2) (src := g.2.1 src) (dst := g.1 + dst.toNat) (cs := scr) (cd := vp_cell g.2.2.2.1.1 ((sk dst.toNat).2.1, .inl (fun j : Nat => Int32.ofInt (m dst j)))) (srcPos := Int32.ofInt sp) (destPos := Int32.ofInt dp) (n := Int32.ofInt n) (by rw [hT]; exact hc0) (by rw [hT]; exact hc1)
    hs6 (fun _ h => by cases h) hs3 (fun h => by cases h) hk0 hk1 hkk0 hkk1 (by simp [refKind]) (i32_nn z1) (i32_nn z2) (i32_nn z3)
    (by rw [n1, n3]; omega)
    (by rw [n2, n3]; show ¬ _ > ((arrV g.2.2.2.1.1 (sk dst.toNat).2.1 (fun j => .int (Int32.ofInt (m dst j)))).slots.size : Int); rw [arrV_size]; unfold alen at h5; omega)
    (fun vm₁ _ i hi => by
      have hi : i < n.toNat := by rw [i32_clamp z3] at hi; exact hi
      have e : scr.slots.getD ((Int32.ofInt sp).toNatClampNeg + i) .null = .int (Int32.ofInt ((xt sc src).getD ((Int32.ofInt sp).toNatClampNeg + i) 0)) := by
        rw [Array.getD_eq_getD_getElem?, hs5 _ (by rw [i32_clamp z1]; omega)]
        rfl
      exact ⟨by rw [e]; rfl, by rw [e]; exact trivial⟩)
    (g := F0 mt pc lsC (.int (Int32.ofInt n) :: .int (Int32.ofInt dp) :: .ref (g.1 + dst.toNat) :: .int (Int32.ofInt sp) :: .ref (g.2.1 src) :: st.map (cv g))) rfl (by rw [hC.2.2.1]; exact hL.1) (rest := st.map (cv g)) rfl (by rw [hC.2.1]; exact hd) (by omega) (by rw [cat_sum hE]; show 2 * 0 + _ + (7 + 11) ≤ _; omega)
  have e1 : copied scr (vp_cell g.2.2.2.1.1 ((sk dst.toNat).2.1, .inl (fun j : Nat => Int32.ofInt (m dst j)))) (Int32.ofInt sp) (Int32.ofInt dp) (Int32.ofInt n) = vp_cell g.2.2.2.1.1 ((sk dst.toNat).2.1, .inl (fun j : Nat => Int32.ofInt (acp m (fun j => (xt sc src).getD j.toNat 0) sp dst dp n dst j))) := by
    rw [← cpy_eq m (f := fun j => Int32.ofInt ((xt sc src).getD j 0)) (src := fun j => (xt sc src).getD j.toNat 0) (fun j _ _ => rfl) z1 z2 z3]
    exact va_copiedX (fun z => .int z) scr g.2.2.2.1.1 (fun j => Int32.ofInt ((xt sc src).getD j 0)) (fun j : Nat => Int32.ofInt (m dst j)) hs5 (by rw [i32_clamp z1, i32_clamp z3]; omega)
  rw [e1] at X' step
  have e9 : (wW g m).set dst.toNat (g.1 + dst.toNat, eC g (acp m (fun j => (xt sc src).getD j.toNat 0) sp dst dp n) dst.toNat) = wW g (acp m (fun j => (xt sc src).getD j.toNat 0) sp dst dp n) := wW_set g m _ (at_nat ht).1 (fun q hq => eC_acp g m _ _ _ _ _ (fun e => hq (by omega)))
  rw [eC_int g (acp m (fun j => (xt sc src).getD j.toNat 0) sp dst dp n) ht] at e9
  have hl9 : g.1 + dst.toNat < H.size := (Array.getElem?_eq_some_iff.mp hc1).1
  generalize hnew : vp_cell g.2.2.2.1.1 ((sk dst.toNat).2.1, Sum.inl (fun j : Nat => Int32.ofInt (acp m (fun j => (xt sc src).getD j.toNat 0) sp dst dp n dst j))) = newc at *
  have hheap : ((T.setVm vm').setCell (g.1 + dst.toNat) newc).heap = H.setIfInBounds (g.1 + dst.toNat) newc := by rw [← hT]; rfl
  have oq : ∀ q : Nat, q ≠ g.1 + dst.toNat → (H.setIfInBounds (g.1 + dst.toNat) newc)[q]? = H[q]? := fun q hq => by simp [Array.getElem?_setIfInBounds, Ne.symm hq]
  have hP1 := hP.set (wW_D g m) hg1 (e := .inl (g.2.2.2.1.1, (sk dst.toNat).2.1, .inl (fun j : Nat => Int32.ofInt (acp m (fun j => (xt sc src).getD j.toNat 0) sp dst dp n dst j)))) (show (H.setIfInBounds (g.1 + dst.toNat) newc)[g.1 + dst.toNat]? = some _ by rw [hnew]; simp [Array.getElem?_setIfInBounds, hl9]) oq
  rw [e9] at hP1
  obtain ⟨t, a1, b1'⟩ := k p l e R s mt args below meth c g _ (locs ++ _) lsC cells slots Qw hC hP1 ⟨by simp; exact hS.1, fun q g1 g2 => by
      rw [oq q (fun e => g2 (by rw [e]; exact Nat.le_add_right _ _))]
      exact hS.2.1 q g1 g2, fun q hq => by
      rcases List.mem_append.mp hq with h | h
      · exact hS.2.2 q h
      · obtain ⟨z, -, hz⟩ := List.mem_map.mp h
        rw [← hz]
        exact Nat.le_add_right _ _⟩ hL hK _ hheap X'
  exact ⟨t, step t a1, b1'⟩
end XC
/-! a contract out of the frame -/
def entF (as : List AV) : List AV := as.flatMap (fun v => if isJ v = true then [v, aU] else [v])
def entL (as : List AV) (n : Nat) : List AV := entF as ++ List.replicate (n - (entF as).length) aU
theorem isJ_cat (v : AV) : acat v = 2 ↔ isJ v = true := by
  rcases v with x | x | x | x <;> simp [acat, isJ]
theorem ent_len {sc : List Int} {g : Gd} {s : State} (h : Ext sc g s) (as : List AV) : (lg_sl (as.map (cv g))).length = (entF as).length := by
  induction as with
  | nil => rfl
  | cons v t ih =>
    show ((if (cv g v).category = 2 then [Slot.val (cv g v), Slot.second] else [Slot.val (cv g v)]) ++ lg_sl (t.map (cv g))).length = ((if isJ v = true then [v, aU] else [v]) ++ entF t).length
    rw [cat_eq h v]
    by_cases hj : isJ v = true
    · rw [if_pos ((isJ_cat v).mpr hj), if_pos hj]; simp [ih]
    · rw [if_neg (fun q => hj ((isJ_cat v).mp q)), if_neg hj]; simp [ih]
theorem ent_at {sc : List Int} {g : Gd} {s : State} (h : Ext sc g s) (as : List AV) : ∀ (k i : Nat) (v : AV), (entF as)[i]? = some v → v ≠ aU → (k + i, cv g v) ∈ lv_args k (as.map (cv g)) := by
  induction as with
  | nil => intro k i v hv; simp [entF] at hv
  | cons a t ih =>
    intro k i v hv hu
    show (k + i, cv g v) ∈ (k, cv g a) :: lv_args (if (cv g a).category = 2 then k + 2 else k + 1) (t.map (cv g))
    replace hv : ((if isJ a = true then [a, aU] else [a]) ++ entF t)[i]? = some v := hv
    rw [cat_eq h a]
    by_cases hj : isJ a = true
    · rw [if_pos hj] at hv
      rw [if_pos ((isJ_cat a).mpr hj)]
      match i, hv with
      | 0, hv => cases hv; exact List.mem_cons_self
      | 1, hv => cases hv; exact absurd rfl hu
      | i + 2, hv =>
        have h2 : (entF t)[i]? = some v := by simpa using hv
        have := ih (k + 2) i v h2 hu
        rw [show k + (i + 2) = k + 2 + i by omega]
        exact List.mem_cons_of_mem _ this
    · rw [if_neg hj] at hv
      rw [if_neg (fun q => hj ((isJ_cat a).mp q))]
      match i, hv with
      | 0, hv => cases hv; exact List.mem_cons_self
      | i + 1, hv =>
        have h2 : (entF t)[i]? = some v := by simpa using hv
        have := ih (k + 1) i v h2 hu
        rw [show k + (i + 1) = k + 1 + i by omega]
        exact List.mem_cons_of_mem _ this
theorem ent_ok {sc : List Int} {g : Gd} {s : State} (h : Ext sc g s) (as : List AV) {nL : Nat} (hn : (entF as).length ≤ nL) : Lok g ((lg_sl (as.map (cv g)) ++ List.replicate (nL - (lg_sl (as.map (cv g))).length) Slot.unset).toArray) nL (entL as nL) := by
  have hl := lv_entry (as.map (cv g)) (n := nL) (by rw [ent_len h]; exact hn)
  refine ⟨hl.1, hl.2.1, by simp [entL]; omega, fun i v hv hu => ?_⟩
  have hi : (entF as)[i]? = some v := by
    unfold entL at hv
    by_cases hi : i < (entF as).length
    · rw [List.getElem?_append_left hi] at hv; exact hv
    · rw [List.getElem?_append_right (by omega), List.getElem?_replicate] at hv
      by_cases hz : i - (entF as).length < nL - (entF as).length
      · rw [if_pos hz] at hv; exact absurd (Option.some.inj hv).symm hu
      · rw [if_neg hz] at hv; cases hv
  have := ent_at h as 0 i v hi hu
  rw [Nat.zero_add] at this
  exact hl.2.2 _ this
theorem call_of {sc : List Int} {d nL : Nat} {y : MethodName} {cc : ByteArray} {ret : Option FieldType} {as ls : List AV} {m m' : Mem} {r : Option AV} {o : String} (hy : plainFor y = true) (ho : y.cls = o) (hn : (entF as).length ≤ nL) (hl : entL as nL = ls)
    (h : Sim sc o cc nL ret d 0 ls [] m (fun v m2 => v = r ∧ m2 = m')) : Call sc d y cc nL ret as m r m' := by
  subst ho
  subst hl
  intro l g
  refine va_MetF (cc := cc) (maxL := nL) (ret := ret) hy rfl ?_
  intro p e s mt args below meth c s₁ B hml hv
  obtain ⟨rfl, hP, hK, hE⟩ := hv
  have hts := atoms_spec (ws := .code y cc nL ret :: BW) B.pre
  rw [lg_entry_eq]
  have hC : Ctx sc y.cls cc nL ret d p e (headSpec (.code y cc nL ret :: BW) (rmd d)).room s mt ((as.map (cv g)).toArray) meth c g 0 0 := ⟨B.exec, B.bytes, hml, findClass_of_methodNamed B.named, fun w hw => hts w (List.mem_cons_of_mem _ hw), B.notSynchronized, B.returns, hK, hE, Nat.le_refl _, Nat.le_refl _, Nat.zero_le _, Nat.zero_le _⟩
  refine h p l e _ s mt _ below meth c g s.heap [] _ 0 0 _ hC hP va_S.rf (ent_ok hE as hn) ?_
  intro v m2 H' locs' pc' ls' hq hr hP' hS' hd
  obtain ⟨rfl, rfl⟩ := hq
  have hq : ∀ (w : Option Value), w = v.map (cv g) → ∀ t : State, t.heap = H' → s.WarmedH t.vm → QcC g v m2 ((as.map (cv g)).toArray) s (.returned w) t := fun w hw t ht _ => ⟨by rw [hw], by rw [ht]; exact hP', hS'.F ht⟩
  match v, hr, hd, hq with
  | none, hr, hd, hq => exact W.vret B.exec B.bytes (B.returns.trans hr) (hq none rfl) hS'.2.2 hd B.notSynchronized
  | some (.inl x), hr, hd, hq =>
    obtain ⟨t, h1, h2⟩ := hr
    exact W.zret B.exec B.bytes (B.returns.trans h1) h2 (hq (some (.int (Int32.ofInt x))) rfl) hS'.2.2 hd B.notSynchronized
  | some (.inr (.inl x)), hr, hd, hq => exact W.lret B.exec B.bytes (B.returns.trans hr) (hq (some (.long (Int64.ofInt x))) rfl) hS'.2.2 hd B.notSynchronized
  | some (.inr (.inr (.inl a))), hr, hd, hq =>
    obtain ⟨h0, t, h1⟩ := hr
    have e : cv g (aR a) = .ref (g.1 + a.toNat) := cv_R g a h0
    show W _ _ _ _ _ _ _ _ _ _ _ _ _ _ _ (F0 mt pc' ls' [cv g (aR a)])
    rw [e]
    exact W.aret B.exec B.bytes (B.returns.trans h1) (Or.inr ⟨t, rfl⟩) (Or.inr ⟨_, rfl⟩) (hq (some (.ref (g.1 + a.toNat))) (by rw [← e]; rfl)) hS'.2.2 hd B.notSynchronized
  | some (.inr (.inr (.inr _))), hr, hd, hq => exact hr.elim
