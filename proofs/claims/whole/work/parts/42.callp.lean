/-! contracts by what comes out: P of the answer and the memory behind -/
def QcP (g : Gd) (ret : Option FieldType) (P : Option AV → Mem → Prop) : Array Value → State → Outcome → State → Prop := fun _ st oc t => ∃ (r : Option AV) (m' : Mem), P r m' ∧ RetOK ret r ∧ oc = .returned (r.map (cv g)) ∧ va_P (gD g) vwCl (wW g m') t.heap ∧ va_F (gA g) st t
def CallP (sc : List Int) (d : Nat) (y : MethodName) (cc : ByteArray) (nL : Nat) (ret : Option FieldType) (as : List AV) (m : Mem) (P : Option AV → Mem → Prop) : Prop :=
  ∀ (l : Launch) (g : Gd), Met l y (.code y cc nL ret :: BW) (rmd d) (PcC sc g as m) (QcP g ret P) 0 0 (gA g)
section XP
variable {sc : List Int} {o : String} {cc : ByteArray} {nL : Nat} {ret : Option FieldType} {d pc pc2 : Nat} {ls st : List AV} {m : Mem} {Q : Option AV → Mem → Prop}
theorem x_behindP {p : Program} {l : Launch} {e : Env} {R : Room} {s : State} {mt : MethodId} {args : Array Value} {below : List Frame} {meth : Method} {c : Code} {g : Gd} {H : Heap} {locs : List Loc} {lsC : Array Slot} {cells slots : Nat} {Qw : State → Prop} {ret2 : Option FieldType} {P : Option AV → Mem → Prop} {st0 rest : List Value} {a : Array Value}
    (hr : va_Run p l e R s mt args below meth c H locs cells slots 0 0 (F0 mt pc lsC st0) rest (QcP g ret2 P a) (gA g)) (hS : va_S (gA g) s.heap H locs)
    (kk : ∀ (r : Option AV) (m' : Mem), P r m' → RetOK ret2 r → ∀ (H1 : Heap) (locs1 : List Loc), va_P (gD g) vwCl (wW g m') H1 → va_S (gA g) s.heap H1 locs1 → W p l e R s mt args below meth c H1 locs1 cells slots Qw (F0 mt (pc + 3) lsC ((r.map (cv g)).toList ++ rest))) : W p l e R s mt args below meth c H locs cells slots Qw (F0 mt pc lsC st0) := by
  intro T hT X
  obtain ⟨v, st₀, t, T', L, h0, X', hL, e1, e2, ⟨r, m', hpp, hro, hv, hp, hz, hk⟩, st⟩ := hr T hT X
  cases hv
  rw [h0] at hz hk
  obtain ⟨t2, a1, b1⟩ := kk r m' hpp hro T'.heap (locs ++ L) (by rw [e1]; exact hp) ⟨Nat.le_trans hS.1 (by rw [e1]; exact hz), fun q h1 h2 => by rw [e1, hk q (Nat.lt_of_lt_of_le h1 hS.1) h2]; exact hS.2.1 q h1 h2, fun q hq => by
      rcases List.mem_append.mp hq with h | h
      · exact hS.2.2 q h
      · exact hL q h⟩ T' rfl X'
  exact ⟨t2, st t2 a1, b1⟩
theorem x_callVP {y : MethodName} {cc' : ByteArray} {nL' n d' idx : Nat} {ret' : Option FieldType} {as rest : List AV} {b : Int} {P : Option AV → Mem → Prop} (hM : CallP sc d' y cc' nL' ret' (aR b :: as) m P) (hk : MK y cc' nL' ret' n) (hv : MV y) (hl : LK o idx y) (hb : RV y b) (hdd : d' + 1 ≤ d) (hn : as.length = n) (hst : st = as.reverse ++ aR b :: rest) (hr : (rest.map acat).sum ≤ 8) (hd : decode cc pc = .ok (.invokevirtual idx, 3)) (hp : pc + 3 = pc2)
    (k : ∀ (r : Option AV) (m' : Mem), P r m' → RetOK ret' r → Sim sc o cc nL ret d pc2 ls (r.toList ++ rest) m' Q) : Sim sc o cc nL ret d pc ls st m Q := by
  subst hp
  subst hst
  intro p l e R s mt args below meth c g H locs lsC cells slots Qw hC hP hS hL hK
  have hE := hC.2.2.2.2.2.2.2.2.1
  have hts := hC.2.2.2.2.1
  have hKs := hC.2.2.2.2.2.2.2.1
  obtain ⟨q1, q2, q3, q4, q5⟩ := hk
  obtain ⟨f1, f2, f3, f4⟩ := hC.2.2.2.2.2.2.2.2.2
  have F : CallFix p mt c cc nL s args BW o := ⟨hC.1, hC.2.1, hC.2.2.1, hC.2.2.2.1, hts⟩
  have hb1 : cv g (aR b) = .ref (gad g b) := by
    rcases hb with ⟨ci, q, h1, -⟩ | ⟨h1, -⟩
    · rw [cv_R g b h1.1, gad, if_neg (by have := h1.1; omega)]
    · subst h1; rw [cv_X g (-5) (by omega) (by omega), gad, if_pos (by omega)]
  have hrecv : ∃ cell : Cell, H[gad g b]? = some cell ∧ cell.vm.isStatics = false ∧ s.vm.findClass y.cls = some cell.cls := by
    rcases hb with ⟨ci, q, h1, h9, h2, h3⟩ | ⟨h1, h2⟩
    · have hg := wW_get g m (at_nat h1).1
      rw [eC_obj g m h1 h9] at hg
      rw [← h3, gad, if_neg (by have := h1.1; omega)]
      exact va_recv hKs hP h2 hg
    · subst h1
      rw [h2, gad, if_pos (by omega)]
      exact vk_recv hE.2.2.2.1.2 Nat.zero_lt_one hS
  have hPc : ∀ U : State, U.heap = H → s.WarmedH U.vm → PcC sc g (aR b :: as) m (Value.ref (gad g b) :: as.map (cv g)).toArray U := fun U hU hW => ⟨by rw [← hb1]; rfl, by rw [hU]; exact hP, va_K.moved hW.alike hKs, hE.call hS hU hW⟩
  have hstk : ((as.reverse ++ aR b :: rest).map (cv g)) = (as.map (cv g)).reverse ++ Value.ref (gad g b) :: rest.map (cv g) := by
    rw [List.map_append, List.map_reverse, List.map_cons, hb1]
  have hW8 : 2 * (F0 mt pc lsC ((as.reverse ++ aR b :: rest).map (cv g))).monitorRoom + ((rest.map (cv g)).map fun v => v.category).sum ≤ 8 := lv_room (by rw [cat_sum hE]; exact hr)
  have hroom : (rmd d').frames + 1 ≤ R.frames ∧ 8 + (nL' + 11) + (rmd d').locals ≤ R.locals := ⟨by show d' + 1 ≤ _; omega, by show 8 + (nL' + 11) + 45 * d' ≤ _; omega⟩
  have hlen : ∀ sig, parseMethodDescriptor y.desc = some sig → n = sig.parameters.length := fun sig h => by
    rw [h] at q4
    exact (Option.some.inj q4).symm
  refine x_behindP (ret2 := ret') (P := P) (rest := rest.map (cv g)) (a := (Value.ref (gad g b) :: as.map (cv g)).toArray) ?_ hS (fun r m' hpp hro H1 locs1 hP1 hS1 => ?_)
  · rcases hl with hl | ⟨h, hl⟩
    · exact va_runV (As := as.map (cv g)) F (hM l g) ⟨⟨rfl, rfl, hroom.1, hroom.2, pay_in hts (gi_code q1), List.mem_cons_self, hts _ q1, hts _ q2, q3, hlen, hts _ hl⟩, hts _ hv.1, hts _ hv.2⟩ ⟨PcC_blind sc g _ m, hrecv, hPc⟩ rfl (by rw [List.length_map]; exact hn) hL.1 hstk hW8 hd ⟨f3, f4⟩
    · exact va_runVN (As := as.map (cv g)) F (hM l g) ⟨⟨⟨rfl, rfl, hroom.1, hroom.2, pay_in hts (gi_code q1), List.mem_cons_self⟩, hts _ q1, hts _ q2, q3, hlen, nw_use hl (hE.1 _ hl)⟩, hts _ hv.1, hts _ hv.2⟩ ⟨PcC_blind sc g _ m, hrecv, hPc⟩ rfl (by rw [List.length_map]; exact hn) hL.1 hstk hW8 hd ⟨f3, f4⟩
  · have k := k r m' hpp hro p l e R s mt args below meth c g H1 locs1 lsC cells slots Qw hC hP1 hS1 hL hK
    rw [List.map_append] at k
    rw [show (r.map (cv g)).toList = r.toList.map (cv g) by cases r <;> rfl]
    exact k
theorem x_callSP {y : MethodName} {cc' : ByteArray} {nL' n d' idx : Nat} {ret' : Option FieldType} {as rest : List AV} {P : Option AV → Mem → Prop} (hM : CallP sc d' y cc' nL' ret' as m P) (hk : MK y cc' nL' ret' n) (hv : MS y) (hl : LK o idx y) (hdd : d' + 1 ≤ d) (hn : as.length = n) (hst : st = as.reverse ++ rest) (hr : (rest.map acat).sum ≤ 8) (hd : decode cc pc = .ok (.invokestatic idx, 3)) (hp : pc + 3 = pc2)
    (k : ∀ (r : Option AV) (m' : Mem), P r m' → RetOK ret' r → Sim sc o cc nL ret d pc2 ls (r.toList ++ rest) m' Q) : Sim sc o cc nL ret d pc ls st m Q := by
  subst hp
  subst hst
  intro p l e R s mt args below meth c g H locs lsC cells slots Qw hC hP hS hL hK
  have hE := hC.2.2.2.2.2.2.2.2.1
  have hts := hC.2.2.2.2.1
  have hKs := hC.2.2.2.2.2.2.2.1
  obtain ⟨q1, q2, q3, q4, q5⟩ := hk
  obtain ⟨f1, f2, f3, f4⟩ := hC.2.2.2.2.2.2.2.2.2
  have F : CallFix p mt c cc nL s args BW o := ⟨hC.1, hC.2.1, hC.2.2.1, hC.2.2.2.1, hts⟩
  have hPc : ∀ U : State, U.heap = H → s.WarmedH U.vm → PcC sc g as m (as.map (cv g)).toArray U := fun U hU hW => ⟨rfl, by rw [hU]; exact hP, va_K.moved hW.alike hKs, hE.call hS hU hW⟩
  have hstk : ((as.reverse ++ rest).map (cv g)) = (as.map (cv g)).reverse ++ rest.map (cv g) := by
    rw [List.map_append, List.map_reverse]
  have hW8 : 2 * (F0 mt pc lsC ((as.reverse ++ rest).map (cv g))).monitorRoom + ((rest.map (cv g)).map fun v => v.category).sum ≤ 8 := lv_room (by rw [cat_sum hE]; exact hr)
  have hroom : (rmd d').frames + 1 ≤ R.frames ∧ 8 + (nL' + 11) + (rmd d').locals ≤ R.locals := ⟨by show d' + 1 ≤ _; omega, by show 8 + (nL' + 11) + 45 * d' ≤ _; omega⟩
  have hlen : ∀ sig, parseMethodDescriptor y.desc = some sig → n = sig.parameters.length := fun sig h => by
    rw [h] at q4
    exact (Option.some.inj q4).symm
  refine x_behindP (ret2 := ret') (P := P) (rest := rest.map (cv g)) (a := (as.map (cv g)).toArray) ?_ hS (fun r m' hpp hro H1 locs1 hP1 hS1 => ?_)
  · rcases hl with hl | ⟨h, hl⟩
    · exact va_runS (As := as.map (cv g)) F (hM l g) ⟨⟨rfl, rfl, hroom.1, hroom.2, pay_in hts (gi_code q1), List.mem_cons_self, hts _ q1, hts _ q2, q3, hlen, hts _ hl⟩, hts _ hv⟩ ⟨PcC_blind sc g _ m, hPc⟩ rfl (by rw [List.length_map]; exact hn) hL.1 hstk hW8 hd ⟨f3, f4⟩
    · exact va_runSN (As := as.map (cv g)) F (hM l g) ⟨⟨⟨rfl, rfl, hroom.1, hroom.2, pay_in hts (gi_code q1), List.mem_cons_self⟩, hts _ q1, hts _ q2, q3, hlen, nw_use hl (hE.1 _ hl)⟩, hts _ hv, trivial⟩ ⟨PcC_blind sc g _ m, hPc⟩ rfl (by rw [List.length_map]; exact hn) hL.1 hstk hW8 hd ⟨f3, f4⟩
  · have k := k r m' hpp hro p l e R s mt args below meth c g H1 locs1 lsC cells slots Qw hC hP1 hS1 hL hK
    rw [List.map_append] at k
    rw [show (r.map (cv g)).toList = r.toList.map (cv g) by cases r <;> rfl]
    exact k
end XP
theorem callp_of {sc : List Int} {d nL : Nat} {y : MethodName} {cc : ByteArray} {ret : Option FieldType} {as ls : List AV} {m : Mem} {P : Option AV → Mem → Prop} {o : String} (hy : plainFor y = true) (ho : y.cls = o) (hn : (entF as).length ≤ nL) (hl : entL as nL = ls)
    (h : Sim sc o cc nL ret d 0 ls [] m P) : CallP sc d y cc nL ret as m P := by
  subst ho
  subst hl
  intro l g
  refine va_MetF (cc := cc) (maxL := nL) (ret := ret) hy rfl ?_
  intro p e s mt args below meth c s₁ B hml hv
  obtain ⟨rfl, hP, hK, hE⟩ := hv
  have hts := atoms_spec (ws := .code y cc nL ret :: BW) B.pre
  rw [lg_entry_eq]
  have hC : Ctx sc y.cls cc nL ret d p e (headSpec (.code y cc nL ret :: BW) (rmd d)).room s mt ((as.map (cv g)).toArray) meth c g 0 0 := ⟨B.exec, B.bytes, hml, findClass_of_methodNamed B.named, fun w hw => hts w (List.mem_cons_of_mem _ hw), B.notSynchronized, B.returns, hK, hE, Nat.le_refl _, Nat.le_refl _, Nat.zero_le _, Nat.zero_le _⟩
  refine h p l e _ s mt _ below meth c g s.heap [] _ 0 0 _ hC hP va_S.rf (ent_ok hE as hn) ?_
  intro v m2 H' locs' pc' ls' hq hr hP' hS' hd
  have hpp := hq
  have hro := hr
  have hq : ∀ (w : Option Value), w = v.map (cv g) → ∀ t : State, t.heap = H' → s.WarmedH t.vm → QcP g ret P ((as.map (cv g)).toArray) s (.returned w) t := fun w hw t ht _ => ⟨v, m2, hpp, hro, by rw [hw], by rw [ht]; exact hP', hS'.F ht⟩
  clear hpp hro
  match v, hr, hd, hq with
  | none, hr, hd, hq => exact W.vret B.exec B.bytes (B.returns.trans hr) (hq none rfl) hS'.2.2 hd B.notSynchronized
  | some (.inl x), hr, hd, hq =>
    obtain ⟨t, h1, h2⟩ := hr
    exact W.zret B.exec B.bytes (B.returns.trans h1) h2 (hq (some (.int (Int32.ofInt x))) rfl) hS'.2.2 hd B.notSynchronized
  | some (.inr (.inl x)), hr, hd, hq => exact W.lret B.exec B.bytes (B.returns.trans hr) (hq (some (.long (Int64.ofInt x))) rfl) hS'.2.2 hd B.notSynchronized
  | some (.inr (.inr (.inl a))), hr, hd, hq =>
    obtain ⟨h0, t, h1⟩ := hr
    have e : cv g (aR a) = .ref (g.1 + a.toNat) := cv_R g a h0
    show W _ _ _ _ _ _ _ _ _ _ _ _ _ _ _ (F0 mt pc' ls' [cv g (aR a)])
    rw [e]
    exact W.aret B.exec B.bytes (B.returns.trans h1) (Or.inr ⟨t, rfl⟩) (Or.inr ⟨_, rfl⟩) (hq (some (.ref (g.1 + a.toNat))) (by rw [← e]; rfl)) hS'.2.2 hd B.notSynchronized
  | some (.inr (.inr (.inr _))), hr, hd, hq => exact hr.elim
theorem rk_n {r : Option AV} (h : RetOK none r) : r = none := by
  match r, h with
  | none, _ => rfl
  | some (.inl x), ⟨t, h, _⟩ => cases h
  | some (.inr (.inr (.inl a))), ⟨_, t, h⟩ => cases h
theorem rk_i {t : FieldType} {r : Option AV} (h1 : t ≠ .long) (h2 : ∀ u, t ≠ .array u) (h : RetOK (some t) r) : ∃ x, r = some (aI x) := by
  match r, h with
  | none, h => cases h
  | some (.inl x), _ => exact ⟨x, rfl⟩
  | some (.inr (.inl _)), h => exact absurd (Option.some.inj h) h1
  | some (.inr (.inr (.inl a))), ⟨_, u, h⟩ => exact absurd (Option.some.inj h) (h2 u)

abbrev P_X0_forget (sc : List Int) (d : Nat) (as : List AV) (m : Mem) (P : Option AV → Mem → Prop) : Prop := CallP sc d yX0_forget cX0_forget 1 none as m P
theorem ep_X0_forget {sc : List Int} {d : Nat} {m : Mem} {P : Option AV → Mem → Prop} (h : S_X0_forget sc d 0 [aR 37] [] m P) : P_X0_forget sc d [aR 37] m P := callp_of (by decide +kernel) rfl (Nat.le_of_ble_eq_true rfl) rfl h
abbrev P_X0_thousandths (sc : List Int) (d : Nat) (as : List AV) (m : Mem) (P : Option AV → Mem → Prop) : Prop := CallP sc d yX0_thousandths cX0_thousandths 2 (some .int) as m P
theorem ep_X0_thousandths {sc : List Int} {d : Nat} {m : Mem} {P : Option AV → Mem → Prop} {l0 : Int} (h : S_X0_thousandths sc d 0 [aJ l0, aU] [] m P) : P_X0_thousandths sc d [aJ l0] m P := callp_of (by decide +kernel) rfl (Nat.le_of_ble_eq_true rfl) rfl h
abbrev P_X0_expect (sc : List Int) (d : Nat) (as : List AV) (m : Mem) (P : Option AV → Mem → Prop) : Prop := CallP sc d yX0_expect cX0_expect 3 (some .long) as m P
theorem ep_X0_expect {sc : List Int} {d : Nat} {m : Mem} {P : Option AV → Mem → Prop} {l1 l2 : Int} (h : S_X0_expect sc d 0 [aR 37, aR l1, aI l2] [] m P) : P_X0_expect sc d [aR 37, aR l1, aI l2] m P := callp_of (by decide +kernel) rfl (Nat.le_of_ble_eq_true rfl) rfl h
abbrev P_X0_prepare (sc : List Int) (d : Nat) (as : List AV) (m : Mem) (P : Option AV → Mem → Prop) : Prop := CallP sc d yX0_prepare cX0_prepare 5 none as m P
theorem ep_X0_prepare {sc : List Int} {d : Nat} {m : Mem} {P : Option AV → Mem → Prop} {l1 l2 : Int} (h : S_X0_prepare sc d 0 [aR 37, aR l1, aI l2, aU, aU] [] m P) : P_X0_prepare sc d [aR 37, aR l1, aI l2] m P := callp_of (by decide +kernel) rfl (Nat.le_of_ble_eq_true rfl) rfl h
abbrev P_X0_weigh (sc : List Int) (d : Nat) (as : List AV) (m : Mem) (P : Option AV → Mem → Prop) : Prop := CallP sc d yX0_weigh cX0_weigh 19 (some .long) as m P
theorem ep_X0_weigh {sc : List Int} {d : Nat} {m : Mem} {P : Option AV → Mem → Prop} {l1 l2 l3 l4 : Int} (h : S_X0_weigh sc d 0 [aR 37, aR l1, aI l2, aI l3, aI l4, aU, aU, aU, aU, aU, aU, aU, aU, aU, aU, aU, aU, aU, aU] [] m P) : P_X0_weigh sc d [aR 37, aR l1, aI l2, aI l3, aI l4] m P := callp_of (by decide +kernel) rfl (Nat.le_of_ble_eq_true rfl) rfl h
abbrev P_X0_mended (sc : List Int) (d : Nat) (as : List AV) (m : Mem) (P : Option AV → Mem → Prop) : Prop := CallP sc d yX0_mended cX0_mended 3 (some .long) as m P
theorem ep_X0_mended {sc : List Int} {d : Nat} {m : Mem} {P : Option AV → Mem → Prop} {l1 l2 : Int} (h : S_X0_mended sc d 0 [aR 37, aR l1, aI l2] [] m P) : P_X0_mended sc d [aR 37, aR l1, aI l2] m P := callp_of (by decide +kernel) rfl (Nat.le_of_ble_eq_true rfl) rfl h
abbrev P_X0_changed (sc : List Int) (d : Nat) (as : List AV) (m : Mem) (P : Option AV → Mem → Prop) : Prop := CallP sc d yX0_changed cX0_changed 3 (some .long) as m P
theorem ep_X0_changed {sc : List Int} {d : Nat} {m : Mem} {P : Option AV → Mem → Prop} {l1 l2 : Int} (h : S_X0_changed sc d 0 [aR 37, aR l1, aI l2] [] m P) : P_X0_changed sc d [aR 37, aR l1, aI l2] m P := callp_of (by decide +kernel) rfl (Nat.le_of_ble_eq_true rfl) rfl h
abbrev P_X0_turns (sc : List Int) (d : Nat) (as : List AV) (m : Mem) (P : Option AV → Mem → Prop) : Prop := CallP sc d yX0_turns cX0_turns 13 (some .boolean) as m P
theorem ep_X0_turns {sc : List Int} {d : Nat} {m : Mem} {P : Option AV → Mem → Prop} {l1 l2 l3 l4 l5 : Int} (h : S_X0_turns sc d 0 [aR 37, aR l1, aI l2, aI l3, aI l4, aI l5, aU, aU, aU, aU, aU, aU, aU] [] m P) : P_X0_turns sc d [aR 37, aR l1, aI l2, aI l3, aI l4, aI l5] m P := callp_of (by decide +kernel) rfl (Nat.le_of_ble_eq_true rfl) rfl h
abbrev P_X1_run (sc : List Int) (d : Nat) (as : List AV) (m : Mem) (P : Option AV → Mem → Prop) : Prop := CallP sc d yX1_run cX1_run 9 none as m P
theorem ep_X1_run {sc : List Int} {d : Nat} {m : Mem} {P : Option AV → Mem → Prop} {l1 l3 l4 : Int} (h : S_X1_run sc d 0 [aR 39, aR l1, aR 37, aI l3, aI l4, aU, aU, aU, aU] [] m P) : P_X1_run sc d [aR 39, aR l1, aR 37, aI l3, aI l4] m P := callp_of (by decide +kernel) rfl (Nat.le_of_ble_eq_true rfl) rfl h
abbrev P_X1_note (sc : List Int) (d : Nat) (as : List AV) (m : Mem) (P : Option AV → Mem → Prop) : Prop := CallP sc d yX1_note cX1_note 5 none as m P
theorem ep_X1_note {sc : List Int} {d : Nat} {m : Mem} {P : Option AV → Mem → Prop} {l1 l2 l3 l4 : Int} (h : S_X1_note sc d 0 [aR 39, aR l1, aI l2, aI l3, aI l4] [] m P) : P_X1_note sc d [aR 39, aR l1, aI l2, aI l3, aI l4] m P := callp_of (by decide +kernel) rfl (Nat.le_of_ble_eq_true rfl) rfl h
abbrev P_X1_partsOf (sc : List Int) (d : Nat) (as : List AV) (m : Mem) (P : Option AV → Mem → Prop) : Prop := CallP sc d yX1_partsOf cX1_partsOf 3 (some (.array .int)) as m P
theorem ep_X1_partsOf {sc : List Int} {d : Nat} {m : Mem} {P : Option AV → Mem → Prop} {l1 l2 : Int} (h : S_X1_partsOf sc d 0 [aR 39, aR l1, aI l2] [] m P) : P_X1_partsOf sc d [aR 39, aR l1, aI l2] m P := callp_of (by decide +kernel) rfl (Nat.le_of_ble_eq_true rfl) rfl h
abbrev P_X2_enter (sc : List Int) (d : Nat) (as : List AV) (m : Mem) (P : Option AV → Mem → Prop) : Prop := CallP sc d yX2_enter cX2_enter 2 none as m P
theorem ep_X2_enter {sc : List Int} {d : Nat} {m : Mem} {P : Option AV → Mem → Prop} {l1 : Int} (h : S_X2_enter sc d 0 [aR 57, aR l1] [] m P) : P_X2_enter sc d [aR 57, aR l1] m P := callp_of (by decide +kernel) rfl (Nat.le_of_ble_eq_true rfl) rfl h
abbrev P_X2_restart (sc : List Int) (d : Nat) (as : List AV) (m : Mem) (P : Option AV → Mem → Prop) : Prop := CallP sc d yX2_restart cX2_restart 2 none as m P
theorem ep_X2_restart {sc : List Int} {d : Nat} {m : Mem} {P : Option AV → Mem → Prop} {l1 : Int} (h : S_X2_restart sc d 0 [aR 57, aI l1] [] m P) : P_X2_restart sc d [aR 57, aI l1] m P := callp_of (by decide +kernel) rfl (Nat.le_of_ble_eq_true rfl) rfl h
abbrev P_X2_draw (sc : List Int) (d : Nat) (as : List AV) (m : Mem) (P : Option AV → Mem → Prop) : Prop := CallP sc d yX2_draw cX2_draw 2 (some .int) as m P
theorem ep_X2_draw {sc : List Int} {d : Nat} {m : Mem} {P : Option AV → Mem → Prop} {l1 : Int} (h : S_X2_draw sc d 0 [aR 57, aR l1] [] m P) : P_X2_draw sc d [aR 57, aR l1] m P := callp_of (by decide +kernel) rfl (Nat.le_of_ble_eq_true rfl) rfl h
abbrev P_X2_pay (sc : List Int) (d : Nat) (as : List AV) (m : Mem) (P : Option AV → Mem → Prop) : Prop := CallP sc d yX2_pay cX2_pay 2 none as m P
theorem ep_X2_pay {sc : List Int} {d : Nat} {m : Mem} {P : Option AV → Mem → Prop} {l1 : Int} (h : S_X2_pay sc d 0 [aR 57, aI l1] [] m P) : P_X2_pay sc d [aR 57, aI l1] m P := callp_of (by decide +kernel) rfl (Nat.le_of_ble_eq_true rfl) rfl h
abbrev P_X2_stitch (sc : List Int) (d : Nat) (as : List AV) (m : Mem) (P : Option AV → Mem → Prop) : Prop := CallP sc d yX2_stitch cX2_stitch 4 (some .int) as m P
theorem ep_X2_stitch {sc : List Int} {d : Nat} {m : Mem} {P : Option AV → Mem → Prop} {l1 l2 : Int} (h : S_X2_stitch sc d 0 [aR 57, aR l1, aI l2, aU] [] m P) : P_X2_stitch sc d [aR 57, aR l1, aI l2] m P := callp_of (by decide +kernel) rfl (Nat.le_of_ble_eq_true rfl) rfl h
abbrev P_X2_keep (sc : List Int) (d : Nat) (as : List AV) (m : Mem) (P : Option AV → Mem → Prop) : Prop := CallP sc d yX2_keep cX2_keep 2 none as m P
theorem ep_X2_keep {sc : List Int} {d : Nat} {m : Mem} {P : Option AV → Mem → Prop} (h : S_X2_keep sc d 0 [aR 57, aU] [] m P) : P_X2_keep sc d [aR 57] m P := callp_of (by decide +kernel) rfl (Nat.le_of_ble_eq_true rfl) rfl h
abbrev P_X2_back (sc : List Int) (d : Nat) (as : List AV) (m : Mem) (P : Option AV → Mem → Prop) : Prop := CallP sc d yX2_back cX2_back 2 none as m P
theorem ep_X2_back {sc : List Int} {d : Nat} {m : Mem} {P : Option AV → Mem → Prop} (h : S_X2_back sc d 0 [aR 57, aU] [] m P) : P_X2_back sc d [aR 57] m P := callp_of (by decide +kernel) rfl (Nat.le_of_ble_eq_true rfl) rfl h
abbrev P_X3_put (sc : List Int) (d : Nat) (as : List AV) (m : Mem) (P : Option AV → Mem → Prop) : Prop := CallP sc d yX3_put cX3_put 2 none as m P
theorem ep_X3_put {sc : List Int} {d : Nat} {m : Mem} {P : Option AV → Mem → Prop} {l0 l1 : Int} (h : S_X3_put sc d 0 [aR l0, aI l1] [] m P) : P_X3_put sc d [aR l0, aI l1] m P := callp_of (by decide +kernel) rfl (Nat.le_of_ble_eq_true rfl) rfl h
abbrev P_X3_worth (sc : List Int) (d : Nat) (as : List AV) (m : Mem) (P : Option AV → Mem → Prop) : Prop := CallP sc d yX3_worth cX3_worth 14 (some .int) as m P
theorem ep_X3_worth {sc : List Int} {d : Nat} {m : Mem} {P : Option AV → Mem → Prop} {l0 l1 l2 l3 l4 : Int} (h : S_X3_worth sc d 0 [aR l0, aI l1, aI l2, aR l3, aR l4, aU, aU, aU, aU, aU, aU, aU, aU, aU] [] m P) : P_X3_worth sc d [aR l0, aI l1, aI l2, aR l3, aR l4] m P := callp_of (by decide +kernel) rfl (Nat.le_of_ble_eq_true rfl) rfl h
abbrev P_X3_turned (sc : List Int) (d : Nat) (as : List AV) (m : Mem) (P : Option AV → Mem → Prop) : Prop := CallP sc d yX3_turned cX3_turned 3 (some .int) as m P
theorem ep_X3_turned {sc : List Int} {d : Nat} {m : Mem} {P : Option AV → Mem → Prop} {l0 l1 l2 : Int} (h : S_X3_turned sc d 0 [aI l0, aI l1, aR l2] [] m P) : P_X3_turned sc d [aI l0, aI l1, aR l2] m P := callp_of (by decide +kernel) rfl (Nat.le_of_ble_eq_true rfl) rfl h
abbrev P_X3_joined (sc : List Int) (d : Nat) (as : List AV) (m : Mem) (P : Option AV → Mem → Prop) : Prop := CallP sc d yX3_joined cX3_joined 5 (some .long) as m P
theorem ep_X3_joined {sc : List Int} {d : Nat} {m : Mem} {P : Option AV → Mem → Prop} {l0 l1 l3 : Int} (h : S_X3_joined sc d 0 [aI l0, aJ l1, aU, aJ l3, aU] [] m P) : P_X3_joined sc d [aI l0, aJ l1, aJ l3] m P := callp_of (by decide +kernel) rfl (Nat.le_of_ble_eq_true rfl) rfl h
abbrev P_X4_forget (sc : List Int) (d : Nat) (as : List AV) (m : Mem) (P : Option AV → Mem → Prop) : Prop := CallP sc d yX4_forget cX4_forget 1 none as m P
theorem ep_X4_forget {sc : List Int} {d : Nat} {m : Mem} {P : Option AV → Mem → Prop} (h : S_X4_forget sc d 0 [aR 44] [] m P) : P_X4_forget sc d [aR 44] m P := callp_of (by decide +kernel) rfl (Nat.le_of_ble_eq_true rfl) rfl h
abbrev P_X4_inOrder (sc : List Int) (d : Nat) (as : List AV) (m : Mem) (P : Option AV → Mem → Prop) : Prop := CallP sc d yX4_inOrder cX4_inOrder 5 none as m P
theorem ep_X4_inOrder {sc : List Int} {d : Nat} {m : Mem} {P : Option AV → Mem → Prop} {l1 l2 : Int} (h : S_X4_inOrder sc d 0 [aR 44, aR l1, aI l2, aU, aU] [] m P) : P_X4_inOrder sc d [aR 44, aR l1, aI l2] m P := callp_of (by decide +kernel) rfl (Nat.le_of_ble_eq_true rfl) rfl h
abbrev P_X4_anyOrder (sc : List Int) (d : Nat) (as : List AV) (m : Mem) (P : Option AV → Mem → Prop) : Prop := CallP sc d yX4_anyOrder cX4_anyOrder 5 none as m P
theorem ep_X4_anyOrder {sc : List Int} {d : Nat} {m : Mem} {P : Option AV → Mem → Prop} {l1 l2 : Int} (h : S_X4_anyOrder sc d 0 [aR 44, aR l1, aI l2, aU, aU] [] m P) : P_X4_anyOrder sc d [aR 44, aR l1, aI l2] m P := callp_of (by decide +kernel) rfl (Nat.le_of_ble_eq_true rfl) rfl h
abbrev P_X4_packs (sc : List Int) (d : Nat) (as : List AV) (m : Mem) (P : Option AV → Mem → Prop) : Prop := CallP sc d yX4_packs cX4_packs 6 (some .boolean) as m P
theorem ep_X4_packs {sc : List Int} {d : Nat} {m : Mem} {P : Option AV → Mem → Prop} {l1 l2 l3 : Int} (h : S_X4_packs sc d 0 [aR 44, aR l1, aI l2, aI l3, aU, aU] [] m P) : P_X4_packs sc d [aR 44, aR l1, aI l2, aI l3] m P := callp_of (by decide +kernel) rfl (Nat.le_of_ble_eq_true rfl) rfl h
abbrev P_X4_isLoadAhead (sc : List Int) (d : Nat) (as : List AV) (m : Mem) (P : Option AV → Mem → Prop) : Prop := CallP sc d yX4_isLoadAhead cX4_isLoadAhead 3 (some .boolean) as m P
theorem ep_X4_isLoadAhead {sc : List Int} {d : Nat} {m : Mem} {P : Option AV → Mem → Prop} {l1 : Int} (h : S_X4_isLoadAhead sc d 0 [aR 44, aI l1, aU] [] m P) : P_X4_isLoadAhead sc d [aR 44, aI l1] m P := callp_of (by decide +kernel) rfl (Nat.le_of_ble_eq_true rfl) rfl h
abbrev P_X4_share (sc : List Int) (d : Nat) (as : List AV) (m : Mem) (P : Option AV → Mem → Prop) : Prop := CallP sc d yX4_share cX4_share 3 none as m P
theorem ep_X4_share {sc : List Int} {d : Nat} {m : Mem} {P : Option AV → Mem → Prop} {l1 l2 : Int} (h : S_X4_share sc d 0 [aR 44, aR l1, aI l2] [] m P) : P_X4_share sc d [aR 44, aR l1, aI l2] m P := callp_of (by decide +kernel) rfl (Nat.le_of_ble_eq_true rfl) rfl h
abbrev P_X4_giveOut (sc : List Int) (d : Nat) (as : List AV) (m : Mem) (P : Option AV → Mem → Prop) : Prop := CallP sc d yX4_giveOut cX4_giveOut 10 none as m P
theorem ep_X4_giveOut {sc : List Int} {d : Nat} {m : Mem} {P : Option AV → Mem → Prop} {l1 l2 l3 l4 : Int} (h : S_X4_giveOut sc d 0 [aR 44, aR l1, aI l2, aI l3, aI l4, aU, aU, aU, aU, aU] [] m P) : P_X4_giveOut sc d [aR 44, aR l1, aI l2, aI l3, aI l4] m P := callp_of (by decide +kernel) rfl (Nat.le_of_ble_eq_true rfl) rfl h
abbrev P_X4_hide (sc : List Int) (d : Nat) (as : List AV) (m : Mem) (P : Option AV → Mem → Prop) : Prop := CallP sc d yX4_hide cX4_hide 9 none as m P
theorem ep_X4_hide {sc : List Int} {d : Nat} {m : Mem} {P : Option AV → Mem → Prop} {l1 l2 : Int} (h : S_X4_hide sc d 0 [aR 44, aR l1, aI l2, aU, aU, aU, aU, aU, aU] [] m P) : P_X4_hide sc d [aR 44, aR l1, aI l2] m P := callp_of (by decide +kernel) rfl (Nat.le_of_ble_eq_true rfl) rfl h
abbrev P_X4_listStarts (sc : List Int) (d : Nat) (as : List AV) (m : Mem) (P : Option AV → Mem → Prop) : Prop := CallP sc d yX4_listStarts cX4_listStarts 4 none as m P
theorem ep_X4_listStarts {sc : List Int} {d : Nat} {m : Mem} {P : Option AV → Mem → Prop} {l1 : Int} (h : S_X4_listStarts sc d 0 [aR 44, aR l1, aU, aU] [] m P) : P_X4_listStarts sc d [aR 44, aR l1] m P := callp_of (by decide +kernel) rfl (Nat.le_of_ble_eq_true rfl) rfl h
abbrev P_X4_costOf (sc : List Int) (d : Nat) (as : List AV) (m : Mem) (P : Option AV → Mem → Prop) : Prop := CallP sc d yX4_costOf cX4_costOf 6 (some .int) as m P
theorem ep_X4_costOf {sc : List Int} {d : Nat} {m : Mem} {P : Option AV → Mem → Prop} {l1 l2 : Int} (h : S_X4_costOf sc d 0 [aR 44, aR l1, aI l2, aU, aU, aU] [] m P) : P_X4_costOf sc d [aR 44, aR l1, aI l2] m P := callp_of (by decide +kernel) rfl (Nat.le_of_ble_eq_true rfl) rfl h
abbrev P_X4_listSpots (sc : List Int) (d : Nat) (as : List AV) (m : Mem) (P : Option AV → Mem → Prop) : Prop := CallP sc d yX4_listSpots cX4_listSpots 6 (some .int) as m P
theorem ep_X4_listSpots {sc : List Int} {d : Nat} {m : Mem} {P : Option AV → Mem → Prop} {l1 : Int} (h : S_X4_listSpots sc d 0 [aR 44, aR l1, aU, aU, aU, aU] [] m P) : P_X4_listSpots sc d [aR 44, aR l1] m P := callp_of (by decide +kernel) rfl (Nat.le_of_ble_eq_true rfl) rfl h
abbrev P_X5_begin (sc : List Int) (d : Nat) (as : List AV) (m : Mem) (P : Option AV → Mem → Prop) : Prop := CallP sc d yX5_begin cX5_begin 4 none as m P
theorem ep_X5_begin {sc : List Int} {d : Nat} {m : Mem} {P : Option AV → Mem → Prop} {l1 l2 l3 : Int} (h : S_X5_begin sc d 0 [aR 32, aR l1, aR l2, aI l3] [] m P) : P_X5_begin sc d [aR 32, aR l1, aR l2, aI l3] m P := callp_of (by decide +kernel) rfl (Nat.le_of_ble_eq_true rfl) rfl h
abbrev P_X5_fail (sc : List Int) (d : Nat) (as : List AV) (m : Mem) (P : Option AV → Mem → Prop) : Prop := CallP sc d yX5_fail cX5_fail 3 none as m P
theorem ep_X5_fail {sc : List Int} {d : Nat} {m : Mem} {P : Option AV → Mem → Prop} {l1 l2 : Int} (h : S_X5_fail sc d 0 [aR 32, aI l1, aI l2] [] m P) : P_X5_fail sc d [aR 32, aI l1, aI l2] m P := callp_of (by decide +kernel) rfl (Nat.le_of_ble_eq_true rfl) rfl h
abbrev P_X5_advance (sc : List Int) (d : Nat) (as : List AV) (m : Mem) (P : Option AV → Mem → Prop) : Prop := CallP sc d yX5_advance cX5_advance 3 none as m P
theorem ep_X5_advance {sc : List Int} {d : Nat} {m : Mem} {P : Option AV → Mem → Prop} (h : S_X5_advance sc d 0 [aR 32, aU, aU] [] m P) : P_X5_advance sc d [aR 32] m P := callp_of (by decide +kernel) rfl (Nat.le_of_ble_eq_true rfl) rfl h
abbrev P_X5_wordBetween (sc : List Int) (d : Nat) (as : List AV) (m : Mem) (P : Option AV → Mem → Prop) : Prop := CallP sc d yX5_wordBetween cX5_wordBetween 8 (some .int) as m P
theorem ep_X5_wordBetween {sc : List Int} {d : Nat} {m : Mem} {P : Option AV → Mem → Prop} {l1 l2 : Int} (h : S_X5_wordBetween sc d 0 [aR 32, aI l1, aI l2, aU, aU, aU, aU, aU] [] m P) : P_X5_wordBetween sc d [aR 32, aI l1, aI l2] m P := callp_of (by decide +kernel) rfl (Nat.le_of_ble_eq_true rfl) rfl h
abbrev P_X5_isWord (sc : List Int) (d : Nat) (as : List AV) (m : Mem) (P : Option AV → Mem → Prop) : Prop := CallP sc d yX5_isWord cX5_isWord 2 (some .boolean) as m P
theorem ep_X5_isWord {sc : List Int} {d : Nat} {m : Mem} {P : Option AV → Mem → Prop} {l1 : Int} (h : S_X5_isWord sc d 0 [aR 32, aI l1] [] m P) : P_X5_isWord sc d [aR 32, aI l1] m P := callp_of (by decide +kernel) rfl (Nat.le_of_ble_eq_true rfl) rfl h
abbrev P_X5_expect (sc : List Int) (d : Nat) (as : List AV) (m : Mem) (P : Option AV → Mem → Prop) : Prop := CallP sc d yX5_expect cX5_expect 2 none as m P
theorem ep_X5_expect {sc : List Int} {d : Nat} {m : Mem} {P : Option AV → Mem → Prop} {l1 : Int} (h : S_X5_expect sc d 0 [aR 32, aI l1] [] m P) : P_X5_expect sc d [aR 32, aI l1] m P := callp_of (by decide +kernel) rfl (Nat.le_of_ble_eq_true rfl) rfl h
abbrev P_X5_expectSign (sc : List Int) (d : Nat) (as : List AV) (m : Mem) (P : Option AV → Mem → Prop) : Prop := CallP sc d yX5_expectSign cX5_expectSign 2 none as m P
theorem ep_X5_expectSign {sc : List Int} {d : Nat} {m : Mem} {P : Option AV → Mem → Prop} {l1 : Int} (h : S_X5_expectSign sc d 0 [aR 32, aI l1] [] m P) : P_X5_expectSign sc d [aR 32, aI l1] m P := callp_of (by decide +kernel) rfl (Nat.le_of_ble_eq_true rfl) rfl h
abbrev P_X5_number (sc : List Int) (d : Nat) (as : List AV) (m : Mem) (P : Option AV → Mem → Prop) : Prop := CallP sc d yX5_number cX5_number 4 (some .int) as m P
theorem ep_X5_number {sc : List Int} {d : Nat} {m : Mem} {P : Option AV → Mem → Prop} {l1 l2 : Int} (h : S_X5_number sc d 0 [aR 32, aI l1, aI l2, aU] [] m P) : P_X5_number sc d [aR 32, aI l1, aI l2] m P := callp_of (by decide +kernel) rfl (Nat.le_of_ble_eq_true rfl) rfl h
abbrev P_X5_readRoom (sc : List Int) (d : Nat) (as : List AV) (m : Mem) (P : Option AV → Mem → Prop) : Prop := CallP sc d yX5_readRoom cX5_readRoom 6 none as m P
theorem ep_X5_readRoom {sc : List Int} {d : Nat} {m : Mem} {P : Option AV → Mem → Prop} {l1 l2 l3 : Int} (h : S_X5_readRoom sc d 0 [aR 32, aR l1, aR l2, aI l3, aU, aU] [] m P) : P_X5_readRoom sc d [aR 32, aR l1, aR l2, aI l3] m P := callp_of (by decide +kernel) rfl (Nat.le_of_ble_eq_true rfl) rfl h
abbrev P_X5_tellMinutes (sc : List Int) (d : Nat) (as : List AV) (m : Mem) (P : Option AV → Mem → Prop) : Prop := CallP sc d yX5_tellMinutes cX5_tellMinutes 4 none as m P
theorem ep_X5_tellMinutes {sc : List Int} {d : Nat} {m : Mem} {P : Option AV → Mem → Prop} {l1 l2 : Int} (h : S_X5_tellMinutes sc d 0 [aR 32, aR l1, aI l2, aU] [] m P) : P_X5_tellMinutes sc d [aR 32, aR l1, aI l2] m P := callp_of (by decide +kernel) rfl (Nat.le_of_ble_eq_true rfl) rfl h
abbrev P_X5_tellLengths (sc : List Int) (d : Nat) (as : List AV) (m : Mem) (P : Option AV → Mem → Prop) : Prop := CallP sc d yX5_tellLengths cX5_tellLengths 8 none as m P
theorem ep_X5_tellLengths {sc : List Int} {d : Nat} {m : Mem} {P : Option AV → Mem → Prop} {l1 : Int} (h : S_X5_tellLengths sc d 0 [aR 32, aR l1, aU, aU, aU, aU, aU, aU] [] m P) : P_X5_tellLengths sc d [aR 32, aR l1] m P := callp_of (by decide +kernel) rfl (Nat.le_of_ble_eq_true rfl) rfl h
abbrev P_X5_tellSeam (sc : List Int) (d : Nat) (as : List AV) (m : Mem) (P : Option AV → Mem → Prop) : Prop := CallP sc d yX5_tellSeam cX5_tellSeam 5 none as m P
theorem ep_X5_tellSeam {sc : List Int} {d : Nat} {m : Mem} {P : Option AV → Mem → Prop} {l1 : Int} (h : S_X5_tellSeam sc d 0 [aR 32, aR l1, aU, aU, aU] [] m P) : P_X5_tellSeam sc d [aR 32, aR l1] m P := callp_of (by decide +kernel) rfl (Nat.le_of_ble_eq_true rfl) rfl h
abbrev P_X5_tellPlaces (sc : List Int) (d : Nat) (as : List AV) (m : Mem) (P : Option AV → Mem → Prop) : Prop := CallP sc d yX5_tellPlaces cX5_tellPlaces 6 (some .int) as m P
theorem ep_X5_tellPlaces {sc : List Int} {d : Nat} {m : Mem} {P : Option AV → Mem → Prop} {l1 l2 : Int} (h : S_X5_tellPlaces sc d 0 [aR 32, aR l1, aI l2, aU, aU, aU] [] m P) : P_X5_tellPlaces sc d [aR 32, aR l1, aI l2] m P := callp_of (by decide +kernel) rfl (Nat.le_of_ble_eq_true rfl) rfl h
abbrev P_X5_tellRule (sc : List Int) (d : Nat) (as : List AV) (m : Mem) (P : Option AV → Mem → Prop) : Prop := CallP sc d yX5_tellRule cX5_tellRule 2 none as m P
theorem ep_X5_tellRule {sc : List Int} {d : Nat} {m : Mem} {P : Option AV → Mem → Prop} {l1 : Int} (h : S_X5_tellRule sc d 0 [aR 32, aR l1] [] m P) : P_X5_tellRule sc d [aR 32, aR l1] m P := callp_of (by decide +kernel) rfl (Nat.le_of_ble_eq_true rfl) rfl h
abbrev P_X5_name (sc : List Int) (d : Nat) (as : List AV) (m : Mem) (P : Option AV → Mem → Prop) : Prop := CallP sc d yX5_name cX5_name 4 none as m P
theorem ep_X5_name {sc : List Int} {d : Nat} {m : Mem} {P : Option AV → Mem → Prop} {l1 l2 : Int} (h : S_X5_name sc d 0 [aR 32, aR l1, aI l2, aU] [] m P) : P_X5_name sc d [aR 32, aR l1, aI l2] m P := callp_of (by decide +kernel) rfl (Nat.le_of_ble_eq_true rfl) rfl h
abbrev P_X5_readQuestion (sc : List Int) (d : Nat) (as : List AV) (m : Mem) (P : Option AV → Mem → Prop) : Prop := CallP sc d yX5_readQuestion cX5_readQuestion 4 (some .int) as m P
theorem ep_X5_readQuestion {sc : List Int} {d : Nat} {m : Mem} {P : Option AV → Mem → Prop} {l1 l2 : Int} (h : S_X5_readQuestion sc d 0 [aR 32, aR l1, aI l2, aU] [] m P) : P_X5_readQuestion sc d [aR 32, aR l1, aI l2] m P := callp_of (by decide +kernel) rfl (Nat.le_of_ble_eq_true rfl) rfl h
abbrev P_X5_test (sc : List Int) (d : Nat) (as : List AV) (m : Mem) (P : Option AV → Mem → Prop) : Prop := CallP sc d yX5_test cX5_test 3 none as m P
theorem ep_X5_test {sc : List Int} {d : Nat} {m : Mem} {P : Option AV → Mem → Prop} {l1 : Int} (h : S_X5_test sc d 0 [aR 32, aI l1, aU] [] m P) : P_X5_test sc d [aR 32, aI l1] m P := callp_of (by decide +kernel) rfl (Nat.le_of_ble_eq_true rfl) rfl h
abbrev P_X5_both (sc : List Int) (d : Nat) (as : List AV) (m : Mem) (P : Option AV → Mem → Prop) : Prop := CallP sc d yX5_both cX5_both 3 none as m P
theorem ep_X5_both {sc : List Int} {d : Nat} {m : Mem} {P : Option AV → Mem → Prop} {l1 : Int} (h : S_X5_both sc d 0 [aR 32, aI l1, aU] [] m P) : P_X5_both sc d [aR 32, aI l1] m P := callp_of (by decide +kernel) rfl (Nat.le_of_ble_eq_true rfl) rfl h
abbrev P_X5_fact (sc : List Int) (d : Nat) (as : List AV) (m : Mem) (P : Option AV → Mem → Prop) : Prop := CallP sc d yX5_fact cX5_fact 3 none as m P
theorem ep_X5_fact {sc : List Int} {d : Nat} {m : Mem} {P : Option AV → Mem → Prop} {l1 : Int} (h : S_X5_fact sc d 0 [aR 32, aI l1, aU] [] m P) : P_X5_fact sc d [aR 32, aI l1] m P := callp_of (by decide +kernel) rfl (Nat.le_of_ble_eq_true rfl) rfl h
abbrev P_X5_enter (sc : List Int) (d : Nat) (as : List AV) (m : Mem) (P : Option AV → Mem → Prop) : Prop := CallP sc d yX5_enter cX5_enter 2 none as m P
theorem ep_X5_enter {sc : List Int} {d : Nat} {m : Mem} {P : Option AV → Mem → Prop} {l1 : Int} (h : S_X5_enter sc d 0 [aR 32, aI l1] [] m P) : P_X5_enter sc d [aR 32, aI l1] m P := callp_of (by decide +kernel) rfl (Nat.le_of_ble_eq_true rfl) rfl h
abbrev P_X5_sum (sc : List Int) (d : Nat) (as : List AV) (m : Mem) (P : Option AV → Mem → Prop) : Prop := CallP sc d yX5_sum cX5_sum 4 none as m P
theorem ep_X5_sum {sc : List Int} {d : Nat} {m : Mem} {P : Option AV → Mem → Prop} {l1 : Int} (h : S_X5_sum sc d 0 [aR 32, aI l1, aU, aU] [] m P) : P_X5_sum sc d [aR 32, aI l1] m P := callp_of (by decide +kernel) rfl (Nat.le_of_ble_eq_true rfl) rfl h
abbrev P_X5_product (sc : List Int) (d : Nat) (as : List AV) (m : Mem) (P : Option AV → Mem → Prop) : Prop := CallP sc d yX5_product cX5_product 4 none as m P
theorem ep_X5_product {sc : List Int} {d : Nat} {m : Mem} {P : Option AV → Mem → Prop} {l1 : Int} (h : S_X5_product sc d 0 [aR 32, aI l1, aU, aU] [] m P) : P_X5_product sc d [aR 32, aI l1] m P := callp_of (by decide +kernel) rfl (Nat.le_of_ble_eq_true rfl) rfl h
abbrev P_X5_part (sc : List Int) (d : Nat) (as : List AV) (m : Mem) (P : Option AV → Mem → Prop) : Prop := CallP sc d yX5_part cX5_part 2 none as m P
theorem ep_X5_part {sc : List Int} {d : Nat} {m : Mem} {P : Option AV → Mem → Prop} {l1 : Int} (h : S_X5_part sc d 0 [aR 32, aI l1] [] m P) : P_X5_part sc d [aR 32, aI l1] m P := callp_of (by decide +kernel) rfl (Nat.le_of_ble_eq_true rfl) rfl h
abbrev P_X5_pair (sc : List Int) (d : Nat) (as : List AV) (m : Mem) (P : Option AV → Mem → Prop) : Prop := CallP sc d yX5_pair cX5_pair 3 none as m P
theorem ep_X5_pair {sc : List Int} {d : Nat} {m : Mem} {P : Option AV → Mem → Prop} {l1 l2 : Int} (h : S_X5_pair sc d 0 [aR 32, aI l1, aI l2] [] m P) : P_X5_pair sc d [aR 32, aI l1, aI l2] m P := callp_of (by decide +kernel) rfl (Nat.le_of_ble_eq_true rfl) rfl h
abbrev P_X5_namedPart (sc : List Int) (d : Nat) (as : List AV) (m : Mem) (P : Option AV → Mem → Prop) : Prop := CallP sc d yX5_namedPart cX5_namedPart 2 none as m P
theorem ep_X5_namedPart {sc : List Int} {d : Nat} {m : Mem} {P : Option AV → Mem → Prop} (h : S_X5_namedPart sc d 0 [aR 32, aU] [] m P) : P_X5_namedPart sc d [aR 32] m P := callp_of (by decide +kernel) rfl (Nat.le_of_ble_eq_true rfl) rfl h
abbrev P_X5_stepOf (sc : List Int) (d : Nat) (as : List AV) (m : Mem) (P : Option AV → Mem → Prop) : Prop := CallP sc d yX5_stepOf cX5_stepOf 2 (some .int) as m P
theorem ep_X5_stepOf {sc : List Int} {d : Nat} {m : Mem} {P : Option AV → Mem → Prop} {l0 l1 : Int} (h : S_X5_stepOf sc d 0 [aI l0, aI l1] [] m P) : P_X5_stepOf sc d [aI l0, aI l1] m P := callp_of (by decide +kernel) rfl (Nat.le_of_ble_eq_true rfl) rfl h
abbrev P_X6_clear (sc : List Int) (d : Nat) (as : List AV) (m : Mem) (P : Option AV → Mem → Prop) : Prop := CallP sc d yX6_clear cX6_clear 1 none as m P
theorem ep_X6_clear {sc : List Int} {d : Nat} {m : Mem} {P : Option AV → Mem → Prop} {l0 : Int} (h : S_X6_clear sc d 0 [aR l0] [] m P) : P_X6_clear sc d [aR l0] m P := callp_of (by decide +kernel) rfl (Nat.le_of_ble_eq_true rfl) rfl h
abbrev P_X6_addLength (sc : List Int) (d : Nat) (as : List AV) (m : Mem) (P : Option AV → Mem → Prop) : Prop := CallP sc d yX6_addLength cX6_addLength 3 none as m P
theorem ep_X6_addLength {sc : List Int} {d : Nat} {m : Mem} {P : Option AV → Mem → Prop} {l0 l1 l2 : Int} (h : S_X6_addLength sc d 0 [aR l0, aI l1, aI l2] [] m P) : P_X6_addLength sc d [aR l0, aI l1, aI l2] m P := callp_of (by decide +kernel) rfl (Nat.le_of_ble_eq_true rfl) rfl h
abbrev P_X6_addSeam (sc : List Int) (d : Nat) (as : List AV) (m : Mem) (P : Option AV → Mem → Prop) : Prop := CallP sc d yX6_addSeam cX6_addSeam 4 none as m P
theorem ep_X6_addSeam {sc : List Int} {d : Nat} {m : Mem} {P : Option AV → Mem → Prop} {l0 l1 l2 l3 : Int} (h : S_X6_addSeam sc d 0 [aR l0, aI l1, aI l2, aI l3] [] m P) : P_X6_addSeam sc d [aR l0, aI l1, aI l2, aI l3] m P := callp_of (by decide +kernel) rfl (Nat.le_of_ble_eq_true rfl) rfl h
abbrev P_X6_addRule (sc : List Int) (d : Nat) (as : List AV) (m : Mem) (P : Option AV → Mem → Prop) : Prop := CallP sc d yX6_addRule cX6_addRule 1 none as m P
theorem ep_X6_addRule {sc : List Int} {d : Nat} {m : Mem} {P : Option AV → Mem → Prop} {l0 : Int} (h : S_X6_addRule sc d 0 [aR l0] [] m P) : P_X6_addRule sc d [aR l0] m P := callp_of (by decide +kernel) rfl (Nat.le_of_ble_eq_true rfl) rfl h
abbrev P_X6_isNamed (sc : List Int) (d : Nat) (as : List AV) (m : Mem) (P : Option AV → Mem → Prop) : Prop := CallP sc d yX6_isNamed cX6_isNamed 4 (some .boolean) as m P
theorem ep_X6_isNamed {sc : List Int} {d : Nat} {m : Mem} {P : Option AV → Mem → Prop} {l0 l1 : Int} (h : S_X6_isNamed sc d 0 [aR l0, aI l1, aU, aU] [] m P) : P_X6_isNamed sc d [aR l0, aI l1] m P := callp_of (by decide +kernel) rfl (Nat.le_of_ble_eq_true rfl) rfl h
abbrev P_X6_sameLetters (sc : List Int) (d : Nat) (as : List AV) (m : Mem) (P : Option AV → Mem → Prop) : Prop := CallP sc d yX6_sameLetters cX6_sameLetters 4 (some .boolean) as m P
theorem ep_X6_sameLetters {sc : List Int} {d : Nat} {m : Mem} {P : Option AV → Mem → Prop} {l0 l1 l2 : Int} (h : S_X6_sameLetters sc d 0 [aR l0, aI l1, aI l2, aU] [] m P) : P_X6_sameLetters sc d [aR l0, aI l1, aI l2] m P := callp_of (by decide +kernel) rfl (Nat.le_of_ble_eq_true rfl) rfl h
abbrev P_X6_hasLength (sc : List Int) (d : Nat) (as : List AV) (m : Mem) (P : Option AV → Mem → Prop) : Prop := CallP sc d yX6_hasLength cX6_hasLength 3 (some .boolean) as m P
theorem ep_X6_hasLength {sc : List Int} {d : Nat} {m : Mem} {P : Option AV → Mem → Prop} {l0 l1 : Int} (h : S_X6_hasLength sc d 0 [aR l0, aI l1, aU] [] m P) : P_X6_hasLength sc d [aR l0, aI l1] m P := callp_of (by decide +kernel) rfl (Nat.le_of_ble_eq_true rfl) rfl h
abbrev P_X6_knows (sc : List Int) (d : Nat) (as : List AV) (m : Mem) (P : Option AV → Mem → Prop) : Prop := CallP sc d yX6_knows cX6_knows 2 (some .boolean) as m P
theorem ep_X6_knows {sc : List Int} {d : Nat} {m : Mem} {P : Option AV → Mem → Prop} {l0 l1 : Int} (h : S_X6_knows sc d 0 [aR l0, aI l1] [] m P) : P_X6_knows sc d [aR l0, aI l1] m P := callp_of (by decide +kernel) rfl (Nat.le_of_ble_eq_true rfl) rfl h
abbrev P_X6_longest (sc : List Int) (d : Nat) (as : List AV) (m : Mem) (P : Option AV → Mem → Prop) : Prop := CallP sc d yX6_longest cX6_longest 3 (some .int) as m P
theorem ep_X6_longest {sc : List Int} {d : Nat} {m : Mem} {P : Option AV → Mem → Prop} {l0 : Int} (h : S_X6_longest sc d 0 [aR l0, aU, aU] [] m P) : P_X6_longest sc d [aR l0] m P := callp_of (by decide +kernel) rfl (Nat.le_of_ble_eq_true rfl) rfl h
abbrev P_X6_leastLength (sc : List Int) (d : Nat) (as : List AV) (m : Mem) (P : Option AV → Mem → Prop) : Prop := CallP sc d yX6_leastLength cX6_leastLength 3 (some .int) as m P
theorem ep_X6_leastLength {sc : List Int} {d : Nat} {m : Mem} {P : Option AV → Mem → Prop} {l0 : Int} (h : S_X6_leastLength sc d 0 [aR l0, aU, aU] [] m P) : P_X6_leastLength sc d [aR l0] m P := callp_of (by decide +kernel) rfl (Nat.le_of_ble_eq_true rfl) rfl h
abbrev P_X6_greatestLength (sc : List Int) (d : Nat) (as : List AV) (m : Mem) (P : Option AV → Mem → Prop) : Prop := CallP sc d yX6_greatestLength cX6_greatestLength 3 (some .int) as m P
theorem ep_X6_greatestLength {sc : List Int} {d : Nat} {m : Mem} {P : Option AV → Mem → Prop} {l0 : Int} (h : S_X6_greatestLength sc d 0 [aR l0, aU, aU] [] m P) : P_X6_greatestLength sc d [aR l0] m P := callp_of (by decide +kernel) rfl (Nat.le_of_ble_eq_true rfl) rfl h
abbrev P_X6_oddsOf (sc : List Int) (d : Nat) (as : List AV) (m : Mem) (P : Option AV → Mem → Prop) : Prop := CallP sc d yX6_oddsOf cX6_oddsOf 4 (some .int) as m P
theorem ep_X6_oddsOf {sc : List Int} {d : Nat} {m : Mem} {P : Option AV → Mem → Prop} {l0 l1 : Int} (h : S_X6_oddsOf sc d 0 [aR l0, aI l1, aU, aU] [] m P) : P_X6_oddsOf sc d [aR l0, aI l1] m P := callp_of (by decide +kernel) rfl (Nat.le_of_ble_eq_true rfl) rfl h
abbrev P_X6_lengthBy (sc : List Int) (d : Nat) (as : List AV) (m : Mem) (P : Option AV → Mem → Prop) : Prop := CallP sc d yX6_lengthBy cX6_lengthBy 4 (some .int) as m P
theorem ep_X6_lengthBy {sc : List Int} {d : Nat} {m : Mem} {P : Option AV → Mem → Prop} {l0 l1 : Int} (h : S_X6_lengthBy sc d 0 [aR l0, aI l1, aU, aU] [] m P) : P_X6_lengthBy sc d [aR l0, aI l1] m P := callp_of (by decide +kernel) rfl (Nat.le_of_ble_eq_true rfl) rfl h
abbrev P_X6_lookCost (sc : List Int) (d : Nat) (as : List AV) (m : Mem) (P : Option AV → Mem → Prop) : Prop := CallP sc d yX6_lookCost cX6_lookCost 3 (some .int) as m P
theorem ep_X6_lookCost {sc : List Int} {d : Nat} {m : Mem} {P : Option AV → Mem → Prop} {l0 l1 l2 : Int} (h : S_X6_lookCost sc d 0 [aR l0, aI l1, aI l2] [] m P) : P_X6_lookCost sc d [aR l0, aI l1, aI l2] m P := callp_of (by decide +kernel) rfl (Nat.le_of_ble_eq_true rfl) rfl h
abbrev P_X6_wants (sc : List Int) (d : Nat) (as : List AV) (m : Mem) (P : Option AV → Mem → Prop) : Prop := CallP sc d yX6_wants cX6_wants 5 (some .boolean) as m P
theorem ep_X6_wants {sc : List Int} {d : Nat} {m : Mem} {P : Option AV → Mem → Prop} {l0 l1 l2 l3 : Int} (h : S_X6_wants sc d 0 [aR l0, aI l1, aI l2, aI l3, aU] [] m P) : P_X6_wants sc d [aR l0, aI l1, aI l2, aI l3] m P := callp_of (by decide +kernel) rfl (Nat.le_of_ble_eq_true rfl) rfl h
abbrev P_X7_feed (sc : List Int) (d : Nat) (as : List AV) (m : Mem) (P : Option AV → Mem → Prop) : Prop := CallP sc d yX7_feed cX7_feed 6 (some .int) as m P
theorem ep_X7_feed {sc : List Int} {d : Nat} {m : Mem} {P : Option AV → Mem → Prop} {l1 l2 l3 l4 l5 : Int} (h : S_X7_feed sc d 0 [aR 0, aI l1, aI l2, aI l3, aI l4, aI l5] [] m P) : P_X7_feed sc d [aR 0, aI l1, aI l2, aI l3, aI l4, aI l5] m P := callp_of (by decide +kernel) rfl (Nat.le_of_ble_eq_true rfl) rfl h
abbrev P_X7_append (sc : List Int) (d : Nat) (as : List AV) (m : Mem) (P : Option AV → Mem → Prop) : Prop := CallP sc d yX7_append cX7_append 3 none as m P
theorem ep_X7_append {sc : List Int} {d : Nat} {m : Mem} {P : Option AV → Mem → Prop} {l1 : Int} (h : S_X7_append sc d 0 [aR 0, aI l1, aU] [] m P) : P_X7_append sc d [aR 0, aI l1] m P := callp_of (by decide +kernel) rfl (Nat.le_of_ble_eq_true rfl) rfl h
abbrev P_X7_refuse (sc : List Int) (d : Nat) (as : List AV) (m : Mem) (P : Option AV → Mem → Prop) : Prop := CallP sc d yX7_refuse cX7_refuse 2 (some .int) as m P
theorem ep_X7_refuse {sc : List Int} {d : Nat} {m : Mem} {P : Option AV → Mem → Prop} {l1 : Int} (h : S_X7_refuse sc d 0 [aR 0, aI l1] [] m P) : P_X7_refuse sc d [aR 0, aI l1] m P := callp_of (by decide +kernel) rfl (Nat.le_of_ble_eq_true rfl) rfl h
abbrev P_X7_end (sc : List Int) (d : Nat) (as : List AV) (m : Mem) (P : Option AV → Mem → Prop) : Prop := CallP sc d yX7_end cX7_end 2 (some .boolean) as m P
theorem ep_X7_end {sc : List Int} {d : Nat} {m : Mem} {P : Option AV → Mem → Prop} {l1 : Int} (h : S_X7_end sc d 0 [aR 0, aI l1] [] m P) : P_X7_end sc d [aR 0, aI l1] m P := callp_of (by decide +kernel) rfl (Nat.le_of_ble_eq_true rfl) rfl h
abbrev P_X7_room (sc : List Int) (d : Nat) (as : List AV) (m : Mem) (P : Option AV → Mem → Prop) : Prop := CallP sc d yX7_room cX7_room 2 (some .int) as m P
theorem ep_X7_room {sc : List Int} {d : Nat} {m : Mem} {P : Option AV → Mem → Prop} (h : S_X7_room sc d 0 [aR 0, aU] [] m P) : P_X7_room sc d [aR 0] m P := callp_of (by decide +kernel) rfl (Nat.le_of_ble_eq_true rfl) rfl h
abbrev P_X7_fault (sc : List Int) (d : Nat) (as : List AV) (m : Mem) (P : Option AV → Mem → Prop) : Prop := CallP sc d yX7_fault cX7_fault 2 (some .int) as m P
theorem ep_X7_fault {sc : List Int} {d : Nat} {m : Mem} {P : Option AV → Mem → Prop} {l1 : Int} (h : S_X7_fault sc d 0 [aR 0, aI l1] [] m P) : P_X7_fault sc d [aR 0, aI l1] m P := callp_of (by decide +kernel) rfl (Nat.le_of_ble_eq_true rfl) rfl h
abbrev P_X7_has (sc : List Int) (d : Nat) (as : List AV) (m : Mem) (P : Option AV → Mem → Prop) : Prop := CallP sc d yX7_has cX7_has 2 (some .int) as m P
theorem ep_X7_has {sc : List Int} {d : Nat} {m : Mem} {P : Option AV → Mem → Prop} {l1 : Int} (h : S_X7_has sc d 0 [aR 0, aI l1] [] m P) : P_X7_has sc d [aR 0, aI l1] m P := callp_of (by decide +kernel) rfl (Nat.le_of_ble_eq_true rfl) rfl h
abbrev P_X7_letter (sc : List Int) (d : Nat) (as : List AV) (m : Mem) (P : Option AV → Mem → Prop) : Prop := CallP sc d yX7_letter cX7_letter 4 (some .int) as m P
theorem ep_X7_letter {sc : List Int} {d : Nat} {m : Mem} {P : Option AV → Mem → Prop} {l1 l2 l3 : Int} (h : S_X7_letter sc d 0 [aR 0, aI l1, aI l2, aI l3] [] m P) : P_X7_letter sc d [aR 0, aI l1, aI l2, aI l3] m P := callp_of (by decide +kernel) rfl (Nat.le_of_ble_eq_true rfl) rfl h
abbrev P_X7_bobbin (sc : List Int) (d : Nat) (as : List AV) (m : Mem) (P : Option AV → Mem → Prop) : Prop := CallP sc d yX7_bobbin cX7_bobbin 3 (some .int) as m P
theorem ep_X7_bobbin {sc : List Int} {d : Nat} {m : Mem} {P : Option AV → Mem → Prop} {l1 l2 : Int} (h : S_X7_bobbin sc d 0 [aR 0, aI l1, aI l2] [] m P) : P_X7_bobbin sc d [aR 0, aI l1, aI l2] m P := callp_of (by decide +kernel) rfl (Nat.le_of_ble_eq_true rfl) rfl h
abbrev P_X7_seam (sc : List Int) (d : Nat) (as : List AV) (m : Mem) (P : Option AV → Mem → Prop) : Prop := CallP sc d yX7_seam cX7_seam 3 (some .int) as m P
theorem ep_X7_seam {sc : List Int} {d : Nat} {m : Mem} {P : Option AV → Mem → Prop} {l1 l2 : Int} (h : S_X7_seam sc d 0 [aR 0, aI l1, aI l2] [] m P) : P_X7_seam sc d [aR 0, aI l1, aI l2] m P := callp_of (by decide +kernel) rfl (Nat.le_of_ble_eq_true rfl) rfl h
abbrev P_X7_row (sc : List Int) (d : Nat) (as : List AV) (m : Mem) (P : Option AV → Mem → Prop) : Prop := CallP sc d yX7_row cX7_row 5 (some .int) as m P
theorem ep_X7_row {sc : List Int} {d : Nat} {m : Mem} {P : Option AV → Mem → Prop} {l1 l2 l3 l4 : Int} (h : S_X7_row sc d 0 [aR 0, aI l1, aI l2, aI l3, aI l4] [] m P) : P_X7_row sc d [aR 0, aI l1, aI l2, aI l3, aI l4] m P := callp_of (by decide +kernel) rfl (Nat.le_of_ble_eq_true rfl) rfl h
abbrev P_X7_judge (sc : List Int) (d : Nat) (as : List AV) (m : Mem) (P : Option AV → Mem → Prop) : Prop := CallP sc d yX7_judge cX7_judge 4 (some .int) as m P
theorem ep_X7_judge {sc : List Int} {d : Nat} {m : Mem} {P : Option AV → Mem → Prop} {l1 l2 l3 : Int} (h : S_X7_judge sc d 0 [aR 0, aI l1, aI l2, aI l3] [] m P) : P_X7_judge sc d [aR 0, aI l1, aI l2, aI l3] m P := callp_of (by decide +kernel) rfl (Nat.le_of_ble_eq_true rfl) rfl h
abbrev P_X7_follow (sc : List Int) (d : Nat) (as : List AV) (m : Mem) (P : Option AV → Mem → Prop) : Prop := CallP sc d yX7_follow cX7_follow 3 (some .boolean) as m P
theorem ep_X7_follow {sc : List Int} {d : Nat} {m : Mem} {P : Option AV → Mem → Prop} {l1 l2 : Int} (h : S_X7_follow sc d 0 [aR 0, aI l1, aI l2] [] m P) : P_X7_follow sc d [aR 0, aI l1, aI l2] m P := callp_of (by decide +kernel) rfl (Nat.le_of_ble_eq_true rfl) rfl h
abbrev P_X7_isLength (sc : List Int) (d : Nat) (as : List AV) (m : Mem) (P : Option AV → Mem → Prop) : Prop := CallP sc d yX7_isLength cX7_isLength 1 (some .boolean) as m P
theorem ep_X7_isLength {sc : List Int} {d : Nat} {m : Mem} {P : Option AV → Mem → Prop} {l0 : Int} (h : S_X7_isLength sc d 0 [aI l0] [] m P) : P_X7_isLength sc d [aI l0] m P := callp_of (by decide +kernel) rfl (Nat.le_of_ble_eq_true rfl) rfl h
abbrev P_X7_weighs (sc : List Int) (d : Nat) (as : List AV) (m : Mem) (P : Option AV → Mem → Prop) : Prop := CallP sc d yX7_weighs cX7_weighs 1 (some .boolean) as m P
theorem ep_X7_weighs {sc : List Int} {d : Nat} {m : Mem} {P : Option AV → Mem → Prop} (h : S_X7_weighs sc d 0 [aR 0] [] m P) : P_X7_weighs sc d [aR 0] m P := callp_of (by decide +kernel) rfl (Nat.le_of_ble_eq_true rfl) rfl h
abbrev P_X7_mean (sc : List Int) (d : Nat) (as : List AV) (m : Mem) (P : Option AV → Mem → Prop) : Prop := CallP sc d yX7_mean cX7_mean 2 (some .int) as m P
theorem ep_X7_mean {sc : List Int} {d : Nat} {m : Mem} {P : Option AV → Mem → Prop} {l1 : Int} (h : S_X7_mean sc d 0 [aR 0, aI l1] [] m P) : P_X7_mean sc d [aR 0, aI l1] m P := callp_of (by decide +kernel) rfl (Nat.le_of_ble_eq_true rfl) rfl h
abbrev P_X7_when (sc : List Int) (d : Nat) (as : List AV) (m : Mem) (P : Option AV → Mem → Prop) : Prop := CallP sc d yX7_when cX7_when 3 (some .int) as m P
theorem ep_X7_when {sc : List Int} {d : Nat} {m : Mem} {P : Option AV → Mem → Prop} {l1 l2 : Int} (h : S_X7_when sc d 0 [aR 0, aI l1, aI l2] [] m P) : P_X7_when sc d [aR 0, aI l1, aI l2] m P := callp_of (by decide +kernel) rfl (Nat.le_of_ble_eq_true rfl) rfl h
abbrev P_X7_looks (sc : List Int) (d : Nat) (as : List AV) (m : Mem) (P : Option AV → Mem → Prop) : Prop := CallP sc d yX7_looks cX7_looks 4 (some .int) as m P
theorem ep_X7_looks {sc : List Int} {d : Nat} {m : Mem} {P : Option AV → Mem → Prop} {l1 : Int} (h : S_X7_looks sc d 0 [aR 0, aI l1, aU, aU] [] m P) : P_X7_looks sc d [aR 0, aI l1] m P := callp_of (by decide +kernel) rfl (Nat.le_of_ble_eq_true rfl) rfl h
abbrev P_X7_rule (sc : List Int) (d : Nat) (as : List AV) (m : Mem) (P : Option AV → Mem → Prop) : Prop := CallP sc d yX7_rule cX7_rule 7 (some .int) as m P
theorem ep_X7_rule {sc : List Int} {d : Nat} {m : Mem} {P : Option AV → Mem → Prop} (h : S_X7_rule sc d 0 [aR 0, aU, aU, aU, aU, aU, aU] [] m P) : P_X7_rule sc d [aR 0] m P := callp_of (by decide +kernel) rfl (Nat.le_of_ble_eq_true rfl) rfl h
abbrev P_X7_fewest (sc : List Int) (d : Nat) (as : List AV) (m : Mem) (P : Option AV → Mem → Prop) : Prop := CallP sc d yX7_fewest cX7_fewest 3 (some .int) as m P
theorem ep_X7_fewest {sc : List Int} {d : Nat} {m : Mem} {P : Option AV → Mem → Prop} {l1 l2 : Int} (h : S_X7_fewest sc d 0 [aR 0, aI l1, aI l2] [] m P) : P_X7_fewest sc d [aR 0, aI l1, aI l2] m P := callp_of (by decide +kernel) rfl (Nat.le_of_ble_eq_true rfl) rfl h
abbrev P_X7_free (sc : List Int) (d : Nat) (as : List AV) (m : Mem) (P : Option AV → Mem → Prop) : Prop := CallP sc d yX7_free cX7_free 3 (some .int) as m P
theorem ep_X7_free {sc : List Int} {d : Nat} {m : Mem} {P : Option AV → Mem → Prop} {l1 l2 : Int} (h : S_X7_free sc d 0 [aR 0, aI l1, aI l2] [] m P) : P_X7_free sc d [aR 0, aI l1, aI l2] m P := callp_of (by decide +kernel) rfl (Nat.le_of_ble_eq_true rfl) rfl h
abbrev P_X7_hidden (sc : List Int) (d : Nat) (as : List AV) (m : Mem) (P : Option AV → Mem → Prop) : Prop := CallP sc d yX7_hidden cX7_hidden 3 (some .int) as m P
theorem ep_X7_hidden {sc : List Int} {d : Nat} {m : Mem} {P : Option AV → Mem → Prop} {l1 l2 : Int} (h : S_X7_hidden sc d 0 [aR 0, aI l1, aI l2] [] m P) : P_X7_hidden sc d [aR 0, aI l1, aI l2] m P := callp_of (by decide +kernel) rfl (Nat.le_of_ble_eq_true rfl) rfl h
abbrev P_X7_several (sc : List Int) (d : Nat) (as : List AV) (m : Mem) (P : Option AV → Mem → Prop) : Prop := CallP sc d yX7_several cX7_several 3 (some .int) as m P
theorem ep_X7_several {sc : List Int} {d : Nat} {m : Mem} {P : Option AV → Mem → Prop} {l1 l2 : Int} (h : S_X7_several sc d 0 [aR 0, aI l1, aI l2] [] m P) : P_X7_several sc d [aR 0, aI l1, aI l2] m P := callp_of (by decide +kernel) rfl (Nat.le_of_ble_eq_true rfl) rfl h
abbrev P_X7_canPlan (sc : List Int) (d : Nat) (as : List AV) (m : Mem) (P : Option AV → Mem → Prop) : Prop := CallP sc d yX7_canPlan cX7_canPlan 3 (some .boolean) as m P
theorem ep_X7_canPlan {sc : List Int} {d : Nat} {m : Mem} {P : Option AV → Mem → Prop} {l1 l2 : Int} (h : S_X7_canPlan sc d 0 [aR 0, aI l1, aI l2] [] m P) : P_X7_canPlan sc d [aR 0, aI l1, aI l2] m P := callp_of (by decide +kernel) rfl (Nat.le_of_ble_eq_true rfl) rfl h
abbrev P_X7_wound (sc : List Int) (d : Nat) (as : List AV) (m : Mem) (P : Option AV → Mem → Prop) : Prop := CallP sc d yX7_wound cX7_wound 7 (some .int) as m P
theorem ep_X7_wound {sc : List Int} {d : Nat} {m : Mem} {P : Option AV → Mem → Prop} {l1 : Int} (h : S_X7_wound sc d 0 [aR 0, aI l1, aU, aU, aU, aU, aU] [] m P) : P_X7_wound sc d [aR 0, aI l1] m P := callp_of (by decide +kernel) rfl (Nat.le_of_ble_eq_true rfl) rfl h
abbrev P_X7_day (sc : List Int) (d : Nat) (as : List AV) (m : Mem) (P : Option AV → Mem → Prop) : Prop := CallP sc d yX7_day cX7_day 2 (some .int) as m P
theorem ep_X7_day {sc : List Int} {d : Nat} {m : Mem} {P : Option AV → Mem → Prop} {l1 : Int} (h : S_X7_day sc d 0 [aR 0, aI l1] [] m P) : P_X7_day sc d [aR 0, aI l1] m P := callp_of (by decide +kernel) rfl (Nat.le_of_ble_eq_true rfl) rfl h
abbrev P_X7_sew (sc : List Int) (d : Nat) (as : List AV) (m : Mem) (P : Option AV → Mem → Prop) : Prop := CallP sc d yX7_sew cX7_sew 3 (some .int) as m P
theorem ep_X7_sew {sc : List Int} {d : Nat} {m : Mem} {P : Option AV → Mem → Prop} {l1 : Int} (h : S_X7_sew sc d 0 [aR 0, aI l1, aU] [] m P) : P_X7_sew sc d [aR 0, aI l1] m P := callp_of (by decide +kernel) rfl (Nat.le_of_ble_eq_true rfl) rfl h
abbrev P_X7_glance (sc : List Int) (d : Nat) (as : List AV) (m : Mem) (P : Option AV → Mem → Prop) : Prop := CallP sc d yX7_glance cX7_glance 1 (some .int) as m P
theorem ep_X7_glance {sc : List Int} {d : Nat} {m : Mem} {P : Option AV → Mem → Prop} (h : S_X7_glance sc d 0 [aR 0] [] m P) : P_X7_glance sc d [aR 0] m P := callp_of (by decide +kernel) rfl (Nat.le_of_ble_eq_true rfl) rfl h
abbrev P_X7_sews (sc : List Int) (d : Nat) (as : List AV) (m : Mem) (P : Option AV → Mem → Prop) : Prop := CallP sc d yX7_sews cX7_sews 5 (some .int) as m P
theorem ep_X7_sews {sc : List Int} {d : Nat} {m : Mem} {P : Option AV → Mem → Prop} {l1 : Int} (h : S_X7_sews sc d 0 [aR 0, aI l1, aU, aU, aU] [] m P) : P_X7_sews sc d [aR 0, aI l1] m P := callp_of (by decide +kernel) rfl (Nat.le_of_ble_eq_true rfl) rfl h
abbrev P_X7_anew (sc : List Int) (d : Nat) (as : List AV) (m : Mem) (P : Option AV → Mem → Prop) : Prop := CallP sc d yX7_anew cX7_anew 1 (some .int) as m P
theorem ep_X7_anew {sc : List Int} {d : Nat} {m : Mem} {P : Option AV → Mem → Prop} (h : S_X7_anew sc d 0 [aR 0] [] m P) : P_X7_anew sc d [aR 0] m P := callp_of (by decide +kernel) rfl (Nat.le_of_ble_eq_true rfl) rfl h
abbrev P_X7_undo (sc : List Int) (d : Nat) (as : List AV) (m : Mem) (P : Option AV → Mem → Prop) : Prop := CallP sc d yX7_undo cX7_undo 1 (some .boolean) as m P
theorem ep_X7_undo {sc : List Int} {d : Nat} {m : Mem} {P : Option AV → Mem → Prop} (h : S_X7_undo sc d 0 [aR 0] [] m P) : P_X7_undo sc d [aR 0] m P := callp_of (by decide +kernel) rfl (Nat.le_of_ble_eq_true rfl) rfl h
abbrev P_X7_seed (sc : List Int) (d : Nat) (as : List AV) (m : Mem) (P : Option AV → Mem → Prop) : Prop := CallP sc d yX7_seed cX7_seed 2 (some .boolean) as m P
theorem ep_X7_seed {sc : List Int} {d : Nat} {m : Mem} {P : Option AV → Mem → Prop} {l1 : Int} (h : S_X7_seed sc d 0 [aR 0, aI l1] [] m P) : P_X7_seed sc d [aR 0, aI l1] m P := callp_of (by decide +kernel) rfl (Nat.le_of_ble_eq_true rfl) rfl h
abbrev P_X7_see (sc : List Int) (d : Nat) (as : List AV) (m : Mem) (P : Option AV → Mem → Prop) : Prop := CallP sc d yX7_see cX7_see 2 (some .int) as m P
theorem ep_X7_see {sc : List Int} {d : Nat} {m : Mem} {P : Option AV → Mem → Prop} (h : S_X7_see sc d 0 [aR 0, aU] [] m P) : P_X7_see sc d [aR 0] m P := callp_of (by decide +kernel) rfl (Nat.le_of_ble_eq_true rfl) rfl h
abbrev P_X7_tellsRows (sc : List Int) (d : Nat) (as : List AV) (m : Mem) (P : Option AV → Mem → Prop) : Prop := CallP sc d yX7_tellsRows cX7_tellsRows 3 (some .boolean) as m P
theorem ep_X7_tellsRows {sc : List Int} {d : Nat} {m : Mem} {P : Option AV → Mem → Prop} {l1 : Int} (h : S_X7_tellsRows sc d 0 [aR 0, aI l1, aU] [] m P) : P_X7_tellsRows sc d [aR 0, aI l1] m P := callp_of (by decide +kernel) rfl (Nat.le_of_ble_eq_true rfl) rfl h
abbrev P_X7_fits (sc : List Int) (d : Nat) (as : List AV) (m : Mem) (P : Option AV → Mem → Prop) : Prop := CallP sc d yX7_fits cX7_fits 6 (some .int) as m P
theorem ep_X7_fits {sc : List Int} {d : Nat} {m : Mem} {P : Option AV → Mem → Prop} {l1 : Int} (h : S_X7_fits sc d 0 [aR 0, aI l1, aU, aU, aU, aU] [] m P) : P_X7_fits sc d [aR 0, aI l1] m P := callp_of (by decide +kernel) rfl (Nat.le_of_ble_eq_true rfl) rfl h
abbrev P_X7_agrees (sc : List Int) (d : Nat) (as : List AV) (m : Mem) (P : Option AV → Mem → Prop) : Prop := CallP sc d yX7_agrees cX7_agrees 3 (some .boolean) as m P
theorem ep_X7_agrees {sc : List Int} {d : Nat} {m : Mem} {P : Option AV → Mem → Prop} {l1 : Int} (h : S_X7_agrees sc d 0 [aR 0, aI l1, aU] [] m P) : P_X7_agrees sc d [aR 0, aI l1] m P := callp_of (by decide +kernel) rfl (Nat.le_of_ble_eq_true rfl) rfl h
abbrev P_X7_ask (sc : List Int) (d : Nat) (as : List AV) (m : Mem) (P : Option AV → Mem → Prop) : Prop := CallP sc d yX7_ask cX7_ask 10 (some .long) as m P
theorem ep_X7_ask {sc : List Int} {d : Nat} {m : Mem} {P : Option AV → Mem → Prop} {l1 l2 : Int} (h : S_X7_ask sc d 0 [aR 0, aI l1, aI l2, aU, aU, aU, aU, aU, aU, aU] [] m P) : P_X7_ask sc d [aR 0, aI l1, aI l2] m P := callp_of (by decide +kernel) rfl (Nat.le_of_ble_eq_true rfl) rfl h
abbrev P_X7_counted (sc : List Int) (d : Nat) (as : List AV) (m : Mem) (P : Option AV → Mem → Prop) : Prop := CallP sc d yX7_counted cX7_counted 4 (some .long) as m P
theorem ep_X7_counted {sc : List Int} {d : Nat} {m : Mem} {P : Option AV → Mem → Prop} {l0 l1 l3 : Int} (h : S_X7_counted sc d 0 [aI l0, aJ l1, aU, aI l3] [] m P) : P_X7_counted sc d [aI l0, aJ l1, aI l3] m P := callp_of (by decide +kernel) rfl (Nat.le_of_ble_eq_true rfl) rfl h
abbrev P_X7_gathered (sc : List Int) (d : Nat) (as : List AV) (m : Mem) (P : Option AV → Mem → Prop) : Prop := CallP sc d yX7_gathered cX7_gathered 4 (some .long) as m P
theorem ep_X7_gathered {sc : List Int} {d : Nat} {m : Mem} {P : Option AV → Mem → Prop} {l0 l1 l3 : Int} (h : S_X7_gathered sc d 0 [aI l0, aJ l1, aU, aI l3] [] m P) : P_X7_gathered sc d [aI l0, aJ l1, aI l3] m P := callp_of (by decide +kernel) rfl (Nat.le_of_ble_eq_true rfl) rfl h
abbrev P_X7_image (sc : List Int) (d : Nat) (as : List AV) (m : Mem) (P : Option AV → Mem → Prop) : Prop := CallP sc d yX7_image cX7_image 1 (some .int) as m P
theorem ep_X7_image {sc : List Int} {d : Nat} {m : Mem} {P : Option AV → Mem → Prop} (h : S_X7_image sc d 0 [aR 0] [] m P) : P_X7_image sc d [aR 0] m P := callp_of (by decide +kernel) rfl (Nat.le_of_ble_eq_true rfl) rfl h
abbrev P_X7_checkOf (sc : List Int) (d : Nat) (as : List AV) (m : Mem) (P : Option AV → Mem → Prop) : Prop := CallP sc d yX7_checkOf cX7_checkOf 3 (some .int) as m P
theorem ep_X7_checkOf {sc : List Int} {d : Nat} {m : Mem} {P : Option AV → Mem → Prop} {l0 : Int} (h : S_X7_checkOf sc d 0 [aR l0, aU, aU] [] m P) : P_X7_checkOf sc d [aR l0] m P := callp_of (by decide +kernel) rfl (Nat.le_of_ble_eq_true rfl) rfl h
abbrev P_X7_octet (sc : List Int) (d : Nat) (as : List AV) (m : Mem) (P : Option AV → Mem → Prop) : Prop := CallP sc d yX7_octet cX7_octet 2 (some .int) as m P
theorem ep_X7_octet {sc : List Int} {d : Nat} {m : Mem} {P : Option AV → Mem → Prop} {l1 : Int} (h : S_X7_octet sc d 0 [aR 0, aI l1] [] m P) : P_X7_octet sc d [aR 0, aI l1] m P := callp_of (by decide +kernel) rfl (Nat.le_of_ble_eq_true rfl) rfl h
abbrev P_X7_on (sc : List Int) (d : Nat) (as : List AV) (m : Mem) (P : Option AV → Mem → Prop) : Prop := CallP sc d yX7_on cX7_on 2 (some .boolean) as m P
theorem ep_X7_on {sc : List Int} {d : Nat} {m : Mem} {P : Option AV → Mem → Prop} (h : S_X7_on sc d 0 [aR 0, aU] [] m P) : P_X7_on sc d [aR 0] m P := callp_of (by decide +kernel) rfl (Nat.le_of_ble_eq_true rfl) rfl h
abbrev P_X7_tellsDay (sc : List Int) (d : Nat) (as : List AV) (m : Mem) (P : Option AV → Mem → Prop) : Prop := CallP sc d yX7_tellsDay cX7_tellsDay 1 (some .boolean) as m P
theorem ep_X7_tellsDay {sc : List Int} {d : Nat} {m : Mem} {P : Option AV → Mem → Prop} (h : S_X7_tellsDay sc d 0 [aR 0] [] m P) : P_X7_tellsDay sc d [aR 0] m P := callp_of (by decide +kernel) rfl (Nat.le_of_ble_eq_true rfl) rfl h
abbrev P_X7_status (sc : List Int) (d : Nat) (as : List AV) (m : Mem) (P : Option AV → Mem → Prop) : Prop := CallP sc d yX7_status cX7_status 2 (some .int) as m P
theorem ep_X7_status {sc : List Int} {d : Nat} {m : Mem} {P : Option AV → Mem → Prop} {l1 : Int} (h : S_X7_status sc d 0 [aR 0, aI l1] [] m P) : P_X7_status sc d [aR 0, aI l1] m P := callp_of (by decide +kernel) rfl (Nat.le_of_ble_eq_true rfl) rfl h
abbrev P_X8_isIn (sc : List Int) (d : Nat) (as : List AV) (m : Mem) (P : Option AV → Mem → Prop) : Prop := CallP sc d yX8_isIn cX8_isIn 6 (some .boolean) as m P
theorem ep_X8_isIn {sc : List Int} {d : Nat} {m : Mem} {P : Option AV → Mem → Prop} {l0 l2 l4 : Int} (h : S_X8_isIn sc d 0 [aJ l0, aU, aJ l2, aU, aJ l4, aU] [] m P) : P_X8_isIn sc d [aJ l0, aJ l2, aJ l4] m P := callp_of (by decide +kernel) rfl (Nat.le_of_ble_eq_true rfl) rfl h
abbrev P_X8_feed (sc : List Int) (d : Nat) (as : List AV) (m : Mem) (P : Option AV → Mem → Prop) : Prop := CallP sc d yX8_feed cX8_feed 8 (some .int) as m P
theorem ep_X8_feed {sc : List Int} {d : Nat} {m : Mem} {P : Option AV → Mem → Prop} {l1 l2 l3 l4 l5 : Int} (h : S_X8_feed sc d 0 [aR 62, aI l1, aI l2, aI l3, aI l4, aI l5, aU, aU] [] m P) : P_X8_feed sc d [aR 62, aI l1, aI l2, aI l3, aI l4, aI l5] m P := callp_of (by decide +kernel) rfl (Nat.le_of_ble_eq_true rfl) rfl h
abbrev P_X8_end (sc : List Int) (d : Nat) (as : List AV) (m : Mem) (P : Option AV → Mem → Prop) : Prop := CallP sc d yX8_end cX8_end 2 (some .boolean) as m P
theorem ep_X8_end {sc : List Int} {d : Nat} {m : Mem} {P : Option AV → Mem → Prop} {l1 : Int} (h : S_X8_end sc d 0 [aR 62, aI l1] [] m P) : P_X8_end sc d [aR 62, aI l1] m P := callp_of (by decide +kernel) rfl (Nat.le_of_ble_eq_true rfl) rfl h
abbrev P_X8_fail (sc : List Int) (d : Nat) (as : List AV) (m : Mem) (P : Option AV → Mem → Prop) : Prop := CallP sc d yX8_fail cX8_fail 3 none as m P
theorem ep_X8_fail {sc : List Int} {d : Nat} {m : Mem} {P : Option AV → Mem → Prop} {l1 l2 : Int} (h : S_X8_fail sc d 0 [aR 62, aI l1, aI l2] [] m P) : P_X8_fail sc d [aR 62, aI l1, aI l2] m P := callp_of (by decide +kernel) rfl (Nat.le_of_ble_eq_true rfl) rfl h
abbrev P_X8_isLetter (sc : List Int) (d : Nat) (as : List AV) (m : Mem) (P : Option AV → Mem → Prop) : Prop := CallP sc d yX8_isLetter cX8_isLetter 1 (some .boolean) as m P
theorem ep_X8_isLetter {sc : List Int} {d : Nat} {m : Mem} {P : Option AV → Mem → Prop} {l0 : Int} (h : S_X8_isLetter sc d 0 [aI l0] [] m P) : P_X8_isLetter sc d [aI l0] m P := callp_of (by decide +kernel) rfl (Nat.le_of_ble_eq_true rfl) rfl h
abbrev P_X8_isDigit (sc : List Int) (d : Nat) (as : List AV) (m : Mem) (P : Option AV → Mem → Prop) : Prop := CallP sc d yX8_isDigit cX8_isDigit 1 (some .boolean) as m P
theorem ep_X8_isDigit {sc : List Int} {d : Nat} {m : Mem} {P : Option AV → Mem → Prop} {l0 : Int} (h : S_X8_isDigit sc d 0 [aI l0] [] m P) : P_X8_isDigit sc d [aI l0] m P := callp_of (by decide +kernel) rfl (Nat.le_of_ble_eq_true rfl) rfl h
abbrev P_X8_look (sc : List Int) (d : Nat) (as : List AV) (m : Mem) (P : Option AV → Mem → Prop) : Prop := CallP sc d yX8_look cX8_look 1 (some .int) as m P
theorem ep_X8_look {sc : List Int} {d : Nat} {m : Mem} {P : Option AV → Mem → Prop} (h : S_X8_look sc d 0 [aR 62] [] m P) : P_X8_look sc d [aR 62] m P := callp_of (by decide +kernel) rfl (Nat.le_of_ble_eq_true rfl) rfl h
abbrev P_X8_isHere (sc : List Int) (d : Nat) (as : List AV) (m : Mem) (P : Option AV → Mem → Prop) : Prop := CallP sc d yX8_isHere cX8_isHere 4 (some .boolean) as m P
theorem ep_X8_isHere {sc : List Int} {d : Nat} {m : Mem} {P : Option AV → Mem → Prop} {l1 : Int} (h : S_X8_isHere sc d 0 [aR 62, aR l1, aU, aU] [] m P) : P_X8_isHere sc d [aR 62, aR l1] m P := callp_of (by decide +kernel) rfl (Nat.le_of_ble_eq_true rfl) rfl h
abbrev P_X8_takes (sc : List Int) (d : Nat) (as : List AV) (m : Mem) (P : Option AV → Mem → Prop) : Prop := CallP sc d yX8_takes cX8_takes 2 (some .boolean) as m P
theorem ep_X8_takes {sc : List Int} {d : Nat} {m : Mem} {P : Option AV → Mem → Prop} {l1 : Int} (h : S_X8_takes sc d 0 [aR 62, aR l1] [] m P) : P_X8_takes sc d [aR 62, aR l1] m P := callp_of (by decide +kernel) rfl (Nat.le_of_ble_eq_true rfl) rfl h
abbrev P_X8_asks (sc : List Int) (d : Nat) (as : List AV) (m : Mem) (P : Option AV → Mem → Prop) : Prop := CallP sc d yX8_asks cX8_asks 2 none as m P
theorem ep_X8_asks {sc : List Int} {d : Nat} {m : Mem} {P : Option AV → Mem → Prop} {l1 : Int} (h : S_X8_asks sc d 0 [aR 62, aR l1] [] m P) : P_X8_asks sc d [aR 62, aR l1] m P := callp_of (by decide +kernel) rfl (Nat.le_of_ble_eq_true rfl) rfl h
abbrev P_X8_takesSign (sc : List Int) (d : Nat) (as : List AV) (m : Mem) (P : Option AV → Mem → Prop) : Prop := CallP sc d yX8_takesSign cX8_takesSign 2 (some .boolean) as m P
theorem ep_X8_takesSign {sc : List Int} {d : Nat} {m : Mem} {P : Option AV → Mem → Prop} {l1 : Int} (h : S_X8_takesSign sc d 0 [aR 62, aI l1] [] m P) : P_X8_takesSign sc d [aR 62, aI l1] m P := callp_of (by decide +kernel) rfl (Nat.le_of_ble_eq_true rfl) rfl h
abbrev P_X8_asksSign (sc : List Int) (d : Nat) (as : List AV) (m : Mem) (P : Option AV → Mem → Prop) : Prop := CallP sc d yX8_asksSign cX8_asksSign 2 none as m P
theorem ep_X8_asksSign {sc : List Int} {d : Nat} {m : Mem} {P : Option AV → Mem → Prop} {l1 : Int} (h : S_X8_asksSign sc d 0 [aR 62, aI l1] [] m P) : P_X8_asksSign sc d [aR 62, aI l1] m P := callp_of (by decide +kernel) rfl (Nat.le_of_ble_eq_true rfl) rfl h
abbrev P_X8_number (sc : List Int) (d : Nat) (as : List AV) (m : Mem) (P : Option AV → Mem → Prop) : Prop := CallP sc d yX8_number cX8_number 5 (some .int) as m P
theorem ep_X8_number {sc : List Int} {d : Nat} {m : Mem} {P : Option AV → Mem → Prop} {l1 l2 : Int} (h : S_X8_number sc d 0 [aR 62, aI l1, aI l2, aU, aU] [] m P) : P_X8_number sc d [aR 62, aI l1, aI l2] m P := callp_of (by decide +kernel) rfl (Nat.le_of_ble_eq_true rfl) rfl h
abbrev P_X8_isOwnHere (sc : List Int) (d : Nat) (as : List AV) (m : Mem) (P : Option AV → Mem → Prop) : Prop := CallP sc d yX8_isOwnHere cX8_isOwnHere 2 (some .boolean) as m P
theorem ep_X8_isOwnHere {sc : List Int} {d : Nat} {m : Mem} {P : Option AV → Mem → Prop} (h : S_X8_isOwnHere sc d 0 [aR 62, aU] [] m P) : P_X8_isOwnHere sc d [aR 62] m P := callp_of (by decide +kernel) rfl (Nat.le_of_ble_eq_true rfl) rfl h
abbrev P_X8_name (sc : List Int) (d : Nat) (as : List AV) (m : Mem) (P : Option AV → Mem → Prop) : Prop := CallP sc d yX8_name cX8_name 3 (some .long) as m P
theorem ep_X8_name {sc : List Int} {d : Nat} {m : Mem} {P : Option AV → Mem → Prop} (h : S_X8_name sc d 0 [aR 62, aU, aU] [] m P) : P_X8_name sc d [aR 62] m P := callp_of (by decide +kernel) rfl (Nat.le_of_ble_eq_true rfl) rfl h
abbrev P_X8_isAllowed (sc : List Int) (d : Nat) (as : List AV) (m : Mem) (P : Option AV → Mem → Prop) : Prop := CallP sc d yX8_isAllowed cX8_isAllowed 2 (some .boolean) as m P
theorem ep_X8_isAllowed {sc : List Int} {d : Nat} {m : Mem} {P : Option AV → Mem → Prop} {l1 : Int} (h : S_X8_isAllowed sc d 0 [aR 62, aI l1] [] m P) : P_X8_isAllowed sc d [aR 62, aI l1] m P := callp_of (by decide +kernel) rfl (Nat.le_of_ble_eq_true rfl) rfl h
abbrev P_X8_newName (sc : List Int) (d : Nat) (as : List AV) (m : Mem) (P : Option AV → Mem → Prop) : Prop := CallP sc d yX8_newName cX8_newName 5 (some .long) as m P
theorem ep_X8_newName {sc : List Int} {d : Nat} {m : Mem} {P : Option AV → Mem → Prop} (h : S_X8_newName sc d 0 [aR 62, aU, aU, aU, aU] [] m P) : P_X8_newName sc d [aR 62] m P := callp_of (by decide +kernel) rfl (Nat.le_of_ble_eq_true rfl) rfl h
abbrev P_X8_lengthTold (sc : List Int) (d : Nat) (as : List AV) (m : Mem) (P : Option AV → Mem → Prop) : Prop := CallP sc d yX8_lengthTold cX8_lengthTold 3 none as m P
theorem ep_X8_lengthTold {sc : List Int} {d : Nat} {m : Mem} {P : Option AV → Mem → Prop} (h : S_X8_lengthTold sc d 0 [aR 62, aU, aU] [] m P) : P_X8_lengthTold sc d [aR 62] m P := callp_of (by decide +kernel) rfl (Nat.le_of_ble_eq_true rfl) rfl h
abbrev P_X8_allOdds (sc : List Int) (d : Nat) (as : List AV) (m : Mem) (P : Option AV → Mem → Prop) : Prop := CallP sc d yX8_allOdds cX8_allOdds 3 (some .int) as m P
theorem ep_X8_allOdds {sc : List Int} {d : Nat} {m : Mem} {P : Option AV → Mem → Prop} (h : S_X8_allOdds sc d 0 [aR 62, aU, aU] [] m P) : P_X8_allOdds sc d [aR 62] m P := callp_of (by decide +kernel) rfl (Nat.le_of_ble_eq_true rfl) rfl h
abbrev P_X8_bobbinTold (sc : List Int) (d : Nat) (as : List AV) (m : Mem) (P : Option AV → Mem → Prop) : Prop := CallP sc d yX8_bobbinTold cX8_bobbinTold 1 none as m P
theorem ep_X8_bobbinTold {sc : List Int} {d : Nat} {m : Mem} {P : Option AV → Mem → Prop} (h : S_X8_bobbinTold sc d 0 [aR 62] [] m P) : P_X8_bobbinTold sc d [aR 62] m P := callp_of (by decide +kernel) rfl (Nat.le_of_ble_eq_true rfl) rfl h
abbrev P_X8_isWordHere (sc : List Int) (d : Nat) (as : List AV) (m : Mem) (P : Option AV → Mem → Prop) : Prop := CallP sc d yX8_isWordHere cX8_isWordHere 1 (some .boolean) as m P
theorem ep_X8_isWordHere {sc : List Int} {d : Nat} {m : Mem} {P : Option AV → Mem → Prop} (h : S_X8_isWordHere sc d 0 [aR 62] [] m P) : P_X8_isWordHere sc d [aR 62] m P := callp_of (by decide +kernel) rfl (Nat.le_of_ble_eq_true rfl) rfl h
abbrev P_X8_placeTold (sc : List Int) (d : Nat) (as : List AV) (m : Mem) (P : Option AV → Mem → Prop) : Prop := CallP sc d yX8_placeTold cX8_placeTold 4 none as m P
theorem ep_X8_placeTold {sc : List Int} {d : Nat} {m : Mem} {P : Option AV → Mem → Prop} {l1 : Int} (h : S_X8_placeTold sc d 0 [aR 62, aI l1, aU, aU] [] m P) : P_X8_placeTold sc d [aR 62, aI l1] m P := callp_of (by decide +kernel) rfl (Nat.le_of_ble_eq_true rfl) rfl h
abbrev P_X8_seamTold (sc : List Int) (d : Nat) (as : List AV) (m : Mem) (P : Option AV → Mem → Prop) : Prop := CallP sc d yX8_seamTold cX8_seamTold 5 none as m P
theorem ep_X8_seamTold {sc : List Int} {d : Nat} {m : Mem} {P : Option AV → Mem → Prop} {l1 : Int} (h : S_X8_seamTold sc d 0 [aR 62, aI l1, aU, aU, aU] [] m P) : P_X8_seamTold sc d [aR 62, aI l1] m P := callp_of (by decide +kernel) rfl (Nat.le_of_ble_eq_true rfl) rfl h
abbrev P_X8_ruleTold (sc : List Int) (d : Nat) (as : List AV) (m : Mem) (P : Option AV → Mem → Prop) : Prop := CallP sc d yX8_ruleTold cX8_ruleTold 5 none as m P
theorem ep_X8_ruleTold {sc : List Int} {d : Nat} {m : Mem} {P : Option AV → Mem → Prop} {l1 : Int} (h : S_X8_ruleTold sc d 0 [aR 62, aI l1, aU, aU, aU] [] m P) : P_X8_ruleTold sc d [aR 62, aI l1] m P := callp_of (by decide +kernel) rfl (Nat.le_of_ble_eq_true rfl) rfl h
abbrev P_X8_statementTold (sc : List Int) (d : Nat) (as : List AV) (m : Mem) (P : Option AV → Mem → Prop) : Prop := CallP sc d yX8_statementTold cX8_statementTold 2 none as m P
theorem ep_X8_statementTold {sc : List Int} {d : Nat} {m : Mem} {P : Option AV → Mem → Prop} (h : S_X8_statementTold sc d 0 [aR 62, aU] [] m P) : P_X8_statementTold sc d [aR 62] m P := callp_of (by decide +kernel) rfl (Nat.le_of_ble_eq_true rfl) rfl h
abbrev P_X8_room (sc : List Int) (d : Nat) (as : List AV) (m : Mem) (P : Option AV → Mem → Prop) : Prop := CallP sc d yX8_room cX8_room 2 (some .int) as m P
theorem ep_X8_room {sc : List Int} {d : Nat} {m : Mem} {P : Option AV → Mem → Prop} (h : S_X8_room sc d 0 [aR 62, aU] [] m P) : P_X8_room sc d [aR 62] m P := callp_of (by decide +kernel) rfl (Nat.le_of_ble_eq_true rfl) rfl h
abbrev P_X8_stands (sc : List Int) (d : Nat) (as : List AV) (m : Mem) (P : Option AV → Mem → Prop) : Prop := CallP sc d yX8_stands cX8_stands 2 none as m P
theorem ep_X8_stands {sc : List Int} {d : Nat} {m : Mem} {P : Option AV → Mem → Prop} (h : S_X8_stands sc d 0 [aR 62, aU] [] m P) : P_X8_stands sc d [aR 62] m P := callp_of (by decide +kernel) rfl (Nat.le_of_ble_eq_true rfl) rfl h
abbrev P_X8_fault (sc : List Int) (d : Nat) (as : List AV) (m : Mem) (P : Option AV → Mem → Prop) : Prop := CallP sc d yX8_fault cX8_fault 2 (some .int) as m P
theorem ep_X8_fault {sc : List Int} {d : Nat} {m : Mem} {P : Option AV → Mem → Prop} {l1 : Int} (h : S_X8_fault sc d 0 [aR 62, aI l1] [] m P) : P_X8_fault sc d [aR 62, aI l1] m P := callp_of (by decide +kernel) rfl (Nat.le_of_ble_eq_true rfl) rfl h
abbrev P_X8_lengthMany (sc : List Int) (d : Nat) (as : List AV) (m : Mem) (P : Option AV → Mem → Prop) : Prop := CallP sc d yX8_lengthMany cX8_lengthMany 1 (some .int) as m P
theorem ep_X8_lengthMany {sc : List Int} {d : Nat} {m : Mem} {P : Option AV → Mem → Prop} (h : S_X8_lengthMany sc d 0 [aR 62] [] m P) : P_X8_lengthMany sc d [aR 62] m P := callp_of (by decide +kernel) rfl (Nat.le_of_ble_eq_true rfl) rfl h
abbrev P_X8_seamMany (sc : List Int) (d : Nat) (as : List AV) (m : Mem) (P : Option AV → Mem → Prop) : Prop := CallP sc d yX8_seamMany cX8_seamMany 1 (some .int) as m P
theorem ep_X8_seamMany {sc : List Int} {d : Nat} {m : Mem} {P : Option AV → Mem → Prop} (h : S_X8_seamMany sc d 0 [aR 62] [] m P) : P_X8_seamMany sc d [aR 62] m P := callp_of (by decide +kernel) rfl (Nat.le_of_ble_eq_true rfl) rfl h
abbrev P_X8_ruleMany (sc : List Int) (d : Nat) (as : List AV) (m : Mem) (P : Option AV → Mem → Prop) : Prop := CallP sc d yX8_ruleMany cX8_ruleMany 1 (some .int) as m P
theorem ep_X8_ruleMany {sc : List Int} {d : Nat} {m : Mem} {P : Option AV → Mem → Prop} (h : S_X8_ruleMany sc d 0 [aR 62] [] m P) : P_X8_ruleMany sc d [aR 62] m P := callp_of (by decide +kernel) rfl (Nat.le_of_ble_eq_true rfl) rfl h
abbrev P_X8_settingOf (sc : List Int) (d : Nat) (as : List AV) (m : Mem) (P : Option AV → Mem → Prop) : Prop := CallP sc d yX8_settingOf cX8_settingOf 2 (some .int) as m P
theorem ep_X8_settingOf {sc : List Int} {d : Nat} {m : Mem} {P : Option AV → Mem → Prop} {l1 : Int} (h : S_X8_settingOf sc d 0 [aR 62, aI l1] [] m P) : P_X8_settingOf sc d [aR 62, aI l1] m P := callp_of (by decide +kernel) rfl (Nat.le_of_ble_eq_true rfl) rfl h
abbrev P_X8_takesOf (sc : List Int) (d : Nat) (as : List AV) (m : Mem) (P : Option AV → Mem → Prop) : Prop := CallP sc d yX8_takesOf cX8_takesOf 2 (some .int) as m P
theorem ep_X8_takesOf {sc : List Int} {d : Nat} {m : Mem} {P : Option AV → Mem → Prop} {l1 : Int} (h : S_X8_takesOf sc d 0 [aR 62, aI l1] [] m P) : P_X8_takesOf sc d [aR 62, aI l1] m P := callp_of (by decide +kernel) rfl (Nat.le_of_ble_eq_true rfl) rfl h
abbrev P_X8_isShown (sc : List Int) (d : Nat) (as : List AV) (m : Mem) (P : Option AV → Mem → Prop) : Prop := CallP sc d yX8_isShown cX8_isShown 2 (some .boolean) as m P
theorem ep_X8_isShown {sc : List Int} {d : Nat} {m : Mem} {P : Option AV → Mem → Prop} {l1 : Int} (h : S_X8_isShown sc d 0 [aR 62, aI l1] [] m P) : P_X8_isShown sc d [aR 62, aI l1] m P := callp_of (by decide +kernel) rfl (Nat.le_of_ble_eq_true rfl) rfl h
abbrev P_X8_placeMany (sc : List Int) (d : Nat) (as : List AV) (m : Mem) (P : Option AV → Mem → Prop) : Prop := CallP sc d yX8_placeMany cX8_placeMany 2 (some .int) as m P
theorem ep_X8_placeMany {sc : List Int} {d : Nat} {m : Mem} {P : Option AV → Mem → Prop} {l1 : Int} (h : S_X8_placeMany sc d 0 [aR 62, aI l1] [] m P) : P_X8_placeMany sc d [aR 62, aI l1] m P := callp_of (by decide +kernel) rfl (Nat.le_of_ble_eq_true rfl) rfl h
abbrev P_X8_placeOf (sc : List Int) (d : Nat) (as : List AV) (m : Mem) (P : Option AV → Mem → Prop) : Prop := CallP sc d yX8_placeOf cX8_placeOf 3 (some .int) as m P
theorem ep_X8_placeOf {sc : List Int} {d : Nat} {m : Mem} {P : Option AV → Mem → Prop} {l1 l2 : Int} (h : S_X8_placeOf sc d 0 [aR 62, aI l1, aI l2] [] m P) : P_X8_placeOf sc d [aR 62, aI l1, aI l2] m P := callp_of (by decide +kernel) rfl (Nat.le_of_ble_eq_true rfl) rfl h
abbrev P_X8_restOf (sc : List Int) (d : Nat) (as : List AV) (m : Mem) (P : Option AV → Mem → Prop) : Prop := CallP sc d yX8_restOf cX8_restOf 4 (some .int) as m P
theorem ep_X8_restOf {sc : List Int} {d : Nat} {m : Mem} {P : Option AV → Mem → Prop} {l1 : Int} (h : S_X8_restOf sc d 0 [aR 62, aI l1, aU, aU] [] m P) : P_X8_restOf sc d [aR 62, aI l1] m P := callp_of (by decide +kernel) rfl (Nat.le_of_ble_eq_true rfl) rfl h
abbrev P_X8_leastLength (sc : List Int) (d : Nat) (as : List AV) (m : Mem) (P : Option AV → Mem → Prop) : Prop := CallP sc d yX8_leastLength cX8_leastLength 3 (some .int) as m P
theorem ep_X8_leastLength {sc : List Int} {d : Nat} {m : Mem} {P : Option AV → Mem → Prop} (h : S_X8_leastLength sc d 0 [aR 62, aU, aU] [] m P) : P_X8_leastLength sc d [aR 62] m P := callp_of (by decide +kernel) rfl (Nat.le_of_ble_eq_true rfl) rfl h
abbrev P_X8_mostLength (sc : List Int) (d : Nat) (as : List AV) (m : Mem) (P : Option AV → Mem → Prop) : Prop := CallP sc d yX8_mostLength cX8_mostLength 3 (some .int) as m P
theorem ep_X8_mostLength {sc : List Int} {d : Nat} {m : Mem} {P : Option AV → Mem → Prop} (h : S_X8_mostLength sc d 0 [aR 62, aU, aU] [] m P) : P_X8_mostLength sc d [aR 62] m P := callp_of (by decide +kernel) rfl (Nat.le_of_ble_eq_true rfl) rfl h
abbrev P_X8_oddsFrom (sc : List Int) (d : Nat) (as : List AV) (m : Mem) (P : Option AV → Mem → Prop) : Prop := CallP sc d yX8_oddsFrom cX8_oddsFrom 4 (some .int) as m P
theorem ep_X8_oddsFrom {sc : List Int} {d : Nat} {m : Mem} {P : Option AV → Mem → Prop} {l1 : Int} (h : S_X8_oddsFrom sc d 0 [aR 62, aI l1, aU, aU] [] m P) : P_X8_oddsFrom sc d [aR 62, aI l1] m P := callp_of (by decide +kernel) rfl (Nat.le_of_ble_eq_true rfl) rfl h
abbrev P_X8_isTold (sc : List Int) (d : Nat) (as : List AV) (m : Mem) (P : Option AV → Mem → Prop) : Prop := CallP sc d yX8_isTold cX8_isTold 6 (some .boolean) as m P
theorem ep_X8_isTold {sc : List Int} {d : Nat} {m : Mem} {P : Option AV → Mem → Prop} {l1 l2 l3 : Int} (h : S_X8_isTold sc d 0 [aR 62, aI l1, aI l2, aI l3, aU, aU] [] m P) : P_X8_isTold sc d [aR 62, aI l1, aI l2, aI l3] m P := callp_of (by decide +kernel) rfl (Nat.le_of_ble_eq_true rfl) rfl h
abbrev P_X8_meantAt (sc : List Int) (d : Nat) (as : List AV) (m : Mem) (P : Option AV → Mem → Prop) : Prop := CallP sc d yX8_meantAt cX8_meantAt 3 (some .long) as m P
theorem ep_X8_meantAt {sc : List Int} {d : Nat} {m : Mem} {P : Option AV → Mem → Prop} {l1 l2 : Int} (h : S_X8_meantAt sc d 0 [aR 62, aI l1, aI l2] [] m P) : P_X8_meantAt sc d [aR 62, aI l1, aI l2] m P := callp_of (by decide +kernel) rfl (Nat.le_of_ble_eq_true rfl) rfl h
abbrev P_X8_behindMended (sc : List Int) (d : Nat) (as : List AV) (m : Mem) (P : Option AV → Mem → Prop) : Prop := CallP sc d yX8_behindMended cX8_behindMended 2 (some .long) as m P
theorem ep_X8_behindMended {sc : List Int} {d : Nat} {m : Mem} {P : Option AV → Mem → Prop} {l1 : Int} (h : S_X8_behindMended sc d 0 [aR 62, aI l1] [] m P) : P_X8_behindMended sc d [aR 62, aI l1] m P := callp_of (by decide +kernel) rfl (Nat.le_of_ble_eq_true rfl) rfl h
abbrev P_X8_unchanged (sc : List Int) (d : Nat) (as : List AV) (m : Mem) (P : Option AV → Mem → Prop) : Prop := CallP sc d yX8_unchanged cX8_unchanged 4 (some .long) as m P
theorem ep_X8_unchanged {sc : List Int} {d : Nat} {m : Mem} {P : Option AV → Mem → Prop} {l1 l2 : Int} (h : S_X8_unchanged sc d 0 [aR 62, aI l1, aI l2, aU] [] m P) : P_X8_unchanged sc d [aR 62, aI l1, aI l2] m P := callp_of (by decide +kernel) rfl (Nat.le_of_ble_eq_true rfl) rfl h
abbrev P_X8_changed (sc : List Int) (d : Nat) (as : List AV) (m : Mem) (P : Option AV → Mem → Prop) : Prop := CallP sc d yX8_changed cX8_changed 2 (some .long) as m P
theorem ep_X8_changed {sc : List Int} {d : Nat} {m : Mem} {P : Option AV → Mem → Prop} {l1 : Int} (h : S_X8_changed sc d 0 [aR 62, aI l1] [] m P) : P_X8_changed sc d [aR 62, aI l1] m P := callp_of (by decide +kernel) rfl (Nat.le_of_ble_eq_true rfl) rfl h
abbrev P_X8_looked (sc : List Int) (d : Nat) (as : List AV) (m : Mem) (P : Option AV → Mem → Prop) : Prop := CallP sc d yX8_looked cX8_looked 4 (some .long) as m P
theorem ep_X8_looked {sc : List Int} {d : Nat} {m : Mem} {P : Option AV → Mem → Prop} {l1 l2 : Int} (h : S_X8_looked sc d 0 [aR 62, aI l1, aI l2, aU] [] m P) : P_X8_looked sc d [aR 62, aI l1, aI l2] m P := callp_of (by decide +kernel) rfl (Nat.le_of_ble_eq_true rfl) rfl h
abbrev P_X8_chosen (sc : List Int) (d : Nat) (as : List AV) (m : Mem) (P : Option AV → Mem → Prop) : Prop := CallP sc d yX8_chosen cX8_chosen 10 (some .long) as m P
theorem ep_X8_chosen {sc : List Int} {d : Nat} {m : Mem} {P : Option AV → Mem → Prop} {l1 l2 l3 : Int} (h : S_X8_chosen sc d 0 [aR 62, aI l1, aI l2, aI l3, aU, aU, aU, aU, aU, aU] [] m P) : P_X8_chosen sc d [aR 62, aI l1, aI l2, aI l3] m P := callp_of (by decide +kernel) rfl (Nat.le_of_ble_eq_true rfl) rfl h
abbrev P_X8_isChange (sc : List Int) (d : Nat) (as : List AV) (m : Mem) (P : Option AV → Mem → Prop) : Prop := CallP sc d yX8_isChange cX8_isChange 4 (some .boolean) as m P
theorem ep_X8_isChange {sc : List Int} {d : Nat} {m : Mem} {P : Option AV → Mem → Prop} {l1 l2 l3 : Int} (h : S_X8_isChange sc d 0 [aR 62, aI l1, aI l2, aI l3] [] m P) : P_X8_isChange sc d [aR 62, aI l1, aI l2, aI l3] m P := callp_of (by decide +kernel) rfl (Nat.le_of_ble_eq_true rfl) rfl h
abbrev P_X8_means (sc : List Int) (d : Nat) (as : List AV) (m : Mem) (P : Option AV → Mem → Prop) : Prop := CallP sc d yX8_means cX8_means 6 none as m P
theorem ep_X8_means {sc : List Int} {d : Nat} {m : Mem} {P : Option AV → Mem → Prop} {l1 : Int} (h : S_X8_means sc d 0 [aR 62, aI l1, aU, aU, aU, aU] [] m P) : P_X8_means sc d [aR 62, aI l1] m P := callp_of (by decide +kernel) rfl (Nat.le_of_ble_eq_true rfl) rfl h
abbrev P_X8_areFew (sc : List Int) (d : Nat) (as : List AV) (m : Mem) (P : Option AV → Mem → Prop) : Prop := CallP sc d yX8_areFew cX8_areFew 1 (some .boolean) as m P
theorem ep_X8_areFew {sc : List Int} {d : Nat} {m : Mem} {P : Option AV → Mem → Prop} (h : S_X8_areFew sc d 0 [aR 62] [] m P) : P_X8_areFew sc d [aR 62] m P := callp_of (by decide +kernel) rfl (Nat.le_of_ble_eq_true rfl) rfl h
abbrev P_X8_isSewer (sc : List Int) (d : Nat) (as : List AV) (m : Mem) (P : Option AV → Mem → Prop) : Prop := CallP sc d yX8_isSewer cX8_isSewer 2 (some .boolean) as m P
theorem ep_X8_isSewer {sc : List Int} {d : Nat} {m : Mem} {P : Option AV → Mem → Prop} {l1 : Int} (h : S_X8_isSewer sc d 0 [aR 62, aI l1] [] m P) : P_X8_isSewer sc d [aR 62, aI l1] m P := callp_of (by decide +kernel) rfl (Nat.le_of_ble_eq_true rfl) rfl h
abbrev P_X8_mean (sc : List Int) (d : Nat) (as : List AV) (m : Mem) (P : Option AV → Mem → Prop) : Prop := CallP sc d yX8_mean cX8_mean 2 (some .int) as m P
theorem ep_X8_mean {sc : List Int} {d : Nat} {m : Mem} {P : Option AV → Mem → Prop} {l1 : Int} (h : S_X8_mean sc d 0 [aR 62, aI l1] [] m P) : P_X8_mean sc d [aR 62, aI l1] m P := callp_of (by decide +kernel) rfl (Nat.le_of_ble_eq_true rfl) rfl h
abbrev P_X8_isChance (sc : List Int) (d : Nat) (as : List AV) (m : Mem) (P : Option AV → Mem → Prop) : Prop := CallP sc d yX8_isChance cX8_isChance 3 (some .boolean) as m P
theorem ep_X8_isChance {sc : List Int} {d : Nat} {m : Mem} {P : Option AV → Mem → Prop} {l1 l2 : Int} (h : S_X8_isChance sc d 0 [aR 62, aI l1, aI l2] [] m P) : P_X8_isChance sc d [aR 62, aI l1, aI l2] m P := callp_of (by decide +kernel) rfl (Nat.le_of_ble_eq_true rfl) rfl h
abbrev P_X8_when (sc : List Int) (d : Nat) (as : List AV) (m : Mem) (P : Option AV → Mem → Prop) : Prop := CallP sc d yX8_when cX8_when 3 (some .int) as m P
theorem ep_X8_when {sc : List Int} {d : Nat} {m : Mem} {P : Option AV → Mem → Prop} {l1 l2 : Int} (h : S_X8_when sc d 0 [aR 62, aI l1, aI l2] [] m P) : P_X8_when sc d [aR 62, aI l1, aI l2] m P := callp_of (by decide +kernel) rfl (Nat.le_of_ble_eq_true rfl) rfl h
abbrev P_X8_looks (sc : List Int) (d : Nat) (as : List AV) (m : Mem) (P : Option AV → Mem → Prop) : Prop := CallP sc d yX8_looks cX8_looks 4 (some .int) as m P
theorem ep_X8_looks {sc : List Int} {d : Nat} {m : Mem} {P : Option AV → Mem → Prop} {l1 : Int} (h : S_X8_looks sc d 0 [aR 62, aI l1, aU, aU] [] m P) : P_X8_looks sc d [aR 62, aI l1] m P := callp_of (by decide +kernel) rfl (Nat.le_of_ble_eq_true rfl) rfl h
abbrev P_X8_rule (sc : List Int) (d : Nat) (as : List AV) (m : Mem) (P : Option AV → Mem → Prop) : Prop := CallP sc d yX8_rule cX8_rule 5 (some .int) as m P
theorem ep_X8_rule {sc : List Int} {d : Nat} {m : Mem} {P : Option AV → Mem → Prop} (h : S_X8_rule sc d 0 [aR 62, aU, aU, aU, aU] [] m P) : P_X8_rule sc d [aR 62] m P := callp_of (by decide +kernel) rfl (Nat.le_of_ble_eq_true rfl) rfl h
abbrev P_X8_changesAt (sc : List Int) (d : Nat) (as : List AV) (m : Mem) (P : Option AV → Mem → Prop) : Prop := CallP sc d yX8_changesAt cX8_changesAt 5 (some .boolean) as m P
theorem ep_X8_changesAt {sc : List Int} {d : Nat} {m : Mem} {P : Option AV → Mem → Prop} {l1 l2 l3 l4 : Int} (h : S_X8_changesAt sc d 0 [aR 62, aI l1, aI l2, aI l3, aI l4] [] m P) : P_X8_changesAt sc d [aR 62, aI l1, aI l2, aI l3, aI l4] m P := callp_of (by decide +kernel) rfl (Nat.le_of_ble_eq_true rfl) rfl h
abbrev P_X8_laysRow (sc : List Int) (d : Nat) (as : List AV) (m : Mem) (P : Option AV → Mem → Prop) : Prop := CallP sc d yX8_laysRow cX8_laysRow 7 none as m P
theorem ep_X8_laysRow {sc : List Int} {d : Nat} {m : Mem} {P : Option AV → Mem → Prop} {l1 l2 : Int} (h : S_X8_laysRow sc d 0 [aR 62, aI l1, aI l2, aU, aU, aU, aU] [] m P) : P_X8_laysRow sc d [aR 62, aI l1, aI l2] m P := callp_of (by decide +kernel) rfl (Nat.le_of_ble_eq_true rfl) rfl h
abbrev P_X8_row (sc : List Int) (d : Nat) (as : List AV) (m : Mem) (P : Option AV → Mem → Prop) : Prop := CallP sc d yX8_row cX8_row 5 (some .int) as m P
theorem ep_X8_row {sc : List Int} {d : Nat} {m : Mem} {P : Option AV → Mem → Prop} {l1 l2 l3 l4 : Int} (h : S_X8_row sc d 0 [aR 62, aI l1, aI l2, aI l3, aI l4] [] m P) : P_X8_row sc d [aR 62, aI l1, aI l2, aI l3, aI l4] m P := callp_of (by decide +kernel) rfl (Nat.le_of_ble_eq_true rfl) rfl h
abbrev P_X8_firstOf (sc : List Int) (d : Nat) (as : List AV) (m : Mem) (P : Option AV → Mem → Prop) : Prop := CallP sc d yX8_firstOf cX8_firstOf 3 (some .int) as m P
theorem ep_X8_firstOf {sc : List Int} {d : Nat} {m : Mem} {P : Option AV → Mem → Prop} {l0 l1 : Int} (h : S_X8_firstOf sc d 0 [aR l0, aI l1, aU] [] m P) : P_X8_firstOf sc d [aR l0, aI l1] m P := callp_of (by decide +kernel) rfl (Nat.le_of_ble_eq_true rfl) rfl h
abbrev P_X8_sumOf (sc : List Int) (d : Nat) (as : List AV) (m : Mem) (P : Option AV → Mem → Prop) : Prop := CallP sc d yX8_sumOf cX8_sumOf 4 (some .int) as m P
theorem ep_X8_sumOf {sc : List Int} {d : Nat} {m : Mem} {P : Option AV → Mem → Prop} {l0 l1 : Int} (h : S_X8_sumOf sc d 0 [aR l0, aI l1, aU, aU] [] m P) : P_X8_sumOf sc d [aR l0, aI l1] m P := callp_of (by decide +kernel) rfl (Nat.le_of_ble_eq_true rfl) rfl h
abbrev P_X8_judge (sc : List Int) (d : Nat) (as : List AV) (m : Mem) (P : Option AV → Mem → Prop) : Prop := CallP sc d yX8_judge cX8_judge 4 (some .int) as m P
theorem ep_X8_judge {sc : List Int} {d : Nat} {m : Mem} {P : Option AV → Mem → Prop} {l1 l2 l3 : Int} (h : S_X8_judge sc d 0 [aR 62, aI l1, aI l2, aI l3] [] m P) : P_X8_judge sc d [aR 62, aI l1, aI l2, aI l3] m P := callp_of (by decide +kernel) rfl (Nat.le_of_ble_eq_true rfl) rfl h
abbrev P_X8_has (sc : List Int) (d : Nat) (as : List AV) (m : Mem) (P : Option AV → Mem → Prop) : Prop := CallP sc d yX8_has cX8_has 2 (some .int) as m P
theorem ep_X8_has {sc : List Int} {d : Nat} {m : Mem} {P : Option AV → Mem → Prop} {l1 : Int} (h : S_X8_has sc d 0 [aR 62, aI l1] [] m P) : P_X8_has sc d [aR 62, aI l1] m P := callp_of (by decide +kernel) rfl (Nat.le_of_ble_eq_true rfl) rfl h
abbrev P_X8_letter (sc : List Int) (d : Nat) (as : List AV) (m : Mem) (P : Option AV → Mem → Prop) : Prop := CallP sc d yX8_letter cX8_letter 9 (some .int) as m P
theorem ep_X8_letter {sc : List Int} {d : Nat} {m : Mem} {P : Option AV → Mem → Prop} {l1 l2 l3 : Int} (h : S_X8_letter sc d 0 [aR 62, aI l1, aI l2, aI l3, aU, aU, aU, aU, aU] [] m P) : P_X8_letter sc d [aR 62, aI l1, aI l2, aI l3] m P := callp_of (by decide +kernel) rfl (Nat.le_of_ble_eq_true rfl) rfl h
abbrev P_X8_bobbin (sc : List Int) (d : Nat) (as : List AV) (m : Mem) (P : Option AV → Mem → Prop) : Prop := CallP sc d yX8_bobbin cX8_bobbin 3 (some .int) as m P
theorem ep_X8_bobbin {sc : List Int} {d : Nat} {m : Mem} {P : Option AV → Mem → Prop} {l1 l2 : Int} (h : S_X8_bobbin sc d 0 [aR 62, aI l1, aI l2] [] m P) : P_X8_bobbin sc d [aR 62, aI l1, aI l2] m P := callp_of (by decide +kernel) rfl (Nat.le_of_ble_eq_true rfl) rfl h
abbrev P_X8_seam (sc : List Int) (d : Nat) (as : List AV) (m : Mem) (P : Option AV → Mem → Prop) : Prop := CallP sc d yX8_seam cX8_seam 3 (some .int) as m P
theorem ep_X8_seam {sc : List Int} {d : Nat} {m : Mem} {P : Option AV → Mem → Prop} {l1 l2 : Int} (h : S_X8_seam sc d 0 [aR 62, aI l1, aI l2] [] m P) : P_X8_seam sc d [aR 62, aI l1, aI l2] m P := callp_of (by decide +kernel) rfl (Nat.le_of_ble_eq_true rfl) rfl h
abbrev P_X8_packs (sc : List Int) (d : Nat) (as : List AV) (m : Mem) (P : Option AV → Mem → Prop) : Prop := CallP sc d yX8_packs cX8_packs 5 (some .boolean) as m P
theorem ep_X8_packs {sc : List Int} {d : Nat} {m : Mem} {P : Option AV → Mem → Prop} {l1 : Int} (h : S_X8_packs sc d 0 [aR 62, aI l1, aU, aU, aU] [] m P) : P_X8_packs sc d [aR 62, aI l1] m P := callp_of (by decide +kernel) rfl (Nat.le_of_ble_eq_true rfl) rfl h
abbrev P_X8_isAsked (sc : List Int) (d : Nat) (as : List AV) (m : Mem) (P : Option AV → Mem → Prop) : Prop := CallP sc d yX8_isAsked cX8_isAsked 3 (some .boolean) as m P
theorem ep_X8_isAsked {sc : List Int} {d : Nat} {m : Mem} {P : Option AV → Mem → Prop} {l1 l2 : Int} (h : S_X8_isAsked sc d 0 [aR 62, aI l1, aI l2] [] m P) : P_X8_isAsked sc d [aR 62, aI l1, aI l2] m P := callp_of (by decide +kernel) rfl (Nat.le_of_ble_eq_true rfl) rfl h
abbrev P_X8_fewest (sc : List Int) (d : Nat) (as : List AV) (m : Mem) (P : Option AV → Mem → Prop) : Prop := CallP sc d yX8_fewest cX8_fewest 3 (some .int) as m P
theorem ep_X8_fewest {sc : List Int} {d : Nat} {m : Mem} {P : Option AV → Mem → Prop} {l1 l2 : Int} (h : S_X8_fewest sc d 0 [aR 62, aI l1, aI l2] [] m P) : P_X8_fewest sc d [aR 62, aI l1, aI l2] m P := callp_of (by decide +kernel) rfl (Nat.le_of_ble_eq_true rfl) rfl h
abbrev P_X8_binsAhead (sc : List Int) (d : Nat) (as : List AV) (m : Mem) (P : Option AV → Mem → Prop) : Prop := CallP sc d yX8_binsAhead cX8_binsAhead 4 (some .int) as m P
theorem ep_X8_binsAhead {sc : List Int} {d : Nat} {m : Mem} {P : Option AV → Mem → Prop} {l1 : Int} (h : S_X8_binsAhead sc d 0 [aR 62, aI l1, aU, aU] [] m P) : P_X8_binsAhead sc d [aR 62, aI l1] m P := callp_of (by decide +kernel) rfl (Nat.le_of_ble_eq_true rfl) rfl h
abbrev P_X8_fills (sc : List Int) (d : Nat) (as : List AV) (m : Mem) (P : Option AV → Mem → Prop) : Prop := CallP sc d yX8_fills cX8_fills 6 (some .boolean) as m P
theorem ep_X8_fills {sc : List Int} {d : Nat} {m : Mem} {P : Option AV → Mem → Prop} {l1 l2 : Int} (h : S_X8_fills sc d 0 [aR 62, aI l1, aI l2, aU, aU, aU] [] m P) : P_X8_fills sc d [aR 62, aI l1, aI l2] m P := callp_of (by decide +kernel) rfl (Nat.le_of_ble_eq_true rfl) rfl h
abbrev P_X8_free (sc : List Int) (d : Nat) (as : List AV) (m : Mem) (P : Option AV → Mem → Prop) : Prop := CallP sc d yX8_free cX8_free 4 (some .int) as m P
theorem ep_X8_free {sc : List Int} {d : Nat} {m : Mem} {P : Option AV → Mem → Prop} {l1 l2 : Int} (h : S_X8_free sc d 0 [aR 62, aI l1, aI l2, aU] [] m P) : P_X8_free sc d [aR 62, aI l1, aI l2] m P := callp_of (by decide +kernel) rfl (Nat.le_of_ble_eq_true rfl) rfl h
abbrev P_X8_mayStart (sc : List Int) (d : Nat) (as : List AV) (m : Mem) (P : Option AV → Mem → Prop) : Prop := CallP sc d yX8_mayStart cX8_mayStart 4 none as m P
theorem ep_X8_mayStart {sc : List Int} {d : Nat} {m : Mem} {P : Option AV → Mem → Prop} {l1 l2 l3 : Int} (h : S_X8_mayStart sc d 0 [aR 62, aI l1, aI l2, aI l3] [] m P) : P_X8_mayStart sc d [aR 62, aI l1, aI l2, aI l3] m P := callp_of (by decide +kernel) rfl (Nat.le_of_ble_eq_true rfl) rfl h
abbrev P_X8_laysStarts (sc : List Int) (d : Nat) (as : List AV) (m : Mem) (P : Option AV → Mem → Prop) : Prop := CallP sc d yX8_laysStarts cX8_laysStarts 4 none as m P
theorem ep_X8_laysStarts {sc : List Int} {d : Nat} {m : Mem} {P : Option AV → Mem → Prop} (h : S_X8_laysStarts sc d 0 [aR 62, aU, aU, aU] [] m P) : P_X8_laysStarts sc d [aR 62] m P := callp_of (by decide +kernel) rfl (Nat.le_of_ble_eq_true rfl) rfl h
abbrev P_X8_startsFrom (sc : List Int) (d : Nat) (as : List AV) (m : Mem) (P : Option AV → Mem → Prop) : Prop := CallP sc d yX8_startsFrom cX8_startsFrom 6 none as m P
theorem ep_X8_startsFrom {sc : List Int} {d : Nat} {m : Mem} {P : Option AV → Mem → Prop} {l1 l2 : Int} (h : S_X8_startsFrom sc d 0 [aR 62, aI l1, aI l2, aU, aU, aU] [] m P) : P_X8_startsFrom sc d [aR 62, aI l1, aI l2] m P := callp_of (by decide +kernel) rfl (Nat.le_of_ble_eq_true rfl) rfl h
abbrev P_X8_hidden (sc : List Int) (d : Nat) (as : List AV) (m : Mem) (P : Option AV → Mem → Prop) : Prop := CallP sc d yX8_hidden cX8_hidden 5 (some .int) as m P
theorem ep_X8_hidden {sc : List Int} {d : Nat} {m : Mem} {P : Option AV → Mem → Prop} {l1 l2 : Int} (h : S_X8_hidden sc d 0 [aR 62, aI l1, aI l2, aU, aU] [] m P) : P_X8_hidden sc d [aR 62, aI l1, aI l2] m P := callp_of (by decide +kernel) rfl (Nat.le_of_ble_eq_true rfl) rfl h
abbrev P_X8_lastDone (sc : List Int) (d : Nat) (as : List AV) (m : Mem) (P : Option AV → Mem → Prop) : Prop := CallP sc d yX8_lastDone cX8_lastDone 8 (some .int) as m P
theorem ep_X8_lastDone {sc : List Int} {d : Nat} {m : Mem} {P : Option AV → Mem → Prop} {l1 l2 l3 : Int} (h : S_X8_lastDone sc d 0 [aR 62, aI l1, aI l2, aI l3, aU, aU, aU, aU] [] m P) : P_X8_lastDone sc d [aR 62, aI l1, aI l2, aI l3] m P := callp_of (by decide +kernel) rfl (Nat.le_of_ble_eq_true rfl) rfl h
abbrev P_X8_several (sc : List Int) (d : Nat) (as : List AV) (m : Mem) (P : Option AV → Mem → Prop) : Prop := CallP sc d yX8_several cX8_several 9 (some .int) as m P
theorem ep_X8_several {sc : List Int} {d : Nat} {m : Mem} {P : Option AV → Mem → Prop} {l1 l2 : Int} (h : S_X8_several sc d 0 [aR 62, aI l1, aI l2, aU, aU, aU, aU, aU, aU] [] m P) : P_X8_several sc d [aR 62, aI l1, aI l2] m P := callp_of (by decide +kernel) rfl (Nat.le_of_ble_eq_true rfl) rfl h
abbrev P_X8_wound (sc : List Int) (d : Nat) (as : List AV) (m : Mem) (P : Option AV → Mem → Prop) : Prop := CallP sc d yX8_wound cX8_wound 5 (some .int) as m P
theorem ep_X8_wound {sc : List Int} {d : Nat} {m : Mem} {P : Option AV → Mem → Prop} {l1 : Int} (h : S_X8_wound sc d 0 [aR 62, aI l1, aU, aU, aU] [] m P) : P_X8_wound sc d [aR 62, aI l1] m P := callp_of (by decide +kernel) rfl (Nat.le_of_ble_eq_true rfl) rfl h
abbrev P_X8_keeps (sc : List Int) (d : Nat) (as : List AV) (m : Mem) (P : Option AV → Mem → Prop) : Prop := CallP sc d yX8_keeps cX8_keeps 2 none as m P
theorem ep_X8_keeps {sc : List Int} {d : Nat} {m : Mem} {P : Option AV → Mem → Prop} (h : S_X8_keeps sc d 0 [aR 62, aU] [] m P) : P_X8_keeps sc d [aR 62] m P := callp_of (by decide +kernel) rfl (Nat.le_of_ble_eq_true rfl) rfl h
abbrev P_X8_undo (sc : List Int) (d : Nat) (as : List AV) (m : Mem) (P : Option AV → Mem → Prop) : Prop := CallP sc d yX8_undo cX8_undo 2 (some .boolean) as m P
theorem ep_X8_undo {sc : List Int} {d : Nat} {m : Mem} {P : Option AV → Mem → Prop} (h : S_X8_undo sc d 0 [aR 62, aU] [] m P) : P_X8_undo sc d [aR 62] m P := callp_of (by decide +kernel) rfl (Nat.le_of_ble_eq_true rfl) rfl h
abbrev P_X8_seed (sc : List Int) (d : Nat) (as : List AV) (m : Mem) (P : Option AV → Mem → Prop) : Prop := CallP sc d yX8_seed cX8_seed 2 (some .boolean) as m P
theorem ep_X8_seed {sc : List Int} {d : Nat} {m : Mem} {P : Option AV → Mem → Prop} {l1 : Int} (h : S_X8_seed sc d 0 [aR 62, aI l1] [] m P) : P_X8_seed sc d [aR 62, aI l1] m P := callp_of (by decide +kernel) rfl (Nat.le_of_ble_eq_true rfl) rfl h
abbrev P_X8_drawOf (sc : List Int) (d : Nat) (as : List AV) (m : Mem) (P : Option AV → Mem → Prop) : Prop := CallP sc d yX8_drawOf cX8_drawOf 2 (some .int) as m P
theorem ep_X8_drawOf {sc : List Int} {d : Nat} {m : Mem} {P : Option AV → Mem → Prop} {l1 : Int} (h : S_X8_drawOf sc d 0 [aR 62, aI l1] [] m P) : P_X8_drawOf sc d [aR 62, aI l1] m P := callp_of (by decide +kernel) rfl (Nat.le_of_ble_eq_true rfl) rfl h
abbrev P_X8_isFresh (sc : List Int) (d : Nat) (as : List AV) (m : Mem) (P : Option AV → Mem → Prop) : Prop := CallP sc d yX8_isFresh cX8_isFresh 4 none as m P
theorem ep_X8_isFresh {sc : List Int} {d : Nat} {m : Mem} {P : Option AV → Mem → Prop} (h : S_X8_isFresh sc d 0 [aR 62, aU, aU, aU] [] m P) : P_X8_isFresh sc d [aR 62] m P := callp_of (by decide +kernel) rfl (Nat.le_of_ble_eq_true rfl) rfl h
abbrev P_X8_costs (sc : List Int) (d : Nat) (as : List AV) (m : Mem) (P : Option AV → Mem → Prop) : Prop := CallP sc d yX8_costs cX8_costs 2 none as m P
theorem ep_X8_costs {sc : List Int} {d : Nat} {m : Mem} {P : Option AV → Mem → Prop} {l1 : Int} (h : S_X8_costs sc d 0 [aR 62, aI l1] [] m P) : P_X8_costs sc d [aR 62, aI l1] m P := callp_of (by decide +kernel) rfl (Nat.le_of_ble_eq_true rfl) rfl h
abbrev P_X8_isLeft (sc : List Int) (d : Nat) (as : List AV) (m : Mem) (P : Option AV → Mem → Prop) : Prop := CallP sc d yX8_isLeft cX8_isLeft 1 (some .boolean) as m P
theorem ep_X8_isLeft {sc : List Int} {d : Nat} {m : Mem} {P : Option AV → Mem → Prop} (h : S_X8_isLeft sc d 0 [aR 62] [] m P) : P_X8_isLeft sc d [aR 62] m P := callp_of (by decide +kernel) rfl (Nat.le_of_ble_eq_true rfl) rfl h
abbrev P_X8_wouldLast (sc : List Int) (d : Nat) (as : List AV) (m : Mem) (P : Option AV → Mem → Prop) : Prop := CallP sc d yX8_wouldLast cX8_wouldLast 1 (some .boolean) as m P
theorem ep_X8_wouldLast {sc : List Int} {d : Nat} {m : Mem} {P : Option AV → Mem → Prop} (h : S_X8_wouldLast sc d 0 [aR 62] [] m P) : P_X8_wouldLast sc d [aR 62] m P := callp_of (by decide +kernel) rfl (Nat.le_of_ble_eq_true rfl) rfl h
abbrev P_X8_isSewn (sc : List Int) (d : Nat) (as : List AV) (m : Mem) (P : Option AV → Mem → Prop) : Prop := CallP sc d yX8_isSewn cX8_isSewn 3 (some .boolean) as m P
theorem ep_X8_isSewn {sc : List Int} {d : Nat} {m : Mem} {P : Option AV → Mem → Prop} {l1 : Int} (h : S_X8_isSewn sc d 0 [aR 62, aI l1, aU] [] m P) : P_X8_isSewn sc d [aR 62, aI l1] m P := callp_of (by decide +kernel) rfl (Nat.le_of_ble_eq_true rfl) rfl h
abbrev P_X8_refuses (sc : List Int) (d : Nat) (as : List AV) (m : Mem) (P : Option AV → Mem → Prop) : Prop := CallP sc d yX8_refuses cX8_refuses 1 (some .int) as m P
theorem ep_X8_refuses {sc : List Int} {d : Nat} {m : Mem} {P : Option AV → Mem → Prop} (h : S_X8_refuses sc d 0 [aR 62] [] m P) : P_X8_refuses sc d [aR 62] m P := callp_of (by decide +kernel) rfl (Nat.le_of_ble_eq_true rfl) rfl h
abbrev P_X8_day (sc : List Int) (d : Nat) (as : List AV) (m : Mem) (P : Option AV → Mem → Prop) : Prop := CallP sc d yX8_day cX8_day 2 (some .int) as m P
theorem ep_X8_day {sc : List Int} {d : Nat} {m : Mem} {P : Option AV → Mem → Prop} {l1 : Int} (h : S_X8_day sc d 0 [aR 62, aI l1] [] m P) : P_X8_day sc d [aR 62, aI l1] m P := callp_of (by decide +kernel) rfl (Nat.le_of_ble_eq_true rfl) rfl h
abbrev P_X8_sew (sc : List Int) (d : Nat) (as : List AV) (m : Mem) (P : Option AV → Mem → Prop) : Prop := CallP sc d yX8_sew cX8_sew 2 (some .int) as m P
theorem ep_X8_sew {sc : List Int} {d : Nat} {m : Mem} {P : Option AV → Mem → Prop} {l1 : Int} (h : S_X8_sew sc d 0 [aR 62, aI l1] [] m P) : P_X8_sew sc d [aR 62, aI l1] m P := callp_of (by decide +kernel) rfl (Nat.le_of_ble_eq_true rfl) rfl h
abbrev P_X8_glance (sc : List Int) (d : Nat) (as : List AV) (m : Mem) (P : Option AV → Mem → Prop) : Prop := CallP sc d yX8_glance cX8_glance 1 (some .int) as m P
theorem ep_X8_glance {sc : List Int} {d : Nat} {m : Mem} {P : Option AV → Mem → Prop} (h : S_X8_glance sc d 0 [aR 62] [] m P) : P_X8_glance sc d [aR 62] m P := callp_of (by decide +kernel) rfl (Nat.le_of_ble_eq_true rfl) rfl h
abbrev P_X8_sews (sc : List Int) (d : Nat) (as : List AV) (m : Mem) (P : Option AV → Mem → Prop) : Prop := CallP sc d yX8_sews cX8_sews 3 (some .int) as m P
theorem ep_X8_sews {sc : List Int} {d : Nat} {m : Mem} {P : Option AV → Mem → Prop} {l1 : Int} (h : S_X8_sews sc d 0 [aR 62, aI l1, aU] [] m P) : P_X8_sews sc d [aR 62, aI l1] m P := callp_of (by decide +kernel) rfl (Nat.le_of_ble_eq_true rfl) rfl h
abbrev P_X8_anew (sc : List Int) (d : Nat) (as : List AV) (m : Mem) (P : Option AV → Mem → Prop) : Prop := CallP sc d yX8_anew cX8_anew 2 (some .int) as m P
theorem ep_X8_anew {sc : List Int} {d : Nat} {m : Mem} {P : Option AV → Mem → Prop} (h : S_X8_anew sc d 0 [aR 62, aU] [] m P) : P_X8_anew sc d [aR 62] m P := callp_of (by decide +kernel) rfl (Nat.le_of_ble_eq_true rfl) rfl h
abbrev P_X8_see (sc : List Int) (d : Nat) (as : List AV) (m : Mem) (P : Option AV → Mem → Prop) : Prop := CallP sc d yX8_see cX8_see 4 (some .int) as m P
theorem ep_X8_see {sc : List Int} {d : Nat} {m : Mem} {P : Option AV → Mem → Prop} (h : S_X8_see sc d 0 [aR 62, aU, aU, aU] [] m P) : P_X8_see sc d [aR 62] m P := callp_of (by decide +kernel) rfl (Nat.le_of_ble_eq_true rfl) rfl h
abbrev P_X8_isFitting (sc : List Int) (d : Nat) (as : List AV) (m : Mem) (P : Option AV → Mem → Prop) : Prop := CallP sc d yX8_isFitting cX8_isFitting 3 (some .boolean) as m P
theorem ep_X8_isFitting {sc : List Int} {d : Nat} {m : Mem} {P : Option AV → Mem → Prop} {l1 : Int} (h : S_X8_isFitting sc d 0 [aR 62, aI l1, aU] [] m P) : P_X8_isFitting sc d [aR 62, aI l1] m P := callp_of (by decide +kernel) rfl (Nat.le_of_ble_eq_true rfl) rfl h
abbrev P_X8_fits (sc : List Int) (d : Nat) (as : List AV) (m : Mem) (P : Option AV → Mem → Prop) : Prop := CallP sc d yX8_fits cX8_fits 6 (some .int) as m P
theorem ep_X8_fits {sc : List Int} {d : Nat} {m : Mem} {P : Option AV → Mem → Prop} {l1 : Int} (h : S_X8_fits sc d 0 [aR 62, aI l1, aU, aU, aU, aU] [] m P) : P_X8_fits sc d [aR 62, aI l1] m P := callp_of (by decide +kernel) rfl (Nat.le_of_ble_eq_true rfl) rfl h
abbrev P_X8_qCode (sc : List Int) (d : Nat) (as : List AV) (m : Mem) (P : Option AV → Mem → Prop) : Prop := CallP sc d yX8_qCode cX8_qCode 2 none as m P
theorem ep_X8_qCode {sc : List Int} {d : Nat} {m : Mem} {P : Option AV → Mem → Prop} {l1 : Int} (h : S_X8_qCode sc d 0 [aR 62, aI l1] [] m P) : P_X8_qCode sc d [aR 62, aI l1] m P := callp_of (by decide +kernel) rfl (Nat.le_of_ble_eq_true rfl) rfl h
abbrev P_X8_qOpens (sc : List Int) (d : Nat) (as : List AV) (m : Mem) (P : Option AV → Mem → Prop) : Prop := CallP sc d yX8_qOpens cX8_qOpens 3 none as m P
theorem ep_X8_qOpens {sc : List Int} {d : Nat} {m : Mem} {P : Option AV → Mem → Prop} {l1 l2 : Int} (h : S_X8_qOpens sc d 0 [aR 62, aI l1, aI l2] [] m P) : P_X8_qOpens sc d [aR 62, aI l1, aI l2] m P := callp_of (by decide +kernel) rfl (Nat.le_of_ble_eq_true rfl) rfl h
abbrev P_X8_qIsOn (sc : List Int) (d : Nat) (as : List AV) (m : Mem) (P : Option AV → Mem → Prop) : Prop := CallP sc d yX8_qIsOn cX8_qIsOn 2 (some .boolean) as m P
theorem ep_X8_qIsOn {sc : List Int} {d : Nat} {m : Mem} {P : Option AV → Mem → Prop} {l1 : Int} (h : S_X8_qIsOn sc d 0 [aR 62, aI l1] [] m P) : P_X8_qIsOn sc d [aR 62, aI l1] m P := callp_of (by decide +kernel) rfl (Nat.le_of_ble_eq_true rfl) rfl h
abbrev P_X8_qDrops (sc : List Int) (d : Nat) (as : List AV) (m : Mem) (P : Option AV → Mem → Prop) : Prop := CallP sc d yX8_qDrops cX8_qDrops 1 none as m P
theorem ep_X8_qDrops {sc : List Int} {d : Nat} {m : Mem} {P : Option AV → Mem → Prop} (h : S_X8_qDrops sc d 0 [aR 62] [] m P) : P_X8_qDrops sc d [aR 62] m P := callp_of (by decide +kernel) rfl (Nat.le_of_ble_eq_true rfl) rfl h
abbrev P_X8_qIsBracket (sc : List Int) (d : Nat) (as : List AV) (m : Mem) (P : Option AV → Mem → Prop) : Prop := CallP sc d yX8_qIsBracket cX8_qIsBracket 1 (some .boolean) as m P
theorem ep_X8_qIsBracket {sc : List Int} {d : Nat} {m : Mem} {P : Option AV → Mem → Prop} {l0 : Int} (h : S_X8_qIsBracket sc d 0 [aI l0] [] m P) : P_X8_qIsBracket sc d [aI l0] m P := callp_of (by decide +kernel) rfl (Nat.le_of_ble_eq_true rfl) rfl h
abbrev P_X8_qBracket (sc : List Int) (d : Nat) (as : List AV) (m : Mem) (P : Option AV → Mem → Prop) : Prop := CallP sc d yX8_qBracket cX8_qBracket 2 (some .int) as m P
theorem ep_X8_qBracket {sc : List Int} {d : Nat} {m : Mem} {P : Option AV → Mem → Prop} (h : S_X8_qBracket sc d 0 [aR 62, aU] [] m P) : P_X8_qBracket sc d [aR 62] m P := callp_of (by decide +kernel) rfl (Nat.le_of_ble_eq_true rfl) rfl h
abbrev P_X8_qDropsToBracket (sc : List Int) (d : Nat) (as : List AV) (m : Mem) (P : Option AV → Mem → Prop) : Prop := CallP sc d yX8_qDropsToBracket cX8_qDropsToBracket 1 none as m P
theorem ep_X8_qDropsToBracket {sc : List Int} {d : Nat} {m : Mem} {P : Option AV → Mem → Prop} (h : S_X8_qDropsToBracket sc d 0 [aR 62] [] m P) : P_X8_qDropsToBracket sc d [aR 62] m P := callp_of (by decide +kernel) rfl (Nat.le_of_ble_eq_true rfl) rfl h
abbrev P_X8_qWordHere (sc : List Int) (d : Nat) (as : List AV) (m : Mem) (P : Option AV → Mem → Prop) : Prop := CallP sc d yX8_qWordHere cX8_qWordHere 1 (some .int) as m P
theorem ep_X8_qWordHere {sc : List Int} {d : Nat} {m : Mem} {P : Option AV → Mem → Prop} (h : S_X8_qWordHere sc d 0 [aR 62] [] m P) : P_X8_qWordHere sc d [aR 62] m P := callp_of (by decide +kernel) rfl (Nat.le_of_ble_eq_true rfl) rfl h
abbrev P_X8_qWordOf (sc : List Int) (d : Nat) (as : List AV) (m : Mem) (P : Option AV → Mem → Prop) : Prop := CallP sc d yX8_qWordOf cX8_qWordOf 4 (some .int) as m P
theorem ep_X8_qWordOf {sc : List Int} {d : Nat} {m : Mem} {P : Option AV → Mem → Prop} {l1 l2 : Int} (h : S_X8_qWordOf sc d 0 [aR 62, aI l1, aI l2, aU] [] m P) : P_X8_qWordOf sc d [aR 62, aI l1, aI l2] m P := callp_of (by decide +kernel) rfl (Nat.le_of_ble_eq_true rfl) rfl h
abbrev P_X8_qAsksWord (sc : List Int) (d : Nat) (as : List AV) (m : Mem) (P : Option AV → Mem → Prop) : Prop := CallP sc d yX8_qAsksWord cX8_qAsksWord 2 none as m P
theorem ep_X8_qAsksWord {sc : List Int} {d : Nat} {m : Mem} {P : Option AV → Mem → Prop} {l1 : Int} (h : S_X8_qAsksWord sc d 0 [aR 62, aI l1] [] m P) : P_X8_qAsksWord sc d [aR 62, aI l1] m P := callp_of (by decide +kernel) rfl (Nat.le_of_ble_eq_true rfl) rfl h
abbrev P_X8_qEndsPart (sc : List Int) (d : Nat) (as : List AV) (m : Mem) (P : Option AV → Mem → Prop) : Prop := CallP sc d yX8_qEndsPart cX8_qEndsPart 1 none as m P
theorem ep_X8_qEndsPart {sc : List Int} {d : Nat} {m : Mem} {P : Option AV → Mem → Prop} (h : S_X8_qEndsPart sc d 0 [aR 62] [] m P) : P_X8_qEndsPart sc d [aR 62] m P := callp_of (by decide +kernel) rfl (Nat.le_of_ble_eq_true rfl) rfl h
abbrev P_X8_qPartTold (sc : List Int) (d : Nat) (as : List AV) (m : Mem) (P : Option AV → Mem → Prop) : Prop := CallP sc d yX8_qPartTold cX8_qPartTold 6 none as m P
theorem ep_X8_qPartTold {sc : List Int} {d : Nat} {m : Mem} {P : Option AV → Mem → Prop} (h : S_X8_qPartTold sc d 0 [aR 62, aU, aU, aU, aU, aU] [] m P) : P_X8_qPartTold sc d [aR 62] m P := callp_of (by decide +kernel) rfl (Nat.le_of_ble_eq_true rfl) rfl h
abbrev P_X8_qGoesOn (sc : List Int) (d : Nat) (as : List AV) (m : Mem) (P : Option AV → Mem → Prop) : Prop := CallP sc d yX8_qGoesOn cX8_qGoesOn 2 (some .boolean) as m P
theorem ep_X8_qGoesOn {sc : List Int} {d : Nat} {m : Mem} {P : Option AV → Mem → Prop} (h : S_X8_qGoesOn sc d 0 [aR 62, aU] [] m P) : P_X8_qGoesOn sc d [aR 62] m P := callp_of (by decide +kernel) rfl (Nat.le_of_ble_eq_true rfl) rfl h
abbrev P_X8_qSums (sc : List Int) (d : Nat) (as : List AV) (m : Mem) (P : Option AV → Mem → Prop) : Prop := CallP sc d yX8_qSums cX8_qSums 3 none as m P
theorem ep_X8_qSums {sc : List Int} {d : Nat} {m : Mem} {P : Option AV → Mem → Prop} (h : S_X8_qSums sc d 0 [aR 62, aU, aU] [] m P) : P_X8_qSums sc d [aR 62] m P := callp_of (by decide +kernel) rfl (Nat.le_of_ble_eq_true rfl) rfl h
abbrev P_X8_qFact (sc : List Int) (d : Nat) (as : List AV) (m : Mem) (P : Option AV → Mem → Prop) : Prop := CallP sc d yX8_qFact cX8_qFact 2 none as m P
theorem ep_X8_qFact {sc : List Int} {d : Nat} {m : Mem} {P : Option AV → Mem → Prop} (h : S_X8_qFact sc d 0 [aR 62, aU] [] m P) : P_X8_qFact sc d [aR 62] m P := callp_of (by decide +kernel) rfl (Nat.le_of_ble_eq_true rfl) rfl h
abbrev P_X8_qHasSquare (sc : List Int) (d : Nat) (as : List AV) (m : Mem) (P : Option AV → Mem → Prop) : Prop := CallP sc d yX8_qHasSquare cX8_qHasSquare 2 (some .boolean) as m P
theorem ep_X8_qHasSquare {sc : List Int} {d : Nat} {m : Mem} {P : Option AV → Mem → Prop} (h : S_X8_qHasSquare sc d 0 [aR 62, aU] [] m P) : P_X8_qHasSquare sc d [aR 62] m P := callp_of (by decide +kernel) rfl (Nat.le_of_ble_eq_true rfl) rfl h
abbrev P_X8_qDropsNots (sc : List Int) (d : Nat) (as : List AV) (m : Mem) (P : Option AV → Mem → Prop) : Prop := CallP sc d yX8_qDropsNots cX8_qDropsNots 1 none as m P
theorem ep_X8_qDropsNots {sc : List Int} {d : Nat} {m : Mem} {P : Option AV → Mem → Prop} (h : S_X8_qDropsNots sc d 0 [aR 62] [] m P) : P_X8_qDropsNots sc d [aR 62] m P := callp_of (by decide +kernel) rfl (Nat.le_of_ble_eq_true rfl) rfl h
abbrev P_X8_qTest (sc : List Int) (d : Nat) (as : List AV) (m : Mem) (P : Option AV → Mem → Prop) : Prop := CallP sc d yX8_qTest cX8_qTest 3 none as m P
theorem ep_X8_qTest {sc : List Int} {d : Nat} {m : Mem} {P : Option AV → Mem → Prop} (h : S_X8_qTest sc d 0 [aR 62, aU, aU] [] m P) : P_X8_qTest sc d [aR 62] m P := callp_of (by decide +kernel) rfl (Nat.le_of_ble_eq_true rfl) rfl h
abbrev P_X8_qGoesOnTest (sc : List Int) (d : Nat) (as : List AV) (m : Mem) (P : Option AV → Mem → Prop) : Prop := CallP sc d yX8_qGoesOnTest cX8_qGoesOnTest 1 (some .boolean) as m P
theorem ep_X8_qGoesOnTest {sc : List Int} {d : Nat} {m : Mem} {P : Option AV → Mem → Prop} (h : S_X8_qGoesOnTest sc d 0 [aR 62] [] m P) : P_X8_qGoesOnTest sc d [aR 62] m P := callp_of (by decide +kernel) rfl (Nat.le_of_ble_eq_true rfl) rfl h
abbrev P_X8_qClip (sc : List Int) (d : Nat) (as : List AV) (m : Mem) (P : Option AV → Mem → Prop) : Prop := CallP sc d yX8_qClip cX8_qClip 2 (some .long) as m P
theorem ep_X8_qClip {sc : List Int} {d : Nat} {m : Mem} {P : Option AV → Mem → Prop} {l0 : Int} (h : S_X8_qClip sc d 0 [aJ l0, aU] [] m P) : P_X8_qClip sc d [aJ l0] m P := callp_of (by decide +kernel) rfl (Nat.le_of_ble_eq_true rfl) rfl h
abbrev P_X8_qFloor (sc : List Int) (d : Nat) (as : List AV) (m : Mem) (P : Option AV → Mem → Prop) : Prop := CallP sc d yX8_qFloor cX8_qFloor 6 (some .long) as m P
theorem ep_X8_qFloor {sc : List Int} {d : Nat} {m : Mem} {P : Option AV → Mem → Prop} {l0 l2 : Int} (h : S_X8_qFloor sc d 0 [aJ l0, aU, aJ l2, aU, aU, aU] [] m P) : P_X8_qFloor sc d [aJ l0, aJ l2] m P := callp_of (by decide +kernel) rfl (Nat.le_of_ble_eq_true rfl) rfl h
abbrev P_X8_qPuts (sc : List Int) (d : Nat) (as : List AV) (m : Mem) (P : Option AV → Mem → Prop) : Prop := CallP sc d yX8_qPuts cX8_qPuts 3 none as m P
theorem ep_X8_qPuts {sc : List Int} {d : Nat} {m : Mem} {P : Option AV → Mem → Prop} {l1 : Int} (h : S_X8_qPuts sc d 0 [aR 62, aJ l1, aU] [] m P) : P_X8_qPuts sc d [aR 62, aJ l1] m P := callp_of (by decide +kernel) rfl (Nat.le_of_ble_eq_true rfl) rfl h
abbrev P_X8_qJoins (sc : List Int) (d : Nat) (as : List AV) (m : Mem) (P : Option AV → Mem → Prop) : Prop := CallP sc d yX8_qJoins cX8_qJoins 6 none as m P
theorem ep_X8_qJoins {sc : List Int} {d : Nat} {m : Mem} {P : Option AV → Mem → Prop} {l1 : Int} (h : S_X8_qJoins sc d 0 [aR 62, aI l1, aU, aU, aU, aU] [] m P) : P_X8_qJoins sc d [aR 62, aI l1] m P := callp_of (by decide +kernel) rfl (Nat.le_of_ble_eq_true rfl) rfl h
abbrev P_X8_qPartOf (sc : List Int) (d : Nat) (as : List AV) (m : Mem) (P : Option AV → Mem → Prop) : Prop := CallP sc d yX8_qPartOf cX8_qPartOf 3 (some .long) as m P
theorem ep_X8_qPartOf {sc : List Int} {d : Nat} {m : Mem} {P : Option AV → Mem → Prop} {l1 l2 : Int} (h : S_X8_qPartOf sc d 0 [aR 62, aI l1, aI l2] [] m P) : P_X8_qPartOf sc d [aR 62, aI l1, aI l2] m P := callp_of (by decide +kernel) rfl (Nat.le_of_ble_eq_true rfl) rfl h
abbrev P_X8_qOf (sc : List Int) (d : Nat) (as : List AV) (m : Mem) (P : Option AV → Mem → Prop) : Prop := CallP sc d yX8_qOf cX8_qOf 5 (some .long) as m P
theorem ep_X8_qOf {sc : List Int} {d : Nat} {m : Mem} {P : Option AV → Mem → Prop} {l1 l2 l4 : Int} (h : S_X8_qOf sc d 0 [aR 62, aI l1, aJ l2, aU, aI l4] [] m P) : P_X8_qOf sc d [aR 62, aI l1, aJ l2, aI l4] m P := callp_of (by decide +kernel) rfl (Nat.le_of_ble_eq_true rfl) rfl h
abbrev P_X8_qTold (sc : List Int) (d : Nat) (as : List AV) (m : Mem) (P : Option AV → Mem → Prop) : Prop := CallP sc d yX8_qTold cX8_qTold 4 (some .long) as m P
theorem ep_X8_qTold {sc : List Int} {d : Nat} {m : Mem} {P : Option AV → Mem → Prop} {l1 : Int} (h : S_X8_qTold sc d 0 [aR 62, aI l1, aU, aU] [] m P) : P_X8_qTold sc d [aR 62, aI l1] m P := callp_of (by decide +kernel) rfl (Nat.le_of_ble_eq_true rfl) rfl h
abbrev P_X8_qKind (sc : List Int) (d : Nat) (as : List AV) (m : Mem) (P : Option AV → Mem → Prop) : Prop := CallP sc d yX8_qKind cX8_qKind 2 (some .int) as m P
theorem ep_X8_qKind {sc : List Int} {d : Nat} {m : Mem} {P : Option AV → Mem → Prop} (h : S_X8_qKind sc d 0 [aR 62, aU] [] m P) : P_X8_qKind sc d [aR 62] m P := callp_of (by decide +kernel) rfl (Nat.le_of_ble_eq_true rfl) rfl h
abbrev P_X8_qTakes (sc : List Int) (d : Nat) (as : List AV) (m : Mem) (P : Option AV → Mem → Prop) : Prop := CallP sc d yX8_qTakes cX8_qTakes 6 none as m P
theorem ep_X8_qTakes {sc : List Int} {d : Nat} {m : Mem} {P : Option AV → Mem → Prop} {l1 l2 l4 : Int} (h : S_X8_qTakes sc d 0 [aR 62, aI l1, aJ l2, aU, aI l4, aU] [] m P) : P_X8_qTakes sc d [aR 62, aI l1, aJ l2, aI l4] m P := callp_of (by decide +kernel) rfl (Nat.le_of_ble_eq_true rfl) rfl h
abbrev P_X8_ask (sc : List Int) (d : Nat) (as : List AV) (m : Mem) (P : Option AV → Mem → Prop) : Prop := CallP sc d yX8_ask cX8_ask 5 (some .long) as m P
theorem ep_X8_ask {sc : List Int} {d : Nat} {m : Mem} {P : Option AV → Mem → Prop} {l1 l2 : Int} (h : S_X8_ask sc d 0 [aR 62, aI l1, aI l2, aU, aU] [] m P) : P_X8_ask sc d [aR 62, aI l1, aI l2] m P := callp_of (by decide +kernel) rfl (Nat.le_of_ble_eq_true rfl) rfl h
abbrev P_X8_checked (sc : List Int) (d : Nat) (as : List AV) (m : Mem) (P : Option AV → Mem → Prop) : Prop := CallP sc d yX8_checked cX8_checked 4 (some .int) as m P
theorem ep_X8_checked {sc : List Int} {d : Nat} {m : Mem} {P : Option AV → Mem → Prop} {l0 l1 : Int} (h : S_X8_checked sc d 0 [aR l0, aI l1, aU, aU] [] m P) : P_X8_checked sc d [aR l0, aI l1] m P := callp_of (by decide +kernel) rfl (Nat.le_of_ble_eq_true rfl) rfl h
abbrev P_X8_image (sc : List Int) (d : Nat) (as : List AV) (m : Mem) (P : Option AV → Mem → Prop) : Prop := CallP sc d yX8_image cX8_image 2 (some .int) as m P
theorem ep_X8_image {sc : List Int} {d : Nat} {m : Mem} {P : Option AV → Mem → Prop} (h : S_X8_image sc d 0 [aR 62, aU] [] m P) : P_X8_image sc d [aR 62] m P := callp_of (by decide +kernel) rfl (Nat.le_of_ble_eq_true rfl) rfl h
abbrev P_X8_octet (sc : List Int) (d : Nat) (as : List AV) (m : Mem) (P : Option AV → Mem → Prop) : Prop := CallP sc d yX8_octet cX8_octet 2 (some .int) as m P
theorem ep_X8_octet {sc : List Int} {d : Nat} {m : Mem} {P : Option AV → Mem → Prop} {l1 : Int} (h : S_X8_octet sc d 0 [aR 62, aI l1] [] m P) : P_X8_octet sc d [aR 62, aI l1] m P := callp_of (by decide +kernel) rfl (Nat.le_of_ble_eq_true rfl) rfl h
abbrev P_X8_isLength (sc : List Int) (d : Nat) (as : List AV) (m : Mem) (P : Option AV → Mem → Prop) : Prop := CallP sc d yX8_isLength cX8_isLength 3 (some .boolean) as m P
theorem ep_X8_isLength {sc : List Int} {d : Nat} {m : Mem} {P : Option AV → Mem → Prop} {l1 : Int} (h : S_X8_isLength sc d 0 [aR 62, aI l1, aU] [] m P) : P_X8_isLength sc d [aR 62, aI l1] m P := callp_of (by decide +kernel) rfl (Nat.le_of_ble_eq_true rfl) rfl h
abbrev P_X8_on (sc : List Int) (d : Nat) (as : List AV) (m : Mem) (P : Option AV → Mem → Prop) : Prop := CallP sc d yX8_on cX8_on 4 (some .boolean) as m P
theorem ep_X8_on {sc : List Int} {d : Nat} {m : Mem} {P : Option AV → Mem → Prop} (h : S_X8_on sc d 0 [aR 62, aU, aU, aU] [] m P) : P_X8_on sc d [aR 62] m P := callp_of (by decide +kernel) rfl (Nat.le_of_ble_eq_true rfl) rfl h
abbrev P_X8_status (sc : List Int) (d : Nat) (as : List AV) (m : Mem) (P : Option AV → Mem → Prop) : Prop := CallP sc d yX8_status cX8_status 2 (some .int) as m P
theorem ep_X8_status {sc : List Int} {d : Nat} {m : Mem} {P : Option AV → Mem → Prop} {l1 : Int} (h : S_X8_status sc d 0 [aR 62, aI l1] [] m P) : P_X8_status sc d [aR 62, aI l1] m P := callp_of (by decide +kernel) rfl (Nat.le_of_ble_eq_true rfl) rfl h
abbrev P_J9_floorDiv_f86c9 (sc : List Int) (d : Nat) (as : List AV) (m : Mem) (P : Option AV → Mem → Prop) : Prop := CallP sc d yJ9_floorDiv_f86c9 cJ9_floorDiv_f86c9 6 (some .long) as m P
theorem ep_J9_floorDiv_f86c9 {sc : List Int} {d : Nat} {m : Mem} {P : Option AV → Mem → Prop} {l0 l2 : Int} (h : S_J9_floorDiv_f86c9 sc d 0 [aJ l0, aU, aJ l2, aU, aU, aU] [] m P) : P_J9_floorDiv_f86c9 sc d [aJ l0, aJ l2] m P := callp_of (by decide +kernel) rfl (Nat.le_of_ble_eq_true rfl) rfl h
abbrev P_J9_max_7cf53 (sc : List Int) (d : Nat) (as : List AV) (m : Mem) (P : Option AV → Mem → Prop) : Prop := CallP sc d yJ9_max_7cf53 cJ9_max_7cf53 2 (some .int) as m P
theorem ep_J9_max_7cf53 {sc : List Int} {d : Nat} {m : Mem} {P : Option AV → Mem → Prop} {l0 l1 : Int} (h : S_J9_max_7cf53 sc d 0 [aI l0, aI l1] [] m P) : P_J9_max_7cf53 sc d [aI l0, aI l1] m P := callp_of (by decide +kernel) rfl (Nat.le_of_ble_eq_true rfl) rfl h
abbrev P_J9_max_f86c9 (sc : List Int) (d : Nat) (as : List AV) (m : Mem) (P : Option AV → Mem → Prop) : Prop := CallP sc d yJ9_max_f86c9 cJ9_max_f86c9 4 (some .long) as m P
theorem ep_J9_max_f86c9 {sc : List Int} {d : Nat} {m : Mem} {P : Option AV → Mem → Prop} {l0 l2 : Int} (h : S_J9_max_f86c9 sc d 0 [aJ l0, aU, aJ l2, aU] [] m P) : P_J9_max_f86c9 sc d [aJ l0, aJ l2] m P := callp_of (by decide +kernel) rfl (Nat.le_of_ble_eq_true rfl) rfl h
abbrev P_J9_min_7cf53 (sc : List Int) (d : Nat) (as : List AV) (m : Mem) (P : Option AV → Mem → Prop) : Prop := CallP sc d yJ9_min_7cf53 cJ9_min_7cf53 2 (some .int) as m P
theorem ep_J9_min_7cf53 {sc : List Int} {d : Nat} {m : Mem} {P : Option AV → Mem → Prop} {l0 l1 : Int} (h : S_J9_min_7cf53 sc d 0 [aI l0, aI l1] [] m P) : P_J9_min_7cf53 sc d [aI l0, aI l1] m P := callp_of (by decide +kernel) rfl (Nat.le_of_ble_eq_true rfl) rfl h
abbrev P_J9_min_f86c9 (sc : List Int) (d : Nat) (as : List AV) (m : Mem) (P : Option AV → Mem → Prop) : Prop := CallP sc d yJ9_min_f86c9 cJ9_min_f86c9 4 (some .long) as m P
theorem ep_J9_min_f86c9 {sc : List Int} {d : Nat} {m : Mem} {P : Option AV → Mem → Prop} {l0 l2 : Int} (h : S_J9_min_f86c9 sc d 0 [aJ l0, aU, aJ l2, aU] [] m P) : P_J9_min_f86c9 sc d [aJ l0, aJ l2] m P := callp_of (by decide +kernel) rfl (Nat.le_of_ble_eq_true rfl) rfl h
abbrev P_J0_length_8abf5 (sc : List Int) (d : Nat) (as : List AV) (m : Mem) (P : Option AV → Mem → Prop) : Prop := CallP sc d yJ0_length_8abf5 cJ0_length_8abf5 1 (some .int) as m P
theorem ep_J0_length_8abf5 {sc : List Int} {d : Nat} {m : Mem} {P : Option AV → Mem → Prop} (h : S_J0_length_8abf5 sc d 0 [aR (-5)] [] m P) : P_J0_length_8abf5 sc d [aR (-5)] m P := callp_of (by decide +kernel) rfl (Nat.le_of_ble_eq_true rfl) rfl h
abbrev P_J0_charAt_5068e (sc : List Int) (d : Nat) (as : List AV) (m : Mem) (P : Option AV → Mem → Prop) : Prop := CallP sc d yJ0_charAt_5068e cJ0_charAt_5068e 2 (some .char) as m P
theorem ep_J0_charAt_5068e {sc : List Int} {d : Nat} {m : Mem} {P : Option AV → Mem → Prop} {l1 : Int} (h : S_J0_charAt_5068e sc d 0 [aR (-5), aI l1] [] m P) : P_J0_charAt_5068e sc d [aR (-5), aI l1] m P := callp_of (by decide +kernel) rfl (Nat.le_of_ble_eq_true rfl) rfl h
abbrev P_J0_coder_7d493 (sc : List Int) (d : Nat) (as : List AV) (m : Mem) (P : Option AV → Mem → Prop) : Prop := CallP sc d yJ0_coder_7d493 cJ0_coder_7d493 1 (some .byte) as m P
theorem ep_J0_coder_7d493 {sc : List Int} {d : Nat} {m : Mem} {P : Option AV → Mem → Prop} (h : S_J0_coder_7d493 sc d 0 [aR (-5)] [] m P) : P_J0_coder_7d493 sc d [aR (-5)] m P := callp_of (by decide +kernel) rfl (Nat.le_of_ble_eq_true rfl) rfl h
abbrev P_J0_isLatin1_aae02 (sc : List Int) (d : Nat) (as : List AV) (m : Mem) (P : Option AV → Mem → Prop) : Prop := CallP sc d yJ0_isLatin1_aae02 cJ0_isLatin1_aae02 1 (some .boolean) as m P
theorem ep_J0_isLatin1_aae02 {sc : List Int} {d : Nat} {m : Mem} {P : Option AV → Mem → Prop} (h : S_J0_isLatin1_aae02 sc d 0 [aR (-5)] [] m P) : P_J0_isLatin1_aae02 sc d [aR (-5)] m P := callp_of (by decide +kernel) rfl (Nat.le_of_ble_eq_true rfl) rfl h
abbrev P_J0_checkIndex_df160 (sc : List Int) (d : Nat) (as : List AV) (m : Mem) (P : Option AV → Mem → Prop) : Prop := CallP sc d yJ0_checkIndex_df160 cJ0_checkIndex_df160 2 none as m P
theorem ep_J0_checkIndex_df160 {sc : List Int} {d : Nat} {m : Mem} {P : Option AV → Mem → Prop} {l0 l1 : Int} (h : S_J0_checkIndex_df160 sc d 0 [aI l0, aI l1] [] m P) : P_J0_checkIndex_df160 sc d [aI l0, aI l1] m P := callp_of (by decide +kernel) rfl (Nat.le_of_ble_eq_true rfl) rfl h
abbrev P_J1_charAt_3b067 (sc : List Int) (d : Nat) (as : List AV) (m : Mem) (P : Option AV → Mem → Prop) : Prop := CallP sc d yJ1_charAt_3b067 cJ1_charAt_3b067 2 (some .char) as m P
theorem ep_J1_charAt_3b067 {sc : List Int} {d : Nat} {m : Mem} {P : Option AV → Mem → Prop} {l1 : Int} (h : S_J1_charAt_3b067 sc d 0 [aR (-6), aI l1] [] m P) : P_J1_charAt_3b067 sc d [aR (-6), aI l1] m P := callp_of (by decide +kernel) rfl (Nat.le_of_ble_eq_true rfl) rfl h
abbrev P_J3_checkIndex_8e157 (sc : List Int) (d : Nat) (as : List AV) (m : Mem) (P : Option AV → Mem → Prop) : Prop := CallP sc d yJ3_checkIndex_8e157 cJ3_checkIndex_8e157 3 (some .int) as m P
theorem ep_J3_checkIndex_8e157 {sc : List Int} {d : Nat} {m : Mem} {P : Option AV → Mem → Prop} {l0 l1 l2 : Int} (h : S_J3_checkIndex_8e157 sc d 0 [aI l0, aI l1, aR l2] [] m P) : P_J3_checkIndex_8e157 sc d [aI l0, aI l1, aR l2] m P := callp_of (by decide +kernel) rfl (Nat.le_of_ble_eq_true rfl) rfl h
