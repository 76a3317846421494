/-! contracts of constructors -/
def PcK (sc : List Int) (g : Gd) (as : List AV) (cs : CS) : Array Value → State → Prop := fun v U => v = (as.map (cv g)).toArray ∧ U.heap.size = g.1 + cs.length ∧ va_P (gD g) vwCl (cW g cs) U.heap ∧ va_K (gD g) vwCl (gT g) U ∧ Ext sc g U
def QcK (g : Gd) (cs' : CS) : Array Value → State → Outcome → State → Prop := fun _ st oc t => oc = .returned none ∧ t.heap.size = g.1 + cs'.length ∧ va_P (gD g) vwCl (cW g cs') t.heap ∧ va_F (gA g) st t
def rmk (d NC NS : Nat) : Room := { frames := d, cells := NC, slots := NS, locals := 45 * d }
def KCall (sc : List Int) (d NC NS : Nat) (y : MethodName) (cc : ByteArray) (nL : Nat) (as : List AV) (cs cs' : CS) : Prop :=
  cs.length ≤ cs'.length ∧ slc cs ≤ slc cs' ∧ cs'.length - cs.length = NC ∧ slc cs' - slc cs = NS ∧ ∀ (l : Launch) (g : Gd), Met l y (.code y cc nL none :: BW) (rmk d NC NS) (PcK sc g as cs) (QcK g cs') NC NS (gA g)
theorem PcK_blind (sc : List Int) (g : Gd) (as : List AV) (cs : CS) : FrameBlind (PcK sc g as cs) := fun a U f mk q => ⟨q.1, q.2.1, q.2.2.1, va_K.moved (u := U) (U := U.calling f mk a) (Vm.Alike.refl U.vm) q.2.2.2.1, Ext.same (s := U) (U := U.calling f mk a) q.2.2.2.2 rfl rfl⟩
def KFin (cc : ByteArray) (cs' : CS) : Nat → List AV → List AV → CS → Prop := fun pc _ st cs => decode cc pc = .ok (.return_, 1) ∧ st = [] ∧ cs = cs'
theorem kcall_of {sc : List Int} {d nL NC NS : Nat} {y : MethodName} {cc : ByteArray} {as ls : List AV} {cs cs' : CS} {o : String} {ini : Bool} (hy : plainFor y = true) (ho : y.cls = o) (hini : ini = true → y.name = "<init>") (hn : (entF as).length ≤ nL) (hl : entL as nL = ls) (h1 : cs.length ≤ cs'.length ∧ slc cs ≤ slc cs' ∧ cs'.length - cs.length = NC ∧ slc cs' - slc cs = NS)
    (h : KSim sc o cc nL ini d NC NS cs.length (slc cs) 0 ls [] cs (KFin cc cs')) : KCall sc d NC NS y cc nL as cs cs' := by
  subst ho
  subst hl
  refine ⟨h1.1, h1.2.1, h1.2.2.1, h1.2.2.2, fun l g => ?_⟩
  obtain ⟨-, -, rfl, rfl⟩ := h1
  refine va_MetF (cc := cc) (maxL := nL) (ret := none) hy rfl ?_
  intro p e s mt args below meth c s₁ B hml hv
  obtain ⟨rfl, hz, hP, hK, hE⟩ := hv
  have hts := atoms_spec (ws := .code y cc nL none :: BW) B.pre
  rw [lg_entry_eq]
  have hC : KCtx sc y.cls cc nL ini d (cs'.length - cs.length) (slc cs' - slc cs) p e (headSpec (.code y cc nL none :: BW) (rmk d (cs'.length - cs.length) (slc cs' - slc cs))).room s mt ((as.map (cv g)).toArray) meth c g := ⟨B.exec, B.bytes, hml, findClass_of_methodNamed B.named, fun w hw => hts w (List.mem_cons_of_mem _ hw), hK, hE, ⟨Nat.le_refl _, Nat.le_refl _, Nat.le_refl _, Nat.le_refl _⟩, fun hi => (name_of_methodNamed B.named B.method).1.trans (hini hi)⟩
  have w := h p l e _ s mt _ below meth c g s.heap [] _ (MQ below (QcK g cs') ((as.map (cv g)).toArray) s (cs'.length - cs.length) (slc cs' - slc cs) (gA g)) hC hP hz va_S.rf (ent_ok hE as hn) (by omega) ?_
  · rw [Nat.sub_self, Nat.sub_self] at w
    exact w
  · intro pc' ls' st' cs2 H' locs' lsC' hf hP' hz' hS' hL'
    obtain ⟨hd, rfl, rfl⟩ := hf
    exact W.vret B.exec B.bytes B.returns (fun t ht _ => ⟨rfl, by rw [ht]; exact hz', by rw [ht]; exact hP', hS'.F ht⟩) hS'.2.2 hd B.notSynchronized
section XK2
variable {sc : List Int} {o : String} {cc : ByteArray} {nL : Nat} {ini : Bool} {d NC NS n0 s0 pc pc2 : Nat} {ls st : List AV} {cs : CS} {Fi : Nat → List AV → List AV → CS → Prop}
theorem k_behind {p : Program} {l : Launch} {e : Env} {R : Room} {s : State} {mt : MethodId} {args : Array Value} {below : List Frame} {meth : Method} {c : Code} {g : Gd} {H : Heap} {locs : List Loc} {lsC : Array Slot} {cells slots mc ms : Nat} {Qw : State → Prop} {cs' : CS} {st0 rest : List Value} {a : Array Value}
    (hr : va_Run p l e R s mt args below meth c H locs cells slots mc ms (F0 mt pc lsC st0) rest (QcK g cs' a) (gA g)) (hS : va_S (gA g) s.heap H locs)
    (kk : ∀ (H1 : Heap) (locs1 : List Loc), va_P (gD g) vwCl (cW g cs') H1 → H1.size = g.1 + cs'.length → va_S (gA g) s.heap H1 locs1 → W p l e R s mt args below meth c H1 locs1 (cells + mc) (slots + ms) Qw (F0 mt (pc + 3) lsC rest)) : W p l e R s mt args below meth c H locs cells slots Qw (F0 mt pc lsC st0) := by
  intro T hT X
  obtain ⟨v, st₀, t, T', L, h0, X', hL, e1, e2, ⟨hv, hz9, hp, hz, hk⟩, st⟩ := hr T hT X
  cases hv
  rw [h0] at hz hk
  obtain ⟨t2, a1, b1⟩ := kk T'.heap (locs ++ L) (by rw [e1]; exact hp) (by rw [e1]; exact hz9) ⟨Nat.le_trans hS.1 (by rw [e1]; exact hz), fun q h1 h2 => by rw [e1, hk q (Nat.lt_of_lt_of_le h1 hS.1) h2]; exact hS.2.1 q h1 h2, fun q hq => by
      rcases List.mem_append.mp hq with h | h
      · exact hS.2.2 q h
      · exact hL q h⟩ T' rfl X'
  exact ⟨t2, st t2 a1, b1⟩
theorem k_callI {y : MethodName} {cc' : ByteArray} {nL' d' idx NC' NS' : Nat} {b : Int} {cs' : CS} (hM : KCall sc d' NC' NS' y cc' nL' [aR b] cs cs') (hk : MK y cc' nL' none 0) (hi : (y.name = "<init>" ∧ decode cc pc = .ok (.invokespecial idx, 3) ∧ Cond.instanceMethod y ∈ BW) ∨ (MV y ∧ decode cc pc = .ok (.invokevirtual idx, 3) ∧ ∃ (ci : Nat) (row : List Int) (q : vw_C), ci < 9 ∧ vwCl[ci]? = some q ∧ q.1 = y.cls ∧ b.toNat < cs.length ∧ cs.getD b.toNat (0, []) = (ci, row))) (hl : LK o idx y) (hb0 : 0 ≤ b) (hdd : d' + 1 ≤ d) (hr : (st.map acat).sum ≤ 8) (h0 : n0 ≤ cs.length ∧ s0 ≤ slc cs) (h1 : cs'.length - n0 ≤ NC ∧ slc cs' - s0 ≤ NS) (hp : pc + 3 = pc2)
    (k : KSim sc o cc nL ini d NC NS n0 s0 pc2 ls st cs' Fi) : KSim sc o cc nL ini d NC NS n0 s0 pc ls (aR b :: st) cs Fi := by
  subst hp
  intro p l e R s mt args below meth c g H locs lsC Qw hC hP hz hS hL hb hK
  have hE := hC.2.2.2.2.2.2.1
  have hts := hC.2.2.2.2.1
  have hKs := hC.2.2.2.2.2.1
  obtain ⟨q1, q2, q3, q4, q5⟩ := hk
  obtain ⟨m1, m2, m3, m4, hM⟩ := hM
  obtain ⟨f1, f2, f3, f4⟩ := hC.2.2.2.2.2.2.2.1
  have F : CallFix p mt c cc nL s args BW o := ⟨hC.1, hC.2.1, hC.2.2.1, hC.2.2.2.1, hts⟩
  have hb1 : cv g (aR b) = .ref (g.1 + b.toNat) := cv_R g b hb0
  have hPc : ∀ U : State, U.heap = H → s.WarmedH U.vm → PcK sc g [aR b] cs (Value.ref (g.1 + b.toNat) :: []).toArray U := fun U hU hW => ⟨by rw [← hb1]; rfl, by rw [hU]; exact hz, by rw [hU]; exact hP, va_K.moved hW.alike hKs, hE.call hS hU hW⟩
  have hstk : ((aR b :: st).map (cv g)) = ([] : List Value).reverse ++ Value.ref (g.1 + b.toNat) :: st.map (cv g) := by
    rw [List.map_cons, hb1]; rfl
  have hW8 : 2 * (F0 mt pc lsC ((aR b :: st).map (cv g))).monitorRoom + ((st.map (cv g)).map fun v => v.category).sum ≤ 8 := lv_room (by rw [cat_sum hE]; exact hr)
  have hroom : (rmk d' NC' NS').frames + 1 ≤ R.frames ∧ 8 + (nL' + 11) + (rmk d' NC' NS').locals ≤ R.locals := ⟨by show d' + 1 ≤ _; omega, by show 8 + (nL' + 11) + 45 * d' ≤ _; omega⟩
  have hlen : ∀ sig, parseMethodDescriptor y.desc = some sig → 0 = sig.parameters.length := fun sig h => by
    rw [h] at q4
    exact (Option.some.inj q4).symm
  have hfit : cs.length - n0 + NC' ≤ R.cells ∧ slc cs - s0 + NS' ≤ R.slots := ⟨by omega, by omega⟩
  refine k_behind (cs' := cs') (mc := NC') (ms := NS') (rest := st.map (cv g)) (a := (Value.ref (g.1 + b.toNat) :: []).toArray) ?_ hS (fun H1 locs1 hP1 hz1 hS1 => ?_)
  · rcases hi with ⟨hi1, hd, hi2⟩ | ⟨hv, hd, ci, row, q, h9, h2, h3, h4, h5⟩
    · rcases hl with hl | ⟨h, hl⟩
      · exact va_runI (As := []) F (hM l g) ⟨⟨rfl, rfl, hroom.1, hroom.2, pay_in hts (gi_code q1), List.mem_cons_self, hts _ q1, hts _ q2, q3, hlen, hts _ hl⟩, hi1, hts _ hi2⟩ ⟨PcK_blind sc g _ cs, hPc⟩ rfl rfl hL.1 hstk hW8 hd hfit
      · exact va_runIN (As := []) F (hM l g) ⟨⟨⟨rfl, rfl, hroom.1, hroom.2, pay_in hts (gi_code q1), List.mem_cons_self⟩, hts _ q1, hts _ q2, q3, hlen, nw_use hl (hE.1 _ hl)⟩, hi1, hts _ hi2⟩ ⟨PcK_blind sc g _ cs, hPc⟩ rfl rfl hL.1 hstk hW8 hd hfit
    · have hrecv : ∃ cell : Cell, H[g.1 + b.toNat]? = some cell ∧ cell.vm.isStatics = false ∧ s.vm.findClass y.cls = some cell.cls := by
        have hg := cW_get g cs h4
        have eo : cE g (ci, row) = .inr (ci, (List.range (nfl ci)).map (fun i => cfv g ci i (row.getD i 0))) := by
          unfold cE
          rw [if_neg (show ¬ ci = 100 by omega), if_neg (show ¬ ci = 101 by omega), if_neg (show ¬ ci = 102 by omega)]
        rw [h5, eo] at hg
        rw [← h3]
        exact va_recv hKs hP h2 hg
      rcases hl with hl | ⟨h, hl⟩
      · exact va_runV (As := []) F (hM l g) ⟨⟨rfl, rfl, hroom.1, hroom.2, pay_in hts (gi_code q1), List.mem_cons_self, hts _ q1, hts _ q2, q3, hlen, hts _ hl⟩, hts _ hv.1, hts _ hv.2⟩ ⟨PcK_blind sc g _ cs, hrecv, hPc⟩ rfl rfl hL.1 hstk hW8 hd hfit
      · exact va_runVN (As := []) F (hM l g) ⟨⟨⟨rfl, rfl, hroom.1, hroom.2, pay_in hts (gi_code q1), List.mem_cons_self⟩, hts _ q1, hts _ q2, q3, hlen, nw_use hl (hE.1 _ hl)⟩, hts _ hv.1, hts _ hv.2⟩ ⟨PcK_blind sc g _ cs, hrecv, hPc⟩ rfl rfl hL.1 hstk hW8 hd hfit
  · have k := k p l e R s mt args below meth c g H1 locs1 lsC Qw hC hP1 hz1 hS1 hL hb hK
    rw [show cs.length - n0 + NC' = cs'.length - n0 by omega, show slc cs - s0 + NS' = slc cs' - s0 by omega]
    exact k
end XK2
