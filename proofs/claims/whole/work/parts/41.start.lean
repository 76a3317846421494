/-! THE CLAIM OUT OF ONE WALK OF THE LAW'S BODY. Your part is whole_start (and what it stands on); all else here is the same for every law, but numbers. -/
def R_law : String := "BelowThreadLaw"
def lw_P (b : Addr) (xs : List Int32) (args : Array Value) (s : State) : Prop := args = #[.ref b] ∧ s.IntsAt b xs ∧ xs.length ≤ 3072 ∧ (Jvm.Cond.and given_1 narrow_1).before args s = true
def lw_Q (_ : Array Value) (s : State) (o : Outcome) (t : State) : Prop := o = .returned (some (.int 1)) ∧ Framed s o t [] 600000 7302250
def lw_Z (below : List Frame) (a : Array Value) (s : State) : State → Prop := fun t => ∃ o, t.status = .running ∧ Ended t below o ∧ lw_Q a s o t
/-- the law's own end, with 1 on the stack, nothing written that was there before, its room as the claim has it -/
theorem lw_ret {p : Program} {l : Launch} {e : Env} {s : State} {m : MethodId} {below : List Frame} {meth : Method} {c : Code} {b : Nat} (hx : p.tables.exec = Jvm.exec) (hb : c.code = code) (hr : meth.sig.returnType = ret) (hlocks : meth.locks = false) {pc : Nat} {H : Heap} {ls : Array Slot} (hdg : decode code pc = .ok (.ireturn, 1)) : W p l e room_1 s m #[Value.ref b] below meth c H [] 600000 7302250 (lw_Z below #[Value.ref b] s) (F0 m pc ls [.int 1]) := by
  intro T hT X
  obtain ⟨fs, hret, hrun, hended, hW, hframe⟩ := X.leave (v := some (.int 1)) (hlocks := hlocks) (fun h => by rw [hr] at h; cases h)
  have hmeth' : T.vm.method? m = some meth := X.method'
  refine ⟨T.setFrames fs, ?_, .returned (some (.int 1)), hrun, hended, rfl, ⟨_, rfl⟩, hW, hframe⟩
  jvm_step X.here [X.here.top, hx, hb, hdg, hmeth', hr, ret, narrow_b1]
  (try refine ⟨rfl, ?_⟩); (try refine ⟨rfl, ?_⟩)
  first | (intro acts; rw [hret _ acts rfl rfl rfl]) | rw [hret _ _ rfl rfl rfl]
  exact Steps.refl _
/-- what holds at the law's entry: the machine, the code, the tables' words (any of lw_tbl by 'hts w (by decide +kernel)'), the script of L ints xs at the cell b, what the Statement gives of the start (any of its parts by flat_of_before) -/
def lw_At (p : Program) (s : State) (m : MethodId) (meth : Method) (c : Code) (b L : Nat) (xs : Nat → Int32) : Prop :=
  p.tables.exec = Jvm.exec ∧ c.code = code ∧ meth.sig.returnType = ret ∧ c.maxLocals = 4 ∧ s.vm.findClass R_law = some m.cls ∧ (∀ w ∈ lw_tbl, w.before #[Value.ref b] s = true) ∧ va_X b L xs s s.heap ∧ b < s.heap.size ∧ meth.locks = false ∧ (Jvm.Cond.and given_1 narrow_1).before #[Value.ref b] s = true
/-! from the law's entry to its loop -/
def m0 : Mem := fun a j => ((w_173.getD a.toNat (0, [])).2).getD j.toNat 0
def w0ok (k : Nat) : Bool := (w_173.getD k (0, [])).1 == (sk k).1 && (if (sk k).1 < 100 then (List.range (nfl (sk k).1)).all (fun j => fty (sk k).1 j != 2 || ((w_173.getD k (0, [])).2).getD j 0 == rfo k j) else ((w_173.getD k (0, [])).2).length == (sk k).2.1)
set_option maxRecDepth 40000 in
theorem w0_len : w_173.length = 152 := by decide +kernel
set_option maxRecDepth 40000 in
theorem w0_slc : slc w_173 = 19489 := by decide +kernel
set_option maxRecDepth 40000 in
theorem w0_ok : (List.range 152).all w0ok = true := by decide +kernel
theorem w0_eq (g : Gd) : cW g w_173 = wW g m0 := by
  unfold cW wW
  rw [w0_len]
  apply List.map_congr_left
  intro k hk
  have hk' : k < 152 := List.mem_range.mp hk
  have h := List.all_eq_true.mp w0_ok k hk
  have e0 : ∀ j : Nat, m0 (k : Int) (j : Int) = ((w_173.getD k (0, [])).2).getD j 0 := fun j => by simp [m0]
  have e0' : ∀ j : Nat, m0 k j = ((w_173.getD k (0, [])).2).getD j 0 := e0
  simp only [w0ok, Bool.and_eq_true, beq_iff_eq] at h
  obtain ⟨h1, h2⟩ := h
  refine congrArg (Prod.mk _) ?_
  generalize w_173.getD k (0, []) = q at h1 h2 e0'
  unfold cE eC
  rw [← h1] at h2 ⊢
  by_cases c0 : q.1 = 100
  · rw [if_pos c0, if_pos c0]
    rw [if_neg (by omega)] at h2
    rw [← eq_of_beq h2]
    simp only [e0']
  · rw [if_neg c0, if_neg c0]
    by_cases c1 : q.1 = 101
    · rw [if_pos c1, if_pos c1]
      rw [if_neg (by omega)] at h2
      rw [← eq_of_beq h2]
      simp only [e0']
    · rw [if_neg c1, if_neg c1]
      by_cases c2 : q.1 = 102
      · rw [if_pos c2, if_pos c2]
        rw [if_neg (by omega)] at h2
        rw [← eq_of_beq h2]
        simp only [e0']
      · rw [if_neg c2, if_neg c2]
        congr 2
        apply List.map_congr_left
        intro j hj
        unfold cfv fVal
        rw [← h1]
        by_cases t1 : fty q.1 j = 1
        · rw [if_pos t1, if_pos t1, e0']
        · rw [if_neg t1, if_neg t1]
          by_cases t2 : fty q.1 j = 2
          · rw [if_pos t2, if_pos (Or.inl t2)]
            by_cases c3 : q.1 < 100
            · rw [if_pos c3] at h2
              have h3 := List.all_eq_true.mp h2 j hj
              simp only [t2, bne_self_eq_false, Bool.false_or, beq_iff_eq] at h3
              rw [h3]
            · exfalso
              have : nfl q.1 = 0 := by
                unfold nfl
                rw [List.getD_eq_getElem?_getD, List.getElem?_eq_none (by show 9 ≤ q.1; omega)]
                rfl
              rw [this] at hj
              cases hj
          · rw [if_neg t2]
            by_cases t3 : fty q.1 j = 3
            · rw [if_pos t3, if_pos (Or.inr t3), e0']
            · rw [if_neg t3, if_neg (by omega), e0']
/-- the classes' numbers and slots -/
theorem st_K {s : State} {A : Array Value} (hts : ∀ w ∈ lw_tbl, w.before A s = true) : ∃ D : va_G, (∀ (c : Nat) (q : vw_C), vwCl[c]? = some q → u_Kn s q.1 q.2.1 q.2.2 (D.1 c) (D.2 c)) := by
  have hB : ∀ w ∈ BW, w.before A s = true := fun w hw => hts w (List.mem_filter.mp hw).1
  have h : ∀ c : Nat, ∃ z : ClassId × (Nat → Nat), ∀ q : vw_C, vwCl[c]? = some q → u_Kn s q.1 q.2.1 q.2.2 z.1 z.2 := by
    intro c
    match c with
    | 0 => obtain ⟨a, b, h⟩ := u_known hB cf0 (hts (Cond.instantiable RX0 2) (by decide +kernel)); exact ⟨(a, b), fun q hq => by cases hq; exact h⟩
    | 1 => obtain ⟨a, b, h⟩ := u_known hB cf1 (hts (Cond.instantiable RX1 9) (by decide +kernel)); exact ⟨(a, b), fun q hq => by cases hq; exact h⟩
    | 2 => obtain ⟨a, b, h⟩ := u_known hB cf2 (hts (Cond.instantiable RX2 9) (by decide +kernel)); exact ⟨(a, b), fun q hq => by cases hq; exact h⟩
    | 3 => obtain ⟨a, b, h⟩ := u_known hB cf3 (hts (Cond.instantiable RX3 3) (by decide +kernel)); exact ⟨(a, b), fun q hq => by cases hq; exact h⟩
    | 4 => obtain ⟨a, b, h⟩ := u_known hB cf4 (hts (Cond.instantiable RX4 19) (by decide +kernel)); exact ⟨(a, b), fun q hq => by cases hq; exact h⟩
    | 5 => obtain ⟨a, b, h⟩ := u_known hB cf5 (hts (Cond.instantiable RX5 12) (by decide +kernel)); exact ⟨(a, b), fun q hq => by cases hq; exact h⟩
    | 6 => obtain ⟨a, b, h⟩ := u_known hB cf6 (hts (Cond.instantiable RX6 16) (by decide +kernel)); exact ⟨(a, b), fun q hq => by cases hq; exact h⟩
    | 7 => obtain ⟨a, b, h⟩ := u_known hB cf7 (hts (Cond.instantiable RX7 14) (by decide +kernel)); exact ⟨(a, b), fun q hq => by cases hq; exact h⟩
    | 8 => obtain ⟨a, b, h⟩ := u_known hB cf8 (hts (Cond.instantiable RX8 123) (by decide +kernel)); exact ⟨(a, b), fun q hq => by cases hq; exact h⟩
    | c + 9 => exact ⟨(0, fun _ => 0), fun q hq => by cases hq⟩
  obtain ⟨f, hf⟩ := Classical.axiomOfChoice h
  exact ⟨(fun c => (f c).1, fun c => (f c).2), fun c q hq => hf c q hq⟩
theorem st_arrI {s : State} {A : Array Value} (h : (Cond.arrayClass .int).before A s = true) : ∃ cA : ClassId, ArrOfT s cA .int ∧ va_RA s cA .int := by
  obtain ⟨cA, kA, comp, hfind, hk, hkind⟩ := Cond.arrayClass_spec h
  exact ⟨cA, fun n z => ⟨fun k h => (by cases h), kA, hk, comp, hkind⟩, hfind⟩
theorem st_arrJ {s : State} {A : Array Value} (h : (Cond.arrayClass .long).before A s = true) : ∃ cA : ClassId, ArrOfT s cA .long ∧ va_RA s cA .long := by
  obtain ⟨cA, kA, comp, hfind, hk, hkind⟩ := Cond.arrayClass_spec h
  exact ⟨cA, fun n z => ⟨fun k h => (by cases h), kA, hk, comp, hkind⟩, hfind⟩
theorem st_arrC {s : State} {A : Array Value} (h : (Cond.arrayClass .char).before A s = true) : ∃ cA : ClassId, ArrOfT s cA .char ∧ va_RA s cA .char := by
  obtain ⟨cA, kA, comp, hfind, hk, hkind⟩ := Cond.arrayClass_spec h
  exact ⟨cA, fun n z => ⟨fun k h => (by cases h), kA, hk, comp, hkind⟩, hfind⟩
theorem st_tab {s : State} {A : Array Value} {f : String} {l : List Int} {G : Nat → Prop} (hl : l.length = 6) (hA : ∀ a : Nat, a < s.heap.size → ¬ G a) (h1 : (Cond.arrayOf (.static RX7 f "[I") .int).before A s = true) (h2 : (Cond.eq (.length (.static RX7 f "[I")) (.int 6)).before A s = true) (h3 : ∀ j : Nat, j < 6 → (Cond.eq (.elem (.static RX7 f "[I") (.int (Int32.ofNat j))) (.int (Int32.ofInt (l.getD j 0)))).before A s = true) (h4 : (Cond.laysStatic RX7 f "[I").before A s = true) (h5 : (Cond.initialized RX7).before A s = true) :
    ∃ t : Nat, va_Z RX7 f "[I" (.ref t) G s s.heap ∧ va_T .int t l.length (fun j => .int (Int32.ofInt (l.getD j 0))) G s s.heap := by
  rw [hl]
  obtain ⟨t, e, h⟩ := va_Tof (N := 6) (f := fun j => .int (Int32.ofInt (l.getD j 0))) (by decide) h1 (va_eqt h2) (fun j hj => va_eqt (h3 j hj)) hA
  exact ⟨t, va_Zref h4 h5 e hA, h⟩
def GV : List Cond := flatC (Jvm.Cond.and given_1 narrow_1)
set_option maxRecDepth 40000 in
theorem gv_b : ∀ j : Nat, j < 183 → GV[40 + j]? = some (Cond.eq (.elem (.field (.string RX5 69) "java/lang/String" "value" "[B") (.int (Int32.ofNat j))) (.int (TXB.getD j 0))) := by decide +kernel
set_option maxRecDepth 40000 in
theorem gv_w : ∀ j : Nat, j < 6 → Cond.eq (.elem (.static RX7 "WITHOUT" "[I") (.int (Int32.ofNat j))) (.int (Int32.ofInt ((xt [] (-2)).getD j 0))) ∈ GV := by decide +kernel
set_option maxRecDepth 40000 in
theorem gv_l : ∀ j : Nat, j < 6 → Cond.eq (.elem (.static RX7 "LOWEST" "[I") (.int (Int32.ofNat j))) (.int (Int32.ofInt ((xt [] (-3)).getD j 0))) ∈ GV := by decide +kernel
set_option maxRecDepth 40000 in
theorem gv_h : ∀ j : Nat, j < 6 → Cond.eq (.elem (.static RX7 "HIGHEST" "[I") (.int (Int32.ofNat j))) (.int (Int32.ofInt ((xt [] (-4)).getD j 0))) ∈ GV := by decide +kernel
set_option maxRecDepth 40000 in
theorem txb_len : TXB.length = 183 := by decide +kernel
theorem txb_lt : [TXB.length].getD 0 0 < 2 ^ 31 := by
  rw [List.getD_cons_zero, txb_len]
  decide
/-- the walk of the law's body: out of what its loop does -/
theorem whole_start_of {p : Program} {e : Env} {s : State} {m : MethodId} {below : List Frame} {meth : Method} {c : Code} (l : Launch) {b L : Nat} {xs : Nat → Int32} (hL : L ≤ 3072) (C0 : lw_At p s m meth c b L xs)
    (hlaw : ∀ sc : List Int, sc.length ≤ 3072 → (∀ i : Nat, -2147483648 ≤ sc.getD i 0 ∧ sc.getD i 0 < 2147483648) → S_L_law sc 1800 18 [aR (-7), aR 0, aR 62, aI 0] [] m0 (fun v _ => v = some (aI 1))) : W p l e room_1 s m #[Value.ref b] below meth c s.heap [] 0 0 (lw_Z below #[Value.ref b] s) (entryFrame m ([Value.ref b] : List Value).toArray 4) := by
  obtain ⟨hx, hcode, hret, hml, hown, hts, hX, hb, hlocks, hgv⟩ := C0
  have hgs := flat_of_before _ hgv
  have hg : ∀ w ∈ GV, w.before #[Value.ref b] s = true := hgs
  let G : Nat → Prop := fun q => s.heap.size ≤ q
  have hA : ∀ a : Nat, a < s.heap.size → ¬ G a := fun a h1 h2 => by
    have h2 : s.heap.size ≤ a := h2
    omega
  have hB : ∀ w ∈ BW, w.before #[Value.ref b] s = true := fun w hw => hts w (List.mem_filter.mp hw).1
  obtain ⟨D, hD⟩ := st_K hts
  obtain ⟨cI, a1, a2⟩ := st_arrI (hts (Cond.arrayClass .int) (by decide +kernel))
  obtain ⟨cJ, b1, b2⟩ := st_arrJ (hts (Cond.arrayClass .long) (by decide +kernel))
  obtain ⟨cC, d1, d2⟩ := st_arrC (hts (Cond.arrayClass .char) (by decide +kernel))
  have hini7 := hts (Cond.initialized RX7) (by decide +kernel)
  obtain ⟨tW, w1, w2⟩ := st_tab (f := "WITHOUT") (l := xt [] (-2)) (G := G) rfl hA (hg _ (by decide +kernel)) (hg _ (by decide +kernel)) (fun j hj => hg _ (gv_w j hj)) (hts _ (by decide +kernel)) hini7
  obtain ⟨tL, l1, l2⟩ := st_tab (f := "LOWEST") (l := xt [] (-3)) (G := G) rfl hA (hg _ (by decide +kernel)) (hg _ (by decide +kernel)) (fun j hj => hg _ (gv_l j hj)) (hts _ (by decide +kernel)) hini7
  obtain ⟨tH, h1, h2⟩ := st_tab (f := "HIGHEST") (l := xt [] (-4)) (G := G) rfl hA (hg _ (by decide +kernel)) (hg _ (by decide +kernel)) (fun j hj => hg _ (gv_h j hj)) (hts _ (by decide +kernel)) hini7
  obtain ⟨adK, adV, hS, hSt⟩ := vk_Sof (s := s) (args := #[Value.ref b]) (N := 1) (tm := fun _ => .string RX5 69) (len := [TXB.length]) (byt := [TXB]) (A := G)
    (fun i hi => by obtain rfl : i = 0 := by omega
                    exact txb_lt)
    (fun i hi => hg _ (by decide +kernel)) (fun i hi => hg _ (by decide +kernel)) (fun i hi => hg _ (by decide +kernel))
    (fun i hi => by obtain rfl : i = 0 := by omega
                    exact hg _ (by decide +kernel))
    (fun i hi j hj => by
      obtain rfl : i = 0 := by omega
      simp only [List.getD_cons_zero, txb_len] at hj
      have h := hg _ (List.mem_of_getElem? (gv_b j hj))
      simpa only [List.getD_cons_zero] using h)
    (fun i j hi hj hne => absurd (by omega) hne) hA
  have hcs := va_Zof (A := G) (hts (Cond.laysStatic RJ0 "COMPACT_STRINGS" "Z") (by decide +kernel)) (hts (Cond.initialized RJ0) (by decide +kernel)) (va_eqi (hg (Cond.eq (.static RJ0 "COMPACT_STRINGS" "Z") (.int 1)) (by decide +kernel))) hA
  have hsf := va_Zqof (A := G) (hts (Cond.laysStatic RJ3 "SIOOBE_FORMATTER" "Ljava/util/function/BiFunction;") (by decide +kernel)) (hts (Cond.initialized RJ3) (by decide +kernel)) (hg (Cond.isRef (.static RJ3 "SIOOBE_FORMATTER" "Ljava/util/function/BiFunction;")) (by decide +kernel)) hA
  obtain ⟨sio, hsio, hsr⟩ : ∃ v : Value, va_Z RJ3 "SIOOBE_FORMATTER" "Ljava/util/function/BiFunction;" v G s s.heap ∧ (v = .null ∨ ∃ t : Nat, v = .ref t) := by
    rcases hsf with h | ⟨t, h⟩
    · exact ⟨_, h, Or.inl rfl⟩
    · exact ⟨_, h, Or.inr ⟨t, rfl⟩⟩
  let sc : List Int := (List.range L).map (fun j => (xs j).toInt)
  have hscl : sc.length = L := by simp [sc]
  have hscg : ∀ j : Nat, j < L → sc.getD j 0 = (xs j).toInt := fun j hj => by simp [sc, List.getD_eq_getElem?_getD, hj]
  let ext : Int → Nat := fun a => if a = -2 then tW else if a = -3 then tL else if a = -4 then tH else if a = -5 then adK 0 else if a = -6 then adV 0 else b
  let g : Gd := (s.heap.size, ext, sio, (cI, cJ, cC), D)
  have hK : va_K (gD g) vwCl (gT g) s := ⟨hD, fun k q hq => by
    match k with
    | 0 => cases hq; exact ⟨a1, a2⟩
    | 1 => cases hq; exact ⟨b1, b2⟩
    | 2 => cases hq; exact ⟨d1, d2⟩
    | k + 3 => cases hq⟩
  have hscr : va_T .int b sc.length (fun j => .int (Int32.ofInt (sc.getD j 0))) G s s.heap := by
    obtain ⟨scr, x1, x2, x3, x4, x5⟩ := hX
    refine ⟨scr, x1, x2, x3, by rw [x4, hscl]; exact Nat.le_refl _, by rw [x4, hscl], fun j hj => ?_, hA _ hb⟩
    rw [hscl] at hj
    show _ = some (Value.int (Int32.ofInt (sc.getD j 0)))
    rw [x5 j hj, hscg j hj, Int32.ofInt_toInt]
  have hE : Ext sc g s := by
    refine ⟨fun w hw => nw_of hw (hts w (List.mem_filter.mp hw).1), ⟨w1, l1, h1⟩, ?_, ⟨vk_R.of (hts _ (by decide +kernel)) (hSt 0 (by decide)), ?_⟩, ⟨hcs, hsio, hsr⟩, ?_⟩
    · intro a ha
      rcases ha with rfl | rfl | rfl | rfl
      · exact w2
      · exact l2
      · exact h2
      · exact hscr
    · refine ⟨fun i hi => ?_, fun i j hi hj _ => by omega⟩
      obtain rfl : i = 0 := by omega
      exact hS.1 0 hi
    · rw [hscl]; omega
  have hrg : ∀ i : Nat, -2147483648 ≤ sc.getD i 0 ∧ sc.getD i 0 < 2147483648 := by
    intro i
    by_cases hi : i < L
    · rw [hscg i hi]
      exact ⟨Int32.le_toInt _, Int32.toInt_lt _⟩
    · rw [List.getD_eq_getElem?_getD, List.getElem?_eq_none (by omega)]
      decide
  rw [lg_entry_eq]
  have hC : KCtx sc RL cL_law 4 false 4 152 19489 p e room_1 s m #[Value.ref b] meth c g := ⟨hx, hcode, hml, hown, hB, hK, hE, ⟨by decide, by decide, Nat.le_of_ble_eq_true rfl, Nat.le_of_ble_eq_true rfl⟩, fun h => by cases h⟩
  have w := law_begin sc p l e room_1 s m #[Value.ref b] below meth c g s.heap [] _ (lw_Z below #[Value.ref b] s) hC (fun k q hq => by cases hq) rfl va_S.rf (ent_ok hE [aR (-7)] (by decide)) (Nat.le_refl _) ?_
  · exact w
  · intro pc' ls' st' cs' H' locs' lsC' hf hP' hz' hS' hL'
    obtain ⟨rfl, rfl, rfl, rfl⟩ := hf
    rw [w0_len, w0_slc]
    rw [w0_eq] at hP'
    have hC2 : Ctx sc RL cL_law 4 (some .boolean) 1800 p e room_1 s m #[Value.ref b] meth c g 152 19489 := ⟨hx, hcode, hml, hown, hB, hlocks, hret, hK, hE, by decide, Nat.le_of_ble_eq_true rfl, Nat.le_of_ble_eq_true rfl, Nat.le_of_ble_eq_true rfl⟩
    refine hlaw sc (by rw [hscl]; exact hL) hrg p l e room_1 s m #[Value.ref b] below meth c g H' locs' lsC' 152 19489 _ hC2 hP' hS' hL' ?_
    intro v m' H2 locs2 pc2 ls2 hv hr hP2 hS2 hd2
    subst hv
    refine va_forget (fun q hq => hS2.2.2 q hq) ?_
    refine W.widen (k := 600000) (n := 7302250) (Nat.le_of_ble_eq_true rfl) (Nat.le_of_ble_eq_true rfl) ?_
    exact lw_ret hx hcode hret hlocks hd2
