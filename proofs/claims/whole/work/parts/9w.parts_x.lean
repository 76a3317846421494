/-! reading: parts of the class, on; tests -/
section XW
variable {sc : List Int} {d : Nat} {m : Mem} {Q : Option AV → Mem → Prop} {T : Int → Int} {n : Nat} {rl : Bool} {F : Int}
theorem sPutE {e : Int × Int} {x : Int} (h : XR T n rl F m (.error e)) : P_X3_put sc d [aR F, aI x] m (PR T n rl F m (.error e)) := by
  obtain ⟨ht, h9, ⟨h11, hF⟩, hr⟩ := h
  have fb := fm_bd hF
  have eq : ∀ v, (wr m (F + 1) (m F 2) v) F 2 = m F 2 := fun v => wr_na _ _ _ _ _ _ (by omega)
  have E1 : Ex (C_rd F) m (wr (wr m (F + 1) (m F 2) x) F 2 (m F 2 + 1)) := ((Ex.refl (C_rd F) m).put (Or.inr (Or.inl rfl))).put (Or.inr (Or.inr ⟨rfl, rfl⟩))
  have c32 : ∀ j, wr (wr m (F + 1) (m F 2) x) F 2 (m F 2 + 1) 32 j = m 32 j := fun j => by rw [wr_na _ _ _ _ _ _ (by omega), wr_na _ _ _ _ _ _ (by omega)]
  obtain ⟨r7, r8, r1, r2, r4, r5⟩ := hr
  refine ep_X3_put (g_X3_put_0 hF ⟨by omega, fun c => ⟨rfl, Ex.refl _ _, ht, h9, ⟨h11, hF⟩, r7, r8, r1, r2, r4, r5⟩, fun _ => ⟨by omega, by omega, ?_⟩⟩)
  rw [eq]
  refine ⟨rfl, E1, ht.ex E1 (fun a j q c => by unfold C_rd at c; omega), by rw [c32]; exact h9, ⟨by rw [c32]; exact h11, hF⟩, by rw [c32]; exact r7, by rw [c32]; exact r8, r1, r2, by rw [c32]; exact r4, ?_⟩
  rw [wr_eq]; omega
theorem part_eq {k : Nat} {σ : Stt} : rdPart T n rl k σ = lPart T n rl (rdPart T n rl (k - 1)) (rdSum T n rl (k - 1)) k σ := by
  cases k with
  | zero =>
    unfold rdPart lPart
    rw [if_pos rfl, if_pos rfl, if_pos rfl, if_pos rfl, if_pos rfl, if_pos rfl]
  | succ k => rfl
theorem s_part {k d0 : Nat} (hk : k ≤ 6) (h7 : 9 ≤ d0) (HP : ∀ k', k = k' + 1 → OkPart sc T n rl F k' d0) (HS : ∀ k', k = k' + 1 → OkSum sc T n rl F k' d0) : OkPart sc T n rl F k (d0 + 2) := by
  intro d m r hd h hs
  have n1 := h.1.1
  have h4 := h.k4
  have k32 := kd32 h
  obtain ⟨f1, f2⟩ := h.F11
  -- a named part, or none
  have nam : m 32 4 ≠ 257 → m 32 4 ≠ 40 → (∀ x, r = .ok x → wE T n x.1 ≠ 28 ∧ wE T n x.1 ≠ 29 ∧ ¬ (rl = false ∧ wE T n x.1 = 23)) → S_X5_part sc d 152 [aR 32, aU] [aR 32] m (PR T n rl F m (apR (rdPart T n rl k) r)) := by
    intro c1 c2 c3
    refine p_X5_part_152 (d2 := d - 1) (s_namedPart h hs (by omega)) (by omega) ?_
    rintro z hz
    refine g_X5_part_155 ?_
    cases r with
    | error e => exact hz
    | ok x =>
      have e4 := h.kok
      have c3 := c3 x rfl
      show PR T n rl F m ((rdPart T n rl k x.1).bind _) none z
      rw [part_eq]
      unfold lPart
      rw [if_neg (by omega), if_neg (by omega), if_neg (by omega), if_neg c3.2.2]
      revert hz
      show PR T n rl F m (if pcode rl (wE T n x.1) = 0 then _ else _) none z → _
      by_cases q : pcode rl (wE T n x.1) = 0
      · rw [if_pos q, if_pos q]; exact fun hz => hz
      · rw [if_neg q, if_neg q]; exact fun hz => hz
  refine ep_X5_part (g_X5_part_0 ⟨k32, fun c1 => ⟨fun c2 => ?_, fun c2 => ?_⟩, fun c1 => ?_⟩)
  · -- a word
    refine p_X5_part_66 (d2 := d - 1) (s_isWord h (by decide)) (by omega) ?_
    rintro _ z ⟨e, rfl⟩; cases e
    have par : (wEE T n r = 28 ∨ wEE T n r = 29) → R32 (z 32 5) ∧ S_X5_part sc d 99 [aR 32, aU] [aI (if (z 32 5) ≠ 28 then (-18) else (-17) : Int), aI (6 - (k : Int)), aR 32] z (PR T n rl F z (apR (rdPart T n rl k) r)) := by
      intro c
      cases r with
      | error e => exact absurd c (by show ¬ ((-1 : Int) = 28 ∨ (-1 : Int) = 29); omega)
      | ok x =>
        have c' : wE T n x.1 = 28 ∨ wE T n x.1 = 29 := c
        have k2 : kd T n x.1 = 256 := by rcases c' with q | q <;> exact wE_kd q (by decide)
        have e5 : z 32 5 = wE T n x.1 := by rw [h.2.2.2.2.1.2.2.2.1 k2]; unfold wE; rw [if_pos k2]
        have hp := s_pair (w := wE T n x.1) (d := d - 1) hk c' (by omega) HS (by omega) h hs (fun y e => by cases e; rfl)
        rw [show (if wE T n x.1 = 28 then -17 else -18 : Int) = (if (z 32 5) ≠ 28 then (-18) else (-17) : Int) from by rw [e5]; rcases c' with q | q <;> rw [q] <;> decide] at hp
        refine ⟨by unfold R32; omega, p_X5_part_99 (d2 := d - 1) hp (by omega) ?_⟩
        rintro y hy
        exact g_X5_part_102 (g_X5_part_155 hy)
    refine g_X5_part_69 ⟨by split <;> omega, fun q => ?_, fun q => ?_⟩
    · exact par (Or.inl (Classical.byContradiction (fun g => q (if_neg g))))
    · have w28 : wEE T n r ≠ 28 := fun g => q (by rw [if_pos g]; decide)
      refine p_X5_part_75 (d2 := d - 1) (s_isWord h (by decide)) (by omega) ?_
      rintro _ z ⟨e, rfl⟩; cases e
      refine g_X5_part_78 ⟨by split <;> omega, fun q => ?_, fun q => ?_⟩
      · have w29 : wEE T n r ≠ 29 := fun g => by rw [if_pos g] at q; omega
        have ra : (z 32 9 = 0 ∨ z 32 9 = 1) ∧ (z 32 9 = 0 ↔ rl = true) := by
          rw [h.2.1]; cases rl <;> simp
        refine ⟨by omega, fun q9 => ?_, fun q9 => ?_⟩
        · refine nam c1 c2 (fun x e => ?_)
          subst e
          exact ⟨w28, w29, fun g => by have := ra.2.mp q9; rw [g.1] at this; cases this⟩
        · have rf : rl = false := by cases rl with | false => rfl | true => exact absurd (ra.2.mpr rfl) q9
          refine p_X5_part_115 (d2 := d - 1) (s_isWord h (by decide)) (by omega) ?_
          rintro _ z ⟨e, rfl⟩; cases e
          refine g_X5_part_118 ⟨by split <;> omega, fun q => ?_, fun q => ?_⟩
          · refine nam c1 c2 (fun x e => ?_)
            subst e
            exact ⟨w28, w29, fun g => by rw [if_pos (show wEE T n (.ok x) = 23 from g.2)] at q; omega⟩
          · have w23 : wEE T n r = 23 := Classical.byContradiction (fun g => q (if_neg g))
            refine p_X5_part_123 (d2 := d - 1) (s_enter h hk (by omega)) (by omega) ?_
            rintro y ⟨-, ye, hy⟩
            cases r with
            | error e => exact absurd w23 (by show ¬ (-1 : Int) = 23; omega)
            | ok x =>
              have e4 := h.kok
              have x23 : wE T n x.1 = 23 := w23
              have k2 := wE_kd x23 (by decide)
              have pe : rdPart T n rl k x.1 = if k = 0 then .error (4, x.1.1) else (rdPart T n rl (k - 1) (nx T n x.1)).bind fun x => .ok (x.1, x.2 ++ [60]) := by
                rw [part_eq]
                unfold lPart
                rw [if_neg (by omega), if_neg (by omega), if_neg (by omega), if_pos ⟨rf, x23⟩]
              cases k with
              | zero =>
                refine g_X5_part_126 ⟨by omega, fun _ => g_X5_part_155 ⟨rfl, ye, ?_⟩, fun q => absurd (by omega) q⟩
                rw [if_pos rfl] at pe
                show XR T n rl F y ((rdPart T n rl 0 x.1).bind _)
                rw [pe]; exact hy
              | succ k =>
                rw [if_neg (Nat.succ_ne_zero k)] at pe
                refine g_X5_part_126 ⟨by omega, fun q => by omega, fun _ => ?_⟩
                rw [open_s]
                have hy2 : XR T n rl F y (nxR T n (.ok x)) := hy
                have sy := hs.ad (T := T) (fun x' e => by cases e; rw [k2]; decide)
                refine p_X5_part_136 (d2 := d - 1) (HP k rfl (d - 1) y _ (by omega) hy2 sy.1) (by omega) ?_
                rintro u ⟨-, ue, hu⟩
                have su := sy.1.ap2 sy.2 (cnt_part (T := T) (rl := rl) k)
                obtain ⟨g1, g2⟩ := hu.F11
                refine g_X5_part_139 ?_
                rw [g1]
                refine p_X5_part_145 (d2 := d - 1) g2 (s_put (c := 60) hu (by simp [stepRel]) (fun y e => by have := su y e; omega)) (by omega) ?_
                rintro o ⟨-, oe, ho⟩
                refine g_X5_part_148 (g_X5_part_155 ⟨rfl, (ye.trans ue).trans oe, ?_⟩)
                show XR T n rl F o ((rdPart T n rl (k + 1) x.1).bind _)
                rw [pe, show k + 1 - 1 = k from rfl]
                revert ho
                show XR T n rl F o (ptR 60 ((rdPart T n rl k (nx T n x.1)).bind fun y => .ok (y.1, x.2 ++ y.2))) → _
                cases rdPart T n rl k (nx T n x.1) with
                | error e => exact fun ho => ho
                | ok a =>
                  show XR T n rl F o (.ok (a.1, x.2 ++ a.2 ++ [60])) → XR T n rl F o (.ok (a.1, x.2 ++ (a.2 ++ [60])))
                  rw [List.append_assoc]; exact fun ho => ho
      · have w29 : wEE T n r = 29 := Classical.byContradiction (fun g => q (if_neg g))
        exact par (Or.inr w29)
  · -- in brackets
    cases r with
    | error e => have := h.err; omega
    | ok x =>
      have e4 := h.kok
      have k2 : kd T n x.1 = 40 := by omega
      have pe : rdPart T n rl k x.1 = if k = 0 then .error (4, x.1.1) else (rdSum T n rl (k - 1) (nx T n x.1)).bind fun x => exS T n 41 x := by
        rw [part_eq]
        unfold lPart
        rw [if_neg (by omega), if_pos k2]
      refine p_X5_part_38 (d2 := d - 1) (s_enter h hk (by omega)) (by omega) ?_
      rintro y ⟨-, ye, hy⟩
      cases k with
      | zero =>
        refine g_X5_part_41 ⟨by omega, fun _ => g_X5_part_155 ⟨rfl, ye, ?_⟩, fun q => absurd (by omega) q⟩
        rw [if_pos rfl] at pe
        show XR T n rl F y ((rdPart T n rl 0 x.1).bind _)
        rw [pe]; exact hy
      | succ k =>
        rw [if_neg (Nat.succ_ne_zero k)] at pe
        refine g_X5_part_41 ⟨by omega, fun q => by omega, fun _ => ?_⟩
        rw [open_s]
        have hy2 : XR T n rl F y (nxR T n (.ok x)) := hy
        have sy := hs.ad (T := T) (fun x' e => by cases e; rw [k2]; decide)
        refine p_X5_part_51 (d2 := d - 1) (HS k rfl (d - 1) y _ (by omega) hy2 sy.1) (by omega) ?_
        rintro u ⟨-, ue, hu⟩
        refine g_X5_part_54 (p_X5_part_57 (d2 := d - 1) (s_expectSign hu (by decide) (by omega)) (by omega) ?_)
        rintro o ⟨-, oe, ho⟩
        refine g_X5_part_60 (g_X5_part_155 ⟨rfl, (ye.trans ue).trans oe, ?_⟩)
        show XR T n rl F o ((rdPart T n rl (k + 1) x.1).bind _)
        rw [pe, show k + 1 - 1 = k from rfl]
        revert ho
        show XR T n rl F o (((rdSum T n rl k (nx T n x.1)).bind fun y => .ok (y.1, x.2 ++ y.2)).bind (exS T n 41)) → _
        cases rdSum T n rl k (nx T n x.1) with
        | error e => exact fun ho => ho
        | ok a =>
          show XR T n rl F o (if kd T n a.1 = 41 then _ else _) → XR T n rl F o ((if kd T n a.1 = 41 then _ else _ : Rs).bind _)
          by_cases q : kd T n a.1 = 41
          · rw [if_pos q, if_pos q]; exact fun ho => ho
          · rw [if_neg q, if_neg q]; exact fun ho => ho
  · -- a number
    cases r with
    | error e => have := h.err; omega
    | ok x =>
      have e4 := h.kok
      have k2 : kd T n x.1 = 257 := by omega
      have pe : rdPart T n rl k x.1 = (numR T n 0 1000000 x.1).bind fun v => .ok (nx T n x.1, [1000 + v]) := by
        rw [part_eq]
        unfold lPart
        rw [if_pos k2]
      rw [f1]
      refine p_X5_part_18 (d2 := d - 1) f2 (s_number h (by decide) (by decide) (by omega)) (by omega) ?_
      rintro w z ⟨v, e, ⟨ze, hz⟩, hw⟩; cases e
      have hv : ∀ y, (Except.ok x : Rs) = .ok y → ∀ u, numR T n 0 1000000 y.1 = .ok u → w = u := fun y e u g => hw y u e g
      have sx := hs.ad (T := T) (fun x' e => by cases e; rw [k2]; decide)
      have hw := hw x
      cases en : numR T n 0 1000000 x.1 with
      | error e =>
        have hz2 : XR T n rl F z (.error e) := by
          have : XR T n rl F z ((numR T n 0 1000000 x.1).bind fun _ => .ok (nx T n x.1, x.2)) := hz
          rw [en] at this; exact this
        -- a fault: what is put says nothing
        refine p_X5_part_21 (d2 := d - 1) f2 (sPutE hz2) (by omega) ?_
        rintro u ⟨-, ue, hu⟩
        refine g_X5_part_24 (g_X5_part_155 ⟨rfl, ze.trans ue, ?_⟩)
        show XR T n rl F u ((rdPart T n rl k x.1).bind _)
        rw [pe, en]; exact hu
      | ok a =>
        have wa : w = a := hw a rfl en
        subst wa
        have hz2 : XR T n rl F z (nxR T n (.ok x)) := by
          have : XR T n rl F z ((numR T n 0 1000000 x.1).bind fun _ => .ok (nx T n x.1, x.2)) := hz
          rw [en] at this; exact this
        have wb : 0 ≤ w ∧ w ≤ 9999 := by
          unfold numR at en
          rw [if_neg (fun q => q k2)] at en
          by_cases c4 : 4 < ed T n x.1 - x.1.1
          · rw [if_pos c4] at en; cases en
          · rw [if_neg c4] at en
            split at en
            · cases en
            · cases en
              obtain ⟨g1, g2, g3⟩ := kd_num k2 h.1.by
              have := nv_bd (T := T) (s := x.1.1) g3 (by omega)
              omega
        refine p_X5_part_21 (d2 := d - 1) f2 (s_put (c := 1000 + w) hz2 (Or.inl ⟨wb.1, wb.2, Or.inl rfl⟩) (fun y e => by have := sx.2 y e; omega)) (by omega) ?_
        rintro u ⟨-, ue, hu⟩
        refine g_X5_part_24 (g_X5_part_155 ⟨rfl, ze.trans ue, ?_⟩)
        show XR T n rl F u ((rdPart T n rl k x.1).bind _)
        rw [pe, en]; exact hu
theorem okParts : ∀ k : Nat, k ≤ 6 → OkPart sc T n rl F k (20 + 5 * k) ∧ OkSum sc T n rl F k (22 + 5 * k) := by
  intro k
  induction k with
  | zero =>
    intro hk
    have p : OkPart sc T n rl F 0 20 := s_part (d0 := 18) (by omega) (by omega) (fun k' e => by omega) (fun k' e => by omega)
    exact ⟨p, s_sum (by omega) (by omega) (s_product (by omega) (by omega) p)⟩
  | succ k ih =>
    intro hk
    obtain ⟨i1, i2⟩ := ih (by omega)
    have p : OkPart sc T n rl F (k + 1) (20 + 5 * (k + 1)) := fun d m r hd => s_part (d0 := 23 + 5 * k) hk (by omega) (fun k' e => by cases e; exact fun d m r hd => i1 d m r (by omega)) (fun k' e => by cases e; exact fun d m r hd => i2 d m r (by omega)) d m r (by omega)
    exact ⟨p, fun d m r hd => s_sum (by omega) (by omega) (s_product (by omega) (by omega) p) d m r (by omega)⟩
end XW
