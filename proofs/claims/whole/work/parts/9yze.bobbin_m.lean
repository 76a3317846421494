/-! rooms as texts: the bobbin's statement and places of the reference -/
section RK2
variable {sc : List Int} {d : Nat} {m ρ : Mem} {Q : Option AV → Mem → Prop} {T : Int → Int} {n : Nat} {σ : Stt}
theorem MRt.e3 {q : List Int} {v : Int} (h : MRt m ρ q) : MRt m (wr ρ 0 3 v) q := by
  have z : ∀ c k, ¬ (c = 0 ∧ k = 3) → wr ρ 0 3 v c k = ρ c k := fun c k q => wr_ne _ _ _ _ _ _ q
  have za : ∀ c, c ≠ 0 → wr ρ 0 3 v c = ρ c := fun c q => funext fun k => z c k (by omega)
  unfold MRt
  rw [z 0 0 (by decide), z 0 1 (by decide), z 0 2 (by decide), za 1 (by decide), za 2 (by decide), za 3 (by decide), za 4 (by decide), za 5 (by decide), za 6 (by decide), za 7 (by decide), za 8 (by decide), za 10 (by decide)]
  exact h
theorem bob8E {e : Int × Int} {y : Mem} (ye : Ex C_mt m y) (hy : MEr y e) (hd : 1 ≤ d) : S_X8_bobbinTold sc d 51 [aR 62] [] y (PM T n m (.error e)) := by
  refine g_X8_bobbinTold_51 (p_X8_bobbinTold_54 (d2 := d - 1) (asksSignE hy) (by omega) ?_)
  rintro z ⟨-, rfl⟩
  exact g_X8_bobbinTold_57 ⟨rfl, ye, hy⟩
/-- the sign that ends a statement -/
theorem end_m {a : Rx} {z y : Mem} (ht : Tm z T n) (hr : MRt z a.2 a.1.2) (ye : Ex C_lk z y) (hy : (kd T n a.1.1 = 59 ∧ MSt T n y (nx T n a.1.1)) ∨ (kd T n a.1.1 ≠ 59 ∧ MEr y (1, (a.1.1.1 : Nat)))) : MQr T n y (endS T n a) := by
  unfold endS exS
  rcases hy with ⟨k, hy⟩ | ⟨k, hy⟩
  · rw [if_pos k]
    exact ⟨ht.lk ye, hy, (hr.lk ye).e3⟩
  · rw [if_neg k]
    exact hy
theorem lengthToldE {e : Int × Int} (hy : MEr m e) (h0 : 0 ≤ m 95 0 ∧ m 95 0 ≤ 6) (hd : 4 ≤ d) : P_X8_lengthTold sc d [aR 62] m (PM T n m (.error e)) := by
  have k := (len8E (sc := sc) (d := d) (T := T) (n := n) (Ex.refl C_mt m) hy h0 (by omega)).2.2.2.2.2
  refine ep_X8_lengthTold (g_X8_lengthTold_0 (p_X8_lengthTold_5 (d2 := d - 1) (wrd_at (iw (by decide))).1 (isHereE (iw (by decide)) hy) (by omega) ?_))
  rintro _ z ⟨q, rfl⟩; cases q
  refine g_X8_lengthTold_8 ⟨by omega, fun _ => ?_, fun q => absurd rfl q⟩
  refine p_X8_lengthTold_37 (d2 := d - 1) (wrd_at (iw (by decide))).1 (asksE (iw (by decide)) hy) (by omega) ?_
  rintro y ⟨-, rfl⟩
  exact k
theorem s_bobbinTold (ht : Tm m T n) (h : MSt T n m σ) (hr : MRt m ρ0 []) (hd : 8 ≤ d) : P_X8_bobbinTold sc d [aR 62] m (PM T n m (firR T n (σ, []))) := by
  have n1 := ht.1
  refine ep_X8_bobbinTold (g_X8_bobbinTold_0 (p_X8_bobbinTold_5 (d2 := d - 1) (wrd_at (iw (by decide))).1 (s_asks (c := 65) (iw (by decide)) ht h (by omega)) (by omega) ?_))
  rintro y ⟨-, ye, hy⟩
  rw [show ((wOf 65 : Nat) : Int) = 0 from rfl] at hy
  rcases hy with ⟨w1, hy⟩ | ⟨w1, hy⟩
  case inr =>
    have g2 : firR T n (σ, []) = .error (1, (σ.1 : Nat)) := by unfold firR firB; rw [if_neg w1]; rfl
    rw [g2]
    have y0 : y 95 0 = 0 := (hr.lk ye).1.1
    refine g_X8_bobbinTold_8 (p_X8_bobbinTold_9 (d2 := d - 1) (lengthToldE (T := T) (n := n) hy (by omega) (by omega)) (by omega) ?_)
    rintro z ⟨-, ze, hz⟩
    have hz : MEr z (1, (σ.1 : Nat)) := hz
    have zz := bob8E (sc := sc) (d := d) (T := T) (n := n) ((ye.mono (fun a j q => mt_lk q)).trans ze) hz (by omega)
    exact g_X8_bobbinTold_12 ⟨hz.ne.2, fun _ => ⟨fun _ => zz, fun g => absurd hz.ne.1 g⟩, fun g => absurd hz.ne.1 g⟩
  have g0 : firR T n (σ, []) = ((lensR T n 6 (nx T n σ, []) ρ0 0).bind (bobF T n)).bind (endS T n) := by unfold firR firB; rw [if_pos w1]; rfl
  rw [g0]
  have key : ∀ (f : Nat) (x : Stt × List Int) (ρ : Mem) (p : Int) (z : Mem), PL ρ → ρ 0 0 = 6 - (f : Int) → f ≤ 6 → (ρ 0 0 = 0 ∨ wE T n x.1 = 1) → Ex C_mt m z → Tm z T n → MSt T n z x.1 → MRt z ρ x.2 → S_X8_bobbinTold sc d 8 [aR 62] [] z (PM T n m (((lensR T n f x ρ p).bind (bobF T n)).bind (endS T n))) := by
    intro f
    induction f with
    | zero =>
      intro x ρ p z hp hf hf6 hw ze tz hz rz
      have w1 : wE T n x.1 = 1 := by
        rcases hw with q | q
        · omega
        · exact q
      have e1 : ((lensR T n 0 x ρ p).bind (bobF T n)).bind (endS T n) = .error (5, (x.1.1 : Nat)) := by
        show (bobF T n (x, ρ, p)).bind (endS T n) = _
        unfold bobF
        rw [if_pos w1]; rfl
      rw [e1]
      refine g_X8_bobbinTold_8 (p_X8_bobbinTold_9 (d2 := d - 1) (s_lengthTold tz hz rz hp (by omega)) (by omega) ?_)
      rintro u ⟨-, ue, hu⟩
      rw [if_pos ⟨w1, by omega⟩] at hu
      have hu : MEr u (5, (x.1.1 : Nat)) := hu
      have zz := bob8E (sc := sc) (d := d) (T := T) (n := n) (ze.trans ue) hu (by omega)
      exact g_X8_bobbinTold_12 ⟨hu.ne.2, fun _ => ⟨fun _ => zz, fun g => absurd hu.ne.1 g⟩, fun g => absurd hu.ne.1 g⟩
    | succ f ih =>
      intro x ρ p z hp hf hf6 hw ze tz hz rz
      refine g_X8_bobbinTold_8 (p_X8_bobbinTold_9 (d2 := d - 1) (s_lengthTold tz hz rz hp (by omega)) (by omega) ?_)
      rintro u ⟨-, ue, hu⟩
      rw [if_neg (fun q => by omega)] at hu
      have hu : lenP T n u (lenR T n x ρ) := hu
      rw [lensR]
      cases g : lenR T n x ρ with
      | error e =>
        rw [g] at hu
        have hu : MEr u e := hu
        have zz := bob8E (sc := sc) (d := d) (T := T) (n := n) (ze.trans ue) hu (by omega)
        exact g_X8_bobbinTold_12 ⟨hu.ne.2, fun _ => ⟨fun _ => zz, fun g => absurd hu.ne.1 g⟩, fun g => absurd hu.ne.1 g⟩
      | ok a =>
        rw [g] at hu
        obtain ⟨tu, su, ru, u10⟩ := hu
        obtain ⟨q1, q2, q3, q4, q5, q6, q7⟩ := lenR_ok g hp (by omega)
        have u5 := su.2.1.1
        refine g_X8_bobbinTold_12 ⟨by omega, fun g => absurd u5 g, fun _ => ?_⟩
        refine p_X8_bobbinTold_20 (d2 := d - 1) (s_isWordHere tu su (by omega)) (by omega) ?_
        rintro _ v ⟨q, ve2, vl⟩; cases q
        have v62 : v 62 10 = u 62 10 := ve2 62 10 (fun c => by unfold C_l2 at c; omega)
        have ve := ve2.mono (fun a j q => l2_lk q)
        have Ev := (ze.trans ue).trans (ve.mono (fun a j q => mt_lk q))
        have tv := tu.lk ve
        have rv := ru.lk ve
        have v5 := vl.1.2.1.1
        show S_X8_bobbinTold sc d 23 _ _ v (PM T n m (((if wE T n a.1.1 = 1 then lensR T n f a.1 a.2.1 a.2.2 else .ok a).bind (bobF T n)).bind (endS T n)))
        by_cases c : wE T n a.1.1 = 1
        · rw [if_pos c, if_pos c]
          exact g_X8_bobbinTold_23 ⟨by omega, fun _ => ih a.1 a.2.1 a.2.2 v q1 (by omega) (by omega) (Or.inr c) Ev tv vl.1 rv, fun g => absurd (by decide) g⟩
        · rw [if_neg c, if_neg c]
          refine g_X8_bobbinTold_23 ⟨by omega, fun g => absurd rfl g, fun _ => ⟨by omega, fun g => absurd v5 g, fun _ => ?_⟩⟩
          have hb : RmC a.2.1 := q1.2.2.2.2
          have sb := q1.sb
          refine p_X8_bobbinTold_34 (d2 := d - 1) (s_allOdds rv hb) (by omega) ?_
          rintro _ v' ⟨q, rfl⟩; cases q
          show S_X8_bobbinTold sc d 37 _ _ v' (PM T n m ((bobF T n a).bind (endS T n)))
          unfold bobF
          rw [if_neg c]
          refine g_X8_bobbinTold_37 ⟨by omega, fun g => ?_, fun g => ?_⟩
          · rw [if_neg (by omega)]
            refine g_X8_bobbinTold_51 (p_X8_bobbinTold_54 (d2 := d - 1) (s_asksSign (c := 59) (Or.inr ⟨by decide, by decide⟩) tv vl.1 (by omega)) (by omega) ?_)
            rintro w ⟨-, we, hw⟩
            exact g_X8_bobbinTold_57 ⟨rfl, Ev.trans (we.mono (fun a j q => mt_lk q)), end_m (a := (a.1, a.2.1)) tv rv we hw⟩
          · rw [if_pos (by omega)]
            have v10 : v' 62 10 = a.2.2 := v62.trans u10
            refine p_X8_bobbinTold_48 (d2 := d - 1) (s_X8_fail v5 (by decide) (by omega)) (by omega) ?_
            rintro w ⟨-, we, hw⟩
            rw [v10] at hw
            exact bob8E (Ev.trans (we.mono (fun a j q => mt_lk q))) hw (by omega)
  exact key 6 (nx T n σ, []) ρ0 0 y pl_0 rfl (by decide) (Or.inl rfl) (ye.mono (fun a j q => mt_lk q)) (ht.lk ye) hy (hr.lk ye)
/-- places told so far -/
def PcM (m : Mem) (s y : Int) (l : List Int) : Prop := m 99 (7 * s) = y ∧ m 99 (7 * s + 2) = (l.length : Nat) ∧ ∀ k : Nat, k < l.length → m 99 (7 * s + 3 + k) = l.getD k 0
def C_pc (s a j : Int) : Prop := C_lk a j ∨ (a = 99 ∧ 7 * s + 2 ≤ j ∧ j < 7 * s + 7)
def lstI (l : List Int) : Int := if l.length = 0 then 0 else l.getD (l.length - 1) 0
theorem nx_dig (h : kd T n σ = 257) (hb : ∀ i : Nat, i < n → 0 ≤ T i ∧ T i ≤ 255) : (48 ≤ lkC T n (nx T n σ) ∧ lkC T n (nx T n σ) ≤ 57) ↔ kd T n (nx T n σ) = 257 := by
  constructor
  · intro g
    have ng : ¬ (nx T n σ).2 = true := by
      intro q
      unfold nx tkN at q
      have q := of_decide_eq_true q
      have ee := (kd257 h hb).2.2.2
      have lt : (nx T n σ).1 < n := by
        unfold lkC at g
        by_cases c : (nx T n σ).1 < n
        · exact c
        · rw [if_neg c] at g; omega
      have e1 : (nx T n σ).1 = ed T n σ := q.2
      have nd := @spn_end isDi T n (σ.1 + 1) (by rw [← ee, ← e1]; exact lt)
      rw [← ee, ← e1] at nd
      unfold lkC at g
      rw [if_pos lt] at g
      rw [isDi_iff.mpr g] at nd
      cases nd
    exact (lk_dig.mp ⟨g, ng⟩).1
  · intro g
    have := kd257 g hb
    exact (lk_dig.mpr ⟨g, this.1, this.2.1⟩).1
def plcP (T : Int → Int) (n : Nat) (s y : Int) (σ : Stt) (l : List Int) (z : Mem) : Es Int → Prop
  | .ok v => MSt T n z (nx T n σ) ∧ PcM z s y (l ++ [v])
  | .error e => MEr z e
theorem s_placeTold {s y : Int} {l : List Int} (ht : Tm m T n) (h : MSt T n m σ) (h4 : l.length = 4 → m 62 2 = (σ.1 : Nat)) (hp : PcM m s y l) (hs : 0 ≤ s ∧ s ≤ 9) (hy : 1 ≤ y ∧ y ≤ 99) (hl : l.length ≤ 4 ∧ 0 ≤ lstI l ∧ lstI l ≤ 98) (hd : 6 ≤ d) : P_X8_placeTold sc d [aR 62, aI (7 * s)] m (fun v z => v = none ∧ Ex (C_pc s) m z ∧ plcP T n s y σ l z (if l.length = 4 then .error (5, (σ.1 : Nat)) else numR T n (lstI l + 1) (y - 1) σ)) := by
  have n1 := ht.1
  obtain ⟨p0, p1, p2⟩ := hp
  refine ep_X8_placeTold (g_X8_placeTold_0 ⟨by omega, by omega, by omega, fun c => ?_, fun c => ?_⟩)
  · have l4 : ¬ l.length = 4 := fun q => c (by omega)
    rw [if_neg l4]
    refine p_X8_placeTold_27 (d2 := d - 1) (s_X8_number (by decide) (by decide) ht h (by omega)) (by omega) ?_
    rintro w z ⟨_, q1, wr32, ze, hz⟩; cases q1
    have zz : ∀ j, z 99 j = m 99 j := fun j => ze 99 j (fun c => by unfold C_lk at c; omega)
    have Ez : Ex (C_pc s) m z := ze.mono (fun a j q => Or.inl q)
    have nl := numR_le (T := T) (n := n) (σ := σ) (lo := 1) (hi := 9999) (lo2 := lstI l + 1) (hi2 := y - 1) (by omega) (by omega)
    have bef : (if z 99 (7 * s + 2) ≠ 0 then z 99 (7 * s + 2 + z 99 (7 * s + 2)) else 0 : Int) = lstI l := by
      rw [zz, zz, p1]
      unfold lstI
      by_cases c0 : l.length = 0
      · rw [if_neg (by omega), if_pos c0]
      · rw [if_pos (by omega), if_neg c0, ← p2 (l.length - 1) (by omega)]
        congr 1
        omega
    have tail : ∀ (e : Int × Int) (u : Mem), Ex (C_pc s) m u → MEr u e → numR T n (lstI l + 1) (y - 1) σ = .error e → S_X8_placeTold sc d 95 [aR 62, aI (7 * s), aI w, aU] [] u (fun v z => v = none ∧ Ex (C_pc s) m z ∧ plcP T n s y σ l z (numR T n (lstI l + 1) (y - 1) σ)) := by
      intro e u ue hu g
      rw [g]
      exact g_X8_placeTold_95 ⟨hu.ne.2, fun q => absurd q hu.ne.1, fun _ => ⟨rfl, ue, hu⟩⟩
    cases g : numR T n 1 9999 σ with
    | error e =>
      rw [g] at hz
      refine g_X8_placeTold_30 ⟨by omega, by omega, by rw [zz]; omega, fun _ => by rw [zz]; omega, fun _ => by rw [zz]; omega, hz.ne.2, fun _ => tail e z Ez hz (nl.1 e g), fun q => absurd hz.ne.1 q⟩
    | ok v =>
      rw [g] at hz
      obtain ⟨rfl, hz, z10⟩ := hz
      have z5 := hz.2.1.1
      have sn := h.1
      have k9 := nl.2 _ g
      have bad : ¬ (lstI l + 1 ≤ w ∧ w ≤ y - 1) → S_X8_placeTold sc d 92 [aR 62, aI (7 * s), aI w, aU] [aI (z 62 10), aI 2, aR 62] z (fun v z => v = none ∧ Ex (C_pc s) m z ∧ plcP T n s y σ l z (numR T n (lstI l + 1) (y - 1) σ)) := by
        intro cb
        rw [if_neg cb] at k9
        refine p_X8_placeTold_92 (d2 := d - 1) (s_X8_fail z5 (by decide) (by omega)) (by omega) ?_
        rintro u ⟨-, ue, hu⟩
        rw [z10] at hu
        exact tail _ u (Ez.trans (ue.mono (fun a j q => Or.inl q))) hu k9
      refine g_X8_placeTold_30 ⟨by omega, by omega, by rw [zz]; omega, fun _ => by rw [zz]; omega, fun _ => by rw [zz]; omega, by omega, fun q => absurd z5 q, fun _ => ⟨wr32, by rw [bef]; omega, fun q => bad (by rw [bef] at q; omega), fun q => ⟨by omega, by omega, by rw [zz]; omega, fun q2 => ?_, fun q2 => bad (by rw [zz] at q2; omega)⟩⟩⟩
      rw [bef] at q
      rw [zz] at q2
      rw [if_pos ⟨by omega, by omega⟩] at k9
      have w2 : wr z 99 (7 * s + 2) (z 99 (7 * s + 2) + 1) 99 (7 * s + 2) = ((l.length + 1 : Nat) : Int) := by rw [wr_eq, zz, p1]; omega
      refine g_X8_placeTold_95 ⟨by omega, fun _ => ⟨by omega, by omega, by rw [w2]; omega, by rw [w2]; omega, ?_⟩, fun q => absurd z5 q⟩
      rw [w2]
      have ue : Ex (fun a j => a = 99 ∧ 7 * s + 2 ≤ j ∧ j < 7 * s + 7) z (wr (wr z 99 (7 * s + 2) (z 99 (7 * s + 2) + 1)) 99 (7 * s + 2 + ((l.length + 1 : Nat) : Int)) w) := ((Ex.refl _ _).put ⟨rfl, by omega, by omega⟩).put ⟨rfl, by omega, by omega⟩
      refine ⟨rfl, Ez.trans (ue.mono (fun a j q => Or.inr q)), ?_⟩
      rw [k9]
      refine ⟨hz.mr ue (fun a j q => by unfold C_mr; omega), ?_, ?_, fun k hk => ?_⟩
      · rw [wr_ne _ _ _ _ _ _ (by omega), wr_ne _ _ _ _ _ _ (by omega), zz]; exact p0
      · rw [wr_ne _ _ _ _ _ _ (by omega), w2, List.length_append, List.length_singleton]
      · rw [List.length_append, List.length_singleton] at hk
        by_cases ek : k = l.length
        · rw [ek, gd_e, show 7 * s + 3 + (l.length : Int) = 7 * s + 2 + ((l.length + 1 : Nat) : Int) by omega, wr_eq]
        · rw [wr_ne _ _ _ _ _ _ (by omega), wr_ne _ _ _ _ _ _ (by omega), zz, gd_l (by omega)]; exact p2 k (by omega)
  · have l4 : l.length = 4 := by omega
    rw [if_pos l4]
    refine p_X8_placeTold_18 (d2 := d - 1) (s_X8_fail h.2.1.1 (by decide) (by have := h.1; have := h4 l4; omega)) (by omega) ?_
    rintro z ⟨-, ze, hz⟩
    rw [h4 l4] at hz
    exact g_X8_placeTold_21 ⟨rfl, ze.mono (fun a j q => Or.inl q), hz⟩
end RK2
