/-! reading: tokens of the reference -/
section MK
variable {sc : List Int} {d : Nat} {m : Mem} {Q : Option AV → Mem → Prop} {T : Int → Int} {n : Nat} {σ : Stt}
def wOf (c : Int) : Nat := if c = 127 then 30 else if c = 128 then 31 else if c = 129 then 32 else if c = 130 then 33 else if c = 131 then 19 else if c = 132 then 18 else if c = 133 then 26 else if c = 134 then 25 else if c = 135 then 24 else if c = 136 then 27 else if c = 137 then 28 else if c = 138 then 29 else if c = 139 then 4 else if c = 140 then 5 else if c = 141 then 15 else if c = 142 then 17 else if c = 143 then 16 else if c = 144 then 20 else if c = 145 then 21 else if c = 146 then 22 else if c = 147 then 23 else (c - 65).toNat
def IsW (c : Int) : Prop := (65 ≤ c ∧ c ≤ 94) ∨ (127 ≤ c ∧ c ≤ 147)
theorem word_a : ∀ k : Nat, k < 30 → IsC (65 + k) 102 ∧ wOf (65 + k) < 34 ∧ alen (65 + k) = (WL.getD (wOf (65 + k)) []).length ∧ (WL.getD (wOf (65 + k)) []).length ≤ 8 ∧ ∀ i : Nat, i < 8 → i < (WL.getD (wOf (65 + k)) []).length → m0 (65 + k) i = (WL.getD (wOf (65 + k)) []).getD i 0 := by decide +kernel
theorem word_b : ∀ k : Nat, k < 21 → IsC (127 + k) 102 ∧ wOf (127 + k) < 34 ∧ alen (127 + k) = (WL.getD (wOf (127 + k)) []).length ∧ (WL.getD (wOf (127 + k)) []).length ≤ 8 ∧ ∀ i : Nat, i < 8 → i < (WL.getD (wOf (127 + k)) []).length → m0 (127 + k) i = (WL.getD (wOf (127 + k)) []).getD i 0 := by decide +kernel
theorem wrd_at {c : Int} (h : IsW c) : IsC c 102 ∧ wOf c < 34 ∧ alen c = (WL.getD (wOf c) []).length ∧ (WL.getD (wOf c) []).length ≤ 8 ∧ ∀ i : Nat, i < 8 → i < (WL.getD (wOf c) []).length → m0 c i = (WL.getD (wOf c) []).getD i 0 := by
  rcases h with h | h
  · have := word_a (c - 65).toNat (by omega)
    rw [show (65 : Int) + ((c - 65).toNat : Nat) = c by omega] at this
    exact this
  · have := word_b (c - 127).toNat (by omega)
    rw [show (127 : Int) + ((c - 127).toNat : Nat) = c by omega] at this
    exact this
def Tm (m : Mem) (T : Int → Int) (n : Nat) : Prop := n ≤ 1600 ∧ m 62 3 = n ∧ (∀ i : Nat, i < n → m 63 i = T i ∧ 0 ≤ T i ∧ T i ≤ 255) ∧ WrdL m
/-- the reference between tokens -/
def MSt (T : Int → Int) (n : Nat) (m : Mem) (σ : Stt) : Prop := σ.1 ≤ n ∧ (m 62 5 = 0 ∧ m 62 6 = -1) ∧ (∃ a : Nat, m 62 2 = a ∧ a ≤ σ.1 ∧ spn isBl T n a = σ.1) ∧ (-1 ≤ m 62 4 ∧ m 62 4 ≤ σ.1) ∧ (m 62 4 = σ.1 ↔ σ.2 = true)
def MLk (T : Int → Int) (n : Nat) (m : Mem) (σ : Stt) : Prop := MSt T n m σ ∧ m 62 2 = (σ.1 : Nat)
def MEr (m : Mem) (e : Int × Int) : Prop := m 62 5 = e.1 ∧ m 62 6 = e.2 ∧ (1 ≤ e.1 ∧ e.1 ≤ 5) ∧ 0 ≤ e.2 ∧ e.2 ≤ 1600
def C_lk (a j : Int) : Prop := a = 62 ∧ 2 ≤ j ∧ j ≤ 10 ∧ j ≠ 3 ∧ j ≠ 7 ∧ j ≠ 8
theorem Tm.ex {C : Int → Int → Prop} {z : Mem} (h : Tm m T n) (e : Ex C m z) (hc : ∀ a j, (a = 62 ∧ j = 3) ∨ (a = 63 ∧ 0 ≤ j) ∨ IsW a → ¬ C a j) : Tm z T n := by
  obtain ⟨a, b, c, w⟩ := h
  refine ⟨a, by rw [e 62 3 (hc _ _ (Or.inl ⟨rfl, rfl⟩))]; exact b, fun i hi => by rw [e 63 _ (hc _ _ (Or.inr (Or.inl ⟨rfl, by omega⟩)))]; exact c i hi, fun a j q => ?_⟩
  rw [e a j (hc _ _ (Or.inr (Or.inr q)))]
  exact w a j q
theorem Tm.lk {z : Mem} (h : Tm m T n) (e : Ex C_lk m z) : Tm z T n := h.ex e (fun a j q c => by unfold C_lk at c; unfold IsW at q; omega)
def lkC (T : Int → Int) (n : Nat) (σ : Stt) : Int := if σ.1 < n then T σ.1 else -1
theorem lk_bd (h : ∀ i : Nat, i < n → 0 ≤ T i ∧ T i ≤ 255) : -1 ≤ lkC T n σ ∧ lkC T n σ ≤ 255 := by
  unfold lkC
  split
  · next c => have := h σ.1 c; omega
  · omega
theorem Tm.by (h : Tm m T n) : ∀ i : Nat, i < n → 0 ≤ T i ∧ T i ≤ 255 := fun i hi => (h.2.2.1 i hi).2
theorem MSt.wr2 {a : Nat} (h : MSt T n m σ) (h1 : a ≤ σ.1) (h2 : spn isBl T n a = σ.1) : MSt T n (wr m 62 2 a) σ := by
  obtain ⟨a1, a2, a3, a4, a5⟩ := h
  refine ⟨a1, ?_, ⟨a, wr_eq _ _ _ _, h1, h2⟩, ?_, ?_⟩
  · rw [wr_ne _ _ _ _ _ _ (by decide), wr_ne _ _ _ _ _ _ (by decide)]; exact a2
  · rw [wr_ne _ _ _ _ _ _ (by decide)]; exact a4
  · rw [wr_ne _ _ _ _ _ _ (by decide)]; exact a5
theorem s_look (ht : Tm m T n) (h : MSt T n m σ) : P_X8_look sc d [aR 62] m (fun v z => v = some (aI (lkC T n σ)) ∧ Ex C_lk m z ∧ MLk T n z σ) := by
  refine ep_X8_look ?_
  have key : ∀ (f a : Nat) (z : Mem), a + f = σ.1 → Ex C_lk m z → MSt T n z σ → z 62 2 = (a : Nat) → spn isBl T n a = σ.1 → S_X8_look sc d 0 [aR 62] [] z (fun v z => v = some (aI (lkC T n σ)) ∧ Ex C_lk m z ∧ MLk T n z σ) := by
    intro f
    induction f with
    | zero =>
      intro a z ha ze hz z2 hsp
      have tz := ht.lk ze
      have n1 := tz.1
      have e3 := tz.2.1
      have e : a = σ.1 := by omega
      subst e
      have sn := hz.1
      have ans : (if (z 62 3) ≤ (z 62 2) then (-1) else (z 63 (z 62 2)) : Int) = lkC T n σ := by
        unfold lkC
        rw [z2, e3]
        by_cases c : σ.1 < n
        · rw [if_neg (by omega), if_pos c]; exact (tz.2.2.1 _ c).1
        · rw [if_pos (by omega), if_neg c]
      have fin : (some (aI (if (z 62 3) ≤ (z 62 2) then (-1) else (z 63 (z 62 2)) : Int)) : Option AV) = some (aI (lkC T n σ)) ∧ Ex C_lk m z ∧ MLk T n z σ := ⟨by rw [ans], ze, hz, z2⟩
      refine g_X8_look_0 ⟨by omega, by omega, fun c => ⟨fun g => by omega, fun g => by omega, fin⟩, fun c => ?_⟩
      have tb := tz.2.2.1 σ.1 (by omega)
      have nb : isBl (T σ.1) = false := by
        have := @spn_end isBl T n σ.1 (by rw [hsp]; omega)
        rw [hsp] at this; exact this
      have n10 : ¬ (T σ.1 = 10 ∨ T σ.1 = 32) := fun g => by rw [isBl_iff.mpr g] at nb; cases nb
      refine ⟨by omega, by omega, by rw [z2, tb.1]; omega, fun g => ?_, fun g => ⟨fun g2 => fin, fun g2 => ?_⟩⟩
      · rw [z2, tb.1] at g; omega
      · rw [z2, tb.1] at g2; omega
    | succ f ih =>
      intro a z ha ze hz z2 hsp
      have tz := ht.lk ze
      have n1 := tz.1
      have e3 := tz.2.1
      have sn := hz.1
      have bl : isBl (T a) = true := @spn_in isBl T n a a (Nat.le_refl _) (by rw [hsp]; omega)
      have tb := tz.2.2.1 a (by omega)
      have sp2 : spn isBl T n (a + 1) = σ.1 := by rw [← hsp, spn_go (by omega) bl]
      have stp : S_X8_look sc d 0 [aR 62] [] (wr z 62 2 ((z 62 2) + 1)) (fun v z => v = some (aI (lkC T n σ)) ∧ Ex C_lk m z ∧ MLk T n z σ) := by
        rw [z2, show ((a : Nat) : Int) + 1 = ((a + 1 : Nat) : Int) by omega]
        exact ih (a + 1) _ (by omega) (ze.put ⟨rfl, by decide, by decide, by decide, by decide, by decide⟩) (hz.wr2 (by omega) sp2) (wr_eq _ _ _ _) sp2
      have b2 := isBl_iff.mp bl
      refine g_X8_look_0 ⟨by omega, by omega, fun c => by omega, fun c => ⟨by omega, by omega, by rw [z2, tb.1]; omega, fun _ => stp, fun g => ⟨fun g2 => ?_, fun _ => stp⟩⟩⟩
      rw [z2, tb.1] at g g2
      omega
  obtain ⟨a, a1, a2, a3⟩ := h.2.2.1
  exact key (σ.1 - a) a m (by omega) (Ex.refl _ _) h a1 a3
theorem lk_let : (97 ≤ lkC T n σ ∧ lkC T n σ ≤ 122) ∧ ¬ σ.2 = true ↔ kd T n σ = 256 ∧ σ.1 < n ∧ isLe (T σ.1) = true := by
  unfold lkC kd
  by_cases c : σ.1 < n
  · rw [if_pos c, if_neg (by omega)]
    by_cases c2 : isLe (T σ.1) = true
    · rw [if_pos c2]
      have := isLe_iff.mp c2
      by_cases c3 : σ.2 = true
      · rw [if_pos c3]; exact ⟨fun g => absurd c3 g.2, fun g => absurd g.1 (by decide)⟩
      · rw [if_neg c3]; exact ⟨fun _ => ⟨rfl, c, c2⟩, fun _ => ⟨this, c3⟩⟩
    · rw [if_neg c2]
      exact ⟨fun g => absurd (isLe_iff.mpr g.1) c2, fun g => absurd g.2.2 c2⟩
  · rw [if_neg c]
    exact ⟨fun g => by omega, fun g => absurd g.2.1 c⟩
theorem kd256 (h : kd T n σ = 256) (hb : ∀ i : Nat, i < n → 0 ≤ T i ∧ T i ≤ 255) : σ.1 < n ∧ isLe (T σ.1) = true ∧ σ.2 = false ∧ ed T n σ = spn isLe T n (σ.1 + 1) := by
  have lt : σ.1 < n := kd_lt (by rw [h]; decide)
  have b := hb _ lt
  unfold kd at h
  rw [if_neg (by omega)] at h
  unfold ed
  rw [if_neg (by omega)]
  by_cases c : isLe (T σ.1) = true
  · rw [if_pos c] at h ⊢
    by_cases c2 : σ.2 = true
    · rw [if_pos c2] at h; omega
    · exact ⟨lt, c, by cases g : σ.2 with | true => exact absurd g c2 | false => rfl, rfl⟩
  · rw [if_neg c] at h
    split at h
    · split at h <;> omega
    · omega
theorem wl_r : ∀ k : Nat, k < 34 → ∀ i : Nat, i < 8 → 0 ≤ (WL.getD k []).getD i 0 ∧ (WL.getD k []).getD i 0 ≤ 255 := by decide +kernel
theorem wl_r32 {k i : Nat} (hk : k < 34) (hi : i < 8) : R32 ((WL.getD k []).getD i 0) := by have := wl_r k hk i hi; unfold R32; omega
theorem s_isHere {c : Int} (hc : IsW c) (ht : Tm m T n) (h : MSt T n m σ) (hd : 2 ≤ d) : P_X8_isHere sc d [aR 62, aR c] m (fun v z => v = some (aI (if wE T n σ = wOf c then 1 else 0)) ∧ Ex C_lk m z ∧ MLk T n z σ) := by
  obtain ⟨w1, w2, w3, w4, w5⟩ := wrd_at hc
  have b5 := h.2.1.1
  refine ep_X8_isHere (g_X8_isHere_0 w1 ⟨by omega, fun q => absurd b5 q, fun _ => ?_⟩)
  refine p_X8_isHere_8 (d2 := d - 1) w1 (s_look ht h) (by omega) ?_
  rintro _ z ⟨e, ze, zl⟩; cases e
  have tz := ht.lk ze
  have n1 := tz.1
  have e3 := tz.2.1
  have lb := @lk_bd T n σ tz.by
  refine p_X8_isHere_11 (d2 := d - 1) w1 (ep_X8_isLetter (g_X8_isLetter_0 (Q := PV (aI (if lkC T n σ < 97 then 0 else (if 122 < lkC T n σ then 0 else 1 : Int) : Int)) z) ⟨by omega, rfl, rfl⟩)) (by omega) ?_
  rintro _ z ⟨e, rfl⟩; cases e
  have sn := zl.1.1
  have z2 := zl.2
  have z4 := zl.1.2.2.2
  have no : kd T n σ ≠ 256 → (fun v z => v = some (aI (if wE T n σ = wOf c then 1 else 0)) ∧ Ex C_lk m z ∧ MLk T n z σ) (some (aI 0)) z := by
    intro g
    refine ⟨?_, ze, zl⟩
    rw [if_neg]
    unfold wE; rw [if_neg g]; omega
  refine g_X8_isHere_14 w1 ⟨by split <;> (try split) <;> omega, fun q => no (fun g => ?_), fun q => ⟨by omega, by omega, fun q2 => ?_, fun q2 => no (fun g => ?_)⟩⟩
  · have := (lk_let (T := T) (n := n) (σ := σ)).mpr ⟨g, (kd256 g tz.by).1, (kd256 g tz.by).2.1⟩
    rw [if_neg (by omega), if_neg (by omega)] at q; omega
  · have l1 : 97 ≤ lkC T n σ ∧ lkC T n σ ≤ 122 := by
      by_cases g : lkC T n σ < 97
      · rw [if_pos g] at q; exact absurd rfl q
      · rw [if_neg g] at q
        by_cases g2 : 122 < lkC T n σ
        · rw [if_pos g2] at q; exact absurd rfl q
        · omega
    have ng : ¬ σ.2 = true := fun g => q2 (by rw [z2]; exact (z4.2.mpr g).symm)
    obtain ⟨k1, k2, k3⟩ := (lk_let (T := T) (n := n) (σ := σ)).mp ⟨l1, ng⟩
    have ked := (kd256 k1 tz.by).2.2.2
    have wv : wE T n σ = wi T n σ := by unfold wE; rw [if_pos k1]
    -- the letters compared
    have cmp : ed T n σ = σ.1 + (WL.getD (wOf c) []).length → ∀ (f i : Nat), i + f = (WL.getD (wOf c) []).length → (∀ j : Nat, j < i → T ((σ.1 : Int) + j) = (WL.getD (wOf c) []).getD j 0) → S_X8_isHere sc d 76 [aR 62, aR c, aU, aI i] [] z (fun v z => v = some (aI (if wE T n σ = wOf c then 1 else 0)) ∧ Ex C_lk m z ∧ MLk T n z σ) := by
      intro el f
      have el2 := @ed_le T n σ sn
      induction f with
      | zero =>
        intro i hi hj
        refine g_X8_isHere_76 w1 ⟨by omega, by omega, fun _ => ⟨?_, ze, zl⟩, fun g => absurd (by omega) g⟩
        rw [if_pos]
        rw [wv]
        exact (wi_eq w2).mpr (wIs_iff.mpr ⟨el, fun j hj2 => hj j (by omega)⟩)
      | succ f ih =>
        intro i hi hj
        have tb := tz.2.2.1 (σ.1 + i) (by omega)
        have cw : z c i = (WL.getD (wOf c) []).getD i 0 := (tz.2.2.2 c i hc).trans (w5 i (by omega) (by omega))
        have ea : (σ.1 : Int) + (i : Int) = ((σ.1 + i : Nat) : Int) := by omega
        have wb : 0 ≤ z c i ∧ z c i ≤ 255 ∨ True := Or.inr trivial
        have r1 : R32 (z c i) := by rw [cw]; exact wl_r32 w2 (by omega)
        refine g_X8_isHere_76 w1 ⟨by omega, by omega, fun g => by omega, fun _ => ⟨by omega, by omega, by omega, by omega, by rw [z2, ea, tb.1]; omega, r1, fun g => ?_, fun g => ⟨?_, ze, zl⟩⟩⟩
        · rw [z2, ea, tb.1, cw] at g
          rw [show ((i : Nat) : Int) + 1 = ((i + 1 : Nat) : Int) by omega]
          refine ih (i + 1) (by omega) (fun j hj2 => ?_)
          by_cases ej : j = i
          · rw [ej, ea]; exact g
          · exact hj j (by omega)
        · rw [z2, ea, tb.1, cw] at g
          rw [if_neg]
          intro g2
          rw [wv] at g2
          have := (wIs_iff.mp ((wi_eq w2).mp g2)).2 i (by omega)
          rw [ea] at this
          exact g this
    have lenc : ∀ (y : Int), y = (ed T n σ : Nat) → (R32 (y - z 62 2)) ∧ (R32 (alen c)) ∧ (((y - (z 62 2)) = (alen c)) → (S_X8_isHere sc d 76 [aR 62, aR c, aU, aI 0] [] z (fun v z => v = some (aI (if wE T n σ = wOf c then 1 else 0)) ∧ Ex C_lk m z ∧ MLk T n z σ))) ∧ (¬ ((y - (z 62 2)) = (alen c)) → (fun v z => v = some (aI (if wE T n σ = wOf c then 1 else 0)) ∧ Ex C_lk m z ∧ MLk T n z σ) (some (aI 0)) z) := by
      intro y hy
      have el2 := @ed_le T n σ sn
      refine ⟨by unfold R32; omega, by unfold R32; omega, fun g => cmp (by omega) _ 0 (Nat.zero_add _) (fun j hj => absurd hj (Nat.not_lt_zero j)), fun g => ⟨?_, ze, zl⟩⟩
      rw [if_neg]
      intro g2
      rw [wv] at g2
      have := (wIs_iff.mp ((wi_eq w2).mp g2)).1
      omega
    -- the run of letters
    have run : ∀ (f a : Nat), a + f = n → σ.1 ≤ a → (a = σ.1 ∨ spn isLe T n (σ.1 + 1) = spn isLe T n a) → S_X8_isHere sc d 35 [aR 62, aR c, aI a, aU] [] z (fun v z => v = some (aI (if wE T n σ = wOf c then 1 else 0)) ∧ Ex C_lk m z ∧ MLk T n z σ) := by
      intro f
      induction f with
      | zero =>
        intro a ha hsa hsp
        have ea : a = ed T n σ := by
          rcases hsp with g | g
          · omega
          · rw [ked, g, spn_st (by omega)]
        have := lenc a (by rw [ea])
        exact g_X8_isHere_35 w1 ⟨by omega, by omega, fun _ => this, fun g => absurd (by omega) g⟩
      | succ f ih =>
        intro a ha hsa hsp
        have tb := tz.2.2.1 a (by omega)
        refine g_X8_isHere_35 w1 ⟨by omega, by omega, fun g => by omega, fun _ => ⟨by omega, by omega, ?_⟩⟩
        rw [tb.1]
        refine p_X8_isHere_49 (d2 := d - 1) w1 (ep_X8_isLetter (g_X8_isLetter_0 (Q := PV (aI (if T a < 97 then 0 else (if 122 < T a then 0 else 1 : Int) : Int)) z) ⟨by omega, rfl, rfl⟩)) (by omega) ?_
        rintro _ y ⟨e, rfl⟩; cases e
        refine g_X8_isHere_52 w1 ⟨by split <;> (try split) <;> omega, fun g => ?_, fun g => ?_⟩
        · have nl : ¬ isLe (T a) = true := fun q => by have := isLe_iff.mp q; rw [if_neg (by omega), if_neg (by omega)] at g; omega
          have ea : a = ed T n σ := by
            rcases hsp with q | q
            · rw [q] at nl; exact absurd k3 nl
            · rw [ked, q, spn_st (fun q => nl q.2)]
          exact lenc a (by rw [ea])
        · have il : isLe (T a) = true := by
            by_cases q : T a < 97
            · rw [if_pos q] at g; exact absurd rfl g
            · rw [if_neg q] at g
              by_cases q2 : 122 < T a
              · rw [if_pos q2] at g; exact absurd rfl g
              · exact isLe_iff.mpr (by omega)
          rw [show ((a : Nat) : Int) + 1 = ((a + 1 : Nat) : Int) by omega]
          refine ih (a + 1) (by omega) (by omega) (Or.inr ?_)
          rcases hsp with q | q
          · rw [q]
          · rw [q, spn_go (by omega) il]
    have := run (n - σ.1) σ.1 (by omega) (Nat.le_refl _) (Or.inl rfl)
    rw [z2]
    exact this
  · have := (kd256 g tz.by).2.2.1
    have q4 := z4.2.mp (by omega)
    rw [this] at q4; cases q4
end MK
