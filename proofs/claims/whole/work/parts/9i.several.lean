/-! pair: several -/
section SP
variable {sc : List Int} {Ca : Mem → Mem → Prop} {d : Nat} {m : Mem} {Q : Option AV → Mem → Prop} {r L : Int} {ρ : Mem} {G : Nat}
theorem vlS_congr {T : Int → Int} {W : Int} : ∀ (j s : Nat) (ti on a b : Int → Int), (∀ i : Nat, s ≤ i → i < s + j → a i = b i) → vlS T L W j s ti on a = vlS T L W j s ti on b := by
  intro j
  induction j with
  | zero => intro s ti on a b _; rfl
  | succ j ih =>
    intro s ti on a b h
    rw [vlS, vlS, h s (by omega) (by omega)]
    exact ih _ _ _ a b (fun i h1 h2 => h i (by omega) (by omega))
def IsSev (ρ : Mem) (L k v : Int) : Prop := (plF ρ L k ∧ ∃ t a, BsS ρ L t a ∧ v = if k = -1 then t else a k) ∨ (¬ plF ρ L k ∧ v = -1)
theorem IsSev.eq {L k x y : Int} (h1 : IsSev ρ L k x) (h2 : IsSev ρ L k y) : x = y := by
  rcases h1 with ⟨p, c, a, p1, rfl⟩ | ⟨p, rfl⟩ <;> rcases h2 with ⟨q, c', a', q1, rfl⟩ | ⟨q, rfl⟩
  · rw [p1.1, q1.1]
    split
    · rfl
    · have b := p.2.2.2
      have w := FsS_eq _ _ _ _ _ _ p1.2 q1.2 k.toNat (by omega) (by omega)
      rw [show ((k.toNat : Nat) : Int) = k by omega] at w
      exact w
  · exact absurd p q
  · exact absurd q p
  · rfl
theorem IsSev.bd {L k v : Int} (hb : RmB ρ) (h : IsSev ρ L k v) : R32 v := by
  have b0 := hb.1
  obtain ⟨g1, g3, g75⟩ := gl_bd hb
  obtain ⟨m0, m1, m2⟩ := ch_min hb
  rcases h with ⟨p, c, a, p1, rfl⟩ | ⟨p, rfl⟩
  · have pb := p.2.2.2
    have up := mnS_up (T := ρ 3) (L := L) (W := ρ 7 0) (G := (ρ 7 5).toNat) g1 m0 (ρ 0 1).toNat 0 z0F z0F 0 (fun i hi => by have := (hb.2.2.2.1 i (by omega)).1; omega) (fun i _ => Int.le_refl _)
    have lo := mnS_ge (T := ρ 3) (L := L) (W := ρ 7 0) (G := (ρ 7 5).toNat) g1 m0.1 (ρ 0 1).toNat 0 z0F z0F (fun i hi => by have := (hb.2.2.2.1 i (by omega)).1; omega) 0 (by omega)
    have lo' : 0 ≤ mnS (ρ 3) L (ρ 7 0) (ρ 7 5).toNat (ρ 0 1).toNat 0 z0F z0F := lo
    have f := FsS_bd _ _ _ _ _ p1.2 k.toNat
    unfold R32
    split
    · rw [p1.1]; omega
    · have := f (by omega) (by omega)
      rw [show ((k.toNat : Nat) : Int) = k by omega] at this
      omega
  · unfold R32; omega
def C_sv (a j : Int) : Prop := a = 110 ∨ (a = 62 ∧ j = 66) ∨ a = 119 ∨ a = 120 ∨ a = 121 ∨ a = 122
theorem s_X8_several {k : Int} (h : MRm m ρ) (hb : RmB ρ) (hd : 2 ≤ d) (hL : R32 L) (hk : R32 k) : P_X8_several sc d [aR 62, aI L, aI k] m (fun v z => Ex C_sv m z ∧ ∃ x, v = some (aI x) ∧ IsSev ρ L k x) := by
  have b0 := hb.1
  obtain ⟨g1, g3, g75⟩ := gl_bd hb
  obtain ⟨m0, m1, m2⟩ := ch_min hb
  refine ep_X8_several (g_X8_several_0 ?_)
  refine p_X8_several_3 (d2 := d - 1) (s_isAsked h hb (by omega) hL hk) (by omega) ?_
  rintro _ m ⟨rfl, ⟨e, q⟩ | ⟨e, q⟩⟩ <;> cases e
  · refine g_X8_several_6 ⟨by omega, fun c => absurd c (by decide), fun _ => ?_⟩
    refine p_X8_several_11 (d2 := d - 1) (s_packs h hb (by omega) ⟨by omega, by omega⟩) (by omega) ?_
    rintro _ z ⟨h1, ⟨e, h2, h3, h4⟩ | ⟨e, h2⟩⟩ <;> cases e
    · refine g_X8_several_14 ⟨by omega, fun _ => ?_, fun c => absurd (by decide) c⟩
      have pl : plF ρ L k := ⟨q.1, q.2.1, h2, q.2.2⟩
      have z1 : Ex C_sv m z := h1.mono (fun a j q => by unfold C_pk at q; unfold C_sv; omega)
      obtain ⟨S, hS⟩ : ∃ S : Nat, S = (ρ 0 1).toNat := ⟨_, rfl⟩
      have hS1 : ρ 0 1 = S := by omega
      obtain ⟨G, hGe⟩ : ∃ G : Nat, G = (ρ 7 5).toNat := ⟨_, rfl⟩
      have hG : 1 ≤ G ∧ G ≤ 3 := by omega
      have mrm : ∀ z, Ex C_sv m z → MRm z ρ := fun z he => h.ex he (fun a j q c => by unfold C_sv at c; omega)
      refine p_X8_several_21 (d2 := d - 1) (s_settingOf (i := 5) (mrm z z1) (by omega)) (by omega) ?_
      rintro _ z ⟨e, rfl⟩; cases e
      rw [show ρ 7 ((5 : Nat) : Int) = (G : Int) by rw [hGe]; exact g75]
      refine g_X8_several_24 ?_
      have Sb : S ≤ 10 := by omega
      have PB := pwR_bd hG (k := S) Sb
      -- the first way
      obtain ⟨fb, hfb⟩ := FsS_ex (T := ρ 3) (L := L) (W := ρ 7 0) hG.1 S 0 z0F z0F
      have fbd := FsS_bd _ _ _ _ _ hfb
      have fvl := fs_vl _ _ _ _ _ hfb
      have lo : 0 ≤ mnS (ρ 3) L (ρ 7 0) G S 0 z0F z0F := mnS_ge (T := ρ 3) (L := L) (W := ρ 7 0) (G := G) hG.1 m0.1 S 0 z0F z0F (fun i hi => by have := (hb.2.2.2.1 i (by omega)).1; omega) 0 (by omega)
      have vup : ∀ a : Int → Int, (∀ i : Nat, i < S → 0 ≤ a i ∧ a i < G) → 0 ≤ vlS (ρ 3) L (ρ 7 0) S 0 z0F z0F a := fun a ha => Int.le_trans lo (mn_vl hG.1 S 0 z0F z0F a (fun i _ h2 => ha i (by omega)))
      have vtop : ∀ (j s : Nat) (ti on a : Int → Int) (B : Int), s + j ≤ S → (∀ i : Nat, i < 3 → ti i ≤ B) → vlS (ρ 3) L (ρ 7 0) j s ti on a ≤ B + 200 * j := by
        intro j
        induction j with
        | zero =>
          intro s ti on a B _ hB
          have h0 : ti 0 ≤ B := hB 0 (by omega)
          have h1 : ti 1 ≤ B := hB 1 (by omega)
          have h2 : ti 2 ≤ B := hB 2 (by omega)
          show mx3 ti ≤ _
          unfold mx3
          split
          · omega
          · split <;> omega
        | succ j ih =>
          intro s ti on a B hj hB
          have ts := (hb.2.2.2.1 s (by omega)).1
          refine Int.le_trans (ih (s + 1) _ _ a (B + 200) (by omega) (fun i hi => ?_)) (by omega)
          have := hB i hi
          unfold tiS
          split
          · split <;> omega
          · omega
      have main : ∀ (n rw' : Nat) (z : Mem) (best : Int), ((rw' + n : Nat) : Int) = pwR G S → Ex C_sv m z → ((rw' = 0 ∧ best = -1) ∨ ∃ a0 : Int → Int, (∀ i : Nat, i < S → 0 ≤ a0 i ∧ a0 i < G) ∧ nmR G a0 S < rw' ∧ best = vlS (ρ 3) L (ρ 7 0) S 0 z0F z0F a0 ∧ (∀ i : Nat, i < S → z 120 i = a0 i) ∧ ∀ a : Int → Int, (∀ i : Nat, i < S → 0 ≤ a i ∧ a i < G) → nmR G a S < rw' → best ≤ vlS (ρ 3) L (ρ 7 0) S 0 z0F z0F a ∧ (nmR G a S < nmR G a0 S → best < vlS (ρ 3) L (ρ 7 0) S 0 z0F z0F a)) → S_X8_several sc d 58 [aR 62, aI L, aI k, aI G, aI (pwR G S), aI best, aI rw', aU, aU] [] z (fun v z => Ex C_sv m z ∧ ∃ x, v = some (aI x) ∧ IsSev ρ L k x) := by
        intro n
        induction n with
        | zero =>
          intro rw' z best hn he hI
          rcases hI with ⟨e0, -⟩ | ⟨a0, a1, a2, a3, a4, a5⟩
          · omega
          · have nb := nmR_bd hG.1 (a := fb) S (fun i hi => fbd i (by omega) (by omega))
            have v1 := (a5 fb (fun i hi => fbd i (by omega) (by omega)) (by omega)).1
            have v2 := mn_vl (T := ρ 3) (L := L) (W := ρ 7 0) hG.1 S 0 z0F z0F a0 (fun i _ h2 => a1 i (by omega))
            have bV : best = mnS (ρ 3) L (ρ 7 0) G S 0 z0F z0F := by omega
            obtain ⟨l1, l2⟩ := nmR_lex hG.1 (a := a0) (b := fb) S (fun i hi => ⟨a1 i hi, fbd i (by omega) (by omega)⟩)
            have same : ∀ i : Nat, i < S → a0 i = fb i := by
              rcases (by omega : nmR G a0 S < nmR G fb S ∨ nmR G a0 S = nmR G fb S ∨ nmR G fb S < nmR G a0 S) with c | c | c
              · exfalso
                obtain ⟨p, p1, p2, p3⟩ := l1 c
                have := fs_lex hG.1 S 0 z0F z0F a0 fb hfb (fun i _ h2 => a1 i (by omega)) ⟨p, by omega, by omega, fun i _ h2 => p2 i h2, p3⟩
                omega
              · exact l2 c
              · exfalso
                have := (a5 fb (fun i hi => fbd i (by omega) (by omega)) (by omega)).2 c
                omega
            have B : BsS ρ L best (z 120) := by
              unfold BsS
              rw [← hS, ← hGe]
              exact ⟨bV, FsS_congr hG.1 _ _ _ _ _ _ _ _ (fun _ _ => ⟨rfl, rfl⟩) (fun i _ h2 => by rw [a4 i (by omega), same i (by omega)]) hfb⟩
            refine g_X8_several_58 ⟨by omega, by omega, fun _ => ⟨hk, fun c => by omega, fun c => by omega, he, _, rfl, Or.inl ⟨pl, best, z 120, B, ?_⟩⟩, fun c => absurd (by omega) c⟩
            by_cases c : k = -1
            · rw [if_neg (fun z => z c), if_pos c]
            · rw [if_pos c, if_neg c]
        | succ n ih =>
          intro rw' z best hn he hI
          obtain ⟨ar, ar1, ar2⟩ := nmR_all hG.1 S (rw' : Int) (by omega) (by omega)
          have vb := vup ar ar1
          have vt := vtop S 0 z0F z0F ar 0 (by omega) (fun i _ => Int.le_refl _)
          refine g_X8_several_58 ⟨by omega, by omega, fun c => absurd c (by omega), fun _ => ?_⟩
          have ld := s_lastDone (sc := sc) (d := d - 1) (a := ar) (G := G) (L := L) (mrm z he) hb ⟨by omega, by omega⟩ h2 hG (by omega) (fun i hi => ar1 i (by omega))
          rw [← hS, ar2] at ld
          refine p_X8_several_70 (d2 := d - 1) ld (by omega) ?_
          rintro _ y ⟨yE, e, y9⟩; cases e
          have yA : Ex C_sv m y := he.trans (yE.mono (fun a j q => by unfold C_ld at q; unfold C_sv; omega))
          have b32 : R32 best := by
            unfold R32
            rcases hI with ⟨-, e⟩ | ⟨a0, a1, a2, a3, -⟩
            · omega
            · have := vup a0 a1
              have := vtop S 0 z0F z0F a0 0 (by omega) (fun i _ => Int.le_refl _)
              omega
          -- the new best
          have take : (best = -1 ∨ vlS (ρ 3) L (ρ 7 0) S 0 z0F z0F ar < best) → S_X8_several sc d 98 [aR 62, aI L, aI k, aI G, aI (pwR G S), aI (vlS (ρ 3) L (ρ 7 0) S 0 z0F z0F ar), aI rw', aU, aI 0] [] y (fun v z => Ex C_sv m z ∧ ∃ x, v = some (aI x) ∧ IsSev ρ L k x) := fun hc => by
            have cp : ∀ (p s : Nat) (u : Mem), s + p = S → Ex (fun a _ => a = 120) y u → (∀ i : Nat, i < s → u 120 i = ar i) → S_X8_several sc d 98 [aR 62, aI L, aI k, aI G, aI (pwR G S), aI (vlS (ρ 3) L (ρ 7 0) S 0 z0F z0F ar), aI rw', aU, aI s] [] u (fun v z => Ex C_sv m z ∧ ∃ x, v = some (aI x) ∧ IsSev ρ L k x) := by
              intro p
              induction p with
              | zero =>
                intro s u hs ue uk
                have uA : Ex C_sv m u := yA.trans (ue.mono (fun a j q => by unfold C_sv; omega))
                refine g_X8_several_98 (p_X8_several_101 (d2 := d - 1) (s_seamMany (mrm u uA)) (by omega) ?_)
                rintro _ u ⟨e, rfl⟩; cases e
                refine g_X8_several_104 ⟨by omega, by omega, fun _ => ?_, fun c => absurd (by omega) c⟩
                refine ih (rw' + 1) u _ (by omega) uA (Or.inr ⟨ar, ar1, by omega, rfl, fun i hi => uk i (by omega), fun a ha hlt => ?_⟩)
                rcases (by omega : nmR G a S < rw' ∨ nmR G a S = rw') with c | c
                · rcases hI with ⟨e0, -⟩ | ⟨a0, a1, a2, a3, a4, a5⟩
                  · have := nmR_bd hG.1 (a := a) S ha
                    omega
                  · have := a5 a ha c
                    have := vup a0 a1
                    omega
                · have e := (nmR_lex hG.1 (a := a) (b := ar) S (fun i hi => ⟨ha i hi, ar1 i hi⟩)).2 (by rw [c, ar2])
                  rw [vlS_congr S 0 z0F z0F a ar (fun i _ h2 => e i (by omega))]
                  exact ⟨Int.le_refl _, fun g => by omega⟩
              | succ p ihp =>
                intro s u hs ue uk
                have uA : Ex C_sv m u := yA.trans (ue.mono (fun a j q => by unfold C_sv; omega))
                refine g_X8_several_98 (p_X8_several_101 (d2 := d - 1) (s_seamMany (mrm u uA)) (by omega) ?_)
                rintro _ u ⟨e, rfl⟩; cases e
                refine g_X8_several_104 ⟨by omega, by omega, fun c => absurd c (by omega), fun _ => ⟨by omega, by omega, ?_⟩⟩
                refine ihp (s + 1) _ (by omega) (ue.put rfl) (fun i hi => ?_)
                by_cases e : i = s
                · rw [e, wr_eq, ue 119 s (by omega)]; exact y9 s (by omega)
                · rw [wr_ne _ _ _ _ _ _ (by omega)]; exact uk i (by omega)
            exact cp S 0 y (by omega) (Ex.refl _ _) (fun i hi => by omega)
          refine g_X8_several_73 ⟨by omega, fun c => take (Or.inl c), fun c => ⟨by omega, fun c2 => take (Or.inr c2), fun c2 => ?_⟩⟩
          rcases hI with ⟨-, e⟩ | ⟨a0, a1, a2, a3, a4, a5⟩
          · exact absurd e c
          · refine ih (rw' + 1) y best (by omega) yA (Or.inr ⟨a0, a1, by omega, a3, fun i hi => (yE 120 i (by unfold C_ld; omega)).trans (a4 i hi), fun a ha hlt => ?_⟩)
            rcases (by omega : nmR G a S < rw' ∨ nmR G a S = rw') with c3 | c3
            · exact a5 a ha c3
            · have e := (nmR_lex hG.1 (a := a) (b := ar) S (fun i hi => ⟨ha i hi, ar1 i hi⟩)).2 (by rw [c3, ar2])
              rw [vlS_congr S 0 z0F z0F a ar (fun i _ h2 => e i (by omega))]
              exact ⟨by omega, fun g => by omega⟩
      have pw : ∀ (n i : Nat), i + n = S → S_X8_several sc d 31 [aR 62, aI L, aI k, aI G, aI (pwR G i), aI i, aU, aU, aU] [] z (fun v z => Ex C_sv m z ∧ ∃ x, v = some (aI x) ∧ IsSev ρ L k x) := by
        intro n
        induction n with
        | zero =>
          intro i hi
          obtain rfl : i = S := by omega
          refine g_X8_several_31 (p_X8_several_34 (d2 := d - 1) (s_seamMany (mrm z z1)) (by omega) ?_)
          rintro _ z' ⟨e, rfl⟩; cases e
          exact g_X8_several_37 ⟨by omega, by omega, fun _ => main (pwR G i).toNat 0 _ (-1) (by omega) z1 (Or.inl ⟨rfl, rfl⟩), fun c => absurd (by omega) c⟩
        | succ n ih =>
          intro i hi
          refine g_X8_several_31 (p_X8_several_34 (d2 := d - 1) (s_seamMany (mrm z z1)) (by omega) ?_)
          rintro _ z' ⟨e, rfl⟩; cases e
          exact g_X8_several_37 ⟨by omega, by omega, fun c => absurd c (by omega), fun _ => ih (i + 1) (by omega)⟩
      exact pw S 0 (by omega)
    · exact g_X8_several_14 ⟨by omega, fun c => absurd rfl c, fun _ => ⟨h1.mono (fun a j q => by unfold C_pk at q; unfold C_sv; omega), _, rfl, Or.inr ⟨fun p => h2 p.2.2.1, rfl⟩⟩⟩
  · exact g_X8_several_6 ⟨by omega, fun _ => ⟨Ex.refl _ _, _, rfl, Or.inr ⟨fun p => q ⟨p.1, p.2.1, p.2.2.2⟩, rfl⟩⟩, fun c => absurd rfl c⟩
theorem s_X7_several {k : Int} (h : Xt m ρ) (hp : ShC m ρ) (hd : 13 ≤ d) (hL : R32 L) (hk : R32 k) : P_X7_several sc d [aR 0, aI L, aI k] m (fun v z => Ex C_sh m z ∧ ShC z ρ ∧ ∃ x, v = some (aI x) ∧ IsSev ρ L k x) := by
  have b0 := h.2.2.1
  refine ep_X7_several (g_X7_several_0 ?_)
  refine p_X7_several_3 (d2 := d - 1) (s_X7_canPlan h (by omega) hL hk) (by omega) ?_
  rintro _ m ⟨rfl, ⟨e, q⟩ | ⟨e, q⟩⟩ <;> cases e
  · refine g_X7_several_6 ⟨by omega, fun _ => ?_, fun c => absurd (by decide) c⟩
    refine p_X7_several_20 (d2 := d - 1) h.1 (s_share h.1 h.2.1 h.2.2 q.2.1 q.2.2.1 hp (by omega)) (by omega) ?_
    rintro z ⟨-, h1, h5, h2, h0⟩
    have pb := q.2.2.2
    refine g_X7_several_23 ⟨hk, fun c => by omega, fun c => by omega, h1, ⟨h0, Or.inr ⟨by rw [h5]; exact q.2.1, by rw [h5]; exact q.2.2.1, by rw [h5]; exact h2⟩⟩, _, rfl, Or.inl ⟨q, _, _, h2, ?_⟩⟩
    by_cases c : k = -1
    · rw [if_neg (fun z => z c), if_pos c]
    · rw [if_pos c, if_neg c]
  · exact g_X7_several_6 ⟨by omega, fun c => absurd rfl c, fun _ => ⟨Ex.refl _ _, hp, _, rfl, Or.inr ⟨q, rfl⟩⟩⟩
/-- what Ca says of sharing -/
def CaS (Ca : Mem → Mem → Prop) : Prop := (∀ m ρ : Mem, Ca m ρ → ShC m ρ) ∧ ∀ m z ρ : Mem, Ca m ρ → (∀ a j, CaC a j → ¬ C_sh a j → z a j = m a j) → ShC z ρ → Ca z ρ
theorem ShC.ex {z : Mem} (h : ShC m ρ) (e : ∀ a j, (C_sh a j ∧ a ≠ 49) → z a j = m a j) : ShC z ρ := by
  unfold ShC
  rw [e 44 11 ⟨Or.inl ⟨rfl, Or.inr rfl⟩, by decide⟩, e 44 10 ⟨Or.inl ⟨rfl, Or.inl rfl⟩, by decide⟩, show z 48 = m 48 from funext fun j => e 48 j ⟨Or.inr (Or.inl rfl), by decide⟩]
  exact ⟨fun g hg => by rw [e 50 g ⟨Or.inr (Or.inr (Or.inr (Or.inl rfl))), by decide⟩, e 51 g ⟨Or.inr (Or.inr (Or.inr (Or.inr rfl))), by decide⟩]; exact h.1 g hg, h.2⟩
theorem pair_several (hS : CaS Ca) (n : Nat) (m : Mem) (a0 a1 : Int) (hn : n < 512) (hi : Inv Ca n m) (h0 : R32 a0) (h1 : R32 a1) : PairI (Inv Ca) n m (P_X7_several sc 1799 [aR 0, aI a0, aI a1]) (P_X8_several sc 1799 [aR 62, aI a0, aI a1]) := by
  obtain ⟨ρ, nr, w, hi, hc⟩ := hi
  have hb := hi.2.1
  refine CallP.imp (s_X7_several hi.xt (hS.1 m ρ hc) (by decide) h0 h1) ?_
  rintro v z ⟨he, hp, x1, rfl, hA⟩
  refine ⟨x1, rfl, hA.bd hb, CallP.imp (s_X8_several (hi.mrm.ex he (fun a j q c => by unfold C_sh at c; omega)) hb (by decide) h0 h1) ?_⟩
  rintro v2 z2 ⟨he2, y, rfl, hB⟩
  have all : Ex (fun a j => C_sh a j ∨ C_sv a j) m z2 := (he.mono (fun a j q => Or.inl q)).trans (he2.mono (fun a j q => Or.inr q))
  refine ⟨by rw [IsSev.eq hB hA], ρ, nr, w, (hi.ex all (fun a j q => ?_)).up, hS.2 m z2 ρ hc (fun a j q1 q2 => all a j (fun q => q.elim q2 (fun q => ?_))) (hp.ex (fun a j q => he2 a j (fun q2 => ?_)))⟩
  · unfold C_sh C_sv at q; unfold Rel; omega
  · unfold CaC at q1; unfold C_sv at q; omega
  · have := q.1; unfold C_sh at this; unfold C_sv at q2; omega
end SP
