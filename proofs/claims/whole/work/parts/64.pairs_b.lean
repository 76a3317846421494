/-! pairs of calls: bobbin has seam; refusals: seed end -/
section PB
variable {sc : List Int} {Ca : Mem → Mem → Prop}
theorem s_refuse {d : Nat} {m : Mem} {k : Nat} (hk : k < 6) : P_X7_refuse sc d [aR 0, aI k] m (PV (aI (-1)) (wr m 61 k (m 61 k + 1))) :=
  ep_X7_refuse (g_X7_refuse_0 ⟨by omega, fun c => absurd c (by omega), fun _ => ⟨fun c => absurd c (by omega), fun _ => ⟨by omega, by omega, rfl, rfl⟩⟩⟩)
theorem pair_bobbin (hCa : CaFr Ca) (n : Nat) (m : Mem) (a0 a1 : Int) (hn : n < 512) (hi : Inv Ca n m) (h0 : R32 a0) (h1 : R32 a1) : PairI (Inv Ca) n m (P_X7_bobbin sc 1799 [aR 0, aI a0, aI a1]) (P_X8_bobbin sc 1799 [aR 62, aI a0, aI a1]) := by
  have hi1 := hi.up
  obtain ⟨ρ, nr, w, hi, hc⟩ := hi
  have hb := hi.2.1
  have b0 := hb.1
  have hx := hi.2.2.1
  have hm := hi.mrm
  have e2 := hx.1.1
  have eL : 0 ≤ a0 → a0 < ρ 0 0 → (m (m 0 2 + 1) a0 = ρ 1 a0 ∧ m (m 0 2 + 2) a0 = ρ 2 a0) ∧ (m 97 (6 + a0) = ρ 1 a0 ∧ m 98 (6 + a0) = ρ 2 a0) ∧ (1 ≤ ρ 1 a0 ∧ ρ 1 a0 ≤ 99) ∧ 1 ≤ ρ 2 a0 ∧ ρ 2 a0 ≤ 100 := fun q1 q2 => by
    have p1 := hx.2.1 a0.toNat (by omega)
    have p2 := hm.2.1 a0.toNat (by omega)
    have p3 := hb.2.2.1 a0.toNat (by omega)
    rw [show ((a0.toNat : Nat) : Int) = a0 by omega] at p1 p2 p3
    exact ⟨p1, p2, p3⟩
  refine pairI_ro (A := fun x => x = if 0 ≤ a0 ∧ a0 < ρ 0 0 then (if a1 = 0 then ρ 1 a0 else if a1 = 1 then ρ 2 a0 else -1) else -1) ?_ ?_ (fun x y p q => by rw [p, q]) (fun x p => ?_) hi1
  · refine ep_X7_bobbin (g_X7_bobbin_0 ⟨h0, fun c => ⟨rfl, _, rfl, by rw [if_neg (by omega)]⟩, fun c => ⟨hi.1.1, by omega, fun c2 => ⟨h1, fun c3 => ⟨fun _ => by omega, fun _ => by omega, rfl, _, rfl, ?_⟩, fun c3 => ⟨by omega, by omega, rfl, _, rfl, ?_⟩⟩, fun c2 => ⟨rfl, _, rfl, by rw [if_neg (by omega)]⟩⟩⟩)
    · have q := eL (by omega) (by omega)
      rw [if_pos (show 0 ≤ a0 ∧ a0 < ρ 0 0 from ⟨by omega, by omega⟩), if_neg c3, q.1.2]
      by_cases c4 : a1 = 1
      · rw [if_neg (fun z => z c4), if_pos c4]
      · rw [if_pos c4, if_neg c4]
    · have q := eL (by omega) (by omega)
      rw [if_pos (show 0 ≤ a0 ∧ a0 < ρ 0 0 from ⟨by omega, by omega⟩), if_pos (show a1 = 0 by omega), q.1.1]
  · refine ep_X8_bobbin (g_X8_bobbin_0 ⟨h0, ?_⟩)
    refine p_X8_bobbin_4 (d2 := 1798) (s_lengthMany hm) (by decide) ?_
    rintro _ z ⟨e, rfl⟩; cases e
    refine g_X8_bobbin_7 ⟨by omega, ?_⟩
    refine p_X8_bobbin_10 (d2 := 1798) (s_isIn ⟨by omega, by omega⟩ ⟨by omega, by omega⟩ ⟨by omega, by omega⟩) (by decide) ?_
    rintro _ z ⟨rfl, ⟨e, q⟩ | ⟨e, q⟩⟩ <;> cases e
    · have q2 := eL (by omega) (by omega)
      refine g_X8_bobbin_13 ⟨by omega, fun _ => ⟨h1, fun _ _ => by omega, fun _ _ => by omega, fun _ => by omega, fun _ => by omega, rfl, _, rfl, ?_⟩, fun c => absurd (by decide) c⟩
      rw [if_pos (show 0 ≤ a0 ∧ a0 < ρ 0 0 from ⟨by omega, by omega⟩), q2.2.1.1, q2.2.1.2]
      by_cases c3 : a1 = 0
      · rw [if_neg (fun z => z c3), if_pos c3]
      · rw [if_pos c3, if_neg c3]
        by_cases c4 : a1 = 1
        · rw [if_neg (fun z => z c4), if_pos c4]
        · rw [if_pos c4, if_neg c4]
    · exact g_X8_bobbin_13 ⟨by omega, fun c => absurd rfl c, fun _ => ⟨rfl, _, rfl, by rw [if_neg (by omega)]⟩⟩
  · rw [p]; unfold R32
    split
    · rename_i q
      have q2 := eL q.1 q.2
      split
      · omega
      · split <;> omega
    · omega
theorem restF_ahead {m r ρ} (h : XRm m r ρ) (hb : RmB ρ) : m (r + 7) (ρ 0 1) = restF ρ 0 := by
  have b0 := hb.1
  have := h.2.2.2.1 (ρ 0 1).toNat (by omega)
  rw [show (((ρ 0 1).toNat : Nat) : Int) = ρ 0 1 by omega] at this
  rw [this]
  unfold restF
  rw [sumF]
  omega
theorem restF_bd {ρ : Mem} (hb : RmB ρ) (s : Nat) (hs : (s : Int) ≤ ρ 0 1) : 0 ≤ restF ρ s ∧ restF ρ s ≤ 990 := by
  have b0 := hb.1
  have h1 := sumF_bd (f := ρ 3) (a := 0) (b := 99) (n := (ρ 0 1).toNat) (fun i hi => by have := (hb.2.2.2.1 i (by omega)).1; omega)
  have h2 := sumF_bd (f := ρ 3) (a := 0) (b := 99) (n := s) (fun i hi => by have := (hb.2.2.2.1 i (by omega)).1; omega)
  have h3 := sumF_mono (f := ρ 3) (k := s) (n := (ρ 0 1).toNat) (by omega) (fun i hi => by have := (hb.2.2.2.1 i (by omega)).1; omega)
  unfold restF
  omega
def hasV (ρ : Mem) (nr pc a0 : Int) : Int := if a0 = 0 then ρ 0 0 else if a0 = 1 then ρ 0 1 else if a0 = 2 then ρ 0 2 else if a0 = 9 then restF ρ 0 else if a0 = 10 then nr else if a0 = 11 then pc else if 3 ≤ a0 ∧ a0 ≤ 8 then ρ 7 (a0 - 3) else -1
theorem pair_has (hCa : CaFr Ca) (n : Nat) (m : Mem) (a0 : Int) (hn : n < 512) (hi : Inv Ca n m) (h0 : R32 a0) : PairI (Inv Ca) n m (P_X7_has sc 1799 [aR 0, aI a0]) (P_X8_has sc 1799 [aR 62, aI a0]) := by
  have hi1 := hi.up
  obtain ⟨ρ, nr, w, hi, hc⟩ := hi
  have hb := hi.2.1
  have b0 := hb.1
  have hx := hi.2.2.1
  have hm := hi.mrm
  obtain ⟨x2, x8, x11, x15⟩ := hx.1
  obtain ⟨w1, w2, w3⟩ := hi.rws
  have hp := hi.past
  have rs := restF_bd hb 0 (by omega)
  have eA := restF_ahead hx hb
  have eM : ∀ k : Nat, k < 6 → m (m 0 2 + 13) k = ρ 7 k ∧ 0 ≤ ρ 7 k ∧ ρ 7 k ≤ 99 := fun k hk => by
    refine ⟨hx.2.2.2.2 k hk, ?_⟩
    have q := hb.2.2.2.2
    by_cases c : k < 4
    · exact q.1 k c
    · have : k = 4 ∨ k = 5 := by omega
      rcases this with rfl | rfl
      · have := q.2.1; show 0 ≤ ρ 7 4 ∧ ρ 7 4 ≤ 99; omega
      · have := q.2.2; show 0 ≤ ρ 7 5 ∧ ρ 7 5 ≤ 99; omega
  refine pairI_ro (A := fun x => x = hasV ρ nr (m 57 8) a0) ?_ ?_ (fun x y p q => by rw [p, q]) (fun x p => ?_) hi1
  · have q0 : a0 = 0 → m (m 0 2) 2 = hasV ρ nr (m 57 8) a0 := fun c => by subst c; exact x2
    have q1 : a0 = 1 → m (m 0 2) 8 = hasV ρ nr (m 57 8) a0 := fun c => by subst c; exact x8
    have q2 : a0 = 2 → m (m 0 2) 11 = hasV ρ nr (m 57 8) a0 := fun c => by subst c; exact x11
    have q9 : a0 = 9 → m (m 0 2 + 7) (m (m 0 2) 8) = hasV ρ nr (m 57 8) a0 := fun c => by subst c; rw [x8, eA]; rfl
    have q10 : a0 = 10 → m 0 10 = hasV ρ nr (m 57 8) a0 := fun c => by subst c; exact w1.1
    have q11 : a0 = 11 → m 57 8 = hasV ρ nr (m 57 8) a0 := fun c => by subst c; rfl
    have qn : ¬ (3 ≤ a0 ∧ a0 ≤ 8) → (a0 ≠ 0 ∧ a0 ≠ 1 ∧ a0 ≠ 2 ∧ a0 ≠ 9 ∧ a0 ≠ 10 ∧ a0 ≠ 11) → -1 = hasV ρ nr (m 57 8) a0 := fun c q => by
      unfold hasV
      rw [if_neg q.1, if_neg q.2.1, if_neg q.2.2.1, if_neg q.2.2.2.1, if_neg q.2.2.2.2.1, if_neg q.2.2.2.2.2, if_neg c]
    refine ep_X7_has (g_X7_has_0 ⟨h0, fun c => ⟨fun q => ⟨hi.1.1, rfl, _, rfl, q0 q⟩, fun q => ⟨hi.1.1, rfl, _, rfl, q1 q⟩, fun q => ⟨hi.1.1, rfl, _, rfl, q2 q⟩, fun q => absurd c (by omega), fun q => absurd c (by omega), fun q => absurd c (by omega), fun q => ⟨rfl, _, rfl, qn (by omega) q⟩⟩, fun c => ⟨fun c2 => ⟨fun q => absurd c2 (by omega), fun q => absurd c2 (by omega), fun q => absurd c2 (by omega), fun q => ⟨hi.1.1, by omega, by omega, rfl, _, rfl, q9 q⟩, fun q => ⟨rfl, _, rfl, q10 q⟩, fun q => ⟨rfl, _, rfl, q11 q⟩, fun q => ⟨rfl, _, rfl, qn (by omega) q⟩⟩, fun c2 => ⟨hi.1.1, by omega, by omega, rfl, _, rfl, ?_⟩⟩⟩)
    have := (eM (a0 - 3).toNat (by omega)).1
    rw [show (((a0 - 3).toNat : Nat) : Int) = a0 - 3 by omega] at this
    rw [this]
    unfold hasV
    rw [if_neg (by omega), if_neg (by omega), if_neg (by omega), if_neg (by omega), if_neg (by omega), if_neg (by omega), if_pos (by omega)]
  · have st : ∀ k : Nat, k < 6 → a0 = 3 + (k : Int) → S_X8_has sc 1799 83 [aR 62, aU] [aI (a0 - 3), aR 62] m (fun v z => z = m ∧ ∃ x, v = some (aI x) ∧ x = hasV ρ nr (m 57 8) a0) := by
      intro k hk e
      have e3 : a0 - 3 = (k : Int) := by omega
      have e4 : ρ 7 k = hasV ρ nr (m 57 8) a0 := by
        unfold hasV
        rw [if_neg (by omega), if_neg (by omega), if_neg (by omega), if_neg (by omega), if_neg (by omega), if_neg (by omega), if_pos (by omega), e3]
      rw [e3]
      refine p_X8_has_83 (d2 := 1798) (s_settingOf hm hk) (by decide) ?_
      rintro _ z ⟨e, rfl⟩; cases e
      exact g_X8_has_86 ⟨rfl, _, rfl, e4⟩
    refine ep_X8_has (g_X8_has_0 ⟨h0, fun c => ?_, fun c => ?_, fun c => ?_, fun c => st 0 (by omega) c, fun c => st 1 (by omega) c, fun c => st 2 (by omega) c, fun c => st 3 (by omega) c, fun c => st 4 (by omega) c, fun c => st 5 (by omega) c, fun c => ?_, fun c => ⟨rfl, _, rfl, by rw [w2.1]; subst c; rfl⟩, fun c => ⟨rfl, _, rfl, by rw [hp.2.1]; subst c; rfl⟩, fun c => ⟨rfl, _, rfl, ?_⟩⟩)
    · refine p_X8_has_65 (d2 := 1798) (s_lengthMany hm) (by decide) ?_
      rintro _ z ⟨e, rfl⟩; cases e
      exact g_X8_has_68 ⟨rfl, _, rfl, by subst c; rfl⟩
    · refine p_X8_has_70 (d2 := 1798) (s_seamMany hm) (by decide) ?_
      rintro _ z ⟨e, rfl⟩; cases e
      exact g_X8_has_73 ⟨rfl, _, rfl, by subst c; rfl⟩
    · refine p_X8_has_75 (d2 := 1798) (s_ruleMany hm) (by decide) ?_
      rintro _ z ⟨e, rfl⟩; cases e
      exact g_X8_has_78 ⟨rfl, _, rfl, by subst c; rfl⟩
    · refine p_X8_has_89 (d2 := 1798) (s_restOf (s := 0) hm hb (by decide) (by omega)) (by decide) ?_
      rintro _ z ⟨e, rfl⟩; cases e
      exact g_X8_has_92 ⟨rfl, _, rfl, by subst c; rfl⟩
    · unfold hasV
      rw [if_neg (by omega), if_neg (by omega), if_neg (by omega), if_neg (by omega), if_neg (by omega), if_neg (by omega), if_neg (by omega)]
  · rw [p]
    have w3 := w3.1
    have p1 := hp.1
    have e7 : 3 ≤ a0 ∧ a0 ≤ 8 → 0 ≤ ρ 7 (a0 - 3) ∧ ρ 7 (a0 - 3) ≤ 99 := fun q => by
      have := (eM (a0 - 3).toNat (by omega)).2
      rw [show (((a0 - 3).toNat : Nat) : Int) = a0 - 3 by omega] at this
      exact this
    unfold R32 hasV
    by_cases q : 3 ≤ a0 ∧ a0 ≤ 8
    · have := e7 q
      rw [if_neg (by omega), if_neg (by omega), if_neg (by omega), if_neg (by omega), if_neg (by omega), if_neg (by omega), if_pos q]
      omega
    · rw [if_neg q]
      repeat (first | omega | split)
theorem pair_seed (hCa : CaFr Ca) (n : Nat) (m : Mem) (a0 : Int) (hn : n < 512) (hi : Inv Ca n m) (h0 : R32 a0) : PairI (Inv Ca) n m (P_X7_seed sc 1799 [aR 0, aI a0]) (P_X8_seed sc 1799 [aR 62, aI a0]) := by
  obtain ⟨ρ, nr, w, hi, hc⟩ := hi
  by_cases c : 0 ≤ a0
  · refine ep_X7_seed (g_X7_seed_0 ⟨h0, fun _ => ⟨1, rfl, by decide, ?_⟩, fun q => absurd c q⟩)
    refine ep_X8_seed (g_X8_seed_0 ⟨h0, fun _ => ⟨rfl, ?_⟩, fun q => absurd c q⟩)
    have he : Ex (fun a j => (a = 57 ∧ j = 6) ∨ (a = 62 ∧ j = 85)) m (wr (wr m 57 6 a0) 62 85 a0) := ((Ex.refl _ _).put (Or.inl ⟨rfl, rfl⟩)).put (Or.inr ⟨rfl, rfl⟩)
    refine ⟨ρ, nr, w, hi.mod he (fun a j q => by unfold RelR; omega) (hi.tape.ex he (fun a j q => by omega)) (hi.refs.up.ex he (fun a j q => by omega)) (hi.flt.ex he (fun a j q => by omega)) (hi.dayl.ex he (fun a j q => by omega)) (hi.past.ex he (fun a j q => by omega)) ?_ (hi.pic.ex he (fun a j q => by omega)) (rws_ex hi.rws he (fun a j q => by omega)), hCa m _ ρ (fun a j q => he a j (by unfold CaC at q; omega)) hc⟩
    unfold SeedL
    rw [wr_eq, wr_na _ _ _ _ _ _ (by decide), wr_eq]
    unfold R32 at h0
    exact ⟨rfl, c, by omega⟩
  · refine ep_X7_seed (g_X7_seed_0 ⟨h0, fun q => absurd q c, fun _ => ?_⟩)
    refine p_X7_seed_6 (d2 := 1798) (s_refuse (k := 4) (by omega)) (by decide) ?_
    rintro _ _ ⟨e, rfl⟩; cases e
    refine g_X7_seed_9 ⟨0, rfl, by decide, ?_⟩
    refine ep_X8_seed (g_X8_seed_0 ⟨h0, fun q => absurd q c, fun _ => ⟨rfl, ?_⟩⟩)
    have he : Ex (fun a j => a = 61 ∨ a = 64) m (wr (wr m 61 (4 : Nat) (m 61 (4 : Nat) + 1)) 64 4 (wr m 61 (4 : Nat) (m 61 (4 : Nat) + 1) 64 4 + 1)) := ((Ex.refl _ _).put (Or.inl rfl)).put (Or.inr rfl)
    refine ⟨ρ, nr, w, hi.mod he (fun a j q => by unfold RelR; omega) (hi.tape.ex he (fun a j q => by omega)) (RefL.put (k := 4) hi.refs (by omega) ?_ ?_ (fun i h1 h2 => ⟨?_, ?_⟩)) (hi.flt.ex he (fun a j q => by omega)) (hi.dayl.ex he (fun a j q => by omega)) (hi.past.ex he (fun a j q => by omega)) (hi.seedl.ex he (fun a j q => by omega)) (hi.pic.ex he (fun a j q => by omega)) (rws_ex hi.rws he (fun a j q => by omega)), hCa m _ ρ (fun a j q => he a j (by unfold CaC at q; omega)) hc⟩
    · rw [wr_na _ _ _ _ _ _ (by decide), wr_eq]
    · show wr _ 64 4 _ 64 4 = m 64 4 + 1
      rw [wr_eq, wr_na _ _ _ _ _ _ (by decide)]
    · rw [wr_na _ _ _ _ _ _ (by decide), wr_ne _ _ _ _ _ _ (by omega)]
    · rw [wr_ne _ _ _ _ _ _ (by omega), wr_na _ _ _ _ _ _ (by decide)]
end PB
