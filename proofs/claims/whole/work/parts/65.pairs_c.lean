/-! pairs of calls: end letter seam -/
section PC_
variable {sc : List Int} {Ca : Mem → Mem → Prop}
theorem Inv.refuse {n : Nat} {m ρ : Mem} {nr : Int} {w : Int → Int} (hCa : CaFr Ca) (hi : InvB n m ρ nr w) (hc : Ca m ρ) (k : Nat) (hk : k < 6) : Inv Ca (n + 1) (wr (wr m 61 k (m 61 k + 1)) 64 k (wr m 61 k (m 61 k + 1) 64 k + 1)) := by
  have he : Ex (fun a j => a = 61 ∨ a = 64) m (wr (wr m 61 k (m 61 k + 1)) 64 k (wr m 61 k (m 61 k + 1) 64 k + 1)) := ((Ex.refl _ _).put (Or.inl rfl)).put (Or.inr rfl)
  refine ⟨ρ, nr, w, hi.mod he (fun a j q => by unfold RelR; omega) (hi.tape.ex he (fun a j q => by omega)) (RefL.put (k := k) hi.refs hk ?_ ?_ (fun i h1 h2 => ⟨?_, ?_⟩)) (hi.flt.ex he (fun a j q => by omega)) (hi.dayl.ex he (fun a j q => by omega)) (hi.past.ex he (fun a j q => by omega)) (hi.seedl.ex he (fun a j q => by omega)) (hi.pic.ex he (fun a j q => by omega)) (rws_ex hi.rws he (fun a j q => by omega)), hCa m _ ρ (fun a j q => he a j (by unfold CaC at q; omega)) hc⟩
  · rw [wr_na _ _ _ _ _ _ (by decide), wr_eq]
  · rw [wr_eq, wr_na _ _ _ _ _ _ (by decide)]
  · rw [wr_na _ _ _ _ _ _ (by decide), wr_ne _ _ _ _ _ _ (by omega)]
  · rw [wr_ne _ _ _ _ _ _ (by omega), wr_na _ _ _ _ _ _ (by decide)]
theorem pair_end (hCa : CaFr Ca) (n : Nat) (m : Mem) (a0 : Int) (hn : n < 512) (hi : Inv Ca n m) (h0 : R32 a0) : PairI (Inv Ca) n m (P_X7_end sc 1799 [aR 0, aI a0]) (P_X8_end sc 1799 [aR 62, aI a0]) := by
  obtain ⟨ρ, nr, w, hi, hc⟩ := hi
  obtain ⟨t1, t2, t3⟩ := hi.tape
  by_cases c : 0 ≤ a0 ∧ a0 ≤ m 0 1
  · refine ep_X7_end (g_X7_end_0 ⟨h0, fun q => absurd c (by omega), fun _ => ⟨by omega, fun _ => ⟨1, rfl, by decide, ?_⟩, fun q => absurd c (by omega)⟩⟩)
    refine ep_X8_end (g_X8_end_0 ⟨h0, fun q => absurd c (by omega), fun _ => ?_⟩)
    rw [wr_na _ _ _ _ _ _ (by decide : (62 : Int) ≠ 0)]
    refine ⟨by omega, fun _ => ⟨rfl, ?_⟩, fun q => absurd c (by omega)⟩
    have he : Ex (fun a j => (a = 0 ∧ j = 1) ∨ (a = 62 ∧ j = 1)) m (wr (wr m 0 1 a0) 62 1 a0) := ((Ex.refl _ _).put (Or.inl ⟨rfl, rfl⟩)).put (Or.inr ⟨rfl, rfl⟩)
    refine ⟨ρ, nr, w, hi.mod he (fun a j q => by unfold RelR; omega) ?_ (hi.refs.up.ex he (fun a j q => by omega)) (hi.flt.ex he (fun a j q => by omega)) (hi.dayl.ex he (fun a j q => by omega)) (hi.past.ex he (fun a j q => by omega)) (hi.seedl.ex he (fun a j q => by omega)) (hi.pic.ex he (fun a j q => by omega)) (rws_ex hi.rws he (fun a j q => by omega)), hCa m _ ρ (fun a j q => he a j (by unfold CaC at q; omega)) hc⟩
    have e1 : wr (wr m 0 1 a0) 62 1 a0 0 1 = a0 := by rw [wr_na _ _ _ _ _ _ (by decide), wr_eq]
    unfold TapeL
    rw [e1, wr_eq]
    refine ⟨by omega, rfl, fun i hi => ?_⟩
    rw [wr_na _ _ _ _ _ _ (by decide), wr_na _ _ _ _ _ _ (by decide), wr_na _ _ _ _ _ _ (by decide), wr_na _ _ _ _ _ _ (by decide)]
    exact t3 i (by omega)
  · have fin : S_X7_end sc 1799 14 [aR 0, aU] [aI 0, aR 0] m (fun v z => ∃ x, v = some (aI x) ∧ R32 x ∧ P_X8_end sc 1799 [aR 62, aI a0] z (fun v2 z2 => v2 = some (aI x) ∧ Inv Ca (n + 1) z2)) := by
      refine p_X7_end_14 (d2 := 1798) (s_refuse (k := 0) (by omega)) (by decide) ?_
      rintro _ _ ⟨e, rfl⟩; cases e
      refine g_X7_end_17 ⟨0, rfl, by decide, ?_⟩
      have hf := Inv.refuse hCa hi hc 0 (by omega)
      refine ep_X8_end (g_X8_end_0 ⟨h0, fun _ => ⟨rfl, hf⟩, fun q => ?_⟩)
      rw [wr_na _ _ _ _ _ _ (by decide : (62 : Int) ≠ 61)]
      exact ⟨by omega, fun q2 => absurd (show 0 ≤ a0 ∧ a0 ≤ m 0 1 by omega) c, fun _ => ⟨rfl, hf⟩⟩
    exact ep_X7_end (g_X7_end_0 ⟨h0, fun _ => fin, fun q => ⟨by omega, fun q2 => absurd (show 0 ≤ a0 ∧ a0 ≤ m 0 1 by omega) c, fun _ => fin⟩⟩)
theorem horn_bd {f : Int → Int} {n : Nat} (hn : n ≤ 6) (h : ∀ j : Nat, j < n → 1 ≤ f j ∧ f j ≤ 26) : 0 ≤ hornF f n ∧ hornF f n ≤ 387420488 := by
  have key : ∀ k : Nat, k ≤ n → 0 ≤ hornF f k := by
    intro k
    induction k with
    | zero => intro _; exact Int.le_refl _
    | succ k ih =>
      intro hk
      have := ih (by omega)
      have := h k (by omega)
      rw [hornF]; omega
  refine ⟨key n (Nat.le_refl _), ?_⟩
  have up : ∀ k : Nat, k ≤ n → ∀ b : Int, hornF f k ≤ b → k < n → hornF f (k + 1) ≤ 27 * b + 26 := by
    intro k hk b hb hk2
    have := h k hk2
    rw [hornF]; omega
  have z0 : hornF f 0 ≤ 0 := Int.le_refl _
  rcases (by omega : n = 0 ∨ n = 1 ∨ n = 2 ∨ n = 3 ∨ n = 4 ∨ n = 5 ∨ n = 6) with rfl | rfl | rfl | rfl | rfl | rfl | rfl
  · omega
  · exact Int.le_trans (up 0 (by omega) _ z0 (by omega)) (by decide)
  · exact Int.le_trans (up 1 (by omega) _ (up 0 (by omega) _ z0 (by omega)) (by omega)) (by decide)
  · exact Int.le_trans (up 2 (by omega) _ (up 1 (by omega) _ (up 0 (by omega) _ z0 (by omega)) (by omega)) (by omega)) (by decide)
  · exact Int.le_trans (up 3 (by omega) _ (up 2 (by omega) _ (up 1 (by omega) _ (up 0 (by omega) _ z0 (by omega)) (by omega)) (by omega)) (by omega)) (by decide)
  · exact Int.le_trans (up 4 (by omega) _ (up 3 (by omega) _ (up 2 (by omega) _ (up 1 (by omega) _ (up 0 (by omega) _ z0 (by omega)) (by omega)) (by omega)) (by omega)) (by omega)) (by decide)
  · exact Int.le_trans (up 5 (by omega) _ (up 4 (by omega) _ (up 3 (by omega) _ (up 2 (by omega) _ (up 1 (by omega) _ (up 0 (by omega) _ z0 (by omega)) (by omega)) (by omega)) (by omega)) (by omega)) (by omega)) (by decide)
theorem horn_div {f : Int → Int} {n : Nat} (h0 : 0 ≤ hornF f n) (h : 1 ≤ f n ∧ f n ≤ 26) : (hornF f (n + 1)).tdiv 27 = hornF f n ∧ (hornF f (n + 1)).tmod 27 = f n := by
  rw [hornF, Int.tdiv_eq_ediv_of_nonneg (by omega), Int.tmod_eq_emod_of_nonneg (by omega)]
  omega
/-- letters of a name out of its number -/
theorem l_letter {f : Int → Int} {N : Nat} {k : Nat} {v : Int} {m : Mem} {Q : Option AV → Mem → Prop} (hN : N ≤ 6) (hk : k < 6) (hf : ∀ j : Nat, j < N → 1 ≤ f j ∧ f j ≤ 26) (hz : ∀ j : Nat, N ≤ j → j < 6 → f j = 0) (hv : v = hornF f N) (hq : Q (some (aI (f k))) m) :
    ∀ (j c : Nat), c + j = N → S_X8_letter sc 1799 67 [aR 62, aU, aU, aI k, aJ v, aU, aI c, aJ (hornF f j), aU] [] m Q := by
  have l2 : ∀ (j q : Nat), q = k + j → q < N → S_X8_letter sc 1799 102 [aR 62, aU, aU, aI k, aJ (hornF f (q + 1)), aU, aU, aI q, aU] [] m Q := by
    intro j
    induction j with
    | zero =>
      intro q e h
      obtain rfl : q = k := by omega
      have b := horn_bd (f := f) (n := q + 1) (by omega) (fun i hi => hf i (by omega))
      have b1 := horn_bd (f := f) (n := q) (by omega) (fun i hi => hf i (by omega))
      refine g_X8_letter_102 ⟨by omega, by omega, fun _ => ⟨by omega, ?_⟩, fun c => absurd (by omega) c⟩
      rw [(horn_div b1.1 (hf q h)).2]
      exact hq
    | succ j ih =>
      intro q e h
      have b := horn_bd (f := f) (n := q + 1) (by omega) (fun i hi => hf i (by omega))
      have b1 := horn_bd (f := f) (n := q) (by omega) (fun i hi => hf i (by omega))
      refine g_X8_letter_102 ⟨by omega, by omega, fun c => absurd c (by omega), fun _ => ⟨by omega, ?_⟩⟩
      rw [(horn_div b1.1 (hf q h)).1]
      obtain ⟨p, rfl⟩ : ∃ p, q = p + 1 := ⟨q - 1, by omega⟩
      have w := ih p (by omega) (by omega)
      rw [show ((p + 1 : Nat) : Int) + (-1) = (p : Int) by omega]
      exact w
  intro j
  induction j with
  | zero =>
    intro c hc
    refine g_X8_letter_67 ⟨by show R64 0; unfold R64; omega, fun _ => ⟨by omega, by omega, fun q => ?_, fun q => ?_⟩, fun q => absurd (Int.le_refl _) q⟩
    · obtain ⟨p, e⟩ : ∃ p, N = p + 1 := ⟨N - 1, by omega⟩
      have w := l2 (p - k) p (by omega) (by omega)
      rw [hv, e, show (c : Int) - 1 = (p : Int) by omega]
      exact w
    · rw [hz k (by omega) hk] at hq
      exact hq
  | succ j ih =>
    intro c hc
    have b := horn_bd (f := f) (n := j + 1) (by omega) (fun i hi => hf i (by omega))
    have b1 := horn_bd (f := f) (n := j) (by omega) (fun i hi => hf i (by omega))
    have hj := hf j (by omega)
    have e : hornF f (j + 1) = 27 * hornF f j + f j := rfl
    refine g_X8_letter_67 ⟨by omega, fun q => absurd q (by omega), fun _ => ?_⟩
    rw [(horn_div b1.1 hj).1]
    exact ih (c + 1) (by omega)
theorem pair_letter (hCa : CaFr Ca) (n : Nat) (m : Mem) (a0 a1 a2 : Int) (hn : n < 512) (hi : Inv Ca n m) (h0 : R32 a0) (h1 : R32 a1) (h2 : R32 a2) : PairI (Inv Ca) n m (P_X7_letter sc 1799 [aR 0, aI a0, aI a1, aI a2]) (P_X8_letter sc 1799 [aR 62, aI a0, aI a1, aI a2]) := by
  have hi1 := hi.up
  obtain ⟨ρ, nr, w, hi, hc⟩ := hi
  have hb := hi.2.1
  have b0 := hb.1
  have hx := hi.2.2.1
  have hm := hi.mrm
  have hnm := hi.2.2.2.2.1.2.2.2
  obtain ⟨x2, x8, x11, x15⟩ := hx.1
  obtain ⟨m3, m4, m5, m6⟩ := hm.1
  let ok : Prop := (0 ≤ a2 ∧ a2 < 6) ∧ 0 ≤ a1 ∧ ((a0 = 0 ∧ a1 < ρ 0 1) ∨ (a0 = 1 ∧ a1 < ρ 0 2))
  have nm : ok → NmOK (fun j => m (m 0 2 + 12) ((10 * a0 + a1) * 6 + j)) (m 96 (20 + 10 * a0 + a1)) := by
    rintro ⟨q1, q2, ⟨q3, q4⟩ | ⟨q3, q4⟩⟩
    · have := hnm.1 a1.toNat (by omega)
      rw [show ((a1.toNat : Nat) : Int) = a1 by omega] at this
      subst q3
      rw [show 10 * (0 : Int) + a1 = a1 by omega, show 20 + 10 * (0 : Int) + a1 = 20 + a1 by omega]
      exact this
    · have := hnm.2 a1.toNat (by omega)
      rw [show ((a1.toNat : Nat) : Int) = a1 by omega] at this
      subst q3
      rw [show 10 * (1 : Int) + a1 = 10 + a1 by omega, show 20 + 10 * (1 : Int) + a1 = 30 + a1 by omega]
      exact this
  have bad : ¬ ok → ∀ z, (fun v z => z = m ∧ ∃ x, v = some (aI x) ∧ ((ok ∧ x = m (m 0 2 + 12) ((10 * a0 + a1) * 6 + a2)) ∨ (¬ ok ∧ x = -1))) (some (aI (-1))) z ↔ z = m := fun c z => ⟨fun h => h.1, fun h => ⟨h, _, rfl, Or.inr ⟨c, rfl⟩⟩⟩
  refine pairI_ro (A := fun x => (ok ∧ x = m (m 0 2 + 12) ((10 * a0 + a1) * 6 + a2)) ∨ (¬ ok ∧ x = -1)) ?_ ?_ (fun x y p q => ?_) (fun x p => ?_) hi1
  · have no : ¬ ok → ∃ x, some (aI (-1)) = some (aI x) ∧ ((ok ∧ x = m (m 0 2 + 12) ((10 * a0 + a1) * 6 + a2)) ∨ (¬ ok ∧ x = -1)) := fun c => ⟨_, rfl, Or.inr ⟨c, rfl⟩⟩
    have r1 : a0 = 1 → 0 ≤ a1 → 0 ≤ a2 → a2 < 6 → ¬ (m (m 0 2) 11 ≤ a1) → ∃ x, some (aI (m (m 0 2 + 12) ((10 + a1) * 6 + a2))) = some (aI x) ∧ ((ok ∧ x = m (m 0 2 + 12) ((10 * a0 + a1) * 6 + a2)) ∨ (¬ ok ∧ x = -1)) := fun c1 c2 c3 c4 c5 => ⟨_, rfl, Or.inl ⟨⟨⟨c3, c4⟩, c2, Or.inr ⟨c1, by omega⟩⟩, by rw [c1]; rfl⟩⟩
    refine ep_X7_letter (g_X7_letter_0 ⟨h2, fun c => ⟨rfl, no (fun k => by have := k.1; omega)⟩, fun c => ⟨fun c2 => ⟨rfl, no (fun k => by have := k.1; omega)⟩, fun c2 => ⟨h1, fun c3 => ⟨h0, fun c4 => ⟨fun c5 => ⟨rfl, no (fun k => by have := k.2.2; omega)⟩, fun c5 => ⟨hi.1.1, by omega, fun c6 => ⟨rfl, no (fun k => by have := k.2.2; omega)⟩, fun c6 => ⟨by omega, by omega, rfl, r1 (by omega) c3 (by omega) (by omega) c6⟩⟩⟩, fun c4 => ⟨hi.1.1, by omega, fun c5 => ⟨fun c6 => ⟨rfl, no (fun k => by have := k.2.2; omega)⟩, fun c6 => absurd c4 (by omega)⟩, fun c5 => ⟨by omega, by omega, rfl, _, rfl, Or.inl ⟨⟨⟨by omega, by omega⟩, c3, Or.inl ⟨by omega, by omega⟩⟩, ?_⟩⟩⟩⟩, fun c3 => ⟨rfl, no (fun k => by have := k.2; omega)⟩⟩⟩⟩)
    rw [show a0 = 0 by omega, show 10 * (0 : Int) + a1 = a1 by omega]
  · refine ep_X8_letter (g_X8_letter_0 ⟨h0, ?_⟩)
    refine p_X8_letter_4 (d2 := 1798) (s_isIn ⟨by omega, by omega⟩ ⟨by omega, by omega⟩ ⟨by omega, by omega⟩) (by decide) ?_
    rintro _ z ⟨rfl, ⟨e, q⟩ | ⟨e, q⟩⟩ <;> cases e
    · have em : z 95 (4 + a0) = if a0 = 0 then ρ 0 1 else ρ 0 2 := by
        rcases (by omega : a0 = 0 ∨ a0 = 1) with rfl | rfl
        · rw [if_pos rfl]; exact m4
        · rw [if_neg (by decide)]; exact m5
      have emb : R32 (z 95 (4 + a0) - 1) := by rw [em]; unfold R32; split <;> omega
      refine g_X8_letter_7 ⟨by omega, fun c => absurd c (by decide), fun _ => ⟨h1, by omega, by omega, emb, ?_⟩⟩
      refine p_X8_letter_24 (d2 := 1798) (s_isIn ⟨by omega, by omega⟩ ⟨by omega, by omega⟩ ⟨by unfold R32 at emb; omega, by unfold R32 at emb; omega⟩) (by decide) ?_
      rintro _ z ⟨rfl, ⟨e, q2⟩ | ⟨e, q2⟩⟩ <;> cases e
      · refine g_X8_letter_27 ⟨by omega, fun c => absurd c (by decide), fun _ => ⟨h2, ?_⟩⟩
        refine p_X8_letter_36 (d2 := 1798) (s_isIn ⟨by omega, by omega⟩ ⟨by omega, by omega⟩ ⟨by omega, by omega⟩) (by decide) ?_
        rintro _ z ⟨rfl, ⟨e, q3⟩ | ⟨e, q3⟩⟩ <;> cases e
        · have hok : ok := by
            refine ⟨by omega, by omega, ?_⟩
            rw [em] at q2
            rcases (by omega : a0 = 0 ∨ a0 = 1) with c | c
            · rw [if_pos c] at q2; exact Or.inl ⟨c, by omega⟩
            · rw [if_neg (by omega)] at q2; exact Or.inr ⟨c, by omega⟩
          have hle : a1 < 10 := by
            rcases hok.2.2 with c | c <;> omega
          obtain ⟨N, hN, hf, hz, hv⟩ := nm hok
          refine g_X8_letter_39 ⟨by omega, fun _ => ⟨by omega, by omega, ?_⟩, fun c => absurd (by decide) c⟩
          obtain ⟨k, rfl⟩ := Int.eq_ofNat_of_zero_le (show 0 ≤ a2 by omega)
          have ww := l_letter (sc := sc) (k := k) (v := _) (m := z) (Q := fun v z2 => z2 = z ∧ ∃ x, v = some (aI x) ∧ ((ok ∧ x = z (z 0 2 + 12) ((10 * a0 + a1) * 6 + (k : Int))) ∨ (¬ ok ∧ x = -1))) hN.2 (by omega) hf hz hv ⟨rfl, _, rfl, Or.inl ⟨hok, rfl⟩⟩ N 0 (by omega)
          rw [← hv] at ww
          exact ww
        · refine g_X8_letter_39 ⟨by omega, fun c => absurd rfl c, fun _ => ⟨rfl, _, rfl, Or.inr ⟨fun k => by have := k.1; omega, rfl⟩⟩⟩
      · refine g_X8_letter_27 ⟨by omega, fun _ => ⟨rfl, _, rfl, Or.inr ⟨fun k => ?_, rfl⟩⟩, fun c => absurd rfl c⟩
        rw [em] at q2
        obtain ⟨k1, k2, k3⟩ := k
        rcases k3 with ⟨c, c2⟩ | ⟨c, c2⟩
        · rw [if_pos c] at q2; omega
        · rw [if_neg (by omega)] at q2; omega
    · exact g_X8_letter_7 ⟨by omega, fun _ => ⟨rfl, _, rfl, Or.inr ⟨fun k => by have := k.2.2; omega, rfl⟩⟩, fun c => absurd rfl c⟩
  · rcases p with ⟨p1, p2⟩ | ⟨p1, p2⟩ <;> rcases q with ⟨q1, q2⟩ | ⟨q1, q2⟩
    · rw [p2, q2]
    · exact absurd p1 q1
    · exact absurd q1 p1
    · rw [p2, q2]
  · rcases p with ⟨p1, p2⟩ | ⟨p1, p2⟩
    · obtain ⟨N, hN, hf, hz, hv⟩ := nm p1
      have a2b := p1.1
      have e2 : ((a2.toNat : Nat) : Int) = a2 := by omega
      by_cases c : a2.toNat < N
      · have := hf a2.toNat c
        rw [e2] at this
        rw [p2]; unfold R32
        have this : 1 ≤ m (m 0 2 + 12) ((10 * a0 + a1) * 6 + a2) ∧ m (m 0 2 + 12) ((10 * a0 + a1) * 6 + a2) ≤ 26 := this
        omega
      · have := hz a2.toNat (by omega) (by omega)
        rw [e2] at this
        have this : m (m 0 2 + 12) ((10 * a0 + a1) * 6 + a2) = 0 := this
        rw [p2, this]; unfold R32; omega
    · rw [p2]; unfold R32; omega
end PC_
