/-! pair: hidden -/
section HN
variable {sc : List Int} {Ca : Mem → Mem → Prop} {d : Nat} {m : Mem} {Q : Option AV → Mem → Prop} {L : Int} {ρ : Mem}
def C_hm (a j : Int) : Prop := C_ms2 a j ∨ C_sf a j
theorem s_X8_hidden {a : Int} (h : MRm m ρ) (hb : RmB ρ) (hd : 3 ≤ d) (hL : R32 L) (ha : R32 a) : P_X8_hidden sc d [aR 62, aI L, aI a] m (fun v z => Ex C_hm m z ∧ ∃ x, v = some (aI x) ∧ IsHid ρ L a x) := by
  have b0 := hb.1
  have eR := h.1.2.2.2
  by_cases c0 : ρ 0 3 = 0
  · rw [if_pos c0] at eR
    exact ep_X8_hidden (g_X8_hidden_0 ⟨by omega, fun _ => ⟨Ex.refl _ _, _, rfl, Or.inr ⟨fun p => by omega, rfl⟩⟩, fun c => absurd eR c⟩)
  rw [if_neg c0] at eR
  refine ep_X8_hidden (g_X8_hidden_0 ⟨by omega, fun c => by omega, fun _ => ⟨hL, ?_⟩⟩)
  refine p_X8_hidden_13 (d2 := d - 1) (s_isIn ⟨by omega, by omega⟩ ⟨by omega, by omega⟩ ⟨by omega, by omega⟩) (by omega) ?_
  rintro _ m ⟨rfl, ⟨e, q⟩ | ⟨e, q⟩⟩ <;> cases e
  · refine g_X8_hidden_16 ⟨by omega, fun _ => ?_, fun c => absurd (by decide) c⟩
    refine p_X8_hidden_22 (d2 := d - 1) (s_laysStarts h hb (by omega)) (by omega) ?_
    rintro y ⟨-, yE, yp, yT⟩
    have few : 0 < ρ 0 3 ∧ 1 ≤ L ∧ L ≤ 99 := ⟨by omega, q⟩
    have len := spS_len hb (ρ 0 1).toNat (by omega)
    have tb := A_bd hb (ρ 0 1).toNat (by omega)
    have okl := spS_ok hb (ρ 0 1).toNat (by omega)
    have sh01 := fun i hi => sh_01 hb i hi
    have isH : ∀ (cs nx : Nat → Int) (x : Int), DPf (spS ρ (ρ 0 1).toNat) (sumF (ρ 3) (ρ 0 1).toNat) L cs nx 0 → x = hidF (spS ρ (ρ 0 1).toNat) cs nx a → IsHid ρ L a x := fun cs nx x h1 h2 => Or.inl ⟨few, cs, nx, h1, h2⟩
    obtain ⟨T, hT⟩ : ∃ T, T = sumF (ρ 3) (ρ 0 1).toNat := ⟨_, rfl⟩
    rw [← hT] at yT tb isH
    generalize spS ρ (ρ 0 1).toNat = l at yp yT len okl sh01 isH ⊢
    have okb : ∀ i : Nat, i < l.length → (0 ≤ (nthR l i).1 ∧ (nthR l i).1 ≤ 1100) ∧ ((nthR l i).2.2 = 0 ∨ (nthR l i).2.2 = 1) := fun i hi => ⟨(okl i hi).1, sh01 i hi⟩
    have yA : Ex C_hm m y := yE.mono (fun a j q => Or.inl q)
    refine g_X8_hidden_25 ?_
    rw [yp.1]
    refine ⟨by omega, fun cn => ?_, fun cn => ⟨ha, yA, _, rfl, isH (fun _ => 0) (fun _ => 0) _ (fun i _ hi => by omega) ?_⟩⟩
    · have lp : ∀ (i : Nat) (z : Mem), i ≤ l.length → Ex C_sf y z → DPf l T L (csM z) (nxM z l.length) i → (∀ q : Nat, i ≤ q → q < l.length → okM z l.length q) → S_X8_hidden sc d 54 [aR 62, aI L, aI a, aI ((i : Int) - 1), aU] [] z (fun v z => Ex C_hm m z ∧ ∃ x, v = some (aI x) ∧ IsHid ρ L a x) := by
        intro i
        induction i with
        | zero =>
          intro z hi he hD hk
          have zA : Ex C_hm m z := yA.trans (he.mono (fun a j q => Or.inr q))
          have k0 := hk 0 (by omega) (by omega)
          have z75 : z 62 75 = (l.length : Nat) := (he 62 75 (by unfold C_sf; omega)).trans yp.1
          have z114 : ∀ q : Nat, q < l.length → z 114 q = (nthR l q).2.1 := fun q hq => (he 114 q (by unfold C_sf; omega)).trans (yp.2 q hq).2.1
          have c0v : csM z 0 = if z 116 0 = 1000 then 2147483647 else 100 * (z 116 0 - 1) + z 117 0 := rfl
          have k0' : (z 116 0 = 1000 ∧ z 117 0 = 0) ∨ ((1 ≤ z 116 0 ∧ z 116 0 ≤ 50) ∧ (0 ≤ z 117 0 ∧ z 117 0 ≤ z 116 0 - 1)) := by
            unfold okM at k0
            have k0'' : (z 116 0 = 1000 ∧ z 117 0 = 0 ∧ z 118 0 = -1) ∨ ((1 ≤ z 116 0 ∧ z 116 0 ≤ (l.length : Int) - (0 : Nat)) ∧ (0 ≤ z 117 0 ∧ z 117 0 ≤ z 116 0 - 1) ∧ ((0 : Nat) : Int) < z 118 0 ∧ z 118 0 ≤ l.length) := k0
            omega
          refine g_X8_hidden_54 ⟨by omega, fun _ => ⟨by omega, fun c1 => ⟨ha, fun c2 => ?_, fun c2 => ⟨zA, _, rfl, isH _ _ _ hD ?_⟩⟩, fun c1 => ⟨zA, _, rfl, isH _ _ _ hD ?_⟩⟩, fun c => absurd (by omega) c⟩
          · -- along the chain
            have bd := DPf.bd hD (by omega) (fun i hi => sh01 i hi) l.length 0 (by omega) (Nat.le_refl _)
            have fc : csM z 0 < 2147483647 := by rw [c0v, if_neg (by omega)]; omega
            have hF : hidF l (csM z) (nxM z l.length) a = if wlk (nxM z l.length) (a - 9).toNat < 0 then -1 else (nthR l (wlk (nxM z l.length) (a - 9).toNat).toNat).2.1 := by
              unfold hidF
              rw [if_neg (show ¬ l.length = 0 by omega), if_neg (show ¬ csM z 0 = 2147483647 by omega), if_neg (show ¬ a = 0 by omega), if_neg (show ¬ a = 1 by omega), if_neg (show ¬ a < 10 by omega)]
            have dead : ∀ (q n : Nat), wlk (nxM z l.length) q < 0 → wlk (nxM z l.length) (q + n) < 0 := by
              intro q n hq
              induction n with
              | zero => exact hq
              | succ n ih => rw [← Nat.add_assoc, wlk, if_pos ih]; decide
            have wl : ∀ (p n k : Nat), k + p = l.length → n ≤ k → (n : Int) ≤ a - 9 → wlk (nxM z l.length) n = k → k < l.length → csM z k < 2147483647 → S_X8_hidden sc d 125 [aR 62, aU, aI a, aI k, aI (10 + (n : Int))] [] z (fun v z => Ex C_hm m z ∧ ∃ x, v = some (aI x) ∧ IsHid ρ L a x) := by
              intro p
              induction p using Nat.strongRecOn with
              | ind p ih =>
                intro n k hk2 hnk hn hw hkl hc
                by_cases cn : (n : Int) = a - 9
                · refine g_X8_hidden_125 ⟨by omega, by omega, fun _ => ⟨by omega, by rw [z75]; omega, fun _ => by omega, fun _ => by omega, zA, _, rfl, isH _ _ _ hD ?_⟩, fun c => absurd (by omega) c⟩
                  rw [z75, if_pos (show ((k : Nat) : Int) ≠ (l.length : Nat) by omega), z114 k hkl, hF, show (a - 9).toNat = n by omega, hw, if_neg (by omega), show ((k : Nat) : Int).toNat = k by omega]
                · refine g_X8_hidden_125 ⟨by omega, by omega, fun c => absurd c (by omega), fun _ => ⟨by omega, by rw [z75]; omega, fun c => absurd c (by rw [z75]; omega), fun _ => ⟨by omega, by omega, ?_⟩⟩⟩
                  have w1 : wlk (nxM z l.length) (n + 1) = nxM z l.length k := by
                    rw [wlk, hw, if_neg (by omega), show ((k : Nat) : Int).toNat = k by omega]
                  have e10 : (10 : Int) + n + 1 = 10 + ((n + 1 : Nat) : Int) := by omega
                  rw [e10]
                  rcases bd k (by omega) hkl with ⟨b1, -⟩ | ⟨b1, b2, ⟨b3, b4⟩ | ⟨x, x1, x2, x3, x4, x5⟩⟩
                  · omega
                  · -- the chain ends
                    have kk := hk k (by omega) hkl
                    have e8 : z 118 k = (l.length : Nat) := by
                      unfold nxM at b3
                      by_cases g : z 118 k = (l.length : Nat)
                      · exact g
                      · rw [if_neg g] at b3
                        unfold okM at kk
                        have cv : csM z k = if z 116 k = 1000 then 2147483647 else 100 * (z 116 k - 1) + z 117 k := rfl
                        rcases kk with ⟨g1, -⟩ | ⟨-, -, g2, -⟩
                        · rw [if_pos g1] at cv; omega
                        · omega
                    rw [e8]
                    have w2 : wlk (nxM z l.length) (a - 9).toNat < 0 := by
                      have := dead (n + 1) ((a - 9).toNat - (n + 1)) (by rw [w1, b3]; decide)
                      rw [show n + 1 + ((a - 9).toNat - (n + 1)) = (a - 9).toNat by omega] at this
                      exact this
                    have ans : (fun v z => Ex C_hm m z ∧ ∃ x, v = some (aI x) ∧ IsHid ρ L a x) (some (aI (if ((l.length : Nat) : Int) ≠ z 62 75 then z 114 (l.length : Nat) else -1))) z := by
                      refine ⟨zA, _, rfl, isH _ _ _ hD ?_⟩
                      rw [z75, if_neg (fun q => q rfl), hF, if_pos w2]
                    exact g_X8_hidden_125 ⟨by omega, by omega, fun _ => ⟨by omega, by rw [z75]; omega, fun c => by omega, fun c => by omega, ans⟩, fun _ => ⟨by omega, by rw [z75]; omega, fun _ => ⟨fun c => by omega, fun c => by omega, ans⟩, fun c => absurd z75.symm c⟩⟩
                  · have e8 : z 118 k = x := by
                      unfold nxM at x3
                      by_cases g : z 118 k = (l.length : Nat)
                      · rw [if_pos g] at x3; omega
                      · rw [if_neg g] at x3; exact x3
                    rw [e8]
                    exact ih (l.length - x) (by omega) (n + 1) x (by omega) (by omega) (by omega) (by rw [w1, x3]) x2 x4
            exact wl l.length 0 0 (by omega) (by omega) (by omega) rfl (by omega) fc
          · have fc : csM z 0 = 100 * (z 116 0 - 1) + z 117 0 := by rw [c0v, if_neg (by omega)]
            unfold hidF
            rw [if_neg (show ¬ l.length = 0 by omega), if_neg (show ¬ csM z 0 = 2147483647 by omega)]
            by_cases g0 : a = 0
            · rw [if_neg (fun q => q g0), if_pos g0, fc]; omega
            · rw [if_pos g0, if_neg g0]
              by_cases g1 : a = 1
              · rw [if_neg (fun q => q g1), if_pos g1, fc]; omega
              · rw [if_pos g1, if_neg g1, if_pos (show a < 10 by omega)]
          · have e : z 116 0 = 1000 := by rcases k0' with g | g <;> omega
            unfold hidF
            rw [if_neg (show ¬ l.length = 0 by omega), if_pos (by rw [c0v, if_pos e])]
        | succ i ih =>
          intro z hi he hD hk
          have e3 : ((i + 1 : Nat) : Int) - 1 = i := by omega
          rw [e3]
          refine g_X8_hidden_54 ⟨by omega, fun c => absurd c (by omega), fun _ => ?_⟩
          have zp : SpM z l := ⟨(he 62 75 (by unfold C_sf; omega)).trans yp.1, fun q hq => by rw [he 113 q (by unfold C_sf; omega), he 114 q (by unfold C_sf; omega), he 115 q (by unfold C_sf; omega)]; exact yp.2 q hq⟩
          refine p_X8_hidden_61 (d2 := d - 1) (s_startsFrom (T := T) zp ((he 113 _ (by unfold C_sf; omega)).trans yT) (by omega) (by omega) (by omega) q okb hD hk) (by omega) ?_
          rintro u ⟨-, uE, uD, uk⟩
          refine g_X8_hidden_64 ?_
          rw [show (i : Int) + (-1) = (i : Int) - 1 by omega]
          exact ih u (by omega) (he.trans uE) uD uk
      exact lp l.length y (Nat.le_refl _) (Ex.refl _ _) (fun q h1 h2 => by omega) (fun q h1 h2 => by omega)
    · unfold hidF
      rw [if_pos (show l.length = 0 by omega)]
      by_cases g0 : a = 0
      · rw [if_pos g0, if_pos g0]
      · rw [if_neg g0, if_neg g0]
        by_cases g1 : a = 1
        · rw [if_pos g1, if_neg (fun q => q g1)]
        · rw [if_neg g1, if_pos g1]
  · exact g_X8_hidden_16 ⟨by omega, fun c => absurd rfl c, fun _ => ⟨Ex.refl _ _, _, rfl, Or.inr ⟨fun p => q p.2, rfl⟩⟩⟩
theorem IsHid.bd (hb : RmB ρ) {a v : Int} (h : IsHid ρ L a v) : R32 v := by
  have b0 := hb.1
  rcases h with ⟨p, cs, nx, hD, rfl⟩ | ⟨p, rfl⟩
  · have len := spS_len hb (ρ 0 1).toNat (by omega)
    have okl := spS_ok hb (ρ 0 1).toNat (by omega)
    have bd := DPf.bd hD (by omega) (fun i hi => sh_01 hb i hi) (spS ρ (ρ 0 1).toNat).length 0 (by omega) (Nat.le_refl _)
    unfold hidF
    by_cases c : (spS ρ (ρ 0 1).toNat).length = 0
    · rw [if_pos c]
      unfold R32
      split
      · omega
      · split <;> omega
    · rw [if_neg c]
      have b00 : cs 0 = 2147483647 ∨ (0 ≤ cs 0 ∧ cs 0 ≤ 5050) := by
        rcases bd 0 (by omega) (by omega) with ⟨g, -⟩ | ⟨g1, g2, -⟩
        · exact Or.inl g
        · exact Or.inr ⟨g1, by omega⟩
      have w := (wlk_congr (nx := nx) (nx' := nx) (n := (spS ρ (ρ 0 1).toNat).length) (by omega) (fun i hi => rfl) (fun i hi => by
        rcases bd i (by omega) hi with ⟨-, g⟩ | ⟨-, -, ⟨g, -⟩ | ⟨k, k1, k2, k3, -⟩⟩ <;> omega) (a - 9).toNat).2
      by_cases c1 : cs 0 = 2147483647
      · rw [if_pos c1]; unfold R32; omega
      · rw [if_neg c1]
        by_cases c2 : a = 0
        · rw [if_pos c2]; unfold R32; omega
        · rw [if_neg c2]
          by_cases c3 : a = 1
          · rw [if_pos c3]; unfold R32; omega
          · rw [if_neg c3]
            by_cases c4 : a < 10
            · rw [if_pos c4]; unfold R32; omega
            · rw [if_neg c4]
              by_cases c5 : wlk nx (a - 9).toNat < 0
              · rw [if_pos c5]; unfold R32; omega
              · rw [if_neg c5]
                obtain ⟨-, s, s1, s2⟩ := okl (wlk nx (a - 9).toNat).toNat (by omega)
                unfold R32
                rcases s2 with ⟨g, -⟩ | ⟨p, g1, g2, g3, -⟩ <;> omega
  · unfold R32; omega
theorem pair_hidden (hCa : CaFr Ca) (n : Nat) (m : Mem) (a0 a1 : Int) (hn : n < 512) (hi : Inv Ca n m) (h0 : R32 a0) (h1 : R32 a1) : PairI (Inv Ca) n m (P_X7_hidden sc 1799 [aR 0, aI a0, aI a1]) (P_X8_hidden sc 1799 [aR 62, aI a0, aI a1]) := by
  obtain ⟨ρ, nr, w, hi, hc⟩ := hi
  have hb := hi.2.1
  refine pairI_of (CX := C_hx) (CM := C_hm) (A := IsHid ρ a0 a1) (s_X7_hidden hi.xt (by decide) h0 h1) (fun z hz => s_X8_hidden (hi.2.2.2.1.ex hz (fun a j q => by unfold C_hx; omega)) hb (by decide) h0 h1) (fun x y p q => IsHid.eq hb p q) (fun x hA => hA.bd hb) (fun z hz => Inv.keep hCa hi hc hz (fun a j q => ?_) (fun a j q => ?_))
  · unfold C_hx C_hm C_ms2 C_sf at q; unfold Rel; omega
  · unfold C_hx C_hm C_ms2 C_sf at q; unfold CaC; omega
end HN
