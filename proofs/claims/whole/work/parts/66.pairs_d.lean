/-! pairs of calls: seam image undo -/
section PD
variable {sc : List Int} {Ca : Mem → Mem → Prop}
def smV (ρ : Mem) (a0 a1 : Int) : Int := if 0 ≤ a0 ∧ a0 < ρ 0 1 then (if a1 = 0 then ρ 3 a0 else if a1 = 1 then ρ 4 a0 else if a1 = 2 then ρ 6 a0 else if 10 ≤ a1 ∧ a1 - 10 < ρ 6 a0 then ρ 5 (a0 * 4 + (a1 - 10)) else -1) else -1
theorem pair_seam (hCa : CaFr Ca) (n : Nat) (m : Mem) (a0 a1 : Int) (hn : n < 512) (hi : Inv Ca n m) (h0 : R32 a0) (h1 : R32 a1) : PairI (Inv Ca) n m (P_X7_seam sc 1799 [aR 0, aI a0, aI a1]) (P_X8_seam sc 1799 [aR 62, aI a0, aI a1]) := by
  have hi1 := hi.up
  obtain ⟨ρ, nr, w, hi, hc⟩ := hi
  have hb := hi.2.1
  have b0 := hb.1
  have hx := hi.2.2.1
  have hm := hi.mrm
  have e8 := hx.1.2.1
  by_cases c : 0 ≤ a0
  · obtain ⟨s, rfl⟩ := Int.eq_ofNat_of_zero_le c
    by_cases cs : (s : Int) < ρ 0 1
    · have xs := hx.2.2.1 s cs
      have ms := hm.2.2.1 s cs
      have bs := hb.2.2.2.1 s cs
      have pl : ∀ q : Int, 0 ≤ q → q < ρ 6 s → m (m 0 2 + 5) (s * 4 + q) = ρ 5 (s * 4 + q) ∧ 1 ≤ ρ 5 (s * 4 + q) ∧ ρ 5 (s * 4 + q) ≤ 98 := fun q q1 q2 => by
        have p1 := xs.2.2.2 q.toNat (by omega)
        have p2 := bs.2.2.2 q.toNat (by omega)
        rw [show ((q.toNat : Nat) : Int) = q by omega] at p1 p2
        exact ⟨p1, p2⟩
      have e0 : a1 = 0 → smV ρ s a1 = ρ 3 s := fun q => by unfold smV; rw [if_pos ⟨c, cs⟩, if_pos q]
      have e1 : a1 = 1 → smV ρ s a1 = ρ 4 s := fun q => by unfold smV; rw [if_pos ⟨c, cs⟩, if_neg (by omega), if_pos q]
      have e2 : a1 = 2 → smV ρ s a1 = ρ 6 s := fun q => by unfold smV; rw [if_pos ⟨c, cs⟩, if_neg (by omega), if_neg (by omega), if_pos q]
      have e3 : 10 ≤ a1 → a1 - 10 < ρ 6 s → smV ρ s a1 = ρ 5 (s * 4 + (a1 - 10)) := fun q q2 => by unfold smV; rw [if_pos ⟨c, cs⟩, if_neg (by omega), if_neg (by omega), if_neg (by omega), if_pos ⟨q, q2⟩]
      have e4 : a1 ≠ 0 → a1 ≠ 1 → a1 ≠ 2 → ¬ (10 ≤ a1 ∧ a1 - 10 < ρ 6 s) → smV ρ s a1 = -1 := fun q0 q1 q2 q3 => by unfold smV; rw [if_pos ⟨c, cs⟩, if_neg q0, if_neg q1, if_neg q2, if_neg q3]
      refine pairI_ro (A := fun x => x = smV ρ s a1) ?_ ?_ (fun x y p q => by rw [p, q]) (fun x p => ?_) hi1
      · refine ep_X7_seam (g_X7_seam_0 ⟨h0, fun q => absurd q (by omega), fun _ => ⟨hi.1.1, by omega, fun _ => ⟨h1, fun q => ⟨by omega, by omega, rfl, _, rfl, by rw [e0 q, xs.1]⟩, fun q => ⟨by omega, by omega, rfl, _, rfl, by rw [e1 q, xs.2.1]⟩, fun q => ⟨by omega, by omega, rfl, _, rfl, by rw [e2 q, xs.2.2.1]⟩, fun q => ⟨fun q2 => ⟨rfl, _, rfl, (e4 q.1 q.2.1 q.2.2 (by omega)).symm⟩, fun q2 => ⟨by omega, by omega, by unfold R32 at h1; omega, by omega, fun q3 => ⟨by omega, by omega, rfl, _, rfl, ?_⟩, fun q3 => ⟨rfl, _, rfl, (e4 q.1 q.2.1 q.2.2 (by omega)).symm⟩⟩⟩⟩, fun q => absurd q (by omega)⟩⟩)
        rw [e3 (by omega) (by omega), show (s : Int) * 4 + a1 - 10 = s * 4 + (a1 - 10) by omega]
        exact (pl (a1 - 10) (by omega) (by omega)).1
      · refine ep_X8_seam (g_X8_seam_0 ⟨h0, ?_⟩)
        refine p_X8_seam_4 (d2 := 1798) (s_seamMany hm) (by decide) ?_
        rintro _ z ⟨e, rfl⟩; cases e
        refine g_X8_seam_7 ⟨by omega, ?_⟩
        refine p_X8_seam_10 (d2 := 1798) (s_isIn ⟨by omega, by omega⟩ ⟨by omega, by omega⟩ ⟨by omega, by omega⟩) (by decide) ?_
        rintro _ z ⟨rfl, ⟨e, q⟩ | ⟨e, q⟩⟩ <;> cases e
        · refine g_X8_seam_13 ⟨by omega, fun _ => ⟨h1, ?_⟩, fun c => absurd (by decide) c⟩
          refine p_X8_seam_27 (d2 := 1798) (s_placeMany hm hb cs) (by decide) ?_
          rintro _ z ⟨e, rfl⟩; cases e
          refine g_X8_seam_30 ⟨by omega, ?_⟩
          refine p_X8_seam_32 (d2 := 1798) (s_isIn ⟨by omega, by omega⟩ ⟨by omega, by omega⟩ ⟨by omega, by omega⟩) (by decide) ?_
          rintro _ z ⟨rfl, ⟨e, q2⟩ | ⟨e, q2⟩⟩ <;> cases e
          · refine g_X8_seam_35 ⟨by omega, fun q => absurd q (by decide), fun _ => ?_⟩
            obtain ⟨k, hk⟩ := Int.eq_ofNat_of_zero_le (show 0 ≤ a1 - 10 by omega)
            have e5 := e3 (by omega) (by omega)
            rw [hk] at e5 ⊢
            refine p_X8_seam_44 (d2 := 1798) (s_placeOf hm hb cs (by omega)) (by decide) ?_
            rintro _ z ⟨e, rfl⟩; cases e
            exact g_X8_seam_47 ⟨rfl, _, rfl, e5.symm⟩
          · refine g_X8_seam_35 ⟨by omega, fun _ => ⟨h1, ?_⟩, fun q => absurd rfl q⟩
            refine p_X8_seam_54 (d2 := 1798) (s_isIn ⟨by omega, by omega⟩ ⟨by omega, by omega⟩ ⟨by omega, by omega⟩) (by decide) ?_
            rintro _ z ⟨rfl, ⟨e, q3⟩ | ⟨e, q3⟩⟩ <;> cases e
            · refine g_X8_seam_57 ⟨by omega, fun _ => by omega, fun _ => by omega, rfl, _, rfl, ?_⟩
              rw [if_neg (by decide)]
              rcases (by omega : a1 = 0 ∨ a1 = 1 ∨ a1 = 2) with q4 | q4 | q4
              · rw [e0 q4, q4, Int.add_zero]; exact ms.1
              · rw [e1 q4, q4, show 70 + 7 * (s : Int) + 1 = 71 + 7 * (s : Int) by omega]; exact ms.2.1
              · rw [e2 q4, q4, show 70 + 7 * (s : Int) + 2 = 72 + 7 * (s : Int) by omega]; exact ms.2.2.1
            · refine g_X8_seam_57 ⟨by omega, fun q => absurd rfl q, fun q => absurd rfl q, rfl, _, rfl, ?_⟩
              rw [if_pos rfl]
              exact (e4 (by omega) (by omega) (by omega) (by omega)).symm
        · omega
      · rw [p]; unfold R32
        by_cases q : 10 ≤ a1 ∧ a1 - 10 < ρ 6 s
        · rw [e3 q.1 q.2]
          have := (pl (a1 - 10) (by omega) q.2).2
          omega
        · by_cases q0 : a1 = 0
          · rw [e0 q0]; omega
          · by_cases q1 : a1 = 1
            · rw [e1 q1]; omega
            · by_cases q2 : a1 = 2
              · rw [e2 q2]; omega
              · rw [e4 q0 q1 q2 q]; omega
    · have ev : smV ρ s a1 = -1 := by unfold smV; rw [if_neg (fun q => cs q.2)]
      refine pairI_ro (A := fun x => x = -1) ?_ ?_ (fun x y p q => by rw [p, q]) (fun x p => by rw [p]; unfold R32; omega) hi1
      · exact ep_X7_seam (g_X7_seam_0 ⟨h0, fun q => absurd q (by omega), fun _ => ⟨hi.1.1, by omega, fun q => absurd q (by omega), fun _ => ⟨rfl, _, rfl, rfl⟩⟩⟩)
      · refine ep_X8_seam (g_X8_seam_0 ⟨h0, ?_⟩)
        refine p_X8_seam_4 (d2 := 1798) (s_seamMany hm) (by decide) ?_
        rintro _ z ⟨e, rfl⟩; cases e
        refine g_X8_seam_7 ⟨by omega, ?_⟩
        refine p_X8_seam_10 (d2 := 1798) (s_isIn ⟨by omega, by omega⟩ ⟨by omega, by omega⟩ ⟨by omega, by omega⟩) (by decide) ?_
        rintro _ z ⟨rfl, ⟨e, q⟩ | ⟨e, q⟩⟩ <;> cases e
        · omega
        · exact g_X8_seam_13 ⟨by omega, fun q => absurd rfl q, fun _ => ⟨rfl, _, rfl, rfl⟩⟩
  · refine pairI_ro (A := fun x => x = -1) ?_ ?_ (fun x y p q => by rw [p, q]) (fun x p => by rw [p]; unfold R32; omega) hi1
    · exact ep_X7_seam (g_X7_seam_0 ⟨h0, fun q => ⟨rfl, _, rfl, rfl⟩, fun q => absurd (by omega) c⟩)
    · refine ep_X8_seam (g_X8_seam_0 ⟨h0, ?_⟩)
      refine p_X8_seam_4 (d2 := 1798) (s_seamMany hm) (by decide) ?_
      rintro _ z ⟨e, rfl⟩; cases e
      refine g_X8_seam_7 ⟨by omega, ?_⟩
      refine p_X8_seam_10 (d2 := 1798) (s_isIn ⟨by omega, by omega⟩ ⟨by omega, by omega⟩ ⟨by omega, by omega⟩) (by decide) ?_
      rintro _ z ⟨rfl, ⟨e, q⟩ | ⟨e, q⟩⟩ <;> cases e
      · omega
      · exact g_X8_seam_13 ⟨by omega, fun q => absurd rfl q, fun _ => ⟨rfl, _, rfl, rfl⟩⟩
end PD
