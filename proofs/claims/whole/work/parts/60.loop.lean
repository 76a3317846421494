/-! the law's loop out of pairs of calls -/
def PairI (Inv : Nat → Mem → Prop) (n : Nat) (m : Mem) (PX PM : Mem → (Option AV → Mem → Prop) → Prop) : Prop := PX m (fun v z => ∃ x, v = some (aI x) ∧ R32 x ∧ PM z (fun v2 z2 => v2 = some (aI x) ∧ Inv (n + 1) z2))
def PairJ (Inv : Nat → Mem → Prop) (n : Nat) (m : Mem) (PX PM : Mem → (Option AV → Mem → Prop) → Prop) : Prop := PX m (fun v z => ∃ x, v = some (aJ x) ∧ R64 x ∧ PM z (fun v2 z2 => v2 = some (aJ x) ∧ Inv (n + 1) z2))
theorem a_and_bd (x y : Int) : R32 (a_and x y) := ⟨Int32.le_toInt _, Int32.toInt_lt _⟩
theorem law_loop {sc : List Int} {Inv : Nat → Mem → Prop} (hlen : sc.length ≤ 3072) (hr : ∀ i : Nat, R32 (sc.getD i 0)) (hmono : ∀ n m, Inv n m → Inv (n + 1) m)
    (hfeed : ∀ (n : Nat) (m : Mem) (a0 a1 a2 a3 a4 : Int), n < 512 → Inv n m → R32 a0 → R32 a1 → R32 a2 → R32 a3 → R32 a4 → PairI Inv n m (P_X7_feed sc 1799 [aR 0, aI a0, aI a1, aI a2, aI a3, aI a4]) (P_X8_feed sc 1799 [aR 62, aI a0, aI a1, aI a2, aI a3, aI a4]))
    (hend : ∀ (n : Nat) (m : Mem) (a0 : Int), n < 512 → Inv n m → R32 a0 → PairI Inv n m (P_X7_end sc 1799 [aR 0, aI a0]) (P_X8_end sc 1799 [aR 62, aI a0]))
    (hroom : ∀ (n : Nat) (m : Mem), n < 512 → Inv n m → PairI Inv n m (P_X7_room sc 1799 [aR 0]) (P_X8_room sc 1799 [aR 62]))
    (hfault : ∀ (n : Nat) (m : Mem) (a0 : Int), n < 512 → Inv n m → R32 a0 → PairI Inv n m (P_X7_fault sc 1799 [aR 0, aI a0]) (P_X8_fault sc 1799 [aR 62, aI a0]))
    (hhas : ∀ (n : Nat) (m : Mem) (a0 : Int), n < 512 → Inv n m → R32 a0 → PairI Inv n m (P_X7_has sc 1799 [aR 0, aI a0]) (P_X8_has sc 1799 [aR 62, aI a0]))
    (hletter : ∀ (n : Nat) (m : Mem) (a0 a1 a2 : Int), n < 512 → Inv n m → R32 a0 → R32 a1 → R32 a2 → PairI Inv n m (P_X7_letter sc 1799 [aR 0, aI a0, aI a1, aI a2]) (P_X8_letter sc 1799 [aR 62, aI a0, aI a1, aI a2]))
    (hbobbin : ∀ (n : Nat) (m : Mem) (a0 a1 : Int), n < 512 → Inv n m → R32 a0 → R32 a1 → PairI Inv n m (P_X7_bobbin sc 1799 [aR 0, aI a0, aI a1]) (P_X8_bobbin sc 1799 [aR 62, aI a0, aI a1]))
    (hseam : ∀ (n : Nat) (m : Mem) (a0 a1 : Int), n < 512 → Inv n m → R32 a0 → R32 a1 → PairI Inv n m (P_X7_seam sc 1799 [aR 0, aI a0, aI a1]) (P_X8_seam sc 1799 [aR 62, aI a0, aI a1]))
    (hrow : ∀ (n : Nat) (m : Mem) (a0 a1 a2 a3 : Int), n < 512 → Inv n m → R32 a0 → R32 a1 → R32 a2 → R32 a3 → PairI Inv n m (P_X7_row sc 1799 [aR 0, aI a0, aI a1, aI a2, aI a3]) (P_X8_row sc 1799 [aR 62, aI a0, aI a1, aI a2, aI a3]))
    (hjudge : ∀ (n : Nat) (m : Mem) (a0 a1 a2 : Int), n < 512 → Inv n m → R32 a0 → R32 a1 → R32 a2 → PairI Inv n m (P_X7_judge sc 1799 [aR 0, aI a0, aI a1, aI a2]) (P_X8_judge sc 1799 [aR 62, aI a0, aI a1, aI a2]))
    (hmean : ∀ (n : Nat) (m : Mem) (a0 : Int), n < 512 → Inv n m → R32 a0 → PairI Inv n m (P_X7_mean sc 1799 [aR 0, aI a0]) (P_X8_mean sc 1799 [aR 62, aI a0]))
    (hwhen : ∀ (n : Nat) (m : Mem) (a0 a1 : Int), n < 512 → Inv n m → R32 a0 → R32 a1 → PairI Inv n m (P_X7_when sc 1799 [aR 0, aI a0, aI a1]) (P_X8_when sc 1799 [aR 62, aI a0, aI a1]))
    (hlooks : ∀ (n : Nat) (m : Mem) (a0 : Int), n < 512 → Inv n m → R32 a0 → PairI Inv n m (P_X7_looks sc 1799 [aR 0, aI a0]) (P_X8_looks sc 1799 [aR 62, aI a0]))
    (hrule : ∀ (n : Nat) (m : Mem), n < 512 → Inv n m → PairI Inv n m (P_X7_rule sc 1799 [aR 0]) (P_X8_rule sc 1799 [aR 62]))
    (hfewest : ∀ (n : Nat) (m : Mem) (a0 a1 : Int), n < 512 → Inv n m → R32 a0 → R32 a1 → PairI Inv n m (P_X7_fewest sc 1799 [aR 0, aI a0, aI a1]) (P_X8_fewest sc 1799 [aR 62, aI a0, aI a1]))
    (hfree : ∀ (n : Nat) (m : Mem) (a0 a1 : Int), n < 512 → Inv n m → R32 a0 → R32 a1 → PairI Inv n m (P_X7_free sc 1799 [aR 0, aI a0, aI a1]) (P_X8_free sc 1799 [aR 62, aI a0, aI a1]))
    (hhidden : ∀ (n : Nat) (m : Mem) (a0 a1 : Int), n < 512 → Inv n m → R32 a0 → R32 a1 → PairI Inv n m (P_X7_hidden sc 1799 [aR 0, aI a0, aI a1]) (P_X8_hidden sc 1799 [aR 62, aI a0, aI a1]))
    (hseveral : ∀ (n : Nat) (m : Mem) (a0 a1 : Int), n < 512 → Inv n m → R32 a0 → R32 a1 → PairI Inv n m (P_X7_several sc 1799 [aR 0, aI a0, aI a1]) (P_X8_several sc 1799 [aR 62, aI a0, aI a1]))
    (hwound : ∀ (n : Nat) (m : Mem) (a0 : Int), n < 512 → Inv n m → R32 a0 → PairI Inv n m (P_X7_wound sc 1799 [aR 0, aI a0]) (P_X8_wound sc 1799 [aR 62, aI a0]))
    (hday : ∀ (n : Nat) (m : Mem) (a0 : Int), n < 512 → Inv n m → R32 a0 → PairI Inv n m (P_X7_day sc 1799 [aR 0, aI a0]) (P_X8_day sc 1799 [aR 62, aI a0]))
    (hsew : ∀ (n : Nat) (m : Mem) (a0 : Int), n < 512 → Inv n m → (a0 = 0 ∨ a0 = 1) → PairI Inv n m (P_X7_sew sc 1799 [aR 0, aI a0]) (P_X8_sew sc 1799 [aR 62, aI a0]))
    (hglance : ∀ (n : Nat) (m : Mem), n < 512 → Inv n m → PairI Inv n m (P_X7_glance sc 1799 [aR 0]) (P_X8_glance sc 1799 [aR 62]))
    (hsews : ∀ (n : Nat) (m : Mem) (a0 : Int), n < 512 → Inv n m → R32 a0 → PairI Inv n m (P_X7_sews sc 1799 [aR 0, aI a0]) (P_X8_sews sc 1799 [aR 62, aI a0]))
    (hanew : ∀ (n : Nat) (m : Mem), n < 512 → Inv n m → PairI Inv n m (P_X7_anew sc 1799 [aR 0]) (P_X8_anew sc 1799 [aR 62]))
    (hundo : ∀ (n : Nat) (m : Mem), n < 512 → Inv n m → PairI Inv n m (P_X7_undo sc 1799 [aR 0]) (P_X8_undo sc 1799 [aR 62]))
    (hseed : ∀ (n : Nat) (m : Mem) (a0 : Int), n < 512 → Inv n m → R32 a0 → PairI Inv n m (P_X7_seed sc 1799 [aR 0, aI a0]) (P_X8_seed sc 1799 [aR 62, aI a0]))
    (hsee : ∀ (n : Nat) (m : Mem), n < 512 → Inv n m → PairI Inv n m (P_X7_see sc 1799 [aR 0]) (P_X8_see sc 1799 [aR 62]))
    (hfits : ∀ (n : Nat) (m : Mem) (a0 : Int), n < 512 → Inv n m → R32 a0 → PairI Inv n m (P_X7_fits sc 1799 [aR 0, aI a0]) (P_X8_fits sc 1799 [aR 62, aI a0]))
    (hask : ∀ (n : Nat) (m : Mem) (a0 a1 : Int), n < 512 → Inv n m → R32 a0 → R32 a1 → PairJ Inv n m (P_X7_ask sc 1799 [aR 0, aI a0, aI a1]) (P_X8_ask sc 1799 [aR 62, aI a0, aI a1]))
    (himage : ∀ (n : Nat) (m : Mem), n < 512 → Inv n m → PairI Inv n m (P_X7_image sc 1799 [aR 0]) (P_X8_image sc 1799 [aR 62]))
    (hoctet : ∀ (n : Nat) (m : Mem) (a0 : Int), n < 512 → Inv n m → R32 a0 → PairI Inv n m (P_X7_octet sc 1799 [aR 0, aI a0]) (P_X8_octet sc 1799 [aR 62, aI a0]))
    (hon : ∀ (n : Nat) (m : Mem), n < 512 → Inv n m → PairI Inv n m (P_X7_on sc 1799 [aR 0]) (P_X8_on sc 1799 [aR 62]))
    (hstatus : ∀ (n : Nat) (m : Mem) (a0 : Int), n < 512 → Inv n m → R32 a0 → PairI Inv n m (P_X7_status sc 1799 [aR 0, aI a0]) (P_X8_status sc 1799 [aR 62, aI a0])) :
    ∀ (k n : Nat) (m : Mem), sc.length ≤ 6 * (n + k) → n + k ≤ 512 → Inv n m → S_L_law sc 1800 18 [aR (-7), aR 0, aR 62, aI (6 * (n : Int))] [] m (fun v _ => v = some (aI 1)) := by
  intro k
  induction k with
  | zero =>
    intro n m h1 h2 hi
    exact g_L_law_18 ⟨by omega, by omega, fun _ => rfl, fun c => absurd (by omega) c⟩
  | succ k ih =>
    intro n m h1 h2 hi
    have nxt : ∀ z, Inv (n + 1) z → S_L_law sc 1800 18 [aR (-7), aR 0, aR 62, aI (6 * (n : Int) + 6)] [] z (fun v _ => v = some (aI 1)) := fun z hz => by
      have w := ih (n + 1) z (by omega) (by omega) hz
      rw [show 6 * ((n + 1 : Nat) : Int) = 6 * (n : Int) + 6 by omega] at w
      exact w
    refine g_L_law_18 ⟨by omega, by omega, fun _ => rfl, fun hc => ⟨by omega, by omega, a_and_bd _ _, fun _ => ?_, fun _ => ?_, fun _ => ?_, fun _ => ?_, fun _ => ?_, fun _ => ?_, fun _ => ?_, fun _ => ?_, fun _ => ?_, fun _ => ?_, fun _ => ?_, fun _ => ?_, fun _ => ?_, fun _ => ?_, fun _ => ?_, fun _ => ?_, fun _ => ?_, fun _ => ?_, fun _ => ?_, fun _ => ?_, fun _ => ?_, fun _ => ?_, fun _ => ?_, fun _ => ?_, fun _ => ?_, fun _ => ?_, fun _ => ?_, fun _ => ?_, fun _ => ?_, fun _ => ?_, fun _ => ?_, fun _ => ?_, fun _ => ?_, fun _ => ?_⟩⟩
    · have hp := hfeed n m (sc.getD (6 * (n : Int) + 1).toNat 0) (sc.getD (6 * (n : Int) + 2).toNat 0) (sc.getD (6 * (n : Int) + 3).toNat 0) (sc.getD (6 * (n : Int) + 4).toNat 0) (sc.getD (6 * (n : Int) + 5).toNat 0) (by omega) hi (hr _) (hr _) (hr _) (hr _) (hr _)
      refine ⟨by omega, by omega, by omega, by omega, by omega, by omega, by omega, by omega, by omega, by omega, ?_⟩
      refine p_L_law_206 (d2 := 1799) hp (by decide) ?_
      rintro _ z ⟨x, e, hx, hp2⟩; cases e
      refine g_L_law_209 ⟨by omega, by omega, by omega, by omega, by omega, by omega, by omega, by omega, by omega, by omega, ?_⟩
      refine p_L_law_235 (d2 := 1799) hp2 (by decide) ?_
      rintro _ z2 ⟨e, hi2⟩; cases e
      exact g_L_law_238 ⟨hx, hx, fun _ => nxt _ hi2, fun q => absurd rfl q⟩
    · have hp := hend n m (sc.getD (6 * (n : Int) + 1).toNat 0) (by omega) hi (hr _)
      refine ⟨by omega, by omega, ?_⟩
      refine p_L_law_249 (d2 := 1799) hp (by decide) ?_
      rintro _ z ⟨x, e, hx, hp2⟩; cases e
      refine g_L_law_252 ⟨by omega, by omega, ?_⟩
      refine p_L_law_258 (d2 := 1799) hp2 (by decide) ?_
      rintro _ z2 ⟨e, hi2⟩; cases e
      exact g_L_law_261 ⟨hx, hx, fun _ => nxt _ hi2, fun q => absurd rfl q⟩
    · have hp := hroom n m (by omega) hi
      refine p_L_law_267 (d2 := 1799) hp (by decide) ?_
      rintro _ z ⟨x, e, hx, hp2⟩; cases e
      refine g_L_law_270 ?_
      refine p_L_law_271 (d2 := 1799) hp2 (by decide) ?_
      rintro _ z2 ⟨e, hi2⟩; cases e
      exact g_L_law_274 ⟨hx, hx, fun _ => nxt _ hi2, fun q => absurd rfl q⟩
    · have hp := hfault n m (sc.getD (6 * (n : Int) + 1).toNat 0) (by omega) hi (hr _)
      refine ⟨by omega, by omega, ?_⟩
      refine p_L_law_285 (d2 := 1799) hp (by decide) ?_
      rintro _ z ⟨x, e, hx, hp2⟩; cases e
      refine g_L_law_288 ⟨by omega, by omega, ?_⟩
      refine p_L_law_294 (d2 := 1799) hp2 (by decide) ?_
      rintro _ z2 ⟨e, hi2⟩; cases e
      exact g_L_law_297 ⟨hx, hx, fun _ => nxt _ hi2, fun q => absurd rfl q⟩
    · have hp := hhas n m (sc.getD (6 * (n : Int) + 1).toNat 0) (by omega) hi (hr _)
      refine ⟨by omega, by omega, ?_⟩
      refine p_L_law_308 (d2 := 1799) hp (by decide) ?_
      rintro _ z ⟨x, e, hx, hp2⟩; cases e
      refine g_L_law_311 ⟨by omega, by omega, ?_⟩
      refine p_L_law_317 (d2 := 1799) hp2 (by decide) ?_
      rintro _ z2 ⟨e, hi2⟩; cases e
      exact g_L_law_320 ⟨hx, hx, fun _ => nxt _ hi2, fun q => absurd rfl q⟩
    · have hp := hletter n m (sc.getD (6 * (n : Int) + 1).toNat 0) (sc.getD (6 * (n : Int) + 2).toNat 0) (sc.getD (6 * (n : Int) + 3).toNat 0) (by omega) hi (hr _) (hr _) (hr _)
      refine ⟨by omega, by omega, by omega, by omega, by omega, by omega, ?_⟩
      refine p_L_law_341 (d2 := 1799) hp (by decide) ?_
      rintro _ z ⟨x, e, hx, hp2⟩; cases e
      refine g_L_law_344 ⟨by omega, by omega, by omega, by omega, by omega, by omega, ?_⟩
      refine p_L_law_360 (d2 := 1799) hp2 (by decide) ?_
      rintro _ z2 ⟨e, hi2⟩; cases e
      exact g_L_law_363 ⟨hx, hx, fun _ => nxt _ hi2, fun q => absurd rfl q⟩
    · have hp := hbobbin n m (sc.getD (6 * (n : Int) + 1).toNat 0) (sc.getD (6 * (n : Int) + 2).toNat 0) (by omega) hi (hr _) (hr _)
      refine ⟨by omega, by omega, by omega, by omega, ?_⟩
      refine p_L_law_379 (d2 := 1799) hp (by decide) ?_
      rintro _ z ⟨x, e, hx, hp2⟩; cases e
      refine g_L_law_382 ⟨by omega, by omega, by omega, by omega, ?_⟩
      refine p_L_law_393 (d2 := 1799) hp2 (by decide) ?_
      rintro _ z2 ⟨e, hi2⟩; cases e
      exact g_L_law_396 ⟨hx, hx, fun _ => nxt _ hi2, fun q => absurd rfl q⟩
    · have hp := hseam n m (sc.getD (6 * (n : Int) + 1).toNat 0) (sc.getD (6 * (n : Int) + 2).toNat 0) (by omega) hi (hr _) (hr _)
      refine ⟨by omega, by omega, by omega, by omega, ?_⟩
      refine p_L_law_412 (d2 := 1799) hp (by decide) ?_
      rintro _ z ⟨x, e, hx, hp2⟩; cases e
      refine g_L_law_415 ⟨by omega, by omega, by omega, by omega, ?_⟩
      refine p_L_law_426 (d2 := 1799) hp2 (by decide) ?_
      rintro _ z2 ⟨e, hi2⟩; cases e
      exact g_L_law_429 ⟨hx, hx, fun _ => nxt _ hi2, fun q => absurd rfl q⟩
    · have hp := hrow n m (sc.getD (6 * (n : Int) + 1).toNat 0) (sc.getD (6 * (n : Int) + 2).toNat 0) (sc.getD (6 * (n : Int) + 3).toNat 0) (sc.getD (6 * (n : Int) + 4).toNat 0) (by omega) hi (hr _) (hr _) (hr _) (hr _)
      refine ⟨by omega, by omega, by omega, by omega, by omega, by omega, by omega, by omega, ?_⟩
      refine p_L_law_455 (d2 := 1799) hp (by decide) ?_
      rintro _ z ⟨x, e, hx, hp2⟩; cases e
      refine g_L_law_458 ⟨by omega, by omega, by omega, by omega, by omega, by omega, by omega, by omega, ?_⟩
      refine p_L_law_479 (d2 := 1799) hp2 (by decide) ?_
      rintro _ z2 ⟨e, hi2⟩; cases e
      exact g_L_law_482 ⟨hx, hx, fun _ => nxt _ hi2, fun q => absurd rfl q⟩
    · have hp := hjudge n m (sc.getD (6 * (n : Int) + 1).toNat 0) (sc.getD (6 * (n : Int) + 2).toNat 0) (sc.getD (6 * (n : Int) + 3).toNat 0) (by omega) hi (hr _) (hr _) (hr _)
      refine ⟨by omega, by omega, by omega, by omega, by omega, by omega, ?_⟩
      refine p_L_law_503 (d2 := 1799) hp (by decide) ?_
      rintro _ z ⟨x, e, hx, hp2⟩; cases e
      refine g_L_law_506 ⟨by omega, by omega, by omega, by omega, by omega, by omega, ?_⟩
      refine p_L_law_522 (d2 := 1799) hp2 (by decide) ?_
      rintro _ z2 ⟨e, hi2⟩; cases e
      exact g_L_law_525 ⟨hx, hx, fun _ => nxt _ hi2, fun q => absurd rfl q⟩
    · have hp := hmean n m (sc.getD (6 * (n : Int) + 1).toNat 0) (by omega) hi (hr _)
      refine ⟨by omega, by omega, ?_⟩
      refine p_L_law_536 (d2 := 1799) hp (by decide) ?_
      rintro _ z ⟨x, e, hx, hp2⟩; cases e
      refine g_L_law_539 ⟨by omega, by omega, ?_⟩
      refine p_L_law_545 (d2 := 1799) hp2 (by decide) ?_
      rintro _ z2 ⟨e, hi2⟩; cases e
      exact g_L_law_548 ⟨hx, hx, fun _ => nxt _ hi2, fun q => absurd rfl q⟩
    · have hp := hwhen n m (sc.getD (6 * (n : Int) + 1).toNat 0) (sc.getD (6 * (n : Int) + 2).toNat 0) (by omega) hi (hr _) (hr _)
      refine ⟨by omega, by omega, by omega, by omega, ?_⟩
      refine p_L_law_564 (d2 := 1799) hp (by decide) ?_
      rintro _ z ⟨x, e, hx, hp2⟩; cases e
      refine g_L_law_567 ⟨by omega, by omega, by omega, by omega, ?_⟩
      refine p_L_law_578 (d2 := 1799) hp2 (by decide) ?_
      rintro _ z2 ⟨e, hi2⟩; cases e
      exact g_L_law_581 ⟨hx, hx, fun _ => nxt _ hi2, fun q => absurd rfl q⟩
    · have hp := hlooks n m (sc.getD (6 * (n : Int) + 1).toNat 0) (by omega) hi (hr _)
      refine ⟨by omega, by omega, ?_⟩
      refine p_L_law_592 (d2 := 1799) hp (by decide) ?_
      rintro _ z ⟨x, e, hx, hp2⟩; cases e
      refine g_L_law_595 ⟨by omega, by omega, ?_⟩
      refine p_L_law_601 (d2 := 1799) hp2 (by decide) ?_
      rintro _ z2 ⟨e, hi2⟩; cases e
      exact g_L_law_604 ⟨hx, hx, fun _ => nxt _ hi2, fun q => absurd rfl q⟩
    · have hp := hrule n m (by omega) hi
      refine p_L_law_610 (d2 := 1799) hp (by decide) ?_
      rintro _ z ⟨x, e, hx, hp2⟩; cases e
      refine g_L_law_613 ?_
      refine p_L_law_614 (d2 := 1799) hp2 (by decide) ?_
      rintro _ z2 ⟨e, hi2⟩; cases e
      exact g_L_law_617 ⟨hx, hx, fun _ => nxt _ hi2, fun q => absurd rfl q⟩
    · have hp := hfewest n m (sc.getD (6 * (n : Int) + 1).toNat 0) (sc.getD (6 * (n : Int) + 2).toNat 0) (by omega) hi (hr _) (hr _)
      refine ⟨by omega, by omega, by omega, by omega, ?_⟩
      refine p_L_law_633 (d2 := 1799) hp (by decide) ?_
      rintro _ z ⟨x, e, hx, hp2⟩; cases e
      refine g_L_law_636 ⟨by omega, by omega, by omega, by omega, ?_⟩
      refine p_L_law_647 (d2 := 1799) hp2 (by decide) ?_
      rintro _ z2 ⟨e, hi2⟩; cases e
      exact g_L_law_650 ⟨hx, hx, fun _ => nxt _ hi2, fun q => absurd rfl q⟩
    · have hp := hfree n m (sc.getD (6 * (n : Int) + 1).toNat 0) (sc.getD (6 * (n : Int) + 2).toNat 0) (by omega) hi (hr _) (hr _)
      refine ⟨by omega, by omega, by omega, by omega, ?_⟩
      refine p_L_law_666 (d2 := 1799) hp (by decide) ?_
      rintro _ z ⟨x, e, hx, hp2⟩; cases e
      refine g_L_law_669 ⟨by omega, by omega, by omega, by omega, ?_⟩
      refine p_L_law_680 (d2 := 1799) hp2 (by decide) ?_
      rintro _ z2 ⟨e, hi2⟩; cases e
      exact g_L_law_683 ⟨hx, hx, fun _ => nxt _ hi2, fun q => absurd rfl q⟩
    · have hp := hhidden n m (sc.getD (6 * (n : Int) + 1).toNat 0) (sc.getD (6 * (n : Int) + 2).toNat 0) (by omega) hi (hr _) (hr _)
      refine ⟨by omega, by omega, by omega, by omega, ?_⟩
      refine p_L_law_699 (d2 := 1799) hp (by decide) ?_
      rintro _ z ⟨x, e, hx, hp2⟩; cases e
      refine g_L_law_702 ⟨by omega, by omega, by omega, by omega, ?_⟩
      refine p_L_law_713 (d2 := 1799) hp2 (by decide) ?_
      rintro _ z2 ⟨e, hi2⟩; cases e
      exact g_L_law_716 ⟨hx, hx, fun _ => nxt _ hi2, fun q => absurd rfl q⟩
    · have hp := hseveral n m (sc.getD (6 * (n : Int) + 1).toNat 0) (sc.getD (6 * (n : Int) + 2).toNat 0) (by omega) hi (hr _) (hr _)
      refine ⟨by omega, by omega, by omega, by omega, ?_⟩
      refine p_L_law_732 (d2 := 1799) hp (by decide) ?_
      rintro _ z ⟨x, e, hx, hp2⟩; cases e
      refine g_L_law_735 ⟨by omega, by omega, by omega, by omega, ?_⟩
      refine p_L_law_746 (d2 := 1799) hp2 (by decide) ?_
      rintro _ z2 ⟨e, hi2⟩; cases e
      exact g_L_law_749 ⟨hx, hx, fun _ => nxt _ hi2, fun q => absurd rfl q⟩
    · have hp := hwound n m (sc.getD (6 * (n : Int) + 1).toNat 0) (by omega) hi (hr _)
      refine ⟨by omega, by omega, ?_⟩
      refine p_L_law_760 (d2 := 1799) hp (by decide) ?_
      rintro _ z ⟨x, e, hx, hp2⟩; cases e
      refine g_L_law_763 ⟨by omega, by omega, ?_⟩
      refine p_L_law_769 (d2 := 1799) hp2 (by decide) ?_
      rintro _ z2 ⟨e, hi2⟩; cases e
      exact g_L_law_772 ⟨hx, hx, fun _ => nxt _ hi2, fun q => absurd rfl q⟩
    · have hp := hday n m (sc.getD (6 * (n : Int) + 1).toNat 0) (by omega) hi (hr _)
      refine ⟨by omega, by omega, ?_⟩
      refine p_L_law_783 (d2 := 1799) hp (by decide) ?_
      rintro _ z ⟨x, e, hx, hp2⟩; cases e
      refine g_L_law_786 ⟨by omega, by omega, ?_⟩
      refine p_L_law_792 (d2 := 1799) hp2 (by decide) ?_
      rintro _ z2 ⟨e, hi2⟩; cases e
      exact g_L_law_795 ⟨hx, hx, fun _ => nxt _ hi2, fun q => absurd rfl q⟩
    · have hp := hsew n m (if (sc.getD (6 * (n : Int) + 1).toNat 0) = 0 then 0 else 1) (by omega) hi (by split <;> simp)
      refine ⟨by omega, by omega, hr _, ?_⟩
      refine p_L_law_814 (d2 := 1799) hp (by decide) ?_
      rintro _ z ⟨x, e, hx, hp2⟩; cases e
      refine g_L_law_817 ⟨by omega, by omega, hr _, ?_⟩
      refine p_L_law_831 (d2 := 1799) hp2 (by decide) ?_
      rintro _ z2 ⟨e, hi2⟩; cases e
      exact g_L_law_834 ⟨hx, hx, fun _ => nxt _ hi2, fun q => absurd rfl q⟩
    · have hp := hglance n m (by omega) hi
      refine p_L_law_840 (d2 := 1799) hp (by decide) ?_
      rintro _ z ⟨x, e, hx, hp2⟩; cases e
      refine g_L_law_843 ?_
      refine p_L_law_844 (d2 := 1799) hp2 (by decide) ?_
      rintro _ z2 ⟨e, hi2⟩; cases e
      exact g_L_law_847 ⟨hx, hx, fun _ => nxt _ hi2, fun q => absurd rfl q⟩
    · have hp := hsews n m (sc.getD (6 * (n : Int) + 1).toNat 0) (by omega) hi (hr _)
      refine ⟨by omega, by omega, ?_⟩
      refine p_L_law_858 (d2 := 1799) hp (by decide) ?_
      rintro _ z ⟨x, e, hx, hp2⟩; cases e
      refine g_L_law_861 ⟨by omega, by omega, ?_⟩
      refine p_L_law_867 (d2 := 1799) hp2 (by decide) ?_
      rintro _ z2 ⟨e, hi2⟩; cases e
      exact g_L_law_870 ⟨hx, hx, fun _ => nxt _ hi2, fun q => absurd rfl q⟩
    · have hp := hanew n m (by omega) hi
      refine p_L_law_876 (d2 := 1799) hp (by decide) ?_
      rintro _ z ⟨x, e, hx, hp2⟩; cases e
      refine g_L_law_879 ?_
      refine p_L_law_880 (d2 := 1799) hp2 (by decide) ?_
      rintro _ z2 ⟨e, hi2⟩; cases e
      exact g_L_law_883 ⟨hx, hx, fun _ => nxt _ hi2, fun q => absurd rfl q⟩
    · have hp := hundo n m (by omega) hi
      refine p_L_law_889 (d2 := 1799) hp (by decide) ?_
      rintro _ z ⟨x, e, hx, hp2⟩; cases e
      refine g_L_law_892 ?_
      refine p_L_law_893 (d2 := 1799) hp2 (by decide) ?_
      rintro _ z2 ⟨e, hi2⟩; cases e
      exact g_L_law_896 ⟨hx, hx, fun _ => nxt _ hi2, fun q => absurd rfl q⟩
    · have hp := hseed n m (sc.getD (6 * (n : Int) + 1).toNat 0) (by omega) hi (hr _)
      refine ⟨by omega, by omega, ?_⟩
      refine p_L_law_907 (d2 := 1799) hp (by decide) ?_
      rintro _ z ⟨x, e, hx, hp2⟩; cases e
      refine g_L_law_910 ⟨by omega, by omega, ?_⟩
      refine p_L_law_916 (d2 := 1799) hp2 (by decide) ?_
      rintro _ z2 ⟨e, hi2⟩; cases e
      exact g_L_law_919 ⟨hx, hx, fun _ => nxt _ hi2, fun q => absurd rfl q⟩
    · have hp := hsee n m (by omega) hi
      refine p_L_law_925 (d2 := 1799) hp (by decide) ?_
      rintro _ z ⟨x, e, hx, hp2⟩; cases e
      refine g_L_law_928 ?_
      refine p_L_law_929 (d2 := 1799) hp2 (by decide) ?_
      rintro _ z2 ⟨e, hi2⟩; cases e
      exact g_L_law_932 ⟨hx, hx, fun _ => nxt _ hi2, fun q => absurd rfl q⟩
    · have hp := hfits n m (sc.getD (6 * (n : Int) + 1).toNat 0) (by omega) hi (hr _)
      refine ⟨by omega, by omega, ?_⟩
      refine p_L_law_943 (d2 := 1799) hp (by decide) ?_
      rintro _ z ⟨x, e, hx, hp2⟩; cases e
      refine g_L_law_946 ⟨by omega, by omega, ?_⟩
      refine p_L_law_952 (d2 := 1799) hp2 (by decide) ?_
      rintro _ z2 ⟨e, hi2⟩; cases e
      exact g_L_law_955 ⟨hx, hx, fun _ => nxt _ hi2, fun q => absurd rfl q⟩
    · have hp := hask n m (sc.getD (6 * (n : Int) + 1).toNat 0) (sc.getD (6 * (n : Int) + 2).toNat 0) (by omega) hi (hr _) (hr _)
      refine ⟨by omega, by omega, by omega, by omega, ?_⟩
      refine p_L_law_971 (d2 := 1799) hp (by decide) ?_
      rintro _ z ⟨x, rfl, hx, hp2⟩
      refine ⟨x, rfl, ?_⟩
      refine g_L_law_974 ⟨by omega, by omega, by omega, by omega, ?_⟩
      refine p_L_law_985 (d2 := 1799) hp2 (by decide) ?_
      rintro _ z2 ⟨rfl, hi2⟩
      refine ⟨x, rfl, ?_⟩
      exact g_L_law_988 ⟨hx, hx, fun _ => nxt _ hi2, fun q => absurd rfl q⟩
    · have hp := himage n m (by omega) hi
      refine p_L_law_995 (d2 := 1799) hp (by decide) ?_
      rintro _ z ⟨x, e, hx, hp2⟩; cases e
      refine g_L_law_998 ?_
      refine p_L_law_999 (d2 := 1799) hp2 (by decide) ?_
      rintro _ z2 ⟨e, hi2⟩; cases e
      exact g_L_law_1002 ⟨hx, hx, fun _ => nxt _ hi2, fun q => absurd rfl q⟩
    · have hp := hoctet n m (sc.getD (6 * (n : Int) + 1).toNat 0) (by omega) hi (hr _)
      refine ⟨by omega, by omega, ?_⟩
      refine p_L_law_1013 (d2 := 1799) hp (by decide) ?_
      rintro _ z ⟨x, e, hx, hp2⟩; cases e
      refine g_L_law_1016 ⟨by omega, by omega, ?_⟩
      refine p_L_law_1022 (d2 := 1799) hp2 (by decide) ?_
      rintro _ z2 ⟨e, hi2⟩; cases e
      exact g_L_law_1025 ⟨hx, hx, fun _ => nxt _ hi2, fun q => absurd rfl q⟩
    · have hp := hon n m (by omega) hi
      refine p_L_law_1031 (d2 := 1799) hp (by decide) ?_
      rintro _ z ⟨x, e, hx, hp2⟩; cases e
      refine g_L_law_1034 ?_
      refine p_L_law_1035 (d2 := 1799) hp2 (by decide) ?_
      rintro _ z2 ⟨e, hi2⟩; cases e
      exact g_L_law_1038 ⟨hx, hx, fun _ => nxt _ hi2, fun q => absurd rfl q⟩
    · have hp := hstatus n m (sc.getD (6 * (n : Int) + 1).toNat 0) (by omega) hi (hr _)
      refine ⟨by omega, by omega, ?_⟩
      refine p_L_law_1049 (d2 := 1799) hp (by decide) ?_
      rintro _ z ⟨x, e, hx, hp2⟩; cases e
      refine g_L_law_1052 ⟨by omega, by omega, ?_⟩
      refine p_L_law_1058 (d2 := 1799) hp2 (by decide) ?_
      rintro _ z2 ⟨e, hi2⟩; cases e
      exact g_L_law_1061 ⟨hx, hx, fun _ => nxt _ hi2, fun q => absurd rfl q⟩
    · exact nxt _ (hmono _ _ hi)
