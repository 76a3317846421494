/-! packing in any order: the reference -/
section FM
variable {sc : List Int} {d : Nat} {m : Mem} {Q : Option AV → Mem → Prop} {L : Int} {ρ : Mem}
def bA (f : Int → Int) : Nat → Int
  | 0 => 0
  | k + 1 => if f k < bA f k then bA f k else f k + 1
theorem bA_congr {f g : Int → Int} : ∀ n : Nat, (∀ i : Nat, i < n → f i = g i) → bA f n = bA g n := by
  intro n
  induction n with
  | zero => intro _; rfl
  | succ n ih =>
    intro h
    unfold bA
    rw [ih (fun i hi => h i (by omega)), h n (by omega)]
theorem bA_bd {f : Int → Int} {b : Int} (hb : 0 ≤ b) : ∀ n : Nat, (∀ i : Nat, i < n → 0 ≤ f i ∧ f i < b) → 0 ≤ bA f n ∧ bA f n ≤ b := by
  intro n
  induction n with
  | zero => intro _; exact ⟨Int.le_refl _, hb⟩
  | succ n ih =>
    intro h
    have := ih (fun i hi => h i (by omega))
    have := h n (by omega)
    unfold bA
    split <;> omega
theorem s_binsAhead {s : Nat} (hs : s ≤ 10) (h : ∀ i : Nat, i < s → 0 ≤ m 111 i ∧ m 111 i < 10) : P_X8_binsAhead sc d [aR 62, aI s] m (PV (aI (bA (m 111) s)) m) := by
  have l : ∀ (j i : Nat), i + j = s → S_X8_binsAhead sc d 4 [aR 62, aI s, aI (bA (m 111) i), aI i] [] m (PV (aI (bA (m 111) s)) m) := by
    intro j
    induction j with
    | zero =>
      intro i hi
      obtain rfl : i = s := by omega
      exact g_X8_binsAhead_4 ⟨by first | omega | (unfold R32; omega), by first | omega | (unfold R32; omega), fun _ => ⟨rfl, rfl⟩, fun c => absurd (Int.le_refl _) c⟩
    | succ j ih =>
      intro i hi
      have bd := bA_bd (f := m 111) (b := 10) (by decide) i (fun k hk => h k (by omega))
      have hi' := h i (by omega)
      have w := ih (i + 1) (by omega)
      refine g_X8_binsAhead_4 ⟨by first | omega | (unfold R32; omega), by first | omega | (unfold R32; omega), fun c => absurd c (by omega), fun _ => ⟨by omega, by omega, by first | omega | (unfold R32; omega), by first | omega | (unfold R32; omega), fun c => ?_, fun c => ?_⟩⟩
      · rw [show bA (m 111) (i + 1) = bA (m 111) i from if_pos c] at w
        exact w
      · rw [show bA (m 111) (i + 1) = m 111 i + 1 from if_neg c] at w
        exact w
  exact ep_X8_binsAhead (g_X8_binsAhead_0 (l s 0 (by omega)))
def C_fm (a j : Int) : Prop := a = 111 ∨ a = 112
theorem l_fills (hb : RmB ρ) (hL : 0 ≤ L ∧ L ≤ 99) {c : Int} (hc : 0 ≤ c ∧ c ≤ 10) (hd : 1 ≤ d) : ∀ (j s : Nat) (y : Mem) (ld : Int → Int), (s : Int) + j = ρ 0 1 → MRm y ρ → (∀ i : Nat, i < 10 → y 112 i = ld i) → (∀ i : Nat, i < 10 → 0 ≤ ld i ∧ ld i ≤ 99) → (s < 10 → y 111 s = -1) → (∀ i : Nat, i < s → 0 ≤ y 111 i ∧ y 111 i < c) → (∀ i : Nat, bA (y 111) s ≤ i → i < 10 → ld i = 0) →
    (∀ z, Ex C_fm y z → (∀ i : Nat, i < s → z 111 i = y 111 i) → Can (ρ 3) L c j s ld → Fst (ρ 3) L c j s ld (z 111) → S_X8_fills sc d 30 [aR 62, aI L, aI c, aI (ρ 0 1), aU, aU] [] z Q) →
    (∀ z, Ex C_fm y z → (∀ i : Nat, i < s → z 111 i = y 111 i) → (∀ i : Nat, i < 10 → z 112 i = ld i) → ¬ Can (ρ 3) L c j s ld → S_X8_fills sc d 30 [aR 62, aI L, aI c, aI ((s : Int) + (-1)), aU, aU] [] z Q) →
    S_X8_fills sc d 30 [aR 62, aI L, aI c, aI s, aU, aU] [] y Q := by
  have b0 := hb.1
  intro j
  induction j with
  | zero =>
    intro s y ld hs hm h112 hl h111 hp h0 ks kf
    have w := ks y (Ex.refl _ _) (fun _ _ => rfl) trivial trivial
    rw [show ρ 0 1 = (s : Int) by omega] at w
    exact w
  | succ j ih =>
    intro s y ld hs hm h112 hl h111 hp h0 ks kf
    have ts := (hb.2.2.2.1 s (by omega)).1
    have nb := bA_bd (f := y 111) (b := c) hc.1 s hp
    generalize hnB : bA (y 111) s = nB at nb h0
    -- tried so far: those below x
    have lx : ∀ (N x : Nat) (u : Mem), c + 1 ≤ (x : Int) + N → (x : Int) ≤ c → Ex C_fm y u → (∀ i : Nat, i < s → u 111 i = y 111 i) → u 111 s = (x : Int) - 1 → (∀ i : Nat, i < 10 → u 112 i = if (i : Int) = (x : Int) - 1 then ld i + ρ 3 s else ld i) → (∀ p : Nat, p < x → ¬ (ld p + ρ 3 s ≤ L ∧ Can (ρ 3) L c j (s + 1) (ldP ld p (ρ 3 s)))) → S_X8_fills sc d 30 [aR 62, aI L, aI c, aI s, aU, aU] [] u Q := by
      intro N
      induction N with
      | zero => intro x u h1 h2; omega
      | succ N ihN =>
        intro x u h1 h2 ue u111 us u112 hf
        have um : MRm u ρ := hm.ex ue (fun a j q c => by unfold C_fm at c; omega)
        -- behind the load being taken back
        have tl : ∀ v : Mem, Ex C_fm y v → (∀ i : Nat, i < s → v 111 i = y 111 i) → v 111 s = (x : Int) - 1 → (∀ i : Nat, i < 10 → v 112 i = ld i) → S_X8_fills sc d 73 [aR 62, aI L, aI c, aI s, aU, aU] [aI s, aR 62] v Q := by
          intro v ve v111 vs v112
          have vm : MRm v ρ := hm.ex ve (fun a j q c => by unfold C_fm at c; omega)
          have vb : bA (v 111) s = nB := (bA_congr s v111).trans hnB
          have sB : P_X8_binsAhead sc (d - 1) [aR 62, aI s] v (PV (aI nB) v) := by
            have w := s_binsAhead (sc := sc) (d := d - 1) (m := v) (s := s) (by omega) (fun i hi => by rw [v111 i hi]; have := hp i hi; omega)
            rw [vb] at w
            exact w
          have lb : ∀ (R : Int), R = (if nB < c then nB else c - 1) → ∀ (n b : Nat), (b : Int) + n = R + 1 ∨ (n = 0 ∧ R < b) → x ≤ b → (b : Int) ≤ c → (∀ p : Nat, p < b → ¬ (ld p + ρ 3 s ≤ L ∧ Can (ρ 3) L c j (s + 1) (ldP ld p (ρ 3 s)))) → S_X8_fills sc d 103 [aR 62, aI L, aI c, aI s, aI R, aI b] [] v Q := by
            intro R hR n
            have Rb : R < c ∧ -1 ≤ R ∧ R ≤ 10 := by rw [hR]; split <;> omega
            induction n with
            | zero =>
              intro b hb2 xb bc hf2
              have lt : R < b := by omega
              refine g_X8_fills_103 ⟨by first | omega | (unfold R32; omega), by first | omega | (unfold R32; omega), fun _ => ⟨fun g => absurd g (by omega), fun _ => ⟨by omega, by omega, ?_⟩⟩, fun g => absurd lt g⟩
              · refine kf _ (ve.put (Or.inl rfl)) (fun i hi => by rw [wr_ne _ _ _ _ _ _ (by omega)]; exact v111 i hi) (fun i hi => by rw [wr_na _ _ _ _ _ _ (by decide)]; exact v112 i hi) ?_
                rintro ⟨k, k1, k2, k3⟩
                by_cases g : k < b
                · exact hf2 k g ⟨k2, k3⟩
                · by_cases g2 : nB < c
                  · rw [if_pos g2] at hR
                    have e1 := h0 k (by omega) (by omega)
                    have e2 := h0 nB.toNat (by omega) (by omega)
                    rw [show ((nB.toNat : Nat) : Int) = nB by omega] at e2
                    refine hf2 nB.toNat (by omega) ⟨?_, Can.alike (p := k) (q := nB.toNat) (by omega) (by omega) ?_ k3⟩
                    · rw [show ((nB.toNat : Nat) : Int) = nB by omega]; omega
                    · rw [show ((nB.toNat : Nat) : Int) = nB by omega]; omega
                  · rw [if_neg g2] at hR
                    omega
            | succ n ihn =>
              intro b hb2 xb bc hf2
              have le : (b : Int) ≤ R := by omega
              have lb' := hl b (by omega)
              refine g_X8_fills_103 ⟨by first | omega | (unfold R32; omega), by first | omega | (unfold R32; omega), fun g => absurd g (by omega), fun _ => ⟨by omega, by omega, ?_⟩⟩
              refine p_X8_fills_119 (d2 := d - 1) (s_takesOf vm hb (by omega)) (by omega) ?_
              rintro _ v' ⟨e, rfl⟩; cases e
              rw [v112 b (by omega)]
              refine g_X8_fills_122 ⟨by first | omega | (unfold R32; omega), by first | omega | (unfold R32; omega), fun g => ⟨by first | omega | (unfold R32; omega), by first | omega | (unfold R32; omega), fun _ => ⟨by omega, by omega, by omega, by omega, ?_⟩, fun g2 => absurd le g2⟩, fun g => ?_⟩
              · rw [wr_na _ _ _ _ _ _ (by decide), v112 b (by omega)]
                have wm : MRm (wr v' 111 s b) ρ := vm.ex (C := C_fm) ((Ex.refl _ _).put (Or.inl rfl)) (fun a j q c => by unfold C_fm at c; omega)
                refine p_X8_fills_171 (d2 := d - 1) ic_112 (s_takesOf wm hb (by omega)) (by omega) ?_
                rintro _ w ⟨e, rfl⟩; cases e
                -- the next seam
                have nx : ∀ t : Mem, Ex C_fm y t → (∀ i : Nat, i < s → t 111 i = y 111 i) → t 111 s = b → (s + 1 < 10 → t 111 (s + 1 : Nat) = -1) → (∀ i : Nat, i < 10 → t 112 i = ldP ld b (ρ 3 s) i) → S_X8_fills sc d 30 [aR 62, aI L, aI c, aI (s + 1 : Nat), aU, aU] [] t Q := by
                  intro t te t111 tS t1 t112
                  have tb : bA (t 111) s = nB := (bA_congr s t111).trans hnB
                  refine ih (s + 1) t (ldP ld b (ρ 3 s)) (by omega) (hm.ex te (fun a j q c => by unfold C_fm at c; omega)) t112 (fun i hi => ?_) t1 (fun i hi => ?_) (fun i h1 h2 => ?_) (fun z ze z1 zc zf => ?_) (fun z ze z1 z2 zc => ?_)
                  · have := hl i hi
                    unfold ldP
                    split
                    · rename_i e; rw [e] at this ⊢; omega
                    · exact this
                  · by_cases e : i = s
                    · rw [e, tS]; omega
                    · rw [t111 i (by omega)]; exact hp i (by omega)
                  · have g1 : bA (t 111) (s + 1) = if t 111 s < bA (t 111) s then bA (t 111) s else t 111 s + 1 := rfl
                    rw [g1, tS, tb] at h1
                    have hi : nB ≤ i ∧ (b : Int) < i := by
                      split at h1 <;> omega
                    unfold ldP
                    rw [if_neg (by omega)]
                    exact h0 i hi.1 h2
                  · exact ks z (te.trans ze) (fun i hi => (z1 i (by omega)).trans (t111 i hi)) ⟨b, by omega, by omega, zc⟩ ⟨b, (z1 s (by omega)).trans tS, by omega, by omega, zc, hf2, zf⟩
                  · have e1 : ((s + 1 : Nat) : Int) + (-1) = s := by omega
                    rw [e1]
                    refine ihN (b + 1) z (by omega) (by omega) (te.trans ze) (fun i hi => (z1 i (by omega)).trans (t111 i hi)) ?_ (fun i hi => ?_) (fun p hp2 => ?_)
                    · rw [z1 s (by omega), tS]; omega
                    · rw [z2 i hi]
                      unfold ldP
                      by_cases e : (i : Int) = b
                      · rw [if_pos e, if_pos (by omega)]
                      · rw [if_neg e, if_neg (by omega)]
                    · by_cases e : p = b
                      · rw [e]; exact fun g3 => zc g3.2
                      · exact hf2 p (by omega)
                have ye2 : Ex C_fm y (wr (wr v' 111 s b) 112 b (ld b + ρ 3 s)) := (ve.put (Or.inl rfl)).put (Or.inr rfl)
                have q111 : ∀ i : Nat, i < s → wr (wr v' 111 s b) 112 b (ld b + ρ 3 s) 111 i = y 111 i := fun i hi => by rw [wr_na _ _ _ _ _ _ (by decide), wr_ne _ _ _ _ _ _ (by omega)]; exact v111 i hi
                have qs : wr (wr v' 111 s b) 112 b (ld b + ρ 3 s) 111 s = b := by rw [wr_na _ _ _ _ _ _ (by decide), wr_eq]
                have q112 : ∀ i : Nat, i < 10 → wr (wr v' 111 s b) 112 b (ld b + ρ 3 s) 112 i = ldP ld b (ρ 3 s) i := fun i hi => by
                  unfold ldP
                  by_cases e : (i : Int) = b
                  · rw [if_pos e, e, wr_eq]
                  · rw [if_neg e, wr_ne _ _ _ _ _ _ (by omega), wr_na _ _ _ _ _ _ (by decide)]; exact v112 i hi
                refine g_X8_fills_174 ic_112 ⟨by omega, by rw [show alen 112 = 10 by decide +kernel]; omega, by first | omega | (unfold R32; omega), fun g3 => ?_, fun g3 => ⟨by omega, by omega, ?_⟩⟩
                · exact nx _ ye2 q111 qs (fun g4 => by omega) q112
                · refine nx _ (ye2.put (Or.inl rfl)) (fun i hi => ?_) ?_ (fun _ => wr_eq _ _ _ _) (fun i hi => ?_)
                  · rw [wr_ne _ _ _ _ _ _ (by omega)]; exact q111 i hi
                  · rw [wr_ne _ _ _ _ _ _ (by omega)]; exact qs
                  · rw [wr_na _ _ _ _ _ _ (by decide)]; exact q112 i hi
              · exact ihn (b + 1) (by omega) (by omega) (by omega) (fun p hp2 => by
                  by_cases e : p = b
                  · rw [e]; exact fun g3 => g g3.1
                  · exact hf2 p (by omega))
          have go : ∀ R : Int, R = (if nB < c then nB else c - 1) → S_X8_fills sc d 103 [aR 62, aI L, aI c, aI s, aI R, aI (v 111 s + 1)] [] v Q := fun R hR => by
            rw [show v 111 s + 1 = (x : Int) by omega]
            exact lb R hR (R + 1 - x).toNat x (by omega) (Nat.le_refl _) (by omega) hf
          refine p_X8_fills_73 (d2 := d - 1) sB (by omega) ?_
          rintro _ v' ⟨e, rfl⟩; cases e
          refine g_X8_fills_76 ⟨by first | omega | (unfold R32; omega), by first | omega | (unfold R32; omega), fun g => ⟨by omega, by omega, go _ (by rw [if_neg (by omega)])⟩, fun g => ?_⟩
          refine p_X8_fills_82 (d2 := d - 1) sB (by omega) ?_
          rintro _ v'' ⟨e, rfl⟩; cases e
          exact g_X8_fills_85 ⟨by omega, by omega, go _ (by rw [if_pos (by omega)])⟩
        refine g_X8_fills_30 ⟨by first | omega | (unfold R32; omega), fun g => absurd g (by omega), fun _ => ?_⟩
        refine p_X8_fills_36 (d2 := d - 1) (s_seamMany um) (by omega) ?_
        rintro _ u' ⟨e, rfl⟩; cases e
        refine g_X8_fills_39 ⟨by first | omega | (unfold R32; omega), by first | omega | (unfold R32; omega), fun g => absurd g (by omega), fun _ => ⟨by omega, by omega, by rw [us]; first | omega | (unfold R32; omega), fun g => ?_, fun g => ?_⟩⟩
        · refine tl _ ue u111 us (fun i hi => ?_)
          rw [u112 i hi, if_neg (by omega)]
        · rw [us] at g ⊢
          refine ⟨by omega, by omega, p_X8_fills_66 (d2 := d - 1) ic_112 (s_takesOf um hb (by omega)) (by omega) ?_⟩
          rintro _ u'' ⟨e, rfl⟩; cases e
          refine g_X8_fills_69 ic_112 ⟨by omega, by rw [show alen 112 = 10 by decide +kernel]; omega, tl _ (ue.put (Or.inr rfl)) (fun i hi => by rw [wr_na _ _ _ _ _ _ (by decide)]; exact u111 i hi) (by rw [wr_na _ _ _ _ _ _ (by decide)]; exact us) (fun i hi => ?_)⟩
          have ux := u112 (x - 1) (by omega)
          rw [show (((x - 1 : Nat)) : Int) = (x : Int) - 1 by omega, if_pos rfl] at ux
          by_cases e : (i : Int) = (x : Int) - 1
          · rw [e, wr_eq, ux]; omega
          · rw [wr_ne _ _ _ _ _ _ (by omega), u112 i hi, if_neg e]
    exact lx (c.toNat + 1) 0 y (by omega) (by omega) (Ex.refl _ _) (fun _ _ => rfl) (by rw [h111 (by omega)]; omega) (fun i hi => by rw [h112 i hi, if_neg (by omega)]) (fun p hp => by omega)
theorem s_fills {c : Int} (hm : MRm m ρ) (hb : RmB ρ) (hL : 0 ≤ L ∧ L ≤ 99) (hc : 0 ≤ c ∧ c ≤ 10) (hd : 1 ≤ d) : P_X8_fills sc d [aR 62, aI L, aI c] m (fun v z => Ex C_fm m z ∧ ((v = some (aI 1) ∧ Can (ρ 3) L c (ρ 0 1).toNat 0 (fun _ => 0) ∧ Fst (ρ 3) L c (ρ 0 1).toNat 0 (fun _ => 0) (z 111)) ∨ (v = some (aI 0) ∧ ¬ Can (ρ 3) L c (ρ 0 1).toNat 0 (fun _ => 0)))) := by
  have b0 := hb.1
  refine ep_X8_fills (g_X8_fills_0 ?_)
  have l : ∀ (j i : Nat) (y : Mem), i + j = 10 → Ex C_fm m y → (∀ q : Nat, q < i → y 112 q = 0) → S_X8_fills sc d 2 [aR 62, aI L, aI c, aI i, aU, aU] [] y (fun v z => Ex C_fm m z ∧ ((v = some (aI 1) ∧ Can (ρ 3) L c (ρ 0 1).toNat 0 (fun _ => 0) ∧ Fst (ρ 3) L c (ρ 0 1).toNat 0 (fun _ => 0) (z 111)) ∨ (v = some (aI 0) ∧ ¬ Can (ρ 3) L c (ρ 0 1).toNat 0 (fun _ => 0)))) := by
    intro j
    induction j with
    | zero =>
      intro i y hi he hz
      refine g_X8_fills_2 ⟨by first | omega | (unfold R32; omega), fun _ => ?_, fun g => absurd (by omega) g⟩
      have ye : Ex C_fm m (wr y 111 0 (-1)) := he.put (Or.inl rfl)
      refine l_fills hb hL hc hd (ρ 0 1).toNat 0 _ (fun _ => 0) (by omega) (hm.ex ye (fun a j q c => by unfold C_fm at c; omega)) (fun q hq => by rw [wr_na _ _ _ _ _ _ (by decide)]; exact hz q (by omega)) (fun _ _ => ⟨Int.le_refl _, by omega⟩) (fun _ => wr_eq _ _ _ _) (fun q hq => by omega) (fun _ _ _ => rfl) (fun z ze _ zc zf => ?_) (fun z ze _ _ zc => ?_)
      · have az : Ex C_fm m z := ye.trans ze
        refine g_X8_fills_30 ⟨by first | omega | (unfold R32; omega), fun g => absurd g (by omega), fun _ => ?_⟩
        refine p_X8_fills_36 (d2 := d - 1) (s_seamMany (hm.ex az (fun a j q c => by unfold C_fm at c; omega))) (by omega) ?_
        rintro _ z' ⟨e, rfl⟩; cases e
        exact g_X8_fills_39 ⟨by first | omega | (unfold R32; omega), by first | omega | (unfold R32; omega), fun _ => ⟨by first | omega | (unfold R32; omega), az, Or.inl ⟨by rw [if_neg (by omega)], zc, zf⟩⟩, fun g => absurd (Int.le_refl _) g⟩
      · exact g_X8_fills_30 ⟨by first | omega | (unfold R32; omega), fun _ => ⟨ye.trans ze, Or.inr ⟨rfl, zc⟩⟩, fun g => absurd (by omega) g⟩
    | succ j ih =>
      intro i y hi he hz
      refine g_X8_fills_2 ⟨by first | omega | (unfold R32; omega), fun g => absurd g (by omega), fun _ => ⟨by omega, by omega, ?_⟩⟩
      refine ih (i + 1) _ (by omega) (he.put (Or.inr rfl)) (fun q hq => ?_)
      by_cases e : q = i
      · rw [e]; exact wr_eq _ _ _ _
      · rw [wr_ne _ _ _ _ _ _ (by omega)]; exact hz q (by omega)
  exact l 10 0 m (by omega) (Ex.refl _ _) (fun q hq => by omega)
/-- what free answers -/
def IsFre (ρ : Mem) (L k v : Int) : Prop := (plF ρ L k ∧ ∃ c a, Bst (ρ 3) L (ρ 0 1).toNat c a ∧ v = if k = -1 then c else a k) ∨ (¬ plF ρ L k ∧ v = -1)
theorem IsFre.eq {ρ : Mem} {L k x y : Int} (h1 : IsFre ρ L k x) (h2 : IsFre ρ L k y) : x = y := by
  rcases h1 with ⟨p, c, a, p1, rfl⟩ | ⟨p, rfl⟩ <;> rcases h2 with ⟨q, c', a', q1, rfl⟩ | ⟨q, rfl⟩
  · obtain ⟨e, g⟩ := p1.eq q1
    rw [e]
    split
    · rfl
    · have b := p.2.2.2
      have w := g k.toNat (by omega)
      rw [show ((k.toNat : Nat) : Int) = k by omega] at w
      exact w
  · exact absurd p q
  · exact absurd q p
  · rfl
def C_fr (a j : Int) : Prop := a = 110 ∨ (a = 62 ∧ j = 66) ∨ a = 111 ∨ a = 112
theorem s_X8_free {k : Int} (h : MRm m ρ) (hb : RmB ρ) (hd : 2 ≤ d) (hL : R32 L) (hk : R32 k) : P_X8_free sc d [aR 62, aI L, aI k] m (fun v z => Ex C_fr m z ∧ ∃ x, v = some (aI x) ∧ IsFre ρ L k x) := by
  have b0 := hb.1
  refine ep_X8_free (g_X8_free_0 ?_)
  refine p_X8_free_3 (d2 := d - 1) (s_isAsked h hb (by omega) hL hk) (by omega) ?_
  rintro _ m ⟨rfl, ⟨e, q⟩ | ⟨e, q⟩⟩ <;> cases e
  · refine g_X8_free_6 ⟨by omega, fun c => absurd c (by decide), fun _ => ?_⟩
    refine p_X8_free_11 (d2 := d - 1) (s_packs h hb (by omega) ⟨by omega, by omega⟩) (by omega) ?_
    rintro _ z ⟨h1, ⟨e, h2, h3, h4⟩ | ⟨e, h2⟩⟩ <;> cases e
    · refine g_X8_free_14 ⟨by omega, fun _ => ?_, fun c => absurd (by decide) c⟩
      have pl : plF ρ L k := ⟨q.1, q.2.1, h2, q.2.2⟩
      have z1 : Ex C_fr m z := h1.mono (fun a j q => by unfold C_pk at q; unfold C_fr; omega)
      obtain ⟨S, hS⟩ := Int.eq_ofNat_of_zero_le (show 0 ≤ ρ 0 1 by omega)
      have hS2 : (ρ 0 1).toNat = S := by omega
      have fin : ∀ (n : Nat) (y : Mem), Ex C_fr m y → Bst (ρ 3) L S n (y 111) → (fun v z => Ex C_fr m z ∧ ∃ x, v = some (aI x) ∧ IsFre ρ L k x) (some (aI (if k ≠ -1 then y 111 k else (n : Int)))) y := fun n y ye hB => by
        refine ⟨ye, _, rfl, Or.inl ⟨pl, n, y 111, by rw [hS2]; exact hB, ?_⟩⟩
        by_cases c : k = -1
        · rw [if_neg (fun z => z c), if_pos c]
        · rw [if_pos c, if_neg c]
      have lo : ∀ (j n : Nat) (y : Mem), n + j = S → Ex C_fr m y → (∀ q : Int, 0 ≤ q → q < n → ¬ Can (ρ 3) L q S 0 (fun _ => 0)) → S_X8_free sc d 21 [aR 62, aI L, aI k, aI n] [] y (fun v z => Ex C_fr m z ∧ ∃ x, v = some (aI x) ∧ IsFre ρ L k x) := by
        intro j
        induction j with
        | zero =>
          intro n y hn ye hq
          have ym : MRm y ρ := h.ex ye (fun a j q c => by unfold C_fr at c; omega)
          refine g_X8_free_21 (p_X8_free_23 (d2 := d - 1) (s_seamMany ym) (by omega) ?_)
          rintro _ y' ⟨e, rfl⟩; cases e
          refine g_X8_free_26 ⟨by first | omega | (unfold R32; omega), by first | omega | (unfold R32; omega), fun _ => ?_, fun c => absurd (by omega) c⟩
          refine p_X8_free_46 (d2 := d - 1) (s_seamMany ym) (by omega) ?_
          rintro _ y'' ⟨e, rfl⟩; cases e
          refine g_X8_free_49 ⟨by first | omega | (unfold R32; omega), by first | omega | (unfold R32; omega), fun c => absurd (by omega) c, fun _ => ⟨by first | omega | (unfold R32; omega), fun c => ⟨hk, fun g => by omega, fun g => by omega, ?_⟩, fun c => ?_⟩⟩
          · refine fin n _ ye ?_
            obtain rfl : S = 0 := by omega
            obtain rfl : n = 0 := by omega
            exact ⟨⟨by omega, by omega⟩, trivial, fun q q1 q2 => by omega, trivial⟩
          · refine p_X8_free_59 (d2 := d - 1) (s_fills ym hb ⟨by omega, by omega⟩ ⟨by omega, by omega⟩ (by omega)) (by omega) ?_
            rintro _ u ⟨ue, ⟨e, uc, uf⟩ | ⟨e, uc⟩⟩ <;> cases e
            · rw [hS2] at uc uf
              exact g_X8_free_62 ⟨hk, fun g => by omega, fun g => by omega, fin n u (ye.trans (ue.mono (fun a j q => by unfold C_fm at q; unfold C_fr; omega))) ⟨⟨by omega, by omega⟩, uc, hq, uf⟩⟩
            · rw [hS2] at uc
              exact absurd (Can.all S 0 (fun _ => 0) (by omega) (fun i hi => h2 i (by omega)) (fun _ _ _ => rfl)) uc
        | succ j ih =>
          intro n y hn ye hq
          have ym : MRm y ρ := h.ex ye (fun a j q c => by unfold C_fr at c; omega)
          refine g_X8_free_21 (p_X8_free_23 (d2 := d - 1) (s_seamMany ym) (by omega) ?_)
          rintro _ y' ⟨e, rfl⟩; cases e
          refine g_X8_free_26 ⟨by first | omega | (unfold R32; omega), by first | omega | (unfold R32; omega), fun c => absurd c (by omega), fun _ => ?_⟩
          refine p_X8_free_32 (d2 := d - 1) (s_fills ym hb ⟨by omega, by omega⟩ ⟨by omega, by omega⟩ (by omega)) (by omega) ?_
          rintro _ u ⟨ue, ⟨e, uc, uf⟩ | ⟨e, uc⟩⟩ <;> cases e
          · rw [hS2] at uc uf
            have ua := ye.trans (ue.mono (fun a j q => by unfold C_fm at q; unfold C_fr; omega))
            have um : MRm u ρ := h.ex ua (fun a j q c => by unfold C_fr at c; omega)
            refine g_X8_free_35 ⟨by first | omega | (unfold R32; omega), fun _ => ?_, fun c => absurd (by decide) c⟩
            refine p_X8_free_46 (d2 := d - 1) (s_seamMany um) (by omega) ?_
            rintro _ y'' ⟨e, rfl⟩; cases e
            exact g_X8_free_49 ⟨by first | omega | (unfold R32; omega), by first | omega | (unfold R32; omega), fun c => ⟨hk, fun g => by omega, fun g => by omega, fin n _ ua ⟨⟨by omega, by omega⟩, uc, hq, uf⟩⟩, fun c => absurd (by omega) c⟩
          · rw [hS2] at uc
            refine g_X8_free_35 ⟨by first | omega | (unfold R32; omega), fun g => absurd rfl g, fun _ => ?_⟩
            exact ih (n + 1) u (by omega) (ye.trans (ue.mono (fun a j q => by unfold C_fm at q; unfold C_fr; omega))) (fun q q1 q2 => by
              by_cases e : q = n
              · rw [e]; exact uc
              · exact hq q q1 (by omega))
      exact lo S 0 z (by omega) z1 (fun q q1 q2 => by omega)
    · exact g_X8_free_14 ⟨by omega, fun c => absurd rfl c, fun _ => ⟨h1.mono (fun a j q => by unfold C_pk at q; unfold C_fr; omega), _, rfl, Or.inr ⟨fun p => h2 p.2.2.1, rfl⟩⟩⟩
  · exact g_X8_free_6 ⟨by omega, fun _ => ⟨Ex.refl _ _, _, rfl, Or.inr ⟨fun p => q ⟨p.1, p.2.1, p.2.2.2⟩, rfl⟩⟩, fun c => absurd rfl c⟩
theorem s_X7_free {k : Int} (h : Xt m ρ) (hp : PkC m ρ) (hd : 12 ≤ d) (hL : R32 L) (hk : R32 k) : P_X7_free sc d [aR 0, aI L, aI k] m (fun v z => Ex C_an m z ∧ PkC z ρ ∧ ∃ x, v = some (aI x) ∧ IsFre ρ L k x) := by
  have b0 := h.2.2.1
  refine ep_X7_free (g_X7_free_0 ?_)
  refine p_X7_free_3 (d2 := d - 1) (s_X7_canPlan h (by omega) hL hk) (by omega) ?_
  rintro _ _ ⟨rfl, ⟨e, q⟩ | ⟨e, q⟩⟩ <;> cases e
  · refine g_X7_free_6 ⟨by omega, fun _ => ?_, fun c => absurd (by decide) c⟩
    refine p_X7_free_20 (d2 := d - 1) h.1 (s_anyOrder h.1 h.2.1 h.2.2 q.2.1 q.2.2.1 hp (by omega)) (by omega) ?_
    rintro z ⟨-, h1, h5, h2⟩
    have pb := q.2.2.2
    refine g_X7_free_23 ⟨hk, fun c => by omega, fun c => by omega, h1, Or.inr ⟨by rw [h5]; exact q.2.1, by rw [h5]; exact q.2.2.1, by rw [h5]; exact h2⟩, _, rfl, Or.inl ⟨q, _, _, h2, ?_⟩⟩
    by_cases c : k = -1
    · rw [if_neg (fun z => z c), if_pos c]
    · rw [if_pos c, if_neg c]
  · exact g_X7_free_6 ⟨by omega, fun c => absurd rfl c, fun _ => ⟨Ex.refl _ _, hp, _, rfl, Or.inr ⟨q, rfl⟩⟩⟩
end FM
