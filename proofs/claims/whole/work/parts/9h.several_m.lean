/-! several girls: shared, and the reference -/
section SM
variable {sc : List Int} {d : Nat} {m : Mem} {Q : Option AV → Mem → Prop} {r L : Int} {ρ : Mem} {G : Nat}
def z0F : Int → Int := fun _ => 0
/-- the soonest end and the first way to it -/
def BsS (ρ : Mem) (L v : Int) (a : Int → Int) : Prop := v = mnS (ρ 3) L (ρ 7 0) (ρ 7 5).toNat (ρ 0 1).toNat 0 z0F z0F ∧ FsS (ρ 3) L (ρ 7 0) (ρ 7 5).toNat (ρ 0 1).toNat 0 z0F z0F a
/-- what is kept of sharing -/
def ShC (m ρ : Mem) : Prop := (∀ g : Nat, g < 3 → m 50 g = 0 ∧ m 51 g = 0) ∧ (m 44 11 = 0 ∨ ((1 ≤ m 44 11 ∧ m 44 11 ≤ 99) ∧ fitsAll ρ (m 44 11) ∧ BsS ρ (m 44 11) (m 44 10) (m 48)))
def C_sh (a j : Int) : Prop := (a = 44 ∧ (j = 10 ∨ j = 11)) ∨ a = 48 ∨ a = 49 ∨ a = 50 ∨ a = 51
theorem mnS_up {T : Int → Int} {W : Int} (hG : 1 ≤ G) (hW : 0 ≤ W ∧ W ≤ 99) : ∀ (j s : Nat) (ti on : Int → Int) (B : Int), (∀ i : Nat, i < s + j → 0 ≤ T i ∧ T i ≤ 99) → (∀ i : Nat, i < 3 → ti i ≤ B) → mnS T L W G j s ti on ≤ B + 200 * j := by
  intro j
  induction j with
  | zero =>
    intro s ti on B _ h
    have h0 : ti 0 ≤ B := h 0 (by omega)
    have h1 : ti 1 ≤ B := h 1 (by omega)
    have h2 : ti 2 ≤ B := h 2 (by omega)
    show mx3 ti ≤ _
    unfold mx3
    split
    · omega
    · split <;> omega
  | succ j ih =>
    intro s ti on B hT h
    have ts := hT s (by omega)
    refine Int.le_trans (mnS_le (g := 0) (by omega)) (Int.le_trans (ih (s + 1) _ _ (B + 200) (fun i hi => hT i (by omega)) (fun i hi => ?_)) (by omega))
    have := h i hi
    unfold tiS
    split
    · split <;> omega
    · omega
theorem gl_bd (hb : RmB ρ) : 1 ≤ (ρ 7 5).toNat ∧ (ρ 7 5).toNat ≤ 3 ∧ ρ 7 5 = ((ρ 7 5).toNat : Nat) := by
  have := hb.2.2.2.2.2.2
  omega
theorem ShC.r32 (h : ShC m ρ) : R32 (m 44 11) := by
  unfold R32
  rcases h.2 with h | ⟨h, -⟩ <;> omega
theorem s_share (H : RoomAt r) (hx : XRm m r ρ) (hb : RmB ρ) (hL : 1 ≤ L ∧ L ≤ 99) (hf : fitsAll ρ L) (hp : ShC m ρ) (hd : 12 ≤ d) : P_X4_share sc d [aR 44, aR r, aI L] m (fun v z => v = none ∧ Ex C_sh m z ∧ z 44 11 = L ∧ BsS ρ L (z 44 10) (z 48) ∧ ∀ g : Nat, g < 3 → z 50 g = 0 ∧ z 51 g = 0) := by
  have b0 := hb.1
  have hrb := room_bd H
  obtain ⟨g1, g3, g75⟩ := gl_bd hb
  obtain ⟨m0, m1, m2⟩ := ch_min hb
  by_cases c : m 44 11 = L
  · refine ep_X4_share (g_X4_share_0 H ⟨hp.r32, by omega, fun q => absurd c q, fun _ => ⟨rfl, Ex.refl _ _, c, ?_, hp.1⟩⟩)
    rcases hp.2 with h | ⟨h, h2, h3⟩
    · omega
    · rw [c] at h3; exact h3
  · refine ep_X4_share (g_X4_share_0 H ⟨hp.r32, by omega, fun _ => ?_, fun q => absurd c q⟩)
    have yE : Ex C_sh m (wr (wr m 44 11 L) 44 10 2147483647) := ((Ex.refl C_sh m).put (Or.inl ⟨rfl, Or.inr rfl⟩)).put (Or.inl ⟨rfl, Or.inl rfl⟩)
    have y11 : wr (wr m 44 11 L) 44 10 2147483647 44 11 = L := by rw [wr_ne _ _ _ _ _ _ (by decide), wr_eq]
    have y10 : wr (wr m 44 11 L) 44 10 2147483647 44 10 = 2147483647 := wr_eq _ _ _ _
    have y50 : ∀ g : Nat, g < 3 → wr (wr m 44 11 L) 44 10 2147483647 50 g = 0 ∧ wr (wr m 44 11 L) 44 10 2147483647 51 g = 0 := fun g hg => by
      rw [wr_na _ _ _ _ _ _ (by decide), wr_na _ _ _ _ _ _ (by decide), wr_na _ _ _ _ _ _ (by decide), wr_na _ _ _ _ _ _ (by decide)]
      exact hp.1 g hg
    generalize wr (wr m 44 11 L) 44 10 2147483647 = y at yE y11 y10 y50 ⊢
    have go := s_giveOut (sc := sc) (G := (ρ 7 5).toNat) H hb hL hf ⟨g1, g3⟩ g75 (ρ 0 1).toNat 0 (d - 1) 0 y (by omega) (by omega) (hx.ex yE (fun a j q1 q2 => by unfold C_sh; omega)) ⟨fun g hg => by rw [(y50 g hg).1, (y50 g hg).2]; omega, fun g _ hg => y50 g hg, by rw [y10]; omega, by omega⟩
    refine p_X4_share_25 (d2 := d - 1) H go (by omega) ?_
    rintro z ⟨-, ze, z49, z50, zv⟩
    have ce : ∀ i : Nat, i < 3 → y 50 i = z0F i ∧ y 51 i = z0F i := fun i hi => y50 i hi
    have mv := mnS_congr (T := ρ 3) (L := L) (W := ρ 7 0) (G := (ρ 7 5).toNat) g1 (ρ 0 1).toNat 0 (y 50) (y 51) z0F z0F ce
    have up := mnS_up (T := ρ 3) (L := L) (W := ρ 7 0) (G := (ρ 7 5).toNat) g1 m0 (ρ 0 1).toNat 0 z0F z0F 0 (fun i hi => by have := (hb.2.2.2.1 i (by omega)).1; omega) (fun i _ => Int.le_refl _)
    rw [mv, y10] at zv
    refine g_X4_share_28 ⟨rfl, yE.trans (ze.mono (fun a j q => by unfold C_go at q; unfold C_sh; omega)), (ze 44 11 (by unfold C_go; omega)).trans y11, ?_, fun g hg => ⟨(z50 g hg).1.trans (y50 g hg).1, (z50 g hg).2.trans (y50 g hg).2⟩⟩
    rcases zv with ⟨w1, w2, w3, w4⟩ | ⟨w1, -⟩
    · exact ⟨w2, FsS_congr g1 _ _ _ _ _ _ _ _ ce (fun _ _ _ => rfl) w4⟩
    · omega
/-- the first way is there -/
theorem least_nat {P : Nat → Prop} : ∀ n : Nat, P n → ∃ k, k ≤ n ∧ P k ∧ ∀ q, q < k → ¬ P q := by
  intro n
  induction n using Nat.strongRecOn with
  | ind n ih =>
    intro h
    by_cases c : ∃ q, q < n ∧ P q
    · obtain ⟨q, q1, q2⟩ := c
      obtain ⟨k, k1, k2, k3⟩ := ih q q1 q2
      exact ⟨k, by omega, k2, k3⟩
    · exact ⟨n, Nat.le_refl _, h, fun q hq p => c ⟨q, hq, p⟩⟩
theorem FsS_ex {T : Int → Int} {W : Int} (hG : 1 ≤ G) : ∀ (j s : Nat) (ti on : Int → Int), ∃ a : Int → Int, FsS T L W G j s ti on a := by
  intro j
  induction j with
  | zero => intro s ti on; exact ⟨z0F, trivial⟩
  | succ j ih =>
    intro s ti on
    obtain ⟨k, k1, k2⟩ := mnS_at (T := T) (L := L) (W := W) (j := j) (s := s) (ti := ti) (on := on) hG
    obtain ⟨g, g1, ⟨g2, g3⟩, g4⟩ := least_nat (P := fun g => g < G ∧ mnS T L W G j (s + 1) (tiS L W ti on g (T s)) (onS L on g (T s)) = mnS T L W G (j + 1) s ti on) k ⟨k1, k2.symm⟩
    obtain ⟨a, ha⟩ := ih (s + 1) (tiS L W ti on g (T s)) (onS L on g (T s))
    refine ⟨fun i => if i = s then g else a i, g, if_pos rfl, g2, g3, fun q hq => ?_, FsS_congr hG _ _ _ _ _ _ _ _ (fun _ _ => ⟨rfl, rfl⟩) (fun i h1 h2 => (if_neg (by omega)).symm) ha⟩
    have le := mnS_le (T := T) (L := L) (W := W) (G := G) (j := j) (s := s) (ti := ti) (on := on) (g := q) (by omega)
    have ne := g4 q hq
    have ne2 : ¬ mnS T L W G j (s + 1) (tiS L W ti on q (T s)) (onS L on q (T s)) = mnS T L W G (j + 1) s ti on := fun e => ne ⟨by omega, e⟩
    omega
def C_ld (a j : Int) : Prop := a = 119 ∨ a = 121 ∨ a = 122
theorem s_lastDone {a : Int → Int} (h : MRm m ρ) (hb : RmB ρ) (hL : 1 ≤ L ∧ L ≤ 99) (hf : fitsAll ρ L) (hG : 1 ≤ G ∧ G ≤ 3) (hd : 1 ≤ d) (ha : ∀ i : Nat, i < (ρ 0 1).toNat → 0 ≤ a i ∧ a i < G) : P_X8_lastDone sc d [aR 62, aI (nmR G a (ρ 0 1).toNat), aI G, aI L] m (fun v z => Ex C_ld m z ∧ v = some (aI (vlS (ρ 3) L (ρ 7 0) (ρ 0 1).toNat 0 z0F z0F a)) ∧ ∀ s : Nat, s < (ρ 0 1).toNat → z 119 s = a s) := by
  have b0 := hb.1
  obtain ⟨m0, m1, m2⟩ := ch_min hb
  obtain ⟨S, hS⟩ : ∃ S : Nat, S = (ρ 0 1).toNat := ⟨_, rfl⟩
  have hS1 : ρ 0 1 = S := by omega
  rw [← hS] at ha ⊢
  have mrm : ∀ z, Ex C_ld m z → MRm z ρ := fun z he => h.ex he (fun a j q c => by unfold C_ld at c; omega)
  -- the end: the last one
  have le : ∀ (ti : Int → Int) (z : Mem), Ex C_ld m z → (∀ s : Nat, s < S → z 119 s = a s) → (∀ g : Nat, g < G → z 122 g = ti g) → (∀ g : Nat, g < 3 → 0 ≤ ti g ∧ ti g ≤ 2000) → (∀ g : Nat, G ≤ g → g < 3 → ti g = 0) → vlS (ρ 3) L (ρ 7 0) S 0 z0F z0F a = mx3 ti → S_X8_lastDone sc d 194 [aR 62, aU, aI G, aU, aU, aI 0, aI 0, aU] [] z (fun v z => Ex C_ld m z ∧ v = some (aI (vlS (ρ 3) L (ρ 7 0) S 0 z0F z0F a)) ∧ ∀ s : Nat, s < S → z 119 s = a s) := by
    intro ti z he hz h2 hbd h0 hv
    rw [hv]
    have t0 := hbd 0 (by omega)
    have t1 := hbd 1 (by omega)
    have t2 := hbd 2 (by omega)
    simp only [Int.natCast_zero, Int.natCast_one, show ((2 : Nat) : Int) = 2 from rfl] at t0 t1 t2
    have st : ∀ (g : Nat) (l : Int), g < G → (0 ≤ l ∧ l ≤ 2000) → S_X8_lastDone sc d 194 [aR 62, aU, aI G, aU, aU, aI (if ti g ≤ l then l else ti g), aI ((g + 1 : Nat) : Int), aU] [] z (fun v z => Ex C_ld m z ∧ v = some (aI (mx3 ti)) ∧ ∀ s : Nat, s < S → z 119 s = a s) → S_X8_lastDone sc d 194 [aR 62, aU, aI G, aU, aU, aI l, aI g, aU] [] z (fun v z => Ex C_ld m z ∧ v = some (aI (mx3 ti)) ∧ ∀ s : Nat, s < S → z 119 s = a s) := fun g l hg hl k => by
      have e := h2 g hg
      have b := hbd g (by omega)
      refine g_X8_lastDone_194 ⟨by omega, by omega, fun c => absurd c (by omega), fun _ => ⟨by omega, by omega, by rw [e]; omega, by omega, fun c => ?_, fun c => ?_⟩⟩
      · rw [e] at c
        rw [if_pos c] at k
        exact k
      · rw [e] at c ⊢
        rw [if_neg c] at k
        exact k
    have en : ∀ l : Int, l = mx3 ti → S_X8_lastDone sc d 194 [aR 62, aU, aI G, aU, aU, aI l, aI G, aU] [] z (fun v z => Ex C_ld m z ∧ v = some (aI (mx3 ti)) ∧ ∀ s : Nat, s < S → z 119 s = a s) := fun l hl => g_X8_lastDone_194 ⟨by omega, by omega, fun _ => ⟨he, by rw [hl], hz⟩, fun c => absurd (Int.le_refl _) c⟩
    refine st 0 0 (by omega) (by omega) ?_
    have e0 : (if ti ((0 : Nat) : Int) ≤ 0 then 0 else ti ((0 : Nat) : Int)) = ti 0 := by
      show (if ti 0 ≤ 0 then 0 else ti 0) = ti 0
      split <;> omega
    rw [e0]
    rcases (by omega : G = 1 ∨ G = 2 ∨ G = 3) with g | g | g
    · rw [g]
      have z1 := h0 1 (by omega) (by omega)
      have z2 := h0 2 (by omega) (by omega)
      have := en (ti 0) ?_
      · rw [g] at this; exact this
      · simp only [Int.natCast_one, show ((2 : Nat) : Int) = 2 from rfl] at z1 z2
        unfold mx3
        rw [z1, z2]
        split <;> omega
    · refine st 1 (ti 0) (by omega) t0 ?_
      have z2 := h0 2 (by omega) (by omega)
      have := en (if ti ((1 : Nat) : Int) ≤ ti 0 then ti 0 else ti ((1 : Nat) : Int)) ?_
      · rw [g] at this ⊢; exact this
      · simp only [Int.natCast_one, show ((2 : Nat) : Int) = 2 from rfl] at z2 ⊢
        unfold mx3
        rw [z2]
        split <;> split <;> (try split) <;> omega
    · refine st 1 (ti 0) (by omega) t0 (st 2 _ (by omega) ?_ ?_)
      · show 0 ≤ (if ti 1 ≤ ti 0 then ti 0 else ti 1) ∧ (if ti 1 ≤ ti 0 then ti 0 else ti 1) ≤ 2000
        split <;> omega
      · have := en (if ti ((2 : Nat) : Int) ≤ (if ti ((1 : Nat) : Int) ≤ ti 0 then ti 0 else ti ((1 : Nat) : Int)) then (if ti ((1 : Nat) : Int) ≤ ti 0 then ti 0 else ti ((1 : Nat) : Int)) else ti ((2 : Nat) : Int)) ?_
        · rw [g] at this ⊢; exact this
        · simp only [Int.natCast_one, show ((2 : Nat) : Int) = 2 from rfl]
          unfold mx3
          split <;> split <;> (try split) <;> (try split) <;> omega
  -- the seams, one by one
  have sm : ∀ (j s : Nat) (ti on : Int → Int) (z : Mem), s + j = S → Ex C_ld m z → (∀ q : Nat, q < S → z 119 q = a q) → (∀ g : Nat, g < G → z 122 g = ti g ∧ z 121 g = on g) → (∀ g : Nat, g < 3 → (0 ≤ ti g ∧ ti g ≤ 200 * s) ∧ 0 ≤ on g ∧ on g ≤ 99) → (∀ g : Nat, G ≤ g → g < 3 → ti g = 0) → vlS (ρ 3) L (ρ 7 0) S 0 z0F z0F a = vlS (ρ 3) L (ρ 7 0) j s ti on a → S_X8_lastDone sc d 73 [aR 62, aU, aI G, aI L, aU, aI s, aU, aU] [] z (fun v z => Ex C_ld m z ∧ v = some (aI (vlS (ρ 3) L (ρ 7 0) S 0 z0F z0F a)) ∧ ∀ s : Nat, s < S → z 119 s = a s) := by
    intro j
    induction j with
    | zero =>
      intro s ti on z hs he hz h2 hbd h0 hv
      refine g_X8_lastDone_73 (p_X8_lastDone_76 (d2 := d - 1) (s_seamMany (mrm z he)) (by omega) ?_)
      rintro _ z ⟨e, rfl⟩; cases e
      exact g_X8_lastDone_79 ⟨by omega, by omega, fun _ => le ti z he hz (fun g hg => (h2 g hg).1) (fun g hg => by have := hbd g hg; omega) h0 hv, fun c => absurd (by omega) c⟩
    | succ j ih =>
      intro s ti on z hs he hz h2 hbd h0 hv
      have ts := (hb.2.2.2.1 s (by omega)).1
      have tL := hf s (by omega)
      have as := ha s (by omega)
      obtain ⟨g, hg⟩ : ∃ g : Nat, a s = g := ⟨(a s).toNat, by omega⟩
      have gG : g < G := by omega
      have e9 := hz s (by omega)
      rw [hg] at e9
      have eg := h2 g gG
      have bg := hbd g (by omega)
      refine g_X8_lastDone_73 (p_X8_lastDone_76 (d2 := d - 1) (s_seamMany (mrm z he)) (by omega) ?_)
      rintro _ z ⟨e, rfl⟩; cases e
      refine g_X8_lastDone_79 ⟨by omega, by omega, fun c => absurd c (by omega), fun _ => ?_⟩
      rw [e9, eg.2]
      refine ⟨by omega, by omega, by omega, by omega, ?_⟩
      refine p_X8_lastDone_101 (d2 := d - 1) (s_takesOf (mrm z he) hb (by omega)) (by omega) ?_
      rintro _ z ⟨e, rfl⟩; cases e
      -- behind the winding
      have tl : ∀ (y : Mem) (u w : Int), Ex (fun a j => a = 122 ∧ j = g) z y → y 122 g = ti g + w → w = (if on g + ρ 3 s ≤ L then 0 else ρ 7 0) → u = (if on g + ρ 3 s ≤ L then on g else 0) → S_X8_lastDone sc d 161 [aR 62, aU, aI G, aI L, aU, aI s, aI g, aU] [aI s, aR 62, aI u, aI g, aR 121] y (fun v z => Ex C_ld m z ∧ v = some (aI (vlS (ρ 3) L (ρ 7 0) S 0 z0F z0F a)) ∧ ∀ s : Nat, s < S → z 119 s = a s) := by
        intro y u w yE y2 hw hu
        have yA : Ex C_ld m y := he.trans (yE.mono (fun a j q => Or.inr (Or.inr q.1)))
        refine p_X8_lastDone_161 (d2 := d - 1) ic_121 (s_takesOf (mrm y yA) hb (by omega)) (by omega) ?_
        rintro _ y ⟨e, rfl⟩; cases e
        refine g_X8_lastDone_164 ic_121 ⟨by omega, by rw [show alen 121 = 3 by decide +kernel]; omega, by omega, by omega, ?_⟩
        rw [wr_na _ _ _ _ _ _ (by decide), y2]
        have y1E : Ex (fun a j => (a = 121 ∨ a = 122) ∧ j = g) z (wr y 121 g (u + ρ 3 s)) := (yE.mono (fun a j q => ⟨Or.inr q.1, q.2⟩)).put ⟨Or.inl rfl, rfl⟩
        have y1v : wr y 121 g (u + ρ 3 s) 121 g = u + ρ 3 s := wr_eq _ _ _ _
        generalize wr y 121 g (u + ρ 3 s) = y1 at y1E y1v ⊢
        have y1A : Ex C_ld m y1 := he.trans (y1E.mono (fun a j q => by unfold C_ld; omega))
        refine p_X8_lastDone_177 (d2 := d - 1) ic_122 (s_takesOf (mrm y1 y1A) hb (by omega)) (by omega) ?_
        rintro _ y1 ⟨e, rfl⟩; cases e
        refine g_X8_lastDone_180 ic_122 ⟨by omega, by rw [show alen 122 = 3 by decide +kernel]; omega, ?_⟩
        have xE : Ex (fun a j => (a = 121 ∨ a = 122) ∧ j = g) z (wr y1 122 g (ti g + w + ρ 3 s)) := y1E.put ⟨Or.inr rfl, rfl⟩
        have x2 : wr y1 122 g (ti g + w + ρ 3 s) 122 g = ti g + w + ρ 3 s := wr_eq _ _ _ _
        have x1' : wr y1 122 g (ti g + w + ρ 3 s) 121 g = u + ρ 3 s := by rw [wr_na _ _ _ _ _ _ (by decide)]; exact y1v
        generalize wr y1 122 g (ti g + w + ρ 3 s) = x at xE x2 x1' ⊢
        have hwb : 0 ≤ w ∧ w ≤ 99 := by rw [hw]; split <;> omega
        have hub : 0 ≤ u ∧ u + ρ 3 s ≤ 99 := by rw [hu]; split <;> omega
        refine ih (s + 1) (tiS L (ρ 7 0) ti on g (ρ 3 s)) (onS L on g (ρ 3 s)) x (by omega) (he.trans (xE.mono (fun a j q => by unfold C_ld; omega))) (fun q hq => (xE 119 q (by omega)).trans (hz q hq)) (fun q hq => ?_) (fun q hq => ?_) (fun q h1 h3 => ?_) ?_
        · have hq2 := h2 q hq
          unfold tiS onS
          by_cases e : (q : Int) = g
          · rw [if_pos e, if_pos e, e, x2, x1', hw, hu]
            refine ⟨by omega, ?_⟩
            split <;> omega
          · rw [if_neg e, if_neg e]
            exact ⟨(xE 122 q (by omega)).trans hq2.1, (xE 121 q (by omega)).trans hq2.2⟩
        · have bq := hbd q hq
          unfold tiS onS
          by_cases e : (q : Int) = g
          · rw [if_pos e, if_pos e]
            split <;> omega
          · rw [if_neg e, if_neg e]; omega
        · unfold tiS
          rw [if_neg (by omega)]
          exact h0 q h1 h3
        · rw [hv, vlS, hg]
      refine g_X8_lastDone_104 ⟨by omega, by omega, by split <;> omega, fun c => ?_, fun c => ?_⟩
      · have lt : on g + ρ 3 s ≤ L := by
          by_cases q : on g + ρ 3 s ≤ L
          · exact q
          · rw [if_neg q] at c; exact absurd c (by decide)
        rw [if_pos lt, if_pos rfl, eg.2]
        exact ⟨fun _ => by omega, fun _ => by omega, tl z (on g) 0 (Ex.refl _ _) (by rw [eg.1]; omega) (by rw [if_pos lt]) (by rw [if_pos lt])⟩
      · have lt : ¬ on g + ρ 3 s ≤ L := fun q => c (if_pos q)
        rw [if_neg lt, eg.1]
        refine ⟨by omega, by omega, ?_⟩
        refine p_X8_lastDone_131 (d2 := d - 1) ic_122 (s_settingOf (i := 0) (mrm z he) (by omega)) (by omega) ?_
        rintro _ z ⟨e, rfl⟩; cases e
        refine g_X8_lastDone_134 ic_122 ⟨by omega, by rw [show alen 122 = 3 by decide +kernel]; omega, by omega, fun q => absurd q (by decide), fun q => absurd q (by decide), ?_⟩
        rw [if_neg (by decide)]
        exact tl _ 0 (ρ 7 0) ((Ex.refl _ _).put ⟨rfl, rfl⟩) (wr_eq _ _ _ _) (by rw [if_neg lt]) (by rw [if_neg lt])
  -- the girls begin
  have cl : ∀ (n g : Nat) (z : Mem), g + n = G → Ex C_ld m z → (∀ q : Nat, q < S → z 119 q = a q) → (∀ q : Nat, q < g → z 122 q = 0 ∧ z 121 q = 0) → S_X8_lastDone sc d 42 [aR 62, aU, aI G, aI L, aU, aI g, aU, aU] [] z (fun v z => Ex C_ld m z ∧ v = some (aI (vlS (ρ 3) L (ρ 7 0) S 0 z0F z0F a)) ∧ ∀ s : Nat, s < S → z 119 s = a s) := by
    intro n
    induction n with
    | zero =>
      intro g z hg he hz h2
      exact g_X8_lastDone_42 ⟨by omega, by omega, fun _ => sm S 0 z0F z0F z (by omega) he hz (fun q hq => h2 q (by omega)) (fun q _ => ⟨⟨Int.le_refl _, by show (0 : Int) ≤ _; omega⟩, Int.le_refl _, by show (0 : Int) ≤ 99; decide⟩) (fun _ _ _ => rfl) rfl, fun c => absurd (by omega) c⟩
    | succ n ih =>
      intro g z hg he hz h2
      refine g_X8_lastDone_42 ⟨by omega, by omega, fun c => absurd c (by omega), fun _ => ⟨by omega, by omega, ?_⟩⟩
      refine ih (g + 1) _ (by omega) ((he.put (Or.inr (Or.inl rfl))).put (Or.inr (Or.inr rfl))) (fun q hq => ?_) (fun q hq => ?_)
      · rw [wr_na _ _ _ _ _ _ (by decide), wr_na _ _ _ _ _ _ (by decide)]; exact hz q hq
      · by_cases e : q = g
        · rw [e, wr_eq, wr_na _ _ _ _ _ _ (by decide), wr_eq]; exact ⟨rfl, rfl⟩
        · rw [wr_ne _ _ _ _ _ _ (by omega), wr_na _ _ _ _ _ _ (by decide), wr_na _ _ _ _ _ _ (by decide), wr_ne _ _ _ _ _ _ (by omega)]; exact h2 q (by omega)
  -- the row's digits
  have dg : ∀ (i : Nat) (z : Mem), i ≤ S → Ex C_ld m z → (∀ q : Nat, i ≤ q → q < S → z 119 q = a q) → S_X8_lastDone sc d 11 [aR 62, aU, aI G, aI L, aI (nmR G a i), aI ((i : Int) - 1), aU, aU] [] z (fun v z => Ex C_ld m z ∧ v = some (aI (vlS (ρ 3) L (ρ 7 0) S 0 z0F z0F a)) ∧ ∀ s : Nat, s < S → z 119 s = a s) := by
    intro i
    induction i with
    | zero =>
      intro z hi he hz
      exact g_X8_lastDone_11 ⟨by omega, fun _ => cl G 0 z (by omega) he (fun q hq => hz q (by omega) hq) (fun q hq => by omega), fun c => absurd (by omega) c⟩
    | succ i ih =>
      intro z hi he hz
      have ai := ha i (by omega)
      have nb := nmR_bd hG.1 (a := a) (i + 1) (fun q hq => ha q (by omega))
      have nb0 := nmR_bd hG.1 (a := a) i (fun q hq => ha q (by omega))
      have pb := pwR_bd hG (k := i + 1) (by omega)
      have e1 : (nmR G a (i + 1)).tmod G = a i := by
        rw [Int.tmod_eq_emod_of_nonneg nb.1, nmR, Int.add_comm, Int.add_mul_emod_self_right, Int.emod_eq_of_lt ai.1 ai.2]
      have e2 : (nmR G a (i + 1)).tdiv G = nmR G a i := by
        rw [Int.tdiv_eq_ediv_of_nonneg nb.1, nmR, Int.add_comm, Int.add_mul_ediv_right _ _ (by omega), Int.ediv_eq_zero_of_lt ai.1 ai.2, Int.zero_add]
      have e3 : ((i + 1 : Nat) : Int) - 1 = i := by omega
      rw [e3]
      refine g_X8_lastDone_11 ⟨by omega, fun c => absurd c (by omega), fun _ => ⟨by omega, by omega, by omega, by omega, by omega, ?_⟩⟩
      rw [e1, e2]
      have g := ih (wr z 119 i (a i)) (by omega) (he.put (Or.inl rfl)) (fun q h1 h2 => ?_)
      · rw [show (i : Int) + (-1) = (i : Int) - 1 by omega]
        exact g
      · by_cases e : q = i
        · rw [e, wr_eq]
        · rw [wr_ne _ _ _ _ _ _ (by omega)]; exact hz q (by omega) h2
  refine ep_X8_lastDone (g_X8_lastDone_0 (p_X8_lastDone_4 (d2 := d - 1) (s_seamMany h) (by omega) ?_))
  rintro _ m ⟨e, rfl⟩; cases e
  refine g_X8_lastDone_7 ?_
  rw [show ρ 0 1 - 1 = (S : Int) - 1 by omega]
  exact dg S m (Nat.le_refl _) (Ex.refl _ _) (fun q h1 h2 => by omega)
end SM
