/-! reading: tokens of the class, on -/
section TK
variable {sc : List Int} {d : Nat} {m : Mem} {Q : Option AV → Mem → Prop} {T : Int → Int} {n : Nat}
def C_adv (a j : Int) : Prop := a = 32 ∧ 2 ≤ j ∧ j ≤ 6
def Tok (T : Int → Int) (n : Nat) (z : Mem) (σ : Stt) : Prop := z 32 3 = (σ.1 : Nat) ∧ z 32 4 = kd T n σ ∧ z 32 2 = (ed T n σ : Nat) ∧ (kd T n σ = 256 → z 32 5 = wi T n σ) ∧ (kd T n σ = 257 → z 32 6 = nv T σ.1 (min (ed T n σ - σ.1) 4))
theorem Tx.ex {C : Int → Int → Prop} {z : Mem} (h : Tx m T n) (e : Ex C m z) (h0 : ∀ a j, (a = 32 ∧ (j = 0 ∨ j = 1)) ∨ (a = 1 ∧ 0 ≤ j) → ¬ C a j) : Tx z T n := by
  obtain ⟨a, b, c, t⟩ := h
  refine ⟨a, by rw [e 32 0 (h0 _ _ (Or.inl ⟨rfl, Or.inl rfl⟩))]; exact b, by rw [e 32 1 (h0 _ _ (Or.inl ⟨rfl, Or.inr rfl⟩))]; exact c, fun i hi => ?_⟩
  rw [e 1 _ (h0 _ _ (Or.inr ⟨rfl, by omega⟩))]
  exact t i hi
theorem Tx.adv {z : Mem} (h : Tx m T n) (e : Ex C_adv m z) : Tx z T n := h.ex e (fun a j q c => by unfold C_adv at c; omega)
theorem nv_bd {s : Nat} : ∀ {k : Nat}, (∀ i : Nat, i < k → 48 ≤ T ((s : Int) + i) ∧ T ((s : Int) + i) ≤ 57) → k ≤ 4 → 0 ≤ nv T s k ∧ nv T s k ≤ 9999 ∧ (k ≤ 3 → nv T s k ≤ 999) ∧ (k ≤ 2 → nv T s k ≤ 99) ∧ (k ≤ 1 → nv T s k ≤ 9) ∧ (k = 0 → nv T s k = 0) := by
  intro k
  induction k with
  | zero => intro _ _; rw [nv]; omega
  | succ k ih =>
    intro h hk
    have := ih (fun i hi => h i (by omega)) (by omega)
    have c := h k (by omega)
    rw [nv]
    omega
theorem adv_l {s : Nat} {x : Int} (hd : 6 ≤ d) (hx : x = 0 ∨ x = 1) (hQ : ∀ z, Ex C_adv m z → z 32 3 = (s : Nat) → z 32 2 = (spn isLe T n (s + 1) : Nat) → z 32 4 = (if x = 0 then 259 else 256) → z 32 5 = wIx T s (spn isLe T n (s + 1)) WL 0 → Q none z) (h3 : m 32 3 = (s : Nat)) : ∀ (f a : Nat) (y : Mem), a + f = n → s < a → Tx y T n → Ex C_adv m y → y 32 3 = (s : Nat) → y 32 2 = (a : Nat) → spn isLe T n (s + 1) = spn isLe T n a → S_X5_advance sc d 152 [aR 32, aI x, aU] [] y Q := by
  have fin : ∀ (a : Nat) (y : Mem), s < a → a ≤ n → Tx y T n → Ex C_adv m y → y 32 3 = (s : Nat) → y 32 2 = (a : Nat) → spn isLe T n (s + 1) = a → R32 x ∧ S_X5_advance sc d 231 [aR 32, aU, aU] [aI ((wr y 32 4 (if x = 0 then 259 else 256 : Int)) 32 2), aI ((wr y 32 4 (if x = 0 then 259 else 256 : Int)) 32 3), aR 32, aR 32] (wr y 32 4 (if x = 0 then 259 else 256 : Int)) Q := by
    intro a y hsa han ht he e3 e2 hsp
    have t2 : Tx (wr y 32 4 (if x = 0 then 259 else 256 : Int)) T n := ht.adv ((Ex.refl C_adv y).put ⟨rfl, by omega, by omega⟩)
    have q2 : wr y 32 4 (if x = 0 then 259 else 256 : Int) 32 2 = (a : Nat) := by rw [wr_ne _ _ _ _ _ _ (by decide)]; exact e2
    have q3 : wr y 32 4 (if x = 0 then 259 else 256 : Int) 32 3 = (s : Nat) := by rw [wr_ne _ _ _ _ _ _ (by decide)]; exact e3
    have q4 : wr y 32 4 (if x = 0 then 259 else 256 : Int) 32 4 = (if x = 0 then 259 else 256 : Int) := wr_eq _ _ _ _
    have qe : Ex C_adv m (wr y 32 4 (if x = 0 then 259 else 256 : Int)) := he.put ⟨rfl, by omega, by omega⟩
    rw [q2, q3]
    generalize wr y 32 4 (if x = 0 then 259 else 256 : Int) = z at t2 q2 q3 q4 qe ⊢
    refine ⟨by unfold R32; omega, p_X5_advance_231 (d2 := d - 1) (s_wordBetween t2 han (by omega) (by omega)) (by omega) ?_⟩
    rintro _ z ⟨e, rfl⟩; cases e
    refine g_X5_advance_234 (hQ _ (qe.put ⟨rfl, by omega, by omega⟩) ?_ ?_ ?_ ?_)
    · rw [wr_ne _ _ _ _ _ _ (by decide)]; exact q3
    · rw [wr_ne _ _ _ _ _ _ (by decide), hsp]; exact q2
    · rw [wr_ne _ _ _ _ _ _ (by decide)]; exact q4
    · rw [wr_eq, hsp]
  intro f
  induction f with
  | zero =>
    intro a y ha hsa ht he e3 e2 hsp
    have q1 := ht.2.2.1
    have hn := ht.1
    refine g_X5_advance_152 ⟨by omega, by omega, fun _ => fin a y hsa (by omega) ht he e3 e2 (by rw [hsp, spn_st (by omega)]), fun c => absurd (by omega) c⟩
  | succ f ih =>
    intro a y ha hsa ht he e3 e2 hsp
    have q1 := ht.2.2.1
    have hn := ht.1
    have ta := ht.2.2.2 a (by omega)
    have a0 : y (y 32 0) (y 32 2) = T a := by rw [ht.2.1, e2]; exact ta.1
    refine g_X5_advance_152 ⟨by omega, by omega, fun c => by omega, fun _ => ⟨by rw [ht.2.1]; exact ic_1, by omega, by rw [ht.2.1, al_1]; omega, by rw [a0]; omega, fun c => ?_, fun c => ⟨fun c2 => ?_, fun c2 => ?_⟩⟩⟩
    · rw [a0] at c
      exact fin a y hsa (by omega) ht he e3 e2 (by rw [hsp, spn_st (fun g => by have := isLe_iff.mp g.2; omega)])
    · rw [a0] at c2
      exact fin a y hsa (by omega) ht he e3 e2 (by rw [hsp, spn_st (fun g => by have := isLe_iff.mp g.2; omega)])
    · rw [a0] at c c2
      refine ih (a + 1) _ (by omega) (by omega) (ht.adv ((Ex.refl C_adv y).put ⟨rfl, by omega, by omega⟩)) (he.put ⟨rfl, by omega, by omega⟩) ?_ ?_ ?_
      · rw [wr_ne _ _ _ _ _ _ (by decide)]; exact e3
      · rw [wr_eq, e2]; omega
      · rw [hsp, spn_go (by omega) (isLe_iff.mpr (by omega))]
theorem adv_d {s : Nat} {x : Int} (hx : x = 0 ∨ x = 1) (hs : 48 ≤ T s ∧ T s ≤ 57) (hQ : ∀ z, Ex C_adv m z → z 32 3 = (s : Nat) → z 32 2 = (spn isDi T n (s + 1) : Nat) → z 32 4 = (if x = 0 then 259 else 257) → z 32 6 = nv T s (min (spn isDi T n (s + 1) - s) 4) → Q none z) : ∀ (f a : Nat) (y : Mem), a + f = n → s < a → Tx y T n → Ex C_adv m y → y 32 3 = (s : Nat) → y 32 2 = (a : Nat) → y 32 6 = nv T s (min (a - s) 4) → (∀ i : Nat, i < a - s → 48 ≤ T ((s : Int) + i) ∧ T ((s : Int) + i) ≤ 57) → spn isDi T n (s + 1) = spn isDi T n a → S_X5_advance sc d 260 [aR 32, aI x, aU] [] y Q := by
  have fin : ∀ (a : Nat) (y : Mem), s < a → a ≤ n → Tx y T n → Ex C_adv m y → y 32 3 = (s : Nat) → y 32 2 = (a : Nat) → y 32 6 = nv T s (min (a - s) 4) → spn isDi T n (s + 1) = a → R32 x ∧ Q none (wr y 32 4 (if x = 0 then 259 else 257 : Int)) := by
    intro a y hsa han ht he e3 e2 e6 hsp
    refine ⟨by unfold R32; omega, hQ _ (he.put ⟨rfl, by omega, by omega⟩) ?_ ?_ (wr_eq _ _ _ _) ?_⟩
    · rw [wr_ne _ _ _ _ _ _ (by decide)]; exact e3
    · rw [wr_ne _ _ _ _ _ _ (by decide), hsp]; exact e2
    · rw [wr_ne _ _ _ _ _ _ (by decide), hsp]; exact e6
  intro f
  induction f with
  | zero =>
    intro a y ha hsa ht he e3 e2 e6 hdg hsp
    have q1 := ht.2.2.1
    have hn := ht.1
    refine g_X5_advance_260 ⟨by omega, by omega, fun _ => fin a y hsa (by omega) ht he e3 e2 e6 (by rw [hsp, spn_st (by omega)]), fun c => absurd (by omega) c⟩
  | succ f ih =>
    intro a y ha hsa ht he e3 e2 e6 hdg hsp
    have q1 := ht.2.2.1
    have hn := ht.1
    have ta := ht.2.2.2 a (by omega)
    have a0 : y (y 32 0) (y 32 2) = T a := by rw [ht.2.1, e2]; exact ta.1
    refine g_X5_advance_260 ⟨by omega, by omega, fun c => by omega, fun _ => ⟨by rw [ht.2.1]; exact ic_1, by omega, by rw [ht.2.1, al_1]; omega, by rw [a0]; omega, fun c => ?_, fun c => ⟨fun c2 => ?_, fun c2 => ⟨by omega, ?_⟩⟩⟩⟩
    · rw [a0] at c
      exact fin a y hsa (by omega) ht he e3 e2 e6 (by rw [hsp, spn_st (fun g => by have := isDi_iff.mp g.2; omega)])
    · rw [a0] at c2
      exact fin a y hsa (by omega) ht he e3 e2 e6 (by rw [hsp, spn_st (fun g => by have := isDi_iff.mp g.2; omega)])
    · rw [a0] at c c2
      rw [a0]
      have e1 : ∀ v, wr y 32 6 v 32 2 = (a : Nat) := fun v => by rw [wr_ne _ _ _ _ _ _ (by decide)]; exact e2
      rw [e1]
      refine ih (a + 1) _ (by omega) (by omega) (ht.adv (((Ex.refl C_adv y).put ⟨rfl, by omega, by omega⟩).put ⟨rfl, by omega, by omega⟩)) ((he.put ⟨rfl, by omega, by omega⟩).put ⟨rfl, by omega, by omega⟩) ?_ ?_ ?_ ?_ ?_
      · rw [wr_ne _ _ _ _ _ _ (by decide), wr_ne _ _ _ _ _ _ (by decide)]; exact e3
      · rw [wr_eq]; omega
      · rw [wr_ne _ _ _ _ _ _ (by decide), wr_eq, e2, e3, e6]
        by_cases c4 : 4 ≤ a - s
        · rw [if_pos (by omega), show min (a + 1 - s) 4 = min (a - s) 4 by omega]
        · rw [if_neg (by omega), show min (a + 1 - s) 4 = (a - s) + 1 by omega, nv, show min (a - s) 4 = a - s by omega, show ((s : Int) + ((a - s : Nat) : Int)) = a by omega]
      · intro i hi
        by_cases ei : i = a - s
        · rw [ei, show ((s : Int) + ((a - s : Nat) : Int)) = a by omega]; omega
        · exact hdg i (by omega)
      · rw [hsp, spn_go (by omega) (isDi_iff.mpr (by omega))]
theorem s_adv {p : Nat} (ht : Tx m T n) (hp : p ≤ n) (h7 : m 32 7 = 0) (h2 : m 32 2 = (p : Nat)) (h4 : R32 (m 32 4)) (hd : 6 ≤ d) : P_X5_advance sc d [aR 32] m (fun v z => v = none ∧ Ex C_adv m z ∧ Tok T n z (tkN T n p (m 32 4))) := by
  have hn := ht.1
  refine ep_X5_advance (g_X5_advance_0 ⟨by omega, fun _ => ⟨h4, ?_⟩, fun c => absurd h7 c⟩)
  have key : ∀ (f a : Nat) (y : Mem) (x : Int), a + f = n → p ≤ a → Tx y T n → Ex C_adv m y → y 32 2 = (a : Nat) → (x = 0 ∨ x = 1) → (x = 0 ↔ (m 32 4 = 256 ∨ m 32 4 = 257) ∧ a = p) → spn isBl T n p = spn isBl T n a → S_X5_advance sc d 34 [aR 32, aI x, aU] [] y (fun v z => v = none ∧ Ex C_adv m z ∧ Tok T n z (tkN T n p (m 32 4))) := by
    intro f
    induction f with
    | zero =>
      intro a y x ha hpa ht2 he e2 hx hxi hsp
      have q1 := ht2.2.2.1
      have w2 : (wr (wr y 32 3 (y 32 2)) 32 5 (-1)) 32 2 = (a : Nat) := by rw [wr_ne _ _ _ _ _ _ (by decide), wr_ne _ _ _ _ _ _ (by decide)]; exact e2
      have w1 : (wr (wr y 32 3 (y 32 2)) 32 5 (-1)) 32 1 = (n : Nat) := by rw [wr_ne _ _ _ _ _ _ (by decide), wr_ne _ _ _ _ _ _ (by decide)]; exact q1
      have w3 : (wr (wr y 32 3 (y 32 2)) 32 5 (-1)) 32 3 = (a : Nat) := by rw [wr_ne _ _ _ _ _ _ (by decide), wr_eq]; exact e2
      have we : Ex C_adv m (wr (wr y 32 3 (y 32 2)) 32 5 (-1)) := (he.put ⟨rfl, by omega, by omega⟩).put ⟨rfl, by omega, by omega⟩
      have sp : spn isBl T n p = a := by rw [hsp, spn_st (by omega)]
      have hk : kd T n (tkN T n p (m 32 4)) = 258 := by unfold kd tkN; rw [sp]; rw [if_pos (show n ≤ a by omega)]
      have hed : ed T n (tkN T n p (m 32 4)) = a := by unfold ed tkN; rw [sp]; rw [if_pos (show n ≤ a by omega)]
      refine g_X5_advance_34 ⟨by omega, by omega, fun _ => ?_, fun c => absurd (by omega) c⟩
      generalize wr (wr y 32 3 (y 32 2)) 32 5 (-1) = w at w1 w2 w3 we ⊢
      refine ⟨by omega, by omega, fun c => by omega, fun _ => ⟨rfl, we.put ⟨rfl, by omega, by omega⟩, ?_, ?_, ?_, ?_, ?_⟩⟩
      · rw [wr_ne _ _ _ _ _ _ (by decide), w3]; unfold tkN; rw [sp]
      · rw [wr_eq, hk]
      · rw [wr_ne _ _ _ _ _ _ (by decide), w2, hed]
      · intro c; rw [hk] at c; exact absurd c (by decide)
      · intro c; rw [hk] at c; exact absurd c (by decide)
    | succ f ih =>
      intro a y x ha hpa ht2 he e2 hx hxi hsp
      have q1 := ht2.2.2.1
      have ta := ht2.2.2.2 a (by omega)
      have a0 : y (y 32 0) (y 32 2) = T a := by rw [ht2.2.1, e2]; exact ta.1
      have blk : isBl (T a) = true → S_X5_advance sc d 34 [aR 32, aI 1, aU] [] (wr y 32 2 (y 32 2 + 1)) (fun v z => v = none ∧ Ex C_adv m z ∧ Tok T n z (tkN T n p (m 32 4))) := by
        intro c
        refine ih (a + 1) _ 1 (by omega) (by omega) (ht2.adv ((Ex.refl C_adv y).put ⟨rfl, by omega, by omega⟩)) (he.put ⟨rfl, by omega, by omega⟩) ?_ (Or.inr rfl) ⟨fun g => by omega, fun g => by omega⟩ ?_
        · rw [wr_eq, e2]; omega
        · rw [hsp, spn_go (by omega) c]
      refine g_X5_advance_34 ⟨by omega, by omega, fun c => by omega, fun _ => ⟨by rw [ht2.2.1]; exact ic_1, by omega, by rw [ht2.2.1, al_1]; omega, by rw [a0]; omega, fun c => blk (isBl_iff.mpr (by omega)), fun c => ⟨fun c2 => ?_, fun c2 => blk (isBl_iff.mpr (by omega))⟩⟩⟩
      rw [a0] at c c2
      have nb : ¬ (a < n ∧ isBl (T a) = true) := fun g => by have := isBl_iff.mp g.2; omega
      have sp : spn isBl T n p = a := by rw [hsp, spn_st nb]
      have w2 : (wr (wr y 32 3 (y 32 2)) 32 5 (-1)) 32 2 = (a : Nat) := by rw [wr_ne _ _ _ _ _ _ (by decide), wr_ne _ _ _ _ _ _ (by decide)]; exact e2
      have w1 : (wr (wr y 32 3 (y 32 2)) 32 5 (-1)) 32 1 = (n : Nat) := by rw [wr_ne _ _ _ _ _ _ (by decide), wr_ne _ _ _ _ _ _ (by decide)]; exact q1
      have w0 : (wr (wr y 32 3 (y 32 2)) 32 5 (-1)) 32 0 = 1 := by rw [wr_ne _ _ _ _ _ _ (by decide), wr_ne _ _ _ _ _ _ (by decide)]; exact ht2.2.1
      have w3 : (wr (wr y 32 3 (y 32 2)) 32 5 (-1)) 32 3 = (a : Nat) := by rw [wr_ne _ _ _ _ _ _ (by decide), wr_eq]; exact e2
      have wT : (wr (wr y 32 3 (y 32 2)) 32 5 (-1)) 1 a = T a := by rw [wr_na _ _ _ _ _ _ (by decide), wr_na _ _ _ _ _ _ (by decide)]; exact ta.1
      have we : Ex C_adv m (wr (wr y 32 3 (y 32 2)) 32 5 (-1)) := (he.put ⟨rfl, by omega, by omega⟩).put ⟨rfl, by omega, by omega⟩
      generalize wr (wr y 32 3 (y 32 2)) 32 5 (-1) = w at w0 w1 w2 w3 wT we ⊢
      have tw : Tx w T n := ht.adv we
      rw [w2, w1, w0, wT]
      have s1 : (tkN T n p (m 32 4)).1 = a := sp
      have s2 : (tkN T n p (m 32 4)).2 = true ↔ x = 0 := by
        unfold tkN
        rw [decide_eq_true_iff, sp, hxi]
      have e3 : ((a : Nat) : Int) + 1 = ((a + 1 : Nat) : Int) := by omega
      -- sign
      have sgn : ¬ (97 ≤ T a ∧ T a ≤ 122) → ¬ (48 ≤ T a ∧ T a ≤ 57) → (none : Option AV) = none ∧ Ex C_adv m (wr (wr w 32 2 ((a : Nat) + 1)) 32 4 (T a)) ∧ Tok T n (wr (wr w 32 2 ((a : Nat) + 1)) 32 4 (T a)) (tkN T n p (m 32 4)) := by
        intro g1 g2
        have hk : kd T n (tkN T n p (m 32 4)) = T a := by unfold kd; rw [s1, if_neg (by omega), if_neg (fun g => g1 (isLe_iff.mp g)), if_neg (fun g => g2 (isDi_iff.mp g))]
        have hed : ed T n (tkN T n p (m 32 4)) = a + 1 := by unfold ed; rw [s1, if_neg (by omega), if_neg (fun g => g1 (isLe_iff.mp g)), if_neg (fun g => g2 (isDi_iff.mp g))]
        refine ⟨rfl, (we.put ⟨rfl, by omega, by omega⟩).put ⟨rfl, by omega, by omega⟩, ?_, ?_, ?_, ?_, ?_⟩
        · rw [wr_ne _ _ _ _ _ _ (by decide), wr_ne _ _ _ _ _ _ (by decide), w3, s1]
        · rw [wr_eq, hk]
        · rw [wr_ne _ _ _ _ _ _ (by decide), wr_eq, hed, e3]
        · intro g; rw [hk] at g; omega
        · intro g; rw [hk] at g; omega
      have let1 : 97 ≤ T a ∧ T a ≤ 122 → S_X5_advance sc d 152 [aR 32, aI x, aU] [] (wr w 32 2 ((a : Nat) + 1)) (fun v z => v = none ∧ Ex C_adv m z ∧ Tok T n z (tkN T n p (m 32 4))) := by
        intro g
        have hk : kd T n (tkN T n p (m 32 4)) = if x = 0 then 259 else 256 := by
          unfold kd
          rw [s1, if_neg (by omega), if_pos (isLe_iff.mpr g)]
          by_cases x0 : x = 0
          · rw [if_pos (s2.mpr x0), if_pos x0]
          · rw [if_neg (fun q => x0 (s2.mp q)), if_neg x0]
        have hed : ed T n (tkN T n p (m 32 4)) = spn isLe T n (a + 1) := by unfold ed; rw [s1, if_neg (by omega), if_pos (isLe_iff.mpr g)]
        refine adv_l (m := w) (s := a) hd hx (fun z ze z3 z2 z4 z5 => ⟨rfl, we.trans ze, by rw [z3, s1], by rw [z4, hk], by rw [z2, hed], fun _ => by rw [z5]; unfold wi; rw [s1, hed], fun q => by rw [hk] at q; split at q <;> omega⟩) w3 (n - (a + 1)) (a + 1) _ (by omega) (by omega) (tw.adv ((Ex.refl C_adv w).put ⟨rfl, by omega, by omega⟩)) ((Ex.refl C_adv w).put ⟨rfl, by omega, by omega⟩) ?_ ?_ rfl
        · rw [wr_ne _ _ _ _ _ _ (by decide)]; exact w3
        · rw [wr_eq, e3]
      have dig : 48 ≤ T a ∧ T a ≤ 57 → S_X5_advance sc d 260 [aR 32, aI x, aU] [] (wr (wr w 32 2 ((a : Nat) + 1)) 32 6 (T a - 48)) (fun v z => v = none ∧ Ex C_adv m z ∧ Tok T n z (tkN T n p (m 32 4))) := by
        intro g
        have g1 : ¬ isLe (T a) = true := fun q => by have := isLe_iff.mp q; omega
        have hk : kd T n (tkN T n p (m 32 4)) = if x = 0 then 259 else 257 := by
          unfold kd
          rw [s1, if_neg (by omega), if_neg g1, if_pos (isDi_iff.mpr g)]
          by_cases x0 : x = 0
          · rw [if_pos (s2.mpr x0), if_pos x0]
          · rw [if_neg (fun q => x0 (s2.mp q)), if_neg x0]
        have hed : ed T n (tkN T n p (m 32 4)) = spn isDi T n (a + 1) := by unfold ed; rw [s1, if_neg (by omega), if_neg g1, if_pos (isDi_iff.mpr g)]
        refine adv_d (m := w) (s := a) hx g (fun z ze z3 z2 z4 z6 => ⟨rfl, we.trans ze, by rw [z3, s1], by rw [z4, hk], by rw [z2, hed], fun q => by rw [hk] at q; split at q <;> omega, fun _ => by rw [z6, s1, hed]⟩) (n - (a + 1)) (a + 1) _ (by omega) (by omega) (tw.adv (((Ex.refl C_adv w).put ⟨rfl, by omega, by omega⟩).put ⟨rfl, by omega, by omega⟩)) (((Ex.refl C_adv w).put ⟨rfl, by omega, by omega⟩).put ⟨rfl, by omega, by omega⟩) ?_ ?_ ?_ ?_ rfl
        · rw [wr_ne _ _ _ _ _ _ (by decide), wr_ne _ _ _ _ _ _ (by decide)]; exact w3
        · rw [wr_ne _ _ _ _ _ _ (by decide), wr_eq, e3]
        · rw [wr_eq, show min (a + 1 - a) 4 = 0 + 1 by omega, nv, nv, show ((a : Int) + ((0 : Nat) : Int)) = a by omega]; omega
        · intro i hi
          rw [show i = 0 by omega, show ((a : Int) + ((0 : Nat) : Int)) = a by omega]; exact g
      exact ⟨by omega, by omega, fun _ => ⟨ic_1, by omega, by rw [al_1]; omega, by omega, fun g => ⟨fun g2 => sgn (by omega) (by omega), fun g2 => ⟨fun g3 => sgn (by omega) (by omega), fun g3 => dig (by omega)⟩⟩, fun g => ⟨fun g2 => ⟨fun g3 => sgn (by omega) (by omega), fun g3 => ⟨fun g4 => sgn (by omega) (by omega), fun g4 => dig (by omega)⟩⟩, fun g2 => let1 (by omega)⟩⟩, fun g => absurd (by omega) g⟩
  refine key (n - p) p m _ (by omega) (by omega) ht (Ex.refl C_adv m) h2 ?_ ?_ rfl
  · split
    · exact Or.inl rfl
    · split
      · exact Or.inl rfl
      · exact Or.inr rfl
  · by_cases c1 : m 32 4 = 256
    · rw [if_pos c1]; exact ⟨fun _ => ⟨Or.inl c1, rfl⟩, fun _ => rfl⟩
    · rw [if_neg c1]
      by_cases c2 : m 32 4 = 257
      · rw [if_pos c2]; exact ⟨fun _ => ⟨Or.inr c2, rfl⟩, fun _ => rfl⟩
      · rw [if_neg c2]; exact ⟨fun q => by omega, fun q => by omega⟩
end TK
