/-! reading: questions of the class -/
section XQ
variable {sc : List Int} {d : Nat} {m : Mem} {Q : Option AV → Mem → Prop} {T : Int → Int} {n : Nat} {rl : Bool} {F : Int}
def C_bg (F a j : Int) : Prop := (a = 32 ∧ 0 ≤ j ∧ j ≤ 11) ∨ a = F + 1 ∨ (a = F ∧ j = 2)
theorem rd_bg {F a j : Int} (h : C_rd F a j) : C_bg F a j := by unfold C_rd at h; unfold C_bg; omega
theorem s_begin (hF : FormAt F) (hr : rl = true ↔ F ≠ 34) (hn : n ≤ 1600) (ht : ∀ i : Nat, i < n → m 1 i = T i ∧ 0 ≤ T i ∧ T i ≤ 255) (hd : 7 ≤ d) : P_X5_begin sc d [aR 32, aR F, aR 1, aI n] m (fun v z => v = none ∧ Ex (C_bg F) m z ∧ XR T n rl F z (.ok (tkN T n 0 260, []))) := by
  have fb := fm_bd hF
  refine ep_X5_begin (g_X5_begin_0 hF ic_1 ?_)
  rw [al_1]
  refine p_X5_begin_9 (d2 := d - 1) hF (s_min (by unfold R32; omega) (by unfold R32; omega)) (by omega) ?_
  rintro _ z ⟨e, rfl⟩; cases e
  have zx : (if (1600 : Int) < ((n : Nat) : Int) then (1600 : Int) else ((n : Nat) : Int)) = n := by rw [if_neg (by omega)]
  rw [zx]
  refine g_X5_begin_12 hF ⟨by split <;> omega, ?_⟩
  have yE : Ex (C_bg F) m (wr (wr (wr (wr (wr (wr (wr (wr (wr m 32 0 1) 32 1 n) 32 2 0) 32 4 260) 32 7 0) 32 8 (-1)) 32 9 (if F ≠ 34 then 0 else 1 : Int)) 32 11 F) F 2 0) := by
    refine Ex.put (Ex.put (Ex.put (Ex.put (Ex.put (Ex.put (Ex.put (Ex.put (Ex.put (Ex.refl _ _) ?_) ?_) ?_) ?_) ?_) ?_) ?_) ?_) (Or.inr (Or.inr ⟨rfl, rfl⟩)) <;> exact Or.inl ⟨rfl, by decide, by decide⟩
  have y32 : ∀ j v, wr (wr (wr (wr (wr (wr (wr (wr (wr m 32 0 1) 32 1 n) 32 2 0) 32 4 260) 32 7 0) 32 8 (-1)) 32 9 (if F ≠ 34 then 0 else 1 : Int)) 32 11 F) F 2 v 32 j = wr (wr (wr (wr (wr (wr (wr (wr m 32 0 1) 32 1 n) 32 2 0) 32 4 260) 32 7 0) 32 8 (-1)) 32 9 (if F ≠ 34 then 0 else 1 : Int)) 32 11 F 32 j := fun j v => wr_na _ _ _ _ _ _ (by omega)
  have y0 := y32 0 0
  have y1 := y32 1 0
  have y2 := y32 2 0
  have y4 := y32 4 0
  have y7 := y32 7 0
  have y8 := y32 8 0
  have y9 := y32 9 0
  have y11 := y32 11 0
  have yF : wr (wr (wr (wr (wr (wr (wr (wr (wr m 32 0 1) 32 1 n) 32 2 0) 32 4 260) 32 7 0) 32 8 (-1)) 32 9 (if F ≠ 34 then 0 else 1 : Int)) 32 11 F) F 2 0 F 2 = 0 := wr_eq _ _ _ _
  simp only [wr, Int.reduceEq, and_true, true_and, and_false, false_and, if_true, if_false] at y0 y1 y2 y4 y7 y8 y9 y11
  have q0 : wr (wr (wr (wr (wr (wr (wr (wr (wr m 32 0 1) 32 1 n) 32 2 0) 32 4 260) 32 7 0) 32 8 (-1)) 32 9 (if F ≠ 34 then 0 else 1 : Int)) 32 11 F) F 2 0 32 0 = 1 := by rw [y32]; simp [wr]
  have q1 : wr (wr (wr (wr (wr (wr (wr (wr (wr m 32 0 1) 32 1 n) 32 2 0) 32 4 260) 32 7 0) 32 8 (-1)) 32 9 (if F ≠ 34 then 0 else 1 : Int)) 32 11 F) F 2 0 32 1 = n := by rw [y32]; simp [wr]
  have q2 : wr (wr (wr (wr (wr (wr (wr (wr (wr m 32 0 1) 32 1 n) 32 2 0) 32 4 260) 32 7 0) 32 8 (-1)) 32 9 (if F ≠ 34 then 0 else 1 : Int)) 32 11 F) F 2 0 32 2 = 0 := by rw [y32]; simp [wr]
  have q4 : wr (wr (wr (wr (wr (wr (wr (wr (wr m 32 0 1) 32 1 n) 32 2 0) 32 4 260) 32 7 0) 32 8 (-1)) 32 9 (if F ≠ 34 then 0 else 1 : Int)) 32 11 F) F 2 0 32 4 = 260 := by rw [y32]; simp [wr]
  have q7 : wr (wr (wr (wr (wr (wr (wr (wr (wr m 32 0 1) 32 1 n) 32 2 0) 32 4 260) 32 7 0) 32 8 (-1)) 32 9 (if F ≠ 34 then 0 else 1 : Int)) 32 11 F) F 2 0 32 7 = 0 := by rw [y32]; simp [wr]
  have q8 : wr (wr (wr (wr (wr (wr (wr (wr (wr m 32 0 1) 32 1 n) 32 2 0) 32 4 260) 32 7 0) 32 8 (-1)) 32 9 (if F ≠ 34 then 0 else 1 : Int)) 32 11 F) F 2 0 32 8 = -1 := by rw [y32]; simp [wr]
  have q9 : wr (wr (wr (wr (wr (wr (wr (wr (wr m 32 0 1) 32 1 n) 32 2 0) 32 4 260) 32 7 0) 32 8 (-1)) 32 9 (if F ≠ 34 then 0 else 1 : Int)) 32 11 F) F 2 0 32 9 = if rl = true then 0 else 1 := by
    rw [y32, wr_ne _ _ _ _ _ _ (by decide), wr_eq]
    by_cases g : F = 34
    · rw [if_neg (fun q => q g), if_neg (fun q => hr.mp q g)]
    · rw [if_pos g, if_pos (hr.mpr g)]
  have q11 : wr (wr (wr (wr (wr (wr (wr (wr (wr m 32 0 1) 32 1 n) 32 2 0) 32 4 260) 32 7 0) 32 8 (-1)) 32 9 (if F ≠ 34 then 0 else 1 : Int)) 32 11 F) F 2 0 32 11 = F := by rw [y32]; simp [wr]
  generalize wr (wr (wr (wr (wr (wr (wr (wr (wr m 32 0 1) 32 1 n) 32 2 0) 32 4 260) 32 7 0) 32 8 (-1)) 32 9 (if F ≠ 34 then 0 else 1 : Int)) 32 11 F) F 2 0 = y at yE yF q0 q1 q2 q4 q7 q8 q9 q11 ⊢
  clear y0 y1 y2 y4 y7 y8 y9 y11 y32
  have ty : Tx y T n := ⟨hn, q0, q1, fun i hi => by rw [yE 1 _ (fun c => by unfold C_bg at c; omega)]; exact ht i hi⟩
  refine p_X5_begin_65 (d2 := d - 1) (s_adv (p := 0) ty (by omega) q7 q2 (by rw [q4]; decide) (by omega)) (by omega) ?_
  rintro z ⟨-, ze, zt⟩
  rw [q4] at zt
  have z32 : ∀ j, 7 ≤ j → z 32 j = y 32 j := fun j hj => ze 32 j (fun c => by unfold C_adv at c; omega)
  refine g_X5_begin_68 ⟨rfl, yE.trans (ze.mono (fun a j q => by unfold C_adv at q; unfold C_bg; omega)), ty.adv ze, by rw [z32 9 (by decide)]; exact q9, ⟨by rw [z32 11 (by decide)]; exact q11, hF⟩, ⟨by rw [z32 7 (by decide)]; exact q7, by rw [z32 8 (by decide)]; exact q8⟩, zt, tkN_le (by omega), Nat.zero_le _, ?_, fun j hj => absurd hj (Nat.not_lt_zero j)⟩
  rw [ze F 2 (fun c => by unfold C_adv at c; omega)]
  exact yF
/-- a question: its word, and what stands behind -/
def q0S (T : Int → Int) (n : Nat) : Stt := tkN T n 0 260
def qBody (T : Int → Int) (n : Nat) : Rs :=
  if wE T n (q0S T n) = 30 ∨ wE T n (q0S T n) = 31 ∨ wE T n (q0S T n) = 32 then apR (rdTest T n false 6) (nxR T n (.ok (q0S T n, [])))
  else if wE T n (q0S T n) = 33 ∨ wE T n (q0S T n) = 19 ∨ wE T n (q0S T n) = 18 then apR (rdSum T n false 6) (nxR T n (.ok (q0S T n, [])))
  else .error (1, (q0S T n).1)
def exE (T : Int → Int) (n : Nat) (x : Stt × List Int) : Rs := if kd T n x.1 = 258 then .ok x else .error (1, x.1.1)
def rdQ (T : Int → Int) (n : Nat) : Rs := (qBody T n).bind (exE T n)
theorem s_readQuestion (hn : n ≤ 1600) (ht : ∀ i : Nat, i < n → m 1 i = T i ∧ 0 ≤ T i ∧ T i ≤ 255) (hd : 200 ≤ d) : P_X5_readQuestion sc d [aR 32, aR 1, aI n] m (fun v z => v = some (aI (wE T n (q0S T n))) ∧ Ex (C_bg 34) m z ∧ XR T n false 34 z (rdQ T n)) := by
  refine ep_X5_readQuestion (g_X5_readQuestion_0 ic_1 (p_X5_readQuestion_7 (d2 := d - 1) fm_34 ic_1 (s_begin (rl := false) fm_34 ⟨fun c => (by cases c), fun c => absurd rfl c⟩ hn ht (by omega)) (by omega) ?_))
  rintro z ⟨-, ze, hz⟩
  have zw : (if (z 32 4) ≠ 256 then (-1) else (z 32 5) : Int) = wE T n (q0S T n) := by
    unfold wE
    have e4 : z 32 4 = kd T n (q0S T n) := hz.kok
    rw [e4]
    by_cases c : kd T n (q0S T n) = 256
    · rw [if_neg (fun q => q c), if_pos c]; exact hz.2.2.2.2.1.2.2.2.1 c
    · rw [if_pos c, if_neg c]
  have wb : -1 ≤ wE T n (q0S T n) ∧ wE T n (q0S T n) < 34 := by
    have := @wi_bd T n (q0S T n)
    unfold wE
    split <;> omega
  have s0 : ∀ w, wE T n (q0S T n) = w → 0 ≤ w → Slk n (nxR T n (.ok (q0S T n, []))) := by
    intro w e h0 x e2
    cases e2
    have := @nx_of T n (q0S T n) (wE_n e h0)
    show 0 + 1 ≤ (nx T n (q0S T n)).1 ∧ (nx T n (q0S T n)).1 ≤ n; omega
  -- what stands behind
  have fin : ∀ (r : Rs) (y : Mem), Ex (C_bg 34) m y → XR T n false 34 y r → S_X5_readQuestion sc d 98 [aR 32, aU, aU, aI (wE T n (q0S T n))] [] y (fun v z => v = some (aI (wE T n (q0S T n))) ∧ Ex (C_bg 34) m z ∧ XR T n false 34 z (r.bind (exE T n))) := by
    intro r y ye hy
    have n1 := hy.1.1
    refine g_X5_readQuestion_98 ⟨kd32 hy, fun c => g_X5_readQuestion_117 ⟨rfl, ye, ?_⟩, fun c => ?_⟩
    · cases r with
      | error e => have := hy.err; omega
      | ok x =>
        have e4 := hy.kok
        show XR T n false 34 y (exE T n x)
        unfold exE
        rw [if_pos (by omega)]
        exact hy
    · refine p_X5_readQuestion_114 (d2 := d - 1) (s_fail (k := 1) hy (by decide) (fun x e => ?_)) (by omega) ?_
      · subst e; rw [hy.s3]; have := hy.2.2.2.2.2.1; omega
      · rintro u ⟨-, ue, hu⟩
        refine g_X5_readQuestion_117 ⟨rfl, ye.trans (ue.mono (fun a j q => rd_bg q)), ?_⟩
        cases r with
        | error e => exact hu
        | ok x =>
          have e4 := hy.kok
          show XR T n false 34 u (exE T n x)
          unfold exE
          rw [if_neg (by omega), ← hy.s3]
          exact hu
  have tst : (wE T n (q0S T n) = 30 ∨ wE T n (q0S T n) = 31 ∨ wE T n (q0S T n) = 32) → S_X5_readQuestion sc d 48 [aR 32, aU, aU, aI (wE T n (q0S T n))] [aR 32] z (fun v z => v = some (aI (wE T n (q0S T n))) ∧ Ex (C_bg 34) m z ∧ XR T n false 34 z (rdQ T n)) := by
    intro c
    have sl := s0 _ rfl (by omega)
    refine p_X5_readQuestion_48 (d2 := d - 1) (s_advance hz (by omega)) (by omega) ?_
    rintro y ⟨-, ye, hy⟩
    refine g_X5_readQuestion_51 (p_X5_readQuestion_53 (d2 := d - 1) ((okFacts 6 (by omega)).2 (d - 1) y _ (by omega) hy sl) (by omega) ?_)
    rintro u ⟨-, ue, hu⟩
    refine g_X5_readQuestion_56 ?_
    have := fin _ u ((ze.trans (ye.mono (fun a j q => rd_bg q))).trans (ue.mono (fun a j q => rd_bg q))) hu
    unfold rdQ qBody
    rw [if_pos c]
    exact this
  have sms : ¬ (wE T n (q0S T n) = 30 ∨ wE T n (q0S T n) = 31 ∨ wE T n (q0S T n) = 32) → (wE T n (q0S T n) = 33 ∨ wE T n (q0S T n) = 19 ∨ wE T n (q0S T n) = 18) → S_X5_readQuestion sc d 78 [aR 32, aU, aU, aI (wE T n (q0S T n))] [aR 32] z (fun v z => v = some (aI (wE T n (q0S T n))) ∧ Ex (C_bg 34) m z ∧ XR T n false 34 z (rdQ T n)) := by
    intro c0 c
    have sl := s0 _ rfl (by omega)
    refine p_X5_readQuestion_78 (d2 := d - 1) (s_advance hz (by omega)) (by omega) ?_
    rintro y ⟨-, ye, hy⟩
    refine g_X5_readQuestion_81 (p_X5_readQuestion_83 (d2 := d - 1) ((okParts 6 (by omega)).2 (d - 1) y _ (by omega) hy sl) (by omega) ?_)
    rintro u ⟨-, ue, hu⟩
    refine g_X5_readQuestion_86 ?_
    have := fin _ u ((ze.trans (ye.mono (fun a j q => rd_bg q))).trans (ue.mono (fun a j q => rd_bg q))) hu
    unfold rdQ qBody
    rw [if_neg c0, if_pos c]
    exact this
  refine g_X5_readQuestion_10 ?_
  rw [zw]
  generalize hw : wE T n (q0S T n) = w at wb tst sms fin ⊢
  refine ⟨kd32 hz, by omega, fun c => tst (Or.inl c), fun c1 => ⟨fun c => tst (Or.inr (Or.inl c)), fun c2 => ⟨fun c3 => ⟨fun c => sms (by omega) (Or.inl c), fun c4 => ⟨fun c => sms (by omega) (Or.inr (Or.inl c)), fun c5 => ⟨fun c6 => ?_, fun c6 => sms (by omega) (Or.inr (Or.inr (by omega)))⟩⟩⟩, fun c => tst (Or.inr (Or.inr (by omega)))⟩⟩⟩
  have hz2 : XR T n false 34 z (.ok (q0S T n, [])) := hz
  have n1 := hz.1.1
  refine p_X5_readQuestion_95 (d2 := d - 1) (s_fail (k := 1) hz2 (by decide) (fun x e => by rw [hz2.s3]; have : (q0S T n).1 ≤ n := hz.2.2.2.2.2.1; show 0 ≤ (((q0S T n).1 : Nat) : Int) ∧ (((q0S T n).1 : Nat) : Int) ≤ 1600; omega)) (by omega) ?_
  rintro y ⟨-, ye, hy⟩
  have := fin _ y (ze.trans (ye.mono (fun a j q => rd_bg q))) hy
  unfold rdQ qBody
  rw [if_neg (by omega), if_neg (by omega)]
  rw [hz2.s3] at this
  exact this
end XQ
