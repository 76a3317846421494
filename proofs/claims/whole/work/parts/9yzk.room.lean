/-! pair: room -/
section PR2
variable {sc : List Int} {Ca : Mem → Mem → Prop}
/-- cells that a call which tells no room may change, both sides -/
def C_ra (r a j : Int) : Prop := (r ≤ a ∧ a ≤ r + 13 ∧ ¬ (a = r + 7 ∧ j = 0) ∧ ¬ (a = r + 11 ∧ j = 0)) ∨ a = 32 ∨ (a = 0 ∧ j = 1) ∨ (a = 61 ∧ j = 1) ∨ (a = 64 ∧ j = 1) ∨ (a = 62 ∧ j ≠ 53 ∧ j ≠ 83 ∧ j ≠ 84 ∧ j ≠ 85 ∧ j ≠ 88 ∧ j ≠ 122) ∨ a = 148 ∨ a = 149 ∨ (a = 95 ∧ j < 3) ∨ (a = 96 ∧ j < 20) ∨ (a = 97 ∧ j < 6) ∨ (a = 98 ∧ j < 6) ∨ (a = 99 ∧ j < 70) ∨ (a = 100 ∧ j < 6) ∨ (a = 101 ∧ j < 4) ∨ (a = 102 ∧ j < 4) ∨ (a = 103 ∧ j < 1600)
theorem lk_s {a j : Int} (h : C_lk a j) : a = 62 ∧ j ≠ 53 ∧ j ≠ 83 ∧ j ≠ 84 ∧ j ≠ 85 ∧ j ≠ 88 ∧ j ≠ 122 := by unfold C_lk at h; omega
theorem mz_s {a j : Int} (h : C_mz a j) : (a = 62 ∧ j ≠ 53 ∧ j ≠ 83 ∧ j ≠ 84 ∧ j ≠ 85 ∧ j ≠ 88 ∧ j ≠ 122) ∨ a = 148 ∨ a = 149 ∨ (a = 95 ∧ j < 3) ∨ (a = 96 ∧ j < 20) ∨ (a = 97 ∧ j < 6) ∨ (a = 98 ∧ j < 6) ∨ (a = 99 ∧ j < 70) ∨ (a = 100 ∧ j < 6) ∨ (a = 101 ∧ j < 4) ∨ (a = 102 ∧ j < 4) ∨ (a = 103 ∧ j < 1600) := by
  rcases h with (((h | h) | h) | h | h) | h
  · exact Or.inl (lk_s h)
  · rcases h with ⟨h1, h2⟩ | h | h
    · exact Or.inl ⟨h1, by omega, by omega, by omega, by omega, by omega, by omega⟩
    · exact Or.inr (Or.inl h)
    · exact Or.inr (Or.inr (Or.inl h))
  · exact Or.inl ⟨h.1, by omega, by omega, by omega, by omega, by omega, by omega⟩
  · exact Or.inl ⟨h.1, by omega, by omega, by omega, by omega, by omega, by omega⟩
  · exact Or.inr (Or.inr (Or.inr h))
  · exact Or.inl ⟨h.1, by omega, by omega, by omega, by omega, by omega, by omega⟩
/-- what the reference keeps in the lower halves is scratch: every cell that a call of either side may change -/
def C_rz (r a j : Int) : Prop := (r ≤ a ∧ a ≤ r + 13 ∧ ¬ (a = r + 7 ∧ j = 0) ∧ ¬ (a = r + 11 ∧ j = 0)) ∨ a = 32 ∨ (a = 0 ∧ j ≠ 12) ∨ (a = 37 ∧ j = 1) ∨ (a = 44 ∧ (j = 5 ∨ j = 11)) ∨ (a = 57 ∧ j ≠ 6) ∨ (a = 62 ∧ j ≠ 84 ∧ j ≠ 85 ∧ j ≠ 122) ∨ (95 ≤ a ∧ a ≤ 103) ∨ a = 124 ∨ a = 148 ∨ a = 149
theorem xe_ra {r a j : Int} (h : C_xe r a j) : C_ra r a j := by
  rcases h with h | h | h
  · rcases h with h | h
    · exact Or.inr (Or.inl h.1)
    · exact Or.inl h
  · exact Or.inr (Or.inr (Or.inl h))
  · exact Or.inr (Or.inr (Or.inr (Or.inl h)))
theorem re_ra {r a j : Int} (h : C_re a j) : C_ra r a j := by
  rcases h with h | h | h
  · rcases mz_s h with h | h | h | h
    · exact Or.inr (Or.inr (Or.inr (Or.inr (Or.inr (Or.inl h)))))
    · exact Or.inr (Or.inr (Or.inr (Or.inr (Or.inr (Or.inr (Or.inl h))))))
    · exact Or.inr (Or.inr (Or.inr (Or.inr (Or.inr (Or.inr (Or.inr (Or.inl h)))))))
    · exact Or.inr (Or.inr (Or.inr (Or.inr (Or.inr (Or.inr (Or.inr (Or.inr h)))))))
  · exact Or.inr (Or.inr (Or.inr (Or.inr (Or.inr (Or.inl ⟨h.1, by omega, by omega, by omega, by omega, by omega, by omega⟩)))))
  · exact Or.inr (Or.inr (Or.inr (Or.inr (Or.inl h))))
theorem xo_rz {r a j : Int} (h : C_xo r a j) : C_rz r a j := by
  rcases h with h | h | h | h | h
  · rcases h with h | h
    · exact Or.inr (Or.inl h.1)
    · exact Or.inl h
  · exact Or.inr (Or.inr (Or.inl ⟨h.1, by omega⟩))
  · exact Or.inr (Or.inr (Or.inr (Or.inl h)))
  · exact Or.inr (Or.inr (Or.inr (Or.inr (Or.inl h))))
  · exact Or.inr (Or.inr (Or.inr (Or.inr (Or.inr (Or.inl ⟨h.1, by omega⟩)))))
theorem ro_rz {r a j : Int} (h : C_ro a j) : C_rz r a j := by
  have k62 : ∀ {a j : Int}, (a = 62 ∧ j ≠ 84 ∧ j ≠ 85 ∧ j ≠ 122) → C_rz r a j := fun q => Or.inr (Or.inr (Or.inr (Or.inr (Or.inr (Or.inr (Or.inl q))))))
  have kk : ∀ {a j : Int}, (95 ≤ a ∧ a ≤ 103) → C_rz r a j := fun q => Or.inr (Or.inr (Or.inr (Or.inr (Or.inr (Or.inr (Or.inr (Or.inl q)))))))
  have k124 : ∀ {a j : Int}, (a = 124 ∨ a = 148 ∨ a = 149) → C_rz r a j := fun q => Or.inr (Or.inr (Or.inr (Or.inr (Or.inr (Or.inr (Or.inr (Or.inr q)))))))
  rcases h with h | h | h
  · rcases mz_s h with h | h | h | h
    · exact k62 ⟨h.1, h.2.2.2.1, h.2.2.2.2.1, h.2.2.2.2.2.2⟩
    · exact k124 (Or.inr (Or.inl h))
    · exact k124 (Or.inr (Or.inr h))
    · exact kk (by omega)
  · exact k62 ⟨h.1, by omega, by omega, by omega⟩
  · rcases h with h | h | h | h | h | h | h | h | h | h | h
    · exact k62 ⟨h.1, by omega, by omega, by omega⟩
    · exact kk (by omega)
    · exact kk (by omega)
    · exact kk (by omega)
    · exact kk (by omega)
    · exact kk (by omega)
    · exact kk (by omega)
    · exact kk (by omega)
    · exact kk (by omega)
    · exact kk (by omega)
    · exact k124 (Or.inl h)
theorem pair_room (hF : CaFr Ca) (h0 : ∀ m ρ : Mem, m 37 1 = -3 → m 44 5 = 0 → m 44 11 = 0 → (∀ g : Nat, g < 3 → m 50 g = 0 ∧ m 51 g = 0) → Ca m ρ) (h5 : ∀ m ρ : Mem, Ca m ρ → ∀ g : Nat, g < 3 → m 50 g = 0 ∧ m 51 g = 0) (n : Nat) (m : Mem) (hn : n < 512) (hi : Inv Ca n m) : PairI (Inv Ca) n m (P_X7_room sc 1799 [aR 0]) (P_X8_room sc 1799 [aR 62]) := by
  obtain ⟨ρ, nr, w, hi, hc⟩ := hi
  obtain ⟨t1, t2, t3⟩ := hi.tape
  obtain ⟨N, hN⟩ := Int.eq_ofNat_of_zero_le t1.1
  have N6 : N ≤ 1600 := by omega
  obtain ⟨H0, H, Hne⟩ := hi.1
  have Hb := room_bd H
  have H0b := room_bd H0
  have hWS := hi.2.2.2.2.2.2.2.2.2.2.2.2.1
  have hW : WrdL m := hWS.1
  have hS : SpL m := hWS.2
  have tT : ∀ i : Nat, i < N → m 1 i = m 1 i ∧ 0 ≤ m 1 i ∧ m 1 i ≤ 255 := fun i hi2 => ⟨rfl, (t3 i (by omega)).2⟩
  have tb : ∀ i : Nat, i < N → 0 ≤ m 1 i ∧ m 1 i ≤ 255 := fun i hi2 => (tT i hi2).2
  have far : ∀ a : Int, (m 0 2 ≤ a ∧ a ≤ m 0 2 + 13) → ¬ (m 0 3 ≤ a ∧ a ≤ m 0 3 + 13) := by
    intro a q
    rcases H0 with e | e <;> rcases H with e2 | e2 <;> omega
  refine CallP.imp (s_X7_room (T := m 1) (n := N) H0 H hS N6 hN tT (by decide)) ?_
  rintro v z ⟨z01, hz⟩
  cases er : rdRoom (m 1) N with
  | error e =>
    rw [er] at hz
    obtain ⟨rfl, z7, z8, b1, b2, z61, ze⟩ := hz
    have zk : ∀ a j, 62 ≤ a → z a j = m a j := fun a j g => ze a j (by unfold C_xe C_rm; omega)
    refine ⟨_, rfl, by decide, CallP.imp (s_X8_room (T := m 1) (n := N) (fun a j q => by rw [zk a j (by omega)]; exact hW a j q) N6 (by rw [zk 62 1 (by decide)]; omega) (fun i hi2 => by rw [zk 63 _ (by decide), (t3 i (by omega)).1]; exact tT i hi2) (by decide)) ?_⟩
    rintro v2 u ⟨u1, hu⟩
    rw [er] at hu
    obtain ⟨rfl, u7, u8, u64, ue⟩ := hu
    refine ⟨rfl, ρ, nr, w, ?_, ?_⟩
    · have all : Ex (C_ra (m 0 3)) m u := (ze.mono (fun a j q => xe_ra q)).trans (ue.mono (fun a j q => re_ra q))
      have low : ∀ a j, a ≤ 61 → u a j = z a j := fun a j g => ue a j (by
        intro q
        have : C_ra 1000 a j := re_ra q
        rcases q with q | q | q
        · rcases mz_s q with q | q | q | q <;> omega
        · omega
        · omega)
      have A : ∀ a j, ¬ C_ra (m 0 3) a j → u a j = m a j := all
      have hi0 := hi
      obtain ⟨-, hB, hX, hM, ⟨hl, hxl, hml, hnm⟩, -, -, -, -, -, -, -, -, -⟩ := hi
      have e2 : u 0 2 = m 0 2 := A 0 2 (by unfold C_ra; omega)
      have e3 : u 0 3 = m 0 3 := A 0 3 (by unfold C_ra; omega)
      have tr : ∀ a j, m 0 2 ≤ a → a ≤ m 0 2 + 13 → u a j = m a j := fun a j q1 q2 => A a j (by have := far a ⟨q1, q2⟩; unfold C_ra; omega)
      unfold InvB
      rw [e2, e3]
      refine ⟨⟨H0, H, Hne⟩, hB, hX.ex2 (fun a j q1 q2 _ => tr a j q1 q2), hM.ex all (fun a j q c => by unfold C_ra at c; omega), ⟨hl, ⟨fun k hk => by rw [tr _ _ (by omega) (by omega)]; exact hxl.1 k hk, fun j hj => by rw [tr _ _ (by omega) (by omega)]; exact hxl.2 j hj⟩, ⟨fun k hk => by rw [A 101 _ (by unfold C_ra; omega), A 102 _ (by unfold C_ra; omega)]; exact hml.1 k hk, fun j hj => by rw [A 103 _ (by unfold C_ra; omega)]; exact hml.2 j hj⟩, ⟨fun s hs => ?_, fun k hk => ?_⟩⟩, ?_, ?_, ?_, ?_, ?_, ?_, ?_, ⟨?_, ?_⟩, ?_⟩
      · rw [A 96 _ (by unfold C_ra; omega), show (fun j => u (m 0 2 + 12) (s * 6 + j)) = fun j => m (m 0 2 + 12) (s * 6 + j) from funext fun j => tr _ _ (by omega) (by omega)]
        exact hnm.1 s hs
      · rw [A 96 _ (by unfold C_ra; omega), show (fun j => u (m 0 2 + 12) ((10 + k) * 6 + j)) = fun j => m (m 0 2 + 12) ((10 + k) * 6 + j) from funext fun j => tr _ _ (by omega) (by omega)]
        exact hnm.2 k hk
      · have u01 : u 0 1 = 0 := (low 0 1 (by decide)).trans z01
        exact ⟨by omega, by omega, fun i hi2 => by omega⟩
      · refine RefL.put (k := 1) hi0.refs (by decide) ?_ ?_ (fun i hi2 hne => ⟨A 61 _ (by unfold C_ra; omega), A 64 _ (by unfold C_ra; omega)⟩)
        · show u 61 1 = m 61 1 + 1
          rw [low 61 1 (by decide)]; exact z61
        · show u 64 1 = m 64 1 + 1
          rw [u64, zk 64 1 (by decide)]
      · unfold FltL
        rw [u7, u8, low 32 7 (by decide), low 32 8 (by decide), z7, z8]
        exact ⟨rfl, rfl, by omega, by omega⟩
      · exact hi0.dayl.ex all (fun a j q => by unfold C_ra at q; omega)
      · exact hi0.past.ex all (fun a j q => by unfold C_ra at q; omega)
      · exact hi0.seedl.ex all (fun a j q => by unfold C_ra at q; omega)
      · exact hi0.pic.ex all (fun a j q => by unfold C_ra at q; omega)
      · intro a j q
        rw [A a j (by unfold C_ra; omega)]
        exact hW a j q
      · unfold SpL
        rw [A 9 0 (by unfold C_ra; rcases H with e | e <;> omega), A 24 0 (by unfold C_ra; rcases H with e | e <;> omega), A 13 0 (by unfold C_ra; rcases H with e | e <;> omega), A 28 0 (by unfold C_ra; rcases H with e | e <;> omega)]
        exact hS
      · exact rws_ex hi0.rws all (fun a j q => by unfold C_ra at q; omega)
    · refine hF m u ρ (fun a j q => ?_) hc
      rw [ue a j (fun c => by
        rcases c with c | c | c
        · unfold CaC at q
          rcases mz_s c with c | c | c | c <;> omega
        · unfold CaC at q; omega
        · unfold CaC at q; omega)]
      exact ze a j (fun c => by unfold C_xe C_rm at c; unfold CaC at q; omega)
  | ok a =>
    rw [er] at hz
    obtain ⟨rfl, z7, z8, ⟨sx1, sx2, ⟨x37, x445, x4411, x578, x010⟩, x57⟩, z02, z03, ze⟩ := hz
    have G := gi_room N6 tb er
    have zk : ∀ a j, 62 ≤ a → z a j = m a j := fun a j g => ze a j (by unfold C_xo C_rm; omega)
    have bb := G.1.1.1
    refine ⟨_, rfl, by omega, CallP.imp (s_X8_room (T := m 1) (n := N) (fun a j q => by rw [zk a j (by omega)]; exact hW a j q) N6 (by rw [zk 62 1 (by decide)]; omega) (fun i hi2 => by rw [zk 63 _ (by decide), (t3 i (by omega)).1]; exact tT i hi2) (by decide)) ?_⟩
    rintro v2 u ⟨u1, hu⟩
    rw [er] at hu
    obtain ⟨rfl, u7, u8, ⟨sm1, sm2, sm3, sm4, sm5, sm6⟩, ue⟩ := hu
    have all : Ex (C_rz (m 0 3)) m u := (ze.mono (fun a j q => xo_rz q)).trans (ue.mono (fun a j q => ro_rz q))
    have low : ∀ a j, a ≤ 61 → u a j = z a j := fun a j g => ue a j (by
      rintro (q | q | q)
      · rcases mz_s q with q | q | q | q <;> omega
      · omega
      · unfold C_sd at q; omega)
    have A : ∀ a j, ¬ C_rz (m 0 3) a j → u a j = m a j := all
    have e2 : u 0 2 = m 0 3 := (low 0 2 (by decide)).trans z02
    have e3 : u 0 3 = m 0 2 := (low 0 3 (by decide)).trans z03
    have pp := hi.past
    have P := G.1
    refine ⟨rfl, a.2, 0, fun _ => 0, ?_, ?_⟩
    · unfold InvB
      rw [e2, e3]
      refine ⟨⟨H, H0, fun q => Hne q.symm⟩, ⟨P.1.1, ⟨fun q => absurd q (by have := G.2.1; omega), fun _ => ⟨G.2.2.1, G.2.2.2⟩⟩, P.1.2.2⟩, sx1.1.ex3 (fun a j q => low a j (by omega)), sm1, ⟨P.2.1, ⟨fun k hk => ?_, fun j hj => ?_⟩, sm2, ⟨fun s hs => ?_, fun k hk => ?_⟩⟩, ?_, ?_, ?_, ⟨fun k hk => ?_, ?_⟩, ⟨?_, ?_, ?_, fun i hi2 => ?_⟩, ?_, ?_, ⟨?_, ?_⟩, ⟨?_, fun i hi2 => ?_⟩, ⟨sm6, fun i hi2 => ?_⟩, ⟨by decide, fun i hi2 => ?_⟩⟩
      · rw [low _ _ (by omega)]; exact sx1.2.1 k hk
      · have hj : (j : Int) < a.2 10 (a.2 0 2) := hj
        have l := P.2.2.2.1.1
        rw [low _ _ (by omega), P.2.2.2.1.2 j (by omega)]
        exact sx2 j (by omega)
      · refine (sm3.1 s hs).cg (fun j hj => ?_)
        show u (m 0 3 + 12) ((s : Int) * 6 + j) = a.2 8 ((s : Int) * 6 + j)
        rw [low _ _ (by omega)]
        exact sx1.2.2 _ (by omega)
      · refine (sm3.2 k hk).cg (fun j hj => ?_)
        show u (m 0 3 + 12) ((10 + (k : Int)) * 6 + j) = a.2 8 ((10 + (k : Int)) * 6 + j)
        rw [low _ _ (by omega)]
        exact sx1.2.2 _ (by omega)
      · have u01 : u 0 1 = 0 := (low 0 1 (by decide)).trans z01
        exact ⟨by omega, by omega, fun i hi2 => by omega⟩
      · exact hi.refs.up.ex all (fun a j q => by unfold C_rz at q; omega)
      · unfold FltL
        rw [u7, u8, low 32 7 (by decide), low 32 8 (by decide), z7, z8]
        exact ⟨rfl, rfl, by decide, by decide⟩
      · rw [sm4 k hk, low 57 _ (by decide), x57 k hk]
      · have d0 : u 57 0 = 0 := (low 57 0 (by decide)).trans (x57 0 (by decide))
        have d1 : u 57 1 = 0 := (low 57 1 (by decide)).trans (x57 1 (by decide))
        have d2 : u 57 2 = a.2 1 0 := (low 57 2 (by decide)).trans (x57 2 (by decide))
        have d3 : u 57 3 = 0 := (low 57 3 (by decide)).trans (x57 3 (by decide))
        have d4 : u 57 4 = 0 := (low 57 4 (by decide)).trans (x57 4 (by decide))
        have d5 : u 57 5 = 0 := (low 57 5 (by decide)).trans (x57 5 (by decide))
        have l0 := (P.1.2.2.1 0 (by have := G.2.2.1; show (0 : Int) < a.2 0 0; omega)).1
        have l0 : 1 ≤ a.2 1 0 ∧ a.2 1 0 ≤ 99 := l0
        unfold DayB
        rw [d0, d1, d2, d3, d4, d5]
        omega
      · rw [low 57 8 (by decide), x578]; decide
      · rw [low 57 8 (by decide), x578]; exact sm5
      · rw [A 62 84 (by unfold C_rz; omega)]; exact pp.2.2.1
      · rw [low 57 8 (by decide), x578] at hi2; omega
      · exact hi.seedl.ex all (fun a j q => by unfold C_rz at q; omega)
      · exact hi.pic.ex all (fun a j q => by unfold C_rz at q; omega)
      · intro a j q
        rw [A a j (by unfold C_rz; omega)]
        exact hW a j q
      · unfold SpL
        rw [A 9 0 (by unfold C_rz; rcases H with e | e <;> omega), A 24 0 (by unfold C_rz; rcases H with e | e <;> omega), A 13 0 (by unfold C_rz; rcases H with e | e <;> omega), A 28 0 (by unfold C_rz; rcases H with e | e <;> omega)]
        exact hS
      · exact (low 0 10 (by decide)).trans x010
      · omega
      · omega
      · omega
    · refine h0 u a.2 ((low 37 1 (by decide)).trans x37) ((low 44 5 (by decide)).trans x445) ((low 44 11 (by decide)).trans x4411) (fun g hg => ?_)
      have := h5 m ρ hc g hg
      rw [A 50 _ (by unfold C_rz; omega), A 51 _ (by unfold C_rz; omega)]
      exact this
end PR2
