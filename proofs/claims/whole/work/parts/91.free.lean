/-! pair: free -/
section PF
variable {sc : List Int} {Ca : Mem → Mem → Prop}
/-- what Ca says of a packing -/
def CaP (Ca : Mem → Mem → Prop) : Prop := (∀ m ρ : Mem, Ca m ρ → PkC m ρ) ∧ ∀ m z ρ : Mem, Ca m ρ → (∀ a j, CaC a j → ¬ C_an a j → z a j = m a j) → PkC z ρ → Ca z ρ
theorem Fst.bd {T : Int → Int} {L c : Int} : ∀ (j s : Nat) (f a : Int → Int), Fst T L c j s f a → ∀ i : Nat, s ≤ i → i < s + j → 0 ≤ a i ∧ a i < c := by
  intro j
  induction j with
  | zero => intro s f a _ i h1 h2; omega
  | succ j ih =>
    rintro s f a ⟨k, k0, k1, k2, k3, k4, k5⟩ i h1 h2
    by_cases e : i = s
    · rw [e, k0]; omega
    · exact ih _ _ _ k5 i (by omega) (by omega)
theorem IsFre.bd {ρ : Mem} {L k v : Int} (hb : RmB ρ) (h : IsFre ρ L k v) : R32 v := by
  have b0 := hb.1
  rcases h with ⟨p, c, a, p1, rfl⟩ | ⟨p, rfl⟩
  · have pb := p.2.2.2
    have c0 := p1.1
    have f := Fst.bd _ _ _ _ p1.2.2.2 k.toNat
    unfold R32
    split
    · omega
    · have := f (by omega) (by omega)
      rw [show ((k.toNat : Nat) : Int) = k by omega] at this
      omega
  · unfold R32; omega
theorem pair_free (hCa : CaFr Ca) (hP : CaP Ca) (n : Nat) (m : Mem) (a0 a1 : Int) (hn : n < 512) (hi : Inv Ca n m) (h0 : R32 a0) (h1 : R32 a1) : PairI (Inv Ca) n m (P_X7_free sc 1799 [aR 0, aI a0, aI a1]) (P_X8_free sc 1799 [aR 62, aI a0, aI a1]) := by
  obtain ⟨ρ, nr, w, hi, hc⟩ := hi
  have hb := hi.2.1
  refine CallP.imp (s_X7_free hi.xt (hP.1 m ρ hc) (by decide) h0 h1) ?_
  rintro v z ⟨he, hp, x1, rfl, hA⟩
  refine ⟨x1, rfl, hA.bd hb, CallP.imp (s_X8_free (hi.mrm.ex he (fun a j q c => by unfold C_an at c; omega)) hb (by decide) h0 h1) ?_⟩
  rintro v2 z2 ⟨he2, y, rfl, hB⟩
  have all : Ex (fun a j => C_an a j ∨ C_fr a j) m z2 := (he.mono (fun a j q => Or.inl q)).trans (he2.mono (fun a j q => Or.inr q))
  refine ⟨by rw [IsFre.eq hB hA], ρ, nr, w, (hi.ex all (fun a j q => ?_)).up, hP.2 m z2 ρ hc (fun a j q1 q2 => all a j (fun q => q.elim q2 (fun q => ?_))) ?_⟩
  · unfold C_an C_fr at q; unfold Rel; omega
  · unfold CaC at q1; unfold C_fr at q; omega
  · have e4 : ∀ a j, C_an a j → z2 a j = z a j := fun a j q => he2 a j (fun q2 => by unfold C_an at q; unfold C_fr at q2; omega)
    unfold PkC at hp ⊢
    rw [e4 44 5 (Or.inl ⟨rfl, Or.inr rfl⟩), e4 44 4 (Or.inl ⟨rfl, Or.inl rfl⟩), show z2 46 = z 46 from funext fun j => e4 46 j (Or.inr (Or.inl rfl))]
    exact hp
end PF
