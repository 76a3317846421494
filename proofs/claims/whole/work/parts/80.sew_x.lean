/-! a seam is sewn: one step for both sides -/
section ST
variable {sc : List Int} {d : Nat} {m : Mem} {Q : Option AV → Mem → Prop} {r : Int} {ρ : Mem}
def StA (ρ : Mem) (ch : Int) (f h : Int → Int) (t : Int) : Prop := (h 0 = f 0 ∧ h 4 = f 4) ∧ ((ch = 0 ∧ h 1 = f 1 ∧ h 2 = f 2 ∧ h 3 = f 3 ∧ h 6 = f 6 ∧ t = 0) ∨ (ch ≠ 0 ∧ h 1 = 0 ∧ IsLb ρ (drF (f 6)) (h 2) ∧ h 3 = f 3 + 1 ∧ h 6 = sdF (f 6) ∧ t = ρ 7 0))
def StB (ρ : Mem) (h g : Int → Int) (t : Int) : Prop := (g 0 = h 0 + 1 ∧ g 3 = h 3) ∧ ((h 1 + ρ 3 (h 0) ≤ h 2 ∧ g 1 = h 1 + ρ 3 (h 0) ∧ g 2 = h 2 ∧ g 4 = h 4 ∧ g 6 = h 6 ∧ t = 0) ∨ (h 2 < h 1 + ρ 3 (h 0) ∧ g 1 = 0 ∧ IsLb ρ (drF (h 6)) (g 2) ∧ g 4 = h 4 + 1 ∧ g 6 = sdF (h 6) ∧ t = ρ 7 1 + ρ 7 0))
def StR (ρ : Mem) (ch : Int) (f g : Int → Int) (t : Int) : Prop := ∃ (h : Int → Int) (t1 t2 : Int), StA ρ ch f h t1 ∧ StB ρ h g t2 ∧ t = t1 + t2
def StE (f g : Int → Int) : Prop := f 0 = g 0 ∧ f 1 = g 1 ∧ f 2 = g 2 ∧ f 3 = g 3 ∧ f 4 = g 4 ∧ f 6 = g 6
/-- the days that may be -/
def StV (ρ : Mem) (f : Int → Int) : Prop := (0 ≤ f 0 ∧ f 0 ≤ ρ 0 1) ∧ (0 ≤ f 1 ∧ f 1 ≤ f 2 ∧ f 2 ≤ 99) ∧ (0 ≤ f 3 ∧ f 3 ≤ f 0) ∧ (0 ≤ f 4 ∧ f 4 ≤ f 0) ∧ 0 ≤ f 6 ∧ f 6 ≤ 2147483647
theorem StV.congr {f g : Int → Int} (h : StV ρ f) (e : StE f g) : StV ρ g := by
  obtain ⟨e0, e1, e2, e3, e4, e6⟩ := e
  unfold StV at h ⊢
  rw [← e0, ← e1, ← e2, ← e3, ← e4, ← e6]
  exact h
theorem StR.eq (hb : RmB ρ) {ch t t' : Int} {f f' g g' : Int → Int} (e : StE f f') (h : StR ρ ch f g t) (h' : StR ρ ch f' g' t') : StE g g' ∧ t = t' := by
  obtain ⟨e0, e1, e2, e3, e4, e6⟩ := e
  obtain ⟨p, t1, t2, ⟨⟨a0, a4⟩, a⟩, ⟨⟨b0, b3⟩, b⟩, rfl⟩ := h
  obtain ⟨p', t1', t2', ⟨⟨a0', a4'⟩, a'⟩, ⟨⟨b0', b3'⟩, b'⟩, rfl⟩ := h'
  rw [← e6] at a'
  have k : p 1 = p' 1 ∧ p 2 = p' 2 ∧ p 3 = p' 3 ∧ p 6 = p' 6 ∧ t1 = t1' := by
    rcases a with ⟨c, q1, q2, q3, q6, q⟩ | ⟨c, q1, q2, q3, q6, q⟩ <;> rcases a' with ⟨c', q1', q2', q3', q6', q'⟩ | ⟨c', q1', q2', q3', q6', q'⟩
    · omega
    · exact absurd c c'
    · exact absurd c' c
    · exact ⟨by omega, q2.eq hb q2', by omega, by omega, by omega⟩
  obtain ⟨k1, k2, k3, k6, kt⟩ := k
  have k0 : p' 0 = p 0 := by omega
  rw [k0, ← k1, ← k2, ← k6] at b'
  have l : g 1 = g' 1 ∧ g 2 = g' 2 ∧ g 4 = g' 4 ∧ g 6 = g' 6 ∧ t2 = t2' := by
    rcases b with ⟨c, q1, q2, q3, q6, q⟩ | ⟨c, q1, q2, q3, q6, q⟩ <;> rcases b' with ⟨c', q1', q2', q3', q6', q'⟩ | ⟨c', q1', q2', q3', q6', q'⟩
    · omega
    · omega
    · omega
    · exact ⟨by omega, q2.eq hb q2', by omega, by omega, by omega⟩
  obtain ⟨l1, l2, l4, l6, lt⟩ := l
  exact ⟨⟨by omega, l1, l2, by omega, l4, l6⟩, by omega⟩
theorem StR.ok (hb : RmB ρ) {ch t : Int} {f g : Int → Int} (h0 : f 0 < ρ 0 1) (v : StV ρ f) (h : StR ρ ch f g t) : StV ρ g ∧ 0 ≤ t ∧ t ≤ 297 := by
  obtain ⟨p, t1, t2, ⟨⟨a0, a4⟩, a⟩, ⟨⟨b0, b3⟩, b⟩, rfl⟩ := h
  obtain ⟨v0, v1, v3, v4, v6⟩ := v
  have w0 : 0 ≤ ρ 7 0 ∧ ρ 7 0 ≤ 99 := hb.2.2.2.2.1 0 (by omega)
  have w1 : 0 ≤ ρ 7 1 ∧ ρ 7 1 ≤ 99 := hb.2.2.2.2.1 1 (by omega)
  have s1 := sdF_bd (f 6)
  have s2 := sdF_bd (p 6)
  obtain ⟨s, es⟩ := Int.eq_ofNat_of_zero_le v0.1
  have ts := (hb.2.2.2.1 s (by omega)).1
  rw [a0, es] at b
  have k : (0 ≤ p 1 ∧ p 1 ≤ p 2 ∧ p 2 ≤ 99) ∧ (0 ≤ p 3 ∧ p 3 ≤ f 0 + 1) ∧ (0 ≤ p 6 ∧ p 6 ≤ 2147483647) ∧ 0 ≤ t1 ∧ t1 ≤ 99 := by
    rcases a with ⟨c, q1, q2, q3, q6, q⟩ | ⟨c, q1, q2, q3, q6, q⟩
    · omega
    · have := q2.bd hb
      omega
  have l : (0 ≤ g 1 ∧ g 1 ≤ g 2 ∧ g 2 ≤ 99) ∧ (0 ≤ g 4 ∧ g 4 ≤ f 0 + 1) ∧ (0 ≤ g 6 ∧ g 6 ≤ 2147483647) ∧ 0 ≤ t2 ∧ t2 ≤ 198 := by
    rcases b with ⟨c, q1, q2, q3, q6, q⟩ | ⟨c, q1, q2, q3, q6, q⟩
    · omega
    · have := q2.bd hb
      omega
  unfold StV
  omega
def C_sx (a j : Int) : Prop := a = 57 ∧ ((0 ≤ j ∧ j ≤ 4) ∨ j = 6)
/-- behind the change -/
theorem stitch_b {f : Int → Int} {ch t1 : Int} {m1 : Mem} {s : Nat} (H : RoomAt r) (hx : XRm m1 r ρ) (hb : RmB ρ) (hs : (s : Int) < ρ 0 1) (hd : 2 ≤ d) (he : Ex C_sx m m1) (hA : StA ρ ch f (m1 57) t1) (ht : 0 ≤ t1 ∧ t1 ≤ 99) (e0 : m1 57 0 = s) (e1 : 0 ≤ m1 57 1 ∧ m1 57 1 ≤ 99) (e2 : R32 (m1 57 2)) (e6 : 0 ≤ m1 57 6 ∧ m1 57 6 ≤ 2147483647) :
    (0 ≤ m1 57 0) ∧ (m1 57 0 < 10) ∧ (R32 ((wr (wr m1 57 1 ((m1 57 1) + (m1 (r + 3) (m1 57 0)))) 57 0 (((wr m1 57 1 ((m1 57 1) + (m1 (r + 3) (m1 57 0)))) 57 0) + 1)) 57 1)) ∧ (R32 ((wr (wr m1 57 1 ((m1 57 1) + (m1 (r + 3) (m1 57 0)))) 57 0 (((wr m1 57 1 ((m1 57 1) + (m1 (r + 3) (m1 57 0)))) 57 0) + 1)) 57 2)) ∧ ((((wr (wr m1 57 1 ((m1 57 1) + (m1 (r + 3) (m1 57 0)))) 57 0 (((wr m1 57 1 ((m1 57 1) + (m1 (r + 3) (m1 57 0)))) 57 0) + 1)) 57 1) ≤ ((wr (wr m1 57 1 ((m1 57 1) + (m1 (r + 3) (m1 57 0)))) 57 0 (((wr m1 57 1 ((m1 57 1) + (m1 (r + 3) (m1 57 0)))) 57 0) + 1)) 57 2)) → ((fun v z => ∃ t, v = some (aI t) ∧ Ex C_sx m z ∧ StR ρ ch f (z 57) t) (some (aI t1)) (wr (wr m1 57 1 ((m1 57 1) + (m1 (r + 3) (m1 57 0)))) 57 0 (((wr m1 57 1 ((m1 57 1) + (m1 (r + 3) (m1 57 0)))) 57 0) + 1)))) ∧ (¬ (((wr (wr m1 57 1 ((m1 57 1) + (m1 (r + 3) (m1 57 0)))) 57 0 (((wr m1 57 1 ((m1 57 1) + (m1 (r + 3) (m1 57 0)))) 57 0) + 1)) 57 1) ≤ ((wr (wr m1 57 1 ((m1 57 1) + (m1 (r + 3) (m1 57 0)))) 57 0 (((wr m1 57 1 ((m1 57 1) + (m1 (r + 3) (m1 57 0)))) 57 0) + 1)) 57 2)) → (S_X2_stitch sc d 125 [aR 57, aU, aU, aI (t1 + (((wr (wr m1 57 1 ((m1 57 1) + (m1 (r + 3) (m1 57 0)))) 57 0 (((wr m1 57 1 ((m1 57 1) + (m1 (r + 3) (m1 57 0)))) 57 0) + 1)) (r + 13) 1) + ((wr (wr m1 57 1 ((m1 57 1) + (m1 (r + 3) (m1 57 0)))) 57 0 (((wr m1 57 1 ((m1 57 1) + (m1 (r + 3) (m1 57 0)))) 57 0) + 1)) (r + 13) 0)))] [aR r, aR 57, aR 57] (wr (wr (wr (wr m1 57 1 ((m1 57 1) + (m1 (r + 3) (m1 57 0)))) 57 0 (((wr m1 57 1 ((m1 57 1) + (m1 (r + 3) (m1 57 0)))) 57 0) + 1)) 57 4 (((wr (wr m1 57 1 ((m1 57 1) + (m1 (r + 3) (m1 57 0)))) 57 0 (((wr m1 57 1 ((m1 57 1) + (m1 (r + 3) (m1 57 0)))) 57 0) + 1)) 57 4) + 1)) 57 1 0) (fun v z => ∃ t, v = some (aI t) ∧ Ex C_sx m z ∧ StR ρ ch f (z 57) t))) := by
  have hr := room_bd H
  have b0 := hb.1
  have ts := (hb.2.2.2.1 s hs).1
  have e3 : m1 (r + 3) s = ρ 3 s := (hx.2.2.1 s hs).1
  have hne : ρ 0 3 ≠ 0 := fun q => by have := hb.2.1.1 q; omega
  rw [e0, e3, show wr m1 57 1 (m1 57 1 + ρ 3 s) 57 0 = s from (wr_ne _ _ _ _ _ _ (by omega)).trans e0]
  have zx : Ex (fun a j => a = 57 ∧ (j = 0 ∨ j = 1)) m1 (wr (wr m1 57 1 (m1 57 1 + ρ 3 s)) 57 0 ((s : Int) + 1)) := ((Ex.refl _ _).put ⟨rfl, by omega⟩).put ⟨rfl, by omega⟩
  have z0 : wr (wr m1 57 1 (m1 57 1 + ρ 3 s)) 57 0 ((s : Int) + 1) 57 0 = (s : Int) + 1 := wr_eq _ _ _ _
  have z1 : wr (wr m1 57 1 (m1 57 1 + ρ 3 s)) 57 0 ((s : Int) + 1) 57 1 = m1 57 1 + ρ 3 s := by rw [wr_ne _ _ _ _ _ _ (by omega), wr_eq]
  generalize wr (wr m1 57 1 (m1 57 1 + ρ 3 s)) 57 0 ((s : Int) + 1) = z at zx z0 z1 ⊢
  have z2 : z 57 2 = m1 57 2 := zx 57 2 (by omega)
  have z3 : z 57 3 = m1 57 3 := zx 57 3 (by omega)
  have z4 : z 57 4 = m1 57 4 := zx 57 4 (by omega)
  have z6 : z 57 6 = m1 57 6 := zx 57 6 (by omega)
  have w1 : z (r + 13) 1 = ρ 7 1 := by rw [zx _ _ (by omega)]; exact hx.2.2.2.2 1 (by omega)
  have w0 : z (r + 13) 0 = ρ 7 0 := by rw [zx _ _ (by omega)]; exact hx.2.2.2.2 0 (by omega)
  rw [z1, z2, z4, w1, w0]
  refine ⟨by omega, by omega, by unfold R32; omega, e2, fun c => ?_, fun c => ?_⟩
  · refine ⟨t1, rfl, he.trans (zx.mono (fun a j q => by unfold C_sx; omega)), m1 57, t1, 0, hA, ⟨⟨by omega, z3⟩, Or.inl ⟨?_, ?_, z2, z4, z6, rfl⟩⟩, by omega⟩
    · rw [e0]; omega
    · rw [e0]; exact z1
  · have yx : Ex (fun a j => a = 57 ∧ (j = 1 ∨ j = 4)) z (wr (wr z 57 4 (m1 57 4 + 1)) 57 1 0) := ((Ex.refl _ _).put ⟨rfl, by omega⟩).put ⟨rfl, by omega⟩
    have y1 : wr (wr z 57 4 (m1 57 4 + 1)) 57 1 0 57 1 = 0 := wr_eq _ _ _ _
    have y4 : wr (wr z 57 4 (m1 57 4 + 1)) 57 1 0 57 4 = m1 57 4 + 1 := by rw [wr_ne _ _ _ _ _ _ (by omega), wr_eq]
    generalize wr (wr z 57 4 (m1 57 4 + 1)) 57 1 0 = y at yx y1 y4 ⊢
    have y6 : y 57 6 = m1 57 6 := (yx 57 6 (by omega)).trans z6
    have y0 : y 57 0 = (s : Int) + 1 := (yx 57 0 (by omega)).trans z0
    have y3 : y 57 3 = m1 57 3 := (yx 57 3 (by omega)).trans z3
    have hy : XRm y r ρ := (hx.ex zx (fun a j q1 q2 => by omega)).ex yx (fun a j q1 q2 => by omega)
    refine p_X2_stitch_125 (d2 := d - 1) H (s_draw H hy hb hne (by omega) (by rw [y6]; exact e6)) (by omega) ?_
    rintro x1 z' ⟨rfl, x2, e, h⟩; cases e
    rw [y6] at h ⊢
    have ax : Ex C_sx m (wr (wr y 57 6 (sdF (m1 57 6))) 57 2 x1) := (((he.trans (zx.mono (fun a j q => by unfold C_sx; omega))).trans (yx.mono (fun a j q => by unfold C_sx; omega))).put ⟨rfl, by omega⟩).put ⟨rfl, by omega⟩
    refine g_X2_stitch_128 ⟨_, rfl, ax, m1 57, t1, _, hA, ⟨⟨?_, ?_⟩, Or.inr ⟨?_, ?_, ?_, ?_, ?_, rfl⟩⟩, by omega⟩
    · rw [wr_ne _ _ _ _ _ _ (by omega), wr_ne _ _ _ _ _ _ (by omega), y0]; omega
    · rw [wr_ne _ _ _ _ _ _ (by omega), wr_ne _ _ _ _ _ _ (by omega), y3]
    · rw [e0]; omega
    · rw [wr_ne _ _ _ _ _ _ (by omega), wr_ne _ _ _ _ _ _ (by omega), y1]
    · rw [wr_eq]; exact h
    · rw [wr_ne _ _ _ _ _ _ (by omega), wr_ne _ _ _ _ _ _ (by omega), y4]
    · rw [wr_ne _ _ _ _ _ _ (by omega), wr_eq]
theorem s_stitch {c : Int} {s : Nat} (H : RoomAt r) (hx : XRm m r ρ) (hb : RmB ρ) (hc : R32 c) (hs : (s : Int) < ρ 0 1) (e0 : m 57 0 = s) (hv : StV ρ (m 57)) (hd : 2 ≤ d) : P_X2_stitch sc d [aR 57, aR r, aI c] m (fun v z => ∃ t, v = some (aI t) ∧ Ex C_sx m z ∧ StR ρ c (m 57) (z 57) t) := by
  have hr := room_bd H
  have b0 := hb.1
  have e8 := hx.1.2.1
  obtain ⟨v0, v1, v3, v4, v6⟩ := hv
  have hne : ρ 0 3 ≠ 0 := fun q => by have := hb.2.1.1 q; omega
  have w0 : m (r + 13) 0 = ρ 7 0 := hx.2.2.2.2 0 (by omega)
  have wb : 0 ≤ ρ 7 0 ∧ ρ 7 0 ≤ 99 := hb.2.2.2.2.1 0 (by omega)
  refine ep_X2_stitch (g_X2_stitch_0 H ⟨by omega, by omega, fun _ => ⟨hc, fun q => ?_, fun q => ?_⟩, fun q => absurd (by omega) q⟩)
  · exact stitch_b (t1 := 0) (m1 := m) (s := s) H hx hb hs hd (Ex.refl _ _) ⟨⟨rfl, rfl⟩, Or.inl ⟨q, rfl, rfl, rfl, rfl, rfl⟩⟩ (by omega) e0 (by omega) (by unfold R32; omega) v6
  · rw [w0]
    have zx : Ex (fun a j => a = 57 ∧ (j = 1 ∨ j = 3)) m (wr (wr m 57 3 (m 57 3 + 1)) 57 1 0) := ((Ex.refl _ _).put ⟨rfl, by omega⟩).put ⟨rfl, by omega⟩
    have z1 : wr (wr m 57 3 (m 57 3 + 1)) 57 1 0 57 1 = 0 := wr_eq _ _ _ _
    have z3 : wr (wr m 57 3 (m 57 3 + 1)) 57 1 0 57 3 = m 57 3 + 1 := by rw [wr_ne _ _ _ _ _ _ (by omega), wr_eq]
    generalize wr (wr m 57 3 (m 57 3 + 1)) 57 1 0 = z at zx z1 z3 ⊢
    have z6 : z 57 6 = m 57 6 := zx 57 6 (by omega)
    refine p_X2_stitch_46 (d2 := d - 1) H H (s_draw H (hx.ex zx (fun a j q1 q2 => by omega)) hb hne (by omega) (by rw [z6]; exact v6)) (by omega) ?_
    rintro x1 z' ⟨rfl, x2, e, h⟩; cases e
    rw [z6] at h ⊢
    have xb := h.bd hb
    refine g_X2_stitch_49 H ?_
    have yx : Ex C_sx m (wr (wr z 57 6 (sdF (m 57 6))) 57 2 x1) := ((zx.mono (fun a j q => by unfold C_sx; omega)).put ⟨rfl, by omega⟩).put ⟨rfl, by omega⟩
    have y2 : wr (wr z 57 6 (sdF (m 57 6))) 57 2 x1 57 2 = x1 := wr_eq _ _ _ _
    have y6 : wr (wr z 57 6 (sdF (m 57 6))) 57 2 x1 57 6 = sdF (m 57 6) := by rw [wr_ne _ _ _ _ _ _ (by omega), wr_eq]
    have yk : ∀ j, j ≠ 2 → j ≠ 6 → wr (wr z 57 6 (sdF (m 57 6))) 57 2 x1 57 j = z 57 j := fun j q1 q2 => by rw [wr_ne _ _ _ _ _ _ (by omega), wr_ne _ _ _ _ _ _ (by omega)]
    generalize wr (wr z 57 6 (sdF (m 57 6))) 57 2 x1 = y at yx y2 y6 yk ⊢
    have y0 : y 57 0 = m 57 0 := (yk 0 (by decide) (by decide)).trans (zx 57 0 (by omega))
    have y1 : y 57 1 = 0 := (yk 1 (by decide) (by decide)).trans z1
    have y3 : y 57 3 = m 57 3 + 1 := (yk 3 (by decide) (by decide)).trans z3
    have y4 : y 57 4 = m 57 4 := (yk 4 (by decide) (by decide)).trans (zx 57 4 (by omega))
    have sb := sdF_bd (m 57 6)
    exact stitch_b (t1 := 0 + ρ 7 0) (m1 := y) (s := s) H (hx.ex yx (fun a j q1 q2 => by unfold C_sx; omega)) hb hs hd yx ⟨⟨y0, y4⟩, Or.inr ⟨q, y1, by rw [y2]; exact h, y3, y6, by omega⟩⟩ (by omega) (y0.trans e0) (by omega) (by rw [y2]; unfold R32; omega) (by rw [y6]; exact sb)
end ST
