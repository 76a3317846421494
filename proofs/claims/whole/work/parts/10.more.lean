/-! fewer locals; known lengths; answers -/
def Drp (a b : List AV) : Prop := a.length = b.length ∧ ∀ (i : Nat) (v : AV), b[i]? = some v → v ≠ aU → a[i]? = some v
theorem drp_n : Drp [] [] := ⟨rfl, fun i v h => by simp at h⟩
theorem drp_k {x : AV} {a b : List AV} (h : Drp a b) : Drp (x :: a) (x :: b) := by
  refine ⟨by simp [h.1], fun i v hv hu => ?_⟩
  match i, hv with
  | 0, hv => exact hv
  | i + 1, hv => simpa using h.2 i v (by simpa using hv) hu
theorem drp_u {x : AV} {a b : List AV} (h : Drp a b) : Drp (x :: a) (aU :: b) := by
  refine ⟨by simp [h.1], fun i v hv hu => ?_⟩
  match i, hv with
  | 0, hv => exact absurd (Option.some.inj hv).symm hu
  | i + 1, hv => simpa using h.2 i v (by simpa using hv) hu
section XD
variable {sc : List Int} {o : String} {cc : ByteArray} {nL : Nat} {ret : Option FieldType} {d pc pc2 : Nat} {ls ls2 st : List AV} {m : Mem} {Q : Option AV → Mem → Prop}
theorem x_drop (hd : Drp ls ls2) (k : Sim sc o cc nL ret d pc ls2 st m Q) : Sim sc o cc nL ret d pc ls st m Q := by
  intro p l e R s mt args below meth c g H locs lsC cells slots Qw hC hP hS hL hK
  exact k p l e R s mt args below meth c g H locs lsC cells slots Qw hC hP hS ⟨hL.1, hL.2.1, hd.1.symm.trans hL.2.2.1, fun i v hv hu => hL.2.2.2 i v (hd.2 i v hv hu) hu⟩ hK
theorem x_alenK {a n : Int} (ha : IsC a 100 ∨ IsC a 102) (hn : alen a = n) (hd : decode cc pc = .ok (.arraylength, 1)) (hp : pc + 1 = pc2)
    (k : Sim sc o cc nL ret d pc2 ls (aI n :: st) m Q) : Sim sc o cc nL ret d pc ls (aR a :: st) m Q := x_alen ha hd hp (by rw [hn]; exact k)
theorem x_topI {v a : Int} (e : v = a) (k : Sim sc o cc nL ret d pc ls (aI v :: st) m Q) : Sim sc o cc nL ret d pc ls (aI a :: st) m Q := e ▸ k
theorem x_topJ {v a : Int} (e : v = a) (k : Sim sc o cc nL ret d pc ls (aJ v :: st) m Q) : Sim sc o cc nL ret d pc ls (aJ a :: st) m Q := e ▸ k
theorem x_weak {Q2 : Option AV → Mem → Prop} (h : ∀ v z, Q2 v z → Q v z) (k : Sim sc o cc nL ret d pc ls st m Q2) : Sim sc o cc nL ret d pc ls st m Q := by
  intro p l e R s mt args below meth c g H locs lsC cells slots Qw hC hP hS hL hK
  exact k p l e R s mt args below meth c g H locs lsC cells slots Qw hC hP hS hL (fun v m' H' locs' pc' ls' hq => hK v m' H' locs' pc' ls' (h v m' hq))
end XD
theorem ret_z {x : Int} (h : x = 0 ∨ x = 1) : RetOK (some .boolean) (some (aI x)) := ⟨.boolean, rfl, by rcases h with rfl | rfl <;> rfl⟩
theorem ret_c {x : Int} (h : 0 ≤ x ∧ x < 65536) : RetOK (some .char) (some (aI x)) := by
  refine ⟨.char, rfl, ?_⟩
  show Value.int ((Int32.ofInt x).toUInt32.toUInt16.toUInt32.toInt32) = _
  rw [lg_i2c_small (by rw [i32_of ⟨by omega, by omega⟩]; exact h.1) (by rw [i32_of ⟨by omega, by omega⟩]; exact h.2)]
