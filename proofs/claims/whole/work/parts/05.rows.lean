/-! one row an instruction: stack, locals, branches, returns -/
theorem i32_of {x : Int} (h : -2147483648 ≤ x ∧ x < 2147483648) : (Int32.ofInt x).toInt = x := Int32.toInt_ofInt_of_le (by have := h.1; omega) (by have := h.2; omega)
theorem i64_of {x : Int} (h : -9223372036854775808 ≤ x ∧ x < 9223372036854775808) : (Int64.ofInt x).toInt = x := Int64.toInt_ofInt_of_le (by have := h.1; omega) (by have := h.2; omega)
theorem i32_lt {x y : Int} (hx : -2147483648 ≤ x ∧ x < 2147483648) (hy : -2147483648 ≤ y ∧ y < 2147483648) : Int32.ofInt x < Int32.ofInt y ↔ x < y := by rw [Int32.lt_iff_toInt_lt, i32_of hx, i32_of hy]
theorem i32_le {x y : Int} (hx : -2147483648 ≤ x ∧ x < 2147483648) (hy : -2147483648 ≤ y ∧ y < 2147483648) : Int32.ofInt x ≤ Int32.ofInt y ↔ x ≤ y := by rw [Int32.le_iff_toInt_le, i32_of hx, i32_of hy]
theorem i32_eq {x y : Int} (hx : -2147483648 ≤ x ∧ x < 2147483648) (hy : -2147483648 ≤ y ∧ y < 2147483648) : Int32.ofInt x = Int32.ofInt y ↔ x = y := by rw [← Int32.toInt_inj, i32_of hx, i32_of hy]
theorem i64_lt {x y : Int} (hx : -9223372036854775808 ≤ x ∧ x < 9223372036854775808) (hy : -9223372036854775808 ≤ y ∧ y < 9223372036854775808) : Int64.ofInt x < Int64.ofInt y ↔ x < y := by rw [Int64.lt_iff_toInt_lt, i64_of hx, i64_of hy]
theorem i64_eq {x y : Int} (hx : -9223372036854775808 ≤ x ∧ x < 9223372036854775808) (hy : -9223372036854775808 ≤ y ∧ y < 9223372036854775808) : Int64.ofInt x = Int64.ofInt y ↔ x = y := by rw [← Int64.toInt_inj, i64_of hx, i64_of hy]
theorem i32_0 : (0 : Int32) = Int32.ofInt 0 := rfl
theorem i32_clamp {x : Int} (h : 0 ≤ x ∧ x < 2147483648) : (Int32.ofInt x).toNatClampNeg = x.toNat := by rw [Int32.toNatClampNeg, i32_of ⟨by omega, h.2⟩]
theorem i32_in {x : Int} {n : Nat} (h : 0 ≤ x ∧ x < n) (hn : n < 2147483648) : vp_in (Int32.ofInt x) n := by
  intro q
  have e : (Int32.ofInt x).toInt = x := i32_of ⟨by omega, by omega⟩
  rcases q with q | q
  · rw [Int32.lt_iff_toInt_lt, e] at q
    have : (0 : Int32).toInt = 0 := rfl
    omega
  · rw [i32_clamp ⟨h.1, by omega⟩] at q
    omega
/-- the answers of bit operations -/
def a_and (x y : Int) : Int := (Int32.ofInt x &&& Int32.ofInt y).toInt
def a_or (x y : Int) : Int := (Int32.ofInt x ||| Int32.ofInt y).toInt
def a_shl (x y : Int) : Int := (Int32.ofInt x <<< (Int32.ofInt y &&& 31)).toInt
def a_shr (x y : Int) : Int := (Int32.ofInt x >>> (Int32.ofInt y &&& 31)).toInt
def a_ushr (x y : Int) : Int := ((Int32.ofInt x).toUInt32 >>> ((Int32.ofInt y).toUInt32 &&& Int32.toUInt32 31)).toInt32.toInt
def a_i2c (x : Int) : Int := ((Int32.ofInt x).toUInt32 % 65536).toInt32.toInt
def a_land (x y : Int) : Int := (Int64.ofInt x &&& Int64.ofInt y).toInt
def a_lor (x y : Int) : Int := (Int64.ofInt x ||| Int64.ofInt y).toInt
def a_lxor (x y : Int) : Int := (Int64.ofInt x ^^^ Int64.ofInt y).toInt
def a_cmp (x y : Int) : Int := if x < y then -1 else if x = y then 0 else 1
theorem a_cmp_of {x y : Int} (hx : -9223372036854775808 ≤ x ∧ x < 9223372036854775808) (hy : -9223372036854775808 ≤ y ∧ y < 9223372036854775808) : lg_cmp (Int64.ofInt x) (Int64.ofInt y) = Int32.ofInt (a_cmp x y) := by
  unfold lg_cmp a_cmp
  by_cases h1 : x < y
  · rw [if_pos h1, if_neg (show ¬ Int64.ofInt x > Int64.ofInt y from fun q => by have := (i64_lt hy hx).mp q; omega), if_neg (fun q => by have := (i64_eq hx hy).mp q; omega)]; rfl
  · by_cases h2 : x = y
    · rw [if_neg h1, if_pos h2, if_neg (show ¬ Int64.ofInt x > Int64.ofInt y from fun q => by have := (i64_lt hy hx).mp q; omega), if_pos (by rw [h2])]; rfl
    · rw [if_neg h1, if_neg h2, if_pos (show Int64.ofInt x > Int64.ofInt y from (i64_lt hy hx).mpr (by omega))]; rfl
section XR
variable {sc : List Int} {o : String} {cc : ByteArray} {nL : Nat} {ret : Option FieldType} {d pc pc2 : Nat} {ls st : List AV} {m : Mem} {Q : Option AV → Mem → Prop}
theorem x_iconst {n : Int} (hd : decode cc pc = .ok (.iconst n, 1)) (hp : pc + 1 = pc2) 
    (k : Sim sc o cc nL ret d pc2 ls (aI n :: st) m Q) : Sim sc o cc nL ret d pc ls st m Q := by
  subst hp
  intro p l e R s mt args below meth c g H locs lsC cells slots Qw hC hP hS hL hK
  have k := k p l e R s mt args below meth c g H locs lsC cells slots Qw hC hP hS hL hK
  exact lv_iconst hC.1 hC.2.1 hd rfl k
theorem x_bipush {n : Int} (hd : decode cc pc = .ok (.bipush n, 2)) (hp : pc + 2 = pc2) (hv : (Int8.ofInt n).toInt32 = Int32.ofInt n)
    (k : Sim sc o cc nL ret d pc2 ls (aI n :: st) m Q) : Sim sc o cc nL ret d pc ls st m Q := by
  subst hp
  intro p l e R s mt args below meth c g H locs lsC cells slots Qw hC hP hS hL hK
  have k := k p l e R s mt args below meth c g H locs lsC cells slots Qw hC hP hS hL hK
  exact lv_bipush hC.1 hC.2.1 hd hv k
theorem x_sipush {n : Int} (hd : decode cc pc = .ok (.sipush n, 3)) (hp : pc + 3 = pc2) (hv : (Int16.ofInt n).toInt32 = Int32.ofInt n)
    (k : Sim sc o cc nL ret d pc2 ls (aI n :: st) m Q) : Sim sc o cc nL ret d pc ls st m Q := by
  subst hp
  intro p l e R s mt args below meth c g H locs lsC cells slots Qw hC hP hS hL hK
  have k := k p l e R s mt args below meth c g H locs lsC cells slots Qw hC hP hS hL hK
  exact lv_sipush hC.1 hC.2.1 hd hv k
theorem x_lconst {n : Fin 2} {v : Int} (hd : decode cc pc = .ok (.lconst n, 1)) (hp : pc + 1 = pc2) (hv : Int64.ofNat (n : Nat) = Int64.ofInt v)
    (k : Sim sc o cc nL ret d pc2 ls (aJ v :: st) m Q) : Sim sc o cc nL ret d pc ls st m Q := by
  subst hp
  intro p l e R s mt args below meth c g H locs lsC cells slots Qw hC hP hS hL hK
  have k := k p l e R s mt args below meth c g H locs lsC cells slots Qw hC hP hS hL hK
  exact lv_lconst hC.1 hC.2.1 hd hv k
theorem x_iadd {x y : Int} (hd : decode cc pc = .ok (.iadd, 1)) (hp : pc + 1 = pc2) 
    (k : Sim sc o cc nL ret d pc2 ls (aI (x + y) :: st) m Q) : Sim sc o cc nL ret d pc ls (aI y :: aI x :: st) m Q := by
  subst hp
  intro p l e R s mt args below meth c g H locs lsC cells slots Qw hC hP hS hL hK
  have k := k p l e R s mt args below meth c g H locs lsC cells slots Qw hC hP hS hL hK
  exact lv_iadd hC.1 hC.2.1 hd (by rw [← Int32.ofInt_add]; exact k)
theorem x_isub {x y : Int} (hd : decode cc pc = .ok (.isub, 1)) (hp : pc + 1 = pc2) 
    (k : Sim sc o cc nL ret d pc2 ls (aI (x - y) :: st) m Q) : Sim sc o cc nL ret d pc ls (aI y :: aI x :: st) m Q := by
  subst hp
  intro p l e R s mt args below meth c g H locs lsC cells slots Qw hC hP hS hL hK
  have k := k p l e R s mt args below meth c g H locs lsC cells slots Qw hC hP hS hL hK
  exact lv_isub hC.1 hC.2.1 hd (by rw [← Int32.ofInt_sub]; exact k)
theorem x_imul {x y : Int} (hd : decode cc pc = .ok (.imul, 1)) (hp : pc + 1 = pc2) 
    (k : Sim sc o cc nL ret d pc2 ls (aI (x * y) :: st) m Q) : Sim sc o cc nL ret d pc ls (aI y :: aI x :: st) m Q := by
  subst hp
  intro p l e R s mt args below meth c g H locs lsC cells slots Qw hC hP hS hL hK
  have k := k p l e R s mt args below meth c g H locs lsC cells slots Qw hC hP hS hL hK
  exact lv_imul hC.1 hC.2.1 hd (by rw [← Int32.ofInt_mul]; exact k)
theorem x_ladd {x y : Int} (hd : decode cc pc = .ok (.ladd, 1)) (hp : pc + 1 = pc2) 
    (k : Sim sc o cc nL ret d pc2 ls (aJ (x + y) :: st) m Q) : Sim sc o cc nL ret d pc ls (aJ y :: aJ x :: st) m Q := by
  subst hp
  intro p l e R s mt args below meth c g H locs lsC cells slots Qw hC hP hS hL hK
  have k := k p l e R s mt args below meth c g H locs lsC cells slots Qw hC hP hS hL hK
  exact lv_ladd hC.1 hC.2.1 hd (by rw [← Int64.ofInt_add]; exact k)
theorem x_lsub {x y : Int} (hd : decode cc pc = .ok (.lsub, 1)) (hp : pc + 1 = pc2) 
    (k : Sim sc o cc nL ret d pc2 ls (aJ (x - y) :: st) m Q) : Sim sc o cc nL ret d pc ls (aJ y :: aJ x :: st) m Q := by
  subst hp
  intro p l e R s mt args below meth c g H locs lsC cells slots Qw hC hP hS hL hK
  have k := k p l e R s mt args below meth c g H locs lsC cells slots Qw hC hP hS hL hK
  exact lv_lsub hC.1 hC.2.1 hd (by rw [← Int64.ofInt_sub]; exact k)
theorem x_lmul {x y : Int} (hd : decode cc pc = .ok (.lmul, 1)) (hp : pc + 1 = pc2) 
    (k : Sim sc o cc nL ret d pc2 ls (aJ (x * y) :: st) m Q) : Sim sc o cc nL ret d pc ls (aJ y :: aJ x :: st) m Q := by
  subst hp
  intro p l e R s mt args below meth c g H locs lsC cells slots Qw hC hP hS hL hK
  have k := k p l e R s mt args below meth c g H locs lsC cells slots Qw hC hP hS hL hK
  exact lv_lmul hC.1 hC.2.1 hd (by rw [← Int64.ofInt_mul]; exact k)
theorem x_idiv {x y : Int} (hd : decode cc pc = .ok (.idiv, 1)) (hp : pc + 1 = pc2) (hx : -2147483648 ≤ x ∧ x < 2147483648) (hy : -2147483648 ≤ y ∧ y < 2147483648) (hn : y ≠ 0)
    (k : Sim sc o cc nL ret d pc2 ls (aI (x.tdiv y) :: st) m Q) : Sim sc o cc nL ret d pc ls (aI y :: aI x :: st) m Q := by
  subst hp
  intro p l e R s mt args below meth c g H locs lsC cells slots Qw hC hP hS hL hK
  have k := k p l e R s mt args below meth c g H locs lsC cells slots Qw hC hP hS hL hK
  exact lv_idiv hC.1 hC.2.1 hd (fun q => hn ((i32_eq hy ⟨by omega, by omega⟩).mp (q.trans i32_0))) (by rw [← Int32.ofInt_tdiv (show (-2147483648 : Int) ≤ x from hx.1) (show x ≤ (2147483647 : Int) by omega) (show (-2147483648 : Int) ≤ y from hy.1) (show y ≤ (2147483647 : Int) by omega)]; exact k)
theorem x_irem {x y : Int} (hd : decode cc pc = .ok (.irem, 1)) (hp : pc + 1 = pc2) (hx : -2147483648 ≤ x ∧ x < 2147483648) (hy : -2147483648 ≤ y ∧ y < 2147483648) (hn : y ≠ 0)
    (k : Sim sc o cc nL ret d pc2 ls (aI (x.tmod y) :: st) m Q) : Sim sc o cc nL ret d pc ls (aI y :: aI x :: st) m Q := by
  subst hp
  intro p l e R s mt args below meth c g H locs lsC cells slots Qw hC hP hS hL hK
  have k := k p l e R s mt args below meth c g H locs lsC cells slots Qw hC hP hS hL hK
  refine lv_irem hC.1 hC.2.1 hd (fun q => hn ((i32_eq hy ⟨by omega, by omega⟩).mp (q.trans i32_0))) ?_
  rw [← Int32.ofInt_tdiv (show (-2147483648 : Int) ≤ x from hx.1) (show x ≤ (2147483647 : Int) by omega) (show (-2147483648 : Int) ≤ y from hy.1) (show y ≤ (2147483647 : Int) by omega), ← Int32.ofInt_mul, ← Int32.ofInt_sub, show x - x.tdiv y * y = x.tmod y by have := Int.tmod_add_tdiv_mul x y; omega]
  exact k
theorem x_ldiv {x y : Int} (hd : decode cc pc = .ok (.ldiv, 1)) (hp : pc + 1 = pc2) (hx : -9223372036854775808 ≤ x ∧ x < 9223372036854775808) (hy : -9223372036854775808 ≤ y ∧ y < 9223372036854775808) (hn : y ≠ 0)
    (k : Sim sc o cc nL ret d pc2 ls (aJ (x.tdiv y) :: st) m Q) : Sim sc o cc nL ret d pc ls (aJ y :: aJ x :: st) m Q := by
  subst hp
  intro p l e R s mt args below meth c g H locs lsC cells slots Qw hC hP hS hL hK
  have k := k p l e R s mt args below meth c g H locs lsC cells slots Qw hC hP hS hL hK
  exact lv_ldiv hC.1 hC.2.1 hd (fun q => hn ((i64_eq hy ⟨by omega, by omega⟩).mp (q.trans (show (0 : Int64) = Int64.ofInt 0 from rfl)))) (by rw [← Int64.ofInt_tdiv (show (-9223372036854775808 : Int) ≤ x from hx.1) (show x ≤ (9223372036854775807 : Int) by omega) (show (-9223372036854775808 : Int) ≤ y from hy.1) (show y ≤ (9223372036854775807 : Int) by omega)]; exact k)
theorem x_lrem {x y : Int} (hd : decode cc pc = .ok (.lrem, 1)) (hp : pc + 1 = pc2) (hx : -9223372036854775808 ≤ x ∧ x < 9223372036854775808) (hy : -9223372036854775808 ≤ y ∧ y < 9223372036854775808) (hn : y ≠ 0)
    (k : Sim sc o cc nL ret d pc2 ls (aJ (x.tmod y) :: st) m Q) : Sim sc o cc nL ret d pc ls (aJ y :: aJ x :: st) m Q := by
  subst hp
  intro p l e R s mt args below meth c g H locs lsC cells slots Qw hC hP hS hL hK
  have k := k p l e R s mt args below meth c g H locs lsC cells slots Qw hC hP hS hL hK
  refine lv_lrem hC.1 hC.2.1 hd (fun q => hn ((i64_eq hy ⟨by omega, by omega⟩).mp (q.trans (show (0 : Int64) = Int64.ofInt 0 from rfl)))) ?_
  rw [← Int64.ofInt_tdiv (show (-9223372036854775808 : Int) ≤ x from hx.1) (show x ≤ (9223372036854775807 : Int) by omega) (show (-9223372036854775808 : Int) ≤ y from hy.1) (show y ≤ (9223372036854775807 : Int) by omega), ← Int64.ofInt_mul, ← Int64.ofInt_sub, show x - x.tdiv y * y = x.tmod y by have := Int.tmod_add_tdiv_mul x y; omega]
  exact k
theorem x_iand {x y : Int} (hd : decode cc pc = .ok (.iand, 1)) (hp : pc + 1 = pc2) 
    (k : Sim sc o cc nL ret d pc2 ls (aI (a_and x y) :: st) m Q) : Sim sc o cc nL ret d pc ls (aI y :: aI x :: st) m Q := by
  subst hp
  intro p l e R s mt args below meth c g H locs lsC cells slots Qw hC hP hS hL hK
  have k := k p l e R s mt args below meth c g H locs lsC cells slots Qw hC hP hS hL hK
  refine lv_iand hC.1 hC.2.1 hd ?_
  rw [← Int32.ofInt_toInt (Int32.ofInt x &&& Int32.ofInt y)]
  exact k
theorem x_ior {x y : Int} (hd : decode cc pc = .ok (.ior, 1)) (hp : pc + 1 = pc2) 
    (k : Sim sc o cc nL ret d pc2 ls (aI (a_or x y) :: st) m Q) : Sim sc o cc nL ret d pc ls (aI y :: aI x :: st) m Q := by
  subst hp
  intro p l e R s mt args below meth c g H locs lsC cells slots Qw hC hP hS hL hK
  have k := k p l e R s mt args below meth c g H locs lsC cells slots Qw hC hP hS hL hK
  refine lv_ior hC.1 hC.2.1 hd ?_
  rw [← Int32.ofInt_toInt (Int32.ofInt x ||| Int32.ofInt y)]
  exact k
theorem x_ishl {x y : Int} (hd : decode cc pc = .ok (.ishl, 1)) (hp : pc + 1 = pc2) 
    (k : Sim sc o cc nL ret d pc2 ls (aI (a_shl x y) :: st) m Q) : Sim sc o cc nL ret d pc ls (aI y :: aI x :: st) m Q := by
  subst hp
  intro p l e R s mt args below meth c g H locs lsC cells slots Qw hC hP hS hL hK
  have k := k p l e R s mt args below meth c g H locs lsC cells slots Qw hC hP hS hL hK
  refine lv_ishl hC.1 hC.2.1 hd ?_
  rw [← Int32.ofInt_toInt (Int32.ofInt x <<< (Int32.ofInt y &&& 31))]
  exact k
theorem x_ishr {x y : Int} (hd : decode cc pc = .ok (.ishr, 1)) (hp : pc + 1 = pc2) 
    (k : Sim sc o cc nL ret d pc2 ls (aI (a_shr x y) :: st) m Q) : Sim sc o cc nL ret d pc ls (aI y :: aI x :: st) m Q := by
  subst hp
  intro p l e R s mt args below meth c g H locs lsC cells slots Qw hC hP hS hL hK
  have k := k p l e R s mt args below meth c g H locs lsC cells slots Qw hC hP hS hL hK
  refine lv_ishr hC.1 hC.2.1 hd ?_
  rw [← Int32.ofInt_toInt (Int32.ofInt x >>> (Int32.ofInt y &&& 31))]
  exact k
theorem x_iushr {x y : Int} (hd : decode cc pc = .ok (.iushr, 1)) (hp : pc + 1 = pc2) 
    (k : Sim sc o cc nL ret d pc2 ls (aI (a_ushr x y) :: st) m Q) : Sim sc o cc nL ret d pc ls (aI y :: aI x :: st) m Q := by
  subst hp
  intro p l e R s mt args below meth c g H locs lsC cells slots Qw hC hP hS hL hK
  have k := k p l e R s mt args below meth c g H locs lsC cells slots Qw hC hP hS hL hK
  exact lv_iushr hC.1 hC.2.1 hd (Int32.ofInt_toInt _).symm k
theorem x_i2c {x : Int} (hd : decode cc pc = .ok (.i2c, 1)) (hp : pc + 1 = pc2) 
    (k : Sim sc o cc nL ret d pc2 ls (aI (a_i2c x) :: st) m Q) : Sim sc o cc nL ret d pc ls (aI x :: st) m Q := by
  subst hp
  intro p l e R s mt args below meth c g H locs lsC cells slots Qw hC hP hS hL hK
  have k := k p l e R s mt args below meth c g H locs lsC cells slots Qw hC hP hS hL hK
  exact lv_i2c hC.1 hC.2.1 hd (Int32.ofInt_toInt _).symm k
theorem x_land {x y : Int} (hd : decode cc pc = .ok (.land, 1)) (hp : pc + 1 = pc2) 
    (k : Sim sc o cc nL ret d pc2 ls (aJ (a_land x y) :: st) m Q) : Sim sc o cc nL ret d pc ls (aJ y :: aJ x :: st) m Q := by
  subst hp
  intro p l e R s mt args below meth c g H locs lsC cells slots Qw hC hP hS hL hK
  have k := k p l e R s mt args below meth c g H locs lsC cells slots Qw hC hP hS hL hK
  refine lv_land hC.1 hC.2.1 hd ?_
  rw [← Int64.ofInt_toInt (Int64.ofInt x &&& Int64.ofInt y)]
  exact k
theorem x_lor {x y : Int} (hd : decode cc pc = .ok (.lor, 1)) (hp : pc + 1 = pc2) 
    (k : Sim sc o cc nL ret d pc2 ls (aJ (a_lor x y) :: st) m Q) : Sim sc o cc nL ret d pc ls (aJ y :: aJ x :: st) m Q := by
  subst hp
  intro p l e R s mt args below meth c g H locs lsC cells slots Qw hC hP hS hL hK
  have k := k p l e R s mt args below meth c g H locs lsC cells slots Qw hC hP hS hL hK
  refine lv_lor hC.1 hC.2.1 hd ?_
  rw [← Int64.ofInt_toInt (Int64.ofInt x ||| Int64.ofInt y)]
  exact k
theorem x_lxor {x y : Int} (hd : decode cc pc = .ok (.lxor, 1)) (hp : pc + 1 = pc2) 
    (k : Sim sc o cc nL ret d pc2 ls (aJ (a_lxor x y) :: st) m Q) : Sim sc o cc nL ret d pc ls (aJ y :: aJ x :: st) m Q := by
  subst hp
  intro p l e R s mt args below meth c g H locs lsC cells slots Qw hC hP hS hL hK
  have k := k p l e R s mt args below meth c g H locs lsC cells slots Qw hC hP hS hL hK
  refine lv_lxor hC.1 hC.2.1 hd ?_
  rw [← Int64.ofInt_toInt (Int64.ofInt x ^^^ Int64.ofInt y)]
  exact k
theorem x_i2l {x : Int} (hd : decode cc pc = .ok (.i2l, 1)) (hp : pc + 1 = pc2) (hx : -2147483648 ≤ x ∧ x < 2147483648)
    (k : Sim sc o cc nL ret d pc2 ls (aJ x :: st) m Q) : Sim sc o cc nL ret d pc ls (aI x :: st) m Q := by
  subst hp
  intro p l e R s mt args below meth c g H locs lsC cells slots Qw hC hP hS hL hK
  have k := k p l e R s mt args below meth c g H locs lsC cells slots Qw hC hP hS hL hK
  exact lv_i2l hC.1 hC.2.1 hd (Int32.toInt64_ofInt (show (-2147483648 : Int) ≤ x from hx.1) (show x ≤ (2147483647 : Int) by omega)) k
theorem x_l2i {x : Int} (hd : decode cc pc = .ok (.l2i, 1)) (hp : pc + 1 = pc2) 
    (k : Sim sc o cc nL ret d pc2 ls (aI x :: st) m Q) : Sim sc o cc nL ret d pc ls (aJ x :: st) m Q := by
  subst hp
  intro p l e R s mt args below meth c g H locs lsC cells slots Qw hC hP hS hL hK
  have k := k p l e R s mt args below meth c g H locs lsC cells slots Qw hC hP hS hL hK
  exact lv_l2i hC.1 hC.2.1 hd Int64.toInt32_ofInt k
theorem x_lcmp {x y : Int} (hd : decode cc pc = .ok (.lcmp, 1)) (hp : pc + 1 = pc2) (hx : -9223372036854775808 ≤ x ∧ x < 9223372036854775808) (hy : -9223372036854775808 ≤ y ∧ y < 9223372036854775808)
    (k : Sim sc o cc nL ret d pc2 ls (aI (a_cmp x y) :: st) m Q) : Sim sc o cc nL ret d pc ls (aJ y :: aJ x :: st) m Q := by
  subst hp
  intro p l e R s mt args below meth c g H locs lsC cells slots Qw hC hP hS hL hK
  have k := k p l e R s mt args below meth c g H locs lsC cells slots Qw hC hP hS hL hK
  exact W.lcmp hC.1 hC.2.1 hd (by rw [a_cmp_of hx hy]; exact k)
theorem cv_cat (g : Gd) {v : AV} (h : acat v = 1) (hs : ∀ a, v = aR a → 0 ≤ a ∨ a = -1) : (cv g v).category = 1 := by
  rcases v with x | x | x | x
  · rfl
  · simp [acat] at h
  · rcases hs x rfl with q | q
    · rw [cv_R g x q]; rfl
    · subst q; rfl
  · rfl
theorem x_dup_i {x : Int} (hd : decode cc pc = .ok (.dup, 1)) (hp : pc + 1 = pc2) 
    (k : Sim sc o cc nL ret d pc2 ls (aI x :: aI x :: st) m Q) : Sim sc o cc nL ret d pc ls (aI x :: st) m Q := by
  subst hp
  intro p l e R s mt args below meth c g H locs lsC cells slots Qw hC hP hS hL hK
  have k := k p l e R s mt args below meth c g H locs lsC cells slots Qw hC hP hS hL hK
  exact lv_dup hC.1 hC.2.1 hd rfl k
theorem x_dup_r {x : Int} (hd : decode cc pc = .ok (.dup, 1)) (hp : pc + 1 = pc2) (hx : 0 ≤ x)
    (k : Sim sc o cc nL ret d pc2 ls (aR x :: aR x :: st) m Q) : Sim sc o cc nL ret d pc ls (aR x :: st) m Q := by
  subst hp
  intro p l e R s mt args below meth c g H locs lsC cells slots Qw hC hP hS hL hK
  have k := k p l e R s mt args below meth c g H locs lsC cells slots Qw hC hP hS hL hK
  exact lv_dup hC.1 hC.2.1 hd (cv_cat g rfl (fun a h => by cases h; exact Or.inl hx)) k
theorem x_dup2_ri {x y : Int} (hd : decode cc pc = .ok (.dup2, 1)) (hp : pc + 1 = pc2) (hx : 0 ≤ x)
    (k : Sim sc o cc nL ret d pc2 ls (aI y :: aR x :: aI y :: aR x :: st) m Q) : Sim sc o cc nL ret d pc ls (aI y :: aR x :: st) m Q := by
  subst hp
  intro p l e R s mt args below meth c g H locs lsC cells slots Qw hC hP hS hL hK
  have k := k p l e R s mt args below meth c g H locs lsC cells slots Qw hC hP hS hL hK
  exact lv_dup2_11 hC.1 hC.2.1 hd rfl (cv_cat g rfl (fun a h => by cases h; exact Or.inl hx)) k
theorem x_pop_i {x : Int} (hd : decode cc pc = .ok (.pop, 1)) (hp : pc + 1 = pc2) 
    (k : Sim sc o cc nL ret d pc2 ls st m Q) : Sim sc o cc nL ret d pc ls (aI x :: st) m Q := by
  subst hp
  intro p l e R s mt args below meth c g H locs lsC cells slots Qw hC hP hS hL hK
  have k := k p l e R s mt args below meth c g H locs lsC cells slots Qw hC hP hS hL hK
  exact lv_pop hC.1 hC.2.1 hd rfl k
theorem x_dup2_j {x : Int} (hd : decode cc pc = .ok (.dup2, 1)) (hp : pc + 1 = pc2) 
    (k : Sim sc o cc nL ret d pc2 ls (aJ x :: aJ x :: st) m Q) : Sim sc o cc nL ret d pc ls (aJ x :: st) m Q := by
  subst hp
  intro p l e R s mt args below meth c g H locs lsC cells slots Qw hC hP hS hL hK
  have k := k p l e R s mt args below meth c g H locs lsC cells slots Qw hC hP hS hL hK
  exact lv_dup2_2 hC.1 hC.2.1 hd rfl k
theorem x_iload_n {n : Fin 4} {x : Int} (hd : decode cc pc = .ok (.iload_n n, 1)) (hp : pc + 1 = pc2) (hl : ls[(n : Nat)]? = some (aI x))
    (k : Sim sc o cc nL ret d pc2 ls (aI x :: st) m Q) : Sim sc o cc nL ret d pc ls st m Q := by
  subst hp
  intro p l e R s mt args below meth c g H locs lsC cells slots Qw hC hP hS hL hK
  have k := k p l e R s mt args below meth c g H locs lsC cells slots Qw hC hP hS hL hK
  exact lv_iload_n hC.1 hC.2.1 hd rfl (hL.2.2.2 _ _ hl (by simp)) k
theorem x_iload {n : Nat} {x : Int} (hd : decode cc pc = .ok (.iload n, 2)) (hp : pc + 2 = pc2) (hl : ls[n]? = some (aI x))
    (k : Sim sc o cc nL ret d pc2 ls (aI x :: st) m Q) : Sim sc o cc nL ret d pc ls st m Q := by
  subst hp
  intro p l e R s mt args below meth c g H locs lsC cells slots Qw hC hP hS hL hK
  have k := k p l e R s mt args below meth c g H locs lsC cells slots Qw hC hP hS hL hK
  exact lv_iload hC.1 hC.2.1 hd (hL.2.2.2 _ _ hl (by simp)) k
theorem x_lload_n {n : Fin 4} {x : Int} (hd : decode cc pc = .ok (.lload_n n, 1)) (hp : pc + 1 = pc2) (hl : ls[(n : Nat)]? = some (aJ x))
    (k : Sim sc o cc nL ret d pc2 ls (aJ x :: st) m Q) : Sim sc o cc nL ret d pc ls st m Q := by
  subst hp
  intro p l e R s mt args below meth c g H locs lsC cells slots Qw hC hP hS hL hK
  have k := k p l e R s mt args below meth c g H locs lsC cells slots Qw hC hP hS hL hK
  exact lv_lload_n hC.1 hC.2.1 hd rfl (hL.2.2.2 _ _ hl (by simp)) k
theorem x_lload {n : Nat} {x : Int} (hd : decode cc pc = .ok (.lload n, 2)) (hp : pc + 2 = pc2) (hl : ls[n]? = some (aJ x))
    (k : Sim sc o cc nL ret d pc2 ls (aJ x :: st) m Q) : Sim sc o cc nL ret d pc ls st m Q := by
  subst hp
  intro p l e R s mt args below meth c g H locs lsC cells slots Qw hC hP hS hL hK
  have k := k p l e R s mt args below meth c g H locs lsC cells slots Qw hC hP hS hL hK
  exact lv_lload hC.1 hC.2.1 hd (hL.2.2.2 _ _ hl (by simp)) k
theorem x_aload_n {n : Fin 4} {x : Int} (hd : decode cc pc = .ok (.aload_n n, 1)) (hp : pc + 1 = pc2) (hl : ls[(n : Nat)]? = some (aR x))
    (k : Sim sc o cc nL ret d pc2 ls (aR x :: st) m Q) : Sim sc o cc nL ret d pc ls st m Q := by
  subst hp
  intro p l e R s mt args below meth c g H locs lsC cells slots Qw hC hP hS hL hK
  have k := k p l e R s mt args below meth c g H locs lsC cells slots Qw hC hP hS hL hK
  have hv := hL.2.2.2 _ _ hl (by simp)
  have h9 := hC.2.2.2.2.2.2.2.2.1.2.2.2.2.1.2.2
  have cx : cv g (aR x) = .null ∨ ∃ a : Nat, cv g (aR x) = .ref a := by
    show (if x = -1 then Value.null else if x = -8 then g.2.2.1 else .ref (gad g x)) = _ ∨ ∃ a : Nat, (if x = -1 then Value.null else if x = -8 then g.2.2.1 else .ref (gad g x)) = _
    by_cases h1 : x = -1
    · rw [if_pos h1]; exact Or.inl rfl
    · rw [if_neg h1]
      by_cases h2 : x = -8
      · rw [if_pos h2]; exact h9
      · rw [if_neg h2]; exact Or.inr ⟨_, rfl⟩
  have k : W p l e R s mt args below meth c H locs cells slots Qw (F0 mt (pc + 1) lsC (cv g (aR x) :: st.map (cv g))) := k
  rcases cx with h | ⟨a, h⟩
  · rw [h] at hv k; exact lv_aload_nN hC.1 hC.2.1 hd rfl hv k
  · rw [h] at hv k; exact lv_aload_n hC.1 hC.2.1 hd rfl hv k
theorem x_aload {n : Nat} {x : Int} (hd : decode cc pc = .ok (.aload n, 2)) (hp : pc + 2 = pc2) (hl : ls[n]? = some (aR x)) (hx : 0 ≤ x)
    (k : Sim sc o cc nL ret d pc2 ls (aR x :: st) m Q) : Sim sc o cc nL ret d pc ls st m Q := by
  subst hp
  intro p l e R s mt args below meth c g H locs lsC cells slots Qw hC hP hS hL hK
  have k := k p l e R s mt args below meth c g H locs lsC cells slots Qw hC hP hS hL hK
  have hv := hL.2.2.2 _ _ hl (by simp)
  have k : W p l e R s mt args below meth c H locs cells slots Qw (F0 mt (pc + 2) lsC (cv g (aR x) :: st.map (cv g))) := k
  rw [cv_R g x hx] at hv k
  exact lv_aload hC.1 hC.2.1 hd hv k
def isJ (v : AV) : Bool := match v with
  | .inr (.inl _) => true
  | _ => false
def lset (ls : List AV) (i : Nat) (v : AV) : List AV := (match i with
  | 0 => ls
  | k + 1 => if isJ (ls.getD k aU) = true then ls.set k aU else ls).set i v
def lset2 (ls : List AV) (i : Nat) (v : AV) : List AV := (lset ls i v).set (i + 1) aU
def lvl (g : Gd) (ls : List AV) : List (Nat × Value) := (List.range ls.length).filterMap (fun i => if ls.getD i aU = aU then none else some (i, cv g (ls.getD i aU)))
theorem lvl_in (g : Gd) {ls : List AV} {i : Nat} {v : AV} (h : ls[i]? = some v) (hv : v ≠ aU) : (i, cv g v) ∈ lvl g ls := by
  have hi : i < ls.length := (List.getElem?_eq_some_iff.mp h).1
  refine List.mem_filterMap.mpr ⟨i, List.mem_range.mpr hi, ?_⟩
  rw [List.getD_eq_getElem?_getD, h]
  exact if_neg hv
theorem lvl_of (g : Gd) {ls : List AV} {q : Nat × Value} (h : q ∈ lvl g ls) : ∃ v, ls[q.1]? = some v ∧ v ≠ aU ∧ q.2 = cv g v := by
  obtain ⟨i, hi, h2⟩ := List.mem_filterMap.mp h
  have hi := List.mem_range.mp hi
  by_cases hu : ls.getD i aU = aU
  · rw [if_pos hu] at h2; cases h2
  · rw [if_neg hu] at h2
    cases h2
    have e : ls[i]? = some (ls.getD i aU) := by rw [List.getD_eq_getElem?_getD, List.getElem?_eq_getElem hi]; rfl
    exact ⟨_, e, hu, rfl⟩
theorem Lok.has {g : Gd} {lsC : Array Slot} {nL : Nat} {ls : List AV} (h : Lok g lsC nL ls) : lv_has lsC nL (lvl g ls) := by
  refine ⟨h.1, h.2.1, fun q hq => ?_⟩
  obtain ⟨v, h1, h2, h3⟩ := lvl_of g hq
  rw [h3]
  exact h.2.2.2 _ _ h1 h2
theorem lset_len (ls : List AV) (i : Nat) (v : AV) : (lset ls i v).length = ls.length := by
  unfold lset
  rw [List.length_set]
  cases i with
  | zero => rfl
  | succ k =>
    show (if isJ (ls.getD k aU) = true then ls.set k aU else ls).length = _
    by_cases h : isJ (ls.getD k aU) = true
    · rw [if_pos h, List.length_set]
    · rw [if_neg h]
theorem cv_c2 (g : Gd) {v : AV} (h : (cv g v).category = 2) (h8 : ∀ a, v = aR a → (cv g v).category = 1) : isJ v = true := by
  rcases v with x | x | x | x
  · cases h
  · rfl
  · have := h8 x rfl
    omega
  · cases h
theorem lset_at {ls : List AV} {i j : Nat} {v w : AV} (h : (lset ls i v)[j]? = some w) (hw : w ≠ aU) (hj : j ≠ i) : ls[j]? = some w ∧ ¬ (j + 1 = i ∧ isJ w = true) := by
  unfold lset at h
  rw [List.getElem?_set_ne (fun e => hj e.symm)] at h
  cases i with
  | zero => exact ⟨h, fun q => by omega⟩
  | succ k =>
    replace h : (if isJ (ls.getD k aU) = true then ls.set k aU else ls)[j]? = some w := h
    by_cases hk : isJ (ls.getD k aU) = true
    · rw [if_pos hk] at h
      by_cases e : j = k
      · subst e
        have hl : j < ls.length := by
          have := (List.getElem?_eq_some_iff.mp h).1
          simpa using this
        rw [List.getElem?_set_self hl] at h
        exact absurd (Option.some.inj h).symm hw
      · rw [List.getElem?_set_ne (fun q => e q.symm)] at h
        exact ⟨h, fun q => e (by omega)⟩
    · rw [if_neg hk] at h
      refine ⟨h, fun q => ?_⟩
      have e : j = k := by omega
      subst e
      rw [List.getD_eq_getElem?_getD, h] at hk
      exact hk q.2
theorem cv_catR (sc : List Int) {g : Gd} {s : State} (h : Ext sc g s) (a : Int) : (cv g (aR a)).category = 1 := by
  have h9 := h.2.2.2.2.1.2.2
  show (if a = -1 then Value.null else if a = -8 then g.2.2.1 else .ref (gad g a)).category = 1
  by_cases h1 : a = -1
  · rw [if_pos h1]; rfl
  · rw [if_neg h1]
    by_cases h2 : a = -8
    · rw [if_pos h2]
      rcases h9 with q | ⟨t, q⟩ <;> (rw [q]; rfl)
    · rw [if_neg h2]; rfl
/-- behind a store of one slot -/
theorem Lok.st1 {sc : List Int} {s : State} {g : Gd} {nL i : Nat} {ls : List AV} {v : AV} {lsC ls' : Array Slot} (hE : Ext sc g s) (hL : Lok g lsC nL ls) (hi : i < nL) (h : lv_has ls' nL ((i, cv g v) :: (lvl g ls).filter (fun q => !(q.1 == i) && !(q.1 + 1 == i && q.2.category == 2)))) : Lok g ls' nL (lset ls i v) := by
  refine ⟨h.1, h.2.1, by rw [lset_len]; exact hL.2.2.1, fun j w hw hu => ?_⟩
  by_cases hj : j = i
  · subst hj
    have hl : j < (lset ls j v).length := by rw [lset_len, hL.2.2.1]; exact hi
    have e : w = v := by
      unfold lset at hw hl
      rw [List.getElem?_set_self (by simpa using hl)] at hw
      exact (Option.some.inj hw).symm
    rw [e]
    exact h.2.2 (j, cv g v) List.mem_cons_self
  · obtain ⟨h1, h2⟩ := lset_at hw hu hj
    refine h.2.2 (j, cv g w) (List.mem_cons_of_mem _ (List.mem_filter.mpr ⟨lvl_in g h1 hu, ?_⟩))
    simp only [Bool.and_eq_true, Bool.not_eq_true', beq_eq_false_iff_ne, ne_eq, Bool.and_eq_false_iff]
    refine ⟨hj, ?_⟩
    by_cases e : j + 1 = i
    · right
      intro q
      exact h2 ⟨e, cv_c2 g q (fun a ha => by rw [ha]; exact cv_catR sc hE a)⟩
    · left; exact e
theorem Lok.st2 {sc : List Int} {s : State} {g : Gd} {nL i : Nat} {ls : List AV} {v : AV} {lsC ls' : Array Slot} (hE : Ext sc g s) (hL : Lok g lsC nL ls) (hi : i < nL) (h : lv_has ls' nL ((i, cv g v) :: (lvl g ls).filter (fun q => !(q.1 == i) && (!(q.1 == i + 1) && !(q.1 + 1 == i && q.2.category == 2))))) : Lok g ls' nL (lset2 ls i v) := by
  refine ⟨h.1, h.2.1, by unfold lset2; rw [List.length_set, lset_len]; exact hL.2.2.1, fun j w hw hu => ?_⟩
  have hw1 : j ≠ i + 1 ∧ (lset ls i v)[j]? = some w := by
    unfold lset2 at hw
    by_cases e : j = i + 1
    · subst e
      have hl : i + 1 < (lset ls i v).length := by
        have := (List.getElem?_eq_some_iff.mp hw).1
        simpa using this
      rw [List.getElem?_set_self hl] at hw
      exact absurd (Option.some.inj hw).symm hu
    · rw [List.getElem?_set_ne (fun q => e q.symm)] at hw
      exact ⟨e, hw⟩
  obtain ⟨hne, hw⟩ := hw1
  by_cases hj : j = i
  · subst hj
    have hl : j < (lset ls j v).length := by rw [lset_len, hL.2.2.1]; exact hi
    have e : w = v := by
      unfold lset at hw hl
      rw [List.getElem?_set_self (by simpa using hl)] at hw
      exact (Option.some.inj hw).symm
    rw [e]
    exact h.2.2 (j, cv g v) List.mem_cons_self
  · obtain ⟨h1, h2⟩ := lset_at hw hu hj
    refine h.2.2 (j, cv g w) (List.mem_cons_of_mem _ (List.mem_filter.mpr ⟨lvl_in g h1 hu, ?_⟩))
    simp only [Bool.and_eq_true, Bool.not_eq_true', beq_eq_false_iff_ne, ne_eq, Bool.and_eq_false_iff]
    refine ⟨hj, hne, ?_⟩
    by_cases e : j + 1 = i
    · right
      intro q
      exact h2 ⟨e, cv_c2 g q (fun a ha => by rw [ha]; exact cv_catR sc hE a)⟩
    · left; exact e
theorem x_istore_n {n : Fin 4} {x : Int} {ls2 : List AV} (hd : decode cc pc = .ok (.istore_n n, 1)) (hp : pc + 1 = pc2) (hi : (n : Nat) < nL) (hl : lset ls n (aI x) = ls2)
    (k : Sim sc o cc nL ret d pc2 ls2 st m Q) : Sim sc o cc nL ret d pc ls (aI x :: st) m Q := by
  subst hp
  subst hl
  intro p l e R s mt args below meth c g H locs lsC cells slots Qw hC hP hS hL hK
  refine lv_istore_n hC.1 hC.2.1 hd rfl hL.has hi rfl (fun ls' h' => ?_)
  exact k p l e R s mt args below meth c g H locs ls' cells slots Qw hC hP hS (Lok.st1 hC.2.2.2.2.2.2.2.2.1 hL hi h') hK
theorem x_istore {n : Nat} {x : Int} {ls2 : List AV} (hd : decode cc pc = .ok (.istore n, 2)) (hp : pc + 2 = pc2) (hi : (n : Nat) < nL) (hl : lset ls n (aI x) = ls2)
    (k : Sim sc o cc nL ret d pc2 ls2 st m Q) : Sim sc o cc nL ret d pc ls (aI x :: st) m Q := by
  subst hp
  subst hl
  intro p l e R s mt args below meth c g H locs lsC cells slots Qw hC hP hS hL hK
  refine lv_istore hC.1 hC.2.1 hd hL.has hi rfl (fun ls' h' => ?_)
  exact k p l e R s mt args below meth c g H locs ls' cells slots Qw hC hP hS (Lok.st1 hC.2.2.2.2.2.2.2.2.1 hL hi h') hK
theorem x_lstore_n {n : Fin 4} {x : Int} {ls2 : List AV} (hd : decode cc pc = .ok (.lstore_n n, 1)) (hp : pc + 1 = pc2) (hi : (n : Nat) + 1 < nL) (hl : lset2 ls n (aJ x) = ls2)
    (k : Sim sc o cc nL ret d pc2 ls2 st m Q) : Sim sc o cc nL ret d pc ls (aJ x :: st) m Q := by
  subst hp
  subst hl
  intro p l e R s mt args below meth c g H locs lsC cells slots Qw hC hP hS hL hK
  refine lv_lstore_n hC.1 hC.2.1 hd rfl hL.has hi rfl (fun ls' h' => ?_)
  exact k p l e R s mt args below meth c g H locs ls' cells slots Qw hC hP hS (Lok.st2 hC.2.2.2.2.2.2.2.2.1 hL (by omega) h') hK
theorem x_lstore {n : Nat} {x : Int} {ls2 : List AV} (hd : decode cc pc = .ok (.lstore n, 2)) (hp : pc + 2 = pc2) (hi : n + 1 < nL) (hl : lset2 ls n (aJ x) = ls2)
    (k : Sim sc o cc nL ret d pc2 ls2 st m Q) : Sim sc o cc nL ret d pc ls (aJ x :: st) m Q := by
  subst hp
  subst hl
  intro p l e R s mt args below meth c g H locs lsC cells slots Qw hC hP hS hL hK
  refine lv_lstore hC.1 hC.2.1 hd hL.has hi rfl (fun ls' h' => ?_)
  exact k p l e R s mt args below meth c g H locs ls' cells slots Qw hC hP hS (Lok.st2 hC.2.2.2.2.2.2.2.2.1 hL (by omega) h') hK
theorem x_astore_n {n : Fin 4} {x : Int} {ls2 : List AV} (hd : decode cc pc = .ok (.astore_n n, 1)) (hp : pc + 1 = pc2) (hi : (n : Nat) < nL) (hl : lset ls n (aR x) = ls2) (hx : 0 ≤ x)
    (k : Sim sc o cc nL ret d pc2 ls2 st m Q) : Sim sc o cc nL ret d pc ls (aR x :: st) m Q := by
  subst hp
  subst hl
  intro p l e R s mt args below meth c g H locs lsC cells slots Qw hC hP hS hL hK
  show W p l e R s mt args below meth c H locs cells slots Qw (F0 mt pc lsC (cv g (aR x) :: st.map (cv g)))
  rw [cv_R g x hx]
  refine lv_astore_n hC.1 hC.2.1 hd rfl hL.has hi rfl (fun ls' h' => ?_)
  exact k p l e R s mt args below meth c g H locs ls' cells slots Qw hC hP hS (Lok.st1 (v := aR x) hC.2.2.2.2.2.2.2.2.1 hL hi (by rw [cv_R g x hx]; exact h')) hK
theorem x_astore {n : Nat} {x : Int} {ls2 : List AV} (hd : decode cc pc = .ok (.astore n, 2)) (hp : pc + 2 = pc2) (hi : (n : Nat) < nL) (hl : lset ls n (aR x) = ls2) (hx : 0 ≤ x)
    (k : Sim sc o cc nL ret d pc2 ls2 st m Q) : Sim sc o cc nL ret d pc ls (aR x :: st) m Q := by
  subst hp
  subst hl
  intro p l e R s mt args below meth c g H locs lsC cells slots Qw hC hP hS hL hK
  show W p l e R s mt args below meth c H locs cells slots Qw (F0 mt pc lsC (cv g (aR x) :: st.map (cv g)))
  rw [cv_R g x hx]
  refine lv_astore hC.1 hC.2.1 hd hL.has hi rfl (fun ls' h' => ?_)
  exact k p l e R s mt args below meth c g H locs ls' cells slots Qw hC hP hS (Lok.st1 (v := aR x) hC.2.2.2.2.2.2.2.2.1 hL hi (by rw [cv_R g x hx]; exact h')) hK
theorem x_iinc {n : Nat} {z x : Int} {ls2 : List AV} (hd : decode cc pc = .ok (.iinc n z, 3)) (hp : pc + 3 = pc2) (hl0 : ls[n]? = some (aI x)) (hi : n < nL) (hl : lset ls n (aI (x + z)) = ls2)
    (k : Sim sc o cc nL ret d pc2 ls2 st m Q) : Sim sc o cc nL ret d pc ls st m Q := by
  subst hp
  subst hl
  intro p l e R s mt args below meth c g H locs lsC cells slots Qw hC hP hS hL hK
  obtain ⟨k0, hk0⟩ := List.getElem?_of_mem (lvl_in g hl0 (by simp))
  refine lv_iinc hC.1 hC.2.1 hd hL.has hk0 (v := Int32.ofInt (x + z)) (by rw [Int32.ofInt_add]) hi rfl (fun ls' h' => ?_)
  exact k p l e R s mt args below meth c g H locs ls' cells slots Qw hC hP hS (Lok.st1 (v := aI (x + z)) hC.2.2.2.2.2.2.2.2.1 hL hi h') hK
theorem x_icmp_eq {off : Int} {tgt : Nat} {x y : Int} (hd : decode cc pc = .ok (.if_icmp .eq off, 3)) (ht : (pc : Int) + off = (tgt : Int)) (hp : pc + 3 = pc2) (hx : -2147483648 ≤ x ∧ x < 2147483648) (hy : -2147483648 ≤ y ∧ y < 2147483648)
    (k1 : x = y → Sim sc o cc nL ret d tgt ls st m Q) (k2 : ¬ (x = y) → Sim sc o cc nL ret d pc2 ls st m Q) : Sim sc o cc nL ret d pc ls (aI y :: aI x :: st) m Q := by
  subst hp
  intro p l e R s mt args below meth c g H locs lsC cells slots Qw hC hP hS hL hK
  have hq := i32_eq hx hy
  refine lv_icmp_eq hC.1 hC.2.1 hd ht (fun q => ?_) (fun q => ?_)
  · exact k1 (hq.mp q) p l e R s mt args below meth c g H locs lsC cells slots Qw hC hP hS hL hK
  · exact k2 (fun e => q (hq.mpr e)) p l e R s mt args below meth c g H locs lsC cells slots Qw hC hP hS hL hK
theorem x_if_eq {off : Int} {tgt : Nat} {x : Int} (hd : decode cc pc = .ok (.ifCond .eq off, 3)) (ht : (pc : Int) + off = (tgt : Int)) (hp : pc + 3 = pc2) (hx : -2147483648 ≤ x ∧ x < 2147483648)
    (k1 : x = 0 → Sim sc o cc nL ret d tgt ls st m Q) (k2 : ¬ (x = 0) → Sim sc o cc nL ret d pc2 ls st m Q) : Sim sc o cc nL ret d pc ls (aI x :: st) m Q := by
  subst hp
  intro p l e R s mt args below meth c g H locs lsC cells slots Qw hC hP hS hL hK
  have hq := i32_eq hx (show -2147483648 ≤ (0 : Int) ∧ (0 : Int) < 2147483648 from ⟨by omega, by omega⟩)
  rw [← i32_0] at hq
  refine lv_if_eq hC.1 hC.2.1 hd ht (fun q => ?_) (fun q => ?_)
  · exact k1 (hq.mp q) p l e R s mt args below meth c g H locs lsC cells slots Qw hC hP hS hL hK
  · exact k2 (fun e => q (hq.mpr e)) p l e R s mt args below meth c g H locs lsC cells slots Qw hC hP hS hL hK
theorem x_icmp_ne {off : Int} {tgt : Nat} {x y : Int} (hd : decode cc pc = .ok (.if_icmp .ne off, 3)) (ht : (pc : Int) + off = (tgt : Int)) (hp : pc + 3 = pc2) (hx : -2147483648 ≤ x ∧ x < 2147483648) (hy : -2147483648 ≤ y ∧ y < 2147483648)
    (k1 : x ≠ y → Sim sc o cc nL ret d tgt ls st m Q) (k2 : ¬ (x ≠ y) → Sim sc o cc nL ret d pc2 ls st m Q) : Sim sc o cc nL ret d pc ls (aI y :: aI x :: st) m Q := by
  subst hp
  intro p l e R s mt args below meth c g H locs lsC cells slots Qw hC hP hS hL hK
  have hq := i32_eq hx hy
  refine lv_icmp_ne hC.1 hC.2.1 hd ht (fun q => ?_) (fun q => ?_)
  · exact k1 (fun e => q (hq.mpr e)) p l e R s mt args below meth c g H locs lsC cells slots Qw hC hP hS hL hK
  · exact k2 (fun e => e (hq.mp q)) p l e R s mt args below meth c g H locs lsC cells slots Qw hC hP hS hL hK
theorem x_if_ne {off : Int} {tgt : Nat} {x : Int} (hd : decode cc pc = .ok (.ifCond .ne off, 3)) (ht : (pc : Int) + off = (tgt : Int)) (hp : pc + 3 = pc2) (hx : -2147483648 ≤ x ∧ x < 2147483648)
    (k1 : x ≠ 0 → Sim sc o cc nL ret d tgt ls st m Q) (k2 : ¬ (x ≠ 0) → Sim sc o cc nL ret d pc2 ls st m Q) : Sim sc o cc nL ret d pc ls (aI x :: st) m Q := by
  subst hp
  intro p l e R s mt args below meth c g H locs lsC cells slots Qw hC hP hS hL hK
  have hq := i32_eq hx (show -2147483648 ≤ (0 : Int) ∧ (0 : Int) < 2147483648 from ⟨by omega, by omega⟩)
  rw [← i32_0] at hq
  refine lv_if_ne hC.1 hC.2.1 hd ht (fun q => ?_) (fun q => ?_)
  · exact k1 (fun e => q (hq.mpr e)) p l e R s mt args below meth c g H locs lsC cells slots Qw hC hP hS hL hK
  · exact k2 (fun e => e (hq.mp q)) p l e R s mt args below meth c g H locs lsC cells slots Qw hC hP hS hL hK
theorem x_icmp_lt {off : Int} {tgt : Nat} {x y : Int} (hd : decode cc pc = .ok (.if_icmp .lt off, 3)) (ht : (pc : Int) + off = (tgt : Int)) (hp : pc + 3 = pc2) (hx : -2147483648 ≤ x ∧ x < 2147483648) (hy : -2147483648 ≤ y ∧ y < 2147483648)
    (k1 : x < y → Sim sc o cc nL ret d tgt ls st m Q) (k2 : ¬ (x < y) → Sim sc o cc nL ret d pc2 ls st m Q) : Sim sc o cc nL ret d pc ls (aI y :: aI x :: st) m Q := by
  subst hp
  intro p l e R s mt args below meth c g H locs lsC cells slots Qw hC hP hS hL hK
  have hq := i32_lt hx hy
  refine lv_icmp_lt hC.1 hC.2.1 hd ht (fun q => ?_) (fun q => ?_)
  · exact k1 (hq.mp q) p l e R s mt args below meth c g H locs lsC cells slots Qw hC hP hS hL hK
  · exact k2 (fun e => q (hq.mpr e)) p l e R s mt args below meth c g H locs lsC cells slots Qw hC hP hS hL hK
theorem x_if_lt {off : Int} {tgt : Nat} {x : Int} (hd : decode cc pc = .ok (.ifCond .lt off, 3)) (ht : (pc : Int) + off = (tgt : Int)) (hp : pc + 3 = pc2) (hx : -2147483648 ≤ x ∧ x < 2147483648)
    (k1 : x < 0 → Sim sc o cc nL ret d tgt ls st m Q) (k2 : ¬ (x < 0) → Sim sc o cc nL ret d pc2 ls st m Q) : Sim sc o cc nL ret d pc ls (aI x :: st) m Q := by
  subst hp
  intro p l e R s mt args below meth c g H locs lsC cells slots Qw hC hP hS hL hK
  have hq := i32_lt hx (show -2147483648 ≤ (0 : Int) ∧ (0 : Int) < 2147483648 from ⟨by omega, by omega⟩)
  rw [← i32_0] at hq
  refine lv_if_lt hC.1 hC.2.1 hd ht (fun q => ?_) (fun q => ?_)
  · exact k1 (hq.mp q) p l e R s mt args below meth c g H locs lsC cells slots Qw hC hP hS hL hK
  · exact k2 (fun e => q (hq.mpr e)) p l e R s mt args below meth c g H locs lsC cells slots Qw hC hP hS hL hK
theorem x_icmp_ge {off : Int} {tgt : Nat} {x y : Int} (hd : decode cc pc = .ok (.if_icmp .ge off, 3)) (ht : (pc : Int) + off = (tgt : Int)) (hp : pc + 3 = pc2) (hx : -2147483648 ≤ x ∧ x < 2147483648) (hy : -2147483648 ≤ y ∧ y < 2147483648)
    (k1 : y ≤ x → Sim sc o cc nL ret d tgt ls st m Q) (k2 : ¬ (y ≤ x) → Sim sc o cc nL ret d pc2 ls st m Q) : Sim sc o cc nL ret d pc ls (aI y :: aI x :: st) m Q := by
  subst hp
  intro p l e R s mt args below meth c g H locs lsC cells slots Qw hC hP hS hL hK
  have hq := i32_le hy hx
  refine lv_icmp_ge hC.1 hC.2.1 hd ht (fun q => ?_) (fun q => ?_)
  · exact k1 (hq.mp q) p l e R s mt args below meth c g H locs lsC cells slots Qw hC hP hS hL hK
  · exact k2 (fun e => q (hq.mpr e)) p l e R s mt args below meth c g H locs lsC cells slots Qw hC hP hS hL hK
theorem x_if_ge {off : Int} {tgt : Nat} {x : Int} (hd : decode cc pc = .ok (.ifCond .ge off, 3)) (ht : (pc : Int) + off = (tgt : Int)) (hp : pc + 3 = pc2) (hx : -2147483648 ≤ x ∧ x < 2147483648)
    (k1 : 0 ≤ x → Sim sc o cc nL ret d tgt ls st m Q) (k2 : ¬ (0 ≤ x) → Sim sc o cc nL ret d pc2 ls st m Q) : Sim sc o cc nL ret d pc ls (aI x :: st) m Q := by
  subst hp
  intro p l e R s mt args below meth c g H locs lsC cells slots Qw hC hP hS hL hK
  have hq := i32_le (show -2147483648 ≤ (0 : Int) ∧ (0 : Int) < 2147483648 from ⟨by omega, by omega⟩) hx
  rw [← i32_0] at hq
  refine lv_if_ge hC.1 hC.2.1 hd ht (fun q => ?_) (fun q => ?_)
  · exact k1 (hq.mp q) p l e R s mt args below meth c g H locs lsC cells slots Qw hC hP hS hL hK
  · exact k2 (fun e => q (hq.mpr e)) p l e R s mt args below meth c g H locs lsC cells slots Qw hC hP hS hL hK
theorem x_icmp_gt {off : Int} {tgt : Nat} {x y : Int} (hd : decode cc pc = .ok (.if_icmp .gt off, 3)) (ht : (pc : Int) + off = (tgt : Int)) (hp : pc + 3 = pc2) (hx : -2147483648 ≤ x ∧ x < 2147483648) (hy : -2147483648 ≤ y ∧ y < 2147483648)
    (k1 : y < x → Sim sc o cc nL ret d tgt ls st m Q) (k2 : ¬ (y < x) → Sim sc o cc nL ret d pc2 ls st m Q) : Sim sc o cc nL ret d pc ls (aI y :: aI x :: st) m Q := by
  subst hp
  intro p l e R s mt args below meth c g H locs lsC cells slots Qw hC hP hS hL hK
  have hq := i32_lt hy hx
  refine lv_icmp_gt hC.1 hC.2.1 hd ht (fun q => ?_) (fun q => ?_)
  · exact k1 (hq.mp q) p l e R s mt args below meth c g H locs lsC cells slots Qw hC hP hS hL hK
  · exact k2 (fun e => q (hq.mpr e)) p l e R s mt args below meth c g H locs lsC cells slots Qw hC hP hS hL hK
theorem x_if_gt {off : Int} {tgt : Nat} {x : Int} (hd : decode cc pc = .ok (.ifCond .gt off, 3)) (ht : (pc : Int) + off = (tgt : Int)) (hp : pc + 3 = pc2) (hx : -2147483648 ≤ x ∧ x < 2147483648)
    (k1 : 0 < x → Sim sc o cc nL ret d tgt ls st m Q) (k2 : ¬ (0 < x) → Sim sc o cc nL ret d pc2 ls st m Q) : Sim sc o cc nL ret d pc ls (aI x :: st) m Q := by
  subst hp
  intro p l e R s mt args below meth c g H locs lsC cells slots Qw hC hP hS hL hK
  have hq := i32_lt (show -2147483648 ≤ (0 : Int) ∧ (0 : Int) < 2147483648 from ⟨by omega, by omega⟩) hx
  rw [← i32_0] at hq
  refine lv_if_gt hC.1 hC.2.1 hd ht (fun q => ?_) (fun q => ?_)
  · exact k1 (hq.mp q) p l e R s mt args below meth c g H locs lsC cells slots Qw hC hP hS hL hK
  · exact k2 (fun e => q (hq.mpr e)) p l e R s mt args below meth c g H locs lsC cells slots Qw hC hP hS hL hK
theorem x_icmp_le {off : Int} {tgt : Nat} {x y : Int} (hd : decode cc pc = .ok (.if_icmp .le off, 3)) (ht : (pc : Int) + off = (tgt : Int)) (hp : pc + 3 = pc2) (hx : -2147483648 ≤ x ∧ x < 2147483648) (hy : -2147483648 ≤ y ∧ y < 2147483648)
    (k1 : x ≤ y → Sim sc o cc nL ret d tgt ls st m Q) (k2 : ¬ (x ≤ y) → Sim sc o cc nL ret d pc2 ls st m Q) : Sim sc o cc nL ret d pc ls (aI y :: aI x :: st) m Q := by
  subst hp
  intro p l e R s mt args below meth c g H locs lsC cells slots Qw hC hP hS hL hK
  have hq := i32_le hx hy
  refine lv_icmp_le hC.1 hC.2.1 hd ht (fun q => ?_) (fun q => ?_)
  · exact k1 (hq.mp q) p l e R s mt args below meth c g H locs lsC cells slots Qw hC hP hS hL hK
  · exact k2 (fun e => q (hq.mpr e)) p l e R s mt args below meth c g H locs lsC cells slots Qw hC hP hS hL hK
theorem x_if_le {off : Int} {tgt : Nat} {x : Int} (hd : decode cc pc = .ok (.ifCond .le off, 3)) (ht : (pc : Int) + off = (tgt : Int)) (hp : pc + 3 = pc2) (hx : -2147483648 ≤ x ∧ x < 2147483648)
    (k1 : x ≤ 0 → Sim sc o cc nL ret d tgt ls st m Q) (k2 : ¬ (x ≤ 0) → Sim sc o cc nL ret d pc2 ls st m Q) : Sim sc o cc nL ret d pc ls (aI x :: st) m Q := by
  subst hp
  intro p l e R s mt args below meth c g H locs lsC cells slots Qw hC hP hS hL hK
  have hq := i32_le hx (show -2147483648 ≤ (0 : Int) ∧ (0 : Int) < 2147483648 from ⟨by omega, by omega⟩)
  rw [← i32_0] at hq
  refine lv_if_le hC.1 hC.2.1 hd ht (fun q => ?_) (fun q => ?_)
  · exact k1 (hq.mp q) p l e R s mt args below meth c g H locs lsC cells slots Qw hC hP hS hL hK
  · exact k2 (fun e => q (hq.mpr e)) p l e R s mt args below meth c g H locs lsC cells slots Qw hC hP hS hL hK
theorem x_goto {off : Int} {tgt : Nat} (hd : decode cc pc = .ok (.goto off, 3)) (ht : (pc : Int) + off = (tgt : Int))
    (k : Sim sc o cc nL ret d tgt ls st m Q) : Sim sc o cc nL ret d pc ls st m Q := by
  intro p l e R s mt args below meth c g H locs lsC cells slots Qw hC hP hS hL hK
  exact lv_goto hC.1 hC.2.1 hd ht (k p l e R s mt args below meth c g H locs lsC cells slots Qw hC hP hS hL hK)
theorem x_acmp_ne {off : Int} {tgt : Nat} {x y : Int} (hd : decode cc pc = .ok (.if_acmp .ne off, 3)) (ht : (pc : Int) + off = (tgt : Int)) (hp : pc + 3 = pc2) (hx : 0 ≤ x) (hy : 0 ≤ y)
    (k1 : x ≠ y → Sim sc o cc nL ret d tgt ls st m Q) (k2 : ¬ (x ≠ y) → Sim sc o cc nL ret d pc2 ls st m Q) : Sim sc o cc nL ret d pc ls (aR y :: aR x :: st) m Q := by
  subst hp
  intro p l e R s mt args below meth c g H locs lsC cells slots Qw hC hP hS hL hK
  show W p l e R s mt args below meth c H locs cells slots Qw (F0 mt pc lsC (cv g (aR y) :: cv g (aR x) :: st.map (cv g)))
  rw [cv_R g x hx, cv_R g y hy]
  refine lv_acmp_ne (rx := some (g.1 + x.toNat)) (ry := some (g.1 + y.toNat)) hC.1 hC.2.1 hd ht (fun q => ?_) (fun q => ?_)
  · exact k1 (fun e => q (by rw [e])) p l e R s mt args below meth c g H locs lsC cells slots Qw hC hP hS hL hK
  · exact k2 (fun e => e (by have := Option.some.inj q; omega)) p l e R s mt args below meth c g H locs lsC cells slots Qw hC hP hS hL hK
theorem x_tin {df lo hi : Int} {offs : Array Int} {len : Nat} {x off : Int} {tgt : Nat} (hd : decode cc pc = .ok (.tableswitch df lo hi offs, len)) (hx : -2147483648 ≤ x ∧ x < 2147483648) (h1 : lo ≤ x) (h2 : x ≤ hi) (ho : offs[(x - lo).toNat]? = some off) (ht : (pc : Int) + off = (tgt : Int))
    (k : Sim sc o cc nL ret d tgt ls st m Q) : Sim sc o cc nL ret d pc ls (aI x :: st) m Q := by
  intro p l e R s mt args below meth c g H locs lsC cells slots Qw hC hP hS hL hK
  exact lv_tableIn hC.1 hC.2.1 hd (by rw [i32_of hx]; omega) (by rw [i32_of hx]; omega) (by rw [i32_of hx]; exact ho) ht (k p l e R s mt args below meth c g H locs lsC cells slots Qw hC hP hS hL hK)
theorem x_tout {df lo hi : Int} {offs : Array Int} {len : Nat} {x : Int} {tgt : Nat} (hd : decode cc pc = .ok (.tableswitch df lo hi offs, len)) (hx : -2147483648 ≤ x ∧ x < 2147483648) (h : x < lo ∨ hi < x) (ht : (pc : Int) + df = (tgt : Int))
    (k : Sim sc o cc nL ret d tgt ls st m Q) : Sim sc o cc nL ret d pc ls (aI x :: st) m Q := by
  intro p l e R s mt args below meth c g H locs lsC cells slots Qw hC hP hS hL hK
  exact lv_tableOut hC.1 hC.2.1 hd (by rw [i32_of hx]; exact h) ht (k p l e R s mt args below meth c g H locs lsC cells slots Qw hC hP hS hL hK)
theorem x_lookup0 {df : Int} {len : Nat} {x : Int} {tgt : Nat} (hd : decode cc pc = .ok (.lookupswitch df #[], len)) (ht : (pc : Int) + df = (tgt : Int))
    (k : Sim sc o cc nL ret d tgt ls st m Q) : Sim sc o cc nL ret d pc ls (aI x :: st) m Q := by
  intro p l e R s mt args below meth c g H locs lsC cells slots Qw hC hP hS hL hK
  exact lv_lookup hC.1 hC.2.1 hd rfl rfl ht (k p l e R s mt args below meth c g H locs lsC cells slots Qw hC hP hS hL hK)
theorem x_ireturn {x : Int} (hd : decode cc pc = .ok (.ireturn, 1)) (hr : RetOK ret (some (aI x))) (k : Q (some (aI x)) m) : Sim sc o cc nL ret d pc ls [aI x] m Q := by
  intro p l e R s mt args below meth c g H locs lsC cells slots Qw hC hP hS hL hK
  exact hK (some (aI x)) m H locs pc lsC k hr hP hS hd
theorem x_lreturn {x : Int} (hd : decode cc pc = .ok (.lreturn, 1)) (hr : RetOK ret (some (aJ x))) (k : Q (some (aJ x)) m) : Sim sc o cc nL ret d pc ls [aJ x] m Q := by
  intro p l e R s mt args below meth c g H locs lsC cells slots Qw hC hP hS hL hK
  exact hK (some (aJ x)) m H locs pc lsC k hr hP hS hd
theorem x_areturn {x : Int} (hd : decode cc pc = .ok (.areturn, 1)) (hr : RetOK ret (some (aR x))) (k : Q (some (aR x)) m) : Sim sc o cc nL ret d pc ls [aR x] m Q := by
  intro p l e R s mt args below meth c g H locs lsC cells slots Qw hC hP hS hL hK
  exact hK (some (aR x)) m H locs pc lsC k hr hP hS hd
theorem x_return (hd : decode cc pc = .ok (.return_, 1)) (hr : RetOK ret none) (k : Q none m) : Sim sc o cc nL ret d pc ls [] m Q := by
  intro p l e R s mt args below meth c g H locs lsC cells slots Qw hC hP hS hL hK
  exact hK none m H locs pc lsC k hr hP hS hd
theorem x_ldc {idx : Nat} {v : Int32} {x : Int} (hw : Cond.constant o idx v ∈ BW) (hv : v = Int32.ofInt x) (hd : decode cc pc = .ok (.ldc idx, 2)) (hp : pc + 2 = pc2)
    (k : Sim sc o cc nL ret d pc2 ls (aI x :: st) m Q) : Sim sc o cc nL ret d pc ls st m Q := by
  subst hp
  subst hv
  intro p l e R s mt args below meth c g H locs lsC cells slots Qw hC hP hS hL hK
  exact lv_ldc hC.1 hC.2.1 hC.2.2.2.1 (hC.2.2.2.2.1 _ hw) hd (k p l e R s mt args below meth c g H locs lsC cells slots Qw hC hP hS hL hK)
theorem x_ldc2 {idx : Nat} {v : Int64} {x : Int} (hw : Cond.constantLong o idx v ∈ BW) (hv : v = Int64.ofInt x) (hd : decode cc pc = .ok (.ldc2_w idx, 3)) (hp : pc + 3 = pc2)
    (k : Sim sc o cc nL ret d pc2 ls (aJ x :: st) m Q) : Sim sc o cc nL ret d pc ls st m Q := by
  subst hp
  subst hv
  intro p l e R s mt args below meth c g H locs lsC cells slots Qw hC hP hS hL hK
  exact lv_ldc2 hC.1 hC.2.1 hC.2.2.2.1 (hC.2.2.2.2.1 _ hw) hd (k p l e R s mt args below meth c g H locs lsC cells slots Qw hC hP hS hL hK)
end XR
