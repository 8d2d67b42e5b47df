theorem rm_q0 : ¬ (3 : Int32) ≤ 0 := by decide
theorem rm_q1 : ¬ (3 : Int32) ≤ 1 := by decide
theorem rm_q2 : ¬ (3 : Int32) ≤ 2 := by decide
theorem rm_q3 : (3 : Int32) ≤ 3 := by decide
theorem rm_v0 : vp_in (0 : Int32) 3 := vp_in_iff.mpr (by decide)
theorem rm_v1 : vp_in (1 : Int32) 3 := vp_in_iff.mpr (by decide)
theorem rm_v2 : vp_in (2 : Int32) 3 := vp_in_iff.mpr (by decide)
theorem rm_c0 : (0 : Int32).toNatClampNeg = 0 := by decide
theorem rm_c1 : (1 : Int32).toNatClampNeg = 1 := by decide
theorem rm_c2 : (2 : Int32).toNatClampNeg = 2 := by decide
theorem rm_01 : (0 : Int32) + 1 = 1 := by decide
theorem rm_12 : (1 : Int32) + 1 = 2 := by decide
theorem rm_23 : (2 : Int32) + 1 = 3 := by decide
def rm_u3 (a : Nat → Int32) (x y z : Int32) : Nat → Int32 := upd (upd (upd a 0 x) 1 y) 2 z
theorem rm_u3_0 {a : Nat → Int32} {x y z : Int32} : rm_u3 a x y z 0 = x := by
  unfold rm_u3; rw [pk_un (by omega), pk_un (by omega), pk_us]
theorem rm_u3_1 {a : Nat → Int32} {x y z : Int32} : rm_u3 a x y z 1 = y := by
  unfold rm_u3; rw [pk_un (by omega), pk_us]
theorem rm_u3_2 {a : Nat → Int32} {x y z : Int32} : rm_u3 a x y z 2 = z := by
  unfold rm_u3; rw [pk_us]
theorem rm_u3_ag {a A : Nat → Int32} {x y z : Int32} (h0 : x = A 0) (h1 : y = A 1) (h2 : z = A 2) : rm_ag (rm_u3 a x y z) A :=
  rm_ag_3 (rm_u3_0.trans h0) (rm_u3_1.trans h1) (rm_u3_2.trans h2)
