/-- the value that an entry stands for where an element is made -/
def rm_fv (A : Nat → Int32) (e : Nat) : Nat := if e < 16 then e else if e = 16 then 0 else if A (e - 17) = -1 then 0 else (A (e - 17)).toNatClampNeg
theorem rm_fv_b {A : Nat → Int32} (h : rm_va A) (e : Nat) : rm_fv A e < 16 := by
  unfold rm_fv
  by_cases h1 : e < 16
  · rw [if_pos h1]; exact h1
  · rw [if_neg h1]
    by_cases h2 : e = 16
    · rw [if_pos h2]; omega
    · rw [if_neg h2]
      rcases h (e - 17) with z | ⟨f, hf, z⟩
      · rw [if_pos z]; omega
      · rw [if_neg (by rw [z]; exact rm_nm1 (by omega)), z, nI_clamp (by omega)]
        exact hf
def rm_ff (A : Nat → Int32) (p : Nat) : Nat := 256 * rm_fv A (p / 400 % 20) + 16 * rm_fv A (p / 20 % 20) + rm_fv A (p % 20)
theorem rm_ff_b {A : Nat → Int32} (h : rm_va A) (p : Nat) : rm_ff A p < 4096 := by
  have a := rm_fv_b h (p / 400 % 20)
  have b := rm_fv_b h (p / 20 % 20)
  have c := rm_fv_b h (p % 20)
  unfold rm_ff
  omega
abbrev rm_T3 : Type := Nat × Nat × Nat
def rm_b1 (t : rm_T3) : rm_T3 := if t.1 < t.2.1 then (t.2.1, t.1, t.2.2) else t
def rm_b2 (t : rm_T3) : rm_T3 := if t.2.1 < t.2.2 then (t.1, t.2.2, t.2.1) else t
theorem rm_srt (a b c : Nat) : rm_b2 (rm_b1 (rm_b2 (rm_b1 (rm_b2 (rm_b1 (a, b, c)))))) = (rm_m0 a b c, rm_m1 a b c, rm_m2 a b c) := by
  by_cases h1 : a < b
  · have r1 : ¬ b < a := by omega
    by_cases h2 : a < c
    · have r2 : ¬ c < a := by omega
      by_cases h3 : b < c
      · have r3 : ¬ c < b := by omega
        simp [rm_b1, rm_b2, rm_m0, rm_m1, rm_m2, h1, h2, h3, r1, r2, r3] <;> omega
      · simp [rm_b1, rm_b2, rm_m0, rm_m1, rm_m2, h1, h2, h3, r1, r2] <;> omega
    · have h3 : ¬ b < c := by omega
      simp [rm_b1, rm_b2, rm_m0, rm_m1, rm_m2, h1, h2, h3, r1] <;> omega
  · by_cases h2 : a < c
    · have r2 : ¬ c < a := by omega
      have h3 : b < c := by omega
      have r3 : ¬ c < b := by omega
      simp [rm_b1, rm_b2, rm_m0, rm_m1, rm_m2, h1, h2, h3, r2, r3] <;> omega
    · by_cases h3 : b < c
      · have r3 : ¬ c < b := by omega
        simp [rm_b1, rm_b2, rm_m0, rm_m1, rm_m2, h1, h2, h3, r3] <;> omega
      · simp [rm_b1, rm_b2, rm_m0, rm_m1, rm_m2, h1, h2, h3] <;> omega
def rm_is (a b c x y z : Nat) : Prop := x = rm_m0 a b c ∧ y = rm_m1 a b c ∧ z = rm_m2 a b c
theorem rm_i1 {a b c : Nat} (h1 : a < b) (h2 : a < c) (h3 : b < c) : rm_is a b c c b a := by
  unfold rm_is
  simp [rm_m0, rm_m1, rm_m2, h1, h2, h3] <;> omega
theorem rm_i2 {a b c : Nat} (h1 : a < b) (h2 : a < c) (h3 : ¬ b < c) : rm_is a b c b c a := by
  unfold rm_is
  simp [rm_m0, rm_m1, rm_m2, h1, h2, h3] <;> omega
theorem rm_i3 {a b c : Nat} (h1 : a < b) (h2 : ¬ a < c) : rm_is a b c b a c := by
  have h3 : ¬ b < c := by omega
  unfold rm_is
  simp [rm_m0, rm_m1, rm_m2, h1, h2, h3] <;> omega
theorem rm_i4 {a b c : Nat} (h1 : ¬ a < b) (h3 : b < c) (h2 : a < c) : rm_is a b c c a b := by
  unfold rm_is
  simp [rm_m0, rm_m1, rm_m2, h1, h2, h3] <;> omega
theorem rm_i5 {a b c : Nat} (h1 : ¬ a < b) (h3 : b < c) (h2 : ¬ a < c) : rm_is a b c a c b := by
  unfold rm_is
  simp [rm_m0, rm_m1, rm_m2, h1, h2, h3] <;> omega
theorem rm_i6 {a b c : Nat} (h1 : ¬ a < b) (h3 : ¬ b < c) : rm_is a b c a b c := by
  have h2 : ¬ a < c := by omega
  unfold rm_is
  simp [rm_m0, rm_m1, rm_m2, h1, h2, h3] <;> omega
