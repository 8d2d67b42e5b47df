def rm_XE (n : Nat) (T C : Nat → Nat) (tg ct : Nat → Int32) : Prop := ∀ i, i < n → tg i = nI (T i) ∧ ct i = nI (C i)
def rm_XR (m : Nat) (Z Q : Nat → Nat) (P : Nat → Nat → Nat) (N : Nat → Nat → Bool) (ao cc pc pa na : Nat → Int32) : Prop :=
  (∀ r, r ≤ m → cc r = nI (Z r) ∧ pc r = nI (rm_pc (N r) (Z r)) ∧ ∀ i, i < Z r → pa (3 * r + i) = nI (P r i) ∧ na (3 * r + i) = rm_bI (N r i)) ∧ ∀ r, r < m → ao r = nI (Q r)
/-- what the component's walks may take for granted -/
def rm_XH (n m l : Nat) (T C Z Q : Nat → Nat) (P : Nat → Nat → Nat) (N : Nat → Nat → Bool) (L : List rm_Fi) (tg ct ao cc pc pa na fr ft : Nat → Int32) : Prop :=
  n ≤ 12 ∧ l < 1048576 ∧ rm_PE n l T C ∧ rm_PU m Z Q P N ∧ L.length ≤ 40 ∧ rm_LB L ∧ rm_XE n T C tg ct ∧ rm_XR m Z Q P N ao cc pc pa na ∧ rm_Fl fr ft L
def rm_YE (n : Nat) (T C : Nat → Nat) (tg ty fd : Nat → Int32) : Prop := ∀ i, i < n → tg i = nI (T i) ∧ ty i = nI (C i / 4096) ∧ fd i = nI (C i % 4096)
def rm_YR (m : Nat) (Z Q : Nat → Nat) (P : Nat → Nat → Nat) (N : Nat → Nat → Bool) (dp dn sz pa no ac : Nat → Int32) : Prop :=
  (∀ i, i < Z m → dp i = nI (P m i) ∧ dn i = rm_bI (N m i)) ∧ ∀ r, r < m → sz r = nI (Z r) ∧ ac r = nI (Q r) ∧ ∀ i, i < Z r → pa (3 * r + i) = nI (P r i) ∧ no (3 * r + i) = rm_bI (N r i)
def rm_YH (n m l : Nat) (T C Z Q : Nat → Nat) (P : Nat → Nat → Nat) (N : Nat → Nat → Bool) (L : List rm_Fi) (tg ty fd dp dn sz pa no ac fr ft : Nat → Int32) : Prop :=
  n ≤ 12 ∧ l < 1048576 ∧ rm_PE n l T C ∧ rm_PU m Z Q P N ∧ L.length ≤ 40 ∧ rm_LB L ∧ rm_YE n T C tg ty fd ∧ rm_YR m Z Q P N dp dn sz pa no ac ∧ rm_Fl fr ft L
theorem rm_3 (r i : Nat) : 3 * nI r + nI i = nI (3 * r + i) := by
  have e : (3 : Int32) = nI 3 := rfl
  rw [e, pk_mul, nI_add]
theorem rm_30 (r : Nat) : 3 * nI r = nI (3 * r) := by
  have e : (3 : Int32) = nI 3 := rfl
  rw [e, pk_mul]
theorem rm_b_0 (b : Bool) : rm_bI b = 0 ↔ b = false := by
  cases b <;> decide
theorem rm_b_n (b : Bool) : vp_nar .boolean (rm_bI b) = rm_bI b := by
  cases b <;> rfl
