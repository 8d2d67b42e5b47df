theorem rm_nm1 {f : Nat} (h : f < 2 ^ 31) : ¬ nI f = -1 := by
  intro z
  have z2 := congrArg Int32.toInt z
  rw [nI_toInt h] at z2
  have e : (-1 : Int32).toInt = -1 := by decide
  omega
/-- arrays of length three agree -/
def rm_ag (a A : Nat → Int32) : Prop := ∀ j, j < 3 → a j = A j
theorem rm_ag_u {a A : Nat → Int32} {v : Nat} {x : Int32} (h : rm_ag a A) : rm_ag (upd a v x) (upd A v x) := by
  intro j hj
  by_cases e : j = v
  · rw [e, pk_us, pk_us]
  · rw [pk_un e, pk_un e, h j hj]
theorem rm_ag_3 {a A : Nat → Int32} (h0 : a 0 = A 0) (h1 : a 1 = A 1) (h2 : a 2 = A 2) : rm_ag a A := by
  intro j hj
  have : j = 0 ∨ j = 1 ∨ j = 2 := by omega
  rcases this with e | e | e
  · rw [e, h0]
  · rw [e, h1]
  · rw [e, h2]
/-- the values that an assignment may hold -/
def rm_va (A : Nat → Int32) : Prop := ∀ j, A j = -1 ∨ ∃ f, f < 16 ∧ A j = nI f
/-- a variable against a field -/
def rm_sv (v f : Nat) (A : Nat → Int32) : Option (Nat → Int32) :=
  if A v = -1 then some (upd A v (nI f)) else if A v = nI f then some A else none
/-- an entry against a field -/
def rm_s1 (e f : Nat) (A : Nat → Int32) : Option (Nat → Int32) :=
  if e < 16 then (if e = f then some A else none) else if e = 16 then some A else rm_sv (e - 17) f A
theorem rm_bs (A : Nat → Int32) (g : (Nat → Int32) → Option (Nat → Int32)) : (some A).bind g = (g A).bind some := by
  show g A = (g A).bind some
  cases g A <;> rfl
theorem rm_bn (A : Nat → Int32) (g : (Nat → Int32) → Option (Nat → Int32)) : (none : Option (Nat → Int32)).bind g = (g A).bind (fun _ => none) := by
  show none = (g A).bind (fun _ => none)
  cases g A <;> rfl
theorem rm_uc {A : Nat → Int32} {v w : Nat} {x y : Int32} (h : v ≠ w) : upd (upd A v x) w y = upd (upd A w y) v x := by
  funext j
  by_cases e : j = v
  · have e2 : j ≠ w := fun z => h (e.symm.trans z)
    rw [pk_un e2, e, pk_us, pk_us]
  · by_cases e2 : j = w
    · rw [pk_un e, e2, pk_us, pk_us]
    · rw [pk_un e2, pk_un e, pk_un e, pk_un e2]
theorem rm_sv_sw {v f w g : Nat} {A : Nat → Int32} (hf : f < 16) (hg : g < 16) :
    (rm_sv v f A).bind (rm_sv w g) = (rm_sv w g A).bind (rm_sv v f) := by
  have n1 := rm_nm1 (f := f) (by omega)
  have n2 := rm_nm1 (f := g) (by omega)
  have q : nI f = nI g ↔ f = g := nI_eq (by omega) (by omega)
  by_cases hv : v = w
  · subst hv
    by_cases a1 : A v = -1
    · have e1 : rm_sv v f A = some (upd A v (nI f)) := if_pos a1
      have e2 : rm_sv v g A = some (upd A v (nI g)) := if_pos a1
      rw [e1, e2]
      show rm_sv v g (upd A v (nI f)) = rm_sv v f (upd A v (nI g))
      by_cases fg : f = g
      · subst fg; rfl
      · unfold rm_sv
        rw [pk_us, pk_us, if_neg n1, if_neg n2, if_neg (fun z => fg (q.mp z)), if_neg (fun z => fg (q.mp z.symm))]
    · by_cases a2 : A v = nI f
      · by_cases a3 : A v = nI g
        · have e1 : rm_sv v f A = some A := by unfold rm_sv; rw [if_neg a1, if_pos a2]
          have e2 : rm_sv v g A = some A := by unfold rm_sv; rw [if_neg a1, if_pos a3]
          rw [e1, e2]
          show rm_sv v g A = rm_sv v f A
          rw [e1, e2]
        · have e1 : rm_sv v f A = some A := by unfold rm_sv; rw [if_neg a1, if_pos a2]
          have e2 : rm_sv v g A = none := by unfold rm_sv; rw [if_neg a1, if_neg a3]
          rw [e1, e2]
          exact e2
      · have e1 : rm_sv v f A = none := by unfold rm_sv; rw [if_neg a1, if_neg a2]
        by_cases a3 : A v = nI g
        · have e2 : rm_sv v g A = some A := by unfold rm_sv; rw [if_neg a1, if_pos a3]
          rw [e1, e2]
          exact e1.symm
        · have e2 : rm_sv v g A = none := by unfold rm_sv; rw [if_neg a1, if_neg a3]
          rw [e1, e2]
          rfl
  · have hw : w ≠ v := fun z => hv z.symm
    by_cases a1 : A v = -1
    · have e1 : rm_sv v f A = some (upd A v (nI f)) := if_pos a1
      rw [e1]
      show rm_sv w g (upd A v (nI f)) = (rm_sv w g A).bind (rm_sv v f)
      unfold rm_sv
      rw [pk_un hw]
      by_cases b1 : A w = -1
      · rw [if_pos b1, if_pos b1]
        show _ = (if upd A w (nI g) v = -1 then _ else _)
        rw [pk_un hv, if_pos a1, rm_uc hv]
      · rw [if_neg b1, if_neg b1]
        by_cases b2 : A w = nI g
        · rw [if_pos b2, if_pos b2]
          show _ = (if A v = -1 then _ else _)
          rw [if_pos a1]
        · rw [if_neg b2, if_neg b2]
          rfl
    · by_cases a2 : A v = nI f
      · have e1 : rm_sv v f A = some A := by unfold rm_sv; rw [if_neg a1, if_pos a2]
        rw [e1]
        show rm_sv w g A = (rm_sv w g A).bind (rm_sv v f)
        by_cases b1 : A w = -1
        · have e2 : rm_sv w g A = some (upd A w (nI g)) := if_pos b1
          rw [e2]
          show _ = rm_sv v f (upd A w (nI g))
          unfold rm_sv
          rw [pk_un hv, if_neg a1, if_pos a2]
        · by_cases b2 : A w = nI g
          · have e2 : rm_sv w g A = some A := by unfold rm_sv; rw [if_neg b1, if_pos b2]
            rw [e2]
            exact e1.symm
          · have e2 : rm_sv w g A = none := by unfold rm_sv; rw [if_neg b1, if_neg b2]
            rw [e2]
            rfl
      · have e1 : rm_sv v f A = none := by unfold rm_sv; rw [if_neg a1, if_neg a2]
        rw [e1]
        show none = (rm_sv w g A).bind (rm_sv v f)
        by_cases b1 : A w = -1
        · have e2 : rm_sv w g A = some (upd A w (nI g)) := if_pos b1
          rw [e2]
          show _ = rm_sv v f (upd A w (nI g))
          unfold rm_sv
          rw [pk_un hv, if_neg a1, if_neg a2]
        · by_cases b2 : A w = nI g
          · have e2 : rm_sv w g A = some A := by unfold rm_sv; rw [if_neg b1, if_pos b2]
            rw [e2]
            exact e1.symm
          · have e2 : rm_sv w g A = none := by unfold rm_sv; rw [if_neg b1, if_neg b2]
            rw [e2]
            rfl
theorem rm_s1_k {e f : Nat} (h : e < 16) (h2 : e = f) : rm_s1 e f = some := by
  funext A; unfold rm_s1; rw [if_pos h, if_pos h2]
theorem rm_s1_n {e f : Nat} (h : e < 16) (h2 : e ≠ f) : rm_s1 e f = fun _ => none := by
  funext A; unfold rm_s1; rw [if_pos h, if_neg h2]
theorem rm_s1_a {f : Nat} : rm_s1 16 f = some := by
  funext A; unfold rm_s1; rw [if_neg (by omega), if_pos rfl]
theorem rm_s1_v {v f : Nat} : rm_s1 (17 + v) f = rm_sv v f := by
  funext A
  unfold rm_s1
  rw [if_neg (by omega), if_neg (by omega), Nat.add_sub_cancel_left]
theorem rm_s1_c (e f : Nat) : rm_s1 e f = some ∨ (rm_s1 e f = fun _ => none) ∨ ∃ v, rm_s1 e f = rm_sv v f := by
  by_cases h : e < 16
  · by_cases h2 : e = f
    · exact Or.inl (rm_s1_k h h2)
    · exact Or.inr (Or.inl (rm_s1_n h h2))
  · by_cases h3 : e = 16
    · exact Or.inl (h3 ▸ rm_s1_a)
    · obtain ⟨v, rfl⟩ : ∃ v, e = 17 + v := ⟨e - 17, by omega⟩
      exact Or.inr (Or.inr ⟨v, rm_s1_v⟩)
theorem rm_swap {e f e' f' : Nat} (A : Nat → Int32) (hf : f < 16) (hf' : f' < 16) :
    (rm_s1 e f A).bind (rm_s1 e' f') = (rm_s1 e' f' A).bind (rm_s1 e f) := by
  rcases rm_s1_c e f with h | h | ⟨v, h⟩
  · rw [h]; exact rm_bs A _
  · rw [h]; exact rm_bn A _
  · rcases rm_s1_c e' f' with h2 | h2 | ⟨w, h2⟩
    · rw [h2]; exact (rm_bs A _).symm
    · rw [h2]; exact (rm_bn A _).symm
    · rw [h, h2]; exact rm_sv_sw hf hf'
theorem rm_rev {a b c f g h : Nat} (A : Nat → Int32) (hf : f < 16) (hg : g < 16) (hh : h < 16) :
    ((rm_s1 a f A).bind (rm_s1 b g)).bind (rm_s1 c h) = ((rm_s1 c h A).bind (rm_s1 b g)).bind (rm_s1 a f) := by
  have e : (fun x => (rm_s1 a f x).bind (rm_s1 c h)) = fun x => (rm_s1 c h x).bind (rm_s1 a f) := funext fun x => rm_swap x hf hh
  rw [rm_swap (e := a) (f := f) (e' := b) (f' := g) A hf hg, Option.bind_assoc, e, ← Option.bind_assoc, rm_swap (e := b) (f := g) (e' := c) (f' := h) A hg hh]
/-- the assignment extended by an element of contents c that fits pattern p -/
def rm_fs (A : Nat → Int32) (p c : Nat) : Option (Nat → Int32) :=
  if p / 8000 = c / 4096 then ((rm_s1 (p % 20) (c % 16) A).bind (rm_s1 (p / 20 % 20) (c / 16 % 16))).bind (rm_s1 (p / 400 % 20) (c / 256 % 16)) else none
theorem rm_fs_y {A : Nat → Int32} {p c : Nat} (h : p / 8000 = c / 4096) :
    rm_fs A p c = ((rm_s1 (p / 400 % 20) (c / 256 % 16) A).bind (rm_s1 (p / 20 % 20) (c / 16 % 16))).bind (rm_s1 (p % 20) (c % 16)) := by
  unfold rm_fs
  rw [if_pos h]
  exact rm_rev A (Nat.mod_lt _ (by omega)) (Nat.mod_lt _ (by omega)) (Nat.mod_lt _ (by omega))
theorem rm_va_u {A : Nat → Int32} {v f : Nat} (hf : f < 16) (h : rm_va A) : rm_va (upd A v (nI f)) := by
  intro j
  by_cases e : j = v
  · rw [e, pk_us]; exact Or.inr ⟨f, hf, rfl⟩
  · rw [pk_un e]; exact h j
theorem rm_va_s {e f : Nat} {A B : Nat → Int32} (hf : f < 16) (h : rm_va A) (hs : rm_s1 e f A = some B) : rm_va B := by
  rcases rm_s1_c e f with z | z | ⟨v, z⟩
  · rw [z] at hs; cases hs; exact h
  · rw [z] at hs; cases hs
  · rw [z] at hs
    unfold rm_sv at hs
    by_cases a1 : A v = -1
    · rw [if_pos a1] at hs; cases hs; exact rm_va_u hf h
    · rw [if_neg a1] at hs
      by_cases a2 : A v = nI f
      · rw [if_pos a2] at hs; cases hs; exact h
      · rw [if_neg a2] at hs; cases hs
theorem rm_va_f {A B : Nat → Int32} {p c : Nat} (h : rm_va A) (hs : rm_fs A p c = some B) : rm_va B := by
  unfold rm_fs at hs
  by_cases e : p / 8000 = c / 4096
  · rw [if_pos e] at hs
    obtain ⟨B2, h2, h3⟩ := Option.bind_eq_some_iff.mp hs
    obtain ⟨B1, h1, h2⟩ := Option.bind_eq_some_iff.mp h2
    exact rm_va_s (Nat.mod_lt _ (by omega)) (rm_va_s (Nat.mod_lt _ (by omega)) (rm_va_s (Nat.mod_lt _ (by omega)) h h1) h2) h3
  · rw [if_neg e] at hs; cases hs
theorem rm_va_0 : rm_va (fun _ => -1) := fun _ => Or.inl rfl
