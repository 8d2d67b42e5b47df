section
theorem pk_us {f : Nat → Int32} {k : Nat} {x : Int32} : upd f k x k = x := if_pos rfl
theorem pk_un {f : Nat → Int32} {k j : Nat} {x : Int32} (h : j ≠ k) : upd f k x j = f j := if_neg h
theorem pk_sub {a b : Nat} (h : b ≤ a) : nI a - nI b = nI (a - b) := by
  obtain ⟨c, rfl⟩ : ∃ c, a = c + b := ⟨a - b, by omega⟩
  rw [← nI_add, Int32.add_sub_cancel, Nat.add_sub_cancel]
theorem pk_m1 (n : Nat) : nI (n + 1) + (-1) = nI n := by
  rw [← nI_1, Int32.add_assoc, show (1 : Int32) + (-1) = 0 from rfl, Int32.add_zero]
theorem pk_mul (a b : Nat) : nI a * nI b = nI (a * b) := (Int32.ofNat_mul a b).symm
theorem pk_div {a d : Nat} (ha : a < 2 ^ 31) (h0 : 0 < d) (hd : d < 2 ^ 31) : nI a / nI d = nI (a / d) := by
  apply Int32.toInt_inj.mp
  rw [lg_idiv_nonneg (by rw [nI_toInt ha]; omega) (by rw [nI_toInt hd]; omega), nI_toInt ha, nI_toInt hd, nI_toInt (Nat.lt_of_le_of_lt (Nat.div_le_self a d) ha)]
  first | rfl | exact (Int.natCast_ediv _ _).symm
theorem pk_rem {a d : Nat} (ha : a < 2 ^ 31) (h0 : 0 < d) (hd : d < 2 ^ 31) : nI a - nI a / nI d * nI d = nI (a % d) := by
  rw [pk_div ha h0 hd, pk_mul, pk_sub (Nat.div_mul_le_self a d)]
  exact congrArg nI (by have := Nat.div_add_mod' a d; omega)
theorem pk_ix (x : Int32) {n : Nat} (hn : n < 2 ^ 31) : x < 0 ∨ nI n ≤ x ∨ ∃ j : Nat, j < n ∧ x = nI j := by
  by_cases h : x < 0
  · exact Or.inl h
  · obtain ⟨j, hj, rfl⟩ := nI_of h
    by_cases h2 : j < n
    · exact Or.inr (Or.inr ⟨j, h2, rfl⟩)
    · exact Or.inr (Or.inl (nI_le (by omega) hj))
theorem pk_le {x y : Int32} {A B : Prop} (a b : Nat) (f : a ≤ b → A) (g : b < a → B) (hx : x = nI a := by rfl) (hy : y = nI b := by rfl) (ha : a < 2 ^ 31 := by omega) (hb : b < 2 ^ 31 := by omega) : (x ≤ y → A) ∧ (¬ x ≤ y → B) := by
  subst hx hy
  rw [nI_leI ha hb]
  exact ⟨f, fun z => g (by omega)⟩
theorem pk_lt {x y : Int32} {A B : Prop} (a b : Nat) (f : a < b → A) (g : b ≤ a → B) (hx : x = nI a := by rfl) (hy : y = nI b := by rfl) (ha : a < 2 ^ 31 := by omega) (hb : b < 2 ^ 31 := by omega) : (x < y → A) ∧ (¬ x < y → B) := by
  subst hx hy
  rw [nI_ltI ha hb]
  exact ⟨f, fun z => g (by omega)⟩
theorem pk_eq {x y : Int32} {A B : Prop} (a b : Nat) (f : a = b → A) (g : a ≠ b → B) (hx : x = nI a := by rfl) (hy : y = nI b := by rfl) (ha : a < 2 ^ 31 := by omega) (hb : b < 2 ^ 31 := by omega) : (x = y → A) ∧ (¬ x = y → B) := by
  subst hx hy
  rw [nI_eq ha hb]
  exact ⟨f, g⟩
theorem pk_in {x : Int32} (n N : Nat) (h : n < N) (hx : x = nI n := by rfl) (hN : N < 2 ^ 31 := by omega) : vp_in x N := by
  subst hx
  exact vp_in_nI h hN
theorem pk_cl {x : Int32} (n : Nat) (hx : x = nI n := by rfl) (h : n < 2 ^ 31 := by omega) : x.toNatClampNeg = n := by
  subst hx
  exact nI_clamp h
theorem pk_tn {n : Nat} (h : n < 2 ^ 32) : (nI n).toBitVec.toNat = n := Nat.mod_eq_of_lt h
theorem pk_and (x : Int32) {m : Int32} (k : Nat) (hm : m.toBitVec.toNat = 2 ^ k - 1) : x &&& m = nI (x.toBitVec.toNat % 2 ^ k) := by
  apply Int32.toBitVec_inj.mp
  apply BitVec.eq_of_toNat_eq
  rw [Int32.toBitVec_and, BitVec.toNat_and, hm, Nat.and_two_pow_sub_one_eq_mod]
  show _ = (BitVec.ofNat 32 _).toNat
  rw [BitVec.toNat_ofNat]
  exact (Nat.mod_eq_of_lt (Nat.lt_of_le_of_lt (Nat.mod_le _ _) x.toBitVec.isLt)).symm
theorem pk_andN {n : Nat} (h : n < 2 ^ 32) {m : Int32} (k : Nat) (hm : m.toBitVec.toNat = 2 ^ k - 1) : nI n &&& m = nI (n % 2 ^ k) := by
  rw [pk_and _ k hm, pk_tn h]
theorem pk_shr (a s : Int32) (k : Nat) (hs : (s.toBitVec.smod 32).toNat = k) : (a >>> s).toInt = a.toInt >>> k := by
  show (a.toBitVec.sshiftRight (s.toBitVec.smod 32).toNat).toInt = _
  rw [hs, BitVec.toInt_sshiftRight]
  rfl
theorem pk_shrN {n : Nat} (h : n < 2 ^ 31) (s : Int32) (k : Nat) (hs : (s.toBitVec.smod 32).toNat = k) : nI n >>> s = nI (n / 2 ^ k) := by
  apply Int32.toInt_inj.mp
  have h2 : n / 2 ^ k ≤ n := Nat.div_le_self _ _
  rw [pk_shr _ _ k hs, nI_toInt h, nI_toInt (by omega), Int.shiftRight_eq_div_pow]
  rfl
end
section
theorem rm_nm1 {f : Nat} (h : f < 2 ^ 31) : ¬ nI f = -1 := by
  intro z
  have z2 := congrArg Int32.toInt z
  rw [nI_toInt h] at z2
  have e : (-1 : Int32).toInt = -1 := by decide
  omega
/-- arrays of length three agree -/
def rm_ag (a A : Nat → Int32) : Prop := ∀ j, j < 3 → a j = A j
theorem rm_ag_u {a A : Nat → Int32} {v : Nat} {x : Int32} (h : rm_ag a A) : rm_ag (upd a v x) (upd A v x) := by
  intro j hj
  by_cases e : j = v
  · rw [e, pk_us, pk_us]
  · rw [pk_un e, pk_un e, h j hj]
theorem rm_ag_3 {a A : Nat → Int32} (h0 : a 0 = A 0) (h1 : a 1 = A 1) (h2 : a 2 = A 2) : rm_ag a A := by
  intro j hj
  have : j = 0 ∨ j = 1 ∨ j = 2 := by omega
  rcases this with e | e | e
  · rw [e, h0]
  · rw [e, h1]
  · rw [e, h2]
/-- the values that an assignment may hold -/
def rm_va (A : Nat → Int32) : Prop := ∀ j, A j = -1 ∨ ∃ f, f < 16 ∧ A j = nI f
/-- a variable against a field -/
def rm_sv (v f : Nat) (A : Nat → Int32) : Option (Nat → Int32) :=
  if A v = -1 then some (upd A v (nI f)) else if A v = nI f then some A else none
/-- an entry against a field -/
def rm_s1 (e f : Nat) (A : Nat → Int32) : Option (Nat → Int32) :=
  if e < 16 then (if e = f then some A else none) else if e = 16 then some A else rm_sv (e - 17) f A
theorem rm_bs (A : Nat → Int32) (g : (Nat → Int32) → Option (Nat → Int32)) : (some A).bind g = (g A).bind some := by
  show g A = (g A).bind some
  cases g A <;> rfl
theorem rm_bn (A : Nat → Int32) (g : (Nat → Int32) → Option (Nat → Int32)) : (none : Option (Nat → Int32)).bind g = (g A).bind (fun _ => none) := by
  show none = (g A).bind (fun _ => none)
  cases g A <;> rfl
theorem rm_uc {A : Nat → Int32} {v w : Nat} {x y : Int32} (h : v ≠ w) : upd (upd A v x) w y = upd (upd A w y) v x := by
  funext j
  by_cases e : j = v
  · have e2 : j ≠ w := fun z => h (e.symm.trans z)
    rw [pk_un e2, e, pk_us, pk_us]
  · by_cases e2 : j = w
    · rw [pk_un e, e2, pk_us, pk_us]
    · rw [pk_un e2, pk_un e, pk_un e, pk_un e2]
theorem rm_sv_sw {v f w g : Nat} {A : Nat → Int32} (hf : f < 16) (hg : g < 16) :
    (rm_sv v f A).bind (rm_sv w g) = (rm_sv w g A).bind (rm_sv v f) := by
  have n1 := rm_nm1 (f := f) (by omega)
  have n2 := rm_nm1 (f := g) (by omega)
  have q : nI f = nI g ↔ f = g := nI_eq (by omega) (by omega)
  by_cases hv : v = w
  · subst hv
    by_cases a1 : A v = -1
    · have e1 : rm_sv v f A = some (upd A v (nI f)) := if_pos a1
      have e2 : rm_sv v g A = some (upd A v (nI g)) := if_pos a1
      rw [e1, e2]
      show rm_sv v g (upd A v (nI f)) = rm_sv v f (upd A v (nI g))
      by_cases fg : f = g
      · subst fg; rfl
      · unfold rm_sv
        rw [pk_us, pk_us, if_neg n1, if_neg n2, if_neg (fun z => fg (q.mp z)), if_neg (fun z => fg (q.mp z.symm))]
    · by_cases a2 : A v = nI f
      · by_cases a3 : A v = nI g
        · have e1 : rm_sv v f A = some A := by unfold rm_sv; rw [if_neg a1, if_pos a2]
          have e2 : rm_sv v g A = some A := by unfold rm_sv; rw [if_neg a1, if_pos a3]
          rw [e1, e2]
          show rm_sv v g A = rm_sv v f A
          rw [e1, e2]
        · have e1 : rm_sv v f A = some A := by unfold rm_sv; rw [if_neg a1, if_pos a2]
          have e2 : rm_sv v g A = none := by unfold rm_sv; rw [if_neg a1, if_neg a3]
          rw [e1, e2]
          exact e2
      · have e1 : rm_sv v f A = none := by unfold rm_sv; rw [if_neg a1, if_neg a2]
        by_cases a3 : A v = nI g
        · have e2 : rm_sv v g A = some A := by unfold rm_sv; rw [if_neg a1, if_pos a3]
          rw [e1, e2]
          exact e1.symm
        · have e2 : rm_sv v g A = none := by unfold rm_sv; rw [if_neg a1, if_neg a3]
          rw [e1, e2]
          rfl
  · have hw : w ≠ v := fun z => hv z.symm
    by_cases a1 : A v = -1
    · have e1 : rm_sv v f A = some (upd A v (nI f)) := if_pos a1
      rw [e1]
      show rm_sv w g (upd A v (nI f)) = (rm_sv w g A).bind (rm_sv v f)
      unfold rm_sv
      rw [pk_un hw]
      by_cases b1 : A w = -1
      · rw [if_pos b1, if_pos b1]
        show _ = (if upd A w (nI g) v = -1 then _ else _)
        rw [pk_un hv, if_pos a1, rm_uc hv]
      · rw [if_neg b1, if_neg b1]
        by_cases b2 : A w = nI g
        · rw [if_pos b2, if_pos b2]
          show _ = (if A v = -1 then _ else _)
          rw [if_pos a1]
        · rw [if_neg b2, if_neg b2]
          rfl
    · by_cases a2 : A v = nI f
      · have e1 : rm_sv v f A = some A := by unfold rm_sv; rw [if_neg a1, if_pos a2]
        rw [e1]
        show rm_sv w g A = (rm_sv w g A).bind (rm_sv v f)
        by_cases b1 : A w = -1
        · have e2 : rm_sv w g A = some (upd A w (nI g)) := if_pos b1
          rw [e2]
          show _ = rm_sv v f (upd A w (nI g))
          unfold rm_sv
          rw [pk_un hv, if_neg a1, if_pos a2]
        · by_cases b2 : A w = nI g
          · have e2 : rm_sv w g A = some A := by unfold rm_sv; rw [if_neg b1, if_pos b2]
            rw [e2]
            exact e1.symm
          · have e2 : rm_sv w g A = none := by unfold rm_sv; rw [if_neg b1, if_neg b2]
            rw [e2]
            rfl
      · have e1 : rm_sv v f A = none := by unfold rm_sv; rw [if_neg a1, if_neg a2]
        rw [e1]
        show none = (rm_sv w g A).bind (rm_sv v f)
        by_cases b1 : A w = -1
        · have e2 : rm_sv w g A = some (upd A w (nI g)) := if_pos b1
          rw [e2]
          show _ = rm_sv v f (upd A w (nI g))
          unfold rm_sv
          rw [pk_un hv, if_neg a1, if_neg a2]
        · by_cases b2 : A w = nI g
          · have e2 : rm_sv w g A = some A := by unfold rm_sv; rw [if_neg b1, if_pos b2]
            rw [e2]
            exact e1.symm
          · have e2 : rm_sv w g A = none := by unfold rm_sv; rw [if_neg b1, if_neg b2]
            rw [e2]
            rfl
theorem rm_s1_k {e f : Nat} (h : e < 16) (h2 : e = f) : rm_s1 e f = some := by
  funext A; unfold rm_s1; rw [if_pos h, if_pos h2]
theorem rm_s1_n {e f : Nat} (h : e < 16) (h2 : e ≠ f) : rm_s1 e f = fun _ => none := by
  funext A; unfold rm_s1; rw [if_pos h, if_neg h2]
theorem rm_s1_a {f : Nat} : rm_s1 16 f = some := by
  funext A; unfold rm_s1; rw [if_neg (by omega), if_pos rfl]
theorem rm_s1_v {v f : Nat} : rm_s1 (17 + v) f = rm_sv v f := by
  funext A
  unfold rm_s1
  rw [if_neg (by omega), if_neg (by omega), Nat.add_sub_cancel_left]
theorem rm_s1_c (e f : Nat) : rm_s1 e f = some ∨ (rm_s1 e f = fun _ => none) ∨ ∃ v, rm_s1 e f = rm_sv v f := by
  by_cases h : e < 16
  · by_cases h2 : e = f
    · exact Or.inl (rm_s1_k h h2)
    · exact Or.inr (Or.inl (rm_s1_n h h2))
  · by_cases h3 : e = 16
    · exact Or.inl (h3 ▸ rm_s1_a)
    · obtain ⟨v, rfl⟩ : ∃ v, e = 17 + v := ⟨e - 17, by omega⟩
      exact Or.inr (Or.inr ⟨v, rm_s1_v⟩)
theorem rm_swap {e f e' f' : Nat} (A : Nat → Int32) (hf : f < 16) (hf' : f' < 16) :
    (rm_s1 e f A).bind (rm_s1 e' f') = (rm_s1 e' f' A).bind (rm_s1 e f) := by
  rcases rm_s1_c e f with h | h | ⟨v, h⟩
  · rw [h]; exact rm_bs A _
  · rw [h]; exact rm_bn A _
  · rcases rm_s1_c e' f' with h2 | h2 | ⟨w, h2⟩
    · rw [h2]; exact (rm_bs A _).symm
    · rw [h2]; exact (rm_bn A _).symm
    · rw [h, h2]; exact rm_sv_sw hf hf'
theorem rm_rev {a b c f g h : Nat} (A : Nat → Int32) (hf : f < 16) (hg : g < 16) (hh : h < 16) :
    ((rm_s1 a f A).bind (rm_s1 b g)).bind (rm_s1 c h) = ((rm_s1 c h A).bind (rm_s1 b g)).bind (rm_s1 a f) := by
  have e : (fun x => (rm_s1 a f x).bind (rm_s1 c h)) = fun x => (rm_s1 c h x).bind (rm_s1 a f) := funext fun x => rm_swap x hf hh
  rw [rm_swap (e := a) (f := f) (e' := b) (f' := g) A hf hg, Option.bind_assoc, e, ← Option.bind_assoc, rm_swap (e := b) (f := g) (e' := c) (f' := h) A hg hh]
/-- the assignment extended by an element of contents c that fits pattern p -/
def rm_fs (A : Nat → Int32) (p c : Nat) : Option (Nat → Int32) :=
  if p / 8000 = c / 4096 then ((rm_s1 (p % 20) (c % 16) A).bind (rm_s1 (p / 20 % 20) (c / 16 % 16))).bind (rm_s1 (p / 400 % 20) (c / 256 % 16)) else none
theorem rm_fs_y {A : Nat → Int32} {p c : Nat} (h : p / 8000 = c / 4096) :
    rm_fs A p c = ((rm_s1 (p / 400 % 20) (c / 256 % 16) A).bind (rm_s1 (p / 20 % 20) (c / 16 % 16))).bind (rm_s1 (p % 20) (c % 16)) := by
  unfold rm_fs
  rw [if_pos h]
  exact rm_rev A (Nat.mod_lt _ (by omega)) (Nat.mod_lt _ (by omega)) (Nat.mod_lt _ (by omega))
theorem rm_va_u {A : Nat → Int32} {v f : Nat} (hf : f < 16) (h : rm_va A) : rm_va (upd A v (nI f)) := by
  intro j
  by_cases e : j = v
  · rw [e, pk_us]; exact Or.inr ⟨f, hf, rfl⟩
  · rw [pk_un e]; exact h j
theorem rm_va_s {e f : Nat} {A B : Nat → Int32} (hf : f < 16) (h : rm_va A) (hs : rm_s1 e f A = some B) : rm_va B := by
  rcases rm_s1_c e f with z | z | ⟨v, z⟩
  · rw [z] at hs; cases hs; exact h
  · rw [z] at hs; cases hs
  · rw [z] at hs
    unfold rm_sv at hs
    by_cases a1 : A v = -1
    · rw [if_pos a1] at hs; cases hs; exact rm_va_u hf h
    · rw [if_neg a1] at hs
      by_cases a2 : A v = nI f
      · rw [if_pos a2] at hs; cases hs; exact h
      · rw [if_neg a2] at hs; cases hs
theorem rm_va_f {A B : Nat → Int32} {p c : Nat} (h : rm_va A) (hs : rm_fs A p c = some B) : rm_va B := by
  unfold rm_fs at hs
  by_cases e : p / 8000 = c / 4096
  · rw [if_pos e] at hs
    obtain ⟨B2, h2, h3⟩ := Option.bind_eq_some_iff.mp hs
    obtain ⟨B1, h1, h2⟩ := Option.bind_eq_some_iff.mp h2
    exact rm_va_s (Nat.mod_lt _ (by omega)) (rm_va_s (Nat.mod_lt _ (by omega)) (rm_va_s (Nat.mod_lt _ (by omega)) h h1) h2) h3
  · rw [if_neg e] at hs; cases hs
theorem rm_va_0 : rm_va (fun _ => -1) := fun _ => Or.inl rfl
end
section
/-- how many i below n -/
def rm_cn (f : Nat → Bool) : Nat → Nat
  | 0 => 0
  | i + 1 => rm_cn f i + (if f i = true then 1 else 0)
theorem rm_cn_c {f g : Nat → Bool} : ∀ n, (∀ i, i < n → f i = g i) → rm_cn f n = rm_cn g n := by
  intro n
  induction n with
  | zero => intro _; rfl
  | succ n ih =>
    intro h
    show rm_cn f n + _ = rm_cn g n + _
    rw [ih (fun i hi => h i (by omega)), h n (by omega)]
theorem rm_cn_b (f : Nat → Bool) : ∀ n, rm_cn f n ≤ n := by
  intro n
  induction n with
  | zero => exact Nat.le_refl 0
  | succ n ih =>
    show rm_cn f n + _ ≤ n + 1
    split <;> omega
theorem rm_cn_0 {f : Nat → Bool} : ∀ n, (∀ i, i < n → f i = false) → rm_cn f n = 0 := by
  intro n
  induction n with
  | zero => intro _; rfl
  | succ n ih =>
    intro h
    show rm_cn f n + _ = 0
    rw [ih (fun i hi => h i (by omega)), h n (by omega)]
    rfl
theorem rm_cn_p {f : Nat → Bool} {j : Nat} (hf : f j = true) : ∀ n, j < n → rm_cn f n ≠ 0 := by
  intro n
  induction n with
  | zero => intro h; omega
  | succ n ih =>
    intro h
    show rm_cn f n + _ ≠ 0
    by_cases e : j = n
    · rw [← e, if_pos hf]; omega
    · have := ih (by omega); omega
theorem rm_cn_rm {g : Nat → Bool} {j : Nat} (hg : g j = true) : ∀ m, j < m → rm_cn g m = rm_cn (fun i => g i && !(decide (i = j))) m + 1 := by
  intro m
  induction m with
  | zero => intro h; omega
  | succ m ih =>
    intro h
    show rm_cn g m + (if g m = true then 1 else 0) = rm_cn (fun i => g i && !(decide (i = j))) m + (if (g m && !(decide (m = j))) = true then 1 else 0) + 1
    by_cases e : m = j
    · have z : (g m && !(decide (m = j))) = false := by simp [e]
      have y : rm_cn (fun i => g i && !(decide (i = j))) m = rm_cn g m := by
        apply rm_cn_c
        intro i hi
        have : i ≠ j := by omega
        simp [this]
      rw [z, y]
      subst e
      simp [hg]
    · have z : (g m && !(decide (m = j))) = g m := by simp [e]
      rw [z, ih (by omega)]
      split <;> omega
theorem rm_cn_le : ∀ (n : Nat) {f g : Nat → Bool} {m : Nat} {h : Nat → Nat}, (∀ i, i < n → f i = true → h i < m ∧ g (h i) = true) → (∀ i k, i < n → k < n → h i = h k → i = k) → rm_cn f n ≤ rm_cn g m := by
  intro n
  induction n with
  | zero => intro f g m h _ _; exact Nat.zero_le _
  | succ n ih =>
    intro f g m h H J
    show rm_cn f n + (if f n = true then 1 else 0) ≤ rm_cn g m
    by_cases fn : f n = true
    · obtain ⟨a, b⟩ := H n (by omega) fn
      rw [rm_cn_rm b m a, if_pos fn]
      apply Nat.add_le_add_right
      apply ih (h := h)
      · intro i hi fi
        obtain ⟨c, d⟩ := H i (by omega) fi
        refine ⟨c, ?_⟩
        have : h i ≠ h n := fun z => by
          have := J i n (by omega) (by omega) z
          omega
        simp [d, this]
      · intro i k hi hk z
        exact J i k (by omega) (by omega) z
    · rw [if_neg fn]
      exact ih (h := h) (fun i hi fi => H i (by omega) fi) (fun i k hi hk z => J i k (by omega) (by omega) z)
/-- every element of the one is one of the other -/
def rm_em (T C T' C' : Nat → Nat) (n : Nat) : Prop := ∀ i, i < n → ∃ j, j < n ∧ T' j = T i ∧ C' j = C i
def rm_in (T : Nat → Nat) (n : Nat) : Prop := ∀ i j, i < n → j < n → T i = T j → i = j
theorem rm_sg {T C T' C' : Nat → Nat} {n : Nat} (h : rm_em T C T' C' n) : ∃ s : Nat → Nat, ∀ i, (i < n → s i < n ∧ T' (s i) = T i ∧ C' (s i) = C i) ∧ (¬ i < n → s i = i) := by
  have e : ∀ i, ∃ j, (i < n → j < n ∧ T' j = T i ∧ C' j = C i) ∧ (¬ i < n → j = i) := by
    intro i
    by_cases hi : i < n
    · obtain ⟨j, h1, h2, h3⟩ := h i hi
      exact ⟨j, fun _ => ⟨h1, h2, h3⟩, fun z => absurd hi z⟩
    · exact ⟨i, fun z => absurd z hi, fun _ => rfl⟩
  exact ⟨fun i => Classical.choose (e i), fun i => Classical.choose_spec (e i)⟩
theorem rm_sg_i {T C T' C' : Nat → Nat} {n : Nat} {s : Nat → Nat} (hT : rm_in T n) (hs : ∀ i, (i < n → s i < n ∧ T' (s i) = T i ∧ C' (s i) = C i) ∧ (¬ i < n → s i = i)) (i k : Nat) (e : s i = s k) : i = k := by
  by_cases hi : i < n
  · have a := (hs i).1 hi
    by_cases hk : k < n
    · have b := (hs k).1 hk
      exact hT i k hi hk (by rw [← a.2.1, ← b.2.1, e])
    · have b := (hs k).2 hk
      omega
  · have a := (hs i).2 hi
    by_cases hk : k < n
    · have b := (hs k).1 hk
      omega
    · have b := (hs k).2 hk
      omega
theorem rm_cf {T C T' C' : Nat → Nat} {n : Nat} (hT : rm_in T n) (h : rm_em T C T' C' n) (φ : Nat → Bool) : rm_cn (fun i => φ (C i)) n ≤ rm_cn (fun i => φ (C' i)) n := by
  obtain ⟨s, hs⟩ := rm_sg h
  apply rm_cn_le n (h := s)
  · intro i hi fi
    have a := (hs i).1 hi
    exact ⟨a.1, by show φ (C' (s i)) = true; rw [a.2.2]; exact fi⟩
  · intro i k _ _ e
    exact rm_sg_i hT hs i k e
theorem rm_cfe {T C T' C' : Nat → Nat} {n : Nat} (hT : rm_in T n) (hT' : rm_in T' n) (h : rm_em T C T' C' n) (h' : rm_em T' C' T C n) (φ : Nat → Bool) : rm_cn (fun i => φ (C i)) n = rm_cn (fun i => φ (C' i)) n :=
  Nat.le_antisymm (rm_cf hT h φ) (rm_cf hT' h' φ)
/-- a code's digits, one by one through s -/
def rm_hh (s : Nat → Nat) : Nat → Nat → Nat
  | 0, _ => 0
  | k + 1, c => s (c % 12) + 12 * rm_hh s k (c / 12)
def rm_D (c k : Nat) : Nat := c / 12 ^ k % 12
theorem rm_hh_lt {s : Nat → Nat} (hs : ∀ i, i < 12 → s i < 12) : ∀ k c, rm_hh s k c < 12 ^ k := by
  intro k
  induction k with
  | zero => intro c; exact Nat.zero_lt_one
  | succ k ih =>
    intro c
    show s (c % 12) + 12 * rm_hh s k (c / 12) < 12 ^ (k + 1)
    have a := hs (c % 12) (Nat.mod_lt _ (by omega))
    have b := ih (c / 12)
    rw [Nat.pow_succ]
    generalize 12 ^ k = q at *
    omega
theorem rm_hh_d {s : Nat → Nat} (hs : ∀ i, i < 12 → s i < 12) : ∀ p k c, k < p → rm_D (rm_hh s p c) k = s (rm_D c k) := by
  intro p
  induction p with
  | zero => intro k c h; omega
  | succ p ih =>
    intro k c h
    have a := hs (c % 12) (Nat.mod_lt _ (by omega))
    unfold rm_D
    show (s (c % 12) + 12 * rm_hh s p (c / 12)) / 12 ^ k % 12 = s (c / 12 ^ k % 12)
    cases k with
    | zero =>
      rw [Nat.pow_zero, Nat.div_one, Nat.div_one]
      omega
    | succ k =>
      have b := ih k (c / 12) (by omega)
      unfold rm_D at b
      rw [Nat.pow_succ', ← Nat.div_div_eq_div_mul, ← Nat.div_div_eq_div_mul]
      have e : (s (c % 12) + 12 * rm_hh s p (c / 12)) / 12 = rm_hh s p (c / 12) := by omega
      rw [e]
      exact b
theorem rm_hh_i {s : Nat → Nat} (hs : ∀ i, i < 12 → s i < 12) (hi : ∀ i k, s i = s k → i = k) : ∀ p c c', c < 12 ^ p → c' < 12 ^ p → rm_hh s p c = rm_hh s p c' → c = c' := by
  intro p
  induction p with
  | zero =>
    intro c c' h h' _
    rw [Nat.pow_zero] at h h'
    omega
  | succ p ih =>
    intro c c' h h' e
    have a := hs (c % 12) (Nat.mod_lt _ (by omega))
    have a' := hs (c' % 12) (Nat.mod_lt _ (by omega))
    have e2 : s (c % 12) + 12 * rm_hh s p (c / 12) = s (c' % 12) + 12 * rm_hh s p (c' / 12) := e
    have e3 : s (c % 12) = s (c' % 12) := by omega
    have e4 : rm_hh s p (c / 12) = rm_hh s p (c' / 12) := by omega
    have e5 := hi _ _ e3
    rw [Nat.pow_succ] at h h'
    have e6 := ih (c / 12) (c' / 12) (by generalize 12 ^ p = q at *; omega) (by generalize 12 ^ p = q at *; omega) e4
    omega
/-- how many of the first conditions are positive -/
def rm_pc (N : Nat → Bool) : Nat → Nat
  | 0 => 0
  | j + 1 => rm_pc N j + (if N j = true then 0 else 1)
theorem rm_pc_b (N : Nat → Bool) : ∀ j, rm_pc N j ≤ j := by
  intro j
  induction j with
  | zero => exact Nat.le_refl 0
  | succ j ih =>
    show rm_pc N j + _ ≤ j + 1
    split <;> omega
theorem rm_pc_m (N : Nat → Bool) {i j : Nat} (h : i ≤ j) : rm_pc N i ≤ rm_pc N j := by
  induction j with
  | zero => have : i = 0 := by omega
            rw [this]; exact Nat.le_refl _
  | succ j ih =>
    by_cases e : i = j + 1
    · rw [e]; exact Nat.le_refl _
    · exact Nat.le_trans (ih (by omega)) (Nat.le_add_right _ _)
theorem rm_pc_c {N N' : Nat → Bool} : ∀ j, (∀ i, i < j → N i = N' i) → rm_pc N j = rm_pc N' j := by
  intro j
  induction j with
  | zero => intro _; rfl
  | succ j ih =>
    intro h
    show rm_pc N j + _ = rm_pc N' j + _
    rw [ih (fun i hi => h i (by omega)), h j (by omega)]
def rm_fits (A : Nat → Int32) (p : Nat) (C : Nat → Nat) : Nat → Bool := fun i => (rm_fs A p (C i)).isSome
/-- one condition -/
def rm_st (T C : Nat → Nat) (n : Nat) (D : Nat → Nat) (p : Nat) (ng : Bool) (k : Nat) (s : (Nat → Int32) × (Nat → Nat)) : Option ((Nat → Int32) × (Nat → Nat)) :=
  if ng = true then (if rm_cn (rm_fits s.1 p C) n = 0 then some s else none)
  else if D k < n then (rm_fs s.1 p (C (D k))).bind (fun B => some (B, fun j => if j = k then T (D k) else s.2 j)) else none
/-- the first conditions, in order -/
def rm_ps (T C : Nat → Nat) (n : Nat) (D : Nat → Nat) (P : Nat → Nat) (N : Nat → Bool) : Nat → Option ((Nat → Int32) × (Nat → Nat))
  | 0 => some (fun _ => -1, fun _ => 0)
  | j + 1 => (rm_ps T C n D P N j).bind (rm_st T C n D (P j) (N j) (rm_pc N j))
theorem rm_ps_eq {T C T' C' : Nat → Nat} {n : Nat} {D D' : Nat → Nat} {P : Nat → Nat} {N : Nat → Bool}
    (hc : ∀ A p, rm_cn (rm_fits A p C) n = rm_cn (rm_fits A p C') n) : ∀ j,
    (∀ k, k < rm_pc N j → (D k < n ∧ D' k < n ∧ T (D k) = T' (D' k) ∧ C (D k) = C' (D' k)) ∨ (¬ D k < n ∧ ¬ D' k < n)) →
    rm_ps T C n D P N j = rm_ps T' C' n D' P N j := by
  intro j
  induction j with
  | zero => intro _; rfl
  | succ j ih =>
    intro h
    have i := ih (fun k hk => h k (Nat.lt_of_lt_of_le hk (Nat.le_add_right _ _)))
    show (rm_ps T C n D P N j).bind (rm_st T C n D (P j) (N j) (rm_pc N j)) = (rm_ps T' C' n D' P N j).bind (rm_st T' C' n D' (P j) (N j) (rm_pc N j))
    rw [i]
    refine congrArg (fun q => Option.bind (rm_ps T' C' n D' P N j) q) (funext fun s => ?_)
    unfold rm_st
    by_cases ng : N j = true
    · rw [if_pos ng, if_pos ng, hc]
    · rw [if_neg ng, if_neg ng]
      have hk := h (rm_pc N j) (by show _ < rm_pc N j + (if N j = true then 0 else 1); rw [if_neg ng]; omega)
      rcases hk with ⟨a, b, c, d⟩ | ⟨a, b⟩
      · rw [if_pos a, if_pos b, c, d]
      · rw [if_neg a, if_neg b]
theorem rm_ps_n {T C : Nat → Nat} {n : Nat} {D : Nat → Nat} {P : Nat → Nat} {N : Nat → Bool} {i : Nat} (h : rm_ps T C n D P N i = none) : ∀ j, i ≤ j → rm_ps T C n D P N j = none := by
  intro j
  induction j with
  | zero => intro hj; have : i = 0 := by omega
            rw [← this]; exact h
  | succ j ih =>
    intro hj
    by_cases e : i = j + 1
    · rw [← e]; exact h
    · show (rm_ps T C n D P N j).bind _ = none
      rw [ih (by omega)]
      rfl
theorem rm_ps_g {T C : Nat → Nat} {n : Nat} {D : Nat → Nat} {P : Nat → Nat} {N : Nat → Bool} : ∀ j s, rm_ps T C n D P N j = some s → rm_va s.1 ∧ (∀ k, k < rm_pc N j → D k < n ∧ s.2 k = T (D k)) ∧ (∀ k, ¬ k < rm_pc N j → s.2 k = 0) := by
  intro j
  induction j with
  | zero =>
    intro s h
    have h0 : some ((fun _ => (-1 : Int32)), (fun _ => (0 : Nat))) = some s := h
    cases h0
    exact ⟨rm_va_0, fun k hk => absurd hk (Nat.not_lt_zero k), fun _ _ => rfl⟩
  | succ j ih =>
    intro s h
    have h' : (rm_ps T C n D P N j).bind (rm_st T C n D (P j) (N j) (rm_pc N j)) = some s := h
    obtain ⟨s1, h1, h2⟩ := Option.bind_eq_some_iff.mp h'
    obtain ⟨i1, i2, i3⟩ := ih s1 h1
    have hp : rm_pc N (j + 1) = rm_pc N j + (if N j = true then 0 else 1) := rfl
    unfold rm_st at h2
    by_cases ng : N j = true
    · rw [if_pos ng] at h2 hp
      by_cases z : rm_cn (rm_fits s1.1 (P j) C) n = 0
      · rw [if_pos z] at h2
        cases h2
        rw [hp]
        exact ⟨i1, i2, i3⟩
      · rw [if_neg z] at h2; cases h2
    · rw [if_neg ng] at h2 hp
      by_cases d : D (rm_pc N j) < n
      · rw [if_pos d] at h2
        obtain ⟨B, h3, h4⟩ := Option.bind_eq_some_iff.mp h2
        cases h4
        rw [hp]
        refine ⟨rm_va_f i1 h3, fun k hk => ?_, fun k hk => ?_⟩
        · by_cases e : k = rm_pc N j
          · rw [e]; exact ⟨d, if_pos rfl⟩
          · have a := i2 k (by omega)
            exact ⟨a.1, (if_neg e).trans a.2⟩
        · have e : k ≠ rm_pc N j := by omega
          exact (if_neg e).trans (i3 k (by omega))
      · rw [if_neg d] at h2; cases h2
end
section
abbrev rm_Fi : Type := Nat × Nat × Nat × Nat
abbrev rm_It : Type := Nat × (Nat → Nat) × (Nat → Int32)
/-- the one row of matches within the other, code by code -/
def rm_sub {α : Type} (f g : Nat → Option α) (M : Nat) : Prop :=
  ∃ h : Nat → Nat, (∀ c, c < M → h c < M) ∧ (∀ c c', c < M → c' < M → h c = h c' → c = c') ∧ ∀ c, c < M → f c = g (h c)
theorem rm_sub_n {α : Type} {f g : Nat → Option α} {M : Nat} (H : rm_sub f g M) : rm_cn (fun c => (f c).isSome) M ≤ rm_cn (fun c => (g c).isSome) M := by
  obtain ⟨h, h1, h2, h3⟩ := H
  apply rm_cn_le M (h := h)
  · intro i hi fi
    exact ⟨h1 i hi, by show (g (h i)).isSome = true; rw [← h3 i hi]; exact fi⟩
  · exact h2
theorem rm_sub_m {α : Type} {f g : Nat → Option α} {M : Nat} (H : rm_sub f g M) {x : α} (hx : ∃ c, c < M ∧ f c = some x) : ∃ c, c < M ∧ g c = some x := by
  obtain ⟨h, h1, h2, h3⟩ := H
  obtain ⟨c, hc, e⟩ := hx
  exact ⟨h c, h1 c hc, by rw [← h3 c hc]; exact e⟩
theorem rm_pm_sub {T C T' C' : Nat → Nat} {n : Nat} {P : Nat → Nat} {N : Nat → Bool} {z : Nat} (hn : n ≤ 12) (hT : rm_in T n) (hT' : rm_in T' n) (h : rm_em T C T' C' n) (h' : rm_em T' C' T C n) :
    rm_sub (fun c => rm_ps T C n (rm_D c) P N z) (fun c => rm_ps T' C' n (rm_D c) P N z) (12 ^ rm_pc N z) := by
  obtain ⟨s, hs⟩ := rm_sg h
  have s12 : ∀ i, i < 12 → s i < 12 := by
    intro i hi
    by_cases e : i < n
    · have := ((hs i).1 e).1; omega
    · rw [(hs i).2 e]; exact hi
  refine ⟨rm_hh s (rm_pc N z), fun c _ => rm_hh_lt s12 _ c, rm_hh_i s12 (rm_sg_i hT hs) _, fun c _ => ?_⟩
  show rm_ps T C n (rm_D c) P N z = rm_ps T' C' n (rm_D (rm_hh s (rm_pc N z) c)) P N z
  apply rm_ps_eq
  · intro A p
    exact rm_cfe hT hT' h h' (fun x => (rm_fs A p x).isSome)
  · intro k hk
    rw [rm_hh_d s12 _ k c hk]
    by_cases e : rm_D c k < n
    · have a := (hs _).1 e
      exact Or.inl ⟨e, a.1, a.2.1.symm, a.2.2.symm⟩
    · have a := (hs _).2 e
      exact Or.inr ⟨e, by rw [a]; exact e⟩
/-- a match of rule r at a code that has not fired -/
def rm_om (T C : Nat → Nat) (n : Nat) (P : Nat → Nat → Nat) (N : Nat → Nat → Bool) (sz : Nat → Nat) (L : List rm_Fi) (r c : Nat) : Option rm_It :=
  (rm_ps T C n (rm_D c) (P r) (N r) (sz r)).bind (fun s => if (r, s.2 0, s.2 1, s.2 2) ∈ L then none else some (r, s.2, s.1))
/-- is there an element with this tag, or is it no tag -/
def rm_e1 (T : Nat → Nat) (n t : Nat) : Bool := decide (t = 0) || (List.range n).any (fun i => decide (T i = t))
theorem rm_e1_i {T : Nat → Nat} {n t : Nat} : rm_e1 T n t = true ↔ t = 0 ∨ ∃ i, i < n ∧ T i = t := by
  unfold rm_e1
  rw [Bool.or_eq_true, List.any_eq_true]
  simp
def rm_al (T : Nat → Nat) (n : Nat) (x : rm_Fi) : Bool := rm_e1 T n x.2.1 && (rm_e1 T n x.2.2.1 && rm_e1 T n x.2.2.2)
theorem rm_al_i {T : Nat → Nat} {n : Nat} {x : rm_Fi} : rm_al T n x = true ↔ rm_e1 T n x.2.1 = true ∧ rm_e1 T n x.2.2.1 = true ∧ rm_e1 T n x.2.2.2 = true := by
  unfold rm_al
  rw [Bool.and_eq_true, Bool.and_eq_true]
theorem rm_al_c {T T' C C' : Nat → Nat} {n : Nat} (h : rm_em T C T' C' n) (h' : rm_em T' C' T C n) : rm_al T n = rm_al T' n := by
  have e : ∀ t, rm_e1 T n t = rm_e1 T' n t := by
    intro t
    apply Bool.eq_iff_iff.mpr
    rw [rm_e1_i, rm_e1_i]
    constructor
    · rintro (z | ⟨i, hi, z⟩)
      · exact Or.inl z
      · obtain ⟨j, hj, a, _⟩ := h i hi
        exact Or.inr ⟨j, hj, a.trans z⟩
    · rintro (z | ⟨i, hi, z⟩)
      · exact Or.inl z
      · obtain ⟨j, hj, a, _⟩ := h' i hi
        exact Or.inr ⟨j, hj, a.trans z⟩
  funext x
  unfold rm_al
  rw [e, e, e]
theorem rm_ps_al {T C : Nat → Nat} {n : Nat} {D : Nat → Nat} {P : Nat → Nat} {N : Nat → Bool} {j r : Nat} {s : (Nat → Int32) × (Nat → Nat)} (h : rm_ps T C n D P N j = some s) : rm_al T n (r, s.2 0, s.2 1, s.2 2) = true := by
  obtain ⟨_, a, b⟩ := rm_ps_g j s h
  have e : ∀ k, rm_e1 T n (s.2 k) = true := by
    intro k
    rw [rm_e1_i]
    by_cases hk : k < rm_pc N j
    · exact Or.inr ⟨D k, (a k hk).1, (a k hk).2.symm⟩
    · exact Or.inl (b k hk)
  rw [rm_al_i]
  exact ⟨e 0, e 1, e 2⟩
theorem rm_om_sub {T C T' C' : Nat → Nat} {n : Nat} {P : Nat → Nat → Nat} {N : Nat → Nat → Bool} {sz : Nat → Nat} {L L' : List rm_Fi} (r : Nat) (hn : n ≤ 12) (hT : rm_in T n) (hT' : rm_in T' n) (h : rm_em T C T' C' n) (h' : rm_em T' C' T C n) (hL : ∀ x, rm_al T n x = true → (x ∈ L ↔ x ∈ L')) :
    rm_sub (rm_om T C n P N sz L r) (rm_om T' C' n P N sz L' r) (12 ^ rm_pc (N r) (sz r)) := by
  obtain ⟨g, g1, g2, g3⟩ := rm_pm_sub (P := P r) (N := N r) (z := sz r) hn hT hT' h h'
  refine ⟨g, g1, g2, fun c hc => ?_⟩
  have e : rm_ps T C n (rm_D c) (P r) (N r) (sz r) = rm_ps T' C' n (rm_D (g c)) (P r) (N r) (sz r) := g3 c hc
  unfold rm_om
  rw [← e]
  cases q : rm_ps T C n (rm_D c) (P r) (N r) (sz r) with
  | none => rfl
  | some s =>
    show (if (r, s.2 0, s.2 1, s.2 2) ∈ L then none else some (r, s.2, s.1)) = (if (r, s.2 0, s.2 1, s.2 2) ∈ L' then none else some (r, s.2, s.1))
    have i := hL _ (rm_ps_al (r := r) q)
    by_cases m : (r, s.2 0, s.2 1, s.2 2) ∈ L
    · rw [if_pos m, if_pos (i.mp m)]
    · rw [if_neg m, if_neg (fun z => m (i.mpr z))]
/-- three tags in falling order -/
def rm_m0 (a b c : Nat) : Nat := if a < b then (if b < c then c else b) else (if a < c then c else a)
def rm_m2 (a b c : Nat) : Nat := if a < b then (if a < c then a else c) else (if b < c then b else c)
def rm_m1 (a b c : Nat) : Nat := a + b + c - rm_m0 a b c - rm_m2 a b c
def rm_k2 (x a : Nat) : Nat := x * 1048576 + a
theorem rm_k2_lt {x y a b : Nat} (ha : a < 1048576) (hb : b < 1048576) : rm_k2 x a < rm_k2 y b ↔ x < y ∨ (x = y ∧ a < b) := by
  unfold rm_k2
  omega
theorem rm_k2_eq {x y a b : Nat} (ha : a < 1048576) (hb : b < 1048576) : rm_k2 x a = rm_k2 y b ↔ x = y ∧ a = b := by
  unfold rm_k2
  omega
def rm_kf (r a b c : Nat) : Nat := rm_k2 (rm_k2 (rm_k2 (rm_k2 (rm_k2 (rm_k2 (rm_m0 a b c) (rm_m1 a b c)) (rm_m2 a b c)) (7 - r)) a) b) c
def rm_ky (x : rm_It) : Nat := rm_kf x.1 (x.2.1 0) (x.2.1 1) (x.2.1 2)
theorem rm_mb {a b c : Nat} (ha : a < 1048576) (hb : b < 1048576) (hc : c < 1048576) : rm_m0 a b c < 1048576 ∧ rm_m1 a b c < 1048576 ∧ rm_m2 a b c < 1048576 := by
  unfold rm_m1 rm_m0 rm_m2
  split <;> split <;> split <;> omega
/-- the order of matches: does r, a, b, c come before r', a', b', c' -/
def rm_bt (r a b c r' a' b' c' : Nat) : Prop :=
  (((((rm_m0 a' b' c' < rm_m0 a b c ∨ (rm_m0 a' b' c' = rm_m0 a b c ∧ rm_m1 a' b' c' < rm_m1 a b c)) ∨ ((rm_m0 a' b' c' = rm_m0 a b c ∧ rm_m1 a' b' c' = rm_m1 a b c) ∧ rm_m2 a' b' c' < rm_m2 a b c)) ∨
    (((rm_m0 a' b' c' = rm_m0 a b c ∧ rm_m1 a' b' c' = rm_m1 a b c) ∧ rm_m2 a' b' c' = rm_m2 a b c) ∧ 7 - r' < 7 - r)) ∨
    ((((rm_m0 a' b' c' = rm_m0 a b c ∧ rm_m1 a' b' c' = rm_m1 a b c) ∧ rm_m2 a' b' c' = rm_m2 a b c) ∧ 7 - r' = 7 - r) ∧ a' < a)) ∨
    (((((rm_m0 a' b' c' = rm_m0 a b c ∧ rm_m1 a' b' c' = rm_m1 a b c) ∧ rm_m2 a' b' c' = rm_m2 a b c) ∧ 7 - r' = 7 - r) ∧ a' = a) ∧ b' < b)) ∨
    ((((((rm_m0 a' b' c' = rm_m0 a b c ∧ rm_m1 a' b' c' = rm_m1 a b c) ∧ rm_m2 a' b' c' = rm_m2 a b c) ∧ 7 - r' = 7 - r) ∧ a' = a) ∧ b' = b) ∧ c' < c)
theorem rm_bt_k {r a b c r' a' b' c' : Nat} (ha : a < 1048576) (hb : b < 1048576) (hc : c < 1048576) (ha' : a' < 1048576) (hb' : b' < 1048576) (hc' : c' < 1048576) :
    rm_bt r a b c r' a' b' c' ↔ rm_kf r' a' b' c' < rm_kf r a b c := by
  have q : 7 - r < 1048576 := by omega
  have q' : 7 - r' < 1048576 := by omega
  obtain ⟨_, h1, h2⟩ := rm_mb ha hb hc
  obtain ⟨_, h1', h2'⟩ := rm_mb ha' hb' hc'
  unfold rm_bt rm_kf
  rw [rm_k2_lt hc' hc, rm_k2_lt hb' hb, rm_k2_lt ha' ha, rm_k2_lt q' q, rm_k2_lt h2' h2, rm_k2_lt h1' h1, rm_k2_eq hb' hb, rm_k2_eq ha' ha, rm_k2_eq q' q, rm_k2_eq h2' h2, rm_k2_eq h1' h1]
theorem rm_kf_i {r a b c r' a' b' c' : Nat} (ha : a < 1048576) (hb : b < 1048576) (hc : c < 1048576) (ha' : a' < 1048576) (hb' : b' < 1048576) (hc' : c' < 1048576) (hr : r < 7) (hr' : r' < 7) (e : rm_kf r a b c = rm_kf r' a' b' c') : r = r' ∧ a = a' ∧ b = b' ∧ c = c' := by
  unfold rm_kf at e
  have q : 7 - r < 1048576 := by omega
  have q' : 7 - r' < 1048576 := by omega
  rw [rm_k2_eq hc hc', rm_k2_eq hb hb', rm_k2_eq ha ha', rm_k2_eq q q'] at e
  obtain ⟨⟨⟨⟨_, e1⟩, e2⟩, e3⟩, e4⟩ := e
  exact ⟨by omega, e2, e3, e4⟩
/-- the best so far, and one more -/
def rm_ub (b o : Option rm_It) : Option rm_It :=
  match o with
  | none => b
  | some x => match b with
    | none => some x
    | some y => if rm_ky y < rm_ky x then some x else some y
def rm_fc (f : Nat → Option rm_It) (b : Option rm_It) : Nat → Option rm_It
  | 0 => b
  | i + 1 => rm_ub (rm_fc f b i) (f i)
def rm_fr (om : Nat → Nat → Option rm_It) (M : Nat → Nat) : Nat → Option rm_It
  | 0 => none
  | r + 1 => rm_fc (om r) (rm_fr om M r) (M r)
def rm_ch (S : rm_It → Prop) (b : Option rm_It) : Prop := (∀ x, b = some x → S x) ∧ (∀ x, S x → ∃ y, b = some y ∧ rm_ky x ≤ rm_ky y)
theorem rm_ch_ub {S : rm_It → Prop} {b o : Option rm_It} (h : rm_ch S b) : rm_ch (fun x => S x ∨ o = some x) (rm_ub b o) := by
  cases o with
  | none =>
    refine ⟨fun x e => Or.inl (h.1 x e), fun x e => ?_⟩
    rcases e with e | e
    · exact h.2 x e
    · cases e
  | some x =>
    cases b with
    | none =>
      refine ⟨fun y e => Or.inr e, fun y e => ?_⟩
      rcases e with e | e
      · obtain ⟨z, hz, _⟩ := h.2 y e
        cases hz
      · cases e
        exact ⟨x, rfl, Nat.le_refl _⟩
    | some y =>
      have hy := h.1 y rfl
      show rm_ch _ (if rm_ky y < rm_ky x then some x else some y)
      by_cases k : rm_ky y < rm_ky x
      · rw [if_pos k]
        refine ⟨fun z e => Or.inr e, fun z e => ?_⟩
        rcases e with e | e
        · obtain ⟨w, hw, l⟩ := h.2 z e
          cases hw
          exact ⟨x, rfl, by omega⟩
        · cases e
          exact ⟨x, rfl, Nat.le_refl _⟩
      · rw [if_neg k]
        refine ⟨fun z e => Or.inl (h.1 z e), fun z e => ?_⟩
        rcases e with e | e
        · exact h.2 z e
        · cases e
          exact ⟨y, rfl, by omega⟩
theorem rm_ch_c {S S' : rm_It → Prop} {b : Option rm_It} (e : ∀ x, S x ↔ S' x) (h : rm_ch S b) : rm_ch S' b :=
  ⟨fun x z => (e x).mp (h.1 x z), fun x z => h.2 x ((e x).mpr z)⟩
theorem rm_ch_fc {S : rm_It → Prop} {f : Nat → Option rm_It} {b : Option rm_It} (h : rm_ch S b) : ∀ i, rm_ch (fun x => S x ∨ ∃ c, c < i ∧ f c = some x) (rm_fc f b i) := by
  intro i
  induction i with
  | zero =>
    refine rm_ch_c (fun x => ⟨Or.inl, ?_⟩) h
    rintro (e | ⟨c, hc, _⟩)
    · exact e
    · omega
  | succ i ih =>
    refine rm_ch_c (fun x => ?_) (rm_ch_ub (o := f i) ih)
    constructor
    · rintro ((e | ⟨c, hc, e⟩) | e)
      · exact Or.inl e
      · exact Or.inr ⟨c, by omega, e⟩
      · exact Or.inr ⟨i, by omega, e⟩
    · rintro (e | ⟨c, hc, e⟩)
      · exact Or.inl (Or.inl e)
      · by_cases z : c = i
        · exact Or.inr (z ▸ e)
        · exact Or.inl (Or.inr ⟨c, by omega, e⟩)
theorem rm_ch_fr {om : Nat → Nat → Option rm_It} {M : Nat → Nat} : ∀ m, rm_ch (fun x => ∃ r, r < m ∧ ∃ c, c < M r ∧ om r c = some x) (rm_fr om M m) := by
  intro m
  induction m with
  | zero =>
    have z0 : ∀ x, rm_fr om M 0 = some x → False := by
      intro x e
      have z : (none : Option rm_It) = some x := e
      cases z
    refine ⟨fun x e => (z0 x e).elim, ?_⟩
    rintro x ⟨r, hr, _⟩
    omega
  | succ m ih =>
    refine rm_ch_c (fun x => ?_) (rm_ch_fc (f := om m) ih (M m))
    constructor
    · rintro (⟨r, hr, e⟩ | e)
      · exact ⟨r, by omega, e⟩
      · exact ⟨m, by omega, e⟩
    · rintro ⟨r, hr, e⟩
      by_cases z : r = m
      · exact Or.inr (z ▸ e)
      · exact Or.inl ⟨r, by omega, e⟩
theorem rm_ch_u {S : rm_It → Prop} {b b' : Option rm_It} (inj : ∀ x y, S x → S y → rm_ky x = rm_ky y → x = y) (h : rm_ch S b) (h' : rm_ch S b') : b = b' := by
  cases b with
  | none =>
    cases b' with
    | none => rfl
    | some y =>
      obtain ⟨z, hz, _⟩ := h.2 y (h'.1 y rfl)
      cases hz
  | some x =>
    obtain ⟨y, hy, l⟩ := h'.2 x (h.1 x rfl)
    rw [hy]
    obtain ⟨z, hz, l2⟩ := h.2 y (h'.1 y hy)
    cases hz
    rw [inj x y (h.1 x rfl) (h'.1 y hy) (by omega)]
theorem rm_om_inj {T C : Nat → Nat} {n : Nat} {P : Nat → Nat → Nat} {N : Nat → Nat → Bool} {sz : Nat → Nat} {L : List rm_Fi} {m : Nat} (hm : m ≤ 5) (hz : ∀ r, r < m → sz r ≤ 3) (hT : rm_in T n) (hb : ∀ i, i < n → T i < 1048576) {x y : rm_It}
    (hx : ∃ r, r < m ∧ ∃ c, c < 12 ^ rm_pc (N r) (sz r) ∧ rm_om T C n P N sz L r c = some x) (hy : ∃ r, r < m ∧ ∃ c, c < 12 ^ rm_pc (N r) (sz r) ∧ rm_om T C n P N sz L r c = some y) (e : rm_ky x = rm_ky y) : x = y := by
  obtain ⟨r, hr, c, _, ex⟩ := hx
  obtain ⟨r', hr', c', _, ey⟩ := hy
  unfold rm_om at ex ey
  obtain ⟨s, hs, ex⟩ := Option.bind_eq_some_iff.mp ex
  obtain ⟨s', hs', ey⟩ := Option.bind_eq_some_iff.mp ey
  have ex2 : (r, s.2, s.1) = x := by
    by_cases z : (r, s.2 0, s.2 1, s.2 2) ∈ L
    · rw [if_pos z] at ex; cases ex
    · rw [if_neg z] at ex; exact Option.some.inj ex
  have ey2 : (r', s'.2, s'.1) = y := by
    by_cases z : (r', s'.2 0, s'.2 1, s'.2 2) ∈ L
    · rw [if_pos z] at ey; cases ey
    · rw [if_neg z] at ey; exact Option.some.inj ey
  obtain ⟨_, g1, g2⟩ := rm_ps_g _ s hs
  obtain ⟨_, g1', g2'⟩ := rm_ps_g _ s' hs'
  have b1 : ∀ k, s.2 k < 1048576 := by
    intro k
    by_cases hk : k < rm_pc (N r) (sz r)
    · rw [(g1 k hk).2]; exact hb _ (g1 k hk).1
    · rw [g2 k hk]; omega
  have b2 : ∀ k, s'.2 k < 1048576 := by
    intro k
    by_cases hk : k < rm_pc (N r') (sz r')
    · rw [(g1' k hk).2]; exact hb _ (g1' k hk).1
    · rw [g2' k hk]; omega
  rw [← ex2, ← ey2] at e
  have e' : rm_kf r (s.2 0) (s.2 1) (s.2 2) = rm_kf r' (s'.2 0) (s'.2 1) (s'.2 2) := e
  obtain ⟨q1, q2, q3, q4⟩ := rm_kf_i (b1 0) (b1 1) (b1 2) (b2 0) (b2 1) (b2 2) (by omega) (by omega) e'
  subst q1
  have hp : rm_pc (N r) (sz r) ≤ 3 := Nat.le_trans (rm_pc_b _ _) (hz r hr)
  have k3 : ∀ k, k < rm_pc (N r) (sz r) → s.2 k = s'.2 k := by
    intro k hk
    have : k = 0 ∨ k = 1 ∨ k = 2 := by omega
    rcases this with z | z | z
    · rw [z]; exact q2
    · rw [z]; exact q3
    · rw [z]; exact q4
  have eq : rm_ps T C n (rm_D c) (P r) (N r) (sz r) = rm_ps T C n (rm_D c') (P r) (N r) (sz r) := by
    apply rm_ps_eq (fun _ _ => rfl)
    intro k hk
    have a := g1 k hk
    have b := g1' k hk
    have d : rm_D c k = rm_D c' k := hT _ _ a.1 b.1 (by rw [← a.2, ← b.2]; exact k3 k hk)
    exact Or.inl ⟨a.1, b.1, by rw [d], by rw [d]⟩
  rw [hs, hs'] at eq
  cases eq
  rw [← ex2, ← ey2]
/-- the match that comes first is the same one on both sides -/
theorem rm_fr_eq {T C T' C' : Nat → Nat} {n : Nat} {P : Nat → Nat → Nat} {N : Nat → Nat → Bool} {sz : Nat → Nat} {L L' : List rm_Fi} {m : Nat} (hm : m ≤ 5) (hz : ∀ r, r < m → sz r ≤ 3) (hb : ∀ i, i < n → T i < 1048576) (hn : n ≤ 12) (hT : rm_in T n) (hT' : rm_in T' n) (h : rm_em T C T' C' n) (h' : rm_em T' C' T C n) (hL : ∀ x, rm_al T n x = true → (x ∈ L ↔ x ∈ L')) :
    rm_fr (rm_om T C n P N sz L) (fun r => 12 ^ rm_pc (N r) (sz r)) m = rm_fr (rm_om T' C' n P N sz L') (fun r => 12 ^ rm_pc (N r) (sz r)) m := by
  have hL' : ∀ x, rm_al T' n x = true → (x ∈ L' ↔ x ∈ L) := by
    intro x hx
    rw [← rm_al_c h h'] at hx
    exact (hL x hx).symm
  have c1 := rm_ch_fr (om := rm_om T C n P N sz L) (M := fun r => 12 ^ rm_pc (N r) (sz r)) m
  have c2 := rm_ch_fr (om := rm_om T' C' n P N sz L') (M := fun r => 12 ^ rm_pc (N r) (sz r)) m
  refine rm_ch_u (fun x y hx hy e => rm_om_inj (C := C) (P := P) (N := N) (L := L) hm hz hT hb hx hy e) c1 (rm_ch_c (fun x => ?_) c2)
  constructor
  · rintro ⟨r, hr, e⟩
    exact ⟨r, hr, rm_sub_m (rm_om_sub r hn hT' hT h' h hL') e⟩
  · rintro ⟨r, hr, e⟩
    exact ⟨r, hr, rm_sub_m (rm_om_sub r hn hT hT' h h' hL) e⟩
theorem rm_on_eq {T C T' C' : Nat → Nat} {n : Nat} {P : Nat → Nat → Nat} {N : Nat → Nat → Bool} {sz : Nat → Nat} {L L' : List rm_Fi} (r : Nat) (hn : n ≤ 12) (hT : rm_in T n) (hT' : rm_in T' n) (h : rm_em T C T' C' n) (h' : rm_em T' C' T C n) (hL : ∀ x, rm_al T n x = true → (x ∈ L ↔ x ∈ L')) :
    rm_cn (fun c => (rm_om T C n P N sz L r c).isSome) (12 ^ rm_pc (N r) (sz r)) = rm_cn (fun c => (rm_om T' C' n P N sz L' r c).isSome) (12 ^ rm_pc (N r) (sz r)) := by
  have hL' : ∀ x, rm_al T' n x = true → (x ∈ L' ↔ x ∈ L) := by
    intro x hx
    rw [← rm_al_c h h'] at hx
    exact (hL x hx).symm
  exact Nat.le_antisymm (rm_sub_n (rm_om_sub r hn hT hT' h h' hL)) (rm_sub_n (rm_om_sub r hn hT' hT h' h hL'))
theorem rm_pn_eq {T C T' C' : Nat → Nat} {n : Nat} {P : Nat → Nat} {N : Nat → Bool} {z : Nat} (hn : n ≤ 12) (hT : rm_in T n) (hT' : rm_in T' n) (h : rm_em T C T' C' n) (h' : rm_em T' C' T C n) :
    rm_cn (fun c => (rm_ps T C n (rm_D c) P N z).isSome) (12 ^ rm_pc N z) = rm_cn (fun c => (rm_ps T' C' n (rm_D c) P N z).isSome) (12 ^ rm_pc N z) :=
  Nat.le_antisymm (rm_sub_n (rm_pm_sub hn hT hT' h h')) (rm_sub_n (rm_pm_sub hn hT' hT h' h))
/-- how many matches of the first rules have not fired -/
def rm_oc (om : Nat → Nat → Option rm_It) (M : Nat → Nat) : Nat → Nat
  | 0 => 0
  | r + 1 => rm_oc om M r + rm_cn (fun c => (om r c).isSome) (M r)
theorem rm_oc_eq {om om' : Nat → Nat → Option rm_It} {M : Nat → Nat} (h : ∀ r, rm_cn (fun c => (om r c).isSome) (M r) = rm_cn (fun c => (om' r c).isSome) (M r)) : ∀ m, rm_oc om M m = rm_oc om' M m := by
  intro m
  induction m with
  | zero => rfl
  | succ m ih =>
    show rm_oc om M m + _ = rm_oc om' M m + _
    rw [ih, h m]
end
section
def rm_ent (fr ft : Nat → Int32) (i : Nat) (x : rm_Fi) : Prop := fr i = nI x.1 ∧ ft (3 * i) = nI x.2.1 ∧ ft (3 * i + 1) = nI x.2.2.1 ∧ ft (3 * i + 2) = nI x.2.2.2
/-- the arrays hold the row of fired matches -/
def rm_Fl (fr ft : Nat → Int32) (L : List rm_Fi) : Prop := ∀ i x, L[i]? = some x → rm_ent fr ft i x
theorem rm_lt_of {L : List rm_Fi} {i : Nat} {x : rm_Fi} (h : L[i]? = some x) : i < L.length := by
  apply Decidable.byContradiction
  intro z
  rw [List.getElem?_eq_none (by omega)] at h
  cases h
theorem rm_get {L : List rm_Fi} {i : Nat} (h : i < L.length) : ∃ x, L[i]? = some x := ⟨L[i], List.getElem?_eq_getElem h⟩
theorem rm_Fl_app {fr ft fr' ft' : Nat → Int32} {L : List rm_Fi} {x : rm_Fi} (h : rm_Fl fr ft L) (h1 : ∀ j, j < L.length → fr' j = fr j) (h2 : ∀ j, j < 3 * L.length → ft' j = ft j) (h3 : rm_ent fr' ft' L.length x) : rm_Fl fr' ft' (L ++ [x]) := by
  intro i y hy
  by_cases hi : i < L.length
  · rw [List.getElem?_append_left hi] at hy
    obtain ⟨a, b, c, d⟩ := h i y hy
    refine ⟨?_, ?_, ?_, ?_⟩
    · rw [h1 i hi]; exact a
    · rw [h2 _ (by omega)]; exact b
    · rw [h2 _ (by omega)]; exact c
    · rw [h2 _ (by omega)]; exact d
  · have hl := rm_lt_of hy
    rw [List.length_append] at hl
    have hl2 : i = L.length := by
      have : [x].length = 1 := rfl
      omega
    subst hl2
    rw [List.getElem?_concat_length] at hy
    cases hy
    exact h3
theorem rm_tk {L : List rm_Fi} {i : Nat} {x : rm_Fi} (h : L[i]? = some x) : L.take (i + 1) = L.take i ++ [x] := by
  rw [List.take_add_one, h]
  rfl
/-- halfway through a compaction -/
def rm_Cp (fr ft : Nat → Int32) (L : List rm_Fi) (q : rm_Fi → Bool) (i : Nat) : Prop := rm_Fl fr ft ((L.take i).filter q) ∧ ∀ j x, i ≤ j → L[j]? = some x → rm_ent fr ft j x
theorem rm_Cp_0 {fr ft : Nat → Int32} {L : List rm_Fi} {q : rm_Fi → Bool} (h : rm_Fl fr ft L) : rm_Cp fr ft L q 0 :=
  ⟨fun i x hx => by simp at hx, fun j x _ hx => h j x hx⟩
theorem rm_Cp_e {fr ft : Nat → Int32} {L : List rm_Fi} {q : rm_Fi → Bool} (h : rm_Cp fr ft L q L.length) : rm_Fl fr ft (L.filter q) := by
  have := h.1
  rw [List.take_length] at this
  exact this
theorem rm_kl {L : List rm_Fi} {q : rm_Fi → Bool} {i : Nat} : ((L.take i).filter q).length ≤ i :=
  Nat.le_trans (List.length_filter_le _ _) (List.length_take_le _ _)
theorem rm_Cp_d {fr ft : Nat → Int32} {L : List rm_Fi} {q : rm_Fi → Bool} {i : Nat} {x : rm_Fi} (h : rm_Cp fr ft L q i) (hx : L[i]? = some x) (hq : q x = false) : rm_Cp fr ft L q (i + 1) ∧ ((L.take (i + 1)).filter q).length = ((L.take i).filter q).length := by
  have e : (L.take (i + 1)).filter q = (L.take i).filter q := by
    rw [rm_tk hx, List.filter_append]
    simp [hq]
  unfold rm_Cp
  rw [e]
  exact ⟨⟨h.1, fun j y hj hy => h.2 j y (by omega) hy⟩, rfl⟩
theorem rm_Cp_k {fr ft fr' ft' : Nat → Int32} {L : List rm_Fi} {q : rm_Fi → Bool} {i k : Nat} {x : rm_Fi} (h : rm_Cp fr ft L q i) (hx : L[i]? = some x) (hq : q x = true) (hk : ((L.take i).filter q).length = k)
    (h0 : fr' k = fr i) (h1 : ft' (3 * k) = ft (3 * i)) (h2 : ft' (3 * k + 1) = ft (3 * i + 1)) (h3 : ft' (3 * k + 2) = ft (3 * i + 2)) (h4 : ∀ j, j ≠ k → fr' j = fr j) (h5 : ∀ j, j < 3 * k ∨ 3 * k + 3 ≤ j → ft' j = ft j) :
    rm_Cp fr' ft' L q (i + 1) ∧ ((L.take (i + 1)).filter q).length = k + 1 := by
  have e : (L.take (i + 1)).filter q = (L.take i).filter q ++ [x] := by
    rw [rm_tk hx, List.filter_append]
    simp [hq]
  have hki : k ≤ i := hk ▸ rm_kl
  obtain ⟨x0, x1, x2, x3⟩ := h.2 i x (Nat.le_refl i) hx
  unfold rm_Cp
  rw [e]
  refine ⟨⟨?_, ?_⟩, ?_⟩
  · apply rm_Fl_app h.1
    · intro j hj
      exact h4 j (by omega)
    · intro j hj
      exact h5 j (by omega)
    · rw [hk]
      exact ⟨h0.trans x0, h1.trans x1, h2.trans x2, h3.trans x3⟩
  · intro j y hj hy
    obtain ⟨y0, y1, y2, y3⟩ := h.2 j y (by omega) hy
    refine ⟨?_, ?_, ?_, ?_⟩
    · rw [h4 j (by omega)]; exact y0
    · rw [h5 _ (by omega)]; exact y1
    · rw [h5 _ (by omega)]; exact y2
    · rw [h5 _ (by omega)]; exact y3
  · rw [List.length_append, hk]
    rfl
/-- an element is taken out -/
def rm_dr (T C T' C' : Nat → Nat) (n i : Nat) (f : Nat → Nat) : Prop :=
  (∀ j, j < n → f j < n + 1 ∧ f j ≠ i ∧ T' j = T (f j) ∧ C' j = C (f j)) ∧ (∀ j k, j < n → k < n → f j = f k → j = k) ∧ (∀ k, k < n + 1 → k ≠ i → ∃ j, j < n ∧ f j = k)
theorem rm_dr_x {T C : Nat → Nat} {n i : Nat} (hi : i < n + 1) : rm_dr T C (fun j => if j = i then T n else T j) (fun j => if j = i then C n else C j) n i (fun j => if j = i then n else j) := by
  refine ⟨fun j hj => ?_, fun j k hj hk e => ?_, fun k hk e => ?_⟩
  · by_cases z : j = i
    · simp only [if_pos z]
      exact ⟨by omega, by omega, trivial, trivial⟩
    · simp only [if_neg z]
      exact ⟨by omega, z, trivial, trivial⟩
  · by_cases z : j = i
    · by_cases y : k = i
      · omega
      · simp only [if_pos z, if_neg y] at e
        omega
    · by_cases y : k = i
      · simp only [if_neg z, if_pos y] at e
        omega
      · simp only [if_neg z, if_neg y] at e
        exact e
  · by_cases z : k = n
    · exact ⟨i, by omega, by simp only [if_pos]; exact z.symm⟩
    · exact ⟨k, by omega, by simp only [if_neg e]⟩
theorem rm_dr_y {T C : Nat → Nat} {n i : Nat} (hi : i < n + 1) : rm_dr T C (fun j => if j < i then T j else T (j + 1)) (fun j => if j < i then C j else C (j + 1)) n i (fun j => if j < i then j else j + 1) := by
  refine ⟨fun j hj => ?_, fun j k hj hk e => ?_, fun k hk e => ?_⟩
  · by_cases z : j < i
    · simp only [if_pos z]
      exact ⟨by omega, by omega, trivial, trivial⟩
    · simp only [if_neg z]
      exact ⟨by omega, by omega, trivial, trivial⟩
  · by_cases z : j < i
    · by_cases y : k < i
      · simp only [if_pos z, if_pos y] at e
        exact e
      · simp only [if_pos z, if_neg y] at e
        omega
    · by_cases y : k < i
      · simp only [if_neg z, if_pos y] at e
        omega
      · simp only [if_neg z, if_neg y] at e
        omega
  · by_cases z : k < i
    · exact ⟨k, by omega, by simp only [if_pos z]⟩
    · refine ⟨k - 1, by omega, ?_⟩
      have y : ¬ k - 1 < i := by omega
      simp only [if_neg y]
      omega
theorem rm_dr_in {T C T' C' f : Nat → Nat} {n i : Nat} (h : rm_dr T C T' C' n i f) (hT : rm_in T (n + 1)) : rm_in T' n := by
  intro j k hj hk e
  obtain ⟨a1, a2, a3, a4⟩ := h.1 j hj
  obtain ⟨b1, b2, b3, b4⟩ := h.1 k hk
  exact h.2.1 j k hj hk (hT _ _ a1 b1 (by rw [← a3, ← b3, e]))
theorem rm_dr_em {T C T' C' f U B U' B' f' : Nat → Nat} {n i i' : Nat} (h : rm_dr T C T' C' n i f) (h' : rm_dr U B U' B' n i' f') (hi : i < n + 1) (hT : rm_in T (n + 1)) (he : rm_em T C U B (n + 1)) (e : T i = U i') : rm_em T' C' U' B' n := by
  intro j hj
  obtain ⟨a1, a2, a3, a4⟩ := h.1 j hj
  obtain ⟨k, k1, k2, k3⟩ := he (f j) a1
  have hk : k ≠ i' := by
    intro z
    rw [z, ← e] at k2
    exact a2 (hT _ _ hi a1 k2).symm
  obtain ⟨j', c1, c2⟩ := h'.2.2 k k1 hk
  obtain ⟨b1, b2, b3, b4⟩ := h'.1 j' c1
  refine ⟨j', c1, ?_, ?_⟩
  · rw [b3, c2, k2, a3]
  · rw [b4, c2, k3, a4]
theorem rm_dr_e1 {T C T' C' f : Nat → Nat} {n i : Nat} (h : rm_dr T C T' C' n i f) (hi : i < n + 1) (hT : rm_in T (n + 1)) (h0 : T i ≠ 0) (s : Nat) : rm_e1 T' n s = (rm_e1 T (n + 1) s && !(decide (s = T i))) := by
  apply Bool.eq_iff_iff.mpr
  rw [Bool.and_eq_true, rm_e1_i, rm_e1_i]
  constructor
  · rintro (z | ⟨j, hj, z⟩)
    · exact ⟨Or.inl z, by have : s ≠ T i := by omega
                          simp [this]⟩
    · obtain ⟨a1, a2, a3, a4⟩ := h.1 j hj
      have y : s ≠ T i := by
        intro w
        rw [a3, w] at z
        exact a2 (hT _ _ a1 hi z)
      exact ⟨Or.inr ⟨f j, a1, a3.symm.trans z⟩, by simp [y]⟩
  · rintro ⟨z | ⟨k, hk, z⟩, y⟩
    · exact Or.inl z
    · have y2 : s ≠ T i := by simpa using y
      have e : k ≠ i := by
        intro w
        rw [w] at z
        exact y2 z.symm
      obtain ⟨j, hj, c2⟩ := h.2.2 k hk e
      obtain ⟨a1, a2, a3, a4⟩ := h.1 j hj
      exact Or.inr ⟨j, hj, by rw [a3, c2, z]⟩
/-- no tag of x is t -/
def rm_nt (t : Nat) (x : rm_Fi) : Bool := !(decide (x.2.1 = t)) && (!(decide (x.2.2.1 = t)) && !(decide (x.2.2.2 = t)))
theorem rm_dr_al {T C T' C' f : Nat → Nat} {n i : Nat} (h : rm_dr T C T' C' n i f) (hi : i < n + 1) (hT : rm_in T (n + 1)) (h0 : T i ≠ 0) (L : List rm_Fi) : (L.filter (rm_al T (n + 1))).filter (rm_nt (T i)) = L.filter (rm_al T' n) := by
  rw [List.filter_filter]
  apply List.filter_congr
  intro x _
  unfold rm_al rm_nt
  rw [rm_dr_e1 h hi hT h0, rm_dr_e1 h hi hT h0, rm_dr_e1 h hi hT h0]
  cases rm_e1 T (n + 1) x.2.1 <;> cases rm_e1 T (n + 1) x.2.2.1 <;> cases rm_e1 T (n + 1) x.2.2.2 <;> simp
/-- an element is put at the end -/
theorem rm_mk_em {T C U B T' C' U' B' : Nat → Nat} {n : Nat} (h : rm_em T C U B n) (t1 : ∀ i, i < n → T' i = T i ∧ C' i = C i) (u1 : ∀ i, i < n → U' i = U i ∧ B' i = B i) (t2 : U' n = T' n) (u2 : B' n = C' n) : rm_em T' C' U' B' (n + 1) := by
  intro i hi
  by_cases e : i = n
  · rw [e]
    exact ⟨n, by omega, t2, u2⟩
  · obtain ⟨j, a, b, c⟩ := h i (by omega)
    have x := t1 i (by omega)
    have y := u1 j a
    exact ⟨j, by omega, by rw [y.1, x.1, b], by rw [y.2, x.2, c]⟩
theorem rm_mk_al {T T' : Nat → Nat} {n l : Nat} (t1 : ∀ i, i < n → T' i = T i) (t2 : T' n = l + 1) (L : List rm_Fi) (hL : ∀ x, x ∈ L → x.2.1 ≤ l ∧ x.2.2.1 ≤ l ∧ x.2.2.2 ≤ l) : L.filter (rm_al T' (n + 1)) = L.filter (rm_al T n) := by
  apply List.filter_congr
  intro x hx
  obtain ⟨a, b, c⟩ := hL x hx
  have e : ∀ s, s ≤ l → rm_e1 T' (n + 1) s = rm_e1 T n s := by
    intro s hs
    apply Bool.eq_iff_iff.mpr
    rw [rm_e1_i, rm_e1_i]
    constructor
    · rintro (z | ⟨i, hi, z⟩)
      · exact Or.inl z
      · by_cases y : i = n
        · rw [y, t2] at z; omega
        · exact Or.inr ⟨i, by omega, (t1 i (by omega)).symm.trans z⟩
    · rintro (z | ⟨i, hi, z⟩)
      · exact Or.inl z
      · exact Or.inr ⟨i, by omega, (t1 i hi).trans z⟩
  unfold rm_al
  rw [e _ a, e _ b, e _ c]
end
section
/-- the numbers of fired matches are small -/
def rm_LB (L : List rm_Fi) : Prop := ∀ x, x ∈ L → x.1 < 8 ∧ x.2.1 < 1048576 ∧ x.2.2.1 < 1048576 ∧ x.2.2.2 < 1048576
def rm_bI (b : Bool) : Int32 := if b = true then 1 else 0
def rm_w (f : Nat → Nat) (k x : Nat) : Nat → Nat := fun j => if j = k then x else f j
theorem rm_w_s {f : Nat → Nat} {k x : Nat} : rm_w f k x k = x := if_pos rfl
theorem rm_w_n {f : Nat → Nat} {k x j : Nat} (h : j ≠ k) : rm_w f k x j = f j := if_neg h
def rm_PE (n l : Nat) (T C : Nat → Nat) : Prop := rm_in T n ∧ ∀ i, i < n → 0 < T i ∧ T i ≤ l ∧ C i < 16384
def rm_PU (m : Nat) (sz ac : Nat → Nat) (P : Nat → Nat → Nat) (N : Nat → Nat → Bool) : Prop :=
  m ≤ 5 ∧ (∀ r, r ≤ m → sz r ≤ 3 ∧ (∀ i, i < sz r → P r i < 32000) ∧ (0 < sz r → N r 0 = false)) ∧ (∀ r, r < m → 0 < sz r ∧ ac r < 32004 ∧ (ac r < 4 → ac r ≤ rm_pc (N r) (sz r)))
def rm_PL (n l : Nat) (T : Nat → Nat) (LX LY : List rm_Fi) : Prop :=
  LX = LY.filter (rm_al T n) ∧ LY.length ≤ 40 ∧ (∀ x, x ∈ LY → x.2.1 ≤ l ∧ x.2.2.1 ≤ l ∧ x.2.2.2 ≤ l) ∧ ∀ x, x ∈ LY → x.1 < 8
def rm_PP (b n l : Nat) (T C U B : Nat → Nat) (LX LY : List rm_Fi) : Prop :=
  l ≤ b ∧ n ≤ 12 ∧ rm_PE n l T C ∧ rm_PE n l U B ∧ rm_em T C U B n ∧ rm_em U B T C n ∧ rm_PL n l T LX LY
theorem rm_PP_up {b b' n l : Nat} {T C U B : Nat → Nat} {LX LY : List rm_Fi} (h : rm_PP b n l T C U B LX LY) (hb : b ≤ b') : rm_PP b' n l T C U B LX LY := by
  obtain ⟨h1, h2⟩ := h
  exact ⟨by omega, h2⟩
theorem rm_PE_mk {n l c : Nat} {T C : Nat → Nat} (h : rm_PE n l T C) (hc : c < 16384) : rm_PE (n + 1) (l + 1) (rm_w T n (l + 1)) (rm_w C n c) := by
  obtain ⟨h1, h2⟩ := h
  refine ⟨fun i j hi hj e => ?_, fun i hi => ?_⟩
  · by_cases z : i = n
    · by_cases y : j = n
      · omega
      · rw [z, rm_w_s, rm_w_n y] at e
        have := h2 j (by omega)
        omega
    · by_cases y : j = n
      · rw [y, rm_w_s, rm_w_n z] at e
        have := h2 i (by omega)
        omega
      · rw [rm_w_n z, rm_w_n y] at e
        exact h1 i j (by omega) (by omega) e
  · by_cases z : i = n
    · rw [z, rm_w_s, rm_w_s]
      omega
    · rw [rm_w_n z, rm_w_n z]
      have := h2 i (by omega)
      omega
theorem rm_PP_mk {b n l c : Nat} {T C U B : Nat → Nat} {LX LY : List rm_Fi} (h : rm_PP b n l T C U B LX LY) (hn : n < 12) (hc : c < 16384) : rm_PP (b + 1) (n + 1) (l + 1) (rm_w T n (l + 1)) (rm_w C n c) (rm_w U n (l + 1)) (rm_w B n c) LX LY := by
  obtain ⟨h1, h2, h3, h4, h5, h6, h7, h8, h9, h10⟩ := h
  have w : ∀ (f g : Nat → Nat) (x y : Nat), ∀ i, i < n → rm_w f n x i = f i ∧ rm_w g n y i = g i := fun f g x y i hi => ⟨rm_w_n (by omega), rm_w_n (by omega)⟩
  refine ⟨by omega, by omega, rm_PE_mk h3 hc, rm_PE_mk h4 hc, ?_, ?_, ?_, h8, ?_, h10⟩
  · exact rm_mk_em h5 (w _ _ _ _) (w _ _ _ _) (by rw [rm_w_s, rm_w_s]) (by rw [rm_w_s, rm_w_s])
  · exact rm_mk_em h6 (w _ _ _ _) (w _ _ _ _) (by rw [rm_w_s, rm_w_s]) (by rw [rm_w_s, rm_w_s])
  · rw [h7]
    exact (rm_mk_al (T := T) (T' := rm_w T n (l + 1)) (fun i hi => rm_w_n (by omega)) rm_w_s LY h9).symm
  · intro x hx
    have := h9 x hx
    omega
def rm_dx (f : Nat → Nat) (n i : Nat) : Nat → Nat := fun j => if j = i then f n else f j
def rm_dy (f : Nat → Nat) (i : Nat) : Nat → Nat := fun j => if j < i then f j else f (j + 1)
theorem rm_PE_dr {n l i : Nat} {T C T' C' f : Nat → Nat} (h : rm_PE (n + 1) l T C) (d : rm_dr T C T' C' n i f) : rm_PE n l T' C' := by
  refine ⟨rm_dr_in d h.1, fun j hj => ?_⟩
  obtain ⟨a1, a2, a3, a4⟩ := d.1 j hj
  rw [a3, a4]
  exact h.2 _ a1
theorem rm_PP_dr {b n l i i' : Nat} {T C U B : Nat → Nat} {LX LY : List rm_Fi} (h : rm_PP b (n + 1) l T C U B LX LY) (hi : i < n + 1) (hi' : i' < n + 1) (e : T i = U i') : rm_PP b n l (rm_dx T n i) (rm_dx C n i) (rm_dy U i') (rm_dy B i') (LX.filter (rm_nt (T i))) LY := by
  obtain ⟨h1, h2, h3, h4, h5, h6, h7, h8, h9, h10⟩ := h
  have dx := rm_dr_x (T := T) (C := C) hi
  have dy := rm_dr_y (T := U) (C := B) hi'
  have t0 := h3.2 i hi
  refine ⟨h1, by omega, rm_PE_dr h3 dx, rm_PE_dr h4 dy, rm_dr_em dx dy hi h3.1 h5 e, rm_dr_em dy dx hi' h4.1 h6 e.symm, ?_, h8, h9, h10⟩
  rw [h7]
  exact rm_dr_al dx hi h3.1 (by omega) LY
theorem rm_PP_nil {b n l : Nat} {T C U B : Nat → Nat} {LX LY : List rm_Fi} (h : rm_PP b n l T C U B LX LY) : rm_PP b n l T C U B [] [] := by
  obtain ⟨h1, h2, h3, h4, h5, h6, h7, h8, h9, h10⟩ := h
  exact ⟨h1, h2, h3, h4, h5, h6, rfl, Nat.zero_le _, (fun x hx => by cases hx), fun x hx => by cases hx⟩
theorem rm_PP_len {b n l : Nat} {T C U B : Nat → Nat} {LX LY : List rm_Fi} (h : rm_PP b n l T C U B LX LY) : LX.length ≤ 40 := by
  obtain ⟨h1, h2, h3, h4, h5, h6, h7, h8, h9, h10⟩ := h
  rw [h7]
  exact Nat.le_trans (List.length_filter_le _ _) h8
theorem rm_PP_mem {b n l : Nat} {T C U B : Nat → Nat} {LX LY : List rm_Fi} (h : rm_PP b n l T C U B LX LY) : ∀ x, rm_al T n x = true → (x ∈ LX ↔ x ∈ LY) := by
  obtain ⟨h1, h2, h3, h4, h5, h6, h7, h8, h9, h10⟩ := h
  intro x hx
  rw [h7, List.mem_filter]
  exact ⟨fun z => z.1, fun z => ⟨z, hx⟩⟩
/-- the reference forgets: both rows are the same then -/
theorem rm_PP_fg {b n l : Nat} {T C U B : Nat → Nat} {LX LY : List rm_Fi} (h : rm_PP b n l T C U B LX LY) : rm_PP b n l T C U B LX LX ∧ LY.filter (rm_al U n) = LX := by
  have hl := rm_PP_len h
  obtain ⟨h1, h2, h3, h4, h5, h6, h7, h8, h9, h10⟩ := h
  refine ⟨⟨h1, h2, h3, h4, h5, h6, ?_, hl, ?_, ?_⟩, ?_⟩
  · rw [List.filter_eq_self.mpr]
    intro x hx
    rw [h7, List.mem_filter] at hx
    exact hx.2
  · intro x hx
    rw [h7, List.mem_filter] at hx
    exact h9 x hx.1
  · intro x hx
    rw [h7, List.mem_filter] at hx
    exact h10 x hx.1
  · rw [h7, rm_al_c h5 h6]
theorem rm_PP_app {b n l : Nat} {T C U B : Nat → Nat} {L : List rm_Fi} {x : rm_Fi} (h : rm_PP b n l T C U B L L) (hl : L.length < 40) (hx : rm_al T n x = true) (h8x : x.1 < 8) : rm_PP b n l T C U B (L ++ [x]) (L ++ [x]) := by
  obtain ⟨h1, h2, h3, h4, h5, h6, h7, h8, h9, h10⟩ := h
  refine ⟨h1, h2, h3, h4, h5, h6, ?_, ?_, ?_, ?_⟩
  · rw [List.filter_append, ← h7]
    simp [hx]
  · rw [List.length_append]
    show L.length + 1 ≤ 40
    omega
  · intro y hy
    rw [List.mem_append] at hy
    rcases hy with hy | hy
    · exact h9 y hy
    · have e : y = x := by simpa using hy
      rw [e]
      rw [rm_al_i, rm_e1_i, rm_e1_i, rm_e1_i] at hx
      have q : ∀ s, (s = 0 ∨ ∃ i, i < n ∧ T i = s) → s ≤ l := by
        rintro s (z | ⟨i, hi, z⟩)
        · omega
        · have := h3.2 i hi
          omega
      exact ⟨q _ hx.1, q _ hx.2.1, q _ hx.2.2⟩
  · intro y hy
    rw [List.mem_append] at hy
    rcases hy with hy | hy
    · exact h10 y hy
    · have e : y = x := by simpa using hy
      rw [e]; exact h8x
/-- rules -/
theorem rm_PU_cond {m p : Nat} {sz ac : Nat → Nat} {P : Nat → Nat → Nat} {N : Nat → Nat → Bool} {g : Bool} (h : rm_PU m sz ac P N) (hs : sz m < 3) (hp : p < 32000) (hg : sz m = 0 → g = false) :
    rm_PU m (rm_w sz m (sz m + 1)) ac (fun r i => if r = m ∧ i = sz m then p else P r i) (fun r i => if r = m ∧ i = sz m then g else N r i) := by
  obtain ⟨h1, h2, h3⟩ := h
  refine ⟨h1, fun r hr => ?_, fun r hr => ?_⟩
  · by_cases e : r = m
    · subst e
      rw [rm_w_s]
      refine ⟨by omega, fun i hi => ?_, fun _ => ?_⟩
      · by_cases z : i = sz r
        · show (if r = r ∧ i = sz r then p else P r i) < 32000
          rw [if_pos ⟨rfl, z⟩]; exact hp
        · show (if r = r ∧ i = sz r then p else P r i) < 32000
          rw [if_neg (fun y => z y.2)]
          exact (h2 r hr).2.1 i (by omega)
      · show (if r = r ∧ 0 = sz r then g else N r 0) = false
        by_cases z : 0 = sz r
        · rw [if_pos ⟨rfl, z⟩]; exact hg z.symm
        · rw [if_neg (fun y => z y.2)]
          exact (h2 r hr).2.2 (by omega)
    · rw [rm_w_n e]
      obtain ⟨a, b, c⟩ := h2 r hr
      refine ⟨a, fun i hi => ?_, fun z => ?_⟩
      · show (if r = m ∧ i = sz m then p else P r i) < 32000
        rw [if_neg (fun y => e y.1)]; exact b i hi
      · show (if r = m ∧ 0 = sz m then g else N r 0) = false
        rw [if_neg (fun y => e y.1)]; exact c z
  · have e : r ≠ m := by omega
    rw [rm_w_n e]
    obtain ⟨a, b, c⟩ := h3 r hr
    refine ⟨a, b, fun z => ?_⟩
    have q : rm_pc (fun i => if r = m ∧ i = sz m then g else N r i) (sz r) = rm_pc (N r) (sz r) := by
      apply rm_pc_c
      intro i _
      exact if_neg (fun y => e y.1)
    show ac r ≤ rm_pc (fun i => if r = m ∧ i = sz m then g else N r i) (sz r)
    rw [q]
    exact c z
theorem rm_PU_rule {m a : Nat} {sz ac : Nat → Nat} {P : Nat → Nat → Nat} {N : Nat → Nat → Bool} (h : rm_PU m sz ac P N) (hm : m < 5) (hs : 0 < sz m) (ha : a < 32004) (hp : a < 4 → a ≤ rm_pc (N m) (sz m)) :
    rm_PU (m + 1) (rm_w sz (m + 1) 0) (rm_w ac m a) P N := by
  obtain ⟨h1, h2, h3⟩ := h
  refine ⟨by omega, fun r hr => ?_, fun r hr => ?_⟩
  · by_cases e : r = m + 1
    · rw [e, rm_w_s]
      exact ⟨by omega, fun i hi => absurd hi (Nat.not_lt_zero i), fun z => absurd z (by omega)⟩
    · rw [rm_w_n e]
      exact h2 r (by omega)
  · have e : r ≠ m + 1 := by omega
    rw [rm_w_n e]
    by_cases z : r = m
    · subst z
      rw [rm_w_s]
      exact ⟨hs, ha, hp⟩
    · rw [rm_w_n z]
      exact h3 r (by omega)
theorem rm_PU_clear {sz ac : Nat → Nat} {P : Nat → Nat → Nat} {N : Nat → Nat → Bool} : rm_PU 0 (rm_w sz 0 0) ac P N := by
  refine ⟨by omega, fun r hr => ?_, fun r hr => absurd hr (Nat.not_lt_zero r)⟩
  have e : r = 0 := by omega
  rw [e, rm_w_s]
  exact ⟨by omega, fun i hi => absurd hi (Nat.not_lt_zero i), fun z => absurd z (by omega)⟩
theorem rm_pc_1 {m : Nat} {sz ac : Nat → Nat} {P : Nat → Nat → Nat} {N : Nat → Nat → Bool} (h : rm_PU m sz ac P N) {r : Nat} (hr : r < m) : 1 ≤ rm_pc (N r) (sz r) ∧ rm_pc (N r) (sz r) ≤ 3 := by
  obtain ⟨h1, h2, h3⟩ := h
  obtain ⟨a, b, c⟩ := h2 r (by omega)
  have d := (h3 r hr).1
  have e : rm_pc (N r) 1 = 1 := by
    show 0 + (if N r 0 = true then 0 else 1) = 1
    rw [c d]
    rfl
  have f := rm_pc_m (N r) (i := 1) (j := sz r) (by omega)
  have g := rm_pc_b (N r) (sz r)
  omega
theorem rm_PP_lb {b n l : Nat} {T C U B : Nat → Nat} {LX LY : List rm_Fi} (h : rm_PP b n l T C U B LX LY) (hl : l < 1048576) : rm_LB LX ∧ rm_LB LY := by
  obtain ⟨h1, h2, h3, h4, h5, h6, h7, h8, h9, h10⟩ := h
  have q : rm_LB LY := by
    intro x hx
    have a := h9 x hx
    have c := h10 x hx
    omega
  refine ⟨?_, q⟩
  intro x hx
  rw [h7, List.mem_filter] at hx
  exact q x hx.1
end
section
/-- the value that an entry stands for where an element is made -/
def rm_fv (A : Nat → Int32) (e : Nat) : Nat := if e < 16 then e else if e = 16 then 0 else if A (e - 17) = -1 then 0 else (A (e - 17)).toNatClampNeg
theorem rm_fv_b {A : Nat → Int32} (h : rm_va A) (e : Nat) : rm_fv A e < 16 := by
  unfold rm_fv
  by_cases h1 : e < 16
  · rw [if_pos h1]; exact h1
  · rw [if_neg h1]
    by_cases h2 : e = 16
    · rw [if_pos h2]; omega
    · rw [if_neg h2]
      rcases h (e - 17) with z | ⟨f, hf, z⟩
      · rw [if_pos z]; omega
      · rw [if_neg (by rw [z]; exact rm_nm1 (by omega)), z, nI_clamp (by omega)]
        exact hf
def rm_ff (A : Nat → Int32) (p : Nat) : Nat := 256 * rm_fv A (p / 400 % 20) + 16 * rm_fv A (p / 20 % 20) + rm_fv A (p % 20)
theorem rm_ff_b {A : Nat → Int32} (h : rm_va A) (p : Nat) : rm_ff A p < 4096 := by
  have a := rm_fv_b h (p / 400 % 20)
  have b := rm_fv_b h (p / 20 % 20)
  have c := rm_fv_b h (p % 20)
  unfold rm_ff
  omega
abbrev rm_T3 : Type := Nat × Nat × Nat
def rm_b1 (t : rm_T3) : rm_T3 := if t.1 < t.2.1 then (t.2.1, t.1, t.2.2) else t
def rm_b2 (t : rm_T3) : rm_T3 := if t.2.1 < t.2.2 then (t.1, t.2.2, t.2.1) else t
theorem rm_srt (a b c : Nat) : rm_b2 (rm_b1 (rm_b2 (rm_b1 (rm_b2 (rm_b1 (a, b, c)))))) = (rm_m0 a b c, rm_m1 a b c, rm_m2 a b c) := by
  by_cases h1 : a < b
  · have r1 : ¬ b < a := by omega
    by_cases h2 : a < c
    · have r2 : ¬ c < a := by omega
      by_cases h3 : b < c
      · have r3 : ¬ c < b := by omega
        simp [rm_b1, rm_b2, rm_m0, rm_m1, rm_m2, h1, h2, h3, r1, r2, r3] <;> omega
      · simp [rm_b1, rm_b2, rm_m0, rm_m1, rm_m2, h1, h2, h3, r1, r2] <;> omega
    · have h3 : ¬ b < c := by omega
      simp [rm_b1, rm_b2, rm_m0, rm_m1, rm_m2, h1, h2, h3, r1] <;> omega
  · by_cases h2 : a < c
    · have r2 : ¬ c < a := by omega
      have h3 : b < c := by omega
      have r3 : ¬ c < b := by omega
      simp [rm_b1, rm_b2, rm_m0, rm_m1, rm_m2, h1, h2, h3, r2, r3] <;> omega
    · by_cases h3 : b < c
      · have r3 : ¬ c < b := by omega
        simp [rm_b1, rm_b2, rm_m0, rm_m1, rm_m2, h1, h2, h3, r3] <;> omega
      · simp [rm_b1, rm_b2, rm_m0, rm_m1, rm_m2, h1, h2, h3] <;> omega
def rm_is (a b c x y z : Nat) : Prop := x = rm_m0 a b c ∧ y = rm_m1 a b c ∧ z = rm_m2 a b c
theorem rm_i1 {a b c : Nat} (h1 : a < b) (h2 : a < c) (h3 : b < c) : rm_is a b c c b a := by
  unfold rm_is
  simp [rm_m0, rm_m1, rm_m2, h1, h2, h3] <;> omega
theorem rm_i2 {a b c : Nat} (h1 : a < b) (h2 : a < c) (h3 : ¬ b < c) : rm_is a b c b c a := by
  unfold rm_is
  simp [rm_m0, rm_m1, rm_m2, h1, h2, h3] <;> omega
theorem rm_i3 {a b c : Nat} (h1 : a < b) (h2 : ¬ a < c) : rm_is a b c b a c := by
  have h3 : ¬ b < c := by omega
  unfold rm_is
  simp [rm_m0, rm_m1, rm_m2, h1, h2, h3] <;> omega
theorem rm_i4 {a b c : Nat} (h1 : ¬ a < b) (h3 : b < c) (h2 : a < c) : rm_is a b c c a b := by
  unfold rm_is
  simp [rm_m0, rm_m1, rm_m2, h1, h2, h3] <;> omega
theorem rm_i5 {a b c : Nat} (h1 : ¬ a < b) (h3 : b < c) (h2 : ¬ a < c) : rm_is a b c a c b := by
  unfold rm_is
  simp [rm_m0, rm_m1, rm_m2, h1, h2, h3] <;> omega
theorem rm_i6 {a b c : Nat} (h1 : ¬ a < b) (h3 : ¬ b < c) : rm_is a b c a b c := by
  have h2 : ¬ a < c := by omega
  unfold rm_is
  simp [rm_m0, rm_m1, rm_m2, h1, h2, h3] <;> omega
end
section
def rm_XE (n : Nat) (T C : Nat → Nat) (tg ct : Nat → Int32) : Prop := ∀ i, i < n → tg i = nI (T i) ∧ ct i = nI (C i)
def rm_XR (m : Nat) (Z Q : Nat → Nat) (P : Nat → Nat → Nat) (N : Nat → Nat → Bool) (ao cc pc pa na : Nat → Int32) : Prop :=
  (∀ r, r ≤ m → cc r = nI (Z r) ∧ pc r = nI (rm_pc (N r) (Z r)) ∧ ∀ i, i < Z r → pa (3 * r + i) = nI (P r i) ∧ na (3 * r + i) = rm_bI (N r i)) ∧ ∀ r, r < m → ao r = nI (Q r)
/-- what the component's walks may take for granted -/
def rm_XH (n m l : Nat) (T C Z Q : Nat → Nat) (P : Nat → Nat → Nat) (N : Nat → Nat → Bool) (L : List rm_Fi) (tg ct ao cc pc pa na fr ft : Nat → Int32) : Prop :=
  n ≤ 12 ∧ l < 1048576 ∧ rm_PE n l T C ∧ rm_PU m Z Q P N ∧ L.length ≤ 40 ∧ rm_LB L ∧ rm_XE n T C tg ct ∧ rm_XR m Z Q P N ao cc pc pa na ∧ rm_Fl fr ft L
def rm_YE (n : Nat) (T C : Nat → Nat) (tg ty fd : Nat → Int32) : Prop := ∀ i, i < n → tg i = nI (T i) ∧ ty i = nI (C i / 4096) ∧ fd i = nI (C i % 4096)
def rm_YR (m : Nat) (Z Q : Nat → Nat) (P : Nat → Nat → Nat) (N : Nat → Nat → Bool) (dp dn sz pa no ac : Nat → Int32) : Prop :=
  (∀ i, i < Z m → dp i = nI (P m i) ∧ dn i = rm_bI (N m i)) ∧ ∀ r, r < m → sz r = nI (Z r) ∧ ac r = nI (Q r) ∧ ∀ i, i < Z r → pa (3 * r + i) = nI (P r i) ∧ no (3 * r + i) = rm_bI (N r i)
def rm_YH (n m l : Nat) (T C Z Q : Nat → Nat) (P : Nat → Nat → Nat) (N : Nat → Nat → Bool) (L : List rm_Fi) (tg ty fd dp dn sz pa no ac fr ft : Nat → Int32) : Prop :=
  n ≤ 12 ∧ l < 1048576 ∧ rm_PE n l T C ∧ rm_PU m Z Q P N ∧ L.length ≤ 40 ∧ rm_LB L ∧ rm_YE n T C tg ty fd ∧ rm_YR m Z Q P N dp dn sz pa no ac ∧ rm_Fl fr ft L
theorem rm_3 (r i : Nat) : 3 * nI r + nI i = nI (3 * r + i) := by
  have e : (3 : Int32) = nI 3 := rfl
  rw [e, pk_mul, nI_add]
theorem rm_30 (r : Nat) : 3 * nI r = nI (3 * r) := by
  have e : (3 : Int32) = nI 3 := rfl
  rw [e, pk_mul]
theorem rm_b_0 (b : Bool) : rm_bI b = 0 ↔ b = false := by
  cases b <;> decide
theorem rm_b_n (b : Bool) : vp_nar .boolean (rm_bI b) = rm_bI b := by
  cases b <;> rfl
end
section
theorem rm_q0 : ¬ (3 : Int32) ≤ 0 := by decide
theorem rm_q1 : ¬ (3 : Int32) ≤ 1 := by decide
theorem rm_q2 : ¬ (3 : Int32) ≤ 2 := by decide
theorem rm_q3 : (3 : Int32) ≤ 3 := by decide
theorem rm_v0 : vp_in (0 : Int32) 3 := vp_in_iff.mpr (by decide)
theorem rm_v1 : vp_in (1 : Int32) 3 := vp_in_iff.mpr (by decide)
theorem rm_v2 : vp_in (2 : Int32) 3 := vp_in_iff.mpr (by decide)
theorem rm_c0 : (0 : Int32).toNatClampNeg = 0 := by decide
theorem rm_c1 : (1 : Int32).toNatClampNeg = 1 := by decide
theorem rm_c2 : (2 : Int32).toNatClampNeg = 2 := by decide
theorem rm_01 : (0 : Int32) + 1 = 1 := by decide
theorem rm_12 : (1 : Int32) + 1 = 2 := by decide
theorem rm_23 : (2 : Int32) + 1 = 3 := by decide
def rm_u3 (a : Nat → Int32) (x y z : Int32) : Nat → Int32 := upd (upd (upd a 0 x) 1 y) 2 z
theorem rm_u3_0 {a : Nat → Int32} {x y z : Int32} : rm_u3 a x y z 0 = x := by
  unfold rm_u3; rw [pk_un (by omega), pk_un (by omega), pk_us]
theorem rm_u3_1 {a : Nat → Int32} {x y z : Int32} : rm_u3 a x y z 1 = y := by
  unfold rm_u3; rw [pk_un (by omega), pk_us]
theorem rm_u3_2 {a : Nat → Int32} {x y z : Int32} : rm_u3 a x y z 2 = z := by
  unfold rm_u3; rw [pk_us]
theorem rm_u3_ag {a A : Nat → Int32} {x y z : Int32} (h0 : x = A 0) (h1 : y = A 1) (h2 : z = A 2) : rm_ag (rm_u3 a x y z) A :=
  rm_ag_3 (rm_u3_0.trans h0) (rm_u3_1.trans h1) (rm_u3_2.trans h2)
end
section
section XA
variable {n m l : Nat} {T C Z Q : Nat → Nat} {P : Nat → Nat → Nat} {N : Nat → Nat → Bool} {L : List rm_Fi}
variable {lt ec rc fc br : Int32} {tg ct ao cc pc pa na fr ft rt rf va ex bt bf bv : Nat → Int32}
theorem xm_ca {post : SX → Prop} (h : ∀ va', rm_ag va' (fun _ => -1) → post (lt, ec, rc, fc, br, tg, ct, ao, cc, pc, pa, na, fr, ft, rt, rf, va', ex, bt, bf, bv)) : wpX_clearAssignment post (lt, ec, rc, fc, br, tg, ct, ao, cc, pc, pa, na, fr, ft, rt, rf, va, ex, bt, bf, bv) :=
  ⟨0 + 1 + 1 + 1 + 1, br_f rm_q0 ⟨rm_v0, nm_r (e' := upd va 0 (-1)) (by rw [rm_c0]) (nm_r rm_01 (br_f rm_q1 ⟨rm_v1, nm_r (e' := upd (upd va 0 (-1)) 1 (-1)) (by rw [rm_c1]) (nm_r rm_12 (br_f rm_q2 ⟨rm_v2, nm_r (e' := rm_u3 va (-1) (-1) (-1)) (by rw [rm_c2]; rfl) (nm_r rm_23 (br_t rm_q3 (h _ (rm_u3_ag rfl rfl rfl))))⟩))⟩))⟩⟩
theorem xm_cr {post : SX → Prop} (h : ∀ rt', rm_ag rt' (fun _ => 0) → post (lt, ec, rc, fc, br, tg, ct, ao, cc, pc, pa, na, fr, ft, rt', rf, va, ex, bt, bf, bv)) : wpX_clearRowTags post (lt, ec, rc, fc, br, tg, ct, ao, cc, pc, pa, na, fr, ft, rt, rf, va, ex, bt, bf, bv) :=
  ⟨0 + 1 + 1 + 1 + 1, br_f rm_q0 ⟨rm_v0, nm_r (e' := upd rt 0 0) (by rw [rm_c0]) (nm_r rm_01 (br_f rm_q1 ⟨rm_v1, nm_r (e' := upd (upd rt 0 0) 1 0) (by rw [rm_c1]) (nm_r rm_12 (br_f rm_q2 ⟨rm_v2, nm_r (e' := rm_u3 rt 0 0 0) (by rw [rm_c2]; rfl) (nm_r rm_23 (br_t rm_q3 (h _ (rm_u3_ag rfl rfl rfl))))⟩))⟩))⟩⟩
theorem xm_te {post : SX → Prop} (h : ∀ va', rm_ag va' ex → post (lt, ec, rc, fc, br, tg, ct, ao, cc, pc, pa, na, fr, ft, rt, rf, va', ex, bt, bf, bv)) : wpX_takeExtended post (lt, ec, rc, fc, br, tg, ct, ao, cc, pc, pa, na, fr, ft, rt, rf, va, ex, bt, bf, bv) :=
  ⟨0 + 1 + 1 + 1 + 1, br_f rm_q0 ⟨rm_v0, rm_v0, nm_r (e' := upd va 0 (ex 0)) (by rw [rm_c0]) (nm_r rm_01 (br_f rm_q1 ⟨rm_v1, rm_v1, nm_r (e' := upd (upd va 0 (ex 0)) 1 (ex 1)) (by rw [rm_c1]) (nm_r rm_12 (br_f rm_q2 ⟨rm_v2, rm_v2, nm_r (e' := rm_u3 va (ex 0) (ex 1) (ex 2)) (by rw [rm_c2]; rfl) (nm_r rm_23 (br_t rm_q3 (h _ (rm_u3_ag rfl rfl rfl))))⟩))⟩))⟩⟩
theorem xm_121 {post : Int32 → SX → Prop} {J : Int32 → Int32 → Int32 → (Nat → Int32) → (Nat → Int32) → (Nat → Int32) → (Nat → Int32) → (Nat → Int32) → (Nat → Int32) → (Nat → Int32) → (Nat → Int32) → (Nat → Int32) → (Nat → Int32) → (Nat → Int32) → (Nat → Int32) → (Nat → Int32) → (Nat → Int32) → (Nat → Int32) → (Nat → Int32) → Prop} {p c i : Nat} (hp : p < 2 ^ 31) (hc : c < 2 ^ 31) (h : J (nI (p / 20)) (nI (c / 16)) (nI (i + 1)) tg ct ao cc pc pa na fr ft rt rf va ex bt bf bv) : wX_fits_121 post J (nI p) (nI c) (nI i) lt ec rc fc br tg ct ao cc pc pa na fr ft rt rf va ex bt bf bv :=
  ⟨by decide, nm_r (pk_div (d := 20) hp (by omega) (by omega)) ⟨by decide, nm_r (pk_div (d := 16) hc (by omega) (by omega)) (nm_r (nI_1 i) h)⟩⟩
theorem xm_38 {post : Int32 → SX → Prop} {A : Nat → Int32} {p c i k : Nat} (hx : rm_ag ex A) (hp : p < 2 ^ 31) (hc : c < 2 ^ 31) (hi : i < 3)
    (h0 : ∀ ex', rm_s1 (p % 20) (c % 16) A = none → post 0 (lt, ec, rc, fc, br, tg, ct, ao, cc, pc, pa, na, fr, ft, rt, rf, va, ex', bt, bf, bv))
    (h1 : ∀ ex' B, rm_s1 (p % 20) (c % 16) A = some B → rm_ag ex' B → wX_fits_38 post lt ec rc fc br k (nI (p / 20)) (nI (c / 16)) (nI (i + 1)) tg ct ao cc pc pa na fr ft rt rf va ex' bt bf bv) :
    wX_fits_38 post lt ec rc fc br (k + 1) (nI p) (nI c) (nI i) tg ct ao cc pc pa na fr ft rt rf va ex bt bf bv := by
  have q : ¬ (3 : Int32) ≤ nI i := nI_ge (b := 3) hi (by omega)
  have hf : c % 16 < 16 := Nat.mod_lt _ (by omega)
  have he : p % 20 < 20 := Nat.mod_lt _ (by omega)
  refine br_f q ⟨by decide, nm_r (pk_rem (d := 20) hp (by omega) (by omega)) ⟨by decide, nm_r (pk_rem (d := 16) hc (by omega) (by omega)) ?_⟩⟩
  generalize p % 20 = e at *
  generalize c % 16 = f at *
  by_cases a1 : e < 16
  · refine br_f (nI_ge (b := 16) a1 (by omega)) ?_
    by_cases a2 : e = f
    · refine br_t (by rw [a2]) (br_t (nI_lt (b := 17) (by omega) (by omega)) (xm_121 hp hc (h1 ex A ?_ hx)))
      rw [rm_s1_k a1 a2]
    · refine br_f (fun z => a2 ((nI_eq (by omega) (by omega)).mp z)) (h0 ex ?_)
      rw [rm_s1_n a1 a2]
  · refine br_t (nI_le (a := 16) (by omega) (by omega)) ?_
    by_cases a2 : e = 16
    · refine br_t (by rw [a2]; decide) (xm_121 hp hc (h1 ex A ?_ hx))
      rw [a2, rm_s1_a]
    · obtain ⟨v, rfl⟩ : ∃ v, e = 17 + v := ⟨e - 17, by omega⟩
      have hv : v < 3 := by omega
      have w : vp_in (nI v) 3 := vp_in_nI hv (by omega)
      have cv : (nI v).toNatClampNeg = v := nI_clamp (by omega)
      have ev := hx v hv
      have e17 : nI (17 + v) - 17 = nI v := by
        have := pk_sub (a := 17 + v) (b := 17) (by omega)
        rw [Nat.add_sub_cancel_left] at this
        exact this
      refine br_f (nI_nlt (b := 17) (by omega) (by omega)) (nm_r e17 ⟨w, ?_⟩)
      rw [rm_s1_v] at h0 h1
      by_cases b1 : A v = -1
      · refine br_t (by rw [cv, ev]; exact b1) ⟨w, nm_r (e' := upd ex v (nI f)) (by rw [cv]) ⟨w, br_t (by rw [cv, pk_us]) (xm_121 hp hc (h1 _ (upd A v (nI f)) (if_pos b1) (rm_ag_u hx)))⟩⟩
      · refine br_f (by rw [cv, ev]; exact b1) ⟨w, ?_⟩
        by_cases b2 : A v = nI f
        · refine br_t (by rw [cv, ev]; exact b2) (xm_121 hp hc (h1 ex A ?_ hx))
          unfold rm_sv
          rw [if_neg b1, if_pos b2]
        · refine br_f (by rw [cv, ev]; exact b2) (h0 ex ?_)
          unfold rm_sv
          rw [if_neg b1, if_neg b2]
theorem xm_fits {post : Int32 → SX → Prop} {A : Nat → Int32} {p c i : Nat} (hv : rm_ag va A) (hp : p < 32000) (hc : c < 16384) (hi : i < 12) (hct : ct i = nI c)
    (h0 : ∀ ex', rm_fs A p c = none → post 0 (lt, ec, rc, fc, br, tg, ct, ao, cc, pc, pa, na, fr, ft, rt, rf, va, ex', bt, bf, bv)) (h1 : ∀ ex' B, rm_fs A p c = some B → rm_ag ex' B → post 1 (lt, ec, rc, fc, br, tg, ct, ao, cc, pc, pa, na, fr, ft, rt, rf, va, ex', bt, bf, bv)) :
    ∀ q1 q2 : Int32, q1 = nI p → q2 = nI i → wpX_fits post (lt, ec, rc, fc, br, tg, ct, ao, cc, pc, pa, na, fr, ft, rt, rf, va, ex, bt, bf, bv) q1 q2 := by
  intro q1 q2 e1 e2
  subst e1 e2
  have w : vp_in (nI i) 12 := vp_in_nI hi (by omega)
  have ci : (nI i).toNatClampNeg = i := nI_clamp (by omega)
  refine ⟨0 + 1 + 1 + 1 + 1, br_f rm_q0 ⟨rm_v0, rm_v0, nm_r (e' := upd ex 0 (va 0)) (by rw [rm_c0]) (nm_r rm_01 (br_f rm_q1 ⟨rm_v1, rm_v1, nm_r (e' := upd (upd ex 0 (va 0)) 1 (va 1)) (by rw [rm_c1]) (nm_r rm_12 (br_f rm_q2 ⟨rm_v2, rm_v2, nm_r (e' := rm_u3 ex (va 0) (va 1) (va 2)) (by rw [rm_c2]; rfl) (nm_r rm_23 (br_t rm_q3 ⟨w, nm_r (e' := nI c) (by rw [ci]; exact hct) ⟨0 + 1 + 1 + 1 + 1, ?_⟩⟩))⟩))⟩))⟩⟩
  have hx : rm_ag (rm_u3 ex (va 0) (va 1) (va 2)) A := rm_u3_ag (hv 0 (by omega)) (hv 1 (by omega)) (hv 2 (by omega))
  generalize rm_u3 ex (va 0) (va 1) (va 2) = e3 at hx
  have p2 : p / 20 / 20 = p / 400 := by omega
  have p3 : p / 400 / 20 = p / 8000 := by omega
  have c2 : c / 16 / 16 = c / 256 := by omega
  have c3 : c / 256 / 16 = c / 4096 := by omega
  have fs : p / 8000 = c / 4096 → rm_fs A p c = ((rm_s1 (p % 20) (c % 16) A).bind (rm_s1 (p / 20 % 20) (c / 16 % 16))).bind (rm_s1 (p / 400 % 20) (c / 256 % 16)) := fun z => if_pos z
  have fn : ((rm_s1 (p % 20) (c % 16) A).bind (rm_s1 (p / 20 % 20) (c / 16 % 16))).bind (rm_s1 (p / 400 % 20) (c / 256 % 16)) = none → rm_fs A p c = none := by
    intro z
    by_cases y : p / 8000 = c / 4096
    · rw [fs y]; exact z
    · exact if_neg y
  refine xm_38 (i := 0) hx (by omega) (by omega) (by omega) (fun ex' s1 => h0 ex' (fn (by rw [s1]; rfl))) (fun ex1 B1 s1 x1 => ?_)
  refine xm_38 (i := 1) x1 (by omega) (by omega) (by omega) (fun ex' s2 => h0 ex' (fn ?_)) (fun ex2 B2 s2 x2 => ?_)
  · rw [s1]
    show (rm_s1 (p / 20 % 20) (c / 16 % 16) B1).bind _ = none
    rw [s2]; rfl
  rw [p2, c2]
  refine xm_38 (i := 2) x2 (by omega) (by omega) (by omega) (fun ex' s3 => h0 ex' (fn ?_)) (fun ex3 B3 s3 x3 => ?_)
  · rw [s1]
    show (rm_s1 (p / 20 % 20) (c / 16 % 16) B1).bind _ = none
    rw [s2]; exact s3
  rw [p3, c3]
  refine br_t (by decide) ?_
  by_cases y : p / 8000 = c / 4096
  · refine br_t (by rw [y]) (h1 ex3 B3 ?_ x3)
    rw [fs y, s1]
    show (rm_s1 (p / 20 % 20) (c / 16 % 16) B1).bind _ = _
    rw [s2]; exact s3
  · exact br_f (fun z => y ((nI_eq (by omega) (by omega)).mp z)) (h0 ex3 (if_neg y))
theorem xm_cf {post : Int32 → SX → Prop} {A : Nat → Int32} {p : Nat} (hv : rm_ag va A) (hp : p < 32000) (hn : n ≤ 12) (hE : rm_XE n T C tg ct) (hC : ∀ i, i < n → C i < 16384)
    (h : ∀ ex', post (nI (rm_cn (rm_fits A p C) n)) (nI l, nI n, nI m, nI L.length, br, tg, ct, ao, cc, pc, pa, na, fr, ft, rt, rf, va, ex', bt, bf, bv)) : ∀ q : Int32, q = nI p → wpX_countFitting post (nI l, nI n, nI m, nI L.length, br, tg, ct, ao, cc, pc, pa, na, fr, ft, rt, rf, va, ex, bt, bf, bv) q := by
  intro q e1
  subst e1
  have go : ∀ d i ex', i + d = n → wX_countFitting_4 post (nI p) (d + 1) (nI (rm_cn (rm_fits A p C) i)) (nI i) (nI l) (nI n) (nI m) (nI L.length) br tg ct ao cc pc pa na fr ft rt rf va ex' bt bf bv := by
    intro d
    induction d with
    | zero =>
      intro i ex' e
      have e2 : i = n := by omega
      subst e2
      exact br_t (nI_le (Nat.le_refl _) (by omega)) (h ex')
    | succ d ih =>
      intro i ex' e
      refine br_f (nI_ge (by omega) (by omega)) (xm_fits hv hp (hC i (by omega)) (by omega) (hE i (by omega)).2 (fun ex1 s => ?_) (fun ex1 B s _ => ?_) _ _ rfl rfl)
      · have e3 : rm_cn (rm_fits A p C) (i + 1) = rm_cn (rm_fits A p C) i := by
          have z : rm_fits A p C i = false := by unfold rm_fits; rw [s]; rfl
          show _ + (if rm_fits A p C i = true then 1 else 0) = _
          rw [z]; rfl
        have := ih (i + 1) ex1 (by omega)
        rw [e3] at this
        exact br_t rfl (nm_r (nI_1 i) this)
      · have e3 : rm_cn (rm_fits A p C) (i + 1) = rm_cn (rm_fits A p C) i + 1 := by
          have z : rm_fits A p C i = true := by unfold rm_fits; rw [s]; rfl
          show _ + (if rm_fits A p C i = true then 1 else 0) = _
          rw [z]; rfl
        have := ih (i + 1) ex1 (by omega)
        rw [e3] at this
        exact br_f (by decide) (nm_r (nI_1 _) (nm_r (nI_1 i) this))
  have := go n 0 ex (by omega)
  exact ⟨n + 1, this⟩
end XA
end
section
section XB
variable {n m l : Nat} {T C Z Q : Nat → Nat} {P : Nat → Nat → Nat} {N : Nat → Nat → Bool} {L : List rm_Fi}
variable {lt ec rc fc br : Int32} {tg ct ao cc pc pa na fr ft rt rf va ex bt bf bv : Nat → Int32}
theorem xm_im {post : Int32 → SX → Prop} {r c : Nat} (H : rm_XH n m l T C Z Q P N L tg ct ao cc pc pa na fr ft) (hr : r < m) (hc : c < 2 ^ 31)
    (h0 : ∀ rt' va' ex', rm_ps T C n (rm_D c) (P r) (N r) (Z r) = none → post 0 (nI l, nI n, nI m, nI L.length, br, tg, ct, ao, cc, pc, pa, na, fr, ft, rt', rf, va', ex', bt, bf, bv))
    (h1 : ∀ rt' va' ex' s, rm_ps T C n (rm_D c) (P r) (N r) (Z r) = some s → rm_ag va' s.1 → (∀ j, j < 3 → rt' j = nI (s.2 j)) → post 1 (nI l, nI n, nI m, nI L.length, br, tg, ct, ao, cc, pc, pa, na, fr, ft, rt', rf, va', ex', bt, bf, bv)) :
    wpX_isMatch post (nI l, nI n, nI m, nI L.length, br, tg, ct, ao, cc, pc, pa, na, fr, ft, rt, rf, va, ex, bt, bf, bv) (nI r) (nI c) := by
  obtain ⟨hn, hl, hPE, hPU, hL, hLB, hE, hR, hF⟩ := H
  have hm := hPU.1
  obtain ⟨rz, rP, rN⟩ := hPU.2.1 r (by omega)
  obtain ⟨rcc, rpc, rpa⟩ := hR.1 r (by omega)
  have w6 : vp_in (nI r) 6 := vp_in_nI (by omega) (by omega)
  have cr : (nI r).toNatClampNeg = r := nI_clamp (by omega)
  have go : ∀ d i s rt va ex, i + d = Z r → rm_ps T C n (rm_D c) (P r) (N r) i = some s → rm_ag va s.1 → (∀ j, j < 3 → rt j = nI (s.2 j)) → wX_isMatch_16 post (nI r) (d + 1) (nI (rm_pc (N r) i)) (nI (c / 12 ^ rm_pc (N r) i)) (nI i) (nI l) (nI n) (nI m) (nI L.length) br tg ct ao cc pc pa na fr ft rt rf va ex bt bf bv := by
    intro d
    induction d with
    | zero =>
      intro i s rt va ex e hs hva hrt
      have e2 : i = Z r := by omega
      subst e2
      exact ⟨w6, br_t (by rw [cr, rcc]; exact nI_le (Nat.le_refl _) (by omega)) (h1 rt va ex s hs hva hrt)⟩
    | succ d ih =>
      intro i s rt va ex e hs hva hrt
      have hi : i < Z r := by omega
      have c3 : (nI (3 * r + i)).toNatClampNeg = 3 * r + i := nI_clamp (by omega)
      have w18 : vp_in (nI (3 * r + i)) 18 := vp_in_nI (by omega) (by omega)
      obtain ⟨ipa, ina⟩ := rpa i hi
      have ipa2 : pa (nI (3 * r + i)).toNatClampNeg = nI (P r i) := by rw [c3]; exact ipa
      have ina2 : na (nI (3 * r + i)).toNatClampNeg = rm_bI (N r i) := by rw [c3]; exact ina
      have iP := rP i hi
      have st : rm_ps T C n (rm_D c) (P r) (N r) (i + 1) = rm_st T C n (rm_D c) (P r i) (N r i) (rm_pc (N r) i) s := by
        show (rm_ps T C n (rm_D c) (P r) (N r) i).bind _ = _
        rw [hs]; rfl
      have fin : rm_ps T C n (rm_D c) (P r) (N r) (i + 1) = none → rm_ps T C n (rm_D c) (P r) (N r) (Z r) = none := fun z => rm_ps_n z (Z r) (by omega)
      refine ⟨w6, br_f (by rw [cr, rcc]; exact nI_ge hi (by omega)) (nm_r (rm_3 r i) ⟨w18, ?_⟩)⟩
      by_cases ng : N r i = true
      · have pk : rm_pc (N r) (i + 1) = rm_pc (N r) i := by
          show _ + (if N r i = true then 0 else 1) = _
          rw [if_pos ng]; rfl
        have st2 : rm_ps T C n (rm_D c) (P r) (N r) (i + 1) = if rm_cn (rm_fits s.1 (P r i) C) n = 0 then some s else none := by
          rw [st]; exact if_pos ng
        refine br_f (by rw [ina2, ng]; decide) ⟨w18, xm_cf hva iP hn hE (fun j hj => (hPE.2 j hj).2.2) (fun ex1 => ?_) _ ipa2⟩
        have hcb := rm_cn_b (rm_fits s.1 (P r i) C) n
        by_cases z : rm_cn (rm_fits s.1 (P r i) C) n = 0
        · rw [if_pos z] at st2
          have := ih (i + 1) s rt va ex1 (by omega) st2 hva hrt
          rw [pk] at this
          exact br_t (by rw [z]; decide) (nm_r (nI_1 i) this)
        · rw [if_neg z] at st2
          exact br_f (nI_nle (by omega) (by omega)) (h0 rt va ex1 (fin st2))
      · have nf : N r i = false := by
          cases q : N r i
          · rfl
          · exact absurd q ng
        have pk : rm_pc (N r) (i + 1) = rm_pc (N r) i + 1 := by
          show _ + (if N r i = true then 0 else 1) = _
          rw [if_neg ng]
        have st2 : rm_ps T C n (rm_D c) (P r) (N r) (i + 1) = if rm_D c (rm_pc (N r) i) < n then (rm_fs s.1 (P r i) (C (rm_D c (rm_pc (N r) i)))).bind (fun B => some (B, fun j => if j = rm_pc (N r) i then T (rm_D c (rm_pc (N r) i)) else s.2 j)) else none := by
          rw [st]; exact if_neg ng
        have kb := rm_pc_b (N r) i
        have cb : c / 12 ^ rm_pc (N r) i < 2 ^ 31 := Nat.lt_of_le_of_lt (Nat.div_le_self _ _) hc
        have dv : c / 12 ^ rm_pc (N r) i / 12 = c / 12 ^ (rm_pc (N r) i + 1) := by
          rw [Nat.pow_succ, Nat.div_div_eq_div_mul]
        refine br_t (by rw [ina2, nf]; decide) ⟨by decide, nm_r (e' := nI (rm_D c (rm_pc (N r) i))) (pk_rem (d := 12) cb (by omega) (by omega)) ⟨by decide, nm_r (e' := nI (c / 12 ^ (rm_pc (N r) i + 1))) (by rw [← dv]; exact pk_div (d := 12) cb (by omega) (by omega)) ?_⟩⟩
        have d12 : rm_D c (rm_pc (N r) i) < 12 := Nat.mod_lt _ (by omega)
        generalize rm_D c (rm_pc (N r) i) = D at *
        by_cases hD : D < n
        · rw [if_pos hD] at st2
          have cD : (nI D).toNatClampNeg = D := nI_clamp (by omega)
          refine br_f (nI_ge hD (by omega)) ⟨w18, xm_fits hva iP (hPE.2 D hD).2.2 d12 (hE D hD).2 (fun ex1 s1 => ?_) (fun ex1 B s1 x1 => ?_) _ _ ipa2 rfl⟩
          · exact br_t rfl (h0 rt va ex1 (fin (by rw [st2, s1]; rfl)))
          · refine br_f (by decide) (xm_te (fun va2 hv2 => ?_))
            rw [s1] at st2
            have w3 : vp_in (nI (rm_pc (N r) i)) 3 := vp_in_nI (by omega) (by omega)
            have ck : (nI (rm_pc (N r) i)).toNatClampNeg = rm_pc (N r) i := nI_clamp (by omega)
            have := ih (i + 1) (B, fun j => if j = rm_pc (N r) i then T D else s.2 j) (upd rt (rm_pc (N r) i) (nI (T D))) va2 ex1 (by omega) st2 (fun j hj => (hv2 j hj).trans (x1 j hj)) (fun j hj => by
              by_cases z : j = rm_pc (N r) i
              · rw [z, pk_us]
                show nI (T D) = nI (if rm_pc (N r) i = rm_pc (N r) i then T D else s.2 _)
                rw [if_pos rfl]
              · rw [pk_un z]
                show rt j = nI (if j = rm_pc (N r) i then T D else s.2 j)
                rw [if_neg z]
                exact hrt j hj)
            rw [pk] at this
            exact ⟨vp_in_nI d12 (by omega), w3, nm_r (e' := upd rt (rm_pc (N r) i) (nI (T D))) (by rw [ck, cD, (hE D hD).1]) (nm_r (nI_1 _) (nm_r (nI_1 i) this))⟩
        · rw [if_neg hD] at st2
          exact br_t (nI_le (by omega) (by omega)) (h0 rt va ex (fin st2))
  unfold wpX_isMatch
  refine xm_ca (fun va1 hva => ?_)
  refine xm_cr (fun rt1 hrt => ?_)
  have := go (Z r) 0 (fun _ => -1, fun _ => 0) rt1 va1 ex (by omega) rfl hva (fun j hj => (hrt j hj).trans nI_0.symm)
  have e0 : c / 12 ^ rm_pc (N r) 0 = c := by
    show c / 12 ^ 0 = c
    rw [Nat.pow_zero, Nat.div_one]
  rw [e0] at this
  exact ⟨Z r + 1, this⟩
theorem xm_ro {post : Int32 → Prop} {r : Nat} (H : rm_XH n m l T C Z Q P N L tg ct ao cc pc pa na fr ft) (hr : r < m) (h : post (nI (12 ^ rm_pc (N r) (Z r)))) : wpX_rowsOf post (nI l, nI n, nI m, nI L.length, br, tg, ct, ao, cc, pc, pa, na, fr, ft, rt, rf, va, ex, bt, bf, bv) (nI r) := by
  obtain ⟨hn, hl, hPE, hPU, hL, hLB, hE, hR, hF⟩ := H
  have hm := hPU.1
  obtain ⟨p1, p3⟩ := rm_pc_1 hPU hr
  obtain ⟨rcc, rpc, rpa⟩ := hR.1 r (by omega)
  have w6 : vp_in (nI r) 6 := vp_in_nI (by omega) (by omega)
  have cr : (nI r).toNatClampNeg = r := nI_clamp (by omega)
  have go : ∀ d i, i + d = rm_pc (N r) (Z r) → wX_rowsOf_4 post (nI r) (nI l) (nI n) (nI m) (nI L.length) br tg ct ao cc pc pa na fr ft rt rf va ex bt bf bv (d + 1) (nI (12 ^ i)) (nI i) := by
    intro d
    induction d with
    | zero =>
      intro i e
      have e2 : i = rm_pc (N r) (Z r) := by omega
      rw [e2]
      exact ⟨w6, br_t (by rw [cr, rpc]; exact nI_le (Nat.le_refl _) (by omega)) h⟩
    | succ d ih =>
      intro i e
      have := ih (i + 1) (by omega)
      rw [Nat.pow_succ] at this
      exact ⟨w6, br_f (by rw [cr, rpc]; exact nI_ge (by omega) (by omega)) (nm_r (pk_mul (12 ^ i) 12) (nm_r (nI_1 i) this))⟩
  have := go (rm_pc (N r) (Z r)) 0 (by omega)
  exact ⟨rm_pc (N r) (Z r) + 1, this⟩
theorem xm_hf {post : Int32 → Prop} {r : Nat} {g : Nat → Nat} (H : rm_XH n m l T C Z Q P N L tg ct ao cc pc pa na fr ft) (hr : r < 8) (hg : ∀ j, g j < 1048576) (hrt : ∀ j, j < 3 → rt j = nI (g j))
    (h1 : (r, g 0, g 1, g 2) ∈ L → post 1) (h0 : ¬ (r, g 0, g 1, g 2) ∈ L → post 0) : wpX_rowHasFired post (nI l, nI n, nI m, nI L.length, br, tg, ct, ao, cc, pc, pa, na, fr, ft, rt, rf, va, ex, bt, bf, bv) (nI r) := by
  obtain ⟨hn, hl, hPE, hPU, hL, hLB, hE, hR, hF⟩ := H
  have g0 := hg 0
  have g1 := hg 1
  have g2 := hg 2
  have r0 := hrt 0 (by omega)
  have r1 := hrt 1 (by omega)
  have r2 := hrt 2 (by omega)
  have go : ∀ d i, i + d = L.length → (∀ j, j < i → L[j]? ≠ some (r, g 0, g 1, g 2)) → wX_rowHasFired_2 post (nI r) (nI l) (nI n) (nI m) (nI L.length) br tg ct ao cc pc pa na fr ft rt rf va ex bt bf bv (d + 1) (nI i) := by
    intro d
    induction d with
    | zero =>
      intro i e hj
      refine br_t (nI_le (by omega) (by omega)) (h0 (fun z => ?_))
      obtain ⟨j, z⟩ := List.mem_iff_getElem?.mp z
      exact hj j (by have := rm_lt_of z; omega) z
    | succ d ih =>
      intro i e hj
      obtain ⟨x, hx⟩ := rm_get (L := L) (i := i) (by omega)
      obtain ⟨e0, e1, e2, e3⟩ := hF i x hx
      obtain ⟨b0, b1, b2, b3⟩ := hLB x (List.mem_of_getElem? hx)
      have w40 : vp_in (nI i) 40 := vp_in_nI (by omega) (by omega)
      have ci : (nI i).toNatClampNeg = i := nI_clamp (by omega)
      have wa : vp_in (nI (3 * i)) 120 := vp_in_nI (by omega) (by omega)
      have wb : vp_in (nI (3 * i) + 1) 120 := by rw [nI_1]; exact vp_in_nI (by omega) (by omega)
      have wc : vp_in (nI (3 * i) + 2) 120 := by
        have q : nI (3 * i) + 2 = nI (3 * i + 2) := nI_add (3 * i) 2
        rw [q]; exact vp_in_nI (by omega) (by omega)
      have ca : (nI (3 * i)).toNatClampNeg = 3 * i := nI_clamp (by omega)
      have cb : (nI (3 * i) + 1).toNatClampNeg = 3 * i + 1 := by rw [nI_1]; exact nI_clamp (by omega)
      have cc' : (nI (3 * i) + 2).toNatClampNeg = 3 * i + 2 := by
        have q : nI (3 * i) + 2 = nI (3 * i + 2) := nI_add (3 * i) 2
        rw [q]; exact nI_clamp (by omega)
      have nx : x ≠ (r, g 0, g 1, g 2) → wX_rowHasFired_2 post (nI r) (nI l) (nI n) (nI m) (nI L.length) br tg ct ao cc pc pa na fr ft rt rf va ex bt bf bv (d + 1) (nI (i + 1)) := fun ne => ih (i + 1) (by omega) (fun j hj2 => by
        by_cases z : j = i
        · rw [z, hx]
          intro y
          exact ne (Option.some.inj y)
        · exact hj j (by omega))
      refine br_f (nI_ge (by omega) (by omega)) (nm_r (rm_30 i) ⟨w40, ?_⟩)
      by_cases k0 : x.1 = r
      · refine br_t (by rw [ci, e0, k0]) ⟨wa, ?_⟩
        by_cases k1 : x.2.1 = g 0
        · refine br_t (by rw [ca, e1, r0, k1]) ⟨wb, ?_⟩
          by_cases k2 : x.2.2.1 = g 1
          · refine br_t (by rw [cb, e2, r1, k2]) ⟨wc, ?_⟩
            by_cases k3 : x.2.2.2 = g 2
            · refine br_t (by rw [cc', e3, r2, k3]) (h1 ?_)
              have : x = (r, g 0, g 1, g 2) := by rw [← k0, ← k1, ← k2, ← k3]
              rw [← this]
              exact List.mem_of_getElem? hx
            · exact br_f (by rw [cc', e3, r2]; exact fun z => k3 ((nI_eq (by omega) (by omega)).mp z)) (nm_r (nI_1 i) (nx (fun z => k3 (by rw [z]))))
          · exact br_f (by rw [cb, e2, r1]; exact fun z => k2 ((nI_eq (by omega) (by omega)).mp z)) (nm_r (nI_1 i) (nx (fun z => k2 (by rw [z]))))
        · exact br_f (by rw [ca, e1, r0]; exact fun z => k1 ((nI_eq (by omega) (by omega)).mp z)) (nm_r (nI_1 i) (nx (fun z => k1 (by rw [z]))))
      · exact br_f (by rw [ci, e0]; exact fun z => k0 ((nI_eq (by omega) (by omega)).mp z)) (nm_r (nI_1 i) (nx (fun z => k0 (by rw [z]))))
  have := go L.length 0 (by omega) (fun j hj => absurd hj (Nat.not_lt_zero j))
  exact ⟨L.length + 1, this⟩
end XB
end
section
theorem rm_k10 : ((1 : Int32) - 1).toNatClampNeg = 0 := by decide
theorem rm_k21 : ((2 : Int32) - 1).toNatClampNeg = 1 := by decide
theorem rm_w10 : vp_in ((1 : Int32) - 1) 3 := vp_in_iff.mpr (by decide)
theorem rm_w21 : vp_in ((2 : Int32) - 1) 3 := vp_in_iff.mpr (by decide)
theorem rm_d10 : (1 : Int32) + (-1) = 0 := by decide
theorem rm_d21 : (2 : Int32) + (-1) = 1 := by decide
theorem rm_z0 : (0 : Int32) ≤ 0 := by decide
theorem rm_z1 : ¬ (1 : Int32) ≤ 0 := by decide
theorem rm_z2 : ¬ (2 : Int32) ≤ 0 := by decide
section XC
variable {n m l : Nat} {T C Z Q : Nat → Nat} {P : Nat → Nat → Nat} {N : Nat → Nat → Bool} {L : List rm_Fi}
variable {lt ec rc fc br : Int32} {tg ct ao cc pc pa na fr ft rt rf va ex bt bf bv : Nat → Int32}
theorem xm_s3 {post : SX → Prop} {hi lo c : Nat} (bh : hi < 1048576) (bl : lo < 1048576) (bc : c < 1048576) (h0 : rf 0 = nI hi) (h1 : rf 1 = nI lo) (h2 : rt 2 = nI c)
    (k : ∀ rf' x y z, rf' 0 = nI x → rf' 1 = nI y → rf' 2 = nI z → ((¬ lo < c ∧ x = hi ∧ y = lo ∧ z = c) ∨ (lo < c ∧ ¬ hi < c ∧ x = hi ∧ y = c ∧ z = lo) ∨ (lo < c ∧ hi < c ∧ x = c ∧ y = hi ∧ z = lo)) → post (lt, ec, rc, fc, br, tg, ct, ao, cc, pc, pa, na, fr, ft, rt, rf', va, ex, bt, bf, bv)) :
    wX_sortRowTags_2 post lt ec rc fc br (0 + 1 + 1) 2 tg ct ao cc pc pa na fr ft rt rf va ex bt bf bv := by
  refine br_f rm_q2 ⟨rm_v2, nm_r (e' := nI c) (by rw [rm_c2]; exact h2) ⟨0 + 1 + 1 + 1, br_f rm_z2 ⟨rm_w21, ?_⟩⟩⟩
  by_cases a : lo < c
  · refine br_f (by rw [rm_k21, h1]; exact nI_ge a (by omega)) ⟨rm_w21, rm_v2, nm_r (e' := upd rf 2 (nI lo)) (by rw [rm_k21, rm_c2, h1]) (nm_r rm_d21 (br_f rm_z1 ⟨rm_w10, ?_⟩))⟩
    have h0' : upd rf 2 (nI lo) 0 = nI hi := (pk_un (by omega)).trans h0
    by_cases b : hi < c
    · refine br_f (by rw [rm_k10, h0']; exact nI_ge b (by omega)) ⟨rm_w10, rm_v1, nm_r (e' := upd (upd rf 2 (nI lo)) 1 (nI hi)) (by rw [rm_k10, rm_c1, h0']) (nm_r rm_d10 (br_t rm_z0 ⟨rm_v0, nm_r (e' := upd (upd (upd rf 2 (nI lo)) 1 (nI hi)) 0 (nI c)) (by rw [rm_c0]) (nm_r rm_23 (br_t rm_q3 (k _ c hi lo ?_ ?_ ?_ (Or.inr (Or.inr ⟨a, b, rfl, rfl, rfl⟩)))))⟩))⟩
      · rw [pk_us]
      · rw [pk_un (by omega), pk_us]
      · rw [pk_un (by omega), pk_un (by omega), pk_us]
    · refine br_t (by rw [rm_k10, h0']; exact nI_le (by omega) (by omega)) ⟨rm_v1, nm_r (e' := upd (upd rf 2 (nI lo)) 1 (nI c)) (by rw [rm_c1]) (nm_r rm_23 (br_t rm_q3 (k _ hi c lo ?_ ?_ ?_ (Or.inr (Or.inl ⟨a, b, rfl, rfl, rfl⟩)))))⟩
      · rw [pk_un (by omega)]; exact h0'
      · rw [pk_us]
      · rw [pk_un (by omega), pk_us]
  · refine br_t (by rw [rm_k21, h1]; exact nI_le (by omega) (by omega)) ⟨rm_v2, nm_r (e' := upd rf 2 (nI c)) (by rw [rm_c2]) (nm_r rm_23 (br_t rm_q3 (k _ hi lo c ?_ ?_ ?_ (Or.inl ⟨a, rfl, rfl, rfl⟩))))⟩
    · rw [pk_un (by omega)]; exact h0
    · rw [pk_un (by omega)]; exact h1
    · rw [pk_us]
theorem xm_so {post : SX → Prop} {a b c : Nat} (ba : a < 1048576) (bb : b < 1048576) (bc : c < 1048576) (h0 : rt 0 = nI a) (h1 : rt 1 = nI b) (h2 : rt 2 = nI c)
    (k : ∀ rf', rf' 0 = nI (rm_m0 a b c) → rf' 1 = nI (rm_m1 a b c) → rf' 2 = nI (rm_m2 a b c) → post (lt, ec, rc, fc, br, tg, ct, ao, cc, pc, pa, na, fr, ft, rt, rf', va, ex, bt, bf, bv)) : wpX_sortRowTags post (lt, ec, rc, fc, br, tg, ct, ao, cc, pc, pa, na, fr, ft, rt, rf, va, ex, bt, bf, bv) := by
  have fin : ∀ rf' x y z, rf' 0 = nI x → rf' 1 = nI y → rf' 2 = nI z → rm_is a b c x y z → post (lt, ec, rc, fc, br, tg, ct, ao, cc, pc, pa, na, fr, ft, rt, rf', va, ex, bt, bf, bv) := by
    intro rf' x y z e0 e1 e2 i
    obtain ⟨rfl, rfl, rfl⟩ := i
    exact k rf' e0 e1 e2
  refine ⟨0 + 1 + 1 + 1 + 1, br_f rm_q0 ⟨rm_v0, nm_r (e' := nI a) (by rw [rm_c0]; exact h0) ⟨0 + 1, br_t rm_z0 ⟨rm_v0, nm_r (e' := upd rf 0 (nI a)) (by rw [rm_c0]) (nm_r rm_01 ?_)⟩⟩⟩⟩
  refine br_f rm_q1 ⟨rm_v1, nm_r (e' := nI b) (by rw [rm_c1]; exact h1) ⟨0 + 1 + 1, br_f rm_z1 ⟨rm_w10, ?_⟩⟩⟩
  have u0 : upd rf 0 (nI a) 0 = nI a := pk_us
  by_cases ab : a < b
  · refine br_f (by rw [rm_k10, u0]; exact nI_ge ab (by omega)) ⟨rm_w10, rm_v1, nm_r (e' := upd (upd rf 0 (nI a)) 1 (nI a)) (by rw [rm_k10, rm_c1, u0]) (nm_r rm_d10 (br_t rm_z0 ⟨rm_v0, nm_r (e' := upd (upd (upd rf 0 (nI a)) 1 (nI a)) 0 (nI b)) (by rw [rm_c0]) (nm_r rm_12 ?_)⟩))⟩
    refine xm_s3 (hi := b) (lo := a) bb ba bc pk_us (by rw [pk_un (by omega), pk_us]) h2 (fun rf' x y z e0 e1 e2 i => fin rf' x y z e0 e1 e2 ?_)
    rcases i with ⟨i1, rfl, rfl, rfl⟩ | ⟨i1, i2, rfl, rfl, rfl⟩ | ⟨i1, i2, rfl, rfl, rfl⟩
    · exact rm_i3 ab i1
    · exact rm_i2 ab i1 i2
    · exact rm_i1 ab i1 i2
  · refine br_t (by rw [rm_k10, u0]; exact nI_le (by omega) (by omega)) ⟨rm_v1, nm_r (e' := upd (upd rf 0 (nI a)) 1 (nI b)) (by rw [rm_c1]) (nm_r rm_12 ?_)⟩
    refine xm_s3 (hi := a) (lo := b) ba bb bc (by rw [pk_un (by omega), pk_us]) pk_us h2 (fun rf' x y z e0 e1 e2 i => fin rf' x y z e0 e1 e2 ?_)
    rcases i with ⟨i1, rfl, rfl, rfl⟩ | ⟨i1, i2, rfl, rfl, rfl⟩ | ⟨i1, i2, rfl, rfl, rfl⟩
    · exact rm_i6 ab i1
    · exact rm_i5 ab i1 i2
    · exact rm_i4 ab i1 i2
theorem xm_12 {post : Int32 → Prop} {q : Int32} {j x y k : Nat} (hj : j < 3) (bx : x < 1048576) (hy' : y < 1048576) (hx : rf j = nI x) (hy : bf j = nI y) (he : x = y → wX_rowBeatsBest_12 post q lt ec rc fc br tg ct ao cc pc pa na fr ft rt rf va ex bt bf bv k (nI (j + 1))) (hg : y < x → post 1) (hl : x < y → post 0) : wX_rowBeatsBest_12 post q lt ec rc fc br tg ct ao cc pc pa na fr ft rt rf va ex bt bf bv (k + 1) (nI j) := by
  have w : vp_in (nI j) 3 := vp_in_nI hj (by omega)
  have cj : (nI j).toNatClampNeg = j := nI_clamp (by omega)
  refine br_f (nI_ge (b := 3) hj (by omega)) ⟨w, w, ?_⟩
  by_cases e : x = y
  · exact br_t (by rw [cj, hx, hy, e]) (nm_r (nI_1 j) (he e))
  · refine br_f (by rw [cj, hx, hy]; exact fun z => e ((nI_eq (by omega) (by omega)).mp z)) ⟨w, w, ?_⟩
    by_cases g : y < x
    · exact br_f (by rw [cj, hx, hy]; exact nI_ge g (by omega)) (hg g)
    · exact br_t (by rw [cj, hx, hy]; exact nI_le (by omega) (by omega)) (hl (by omega))
theorem xm_83 {post : Int32 → Prop} {j x y k : Nat} (hj : j < 3) (bx : x < 1048576) (hy' : y < 1048576) (hx : rt j = nI x) (hy : bt j = nI y) (he : x = y → wX_rowBeatsBest_83 post lt ec rc fc br tg ct ao cc pc pa na fr ft rt rf va ex bt bf bv k (nI (j + 1))) (hg : y < x → post 1) (hl : x < y → post 0) : wX_rowBeatsBest_83 post lt ec rc fc br tg ct ao cc pc pa na fr ft rt rf va ex bt bf bv (k + 1) (nI j) := by
  have w : vp_in (nI j) 3 := vp_in_nI hj (by omega)
  have cj : (nI j).toNatClampNeg = j := nI_clamp (by omega)
  refine br_f (nI_ge (b := 3) hj (by omega)) ⟨w, w, ?_⟩
  by_cases e : x = y
  · exact br_t (by rw [cj, hx, hy, e]) (nm_r (nI_1 j) (he e))
  · refine br_f (by rw [cj, hx, hy]; exact fun z => e ((nI_eq (by omega) (by omega)).mp z)) ⟨w, w, ?_⟩
    by_cases g : y < x
    · exact br_f (by rw [cj, hx, hy]; exact nI_ge g (by omega)) (hg g)
    · exact br_t (by rw [cj, hx, hy]; exact nI_le (by omega) (by omega)) (hl (by omega))
theorem xm_bb {post : Int32 → Prop} {r a b c r' a' b' c' : Nat} (ha : a < 1048576) (hb : b < 1048576) (hc : c < 1048576) (ha' : a' < 1048576) (hb' : b' < 1048576) (hc' : c' < 1048576) (hr : r < 7) (hr' : r' < 7)
    (f0 : rf 0 = nI (rm_m0 a b c)) (f1 : rf 1 = nI (rm_m1 a b c)) (f2 : rf 2 = nI (rm_m2 a b c)) (g0 : bf 0 = nI (rm_m0 a' b' c')) (g1 : bf 1 = nI (rm_m1 a' b' c')) (g2 : bf 2 = nI (rm_m2 a' b' c'))
    (t0 : rt 0 = nI a) (t1 : rt 1 = nI b) (t2 : rt 2 = nI c) (s0 : bt 0 = nI a') (s1 : bt 1 = nI b') (s2 : bt 2 = nI c')
    (h1 : rm_kf r' a' b' c' < rm_kf r a b c → post 1) (h0 : ¬ rm_kf r' a' b' c' < rm_kf r a b c → post 0) : wpX_rowBeatsBest post (lt, ec, rc, fc, nI r', tg, ct, ao, cc, pc, pa, na, fr, ft, rt, rf, va, ex, bt, bf, bv) (nI r) := by
  have kk := rm_bt_k (r := r) (r' := r') ha hb hc ha' hb' hc'
  obtain ⟨m0, m1, m2⟩ := rm_mb ha hb hc
  obtain ⟨n0, n1, n2⟩ := rm_mb ha' hb' hc'
  rw [← kk] at h1 h0
  unfold rm_bt at h1 h0
  generalize rm_m0 a b c = x0 at *
  generalize rm_m1 a b c = x1 at *
  generalize rm_m2 a b c = x2 at *
  generalize rm_m0 a' b' c' = y0 at *
  generalize rm_m1 a' b' c' = y1 at *
  generalize rm_m2 a' b' c' = y2 at *
  refine br_f (rm_nm1 (by omega)) ⟨0 + 1 + 1 + 1 + 1, ?_⟩
  refine xm_12 (j := 0) (by omega) m0 n0 f0 g0 (fun e0 => ?_) (fun z => h1 (by omega)) (fun z => h0 (by omega))
  refine xm_12 (j := 1) (by omega) m1 n1 f1 g1 (fun e1 => ?_) (fun z => h1 (by omega)) (fun z => h0 (by omega))
  refine xm_12 (j := 2) (by omega) m2 n2 f2 g2 (fun e2 => ?_) (fun z => h1 (by omega)) (fun z => h0 (by omega))
  refine br_t (by decide) ?_
  by_cases er : r = r'
  · refine br_t (by rw [er]) ⟨0 + 1 + 1 + 1 + 1, ?_⟩
    refine xm_83 (j := 0) (by omega) ha ha' t0 s0 (fun e3 => ?_) (fun z => h1 (by omega)) (fun z => h0 (by omega))
    refine xm_83 (j := 1) (by omega) hb hb' t1 s1 (fun e4 => ?_) (fun z => h1 (by omega)) (fun z => h0 (by omega))
    refine xm_83 (j := 2) (by omega) hc hc' t2 s2 (fun e5 => ?_) (fun z => h1 (by omega)) (fun z => h0 (by omega))
    exact br_t (by decide) (h0 (by omega))
  · refine br_f (fun z => er ((nI_eq (by omega) (by omega)).mp z)) ?_
    by_cases lr : r < r'
    · exact br_f (nI_ge lr (by omega)) (h1 (by omega))
    · exact br_t (nI_le (by omega) (by omega)) (h0 (by omega))
theorem xm_ke {post : SX → Prop} {q : Int32} (h : ∀ bt' bf' bv', rm_ag bt' rt → rm_ag bf' rf → rm_ag bv' va → post (lt, ec, rc, fc, q, tg, ct, ao, cc, pc, pa, na, fr, ft, rt, rf, va, ex, bt', bf', bv')) : wpX_keepRowAsBest post (lt, ec, rc, fc, br, tg, ct, ao, cc, pc, pa, na, fr, ft, rt, rf, va, ex, bt, bf, bv) q :=
  ⟨0 + 1 + 1 + 1 + 1, br_f rm_q0 ⟨rm_v0, rm_v0, nm_r (e' := upd bt 0 (rt 0)) (by rw [rm_c0]) ⟨rm_v0, rm_v0, nm_r (e' := upd bf 0 (rf 0)) (by rw [rm_c0]) (nm_r rm_01 (br_f rm_q1 ⟨rm_v1, rm_v1, nm_r (e' := upd (upd bt 0 (rt 0)) 1 (rt 1)) (by rw [rm_c1]) ⟨rm_v1, rm_v1, nm_r (e' := upd (upd bf 0 (rf 0)) 1 (rf 1)) (by rw [rm_c1]) (nm_r rm_12 (br_f rm_q2 ⟨rm_v2, rm_v2, nm_r (e' := rm_u3 bt (rt 0) (rt 1) (rt 2)) (by rw [rm_c2]; rfl) ⟨rm_v2, rm_v2, nm_r (e' := rm_u3 bf (rf 0) (rf 1) (rf 2)) (by rw [rm_c2]; rfl) (nm_r rm_23 (br_t rm_q3 ⟨0 + 1 + 1 + 1 + 1, br_f rm_q0 ⟨rm_v0, rm_v0, nm_r (e' := upd bv 0 (va 0)) (by rw [rm_c0]) (nm_r rm_01 (br_f rm_q1 ⟨rm_v1, rm_v1, nm_r (e' := upd (upd bv 0 (va 0)) 1 (va 1)) (by rw [rm_c1]) (nm_r rm_12 (br_f rm_q2 ⟨rm_v2, rm_v2, nm_r (e' := rm_u3 bv (va 0) (va 1) (va 2)) (by rw [rm_c2]; rfl) (nm_r rm_23 (br_t rm_q3 (h _ _ _ (rm_u3_ag rfl rfl rfl) (rm_u3_ag rfl rfl rfl) (rm_u3_ag rfl rfl rfl))))⟩))⟩))⟩⟩))⟩⟩))⟩⟩))⟩⟩⟩
end XC
/-- the component's best match so far -/
def rm_BX (m : Nat) (b : Option rm_It) (br : Int32) (bt bf bv : Nat → Int32) : Prop :=
  match b with
  | none => br = -1
  | some x => br = nI x.1 ∧ x.1 < m ∧ (∀ j, x.2.1 j < 1048576) ∧ (∀ j, j < 3 → bt j = nI (x.2.1 j)) ∧ bf 0 = nI (rm_m0 (x.2.1 0) (x.2.1 1) (x.2.1 2)) ∧ bf 1 = nI (rm_m1 (x.2.1 0) (x.2.1 1) (x.2.1 2)) ∧ bf 2 = nI (rm_m2 (x.2.1 0) (x.2.1 1) (x.2.1 2)) ∧ rm_ag bv x.2.2
theorem rm_gb {T C : Nat → Nat} {n l : Nat} {D : Nat → Nat} {P : Nat → Nat} {N : Nat → Bool} {j : Nat} {s : (Nat → Int32) × (Nat → Nat)} (hE : rm_PE n l T C) (hl : l < 1048576) (h : rm_ps T C n D P N j = some s) : ∀ k, s.2 k < 1048576 := by
  intro k
  obtain ⟨_, a, b⟩ := rm_ps_g j s h
  by_cases hk : k < rm_pc N j
  · have c := a k hk
    rw [c.2]
    have := hE.2 _ c.1
    omega
  · rw [b k hk]; omega
section XD
variable {n m l : Nat} {T C Z Q : Nat → Nat} {P : Nat → Nat → Nat} {N : Nat → Nat → Bool} {L : List rm_Fi}
variable {lt ec rc fc br : Int32} {tg ct ao cc pc pa na fr ft rt rf va ex bt bf bv : Nat → Int32}
theorem xm_23 {post : SX → Prop} {J : Int32 → Int32 → Int32 → Int32 → Int32 → Int32 → (Nat → Int32) → (Nat → Int32) → (Nat → Int32) → (Nat → Int32) → (Nat → Int32) → (Nat → Int32) → (Nat → Int32) → (Nat → Int32) → (Nat → Int32) → (Nat → Int32) → (Nat → Int32) → (Nat → Int32) → (Nat → Int32) → (Nat → Int32) → (Nat → Int32) → (Nat → Int32) → Prop} {r : Nat} {b : Option rm_It}
    (H : rm_XH n m l T C Z Q P N L tg ct ao cc pc pa na fr ft) (hr : r < m)
    (hJ : ∀ rt rf va ex br bt bf bv, rm_BX m (rm_fc (rm_om T C n P N Z L r) b (12 ^ rm_pc (N r) (Z r))) br bt bf bv → J (nI (r + 1)) (nI l) (nI n) (nI m) (nI L.length) br tg ct ao cc pc pa na fr ft rt rf va ex bt bf bv) :
    ∀ d i rt rf va ex br bt bf bv, i + d = 12 ^ rm_pc (N r) (Z r) → rm_BX m (rm_fc (rm_om T C n P N Z L r) b i) br bt bf bv → wX_findBest_23 post J (nI r) (nI (12 ^ rm_pc (N r) (Z r))) (d + 1) (nI i) (nI l) (nI n) (nI m) (nI L.length) br tg ct ao cc pc pa na fr ft rt rf va ex bt bf bv := by
  have hPE := H.2.2.1
  have hl := H.2.1
  have hPU := H.2.2.2.1
  have hm := hPU.1
  obtain ⟨p1, p3⟩ := rm_pc_1 hPU hr
  have pb : 12 ^ rm_pc (N r) (Z r) ≤ 1728 := Nat.pow_le_pow_right (n := 12) (by omega) p3
  generalize hM : 12 ^ rm_pc (N r) (Z r) = M at *
  intro d
  induction d with
  | zero =>
    intro i rt rf va ex br bt bf bv e hb
    have e2 : i = M := by omega
    subst e2
    exact br_t (nI_le (Nat.le_refl _) (by omega)) (nm_r (nI_1 r) (hJ rt rf va ex br bt bf bv hb))
  | succ d ih =>
    intro i rt rf va ex br bt bf bv e hb
    refine br_f (nI_ge (by omega) (by omega)) (xm_im H hr (by omega) (fun rt1 va1 ex1 hn => ?_) (fun rt1 va1 ex1 s hs hva hrt => ?_))
    · have om : rm_om T C n P N Z L r i = none := by unfold rm_om; rw [hn]; rfl
      have fc1 : rm_fc (rm_om T C n P N Z L r) b (i + 1) = rm_fc (rm_om T C n P N Z L r) b i := by
        show rm_ub _ (rm_om T C n P N Z L r i) = _
        rw [om]; rfl
      exact br_t rfl (nm_r (nI_1 i) (ih (i + 1) rt1 rf va1 ex1 br bt bf bv (by omega) (by rw [fc1]; exact hb)))
    · have gb := rm_gb hPE hl hs
      refine br_f (by decide) (xm_hf H (by omega) gb hrt (fun mem => ?_) (fun mem => ?_))
      · have om : rm_om T C n P N Z L r i = none := by
          unfold rm_om; rw [hs]; exact if_pos mem
        have fc1 : rm_fc (rm_om T C n P N Z L r) b (i + 1) = rm_fc (rm_om T C n P N Z L r) b i := by
          show rm_ub _ (rm_om T C n P N Z L r i) = _
          rw [om]; rfl
        exact br_f (by decide) (nm_r (nI_1 i) (ih (i + 1) rt1 rf va1 ex1 br bt bf bv (by omega) (by rw [fc1]; exact hb)))
      · have om : rm_om T C n P N Z L r i = some (r, s.2, s.1) := by
          unfold rm_om; rw [hs]; exact if_neg mem
        have fc1 : rm_fc (rm_om T C n P N Z L r) b (i + 1) = rm_ub (rm_fc (rm_om T C n P N Z L r) b i) (some (r, s.2, s.1)) := by
          show rm_ub _ (rm_om T C n P N Z L r i) = _
          rw [om]
        refine br_t rfl (xm_so (gb 0) (gb 1) (gb 2) (hrt 0 (by omega)) (hrt 1 (by omega)) (hrt 2 (by omega)) (fun rf1 f0 f1 f2 => ?_))
        have kp : rm_BX m (rm_fc (rm_om T C n P N Z L r) b (i + 1)) = rm_BX m (some (r, s.2, s.1)) → wpX_keepRowAsBest (fun u => match u with | (lt2, ec2, rc2, fc2, br2, tg2, ct2, ao2, cc2, pc2, pa2, na2, fr2, ft2, rt2, rf2, va2, ex2, bt2, bf2, bv2) => ∀ x3 : Int32, x3 = nI i + 1 → wX_findBest_23 post J (nI r) (nI M) (d + 1) x3 lt2 ec2 rc2 fc2 br2 tg2 ct2 ao2 cc2 pc2 pa2 na2 fr2 ft2 rt2 rf2 va2 ex2 bt2 bf2 bv2) (nI l, nI n, nI m, nI L.length, br, tg, ct, ao, cc, pc, pa, na, fr, ft, rt1, rf1, va1, ex1, bt, bf, bv) (nI r) := by
          intro e2
          refine xm_ke (fun bt' bf' bv' q1 q2 q3 => ?_)
          refine nm_r (nI_1 i) (ih (i + 1) rt1 rf1 va1 ex1 (nI r) bt' bf' bv' (by omega) ?_)
          rw [e2]
          exact ⟨rfl, hr, gb, fun j hj => (q1 j hj).trans (hrt j hj), (q2 0 (by omega)).trans f0, (q2 1 (by omega)).trans f1, (q2 2 (by omega)).trans f2, fun j hj => (q3 j hj).trans (hva j hj)⟩
        cases hq : rm_fc (rm_om T C n P N Z L r) b i with
        | none =>
          rw [hq] at hb fc1
          have hb2 : br = -1 := hb
          subst hb2
          exact br_t rfl (br_f (by decide) (kp (by rw [fc1]; rfl)))
        | some y =>
          rw [hq] at hb fc1
          obtain ⟨b1, b2, b3, b4, b5, b6, b7, b8⟩ := hb
          subst b1
          refine xm_bb (gb 0) (gb 1) (gb 2) (b3 0) (b3 1) (b3 2) (by omega) (by omega) f0 f1 f2 b5 b6 b7 (hrt 0 (by omega)) (hrt 1 (by omega)) (hrt 2 (by omega)) (b4 0 (by omega)) (b4 1 (by omega)) (b4 2 (by omega)) (fun kl => ?_) (fun kl => ?_)
          · exact br_f (by decide) (kp (by rw [fc1]; show rm_BX m (if rm_ky y < rm_ky (r, s.2, s.1) then _ else _) = _; rw [if_pos (show rm_ky y < rm_ky (r, s.2, s.1) from kl)]))
          · refine br_t rfl (nm_r (nI_1 i) (ih (i + 1) rt1 rf1 va1 ex1 (nI y.1) bt bf bv (by omega) ?_))
            rw [fc1]
            show rm_BX m (if rm_ky y < rm_ky (r, s.2, s.1) then _ else _) _ _ _ _
            rw [if_neg (show ¬ rm_ky y < rm_ky (r, s.2, s.1) from kl)]
            exact ⟨rfl, b2, b3, b4, b5, b6, b7, b8⟩
theorem xm_fb {post : SX → Prop} (H : rm_XH n m l T C Z Q P N L tg ct ao cc pc pa na fr ft)
    (h : ∀ rt rf va ex br bt bf bv, rm_BX m (rm_fr (rm_om T C n P N Z L) (fun r => 12 ^ rm_pc (N r) (Z r)) m) br bt bf bv → post (nI l, nI n, nI m, nI L.length, br, tg, ct, ao, cc, pc, pa, na, fr, ft, rt, rf, va, ex, bt, bf, bv)) : wpX_findBest post (nI l, nI n, nI m, nI L.length, br, tg, ct, ao, cc, pc, pa, na, fr, ft, rt, rf, va, ex, bt, bf, bv) := by
  have hm := H.2.2.2.1.1
  have go : ∀ d r rt rf va ex br bt bf bv, r + d = m → rm_BX m (rm_fr (rm_om T C n P N Z L) (fun r => 12 ^ rm_pc (N r) (Z r)) r) br bt bf bv → wX_findBest_7 post (d + 1) (nI r) (nI l) (nI n) (nI m) (nI L.length) br tg ct ao cc pc pa na fr ft rt rf va ex bt bf bv := by
    intro d
    induction d with
    | zero =>
      intro r rt rf va ex br bt bf bv e hb
      have e2 : r = m := by omega
      subst e2
      exact br_t (nI_le (Nat.le_refl _) (by omega)) (h rt rf va ex br bt bf bv hb)
    | succ d ih =>
      intro r rt rf va ex br bt bf bv e hb
      refine br_f (nI_ge (by omega) (by omega)) (xm_ro H (by omega) ?_)
      exact ⟨12 ^ rm_pc (N r) (Z r) + 1, xm_23 (b := rm_fr (rm_om T C n P N Z L) (fun r => 12 ^ rm_pc (N r) (Z r)) r) H (by omega) (fun rt1 rf1 va1 ex1 br1 bt1 bf1 bv1 hb1 => ih (r + 1) rt1 rf1 va1 ex1 br1 bt1 bf1 bv1 (by omega) hb1) (12 ^ rm_pc (N r) (Z r)) 0 rt rf va ex br bt bf bv (by omega) hb⟩
  exact ⟨m + 1, go m 0 rt rf va ex (-1) bt bf bv (by omega) rfl⟩
theorem xm_ma {post : Int32 → SX → Prop} {r : Nat} (H : rm_XH n m l T C Z Q P N L tg ct ao cc pc pa na fr ft) (hr : r < m)
    (h : ∀ rt va ex, post (nI (rm_cn (fun c => (rm_ps T C n (rm_D c) (P r) (N r) (Z r)).isSome) (12 ^ rm_pc (N r) (Z r)))) (nI l, nI n, nI m, nI L.length, br, tg, ct, ao, cc, pc, pa, na, fr, ft, rt, rf, va, ex, bt, bf, bv)) : wpX_matches post (nI l, nI n, nI m, nI L.length, br, tg, ct, ao, cc, pc, pa, na, fr, ft, rt, rf, va, ex, bt, bf, bv) (nI r) := by
  have hPU := H.2.2.2.1
  have hm := hPU.1
  obtain ⟨p1, p3⟩ := rm_pc_1 hPU hr
  have pb : 12 ^ rm_pc (N r) (Z r) ≤ 1728 := Nat.pow_le_pow_right (n := 12) (by omega) p3
  have go : ∀ d i rt va ex, i + d = 12 ^ rm_pc (N r) (Z r) → wX_matches_25 post (nI r) (nI (12 ^ rm_pc (N r) (Z r))) (d + 1) (nI (rm_cn (fun c => (rm_ps T C n (rm_D c) (P r) (N r) (Z r)).isSome) i)) (nI i) (nI l) (nI n) (nI m) (nI L.length) br tg ct ao cc pc pa na fr ft rt rf va ex bt bf bv := by
    generalize 12 ^ rm_pc (N r) (Z r) = M at *
    intro d
    induction d with
    | zero =>
      intro i rt va ex e
      have e2 : i = M := by omega
      subst e2
      exact br_t (nI_le (Nat.le_refl _) (by omega)) (h rt va ex)
    | succ d ih =>
      intro i rt va ex e
      refine br_f (nI_ge (by omega) (by omega)) (xm_im H hr (by omega) (fun rt1 va1 ex1 hn => ?_) (fun rt1 va1 ex1 s hs _ _ => ?_))
      · have e3 : rm_cn (fun c => (rm_ps T C n (rm_D c) (P r) (N r) (Z r)).isSome) (i + 1) = rm_cn (fun c => (rm_ps T C n (rm_D c) (P r) (N r) (Z r)).isSome) i := by
          show _ + (if (rm_ps T C n (rm_D i) (P r) (N r) (Z r)).isSome = true then 1 else 0) = _
          rw [hn]; rfl
        have := ih (i + 1) rt1 va1 ex1 (by omega)
        rw [e3] at this
        exact br_t rfl (nm_r (nI_1 i) this)
      · have e3 : rm_cn (fun c => (rm_ps T C n (rm_D c) (P r) (N r) (Z r)).isSome) (i + 1) = rm_cn (fun c => (rm_ps T C n (rm_D c) (P r) (N r) (Z r)).isSome) i + 1 := by
          show _ + (if (rm_ps T C n (rm_D i) (P r) (N r) (Z r)).isSome = true then 1 else 0) = _
          rw [hs]; rfl
        have := ih (i + 1) rt1 va1 ex1 (by omega)
        rw [e3] at this
        exact br_f (by decide) (nm_r (nI_1 _) (nm_r (nI_1 i) this))
  refine br_f (nI_pos (by omega)) (br_t (nI_lt hr (by omega)) (xm_ro H hr ?_))
  exact ⟨12 ^ rm_pc (N r) (Z r) + 1, go (12 ^ rm_pc (N r) (Z r)) 0 rt va ex (by omega)⟩
theorem xm_op {post : Int32 → SX → Prop} (H : rm_XH n m l T C Z Q P N L tg ct ao cc pc pa na fr ft)
    (h : ∀ rt va ex, post (nI (rm_oc (rm_om T C n P N Z L) (fun r => 12 ^ rm_pc (N r) (Z r)) m)) (nI l, nI n, nI m, nI L.length, br, tg, ct, ao, cc, pc, pa, na, fr, ft, rt, rf, va, ex, bt, bf, bv)) : wpX_open post (nI l, nI n, nI m, nI L.length, br, tg, ct, ao, cc, pc, pa, na, fr, ft, rt, rf, va, ex, bt, bf, bv) := by
  have hPU := H.2.2.2.1
  have hm := hPU.1
  have hPE := H.2.2.1
  have hl := H.2.1
  have go : ∀ d r rt va ex, r + d = m → wX_open_4 post (d + 1) (nI (rm_oc (rm_om T C n P N Z L) (fun r => 12 ^ rm_pc (N r) (Z r)) r)) (nI r) (nI l) (nI n) (nI m) (nI L.length) br tg ct ao cc pc pa na fr ft rt rf va ex bt bf bv := by
    intro d
    induction d with
    | zero =>
      intro r rt va ex e
      have e2 : r = m := by omega
      subst e2
      exact br_t (nI_le (Nat.le_refl _) (by omega)) (h rt va ex)
    | succ d ih =>
      intro r rt va ex e
      have hr : r < m := by omega
      obtain ⟨p1, p3⟩ := rm_pc_1 hPU hr
      have pb : 12 ^ rm_pc (N r) (Z r) ≤ 1728 := Nat.pow_le_pow_right (n := 12) (by omega) p3
      have J : ∀ rt va ex, wX_open_4 post (d + 1) (nI (rm_oc (rm_om T C n P N Z L) (fun r => 12 ^ rm_pc (N r) (Z r)) r + rm_cn (fun c => (rm_om T C n P N Z L r c).isSome) (12 ^ rm_pc (N r) (Z r)))) (nI (r + 1)) (nI l) (nI n) (nI m) (nI L.length) br tg ct ao cc pc pa na fr ft rt rf va ex bt bf bv := fun rt va ex => ih (r + 1) rt va ex (by omega)
      refine br_f (nI_ge hr (by omega)) (xm_ro H hr ?_)
      generalize rm_oc (rm_om T C n P N Z L) (fun r => 12 ^ rm_pc (N r) (Z r)) r = o at *
      have g2 : ∀ f i rt va ex, i + f = 12 ^ rm_pc (N r) (Z r) → wX_open_21 post (wX_open_4 post (d + 1)) (nI r) (nI (12 ^ rm_pc (N r) (Z r))) (f + 1) (nI (o + rm_cn (fun c => (rm_om T C n P N Z L r c).isSome) i)) (nI i) (nI l) (nI n) (nI m) (nI L.length) br tg ct ao cc pc pa na fr ft rt rf va ex bt bf bv := by
        generalize 12 ^ rm_pc (N r) (Z r) = M at *
        intro f
        induction f with
        | zero =>
          intro i rt va ex e
          have e2 : i = M := by omega
          subst e2
          exact br_t (nI_le (Nat.le_refl _) (by omega)) (nm_r (nI_1 r) (J rt va ex))
        | succ f ih2 =>
          intro i rt va ex e
          have no : rm_om T C n P N Z L r i = none → rm_cn (fun c => (rm_om T C n P N Z L r c).isSome) (i + 1) = rm_cn (fun c => (rm_om T C n P N Z L r c).isSome) i := by
            intro om
            show _ + (if (rm_om T C n P N Z L r i).isSome = true then 1 else 0) = _
            rw [om]; rfl
          refine br_f (nI_ge (by omega) (by omega)) (xm_im H hr (by omega) (fun rt1 va1 ex1 hn => ?_) (fun rt1 va1 ex1 s hs _ hrt => ?_))
          · have e3 := no (by unfold rm_om; rw [hn]; rfl)
            have := ih2 (i + 1) rt1 va1 ex1 (by omega)
            rw [e3] at this
            exact br_t rfl (nm_r (nI_1 i) this)
          · have gb := rm_gb hPE hl hs
            refine br_f (by decide) (xm_hf H (by omega) gb hrt (fun mem => ?_) (fun mem => ?_))
            · have e3 := no (by unfold rm_om; rw [hs]; exact if_pos mem)
              have := ih2 (i + 1) rt1 va1 ex1 (by omega)
              rw [e3] at this
              exact br_f (by decide) (nm_r (nI_1 i) this)
            · have om : rm_om T C n P N Z L r i = some (r, s.2, s.1) := by
                unfold rm_om; rw [hs]; exact if_neg mem
              have e3 : rm_cn (fun c => (rm_om T C n P N Z L r c).isSome) (i + 1) = rm_cn (fun c => (rm_om T C n P N Z L r c).isSome) i + 1 := by
                show _ + (if (rm_om T C n P N Z L r i).isSome = true then 1 else 0) = _
                rw [om]; rfl
              have := ih2 (i + 1) rt1 va1 ex1 (by omega)
              rw [e3, ← Nat.add_assoc] at this
              exact br_t rfl (nm_r (nI_1 _) (nm_r (nI_1 i) this))
      exact ⟨12 ^ rm_pc (N r) (Z r) + 1, g2 (12 ^ rm_pc (N r) (Z r)) 0 rt va ex (by omega)⟩
  exact ⟨m + 1, go m 0 rt va ex (by omega)⟩
end XD
end
section
theorem rm_i0 (k : Nat) : 3 * nI k + 0 = nI (3 * k) := rm_3 k 0
theorem rm_i1' (k : Nat) : 3 * nI k + 1 = nI (3 * k + 1) := rm_3 k 1
theorem rm_i2' (k : Nat) : 3 * nI k + 2 = nI (3 * k + 2) := rm_3 k 2
section XE
variable {n m l : Nat} {T C Z Q : Nat → Nat} {P : Nat → Nat → Nat} {N : Nat → Nat → Bool} {L : List rm_Fi}
variable {lt ec rc fc br : Int32} {tg ct ao cc pc pa na fr ft rt rf va ex bt bf bv : Nat → Int32}
theorem xm_po {post : Int32 → Prop} {q : Int32} (hn : n ≤ 12) (hT : ∀ i, i < n → tg i = nI (T i)) (h1 : ∀ i, i < n → nI (T i) = q → post (nI i)) (h0 : (∀ i, i < n → ¬ nI (T i) = q) → post (-1)) : wpX_positionOf post (lt, nI n, rc, fc, br, tg, ct, ao, cc, pc, pa, na, fr, ft, rt, rf, va, ex, bt, bf, bv) q := by
  have go : ∀ d i, i + d = n → (∀ j, j < i → ¬ nI (T j) = q) → wX_positionOf_2 post q lt (nI n) rc fc br tg ct ao cc pc pa na fr ft rt rf va ex bt bf bv (d + 1) (nI i) := by
    intro d
    induction d with
    | zero =>
      intro i e hj
      exact br_t (nI_le (by omega) (by omega)) (h0 (fun j hj2 => hj j (by omega)))
    | succ d ih =>
      intro i e hj
      have ci : (nI i).toNatClampNeg = i := nI_clamp (by omega)
      refine br_f (nI_ge (by omega) (by omega)) ⟨vp_in_nI (by omega) (by omega), ?_⟩
      by_cases z : nI (T i) = q
      · exact br_t (by rw [ci, hT i (by omega)]; exact z) (h1 i (by omega) z)
      · exact br_f (by rw [ci, hT i (by omega)]; exact z) (nm_r (nI_1 i) (ih (i + 1) (by omega) (fun j hj2 => by
          by_cases y : j = i
          · rw [y]; exact z
          · exact hj j (by omega))))
  have := go n 0 (by omega) (fun j hj => absurd hj (Nat.not_lt_zero j))
  exact ⟨n + 1, this⟩
theorem xm_mv {post : SX → Prop} {i k : Nat} (hi : i < 40) (hk : k ≤ i)
    (h : ∀ fr' ft', fr' k = fr i → ft' (3 * k) = ft (3 * i) → ft' (3 * k + 1) = ft (3 * i + 1) → ft' (3 * k + 2) = ft (3 * i + 2) → (∀ j, j ≠ k → fr' j = fr j) → (∀ j, j < 3 * k ∨ 3 * k + 3 ≤ j → ft' j = ft j) → post (lt, ec, rc, fc, br, tg, ct, ao, cc, pc, pa, na, fr', ft', rt, rf, va, ex, bt, bf, bv)) :
    wpX_moveFired post (lt, ec, rc, fc, br, tg, ct, ao, cc, pc, pa, na, fr, ft, rt, rf, va, ex, bt, bf, bv) (nI i) (nI k) := by
  have wi : vp_in (nI i) 40 := vp_in_nI hi (by omega)
  have wk : vp_in (nI k) 40 := vp_in_nI (by omega) (by omega)
  have ci : (nI i).toNatClampNeg = i := nI_clamp (by omega)
  have ck : (nI k).toNatClampNeg = k := nI_clamp (by omega)
  have a0 : vp_in (3 * nI i + 0) 120 := by rw [rm_i0]; exact vp_in_nI (by omega) (by omega)
  have a1 : vp_in (3 * nI i + 1) 120 := by rw [rm_i1']; exact vp_in_nI (by omega) (by omega)
  have a2 : vp_in (3 * nI i + 2) 120 := by rw [rm_i2']; exact vp_in_nI (by omega) (by omega)
  have b0 : vp_in (3 * nI k + 0) 120 := by rw [rm_i0]; exact vp_in_nI (by omega) (by omega)
  have b1 : vp_in (3 * nI k + 1) 120 := by rw [rm_i1']; exact vp_in_nI (by omega) (by omega)
  have b2 : vp_in (3 * nI k + 2) 120 := by rw [rm_i2']; exact vp_in_nI (by omega) (by omega)
  have c0 : (3 * nI i + 0).toNatClampNeg = 3 * i := by rw [rm_i0]; exact nI_clamp (by omega)
  have c1 : (3 * nI i + 1).toNatClampNeg = 3 * i + 1 := by rw [rm_i1']; exact nI_clamp (by omega)
  have c2 : (3 * nI i + 2).toNatClampNeg = 3 * i + 2 := by rw [rm_i2']; exact nI_clamp (by omega)
  have d0 : (3 * nI k + 0).toNatClampNeg = 3 * k := by rw [rm_i0]; exact nI_clamp (by omega)
  have d1 : (3 * nI k + 1).toNatClampNeg = 3 * k + 1 := by rw [rm_i1']; exact nI_clamp (by omega)
  have d2 : (3 * nI k + 2).toNatClampNeg = 3 * k + 2 := by rw [rm_i2']; exact nI_clamp (by omega)
  have u1 : upd ft (3 * k) (ft (3 * i)) (3 * i + 1) = ft (3 * i + 1) := pk_un (by omega)
  have u2 : upd (upd ft (3 * k) (ft (3 * i))) (3 * k + 1) (ft (3 * i + 1)) (3 * i + 2) = ft (3 * i + 2) := by
    rw [pk_un (by omega), pk_un (by omega)]
  refine ⟨wi, wk, nm_r (e' := upd fr k (fr i)) (by rw [ci, ck]) ⟨0 + 1 + 1 + 1 + 1, br_f rm_q0 ⟨a0, b0, nm_r (e' := upd ft (3 * k) (ft (3 * i))) (by rw [c0, d0]) (nm_r rm_01 (br_f rm_q1 ⟨a1, b1, nm_r (e' := upd (upd ft (3 * k) (ft (3 * i))) (3 * k + 1) (ft (3 * i + 1))) (by rw [c1, d1, u1]) (nm_r rm_12 (br_f rm_q2 ⟨a2, b2, nm_r (e' := upd (upd (upd ft (3 * k) (ft (3 * i))) (3 * k + 1) (ft (3 * i + 1))) (3 * k + 2) (ft (3 * i + 2))) (by rw [c2, d2, u2]) (nm_r rm_23 (br_t rm_q3 ?_))⟩))⟩))⟩⟩⟩
  refine h _ _ pk_us ?_ ?_ pk_us (fun j hj => pk_un hj) (fun j hj => ?_)
  · rw [pk_un (by omega), pk_un (by omega), pk_us]
  · rw [pk_un (by omega), pk_us]
  · rw [pk_un (by omega), pk_un (by omega), pk_un (by omega)]
theorem xm_fg {post : SX → Prop} {t : Nat} (ht : t < 1048576) (hl : L.length ≤ 40) (hLB : rm_LB L) (hF : rm_Fl fr ft L)
    (h : ∀ fr' ft', rm_Fl fr' ft' (L.filter (rm_nt t)) → post (lt, ec, rc, nI (L.filter (rm_nt t)).length, br, tg, ct, ao, cc, pc, pa, na, fr', ft', rt, rf, va, ex, bt, bf, bv)) :
    wpX_forgetFiredWith post (lt, ec, rc, nI L.length, br, tg, ct, ao, cc, pc, pa, na, fr, ft, rt, rf, va, ex, bt, bf, bv) (nI t) := by
  have go : ∀ d i fr ft, i + d = L.length → rm_Cp fr ft L (rm_nt t) i → wX_forgetFiredWith_4 post (nI t) (d + 1) (nI ((L.take i).filter (rm_nt t)).length) (nI i) lt ec rc (nI L.length) br tg ct ao cc pc pa na fr ft rt rf va ex bt bf bv := by
    intro d
    induction d with
    | zero =>
      intro i fr ft e hc
      have e2 : i = L.length := by omega
      subst e2
      have := h fr ft (rm_Cp_e hc)
      rw [List.take_length]
      exact br_t (nI_le (Nat.le_refl _) (by omega)) this
    | succ d ih =>
      intro i fr ft e hc
      obtain ⟨x, hx⟩ := rm_get (L := L) (i := i) (by omega)
      obtain ⟨e0, e1, e2, e3⟩ := hc.2 i x (Nat.le_refl i) hx
      obtain ⟨b0, b1, b2, b3⟩ := hLB x (List.mem_of_getElem? hx)
      have wa : vp_in (nI (3 * i)) 120 := vp_in_nI (by omega) (by omega)
      have wb : vp_in (nI (3 * i) + 1) 120 := by rw [nI_1]; exact vp_in_nI (by omega) (by omega)
      have q2 : nI (3 * i) + 2 = nI (3 * i + 2) := nI_add (3 * i) 2
      have wc : vp_in (nI (3 * i) + 2) 120 := by rw [q2]; exact vp_in_nI (by omega) (by omega)
      have ca : ft (nI (3 * i)).toNatClampNeg = nI x.2.1 := by rw [nI_clamp (by omega)]; exact e1
      have cb : ft (nI (3 * i) + 1).toNatClampNeg = nI x.2.2.1 := by rw [nI_1, nI_clamp (by omega)]; exact e2
      have cd : ft (nI (3 * i) + 2).toNatClampNeg = nI x.2.2.2 := by rw [q2, nI_clamp (by omega)]; exact e3
      have drop : rm_nt t x = false → wX_forgetFiredWith_54 post (wX_forgetFiredWith_4 post (nI t) (d + 1)) (nI t) (nI ((L.take i).filter (rm_nt t)).length) (nI i) lt ec rc (nI L.length) br tg ct ao cc pc pa na fr ft rt rf va ex bt bf bv := by
        intro z
        obtain ⟨c1, c2⟩ := rm_Cp_d hc hx z
        have := ih (i + 1) fr ft (by omega) c1
        rw [c2] at this
        exact br_f (by decide) (nm_r (nI_1 i) this)
      refine br_f (nI_ge (by omega) (by omega)) (nm_r (rm_30 i) ⟨wa, ?_⟩)
      by_cases k1 : x.2.1 = t
      · exact br_t (by rw [ca, k1]) (drop (by simp [rm_nt, k1]))
      · refine br_f (by rw [ca]; exact fun z => k1 ((nI_eq (by omega) (by omega)).mp z)) ⟨wb, ?_⟩
        by_cases k2 : x.2.2.1 = t
        · exact br_t (by rw [cb, k2]) (drop (by simp [rm_nt, k2]))
        · refine br_f (by rw [cb]; exact fun z => k2 ((nI_eq (by omega) (by omega)).mp z)) ⟨wc, ?_⟩
          by_cases k3 : x.2.2.2 = t
          · exact br_t (by rw [cd, k3]) (drop (by simp [rm_nt, k3]))
          · refine br_f (by rw [cd]; exact fun z => k3 ((nI_eq (by omega) (by omega)).mp z)) ?_
            have hq : rm_nt t x = true := by simp [rm_nt, k1, k2, k3]
            refine br_t rfl (xm_mv (by omega) rm_kl (fun fr' ft' h0 h1 h2 h3 h4 h5 => ?_))
            obtain ⟨c1, c2⟩ := rm_Cp_k hc hx hq rfl h0 h1 h2 h3 h4 h5
            have := ih (i + 1) fr' ft' (by omega) c1
            rw [c2] at this
            exact nm_r (nI_1 _) (nm_r (nI_1 i) this)
  have := go L.length 0 fr ft (by omega) (rm_Cp_0 hF)
  exact ⟨L.length + 1, this⟩
theorem xm_rm {post : Int32 → SX → Prop} {i : Nat} (H : rm_XH (n + 1) m l T C Z Q P N L tg ct ao cc pc pa na fr ft) (hi : i < n + 1)
    (h : ∀ tg' ct' fr' ft', rm_XE n (rm_dx T n i) (rm_dx C n i) tg' ct' → rm_Fl fr' ft' (L.filter (rm_nt (T i))) → post (nI n) (nI l, nI n, nI m, nI (L.filter (rm_nt (T i))).length, br, tg', ct', ao, cc, pc, pa, na, fr', ft', rt, rf, va, ex, bt, bf, bv)) :
    ∀ q : Int32, q = nI (T i) → wpX_remove post (nI l, nI (n + 1), nI m, nI L.length, br, tg, ct, ao, cc, pc, pa, na, fr, ft, rt, rf, va, ex, bt, bf, bv) q := by
  intro q eq
  subst eq
  obtain ⟨hn, hl, hPE, hPU, hL, hLB, hE, hR, hF⟩ := H
  have ti := hPE.2 i hi
  unfold wpX_remove
  refine xm_po hn (fun j hj => (hE j hj).1) (fun j hj z => ?_) (fun z => absurd rfl (z i hi))
  have tj := hPE.2 j hj
  have e : j = i := hPE.1 j i hj hi ((nI_eq (by omega) (by omega)).mp z)
  subst e
  have wn : vp_in (nI n) 12 := vp_in_nI (by omega) (by omega)
  have wj : vp_in (nI j) 12 := vp_in_nI (by omega) (by omega)
  have cj : (nI j).toNatClampNeg = j := nI_clamp (by omega)
  have cn : (nI n).toNatClampNeg = n := nI_clamp (by omega)
  refine br_f (rm_nm1 (by omega)) (nm_r (nI_pred n) ⟨wn, wj, nm_r (e' := upd tg j (tg n)) (by rw [cj, cn]) ⟨wn, wj, nm_r (e' := upd ct j (ct n)) (by rw [cj, cn]) ?_⟩⟩)
  refine xm_fg (by omega) hL hLB hF (fun fr' ft' hF' => ?_)
  refine h _ _ fr' ft' (fun k hk => ?_) hF'
  unfold rm_dx
  by_cases y : k = j
  · rw [y, pk_us, pk_us, if_pos rfl, if_pos rfl]
    exact hE n (by omega)
  · rw [pk_un y, pk_un y, if_neg y, if_neg y]
    exact hE k (by omega)
theorem xm_rc {post : SX → Prop} {r : Nat} {g : Nat → Nat} (hl : L.length < 40) (hF : rm_Fl fr ft L) (hb : ∀ j, j < 3 → bt j = nI (g j))
    (h : ∀ fr' ft', rm_Fl fr' ft' (L ++ [(r, g 0, g 1, g 2)]) → post (nI l, nI n, nI m, nI (L ++ [(r, g 0, g 1, g 2)]).length, nI r, tg, ct, ao, cc, pc, pa, na, fr', ft', rt, rf, va, ex, bt, bf, bv)) : wpX_recordBestAsFired post (nI l, nI n, nI m, nI L.length, nI r, tg, ct, ao, cc, pc, pa, na, fr, ft, rt, rf, va, ex, bt, bf, bv) := by
  have w : vp_in (nI L.length) 40 := vp_in_nI hl (by omega)
  have c : (nI L.length).toNatClampNeg = L.length := nI_clamp (by omega)
  have b0 : vp_in (3 * nI L.length + 0) 120 := by rw [rm_i0]; exact vp_in_nI (by omega) (by omega)
  have b1 : vp_in (3 * nI L.length + 1) 120 := by rw [rm_i1']; exact vp_in_nI (by omega) (by omega)
  have b2 : vp_in (3 * nI L.length + 2) 120 := by rw [rm_i2']; exact vp_in_nI (by omega) (by omega)
  have d0 : (3 * nI L.length + 0).toNatClampNeg = 3 * L.length := by rw [rm_i0]; exact nI_clamp (by omega)
  have d1 : (3 * nI L.length + 1).toNatClampNeg = 3 * L.length + 1 := by rw [rm_i1']; exact nI_clamp (by omega)
  have d2 : (3 * nI L.length + 2).toNatClampNeg = 3 * L.length + 2 := by rw [rm_i2']; exact nI_clamp (by omega)
  have g0 := hb 0 (by omega)
  have g1 := hb 1 (by omega)
  have g2 := hb 2 (by omega)
  have el : (L ++ [(r, g 0, g 1, g 2)]).length = L.length + 1 := List.length_append
  refine ⟨w, nm_r (e' := upd fr L.length (nI r)) (by rw [c]) ⟨0 + 1 + 1 + 1 + 1, br_f rm_q0 ⟨rm_v0, b0, nm_r (e' := upd ft (3 * L.length) (nI (g 0))) (by rw [d0, rm_c0, g0]) (nm_r rm_01 (br_f rm_q1 ⟨rm_v1, b1, nm_r (e' := upd (upd ft (3 * L.length) (nI (g 0))) (3 * L.length + 1) (nI (g 1))) (by rw [d1, rm_c1, g1]) (nm_r rm_12 (br_f rm_q2 ⟨rm_v2, b2, nm_r (e' := upd (upd (upd ft (3 * L.length) (nI (g 0))) (3 * L.length + 1) (nI (g 1))) (3 * L.length + 2) (nI (g 2))) (by rw [d2, rm_c2, g2]) (nm_r rm_23 (br_t rm_q3 (nm_r (e' := nI (L ++ [(r, g 0, g 1, g 2)]).length) (by rw [el]; exact nI_1 _) (h _ _ ?_))))⟩))⟩))⟩⟩⟩
  refine rm_Fl_app hF (fun j hj => pk_un (by omega)) (fun j hj => ?_) ⟨pk_us, ?_, ?_, pk_us⟩
  · rw [pk_un (by omega), pk_un (by omega), pk_un (by omega)]
  · rw [pk_un (by omega), pk_un (by omega), pk_us]
  · rw [pk_un (by omega), pk_us]
theorem xm_f1 {post : Int32 → Prop} {A : Nat → Int32} {e : Nat} (he : e < 20) (hv : rm_ag bv A) (hV : rm_va A) (h : post (nI (rm_fv A e))) : ∀ q : Int32, q = nI e → wpX_filledField post (lt, ec, rc, fc, br, tg, ct, ao, cc, pc, pa, na, fr, ft, rt, rf, va, ex, bt, bf, bv) q := by
  intro q eq
  subst eq
  unfold rm_fv at h
  by_cases a1 : e < 16
  · rw [if_pos a1] at h
    exact br_f (nI_ge (b := 16) a1 (by omega)) h
  · rw [if_neg a1] at h
    refine br_t (nI_le (a := 16) (by omega) (by omega)) ?_
    by_cases a2 : e = 16
    · rw [if_pos a2] at h
      exact br_t (by rw [a2]; rfl) h
    · rw [if_neg a2] at h
      obtain ⟨v, rfl⟩ : ∃ v, e = 17 + v := ⟨e - 17, by omega⟩
      rw [Nat.add_sub_cancel_left] at h
      have hv3 : v < 3 := by omega
      have e17 : nI (17 + v) - 17 = nI v := by
        have := pk_sub (a := 17 + v) (b := 17) (by omega)
        rw [Nat.add_sub_cancel_left] at this
        exact this
      have w : vp_in (nI (17 + v) - 17) 3 := by rw [e17]; exact vp_in_nI hv3 (by omega)
      have cv : bv (nI (17 + v) - 17).toNatClampNeg = A v := by rw [e17, nI_clamp (by omega)]; exact hv v hv3
      refine br_f (fun z => a2 ((nI_eq (a := 17 + v) (b := 16) (by omega) (by omega)).mp z)) ⟨w, ?_⟩
      by_cases z : A v = -1
      · rw [if_pos z] at h
        exact br_t (by rw [cv]; exact z) h
      · rw [if_neg z] at h
        refine br_f (by rw [cv]; exact z) ⟨w, ?_⟩
        rw [cv]
        rcases hV v with y | ⟨f, hf, y⟩
        · exact absurd y z
        · rw [y, nI_clamp (by omega)] at h
          rw [y]; exact h
theorem xm_10 {post : Int32 → Prop} {A : Nat → Int32} {p a w i k : Nat} (hp : p < 2 ^ 31) (hi : i < 3) (hv : rm_ag bv A) (hV : rm_va A) (h : wX_filledFields_10 post lt ec rc fc br tg ct ao cc pc pa na fr ft rt rf va ex bt bf bv k (nI (p / 20)) (nI (a + w * rm_fv A (p % 20))) (nI (w * 16)) (nI (i + 1))) : wX_filledFields_10 post lt ec rc fc br tg ct ao cc pc pa na fr ft rt rf va ex bt bf bv (k + 1) (nI p) (nI a) (nI w) (nI i) := by
  refine br_f (nI_ge (b := 3) hi (by omega)) ⟨by decide, xm_f1 (e := p % 20) (Nat.mod_lt _ (by omega)) hv hV ?_ _ (pk_rem (d := 20) hp (by omega) (by omega))⟩
  exact nm_r (e' := nI (a + w * rm_fv A (p % 20))) (by rw [pk_mul, nI_add]) (nm_r (pk_mul w 16) ⟨by decide, nm_r (pk_div (d := 20) hp (by omega) (by omega)) (nm_r (nI_1 i) h)⟩)
theorem xm_ff {post : Int32 → Prop} {A : Nat → Int32} {p : Nat} (hp : p < 32000) (hv : rm_ag bv A) (hV : rm_va A) (h : post (nI (rm_ff A p))) : wpX_filledFields post (lt, ec, rc, fc, br, tg, ct, ao, cc, pc, pa, na, fr, ft, rt, rf, va, ex, bt, bf, bv) (nI p) := by
  have e : 0 + 1 * rm_fv A (p % 20) + 1 * 16 * rm_fv A (p / 20 % 20) + 1 * 16 * 16 * rm_fv A (p / 20 / 20 % 20) = rm_ff A p := by
    have : p / 20 / 20 = p / 400 := by omega
    rw [this]
    unfold rm_ff
    omega
  refine ⟨0 + 1 + 1 + 1 + 1, ?_⟩
  refine xm_10 (a := 0) (w := 1) (i := 0) (by omega) (by omega) hv hV ?_
  refine xm_10 (i := 1) (by omega) (by omega) hv hV ?_
  refine xm_10 (i := 2) (by omega) (by omega) hv hV ?_
  rw [e]
  exact br_t (by decide) h
theorem xm_mk {post : Int32 → SX → Prop} {y f : Nat} (hy : y < 4) (hf : f < 4096) (hn : n ≤ 12)
    (h : n < 12 → post (nI (l + 1)) (nI (l + 1), nI (n + 1), nI m, nI L.length, br, upd tg n (nI (l + 1)), upd ct n (nI (4096 * y + f)), ao, cc, pc, pa, na, fr, ft, rt, rf, va, ex, bt, bf, bv)) (h0 : ¬ n < 12 → post (-3) (nI l, nI n, nI m, nI L.length, br, tg, ct, ao, cc, pc, pa, na, fr, ft, rt, rf, va, ex, bt, bf, bv)) :
    ∀ q1 q2 : Int32, q1 = nI y → q2 = nI f → wpX_make post (nI l, nI n, nI m, nI L.length, br, tg, ct, ao, cc, pc, pa, na, fr, ft, rt, rf, va, ex, bt, bf, bv) q1 q2 := by
  intro q1 q2 e1 e2
  subst e1 e2
  refine br_f (nI_pos (by omega)) (br_t (nI_lt (b := 4) hy (by omega)) (br_f (nI_pos (by omega)) (br_t (nI_lt (b := 4096) hf (by omega)) ?_)))
  by_cases z : n < 12
  · have w : vp_in (nI n) 12 := vp_in_nI z (by omega)
    have c : (nI n).toNatClampNeg = n := nI_clamp (by omega)
    have e : 4096 * nI y + nI f = nI (4096 * y + f) := by
      have q : (4096 : Int32) = nI 4096 := rfl
      rw [q, pk_mul, nI_add]
    exact br_t (nI_lt (b := 12) z (by omega)) (nm_r (nI_1 l) ⟨w, nm_r (e' := upd tg n (nI (l + 1))) (by rw [c]) ⟨w, nm_r (e' := upd ct n (nI (4096 * y + f))) (by rw [c, e]) (nm_r (nI_1 n) (h z))⟩⟩)
  · exact br_f (nI_nlt (b := 12) (by omega) (by omega)) (h0 z)
end XE
end
section
/-- what the best match is known to be -/
theorem rm_fr_ok {T C : Nat → Nat} {n l : Nat} {P : Nat → Nat → Nat} {N : Nat → Nat → Bool} {Z : Nat → Nat} {L : List rm_Fi} {m : Nat} {x : rm_It} (hE : rm_PE n l T C) (hl : l < 1048576)
    (h : rm_fr (rm_om T C n P N Z L) (fun r => 12 ^ rm_pc (N r) (Z r)) m = some x) :
    x.1 < m ∧ rm_va x.2.2 ∧ (∀ k, x.2.1 k < 1048576) ∧ (∀ k, k < rm_pc (N x.1) (Z x.1) → ∃ d, d < n ∧ x.2.1 k = T d) ∧ rm_al T n (x.1, x.2.1 0, x.2.1 1, x.2.1 2) = true := by
  obtain ⟨r, hr, c, hc, e⟩ := (rm_ch_fr (om := rm_om T C n P N Z L) (M := fun r => 12 ^ rm_pc (N r) (Z r)) m).1 x h
  unfold rm_om at e
  obtain ⟨s, hs, e⟩ := Option.bind_eq_some_iff.mp e
  have e2 : (r, s.2, s.1) = x := by
    by_cases z : (r, s.2 0, s.2 1, s.2 2) ∈ L
    · rw [if_pos z] at e; cases e
    · rw [if_neg z] at e; exact Option.some.inj e
  subst e2
  obtain ⟨g1, g2, g3⟩ := rm_ps_g _ s hs
  exact ⟨hr, g1, rm_gb hE hl hs, fun k hk => ⟨_, (g2 k hk).1, (g2 k hk).2⟩, rm_ps_al hs⟩
def rm_X (n l m : Nat) (T C Z Q : Nat → Nat) (P : Nat → Nat → Nat) (N : Nat → Nat → Bool) (L : List rm_Fi) (u : SX) : Prop :=
  match u with
  | (lt, ec, rc, fc, br, tg, ct, ao, cc, pc, pa, na, fr, ft, rt, rf, va, ex, bt, bf, bv) => lt = nI l ∧ ec = nI n ∧ rc = nI m ∧ fc = nI L.length ∧ rm_XE n T C tg ct ∧ rm_XR m Z Q P N ao cc pc pa na ∧ rm_Fl fr ft L
theorem rm_XE_mk {n l c : Nat} {T C : Nat → Nat} {tg ct : Nat → Int32} (h : rm_XE n T C tg ct) : rm_XE (n + 1) (rm_w T n (l + 1)) (rm_w C n c) (upd tg n (nI (l + 1))) (upd ct n (nI c)) := by
  intro i hi
  by_cases z : i = n
  · rw [z, pk_us, pk_us, rm_w_s, rm_w_s]
    exact ⟨rfl, rfl⟩
  · rw [pk_un z, pk_un z, rm_w_n z, rm_w_n z]
    exact h i (by omega)
section XF
variable {n m l : Nat} {T C Z Q g : Nat → Nat} {P : Nat → Nat → Nat} {N : Nat → Nat → Bool} {L : List rm_Fi}
variable {lt ec rc fc br : Int32} {tg ct ao cc pc pa na fr ft rt rf va ex bt bf bv : Nat → Int32}
theorem xm_act {post : SX → Prop} {a : Nat} {A : Nat → Int32} (H : rm_XH n m l T C Z Q P N L tg ct ao cc pc pa na fr ft) (ha : a < 32004) (hbt : ∀ j, j < 3 → bt j = nI (g j)) (hv : rm_ag bv A) (hV : rm_va A)
    (hex : 0 < a → a < 4 → ∃ i, i < n ∧ g (a - 1) = T i) (h0 : a = 0 → post (nI l, nI n, nI m, nI L.length, br, tg, ct, ao, cc, pc, pa, na, fr, ft, rt, rf, va, ex, bt, bf, bv))
    (hr : ∀ n' i, n = n' + 1 → i < n' + 1 → 0 < a → a < 4 → g (a - 1) = T i → ∀ tg' ct' fr' ft', rm_XE n' (rm_dx T n' i) (rm_dx C n' i) tg' ct' → rm_Fl fr' ft' (L.filter (rm_nt (T i))) → post (nI l, nI n', nI m, nI (L.filter (rm_nt (T i))).length, br, tg', ct', ao, cc, pc, pa, na, fr', ft', rt, rf, va, ex, bt, bf, bv))
    (hm : 4 ≤ a → n < 12 → post (nI (l + 1), nI (n + 1), nI m, nI L.length, br, upd tg n (nI (l + 1)), upd ct n (nI (4096 * ((a - 4) / 8000) + rm_ff A (a - 4))), ao, cc, pc, pa, na, fr, ft, rt, rf, va, ex, bt, bf, bv))
    (hm0 : 4 ≤ a → ¬ n < 12 → post (nI l, nI n, nI m, nI L.length, br, tg, ct, ao, cc, pc, pa, na, fr, ft, rt, rf, va, ex, bt, bf, bv)) :
    ∀ q : Int32, q = nI a → wpX_act post (nI l, nI n, nI m, nI L.length, br, tg, ct, ao, cc, pc, pa, na, fr, ft, rt, rf, va, ex, bt, bf, bv) q := by
  intro q eq
  subst eq
  by_cases a4 : a < 4
  · refine br_t (nI_lt (b := 4) a4 (by omega)) ?_
    by_cases a0 : a = 0
    · exact br_t (by rw [a0]; decide) (h0 a0)
    · obtain ⟨i, hi, gi⟩ := hex (by omega) a4
      clear hex
      obtain ⟨n', rfl⟩ : ∃ n', n = n' + 1 := ⟨n - 1, by omega⟩
      have e1 : nI a - 1 = nI (a - 1) := pk_sub (a := a) (b := 1) (by omega)
      have w : vp_in (nI a - 1) 3 := by rw [e1]; exact vp_in_nI (by omega) (by omega)
      refine br_f (nI_nle (by omega) (by omega)) ⟨w, ?_⟩
      refine xm_rm H hi (fun tg' ct' fr' ft' hE' hF' => ?_) _ ?_
      · exact hr n' i rfl hi (by omega) a4 gi tg' ct' fr' ft' hE' hF'
      · rw [e1, nI_clamp (by omega), hbt (a - 1) (by omega), gi]
  · have e4 : nI a - 4 = nI (a - 4) := pk_sub (a := a) (b := 4) (by omega)
    refine br_f (nI_nlt (b := 4) (by omega) (by omega)) (nm_r e4 ?_)
    refine xm_ff (A := A) (by omega) hv hV ?_
    refine ⟨by decide, ?_⟩
    refine xm_mk (y := (a - 4) / 8000) (f := rm_ff A (a - 4)) (by omega) (rm_ff_b hV _) H.1 (fun z => hm (by omega) z) (fun z => hm0 (by omega) z) _ _ ?_ rfl
    exact pk_div (d := 8000) (by omega) (by omega) (by omega)
end XF
theorem xm_fire {n m l : Nat} {T C Z Q : Nat → Nat} {P : Nat → Nat → Nat} {N : Nat → Nat → Bool} {L : List rm_Fi} {u : SX} {post : Int32 → SX → Prop}
    (hX : rm_X n l m T C Z Q P N L u) (hn : n ≤ 12) (hl : l < 1048576) (hPE : rm_PE n l T C) (hPU : rm_PU m Z Q P N) (hL : L.length ≤ 40) (hLB : rm_LB L)
    (hN : rm_fr (rm_om T C n P N Z L) (fun r => 12 ^ rm_pc (N r) (Z r)) m = none → ∀ u', rm_X n l m T C Z Q P N L u' → post (-1) u')
    (hF : ∀ x, rm_fr (rm_om T C n P N Z L) (fun r => 12 ^ rm_pc (N r) (Z r)) m = some x → ¬ L.length < 40 → ∀ u', rm_X n l m T C Z Q P N L u' → post (-2) u')
    (h0 : ∀ x, rm_fr (rm_om T C n P N Z L) (fun r => 12 ^ rm_pc (N r) (Z r)) m = some x → L.length < 40 → Q x.1 = 0 → ∀ u', rm_X n l m T C Z Q P N (L ++ [(x.1, x.2.1 0, x.2.1 1, x.2.1 2)]) u' → post (nI x.1) u')
    (hR : ∀ x, rm_fr (rm_om T C n P N Z L) (fun r => 12 ^ rm_pc (N r) (Z r)) m = some x → L.length < 40 → ∀ n' i, n = n' + 1 → i < n' + 1 → 0 < Q x.1 → Q x.1 < 4 → x.2.1 (Q x.1 - 1) = T i → ∀ u', rm_X n' l m (rm_dx T n' i) (rm_dx C n' i) Z Q P N ((L ++ [(x.1, x.2.1 0, x.2.1 1, x.2.1 2)]).filter (rm_nt (T i))) u' → post (nI x.1) u')
    (hM : ∀ x, rm_fr (rm_om T C n P N Z L) (fun r => 12 ^ rm_pc (N r) (Z r)) m = some x → L.length < 40 → 4 ≤ Q x.1 → n < 12 → ∀ u', rm_X (n + 1) (l + 1) m (rm_w T n (l + 1)) (rm_w C n (4096 * ((Q x.1 - 4) / 8000) + rm_ff x.2.2 (Q x.1 - 4))) Z Q P N (L ++ [(x.1, x.2.1 0, x.2.1 1, x.2.1 2)]) u' → post (nI x.1) u')
    (hM0 : ∀ x, rm_fr (rm_om T C n P N Z L) (fun r => 12 ^ rm_pc (N r) (Z r)) m = some x → L.length < 40 → 4 ≤ Q x.1 → ¬ n < 12 → ∀ u', rm_X n l m T C Z Q P N (L ++ [(x.1, x.2.1 0, x.2.1 1, x.2.1 2)]) u' → post (nI x.1) u') :
    wpX_fire post u := by
  obtain ⟨lt, ec, rc, fc, br, tg, ct, ao, cc, pc, pa, na, fr, ft, rt, rf, va, ex, bt, bf, bv⟩ := u
  obtain ⟨rfl, rfl, rfl, rfl, hE, hXR, hFl⟩ := hX
  have H : rm_XH n m l T C Z Q P N L tg ct ao cc pc pa na fr ft := ⟨hn, hl, hPE, hPU, hL, hLB, hE, hXR, hFl⟩
  unfold wpX_fire
  refine xm_fb H (fun rt rf va ex br bt bf bv hb => ?_)
  cases hq : rm_fr (rm_om T C n P N Z L) (fun r => 12 ^ rm_pc (N r) (Z r)) m with
  | none =>
    rw [hq] at hb
    have hb2 : br = -1 := hb
    subst hb2
    exact br_t rfl (hN hq _ ⟨rfl, rfl, rfl, rfl, hE, hXR, hFl⟩)
  | some x =>
    rw [hq] at hb
    obtain ⟨b1, b2, b3, b4, b5, b6, b7, b8⟩ := hb
    subst b1
    obtain ⟨k1, k2, k3, k4, k5⟩ := rm_fr_ok hPE hl hq
    have hm := hPU.1
    obtain ⟨z1, z2, z3⟩ := hPU.2.2 x.1 b2
    obtain ⟨p1, p3⟩ := rm_pc_1 hPU b2
    refine br_f (rm_nm1 (by omega)) ?_
    by_cases l40 : L.length < 40
    · refine br_t (nI_lt (b := 40) l40 (by omega)) ?_
      refine xm_rc (r := x.1) (g := x.2.1) l40 hFl b4 (fun fr' ft' hFl' => ?_)
      refine ⟨vp_in_nI (by omega) (by omega), ?_⟩
      have el : (L ++ [(x.1, x.2.1 0, x.2.1 1, x.2.1 2)]).length = L.length + 1 := List.length_append
      have LB' : rm_LB (L ++ [(x.1, x.2.1 0, x.2.1 1, x.2.1 2)]) := by
        intro y hy
        rw [List.mem_append] at hy
        rcases hy with hy | hy
        · exact hLB y hy
        · have e : y = (x.1, x.2.1 0, x.2.1 1, x.2.1 2) := by simpa using hy
          rw [e]
          exact ⟨by show x.1 < 8; omega, k3 0, k3 1, k3 2⟩
      refine xm_act (a := Q x.1) (g := x.2.1) (A := x.2.2) ⟨hn, hl, hPE, hPU, by rw [el]; omega, LB', hE, hXR, hFl'⟩ z2 b4 b8 k2 (fun y1 y2 => ?_) (fun y => ?_) (fun n' i e hi y1 y2 y3 tg' ct' fr2 ft2 hE' hF2 => ?_) (fun y1 y2 => ?_) (fun y1 y2 => ?_) _ ?_
      · exact k4 (Q x.1 - 1) (by have := z3 y2; omega)
      · exact h0 x hq l40 y _ ⟨rfl, rfl, rfl, rfl, hE, hXR, hFl'⟩
      · exact hR x hq l40 n' i e hi y1 y2 y3 _ ⟨rfl, rfl, rfl, rfl, hE', hXR, hF2⟩
      · exact hM x hq l40 y1 y2 _ ⟨rfl, rfl, rfl, rfl, rm_XE_mk hE, hXR, hFl'⟩
      · exact hM0 x hq l40 y1 y2 _ ⟨rfl, rfl, rfl, rfl, hE, hXR, hFl'⟩
      · rw [nI_clamp (by omega)]
        exact hXR.2 x.1 b2
    · exact br_f (nI_nlt (b := 40) (by omega) (by omega)) (hF x hq l40 _ ⟨rfl, rfl, rfl, rfl, hE, hXR, hFl⟩)
end
section
theorem rm_d8 {p : Nat} (hp : p < 32000) : nI p / 8000 = nI (p / 8000) := pk_div (d := 8000) (by omega) (by omega) (by omega)
section YA
variable {n m l : Nat} {T C Z Q : Nat → Nat} {P : Nat → Nat → Nat} {N : Nat → Nat → Bool} {L : List rm_Fi}
variable {cn lt dr ru fi le br bl : Int32} {tg ty fd dp dn sz pa no ac fr ft ro bo sa mi be bt bb : Nat → Int32}
theorem ym_e0 {post : Int32 → Prop} {p : Nat} (hp : p < 32000) (h : post (nI (p / 400 % 20))) : wpY_entry post (cn, lt, dr, ru, fi, le, br, bl, tg, ty, fd, dp, dn, sz, pa, no, ac, fr, ft, ro, bo, sa, mi, be, bt, bb) (nI p) 0 := by
  have e : (nI p - nI p / 8000 * 8000) / 400 = nI (p / 400 % 20) := by
    have a : nI p - nI p / 8000 * 8000 = nI (p % 8000) := pk_rem (d := 8000) (by omega) (by omega) (by omega)
    have b : nI (p % 8000) / 400 = nI (p % 8000 / 400) := pk_div (d := 400) (by omega) (by omega) (by omega)
    have c : p % 8000 / 400 = p / 400 % 20 := by omega
    rw [a, b, c]
  exact br_t rfl ⟨by decide, by decide, by rw [e]; exact h⟩
theorem ym_e1 {post : Int32 → Prop} {p : Nat} (hp : p < 32000) (h : post (nI (p / 20 % 20))) : wpY_entry post (cn, lt, dr, ru, fi, le, br, bl, tg, ty, fd, dp, dn, sz, pa, no, ac, fr, ft, ro, bo, sa, mi, be, bt, bb) (nI p) 1 := by
  have e : (nI p - nI p / 400 * 400) / 20 = nI (p / 20 % 20) := by
    have a : nI p - nI p / 400 * 400 = nI (p % 400) := pk_rem (d := 400) (by omega) (by omega) (by omega)
    have b : nI (p % 400) / 20 = nI (p % 400 / 20) := pk_div (d := 20) (by omega) (by omega) (by omega)
    have c : p % 400 / 20 = p / 20 % 20 := by omega
    rw [a, b, c]
  exact br_f (by decide) (br_t rfl ⟨by decide, by decide, by rw [e]; exact h⟩)
theorem ym_e2 {post : Int32 → Prop} {p : Nat} (hp : p < 32000) (h : post (nI (p % 20))) : wpY_entry post (cn, lt, dr, ru, fi, le, br, bl, tg, ty, fd, dp, dn, sz, pa, no, ac, fr, ft, ro, bo, sa, mi, be, bt, bb) (nI p) 2 := by
  have e : nI p - nI p / 20 * 20 = nI (p % 20) := pk_rem (d := 20) (by omega) (by omega) (by omega)
  exact br_f (by decide) (br_f (by decide) ⟨by decide, by rw [e]; exact h⟩)
theorem ym_f0 {post : Int32 → Prop} {c i : Nat} (hc : c < 16384) (hi : i < 12) (hf : fd i = nI (c % 4096)) (h : post (nI (c / 256 % 16))) : wpY_field post (cn, lt, dr, ru, fi, le, br, bl, tg, ty, fd, dp, dn, sz, pa, no, ac, fr, ft, ro, bo, sa, mi, be, bt, bb) (nI i) 0 := by
  have ci : (nI i).toNatClampNeg = i := nI_clamp (by omega)
  have e : (fd (nI i).toNatClampNeg >>> ((8 - 4 * (0 : Int32)) &&& 31)) &&& 15 = nI (c / 256 % 16) := by
    rw [ci, hf, pk_shrN (by omega) _ 8 (by decide), pk_andN (Nat.lt_of_le_of_lt (Nat.div_le_self _ _) (by omega)) 4 (by decide)]
    exact congrArg nI (by omega)
  exact ⟨vp_in_nI hi (by omega), by rw [e]; exact h⟩
theorem ym_f1 {post : Int32 → Prop} {c i : Nat} (hc : c < 16384) (hi : i < 12) (hf : fd i = nI (c % 4096)) (h : post (nI (c / 16 % 16))) : wpY_field post (cn, lt, dr, ru, fi, le, br, bl, tg, ty, fd, dp, dn, sz, pa, no, ac, fr, ft, ro, bo, sa, mi, be, bt, bb) (nI i) 1 := by
  have ci : (nI i).toNatClampNeg = i := nI_clamp (by omega)
  have e : (fd (nI i).toNatClampNeg >>> ((8 - 4 * (1 : Int32)) &&& 31)) &&& 15 = nI (c / 16 % 16) := by
    rw [ci, hf, pk_shrN (by omega) _ 4 (by decide), pk_andN (Nat.lt_of_le_of_lt (Nat.div_le_self _ _) (by omega)) 4 (by decide)]
    exact congrArg nI (by omega)
  exact ⟨vp_in_nI hi (by omega), by rw [e]; exact h⟩
theorem ym_f2 {post : Int32 → Prop} {c i : Nat} (hc : c < 16384) (hi : i < 12) (hf : fd i = nI (c % 4096)) (h : post (nI (c % 16))) : wpY_field post (cn, lt, dr, ru, fi, le, br, bl, tg, ty, fd, dp, dn, sz, pa, no, ac, fr, ft, ro, bo, sa, mi, be, bt, bb) (nI i) 2 := by
  have ci : (nI i).toNatClampNeg = i := nI_clamp (by omega)
  have e : (fd (nI i).toNatClampNeg >>> ((8 - 4 * (2 : Int32)) &&& 31)) &&& 15 = nI (c % 16) := by
    rw [ci, hf, pk_shrN (by omega) _ 0 (by decide), pk_andN (Nat.lt_of_le_of_lt (Nat.div_le_self _ _) (by omega)) 4 (by decide)]
    exact congrArg nI (by omega)
  exact ⟨vp_in_nI hi (by omega), by rw [e]; exact h⟩
/-- the flag and the array of the reference's loop over the entries -/
def rm_gd (g : Int32) (s : Option (Nat → Int32)) (bo : Nat → Int32) : Prop := (g = 1 ∧ ∃ A, s = some A ∧ rm_ag bo A ∧ rm_va A) ∨ (g = 0 ∧ s = none)
abbrev rm_YJ2 : Type := Int32 → Int32 → (Nat → Int32) → (Nat → Int32) → (Nat → Int32) → (Nat → Int32) → (Nat → Int32) → (Nat → Int32) → (Nat → Int32) → (Nat → Int32) → (Nat → Int32) → (Nat → Int32) → (Nat → Int32) → (Nat → Int32) → (Nat → Int32) → (Nat → Int32) → (Nat → Int32) → (Nat → Int32) → (Nat → Int32) → (Nat → Int32) → Prop
theorem ym_131 {post : Int32 → SY → Prop} {J : rm_YJ2} {x1 x2 x3 x4 x5 x6 x7 : Int32} {v : Nat} (h6 : x5 + 1 = x6) (hv : v < 3) (k1 : 0 ≤ bo v → J x4 x6 tg ty fd dp dn sz pa no ac fr ft ro bo sa mi be bt bb) (k2 : ¬ 0 ≤ bo v → J x4 x6 tg ty fd dp dn sz pa no ac fr ft ro (upd bo v x7) sa mi be bt bb) : wY_fits_131 post J x1 x2 x3 x4 x5 x7 (nI v) cn lt dr ru fi le br bl tg ty fd dp dn sz pa no ac fr ft ro bo sa mi be bt bb := by
  have w : vp_in (nI v) 3 := vp_in_nI hv (by omega)
  have cv : (nI v).toNatClampNeg = v := nI_clamp (by omega)
  by_cases b : 0 ≤ bo v
  · exact ⟨w, br_t (by rw [cv]; exact b) (nm_r h6 (k1 b))⟩
  · exact ⟨w, br_f (by rw [cv]; exact b) ⟨w, nm_r (e' := upd bo v x7) (by rw [cv]) (nm_r h6 (k2 b))⟩⟩
theorem ym_17 {v : Nat} : nI (17 + v) - 17 = nI v := by
  have := pk_sub (a := 17 + v) (b := 17) (by omega)
  rw [Nat.add_sub_cancel_left] at this
  exact this
theorem ym_92z {post : Int32 → SY → Prop} {J : rm_YJ2} {x1 x2 x3 x5 x6 x7 : Int32} {e : Nat} (h6 : x5 + 1 = x6) (he : e < 20) (k : ∀ bo', J 0 x6 tg ty fd dp dn sz pa no ac fr ft ro bo' sa mi be bt bb) : wY_fits_92 post J x1 x2 x3 0 x5 (nI e) x7 cn lt dr ru fi le br bl tg ty fd dp dn sz pa no ac fr ft ro bo sa mi be bt bb := by
  by_cases a : e ≤ 16
  · exact br_t (nI_le (b := 16) a (by omega)) (nm_r h6 (k bo))
  · obtain ⟨v, rfl⟩ : ∃ v, e = 17 + v := ⟨e - 17, by omega⟩
    have hv : v < 3 := by omega
    have w : vp_in (nI v) 3 := vp_in_nI hv (by omega)
    refine br_f (nI_ge (a := 16) (by omega) (by omega)) (nm_r ym_17 ⟨w, ?_⟩)
    have q : wY_fits_131 post J x1 x2 x3 0 x5 x7 (nI v) cn lt dr ru fi le br bl tg ty fd dp dn sz pa no ac fr ft ro bo sa mi be bt bb := ym_131 h6 hv (fun _ => k bo) (fun _ => k _)
    exact br_c (fun _ => q) (fun _ => ⟨w, br_c (fun _ => q) (fun _ => q)⟩)
theorem ym_92 {post : Int32 → SY → Prop} {J : rm_YJ2} {x1 x2 x3 x5 x6 g : Int32} {e f : Nat} {s : Option (Nat → Int32)} (h6 : x5 + 1 = x6) (he : e < 20) (hf : f < 16) (hg : rm_gd g s bo)
    (k : ∀ g' bo', rm_gd g' (s.bind (rm_s1 e f)) bo' → J g' x6 tg ty fd dp dn sz pa no ac fr ft ro bo' sa mi be bt bb) :
    ((16 : Int32) ≤ nI e → wY_fits_92 post J x1 x2 x3 g x5 (nI e) (nI f) cn lt dr ru fi le br bl tg ty fd dp dn sz pa no ac fr ft ro bo sa mi be bt bb) ∧ (¬ (16 : Int32) ≤ nI e → ((nI e = nI f → wY_fits_92 post J x1 x2 x3 g x5 (nI e) (nI f) cn lt dr ru fi le br bl tg ty fd dp dn sz pa no ac fr ft ro bo sa mi be bt bb) ∧ (¬ nI e = nI f → wY_fits_92 post J x1 x2 x3 0 x5 (nI e) (nI f) cn lt dr ru fi le br bl tg ty fd dp dn sz pa no ac fr ft ro bo sa mi be bt bb))) := by
  rcases hg with ⟨rfl, A, rfl, hA, hV⟩ | ⟨rfl, rfl⟩
  · have k' : ∀ g' bo', rm_gd g' (rm_s1 e f A) bo' → J g' x6 tg ty fd dp dn sz pa no ac fr ft ro bo' sa mi be bt bb := k
    by_cases a1 : e < 16
    · refine br_f (nI_ge (b := 16) a1 (by omega)) ?_
      by_cases a2 : e = f
      · refine br_t (by rw [a2]) (br_t (nI_le (b := 16) (by omega) (by omega)) (nm_r h6 (k' 1 bo (Or.inl ⟨rfl, A, ?_, hA, hV⟩))))
        rw [rm_s1_k a1 a2]
      · refine br_f (fun z => a2 ((nI_eq (by omega) (by omega)).mp z)) (ym_92z h6 he (fun bo' => k' 0 bo' (Or.inr ⟨rfl, ?_⟩)))
        rw [rm_s1_n a1 a2]
    · refine br_t (nI_le (a := 16) (by omega) (by omega)) ?_
      by_cases a2 : e = 16
      · refine br_t (by rw [a2]; decide) (nm_r h6 (k' 1 bo (Or.inl ⟨rfl, A, ?_, hA, hV⟩)))
        rw [a2, rm_s1_a]
      · obtain ⟨v, rfl⟩ : ∃ v, e = 17 + v := ⟨e - 17, by omega⟩
        have hv : v < 3 := by omega
        have w : vp_in (nI v) 3 := vp_in_nI hv (by omega)
        have cv : (nI v).toNatClampNeg = v := nI_clamp (by omega)
        have ev := hA v hv
        rw [rm_s1_v] at k'
        refine br_f (nI_ge (a := 16) (by omega) (by omega)) (nm_r ym_17 ⟨w, ?_⟩)
        rcases hV v with z | ⟨f0, h0, z⟩
        · have b0 : bo v = -1 := ev.trans z
          refine br_t (by rw [cv, b0]; decide) (ym_131 h6 hv (fun y => absurd y (by rw [b0]; decide)) (fun _ => k' 1 _ (Or.inl ⟨rfl, upd A v (nI f), if_pos z, rm_ag_u hA, rm_va_u hf hV⟩)))
        · have b0 : bo v = nI f0 := ev.trans z
          have nz : ¬ A v = -1 := by rw [z]; exact rm_nm1 (by omega)
          refine br_f (by rw [cv, b0]; exact nI_pos (by omega)) ⟨w, ?_⟩
          by_cases q : f0 = f
          · refine br_t (by rw [cv, b0, q]) (ym_131 h6 hv (fun _ => k' 1 bo (Or.inl ⟨rfl, A, ?_, hA, hV⟩)) (fun y => absurd (show (0 : Int32) ≤ bo v by rw [b0]; exact nI_pos' (by omega)) y))
            unfold rm_sv
            rw [if_neg nz, if_pos (by rw [z, q])]
          · refine br_f (by rw [cv, b0]; exact fun y => q ((nI_eq (by omega) (by omega)).mp y)) (ym_131 h6 hv (fun _ => k' 0 bo (Or.inr ⟨rfl, ?_⟩)) (fun y => absurd (show (0 : Int32) ≤ bo v by rw [b0]; exact nI_pos' (by omega)) y))
            unfold rm_sv
            rw [if_neg nz, if_neg (by rw [z]; exact fun y => q ((nI_eq (by omega) (by omega)).mp y))]
  · have z : ∀ bo', J 0 x6 tg ty fd dp dn sz pa no ac fr ft ro bo' sa mi be bt bb := fun bo' => k 0 bo' (Or.inr ⟨rfl, rfl⟩)
    have q : wY_fits_92 post J x1 x2 x3 0 x5 (nI e) (nI f) cn lt dr ru fi le br bl tg ty fd dp dn sz pa no ac fr ft ro bo sa mi be bt bb := ym_92z h6 he z
    exact br_c (fun _ => q) (fun _ => br_c (fun _ => q) (fun _ => q))
theorem ym_168 {post : Int32 → SY → Prop} {x4 : Int32} {A : Nat → Int32} (hs : rm_ag sa A) (hn : narrow .boolean (.int x4) = .int x4) (h : ∀ bo', rm_ag bo' A → post x4 (cn, lt, dr, ru, fi, le, br, bl, tg, ty, fd, dp, dn, sz, pa, no, ac, fr, ft, ro, bo', sa, mi, be, bt, bb)) : ∃ k, wY_fits_168 post x4 cn lt dr ru fi le br bl k 0 tg ty fd dp dn sz pa no ac fr ft ro bo sa mi be bt bb :=
  ⟨0 + 1 + 1 + 1 + 1, br_f rm_q0 ⟨rm_v0, rm_v0, nm_r (e' := upd bo 0 (sa 0)) (by rw [rm_c0]) (nm_r rm_01 (br_f rm_q1 ⟨rm_v1, rm_v1, nm_r (e' := upd (upd bo 0 (sa 0)) 1 (sa 1)) (by rw [rm_c1]) (nm_r rm_12 (br_f rm_q2 ⟨rm_v2, rm_v2, nm_r (e' := rm_u3 bo (sa 0) (sa 1) (sa 2)) (by rw [rm_c2]; rfl) (nm_r rm_23 (br_t rm_q3 ⟨hn, h _ (rm_u3_ag (hs 0 (by omega)) (hs 1 (by omega)) (hs 2 (by omega)))⟩))⟩))⟩))⟩⟩
theorem ym_fits {post : Int32 → SY → Prop} {A : Nat → Int32} {p c i : Nat} {kp : Int32} (hb : rm_ag bo A) (hV : rm_va A) (hp : p < 32000) (hc : c < 16384) (hi : i < 12) (hty : ty i = nI (c / 4096)) (hfd : fd i = nI (c % 4096))
    (h0 : ∀ bo' sa', rm_fs A p c = none → rm_ag bo' A → post 0 (cn, lt, dr, ru, fi, le, br, bl, tg, ty, fd, dp, dn, sz, pa, no, ac, fr, ft, ro, bo', sa', mi, be, bt, bb))
    (h1 : ∀ bo' sa' B, rm_fs A p c = some B → (kp = 0 → rm_ag bo' A) → (¬ kp = 0 → rm_ag bo' B) → post 1 (cn, lt, dr, ru, fi, le, br, bl, tg, ty, fd, dp, dn, sz, pa, no, ac, fr, ft, ro, bo', sa', mi, be, bt, bb)) :
    ∀ q1 q2 : Int32, q1 = nI p → q2 = nI i → wpY_fits post (cn, lt, dr, ru, fi, le, br, bl, tg, ty, fd, dp, dn, sz, pa, no, ac, fr, ft, ro, bo, sa, mi, be, bt, bb) q1 q2 kp := by
  intro q1 q2 e1 e2
  subst e1 e2
  have w : vp_in (nI i) 12 := vp_in_nI hi (by omega)
  have ci : (nI i).toNatClampNeg = i := nI_clamp (by omega)
  refine ⟨w, by decide, ?_⟩
  by_cases y : p / 8000 = c / 4096
  · refine br_t (by rw [ci, hty, rm_d8 hp, y]) ⟨0 + 1 + 1 + 1 + 1, br_f rm_q0 ⟨rm_v0, rm_v0, nm_r (e' := upd sa 0 (bo 0)) (by rw [rm_c0]) (nm_r rm_01 (br_f rm_q1 ⟨rm_v1, rm_v1, nm_r (e' := upd (upd sa 0 (bo 0)) 1 (bo 1)) (by rw [rm_c1]) (nm_r rm_12 (br_f rm_q2 ⟨rm_v2, rm_v2, nm_r (e' := rm_u3 sa (bo 0) (bo 1) (bo 2)) (by rw [rm_c2]; rfl) (nm_r rm_23 (br_t rm_q3 ⟨0 + 1 + 1 + 1 + 1, ?_⟩))⟩))⟩))⟩⟩
    have hs : rm_ag (rm_u3 sa (bo 0) (bo 1) (bo 2)) A := rm_u3_ag (hb 0 (by omega)) (hb 1 (by omega)) (hb 2 (by omega))
    generalize rm_u3 sa (bo 0) (bo 1) (bo 2) = s3 at hs
    have g0 : rm_gd 1 (some A) bo := Or.inl ⟨rfl, A, rfl, hb, hV⟩
    refine br_f rm_q0 (ym_e0 hp (ym_f0 hc hi hfd (ym_92 rm_01 (Nat.mod_lt _ (by omega)) (Nat.mod_lt _ (by omega)) g0 (fun x4 bo1 g1 => ?_))))
    refine br_f rm_q1 (ym_e1 hp (ym_f1 hc hi hfd (ym_92 rm_12 (Nat.mod_lt _ (by omega)) (Nat.mod_lt _ (by omega)) g1 (fun x4 bo2 g2 => ?_))))
    refine br_f rm_q2 (ym_e2 hp (ym_f2 hc hi hfd (ym_92 rm_23 (Nat.mod_lt _ (by omega)) (Nat.mod_lt _ (by omega)) g2 (fun x4 bo3 g3 => ?_))))
    refine br_t rm_q3 ?_
    rcases g3 with ⟨rfl, B, hB, aB, vB⟩ | ⟨rfl, hN⟩
    · have fB : rm_fs A p c = some B := (rm_fs_y y).trans hB
      refine br_f (by decide) ?_
      by_cases k0 : kp = 0
      · exact br_t k0 (ym_168 hs rfl (fun bo' hbo => h1 bo' s3 B fB (fun _ => hbo) (fun z => absurd k0 z)))
      · exact br_f k0 ⟨rfl, h1 bo3 s3 B fB (fun z => absurd z k0) (fun _ => aB)⟩
    · have fN : rm_fs A p c = none := (rm_fs_y y).trans hN
      exact br_t rfl (ym_168 hs rfl (fun bo' hbo => h0 bo' s3 fN hbo))
  · exact br_f (by rw [ci, hty, rm_d8 hp]; exact fun z => y ((nI_eq (by omega) (by omega)).mp z).symm) (h0 bo sa (if_neg y) hb)
theorem ym_no {post : Int32 → SY → Prop} {A : Nat → Int32} {p : Nat} (hb : rm_ag bo A) (hV : rm_va A) (hp : p < 32000) (hn : n ≤ 12) (hE : rm_YE n T C tg ty fd) (hC : ∀ i, i < n → C i < 16384)
    (h1 : ∀ bo' sa', rm_cn (rm_fits A p C) n = 0 → rm_ag bo' A → post 1 (nI n, nI l, nI (Z m), nI m, nI L.length, le, br, bl, tg, ty, fd, dp, dn, sz, pa, no, ac, fr, ft, ro, bo', sa', mi, be, bt, bb)) (h0 : ∀ bo' sa', ¬ rm_cn (rm_fits A p C) n = 0 → post 0 (nI n, nI l, nI (Z m), nI m, nI L.length, le, br, bl, tg, ty, fd, dp, dn, sz, pa, no, ac, fr, ft, ro, bo', sa', mi, be, bt, bb)) :
    ∀ q : Int32, q = nI p → wpY_none post (nI n, nI l, nI (Z m), nI m, nI L.length, le, br, bl, tg, ty, fd, dp, dn, sz, pa, no, ac, fr, ft, ro, bo, sa, mi, be, bt, bb) q := by
  intro q e1
  subst e1
  have go : ∀ d i bo sa, i + d = n → rm_ag bo A → (∀ j, j < i → rm_fits A p C j = false) → wY_none_2 post (nI p) (d + 1) (nI i) (nI n) (nI l) (nI (Z m)) (nI m) (nI L.length) le br bl tg ty fd dp dn sz pa no ac fr ft ro bo sa mi be bt bb := by
    intro d
    induction d with
    | zero =>
      intro i bo sa e hb hj
      have e2 : i = n := by omega
      subst e2
      exact br_t (nI_le (Nat.le_refl _) (by omega)) (h1 bo sa (rm_cn_0 i hj) hb)
    | succ d ih =>
      intro i bo sa e hb hj
      refine br_f (nI_ge (by omega) (by omega)) (br_f (nI_ge (b := 12) (by omega) (by omega)) (ym_fits (kp := 0) hb hV hp (hC i (by omega)) (by omega) (hE i (by omega)).2.1 (hE i (by omega)).2.2 (fun bo' sa' s hb' => ?_) (fun bo' sa' B s _ _ => ?_) _ _ rfl rfl))
      · have z : rm_fits A p C i = false := by unfold rm_fits; rw [s]; rfl
        exact br_t rfl (nm_r (nI_1 i) (ih (i + 1) bo' sa' (by omega) hb' (fun j hj2 => by
          by_cases y : j = i
          · rw [y]; exact z
          · exact hj j (by omega))))
      · have z : rm_fits A p C i = true := by unfold rm_fits; rw [s]; rfl
        exact br_f (by decide) (h0 bo' sa' (rm_cn_p z n (by omega)))
  have := go n 0 bo sa (by omega) hb (fun j hj => absurd hj (Nat.not_lt_zero j))
  exact ⟨n + 1, this⟩
theorem ym_im {post : Int32 → SY → Prop} {r c : Nat} (H : rm_YH n m l T C Z Q P N L tg ty fd dp dn sz pa no ac fr ft) (hr : r < m) (hc : c < 2 ^ 31)
    (h0 : ∀ ro' bo' sa', rm_ps T C n (rm_D c) (P r) (N r) (Z r) = none → post 0 (nI n, nI l, nI (Z m), nI m, nI L.length, le, br, bl, tg, ty, fd, dp, dn, sz, pa, no, ac, fr, ft, ro', bo', sa', mi, be, bt, bb))
    (h1 : ∀ ro' bo' sa' s, rm_ps T C n (rm_D c) (P r) (N r) (Z r) = some s → rm_ag bo' s.1 → (∀ j, j < rm_pc (N r) (Z r) → ro' j = nI (rm_D c j)) → post 1 (nI n, nI l, nI (Z m), nI m, nI L.length, nI (rm_pc (N r) (Z r)), br, bl, tg, ty, fd, dp, dn, sz, pa, no, ac, fr, ft, ro', bo', sa', mi, be, bt, bb)) :
    wpY_isMatch post (nI n, nI l, nI (Z m), nI m, nI L.length, le, br, bl, tg, ty, fd, dp, dn, sz, pa, no, ac, fr, ft, ro, bo, sa, mi, be, bt, bb) (nI r) (nI c) := by
  obtain ⟨hn, hl, hPE, hPU, hL, hLB, hE, hR, hF⟩ := H
  have hm := hPU.1
  obtain ⟨rz, rP, rN⟩ := hPU.2.1 r (by omega)
  obtain ⟨rsz, rac, rpa⟩ := hR.2 r hr
  have w5 : vp_in (nI r) 5 := vp_in_nI (by omega) (by omega)
  have cr : (nI r).toNatClampNeg = r := nI_clamp (by omega)
  have go : ∀ d i s ro bo sa, i + d = Z r → rm_ps T C n (rm_D c) (P r) (N r) i = some s → rm_ag bo s.1 → (∀ j, j < rm_pc (N r) i → ro j = nI (rm_D c j)) → wY_isMatch_31 post (nI r) (d + 1) (nI (c / 12 ^ rm_pc (N r) i)) (nI (rm_pc (N r) i)) (nI i) (nI n) (nI l) (nI (Z m)) (nI m) (nI L.length) le br bl tg ty fd dp dn sz pa no ac fr ft ro bo sa mi be bt bb := by
    intro d
    induction d with
    | zero =>
      intro i s ro bo sa e hs hbo hro
      have e2 : i = Z r := by omega
      subst e2
      exact ⟨w5, br_t (by rw [cr, rsz]; exact nI_le (Nat.le_refl _) (by omega)) (h1 ro bo sa s hs hbo hro)⟩
    | succ d ih =>
      intro i s ro bo sa e hs hbo hro
      have hi : i < Z r := by omega
      have hV := (rm_ps_g i s hs).1
      have i3 := rm_3 r i
      have c3 : (3 * nI r + nI i).toNatClampNeg = 3 * r + i := by rw [i3]; exact nI_clamp (by omega)
      have w15 : vp_in (3 * nI r + nI i) 15 := by rw [i3]; exact vp_in_nI (by omega) (by omega)
      obtain ⟨ipa, ina⟩ := rpa i hi
      have ipa2 : pa (3 * nI r + nI i).toNatClampNeg = nI (P r i) := by rw [c3]; exact ipa
      have ina2 : no (3 * nI r + nI i).toNatClampNeg = rm_bI (N r i) := by rw [c3]; exact ina
      have iP := rP i hi
      have st : rm_ps T C n (rm_D c) (P r) (N r) (i + 1) = rm_st T C n (rm_D c) (P r i) (N r i) (rm_pc (N r) i) s := by
        show (rm_ps T C n (rm_D c) (P r) (N r) i).bind _ = _
        rw [hs]; rfl
      have fin : rm_ps T C n (rm_D c) (P r) (N r) (i + 1) = none → rm_ps T C n (rm_D c) (P r) (N r) (Z r) = none := fun z => rm_ps_n z (Z r) (by omega)
      refine ⟨w5, br_f (by rw [cr, rsz]; exact nI_ge hi (by omega)) (br_f (nI_ge (b := 3) (by omega) (by omega)) ⟨w15, nm_r ipa2 ⟨w15, ?_⟩⟩)⟩
      by_cases ng : N r i = true
      · have pk : rm_pc (N r) (i + 1) = rm_pc (N r) i := by
          show _ + (if N r i = true then 0 else 1) = _
          rw [if_pos ng]; rfl
        have st2 : rm_ps T C n (rm_D c) (P r) (N r) (i + 1) = if rm_cn (rm_fits s.1 (P r i) C) n = 0 then some s else none := by
          rw [st]; exact if_pos ng
        refine br_f (by rw [ina2, ng]; decide) (ym_no hbo hV iP hn hE (fun j hj => (hPE.2 j hj).2.2) (fun bo1 sa1 z hb1 => ?_) (fun bo1 sa1 z => ?_) _ rfl)
        · rw [if_pos z] at st2
          have := ih (i + 1) s ro bo1 sa1 (by omega) st2 hb1 (by rw [pk]; exact hro)
          rw [pk] at this
          exact br_f (by decide) (nm_r (nI_1 i) this)
        · rw [if_neg z] at st2
          exact br_t rfl (h0 ro bo1 sa1 (fin st2))
      · have nf : N r i = false := by
          cases q : N r i
          · rfl
          · exact absurd q ng
        have pk : rm_pc (N r) (i + 1) = rm_pc (N r) i + 1 := by
          show _ + (if N r i = true then 0 else 1) = _
          rw [if_neg ng]
        have st2 : rm_ps T C n (rm_D c) (P r) (N r) (i + 1) = if rm_D c (rm_pc (N r) i) < n then (rm_fs s.1 (P r i) (C (rm_D c (rm_pc (N r) i)))).bind (fun B => some (B, fun j => if j = rm_pc (N r) i then T (rm_D c (rm_pc (N r) i)) else s.2 j)) else none := by
          rw [st]; exact if_neg ng
        have kb := rm_pc_b (N r) i
        have cb : c / 12 ^ rm_pc (N r) i < 2 ^ 31 := Nat.lt_of_le_of_lt (Nat.div_le_self _ _) hc
        have dv : c / 12 ^ rm_pc (N r) i / 12 = c / 12 ^ (rm_pc (N r) i + 1) := by
          rw [Nat.pow_succ, Nat.div_div_eq_div_mul]
        refine br_t (by rw [ina2, nf]; decide) ⟨by decide, nm_r (e' := nI (rm_D c (rm_pc (N r) i))) (pk_rem (d := 12) cb (by omega) (by omega)) ⟨by decide, nm_r (e' := nI (c / 12 ^ (rm_pc (N r) i + 1))) (by rw [← dv]; exact pk_div (d := 12) cb (by omega) (by omega)) ?_⟩⟩
        have d12 : rm_D c (rm_pc (N r) i) < 12 := Nat.mod_lt _ (by omega)
        by_cases hD : rm_D c (rm_pc (N r) i) < n
        · rw [if_pos hD] at st2
          refine br_f (nI_ge hD (by omega)) (ym_fits (kp := 1) hbo hV iP (hPE.2 _ hD).2.2 d12 (hE _ hD).2.1 (hE _ hD).2.2 (fun bo1 sa1 s1 _ => ?_) (fun bo1 sa1 B s1 _ x1 => ?_) _ _ rfl rfl)
          · exact br_t rfl (h0 ro bo1 sa1 (fin (by rw [st2, s1]; rfl)))
          · rw [s1] at st2
            have w3 : vp_in (nI (rm_pc (N r) i)) 3 := vp_in_nI (by omega) (by omega)
            have ck : (nI (rm_pc (N r) i)).toNatClampNeg = rm_pc (N r) i := nI_clamp (by omega)
            have := ih (i + 1) _ (upd ro (rm_pc (N r) i) (nI (rm_D c (rm_pc (N r) i)))) bo1 sa1 (by omega) st2 (x1 (by decide)) (fun j hj => by
              rw [pk] at hj
              by_cases z : j = rm_pc (N r) i
              · rw [z, pk_us]
              · rw [pk_un z]
                exact hro j (by omega))
            rw [pk] at this
            exact br_f (by decide) ⟨w3, nm_r (e' := upd ro (rm_pc (N r) i) (nI (rm_D c (rm_pc (N r) i)))) (by rw [ck]) (nm_r (nI_1 _) (nm_r (nI_1 i) this))⟩
        · rw [if_neg hD] at st2
          exact br_t (nI_le (by omega) (by omega)) (h0 ro bo sa (fin st2))
  refine ⟨0 + 1 + 1 + 1 + 1, br_f rm_q0 ⟨rm_v0, nm_r (e' := upd bo 0 (-1)) (by rw [rm_c0]) (nm_r rm_01 (br_f rm_q1 ⟨rm_v1, nm_r (e' := upd (upd bo 0 (-1)) 1 (-1)) (by rw [rm_c1]) (nm_r rm_12 (br_f rm_q2 ⟨rm_v2, nm_r (e' := rm_u3 bo (-1) (-1) (-1)) (by rw [rm_c2]; rfl) (nm_r rm_23 (br_t rm_q3 ⟨Z r + 1, ?_⟩))⟩))⟩))⟩⟩
  have := go (Z r) 0 (fun _ => -1, fun _ => 0) ro (rm_u3 bo (-1) (-1) (-1)) sa (by omega) rfl (rm_u3_ag rfl rfl rfl) (fun j hj => absurd hj (Nat.not_lt_zero j))
  have e0 : c / 12 ^ rm_pc (N r) 0 = c := by
    show c / 12 ^ 0 = c
    rw [Nat.pow_zero, Nat.div_one]
  rw [e0] at this
  exact this
end YA
end
section
/-- the row that the reference has found, and its tags -/
def rm_RW (n K : Nat) (T g : Nat → Nat) (ro : Nat → Int32) : Prop := K ≤ 3 ∧ ∀ k, k < 3 → (k < K → ∃ d, d < n ∧ ro k = nI d ∧ g k = T d) ∧ (¬ k < K → g k = 0)
abbrev rm_YJ1 : Type := Int32 → (Nat → Int32) → (Nat → Int32) → (Nat → Int32) → (Nat → Int32) → (Nat → Int32) → (Nat → Int32) → (Nat → Int32) → (Nat → Int32) → (Nat → Int32) → (Nat → Int32) → (Nat → Int32) → (Nat → Int32) → (Nat → Int32) → (Nat → Int32) → (Nat → Int32) → (Nat → Int32) → (Nat → Int32) → (Nat → Int32) → Prop
def rm_r3 (mi : Nat → Int32) (t : rm_T3) : Prop := mi 0 = nI t.1 ∧ mi 1 = nI t.2.1 ∧ mi 2 = nI t.2.2
def rm_t3 (t : rm_T3) : Prop := t.1 < 1048576 ∧ t.2.1 < 1048576 ∧ t.2.2 < 1048576
theorem rm_t3_1 {t : rm_T3} (h : rm_t3 t) : rm_t3 (rm_b1 t) := by
  obtain ⟨a, b, c⟩ := h
  unfold rm_b1
  split
  · exact ⟨b, a, c⟩
  · exact ⟨a, b, c⟩
theorem rm_t3_2 {t : rm_T3} (h : rm_t3 t) : rm_t3 (rm_b2 t) := by
  obtain ⟨a, b, c⟩ := h
  unfold rm_b2
  split
  · exact ⟨a, c, b⟩
  · exact ⟨a, b, c⟩
section YB
variable {n m l K : Nat} {T C Z Q g : Nat → Nat} {P : Nat → Nat → Nat} {N : Nat → Nat → Bool} {L : List rm_Fi}
variable {cn lt dr ru fi le br bl : Int32} {tg ty fd dp dn sz pa no ac fr ft ro bo sa mi be bt bb : Nat → Int32}
theorem ym_ro {post : Int32 → Prop} {r : Nat} (H : rm_YH n m l T C Z Q P N L tg ty fd dp dn sz pa no ac fr ft) (hr : r < m) (h : post (nI (12 ^ rm_pc (N r) (Z r)))) : wpY_rows post (nI n, nI l, nI (Z m), nI m, nI L.length, le, br, bl, tg, ty, fd, dp, dn, sz, pa, no, ac, fr, ft, ro, bo, sa, mi, be, bt, bb) (nI r) := by
  obtain ⟨hn, hl, hPE, hPU, hL, hLB, hE, hR, hF⟩ := H
  have hm := hPU.1
  obtain ⟨rz, rP, rN⟩ := hPU.2.1 r (by omega)
  obtain ⟨rsz, rac, rpa⟩ := hR.2 r hr
  have w5 : vp_in (nI r) 5 := vp_in_nI (by omega) (by omega)
  have cr : (nI r).toNatClampNeg = r := nI_clamp (by omega)
  have go : ∀ (post : Int32 → Prop), post (nI (rm_pc (N r) (Z r))) → ∀ d i, i + d = Z r → wY_positives_4 post (nI r) (nI n) (nI l) (nI (Z m)) (nI m) (nI L.length) le br bl tg ty fd dp dn sz pa no ac fr ft ro bo sa mi be bt bb (d + 1) (nI (rm_pc (N r) i)) (nI i) := by
    intro post h d
    induction d with
    | zero =>
      intro i e
      have e2 : i = Z r := by omega
      rw [e2]
      exact ⟨w5, br_t (by rw [cr, rsz]; exact nI_le (Nat.le_refl _) (by omega)) h⟩
    | succ d ih =>
      intro i e
      have hi : i < Z r := by omega
      have i3 := rm_3 r i
      have c3 : (3 * nI r + nI i).toNatClampNeg = 3 * r + i := by rw [i3]; exact nI_clamp (by omega)
      have w15 : vp_in (3 * nI r + nI i) 15 := by rw [i3]; exact vp_in_nI (by omega) (by omega)
      have ina2 : no (3 * nI r + nI i).toNatClampNeg = rm_bI (N r i) := by rw [c3]; exact (rpa i hi).2
      have := ih (i + 1) (by omega)
      refine ⟨w5, br_f (by rw [cr, rsz]; exact nI_ge hi (by omega)) (br_f (nI_ge (b := 3) (by omega) (by omega)) ⟨w15, ?_⟩)⟩
      by_cases ng : N r i = true
      · have pk : rm_pc (N r) (i + 1) = rm_pc (N r) i := by
          show _ + (if N r i = true then 0 else 1) = _
          rw [if_pos ng]; rfl
        rw [pk] at this
        exact br_f (by rw [ina2, ng]; decide) (nm_r (nI_1 i) this)
      · have nf : N r i = false := by
          cases q : N r i
          · rfl
          · exact absurd q ng
        have pk : rm_pc (N r) (i + 1) = rm_pc (N r) i + 1 := by
          show _ + (if N r i = true then 0 else 1) = _
          rw [if_neg ng]
        rw [pk] at this
        exact br_t (by rw [ina2, nf]; decide) (nm_r (nI_1 _) (nm_r (nI_1 i) this))
  obtain ⟨p1, p3⟩ := rm_pc_1 hPU hr
  have e1 : nI (12 ^ 1) = 12 := by decide
  have e2 : nI (12 ^ 2) = 144 := by decide
  have e3 : nI (12 ^ 3) = 1728 := by decide
  unfold wpY_rows
  refine ⟨Z r + 1, go _ ?_ (Z r) 0 (by omega)⟩
  have hK : rm_pc (N r) (Z r) = 1 ∨ rm_pc (N r) (Z r) = 2 ∨ rm_pc (N r) (Z r) = 3 := by omega
  rcases hK with z | z | z
  · rw [z, e1] at h
    rw [z]
    exact br_t rfl h
  · rw [z, e2] at h
    rw [z]
    exact br_f (by decide) (br_t rfl h)
  · rw [z, e3] at h
    rw [z]
    exact br_f (by decide) (br_f (by decide) h)
theorem ym_ta {post : Int32 → Prop} {k : Nat} (hn : n ≤ 12) (hE : rm_YE n T C tg ty fd) (W : rm_RW n K T g ro) (hk : k < 3) (h : post (nI (g k))) : ∀ q : Int32, q = nI k → wpY_tagAt post (cn, lt, dr, ru, fi, nI K, br, bl, tg, ty, fd, dp, dn, sz, pa, no, ac, fr, ft, ro, bo, sa, mi, be, bt, bb) q := by
  intro q e
  subst e
  obtain ⟨w1, w2⟩ := W
  obtain ⟨a, b⟩ := w2 k hk
  have ck : (nI k).toNatClampNeg = k := nI_clamp (by omega)
  by_cases z : k < K
  · obtain ⟨d, hd, e1, e2⟩ := a z
    have cd : (nI d).toNatClampNeg = d := nI_clamp (by omega)
    rw [e2] at h
    exact br_f (nI_ge z (by omega)) ⟨vp_in_nI hk (by omega), by rw [ck, e1]; exact vp_in_nI (by omega) (by omega), by rw [ck, e1, cd, (hE d hd).1]; exact h⟩
  · rw [b z] at h
    exact br_t (nI_le (by omega) (by omega)) h
theorem ym_35 {post : Int32 → Prop} {J : Int32 → Prop} {x1 : Int32} {i j k y : Nat} {b : Bool} (hn : n ≤ 12) (hE : rm_YE n T C tg ty fd) (W : rm_RW n K T g ro) (hj : j < 3) (hi : i < 64) (hy : ft (3 * i + j) = nI y) (by1 : y < 1048576) (bg : g j < 1048576)
    (h : wY_hasFired_35 post J x1 (nI i) cn lt dr ru fi (nI K) br bl tg ty fd dp dn sz pa no ac fr ft ro bo sa mi be bt bb k (rm_bI (b && decide (y = g j))) (nI (j + 1))) : wY_hasFired_35 post J x1 (nI i) cn lt dr ru fi (nI K) br bl tg ty fd dp dn sz pa no ac fr ft ro bo sa mi be bt bb (k + 1) (rm_bI b) (nI j) := by
  have i3 := rm_3 i j
  have c3 : (3 * nI i + nI j).toNatClampNeg = 3 * i + j := by rw [i3]; exact nI_clamp (by omega)
  have w : vp_in (3 * nI i + nI j) 192 := by rw [i3]; exact vp_in_nI (by omega) (by omega)
  refine br_f (nI_ge (b := 3) hj (by omega)) ⟨w, ym_ta hn hE W hj ?_ _ rfl⟩
  by_cases z : y = g j
  · have e : (b && decide (y = g j)) = b := by simp [z]
    rw [e] at h
    exact br_t (by rw [c3, hy, z]) (nm_r (nI_1 j) h)
  · have e : (b && decide (y = g j)) = false := by simp [z]
    rw [e] at h
    exact br_f (by rw [c3, hy]; exact fun q => z ((nI_eq (by omega) (by omega)).mp q)) (nm_r (nI_1 j) h)
theorem ym_hf {post : Int32 → Prop} {r : Nat} (H : rm_YH n m l T C Z Q P N L tg ty fd dp dn sz pa no ac fr ft) (W : rm_RW n K T g ro) (hr : r < 8) (hg : ∀ j, g j < 1048576)
    (h1 : (r, g 0, g 1, g 2) ∈ L → post 1) (h0 : ¬ (r, g 0, g 1, g 2) ∈ L → post 0) : wpY_hasFired post (nI n, nI l, nI (Z m), nI m, nI L.length, nI K, br, bl, tg, ty, fd, dp, dn, sz, pa, no, ac, fr, ft, ro, bo, sa, mi, be, bt, bb) (nI r) := by
  obtain ⟨hn, hl, hPE, hPU, hL, hLB, hE, hR, hF⟩ := H
  have go : ∀ d i, i + d = L.length → (∀ j, j < i → L[j]? ≠ some (r, g 0, g 1, g 2)) → wY_hasFired_2 post (nI r) (nI n) (nI l) (nI (Z m)) (nI m) (nI L.length) (nI K) br bl tg ty fd dp dn sz pa no ac fr ft ro bo sa mi be bt bb (d + 1) (nI i) := by
    intro d
    induction d with
    | zero =>
      intro i e hj
      refine br_t (nI_le (by omega) (by omega)) (h0 (fun z => ?_))
      obtain ⟨j, z⟩ := List.mem_iff_getElem?.mp z
      exact hj j (by have := rm_lt_of z; omega) z
    | succ d ih =>
      intro i e hj
      obtain ⟨x, hx⟩ := rm_get (L := L) (i := i) (by omega)
      obtain ⟨e0, e1, e2, e3⟩ := hF i x hx
      obtain ⟨b0, b1, b2, b3⟩ := hLB x (List.mem_of_getElem? hx)
      have w64 : vp_in (nI i) 64 := vp_in_nI (by omega) (by omega)
      have ci : (nI i).toNatClampNeg = i := nI_clamp (by omega)
      have nx : x ≠ (r, g 0, g 1, g 2) → wY_hasFired_2 post (nI r) (nI n) (nI l) (nI (Z m)) (nI m) (nI L.length) (nI K) br bl tg ty fd dp dn sz pa no ac fr ft ro bo sa mi be bt bb (d + 1) (nI (i + 1)) := fun ne => ih (i + 1) (by omega) (fun j hj2 => by
        by_cases z : j = i
        · rw [z, hx]
          intro y
          exact ne (Option.some.inj y)
        · exact hj j (by omega))
      have inner : ∀ b : Bool, (b = true ↔ x.1 = r) → ∃ k, wY_hasFired_35 post (wY_hasFired_2 post (nI r) (nI n) (nI l) (nI (Z m)) (nI m) (nI L.length) (nI K) br bl tg ty fd dp dn sz pa no ac fr ft ro bo sa mi be bt bb (d + 1)) (nI r) (nI i) (nI n) (nI l) (nI (Z m)) (nI m) (nI L.length) (nI K) br bl tg ty fd dp dn sz pa no ac fr ft ro bo sa mi be bt bb k (rm_bI b) 0 := by
        intro b hb
        refine ⟨0 + 1 + 1 + 1 + 1, ?_⟩
        refine ym_35 (j := 0) hn hE W (by omega) (by omega) e1 b1 (hg 0) ?_
        refine ym_35 (j := 1) hn hE W (by omega) (by omega) e2 b2 (hg 1) ?_
        refine ym_35 (j := 2) hn hE W (by omega) (by omega) e3 b3 (hg 2) ?_
        refine br_t (by decide) ?_
        by_cases q : (((b && decide (x.2.1 = g 0)) && decide (x.2.2.1 = g 1)) && decide (x.2.2.2 = g 2)) = true
        · rw [q]
          refine br_f (by decide) (h1 ?_)
          rw [Bool.and_eq_true, Bool.and_eq_true, Bool.and_eq_true, decide_eq_true_eq, decide_eq_true_eq, decide_eq_true_eq, hb] at q
          obtain ⟨⟨⟨q0, q1⟩, q2⟩, q3⟩ := q
          have : x = (r, g 0, g 1, g 2) := by rw [← q0, ← q1, ← q2, ← q3]
          rw [← this]
          exact List.mem_of_getElem? hx
        · have q2 : (((b && decide (x.2.1 = g 0)) && decide (x.2.2.1 = g 1)) && decide (x.2.2.2 = g 2)) = false := by
            cases z : (((b && decide (x.2.1 = g 0)) && decide (x.2.2.1 = g 1)) && decide (x.2.2.2 = g 2))
            · rfl
            · exact absurd z q
          rw [q2]
          refine br_t rfl (nm_r (nI_1 i) (nx (fun z => q ?_)))
          rw [Bool.and_eq_true, Bool.and_eq_true, Bool.and_eq_true, decide_eq_true_eq, decide_eq_true_eq, decide_eq_true_eq, hb, z]
          exact ⟨⟨⟨rfl, rfl⟩, rfl⟩, rfl⟩
      refine br_f (nI_ge (by omega) (by omega)) (br_f (nI_ge (b := 64) (by omega) (by omega)) ⟨w64, ?_⟩)
      by_cases k0 : x.1 = r
      · exact br_t (by rw [ci, e0, k0]) (inner true ⟨fun _ => k0, fun _ => rfl⟩)
      · exact br_f (by rw [ci, e0]; exact fun z => k0 ((nI_eq (by omega) (by omega)).mp z)) (inner false ⟨fun z => absurd z (by decide), fun z => absurd z k0⟩)
  have := go L.length 0 (by omega) (fun j hj => absurd hj (Nat.not_lt_zero j))
  exact ⟨L.length + 1, this⟩
theorem ym_33 {post : SY → Prop} {J : rm_YJ1} {x1 : Int32} {j k x y : Nat} (hj : j < 2) (bx : x < 1048576) (hy' : y < 1048576) (hx : mi j = nI x) (hy : mi (j + 1) = nI y)
    (k1 : ¬ x < y → wY_sort_33 post J x1 cn lt dr ru fi le br bl k (nI (j + 1)) tg ty fd dp dn sz pa no ac fr ft ro bo sa mi be bt bb) (k2 : x < y → wY_sort_33 post J x1 cn lt dr ru fi le br bl k (nI (j + 1)) tg ty fd dp dn sz pa no ac fr ft ro bo sa (upd (upd mi j (nI y)) (j + 1) (nI x)) be bt bb) :
    wY_sort_33 post J x1 cn lt dr ru fi le br bl (k + 1) (nI j) tg ty fd dp dn sz pa no ac fr ft ro bo sa mi be bt bb := by
  have w : vp_in (nI j) 3 := vp_in_nI (by omega) (by omega)
  have w1 : vp_in (nI j + 1) 3 := by rw [nI_1]; exact vp_in_nI (by omega) (by omega)
  have cj : (nI j).toNatClampNeg = j := nI_clamp (by omega)
  have c1 : (nI j + 1).toNatClampNeg = j + 1 := by rw [nI_1]; exact nI_clamp (by omega)
  refine br_f (nI_ge (b := 2) hj (by omega)) ⟨w, w1, ?_⟩
  by_cases z : x < y
  · exact br_f (by rw [cj, c1, hx, hy]; exact nI_ge z (by omega)) ⟨w, nm_r (e' := nI x) (by rw [cj]; exact hx) ⟨w1, w, nm_r (e' := upd mi j (nI y)) (by rw [cj, c1, hy]) ⟨w1, nm_r (e' := upd (upd mi j (nI y)) (j + 1) (nI x)) (by rw [c1]) (nm_r (nI_1 j) (k2 z))⟩⟩⟩
  · exact br_t (by rw [cj, c1, hx, hy]; exact nI_le (by omega) (by omega)) (nm_r (nI_1 j) (k1 z))
theorem ym_ps {post : SY → Prop} {J : rm_YJ1} {i : Nat} {t : rm_T3} (ht : rm_r3 mi t) (tb : rm_t3 t) (h : ∀ mi', rm_r3 mi' (rm_b2 (rm_b1 t)) → J (nI (i + 1)) tg ty fd dp dn sz pa no ac fr ft ro bo sa mi' be bt bb) : ∃ k, wY_sort_33 post J (nI i) cn lt dr ru fi le br bl k 0 tg ty fd dp dn sz pa no ac fr ft ro bo sa mi be bt bb := by
  have last : ∀ mi' (s : rm_T3), rm_r3 mi' s → rm_t3 s → (∀ mi2, rm_r3 mi2 (rm_b2 s) → J (nI (i + 1)) tg ty fd dp dn sz pa no ac fr ft ro bo sa mi2 be bt bb) → wY_sort_33 post J (nI i) cn lt dr ru fi le br bl (0 + 1 + 1) (nI 1) tg ty fd dp dn sz pa no ac fr ft ro bo sa mi' be bt bb := by
    intro mi' s hs sb k
    obtain ⟨s0, s1, s2⟩ := hs
    refine ym_33 (j := 1) (by omega) sb.2.1 sb.2.2 s1 s2 (fun z => ?_) (fun z => ?_)
    · refine br_t (by decide) (nm_r (nI_1 i) (k mi' ?_))
      unfold rm_b2
      rw [if_neg z]
      exact ⟨s0, s1, s2⟩
    · refine br_t (by decide) (nm_r (nI_1 i) (k _ ?_))
      unfold rm_b2
      rw [if_pos z]
      refine ⟨?_, ?_, pk_us⟩
      · rw [pk_un (by omega), pk_un (by omega)]; exact s0
      · rw [pk_un (by omega), pk_us]
  obtain ⟨t0, t1, t2⟩ := ht
  refine ⟨0 + 1 + 1 + 1, ?_⟩
  refine ym_33 (j := 0) (by omega) tb.1 tb.2.1 t0 t1 (fun z => ?_) (fun z => ?_)
  · have e : rm_b1 t = t := by unfold rm_b1; rw [if_neg z]
    rw [e] at h
    exact last mi t ⟨t0, t1, t2⟩ tb h
  · have e : rm_b1 t = (t.2.1, t.1, t.2.2) := by unfold rm_b1; rw [if_pos z]
    rw [e] at h
    refine last _ (t.2.1, t.1, t.2.2) ⟨?_, pk_us, ?_⟩ ⟨tb.2.1, tb.1, tb.2.2⟩ h
    · rw [pk_un (by omega), pk_us]
    · rw [pk_un (by omega), pk_un (by omega)]; exact t2
theorem ym_so {post : SY → Prop} (hn : n ≤ 12) (hE : rm_YE n T C tg ty fd) (W : rm_RW n K T g ro) (hg : ∀ j, g j < 1048576)
    (h : ∀ mi', mi' 0 = nI (rm_m0 (g 0) (g 1) (g 2)) → mi' 1 = nI (rm_m1 (g 0) (g 1) (g 2)) → mi' 2 = nI (rm_m2 (g 0) (g 1) (g 2)) → post (cn, lt, dr, ru, fi, nI K, br, bl, tg, ty, fd, dp, dn, sz, pa, no, ac, fr, ft, ro, bo, sa, mi', be, bt, bb)) : wpY_sort post (cn, lt, dr, ru, fi, nI K, br, bl, tg, ty, fd, dp, dn, sz, pa, no, ac, fr, ft, ro, bo, sa, mi, be, bt, bb) := by
  refine ⟨0 + 1 + 1 + 1 + 1, ?_⟩
  refine br_f rm_q0 (ym_ta (k := 0) hn hE W (by omega) ?_ _ rfl)
  refine ⟨rm_v0, nm_r (e' := upd mi 0 (nI (g 0))) (by rw [rm_c0]) (nm_r rm_01 ?_)⟩
  refine br_f rm_q1 (ym_ta (k := 1) hn hE W (by omega) ?_ _ rfl)
  refine ⟨rm_v1, nm_r (e' := upd (upd mi 0 (nI (g 0))) 1 (nI (g 1))) (by rw [rm_c1]) (nm_r rm_12 ?_)⟩
  refine br_f rm_q2 (ym_ta (k := 2) hn hE W (by omega) ?_ _ rfl)
  refine ⟨rm_v2, nm_r (e' := rm_u3 mi (nI (g 0)) (nI (g 1)) (nI (g 2))) (by rw [rm_c2]; rfl) (nm_r rm_23 ?_)⟩
  have t0 : rm_r3 (rm_u3 mi (nI (g 0)) (nI (g 1)) (nI (g 2))) (g 0, g 1, g 2) := ⟨rm_u3_0, rm_u3_1, rm_u3_2⟩
  have b0 : rm_t3 (g 0, g 1, g 2) := ⟨hg 0, hg 1, hg 2⟩
  generalize rm_u3 mi (nI (g 0)) (nI (g 1)) (nI (g 2)) = mi0 at t0
  refine br_t rm_q3 ⟨0 + 1 + 1 + 1 + 1, ?_⟩
  refine br_f rm_q0 (ym_ps (i := 0) t0 b0 (fun mi1 t1 => ?_))
  have b1 := rm_t3_2 (rm_t3_1 b0)
  refine br_f rm_q1 (ym_ps (i := 1) t1 b1 (fun mi2 t2 => ?_))
  have b2 := rm_t3_2 (rm_t3_1 b1)
  refine br_f rm_q2 (ym_ps (i := 2) t2 b2 (fun mi3 t3 => ?_))
  rw [rm_srt] at t3
  exact br_t rm_q3 (h mi3 t3.1 t3.2.1 t3.2.2)
theorem ym_2 {post : Int32 → Prop} {q : Int32} {j x y k : Nat} (hj : j < 3) (bx : x < 1048576) (hy' : y < 1048576) (hx : mi j = nI x) (hy : be j = nI y) (he : x = y → wY_before_2 post q cn lt dr ru fi le br bl tg ty fd dp dn sz pa no ac fr ft ro bo sa mi be bt bb k (nI (j + 1))) (hg : y < x → post 1) (hl : x < y → post 0) : wY_before_2 post q cn lt dr ru fi le br bl tg ty fd dp dn sz pa no ac fr ft ro bo sa mi be bt bb (k + 1) (nI j) := by
  have w : vp_in (nI j) 3 := vp_in_nI hj (by omega)
  have cj : (nI j).toNatClampNeg = j := nI_clamp (by omega)
  refine br_f (nI_ge (b := 3) hj (by omega)) ⟨w, w, ?_⟩
  by_cases e : x = y
  · exact br_t (by rw [cj, hx, hy, e]) (nm_r (nI_1 j) (he e))
  · refine br_f (by rw [cj, hx, hy]; exact fun z => e ((nI_eq (by omega) (by omega)).mp z)) ⟨w, w, ?_⟩
    by_cases g : y < x
    · exact br_f (by rw [cj, hx, hy]; exact nI_ge g (by omega)) (hg g)
    · exact br_t (by rw [cj, hx, hy]; exact nI_le (by omega) (by omega)) (hl (by omega))
theorem ym_73 {post : Int32 → Prop} {j y k : Nat} (hn : n ≤ 12) (hE : rm_YE n T C tg ty fd) (W : rm_RW n K T g ro) (hj : j < 3) (bx : g j < 1048576) (hy' : y < 1048576) (hy : bt j = nI y) (he : g j = y → wY_before_73 post cn lt dr ru fi (nI K) br bl tg ty fd dp dn sz pa no ac fr ft ro bo sa mi be bt bb k (nI (j + 1))) (hg : y < g j → post 1) (hl : g j < y → post 0) : wY_before_73 post cn lt dr ru fi (nI K) br bl tg ty fd dp dn sz pa no ac fr ft ro bo sa mi be bt bb (k + 1) (nI j) := by
  have w : vp_in (nI j) 3 := vp_in_nI hj (by omega)
  have cj : (nI j).toNatClampNeg = j := nI_clamp (by omega)
  refine br_f (nI_ge (b := 3) hj (by omega)) (ym_ta hn hE W hj ?_ _ rfl)
  refine ⟨w, ?_⟩
  by_cases e : g j = y
  · exact br_t (by rw [cj, hy, e]) (nm_r (nI_1 j) (he e))
  · refine br_f (by rw [cj, hy]; exact fun z => e ((nI_eq (by omega) (by omega)).mp z)) (ym_ta hn hE W hj ?_ _ rfl)
    refine ⟨w, ?_⟩
    by_cases q : y < g j
    · exact br_f (by rw [cj, hy]; exact nI_ge q (by omega)) (hg q)
    · exact br_t (by rw [cj, hy]; exact nI_le (by omega) (by omega)) (hl (by omega))
theorem ym_bb {post : Int32 → Prop} {r r' a' b' c' : Nat} (hn : n ≤ 12) (hE : rm_YE n T C tg ty fd) (W : rm_RW n K T g ro) (hg : ∀ j, g j < 1048576) (ha' : a' < 1048576) (hb' : b' < 1048576) (hc' : c' < 1048576) (hr : r < 7) (hr' : r' < 7)
    (f0 : mi 0 = nI (rm_m0 (g 0) (g 1) (g 2))) (f1 : mi 1 = nI (rm_m1 (g 0) (g 1) (g 2))) (f2 : mi 2 = nI (rm_m2 (g 0) (g 1) (g 2))) (g0 : be 0 = nI (rm_m0 a' b' c')) (g1 : be 1 = nI (rm_m1 a' b' c')) (g2 : be 2 = nI (rm_m2 a' b' c'))
    (s0 : bt 0 = nI a') (s1 : bt 1 = nI b') (s2 : bt 2 = nI c')
    (h1 : rm_kf r' a' b' c' < rm_kf r (g 0) (g 1) (g 2) → post 1) (h0 : ¬ rm_kf r' a' b' c' < rm_kf r (g 0) (g 1) (g 2) → post 0) : wpY_before post (cn, lt, dr, ru, fi, nI K, nI r', bl, tg, ty, fd, dp, dn, sz, pa, no, ac, fr, ft, ro, bo, sa, mi, be, bt, bb) (nI r) := by
  have ha := hg 0
  have hb := hg 1
  have hc := hg 2
  have kk := rm_bt_k (r := r) (r' := r') ha hb hc ha' hb' hc'
  obtain ⟨m0, m1, m2⟩ := rm_mb ha hb hc
  obtain ⟨n0, n1, n2⟩ := rm_mb ha' hb' hc'
  rw [← kk] at h1 h0
  unfold rm_bt at h1 h0
  clear kk
  generalize rm_m0 (g 0) (g 1) (g 2) = x0 at *
  generalize rm_m1 (g 0) (g 1) (g 2) = x1 at *
  generalize rm_m2 (g 0) (g 1) (g 2) = x2 at *
  generalize rm_m0 a' b' c' = y0 at *
  generalize rm_m1 a' b' c' = y1 at *
  generalize rm_m2 a' b' c' = y2 at *
  refine ⟨0 + 1 + 1 + 1 + 1, ?_⟩
  refine ym_2 (j := 0) (by omega) m0 n0 f0 g0 (fun e0 => ?_) (fun z => h1 (by omega)) (fun z => h0 (by omega))
  refine ym_2 (j := 1) (by omega) m1 n1 f1 g1 (fun e1 => ?_) (fun z => h1 (by omega)) (fun z => h0 (by omega))
  refine ym_2 (j := 2) (by omega) m2 n2 f2 g2 (fun e2 => ?_) (fun z => h1 (by omega)) (fun z => h0 (by omega))
  refine br_t (by decide) ?_
  by_cases er : r = r'
  · refine br_t (by rw [er]) ⟨0 + 1 + 1 + 1 + 1, ?_⟩
    refine ym_73 (j := 0) hn hE W (by omega) ha ha' s0 (fun e3 => ?_) (fun z => h1 (by omega)) (fun z => h0 (by omega))
    refine ym_73 (j := 1) hn hE W (by omega) hb hb' s1 (fun e4 => ?_) (fun z => h1 (by omega)) (fun z => h0 (by omega))
    refine ym_73 (j := 2) hn hE W (by omega) hc hc' s2 (fun e5 => ?_) (fun z => h1 (by omega)) (fun z => h0 (by omega))
    exact br_t (by decide) (h0 (by omega))
  · refine br_f (fun z => er ((nI_eq (by omega) (by omega)).mp z)) ?_
    by_cases lr : r < r'
    · exact br_f (nI_ge lr (by omega)) (h1 (by omega))
    · exact br_t (nI_le (by omega) (by omega)) (h0 (by omega))
theorem ym_nt {post : SY → Prop} {q : Int32} (hn : n ≤ 12) (hE : rm_YE n T C tg ty fd) (W : rm_RW n K T g ro) (h : ∀ be' bt' bb', rm_ag be' mi → (∀ j, j < 3 → bt' j = nI (g j)) → rm_ag bb' bo → post (cn, lt, dr, ru, fi, nI K, q, nI K, tg, ty, fd, dp, dn, sz, pa, no, ac, fr, ft, ro, bo, sa, mi, be', bt', bb')) : wpY_note post (cn, lt, dr, ru, fi, nI K, br, bl, tg, ty, fd, dp, dn, sz, pa, no, ac, fr, ft, ro, bo, sa, mi, be, bt, bb) q := by
  refine ⟨0 + 1 + 1 + 1 + 1, br_f rm_q0 ⟨rm_v0, rm_v0, nm_r (e' := upd be 0 (mi 0)) (by rw [rm_c0]) (ym_ta (k := 0) hn hE W (by omega) ?_ _ rfl)⟩⟩
  refine ⟨rm_v0, nm_r (e' := upd bt 0 (nI (g 0))) (by rw [rm_c0]) ⟨rm_v0, rm_v0, nm_r (e' := upd bb 0 (bo 0)) (by rw [rm_c0]) (nm_r rm_01 ?_)⟩⟩
  refine br_f rm_q1 ⟨rm_v1, rm_v1, nm_r (e' := upd (upd be 0 (mi 0)) 1 (mi 1)) (by rw [rm_c1]) (ym_ta (k := 1) hn hE W (by omega) ?_ _ rfl)⟩
  refine ⟨rm_v1, nm_r (e' := upd (upd bt 0 (nI (g 0))) 1 (nI (g 1))) (by rw [rm_c1]) ⟨rm_v1, rm_v1, nm_r (e' := upd (upd bb 0 (bo 0)) 1 (bo 1)) (by rw [rm_c1]) (nm_r rm_12 ?_)⟩⟩
  refine br_f rm_q2 ⟨rm_v2, rm_v2, nm_r (e' := rm_u3 be (mi 0) (mi 1) (mi 2)) (by rw [rm_c2]; rfl) (ym_ta (k := 2) hn hE W (by omega) ?_ _ rfl)⟩
  refine ⟨rm_v2, nm_r (e' := rm_u3 bt (nI (g 0)) (nI (g 1)) (nI (g 2))) (by rw [rm_c2]; rfl) ⟨rm_v2, rm_v2, nm_r (e' := rm_u3 bb (bo 0) (bo 1) (bo 2)) (by rw [rm_c2]; rfl) (nm_r rm_23 ?_)⟩⟩
  refine br_t rm_q3 (h _ _ _ (rm_u3_ag rfl rfl rfl) ?_ (rm_u3_ag rfl rfl rfl))
  exact rm_u3_ag (A := fun j => nI (g j)) rfl rfl rfl
end YB
end
section
/-- the reference's best match so far -/
def rm_BY (m : Nat) (Z : Nat → Nat) (N : Nat → Nat → Bool) (b : Option rm_It) (br bl : Int32) (be bt bb : Nat → Int32) : Prop :=
  match b with
  | none => br = -1
  | some x => br = nI x.1 ∧ x.1 < m ∧ (∀ j, x.2.1 j < 1048576) ∧ (∀ j, j < 3 → bt j = nI (x.2.1 j)) ∧ be 0 = nI (rm_m0 (x.2.1 0) (x.2.1 1) (x.2.1 2)) ∧ be 1 = nI (rm_m1 (x.2.1 0) (x.2.1 1) (x.2.1 2)) ∧ be 2 = nI (rm_m2 (x.2.1 0) (x.2.1 1) (x.2.1 2)) ∧ rm_ag bb x.2.2 ∧ bl = nI (rm_pc (N x.1) (Z x.1))
theorem rm_RW_of {T C : Nat → Nat} {n : Nat} {D P : Nat → Nat} {N : Nat → Bool} {z : Nat} {s : (Nat → Int32) × (Nat → Nat)} {ro : Nat → Int32} (hz : z ≤ 3) (hs : rm_ps T C n D P N z = some s) (hro : ∀ j, j < rm_pc N z → ro j = nI (D j)) : rm_RW n (rm_pc N z) T s.2 ro := by
  obtain ⟨_, g2, g3⟩ := rm_ps_g z s hs
  refine ⟨Nat.le_trans (rm_pc_b _ _) hz, fun k _ => ⟨fun hk => ⟨D k, (g2 k hk).1, hro k hk, (g2 k hk).2⟩, fun hk => g3 k hk⟩⟩
section YC
variable {n m l : Nat} {T C Z Q g : Nat → Nat} {P : Nat → Nat → Nat} {N : Nat → Nat → Bool} {L : List rm_Fi}
variable {cn lt dr ru fi le br bl : Int32} {tg ty fd dp dn sz pa no ac fr ft ro bo sa mi be bt bb : Nat → Int32}
theorem ym_31 {post : Int32 → SY → Prop} {J : Int32 → Int32 → Int32 → Int32 → Int32 → Int32 → Int32 → Int32 → Int32 → Int32 → (Nat → Int32) → (Nat → Int32) → (Nat → Int32) → (Nat → Int32) → (Nat → Int32) → (Nat → Int32) → (Nat → Int32) → (Nat → Int32) → (Nat → Int32) → (Nat → Int32) → (Nat → Int32) → (Nat → Int32) → (Nat → Int32) → (Nat → Int32) → (Nat → Int32) → (Nat → Int32) → (Nat → Int32) → (Nat → Int32) → Prop} {r o : Nat} {b : Option rm_It}
    (H : rm_YH n m l T C Z Q P N L tg ty fd dp dn sz pa no ac fr ft) (hr : r < m)
    (hJ : ∀ le ro bo sa mi br bl be bt bb, rm_BY m Z N (rm_fc (rm_om T C n P N Z L r) b (12 ^ rm_pc (N r) (Z r))) br bl be bt bb → J (nI (o + rm_cn (fun c => (rm_om T C n P N Z L r c).isSome) (12 ^ rm_pc (N r) (Z r)))) (nI (r + 1)) (nI n) (nI l) (nI (Z m)) (nI m) (nI L.length) le br bl tg ty fd dp dn sz pa no ac fr ft ro bo sa mi be bt bb) :
    ∀ d i le ro bo sa mi br bl be bt bb, i + d = 12 ^ rm_pc (N r) (Z r) → rm_BY m Z N (rm_fc (rm_om T C n P N Z L r) b i) br bl be bt bb → wY_look_31 post J (nI r) (nI (12 ^ rm_pc (N r) (Z r))) (d + 1) (nI (o + rm_cn (fun c => (rm_om T C n P N Z L r c).isSome) i)) (nI i) (nI n) (nI l) (nI (Z m)) (nI m) (nI L.length) le br bl tg ty fd dp dn sz pa no ac fr ft ro bo sa mi be bt bb := by
  have hPE := H.2.2.1
  have hl := H.2.1
  have hPU := H.2.2.2.1
  have hn := H.1
  have hE := H.2.2.2.2.2.2.1
  have hm := hPU.1
  have hz := (hPU.2.1 r (by omega)).1
  obtain ⟨p1, p3⟩ := rm_pc_1 hPU hr
  have pb : 12 ^ rm_pc (N r) (Z r) ≤ 1728 := Nat.pow_le_pow_right (n := 12) (by omega) p3
  generalize hM : 12 ^ rm_pc (N r) (Z r) = M at *
  intro d
  induction d with
  | zero =>
    intro i le ro bo sa mi br bl be bt bb e hb
    have e2 : i = M := by omega
    subst e2
    exact br_t (nI_le (Nat.le_refl _) (by omega)) (nm_r (nI_1 r) (hJ le ro bo sa mi br bl be bt bb hb))
  | succ d ih =>
    intro i le ro bo sa mi br bl be bt bb e hb
    have nOm : rm_om T C n P N Z L r i = none → rm_cn (fun c => (rm_om T C n P N Z L r c).isSome) (i + 1) = rm_cn (fun c => (rm_om T C n P N Z L r c).isSome) i ∧ rm_fc (rm_om T C n P N Z L r) b (i + 1) = rm_fc (rm_om T C n P N Z L r) b i := by
      intro om
      constructor
      · show _ + (if (rm_om T C n P N Z L r i).isSome = true then 1 else 0) = _
        rw [om]; rfl
      · show rm_ub _ (rm_om T C n P N Z L r i) = _
        rw [om]; rfl
    refine br_f (nI_ge (by omega) (by omega)) (ym_im H hr (by omega) (fun ro1 bo1 sa1 hn => ?_) (fun ro1 bo1 sa1 s hs hbo hro => ?_))
    · obtain ⟨e3, e4⟩ := nOm (by unfold rm_om; rw [hn]; rfl)
      have := ih (i + 1) le ro1 bo1 sa1 mi br bl be bt bb (by omega) (by rw [e4]; exact hb)
      rw [e3] at this
      exact br_t rfl (nm_r (nI_1 i) this)
    · have gb := rm_gb hPE hl hs
      have W := rm_RW_of hz hs hro
      refine br_f (by decide) (ym_hf H W (by omega) gb (fun mem => ?_) (fun mem => ?_))
      · obtain ⟨e3, e4⟩ := nOm (by unfold rm_om; rw [hs]; exact if_pos mem)
        have := ih (i + 1) (nI (rm_pc (N r) (Z r))) ro1 bo1 sa1 mi br bl be bt bb (by omega) (by rw [e4]; exact hb)
        rw [e3] at this
        exact br_f (by decide) (nm_r (nI_1 i) this)
      · have om : rm_om T C n P N Z L r i = some (r, s.2, s.1) := by
          unfold rm_om; rw [hs]; exact if_neg mem
        have e3 : rm_cn (fun c => (rm_om T C n P N Z L r c).isSome) (i + 1) = rm_cn (fun c => (rm_om T C n P N Z L r c).isSome) i + 1 := by
          show _ + (if (rm_om T C n P N Z L r i).isSome = true then 1 else 0) = _
          rw [om]; rfl
        have fc1 : rm_fc (rm_om T C n P N Z L r) b (i + 1) = rm_ub (rm_fc (rm_om T C n P N Z L r) b i) (some (r, s.2, s.1)) := by
          show rm_ub _ (rm_om T C n P N Z L r i) = _
          rw [om]
        have ih2 := ih (i + 1)
        rw [e3, ← Nat.add_assoc] at ih2
        refine br_t rfl (nm_r (nI_1 _) (ym_so hn hE W gb (fun mi1 f0 f1 f2 => ?_)))
        have kp : rm_BY m Z N (rm_fc (rm_om T C n P N Z L r) b (i + 1)) = rm_BY m Z N (some (r, s.2, s.1)) → wY_look_77 post J (wY_look_31 post J (nI r) (nI M) (d + 1)) (nI (o + rm_cn (fun c => (rm_om T C n P N Z L r c).isSome) i + 1)) (nI r) (nI M) (nI i) (nI n) (nI l) (nI (Z m)) (nI m) (nI L.length) (nI (rm_pc (N r) (Z r))) br bl tg ty fd dp dn sz pa no ac fr ft ro1 bo1 sa1 mi1 be bt bb := by
          intro e2
          unfold wY_look_77
          refine ym_nt hn hE W (fun be' bt' bb' q1 q2 q3 => ?_)
          refine nm_r (nI_1 i) (ih2 (nI (rm_pc (N r) (Z r))) ro1 bo1 sa1 mi1 (nI r) (nI (rm_pc (N r) (Z r))) be' bt' bb' (by omega) ?_)
          rw [e2]
          exact ⟨rfl, hr, gb, q2, (q1 0 (by omega)).trans f0, (q1 1 (by omega)).trans f1, (q1 2 (by omega)).trans f2, fun j hj => (q3 j hj).trans (hbo j hj), rfl⟩
        cases hq : rm_fc (rm_om T C n P N Z L r) b i with
        | none =>
          rw [hq] at hb fc1
          have hb2 : br = -1 := hb
          subst hb2
          exact br_t (by decide) (kp (by rw [fc1]; rfl))
        | some y =>
          rw [hq] at hb fc1
          obtain ⟨b1, b2, b3, b4, b5, b6, b7, b8, b9⟩ := hb
          subst b1
          refine br_f (nI_pos (by omega)) (ym_bb hn hE W gb (b3 0) (b3 1) (b3 2) (by omega) (by omega) f0 f1 f2 b5 b6 b7 (b4 0 (by omega)) (b4 1 (by omega)) (b4 2 (by omega)) (fun kl => ?_) (fun kl => ?_))
          · exact br_f (by decide) (kp (by rw [fc1]; show rm_BY m Z N (if rm_ky y < rm_ky (r, s.2, s.1) then _ else _) = _; rw [if_pos (show rm_ky y < rm_ky (r, s.2, s.1) from kl)]))
          · refine br_t rfl (nm_r (nI_1 i) (ih2 (nI (rm_pc (N r) (Z r))) ro1 bo1 sa1 mi1 (nI y.1) bl be bt bb (by omega) ?_))
            rw [fc1]
            show rm_BY m Z N (if rm_ky y < rm_ky (r, s.2, s.1) then _ else _) _ _ _ _ _
            rw [if_neg (show ¬ rm_ky y < rm_ky (r, s.2, s.1) from kl)]
            exact ⟨rfl, b2, b3, b4, b5, b6, b7, b8, b9⟩
theorem ym_lo {post : Int32 → SY → Prop} (H : rm_YH n m l T C Z Q P N L tg ty fd dp dn sz pa no ac fr ft)
    (h : ∀ le ro bo sa mi br bl be bt bb, rm_BY m Z N (rm_fr (rm_om T C n P N Z L) (fun r => 12 ^ rm_pc (N r) (Z r)) m) br bl be bt bb → post (nI (rm_oc (rm_om T C n P N Z L) (fun r => 12 ^ rm_pc (N r) (Z r)) m)) (nI n, nI l, nI (Z m), nI m, nI L.length, le, br, bl, tg, ty, fd, dp, dn, sz, pa, no, ac, fr, ft, ro, bo, sa, mi, be, bt, bb)) : wpY_look post (nI n, nI l, nI (Z m), nI m, nI L.length, le, br, bl, tg, ty, fd, dp, dn, sz, pa, no, ac, fr, ft, ro, bo, sa, mi, be, bt, bb) := by
  have hm := H.2.2.2.1.1
  have go : ∀ d r le ro bo sa mi br bl be bt bb, r + d = m → rm_BY m Z N (rm_fr (rm_om T C n P N Z L) (fun r => 12 ^ rm_pc (N r) (Z r)) r) br bl be bt bb → wY_look_9 post (d + 1) (nI (rm_oc (rm_om T C n P N Z L) (fun r => 12 ^ rm_pc (N r) (Z r)) r)) (nI r) (nI n) (nI l) (nI (Z m)) (nI m) (nI L.length) le br bl tg ty fd dp dn sz pa no ac fr ft ro bo sa mi be bt bb := by
    intro d
    induction d with
    | zero =>
      intro r le ro bo sa mi br bl be bt bb e hb
      have e2 : r = m := by omega
      subst e2
      exact br_t (nI_le (Nat.le_refl _) (by omega)) (h le ro bo sa mi br bl be bt bb hb)
    | succ d ih =>
      intro r le ro bo sa mi br bl be bt bb e hb
      refine br_f (nI_ge (by omega) (by omega)) (br_f (nI_ge (b := 5) (by omega) (by omega)) (ym_ro H (by omega) ?_))
      exact ⟨12 ^ rm_pc (N r) (Z r) + 1, ym_31 (o := rm_oc (rm_om T C n P N Z L) (fun r => 12 ^ rm_pc (N r) (Z r)) r) (b := rm_fr (rm_om T C n P N Z L) (fun r => 12 ^ rm_pc (N r) (Z r)) r) H (by omega) (fun le1 ro1 bo1 sa1 mi1 br1 bl1 be1 bt1 bb1 hb1 => ih (r + 1) le1 ro1 bo1 sa1 mi1 br1 bl1 be1 bt1 bb1 (by omega) hb1) (12 ^ rm_pc (N r) (Z r)) 0 le ro bo sa mi br bl be bt bb (by omega) hb⟩
  exact ⟨m + 1, go m 0 le ro bo sa mi (-1) bl be bt bb (by omega) rfl⟩
theorem ym_ma {post : Int32 → SY → Prop} {r : Nat} (H : rm_YH n m l T C Z Q P N L tg ty fd dp dn sz pa no ac fr ft) (hr : r < m)
    (h : ∀ le ro bo sa, post (nI (rm_cn (fun c => (rm_ps T C n (rm_D c) (P r) (N r) (Z r)).isSome) (12 ^ rm_pc (N r) (Z r)))) (nI n, nI l, nI (Z m), nI m, nI L.length, le, br, bl, tg, ty, fd, dp, dn, sz, pa, no, ac, fr, ft, ro, bo, sa, mi, be, bt, bb)) : wpY_matches post (nI n, nI l, nI (Z m), nI m, nI L.length, le, br, bl, tg, ty, fd, dp, dn, sz, pa, no, ac, fr, ft, ro, bo, sa, mi, be, bt, bb) (nI r) := by
  have hPU := H.2.2.2.1
  have hm := hPU.1
  obtain ⟨p1, p3⟩ := rm_pc_1 hPU hr
  have pb : 12 ^ rm_pc (N r) (Z r) ≤ 1728 := Nat.pow_le_pow_right (n := 12) (by omega) p3
  have go : ∀ d i le ro bo sa, i + d = 12 ^ rm_pc (N r) (Z r) → wY_matches_30 post (nI r) (nI (12 ^ rm_pc (N r) (Z r))) (d + 1) (nI (rm_cn (fun c => (rm_ps T C n (rm_D c) (P r) (N r) (Z r)).isSome) i)) (nI i) (nI n) (nI l) (nI (Z m)) (nI m) (nI L.length) le br bl tg ty fd dp dn sz pa no ac fr ft ro bo sa mi be bt bb := by
    generalize 12 ^ rm_pc (N r) (Z r) = M at *
    intro d
    induction d with
    | zero =>
      intro i le ro bo sa e
      have e2 : i = M := by omega
      subst e2
      exact br_t (nI_le (Nat.le_refl _) (by omega)) (h le ro bo sa)
    | succ d ih =>
      intro i le ro bo sa e
      refine br_f (nI_ge (by omega) (by omega)) (ym_im H hr (by omega) (fun ro1 bo1 sa1 hn => ?_) (fun ro1 bo1 sa1 s hs _ _ => ?_))
      · have e3 : rm_cn (fun c => (rm_ps T C n (rm_D c) (P r) (N r) (Z r)).isSome) (i + 1) = rm_cn (fun c => (rm_ps T C n (rm_D c) (P r) (N r) (Z r)).isSome) i := by
          show _ + (if (rm_ps T C n (rm_D i) (P r) (N r) (Z r)).isSome = true then 1 else 0) = _
          rw [hn]; rfl
        have := ih (i + 1) le ro1 bo1 sa1 (by omega)
        rw [e3] at this
        exact br_t rfl (nm_r (nI_1 i) this)
      · have e3 : rm_cn (fun c => (rm_ps T C n (rm_D c) (P r) (N r) (Z r)).isSome) (i + 1) = rm_cn (fun c => (rm_ps T C n (rm_D c) (P r) (N r) (Z r)).isSome) i + 1 := by
          show _ + (if (rm_ps T C n (rm_D i) (P r) (N r) (Z r)).isSome = true then 1 else 0) = _
          rw [hs]; rfl
        have := ih (i + 1) (nI (rm_pc (N r) (Z r))) ro1 bo1 sa1 (by omega)
        rw [e3] at this
        exact br_f (by decide) (nm_r (nI_1 _) (nm_r (nI_1 i) this))
  refine br_f (nI_pos (by omega)) (br_f (nI_ge hr (by omega)) (br_t (nI_le (b := 4) (by omega) (by omega)) (ym_ro H hr ?_)))
  exact ⟨12 ^ rm_pc (N r) (Z r) + 1, go (12 ^ rm_pc (N r) (Z r)) 0 le ro bo sa (by omega)⟩
theorem ym_ft {post : Int32 → SY → Prop} {p : Nat} (hp : p < 32000) (hn : n ≤ 12) (hE : rm_YE n T C tg ty fd) (hC : ∀ i, i < n → C i < 16384)
    (h : ∀ bo sa, post (nI (rm_cn (rm_fits (fun _ => -1) p C) n)) (nI n, nI l, nI (Z m), nI m, nI L.length, le, br, bl, tg, ty, fd, dp, dn, sz, pa, no, ac, fr, ft, ro, bo, sa, mi, be, bt, bb)) : ∃ k, wY_fitting_12 post (nI p) (nI n) (nI l) (nI (Z m)) (nI m) (nI L.length) le br bl k 0 tg ty fd dp dn sz pa no ac fr ft ro bo sa mi be bt bb := by
  have go : ∀ d i bo sa, i + d = n → rm_ag bo (fun _ => -1) → wY_fitting_34 post (nI p) (d + 1) (nI (rm_cn (rm_fits (fun _ => -1) p C) i)) (nI i) (nI n) (nI l) (nI (Z m)) (nI m) (nI L.length) le br bl tg ty fd dp dn sz pa no ac fr ft ro bo sa mi be bt bb := by
    intro d
    induction d with
    | zero =>
      intro i bo sa e hb
      have e2 : i = n := by omega
      subst e2
      exact br_t (nI_le (Nat.le_refl _) (by omega)) (h bo sa)
    | succ d ih =>
      intro i bo sa e hb
      refine br_f (nI_ge (by omega) (by omega)) (br_f (nI_ge (b := 12) (by omega) (by omega)) (ym_fits (kp := 0) hb rm_va_0 hp (hC i (by omega)) (by omega) (hE i (by omega)).2.1 (hE i (by omega)).2.2 (fun bo' sa' s hb' => ?_) (fun bo' sa' B s hb' _ => ?_) _ _ rfl rfl))
      · have e3 : rm_cn (rm_fits (fun _ => -1) p C) (i + 1) = rm_cn (rm_fits (fun _ => -1) p C) i := by
          have z : rm_fits (fun _ => -1) p C i = false := by unfold rm_fits; rw [s]; rfl
          show _ + (if rm_fits (fun _ => -1) p C i = true then 1 else 0) = _
          rw [z]; rfl
        have := ih (i + 1) bo' sa' (by omega) hb'
        rw [e3] at this
        exact br_t rfl (nm_r (nI_1 i) this)
      · have e3 : rm_cn (rm_fits (fun _ => -1) p C) (i + 1) = rm_cn (rm_fits (fun _ => -1) p C) i + 1 := by
          have z : rm_fits (fun _ => -1) p C i = true := by unfold rm_fits; rw [s]; rfl
          show _ + (if rm_fits (fun _ => -1) p C i = true then 1 else 0) = _
          rw [z]; rfl
        have := ih (i + 1) bo' sa' (by omega) (hb' rfl)
        rw [e3] at this
        exact br_f (by decide) (nm_r (nI_1 _) (nm_r (nI_1 i) this))
  refine ⟨0 + 1 + 1 + 1 + 1, br_f rm_q0 ⟨rm_v0, nm_r (e' := upd bo 0 (-1)) (by rw [rm_c0]) (nm_r rm_01 (br_f rm_q1 ⟨rm_v1, nm_r (e' := upd (upd bo 0 (-1)) 1 (-1)) (by rw [rm_c1]) (nm_r rm_12 (br_f rm_q2 ⟨rm_v2, nm_r (e' := rm_u3 bo (-1) (-1) (-1)) (by rw [rm_c2]; rfl) (nm_r rm_23 (br_t rm_q3 ⟨n + 1, ?_⟩))⟩))⟩))⟩⟩
  exact go n 0 (rm_u3 bo (-1) (-1) (-1)) sa (by omega) (rm_u3_ag rfl rfl rfl)
end YC
end
section
theorem rm_YE_mk {n l y f : Nat} {T C : Nat → Nat} {tg ty fd : Nat → Int32} (hf : f < 4096) (h : rm_YE n T C tg ty fd) : rm_YE (n + 1) (rm_w T n (l + 1)) (rm_w C n (4096 * y + f)) (upd tg n (nI (l + 1))) (upd ty n (nI y)) (upd fd n (nI f)) := by
  intro i hi
  by_cases z : i = n
  · rw [z, pk_us, pk_us, pk_us, rm_w_s, rm_w_s]
    exact ⟨rfl, congrArg nI (by omega), congrArg nI (by omega)⟩
  · rw [pk_un z, pk_un z, pk_un z, rm_w_n z, rm_w_n z]
    exact h i (by omega)
def rm_sh (i e j : Nat) : Nat := if j < i then j else if j < e then j + 1 else j
section YD
variable {n m l : Nat} {T C Z Q g : Nat → Nat} {P : Nat → Nat → Nat} {N : Nat → Nat → Bool} {L : List rm_Fi}
variable {cn lt dr ru fi le br bl : Int32} {tg ty fd dp dn sz pa no ac fr ft ro bo sa mi be bt bb : Nat → Int32}
theorem ym_fi {post : Int32 → Prop} {q : Int32} (hn : n ≤ 12) (hT : ∀ i, i < n → tg i = nI (T i)) (h1 : ∀ i, i < n → nI (T i) = q → post (nI i)) (h0 : (∀ i, i < n → ¬ nI (T i) = q) → post (-1)) : wpY_find post (nI n, lt, dr, ru, fi, le, br, bl, tg, ty, fd, dp, dn, sz, pa, no, ac, fr, ft, ro, bo, sa, mi, be, bt, bb) q := by
  have go : ∀ d i, i + d = n → (∀ j, j < i → ¬ nI (T j) = q) → wY_find_2 post q (nI n) lt dr ru fi le br bl tg ty fd dp dn sz pa no ac fr ft ro bo sa mi be bt bb (d + 1) (nI i) := by
    intro d
    induction d with
    | zero =>
      intro i e hj
      exact br_t (nI_le (by omega) (by omega)) (h0 (fun j hj2 => hj j (by omega)))
    | succ d ih =>
      intro i e hj
      have ci : (nI i).toNatClampNeg = i := nI_clamp (by omega)
      refine br_f (nI_ge (by omega) (by omega)) (br_f (nI_ge (b := 12) (by omega) (by omega)) ⟨vp_in_nI (by omega) (by omega), ?_⟩)
      by_cases z : nI (T i) = q
      · exact br_t (by rw [ci, hT i (by omega)]; exact z) (h1 i (by omega) z)
      · exact br_f (by rw [ci, hT i (by omega)]; exact z) (nm_r (nI_1 i) (ih (i + 1) (by omega) (fun j hj2 => by
          by_cases y : j = i
          · rw [y]; exact z
          · exact hj j (by omega))))
  have := go n 0 (by omega) (fun j hj => absurd hj (Nat.not_lt_zero j))
  exact ⟨n + 1, this⟩
theorem ym_dr {post : SY → Prop} {i : Nat} (hn : n + 1 ≤ 12) (hi : i < n + 1) (hE : rm_YE (n + 1) T C tg ty fd)
    (h : ∀ tg' ty' fd', rm_YE n (rm_dy T i) (rm_dy C i) tg' ty' fd' → post (nI n, lt, dr, ru, fi, le, br, bl, tg', ty', fd', dp, dn, sz, pa, no, ac, fr, ft, ro, bo, sa, mi, be, bt, bb)) : wpY_drop post (nI (n + 1), lt, dr, ru, fi, le, br, bl, tg, ty, fd, dp, dn, sz, pa, no, ac, fr, ft, ro, bo, sa, mi, be, bt, bb) (nI i) := by
  have pr := nI_pred n
  have go : ∀ d e tg ty fd, e + d = n → i ≤ e → rm_YE (n + 1) (fun j => T (rm_sh i e j)) (fun j => C (rm_sh i e j)) tg ty fd → wY_drop_2 post (nI (n + 1)) lt dr ru fi le br bl (d + 1) (nI e) tg ty fd dp dn sz pa no ac fr ft ro bo sa mi be bt bb := by
    intro d
    induction d with
    | zero =>
      intro e tg ty fd he hie hY
      have e2 : e = n := by omega
      subst e2
      refine br_t (by rw [pr]; exact nI_le (Nat.le_refl _) (by omega)) (nm_r pr (h tg ty fd (fun j hj => ?_)))
      have := hY j (by omega)
      have q : rm_sh i e j = if j < i then j else j + 1 := by
        unfold rm_sh
        by_cases z : j < i
        · rw [if_pos z, if_pos z]
        · rw [if_neg z, if_neg z, if_pos hj]
      unfold rm_dy
      by_cases z : j < i
      · rw [if_pos z] at q
        rw [if_pos z, if_pos z]
        simp only [q] at this
        exact this
      · rw [if_neg z] at q
        rw [if_neg z, if_neg z]
        simp only [q] at this
        exact this
    | succ d ih =>
      intro e tg ty fd he hie hY
      have ce : (nI e).toNatClampNeg = e := nI_clamp (by omega)
      have ce1 : (nI e + 1).toNatClampNeg = e + 1 := by rw [nI_1]; exact nI_clamp (by omega)
      have w : vp_in (nI e) 12 := vp_in_nI (by omega) (by omega)
      have w1 : vp_in (nI e + 1) 12 := by rw [nI_1]; exact vp_in_nI (by omega) (by omega)
      have := ih (e + 1) (upd tg e (tg (e + 1))) (upd ty e (ty (e + 1))) (upd fd e (fd (e + 1))) (by omega) (by omega) (fun j hj => by
        by_cases z : j = e
        · have a := hY (e + 1) (by omega)
          have q1 : rm_sh i e (e + 1) = e + 1 := by
            unfold rm_sh
            rw [if_neg (by omega), if_neg (by omega)]
          have q2 : rm_sh i (e + 1) e = e + 1 := by
            unfold rm_sh
            rw [if_neg (by omega), if_pos (by omega)]
          simp only [q1] at a
          rw [z, pk_us, pk_us, pk_us]
          simp only [q2]
          exact a
        · have a := hY j hj
          have q1 : rm_sh i (e + 1) j = rm_sh i e j := by
            unfold rm_sh
            by_cases y : j < i
            · rw [if_pos y, if_pos y]
            · rw [if_neg y, if_neg y]
              by_cases x : j < e
              · rw [if_pos x, if_pos (by omega)]
              · rw [if_neg x, if_neg (by omega)]
          rw [pk_un z, pk_un z, pk_un z]
          simp only [q1]
          exact a)
      exact br_f (by rw [pr]; exact nI_ge (by omega) (by omega)) (br_f (nI_ge (b := 11) (by omega) (by omega)) ⟨w1, w, nm_r (e' := upd tg e (tg (e + 1))) (by rw [ce, ce1]) ⟨w1, w, nm_r (e' := upd ty e (ty (e + 1))) (by rw [ce, ce1]) ⟨w1, w, nm_r (e' := upd fd e (fd (e + 1))) (by rw [ce, ce1]) (nm_r (nI_1 e) this)⟩⟩⟩)
  refine ⟨n - i + 1, go (n - i) i tg ty fd (by omega) (Nat.le_refl _) (fun j hj => ?_)⟩
  have q : rm_sh i i j = j := by
    unfold rm_sh
    by_cases z : j < i
    · rw [if_pos z]
    · rw [if_neg z, if_neg z]
  simp only [q]
  exact hE j hj
theorem ym_ad {post : Int32 → SY → Prop} {y f : Nat} (hn : n ≤ 12)
    (h : n < 12 → post (nI (l + 1)) (nI (n + 1), nI (l + 1), dr, ru, fi, le, br, bl, upd tg n (nI (l + 1)), upd ty n (nI y), upd fd n (nI f), dp, dn, sz, pa, no, ac, fr, ft, ro, bo, sa, mi, be, bt, bb)) (h0 : ¬ n < 12 → post (-3) (nI n, nI l, dr, ru, fi, le, br, bl, tg, ty, fd, dp, dn, sz, pa, no, ac, fr, ft, ro, bo, sa, mi, be, bt, bb)) :
    ∀ q1 q2 : Int32, q1 = nI y → q2 = nI f → wpY_add post (nI n, nI l, dr, ru, fi, le, br, bl, tg, ty, fd, dp, dn, sz, pa, no, ac, fr, ft, ro, bo, sa, mi, be, bt, bb) q1 q2 := by
  intro q1 q2 e1 e2
  subst e1 e2
  by_cases z : n < 12
  · have w : vp_in (nI n) 12 := vp_in_nI z (by omega)
    have c : (nI n).toNatClampNeg = n := nI_clamp (by omega)
    exact br_t (nI_le (b := 11) (by omega) (by omega)) (nm_r (nI_1 l) ⟨w, nm_r (e' := upd tg n (nI (l + 1))) (by rw [c]) ⟨w, nm_r (e' := upd ty n (nI y)) (by rw [c]) ⟨w, nm_r (e' := upd fd n (nI f)) (by rw [c]) (nm_r (nI_1 n) (h z))⟩⟩⟩)
  · exact br_f (nI_ge (a := 11) (by omega) (by omega)) (h0 z)
theorem ym_83 {post : SY → Prop} {J : rm_YJ2} {i k : Nat} (hi : i < 64) (hk : k ≤ i)
    (h : ∀ ft', ft' (3 * k) = ft (3 * i) → ft' (3 * k + 1) = ft (3 * i + 1) → ft' (3 * k + 2) = ft (3 * i + 2) → (∀ j, j < 3 * k ∨ 3 * k + 3 ≤ j → ft' j = ft j) → J (nI (k + 1)) (nI (i + 1)) tg ty fd dp dn sz pa no ac fr ft' ro bo sa mi be bt bb) :
    ∃ f, wY_forget_83 post J (nI k) (nI i) cn lt dr ru fi le br bl f 0 tg ty fd dp dn sz pa no ac fr ft ro bo sa mi be bt bb := by
  have a0 : vp_in (3 * nI i + 0) 192 := by rw [rm_i0]; exact vp_in_nI (by omega) (by omega)
  have a1 : vp_in (3 * nI i + 1) 192 := by rw [rm_i1']; exact vp_in_nI (by omega) (by omega)
  have a2 : vp_in (3 * nI i + 2) 192 := by rw [rm_i2']; exact vp_in_nI (by omega) (by omega)
  have b0 : vp_in (3 * nI k + 0) 192 := by rw [rm_i0]; exact vp_in_nI (by omega) (by omega)
  have b1 : vp_in (3 * nI k + 1) 192 := by rw [rm_i1']; exact vp_in_nI (by omega) (by omega)
  have b2 : vp_in (3 * nI k + 2) 192 := by rw [rm_i2']; exact vp_in_nI (by omega) (by omega)
  have c0 : (3 * nI i + 0).toNatClampNeg = 3 * i := by rw [rm_i0]; exact nI_clamp (by omega)
  have c1 : (3 * nI i + 1).toNatClampNeg = 3 * i + 1 := by rw [rm_i1']; exact nI_clamp (by omega)
  have c2 : (3 * nI i + 2).toNatClampNeg = 3 * i + 2 := by rw [rm_i2']; exact nI_clamp (by omega)
  have d0 : (3 * nI k + 0).toNatClampNeg = 3 * k := by rw [rm_i0]; exact nI_clamp (by omega)
  have d1 : (3 * nI k + 1).toNatClampNeg = 3 * k + 1 := by rw [rm_i1']; exact nI_clamp (by omega)
  have d2 : (3 * nI k + 2).toNatClampNeg = 3 * k + 2 := by rw [rm_i2']; exact nI_clamp (by omega)
  have u1 : upd ft (3 * k) (ft (3 * i)) (3 * i + 1) = ft (3 * i + 1) := pk_un (by omega)
  have u2 : upd (upd ft (3 * k) (ft (3 * i))) (3 * k + 1) (ft (3 * i + 1)) (3 * i + 2) = ft (3 * i + 2) := by
    rw [pk_un (by omega), pk_un (by omega)]
  refine ⟨0 + 1 + 1 + 1 + 1, br_f rm_q0 ⟨a0, b0, nm_r (e' := upd ft (3 * k) (ft (3 * i))) (by rw [c0, d0]) (nm_r rm_01 (br_f rm_q1 ⟨a1, b1, nm_r (e' := upd (upd ft (3 * k) (ft (3 * i))) (3 * k + 1) (ft (3 * i + 1))) (by rw [c1, d1, u1]) (nm_r rm_12 (br_f rm_q2 ⟨a2, b2, nm_r (e' := upd (upd (upd ft (3 * k) (ft (3 * i))) (3 * k + 1) (ft (3 * i + 1))) (3 * k + 2) (ft (3 * i + 2))) (by rw [c2, d2, u2]) (nm_r rm_23 (br_t rm_q3 (nm_r (nI_1 k) (nm_r (nI_1 i) ?_))))⟩))⟩))⟩⟩
  refine h _ ?_ ?_ pk_us (fun j hj => ?_)
  · rw [pk_un (by omega), pk_un (by omega), pk_us]
  · rw [pk_un (by omega), pk_us]
  · rw [pk_un (by omega), pk_un (by omega), pk_un (by omega)]
theorem ym_23 {post : SY → Prop} {J : rm_YJ2} {x1 : Int32} {i j k t : Nat} {b : Bool} (hn : n ≤ 12) (hT : ∀ i, i < n → tg i = nI (T i)) (hb : ∀ i, i < n → T i < 1048576) (hi : i < 64) (hj : j < 3) (ht : ft (3 * i + j) = nI t) (bt1 : t < 1048576)
    (h : wY_forget_23 post J x1 (nI i) (nI n) lt dr ru fi le br bl tg ty fd dp dn sz pa no ac fr ft ro bo sa mi be bt bb k (rm_bI (b && rm_e1 T n t)) (nI (j + 1))) : wY_forget_23 post J x1 (nI i) (nI n) lt dr ru fi le br bl tg ty fd dp dn sz pa no ac fr ft ro bo sa mi be bt bb (k + 1) (rm_bI b) (nI j) := by
  have i3 := rm_3 i j
  have c3 : (3 * nI i + nI j).toNatClampNeg = 3 * i + j := by rw [i3]; exact nI_clamp (by omega)
  have w : vp_in (3 * nI i + nI j) 192 := by rw [i3]; exact vp_in_nI (by omega) (by omega)
  refine br_f (nI_ge (b := 3) hj (by omega)) ⟨w, nm_r (e' := nI t) (by rw [c3]; exact ht) ?_⟩
  by_cases t0 : t = 0
  · have e : (b && rm_e1 T n t) = b := by
      have : rm_e1 T n t = true := rm_e1_i.mpr (Or.inl t0)
      rw [this, Bool.and_true]
    rw [e] at h
    exact br_t (by rw [t0]; decide) (nm_r (nI_1 j) h)
  · refine br_f (nI_nle (by omega) (by omega)) (ym_fi hn hT (fun d hd z => ?_) (fun z => ?_))
    · have e : (b && rm_e1 T n t) = b := by
        have : rm_e1 T n t = true := rm_e1_i.mpr (Or.inr ⟨d, hd, (nI_eq (by have := hb d hd; omega) (by omega)).mp z⟩)
        rw [this, Bool.and_true]
      rw [e] at h
      exact br_t (nI_pos' (by omega)) (nm_r (nI_1 j) h)
    · have e : (b && rm_e1 T n t) = false := by
        have : rm_e1 T n t = false := by
          cases q : rm_e1 T n t
          · rfl
          · rcases rm_e1_i.mp q with y | ⟨d, hd, y⟩
            · exact absurd y t0
            · exact absurd (by rw [y]) (z d hd)
        rw [this, Bool.and_false]
      rw [e] at h
      exact br_f (by decide) (nm_r (nI_1 j) h)
theorem ym_fo {post : SY → Prop} (hn : n ≤ 12) (hT : ∀ i, i < n → tg i = nI (T i)) (hb : ∀ i, i < n → T i < 1048576) (hl : L.length ≤ 40) (hLB : rm_LB L) (hF : rm_Fl fr ft L)
    (h : ∀ fr' ft', rm_Fl fr' ft' (L.filter (rm_al T n)) → post (nI n, lt, dr, ru, nI (L.filter (rm_al T n)).length, le, br, bl, tg, ty, fd, dp, dn, sz, pa, no, ac, fr', ft', ro, bo, sa, mi, be, bt, bb)) :
    wpY_forget post (nI n, lt, dr, ru, nI L.length, le, br, bl, tg, ty, fd, dp, dn, sz, pa, no, ac, fr, ft, ro, bo, sa, mi, be, bt, bb) := by
  have go : ∀ d i fr ft, i + d = L.length → rm_Cp fr ft L (rm_al T n) i → wY_forget_4 post (nI n) lt dr ru (nI L.length) le br bl (d + 1) (nI ((L.take i).filter (rm_al T n)).length) (nI i) tg ty fd dp dn sz pa no ac fr ft ro bo sa mi be bt bb := by
    intro d
    induction d with
    | zero =>
      intro i fr ft e hc
      have e2 : i = L.length := by omega
      subst e2
      have := h fr ft (rm_Cp_e hc)
      rw [List.take_length]
      exact br_t (nI_le (Nat.le_refl _) (by omega)) this
    | succ d ih =>
      intro i fr ft e hc
      obtain ⟨x, hx⟩ := rm_get (L := L) (i := i) (by omega)
      obtain ⟨e0, e1, e2, e3⟩ := hc.2 i x (Nat.le_refl i) hx
      obtain ⟨b0, b1, b2, b3⟩ := hLB x (List.mem_of_getElem? hx)
      have wi : vp_in (nI i) 64 := vp_in_nI (by omega) (by omega)
      have ci : (nI i).toNatClampNeg = i := nI_clamp (by omega)
      have kl := rm_kl (L := L) (q := rm_al T n) (i := i)
      refine br_f (nI_ge (by omega) (by omega)) (br_f (nI_ge (b := 64) (by omega) (by omega)) ⟨0 + 1 + 1 + 1 + 1, ?_⟩)
      refine ym_23 (b := true) (j := 0) hn hT hb (by omega) (by omega) e1 b1 ?_
      refine ym_23 (j := 1) hn hT hb (by omega) (by omega) e2 b2 ?_
      refine ym_23 (j := 2) hn hT hb (by omega) (by omega) e3 b3 ?_
      have ea : (((true && rm_e1 T n x.2.1) && rm_e1 T n x.2.2.1) && rm_e1 T n x.2.2.2) = rm_al T n x := by
        unfold rm_al
        rw [Bool.true_and, Bool.and_assoc]
      rw [ea]
      refine br_t (by decide) ?_
      cases q : rm_al T n x with
      | true =>
        have wk : vp_in (nI ((L.take i).filter (rm_al T n)).length) 64 := vp_in_nI (by omega) (by omega)
        have ck : (nI ((L.take i).filter (rm_al T n)).length).toNatClampNeg = ((L.take i).filter (rm_al T n)).length := nI_clamp (by omega)
        refine br_f (by decide) ⟨wi, wk, nm_r (e' := upd fr ((L.take i).filter (rm_al T n)).length (fr i)) (by rw [ci, ck]) (ym_83 (by omega) kl (fun ft' h1 h2 h3 h5 => ?_))⟩
        obtain ⟨c1, c2⟩ := rm_Cp_k (fr' := upd fr ((L.take i).filter (rm_al T n)).length (fr i)) hc hx q rfl pk_us h1 h2 h3 (fun j hj => pk_un hj) h5
        have := ih (i + 1) _ ft' (by omega) c1
        rw [c2] at this
        exact this
      | false =>
        obtain ⟨c1, c2⟩ := rm_Cp_d hc hx q
        have := ih (i + 1) fr ft (by omega) c1
        rw [c2] at this
        exact br_t rfl (nm_r (nI_1 i) this)
  have := go L.length 0 fr ft (by omega) (rm_Cp_0 hF)
  exact ⟨L.length + 1, this⟩
theorem ym_md {post : Int32 → Prop} {A : Nat → Int32} {e : Nat} (he : e < 20) (hv : rm_ag bb A) (hV : rm_va A) (h : post (nI (rm_fv A e))) : wpY_made post (cn, lt, dr, ru, fi, le, br, bl, tg, ty, fd, dp, dn, sz, pa, no, ac, fr, ft, ro, bo, sa, mi, be, bt, bb) (nI e) := by
  unfold rm_fv at h
  by_cases a1 : e < 16
  · rw [if_pos a1] at h
    exact br_f (nI_ge (b := 16) a1 (by omega)) h
  · rw [if_neg a1] at h
    refine br_t (nI_le (a := 16) (by omega) (by omega)) ?_
    by_cases a2 : e = 16
    · rw [if_pos a2] at h
      exact br_t (by rw [a2]; rfl) h
    · rw [if_neg a2] at h
      obtain ⟨v, rfl⟩ : ∃ v, e = 17 + v := ⟨e - 17, by omega⟩
      rw [Nat.add_sub_cancel_left] at h
      have hv3 : v < 3 := by omega
      have e17 := ym_17 (v := v)
      have w : vp_in (nI (17 + v) - 17) 3 := by rw [e17]; exact vp_in_nI hv3 (by omega)
      have cv : bb (nI (17 + v) - 17).toNatClampNeg = A v := by rw [e17, nI_clamp (by omega)]; exact hv v hv3
      refine br_f (fun z => a2 ((nI_eq (a := 17 + v) (b := 16) (by omega) (by omega)).mp z)) ⟨w, ?_⟩
      rcases hV v with y | ⟨f, hf, y⟩
      · rw [if_pos y] at h
        exact br_f (by rw [cv, y]; decide) h
      · rw [if_neg (by rw [y]; exact rm_nm1 (by omega)), y, nI_clamp (by omega)] at h
        exact br_t (by rw [cv, y]; exact nI_pos' (by omega)) ⟨w, by rw [cv, y]; exact h⟩
end YD
end
section
def rm_Y (n l m : Nat) (T C Z Q : Nat → Nat) (P : Nat → Nat → Nat) (N : Nat → Nat → Bool) (L : List rm_Fi) (v : SY) : Prop :=
  match v with
  | (cn, lt, dr, ru, fi, le, br, bl, tg, ty, fd, dp, dn, sz, pa, no, ac, fr, ft, ro, bo, sa, mi, be, bt, bb) => cn = nI n ∧ lt = nI l ∧ dr = nI (Z m) ∧ ru = nI m ∧ fi = nI L.length ∧ rm_YE n T C tg ty fd ∧ rm_YR m Z Q P N dp dn sz pa no ac ∧ rm_Fl fr ft L
section YE
variable {n m l : Nat} {T C Z Q g : Nat → Nat} {P : Nat → Nat → Nat} {N : Nat → Nat → Bool} {L : List rm_Fi}
variable {cn lt dr ru fi le br bl : Int32} {tg ty fd dp dn sz pa no ac fr ft ro bo sa mi be bt bb : Nat → Int32}
theorem ym_act {post : Int32 → SY → Prop} {r a k0 : Nat} {A : Nat → Int32} (hn : n ≤ 12) (hl : l < 1048576) (hPE : rm_PE n l T C) (hE : rm_YE n T C tg ty fd) (hr5 : r < 5) (hac : ac r = nI a) (ha : a < 32004) (hbt : ∀ j, j < 3 → bt j = nI (g j)) (hv : rm_ag bb A) (hV : rm_va A)
    (hex : 0 < a → a < 4 → ∃ i, i < n ∧ g (a - 1) = T i) (h0 : a = 0 → post (nI r) (nI n, nI l, nI (Z m), nI m, nI (k0 + 1), le, nI r, bl, tg, ty, fd, dp, dn, sz, pa, no, ac, fr, ft, ro, bo, sa, mi, be, bt, bb))
    (hr : ∀ n' i, n = n' + 1 → i < n' + 1 → 0 < a → a < 4 → g (a - 1) = T i → ∀ tg' ty' fd', rm_YE n' (rm_dy T i) (rm_dy C i) tg' ty' fd' → post (nI r) (nI n', nI l, nI (Z m), nI m, nI (k0 + 1), le, nI r, bl, tg', ty', fd', dp, dn, sz, pa, no, ac, fr, ft, ro, bo, sa, mi, be, bt, bb))
    (hm : 4 ≤ a → n < 12 → post (nI r) (nI (n + 1), nI (l + 1), nI (Z m), nI m, nI (k0 + 1), le, nI r, bl, upd tg n (nI (l + 1)), upd ty n (nI ((a - 4) / 8000)), upd fd n (nI (rm_ff A (a - 4))), dp, dn, sz, pa, no, ac, fr, ft, ro, bo, sa, mi, be, bt, bb))
    (hm0 : 4 ≤ a → ¬ n < 12 → post (nI r) (nI n, nI l, nI (Z m), nI m, nI (k0 + 1), le, nI r, bl, tg, ty, fd, dp, dn, sz, pa, no, ac, fr, ft, ro, bo, sa, mi, be, bt, bb)) :
    wY_shoot_44 post (nI k0) (nI n) (nI l) (nI (Z m)) (nI m) fi le (nI r) bl (0 + 1) 3 tg ty fd dp dn sz pa no ac fr ft ro bo sa mi be bt bb := by
  refine br_t rm_q3 (nm_r (nI_1 k0) ⟨vp_in_nI hr5 (by omega), nm_r (e' := nI a) (by rw [nI_clamp (by omega)]; exact hac) ?_⟩)
  by_cases a4 : a < 4
  · refine br_t (nI_le (b := 3) (by omega) (by omega)) ?_
    by_cases a0 : a = 0
    · exact br_t (by rw [a0]; decide) (h0 a0)
    · obtain ⟨i, hi, gi⟩ := hex (by omega) a4
      clear hex
      obtain ⟨n', rfl⟩ : ∃ n', n = n' + 1 := ⟨n - 1, by omega⟩
      have e1 : nI a - 1 = nI (a - 1) := pk_sub (a := a) (b := 1) (by omega)
      have w : vp_in (nI a - 1) 3 := by rw [e1]; exact vp_in_nI (by omega) (by omega)
      have cb : bt (nI a - 1).toNatClampNeg = nI (T i) := by rw [e1, nI_clamp (by omega), hbt (a - 1) (by omega), gi]
      have ti := hPE.2 i hi
      refine br_f (nI_nle (by omega) (by omega)) ⟨w, ?_⟩
      refine ym_fi hn (fun j hj => (hE j hj).1) (fun j hj z => ?_) (fun z => absurd cb.symm (z i hi))
      have tj := hPE.2 j hj
      have e : j = i := hPE.1 j i hj hi ((nI_eq (by omega) (by omega)).mp (z.trans cb))
      subst e
      refine br_f (nI_pos (by omega)) ?_
      refine ym_dr hn hj hE (fun tg' ty' fd' hE' => ?_)
      exact hr n' j rfl hi (by omega) a4 gi tg' ty' fd' hE'
  · have e4 : nI a - 4 = nI (a - 4) := pk_sub (a := a) (b := 4) (by omega)
    refine br_f (nI_ge (a := 3) (by omega) (by omega)) (nm_r e4 ?_)
    have hp : a - 4 < 32000 := by omega
    refine ym_e0 hp ?_
    refine ym_e1 hp ?_
    refine ym_e2 hp ?_
    refine ym_md (A := A) (Nat.mod_lt _ (by omega)) hv hV ?_
    refine ym_md (A := A) (Nat.mod_lt _ (by omega)) hv hV ?_
    refine ym_md (A := A) (Nat.mod_lt _ (by omega)) hv hV ?_
    have e7 : 256 * nI (rm_fv A ((a - 4) / 400 % 20)) + 16 * nI (rm_fv A ((a - 4) / 20 % 20)) + nI (rm_fv A ((a - 4) % 20)) = nI (rm_ff A (a - 4)) := by
      have q1 : (256 : Int32) = nI 256 := rfl
      have q2 : (16 : Int32) = nI 16 := rfl
      rw [q1, q2, pk_mul, pk_mul, nI_add, nI_add]
      rfl
    refine nm_r e7 ⟨by decide, ?_⟩
    refine ym_ad (y := (a - 4) / 8000) (f := rm_ff A (a - 4)) hn (fun z => hm (by omega) z) (fun z => hm0 (by omega) z) _ _ ?_ rfl
    exact rm_d8 hp
end YE
theorem ym_shoot {n m l : Nat} {T C Z Q : Nat → Nat} {P : Nat → Nat → Nat} {N : Nat → Nat → Bool} {L L' : List rm_Fi} {v : SY} {post : Int32 → SY → Prop}
    (hY : rm_Y n l m T C Z Q P N L v) (hn : n ≤ 12) (hl : l < 1048576) (hPE : rm_PE n l T C) (hPU : rm_PU m Z Q P N) (hL : L.length ≤ 40) (hLB : rm_LB L) (hL' : L.filter (rm_al T n) = L')
    (hN : rm_fr (rm_om T C n P N Z L) (fun r => 12 ^ rm_pc (N r) (Z r)) m = none → ∀ v', rm_Y n l m T C Z Q P N L v' → post (-1) v')
    (hF : ∀ x, rm_fr (rm_om T C n P N Z L) (fun r => 12 ^ rm_pc (N r) (Z r)) m = some x → ¬ L'.length < 40 → ∀ v', rm_Y n l m T C Z Q P N L' v' → post (-2) v')
    (h0 : ∀ x, rm_fr (rm_om T C n P N Z L) (fun r => 12 ^ rm_pc (N r) (Z r)) m = some x → L'.length < 40 → Q x.1 = 0 → ∀ v', rm_Y n l m T C Z Q P N (L' ++ [(x.1, x.2.1 0, x.2.1 1, x.2.1 2)]) v' → post (nI x.1) v')
    (hR : ∀ x, rm_fr (rm_om T C n P N Z L) (fun r => 12 ^ rm_pc (N r) (Z r)) m = some x → L'.length < 40 → ∀ n' i, n = n' + 1 → i < n' + 1 → 0 < Q x.1 → Q x.1 < 4 → x.2.1 (Q x.1 - 1) = T i → ∀ v', rm_Y n' l m (rm_dy T i) (rm_dy C i) Z Q P N (L' ++ [(x.1, x.2.1 0, x.2.1 1, x.2.1 2)]) v' → post (nI x.1) v')
    (hM : ∀ x, rm_fr (rm_om T C n P N Z L) (fun r => 12 ^ rm_pc (N r) (Z r)) m = some x → L'.length < 40 → 4 ≤ Q x.1 → n < 12 → ∀ v', rm_Y (n + 1) (l + 1) m (rm_w T n (l + 1)) (rm_w C n (4096 * ((Q x.1 - 4) / 8000) + rm_ff x.2.2 (Q x.1 - 4))) Z Q P N (L' ++ [(x.1, x.2.1 0, x.2.1 1, x.2.1 2)]) v' → post (nI x.1) v')
    (hM0 : ∀ x, rm_fr (rm_om T C n P N Z L) (fun r => 12 ^ rm_pc (N r) (Z r)) m = some x → L'.length < 40 → 4 ≤ Q x.1 → ¬ n < 12 → ∀ v', rm_Y n l m T C Z Q P N (L' ++ [(x.1, x.2.1 0, x.2.1 1, x.2.1 2)]) v' → post (nI x.1) v') :
    wpY_shoot post v := by
  obtain ⟨cn, lt, dr, ru, fi, le, br, bl, tg, ty, fd, dp, dn, sz, pa, no, ac, fr, ft, ro, bo, sa, mi, be, bt, bb⟩ := v
  obtain ⟨rfl, rfl, rfl, rfl, rfl, hE, hYR, hFl⟩ := hY
  have H : rm_YH n m l T C Z Q P N L tg ty fd dp dn sz pa no ac fr ft := ⟨hn, hl, hPE, hPU, hL, hLB, hE, hYR, hFl⟩
  have tb : ∀ i, i < n → T i < 1048576 := fun i hi => by
    have := hPE.2 i hi
    omega
  unfold wpY_shoot
  refine ym_lo H (fun le ro bo sa mi br bl be bt bb hb => ?_)
  cases hq : rm_fr (rm_om T C n P N Z L) (fun r => 12 ^ rm_pc (N r) (Z r)) m with
  | none =>
    rw [hq] at hb
    have hb2 : br = -1 := hb
    subst hb2
    exact br_f (by decide) (hN hq _ ⟨rfl, rfl, rfl, rfl, rfl, hE, hYR, hFl⟩)
  | some x =>
    rw [hq] at hb
    obtain ⟨b1, b2, b3, b4, b5, b6, b7, b8, b9⟩ := hb
    subst b1
    obtain ⟨k1, k2, k3, k4, k5⟩ := rm_fr_ok hPE hl hq
    have hm := hPU.1
    obtain ⟨z1, z2, z3⟩ := hPU.2.2 x.1 b2
    obtain ⟨p1, p3⟩ := rm_pc_1 hPU b2
    refine br_t (nI_pos' (by omega)) ?_
    refine ym_fo hn (fun i hi => (hE i hi).1) tb hL hLB hFl (fun fr' ft' hFl' => ?_)
    rw [hL'] at hFl'
    rw [hL']
    have L40 : L'.length ≤ 40 := by
      rw [← hL']
      exact Nat.le_trans (List.length_filter_le _ _) hL
    by_cases l40 : L'.length < 40
    · have g0 := b4 0 (by omega)
      have g1 := b4 1 (by omega)
      have g2 := b4 2 (by omega)
      have w : vp_in (nI L'.length) 64 := vp_in_nI (by omega) (by omega)
      have c : (nI L'.length).toNatClampNeg = L'.length := nI_clamp (by omega)
      have w0 : vp_in (3 * nI L'.length + 0) 192 := by rw [rm_i0]; exact vp_in_nI (by omega) (by omega)
      have w1 : vp_in (3 * nI L'.length + 1) 192 := by rw [rm_i1']; exact vp_in_nI (by omega) (by omega)
      have w2 : vp_in (3 * nI L'.length + 2) 192 := by rw [rm_i2']; exact vp_in_nI (by omega) (by omega)
      have d0 : (3 * nI L'.length + 0).toNatClampNeg = 3 * L'.length := by rw [rm_i0]; exact nI_clamp (by omega)
      have d1 : (3 * nI L'.length + 1).toNatClampNeg = 3 * L'.length + 1 := by rw [rm_i1']; exact nI_clamp (by omega)
      have d2 : (3 * nI L'.length + 2).toNatClampNeg = 3 * L'.length + 2 := by rw [rm_i2']; exact nI_clamp (by omega)
      have el : (L' ++ [(x.1, x.2.1 0, x.2.1 1, x.2.1 2)]).length = L'.length + 1 := List.length_append
      have el2 : nI (L'.length + 1) = nI (L' ++ [(x.1, x.2.1 0, x.2.1 1, x.2.1 2)]).length := by rw [el]
      refine br_t (nI_le (b := 39) (by omega) (by omega)) ⟨w, nm_r (e' := upd fr' L'.length (nI x.1)) (by rw [c]) ⟨0 + 1 + 1 + 1 + 1, br_f rm_q0 ⟨rm_v0, w0, nm_r (e' := upd ft' (3 * L'.length) (nI (x.2.1 0))) (by rw [d0, rm_c0, g0]) (nm_r rm_01 (br_f rm_q1 ⟨rm_v1, w1, nm_r (e' := upd (upd ft' (3 * L'.length) (nI (x.2.1 0))) (3 * L'.length + 1) (nI (x.2.1 1))) (by rw [d1, rm_c1, g1]) (nm_r rm_12 (br_f rm_q2 ⟨rm_v2, w2, nm_r (e' := upd (upd (upd ft' (3 * L'.length) (nI (x.2.1 0))) (3 * L'.length + 1) (nI (x.2.1 1))) (3 * L'.length + 2) (nI (x.2.1 2))) (by rw [d2, rm_c2, g2]) (nm_r rm_23 ?_)⟩))⟩))⟩⟩⟩
      have F2 : rm_Fl (upd fr' L'.length (nI x.1)) (upd (upd (upd ft' (3 * L'.length) (nI (x.2.1 0))) (3 * L'.length + 1) (nI (x.2.1 1))) (3 * L'.length + 2) (nI (x.2.1 2))) (L' ++ [(x.1, x.2.1 0, x.2.1 1, x.2.1 2)]) := by
        refine rm_Fl_app hFl' (fun j hj => pk_un (by omega)) (fun j hj => ?_) ⟨pk_us, ?_, ?_, pk_us⟩
        · rw [pk_un (by omega), pk_un (by omega), pk_un (by omega)]
        · rw [pk_un (by omega), pk_un (by omega), pk_us]
        · rw [pk_un (by omega), pk_us]
      generalize upd fr' L'.length (nI x.1) = fr2 at F2
      generalize upd (upd (upd ft' (3 * L'.length) (nI (x.2.1 0))) (3 * L'.length + 1) (nI (x.2.1 1))) (3 * L'.length + 2) (nI (x.2.1 2)) = ft2 at F2
      refine ym_act (a := Q x.1) (g := x.2.1) (A := x.2.2) (Z := Z) (m := m) hn hl hPE hE (by omega) (hYR.2 x.1 b2).2.1 z2 b4 b8 k2 (fun y1 y2 => ?_) (fun y => ?_) (fun n' i e hi y1 y2 y3 tg' ty' fd' hE' => ?_) (fun y1 y2 => ?_) (fun y1 y2 => ?_)
      · exact k4 (Q x.1 - 1) (by have := z3 y2; omega)
      · exact h0 x hq l40 y _ ⟨rfl, rfl, rfl, rfl, el2, hE, hYR, F2⟩
      · exact hR x hq l40 n' i e hi y1 y2 y3 _ ⟨rfl, rfl, rfl, rfl, el2, hE', hYR, F2⟩
      · exact hM x hq l40 y1 y2 _ ⟨rfl, rfl, rfl, rfl, el2, rm_YE_mk (rm_ff_b k2 _) hE, hYR, F2⟩
      · exact hM0 x hq l40 y1 y2 _ ⟨rfl, rfl, rfl, rfl, el2, hE, hYR, F2⟩
    · exact br_f (nI_ge (a := 39) (by omega) (by omega)) (hF x hq l40 _ ⟨rfl, rfl, rfl, rfl, rfl, hE, hYR, hFl'⟩)
end
section
/-- the relation of the two states: both hold the same rules and elements, and fired matches alike -/
def rm_Rel (b : Nat) (u : SX) (v : SY) : Prop :=
  ∃ (n l m : Nat) (T C U B Z Q : Nat → Nat) (P : Nat → Nat → Nat) (N : Nat → Nat → Bool) (LX LY : List rm_Fi), rm_X n l m T C Z Q P N LX u ∧ rm_Y n l m U B Z Q P N LY v ∧ rm_PP b n l T C U B LX LY ∧ rm_PU m Z Q P N
theorem rm_mk {b b' n l m : Nat} {T C U B Z Q : Nat → Nat} {P : Nat → Nat → Nat} {N : Nat → Nat → Bool} {LX LY : List rm_Fi} {u : SX} {v : SY} (hX : rm_X n l m T C Z Q P N LX u) (hY : rm_Y n l m U B Z Q P N LY v) (hP : rm_PP b n l T C U B LX LY) (hb : b ≤ b') (hU : rm_PU m Z Q P N) : rm_Rel b' u v :=
  ⟨n, l, m, T, C, U, B, Z, Q, P, N, LX, LY, hX, hY, rm_PP_up hP hb, hU⟩
theorem rm_fire2 {b n l m : Nat} {T C U B Z Q : Nat → Nat} {P : Nat → Nat → Nat} {N : Nat → Nat → Bool} {LX LY : List rm_Fi} (hP : rm_PP b n l T C U B LX LY) (hU : rm_PU m Z Q P N) (hb : b < 1048576) :
    ∃ (r : Int32) (n' l' : Nat) (T' C' U' B' : Nat → Nat) (LX' LY' : List rm_Fi), rm_PP (b + 1) n' l' T' C' U' B' LX' LY' ∧
      (∀ u post, rm_X n l m T C Z Q P N LX u → (∀ u', rm_X n' l' m T' C' Z Q P N LX' u' → post r u') → wpX_fire post u) ∧
      (∀ v post, rm_Y n l m U B Z Q P N LY v → (∀ v', rm_Y n' l' m U' B' Z Q P N LY' v' → post r v') → wpY_shoot post v) := by
  have hl : l < 1048576 := by have := hP.1; omega
  have hLX := rm_PP_len hP
  have hmem := rm_PP_mem hP
  obtain ⟨lbX, lbY⟩ := rm_PP_lb hP hl
  obtain ⟨hP2, hfil⟩ := rm_PP_fg hP
  have hP' := hP
  obtain ⟨h1, h2, h3, h4, h5, h6, h7, h8, h9, h10⟩ := hP'
  have hm := hU.1
  have heq := rm_fr_eq (P := P) (N := N) (sz := Z) (L := LX) (L' := LY) (m := m) hm (fun r hr => (hU.2.1 r (by omega)).1) (fun i hi => by have := h3.2 i hi; omega) h2 h3.1 h4.1 h5 h6 hmem
  cases hq : rm_fr (rm_om T C n P N Z LX) (fun r => 12 ^ rm_pc (N r) (Z r)) m with
  | none =>
    have hq2 := heq.symm.trans hq
    refine ⟨-1, n, l, T, C, U, B, LX, LY, rm_PP_up hP (by omega), fun u post hX h => ?_, fun v post hY h => ?_⟩
    · exact xm_fire hX h2 hl h3 hU hLX lbX (fun _ => h) (fun x hx => by rw [hq] at hx; cases hx) (fun x hx => by rw [hq] at hx; cases hx) (fun x hx => by rw [hq] at hx; cases hx) (fun x hx => by rw [hq] at hx; cases hx) (fun x hx => by rw [hq] at hx; cases hx)
    · exact ym_shoot hY h2 hl h4 hU h8 lbY rfl (fun _ => h) (fun x hx => by rw [hq2] at hx; cases hx) (fun x hx => by rw [hq2] at hx; cases hx) (fun x hx => by rw [hq2] at hx; cases hx) (fun x hx => by rw [hq2] at hx; cases hx) (fun x hx => by rw [hq2] at hx; cases hx)
  | some x =>
    have hq2 := heq.symm.trans hq
    obtain ⟨k1, k2, k3, k4, k5⟩ := rm_fr_ok h3 hl hq
    obtain ⟨z1, z2, z3⟩ := hU.2.2 x.1 k1
    have ux : ∀ y, rm_fr (rm_om T C n P N Z LX) (fun r => 12 ^ rm_pc (N r) (Z r)) m = some y → y = x := by
      intro y hy
      rw [hq] at hy
      exact (Option.some.inj hy).symm
    have uy : ∀ y, rm_fr (rm_om U B n P N Z LY) (fun r => 12 ^ rm_pc (N r) (Z r)) m = some y → y = x := by
      intro y hy
      rw [hq2] at hy
      exact (Option.some.inj hy).symm
    have nX : rm_fr (rm_om T C n P N Z LX) (fun r => 12 ^ rm_pc (N r) (Z r)) m = none → False := by
      intro z
      rw [hq] at z
      cases z
    have nY : rm_fr (rm_om U B n P N Z LY) (fun r => 12 ^ rm_pc (N r) (Z r)) m = none → False := by
      intro z
      rw [hq2] at z
      cases z
    by_cases l40 : LX.length < 40
    · have hP3 := rm_PP_app hP2 l40 k5 (by show x.1 < 8; omega)
      by_cases a0 : Q x.1 = 0
      · refine ⟨nI x.1, n, l, T, C, U, B, _, _, rm_PP_up hP3 (by omega), fun u post hX h => ?_, fun v post hY h => ?_⟩
        · refine xm_fire hX h2 hl h3 hU hLX lbX (fun z => (nX z).elim) (fun y hy z => absurd l40 z) (fun y hy _ _ => ?_) (fun y hy _ n' i _ _ z => ?_) (fun y hy _ z => ?_) (fun y hy _ z => ?_)
          · rw [ux y hy]; exact h
          · rw [ux y hy, a0] at z; exact absurd z (by omega)
          · rw [ux y hy, a0] at z; exact absurd z (by omega)
          · rw [ux y hy, a0] at z; exact absurd z (by omega)
        · refine ym_shoot hY h2 hl h4 hU h8 lbY hfil (fun z => (nY z).elim) (fun y hy z => absurd l40 z) (fun y hy _ _ => ?_) (fun y hy _ n' i _ _ z => ?_) (fun y hy _ z => ?_) (fun y hy _ z => ?_)
          · rw [uy y hy]; exact h
          · rw [uy y hy, a0] at z; exact absurd z (by omega)
          · rw [uy y hy, a0] at z; exact absurd z (by omega)
          · rw [uy y hy, a0] at z; exact absurd z (by omega)
      · by_cases a4 : Q x.1 < 4
        · obtain ⟨i, hi, gi⟩ := k4 (Q x.1 - 1) (by have := z3 a4; omega)
          obtain ⟨j, hj, uj, _⟩ := h5 i hi
          obtain ⟨n', rfl⟩ : ∃ n', n = n' + 1 := ⟨n - 1, by omega⟩
          refine ⟨nI x.1, n', l, _, _, _, _, _, _, rm_PP_up (rm_PP_dr hP3 hi hj uj.symm) (by omega), fun u post hX h => ?_, fun v post hY h => ?_⟩
          · refine xm_fire hX h2 hl h3 hU hLX lbX (fun z => (nX z).elim) (fun y hy z => absurd l40 z) (fun y hy _ z => ?_) (fun y hy _ n2 i2 e2 hi2 _ _ z => ?_) (fun y hy _ z => ?_) (fun y hy _ z => ?_)
            · rw [ux y hy] at z; exact absurd z a0
            · obtain rfl : n' = n2 := by omega
              rw [ux y hy] at z
              obtain rfl : i2 = i := h3.1 i2 i hi2 hi (z.symm.trans gi)
              rw [ux y hy]; exact h
            · rw [ux y hy] at z; exact absurd z (by omega)
            · rw [ux y hy] at z; exact absurd z (by omega)
          · refine ym_shoot hY h2 hl h4 hU h8 lbY hfil (fun z => (nY z).elim) (fun y hy z => absurd l40 z) (fun y hy _ z => ?_) (fun y hy _ n2 i2 e2 hi2 _ _ z => ?_) (fun y hy _ z => ?_) (fun y hy _ z => ?_)
            · rw [uy y hy] at z; exact absurd z a0
            · obtain rfl : n' = n2 := by omega
              rw [uy y hy] at z
              obtain rfl : i2 = j := h4.1 i2 j hi2 hj (z.symm.trans (gi.trans uj.symm))
              rw [uy y hy]; exact h
            · rw [uy y hy] at z; exact absurd z (by omega)
            · rw [uy y hy] at z; exact absurd z (by omega)
        · by_cases n12 : n < 12
          · have hc : 4096 * ((Q x.1 - 4) / 8000) + rm_ff x.2.2 (Q x.1 - 4) < 16384 := by
              have := rm_ff_b k2 (Q x.1 - 4)
              omega
            refine ⟨nI x.1, n + 1, l + 1, _, _, _, _, _, _, rm_PP_mk hP3 n12 hc, fun u post hX h => ?_, fun v post hY h => ?_⟩
            · refine xm_fire hX h2 hl h3 hU hLX lbX (fun z => (nX z).elim) (fun y hy z => absurd l40 z) (fun y hy _ z => ?_) (fun y hy _ n2 i2 e2 hi2 _ z => ?_) (fun y hy _ _ _ => ?_) (fun y hy _ _ z => absurd n12 z)
              · rw [ux y hy] at z; exact absurd z a0
              · rw [ux y hy] at z; exact absurd z a4
              · rw [ux y hy]; exact h
            · refine ym_shoot hY h2 hl h4 hU h8 lbY hfil (fun z => (nY z).elim) (fun y hy z => absurd l40 z) (fun y hy _ z => ?_) (fun y hy _ n2 i2 e2 hi2 _ z => ?_) (fun y hy _ _ _ => ?_) (fun y hy _ _ z => absurd n12 z)
              · rw [uy y hy] at z; exact absurd z a0
              · rw [uy y hy] at z; exact absurd z a4
              · rw [uy y hy]; exact h
          · refine ⟨nI x.1, n, l, T, C, U, B, _, _, rm_PP_up hP3 (by omega), fun u post hX h => ?_, fun v post hY h => ?_⟩
            · refine xm_fire hX h2 hl h3 hU hLX lbX (fun z => (nX z).elim) (fun y hy z => absurd l40 z) (fun y hy _ z => ?_) (fun y hy _ n2 i2 e2 hi2 _ z => ?_) (fun y hy _ _ z => absurd z n12) (fun y hy _ _ _ => ?_)
              · rw [ux y hy] at z; exact absurd z a0
              · rw [ux y hy] at z; exact absurd z a4
              · rw [ux y hy]; exact h
            · refine ym_shoot hY h2 hl h4 hU h8 lbY hfil (fun z => (nY z).elim) (fun y hy z => absurd l40 z) (fun y hy _ z => ?_) (fun y hy _ n2 i2 e2 hi2 _ z => ?_) (fun y hy _ _ z => absurd z n12) (fun y hy _ _ _ => ?_)
              · rw [uy y hy] at z; exact absurd z a0
              · rw [uy y hy] at z; exact absurd z a4
              · rw [uy y hy]; exact h
    · refine ⟨-2, n, l, T, C, U, B, LX, LX, rm_PP_up hP2 (by omega), fun u post hX h => ?_, fun v post hY h => ?_⟩
      · exact xm_fire hX h2 hl h3 hU hLX lbX (fun z => (nX z).elim) (fun y hy _ => h) (fun y hy z => absurd z l40) (fun y hy z => absurd z l40) (fun y hy z => absurd z l40) (fun y hy z => absurd z l40)
      · exact ym_shoot hY h2 hl h4 hU h8 lbY hfil (fun z => (nY z).elim) (fun y hy _ => h) (fun y hy z => absurd z l40) (fun y hy z => absurd z l40) (fun y hy z => absurd z l40) (fun y hy z => absurd z l40)
/-- the reference's run from its i-th firing on -/
def rm_rY (post : Int32 → SY → Prop) (c i : Nat) (v : SY) : Prop :=
  match v with
  | (cn, lt, dr, ru, fi, le, br, bl, tg, ty, fd, dp, dn, sz, pa, no, ac, fr, ft, ro, bo, sa, mi, be, bt, bb) => ∀ f, c < f + i → wY_run_20 post (nI c) f (nI i) 1 (nI i) cn lt dr ru fi le br bl tg ty fd dp dn sz pa no ac fr ft ro bo sa mi be bt bb
theorem rm_run {b c m : Nat} {Z Q : Nat → Nat} {P : Nat → Nat → Nat} {N : Nat → Nat → Bool} {v : SY} {v1 : Int32} (hc : c ≤ 30) (hb : b + 30 < 1048576) (hU : rm_PU m Z Q P N) :
    ∀ d i n l T C U B LX LY, i + d = c → rm_PP (b + i) n l T C U B LX LY → (∀ post, (∀ v', rm_Y n l m U B Z Q P N LY v' → rm_rY post c i v') → wpY_run post v v1) →
    ∀ (lt ec rc fc br : Int32) (tg ct ao cc pc pa na fr ft rt rf va ex bt bf bv : Nat → Int32), rm_X n l m T C Z Q P N LX (lt, ec, rc, fc, br, tg, ct, ao, cc, pc, pa, na, fr, ft, rt, rf, va, ex, bt, bf, bv) → wX_run_15 (fun r u' => wpY_run (fun r' v' => r' = r ∧ rm_Rel (b + 30) u' v') v v1) (nI c) (d + 1) (nI i) lt ec rc fc br tg ct ao cc pc pa na fr ft rt rf va ex bt bf bv := by
  intro d
  induction d with
  | zero =>
    intro i n l T C U B LX LY e hP HY lt ec rc fc br tg ct ao cc pc pa na fr ft rt rf va ex bt bf bv hX
    have e2 : i = c := by omega
    subst e2
    refine br_t (nI_le (Nat.le_refl _) (by omega)) (HY _ (fun v' hv' => ?_))
    obtain ⟨cn, lt2, dr, ru, fi, le, br2, bl, tg2, ty, fd, dp, dn, sz, pa2, no, ac, fr2, ft2, ro, bo, sa, mi, be, bt2, bb⟩ := v'
    intro f hf
    obtain ⟨f, rfl⟩ : ∃ f', f = f' + 1 := ⟨f - 1, by omega⟩
    exact br_t (nI_le (Nat.le_refl _) (by omega)) ⟨rfl, rm_mk hX hv' hP (by omega) hU⟩
  | succ d ih =>
    intro i n l T C U B LX LY e hP HY lt ec rc fc br tg ct ao cc pc pa na fr ft rt rf va ex bt bf bv hX
    obtain ⟨r, n', l', T', C', U', B', LX', LY', hP2, hXf, hYf⟩ := rm_fire2 (m := m) (Z := Z) (Q := Q) (P := P) (N := N) hP hU (by omega)
    refine br_f (nI_ge (by omega) (by omega)) (hXf _ _ hX (fun u' hu' => ?_))
    obtain ⟨lt3, ec3, rc3, fc3, br3, tg3, ct3, ao3, cc3, pc3, pa3, na3, fr3, ft3, rt3, rf3, va3, ex3, bt3, bf3, bv3⟩ := u'
    by_cases r0 : 0 ≤ r
    · refine br_t r0 (nm_r (nI_1 i) (ih (i + 1) n' l' T' C' U' B' LX' LY' (by omega) hP2 (fun post hpost => HY post (fun v' hv' => ?_)) _ _ _ _ _ _ _ _ _ _ _ _ _ _ _ _ _ _ _ _ _ hu'))
      obtain ⟨cn, lt2, dr, ru, fi, le, br2, bl, tg2, ty, fd, dp, dn, sz, pa2, no, ac, fr2, ft2, ro, bo, sa, mi, be, bt2, bb⟩ := v'
      intro f hf
      obtain ⟨f, rfl⟩ : ∃ f', f = f' + 1 := ⟨f - 1, by omega⟩
      refine br_f (nI_ge (by omega) (by omega)) (br_f (by decide) (hYf _ _ hv' (fun v2 hv2 => ?_)))
      have hp := hpost v2 hv2
      obtain ⟨cn, lt4, dr, ru, fi, le, br4, bl, tg4, ty, fd, dp, dn, sz, pa4, no, ac, fr4, ft4, ro, bo, sa, mi, be, bt4, bb⟩ := v2
      exact br_f (Int32.not_lt.mpr r0) (br_f (by decide) (nm_r (nI_1 i) (nm_r (nI_1 i) (hp f (by omega)))))
    · refine br_f r0 (HY _ (fun v' hv' => ?_))
      obtain ⟨cn, lt2, dr, ru, fi, le, br2, bl, tg2, ty, fd, dp, dn, sz, pa2, no, ac, fr2, ft2, ro, bo, sa, mi, be, bt2, bb⟩ := v'
      intro f hf
      obtain ⟨f, rfl⟩ : ∃ f', f = f' + 1 + 1 := ⟨f - 2, by omega⟩
      refine br_f (nI_ge (by omega) (by omega)) (br_f (by decide) (hYf _ _ hv' (fun v2 hv2 => ?_)))
      obtain ⟨cn, lt4, dr, ru, fi, le, br4, bl, tg4, ty, fd, dp, dn, sz, pa4, no, ac, fr4, ft4, ro, bo, sa, mi, be, bt4, bb⟩ := v2
      refine br_t (Int32.not_le.mp r0) (br_t rfl (nm_r (nI_1 i) ?_))
      have R := rm_mk hu' hv2 hP2 (show b + i + 1 ≤ b + 30 by omega) hU
      exact br_c (fun _ => ⟨rfl, R⟩) (fun _ => br_t rfl ⟨rfl, R⟩)
end
section
def rm_P2 (P : Nat → Nat → Nat) (m z p : Nat) : Nat → Nat → Nat := fun r i => if r = m ∧ i = z then p else P r i
def rm_N2 (N : Nat → Nat → Bool) (m z : Nat) (g : Bool) : Nat → Nat → Bool := fun r i => if r = m ∧ i = z then g else N r i
theorem rm_P2_s {P : Nat → Nat → Nat} {m z p : Nat} : rm_P2 P m z p m z = p := if_pos ⟨rfl, rfl⟩
theorem rm_N2_s {N : Nat → Nat → Bool} {m z : Nat} {g : Bool} : rm_N2 N m z g m z = g := if_pos ⟨rfl, rfl⟩
theorem rm_P2_n {P : Nat → Nat → Nat} {m z p r i : Nat} (h : ¬ (r = m ∧ i = z)) : rm_P2 P m z p r i = P r i := if_neg h
theorem rm_N2_n {N : Nat → Nat → Bool} {m z r i : Nat} {g : Bool} (h : ¬ (r = m ∧ i = z)) : rm_N2 N m z g r i = N r i := if_neg h
theorem rm_N2_p {N : Nat → Nat → Bool} {m z : Nat} {g : Bool} : rm_pc (rm_N2 N m z g m) (z + 1) = rm_pc (N m) z + (if g = true then 0 else 1) := by
  have a : rm_pc (rm_N2 N m z g m) z = rm_pc (N m) z := rm_pc_c z (fun i hi => rm_N2_n (by omega))
  show rm_pc (rm_N2 N m z g m) z + (if rm_N2 N m z g m z = true then 0 else 1) = _
  rw [a, rm_N2_s]
theorem rm_XR_cond {m p : Nat} {Z Q : Nat → Nat} {P : Nat → Nat → Nat} {N : Nat → Nat → Bool} {g : Bool} {ao cc pc pa na pc' : Nat → Int32} (h : rm_XR m Z Q P N ao cc pc pa na) (hz : ∀ r, r ≤ m → Z r ≤ 3)
    (h1 : pc' m = nI (rm_pc (N m) (Z m) + (if g = true then 0 else 1))) (h2 : ∀ r, r ≠ m → pc' r = pc r) :
    rm_XR m (rm_w Z m (Z m + 1)) Q (rm_P2 P m (Z m) p) (rm_N2 N m (Z m) g) ao (upd cc m (nI (Z m + 1))) pc' (upd pa (3 * m + Z m) (nI p)) (upd na (3 * m + Z m) (rm_bI g)) := by
  refine ⟨fun r hr => ?_, h.2⟩
  obtain ⟨a, b, c⟩ := h.1 r hr
  by_cases e : r = m
  · subst e
    rw [rm_w_s, rm_N2_p, pk_us]
    refine ⟨rfl, h1, fun i hi => ?_⟩
    by_cases z : i = Z r
    · rw [z, pk_us, pk_us, rm_P2_s, rm_N2_s]
      exact ⟨rfl, rfl⟩
    · rw [pk_un (by omega), pk_un (by omega), rm_P2_n (by omega), rm_N2_n (by omega)]
      exact c i (by omega)
  · rw [rm_w_n e, pk_un e, h2 r e]
    have q : rm_pc (rm_N2 N m (Z m) g r) (Z r) = rm_pc (N r) (Z r) := rm_pc_c _ (fun i _ => rm_N2_n (by omega))
    rw [q]
    refine ⟨a, b, fun i hi => ?_⟩
    have := hz r hr
    rw [pk_un (by omega), pk_un (by omega), rm_P2_n (by omega), rm_N2_n (by omega)]
    exact c i hi
theorem rm_YR_cond {m p : Nat} {Z Q : Nat → Nat} {P : Nat → Nat → Nat} {N : Nat → Nat → Bool} {g : Bool} {dp dn sz pa no ac : Nat → Int32} (h : rm_YR m Z Q P N dp dn sz pa no ac) :
    rm_YR m (rm_w Z m (Z m + 1)) Q (rm_P2 P m (Z m) p) (rm_N2 N m (Z m) g) (upd dp (Z m) (nI p)) (upd dn (Z m) (rm_bI g)) sz pa no ac := by
  refine ⟨fun i hi => ?_, fun r hr => ?_⟩
  · rw [rm_w_s] at hi
    by_cases z : i = Z m
    · rw [z, pk_us, pk_us, rm_P2_s, rm_N2_s]
      exact ⟨rfl, rfl⟩
    · rw [pk_un z, pk_un z, rm_P2_n (by omega), rm_N2_n (by omega)]
      exact h.1 i (by omega)
  · have e : r ≠ m := by omega
    obtain ⟨a, b, c⟩ := h.2 r hr
    rw [rm_w_n e]
    refine ⟨a, b, fun i hi => ?_⟩
    rw [rm_P2_n (by omega), rm_N2_n (by omega)]
    exact c i hi
theorem rm_XR_rule {m a : Nat} {Z Q : Nat → Nat} {P : Nat → Nat → Nat} {N : Nat → Nat → Bool} {ao cc pc pa na : Nat → Int32} (h : rm_XR m Z Q P N ao cc pc pa na) :
    rm_XR (m + 1) (rm_w Z (m + 1) 0) (rm_w Q m a) P N (upd ao m (nI a)) (upd cc (m + 1) 0) (upd pc (m + 1) 0) pa na := by
  refine ⟨fun r hr => ?_, fun r hr => ?_⟩
  · by_cases e : r = m + 1
    · rw [e, rm_w_s, pk_us, pk_us]
      exact ⟨nI_0.symm, nI_0.symm, fun i hi => absurd hi (Nat.not_lt_zero i)⟩
    · rw [rm_w_n e, pk_un e, pk_un e]
      exact h.1 r (by omega)
  · by_cases e : r = m
    · rw [e, pk_us, rm_w_s]
    · rw [pk_un e, rm_w_n e]
      exact h.2 r (by omega)
theorem rm_YR_rule {m a : Nat} {Z Q : Nat → Nat} {P : Nat → Nat → Nat} {N : Nat → Nat → Bool} {dp dn sz pa no ac pa' no' : Nat → Int32} (h : rm_YR m Z Q P N dp dn sz pa no ac) (hz : ∀ r, r ≤ m → Z r ≤ 3)
    (h1 : ∀ i, i < 3 → pa' (3 * m + i) = dp i ∧ no' (3 * m + i) = vp_nar .boolean (dn i)) (h2 : ∀ j, j < 3 * m → pa' j = pa j ∧ no' j = no j) :
    rm_YR (m + 1) (rm_w Z (m + 1) 0) (rm_w Q m a) P N dp dn (upd sz m (nI (Z m))) pa' no' (upd ac m (nI a)) := by
  refine ⟨fun i hi => ?_, fun r hr => ?_⟩
  · rw [rm_w_s] at hi
    exact absurd hi (Nat.not_lt_zero i)
  · have e1 : r ≠ m + 1 := by omega
    rw [rm_w_n e1]
    by_cases e : r = m
    · subst e
      have := hz r (Nat.le_refl r)
      rw [pk_us, pk_us, rm_w_s]
      refine ⟨rfl, rfl, fun i hi => ?_⟩
      obtain ⟨a1, a2⟩ := h1 i (by omega)
      obtain ⟨b1, b2⟩ := h.1 i hi
      rw [a1, a2, b1, b2, rm_b_n]
      exact ⟨rfl, rfl⟩
    · obtain ⟨a1, b1, c1⟩ := h.2 r (by omega)
      have := hz r (by omega)
      rw [pk_un e, pk_un e, rm_w_n e]
      refine ⟨a1, b1, fun i hi => ?_⟩
      obtain ⟨d1, d2⟩ := h2 (3 * r + i) (by omega)
      rw [d1, d2]
      exact c1 i hi
theorem rm_XR_clear {m : Nat} {Z Q : Nat → Nat} {P : Nat → Nat → Nat} {N : Nat → Nat → Bool} {ao cc pc pa na : Nat → Int32} :
    rm_XR 0 (rm_w Z 0 0) Q P N ao (upd cc 0 0) (upd pc 0 0) pa na := by
  refine ⟨fun r hr => ?_, fun r hr => absurd hr (Nat.not_lt_zero r)⟩
  have e : r = 0 := by omega
  rw [e, rm_w_s, pk_us, pk_us]
  exact ⟨nI_0.symm, nI_0.symm, fun i hi => absurd hi (Nat.not_lt_zero i)⟩
theorem rm_YR_clear {Z Q : Nat → Nat} {P : Nat → Nat → Nat} {N : Nat → Nat → Bool} {dp dn sz pa no ac : Nat → Int32} :
    rm_YR 0 (rm_w Z 0 0) Q P N dp dn sz pa no ac := by
  refine ⟨fun i hi => ?_, fun r hr => absurd hr (Nat.not_lt_zero r)⟩
  rw [rm_w_s] at hi
  exact absurd hi (Nat.not_lt_zero i)
section YF
variable {n m l : Nat} {T C Z Q g : Nat → Nat} {P : Nat → Nat → Nat} {N : Nat → Nat → Bool} {L : List rm_Fi}
variable {cn lt dr ru fi le br bl : Int32} {tg ty fd dp dn sz pa no ac fr ft ro bo sa mi be bt bb : Nat → Int32}
theorem ym_91 {post : Int32 → SY → Prop} {a : Nat} (hm : m < 5)
    (h : ∀ pa' no', (∀ i, i < 3 → pa' (3 * m + i) = dp i ∧ no' (3 * m + i) = vp_nar .boolean (dn i)) → (∀ j, j < 3 * m → pa' j = pa j ∧ no' j = no j) → post (nI m) (nI n, nI l, 0, nI (m + 1), nI L.length, le, br, bl, tg, ty, fd, dp, dn, upd sz m (nI (Z m)), pa', no', upd ac m (nI a), fr, ft, ro, bo, sa, mi, be, bt, bb)) :
    ∃ k, wY_rule_91 post (nI a) (nI m) (nI n) (nI l) (nI (Z m)) (nI m) (nI L.length) le br bl k 0 tg ty fd dp dn sz pa no ac fr ft ro bo sa mi be bt bb := by
  have w5 : vp_in (nI m) 5 := vp_in_nI hm (by omega)
  have cm : (nI m).toNatClampNeg = m := nI_clamp (by omega)
  have w0 : vp_in (3 * nI m + 0) 15 := by rw [rm_i0]; exact vp_in_nI (by omega) (by omega)
  have w1 : vp_in (3 * nI m + 1) 15 := by rw [rm_i1']; exact vp_in_nI (by omega) (by omega)
  have w2 : vp_in (3 * nI m + 2) 15 := by rw [rm_i2']; exact vp_in_nI (by omega) (by omega)
  have d0 : (3 * nI m + 0).toNatClampNeg = 3 * m := by rw [rm_i0]; exact nI_clamp (by omega)
  have d1 : (3 * nI m + 1).toNatClampNeg = 3 * m + 1 := by rw [rm_i1']; exact nI_clamp (by omega)
  have d2 : (3 * nI m + 2).toNatClampNeg = 3 * m + 2 := by rw [rm_i2']; exact nI_clamp (by omega)
  refine ⟨0 + 1 + 1 + 1 + 1, br_f rm_q0 ⟨rm_v0, w0, nm_r (e' := upd pa (3 * m) (dp 0)) (by rw [d0, rm_c0]) ⟨rm_v0, w0, nm_r (e' := upd no (3 * m) (vp_nar .boolean (dn 0))) (by rw [d0, rm_c0]) (nm_r rm_01 (br_f rm_q1 ⟨rm_v1, w1, nm_r (e' := upd (upd pa (3 * m) (dp 0)) (3 * m + 1) (dp 1)) (by rw [d1, rm_c1]) ⟨rm_v1, w1, nm_r (e' := upd (upd no (3 * m) (vp_nar .boolean (dn 0))) (3 * m + 1) (vp_nar .boolean (dn 1))) (by rw [d1, rm_c1]) (nm_r rm_12 (br_f rm_q2 ⟨rm_v2, w2, nm_r (e' := upd (upd (upd pa (3 * m) (dp 0)) (3 * m + 1) (dp 1)) (3 * m + 2) (dp 2)) (by rw [d2, rm_c2]) ⟨rm_v2, w2, nm_r (e' := upd (upd (upd no (3 * m) (vp_nar .boolean (dn 0))) (3 * m + 1) (vp_nar .boolean (dn 1))) (3 * m + 2) (vp_nar .boolean (dn 2))) (by rw [d2, rm_c2]) (nm_r rm_23 (br_t rm_q3 ⟨w5, nm_r (e' := upd sz m (nI (Z m))) (by rw [cm]) ⟨w5, nm_r (e' := upd ac m (nI a)) (by rw [cm]) (nm_r (nI_1 m) (h _ _ (fun i hi => ?_) (fun j hj => ?_)))⟩⟩))⟩⟩))⟩⟩))⟩⟩⟩
  · have : i = 0 ∨ i = 1 ∨ i = 2 := by omega
    rcases this with z | z | z
    · subst z
      exact ⟨by rw [pk_un (by omega), pk_un (by omega), Nat.add_zero, pk_us], by rw [pk_un (by omega), pk_un (by omega), Nat.add_zero, pk_us]⟩
    · subst z
      exact ⟨by rw [pk_un (by omega), pk_us], by rw [pk_un (by omega), pk_us]⟩
    · subst z
      exact ⟨pk_us, pk_us⟩
  · exact ⟨by rw [pk_un (by omega), pk_un (by omega), pk_un (by omega)], by rw [pk_un (by omega), pk_un (by omega), pk_un (by omega)]⟩
theorem ym_27 {post : Int32 → SY → Prop} {x1 : Int32} (hz : Z m ≤ 3) (hR : rm_YR m Z Q P N dp dn sz pa no ac) (h : wY_rule_58 post x1 (nI (rm_pc (N m) (Z m))) (nI n) (nI l) (nI (Z m)) (nI m) (nI L.length) le br bl tg ty fd dp dn sz pa no ac fr ft ro bo sa mi be bt bb) : ∃ k, wY_rule_27 post x1 (nI n) (nI l) (nI (Z m)) (nI m) (nI L.length) le br bl tg ty fd dp dn sz pa no ac fr ft ro bo sa mi be bt bb k 0 0 := by
  have go : ∀ d i, i + d = Z m → wY_rule_27 post x1 (nI n) (nI l) (nI (Z m)) (nI m) (nI L.length) le br bl tg ty fd dp dn sz pa no ac fr ft ro bo sa mi be bt bb (d + 1) (nI (rm_pc (N m) i)) (nI i) := by
    intro d
    induction d with
    | zero =>
      intro i e
      have e2 : i = Z m := by omega
      rw [e2]
      exact br_t (nI_le (Nat.le_refl _) (by omega)) h
    | succ d ih =>
      intro i e
      have hi : i < Z m := by omega
      have ci : dn (nI i).toNatClampNeg = rm_bI (N m i) := by rw [nI_clamp (by omega)]; exact (hR.1 i hi).2
      have := ih (i + 1) (by omega)
      refine br_f (nI_ge hi (by omega)) (br_f (nI_ge (b := 3) (by omega) (by omega)) ⟨vp_in_nI (by omega) (by omega), ?_⟩)
      by_cases ng : N m i = true
      · have pk : rm_pc (N m) (i + 1) = rm_pc (N m) i := by
          show _ + (if N m i = true then 0 else 1) = _
          rw [if_pos ng]; rfl
        rw [pk] at this
        exact br_f (by rw [ci, ng]; decide) (nm_r (nI_1 i) this)
      · have nf : N m i = false := by
          cases q : N m i
          · rfl
          · exact absurd q ng
        have pk : rm_pc (N m) (i + 1) = rm_pc (N m) i + 1 := by
          show _ + (if N m i = true then 0 else 1) = _
          rw [if_neg ng]
        rw [pk] at this
        exact br_t (by rw [ci, nf]; decide) (nm_r (nI_1 _) (nm_r (nI_1 i) this))
  exact ⟨Z m + 1, go (Z m) 0 (by omega)⟩
end YF
end
section
def i_Rel (k : Nat) (u : SX) (v : SY) : Prop := rm_Rel (10 * k) u v
theorem i_up {k : Nat} {u : SX} {v : SY} (h : i_Rel k u v) : i_Rel (k + 3) u v := by
  obtain ⟨n, l, m, T, C, U, B, Z, Q, P, N, LX, LY, hX, hY, hP, hU⟩ := h
  exact rm_mk hX hY hP (by omega) hU
theorem i_vc0 : wpX_init (fun u => wpY_init (fun v => i_Rel 0 u v)) := by
  refine ⟨0, 0, 0, fun _ => 0, fun _ => 0, fun _ => 0, fun _ => 0, fun _ => 0, fun _ => 0, fun _ _ => 0, fun _ _ => false, [], [], ?_, ?_, ?_, ?_⟩
  · refine ⟨nI_0.symm, nI_0.symm, nI_0.symm, nI_0.symm, fun i hi => absurd hi (Nat.not_lt_zero i), ⟨fun r hr => ⟨nI_0.symm, nI_0.symm, fun i hi => absurd hi (Nat.not_lt_zero i)⟩, fun r hr => absurd hr (Nat.not_lt_zero r)⟩, fun i x hx => by simp at hx⟩
  · refine ⟨nI_0.symm, nI_0.symm, nI_0.symm, nI_0.symm, nI_0.symm, fun i hi => absurd hi (Nat.not_lt_zero i), ⟨fun i hi => absurd hi (Nat.not_lt_zero i), fun r hr => absurd hr (Nat.not_lt_zero r)⟩, fun i x hx => by simp at hx⟩
  · refine ⟨Nat.le_refl _, Nat.zero_le _, ⟨fun i j hi => absurd hi (Nat.not_lt_zero i), fun i hi => absurd hi (Nat.not_lt_zero i)⟩, ⟨fun i j hi => absurd hi (Nat.not_lt_zero i), fun i hi => absurd hi (Nat.not_lt_zero i)⟩, fun i hi => absurd hi (Nat.not_lt_zero i), fun i hi => absurd hi (Nat.not_lt_zero i), rfl, Nat.zero_le _, (fun x hx => by cases hx), fun x hx => by cases hx⟩
  · exact ⟨Nat.zero_le _, fun r _ => ⟨Nat.zero_le _, fun i hi => absurd hi (Nat.not_lt_zero i), fun z => absurd z (Nat.lt_irrefl 0)⟩, fun r hr => absurd hr (Nat.not_lt_zero r)⟩
theorem i_vc_make {k : Nat} {u : SX} {v : SY} (I : i_Rel k u v) (hk : k + 3 ≤ 1536) (v1 : Int32) (v2 : Int32) : wpX_make (fun r u' => wpY_make (fun r' v' => r' = r ∧ i_Rel (k + 3) u' v') v v1 v2) u v1 v2 := by
  have J := i_up I
  obtain ⟨n, l, m, T, C, U, B, Z, Q, P, N, LX, LY, hX, hY, hP, hU⟩ := I
  have hn := hP.2.1
  obtain ⟨lt, ec, rc, fc, br, tg, ct, ao, cc, pc, pa, na, fr, ft, rt, rf, va, ex, bt, bf, bv⟩ := u
  obtain ⟨cn2, lt2, dr2, ru2, fi2, le2, br2, bl2, tg2, ty2, fd2, dp2, dn2, sz2, pa2, no2, ac2, fr2, ft2, ro2, bo2, sa2, mi2, be2, bt2, bb2⟩ := v
  obtain ⟨rfl, rfl, rfl, rfl, hE, hXR, hFl⟩ := hX
  obtain ⟨rfl, rfl, rfl, rfl, rfl, hE2, hYR, hFl2⟩ := hY
  by_cases a1 : v1 < 0
  · exact br_t a1 (br_t a1 ⟨rfl, J⟩)
  · obtain ⟨y, hy, rfl⟩ := nI_of a1
    by_cases a2 : y < 4
    · by_cases a3 : v2 < 0
      · exact br_f a1 (br_t (nI_lt (b := 4) a2 (by omega)) (br_t a3 (br_f a1 (br_t (nI_le (b := 3) (by omega) (by omega)) (br_t a3 ⟨rfl, J⟩)))))
      · obtain ⟨f, hf, rfl⟩ := nI_of a3
        by_cases a4 : f < 4096
        · refine xm_mk a2 a4 hn (fun z => ?_) (fun z => ?_) _ _ rfl rfl
          · refine br_f a1 (br_t (nI_le (b := 3) (by omega) (by omega)) (br_f a3 (br_t (nI_le (b := 4095) (by omega) (by omega)) ?_)))
            refine ym_ad hn (fun _ => ?_) (fun w => absurd z w) _ _ rfl rfl
            exact ⟨rfl, rm_mk ⟨rfl, rfl, rfl, rfl, rm_XE_mk hE, hXR, hFl⟩ ⟨rfl, rfl, rfl, rfl, rfl, rm_YE_mk a4 hE2, hYR, hFl2⟩ (rm_PP_mk hP z (by omega)) (by omega) hU⟩
          · refine br_f a1 (br_t (nI_le (b := 3) (by omega) (by omega)) (br_f a3 (br_t (nI_le (b := 4095) (by omega) (by omega)) ?_)))
            exact ym_ad hn (fun w => absurd w z) (fun _ => ⟨rfl, J⟩) _ _ rfl rfl
        · exact br_f a1 (br_t (nI_lt (b := 4) a2 (by omega)) (br_f a3 (br_f (nI_nlt (b := 4096) (by omega) (by omega)) (br_f a1 (br_t (nI_le (b := 3) (by omega) (by omega)) (br_f a3 (br_f (nI_ge (a := 4095) (by omega) (by omega)) ⟨rfl, J⟩)))))))
    · exact br_f a1 (br_f (nI_nlt (b := 4) (by omega) (by omega)) (br_f a1 (br_f (nI_ge (a := 3) (by omega) (by omega)) ⟨rfl, J⟩)))
theorem rm_ex {b n l : Nat} {T C U B : Nat → Nat} {LX LY : List rm_Fi} (hP : rm_PP b n l T C U B LX LY) (q : Int32) : (∃ i j, i < n ∧ j < n ∧ nI (T i) = q ∧ U j = T i ∧ B j = C i) ∨ ((∀ i, i < n → ¬ nI (T i) = q) ∧ ∀ j, j < n → ¬ nI (U j) = q) := by
  obtain ⟨h1, h2, h3, h4, h5, h6, h7⟩ := hP
  by_cases z : ∃ i, i < n ∧ nI (T i) = q
  · obtain ⟨i, hi, e⟩ := z
    obtain ⟨j, hj, e1, e2⟩ := h5 i hi
    exact Or.inl ⟨i, j, hi, hj, e, e1, e2⟩
  · refine Or.inr ⟨fun i hi e => z ⟨i, hi, e⟩, fun j hj e => ?_⟩
    obtain ⟨i, hi, e1, e2⟩ := h6 j hj
    exact z ⟨i, hi, by rw [e1]; exact e⟩
theorem i_vc_remove {k : Nat} {u : SX} {v : SY} (I : i_Rel k u v) (hk : k + 3 ≤ 1536) (v1 : Int32) : wpX_remove (fun r u' => wpY_remove (fun r' v' => r' = r ∧ i_Rel (k + 3) u' v') v v1) u v1 := by
  have J := i_up I
  obtain ⟨n, l, m, T, C, U, B, Z, Q, P, N, LX, LY, hX, hY, hP, hU⟩ := I
  have hn := hP.2.1
  have hl : l < 1048576 := by have := hP.1; omega
  have hT := hP.2.2.1
  have hT2 := hP.2.2.2.1
  have lb := (rm_PP_lb hP hl).1
  have hLX := rm_PP_len hP
  obtain ⟨lt, ec, rc, fc, br, tg, ct, ao, cc, pc, pa, na, fr, ft, rt, rf, va, ex, bt, bf, bv⟩ := u
  obtain ⟨cn2, lt2, dr2, ru2, fi2, le2, br2, bl2, tg2, ty2, fd2, dp2, dn2, sz2, pa2, no2, ac2, fr2, ft2, ro2, bo2, sa2, mi2, be2, bt2, bb2⟩ := v
  obtain ⟨rfl, rfl, rfl, rfl, hE, hXR, hFl⟩ := hX
  obtain ⟨rfl, rfl, rfl, rfl, rfl, hE2, hYR, hFl2⟩ := hY
  rcases rm_ex hP v1 with ⟨i, j, hi, hj, e, e1, e2⟩ | ⟨z1, z2⟩
  · obtain ⟨n, rfl⟩ : ∃ n', n = n' + 1 := ⟨n - 1, by omega⟩
    subst e
    have ti := hT.2 i hi
    refine xm_rm ⟨hn, hl, hT, hU, hLX, lb, hE, hXR, hFl⟩ hi (fun tg' ct' fr' ft' hE' hF' => ?_) _ rfl
    unfold wpY_remove
    refine ym_fi hn (fun d hd => (hE2 d hd).1) (fun d hd z => ?_) (fun z => absurd (by rw [e1]) (z j hj))
    have td := hT2.2 d hd
    have ed : U d = T i := (nI_eq (by omega) (by omega)).mp z
    refine br_t (nI_pos' (by omega)) ?_
    refine ym_dr hn hd hE2 (fun tg3 ty3 fd3 hE3 => ?_)
    exact ⟨rfl, rm_mk ⟨rfl, rfl, rfl, rfl, hE', hXR, hF'⟩ ⟨rfl, rfl, rfl, rfl, rfl, hE3, hYR, hFl2⟩ (rm_PP_dr hP hi hd ed.symm) (by omega) hU⟩
  · unfold wpX_remove
    refine xm_po hn (fun d hd => (hE d hd).1) (fun d hd z => absurd z (z1 d hd)) (fun _ => br_t rfl ?_)
    unfold wpY_remove
    exact ym_fi hn (fun d hd => (hE2 d hd).1) (fun d hd z => absurd z (z2 d hd)) (fun _ => br_f (by decide) ⟨rfl, J⟩)
theorem i_vc_elements {k : Nat} {u : SX} {v : SY} (I : i_Rel k u v) (hk : k + 3 ≤ 1536) : wpX_elements (fun r => wpY_elements (fun r' => r' = r ∧ i_Rel (k + 3) u v) v) u := by
  have J := i_up I
  obtain ⟨n, l, m, T, C, U, B, Z, Q, P, N, LX, LY, hX, hY, hP, hU⟩ := I
  obtain ⟨lt, ec, rc, fc, br, tg, ct, ao, cc, pc, pa, na, fr, ft, rt, rf, va, ex, bt, bf, bv⟩ := u
  obtain ⟨cn2, lt2, dr2, ru2, fi2, le2, br2, bl2, tg2, ty2, fd2, dp2, dn2, sz2, pa2, no2, ac2, fr2, ft2, ro2, bo2, sa2, mi2, be2, bt2, bb2⟩ := v
  obtain ⟨rfl, rfl, rfl, rfl, hE, hXR, hFl⟩ := hX
  obtain ⟨rfl, rfl, rfl, rfl, rfl, hE2, hYR, hFl2⟩ := hY
  exact ⟨rfl, J⟩
theorem i_vc_rules {k : Nat} {u : SX} {v : SY} (I : i_Rel k u v) (hk : k + 3 ≤ 1536) : wpX_rules (fun r => wpY_rules (fun r' => r' = r ∧ i_Rel (k + 3) u v) v) u := by
  have J := i_up I
  obtain ⟨n, l, m, T, C, U, B, Z, Q, P, N, LX, LY, hX, hY, hP, hU⟩ := I
  obtain ⟨lt, ec, rc, fc, br, tg, ct, ao, cc, pc, pa, na, fr, ft, rt, rf, va, ex, bt, bf, bv⟩ := u
  obtain ⟨cn2, lt2, dr2, ru2, fi2, le2, br2, bl2, tg2, ty2, fd2, dp2, dn2, sz2, pa2, no2, ac2, fr2, ft2, ro2, bo2, sa2, mi2, be2, bt2, bb2⟩ := v
  obtain ⟨rfl, rfl, rfl, rfl, hE, hXR, hFl⟩ := hX
  obtain ⟨rfl, rfl, rfl, rfl, rfl, hE2, hYR, hFl2⟩ := hY
  exact ⟨rfl, J⟩
theorem i_vc_exists {k : Nat} {u : SX} {v : SY} (I : i_Rel k u v) (hk : k + 3 ≤ 1536) (v1 : Int32) : wpX_exists (fun r => wpY_exists (fun r' => r' = r ∧ i_Rel (k + 3) u v) v v1) u v1 := by
  have J := i_up I
  obtain ⟨n, l, m, T, C, U, B, Z, Q, P, N, LX, LY, hX, hY, hP, hU⟩ := I
  have hn := hP.2.1
  obtain ⟨lt, ec, rc, fc, br, tg, ct, ao, cc, pc, pa, na, fr, ft, rt, rf, va, ex, bt, bf, bv⟩ := u
  obtain ⟨cn2, lt2, dr2, ru2, fi2, le2, br2, bl2, tg2, ty2, fd2, dp2, dn2, sz2, pa2, no2, ac2, fr2, ft2, ro2, bo2, sa2, mi2, be2, bt2, bb2⟩ := v
  obtain ⟨rfl, rfl, rfl, rfl, hE, hXR, hFl⟩ := hX
  obtain ⟨rfl, rfl, rfl, rfl, rfl, hE2, hYR, hFl2⟩ := hY
  unfold wpX_exists
  rcases rm_ex hP v1 with ⟨i, j, hi, hj, e, e1, e2⟩ | ⟨z1, z2⟩
  · refine xm_po hn (fun d hd => (hE d hd).1) (fun d hd _ => br_f (rm_nm1 (by omega)) ?_) (fun z => absurd e (z i hi))
    unfold wpY_exists
    exact ym_fi hn (fun d hd => (hE2 d hd).1) (fun d hd _ => br_t (nI_pos' (by omega)) ⟨rfl, J⟩) (fun z => absurd (by rw [e1]; exact e) (z j hj))
  · refine xm_po hn (fun d hd => (hE d hd).1) (fun d hd z => absurd z (z1 d hd)) (fun _ => br_t rfl ?_)
    unfold wpY_exists
    exact ym_fi hn (fun d hd => (hE2 d hd).1) (fun d hd z => absurd z (z2 d hd)) (fun _ => br_f (by decide) ⟨rfl, J⟩)
theorem i_vc_contents {k : Nat} {u : SX} {v : SY} (I : i_Rel k u v) (hk : k + 3 ≤ 1536) (v1 : Int32) : wpX_contents (fun r => wpY_contents (fun r' => r' = r ∧ i_Rel (k + 3) u v) v v1) u v1 := by
  have J := i_up I
  obtain ⟨n, l, m, T, C, U, B, Z, Q, P, N, LX, LY, hX, hY, hP, hU⟩ := I
  have hn := hP.2.1
  have hl : l < 1048576 := by have := hP.1; omega
  have hT := hP.2.2.1
  have hT2 := hP.2.2.2.1
  have hem := hP.2.2.2.2.1
  obtain ⟨lt, ec, rc, fc, br, tg, ct, ao, cc, pc, pa, na, fr, ft, rt, rf, va, ex, bt, bf, bv⟩ := u
  obtain ⟨cn2, lt2, dr2, ru2, fi2, le2, br2, bl2, tg2, ty2, fd2, dp2, dn2, sz2, pa2, no2, ac2, fr2, ft2, ro2, bo2, sa2, mi2, be2, bt2, bb2⟩ := v
  obtain ⟨rfl, rfl, rfl, rfl, hE, hXR, hFl⟩ := hX
  obtain ⟨rfl, rfl, rfl, rfl, rfl, hE2, hYR, hFl2⟩ := hY
  unfold wpX_contents
  refine xm_po hn (fun d hd => (hE d hd).1) (fun i hi e => br_f (rm_nm1 (by omega)) ⟨vp_in_nI (by omega) (by omega), ?_⟩) (fun z1 => br_t rfl ?_)
  · subst e
    have ti := hT.2 i hi
    unfold wpY_contents
    obtain ⟨j, hj, e1, e2⟩ := hem i hi
    refine ym_fi hn (fun d hd => (hE2 d hd).1) (fun d hd z => br_t (nI_pos' (by omega)) ⟨vp_in_nI (by omega) (by omega), vp_in_nI (by omega) (by omega), ?_, J⟩) (fun z => absurd (by rw [e1]) (z j hj))
    have td := hT2.2 d hd
    have tj := hT2.2 j hj
    have ed : d = j := hT2.1 d j hd hj (by rw [e1]; exact (nI_eq (by omega) (by omega)).mp z)
    subst ed
    obtain ⟨_, q1, q2⟩ := hE2 d hd
    have q : (4096 : Int32) = nI 4096 := rfl
    rw [nI_clamp (by omega), nI_clamp (by omega), q1, q2, (hE i hi).2, q, pk_mul, nI_add, ← e2]
    exact congrArg nI (by omega)
  · unfold wpY_contents
    refine ym_fi hn (fun d hd => (hE2 d hd).1) (fun d hd z => ?_) (fun _ => br_f (by decide) ⟨rfl, J⟩)
    obtain ⟨i, hi, e1, e2⟩ := hP.2.2.2.2.2.1 d hd
    exact absurd (by rw [e1]; exact z) (z1 i hi)
end
section
section XG
variable {n m l : Nat} {T C Z Q g : Nat → Nat} {P : Nat → Nat → Nat} {N : Nat → Nat → Bool} {L : List rm_Fi}
variable {lt ec rc fc br : Int32} {tg ct ao cc pc pa na fr ft rt rf va ex bt bf bv : Nat → Int32}
theorem xm_44 {post : Int32 → SX → Prop} {p : Nat} {v2 : Int32} {b : Bool} (hm : m ≤ 5) (hz : Z m < 3) (hpc : pc m = nI (rm_pc (N m) (Z m))) (hb : b = true ↔ ¬ v2 = 0)
    (h : ∀ pc', pc' m = nI (rm_pc (N m) (Z m) + (if b = true then 0 else 1)) → (∀ r, r ≠ m → pc' r = pc r) → post (nI (Z m + 1)) (nI l, nI n, nI m, nI L.length, br, tg, ct, ao, upd cc m (nI (Z m + 1)), pc', upd pa (3 * m + Z m) (nI p), upd na (3 * m + Z m) (rm_bI b), fr, ft, rt, rf, va, ex, bt, bf, bv)) :
    wX_condition_44 post (nI p) v2 (nI m) (nI (Z m)) (nI l) (nI n) (nI m) (nI L.length) br tg ct ao cc pc pa na fr ft rt rf va ex bt bf bv := by
  have w6 : vp_in (nI m) 6 := vp_in_nI (by omega) (by omega)
  have cm : (nI m).toNatClampNeg = m := nI_clamp (by omega)
  have w18 : vp_in (nI (3 * m + Z m)) 18 := vp_in_nI (by omega) (by omega)
  have c3 : (nI (3 * m + Z m)).toNatClampNeg = 3 * m + Z m := nI_clamp (by omega)
  refine nm_r (rm_3 m (Z m)) ⟨w18, nm_r (e' := upd pa (3 * m + Z m) (nI p)) (by rw [c3]) ?_⟩
  by_cases z : v2 = 0
  · have b0 : b = false := by
      cases q : b
      · rfl
      · exact absurd z (hb.mp q)
    subst b0
    refine br_t z ⟨w18, nm_r (e' := upd na (3 * m + Z m) (rm_bI false)) (by rw [c3]; exact congrArg _ (rm_b_n false)) (br_t z ⟨w6, w6, nm_r (e' := upd pc m (nI (rm_pc (N m) (Z m) + 1))) (by rw [cm, hpc, nI_1]) ⟨w6, nm_r (e' := upd cc m (nI (Z m + 1))) (by rw [cm, nI_1]) ?_⟩⟩)⟩
    rw [nI_1]
    exact h _ pk_us (fun r hr => pk_un hr)
  · have b1 : b = true := hb.mpr z
    subst b1
    refine br_f z ⟨w18, nm_r (e' := upd na (3 * m + Z m) (rm_bI true)) (by rw [c3]; exact congrArg _ (rm_b_n true)) (br_f z ⟨w6, nm_r (e' := upd cc m (nI (Z m + 1))) (by rw [cm, nI_1]) ?_⟩)⟩
    rw [nI_1]
    exact h _ hpc (fun r _ => rfl)
theorem xm_cond {post : Int32 → SX → Prop} {p : Nat} {v2 : Int32} {b : Bool} (hp : p < 32000) (hm : m ≤ 5) (hz : Z m < 3) (hcc : cc m = nI (Z m)) (hpc : pc m = nI (rm_pc (N m) (Z m))) (hb : b = true ↔ ¬ v2 = 0) (hb0 : Z m = 0 → v2 = 0)
    (h : ∀ pc', pc' m = nI (rm_pc (N m) (Z m) + (if b = true then 0 else 1)) → (∀ r, r ≠ m → pc' r = pc r) → post (nI (Z m + 1)) (nI l, nI n, nI m, nI L.length, br, tg, ct, ao, upd cc m (nI (Z m + 1)), pc', upd pa (3 * m + Z m) (nI p), upd na (3 * m + Z m) (rm_bI b), fr, ft, rt, rf, va, ex, bt, bf, bv)) :
    wpX_condition post (nI l, nI n, nI m, nI L.length, br, tg, ct, ao, cc, pc, pa, na, fr, ft, rt, rf, va, ex, bt, bf, bv) (nI p) v2 := by
  have q := xm_44 (post := post) (v2 := v2) (p := p) (b := b) hm hz hpc hb h
  refine ⟨vp_in_nI (by omega) (by omega), nm_r (e' := nI (Z m)) (by rw [nI_clamp (by omega)]; exact hcc) ?_⟩
  refine br_f (nI_pos (by omega)) (br_f (nI_ge (b := 32000) hp (by omega)) (br_f (by decide) (br_t (nI_lt (b := 3) hz (by omega)) ?_)))
  by_cases z : v2 = 0
  · exact br_t z q
  · have nz : Z m ≠ 0 := fun y => z (hb0 y)
    exact br_f z (br_f (nI_ne0 (by omega) (by omega)) q)
end XG
section YG
variable {n m l : Nat} {T C Z Q g : Nat → Nat} {P : Nat → Nat → Nat} {N : Nat → Nat → Bool} {L : List rm_Fi}
variable {cn lt dr ru fi le br bl : Int32} {tg ty fd dp dn sz pa no ac fr ft ro bo sa mi be bt bb : Nat → Int32}
theorem ym_c35 {post : Int32 → SY → Prop} {p : Nat} {v2 : Int32} {b : Bool} (hz : Z m < 3) (hb : b = true ↔ ¬ v2 = 0)
    (h : post (nI (Z m + 1)) (nI n, nI l, nI (Z m + 1), nI m, nI L.length, le, br, bl, tg, ty, fd, upd dp (Z m) (nI p), upd dn (Z m) (rm_bI b), sz, pa, no, ac, fr, ft, ro, bo, sa, mi, be, bt, bb)) : wY_condition_35 post (nI p) v2 (nI n) (nI l) (nI (Z m)) (nI m) (nI L.length) le br bl tg ty fd dp dn sz pa no ac fr ft ro bo sa mi be bt bb := by
  have w3 : vp_in (nI (Z m)) 3 := vp_in_nI hz (by omega)
  have c : (nI (Z m)).toNatClampNeg = Z m := nI_clamp (by omega)
  refine ⟨w3, nm_r (e' := upd dp (Z m) (nI p)) (by rw [c]) ?_⟩
  by_cases z : v2 = 0
  · have b0 : b = false := by
      cases q : b
      · rfl
      · exact absurd z (hb.mp q)
    subst b0
    exact br_t z ⟨w3, nm_r (e' := upd dn (Z m) (rm_bI false)) (by rw [c]; exact congrArg _ (rm_b_n false)) (nm_r (nI_1 _) h)⟩
  · have b1 : b = true := hb.mpr z
    subst b1
    exact br_f z ⟨w3, nm_r (e' := upd dn (Z m) (rm_bI true)) (by rw [c]; exact congrArg _ (rm_b_n true)) (nm_r (nI_1 _) h)⟩
theorem ym_cond {post : Int32 → SY → Prop} {p : Nat} {v2 : Int32} {b : Bool} (hp : p < 32000) (hz : Z m < 3) (hb : b = true ↔ ¬ v2 = 0) (hb0 : Z m = 0 → v2 = 0)
    (h : post (nI (Z m + 1)) (nI n, nI l, nI (Z m + 1), nI m, nI L.length, le, br, bl, tg, ty, fd, upd dp (Z m) (nI p), upd dn (Z m) (rm_bI b), sz, pa, no, ac, fr, ft, ro, bo, sa, mi, be, bt, bb)) : wpY_condition post (nI n, nI l, nI (Z m), nI m, nI L.length, le, br, bl, tg, ty, fd, dp, dn, sz, pa, no, ac, fr, ft, ro, bo, sa, mi, be, bt, bb) (nI p) v2 := by
  have q := ym_c35 (post := post) (v2 := v2) (p := p) (b := b) hz hb h
  unfold wpY_condition
  refine br_f (nI_pos (by omega)) (br_t (nI_le (b := 31999) (by omega) (by omega)) (br_t rfl (br_t (nI_le (b := 2) (by omega) (by omega)) ?_)))
  by_cases z : v2 = 0
  · exact br_t z q
  · have nz : Z m ≠ 0 := fun y => z (hb0 y)
    exact br_f z (br_f (nI_ne0 (by omega) (by omega)) q)
end YG
theorem i_vc_condition {k : Nat} {u : SX} {v : SY} (I : i_Rel k u v) (hk : k + 3 ≤ 1536) (v1 : Int32) (v2 : Int32) : wpX_condition (fun r u' => wpY_condition (fun r' v' => r' = r ∧ i_Rel (k + 3) u' v') v v1 v2) u v1 v2 := by
  have J := i_up I
  obtain ⟨n, l, m, T, C, U, B, Z, Q, P, N, LX, LY, hX, hY, hP, hU⟩ := I
  have hm := hU.1
  have hz := (hU.2.1 m (Nat.le_refl m)).1
  obtain ⟨lt, ec, rc, fc, br, tg, ct, ao, cc, pc, pa, na, fr, ft, rt, rf, va, ex, bt, bf, bv⟩ := u
  obtain ⟨cn2, lt2, dr2, ru2, fi2, le2, br2, bl2, tg2, ty2, fd2, dp2, dn2, sz2, pa2, no2, ac2, fr2, ft2, ro2, bo2, sa2, mi2, be2, bt2, bb2⟩ := v
  obtain ⟨rfl, rfl, rfl, rfl, hE, hXR, hFl⟩ := hX
  obtain ⟨rfl, rfl, rfl, rfl, rfl, hE2, hYR, hFl2⟩ := hY
  obtain ⟨qc, qp, qr⟩ := hXR.1 m (Nat.le_refl m)
  have w6 : vp_in (nI m) 6 := vp_in_nI (by omega) (by omega)
  have ec : cc (nI m).toNatClampNeg = nI (Z m) := by rw [nI_clamp (by omega)]; exact qc
  by_cases a1 : v1 < 0
  · refine ⟨w6, nm_r ec (br_t a1 (br_t rfl ?_))⟩
    unfold wpY_condition
    exact br_t a1 (br_f (by decide) ⟨rfl, J⟩)
  · obtain ⟨p, hp, rfl⟩ := nI_of a1
    by_cases a2 : p < 32000
    · by_cases a3 : Z m < 3
      · by_cases a4 : Z m = 0 ∧ ¬ v2 = 0
        · refine ⟨w6, nm_r ec (br_f a1 (br_f (nI_ge (b := 32000) a2 (by omega)) (br_f (by decide) (br_t (nI_lt (b := 3) a3 (by omega)) (br_f a4.2 (br_t (by rw [a4.1]; exact nI_0) ?_))))))⟩
          unfold wpY_condition
          exact br_f a1 (br_t (nI_le (b := 31999) (by omega) (by omega)) (br_t rfl (br_t (nI_le (b := 2) (by omega) (by omega)) (br_f a4.2 (br_t (by rw [a4.1]; exact nI_0) ⟨rfl, J⟩)))))
        · have hb : decide (¬ v2 = 0) = true ↔ ¬ v2 = 0 := decide_eq_true_iff
          have hb0 : Z m = 0 → v2 = 0 := fun y => Decidable.byContradiction (fun w => a4 ⟨y, w⟩)
          refine xm_cond (b := decide (¬ v2 = 0)) a2 hm a3 qc qp hb hb0 (fun pc' h1 h2 => ?_)
          refine ym_cond (b := decide (¬ v2 = 0)) a2 a3 hb hb0 ?_
          refine ⟨rfl, rm_mk ⟨rfl, rfl, rfl, rfl, hE, rm_XR_cond hXR (fun r hr => (hU.2.1 r hr).1) h1 h2, hFl⟩ ⟨rfl, rfl, ?_, rfl, rfl, hE2, rm_YR_cond hYR, hFl2⟩ hP (by omega) (rm_PU_cond hU a3 a2 (fun y => ?_))⟩
          · rw [rm_w_s]
          · rw [hb0 y]; rfl
      · refine ⟨w6, nm_r ec (br_f a1 (br_f (nI_ge (b := 32000) a2 (by omega)) (br_f (by decide) (br_f (nI_nlt (b := 3) (by omega) (by omega)) ?_))))⟩
        unfold wpY_condition
        exact br_f a1 (br_t (nI_le (b := 31999) (by omega) (by omega)) (br_t rfl (br_f (nI_ge (a := 2) (by omega) (by omega)) ⟨rfl, J⟩)))
    · refine ⟨w6, nm_r ec (br_f a1 (br_t (nI_le (a := 32000) (by omega) (by omega)) (br_t rfl ?_)))⟩
      unfold wpY_condition
      exact br_f a1 (br_f (nI_ge (a := 31999) (by omega) (by omega)) (br_f (by decide) ⟨rfl, J⟩))
theorem i_vc_rule {k : Nat} {u : SX} {v : SY} (I : i_Rel k u v) (hk : k + 3 ≤ 1536) (v1 : Int32) : wpX_rule (fun r u' => wpY_rule (fun r' v' => r' = r ∧ i_Rel (k + 3) u' v') v v1) u v1 := by
  have J := i_up I
  obtain ⟨n, l, m, T, C, U, B, Z, Q, P, N, LX, LY, hX, hY, hP, hU⟩ := I
  have hm := hU.1
  have hz := (hU.2.1 m (Nat.le_refl m)).1
  have pb := rm_pc_b (N m) (Z m)
  obtain ⟨lt, ec, rc, fc, br, tg, ct, ao, cc, pc, pa, na, fr, ft, rt, rf, va, ex, bt, bf, bv⟩ := u
  obtain ⟨cn2, lt2, dr2, ru2, fi2, le2, br2, bl2, tg2, ty2, fd2, dp2, dn2, sz2, pa2, no2, ac2, fr2, ft2, ro2, bo2, sa2, mi2, be2, bt2, bb2⟩ := v
  obtain ⟨rfl, rfl, rfl, rfl, hE, hXR, hFl⟩ := hX
  obtain ⟨rfl, rfl, rfl, rfl, rfl, hE2, hYR, hFl2⟩ := hY
  obtain ⟨qc, qp, qr⟩ := hXR.1 m (Nat.le_refl m)
  have w6 : vp_in (nI m) 6 := vp_in_nI (by omega) (by omega)
  have cm : (nI m).toNatClampNeg = m := nI_clamp (by omega)
  by_cases a0 : Z m = 0
  · exact ⟨w6, br_t (by rw [cm, qc, a0]; exact nI_0) (br_t (by rw [a0]; exact nI_0) ⟨rfl, J⟩)⟩
  · have nz : ¬ nI (Z m) = 0 := nI_ne0 (by omega) (by omega)
    refine ⟨w6, br_f (by rw [cm, qc]; exact nz) ?_⟩
    by_cases a1 : v1 < 0
    · exact br_t a1 (br_f nz (br_t a1 ⟨rfl, J⟩))
    · obtain ⟨a, ha, rfl⟩ := nI_of a1
      refine br_f a1 ?_
      by_cases a2 : a < 32004
      · refine br_t (nI_lt (b := 32004) a2 (by omega)) ?_
        by_cases a3 : a < 4 ∧ ¬ a ≤ rm_pc (N m) (Z m)
        · refine br_f (nI_ge (b := 4) a3.1 (by omega)) ⟨w6, br_f (by rw [cm, qp]; exact nI_ge (by omega) (by omega)) ?_⟩
          refine br_f nz (br_f a1 (br_t (nI_le (b := 32003) (by omega) (by omega)) (ym_27 hz hYR ?_)))
          exact br_f (nI_nle (by omega) (by omega)) (br_f (nI_ge (b := 4) a3.1 (by omega)) (br_f (nI_ge (by omega) (by omega)) ⟨rfl, J⟩))
        · have y : ∀ (post : Int32 → SY → Prop), wY_rule_75 post (nI a) (nI n) (nI l) (nI (Z m)) (nI m) (nI LY.length) le2 br2 bl2 tg2 ty2 fd2 dp2 dn2 sz2 pa2 no2 ac2 fr2 ft2 ro2 bo2 sa2 mi2 be2 bt2 bb2 → wpY_rule post (nI n, nI l, nI (Z m), nI m, nI LY.length, le2, br2, bl2, tg2, ty2, fd2, dp2, dn2, sz2, pa2, no2, ac2, fr2, ft2, ro2, bo2, sa2, mi2, be2, bt2, bb2) (nI a) := by
            intro post h
            refine br_f nz (br_f a1 (br_t (nI_le (b := 32003) (by omega) (by omega)) (ym_27 hz hYR ?_)))
            by_cases b0 : a = 0
            · exact br_t (by rw [b0]; exact nI_le (b := 0) (Nat.le_refl 0) (by omega)) h
            · refine br_f (nI_nle (by omega) (by omega)) ?_
              by_cases b4 : a < 4
              · exact br_f (nI_ge (b := 4) b4 (by omega)) (br_t (nI_le (Decidable.byContradiction (fun w => a3 ⟨b4, w⟩)) (by omega)) h)
              · exact br_t (nI_le (a := 4) (by omega) (by omega)) h
          have x : ∀ (post : Int32 → SX → Prop), wX_rule_48 post (nI a) (nI m) (nI l) (nI n) (nI m) (nI LX.length) br tg ct ao cc pc pa na fr ft rt rf va ex bt bf bv → ((4 ≤ nI a → wX_rule_48 post (nI a) (nI m) (nI l) (nI n) (nI m) (nI LX.length) br tg ct ao cc pc pa na fr ft rt rf va ex bt bf bv) ∧ (¬ 4 ≤ nI a → (vp_in (nI m) 6 ∧ ((nI a ≤ pc (nI m).toNatClampNeg → wX_rule_48 post (nI a) (nI m) (nI l) (nI n) (nI m) (nI LX.length) br tg ct ao cc pc pa na fr ft rt rf va ex bt bf bv) ∧ (¬ nI a ≤ pc (nI m).toNatClampNeg → post (-3) (nI l, nI n, nI m, nI LX.length, br, tg, ct, ao, cc, pc, pa, na, fr, ft, rt, rf, va, ex, bt, bf, bv)))))) := by
            intro post h
            by_cases b4 : a < 4
            · exact br_f (nI_ge (b := 4) b4 (by omega)) ⟨w6, br_t (by rw [cm, qp]; exact nI_le (Decidable.byContradiction (fun w => a3 ⟨b4, w⟩)) (by omega)) h⟩
            · exact br_t (nI_le (a := 4) (by omega) (by omega)) h
          refine x _ ?_
          by_cases m5 : m < 5
          · have w62 : vp_in (nI (m + 1)) 6 := vp_in_nI (by omega) (by omega)
            have cm2 : (nI (m + 1)).toNatClampNeg = m + 1 := nI_clamp (by omega)
            refine br_t (nI_lt (b := 5) m5 (by omega)) ⟨w6, nm_r (e' := upd ao m (nI a)) (by rw [cm]) (nm_r (nI_1 m) ⟨w62, nm_r (e' := upd cc (m + 1) 0) (by rw [cm2]) ⟨w62, nm_r (e' := upd pc (m + 1) 0) (by rw [cm2]) ?_⟩⟩)⟩
            refine y _ (br_t (nI_le (b := 4) (by omega) (by omega)) (ym_91 m5 (fun pa' no' h1 h2 => ?_)))
            refine ⟨rfl, rm_mk ⟨rfl, rfl, rfl, rfl, hE, rm_XR_rule hXR, hFl⟩ ⟨rfl, rfl, ?_, rfl, rfl, hE2, rm_YR_rule hYR (fun r hr => (hU.2.1 r hr).1) h1 h2, hFl2⟩ hP (by omega) (rm_PU_rule hU m5 (by omega) a2 (fun w => Decidable.byContradiction (fun w2 => a3 ⟨w, w2⟩)))⟩
            rw [rm_w_s]
            exact nI_0.symm
          · exact br_f (nI_nlt (b := 5) (by omega) (by omega)) (y _ (br_f (nI_ge (a := 4) (by omega) (by omega)) ⟨rfl, J⟩))
      · exact br_f (nI_nlt (b := 32004) (by omega) (by omega)) (br_f nz (br_f a1 (br_f (nI_ge (a := 32003) (by omega) (by omega)) ⟨rfl, J⟩)))
theorem i_vc_clearRules {k : Nat} {u : SX} {v : SY} (I : i_Rel k u v) (hk : k + 3 ≤ 1536) : wpX_clearRules (fun r u' => wpY_clearRules (fun r' v' => r' = r ∧ i_Rel (k + 3) u' v') v) u := by
  obtain ⟨n, l, m, T, C, U, B, Z, Q, P, N, LX, LY, hX, hY, hP, hU⟩ := I
  obtain ⟨lt, ec, rc, fc, br, tg, ct, ao, cc, pc, pa, na, fr, ft, rt, rf, va, ex, bt, bf, bv⟩ := u
  obtain ⟨cn2, lt2, dr2, ru2, fi2, le2, br2, bl2, tg2, ty2, fd2, dp2, dn2, sz2, pa2, no2, ac2, fr2, ft2, ro2, bo2, sa2, mi2, be2, bt2, bb2⟩ := v
  obtain ⟨rfl, rfl, rfl, rfl, hE, hXR, hFl⟩ := hX
  obtain ⟨rfl, rfl, rfl, rfl, rfl, hE2, hYR, hFl2⟩ := hY
  have w6 : vp_in (0 : Int32) 6 := vp_in_iff.mpr (by decide)
  unfold wpX_clearRules
  refine ⟨w6, nm_r (e' := upd cc 0 0) (by rw [rm_c0]) ⟨w6, nm_r (e' := upd pc 0 0) (by rw [rm_c0]) ?_⟩⟩
  refine ⟨rfl, rm_mk (m := 0) (LX := []) (LY := []) (Z := rm_w Z 0 0) (Q := Q) (P := P) (N := N) ⟨rfl, rfl, nI_0.symm, nI_0.symm, hE, rm_XR_clear (m := 0), fun i x hx => by simp at hx⟩ ⟨rfl, rfl, ?_, nI_0.symm, nI_0.symm, hE2, rm_YR_clear, fun i x hx => by simp at hx⟩ (rm_PP_nil hP) (by omega) rm_PU_clear⟩
  rw [rm_w_s]
  exact nI_0.symm
end
section
theorem i_vc_matches {k : Nat} {u : SX} {v : SY} (I : i_Rel k u v) (hk : k + 3 ≤ 1536) (v1 : Int32) : wpX_matches (fun r u' => wpY_matches (fun r' v' => r' = r ∧ i_Rel (k + 3) u' v') v v1) u v1 := by
  have J := i_up I
  obtain ⟨n, l, m, T, C, U, B, Z, Q, P, N, LX, LY, hX, hY, hP, hU⟩ := I
  have hl : l < 1048576 := by have := hP.1; omega
  have hLX := rm_PP_len hP
  obtain ⟨lbX, lbY⟩ := rm_PP_lb hP hl
  have hP' := hP
  obtain ⟨h1, h2, h3, h4, h5, h6, h7, h8, h9, h10⟩ := hP'
  have hm := hU.1
  obtain ⟨lt, ec, rc, fc, br, tg, ct, ao, cc, pc, pa, na, fr, ft, rt, rf, va, ex, bt, bf, bv⟩ := u
  obtain ⟨cn2, lt2, dr2, ru2, fi2, le2, br2, bl2, tg2, ty2, fd2, dp2, dn2, sz2, pa2, no2, ac2, fr2, ft2, ro2, bo2, sa2, mi2, be2, bt2, bb2⟩ := v
  obtain ⟨rfl, rfl, rfl, rfl, hE, hXR, hFl⟩ := hX
  obtain ⟨rfl, rfl, rfl, rfl, rfl, hE2, hYR, hFl2⟩ := hY
  by_cases a1 : v1 < 0
  · exact br_t a1 (br_t a1 ⟨rfl, J⟩)
  · obtain ⟨r, hr, rfl⟩ := nI_of a1
    by_cases a2 : r < m
    · refine xm_ma ⟨h2, hl, h3, hU, hLX, lbX, hE, hXR, hFl⟩ a2 (fun rt va ex => ?_)
      refine ym_ma ⟨h2, hl, h4, hU, h8, lbY, hE2, hYR, hFl2⟩ a2 (fun le ro bo sa => ?_)
      exact ⟨congrArg nI (rm_pn_eq h2 h4.1 h3.1 h6 h5), rm_mk ⟨rfl, rfl, rfl, rfl, hE, hXR, hFl⟩ ⟨rfl, rfl, rfl, rfl, rfl, hE2, hYR, hFl2⟩ hP (by omega) hU⟩
    · exact br_f a1 (br_f (nI_nlt (by omega) (by omega)) (br_f a1 (br_t (nI_le (by omega) (by omega)) ⟨rfl, J⟩)))
theorem i_vc_open {k : Nat} {u : SX} {v : SY} (I : i_Rel k u v) (hk : k + 3 ≤ 1536) : wpX_open (fun r u' => wpY_open (fun r' v' => r' = r ∧ i_Rel (k + 3) u' v') v) u := by
  obtain ⟨n, l, m, T, C, U, B, Z, Q, P, N, LX, LY, hX, hY, hP, hU⟩ := I
  have hl : l < 1048576 := by have := hP.1; omega
  have hLX := rm_PP_len hP
  have hmem := rm_PP_mem hP
  obtain ⟨lbX, lbY⟩ := rm_PP_lb hP hl
  have hP' := hP
  obtain ⟨h1, h2, h3, h4, h5, h6, h7, h8, h9, h10⟩ := hP'
  obtain ⟨lt, ec, rc, fc, br, tg, ct, ao, cc, pc, pa, na, fr, ft, rt, rf, va, ex, bt, bf, bv⟩ := u
  obtain ⟨cn2, lt2, dr2, ru2, fi2, le2, br2, bl2, tg2, ty2, fd2, dp2, dn2, sz2, pa2, no2, ac2, fr2, ft2, ro2, bo2, sa2, mi2, be2, bt2, bb2⟩ := v
  obtain ⟨rfl, rfl, rfl, rfl, hE, hXR, hFl⟩ := hX
  obtain ⟨rfl, rfl, rfl, rfl, rfl, hE2, hYR, hFl2⟩ := hY
  refine xm_op ⟨h2, hl, h3, hU, hLX, lbX, hE, hXR, hFl⟩ (fun rt va ex => ?_)
  unfold wpY_open
  refine ym_lo ⟨h2, hl, h4, hU, h8, lbY, hE2, hYR, hFl2⟩ (fun le ro bo sa mi br bl be bt bb hb => ?_)
  refine ⟨congrArg nI (rm_oc_eq (fun r => (rm_on_eq r h2 h3.1 h4.1 h5 h6 hmem).symm) m), rm_mk ⟨rfl, rfl, rfl, rfl, hE, hXR, hFl⟩ ⟨rfl, rfl, rfl, rfl, rfl, hE2, hYR, hFl2⟩ hP (by omega) hU⟩
theorem i_vc_firstRule {k : Nat} {u : SX} {v : SY} (I : i_Rel k u v) (hk : k + 3 ≤ 1536) : wpX_firstRule (fun r u' => wpY_firstRule (fun r' v' => r' = r ∧ i_Rel (k + 3) u' v') v) u := by
  obtain ⟨n, l, m, T, C, U, B, Z, Q, P, N, LX, LY, hX, hY, hP, hU⟩ := I
  have hl : l < 1048576 := by have := hP.1; omega
  have hLX := rm_PP_len hP
  have hmem := rm_PP_mem hP
  obtain ⟨lbX, lbY⟩ := rm_PP_lb hP hl
  have hP' := hP
  obtain ⟨h1, h2, h3, h4, h5, h6, h7, h8, h9, h10⟩ := hP'
  have hm := hU.1
  have heq := rm_fr_eq (P := P) (N := N) (sz := Z) (L := LX) (L' := LY) (m := m) hm (fun r hr => (hU.2.1 r (by omega)).1) (fun i hi => by have := h3.2 i hi; omega) h2 h3.1 h4.1 h5 h6 hmem
  obtain ⟨lt, ec, rc, fc, br, tg, ct, ao, cc, pc, pa, na, fr, ft, rt, rf, va, ex, bt, bf, bv⟩ := u
  obtain ⟨cn2, lt2, dr2, ru2, fi2, le2, br2, bl2, tg2, ty2, fd2, dp2, dn2, sz2, pa2, no2, ac2, fr2, ft2, ro2, bo2, sa2, mi2, be2, bt2, bb2⟩ := v
  obtain ⟨rfl, rfl, rfl, rfl, hE, hXR, hFl⟩ := hX
  obtain ⟨rfl, rfl, rfl, rfl, rfl, hE2, hYR, hFl2⟩ := hY
  unfold wpX_firstRule
  refine xm_fb ⟨h2, hl, h3, hU, hLX, lbX, hE, hXR, hFl⟩ (fun rt rf va ex br bt bf bv hb => ?_)
  unfold wpY_firstRule
  refine ym_lo ⟨h2, hl, h4, hU, h8, lbY, hE2, hYR, hFl2⟩ (fun le ro bo sa mi br2 bl be bt2 bb hb2 => ?_)
  refine ⟨?_, rm_mk ⟨rfl, rfl, rfl, rfl, hE, hXR, hFl⟩ ⟨rfl, rfl, rfl, rfl, rfl, hE2, hYR, hFl2⟩ hP (by omega) hU⟩
  rw [← heq] at hb2
  cases hq : rm_fr (rm_om T C n P N Z LX) (fun r => 12 ^ rm_pc (N r) (Z r)) m with
  | none =>
    rw [hq] at hb hb2
    exact (show br2 = -1 from hb2).trans (show br = -1 from hb).symm
  | some x =>
    rw [hq] at hb hb2
    exact hb2.1.trans hb.1.symm
theorem i_vc_firstTag {k : Nat} {u : SX} {v : SY} (I : i_Rel k u v) (hk : k + 3 ≤ 1536) (v1 : Int32) : wpX_firstTag (fun r u' => wpY_firstTag (fun r' v' => r' = r ∧ i_Rel (k + 3) u' v') v v1) u v1 := by
  obtain ⟨n, l, m, T, C, U, B, Z, Q, P, N, LX, LY, hX, hY, hP, hU⟩ := I
  have hl : l < 1048576 := by have := hP.1; omega
  have hLX := rm_PP_len hP
  have hmem := rm_PP_mem hP
  obtain ⟨lbX, lbY⟩ := rm_PP_lb hP hl
  have hP' := hP
  obtain ⟨h1, h2, h3, h4, h5, h6, h7, h8, h9, h10⟩ := hP'
  have hm := hU.1
  have heq := rm_fr_eq (P := P) (N := N) (sz := Z) (L := LX) (L' := LY) (m := m) hm (fun r hr => (hU.2.1 r (by omega)).1) (fun i hi => by have := h3.2 i hi; omega) h2 h3.1 h4.1 h5 h6 hmem
  obtain ⟨lt, ec, rc, fc, br, tg, ct, ao, cc, pc, pa, na, fr, ft, rt, rf, va, ex, bt, bf, bv⟩ := u
  obtain ⟨cn2, lt2, dr2, ru2, fi2, le2, br2, bl2, tg2, ty2, fd2, dp2, dn2, sz2, pa2, no2, ac2, fr2, ft2, ro2, bo2, sa2, mi2, be2, bt2, bb2⟩ := v
  obtain ⟨rfl, rfl, rfl, rfl, hE, hXR, hFl⟩ := hX
  obtain ⟨rfl, rfl, rfl, rfl, rfl, hE2, hYR, hFl2⟩ := hY
  unfold wpX_firstTag
  refine xm_fb ⟨h2, hl, h3, hU, hLX, lbX, hE, hXR, hFl⟩ (fun rt rf va ex br bt bf bv hb => ?_)
  have Y : ∀ r : Int32, (∀ br2 bl be bt2 bb, rm_BY m Z N (rm_fr (rm_om T C n P N Z LX) (fun r => 12 ^ rm_pc (N r) (Z r)) m) br2 bl be bt2 bb → ((0 ≤ br2 → (((v1 < 0 → (-2) = r) ∧ (¬ v1 < 0 → ((bl ≤ v1 → (-2) = r) ∧ (¬ bl ≤ v1 → ((v1 ≤ 2 → (vp_in v1 3 ∧ bt2 v1.toNatClampNeg = r)) ∧ (¬ v1 ≤ 2 → (-2) = r)))))))) ∧ (¬ 0 ≤ br2 → (-1) = r))) →
      wpY_firstTag (fun r' v' => r' = r ∧ i_Rel (k + 3) (nI l, nI n, nI m, nI LX.length, br, tg, ct, ao, cc, pc, pa, na, fr, ft, rt, rf, va, ex, bt, bf, bv) v') (nI n, nI l, nI (Z m), nI m, nI LY.length, le2, br2, bl2, tg2, ty2, fd2, dp2, dn2, sz2, pa2, no2, ac2, fr2, ft2, ro2, bo2, sa2, mi2, be2, bt2, bb2) v1 := by
    intro r h
    unfold wpY_firstTag
    refine ym_lo ⟨h2, hl, h4, hU, h8, lbY, hE2, hYR, hFl2⟩ (fun le ro bo sa mi br2 bl be bt2 bb hb2 => ?_)
    rw [← heq] at hb2
    have R := rm_mk (u := (nI l, nI n, nI m, nI LX.length, br, tg, ct, ao, cc, pc, pa, na, fr, ft, rt, rf, va, ex, bt, bf, bv)) (v := (nI n, nI l, nI (Z m), nI m, nI LY.length, le, br2, bl, tg2, ty2, fd2, dp2, dn2, sz2, pa2, no2, ac2, fr2, ft2, ro, bo, sa, mi, be, bt2, bb)) (m := m) ⟨rfl, rfl, rfl, rfl, hE, hXR, hFl⟩ ⟨rfl, rfl, rfl, rfl, rfl, hE2, hYR, hFl2⟩ hP (show 10 * k ≤ 10 * (k + 3) by omega) hU
    obtain ⟨y1, y2⟩ := h br2 bl be bt2 bb hb2
    exact br_c (fun c => br_c (fun d => ⟨(y1 c).1 d, R⟩) (fun d => br_c (fun e => ⟨((y1 c).2 d).1 e, R⟩) (fun e => br_c (fun f => ⟨(((y1 c).2 d).2 e).1 f |>.1, (((y1 c).2 d).2 e).1 f |>.2, R⟩) (fun f => ⟨(((y1 c).2 d).2 e).2 f, R⟩)))) (fun c => ⟨y2 c, R⟩)
  cases hq : rm_fr (rm_om T C n P N Z LX) (fun r => 12 ^ rm_pc (N r) (Z r)) m with
  | none =>
    rw [hq] at hb Y
    have hb2 : br = -1 := hb
    subst hb2
    refine br_t rfl (Y _ (fun br2 bl be bt2 bb hy => ?_))
    have hy2 : br2 = -1 := hy
    subst hy2
    exact br_f (by decide) rfl
  | some x =>
    rw [hq] at hb Y
    obtain ⟨b1, b2, b3, b4, b5⟩ := hb
    subst b1
    obtain ⟨p1, p3⟩ := rm_pc_1 hU b2
    have qp := (hXR.1 x.1 (by omega)).2.1
    refine br_f (rm_nm1 (by omega)) ?_
    by_cases a1 : v1 < 0
    · refine br_t a1 (Y _ (fun br2 bl be bt2 bb hy => ?_))
      obtain ⟨y1, y2, y3, y4, y5, y6, y7, y8, y9⟩ := hy
      subst y1
      exact br_t (nI_pos' (by omega)) (br_t a1 rfl)
    · obtain ⟨j, hj, rfl⟩ := nI_of a1
      refine br_f a1 ⟨vp_in_nI (by omega) (by omega), ?_⟩
      by_cases a2 : j < rm_pc (N x.1) (Z x.1)
      · refine br_t (by rw [nI_clamp (by omega), qp]; exact nI_lt a2 (by omega)) ⟨vp_in_nI (by omega) (by omega), Y _ (fun br2 bl be bt2 bb hy => ?_)⟩
        obtain ⟨y1, y2, y3, y4, y5, y6, y7, y8, y9⟩ := hy
        subst y1
        subst y9
        refine br_t (nI_pos' (by omega)) (br_f a1 (br_f (nI_ge a2 (by omega)) (br_t (nI_le (b := 2) (by omega) (by omega)) ⟨vp_in_nI (by omega) (by omega), ?_⟩)))
        rw [nI_clamp (by omega), y4 j (by omega), b4 j (by omega)]
      · refine br_f (by rw [nI_clamp (by omega), qp]; exact nI_nlt (by omega) (by omega)) (Y _ (fun br2 bl be bt2 bb hy => ?_))
        obtain ⟨y1, y2, y3, y4, y5, y6, y7, y8, y9⟩ := hy
        subst y1
        subst y9
        exact br_t (nI_pos' (by omega)) (br_f a1 (br_t (nI_le (by omega) (by omega)) rfl))
theorem i_vc_fitting {k : Nat} {u : SX} {v : SY} (I : i_Rel k u v) (hk : k + 3 ≤ 1536) (v1 : Int32) : wpX_fitting (fun r u' => wpY_fitting (fun r' v' => r' = r ∧ i_Rel (k + 3) u' v') v v1) u v1 := by
  have J := i_up I
  obtain ⟨n, l, m, T, C, U, B, Z, Q, P, N, LX, LY, hX, hY, hP, hU⟩ := I
  have hP' := hP
  obtain ⟨h1, h2, h3, h4, h5, h6, h7⟩ := hP'
  obtain ⟨lt, ec, rc, fc, br, tg, ct, ao, cc, pc, pa, na, fr, ft, rt, rf, va, ex, bt, bf, bv⟩ := u
  obtain ⟨cn2, lt2, dr2, ru2, fi2, le2, br2, bl2, tg2, ty2, fd2, dp2, dn2, sz2, pa2, no2, ac2, fr2, ft2, ro2, bo2, sa2, mi2, be2, bt2, bb2⟩ := v
  obtain ⟨rfl, rfl, rfl, rfl, hE, hXR, hFl⟩ := hX
  obtain ⟨rfl, rfl, rfl, rfl, rfl, hE2, hYR, hFl2⟩ := hY
  unfold wpX_fitting
  by_cases a1 : v1 < 0
  · refine br_t a1 (br_t rfl ?_)
    unfold wpY_fitting
    exact br_t a1 (br_f (by decide) ⟨rfl, J⟩)
  · obtain ⟨p, hp, rfl⟩ := nI_of a1
    by_cases a2 : p < 32000
    · refine br_f a1 (br_f (nI_ge (b := 32000) a2 (by omega)) (br_f (by decide) ?_))
      refine xm_ca (fun va' hva => ?_)
      refine xm_cf hva a2 h2 hE (fun i hi => (h3.2 i hi).2.2) (fun ex' => ?_) _ rfl
      unfold wpY_fitting
      refine br_f a1 (br_t (nI_le (b := 31999) (by omega) (by omega)) (br_t rfl ?_))
      refine ym_ft a2 h2 hE2 (fun i hi => (h4.2 i hi).2.2) (fun bo sa => ?_)
      exact ⟨congrArg nI (rm_cfe h4.1 h3.1 h6 h5 (fun x => (rm_fs (fun _ => -1) p x).isSome)), rm_mk ⟨rfl, rfl, rfl, rfl, hE, hXR, hFl⟩ ⟨rfl, rfl, rfl, rfl, rfl, hE2, hYR, hFl2⟩ hP (by omega) hU⟩
    · refine br_f a1 (br_t (nI_le (a := 32000) (by omega) (by omega)) (br_t rfl ?_))
      unfold wpY_fitting
      exact br_f a1 (br_f (nI_ge (a := 31999) (by omega) (by omega)) (br_f (by decide) ⟨rfl, J⟩))
end
section
theorem i_vc_fire {k : Nat} {u : SX} {v : SY} (I : i_Rel k u v) (hk : k + 3 ≤ 1536) : wpX_fire (fun r u' => wpY_fire (fun r' v' => r' = r ∧ i_Rel (k + 3) u' v') v) u := by
  obtain ⟨n, l, m, T, C, U, B, Z, Q, P, N, LX, LY, hX, hY, hP, hU⟩ := I
  obtain ⟨r, n', l', T', C', U', B', LX', LY', hP2, hXf, hYf⟩ := rm_fire2 (m := m) (Z := Z) (Q := Q) (P := P) (N := N) hP hU (by omega)
  refine hXf _ _ hX (fun u' hu' => ?_)
  obtain ⟨cn2, lt2, dr2, ru2, fi2, le2, br2, bl2, tg2, ty2, fd2, dp2, dn2, sz2, pa2, no2, ac2, fr2, ft2, ro2, bo2, sa2, mi2, be2, bt2, bb2⟩ := v
  unfold wpY_fire
  refine hYf _ _ hY (fun v' hv' => ?_)
  obtain ⟨cn, lt, dr, ru, fi, le, br, bl, tg, ty, fd, dp, dn, sz, pa, no, ac, fr, ft, ro, bo, sa, mi, be, bt, bb⟩ := v'
  exact ⟨rfl, rm_mk hu' hv' hP2 (by omega) hU⟩
theorem i_vc_run {k : Nat} {u : SX} {v : SY} (I : i_Rel k u v) (hk : k + 3 ≤ 1536) (v1 : Int32) : wpX_run (fun r u' => wpY_run (fun r' v' => r' = r ∧ i_Rel (k + 3) u' v') v v1) u v1 := by
  have J := i_up I
  obtain ⟨n, l, m, T, C, U, B, Z, Q, P, N, LX, LY, hX, hY, hP, hU⟩ := I
  have hX' := hX
  have hY' := hY
  obtain ⟨lt, ec, rc, fc, br, tg, ct, ao, cc, pc, pa, na, fr, ft, rt, rf, va, ex, bt, bf, bv⟩ := u
  obtain ⟨cn2, lt2, dr2, ru2, fi2, le2, br2, bl2, tg2, ty2, fd2, dp2, dn2, sz2, pa2, no2, ac2, fr2, ft2, ro2, bo2, sa2, mi2, be2, bt2, bb2⟩ := v
  by_cases a1 : v1 < 1
  · exact br_t a1 (br_t a1 ⟨rfl, J⟩)
  · have a0 : ¬ v1 < 0 := fun z => a1 (Int32.lt_trans z (by decide))
    obtain ⟨c, hc, rfl⟩ := nI_of a0
    by_cases a2 : c ≤ 30
    · have q2 : nI c ≤ 30 := nI_le (b := 30) a2 (by omega)
      refine br_f a1 (br_t q2 ⟨c + 1, ?_⟩)
      have e : 10 * k + 30 = 10 * (k + 3) := by omega
      have R := rm_run (b := 10 * k) (c := c) (v1 := nI c) (v := (cn2, lt2, dr2, ru2, fi2, le2, br2, bl2, tg2, ty2, fd2, dp2, dn2, sz2, pa2, no2, ac2, fr2, ft2, ro2, bo2, sa2, mi2, be2, bt2, bb2)) a2 (by omega) hU c 0 n l T C U B LX LY (by omega) hP (fun post hpost => br_f a1 (br_t q2 ⟨c + 1, hpost _ hY' (c + 1) (by omega)⟩)) _ _ _ _ _ _ _ _ _ _ _ _ _ _ _ _ _ _ _ _ _ hX'
      rw [e] at R
      exact R
    · have q2 : ¬ nI c ≤ 30 := nI_ge (a := 30) (by omega) (by omega)
      exact br_f a1 (br_f q2 (br_f a1 (br_f q2 ⟨rfl, J⟩)))
end
