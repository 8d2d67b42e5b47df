/-- how many i below n -/
def rm_cn (f : Nat → Bool) : Nat → Nat
  | 0 => 0
  | i + 1 => rm_cn f i + (if f i = true then 1 else 0)
theorem rm_cn_c {f g : Nat → Bool} : ∀ n, (∀ i, i < n → f i = g i) → rm_cn f n = rm_cn g n := by
  intro n
  induction n with
  | zero => intro _; rfl
  | succ n ih =>
    intro h
    show rm_cn f n + _ = rm_cn g n + _
    rw [ih (fun i hi => h i (by omega)), h n (by omega)]
theorem rm_cn_b (f : Nat → Bool) : ∀ n, rm_cn f n ≤ n := by
  intro n
  induction n with
  | zero => exact Nat.le_refl 0
  | succ n ih =>
    show rm_cn f n + _ ≤ n + 1
    split <;> omega
theorem rm_cn_0 {f : Nat → Bool} : ∀ n, (∀ i, i < n → f i = false) → rm_cn f n = 0 := by
  intro n
  induction n with
  | zero => intro _; rfl
  | succ n ih =>
    intro h
    show rm_cn f n + _ = 0
    rw [ih (fun i hi => h i (by omega)), h n (by omega)]
    rfl
theorem rm_cn_p {f : Nat → Bool} {j : Nat} (hf : f j = true) : ∀ n, j < n → rm_cn f n ≠ 0 := by
  intro n
  induction n with
  | zero => intro h; omega
  | succ n ih =>
    intro h
    show rm_cn f n + _ ≠ 0
    by_cases e : j = n
    · rw [← e, if_pos hf]; omega
    · have := ih (by omega); omega
theorem rm_cn_rm {g : Nat → Bool} {j : Nat} (hg : g j = true) : ∀ m, j < m → rm_cn g m = rm_cn (fun i => g i && !(decide (i = j))) m + 1 := by
  intro m
  induction m with
  | zero => intro h; omega
  | succ m ih =>
    intro h
    show rm_cn g m + (if g m = true then 1 else 0) = rm_cn (fun i => g i && !(decide (i = j))) m + (if (g m && !(decide (m = j))) = true then 1 else 0) + 1
    by_cases e : m = j
    · have z : (g m && !(decide (m = j))) = false := by simp [e]
      have y : rm_cn (fun i => g i && !(decide (i = j))) m = rm_cn g m := by
        apply rm_cn_c
        intro i hi
        have : i ≠ j := by omega
        simp [this]
      rw [z, y]
      subst e
      simp [hg]
    · have z : (g m && !(decide (m = j))) = g m := by simp [e]
      rw [z, ih (by omega)]
      split <;> omega
theorem rm_cn_le : ∀ (n : Nat) {f g : Nat → Bool} {m : Nat} {h : Nat → Nat}, (∀ i, i < n → f i = true → h i < m ∧ g (h i) = true) → (∀ i k, i < n → k < n → h i = h k → i = k) → rm_cn f n ≤ rm_cn g m := by
  intro n
  induction n with
  | zero => intro f g m h _ _; exact Nat.zero_le _
  | succ n ih =>
    intro f g m h H J
    show rm_cn f n + (if f n = true then 1 else 0) ≤ rm_cn g m
    by_cases fn : f n = true
    · obtain ⟨a, b⟩ := H n (by omega) fn
      rw [rm_cn_rm b m a, if_pos fn]
      apply Nat.add_le_add_right
      apply ih (h := h)
      · intro i hi fi
        obtain ⟨c, d⟩ := H i (by omega) fi
        refine ⟨c, ?_⟩
        have : h i ≠ h n := fun z => by
          have := J i n (by omega) (by omega) z
          omega
        simp [d, this]
      · intro i k hi hk z
        exact J i k (by omega) (by omega) z
    · rw [if_neg fn]
      exact ih (h := h) (fun i hi fi => H i (by omega) fi) (fun i k hi hk z => J i k (by omega) (by omega) z)
/-- every element of the one is one of the other -/
def rm_em (T C T' C' : Nat → Nat) (n : Nat) : Prop := ∀ i, i < n → ∃ j, j < n ∧ T' j = T i ∧ C' j = C i
def rm_in (T : Nat → Nat) (n : Nat) : Prop := ∀ i j, i < n → j < n → T i = T j → i = j
theorem rm_sg {T C T' C' : Nat → Nat} {n : Nat} (h : rm_em T C T' C' n) : ∃ s : Nat → Nat, ∀ i, (i < n → s i < n ∧ T' (s i) = T i ∧ C' (s i) = C i) ∧ (¬ i < n → s i = i) := by
  have e : ∀ i, ∃ j, (i < n → j < n ∧ T' j = T i ∧ C' j = C i) ∧ (¬ i < n → j = i) := by
    intro i
    by_cases hi : i < n
    · obtain ⟨j, h1, h2, h3⟩ := h i hi
      exact ⟨j, fun _ => ⟨h1, h2, h3⟩, fun z => absurd hi z⟩
    · exact ⟨i, fun z => absurd z hi, fun _ => rfl⟩
  exact ⟨fun i => Classical.choose (e i), fun i => Classical.choose_spec (e i)⟩
theorem rm_sg_i {T C T' C' : Nat → Nat} {n : Nat} {s : Nat → Nat} (hT : rm_in T n) (hs : ∀ i, (i < n → s i < n ∧ T' (s i) = T i ∧ C' (s i) = C i) ∧ (¬ i < n → s i = i)) (i k : Nat) (e : s i = s k) : i = k := by
  by_cases hi : i < n
  · have a := (hs i).1 hi
    by_cases hk : k < n
    · have b := (hs k).1 hk
      exact hT i k hi hk (by rw [← a.2.1, ← b.2.1, e])
    · have b := (hs k).2 hk
      omega
  · have a := (hs i).2 hi
    by_cases hk : k < n
    · have b := (hs k).1 hk
      omega
    · have b := (hs k).2 hk
      omega
theorem rm_cf {T C T' C' : Nat → Nat} {n : Nat} (hT : rm_in T n) (h : rm_em T C T' C' n) (φ : Nat → Bool) : rm_cn (fun i => φ (C i)) n ≤ rm_cn (fun i => φ (C' i)) n := by
  obtain ⟨s, hs⟩ := rm_sg h
  apply rm_cn_le n (h := s)
  · intro i hi fi
    have a := (hs i).1 hi
    exact ⟨a.1, by show φ (C' (s i)) = true; rw [a.2.2]; exact fi⟩
  · intro i k _ _ e
    exact rm_sg_i hT hs i k e
theorem rm_cfe {T C T' C' : Nat → Nat} {n : Nat} (hT : rm_in T n) (hT' : rm_in T' n) (h : rm_em T C T' C' n) (h' : rm_em T' C' T C n) (φ : Nat → Bool) : rm_cn (fun i => φ (C i)) n = rm_cn (fun i => φ (C' i)) n :=
  Nat.le_antisymm (rm_cf hT h φ) (rm_cf hT' h' φ)
/-- a code's digits, one by one through s -/
def rm_hh (s : Nat → Nat) : Nat → Nat → Nat
  | 0, _ => 0
  | k + 1, c => s (c % 12) + 12 * rm_hh s k (c / 12)
def rm_D (c k : Nat) : Nat := c / 12 ^ k % 12
theorem rm_hh_lt {s : Nat → Nat} (hs : ∀ i, i < 12 → s i < 12) : ∀ k c, rm_hh s k c < 12 ^ k := by
  intro k
  induction k with
  | zero => intro c; exact Nat.zero_lt_one
  | succ k ih =>
    intro c
    show s (c % 12) + 12 * rm_hh s k (c / 12) < 12 ^ (k + 1)
    have a := hs (c % 12) (Nat.mod_lt _ (by omega))
    have b := ih (c / 12)
    rw [Nat.pow_succ]
    generalize 12 ^ k = q at *
    omega
theorem rm_hh_d {s : Nat → Nat} (hs : ∀ i, i < 12 → s i < 12) : ∀ p k c, k < p → rm_D (rm_hh s p c) k = s (rm_D c k) := by
  intro p
  induction p with
  | zero => intro k c h; omega
  | succ p ih =>
    intro k c h
    have a := hs (c % 12) (Nat.mod_lt _ (by omega))
    unfold rm_D
    show (s (c % 12) + 12 * rm_hh s p (c / 12)) / 12 ^ k % 12 = s (c / 12 ^ k % 12)
    cases k with
    | zero =>
      rw [Nat.pow_zero, Nat.div_one, Nat.div_one]
      omega
    | succ k =>
      have b := ih k (c / 12) (by omega)
      unfold rm_D at b
      rw [Nat.pow_succ', ← Nat.div_div_eq_div_mul, ← Nat.div_div_eq_div_mul]
      have e : (s (c % 12) + 12 * rm_hh s p (c / 12)) / 12 = rm_hh s p (c / 12) := by omega
      rw [e]
      exact b
theorem rm_hh_i {s : Nat → Nat} (hs : ∀ i, i < 12 → s i < 12) (hi : ∀ i k, s i = s k → i = k) : ∀ p c c', c < 12 ^ p → c' < 12 ^ p → rm_hh s p c = rm_hh s p c' → c = c' := by
  intro p
  induction p with
  | zero =>
    intro c c' h h' _
    rw [Nat.pow_zero] at h h'
    omega
  | succ p ih =>
    intro c c' h h' e
    have a := hs (c % 12) (Nat.mod_lt _ (by omega))
    have a' := hs (c' % 12) (Nat.mod_lt _ (by omega))
    have e2 : s (c % 12) + 12 * rm_hh s p (c / 12) = s (c' % 12) + 12 * rm_hh s p (c' / 12) := e
    have e3 : s (c % 12) = s (c' % 12) := by omega
    have e4 : rm_hh s p (c / 12) = rm_hh s p (c' / 12) := by omega
    have e5 := hi _ _ e3
    rw [Nat.pow_succ] at h h'
    have e6 := ih (c / 12) (c' / 12) (by generalize 12 ^ p = q at *; omega) (by generalize 12 ^ p = q at *; omega) e4
    omega
/-- how many of the first conditions are positive -/
def rm_pc (N : Nat → Bool) : Nat → Nat
  | 0 => 0
  | j + 1 => rm_pc N j + (if N j = true then 0 else 1)
theorem rm_pc_b (N : Nat → Bool) : ∀ j, rm_pc N j ≤ j := by
  intro j
  induction j with
  | zero => exact Nat.le_refl 0
  | succ j ih =>
    show rm_pc N j + _ ≤ j + 1
    split <;> omega
theorem rm_pc_m (N : Nat → Bool) {i j : Nat} (h : i ≤ j) : rm_pc N i ≤ rm_pc N j := by
  induction j with
  | zero => have : i = 0 := by omega
            rw [this]; exact Nat.le_refl _
  | succ j ih =>
    by_cases e : i = j + 1
    · rw [e]; exact Nat.le_refl _
    · exact Nat.le_trans (ih (by omega)) (Nat.le_add_right _ _)
theorem rm_pc_c {N N' : Nat → Bool} : ∀ j, (∀ i, i < j → N i = N' i) → rm_pc N j = rm_pc N' j := by
  intro j
  induction j with
  | zero => intro _; rfl
  | succ j ih =>
    intro h
    show rm_pc N j + _ = rm_pc N' j + _
    rw [ih (fun i hi => h i (by omega)), h j (by omega)]
def rm_fits (A : Nat → Int32) (p : Nat) (C : Nat → Nat) : Nat → Bool := fun i => (rm_fs A p (C i)).isSome
/-- one condition -/
def rm_st (T C : Nat → Nat) (n : Nat) (D : Nat → Nat) (p : Nat) (ng : Bool) (k : Nat) (s : (Nat → Int32) × (Nat → Nat)) : Option ((Nat → Int32) × (Nat → Nat)) :=
  if ng = true then (if rm_cn (rm_fits s.1 p C) n = 0 then some s else none)
  else if D k < n then (rm_fs s.1 p (C (D k))).bind (fun B => some (B, fun j => if j = k then T (D k) else s.2 j)) else none
/-- the first conditions, in order -/
def rm_ps (T C : Nat → Nat) (n : Nat) (D : Nat → Nat) (P : Nat → Nat) (N : Nat → Bool) : Nat → Option ((Nat → Int32) × (Nat → Nat))
  | 0 => some (fun _ => -1, fun _ => 0)
  | j + 1 => (rm_ps T C n D P N j).bind (rm_st T C n D (P j) (N j) (rm_pc N j))
theorem rm_ps_eq {T C T' C' : Nat → Nat} {n : Nat} {D D' : Nat → Nat} {P : Nat → Nat} {N : Nat → Bool}
    (hc : ∀ A p, rm_cn (rm_fits A p C) n = rm_cn (rm_fits A p C') n) : ∀ j,
    (∀ k, k < rm_pc N j → (D k < n ∧ D' k < n ∧ T (D k) = T' (D' k) ∧ C (D k) = C' (D' k)) ∨ (¬ D k < n ∧ ¬ D' k < n)) →
    rm_ps T C n D P N j = rm_ps T' C' n D' P N j := by
  intro j
  induction j with
  | zero => intro _; rfl
  | succ j ih =>
    intro h
    have i := ih (fun k hk => h k (Nat.lt_of_lt_of_le hk (Nat.le_add_right _ _)))
    show (rm_ps T C n D P N j).bind (rm_st T C n D (P j) (N j) (rm_pc N j)) = (rm_ps T' C' n D' P N j).bind (rm_st T' C' n D' (P j) (N j) (rm_pc N j))
    rw [i]
    refine congrArg (fun q => Option.bind (rm_ps T' C' n D' P N j) q) (funext fun s => ?_)
    unfold rm_st
    by_cases ng : N j = true
    · rw [if_pos ng, if_pos ng, hc]
    · rw [if_neg ng, if_neg ng]
      have hk := h (rm_pc N j) (by show _ < rm_pc N j + (if N j = true then 0 else 1); rw [if_neg ng]; omega)
      rcases hk with ⟨a, b, c, d⟩ | ⟨a, b⟩
      · rw [if_pos a, if_pos b, c, d]
      · rw [if_neg a, if_neg b]
theorem rm_ps_n {T C : Nat → Nat} {n : Nat} {D : Nat → Nat} {P : Nat → Nat} {N : Nat → Bool} {i : Nat} (h : rm_ps T C n D P N i = none) : ∀ j, i ≤ j → rm_ps T C n D P N j = none := by
  intro j
  induction j with
  | zero => intro hj; have : i = 0 := by omega
            rw [← this]; exact h
  | succ j ih =>
    intro hj
    by_cases e : i = j + 1
    · rw [← e]; exact h
    · show (rm_ps T C n D P N j).bind _ = none
      rw [ih (by omega)]
      rfl
theorem rm_ps_g {T C : Nat → Nat} {n : Nat} {D : Nat → Nat} {P : Nat → Nat} {N : Nat → Bool} : ∀ j s, rm_ps T C n D P N j = some s → rm_va s.1 ∧ (∀ k, k < rm_pc N j → D k < n ∧ s.2 k = T (D k)) ∧ (∀ k, ¬ k < rm_pc N j → s.2 k = 0) := by
  intro j
  induction j with
  | zero =>
    intro s h
    have h0 : some ((fun _ => (-1 : Int32)), (fun _ => (0 : Nat))) = some s := h
    cases h0
    exact ⟨rm_va_0, fun k hk => absurd hk (Nat.not_lt_zero k), fun _ _ => rfl⟩
  | succ j ih =>
    intro s h
    have h' : (rm_ps T C n D P N j).bind (rm_st T C n D (P j) (N j) (rm_pc N j)) = some s := h
    obtain ⟨s1, h1, h2⟩ := Option.bind_eq_some_iff.mp h'
    obtain ⟨i1, i2, i3⟩ := ih s1 h1
    have hp : rm_pc N (j + 1) = rm_pc N j + (if N j = true then 0 else 1) := rfl
    unfold rm_st at h2
    by_cases ng : N j = true
    · rw [if_pos ng] at h2 hp
      by_cases z : rm_cn (rm_fits s1.1 (P j) C) n = 0
      · rw [if_pos z] at h2
        cases h2
        rw [hp]
        exact ⟨i1, i2, i3⟩
      · rw [if_neg z] at h2; cases h2
    · rw [if_neg ng] at h2 hp
      by_cases d : D (rm_pc N j) < n
      · rw [if_pos d] at h2
        obtain ⟨B, h3, h4⟩ := Option.bind_eq_some_iff.mp h2
        cases h4
        rw [hp]
        refine ⟨rm_va_f i1 h3, fun k hk => ?_, fun k hk => ?_⟩
        · by_cases e : k = rm_pc N j
          · rw [e]; exact ⟨d, if_pos rfl⟩
          · have a := i2 k (by omega)
            exact ⟨a.1, (if_neg e).trans a.2⟩
        · have e : k ≠ rm_pc N j := by omega
          exact (if_neg e).trans (i3 k (by omega))
      · rw [if_neg d] at h2; cases h2
