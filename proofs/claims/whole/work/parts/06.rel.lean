/-- the numbers of fired matches are small -/
def rm_LB (L : List rm_Fi) : Prop := ∀ x, x ∈ L → x.1 < 8 ∧ x.2.1 < 1048576 ∧ x.2.2.1 < 1048576 ∧ x.2.2.2 < 1048576
def rm_bI (b : Bool) : Int32 := if b = true then 1 else 0
def rm_w (f : Nat → Nat) (k x : Nat) : Nat → Nat := fun j => if j = k then x else f j
theorem rm_w_s {f : Nat → Nat} {k x : Nat} : rm_w f k x k = x := if_pos rfl
theorem rm_w_n {f : Nat → Nat} {k x j : Nat} (h : j ≠ k) : rm_w f k x j = f j := if_neg h
def rm_PE (n l : Nat) (T C : Nat → Nat) : Prop := rm_in T n ∧ ∀ i, i < n → 0 < T i ∧ T i ≤ l ∧ C i < 16384
def rm_PU (m : Nat) (sz ac : Nat → Nat) (P : Nat → Nat → Nat) (N : Nat → Nat → Bool) : Prop :=
  m ≤ 5 ∧ (∀ r, r ≤ m → sz r ≤ 3 ∧ (∀ i, i < sz r → P r i < 32000) ∧ (0 < sz r → N r 0 = false)) ∧ (∀ r, r < m → 0 < sz r ∧ ac r < 32004 ∧ (ac r < 4 → ac r ≤ rm_pc (N r) (sz r)))
def rm_PL (n l : Nat) (T : Nat → Nat) (LX LY : List rm_Fi) : Prop :=
  LX = LY.filter (rm_al T n) ∧ LY.length ≤ 40 ∧ (∀ x, x ∈ LY → x.2.1 ≤ l ∧ x.2.2.1 ≤ l ∧ x.2.2.2 ≤ l) ∧ ∀ x, x ∈ LY → x.1 < 8
def rm_PP (b n l : Nat) (T C U B : Nat → Nat) (LX LY : List rm_Fi) : Prop :=
  l ≤ b ∧ n ≤ 12 ∧ rm_PE n l T C ∧ rm_PE n l U B ∧ rm_em T C U B n ∧ rm_em U B T C n ∧ rm_PL n l T LX LY
theorem rm_PP_up {b b' n l : Nat} {T C U B : Nat → Nat} {LX LY : List rm_Fi} (h : rm_PP b n l T C U B LX LY) (hb : b ≤ b') : rm_PP b' n l T C U B LX LY := by
  obtain ⟨h1, h2⟩ := h
  exact ⟨by omega, h2⟩
theorem rm_PE_mk {n l c : Nat} {T C : Nat → Nat} (h : rm_PE n l T C) (hc : c < 16384) : rm_PE (n + 1) (l + 1) (rm_w T n (l + 1)) (rm_w C n c) := by
  obtain ⟨h1, h2⟩ := h
  refine ⟨fun i j hi hj e => ?_, fun i hi => ?_⟩
  · by_cases z : i = n
    · by_cases y : j = n
      · omega
      · rw [z, rm_w_s, rm_w_n y] at e
        have := h2 j (by omega)
        omega
    · by_cases y : j = n
      · rw [y, rm_w_s, rm_w_n z] at e
        have := h2 i (by omega)
        omega
      · rw [rm_w_n z, rm_w_n y] at e
        exact h1 i j (by omega) (by omega) e
  · by_cases z : i = n
    · rw [z, rm_w_s, rm_w_s]
      omega
    · rw [rm_w_n z, rm_w_n z]
      have := h2 i (by omega)
      omega
theorem rm_PP_mk {b n l c : Nat} {T C U B : Nat → Nat} {LX LY : List rm_Fi} (h : rm_PP b n l T C U B LX LY) (hn : n < 12) (hc : c < 16384) : rm_PP (b + 1) (n + 1) (l + 1) (rm_w T n (l + 1)) (rm_w C n c) (rm_w U n (l + 1)) (rm_w B n c) LX LY := by
  obtain ⟨h1, h2, h3, h4, h5, h6, h7, h8, h9, h10⟩ := h
  have w : ∀ (f g : Nat → Nat) (x y : Nat), ∀ i, i < n → rm_w f n x i = f i ∧ rm_w g n y i = g i := fun f g x y i hi => ⟨rm_w_n (by omega), rm_w_n (by omega)⟩
  refine ⟨by omega, by omega, rm_PE_mk h3 hc, rm_PE_mk h4 hc, ?_, ?_, ?_, h8, ?_, h10⟩
  · exact rm_mk_em h5 (w _ _ _ _) (w _ _ _ _) (by rw [rm_w_s, rm_w_s]) (by rw [rm_w_s, rm_w_s])
  · exact rm_mk_em h6 (w _ _ _ _) (w _ _ _ _) (by rw [rm_w_s, rm_w_s]) (by rw [rm_w_s, rm_w_s])
  · rw [h7]
    exact (rm_mk_al (T := T) (T' := rm_w T n (l + 1)) (fun i hi => rm_w_n (by omega)) rm_w_s LY h9).symm
  · intro x hx
    have := h9 x hx
    omega
def rm_dx (f : Nat → Nat) (n i : Nat) : Nat → Nat := fun j => if j = i then f n else f j
def rm_dy (f : Nat → Nat) (i : Nat) : Nat → Nat := fun j => if j < i then f j else f (j + 1)
theorem rm_PE_dr {n l i : Nat} {T C T' C' f : Nat → Nat} (h : rm_PE (n + 1) l T C) (d : rm_dr T C T' C' n i f) : rm_PE n l T' C' := by
  refine ⟨rm_dr_in d h.1, fun j hj => ?_⟩
  obtain ⟨a1, a2, a3, a4⟩ := d.1 j hj
  rw [a3, a4]
  exact h.2 _ a1
theorem rm_PP_dr {b n l i i' : Nat} {T C U B : Nat → Nat} {LX LY : List rm_Fi} (h : rm_PP b (n + 1) l T C U B LX LY) (hi : i < n + 1) (hi' : i' < n + 1) (e : T i = U i') : rm_PP b n l (rm_dx T n i) (rm_dx C n i) (rm_dy U i') (rm_dy B i') (LX.filter (rm_nt (T i))) LY := by
  obtain ⟨h1, h2, h3, h4, h5, h6, h7, h8, h9, h10⟩ := h
  have dx := rm_dr_x (T := T) (C := C) hi
  have dy := rm_dr_y (T := U) (C := B) hi'
  have t0 := h3.2 i hi
  refine ⟨h1, by omega, rm_PE_dr h3 dx, rm_PE_dr h4 dy, rm_dr_em dx dy hi h3.1 h5 e, rm_dr_em dy dx hi' h4.1 h6 e.symm, ?_, h8, h9, h10⟩
  rw [h7]
  exact rm_dr_al dx hi h3.1 (by omega) LY
theorem rm_PP_nil {b n l : Nat} {T C U B : Nat → Nat} {LX LY : List rm_Fi} (h : rm_PP b n l T C U B LX LY) : rm_PP b n l T C U B [] [] := by
  obtain ⟨h1, h2, h3, h4, h5, h6, h7, h8, h9, h10⟩ := h
  exact ⟨h1, h2, h3, h4, h5, h6, rfl, Nat.zero_le _, (fun x hx => by cases hx), fun x hx => by cases hx⟩
theorem rm_PP_len {b n l : Nat} {T C U B : Nat → Nat} {LX LY : List rm_Fi} (h : rm_PP b n l T C U B LX LY) : LX.length ≤ 40 := by
  obtain ⟨h1, h2, h3, h4, h5, h6, h7, h8, h9, h10⟩ := h
  rw [h7]
  exact Nat.le_trans (List.length_filter_le _ _) h8
theorem rm_PP_mem {b n l : Nat} {T C U B : Nat → Nat} {LX LY : List rm_Fi} (h : rm_PP b n l T C U B LX LY) : ∀ x, rm_al T n x = true → (x ∈ LX ↔ x ∈ LY) := by
  obtain ⟨h1, h2, h3, h4, h5, h6, h7, h8, h9, h10⟩ := h
  intro x hx
  rw [h7, List.mem_filter]
  exact ⟨fun z => z.1, fun z => ⟨z, hx⟩⟩
/-- the reference forgets: both rows are the same then -/
theorem rm_PP_fg {b n l : Nat} {T C U B : Nat → Nat} {LX LY : List rm_Fi} (h : rm_PP b n l T C U B LX LY) : rm_PP b n l T C U B LX LX ∧ LY.filter (rm_al U n) = LX := by
  have hl := rm_PP_len h
  obtain ⟨h1, h2, h3, h4, h5, h6, h7, h8, h9, h10⟩ := h
  refine ⟨⟨h1, h2, h3, h4, h5, h6, ?_, hl, ?_, ?_⟩, ?_⟩
  · rw [List.filter_eq_self.mpr]
    intro x hx
    rw [h7, List.mem_filter] at hx
    exact hx.2
  · intro x hx
    rw [h7, List.mem_filter] at hx
    exact h9 x hx.1
  · intro x hx
    rw [h7, List.mem_filter] at hx
    exact h10 x hx.1
  · rw [h7, rm_al_c h5 h6]
theorem rm_PP_app {b n l : Nat} {T C U B : Nat → Nat} {L : List rm_Fi} {x : rm_Fi} (h : rm_PP b n l T C U B L L) (hl : L.length < 40) (hx : rm_al T n x = true) (h8x : x.1 < 8) : rm_PP b n l T C U B (L ++ [x]) (L ++ [x]) := by
  obtain ⟨h1, h2, h3, h4, h5, h6, h7, h8, h9, h10⟩ := h
  refine ⟨h1, h2, h3, h4, h5, h6, ?_, ?_, ?_, ?_⟩
  · rw [List.filter_append, ← h7]
    simp [hx]
  · rw [List.length_append]
    show L.length + 1 ≤ 40
    omega
  · intro y hy
    rw [List.mem_append] at hy
    rcases hy with hy | hy
    · exact h9 y hy
    · have e : y = x := by simpa using hy
      rw [e]
      rw [rm_al_i, rm_e1_i, rm_e1_i, rm_e1_i] at hx
      have q : ∀ s, (s = 0 ∨ ∃ i, i < n ∧ T i = s) → s ≤ l := by
        rintro s (z | ⟨i, hi, z⟩)
        · omega
        · have := h3.2 i hi
          omega
      exact ⟨q _ hx.1, q _ hx.2.1, q _ hx.2.2⟩
  · intro y hy
    rw [List.mem_append] at hy
    rcases hy with hy | hy
    · exact h10 y hy
    · have e : y = x := by simpa using hy
      rw [e]; exact h8x
/-- rules -/
theorem rm_PU_cond {m p : Nat} {sz ac : Nat → Nat} {P : Nat → Nat → Nat} {N : Nat → Nat → Bool} {g : Bool} (h : rm_PU m sz ac P N) (hs : sz m < 3) (hp : p < 32000) (hg : sz m = 0 → g = false) :
    rm_PU m (rm_w sz m (sz m + 1)) ac (fun r i => if r = m ∧ i = sz m then p else P r i) (fun r i => if r = m ∧ i = sz m then g else N r i) := by
  obtain ⟨h1, h2, h3⟩ := h
  refine ⟨h1, fun r hr => ?_, fun r hr => ?_⟩
  · by_cases e : r = m
    · subst e
      rw [rm_w_s]
      refine ⟨by omega, fun i hi => ?_, fun _ => ?_⟩
      · by_cases z : i = sz r
        · show (if r = r ∧ i = sz r then p else P r i) < 32000
          rw [if_pos ⟨rfl, z⟩]; exact hp
        · show (if r = r ∧ i = sz r then p else P r i) < 32000
          rw [if_neg (fun y => z y.2)]
          exact (h2 r hr).2.1 i (by omega)
      · show (if r = r ∧ 0 = sz r then g else N r 0) = false
        by_cases z : 0 = sz r
        · rw [if_pos ⟨rfl, z⟩]; exact hg z.symm
        · rw [if_neg (fun y => z y.2)]
          exact (h2 r hr).2.2 (by omega)
    · rw [rm_w_n e]
      obtain ⟨a, b, c⟩ := h2 r hr
      refine ⟨a, fun i hi => ?_, fun z => ?_⟩
      · show (if r = m ∧ i = sz m then p else P r i) < 32000
        rw [if_neg (fun y => e y.1)]; exact b i hi
      · show (if r = m ∧ 0 = sz m then g else N r 0) = false
        rw [if_neg (fun y => e y.1)]; exact c z
  · have e : r ≠ m := by omega
    rw [rm_w_n e]
    obtain ⟨a, b, c⟩ := h3 r hr
    refine ⟨a, b, fun z => ?_⟩
    have q : rm_pc (fun i => if r = m ∧ i = sz m then g else N r i) (sz r) = rm_pc (N r) (sz r) := by
      apply rm_pc_c
      intro i _
      exact if_neg (fun y => e y.1)
    show ac r ≤ rm_pc (fun i => if r = m ∧ i = sz m then g else N r i) (sz r)
    rw [q]
    exact c z
theorem rm_PU_rule {m a : Nat} {sz ac : Nat → Nat} {P : Nat → Nat → Nat} {N : Nat → Nat → Bool} (h : rm_PU m sz ac P N) (hm : m < 5) (hs : 0 < sz m) (ha : a < 32004) (hp : a < 4 → a ≤ rm_pc (N m) (sz m)) :
    rm_PU (m + 1) (rm_w sz (m + 1) 0) (rm_w ac m a) P N := by
  obtain ⟨h1, h2, h3⟩ := h
  refine ⟨by omega, fun r hr => ?_, fun r hr => ?_⟩
  · by_cases e : r = m + 1
    · rw [e, rm_w_s]
      exact ⟨by omega, fun i hi => absurd hi (Nat.not_lt_zero i), fun z => absurd z (by omega)⟩
    · rw [rm_w_n e]
      exact h2 r (by omega)
  · have e : r ≠ m + 1 := by omega
    rw [rm_w_n e]
    by_cases z : r = m
    · subst z
      rw [rm_w_s]
      exact ⟨hs, ha, hp⟩
    · rw [rm_w_n z]
      exact h3 r (by omega)
theorem rm_PU_clear {sz ac : Nat → Nat} {P : Nat → Nat → Nat} {N : Nat → Nat → Bool} : rm_PU 0 (rm_w sz 0 0) ac P N := by
  refine ⟨by omega, fun r hr => ?_, fun r hr => absurd hr (Nat.not_lt_zero r)⟩
  have e : r = 0 := by omega
  rw [e, rm_w_s]
  exact ⟨by omega, fun i hi => absurd hi (Nat.not_lt_zero i), fun z => absurd z (by omega)⟩
theorem rm_pc_1 {m : Nat} {sz ac : Nat → Nat} {P : Nat → Nat → Nat} {N : Nat → Nat → Bool} (h : rm_PU m sz ac P N) {r : Nat} (hr : r < m) : 1 ≤ rm_pc (N r) (sz r) ∧ rm_pc (N r) (sz r) ≤ 3 := by
  obtain ⟨h1, h2, h3⟩ := h
  obtain ⟨a, b, c⟩ := h2 r (by omega)
  have d := (h3 r hr).1
  have e : rm_pc (N r) 1 = 1 := by
    show 0 + (if N r 0 = true then 0 else 1) = 1
    rw [c d]
    rfl
  have f := rm_pc_m (N r) (i := 1) (j := sz r) (by omega)
  have g := rm_pc_b (N r) (sz r)
  omega
theorem rm_PP_lb {b n l : Nat} {T C U B : Nat → Nat} {LX LY : List rm_Fi} (h : rm_PP b n l T C U B LX LY) (hl : l < 1048576) : rm_LB LX ∧ rm_LB LY := by
  obtain ⟨h1, h2, h3, h4, h5, h6, h7, h8, h9, h10⟩ := h
  have q : rm_LB LY := by
    intro x hx
    have a := h9 x hx
    have c := h10 x hx
    omega
  refine ⟨?_, q⟩
  intro x hx
  rw [h7, List.mem_filter] at hx
  exact q x hx.1
