def rm_ent (fr ft : Nat → Int32) (i : Nat) (x : rm_Fi) : Prop := fr i = nI x.1 ∧ ft (3 * i) = nI x.2.1 ∧ ft (3 * i + 1) = nI x.2.2.1 ∧ ft (3 * i + 2) = nI x.2.2.2
/-- the arrays hold the row of fired matches -/
def rm_Fl (fr ft : Nat → Int32) (L : List rm_Fi) : Prop := ∀ i x, L[i]? = some x → rm_ent fr ft i x
theorem rm_lt_of {L : List rm_Fi} {i : Nat} {x : rm_Fi} (h : L[i]? = some x) : i < L.length := by
  apply Decidable.byContradiction
  intro z
  rw [List.getElem?_eq_none (by omega)] at h
  cases h
theorem rm_get {L : List rm_Fi} {i : Nat} (h : i < L.length) : ∃ x, L[i]? = some x := ⟨L[i], List.getElem?_eq_getElem h⟩
theorem rm_Fl_app {fr ft fr' ft' : Nat → Int32} {L : List rm_Fi} {x : rm_Fi} (h : rm_Fl fr ft L) (h1 : ∀ j, j < L.length → fr' j = fr j) (h2 : ∀ j, j < 3 * L.length → ft' j = ft j) (h3 : rm_ent fr' ft' L.length x) : rm_Fl fr' ft' (L ++ [x]) := by
  intro i y hy
  by_cases hi : i < L.length
  · rw [List.getElem?_append_left hi] at hy
    obtain ⟨a, b, c, d⟩ := h i y hy
    refine ⟨?_, ?_, ?_, ?_⟩
    · rw [h1 i hi]; exact a
    · rw [h2 _ (by omega)]; exact b
    · rw [h2 _ (by omega)]; exact c
    · rw [h2 _ (by omega)]; exact d
  · have hl := rm_lt_of hy
    rw [List.length_append] at hl
    have hl2 : i = L.length := by
      have : [x].length = 1 := rfl
      omega
    subst hl2
    rw [List.getElem?_concat_length] at hy
    cases hy
    exact h3
theorem rm_tk {L : List rm_Fi} {i : Nat} {x : rm_Fi} (h : L[i]? = some x) : L.take (i + 1) = L.take i ++ [x] := by
  rw [List.take_add_one, h]
  rfl
/-- halfway through a compaction -/
def rm_Cp (fr ft : Nat → Int32) (L : List rm_Fi) (q : rm_Fi → Bool) (i : Nat) : Prop := rm_Fl fr ft ((L.take i).filter q) ∧ ∀ j x, i ≤ j → L[j]? = some x → rm_ent fr ft j x
theorem rm_Cp_0 {fr ft : Nat → Int32} {L : List rm_Fi} {q : rm_Fi → Bool} (h : rm_Fl fr ft L) : rm_Cp fr ft L q 0 :=
  ⟨fun i x hx => by simp at hx, fun j x _ hx => h j x hx⟩
theorem rm_Cp_e {fr ft : Nat → Int32} {L : List rm_Fi} {q : rm_Fi → Bool} (h : rm_Cp fr ft L q L.length) : rm_Fl fr ft (L.filter q) := by
  have := h.1
  rw [List.take_length] at this
  exact this
theorem rm_kl {L : List rm_Fi} {q : rm_Fi → Bool} {i : Nat} : ((L.take i).filter q).length ≤ i :=
  Nat.le_trans (List.length_filter_le _ _) (List.length_take_le _ _)
theorem rm_Cp_d {fr ft : Nat → Int32} {L : List rm_Fi} {q : rm_Fi → Bool} {i : Nat} {x : rm_Fi} (h : rm_Cp fr ft L q i) (hx : L[i]? = some x) (hq : q x = false) : rm_Cp fr ft L q (i + 1) ∧ ((L.take (i + 1)).filter q).length = ((L.take i).filter q).length := by
  have e : (L.take (i + 1)).filter q = (L.take i).filter q := by
    rw [rm_tk hx, List.filter_append]
    simp [hq]
  unfold rm_Cp
  rw [e]
  exact ⟨⟨h.1, fun j y hj hy => h.2 j y (by omega) hy⟩, rfl⟩
theorem rm_Cp_k {fr ft fr' ft' : Nat → Int32} {L : List rm_Fi} {q : rm_Fi → Bool} {i k : Nat} {x : rm_Fi} (h : rm_Cp fr ft L q i) (hx : L[i]? = some x) (hq : q x = true) (hk : ((L.take i).filter q).length = k)
    (h0 : fr' k = fr i) (h1 : ft' (3 * k) = ft (3 * i)) (h2 : ft' (3 * k + 1) = ft (3 * i + 1)) (h3 : ft' (3 * k + 2) = ft (3 * i + 2)) (h4 : ∀ j, j ≠ k → fr' j = fr j) (h5 : ∀ j, j < 3 * k ∨ 3 * k + 3 ≤ j → ft' j = ft j) :
    rm_Cp fr' ft' L q (i + 1) ∧ ((L.take (i + 1)).filter q).length = k + 1 := by
  have e : (L.take (i + 1)).filter q = (L.take i).filter q ++ [x] := by
    rw [rm_tk hx, List.filter_append]
    simp [hq]
  have hki : k ≤ i := hk ▸ rm_kl
  obtain ⟨x0, x1, x2, x3⟩ := h.2 i x (Nat.le_refl i) hx
  unfold rm_Cp
  rw [e]
  refine ⟨⟨?_, ?_⟩, ?_⟩
  · apply rm_Fl_app h.1
    · intro j hj
      exact h4 j (by omega)
    · intro j hj
      exact h5 j (by omega)
    · rw [hk]
      exact ⟨h0.trans x0, h1.trans x1, h2.trans x2, h3.trans x3⟩
  · intro j y hj hy
    obtain ⟨y0, y1, y2, y3⟩ := h.2 j y (by omega) hy
    refine ⟨?_, ?_, ?_, ?_⟩
    · rw [h4 j (by omega)]; exact y0
    · rw [h5 _ (by omega)]; exact y1
    · rw [h5 _ (by omega)]; exact y2
    · rw [h5 _ (by omega)]; exact y3
  · rw [List.length_append, hk]
    rfl
/-- an element is taken out -/
def rm_dr (T C T' C' : Nat → Nat) (n i : Nat) (f : Nat → Nat) : Prop :=
  (∀ j, j < n → f j < n + 1 ∧ f j ≠ i ∧ T' j = T (f j) ∧ C' j = C (f j)) ∧ (∀ j k, j < n → k < n → f j = f k → j = k) ∧ (∀ k, k < n + 1 → k ≠ i → ∃ j, j < n ∧ f j = k)
theorem rm_dr_x {T C : Nat → Nat} {n i : Nat} (hi : i < n + 1) : rm_dr T C (fun j => if j = i then T n else T j) (fun j => if j = i then C n else C j) n i (fun j => if j = i then n else j) := by
  refine ⟨fun j hj => ?_, fun j k hj hk e => ?_, fun k hk e => ?_⟩
  · by_cases z : j = i
    · simp only [if_pos z]
      exact ⟨by omega, by omega, trivial, trivial⟩
    · simp only [if_neg z]
      exact ⟨by omega, z, trivial, trivial⟩
  · by_cases z : j = i
    · by_cases y : k = i
      · omega
      · simp only [if_pos z, if_neg y] at e
        omega
    · by_cases y : k = i
      · simp only [if_neg z, if_pos y] at e
        omega
      · simp only [if_neg z, if_neg y] at e
        exact e
  · by_cases z : k = n
    · exact ⟨i, by omega, by simp only [if_pos]; exact z.symm⟩
    · exact ⟨k, by omega, by simp only [if_neg e]⟩
theorem rm_dr_y {T C : Nat → Nat} {n i : Nat} (hi : i < n + 1) : rm_dr T C (fun j => if j < i then T j else T (j + 1)) (fun j => if j < i then C j else C (j + 1)) n i (fun j => if j < i then j else j + 1) := by
  refine ⟨fun j hj => ?_, fun j k hj hk e => ?_, fun k hk e => ?_⟩
  · by_cases z : j < i
    · simp only [if_pos z]
      exact ⟨by omega, by omega, trivial, trivial⟩
    · simp only [if_neg z]
      exact ⟨by omega, by omega, trivial, trivial⟩
  · by_cases z : j < i
    · by_cases y : k < i
      · simp only [if_pos z, if_pos y] at e
        exact e
      · simp only [if_pos z, if_neg y] at e
        omega
    · by_cases y : k < i
      · simp only [if_neg z, if_pos y] at e
        omega
      · simp only [if_neg z, if_neg y] at e
        omega
  · by_cases z : k < i
    · exact ⟨k, by omega, by simp only [if_pos z]⟩
    · refine ⟨k - 1, by omega, ?_⟩
      have y : ¬ k - 1 < i := by omega
      simp only [if_neg y]
      omega
theorem rm_dr_in {T C T' C' f : Nat → Nat} {n i : Nat} (h : rm_dr T C T' C' n i f) (hT : rm_in T (n + 1)) : rm_in T' n := by
  intro j k hj hk e
  obtain ⟨a1, a2, a3, a4⟩ := h.1 j hj
  obtain ⟨b1, b2, b3, b4⟩ := h.1 k hk
  exact h.2.1 j k hj hk (hT _ _ a1 b1 (by rw [← a3, ← b3, e]))
theorem rm_dr_em {T C T' C' f U B U' B' f' : Nat → Nat} {n i i' : Nat} (h : rm_dr T C T' C' n i f) (h' : rm_dr U B U' B' n i' f') (hi : i < n + 1) (hT : rm_in T (n + 1)) (he : rm_em T C U B (n + 1)) (e : T i = U i') : rm_em T' C' U' B' n := by
  intro j hj
  obtain ⟨a1, a2, a3, a4⟩ := h.1 j hj
  obtain ⟨k, k1, k2, k3⟩ := he (f j) a1
  have hk : k ≠ i' := by
    intro z
    rw [z, ← e] at k2
    exact a2 (hT _ _ hi a1 k2).symm
  obtain ⟨j', c1, c2⟩ := h'.2.2 k k1 hk
  obtain ⟨b1, b2, b3, b4⟩ := h'.1 j' c1
  refine ⟨j', c1, ?_, ?_⟩
  · rw [b3, c2, k2, a3]
  · rw [b4, c2, k3, a4]
theorem rm_dr_e1 {T C T' C' f : Nat → Nat} {n i : Nat} (h : rm_dr T C T' C' n i f) (hi : i < n + 1) (hT : rm_in T (n + 1)) (h0 : T i ≠ 0) (s : Nat) : rm_e1 T' n s = (rm_e1 T (n + 1) s && !(decide (s = T i))) := by
  apply Bool.eq_iff_iff.mpr
  rw [Bool.and_eq_true, rm_e1_i, rm_e1_i]
  constructor
  · rintro (z | ⟨j, hj, z⟩)
    · exact ⟨Or.inl z, by have : s ≠ T i := by omega
                          simp [this]⟩
    · obtain ⟨a1, a2, a3, a4⟩ := h.1 j hj
      have y : s ≠ T i := by
        intro w
        rw [a3, w] at z
        exact a2 (hT _ _ a1 hi z)
      exact ⟨Or.inr ⟨f j, a1, a3.symm.trans z⟩, by simp [y]⟩
  · rintro ⟨z | ⟨k, hk, z⟩, y⟩
    · exact Or.inl z
    · have y2 : s ≠ T i := by simpa using y
      have e : k ≠ i := by
        intro w
        rw [w] at z
        exact y2 z.symm
      obtain ⟨j, hj, c2⟩ := h.2.2 k hk e
      obtain ⟨a1, a2, a3, a4⟩ := h.1 j hj
      exact Or.inr ⟨j, hj, by rw [a3, c2, z]⟩
/-- no tag of x is t -/
def rm_nt (t : Nat) (x : rm_Fi) : Bool := !(decide (x.2.1 = t)) && (!(decide (x.2.2.1 = t)) && !(decide (x.2.2.2 = t)))
theorem rm_dr_al {T C T' C' f : Nat → Nat} {n i : Nat} (h : rm_dr T C T' C' n i f) (hi : i < n + 1) (hT : rm_in T (n + 1)) (h0 : T i ≠ 0) (L : List rm_Fi) : (L.filter (rm_al T (n + 1))).filter (rm_nt (T i)) = L.filter (rm_al T' n) := by
  rw [List.filter_filter]
  apply List.filter_congr
  intro x _
  unfold rm_al rm_nt
  rw [rm_dr_e1 h hi hT h0, rm_dr_e1 h hi hT h0, rm_dr_e1 h hi hT h0]
  cases rm_e1 T (n + 1) x.2.1 <;> cases rm_e1 T (n + 1) x.2.2.1 <;> cases rm_e1 T (n + 1) x.2.2.2 <;> simp
/-- an element is put at the end -/
theorem rm_mk_em {T C U B T' C' U' B' : Nat → Nat} {n : Nat} (h : rm_em T C U B n) (t1 : ∀ i, i < n → T' i = T i ∧ C' i = C i) (u1 : ∀ i, i < n → U' i = U i ∧ B' i = B i) (t2 : U' n = T' n) (u2 : B' n = C' n) : rm_em T' C' U' B' (n + 1) := by
  intro i hi
  by_cases e : i = n
  · rw [e]
    exact ⟨n, by omega, t2, u2⟩
  · obtain ⟨j, a, b, c⟩ := h i (by omega)
    have x := t1 i (by omega)
    have y := u1 j a
    exact ⟨j, by omega, by rw [y.1, x.1, b], by rw [y.2, x.2, c]⟩
theorem rm_mk_al {T T' : Nat → Nat} {n l : Nat} (t1 : ∀ i, i < n → T' i = T i) (t2 : T' n = l + 1) (L : List rm_Fi) (hL : ∀ x, x ∈ L → x.2.1 ≤ l ∧ x.2.2.1 ≤ l ∧ x.2.2.2 ≤ l) : L.filter (rm_al T' (n + 1)) = L.filter (rm_al T n) := by
  apply List.filter_congr
  intro x hx
  obtain ⟨a, b, c⟩ := hL x hx
  have e : ∀ s, s ≤ l → rm_e1 T' (n + 1) s = rm_e1 T n s := by
    intro s hs
    apply Bool.eq_iff_iff.mpr
    rw [rm_e1_i, rm_e1_i]
    constructor
    · rintro (z | ⟨i, hi, z⟩)
      · exact Or.inl z
      · by_cases y : i = n
        · rw [y, t2] at z; omega
        · exact Or.inr ⟨i, by omega, (t1 i (by omega)).symm.trans z⟩
    · rintro (z | ⟨i, hi, z⟩)
      · exact Or.inl z
      · exact Or.inr ⟨i, by omega, (t1 i hi).trans z⟩
  unfold rm_al
  rw [e _ a, e _ b, e _ c]
