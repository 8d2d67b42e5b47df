abbrev rm_Fi : Type := Nat × Nat × Nat × Nat
abbrev rm_It : Type := Nat × (Nat → Nat) × (Nat → Int32)
/-- the one row of matches within the other, code by code -/
def rm_sub {α : Type} (f g : Nat → Option α) (M : Nat) : Prop :=
  ∃ h : Nat → Nat, (∀ c, c < M → h c < M) ∧ (∀ c c', c < M → c' < M → h c = h c' → c = c') ∧ ∀ c, c < M → f c = g (h c)
theorem rm_sub_n {α : Type} {f g : Nat → Option α} {M : Nat} (H : rm_sub f g M) : rm_cn (fun c => (f c).isSome) M ≤ rm_cn (fun c => (g c).isSome) M := by
  obtain ⟨h, h1, h2, h3⟩ := H
  apply rm_cn_le M (h := h)
  · intro i hi fi
    exact ⟨h1 i hi, by show (g (h i)).isSome = true; rw [← h3 i hi]; exact fi⟩
  · exact h2
theorem rm_sub_m {α : Type} {f g : Nat → Option α} {M : Nat} (H : rm_sub f g M) {x : α} (hx : ∃ c, c < M ∧ f c = some x) : ∃ c, c < M ∧ g c = some x := by
  obtain ⟨h, h1, h2, h3⟩ := H
  obtain ⟨c, hc, e⟩ := hx
  exact ⟨h c, h1 c hc, by rw [← h3 c hc]; exact e⟩
theorem rm_pm_sub {T C T' C' : Nat → Nat} {n : Nat} {P : Nat → Nat} {N : Nat → Bool} {z : Nat} (hn : n ≤ 12) (hT : rm_in T n) (hT' : rm_in T' n) (h : rm_em T C T' C' n) (h' : rm_em T' C' T C n) :
    rm_sub (fun c => rm_ps T C n (rm_D c) P N z) (fun c => rm_ps T' C' n (rm_D c) P N z) (12 ^ rm_pc N z) := by
  obtain ⟨s, hs⟩ := rm_sg h
  have s12 : ∀ i, i < 12 → s i < 12 := by
    intro i hi
    by_cases e : i < n
    · have := ((hs i).1 e).1; omega
    · rw [(hs i).2 e]; exact hi
  refine ⟨rm_hh s (rm_pc N z), fun c _ => rm_hh_lt s12 _ c, rm_hh_i s12 (rm_sg_i hT hs) _, fun c _ => ?_⟩
  show rm_ps T C n (rm_D c) P N z = rm_ps T' C' n (rm_D (rm_hh s (rm_pc N z) c)) P N z
  apply rm_ps_eq
  · intro A p
    exact rm_cfe hT hT' h h' (fun x => (rm_fs A p x).isSome)
  · intro k hk
    rw [rm_hh_d s12 _ k c hk]
    by_cases e : rm_D c k < n
    · have a := (hs _).1 e
      exact Or.inl ⟨e, a.1, a.2.1.symm, a.2.2.symm⟩
    · have a := (hs _).2 e
      exact Or.inr ⟨e, by rw [a]; exact e⟩
/-- a match of rule r at a code that has not fired -/
def rm_om (T C : Nat → Nat) (n : Nat) (P : Nat → Nat → Nat) (N : Nat → Nat → Bool) (sz : Nat → Nat) (L : List rm_Fi) (r c : Nat) : Option rm_It :=
  (rm_ps T C n (rm_D c) (P r) (N r) (sz r)).bind (fun s => if (r, s.2 0, s.2 1, s.2 2) ∈ L then none else some (r, s.2, s.1))
/-- is there an element with this tag, or is it no tag -/
def rm_e1 (T : Nat → Nat) (n t : Nat) : Bool := decide (t = 0) || (List.range n).any (fun i => decide (T i = t))
theorem rm_e1_i {T : Nat → Nat} {n t : Nat} : rm_e1 T n t = true ↔ t = 0 ∨ ∃ i, i < n ∧ T i = t := by
  unfold rm_e1
  rw [Bool.or_eq_true, List.any_eq_true]
  simp
def rm_al (T : Nat → Nat) (n : Nat) (x : rm_Fi) : Bool := rm_e1 T n x.2.1 && (rm_e1 T n x.2.2.1 && rm_e1 T n x.2.2.2)
theorem rm_al_i {T : Nat → Nat} {n : Nat} {x : rm_Fi} : rm_al T n x = true ↔ rm_e1 T n x.2.1 = true ∧ rm_e1 T n x.2.2.1 = true ∧ rm_e1 T n x.2.2.2 = true := by
  unfold rm_al
  rw [Bool.and_eq_true, Bool.and_eq_true]
theorem rm_al_c {T T' C C' : Nat → Nat} {n : Nat} (h : rm_em T C T' C' n) (h' : rm_em T' C' T C n) : rm_al T n = rm_al T' n := by
  have e : ∀ t, rm_e1 T n t = rm_e1 T' n t := by
    intro t
    apply Bool.eq_iff_iff.mpr
    rw [rm_e1_i, rm_e1_i]
    constructor
    · rintro (z | ⟨i, hi, z⟩)
      · exact Or.inl z
      · obtain ⟨j, hj, a, _⟩ := h i hi
        exact Or.inr ⟨j, hj, a.trans z⟩
    · rintro (z | ⟨i, hi, z⟩)
      · exact Or.inl z
      · obtain ⟨j, hj, a, _⟩ := h' i hi
        exact Or.inr ⟨j, hj, a.trans z⟩
  funext x
  unfold rm_al
  rw [e, e, e]
theorem rm_ps_al {T C : Nat → Nat} {n : Nat} {D : Nat → Nat} {P : Nat → Nat} {N : Nat → Bool} {j r : Nat} {s : (Nat → Int32) × (Nat → Nat)} (h : rm_ps T C n D P N j = some s) : rm_al T n (r, s.2 0, s.2 1, s.2 2) = true := by
  obtain ⟨_, a, b⟩ := rm_ps_g j s h
  have e : ∀ k, rm_e1 T n (s.2 k) = true := by
    intro k
    rw [rm_e1_i]
    by_cases hk : k < rm_pc N j
    · exact Or.inr ⟨D k, (a k hk).1, (a k hk).2.symm⟩
    · exact Or.inl (b k hk)
  rw [rm_al_i]
  exact ⟨e 0, e 1, e 2⟩
theorem rm_om_sub {T C T' C' : Nat → Nat} {n : Nat} {P : Nat → Nat → Nat} {N : Nat → Nat → Bool} {sz : Nat → Nat} {L L' : List rm_Fi} (r : Nat) (hn : n ≤ 12) (hT : rm_in T n) (hT' : rm_in T' n) (h : rm_em T C T' C' n) (h' : rm_em T' C' T C n) (hL : ∀ x, rm_al T n x = true → (x ∈ L ↔ x ∈ L')) :
    rm_sub (rm_om T C n P N sz L r) (rm_om T' C' n P N sz L' r) (12 ^ rm_pc (N r) (sz r)) := by
  obtain ⟨g, g1, g2, g3⟩ := rm_pm_sub (P := P r) (N := N r) (z := sz r) hn hT hT' h h'
  refine ⟨g, g1, g2, fun c hc => ?_⟩
  have e : rm_ps T C n (rm_D c) (P r) (N r) (sz r) = rm_ps T' C' n (rm_D (g c)) (P r) (N r) (sz r) := g3 c hc
  unfold rm_om
  rw [← e]
  cases q : rm_ps T C n (rm_D c) (P r) (N r) (sz r) with
  | none => rfl
  | some s =>
    show (if (r, s.2 0, s.2 1, s.2 2) ∈ L then none else some (r, s.2, s.1)) = (if (r, s.2 0, s.2 1, s.2 2) ∈ L' then none else some (r, s.2, s.1))
    have i := hL _ (rm_ps_al (r := r) q)
    by_cases m : (r, s.2 0, s.2 1, s.2 2) ∈ L
    · rw [if_pos m, if_pos (i.mp m)]
    · rw [if_neg m, if_neg (fun z => m (i.mpr z))]
/-- three tags in falling order -/
def rm_m0 (a b c : Nat) : Nat := if a < b then (if b < c then c else b) else (if a < c then c else a)
def rm_m2 (a b c : Nat) : Nat := if a < b then (if a < c then a else c) else (if b < c then b else c)
def rm_m1 (a b c : Nat) : Nat := a + b + c - rm_m0 a b c - rm_m2 a b c
def rm_k2 (x a : Nat) : Nat := x * 1048576 + a
theorem rm_k2_lt {x y a b : Nat} (ha : a < 1048576) (hb : b < 1048576) : rm_k2 x a < rm_k2 y b ↔ x < y ∨ (x = y ∧ a < b) := by
  unfold rm_k2
  omega
theorem rm_k2_eq {x y a b : Nat} (ha : a < 1048576) (hb : b < 1048576) : rm_k2 x a = rm_k2 y b ↔ x = y ∧ a = b := by
  unfold rm_k2
  omega
def rm_kf (r a b c : Nat) : Nat := rm_k2 (rm_k2 (rm_k2 (rm_k2 (rm_k2 (rm_k2 (rm_m0 a b c) (rm_m1 a b c)) (rm_m2 a b c)) (7 - r)) a) b) c
def rm_ky (x : rm_It) : Nat := rm_kf x.1 (x.2.1 0) (x.2.1 1) (x.2.1 2)
theorem rm_mb {a b c : Nat} (ha : a < 1048576) (hb : b < 1048576) (hc : c < 1048576) : rm_m0 a b c < 1048576 ∧ rm_m1 a b c < 1048576 ∧ rm_m2 a b c < 1048576 := by
  unfold rm_m1 rm_m0 rm_m2
  split <;> split <;> split <;> omega
/-- the order of matches: does r, a, b, c come before r', a', b', c' -/
def rm_bt (r a b c r' a' b' c' : Nat) : Prop :=
  (((((rm_m0 a' b' c' < rm_m0 a b c ∨ (rm_m0 a' b' c' = rm_m0 a b c ∧ rm_m1 a' b' c' < rm_m1 a b c)) ∨ ((rm_m0 a' b' c' = rm_m0 a b c ∧ rm_m1 a' b' c' = rm_m1 a b c) ∧ rm_m2 a' b' c' < rm_m2 a b c)) ∨
    (((rm_m0 a' b' c' = rm_m0 a b c ∧ rm_m1 a' b' c' = rm_m1 a b c) ∧ rm_m2 a' b' c' = rm_m2 a b c) ∧ 7 - r' < 7 - r)) ∨
    ((((rm_m0 a' b' c' = rm_m0 a b c ∧ rm_m1 a' b' c' = rm_m1 a b c) ∧ rm_m2 a' b' c' = rm_m2 a b c) ∧ 7 - r' = 7 - r) ∧ a' < a)) ∨
    (((((rm_m0 a' b' c' = rm_m0 a b c ∧ rm_m1 a' b' c' = rm_m1 a b c) ∧ rm_m2 a' b' c' = rm_m2 a b c) ∧ 7 - r' = 7 - r) ∧ a' = a) ∧ b' < b)) ∨
    ((((((rm_m0 a' b' c' = rm_m0 a b c ∧ rm_m1 a' b' c' = rm_m1 a b c) ∧ rm_m2 a' b' c' = rm_m2 a b c) ∧ 7 - r' = 7 - r) ∧ a' = a) ∧ b' = b) ∧ c' < c)
theorem rm_bt_k {r a b c r' a' b' c' : Nat} (ha : a < 1048576) (hb : b < 1048576) (hc : c < 1048576) (ha' : a' < 1048576) (hb' : b' < 1048576) (hc' : c' < 1048576) :
    rm_bt r a b c r' a' b' c' ↔ rm_kf r' a' b' c' < rm_kf r a b c := by
  have q : 7 - r < 1048576 := by omega
  have q' : 7 - r' < 1048576 := by omega
  obtain ⟨_, h1, h2⟩ := rm_mb ha hb hc
  obtain ⟨_, h1', h2'⟩ := rm_mb ha' hb' hc'
  unfold rm_bt rm_kf
  rw [rm_k2_lt hc' hc, rm_k2_lt hb' hb, rm_k2_lt ha' ha, rm_k2_lt q' q, rm_k2_lt h2' h2, rm_k2_lt h1' h1, rm_k2_eq hb' hb, rm_k2_eq ha' ha, rm_k2_eq q' q, rm_k2_eq h2' h2, rm_k2_eq h1' h1]
theorem rm_kf_i {r a b c r' a' b' c' : Nat} (ha : a < 1048576) (hb : b < 1048576) (hc : c < 1048576) (ha' : a' < 1048576) (hb' : b' < 1048576) (hc' : c' < 1048576) (hr : r < 7) (hr' : r' < 7) (e : rm_kf r a b c = rm_kf r' a' b' c') : r = r' ∧ a = a' ∧ b = b' ∧ c = c' := by
  unfold rm_kf at e
  have q : 7 - r < 1048576 := by omega
  have q' : 7 - r' < 1048576 := by omega
  rw [rm_k2_eq hc hc', rm_k2_eq hb hb', rm_k2_eq ha ha', rm_k2_eq q q'] at e
  obtain ⟨⟨⟨⟨_, e1⟩, e2⟩, e3⟩, e4⟩ := e
  exact ⟨by omega, e2, e3, e4⟩
/-- the best so far, and one more -/
def rm_ub (b o : Option rm_It) : Option rm_It :=
  match o with
  | none => b
  | some x => match b with
    | none => some x
    | some y => if rm_ky y < rm_ky x then some x else some y
def rm_fc (f : Nat → Option rm_It) (b : Option rm_It) : Nat → Option rm_It
  | 0 => b
  | i + 1 => rm_ub (rm_fc f b i) (f i)
def rm_fr (om : Nat → Nat → Option rm_It) (M : Nat → Nat) : Nat → Option rm_It
  | 0 => none
  | r + 1 => rm_fc (om r) (rm_fr om M r) (M r)
def rm_ch (S : rm_It → Prop) (b : Option rm_It) : Prop := (∀ x, b = some x → S x) ∧ (∀ x, S x → ∃ y, b = some y ∧ rm_ky x ≤ rm_ky y)
theorem rm_ch_ub {S : rm_It → Prop} {b o : Option rm_It} (h : rm_ch S b) : rm_ch (fun x => S x ∨ o = some x) (rm_ub b o) := by
  cases o with
  | none =>
    refine ⟨fun x e => Or.inl (h.1 x e), fun x e => ?_⟩
    rcases e with e | e
    · exact h.2 x e
    · cases e
  | some x =>
    cases b with
    | none =>
      refine ⟨fun y e => Or.inr e, fun y e => ?_⟩
      rcases e with e | e
      · obtain ⟨z, hz, _⟩ := h.2 y e
        cases hz
      · cases e
        exact ⟨x, rfl, Nat.le_refl _⟩
    | some y =>
      have hy := h.1 y rfl
      show rm_ch _ (if rm_ky y < rm_ky x then some x else some y)
      by_cases k : rm_ky y < rm_ky x
      · rw [if_pos k]
        refine ⟨fun z e => Or.inr e, fun z e => ?_⟩
        rcases e with e | e
        · obtain ⟨w, hw, l⟩ := h.2 z e
          cases hw
          exact ⟨x, rfl, by omega⟩
        · cases e
          exact ⟨x, rfl, Nat.le_refl _⟩
      · rw [if_neg k]
        refine ⟨fun z e => Or.inl (h.1 z e), fun z e => ?_⟩
        rcases e with e | e
        · exact h.2 z e
        · cases e
          exact ⟨y, rfl, by omega⟩
theorem rm_ch_c {S S' : rm_It → Prop} {b : Option rm_It} (e : ∀ x, S x ↔ S' x) (h : rm_ch S b) : rm_ch S' b :=
  ⟨fun x z => (e x).mp (h.1 x z), fun x z => h.2 x ((e x).mpr z)⟩
theorem rm_ch_fc {S : rm_It → Prop} {f : Nat → Option rm_It} {b : Option rm_It} (h : rm_ch S b) : ∀ i, rm_ch (fun x => S x ∨ ∃ c, c < i ∧ f c = some x) (rm_fc f b i) := by
  intro i
  induction i with
  | zero =>
    refine rm_ch_c (fun x => ⟨Or.inl, ?_⟩) h
    rintro (e | ⟨c, hc, _⟩)
    · exact e
    · omega
  | succ i ih =>
    refine rm_ch_c (fun x => ?_) (rm_ch_ub (o := f i) ih)
    constructor
    · rintro ((e | ⟨c, hc, e⟩) | e)
      · exact Or.inl e
      · exact Or.inr ⟨c, by omega, e⟩
      · exact Or.inr ⟨i, by omega, e⟩
    · rintro (e | ⟨c, hc, e⟩)
      · exact Or.inl (Or.inl e)
      · by_cases z : c = i
        · exact Or.inr (z ▸ e)
        · exact Or.inl (Or.inr ⟨c, by omega, e⟩)
theorem rm_ch_fr {om : Nat → Nat → Option rm_It} {M : Nat → Nat} : ∀ m, rm_ch (fun x => ∃ r, r < m ∧ ∃ c, c < M r ∧ om r c = some x) (rm_fr om M m) := by
  intro m
  induction m with
  | zero =>
    have z0 : ∀ x, rm_fr om M 0 = some x → False := by
      intro x e
      have z : (none : Option rm_It) = some x := e
      cases z
    refine ⟨fun x e => (z0 x e).elim, ?_⟩
    rintro x ⟨r, hr, _⟩
    omega
  | succ m ih =>
    refine rm_ch_c (fun x => ?_) (rm_ch_fc (f := om m) ih (M m))
    constructor
    · rintro (⟨r, hr, e⟩ | e)
      · exact ⟨r, by omega, e⟩
      · exact ⟨m, by omega, e⟩
    · rintro ⟨r, hr, e⟩
      by_cases z : r = m
      · exact Or.inr (z ▸ e)
      · exact Or.inl ⟨r, by omega, e⟩
theorem rm_ch_u {S : rm_It → Prop} {b b' : Option rm_It} (inj : ∀ x y, S x → S y → rm_ky x = rm_ky y → x = y) (h : rm_ch S b) (h' : rm_ch S b') : b = b' := by
  cases b with
  | none =>
    cases b' with
    | none => rfl
    | some y =>
      obtain ⟨z, hz, _⟩ := h.2 y (h'.1 y rfl)
      cases hz
  | some x =>
    obtain ⟨y, hy, l⟩ := h'.2 x (h.1 x rfl)
    rw [hy]
    obtain ⟨z, hz, l2⟩ := h.2 y (h'.1 y hy)
    cases hz
    rw [inj x y (h.1 x rfl) (h'.1 y hy) (by omega)]
theorem rm_om_inj {T C : Nat → Nat} {n : Nat} {P : Nat → Nat → Nat} {N : Nat → Nat → Bool} {sz : Nat → Nat} {L : List rm_Fi} {m : Nat} (hm : m ≤ 5) (hz : ∀ r, r < m → sz r ≤ 3) (hT : rm_in T n) (hb : ∀ i, i < n → T i < 1048576) {x y : rm_It}
    (hx : ∃ r, r < m ∧ ∃ c, c < 12 ^ rm_pc (N r) (sz r) ∧ rm_om T C n P N sz L r c = some x) (hy : ∃ r, r < m ∧ ∃ c, c < 12 ^ rm_pc (N r) (sz r) ∧ rm_om T C n P N sz L r c = some y) (e : rm_ky x = rm_ky y) : x = y := by
  obtain ⟨r, hr, c, _, ex⟩ := hx
  obtain ⟨r', hr', c', _, ey⟩ := hy
  unfold rm_om at ex ey
  obtain ⟨s, hs, ex⟩ := Option.bind_eq_some_iff.mp ex
  obtain ⟨s', hs', ey⟩ := Option.bind_eq_some_iff.mp ey
  have ex2 : (r, s.2, s.1) = x := by
    by_cases z : (r, s.2 0, s.2 1, s.2 2) ∈ L
    · rw [if_pos z] at ex; cases ex
    · rw [if_neg z] at ex; exact Option.some.inj ex
  have ey2 : (r', s'.2, s'.1) = y := by
    by_cases z : (r', s'.2 0, s'.2 1, s'.2 2) ∈ L
    · rw [if_pos z] at ey; cases ey
    · rw [if_neg z] at ey; exact Option.some.inj ey
  obtain ⟨_, g1, g2⟩ := rm_ps_g _ s hs
  obtain ⟨_, g1', g2'⟩ := rm_ps_g _ s' hs'
  have b1 : ∀ k, s.2 k < 1048576 := by
    intro k
    by_cases hk : k < rm_pc (N r) (sz r)
    · rw [(g1 k hk).2]; exact hb _ (g1 k hk).1
    · rw [g2 k hk]; omega
  have b2 : ∀ k, s'.2 k < 1048576 := by
    intro k
    by_cases hk : k < rm_pc (N r') (sz r')
    · rw [(g1' k hk).2]; exact hb _ (g1' k hk).1
    · rw [g2' k hk]; omega
  rw [← ex2, ← ey2] at e
  have e' : rm_kf r (s.2 0) (s.2 1) (s.2 2) = rm_kf r' (s'.2 0) (s'.2 1) (s'.2 2) := e
  obtain ⟨q1, q2, q3, q4⟩ := rm_kf_i (b1 0) (b1 1) (b1 2) (b2 0) (b2 1) (b2 2) (by omega) (by omega) e'
  subst q1
  have hp : rm_pc (N r) (sz r) ≤ 3 := Nat.le_trans (rm_pc_b _ _) (hz r hr)
  have k3 : ∀ k, k < rm_pc (N r) (sz r) → s.2 k = s'.2 k := by
    intro k hk
    have : k = 0 ∨ k = 1 ∨ k = 2 := by omega
    rcases this with z | z | z
    · rw [z]; exact q2
    · rw [z]; exact q3
    · rw [z]; exact q4
  have eq : rm_ps T C n (rm_D c) (P r) (N r) (sz r) = rm_ps T C n (rm_D c') (P r) (N r) (sz r) := by
    apply rm_ps_eq (fun _ _ => rfl)
    intro k hk
    have a := g1 k hk
    have b := g1' k hk
    have d : rm_D c k = rm_D c' k := hT _ _ a.1 b.1 (by rw [← a.2, ← b.2]; exact k3 k hk)
    exact Or.inl ⟨a.1, b.1, by rw [d], by rw [d]⟩
  rw [hs, hs'] at eq
  cases eq
  rw [← ex2, ← ey2]
/-- the match that comes first is the same one on both sides -/
theorem rm_fr_eq {T C T' C' : Nat → Nat} {n : Nat} {P : Nat → Nat → Nat} {N : Nat → Nat → Bool} {sz : Nat → Nat} {L L' : List rm_Fi} {m : Nat} (hm : m ≤ 5) (hz : ∀ r, r < m → sz r ≤ 3) (hb : ∀ i, i < n → T i < 1048576) (hn : n ≤ 12) (hT : rm_in T n) (hT' : rm_in T' n) (h : rm_em T C T' C' n) (h' : rm_em T' C' T C n) (hL : ∀ x, rm_al T n x = true → (x ∈ L ↔ x ∈ L')) :
    rm_fr (rm_om T C n P N sz L) (fun r => 12 ^ rm_pc (N r) (sz r)) m = rm_fr (rm_om T' C' n P N sz L') (fun r => 12 ^ rm_pc (N r) (sz r)) m := by
  have hL' : ∀ x, rm_al T' n x = true → (x ∈ L' ↔ x ∈ L) := by
    intro x hx
    rw [← rm_al_c h h'] at hx
    exact (hL x hx).symm
  have c1 := rm_ch_fr (om := rm_om T C n P N sz L) (M := fun r => 12 ^ rm_pc (N r) (sz r)) m
  have c2 := rm_ch_fr (om := rm_om T' C' n P N sz L') (M := fun r => 12 ^ rm_pc (N r) (sz r)) m
  refine rm_ch_u (fun x y hx hy e => rm_om_inj (C := C) (P := P) (N := N) (L := L) hm hz hT hb hx hy e) c1 (rm_ch_c (fun x => ?_) c2)
  constructor
  · rintro ⟨r, hr, e⟩
    exact ⟨r, hr, rm_sub_m (rm_om_sub r hn hT' hT h' h hL') e⟩
  · rintro ⟨r, hr, e⟩
    exact ⟨r, hr, rm_sub_m (rm_om_sub r hn hT hT' h h' hL) e⟩
theorem rm_on_eq {T C T' C' : Nat → Nat} {n : Nat} {P : Nat → Nat → Nat} {N : Nat → Nat → Bool} {sz : Nat → Nat} {L L' : List rm_Fi} (r : Nat) (hn : n ≤ 12) (hT : rm_in T n) (hT' : rm_in T' n) (h : rm_em T C T' C' n) (h' : rm_em T' C' T C n) (hL : ∀ x, rm_al T n x = true → (x ∈ L ↔ x ∈ L')) :
    rm_cn (fun c => (rm_om T C n P N sz L r c).isSome) (12 ^ rm_pc (N r) (sz r)) = rm_cn (fun c => (rm_om T' C' n P N sz L' r c).isSome) (12 ^ rm_pc (N r) (sz r)) := by
  have hL' : ∀ x, rm_al T' n x = true → (x ∈ L' ↔ x ∈ L) := by
    intro x hx
    rw [← rm_al_c h h'] at hx
    exact (hL x hx).symm
  exact Nat.le_antisymm (rm_sub_n (rm_om_sub r hn hT hT' h h' hL)) (rm_sub_n (rm_om_sub r hn hT' hT h' h hL'))
theorem rm_pn_eq {T C T' C' : Nat → Nat} {n : Nat} {P : Nat → Nat} {N : Nat → Bool} {z : Nat} (hn : n ≤ 12) (hT : rm_in T n) (hT' : rm_in T' n) (h : rm_em T C T' C' n) (h' : rm_em T' C' T C n) :
    rm_cn (fun c => (rm_ps T C n (rm_D c) P N z).isSome) (12 ^ rm_pc N z) = rm_cn (fun c => (rm_ps T' C' n (rm_D c) P N z).isSome) (12 ^ rm_pc N z) :=
  Nat.le_antisymm (rm_sub_n (rm_pm_sub hn hT hT' h h')) (rm_sub_n (rm_pm_sub hn hT' hT h' h))
/-- how many matches of the first rules have not fired -/
def rm_oc (om : Nat → Nat → Option rm_It) (M : Nat → Nat) : Nat → Nat
  | 0 => 0
  | r + 1 => rm_oc om M r + rm_cn (fun c => (om r c).isSome) (M r)
theorem rm_oc_eq {om om' : Nat → Nat → Option rm_It} {M : Nat → Nat} (h : ∀ r, rm_cn (fun c => (om r c).isSome) (M r) = rm_cn (fun c => (om' r c).isSome) (M r)) : ∀ m, rm_oc om M m = rm_oc om' M m := by
  intro m
  induction m with
  | zero => rfl
  | succ m ih =>
    show rm_oc om M m + _ = rm_oc om' M m + _
    rw [ih, h m]
