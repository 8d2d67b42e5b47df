/-- the row that the reference has found, and its tags -/
def rm_RW (n K : Nat) (T g : Nat → Nat) (ro : Nat → Int32) : Prop := K ≤ 3 ∧ ∀ k, k < 3 → (k < K → ∃ d, d < n ∧ ro k = nI d ∧ g k = T d) ∧ (¬ k < K → g k = 0)
abbrev rm_YJ1 : Type := Int32 → (Nat → Int32) → (Nat → Int32) → (Nat → Int32) → (Nat → Int32) → (Nat → Int32) → (Nat → Int32) → (Nat → Int32) → (Nat → Int32) → (Nat → Int32) → (Nat → Int32) → (Nat → Int32) → (Nat → Int32) → (Nat → Int32) → (Nat → Int32) → (Nat → Int32) → (Nat → Int32) → (Nat → Int32) → (Nat → Int32) → Prop
def rm_r3 (mi : Nat → Int32) (t : rm_T3) : Prop := mi 0 = nI t.1 ∧ mi 1 = nI t.2.1 ∧ mi 2 = nI t.2.2
def rm_t3 (t : rm_T3) : Prop := t.1 < 1048576 ∧ t.2.1 < 1048576 ∧ t.2.2 < 1048576
theorem rm_t3_1 {t : rm_T3} (h : rm_t3 t) : rm_t3 (rm_b1 t) := by
  obtain ⟨a, b, c⟩ := h
  unfold rm_b1
  split
  · exact ⟨b, a, c⟩
  · exact ⟨a, b, c⟩
theorem rm_t3_2 {t : rm_T3} (h : rm_t3 t) : rm_t3 (rm_b2 t) := by
  obtain ⟨a, b, c⟩ := h
  unfold rm_b2
  split
  · exact ⟨a, c, b⟩
  · exact ⟨a, b, c⟩
section YB
variable {n m l K : Nat} {T C Z Q g : Nat → Nat} {P : Nat → Nat → Nat} {N : Nat → Nat → Bool} {L : List rm_Fi}
variable {cn lt dr ru fi le br bl : Int32} {tg ty fd dp dn sz pa no ac fr ft ro bo sa mi be bt bb : Nat → Int32}
theorem ym_ro {post : Int32 → Prop} {r : Nat} (H : rm_YH n m l T C Z Q P N L tg ty fd dp dn sz pa no ac fr ft) (hr : r < m) (h : post (nI (12 ^ rm_pc (N r) (Z r)))) : wpY_rows post (nI n, nI l, nI (Z m), nI m, nI L.length, le, br, bl, tg, ty, fd, dp, dn, sz, pa, no, ac, fr, ft, ro, bo, sa, mi, be, bt, bb) (nI r) := by
  obtain ⟨hn, hl, hPE, hPU, hL, hLB, hE, hR, hF⟩ := H
  have hm := hPU.1
  obtain ⟨rz, rP, rN⟩ := hPU.2.1 r (by omega)
  obtain ⟨rsz, rac, rpa⟩ := hR.2 r hr
  have w5 : vp_in (nI r) 5 := vp_in_nI (by omega) (by omega)
  have cr : (nI r).toNatClampNeg = r := nI_clamp (by omega)
  have go : ∀ (post : Int32 → Prop), post (nI (rm_pc (N r) (Z r))) → ∀ d i, i + d = Z r → wY_positives_4 post (nI r) (nI n) (nI l) (nI (Z m)) (nI m) (nI L.length) le br bl tg ty fd dp dn sz pa no ac fr ft ro bo sa mi be bt bb (d + 1) (nI (rm_pc (N r) i)) (nI i) := by
    intro post h d
    induction d with
    | zero =>
      intro i e
      have e2 : i = Z r := by omega
      rw [e2]
      exact ⟨w5, br_t (by rw [cr, rsz]; exact nI_le (Nat.le_refl _) (by omega)) h⟩
    | succ d ih =>
      intro i e
      have hi : i < Z r := by omega
      have i3 := rm_3 r i
      have c3 : (3 * nI r + nI i).toNatClampNeg = 3 * r + i := by rw [i3]; exact nI_clamp (by omega)
      have w15 : vp_in (3 * nI r + nI i) 15 := by rw [i3]; exact vp_in_nI (by omega) (by omega)
      have ina2 : no (3 * nI r + nI i).toNatClampNeg = rm_bI (N r i) := by rw [c3]; exact (rpa i hi).2
      have := ih (i + 1) (by omega)
      refine ⟨w5, br_f (by rw [cr, rsz]; exact nI_ge hi (by omega)) (br_f (nI_ge (b := 3) (by omega) (by omega)) ⟨w15, ?_⟩)⟩
      by_cases ng : N r i = true
      · have pk : rm_pc (N r) (i + 1) = rm_pc (N r) i := by
          show _ + (if N r i = true then 0 else 1) = _
          rw [if_pos ng]; rfl
        rw [pk] at this
        exact br_f (by rw [ina2, ng]; decide) (nm_r (nI_1 i) this)
      · have nf : N r i = false := by
          cases q : N r i
          · rfl
          · exact absurd q ng
        have pk : rm_pc (N r) (i + 1) = rm_pc (N r) i + 1 := by
          show _ + (if N r i = true then 0 else 1) = _
          rw [if_neg ng]
        rw [pk] at this
        exact br_t (by rw [ina2, nf]; decide) (nm_r (nI_1 _) (nm_r (nI_1 i) this))
  obtain ⟨p1, p3⟩ := rm_pc_1 hPU hr
  have e1 : nI (12 ^ 1) = 12 := by decide
  have e2 : nI (12 ^ 2) = 144 := by decide
  have e3 : nI (12 ^ 3) = 1728 := by decide
  unfold wpY_rows
  refine ⟨Z r + 1, go _ ?_ (Z r) 0 (by omega)⟩
  have hK : rm_pc (N r) (Z r) = 1 ∨ rm_pc (N r) (Z r) = 2 ∨ rm_pc (N r) (Z r) = 3 := by omega
  rcases hK with z | z | z
  · rw [z, e1] at h
    rw [z]
    exact br_t rfl h
  · rw [z, e2] at h
    rw [z]
    exact br_f (by decide) (br_t rfl h)
  · rw [z, e3] at h
    rw [z]
    exact br_f (by decide) (br_f (by decide) h)
theorem ym_ta {post : Int32 → Prop} {k : Nat} (hn : n ≤ 12) (hE : rm_YE n T C tg ty fd) (W : rm_RW n K T g ro) (hk : k < 3) (h : post (nI (g k))) : ∀ q : Int32, q = nI k → wpY_tagAt post (cn, lt, dr, ru, fi, nI K, br, bl, tg, ty, fd, dp, dn, sz, pa, no, ac, fr, ft, ro, bo, sa, mi, be, bt, bb) q := by
  intro q e
  subst e
  obtain ⟨w1, w2⟩ := W
  obtain ⟨a, b⟩ := w2 k hk
  have ck : (nI k).toNatClampNeg = k := nI_clamp (by omega)
  by_cases z : k < K
  · obtain ⟨d, hd, e1, e2⟩ := a z
    have cd : (nI d).toNatClampNeg = d := nI_clamp (by omega)
    rw [e2] at h
    exact br_f (nI_ge z (by omega)) ⟨vp_in_nI hk (by omega), by rw [ck, e1]; exact vp_in_nI (by omega) (by omega), by rw [ck, e1, cd, (hE d hd).1]; exact h⟩
  · rw [b z] at h
    exact br_t (nI_le (by omega) (by omega)) h
theorem ym_35 {post : Int32 → Prop} {J : Int32 → Prop} {x1 : Int32} {i j k y : Nat} {b : Bool} (hn : n ≤ 12) (hE : rm_YE n T C tg ty fd) (W : rm_RW n K T g ro) (hj : j < 3) (hi : i < 64) (hy : ft (3 * i + j) = nI y) (by1 : y < 1048576) (bg : g j < 1048576)
    (h : wY_hasFired_35 post J x1 (nI i) cn lt dr ru fi (nI K) br bl tg ty fd dp dn sz pa no ac fr ft ro bo sa mi be bt bb k (rm_bI (b && decide (y = g j))) (nI (j + 1))) : wY_hasFired_35 post J x1 (nI i) cn lt dr ru fi (nI K) br bl tg ty fd dp dn sz pa no ac fr ft ro bo sa mi be bt bb (k + 1) (rm_bI b) (nI j) := by
  have i3 := rm_3 i j
  have c3 : (3 * nI i + nI j).toNatClampNeg = 3 * i + j := by rw [i3]; exact nI_clamp (by omega)
  have w : vp_in (3 * nI i + nI j) 192 := by rw [i3]; exact vp_in_nI (by omega) (by omega)
  refine br_f (nI_ge (b := 3) hj (by omega)) ⟨w, ym_ta hn hE W hj ?_ _ rfl⟩
  by_cases z : y = g j
  · have e : (b && decide (y = g j)) = b := by simp [z]
    rw [e] at h
    exact br_t (by rw [c3, hy, z]) (nm_r (nI_1 j) h)
  · have e : (b && decide (y = g j)) = false := by simp [z]
    rw [e] at h
    exact br_f (by rw [c3, hy]; exact fun q => z ((nI_eq (by omega) (by omega)).mp q)) (nm_r (nI_1 j) h)
theorem ym_hf {post : Int32 → Prop} {r : Nat} (H : rm_YH n m l T C Z Q P N L tg ty fd dp dn sz pa no ac fr ft) (W : rm_RW n K T g ro) (hr : r < 8) (hg : ∀ j, g j < 1048576)
    (h1 : (r, g 0, g 1, g 2) ∈ L → post 1) (h0 : ¬ (r, g 0, g 1, g 2) ∈ L → post 0) : wpY_hasFired post (nI n, nI l, nI (Z m), nI m, nI L.length, nI K, br, bl, tg, ty, fd, dp, dn, sz, pa, no, ac, fr, ft, ro, bo, sa, mi, be, bt, bb) (nI r) := by
  obtain ⟨hn, hl, hPE, hPU, hL, hLB, hE, hR, hF⟩ := H
  have go : ∀ d i, i + d = L.length → (∀ j, j < i → L[j]? ≠ some (r, g 0, g 1, g 2)) → wY_hasFired_2 post (nI r) (nI n) (nI l) (nI (Z m)) (nI m) (nI L.length) (nI K) br bl tg ty fd dp dn sz pa no ac fr ft ro bo sa mi be bt bb (d + 1) (nI i) := by
    intro d
    induction d with
    | zero =>
      intro i e hj
      refine br_t (nI_le (by omega) (by omega)) (h0 (fun z => ?_))
      obtain ⟨j, z⟩ := List.mem_iff_getElem?.mp z
      exact hj j (by have := rm_lt_of z; omega) z
    | succ d ih =>
      intro i e hj
      obtain ⟨x, hx⟩ := rm_get (L := L) (i := i) (by omega)
      obtain ⟨e0, e1, e2, e3⟩ := hF i x hx
      obtain ⟨b0, b1, b2, b3⟩ := hLB x (List.mem_of_getElem? hx)
      have w64 : vp_in (nI i) 64 := vp_in_nI (by omega) (by omega)
      have ci : (nI i).toNatClampNeg = i := nI_clamp (by omega)
      have nx : x ≠ (r, g 0, g 1, g 2) → wY_hasFired_2 post (nI r) (nI n) (nI l) (nI (Z m)) (nI m) (nI L.length) (nI K) br bl tg ty fd dp dn sz pa no ac fr ft ro bo sa mi be bt bb (d + 1) (nI (i + 1)) := fun ne => ih (i + 1) (by omega) (fun j hj2 => by
        by_cases z : j = i
        · rw [z, hx]
          intro y
          exact ne (Option.some.inj y)
        · exact hj j (by omega))
      have inner : ∀ b : Bool, (b = true ↔ x.1 = r) → ∃ k, wY_hasFired_35 post (wY_hasFired_2 post (nI r) (nI n) (nI l) (nI (Z m)) (nI m) (nI L.length) (nI K) br bl tg ty fd dp dn sz pa no ac fr ft ro bo sa mi be bt bb (d + 1)) (nI r) (nI i) (nI n) (nI l) (nI (Z m)) (nI m) (nI L.length) (nI K) br bl tg ty fd dp dn sz pa no ac fr ft ro bo sa mi be bt bb k (rm_bI b) 0 := by
        intro b hb
        refine ⟨0 + 1 + 1 + 1 + 1, ?_⟩
        refine ym_35 (j := 0) hn hE W (by omega) (by omega) e1 b1 (hg 0) ?_
        refine ym_35 (j := 1) hn hE W (by omega) (by omega) e2 b2 (hg 1) ?_
        refine ym_35 (j := 2) hn hE W (by omega) (by omega) e3 b3 (hg 2) ?_
        refine br_t (by decide) ?_
        by_cases q : (((b && decide (x.2.1 = g 0)) && decide (x.2.2.1 = g 1)) && decide (x.2.2.2 = g 2)) = true
        · rw [q]
          refine br_f (by decide) (h1 ?_)
          rw [Bool.and_eq_true, Bool.and_eq_true, Bool.and_eq_true, decide_eq_true_eq, decide_eq_true_eq, decide_eq_true_eq, hb] at q
          obtain ⟨⟨⟨q0, q1⟩, q2⟩, q3⟩ := q
          have : x = (r, g 0, g 1, g 2) := by rw [← q0, ← q1, ← q2, ← q3]
          rw [← this]
          exact List.mem_of_getElem? hx
        · have q2 : (((b && decide (x.2.1 = g 0)) && decide (x.2.2.1 = g 1)) && decide (x.2.2.2 = g 2)) = false := by
            cases z : (((b && decide (x.2.1 = g 0)) && decide (x.2.2.1 = g 1)) && decide (x.2.2.2 = g 2))
            · rfl
            · exact absurd z q
          rw [q2]
          refine br_t rfl (nm_r (nI_1 i) (nx (fun z => q ?_)))
          rw [Bool.and_eq_true, Bool.and_eq_true, Bool.and_eq_true, decide_eq_true_eq, decide_eq_true_eq, decide_eq_true_eq, hb, z]
          exact ⟨⟨⟨rfl, rfl⟩, rfl⟩, rfl⟩
      refine br_f (nI_ge (by omega) (by omega)) (br_f (nI_ge (b := 64) (by omega) (by omega)) ⟨w64, ?_⟩)
      by_cases k0 : x.1 = r
      · exact br_t (by rw [ci, e0, k0]) (inner true ⟨fun _ => k0, fun _ => rfl⟩)
      · exact br_f (by rw [ci, e0]; exact fun z => k0 ((nI_eq (by omega) (by omega)).mp z)) (inner false ⟨fun z => absurd z (by decide), fun z => absurd z k0⟩)
  have := go L.length 0 (by omega) (fun j hj => absurd hj (Nat.not_lt_zero j))
  exact ⟨L.length + 1, this⟩
theorem ym_33 {post : SY → Prop} {J : rm_YJ1} {x1 : Int32} {j k x y : Nat} (hj : j < 2) (bx : x < 1048576) (hy' : y < 1048576) (hx : mi j = nI x) (hy : mi (j + 1) = nI y)
    (k1 : ¬ x < y → wY_sort_33 post J x1 cn lt dr ru fi le br bl k (nI (j + 1)) tg ty fd dp dn sz pa no ac fr ft ro bo sa mi be bt bb) (k2 : x < y → wY_sort_33 post J x1 cn lt dr ru fi le br bl k (nI (j + 1)) tg ty fd dp dn sz pa no ac fr ft ro bo sa (upd (upd mi j (nI y)) (j + 1) (nI x)) be bt bb) :
    wY_sort_33 post J x1 cn lt dr ru fi le br bl (k + 1) (nI j) tg ty fd dp dn sz pa no ac fr ft ro bo sa mi be bt bb := by
  have w : vp_in (nI j) 3 := vp_in_nI (by omega) (by omega)
  have w1 : vp_in (nI j + 1) 3 := by rw [nI_1]; exact vp_in_nI (by omega) (by omega)
  have cj : (nI j).toNatClampNeg = j := nI_clamp (by omega)
  have c1 : (nI j + 1).toNatClampNeg = j + 1 := by rw [nI_1]; exact nI_clamp (by omega)
  refine br_f (nI_ge (b := 2) hj (by omega)) ⟨w, w1, ?_⟩
  by_cases z : x < y
  · exact br_f (by rw [cj, c1, hx, hy]; exact nI_ge z (by omega)) ⟨w, nm_r (e' := nI x) (by rw [cj]; exact hx) ⟨w1, w, nm_r (e' := upd mi j (nI y)) (by rw [cj, c1, hy]) ⟨w1, nm_r (e' := upd (upd mi j (nI y)) (j + 1) (nI x)) (by rw [c1]) (nm_r (nI_1 j) (k2 z))⟩⟩⟩
  · exact br_t (by rw [cj, c1, hx, hy]; exact nI_le (by omega) (by omega)) (nm_r (nI_1 j) (k1 z))
theorem ym_ps {post : SY → Prop} {J : rm_YJ1} {i : Nat} {t : rm_T3} (ht : rm_r3 mi t) (tb : rm_t3 t) (h : ∀ mi', rm_r3 mi' (rm_b2 (rm_b1 t)) → J (nI (i + 1)) tg ty fd dp dn sz pa no ac fr ft ro bo sa mi' be bt bb) : ∃ k, wY_sort_33 post J (nI i) cn lt dr ru fi le br bl k 0 tg ty fd dp dn sz pa no ac fr ft ro bo sa mi be bt bb := by
  have last : ∀ mi' (s : rm_T3), rm_r3 mi' s → rm_t3 s → (∀ mi2, rm_r3 mi2 (rm_b2 s) → J (nI (i + 1)) tg ty fd dp dn sz pa no ac fr ft ro bo sa mi2 be bt bb) → wY_sort_33 post J (nI i) cn lt dr ru fi le br bl (0 + 1 + 1) (nI 1) tg ty fd dp dn sz pa no ac fr ft ro bo sa mi' be bt bb := by
    intro mi' s hs sb k
    obtain ⟨s0, s1, s2⟩ := hs
    refine ym_33 (j := 1) (by omega) sb.2.1 sb.2.2 s1 s2 (fun z => ?_) (fun z => ?_)
    · refine br_t (by decide) (nm_r (nI_1 i) (k mi' ?_))
      unfold rm_b2
      rw [if_neg z]
      exact ⟨s0, s1, s2⟩
    · refine br_t (by decide) (nm_r (nI_1 i) (k _ ?_))
      unfold rm_b2
      rw [if_pos z]
      refine ⟨?_, ?_, pk_us⟩
      · rw [pk_un (by omega), pk_un (by omega)]; exact s0
      · rw [pk_un (by omega), pk_us]
  obtain ⟨t0, t1, t2⟩ := ht
  refine ⟨0 + 1 + 1 + 1, ?_⟩
  refine ym_33 (j := 0) (by omega) tb.1 tb.2.1 t0 t1 (fun z => ?_) (fun z => ?_)
  · have e : rm_b1 t = t := by unfold rm_b1; rw [if_neg z]
    rw [e] at h
    exact last mi t ⟨t0, t1, t2⟩ tb h
  · have e : rm_b1 t = (t.2.1, t.1, t.2.2) := by unfold rm_b1; rw [if_pos z]
    rw [e] at h
    refine last _ (t.2.1, t.1, t.2.2) ⟨?_, pk_us, ?_⟩ ⟨tb.2.1, tb.1, tb.2.2⟩ h
    · rw [pk_un (by omega), pk_us]
    · rw [pk_un (by omega), pk_un (by omega)]; exact t2
theorem ym_so {post : SY → Prop} (hn : n ≤ 12) (hE : rm_YE n T C tg ty fd) (W : rm_RW n K T g ro) (hg : ∀ j, g j < 1048576)
    (h : ∀ mi', mi' 0 = nI (rm_m0 (g 0) (g 1) (g 2)) → mi' 1 = nI (rm_m1 (g 0) (g 1) (g 2)) → mi' 2 = nI (rm_m2 (g 0) (g 1) (g 2)) → post (cn, lt, dr, ru, fi, nI K, br, bl, tg, ty, fd, dp, dn, sz, pa, no, ac, fr, ft, ro, bo, sa, mi', be, bt, bb)) : wpY_sort post (cn, lt, dr, ru, fi, nI K, br, bl, tg, ty, fd, dp, dn, sz, pa, no, ac, fr, ft, ro, bo, sa, mi, be, bt, bb) := by
  refine ⟨0 + 1 + 1 + 1 + 1, ?_⟩
  refine br_f rm_q0 (ym_ta (k := 0) hn hE W (by omega) ?_ _ rfl)
  refine ⟨rm_v0, nm_r (e' := upd mi 0 (nI (g 0))) (by rw [rm_c0]) (nm_r rm_01 ?_)⟩
  refine br_f rm_q1 (ym_ta (k := 1) hn hE W (by omega) ?_ _ rfl)
  refine ⟨rm_v1, nm_r (e' := upd (upd mi 0 (nI (g 0))) 1 (nI (g 1))) (by rw [rm_c1]) (nm_r rm_12 ?_)⟩
  refine br_f rm_q2 (ym_ta (k := 2) hn hE W (by omega) ?_ _ rfl)
  refine ⟨rm_v2, nm_r (e' := rm_u3 mi (nI (g 0)) (nI (g 1)) (nI (g 2))) (by rw [rm_c2]; rfl) (nm_r rm_23 ?_)⟩
  have t0 : rm_r3 (rm_u3 mi (nI (g 0)) (nI (g 1)) (nI (g 2))) (g 0, g 1, g 2) := ⟨rm_u3_0, rm_u3_1, rm_u3_2⟩
  have b0 : rm_t3 (g 0, g 1, g 2) := ⟨hg 0, hg 1, hg 2⟩
  generalize rm_u3 mi (nI (g 0)) (nI (g 1)) (nI (g 2)) = mi0 at t0
  refine br_t rm_q3 ⟨0 + 1 + 1 + 1 + 1, ?_⟩
  refine br_f rm_q0 (ym_ps (i := 0) t0 b0 (fun mi1 t1 => ?_))
  have b1 := rm_t3_2 (rm_t3_1 b0)
  refine br_f rm_q1 (ym_ps (i := 1) t1 b1 (fun mi2 t2 => ?_))
  have b2 := rm_t3_2 (rm_t3_1 b1)
  refine br_f rm_q2 (ym_ps (i := 2) t2 b2 (fun mi3 t3 => ?_))
  rw [rm_srt] at t3
  exact br_t rm_q3 (h mi3 t3.1 t3.2.1 t3.2.2)
theorem ym_2 {post : Int32 → Prop} {q : Int32} {j x y k : Nat} (hj : j < 3) (bx : x < 1048576) (hy' : y < 1048576) (hx : mi j = nI x) (hy : be j = nI y) (he : x = y → wY_before_2 post q cn lt dr ru fi le br bl tg ty fd dp dn sz pa no ac fr ft ro bo sa mi be bt bb k (nI (j + 1))) (hg : y < x → post 1) (hl : x < y → post 0) : wY_before_2 post q cn lt dr ru fi le br bl tg ty fd dp dn sz pa no ac fr ft ro bo sa mi be bt bb (k + 1) (nI j) := by
  have w : vp_in (nI j) 3 := vp_in_nI hj (by omega)
  have cj : (nI j).toNatClampNeg = j := nI_clamp (by omega)
  refine br_f (nI_ge (b := 3) hj (by omega)) ⟨w, w, ?_⟩
  by_cases e : x = y
  · exact br_t (by rw [cj, hx, hy, e]) (nm_r (nI_1 j) (he e))
  · refine br_f (by rw [cj, hx, hy]; exact fun z => e ((nI_eq (by omega) (by omega)).mp z)) ⟨w, w, ?_⟩
    by_cases g : y < x
    · exact br_f (by rw [cj, hx, hy]; exact nI_ge g (by omega)) (hg g)
    · exact br_t (by rw [cj, hx, hy]; exact nI_le (by omega) (by omega)) (hl (by omega))
theorem ym_73 {post : Int32 → Prop} {j y k : Nat} (hn : n ≤ 12) (hE : rm_YE n T C tg ty fd) (W : rm_RW n K T g ro) (hj : j < 3) (bx : g j < 1048576) (hy' : y < 1048576) (hy : bt j = nI y) (he : g j = y → wY_before_73 post cn lt dr ru fi (nI K) br bl tg ty fd dp dn sz pa no ac fr ft ro bo sa mi be bt bb k (nI (j + 1))) (hg : y < g j → post 1) (hl : g j < y → post 0) : wY_before_73 post cn lt dr ru fi (nI K) br bl tg ty fd dp dn sz pa no ac fr ft ro bo sa mi be bt bb (k + 1) (nI j) := by
  have w : vp_in (nI j) 3 := vp_in_nI hj (by omega)
  have cj : (nI j).toNatClampNeg = j := nI_clamp (by omega)
  refine br_f (nI_ge (b := 3) hj (by omega)) (ym_ta hn hE W hj ?_ _ rfl)
  refine ⟨w, ?_⟩
  by_cases e : g j = y
  · exact br_t (by rw [cj, hy, e]) (nm_r (nI_1 j) (he e))
  · refine br_f (by rw [cj, hy]; exact fun z => e ((nI_eq (by omega) (by omega)).mp z)) (ym_ta hn hE W hj ?_ _ rfl)
    refine ⟨w, ?_⟩
    by_cases q : y < g j
    · exact br_f (by rw [cj, hy]; exact nI_ge q (by omega)) (hg q)
    · exact br_t (by rw [cj, hy]; exact nI_le (by omega) (by omega)) (hl (by omega))
theorem ym_bb {post : Int32 → Prop} {r r' a' b' c' : Nat} (hn : n ≤ 12) (hE : rm_YE n T C tg ty fd) (W : rm_RW n K T g ro) (hg : ∀ j, g j < 1048576) (ha' : a' < 1048576) (hb' : b' < 1048576) (hc' : c' < 1048576) (hr : r < 7) (hr' : r' < 7)
    (f0 : mi 0 = nI (rm_m0 (g 0) (g 1) (g 2))) (f1 : mi 1 = nI (rm_m1 (g 0) (g 1) (g 2))) (f2 : mi 2 = nI (rm_m2 (g 0) (g 1) (g 2))) (g0 : be 0 = nI (rm_m0 a' b' c')) (g1 : be 1 = nI (rm_m1 a' b' c')) (g2 : be 2 = nI (rm_m2 a' b' c'))
    (s0 : bt 0 = nI a') (s1 : bt 1 = nI b') (s2 : bt 2 = nI c')
    (h1 : rm_kf r' a' b' c' < rm_kf r (g 0) (g 1) (g 2) → post 1) (h0 : ¬ rm_kf r' a' b' c' < rm_kf r (g 0) (g 1) (g 2) → post 0) : wpY_before post (cn, lt, dr, ru, fi, nI K, nI r', bl, tg, ty, fd, dp, dn, sz, pa, no, ac, fr, ft, ro, bo, sa, mi, be, bt, bb) (nI r) := by
  have ha := hg 0
  have hb := hg 1
  have hc := hg 2
  have kk := rm_bt_k (r := r) (r' := r') ha hb hc ha' hb' hc'
  obtain ⟨m0, m1, m2⟩ := rm_mb ha hb hc
  obtain ⟨n0, n1, n2⟩ := rm_mb ha' hb' hc'
  rw [← kk] at h1 h0
  unfold rm_bt at h1 h0
  clear kk
  generalize rm_m0 (g 0) (g 1) (g 2) = x0 at *
  generalize rm_m1 (g 0) (g 1) (g 2) = x1 at *
  generalize rm_m2 (g 0) (g 1) (g 2) = x2 at *
  generalize rm_m0 a' b' c' = y0 at *
  generalize rm_m1 a' b' c' = y1 at *
  generalize rm_m2 a' b' c' = y2 at *
  refine ⟨0 + 1 + 1 + 1 + 1, ?_⟩
  refine ym_2 (j := 0) (by omega) m0 n0 f0 g0 (fun e0 => ?_) (fun z => h1 (by omega)) (fun z => h0 (by omega))
  refine ym_2 (j := 1) (by omega) m1 n1 f1 g1 (fun e1 => ?_) (fun z => h1 (by omega)) (fun z => h0 (by omega))
  refine ym_2 (j := 2) (by omega) m2 n2 f2 g2 (fun e2 => ?_) (fun z => h1 (by omega)) (fun z => h0 (by omega))
  refine br_t (by decide) ?_
  by_cases er : r = r'
  · refine br_t (by rw [er]) ⟨0 + 1 + 1 + 1 + 1, ?_⟩
    refine ym_73 (j := 0) hn hE W (by omega) ha ha' s0 (fun e3 => ?_) (fun z => h1 (by omega)) (fun z => h0 (by omega))
    refine ym_73 (j := 1) hn hE W (by omega) hb hb' s1 (fun e4 => ?_) (fun z => h1 (by omega)) (fun z => h0 (by omega))
    refine ym_73 (j := 2) hn hE W (by omega) hc hc' s2 (fun e5 => ?_) (fun z => h1 (by omega)) (fun z => h0 (by omega))
    exact br_t (by decide) (h0 (by omega))
  · refine br_f (fun z => er ((nI_eq (by omega) (by omega)).mp z)) ?_
    by_cases lr : r < r'
    · exact br_f (nI_ge lr (by omega)) (h1 (by omega))
    · exact br_t (nI_le (by omega) (by omega)) (h0 (by omega))
theorem ym_nt {post : SY → Prop} {q : Int32} (hn : n ≤ 12) (hE : rm_YE n T C tg ty fd) (W : rm_RW n K T g ro) (h : ∀ be' bt' bb', rm_ag be' mi → (∀ j, j < 3 → bt' j = nI (g j)) → rm_ag bb' bo → post (cn, lt, dr, ru, fi, nI K, q, nI K, tg, ty, fd, dp, dn, sz, pa, no, ac, fr, ft, ro, bo, sa, mi, be', bt', bb')) : wpY_note post (cn, lt, dr, ru, fi, nI K, br, bl, tg, ty, fd, dp, dn, sz, pa, no, ac, fr, ft, ro, bo, sa, mi, be, bt, bb) q := by
  refine ⟨0 + 1 + 1 + 1 + 1, br_f rm_q0 ⟨rm_v0, rm_v0, nm_r (e' := upd be 0 (mi 0)) (by rw [rm_c0]) (ym_ta (k := 0) hn hE W (by omega) ?_ _ rfl)⟩⟩
  refine ⟨rm_v0, nm_r (e' := upd bt 0 (nI (g 0))) (by rw [rm_c0]) ⟨rm_v0, rm_v0, nm_r (e' := upd bb 0 (bo 0)) (by rw [rm_c0]) (nm_r rm_01 ?_)⟩⟩
  refine br_f rm_q1 ⟨rm_v1, rm_v1, nm_r (e' := upd (upd be 0 (mi 0)) 1 (mi 1)) (by rw [rm_c1]) (ym_ta (k := 1) hn hE W (by omega) ?_ _ rfl)⟩
  refine ⟨rm_v1, nm_r (e' := upd (upd bt 0 (nI (g 0))) 1 (nI (g 1))) (by rw [rm_c1]) ⟨rm_v1, rm_v1, nm_r (e' := upd (upd bb 0 (bo 0)) 1 (bo 1)) (by rw [rm_c1]) (nm_r rm_12 ?_)⟩⟩
  refine br_f rm_q2 ⟨rm_v2, rm_v2, nm_r (e' := rm_u3 be (mi 0) (mi 1) (mi 2)) (by rw [rm_c2]; rfl) (ym_ta (k := 2) hn hE W (by omega) ?_ _ rfl)⟩
  refine ⟨rm_v2, nm_r (e' := rm_u3 bt (nI (g 0)) (nI (g 1)) (nI (g 2))) (by rw [rm_c2]; rfl) ⟨rm_v2, rm_v2, nm_r (e' := rm_u3 bb (bo 0) (bo 1) (bo 2)) (by rw [rm_c2]; rfl) (nm_r rm_23 ?_)⟩⟩
  refine br_t rm_q3 (h _ _ _ (rm_u3_ag rfl rfl rfl) ?_ (rm_u3_ag rfl rfl rfl))
  exact rm_u3_ag (A := fun j => nI (g j)) rfl rfl rfl
end YB
