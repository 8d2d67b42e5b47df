def rm_P2 (P : Nat → Nat → Nat) (m z p : Nat) : Nat → Nat → Nat := fun r i => if r = m ∧ i = z then p else P r i
def rm_N2 (N : Nat → Nat → Bool) (m z : Nat) (g : Bool) : Nat → Nat → Bool := fun r i => if r = m ∧ i = z then g else N r i
theorem rm_P2_s {P : Nat → Nat → Nat} {m z p : Nat} : rm_P2 P m z p m z = p := if_pos ⟨rfl, rfl⟩
theorem rm_N2_s {N : Nat → Nat → Bool} {m z : Nat} {g : Bool} : rm_N2 N m z g m z = g := if_pos ⟨rfl, rfl⟩
theorem rm_P2_n {P : Nat → Nat → Nat} {m z p r i : Nat} (h : ¬ (r = m ∧ i = z)) : rm_P2 P m z p r i = P r i := if_neg h
theorem rm_N2_n {N : Nat → Nat → Bool} {m z r i : Nat} {g : Bool} (h : ¬ (r = m ∧ i = z)) : rm_N2 N m z g r i = N r i := if_neg h
theorem rm_N2_p {N : Nat → Nat → Bool} {m z : Nat} {g : Bool} : rm_pc (rm_N2 N m z g m) (z + 1) = rm_pc (N m) z + (if g = true then 0 else 1) := by
  have a : rm_pc (rm_N2 N m z g m) z = rm_pc (N m) z := rm_pc_c z (fun i hi => rm_N2_n (by omega))
  show rm_pc (rm_N2 N m z g m) z + (if rm_N2 N m z g m z = true then 0 else 1) = _
  rw [a, rm_N2_s]
theorem rm_XR_cond {m p : Nat} {Z Q : Nat → Nat} {P : Nat → Nat → Nat} {N : Nat → Nat → Bool} {g : Bool} {ao cc pc pa na pc' : Nat → Int32} (h : rm_XR m Z Q P N ao cc pc pa na) (hz : ∀ r, r ≤ m → Z r ≤ 3)
    (h1 : pc' m = nI (rm_pc (N m) (Z m) + (if g = true then 0 else 1))) (h2 : ∀ r, r ≠ m → pc' r = pc r) :
    rm_XR m (rm_w Z m (Z m + 1)) Q (rm_P2 P m (Z m) p) (rm_N2 N m (Z m) g) ao (upd cc m (nI (Z m + 1))) pc' (upd pa (3 * m + Z m) (nI p)) (upd na (3 * m + Z m) (rm_bI g)) := by
  refine ⟨fun r hr => ?_, h.2⟩
  obtain ⟨a, b, c⟩ := h.1 r hr
  by_cases e : r = m
  · subst e
    rw [rm_w_s, rm_N2_p, pk_us]
    refine ⟨rfl, h1, fun i hi => ?_⟩
    by_cases z : i = Z r
    · rw [z, pk_us, pk_us, rm_P2_s, rm_N2_s]
      exact ⟨rfl, rfl⟩
    · rw [pk_un (by omega), pk_un (by omega), rm_P2_n (by omega), rm_N2_n (by omega)]
      exact c i (by omega)
  · rw [rm_w_n e, pk_un e, h2 r e]
    have q : rm_pc (rm_N2 N m (Z m) g r) (Z r) = rm_pc (N r) (Z r) := rm_pc_c _ (fun i _ => rm_N2_n (by omega))
    rw [q]
    refine ⟨a, b, fun i hi => ?_⟩
    have := hz r hr
    rw [pk_un (by omega), pk_un (by omega), rm_P2_n (by omega), rm_N2_n (by omega)]
    exact c i hi
theorem rm_YR_cond {m p : Nat} {Z Q : Nat → Nat} {P : Nat → Nat → Nat} {N : Nat → Nat → Bool} {g : Bool} {dp dn sz pa no ac : Nat → Int32} (h : rm_YR m Z Q P N dp dn sz pa no ac) :
    rm_YR m (rm_w Z m (Z m + 1)) Q (rm_P2 P m (Z m) p) (rm_N2 N m (Z m) g) (upd dp (Z m) (nI p)) (upd dn (Z m) (rm_bI g)) sz pa no ac := by
  refine ⟨fun i hi => ?_, fun r hr => ?_⟩
  · rw [rm_w_s] at hi
    by_cases z : i = Z m
    · rw [z, pk_us, pk_us, rm_P2_s, rm_N2_s]
      exact ⟨rfl, rfl⟩
    · rw [pk_un z, pk_un z, rm_P2_n (by omega), rm_N2_n (by omega)]
      exact h.1 i (by omega)
  · have e : r ≠ m := by omega
    obtain ⟨a, b, c⟩ := h.2 r hr
    rw [rm_w_n e]
    refine ⟨a, b, fun i hi => ?_⟩
    rw [rm_P2_n (by omega), rm_N2_n (by omega)]
    exact c i hi
theorem rm_XR_rule {m a : Nat} {Z Q : Nat → Nat} {P : Nat → Nat → Nat} {N : Nat → Nat → Bool} {ao cc pc pa na : Nat → Int32} (h : rm_XR m Z Q P N ao cc pc pa na) :
    rm_XR (m + 1) (rm_w Z (m + 1) 0) (rm_w Q m a) P N (upd ao m (nI a)) (upd cc (m + 1) 0) (upd pc (m + 1) 0) pa na := by
  refine ⟨fun r hr => ?_, fun r hr => ?_⟩
  · by_cases e : r = m + 1
    · rw [e, rm_w_s, pk_us, pk_us]
      exact ⟨nI_0.symm, nI_0.symm, fun i hi => absurd hi (Nat.not_lt_zero i)⟩
    · rw [rm_w_n e, pk_un e, pk_un e]
      exact h.1 r (by omega)
  · by_cases e : r = m
    · rw [e, pk_us, rm_w_s]
    · rw [pk_un e, rm_w_n e]
      exact h.2 r (by omega)
theorem rm_YR_rule {m a : Nat} {Z Q : Nat → Nat} {P : Nat → Nat → Nat} {N : Nat → Nat → Bool} {dp dn sz pa no ac pa' no' : Nat → Int32} (h : rm_YR m Z Q P N dp dn sz pa no ac) (hz : ∀ r, r ≤ m → Z r ≤ 3)
    (h1 : ∀ i, i < 3 → pa' (3 * m + i) = dp i ∧ no' (3 * m + i) = vp_nar .boolean (dn i)) (h2 : ∀ j, j < 3 * m → pa' j = pa j ∧ no' j = no j) :
    rm_YR (m + 1) (rm_w Z (m + 1) 0) (rm_w Q m a) P N dp dn (upd sz m (nI (Z m))) pa' no' (upd ac m (nI a)) := by
  refine ⟨fun i hi => ?_, fun r hr => ?_⟩
  · rw [rm_w_s] at hi
    exact absurd hi (Nat.not_lt_zero i)
  · have e1 : r ≠ m + 1 := by omega
    rw [rm_w_n e1]
    by_cases e : r = m
    · subst e
      have := hz r (Nat.le_refl r)
      rw [pk_us, pk_us, rm_w_s]
      refine ⟨rfl, rfl, fun i hi => ?_⟩
      obtain ⟨a1, a2⟩ := h1 i (by omega)
      obtain ⟨b1, b2⟩ := h.1 i hi
      rw [a1, a2, b1, b2, rm_b_n]
      exact ⟨rfl, rfl⟩
    · obtain ⟨a1, b1, c1⟩ := h.2 r (by omega)
      have := hz r (by omega)
      rw [pk_un e, pk_un e, rm_w_n e]
      refine ⟨a1, b1, fun i hi => ?_⟩
      obtain ⟨d1, d2⟩ := h2 (3 * r + i) (by omega)
      rw [d1, d2]
      exact c1 i hi
theorem rm_XR_clear {m : Nat} {Z Q : Nat → Nat} {P : Nat → Nat → Nat} {N : Nat → Nat → Bool} {ao cc pc pa na : Nat → Int32} :
    rm_XR 0 (rm_w Z 0 0) Q P N ao (upd cc 0 0) (upd pc 0 0) pa na := by
  refine ⟨fun r hr => ?_, fun r hr => absurd hr (Nat.not_lt_zero r)⟩
  have e : r = 0 := by omega
  rw [e, rm_w_s, pk_us, pk_us]
  exact ⟨nI_0.symm, nI_0.symm, fun i hi => absurd hi (Nat.not_lt_zero i)⟩
theorem rm_YR_clear {Z Q : Nat → Nat} {P : Nat → Nat → Nat} {N : Nat → Nat → Bool} {dp dn sz pa no ac : Nat → Int32} :
    rm_YR 0 (rm_w Z 0 0) Q P N dp dn sz pa no ac := by
  refine ⟨fun i hi => ?_, fun r hr => absurd hr (Nat.not_lt_zero r)⟩
  rw [rm_w_s] at hi
  exact absurd hi (Nat.not_lt_zero i)
section YF
variable {n m l : Nat} {T C Z Q g : Nat → Nat} {P : Nat → Nat → Nat} {N : Nat → Nat → Bool} {L : List rm_Fi}
variable {cn lt dr ru fi le br bl : Int32} {tg ty fd dp dn sz pa no ac fr ft ro bo sa mi be bt bb : Nat → Int32}
theorem ym_91 {post : Int32 → SY → Prop} {a : Nat} (hm : m < 5)
    (h : ∀ pa' no', (∀ i, i < 3 → pa' (3 * m + i) = dp i ∧ no' (3 * m + i) = vp_nar .boolean (dn i)) → (∀ j, j < 3 * m → pa' j = pa j ∧ no' j = no j) → post (nI m) (nI n, nI l, 0, nI (m + 1), nI L.length, le, br, bl, tg, ty, fd, dp, dn, upd sz m (nI (Z m)), pa', no', upd ac m (nI a), fr, ft, ro, bo, sa, mi, be, bt, bb)) :
    ∃ k, wY_rule_91 post (nI a) (nI m) (nI n) (nI l) (nI (Z m)) (nI m) (nI L.length) le br bl k 0 tg ty fd dp dn sz pa no ac fr ft ro bo sa mi be bt bb := by
  have w5 : vp_in (nI m) 5 := vp_in_nI hm (by omega)
  have cm : (nI m).toNatClampNeg = m := nI_clamp (by omega)
  have w0 : vp_in (3 * nI m + 0) 15 := by rw [rm_i0]; exact vp_in_nI (by omega) (by omega)
  have w1 : vp_in (3 * nI m + 1) 15 := by rw [rm_i1']; exact vp_in_nI (by omega) (by omega)
  have w2 : vp_in (3 * nI m + 2) 15 := by rw [rm_i2']; exact vp_in_nI (by omega) (by omega)
  have d0 : (3 * nI m + 0).toNatClampNeg = 3 * m := by rw [rm_i0]; exact nI_clamp (by omega)
  have d1 : (3 * nI m + 1).toNatClampNeg = 3 * m + 1 := by rw [rm_i1']; exact nI_clamp (by omega)
  have d2 : (3 * nI m + 2).toNatClampNeg = 3 * m + 2 := by rw [rm_i2']; exact nI_clamp (by omega)
  refine ⟨0 + 1 + 1 + 1 + 1, br_f rm_q0 ⟨rm_v0, w0, nm_r (e' := upd pa (3 * m) (dp 0)) (by rw [d0, rm_c0]) ⟨rm_v0, w0, nm_r (e' := upd no (3 * m) (vp_nar .boolean (dn 0))) (by rw [d0, rm_c0]) (nm_r rm_01 (br_f rm_q1 ⟨rm_v1, w1, nm_r (e' := upd (upd pa (3 * m) (dp 0)) (3 * m + 1) (dp 1)) (by rw [d1, rm_c1]) ⟨rm_v1, w1, nm_r (e' := upd (upd no (3 * m) (vp_nar .boolean (dn 0))) (3 * m + 1) (vp_nar .boolean (dn 1))) (by rw [d1, rm_c1]) (nm_r rm_12 (br_f rm_q2 ⟨rm_v2, w2, nm_r (e' := upd (upd (upd pa (3 * m) (dp 0)) (3 * m + 1) (dp 1)) (3 * m + 2) (dp 2)) (by rw [d2, rm_c2]) ⟨rm_v2, w2, nm_r (e' := upd (upd (upd no (3 * m) (vp_nar .boolean (dn 0))) (3 * m + 1) (vp_nar .boolean (dn 1))) (3 * m + 2) (vp_nar .boolean (dn 2))) (by rw [d2, rm_c2]) (nm_r rm_23 (br_t rm_q3 ⟨w5, nm_r (e' := upd sz m (nI (Z m))) (by rw [cm]) ⟨w5, nm_r (e' := upd ac m (nI a)) (by rw [cm]) (nm_r (nI_1 m) (h _ _ (fun i hi => ?_) (fun j hj => ?_)))⟩⟩))⟩⟩))⟩⟩))⟩⟩⟩
  · have : i = 0 ∨ i = 1 ∨ i = 2 := by omega
    rcases this with z | z | z
    · subst z
      exact ⟨by rw [pk_un (by omega), pk_un (by omega), Nat.add_zero, pk_us], by rw [pk_un (by omega), pk_un (by omega), Nat.add_zero, pk_us]⟩
    · subst z
      exact ⟨by rw [pk_un (by omega), pk_us], by rw [pk_un (by omega), pk_us]⟩
    · subst z
      exact ⟨pk_us, pk_us⟩
  · exact ⟨by rw [pk_un (by omega), pk_un (by omega), pk_un (by omega)], by rw [pk_un (by omega), pk_un (by omega), pk_un (by omega)]⟩
theorem ym_27 {post : Int32 → SY → Prop} {x1 : Int32} (hz : Z m ≤ 3) (hR : rm_YR m Z Q P N dp dn sz pa no ac) (h : wY_rule_58 post x1 (nI (rm_pc (N m) (Z m))) (nI n) (nI l) (nI (Z m)) (nI m) (nI L.length) le br bl tg ty fd dp dn sz pa no ac fr ft ro bo sa mi be bt bb) : ∃ k, wY_rule_27 post x1 (nI n) (nI l) (nI (Z m)) (nI m) (nI L.length) le br bl tg ty fd dp dn sz pa no ac fr ft ro bo sa mi be bt bb k 0 0 := by
  have go : ∀ d i, i + d = Z m → wY_rule_27 post x1 (nI n) (nI l) (nI (Z m)) (nI m) (nI L.length) le br bl tg ty fd dp dn sz pa no ac fr ft ro bo sa mi be bt bb (d + 1) (nI (rm_pc (N m) i)) (nI i) := by
    intro d
    induction d with
    | zero =>
      intro i e
      have e2 : i = Z m := by omega
      rw [e2]
      exact br_t (nI_le (Nat.le_refl _) (by omega)) h
    | succ d ih =>
      intro i e
      have hi : i < Z m := by omega
      have ci : dn (nI i).toNatClampNeg = rm_bI (N m i) := by rw [nI_clamp (by omega)]; exact (hR.1 i hi).2
      have := ih (i + 1) (by omega)
      refine br_f (nI_ge hi (by omega)) (br_f (nI_ge (b := 3) (by omega) (by omega)) ⟨vp_in_nI (by omega) (by omega), ?_⟩)
      by_cases ng : N m i = true
      · have pk : rm_pc (N m) (i + 1) = rm_pc (N m) i := by
          show _ + (if N m i = true then 0 else 1) = _
          rw [if_pos ng]; rfl
        rw [pk] at this
        exact br_f (by rw [ci, ng]; decide) (nm_r (nI_1 i) this)
      · have nf : N m i = false := by
          cases q : N m i
          · rfl
          · exact absurd q ng
        have pk : rm_pc (N m) (i + 1) = rm_pc (N m) i + 1 := by
          show _ + (if N m i = true then 0 else 1) = _
          rw [if_neg ng]
        rw [pk] at this
        exact br_t (by rw [ci, nf]; decide) (nm_r (nI_1 _) (nm_r (nI_1 i) this))
  exact ⟨Z m + 1, go (Z m) 0 (by omega)⟩
end YF
