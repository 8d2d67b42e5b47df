def i_Rel (k : Nat) (u : SX) (v : SY) : Prop := rm_Rel (10 * k) u v
theorem i_up {k : Nat} {u : SX} {v : SY} (h : i_Rel k u v) : i_Rel (k + 3) u v := by
  obtain ⟨n, l, m, T, C, U, B, Z, Q, P, N, LX, LY, hX, hY, hP, hU⟩ := h
  exact rm_mk hX hY hP (by omega) hU
theorem i_vc0 : wpX_init (fun u => wpY_init (fun v => i_Rel 0 u v)) := by
  refine ⟨0, 0, 0, fun _ => 0, fun _ => 0, fun _ => 0, fun _ => 0, fun _ => 0, fun _ => 0, fun _ _ => 0, fun _ _ => false, [], [], ?_, ?_, ?_, ?_⟩
  · refine ⟨nI_0.symm, nI_0.symm, nI_0.symm, nI_0.symm, fun i hi => absurd hi (Nat.not_lt_zero i), ⟨fun r hr => ⟨nI_0.symm, nI_0.symm, fun i hi => absurd hi (Nat.not_lt_zero i)⟩, fun r hr => absurd hr (Nat.not_lt_zero r)⟩, fun i x hx => by simp at hx⟩
  · refine ⟨nI_0.symm, nI_0.symm, nI_0.symm, nI_0.symm, nI_0.symm, fun i hi => absurd hi (Nat.not_lt_zero i), ⟨fun i hi => absurd hi (Nat.not_lt_zero i), fun r hr => absurd hr (Nat.not_lt_zero r)⟩, fun i x hx => by simp at hx⟩
  · refine ⟨Nat.le_refl _, Nat.zero_le _, ⟨fun i j hi => absurd hi (Nat.not_lt_zero i), fun i hi => absurd hi (Nat.not_lt_zero i)⟩, ⟨fun i j hi => absurd hi (Nat.not_lt_zero i), fun i hi => absurd hi (Nat.not_lt_zero i)⟩, fun i hi => absurd hi (Nat.not_lt_zero i), fun i hi => absurd hi (Nat.not_lt_zero i), rfl, Nat.zero_le _, (fun x hx => by cases hx), fun x hx => by cases hx⟩
  · exact ⟨Nat.zero_le _, fun r _ => ⟨Nat.zero_le _, fun i hi => absurd hi (Nat.not_lt_zero i), fun z => absurd z (Nat.lt_irrefl 0)⟩, fun r hr => absurd hr (Nat.not_lt_zero r)⟩
theorem i_vc_make {k : Nat} {u : SX} {v : SY} (I : i_Rel k u v) (hk : k + 3 ≤ 1536) (v1 : Int32) (v2 : Int32) : wpX_make (fun r u' => wpY_make (fun r' v' => r' = r ∧ i_Rel (k + 3) u' v') v v1 v2) u v1 v2 := by
  have J := i_up I
  obtain ⟨n, l, m, T, C, U, B, Z, Q, P, N, LX, LY, hX, hY, hP, hU⟩ := I
  have hn := hP.2.1
  obtain ⟨lt, ec, rc, fc, br, tg, ct, ao, cc, pc, pa, na, fr, ft, rt, rf, va, ex, bt, bf, bv⟩ := u
  obtain ⟨cn2, lt2, dr2, ru2, fi2, le2, br2, bl2, tg2, ty2, fd2, dp2, dn2, sz2, pa2, no2, ac2, fr2, ft2, ro2, bo2, sa2, mi2, be2, bt2, bb2⟩ := v
  obtain ⟨rfl, rfl, rfl, rfl, hE, hXR, hFl⟩ := hX
  obtain ⟨rfl, rfl, rfl, rfl, rfl, hE2, hYR, hFl2⟩ := hY
  by_cases a1 : v1 < 0
  · exact br_t a1 (br_t a1 ⟨rfl, J⟩)
  · obtain ⟨y, hy, rfl⟩ := nI_of a1
    by_cases a2 : y < 4
    · by_cases a3 : v2 < 0
      · exact br_f a1 (br_t (nI_lt (b := 4) a2 (by omega)) (br_t a3 (br_f a1 (br_t (nI_le (b := 3) (by omega) (by omega)) (br_t a3 ⟨rfl, J⟩)))))
      · obtain ⟨f, hf, rfl⟩ := nI_of a3
        by_cases a4 : f < 4096
        · refine xm_mk a2 a4 hn (fun z => ?_) (fun z => ?_) _ _ rfl rfl
          · refine br_f a1 (br_t (nI_le (b := 3) (by omega) (by omega)) (br_f a3 (br_t (nI_le (b := 4095) (by omega) (by omega)) ?_)))
            refine ym_ad hn (fun _ => ?_) (fun w => absurd z w) _ _ rfl rfl
            exact ⟨rfl, rm_mk ⟨rfl, rfl, rfl, rfl, rm_XE_mk hE, hXR, hFl⟩ ⟨rfl, rfl, rfl, rfl, rfl, rm_YE_mk a4 hE2, hYR, hFl2⟩ (rm_PP_mk hP z (by omega)) (by omega) hU⟩
          · refine br_f a1 (br_t (nI_le (b := 3) (by omega) (by omega)) (br_f a3 (br_t (nI_le (b := 4095) (by omega) (by omega)) ?_)))
            exact ym_ad hn (fun w => absurd w z) (fun _ => ⟨rfl, J⟩) _ _ rfl rfl
        · exact br_f a1 (br_t (nI_lt (b := 4) a2 (by omega)) (br_f a3 (br_f (nI_nlt (b := 4096) (by omega) (by omega)) (br_f a1 (br_t (nI_le (b := 3) (by omega) (by omega)) (br_f a3 (br_f (nI_ge (a := 4095) (by omega) (by omega)) ⟨rfl, J⟩)))))))
    · exact br_f a1 (br_f (nI_nlt (b := 4) (by omega) (by omega)) (br_f a1 (br_f (nI_ge (a := 3) (by omega) (by omega)) ⟨rfl, J⟩)))
theorem rm_ex {b n l : Nat} {T C U B : Nat → Nat} {LX LY : List rm_Fi} (hP : rm_PP b n l T C U B LX LY) (q : Int32) : (∃ i j, i < n ∧ j < n ∧ nI (T i) = q ∧ U j = T i ∧ B j = C i) ∨ ((∀ i, i < n → ¬ nI (T i) = q) ∧ ∀ j, j < n → ¬ nI (U j) = q) := by
  obtain ⟨h1, h2, h3, h4, h5, h6, h7⟩ := hP
  by_cases z : ∃ i, i < n ∧ nI (T i) = q
  · obtain ⟨i, hi, e⟩ := z
    obtain ⟨j, hj, e1, e2⟩ := h5 i hi
    exact Or.inl ⟨i, j, hi, hj, e, e1, e2⟩
  · refine Or.inr ⟨fun i hi e => z ⟨i, hi, e⟩, fun j hj e => ?_⟩
    obtain ⟨i, hi, e1, e2⟩ := h6 j hj
    exact z ⟨i, hi, by rw [e1]; exact e⟩
theorem i_vc_remove {k : Nat} {u : SX} {v : SY} (I : i_Rel k u v) (hk : k + 3 ≤ 1536) (v1 : Int32) : wpX_remove (fun r u' => wpY_remove (fun r' v' => r' = r ∧ i_Rel (k + 3) u' v') v v1) u v1 := by
  have J := i_up I
  obtain ⟨n, l, m, T, C, U, B, Z, Q, P, N, LX, LY, hX, hY, hP, hU⟩ := I
  have hn := hP.2.1
  have hl : l < 1048576 := by have := hP.1; omega
  have hT := hP.2.2.1
  have hT2 := hP.2.2.2.1
  have lb := (rm_PP_lb hP hl).1
  have hLX := rm_PP_len hP
  obtain ⟨lt, ec, rc, fc, br, tg, ct, ao, cc, pc, pa, na, fr, ft, rt, rf, va, ex, bt, bf, bv⟩ := u
  obtain ⟨cn2, lt2, dr2, ru2, fi2, le2, br2, bl2, tg2, ty2, fd2, dp2, dn2, sz2, pa2, no2, ac2, fr2, ft2, ro2, bo2, sa2, mi2, be2, bt2, bb2⟩ := v
  obtain ⟨rfl, rfl, rfl, rfl, hE, hXR, hFl⟩ := hX
  obtain ⟨rfl, rfl, rfl, rfl, rfl, hE2, hYR, hFl2⟩ := hY
  rcases rm_ex hP v1 with ⟨i, j, hi, hj, e, e1, e2⟩ | ⟨z1, z2⟩
  · obtain ⟨n, rfl⟩ : ∃ n', n = n' + 1 := ⟨n - 1, by omega⟩
    subst e
    have ti := hT.2 i hi
    refine xm_rm ⟨hn, hl, hT, hU, hLX, lb, hE, hXR, hFl⟩ hi (fun tg' ct' fr' ft' hE' hF' => ?_) _ rfl
    unfold wpY_remove
    refine ym_fi hn (fun d hd => (hE2 d hd).1) (fun d hd z => ?_) (fun z => absurd (by rw [e1]) (z j hj))
    have td := hT2.2 d hd
    have ed : U d = T i := (nI_eq (by omega) (by omega)).mp z
    refine br_t (nI_pos' (by omega)) ?_
    refine ym_dr hn hd hE2 (fun tg3 ty3 fd3 hE3 => ?_)
    exact ⟨rfl, rm_mk ⟨rfl, rfl, rfl, rfl, hE', hXR, hF'⟩ ⟨rfl, rfl, rfl, rfl, rfl, hE3, hYR, hFl2⟩ (rm_PP_dr hP hi hd ed.symm) (by omega) hU⟩
  · unfold wpX_remove
    refine xm_po hn (fun d hd => (hE d hd).1) (fun d hd z => absurd z (z1 d hd)) (fun _ => br_t rfl ?_)
    unfold wpY_remove
    exact ym_fi hn (fun d hd => (hE2 d hd).1) (fun d hd z => absurd z (z2 d hd)) (fun _ => br_f (by decide) ⟨rfl, J⟩)
theorem i_vc_elements {k : Nat} {u : SX} {v : SY} (I : i_Rel k u v) (hk : k + 3 ≤ 1536) : wpX_elements (fun r => wpY_elements (fun r' => r' = r ∧ i_Rel (k + 3) u v) v) u := by
  have J := i_up I
  obtain ⟨n, l, m, T, C, U, B, Z, Q, P, N, LX, LY, hX, hY, hP, hU⟩ := I
  obtain ⟨lt, ec, rc, fc, br, tg, ct, ao, cc, pc, pa, na, fr, ft, rt, rf, va, ex, bt, bf, bv⟩ := u
  obtain ⟨cn2, lt2, dr2, ru2, fi2, le2, br2, bl2, tg2, ty2, fd2, dp2, dn2, sz2, pa2, no2, ac2, fr2, ft2, ro2, bo2, sa2, mi2, be2, bt2, bb2⟩ := v
  obtain ⟨rfl, rfl, rfl, rfl, hE, hXR, hFl⟩ := hX
  obtain ⟨rfl, rfl, rfl, rfl, rfl, hE2, hYR, hFl2⟩ := hY
  exact ⟨rfl, J⟩
theorem i_vc_rules {k : Nat} {u : SX} {v : SY} (I : i_Rel k u v) (hk : k + 3 ≤ 1536) : wpX_rules (fun r => wpY_rules (fun r' => r' = r ∧ i_Rel (k + 3) u v) v) u := by
  have J := i_up I
  obtain ⟨n, l, m, T, C, U, B, Z, Q, P, N, LX, LY, hX, hY, hP, hU⟩ := I
  obtain ⟨lt, ec, rc, fc, br, tg, ct, ao, cc, pc, pa, na, fr, ft, rt, rf, va, ex, bt, bf, bv⟩ := u
  obtain ⟨cn2, lt2, dr2, ru2, fi2, le2, br2, bl2, tg2, ty2, fd2, dp2, dn2, sz2, pa2, no2, ac2, fr2, ft2, ro2, bo2, sa2, mi2, be2, bt2, bb2⟩ := v
  obtain ⟨rfl, rfl, rfl, rfl, hE, hXR, hFl⟩ := hX
  obtain ⟨rfl, rfl, rfl, rfl, rfl, hE2, hYR, hFl2⟩ := hY
  exact ⟨rfl, J⟩
theorem i_vc_exists {k : Nat} {u : SX} {v : SY} (I : i_Rel k u v) (hk : k + 3 ≤ 1536) (v1 : Int32) : wpX_exists (fun r => wpY_exists (fun r' => r' = r ∧ i_Rel (k + 3) u v) v v1) u v1 := by
  have J := i_up I
  obtain ⟨n, l, m, T, C, U, B, Z, Q, P, N, LX, LY, hX, hY, hP, hU⟩ := I
  have hn := hP.2.1
  obtain ⟨lt, ec, rc, fc, br, tg, ct, ao, cc, pc, pa, na, fr, ft, rt, rf, va, ex, bt, bf, bv⟩ := u
  obtain ⟨cn2, lt2, dr2, ru2, fi2, le2, br2, bl2, tg2, ty2, fd2, dp2, dn2, sz2, pa2, no2, ac2, fr2, ft2, ro2, bo2, sa2, mi2, be2, bt2, bb2⟩ := v
  obtain ⟨rfl, rfl, rfl, rfl, hE, hXR, hFl⟩ := hX
  obtain ⟨rfl, rfl, rfl, rfl, rfl, hE2, hYR, hFl2⟩ := hY
  unfold wpX_exists
  rcases rm_ex hP v1 with ⟨i, j, hi, hj, e, e1, e2⟩ | ⟨z1, z2⟩
  · refine xm_po hn (fun d hd => (hE d hd).1) (fun d hd _ => br_f (rm_nm1 (by omega)) ?_) (fun z => absurd e (z i hi))
    unfold wpY_exists
    exact ym_fi hn (fun d hd => (hE2 d hd).1) (fun d hd _ => br_t (nI_pos' (by omega)) ⟨rfl, J⟩) (fun z => absurd (by rw [e1]; exact e) (z j hj))
  · refine xm_po hn (fun d hd => (hE d hd).1) (fun d hd z => absurd z (z1 d hd)) (fun _ => br_t rfl ?_)
    unfold wpY_exists
    exact ym_fi hn (fun d hd => (hE2 d hd).1) (fun d hd z => absurd z (z2 d hd)) (fun _ => br_f (by decide) ⟨rfl, J⟩)
theorem i_vc_contents {k : Nat} {u : SX} {v : SY} (I : i_Rel k u v) (hk : k + 3 ≤ 1536) (v1 : Int32) : wpX_contents (fun r => wpY_contents (fun r' => r' = r ∧ i_Rel (k + 3) u v) v v1) u v1 := by
  have J := i_up I
  obtain ⟨n, l, m, T, C, U, B, Z, Q, P, N, LX, LY, hX, hY, hP, hU⟩ := I
  have hn := hP.2.1
  have hl : l < 1048576 := by have := hP.1; omega
  have hT := hP.2.2.1
  have hT2 := hP.2.2.2.1
  have hem := hP.2.2.2.2.1
  obtain ⟨lt, ec, rc, fc, br, tg, ct, ao, cc, pc, pa, na, fr, ft, rt, rf, va, ex, bt, bf, bv⟩ := u
  obtain ⟨cn2, lt2, dr2, ru2, fi2, le2, br2, bl2, tg2, ty2, fd2, dp2, dn2, sz2, pa2, no2, ac2, fr2, ft2, ro2, bo2, sa2, mi2, be2, bt2, bb2⟩ := v
  obtain ⟨rfl, rfl, rfl, rfl, hE, hXR, hFl⟩ := hX
  obtain ⟨rfl, rfl, rfl, rfl, rfl, hE2, hYR, hFl2⟩ := hY
  unfold wpX_contents
  refine xm_po hn (fun d hd => (hE d hd).1) (fun i hi e => br_f (rm_nm1 (by omega)) ⟨vp_in_nI (by omega) (by omega), ?_⟩) (fun z1 => br_t rfl ?_)
  · subst e
    have ti := hT.2 i hi
    unfold wpY_contents
    obtain ⟨j, hj, e1, e2⟩ := hem i hi
    refine ym_fi hn (fun d hd => (hE2 d hd).1) (fun d hd z => br_t (nI_pos' (by omega)) ⟨vp_in_nI (by omega) (by omega), vp_in_nI (by omega) (by omega), ?_, J⟩) (fun z => absurd (by rw [e1]) (z j hj))
    have td := hT2.2 d hd
    have tj := hT2.2 j hj
    have ed : d = j := hT2.1 d j hd hj (by rw [e1]; exact (nI_eq (by omega) (by omega)).mp z)
    subst ed
    obtain ⟨_, q1, q2⟩ := hE2 d hd
    have q : (4096 : Int32) = nI 4096 := rfl
    rw [nI_clamp (by omega), nI_clamp (by omega), q1, q2, (hE i hi).2, q, pk_mul, nI_add, ← e2]
    exact congrArg nI (by omega)
  · unfold wpY_contents
    refine ym_fi hn (fun d hd => (hE2 d hd).1) (fun d hd z => ?_) (fun _ => br_f (by decide) ⟨rfl, J⟩)
    obtain ⟨i, hi, e1, e2⟩ := hP.2.2.2.2.2.1 d hd
    exact absurd (by rw [e1]; exact z) (z1 i hi)
