theorem i_vc_matches {k : Nat} {u : SX} {v : SY} (I : i_Rel k u v) (hk : k + 3 ≤ 1536) (v1 : Int32) : wpX_matches (fun r u' => wpY_matches (fun r' v' => r' = r ∧ i_Rel (k + 3) u' v') v v1) u v1 := by
  have J := i_up I
  obtain ⟨n, l, m, T, C, U, B, Z, Q, P, N, LX, LY, hX, hY, hP, hU⟩ := I
  have hl : l < 1048576 := by have := hP.1; omega
  have hLX := rm_PP_len hP
  obtain ⟨lbX, lbY⟩ := rm_PP_lb hP hl
  have hP' := hP
  obtain ⟨h1, h2, h3, h4, h5, h6, h7, h8, h9, h10⟩ := hP'
  have hm := hU.1
  obtain ⟨lt, ec, rc, fc, br, tg, ct, ao, cc, pc, pa, na, fr, ft, rt, rf, va, ex, bt, bf, bv⟩ := u
  obtain ⟨cn2, lt2, dr2, ru2, fi2, le2, br2, bl2, tg2, ty2, fd2, dp2, dn2, sz2, pa2, no2, ac2, fr2, ft2, ro2, bo2, sa2, mi2, be2, bt2, bb2⟩ := v
  obtain ⟨rfl, rfl, rfl, rfl, hE, hXR, hFl⟩ := hX
  obtain ⟨rfl, rfl, rfl, rfl, rfl, hE2, hYR, hFl2⟩ := hY
  by_cases a1 : v1 < 0
  · exact br_t a1 (br_t a1 ⟨rfl, J⟩)
  · obtain ⟨r, hr, rfl⟩ := nI_of a1
    by_cases a2 : r < m
    · refine xm_ma ⟨h2, hl, h3, hU, hLX, lbX, hE, hXR, hFl⟩ a2 (fun rt va ex => ?_)
      refine ym_ma ⟨h2, hl, h4, hU, h8, lbY, hE2, hYR, hFl2⟩ a2 (fun le ro bo sa => ?_)
      exact ⟨congrArg nI (rm_pn_eq h2 h4.1 h3.1 h6 h5), rm_mk ⟨rfl, rfl, rfl, rfl, hE, hXR, hFl⟩ ⟨rfl, rfl, rfl, rfl, rfl, hE2, hYR, hFl2⟩ hP (by omega) hU⟩
    · exact br_f a1 (br_f (nI_nlt (by omega) (by omega)) (br_f a1 (br_t (nI_le (by omega) (by omega)) ⟨rfl, J⟩)))
theorem i_vc_open {k : Nat} {u : SX} {v : SY} (I : i_Rel k u v) (hk : k + 3 ≤ 1536) : wpX_open (fun r u' => wpY_open (fun r' v' => r' = r ∧ i_Rel (k + 3) u' v') v) u := by
  obtain ⟨n, l, m, T, C, U, B, Z, Q, P, N, LX, LY, hX, hY, hP, hU⟩ := I
  have hl : l < 1048576 := by have := hP.1; omega
  have hLX := rm_PP_len hP
  have hmem := rm_PP_mem hP
  obtain ⟨lbX, lbY⟩ := rm_PP_lb hP hl
  have hP' := hP
  obtain ⟨h1, h2, h3, h4, h5, h6, h7, h8, h9, h10⟩ := hP'
  obtain ⟨lt, ec, rc, fc, br, tg, ct, ao, cc, pc, pa, na, fr, ft, rt, rf, va, ex, bt, bf, bv⟩ := u
  obtain ⟨cn2, lt2, dr2, ru2, fi2, le2, br2, bl2, tg2, ty2, fd2, dp2, dn2, sz2, pa2, no2, ac2, fr2, ft2, ro2, bo2, sa2, mi2, be2, bt2, bb2⟩ := v
  obtain ⟨rfl, rfl, rfl, rfl, hE, hXR, hFl⟩ := hX
  obtain ⟨rfl, rfl, rfl, rfl, rfl, hE2, hYR, hFl2⟩ := hY
  refine xm_op ⟨h2, hl, h3, hU, hLX, lbX, hE, hXR, hFl⟩ (fun rt va ex => ?_)
  unfold wpY_open
  refine ym_lo ⟨h2, hl, h4, hU, h8, lbY, hE2, hYR, hFl2⟩ (fun le ro bo sa mi br bl be bt bb hb => ?_)
  refine ⟨congrArg nI (rm_oc_eq (fun r => (rm_on_eq r h2 h3.1 h4.1 h5 h6 hmem).symm) m), rm_mk ⟨rfl, rfl, rfl, rfl, hE, hXR, hFl⟩ ⟨rfl, rfl, rfl, rfl, rfl, hE2, hYR, hFl2⟩ hP (by omega) hU⟩
theorem i_vc_firstRule {k : Nat} {u : SX} {v : SY} (I : i_Rel k u v) (hk : k + 3 ≤ 1536) : wpX_firstRule (fun r u' => wpY_firstRule (fun r' v' => r' = r ∧ i_Rel (k + 3) u' v') v) u := by
  obtain ⟨n, l, m, T, C, U, B, Z, Q, P, N, LX, LY, hX, hY, hP, hU⟩ := I
  have hl : l < 1048576 := by have := hP.1; omega
  have hLX := rm_PP_len hP
  have hmem := rm_PP_mem hP
  obtain ⟨lbX, lbY⟩ := rm_PP_lb hP hl
  have hP' := hP
  obtain ⟨h1, h2, h3, h4, h5, h6, h7, h8, h9, h10⟩ := hP'
  have hm := hU.1
  have heq := rm_fr_eq (P := P) (N := N) (sz := Z) (L := LX) (L' := LY) (m := m) hm (fun r hr => (hU.2.1 r (by omega)).1) (fun i hi => by have := h3.2 i hi; omega) h2 h3.1 h4.1 h5 h6 hmem
  obtain ⟨lt, ec, rc, fc, br, tg, ct, ao, cc, pc, pa, na, fr, ft, rt, rf, va, ex, bt, bf, bv⟩ := u
  obtain ⟨cn2, lt2, dr2, ru2, fi2, le2, br2, bl2, tg2, ty2, fd2, dp2, dn2, sz2, pa2, no2, ac2, fr2, ft2, ro2, bo2, sa2, mi2, be2, bt2, bb2⟩ := v
  obtain ⟨rfl, rfl, rfl, rfl, hE, hXR, hFl⟩ := hX
  obtain ⟨rfl, rfl, rfl, rfl, rfl, hE2, hYR, hFl2⟩ := hY
  unfold wpX_firstRule
  refine xm_fb ⟨h2, hl, h3, hU, hLX, lbX, hE, hXR, hFl⟩ (fun rt rf va ex br bt bf bv hb => ?_)
  unfold wpY_firstRule
  refine ym_lo ⟨h2, hl, h4, hU, h8, lbY, hE2, hYR, hFl2⟩ (fun le ro bo sa mi br2 bl be bt2 bb hb2 => ?_)
  refine ⟨?_, rm_mk ⟨rfl, rfl, rfl, rfl, hE, hXR, hFl⟩ ⟨rfl, rfl, rfl, rfl, rfl, hE2, hYR, hFl2⟩ hP (by omega) hU⟩
  rw [← heq] at hb2
  cases hq : rm_fr (rm_om T C n P N Z LX) (fun r => 12 ^ rm_pc (N r) (Z r)) m with
  | none =>
    rw [hq] at hb hb2
    exact (show br2 = -1 from hb2).trans (show br = -1 from hb).symm
  | some x =>
    rw [hq] at hb hb2
    exact hb2.1.trans hb.1.symm
theorem i_vc_firstTag {k : Nat} {u : SX} {v : SY} (I : i_Rel k u v) (hk : k + 3 ≤ 1536) (v1 : Int32) : wpX_firstTag (fun r u' => wpY_firstTag (fun r' v' => r' = r ∧ i_Rel (k + 3) u' v') v v1) u v1 := by
  obtain ⟨n, l, m, T, C, U, B, Z, Q, P, N, LX, LY, hX, hY, hP, hU⟩ := I
  have hl : l < 1048576 := by have := hP.1; omega
  have hLX := rm_PP_len hP
  have hmem := rm_PP_mem hP
  obtain ⟨lbX, lbY⟩ := rm_PP_lb hP hl
  have hP' := hP
  obtain ⟨h1, h2, h3, h4, h5, h6, h7, h8, h9, h10⟩ := hP'
  have hm := hU.1
  have heq := rm_fr_eq (P := P) (N := N) (sz := Z) (L := LX) (L' := LY) (m := m) hm (fun r hr => (hU.2.1 r (by omega)).1) (fun i hi => by have := h3.2 i hi; omega) h2 h3.1 h4.1 h5 h6 hmem
  obtain ⟨lt, ec, rc, fc, br, tg, ct, ao, cc, pc, pa, na, fr, ft, rt, rf, va, ex, bt, bf, bv⟩ := u
  obtain ⟨cn2, lt2, dr2, ru2, fi2, le2, br2, bl2, tg2, ty2, fd2, dp2, dn2, sz2, pa2, no2, ac2, fr2, ft2, ro2, bo2, sa2, mi2, be2, bt2, bb2⟩ := v
  obtain ⟨rfl, rfl, rfl, rfl, hE, hXR, hFl⟩ := hX
  obtain ⟨rfl, rfl, rfl, rfl, rfl, hE2, hYR, hFl2⟩ := hY
  unfold wpX_firstTag
  refine xm_fb ⟨h2, hl, h3, hU, hLX, lbX, hE, hXR, hFl⟩ (fun rt rf va ex br bt bf bv hb => ?_)
  have Y : ∀ r : Int32, (∀ br2 bl be bt2 bb, rm_BY m Z N (rm_fr (rm_om T C n P N Z LX) (fun r => 12 ^ rm_pc (N r) (Z r)) m) br2 bl be bt2 bb → ((0 ≤ br2 → (((v1 < 0 → (-2) = r) ∧ (¬ v1 < 0 → ((bl ≤ v1 → (-2) = r) ∧ (¬ bl ≤ v1 → ((v1 ≤ 2 → (vp_in v1 3 ∧ bt2 v1.toNatClampNeg = r)) ∧ (¬ v1 ≤ 2 → (-2) = r)))))))) ∧ (¬ 0 ≤ br2 → (-1) = r))) →
      wpY_firstTag (fun r' v' => r' = r ∧ i_Rel (k + 3) (nI l, nI n, nI m, nI LX.length, br, tg, ct, ao, cc, pc, pa, na, fr, ft, rt, rf, va, ex, bt, bf, bv) v') (nI n, nI l, nI (Z m), nI m, nI LY.length, le2, br2, bl2, tg2, ty2, fd2, dp2, dn2, sz2, pa2, no2, ac2, fr2, ft2, ro2, bo2, sa2, mi2, be2, bt2, bb2) v1 := by
    intro r h
    unfold wpY_firstTag
    refine ym_lo ⟨h2, hl, h4, hU, h8, lbY, hE2, hYR, hFl2⟩ (fun le ro bo sa mi br2 bl be bt2 bb hb2 => ?_)
    rw [← heq] at hb2
    have R := rm_mk (u := (nI l, nI n, nI m, nI LX.length, br, tg, ct, ao, cc, pc, pa, na, fr, ft, rt, rf, va, ex, bt, bf, bv)) (v := (nI n, nI l, nI (Z m), nI m, nI LY.length, le, br2, bl, tg2, ty2, fd2, dp2, dn2, sz2, pa2, no2, ac2, fr2, ft2, ro, bo, sa, mi, be, bt2, bb)) (m := m) ⟨rfl, rfl, rfl, rfl, hE, hXR, hFl⟩ ⟨rfl, rfl, rfl, rfl, rfl, hE2, hYR, hFl2⟩ hP (show 10 * k ≤ 10 * (k + 3) by omega) hU
    obtain ⟨y1, y2⟩ := h br2 bl be bt2 bb hb2
    exact br_c (fun c => br_c (fun d => ⟨(y1 c).1 d, R⟩) (fun d => br_c (fun e => ⟨((y1 c).2 d).1 e, R⟩) (fun e => br_c (fun f => ⟨(((y1 c).2 d).2 e).1 f |>.1, (((y1 c).2 d).2 e).1 f |>.2, R⟩) (fun f => ⟨(((y1 c).2 d).2 e).2 f, R⟩)))) (fun c => ⟨y2 c, R⟩)
  cases hq : rm_fr (rm_om T C n P N Z LX) (fun r => 12 ^ rm_pc (N r) (Z r)) m with
  | none =>
    rw [hq] at hb Y
    have hb2 : br = -1 := hb
    subst hb2
    refine br_t rfl (Y _ (fun br2 bl be bt2 bb hy => ?_))
    have hy2 : br2 = -1 := hy
    subst hy2
    exact br_f (by decide) rfl
  | some x =>
    rw [hq] at hb Y
    obtain ⟨b1, b2, b3, b4, b5⟩ := hb
    subst b1
    obtain ⟨p1, p3⟩ := rm_pc_1 hU b2
    have qp := (hXR.1 x.1 (by omega)).2.1
    refine br_f (rm_nm1 (by omega)) ?_
    by_cases a1 : v1 < 0
    · refine br_t a1 (Y _ (fun br2 bl be bt2 bb hy => ?_))
      obtain ⟨y1, y2, y3, y4, y5, y6, y7, y8, y9⟩ := hy
      subst y1
      exact br_t (nI_pos' (by omega)) (br_t a1 rfl)
    · obtain ⟨j, hj, rfl⟩ := nI_of a1
      refine br_f a1 ⟨vp_in_nI (by omega) (by omega), ?_⟩
      by_cases a2 : j < rm_pc (N x.1) (Z x.1)
      · refine br_t (by rw [nI_clamp (by omega), qp]; exact nI_lt a2 (by omega)) ⟨vp_in_nI (by omega) (by omega), Y _ (fun br2 bl be bt2 bb hy => ?_)⟩
        obtain ⟨y1, y2, y3, y4, y5, y6, y7, y8, y9⟩ := hy
        subst y1
        subst y9
        refine br_t (nI_pos' (by omega)) (br_f a1 (br_f (nI_ge a2 (by omega)) (br_t (nI_le (b := 2) (by omega) (by omega)) ⟨vp_in_nI (by omega) (by omega), ?_⟩)))
        rw [nI_clamp (by omega), y4 j (by omega), b4 j (by omega)]
      · refine br_f (by rw [nI_clamp (by omega), qp]; exact nI_nlt (by omega) (by omega)) (Y _ (fun br2 bl be bt2 bb hy => ?_))
        obtain ⟨y1, y2, y3, y4, y5, y6, y7, y8, y9⟩ := hy
        subst y1
        subst y9
        exact br_t (nI_pos' (by omega)) (br_f a1 (br_t (nI_le (by omega) (by omega)) rfl))
theorem i_vc_fitting {k : Nat} {u : SX} {v : SY} (I : i_Rel k u v) (hk : k + 3 ≤ 1536) (v1 : Int32) : wpX_fitting (fun r u' => wpY_fitting (fun r' v' => r' = r ∧ i_Rel (k + 3) u' v') v v1) u v1 := by
  have J := i_up I
  obtain ⟨n, l, m, T, C, U, B, Z, Q, P, N, LX, LY, hX, hY, hP, hU⟩ := I
  have hP' := hP
  obtain ⟨h1, h2, h3, h4, h5, h6, h7⟩ := hP'
  obtain ⟨lt, ec, rc, fc, br, tg, ct, ao, cc, pc, pa, na, fr, ft, rt, rf, va, ex, bt, bf, bv⟩ := u
  obtain ⟨cn2, lt2, dr2, ru2, fi2, le2, br2, bl2, tg2, ty2, fd2, dp2, dn2, sz2, pa2, no2, ac2, fr2, ft2, ro2, bo2, sa2, mi2, be2, bt2, bb2⟩ := v
  obtain ⟨rfl, rfl, rfl, rfl, hE, hXR, hFl⟩ := hX
  obtain ⟨rfl, rfl, rfl, rfl, rfl, hE2, hYR, hFl2⟩ := hY
  unfold wpX_fitting
  by_cases a1 : v1 < 0
  · refine br_t a1 (br_t rfl ?_)
    unfold wpY_fitting
    exact br_t a1 (br_f (by decide) ⟨rfl, J⟩)
  · obtain ⟨p, hp, rfl⟩ := nI_of a1
    by_cases a2 : p < 32000
    · refine br_f a1 (br_f (nI_ge (b := 32000) a2 (by omega)) (br_f (by decide) ?_))
      refine xm_ca (fun va' hva => ?_)
      refine xm_cf hva a2 h2 hE (fun i hi => (h3.2 i hi).2.2) (fun ex' => ?_) _ rfl
      unfold wpY_fitting
      refine br_f a1 (br_t (nI_le (b := 31999) (by omega) (by omega)) (br_t rfl ?_))
      refine ym_ft a2 h2 hE2 (fun i hi => (h4.2 i hi).2.2) (fun bo sa => ?_)
      exact ⟨congrArg nI (rm_cfe h4.1 h3.1 h6 h5 (fun x => (rm_fs (fun _ => -1) p x).isSome)), rm_mk ⟨rfl, rfl, rfl, rfl, hE, hXR, hFl⟩ ⟨rfl, rfl, rfl, rfl, rfl, hE2, hYR, hFl2⟩ hP (by omega) hU⟩
    · refine br_f a1 (br_t (nI_le (a := 32000) (by omega) (by omega)) (br_t rfl ?_))
      unfold wpY_fitting
      exact br_f a1 (br_f (nI_ge (a := 31999) (by omega) (by omega)) (br_f (by decide) ⟨rfl, J⟩))
