theorem i_vc_fire {k : Nat} {u : SX} {v : SY} (I : i_Rel k u v) (hk : k + 3 ≤ 1536) : wpX_fire (fun r u' => wpY_fire (fun r' v' => r' = r ∧ i_Rel (k + 3) u' v') v) u := by
  obtain ⟨n, l, m, T, C, U, B, Z, Q, P, N, LX, LY, hX, hY, hP, hU⟩ := I
  obtain ⟨r, n', l', T', C', U', B', LX', LY', hP2, hXf, hYf⟩ := rm_fire2 (m := m) (Z := Z) (Q := Q) (P := P) (N := N) hP hU (by omega)
  refine hXf _ _ hX (fun u' hu' => ?_)
  obtain ⟨cn2, lt2, dr2, ru2, fi2, le2, br2, bl2, tg2, ty2, fd2, dp2, dn2, sz2, pa2, no2, ac2, fr2, ft2, ro2, bo2, sa2, mi2, be2, bt2, bb2⟩ := v
  unfold wpY_fire
  refine hYf _ _ hY (fun v' hv' => ?_)
  obtain ⟨cn, lt, dr, ru, fi, le, br, bl, tg, ty, fd, dp, dn, sz, pa, no, ac, fr, ft, ro, bo, sa, mi, be, bt, bb⟩ := v'
  exact ⟨rfl, rm_mk hu' hv' hP2 (by omega) hU⟩
theorem i_vc_run {k : Nat} {u : SX} {v : SY} (I : i_Rel k u v) (hk : k + 3 ≤ 1536) (v1 : Int32) : wpX_run (fun r u' => wpY_run (fun r' v' => r' = r ∧ i_Rel (k + 3) u' v') v v1) u v1 := by
  have J := i_up I
  obtain ⟨n, l, m, T, C, U, B, Z, Q, P, N, LX, LY, hX, hY, hP, hU⟩ := I
  have hX' := hX
  have hY' := hY
  obtain ⟨lt, ec, rc, fc, br, tg, ct, ao, cc, pc, pa, na, fr, ft, rt, rf, va, ex, bt, bf, bv⟩ := u
  obtain ⟨cn2, lt2, dr2, ru2, fi2, le2, br2, bl2, tg2, ty2, fd2, dp2, dn2, sz2, pa2, no2, ac2, fr2, ft2, ro2, bo2, sa2, mi2, be2, bt2, bb2⟩ := v
  by_cases a1 : v1 < 1
  · exact br_t a1 (br_t a1 ⟨rfl, J⟩)
  · have a0 : ¬ v1 < 0 := fun z => a1 (Int32.lt_trans z (by decide))
    obtain ⟨c, hc, rfl⟩ := nI_of a0
    by_cases a2 : c ≤ 30
    · have q2 : nI c ≤ 30 := nI_le (b := 30) a2 (by omega)
      refine br_f a1 (br_t q2 ⟨c + 1, ?_⟩)
      have e : 10 * k + 30 = 10 * (k + 3) := by omega
      have R := rm_run (b := 10 * k) (c := c) (v1 := nI c) (v := (cn2, lt2, dr2, ru2, fi2, le2, br2, bl2, tg2, ty2, fd2, dp2, dn2, sz2, pa2, no2, ac2, fr2, ft2, ro2, bo2, sa2, mi2, be2, bt2, bb2)) a2 (by omega) hU c 0 n l T C U B LX LY (by omega) hP (fun post hpost => br_f a1 (br_t q2 ⟨c + 1, hpost _ hY' (c + 1) (by omega)⟩)) _ _ _ _ _ _ _ _ _ _ _ _ _ _ _ _ _ _ _ _ _ hX'
      rw [e] at R
      exact R
    · have q2 : ¬ nI c ≤ 30 := nI_ge (a := 30) (by omega) (by omega)
      exact br_f a1 (br_f q2 (br_f a1 (br_f q2 ⟨rfl, J⟩)))
