section XG
variable {n m l : Nat} {T C Z Q g : Nat → Nat} {P : Nat → Nat → Nat} {N : Nat → Nat → Bool} {L : List rm_Fi}
variable {lt ec rc fc br : Int32} {tg ct ao cc pc pa na fr ft rt rf va ex bt bf bv : Nat → Int32}
theorem xm_44 {post : Int32 → SX → Prop} {p : Nat} {v2 : Int32} {b : Bool} (hm : m ≤ 5) (hz : Z m < 3) (hpc : pc m = nI (rm_pc (N m) (Z m))) (hb : b = true ↔ ¬ v2 = 0)
    (h : ∀ pc', pc' m = nI (rm_pc (N m) (Z m) + (if b = true then 0 else 1)) → (∀ r, r ≠ m → pc' r = pc r) → post (nI (Z m + 1)) (nI l, nI n, nI m, nI L.length, br, tg, ct, ao, upd cc m (nI (Z m + 1)), pc', upd pa (3 * m + Z m) (nI p), upd na (3 * m + Z m) (rm_bI b), fr, ft, rt, rf, va, ex, bt, bf, bv)) :
    wX_condition_44 post (nI p) v2 (nI m) (nI (Z m)) (nI l) (nI n) (nI m) (nI L.length) br tg ct ao cc pc pa na fr ft rt rf va ex bt bf bv := by
  have w6 : vp_in (nI m) 6 := vp_in_nI (by omega) (by omega)
  have cm : (nI m).toNatClampNeg = m := nI_clamp (by omega)
  have w18 : vp_in (nI (3 * m + Z m)) 18 := vp_in_nI (by omega) (by omega)
  have c3 : (nI (3 * m + Z m)).toNatClampNeg = 3 * m + Z m := nI_clamp (by omega)
  refine nm_r (rm_3 m (Z m)) ⟨w18, nm_r (e' := upd pa (3 * m + Z m) (nI p)) (by rw [c3]) ?_⟩
  by_cases z : v2 = 0
  · have b0 : b = false := by
      cases q : b
      · rfl
      · exact absurd z (hb.mp q)
    subst b0
    refine br_t z ⟨w18, nm_r (e' := upd na (3 * m + Z m) (rm_bI false)) (by rw [c3]; exact congrArg _ (rm_b_n false)) (br_t z ⟨w6, w6, nm_r (e' := upd pc m (nI (rm_pc (N m) (Z m) + 1))) (by rw [cm, hpc, nI_1]) ⟨w6, nm_r (e' := upd cc m (nI (Z m + 1))) (by rw [cm, nI_1]) ?_⟩⟩)⟩
    rw [nI_1]
    exact h _ pk_us (fun r hr => pk_un hr)
  · have b1 : b = true := hb.mpr z
    subst b1
    refine br_f z ⟨w18, nm_r (e' := upd na (3 * m + Z m) (rm_bI true)) (by rw [c3]; exact congrArg _ (rm_b_n true)) (br_f z ⟨w6, nm_r (e' := upd cc m (nI (Z m + 1))) (by rw [cm, nI_1]) ?_⟩)⟩
    rw [nI_1]
    exact h _ hpc (fun r _ => rfl)
theorem xm_cond {post : Int32 → SX → Prop} {p : Nat} {v2 : Int32} {b : Bool} (hp : p < 32000) (hm : m ≤ 5) (hz : Z m < 3) (hcc : cc m = nI (Z m)) (hpc : pc m = nI (rm_pc (N m) (Z m))) (hb : b = true ↔ ¬ v2 = 0) (hb0 : Z m = 0 → v2 = 0)
    (h : ∀ pc', pc' m = nI (rm_pc (N m) (Z m) + (if b = true then 0 else 1)) → (∀ r, r ≠ m → pc' r = pc r) → post (nI (Z m + 1)) (nI l, nI n, nI m, nI L.length, br, tg, ct, ao, upd cc m (nI (Z m + 1)), pc', upd pa (3 * m + Z m) (nI p), upd na (3 * m + Z m) (rm_bI b), fr, ft, rt, rf, va, ex, bt, bf, bv)) :
    wpX_condition post (nI l, nI n, nI m, nI L.length, br, tg, ct, ao, cc, pc, pa, na, fr, ft, rt, rf, va, ex, bt, bf, bv) (nI p) v2 := by
  have q := xm_44 (post := post) (v2 := v2) (p := p) (b := b) hm hz hpc hb h
  refine ⟨vp_in_nI (by omega) (by omega), nm_r (e' := nI (Z m)) (by rw [nI_clamp (by omega)]; exact hcc) ?_⟩
  refine br_f (nI_pos (by omega)) (br_f (nI_ge (b := 32000) hp (by omega)) (br_f (by decide) (br_t (nI_lt (b := 3) hz (by omega)) ?_)))
  by_cases z : v2 = 0
  · exact br_t z q
  · have nz : Z m ≠ 0 := fun y => z (hb0 y)
    exact br_f z (br_f (nI_ne0 (by omega) (by omega)) q)
end XG
section YG
variable {n m l : Nat} {T C Z Q g : Nat → Nat} {P : Nat → Nat → Nat} {N : Nat → Nat → Bool} {L : List rm_Fi}
variable {cn lt dr ru fi le br bl : Int32} {tg ty fd dp dn sz pa no ac fr ft ro bo sa mi be bt bb : Nat → Int32}
theorem ym_c35 {post : Int32 → SY → Prop} {p : Nat} {v2 : Int32} {b : Bool} (hz : Z m < 3) (hb : b = true ↔ ¬ v2 = 0)
    (h : post (nI (Z m + 1)) (nI n, nI l, nI (Z m + 1), nI m, nI L.length, le, br, bl, tg, ty, fd, upd dp (Z m) (nI p), upd dn (Z m) (rm_bI b), sz, pa, no, ac, fr, ft, ro, bo, sa, mi, be, bt, bb)) : wY_condition_35 post (nI p) v2 (nI n) (nI l) (nI (Z m)) (nI m) (nI L.length) le br bl tg ty fd dp dn sz pa no ac fr ft ro bo sa mi be bt bb := by
  have w3 : vp_in (nI (Z m)) 3 := vp_in_nI hz (by omega)
  have c : (nI (Z m)).toNatClampNeg = Z m := nI_clamp (by omega)
  refine ⟨w3, nm_r (e' := upd dp (Z m) (nI p)) (by rw [c]) ?_⟩
  by_cases z : v2 = 0
  · have b0 : b = false := by
      cases q : b
      · rfl
      · exact absurd z (hb.mp q)
    subst b0
    exact br_t z ⟨w3, nm_r (e' := upd dn (Z m) (rm_bI false)) (by rw [c]; exact congrArg _ (rm_b_n false)) (nm_r (nI_1 _) h)⟩
  · have b1 : b = true := hb.mpr z
    subst b1
    exact br_f z ⟨w3, nm_r (e' := upd dn (Z m) (rm_bI true)) (by rw [c]; exact congrArg _ (rm_b_n true)) (nm_r (nI_1 _) h)⟩
theorem ym_cond {post : Int32 → SY → Prop} {p : Nat} {v2 : Int32} {b : Bool} (hp : p < 32000) (hz : Z m < 3) (hb : b = true ↔ ¬ v2 = 0) (hb0 : Z m = 0 → v2 = 0)
    (h : post (nI (Z m + 1)) (nI n, nI l, nI (Z m + 1), nI m, nI L.length, le, br, bl, tg, ty, fd, upd dp (Z m) (nI p), upd dn (Z m) (rm_bI b), sz, pa, no, ac, fr, ft, ro, bo, sa, mi, be, bt, bb)) : wpY_condition post (nI n, nI l, nI (Z m), nI m, nI L.length, le, br, bl, tg, ty, fd, dp, dn, sz, pa, no, ac, fr, ft, ro, bo, sa, mi, be, bt, bb) (nI p) v2 := by
  have q := ym_c35 (post := post) (v2 := v2) (p := p) (b := b) hz hb h
  unfold wpY_condition
  refine br_f (nI_pos (by omega)) (br_t (nI_le (b := 31999) (by omega) (by omega)) (br_t rfl (br_t (nI_le (b := 2) (by omega) (by omega)) ?_)))
  by_cases z : v2 = 0
  · exact br_t z q
  · have nz : Z m ≠ 0 := fun y => z (hb0 y)
    exact br_f z (br_f (nI_ne0 (by omega) (by omega)) q)
end YG
theorem i_vc_condition {k : Nat} {u : SX} {v : SY} (I : i_Rel k u v) (hk : k + 3 ≤ 1536) (v1 : Int32) (v2 : Int32) : wpX_condition (fun r u' => wpY_condition (fun r' v' => r' = r ∧ i_Rel (k + 3) u' v') v v1 v2) u v1 v2 := by
  have J := i_up I
  obtain ⟨n, l, m, T, C, U, B, Z, Q, P, N, LX, LY, hX, hY, hP, hU⟩ := I
  have hm := hU.1
  have hz := (hU.2.1 m (Nat.le_refl m)).1
  obtain ⟨lt, ec, rc, fc, br, tg, ct, ao, cc, pc, pa, na, fr, ft, rt, rf, va, ex, bt, bf, bv⟩ := u
  obtain ⟨cn2, lt2, dr2, ru2, fi2, le2, br2, bl2, tg2, ty2, fd2, dp2, dn2, sz2, pa2, no2, ac2, fr2, ft2, ro2, bo2, sa2, mi2, be2, bt2, bb2⟩ := v
  obtain ⟨rfl, rfl, rfl, rfl, hE, hXR, hFl⟩ := hX
  obtain ⟨rfl, rfl, rfl, rfl, rfl, hE2, hYR, hFl2⟩ := hY
  obtain ⟨qc, qp, qr⟩ := hXR.1 m (Nat.le_refl m)
  have w6 : vp_in (nI m) 6 := vp_in_nI (by omega) (by omega)
  have ec : cc (nI m).toNatClampNeg = nI (Z m) := by rw [nI_clamp (by omega)]; exact qc
  by_cases a1 : v1 < 0
  · refine ⟨w6, nm_r ec (br_t a1 (br_t rfl ?_))⟩
    unfold wpY_condition
    exact br_t a1 (br_f (by decide) ⟨rfl, J⟩)
  · obtain ⟨p, hp, rfl⟩ := nI_of a1
    by_cases a2 : p < 32000
    · by_cases a3 : Z m < 3
      · by_cases a4 : Z m = 0 ∧ ¬ v2 = 0
        · refine ⟨w6, nm_r ec (br_f a1 (br_f (nI_ge (b := 32000) a2 (by omega)) (br_f (by decide) (br_t (nI_lt (b := 3) a3 (by omega)) (br_f a4.2 (br_t (by rw [a4.1]; exact nI_0) ?_))))))⟩
          unfold wpY_condition
          exact br_f a1 (br_t (nI_le (b := 31999) (by omega) (by omega)) (br_t rfl (br_t (nI_le (b := 2) (by omega) (by omega)) (br_f a4.2 (br_t (by rw [a4.1]; exact nI_0) ⟨rfl, J⟩)))))
        · have hb : decide (¬ v2 = 0) = true ↔ ¬ v2 = 0 := decide_eq_true_iff
          have hb0 : Z m = 0 → v2 = 0 := fun y => Decidable.byContradiction (fun w => a4 ⟨y, w⟩)
          refine xm_cond (b := decide (¬ v2 = 0)) a2 hm a3 qc qp hb hb0 (fun pc' h1 h2 => ?_)
          refine ym_cond (b := decide (¬ v2 = 0)) a2 a3 hb hb0 ?_
          refine ⟨rfl, rm_mk ⟨rfl, rfl, rfl, rfl, hE, rm_XR_cond hXR (fun r hr => (hU.2.1 r hr).1) h1 h2, hFl⟩ ⟨rfl, rfl, ?_, rfl, rfl, hE2, rm_YR_cond hYR, hFl2⟩ hP (by omega) (rm_PU_cond hU a3 a2 (fun y => ?_))⟩
          · rw [rm_w_s]
          · rw [hb0 y]; rfl
      · refine ⟨w6, nm_r ec (br_f a1 (br_f (nI_ge (b := 32000) a2 (by omega)) (br_f (by decide) (br_f (nI_nlt (b := 3) (by omega) (by omega)) ?_))))⟩
        unfold wpY_condition
        exact br_f a1 (br_t (nI_le (b := 31999) (by omega) (by omega)) (br_t rfl (br_f (nI_ge (a := 2) (by omega) (by omega)) ⟨rfl, J⟩)))
    · refine ⟨w6, nm_r ec (br_f a1 (br_t (nI_le (a := 32000) (by omega) (by omega)) (br_t rfl ?_)))⟩
      unfold wpY_condition
      exact br_f a1 (br_f (nI_ge (a := 31999) (by omega) (by omega)) (br_f (by decide) ⟨rfl, J⟩))
theorem i_vc_rule {k : Nat} {u : SX} {v : SY} (I : i_Rel k u v) (hk : k + 3 ≤ 1536) (v1 : Int32) : wpX_rule (fun r u' => wpY_rule (fun r' v' => r' = r ∧ i_Rel (k + 3) u' v') v v1) u v1 := by
  have J := i_up I
  obtain ⟨n, l, m, T, C, U, B, Z, Q, P, N, LX, LY, hX, hY, hP, hU⟩ := I
  have hm := hU.1
  have hz := (hU.2.1 m (Nat.le_refl m)).1
  have pb := rm_pc_b (N m) (Z m)
  obtain ⟨lt, ec, rc, fc, br, tg, ct, ao, cc, pc, pa, na, fr, ft, rt, rf, va, ex, bt, bf, bv⟩ := u
  obtain ⟨cn2, lt2, dr2, ru2, fi2, le2, br2, bl2, tg2, ty2, fd2, dp2, dn2, sz2, pa2, no2, ac2, fr2, ft2, ro2, bo2, sa2, mi2, be2, bt2, bb2⟩ := v
  obtain ⟨rfl, rfl, rfl, rfl, hE, hXR, hFl⟩ := hX
  obtain ⟨rfl, rfl, rfl, rfl, rfl, hE2, hYR, hFl2⟩ := hY
  obtain ⟨qc, qp, qr⟩ := hXR.1 m (Nat.le_refl m)
  have w6 : vp_in (nI m) 6 := vp_in_nI (by omega) (by omega)
  have cm : (nI m).toNatClampNeg = m := nI_clamp (by omega)
  by_cases a0 : Z m = 0
  · exact ⟨w6, br_t (by rw [cm, qc, a0]; exact nI_0) (br_t (by rw [a0]; exact nI_0) ⟨rfl, J⟩)⟩
  · have nz : ¬ nI (Z m) = 0 := nI_ne0 (by omega) (by omega)
    refine ⟨w6, br_f (by rw [cm, qc]; exact nz) ?_⟩
    by_cases a1 : v1 < 0
    · exact br_t a1 (br_f nz (br_t a1 ⟨rfl, J⟩))
    · obtain ⟨a, ha, rfl⟩ := nI_of a1
      refine br_f a1 ?_
      by_cases a2 : a < 32004
      · refine br_t (nI_lt (b := 32004) a2 (by omega)) ?_
        by_cases a3 : a < 4 ∧ ¬ a ≤ rm_pc (N m) (Z m)
        · refine br_f (nI_ge (b := 4) a3.1 (by omega)) ⟨w6, br_f (by rw [cm, qp]; exact nI_ge (by omega) (by omega)) ?_⟩
          refine br_f nz (br_f a1 (br_t (nI_le (b := 32003) (by omega) (by omega)) (ym_27 hz hYR ?_)))
          exact br_f (nI_nle (by omega) (by omega)) (br_f (nI_ge (b := 4) a3.1 (by omega)) (br_f (nI_ge (by omega) (by omega)) ⟨rfl, J⟩))
        · have y : ∀ (post : Int32 → SY → Prop), wY_rule_75 post (nI a) (nI n) (nI l) (nI (Z m)) (nI m) (nI LY.length) le2 br2 bl2 tg2 ty2 fd2 dp2 dn2 sz2 pa2 no2 ac2 fr2 ft2 ro2 bo2 sa2 mi2 be2 bt2 bb2 → wpY_rule post (nI n, nI l, nI (Z m), nI m, nI LY.length, le2, br2, bl2, tg2, ty2, fd2, dp2, dn2, sz2, pa2, no2, ac2, fr2, ft2, ro2, bo2, sa2, mi2, be2, bt2, bb2) (nI a) := by
            intro post h
            refine br_f nz (br_f a1 (br_t (nI_le (b := 32003) (by omega) (by omega)) (ym_27 hz hYR ?_)))
            by_cases b0 : a = 0
            · exact br_t (by rw [b0]; exact nI_le (b := 0) (Nat.le_refl 0) (by omega)) h
            · refine br_f (nI_nle (by omega) (by omega)) ?_
              by_cases b4 : a < 4
              · exact br_f (nI_ge (b := 4) b4 (by omega)) (br_t (nI_le (Decidable.byContradiction (fun w => a3 ⟨b4, w⟩)) (by omega)) h)
              · exact br_t (nI_le (a := 4) (by omega) (by omega)) h
          have x : ∀ (post : Int32 → SX → Prop), wX_rule_48 post (nI a) (nI m) (nI l) (nI n) (nI m) (nI LX.length) br tg ct ao cc pc pa na fr ft rt rf va ex bt bf bv → ((4 ≤ nI a → wX_rule_48 post (nI a) (nI m) (nI l) (nI n) (nI m) (nI LX.length) br tg ct ao cc pc pa na fr ft rt rf va ex bt bf bv) ∧ (¬ 4 ≤ nI a → (vp_in (nI m) 6 ∧ ((nI a ≤ pc (nI m).toNatClampNeg → wX_rule_48 post (nI a) (nI m) (nI l) (nI n) (nI m) (nI LX.length) br tg ct ao cc pc pa na fr ft rt rf va ex bt bf bv) ∧ (¬ nI a ≤ pc (nI m).toNatClampNeg → post (-3) (nI l, nI n, nI m, nI LX.length, br, tg, ct, ao, cc, pc, pa, na, fr, ft, rt, rf, va, ex, bt, bf, bv)))))) := by
            intro post h
            by_cases b4 : a < 4
            · exact br_f (nI_ge (b := 4) b4 (by omega)) ⟨w6, br_t (by rw [cm, qp]; exact nI_le (Decidable.byContradiction (fun w => a3 ⟨b4, w⟩)) (by omega)) h⟩
            · exact br_t (nI_le (a := 4) (by omega) (by omega)) h
          refine x _ ?_
          by_cases m5 : m < 5
          · have w62 : vp_in (nI (m + 1)) 6 := vp_in_nI (by omega) (by omega)
            have cm2 : (nI (m + 1)).toNatClampNeg = m + 1 := nI_clamp (by omega)
            refine br_t (nI_lt (b := 5) m5 (by omega)) ⟨w6, nm_r (e' := upd ao m (nI a)) (by rw [cm]) (nm_r (nI_1 m) ⟨w62, nm_r (e' := upd cc (m + 1) 0) (by rw [cm2]) ⟨w62, nm_r (e' := upd pc (m + 1) 0) (by rw [cm2]) ?_⟩⟩)⟩
            refine y _ (br_t (nI_le (b := 4) (by omega) (by omega)) (ym_91 m5 (fun pa' no' h1 h2 => ?_)))
            refine ⟨rfl, rm_mk ⟨rfl, rfl, rfl, rfl, hE, rm_XR_rule hXR, hFl⟩ ⟨rfl, rfl, ?_, rfl, rfl, hE2, rm_YR_rule hYR (fun r hr => (hU.2.1 r hr).1) h1 h2, hFl2⟩ hP (by omega) (rm_PU_rule hU m5 (by omega) a2 (fun w => Decidable.byContradiction (fun w2 => a3 ⟨w, w2⟩)))⟩
            rw [rm_w_s]
            exact nI_0.symm
          · exact br_f (nI_nlt (b := 5) (by omega) (by omega)) (y _ (br_f (nI_ge (a := 4) (by omega) (by omega)) ⟨rfl, J⟩))
      · exact br_f (nI_nlt (b := 32004) (by omega) (by omega)) (br_f nz (br_f a1 (br_f (nI_ge (a := 32003) (by omega) (by omega)) ⟨rfl, J⟩)))
theorem i_vc_clearRules {k : Nat} {u : SX} {v : SY} (I : i_Rel k u v) (hk : k + 3 ≤ 1536) : wpX_clearRules (fun r u' => wpY_clearRules (fun r' v' => r' = r ∧ i_Rel (k + 3) u' v') v) u := by
  obtain ⟨n, l, m, T, C, U, B, Z, Q, P, N, LX, LY, hX, hY, hP, hU⟩ := I
  obtain ⟨lt, ec, rc, fc, br, tg, ct, ao, cc, pc, pa, na, fr, ft, rt, rf, va, ex, bt, bf, bv⟩ := u
  obtain ⟨cn2, lt2, dr2, ru2, fi2, le2, br2, bl2, tg2, ty2, fd2, dp2, dn2, sz2, pa2, no2, ac2, fr2, ft2, ro2, bo2, sa2, mi2, be2, bt2, bb2⟩ := v
  obtain ⟨rfl, rfl, rfl, rfl, hE, hXR, hFl⟩ := hX
  obtain ⟨rfl, rfl, rfl, rfl, rfl, hE2, hYR, hFl2⟩ := hY
  have w6 : vp_in (0 : Int32) 6 := vp_in_iff.mpr (by decide)
  unfold wpX_clearRules
  refine ⟨w6, nm_r (e' := upd cc 0 0) (by rw [rm_c0]) ⟨w6, nm_r (e' := upd pc 0 0) (by rw [rm_c0]) ?_⟩⟩
  refine ⟨rfl, rm_mk (m := 0) (LX := []) (LY := []) (Z := rm_w Z 0 0) (Q := Q) (P := P) (N := N) ⟨rfl, rfl, nI_0.symm, nI_0.symm, hE, rm_XR_clear (m := 0), fun i x hx => by simp at hx⟩ ⟨rfl, rfl, ?_, nI_0.symm, nI_0.symm, hE2, rm_YR_clear, fun i x hx => by simp at hx⟩ (rm_PP_nil hP) (by omega) rm_PU_clear⟩
  rw [rm_w_s]
  exact nI_0.symm
