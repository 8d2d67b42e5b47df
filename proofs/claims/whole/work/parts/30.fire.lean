/-- the relation of the two states: both hold the same rules and elements, and fired matches alike -/
def rm_Rel (b : Nat) (u : SX) (v : SY) : Prop :=
  ∃ (n l m : Nat) (T C U B Z Q : Nat → Nat) (P : Nat → Nat → Nat) (N : Nat → Nat → Bool) (LX LY : List rm_Fi), rm_X n l m T C Z Q P N LX u ∧ rm_Y n l m U B Z Q P N LY v ∧ rm_PP b n l T C U B LX LY ∧ rm_PU m Z Q P N
theorem rm_mk {b b' n l m : Nat} {T C U B Z Q : Nat → Nat} {P : Nat → Nat → Nat} {N : Nat → Nat → Bool} {LX LY : List rm_Fi} {u : SX} {v : SY} (hX : rm_X n l m T C Z Q P N LX u) (hY : rm_Y n l m U B Z Q P N LY v) (hP : rm_PP b n l T C U B LX LY) (hb : b ≤ b') (hU : rm_PU m Z Q P N) : rm_Rel b' u v :=
  ⟨n, l, m, T, C, U, B, Z, Q, P, N, LX, LY, hX, hY, rm_PP_up hP hb, hU⟩
theorem rm_fire2 {b n l m : Nat} {T C U B Z Q : Nat → Nat} {P : Nat → Nat → Nat} {N : Nat → Nat → Bool} {LX LY : List rm_Fi} (hP : rm_PP b n l T C U B LX LY) (hU : rm_PU m Z Q P N) (hb : b < 1048576) :
    ∃ (r : Int32) (n' l' : Nat) (T' C' U' B' : Nat → Nat) (LX' LY' : List rm_Fi), rm_PP (b + 1) n' l' T' C' U' B' LX' LY' ∧
      (∀ u post, rm_X n l m T C Z Q P N LX u → (∀ u', rm_X n' l' m T' C' Z Q P N LX' u' → post r u') → wpX_fire post u) ∧
      (∀ v post, rm_Y n l m U B Z Q P N LY v → (∀ v', rm_Y n' l' m U' B' Z Q P N LY' v' → post r v') → wpY_shoot post v) := by
  have hl : l < 1048576 := by have := hP.1; omega
  have hLX := rm_PP_len hP
  have hmem := rm_PP_mem hP
  obtain ⟨lbX, lbY⟩ := rm_PP_lb hP hl
  obtain ⟨hP2, hfil⟩ := rm_PP_fg hP
  have hP' := hP
  obtain ⟨h1, h2, h3, h4, h5, h6, h7, h8, h9, h10⟩ := hP'
  have hm := hU.1
  have heq := rm_fr_eq (P := P) (N := N) (sz := Z) (L := LX) (L' := LY) (m := m) hm (fun r hr => (hU.2.1 r (by omega)).1) (fun i hi => by have := h3.2 i hi; omega) h2 h3.1 h4.1 h5 h6 hmem
  cases hq : rm_fr (rm_om T C n P N Z LX) (fun r => 12 ^ rm_pc (N r) (Z r)) m with
  | none =>
    have hq2 := heq.symm.trans hq
    refine ⟨-1, n, l, T, C, U, B, LX, LY, rm_PP_up hP (by omega), fun u post hX h => ?_, fun v post hY h => ?_⟩
    · exact xm_fire hX h2 hl h3 hU hLX lbX (fun _ => h) (fun x hx => by rw [hq] at hx; cases hx) (fun x hx => by rw [hq] at hx; cases hx) (fun x hx => by rw [hq] at hx; cases hx) (fun x hx => by rw [hq] at hx; cases hx) (fun x hx => by rw [hq] at hx; cases hx)
    · exact ym_shoot hY h2 hl h4 hU h8 lbY rfl (fun _ => h) (fun x hx => by rw [hq2] at hx; cases hx) (fun x hx => by rw [hq2] at hx; cases hx) (fun x hx => by rw [hq2] at hx; cases hx) (fun x hx => by rw [hq2] at hx; cases hx) (fun x hx => by rw [hq2] at hx; cases hx)
  | some x =>
    have hq2 := heq.symm.trans hq
    obtain ⟨k1, k2, k3, k4, k5⟩ := rm_fr_ok h3 hl hq
    obtain ⟨z1, z2, z3⟩ := hU.2.2 x.1 k1
    have ux : ∀ y, rm_fr (rm_om T C n P N Z LX) (fun r => 12 ^ rm_pc (N r) (Z r)) m = some y → y = x := by
      intro y hy
      rw [hq] at hy
      exact (Option.some.inj hy).symm
    have uy : ∀ y, rm_fr (rm_om U B n P N Z LY) (fun r => 12 ^ rm_pc (N r) (Z r)) m = some y → y = x := by
      intro y hy
      rw [hq2] at hy
      exact (Option.some.inj hy).symm
    have nX : rm_fr (rm_om T C n P N Z LX) (fun r => 12 ^ rm_pc (N r) (Z r)) m = none → False := by
      intro z
      rw [hq] at z
      cases z
    have nY : rm_fr (rm_om U B n P N Z LY) (fun r => 12 ^ rm_pc (N r) (Z r)) m = none → False := by
      intro z
      rw [hq2] at z
      cases z
    by_cases l40 : LX.length < 40
    · have hP3 := rm_PP_app hP2 l40 k5 (by show x.1 < 8; omega)
      by_cases a0 : Q x.1 = 0
      · refine ⟨nI x.1, n, l, T, C, U, B, _, _, rm_PP_up hP3 (by omega), fun u post hX h => ?_, fun v post hY h => ?_⟩
        · refine xm_fire hX h2 hl h3 hU hLX lbX (fun z => (nX z).elim) (fun y hy z => absurd l40 z) (fun y hy _ _ => ?_) (fun y hy _ n' i _ _ z => ?_) (fun y hy _ z => ?_) (fun y hy _ z => ?_)
          · rw [ux y hy]; exact h
          · rw [ux y hy, a0] at z; exact absurd z (by omega)
          · rw [ux y hy, a0] at z; exact absurd z (by omega)
          · rw [ux y hy, a0] at z; exact absurd z (by omega)
        · refine ym_shoot hY h2 hl h4 hU h8 lbY hfil (fun z => (nY z).elim) (fun y hy z => absurd l40 z) (fun y hy _ _ => ?_) (fun y hy _ n' i _ _ z => ?_) (fun y hy _ z => ?_) (fun y hy _ z => ?_)
          · rw [uy y hy]; exact h
          · rw [uy y hy, a0] at z; exact absurd z (by omega)
          · rw [uy y hy, a0] at z; exact absurd z (by omega)
          · rw [uy y hy, a0] at z; exact absurd z (by omega)
      · by_cases a4 : Q x.1 < 4
        · obtain ⟨i, hi, gi⟩ := k4 (Q x.1 - 1) (by have := z3 a4; omega)
          obtain ⟨j, hj, uj, _⟩ := h5 i hi
          obtain ⟨n', rfl⟩ : ∃ n', n = n' + 1 := ⟨n - 1, by omega⟩
          refine ⟨nI x.1, n', l, _, _, _, _, _, _, rm_PP_up (rm_PP_dr hP3 hi hj uj.symm) (by omega), fun u post hX h => ?_, fun v post hY h => ?_⟩
          · refine xm_fire hX h2 hl h3 hU hLX lbX (fun z => (nX z).elim) (fun y hy z => absurd l40 z) (fun y hy _ z => ?_) (fun y hy _ n2 i2 e2 hi2 _ _ z => ?_) (fun y hy _ z => ?_) (fun y hy _ z => ?_)
            · rw [ux y hy] at z; exact absurd z a0
            · obtain rfl : n' = n2 := by omega
              rw [ux y hy] at z
              obtain rfl : i2 = i := h3.1 i2 i hi2 hi (z.symm.trans gi)
              rw [ux y hy]; exact h
            · rw [ux y hy] at z; exact absurd z (by omega)
            · rw [ux y hy] at z; exact absurd z (by omega)
          · refine ym_shoot hY h2 hl h4 hU h8 lbY hfil (fun z => (nY z).elim) (fun y hy z => absurd l40 z) (fun y hy _ z => ?_) (fun y hy _ n2 i2 e2 hi2 _ _ z => ?_) (fun y hy _ z => ?_) (fun y hy _ z => ?_)
            · rw [uy y hy] at z; exact absurd z a0
            · obtain rfl : n' = n2 := by omega
              rw [uy y hy] at z
              obtain rfl : i2 = j := h4.1 i2 j hi2 hj (z.symm.trans (gi.trans uj.symm))
              rw [uy y hy]; exact h
            · rw [uy y hy] at z; exact absurd z (by omega)
            · rw [uy y hy] at z; exact absurd z (by omega)
        · by_cases n12 : n < 12
          · have hc : 4096 * ((Q x.1 - 4) / 8000) + rm_ff x.2.2 (Q x.1 - 4) < 16384 := by
              have := rm_ff_b k2 (Q x.1 - 4)
              omega
            refine ⟨nI x.1, n + 1, l + 1, _, _, _, _, _, _, rm_PP_mk hP3 n12 hc, fun u post hX h => ?_, fun v post hY h => ?_⟩
            · refine xm_fire hX h2 hl h3 hU hLX lbX (fun z => (nX z).elim) (fun y hy z => absurd l40 z) (fun y hy _ z => ?_) (fun y hy _ n2 i2 e2 hi2 _ z => ?_) (fun y hy _ _ _ => ?_) (fun y hy _ _ z => absurd n12 z)
              · rw [ux y hy] at z; exact absurd z a0
              · rw [ux y hy] at z; exact absurd z a4
              · rw [ux y hy]; exact h
            · refine ym_shoot hY h2 hl h4 hU h8 lbY hfil (fun z => (nY z).elim) (fun y hy z => absurd l40 z) (fun y hy _ z => ?_) (fun y hy _ n2 i2 e2 hi2 _ z => ?_) (fun y hy _ _ _ => ?_) (fun y hy _ _ z => absurd n12 z)
              · rw [uy y hy] at z; exact absurd z a0
              · rw [uy y hy] at z; exact absurd z a4
              · rw [uy y hy]; exact h
          · refine ⟨nI x.1, n, l, T, C, U, B, _, _, rm_PP_up hP3 (by omega), fun u post hX h => ?_, fun v post hY h => ?_⟩
            · refine xm_fire hX h2 hl h3 hU hLX lbX (fun z => (nX z).elim) (fun y hy z => absurd l40 z) (fun y hy _ z => ?_) (fun y hy _ n2 i2 e2 hi2 _ z => ?_) (fun y hy _ _ z => absurd z n12) (fun y hy _ _ _ => ?_)
              · rw [ux y hy] at z; exact absurd z a0
              · rw [ux y hy] at z; exact absurd z a4
              · rw [ux y hy]; exact h
            · refine ym_shoot hY h2 hl h4 hU h8 lbY hfil (fun z => (nY z).elim) (fun y hy z => absurd l40 z) (fun y hy _ z => ?_) (fun y hy _ n2 i2 e2 hi2 _ z => ?_) (fun y hy _ _ z => absurd z n12) (fun y hy _ _ _ => ?_)
              · rw [uy y hy] at z; exact absurd z a0
              · rw [uy y hy] at z; exact absurd z a4
              · rw [uy y hy]; exact h
    · refine ⟨-2, n, l, T, C, U, B, LX, LX, rm_PP_up hP2 (by omega), fun u post hX h => ?_, fun v post hY h => ?_⟩
      · exact xm_fire hX h2 hl h3 hU hLX lbX (fun z => (nX z).elim) (fun y hy _ => h) (fun y hy z => absurd z l40) (fun y hy z => absurd z l40) (fun y hy z => absurd z l40) (fun y hy z => absurd z l40)
      · exact ym_shoot hY h2 hl h4 hU h8 lbY hfil (fun z => (nY z).elim) (fun y hy _ => h) (fun y hy z => absurd z l40) (fun y hy z => absurd z l40) (fun y hy z => absurd z l40) (fun y hy z => absurd z l40)
/-- the reference's run from its i-th firing on -/
def rm_rY (post : Int32 → SY → Prop) (c i : Nat) (v : SY) : Prop :=
  match v with
  | (cn, lt, dr, ru, fi, le, br, bl, tg, ty, fd, dp, dn, sz, pa, no, ac, fr, ft, ro, bo, sa, mi, be, bt, bb) => ∀ f, c < f + i → wY_run_20 post (nI c) f (nI i) 1 (nI i) cn lt dr ru fi le br bl tg ty fd dp dn sz pa no ac fr ft ro bo sa mi be bt bb
theorem rm_run {b c m : Nat} {Z Q : Nat → Nat} {P : Nat → Nat → Nat} {N : Nat → Nat → Bool} {v : SY} {v1 : Int32} (hc : c ≤ 30) (hb : b + 30 < 1048576) (hU : rm_PU m Z Q P N) :
    ∀ d i n l T C U B LX LY, i + d = c → rm_PP (b + i) n l T C U B LX LY → (∀ post, (∀ v', rm_Y n l m U B Z Q P N LY v' → rm_rY post c i v') → wpY_run post v v1) →
    ∀ (lt ec rc fc br : Int32) (tg ct ao cc pc pa na fr ft rt rf va ex bt bf bv : Nat → Int32), rm_X n l m T C Z Q P N LX (lt, ec, rc, fc, br, tg, ct, ao, cc, pc, pa, na, fr, ft, rt, rf, va, ex, bt, bf, bv) → wX_run_15 (fun r u' => wpY_run (fun r' v' => r' = r ∧ rm_Rel (b + 30) u' v') v v1) (nI c) (d + 1) (nI i) lt ec rc fc br tg ct ao cc pc pa na fr ft rt rf va ex bt bf bv := by
  intro d
  induction d with
  | zero =>
    intro i n l T C U B LX LY e hP HY lt ec rc fc br tg ct ao cc pc pa na fr ft rt rf va ex bt bf bv hX
    have e2 : i = c := by omega
    subst e2
    refine br_t (nI_le (Nat.le_refl _) (by omega)) (HY _ (fun v' hv' => ?_))
    obtain ⟨cn, lt2, dr, ru, fi, le, br2, bl, tg2, ty, fd, dp, dn, sz, pa2, no, ac, fr2, ft2, ro, bo, sa, mi, be, bt2, bb⟩ := v'
    intro f hf
    obtain ⟨f, rfl⟩ : ∃ f', f = f' + 1 := ⟨f - 1, by omega⟩
    exact br_t (nI_le (Nat.le_refl _) (by omega)) ⟨rfl, rm_mk hX hv' hP (by omega) hU⟩
  | succ d ih =>
    intro i n l T C U B LX LY e hP HY lt ec rc fc br tg ct ao cc pc pa na fr ft rt rf va ex bt bf bv hX
    obtain ⟨r, n', l', T', C', U', B', LX', LY', hP2, hXf, hYf⟩ := rm_fire2 (m := m) (Z := Z) (Q := Q) (P := P) (N := N) hP hU (by omega)
    refine br_f (nI_ge (by omega) (by omega)) (hXf _ _ hX (fun u' hu' => ?_))
    obtain ⟨lt3, ec3, rc3, fc3, br3, tg3, ct3, ao3, cc3, pc3, pa3, na3, fr3, ft3, rt3, rf3, va3, ex3, bt3, bf3, bv3⟩ := u'
    by_cases r0 : 0 ≤ r
    · refine br_t r0 (nm_r (nI_1 i) (ih (i + 1) n' l' T' C' U' B' LX' LY' (by omega) hP2 (fun post hpost => HY post (fun v' hv' => ?_)) _ _ _ _ _ _ _ _ _ _ _ _ _ _ _ _ _ _ _ _ _ hu'))
      obtain ⟨cn, lt2, dr, ru, fi, le, br2, bl, tg2, ty, fd, dp, dn, sz, pa2, no, ac, fr2, ft2, ro, bo, sa, mi, be, bt2, bb⟩ := v'
      intro f hf
      obtain ⟨f, rfl⟩ : ∃ f', f = f' + 1 := ⟨f - 1, by omega⟩
      refine br_f (nI_ge (by omega) (by omega)) (br_f (by decide) (hYf _ _ hv' (fun v2 hv2 => ?_)))
      have hp := hpost v2 hv2
      obtain ⟨cn, lt4, dr, ru, fi, le, br4, bl, tg4, ty, fd, dp, dn, sz, pa4, no, ac, fr4, ft4, ro, bo, sa, mi, be, bt4, bb⟩ := v2
      exact br_f (Int32.not_lt.mpr r0) (br_f (by decide) (nm_r (nI_1 i) (nm_r (nI_1 i) (hp f (by omega)))))
    · refine br_f r0 (HY _ (fun v' hv' => ?_))
      obtain ⟨cn, lt2, dr, ru, fi, le, br2, bl, tg2, ty, fd, dp, dn, sz, pa2, no, ac, fr2, ft2, ro, bo, sa, mi, be, bt2, bb⟩ := v'
      intro f hf
      obtain ⟨f, rfl⟩ : ∃ f', f = f' + 1 + 1 := ⟨f - 2, by omega⟩
      refine br_f (nI_ge (by omega) (by omega)) (br_f (by decide) (hYf _ _ hv' (fun v2 hv2 => ?_)))
      obtain ⟨cn, lt4, dr, ru, fi, le, br4, bl, tg4, ty, fd, dp, dn, sz, pa4, no, ac, fr4, ft4, ro, bo, sa, mi, be, bt4, bb⟩ := v2
      refine br_t (Int32.not_le.mp r0) (br_t rfl (nm_r (nI_1 i) ?_))
      have R := rm_mk hu' hv2 hP2 (show b + i + 1 ≤ b + 30 by omega) hU
      exact br_c (fun _ => ⟨rfl, R⟩) (fun _ => br_t rfl ⟨rfl, R⟩)
