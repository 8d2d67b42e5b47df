def rm_Y (n l m : Nat) (T C Z Q : Nat → Nat) (P : Nat → Nat → Nat) (N : Nat → Nat → Bool) (L : List rm_Fi) (v : SY) : Prop :=
  match v with
  | (cn, lt, dr, ru, fi, le, br, bl, tg, ty, fd, dp, dn, sz, pa, no, ac, fr, ft, ro, bo, sa, mi, be, bt, bb) => cn = nI n ∧ lt = nI l ∧ dr = nI (Z m) ∧ ru = nI m ∧ fi = nI L.length ∧ rm_YE n T C tg ty fd ∧ rm_YR m Z Q P N dp dn sz pa no ac ∧ rm_Fl fr ft L
section YE
variable {n m l : Nat} {T C Z Q g : Nat → Nat} {P : Nat → Nat → Nat} {N : Nat → Nat → Bool} {L : List rm_Fi}
variable {cn lt dr ru fi le br bl : Int32} {tg ty fd dp dn sz pa no ac fr ft ro bo sa mi be bt bb : Nat → Int32}
theorem ym_act {post : Int32 → SY → Prop} {r a k0 : Nat} {A : Nat → Int32} (hn : n ≤ 12) (hl : l < 1048576) (hPE : rm_PE n l T C) (hE : rm_YE n T C tg ty fd) (hr5 : r < 5) (hac : ac r = nI a) (ha : a < 32004) (hbt : ∀ j, j < 3 → bt j = nI (g j)) (hv : rm_ag bb A) (hV : rm_va A)
    (hex : 0 < a → a < 4 → ∃ i, i < n ∧ g (a - 1) = T i) (h0 : a = 0 → post (nI r) (nI n, nI l, nI (Z m), nI m, nI (k0 + 1), le, nI r, bl, tg, ty, fd, dp, dn, sz, pa, no, ac, fr, ft, ro, bo, sa, mi, be, bt, bb))
    (hr : ∀ n' i, n = n' + 1 → i < n' + 1 → 0 < a → a < 4 → g (a - 1) = T i → ∀ tg' ty' fd', rm_YE n' (rm_dy T i) (rm_dy C i) tg' ty' fd' → post (nI r) (nI n', nI l, nI (Z m), nI m, nI (k0 + 1), le, nI r, bl, tg', ty', fd', dp, dn, sz, pa, no, ac, fr, ft, ro, bo, sa, mi, be, bt, bb))
    (hm : 4 ≤ a → n < 12 → post (nI r) (nI (n + 1), nI (l + 1), nI (Z m), nI m, nI (k0 + 1), le, nI r, bl, upd tg n (nI (l + 1)), upd ty n (nI ((a - 4) / 8000)), upd fd n (nI (rm_ff A (a - 4))), dp, dn, sz, pa, no, ac, fr, ft, ro, bo, sa, mi, be, bt, bb))
    (hm0 : 4 ≤ a → ¬ n < 12 → post (nI r) (nI n, nI l, nI (Z m), nI m, nI (k0 + 1), le, nI r, bl, tg, ty, fd, dp, dn, sz, pa, no, ac, fr, ft, ro, bo, sa, mi, be, bt, bb)) :
    wY_shoot_44 post (nI k0) (nI n) (nI l) (nI (Z m)) (nI m) fi le (nI r) bl (0 + 1) 3 tg ty fd dp dn sz pa no ac fr ft ro bo sa mi be bt bb := by
  refine br_t rm_q3 (nm_r (nI_1 k0) ⟨vp_in_nI hr5 (by omega), nm_r (e' := nI a) (by rw [nI_clamp (by omega)]; exact hac) ?_⟩)
  by_cases a4 : a < 4
  · refine br_t (nI_le (b := 3) (by omega) (by omega)) ?_
    by_cases a0 : a = 0
    · exact br_t (by rw [a0]; decide) (h0 a0)
    · obtain ⟨i, hi, gi⟩ := hex (by omega) a4
      clear hex
      obtain ⟨n', rfl⟩ : ∃ n', n = n' + 1 := ⟨n - 1, by omega⟩
      have e1 : nI a - 1 = nI (a - 1) := pk_sub (a := a) (b := 1) (by omega)
      have w : vp_in (nI a - 1) 3 := by rw [e1]; exact vp_in_nI (by omega) (by omega)
      have cb : bt (nI a - 1).toNatClampNeg = nI (T i) := by rw [e1, nI_clamp (by omega), hbt (a - 1) (by omega), gi]
      have ti := hPE.2 i hi
      refine br_f (nI_nle (by omega) (by omega)) ⟨w, ?_⟩
      refine ym_fi hn (fun j hj => (hE j hj).1) (fun j hj z => ?_) (fun z => absurd cb.symm (z i hi))
      have tj := hPE.2 j hj
      have e : j = i := hPE.1 j i hj hi ((nI_eq (by omega) (by omega)).mp (z.trans cb))
      subst e
      refine br_f (nI_pos (by omega)) ?_
      refine ym_dr hn hj hE (fun tg' ty' fd' hE' => ?_)
      exact hr n' j rfl hi (by omega) a4 gi tg' ty' fd' hE'
  · have e4 : nI a - 4 = nI (a - 4) := pk_sub (a := a) (b := 4) (by omega)
    refine br_f (nI_ge (a := 3) (by omega) (by omega)) (nm_r e4 ?_)
    have hp : a - 4 < 32000 := by omega
    refine ym_e0 hp ?_
    refine ym_e1 hp ?_
    refine ym_e2 hp ?_
    refine ym_md (A := A) (Nat.mod_lt _ (by omega)) hv hV ?_
    refine ym_md (A := A) (Nat.mod_lt _ (by omega)) hv hV ?_
    refine ym_md (A := A) (Nat.mod_lt _ (by omega)) hv hV ?_
    have e7 : 256 * nI (rm_fv A ((a - 4) / 400 % 20)) + 16 * nI (rm_fv A ((a - 4) / 20 % 20)) + nI (rm_fv A ((a - 4) % 20)) = nI (rm_ff A (a - 4)) := by
      have q1 : (256 : Int32) = nI 256 := rfl
      have q2 : (16 : Int32) = nI 16 := rfl
      rw [q1, q2, pk_mul, pk_mul, nI_add, nI_add]
      rfl
    refine nm_r e7 ⟨by decide, ?_⟩
    refine ym_ad (y := (a - 4) / 8000) (f := rm_ff A (a - 4)) hn (fun z => hm (by omega) z) (fun z => hm0 (by omega) z) _ _ ?_ rfl
    exact rm_d8 hp
end YE
theorem ym_shoot {n m l : Nat} {T C Z Q : Nat → Nat} {P : Nat → Nat → Nat} {N : Nat → Nat → Bool} {L L' : List rm_Fi} {v : SY} {post : Int32 → SY → Prop}
    (hY : rm_Y n l m T C Z Q P N L v) (hn : n ≤ 12) (hl : l < 1048576) (hPE : rm_PE n l T C) (hPU : rm_PU m Z Q P N) (hL : L.length ≤ 40) (hLB : rm_LB L) (hL' : L.filter (rm_al T n) = L')
    (hN : rm_fr (rm_om T C n P N Z L) (fun r => 12 ^ rm_pc (N r) (Z r)) m = none → ∀ v', rm_Y n l m T C Z Q P N L v' → post (-1) v')
    (hF : ∀ x, rm_fr (rm_om T C n P N Z L) (fun r => 12 ^ rm_pc (N r) (Z r)) m = some x → ¬ L'.length < 40 → ∀ v', rm_Y n l m T C Z Q P N L' v' → post (-2) v')
    (h0 : ∀ x, rm_fr (rm_om T C n P N Z L) (fun r => 12 ^ rm_pc (N r) (Z r)) m = some x → L'.length < 40 → Q x.1 = 0 → ∀ v', rm_Y n l m T C Z Q P N (L' ++ [(x.1, x.2.1 0, x.2.1 1, x.2.1 2)]) v' → post (nI x.1) v')
    (hR : ∀ x, rm_fr (rm_om T C n P N Z L) (fun r => 12 ^ rm_pc (N r) (Z r)) m = some x → L'.length < 40 → ∀ n' i, n = n' + 1 → i < n' + 1 → 0 < Q x.1 → Q x.1 < 4 → x.2.1 (Q x.1 - 1) = T i → ∀ v', rm_Y n' l m (rm_dy T i) (rm_dy C i) Z Q P N (L' ++ [(x.1, x.2.1 0, x.2.1 1, x.2.1 2)]) v' → post (nI x.1) v')
    (hM : ∀ x, rm_fr (rm_om T C n P N Z L) (fun r => 12 ^ rm_pc (N r) (Z r)) m = some x → L'.length < 40 → 4 ≤ Q x.1 → n < 12 → ∀ v', rm_Y (n + 1) (l + 1) m (rm_w T n (l + 1)) (rm_w C n (4096 * ((Q x.1 - 4) / 8000) + rm_ff x.2.2 (Q x.1 - 4))) Z Q P N (L' ++ [(x.1, x.2.1 0, x.2.1 1, x.2.1 2)]) v' → post (nI x.1) v')
    (hM0 : ∀ x, rm_fr (rm_om T C n P N Z L) (fun r => 12 ^ rm_pc (N r) (Z r)) m = some x → L'.length < 40 → 4 ≤ Q x.1 → ¬ n < 12 → ∀ v', rm_Y n l m T C Z Q P N (L' ++ [(x.1, x.2.1 0, x.2.1 1, x.2.1 2)]) v' → post (nI x.1) v') :
    wpY_shoot post v := by
  obtain ⟨cn, lt, dr, ru, fi, le, br, bl, tg, ty, fd, dp, dn, sz, pa, no, ac, fr, ft, ro, bo, sa, mi, be, bt, bb⟩ := v
  obtain ⟨rfl, rfl, rfl, rfl, rfl, hE, hYR, hFl⟩ := hY
  have H : rm_YH n m l T C Z Q P N L tg ty fd dp dn sz pa no ac fr ft := ⟨hn, hl, hPE, hPU, hL, hLB, hE, hYR, hFl⟩
  have tb : ∀ i, i < n → T i < 1048576 := fun i hi => by
    have := hPE.2 i hi
    omega
  unfold wpY_shoot
  refine ym_lo H (fun le ro bo sa mi br bl be bt bb hb => ?_)
  cases hq : rm_fr (rm_om T C n P N Z L) (fun r => 12 ^ rm_pc (N r) (Z r)) m with
  | none =>
    rw [hq] at hb
    have hb2 : br = -1 := hb
    subst hb2
    exact br_f (by decide) (hN hq _ ⟨rfl, rfl, rfl, rfl, rfl, hE, hYR, hFl⟩)
  | some x =>
    rw [hq] at hb
    obtain ⟨b1, b2, b3, b4, b5, b6, b7, b8, b9⟩ := hb
    subst b1
    obtain ⟨k1, k2, k3, k4, k5⟩ := rm_fr_ok hPE hl hq
    have hm := hPU.1
    obtain ⟨z1, z2, z3⟩ := hPU.2.2 x.1 b2
    obtain ⟨p1, p3⟩ := rm_pc_1 hPU b2
    refine br_t (nI_pos' (by omega)) ?_
    refine ym_fo hn (fun i hi => (hE i hi).1) tb hL hLB hFl (fun fr' ft' hFl' => ?_)
    rw [hL'] at hFl'
    rw [hL']
    have L40 : L'.length ≤ 40 := by
      rw [← hL']
      exact Nat.le_trans (List.length_filter_le _ _) hL
    by_cases l40 : L'.length < 40
    · have g0 := b4 0 (by omega)
      have g1 := b4 1 (by omega)
      have g2 := b4 2 (by omega)
      have w : vp_in (nI L'.length) 64 := vp_in_nI (by omega) (by omega)
      have c : (nI L'.length).toNatClampNeg = L'.length := nI_clamp (by omega)
      have w0 : vp_in (3 * nI L'.length + 0) 192 := by rw [rm_i0]; exact vp_in_nI (by omega) (by omega)
      have w1 : vp_in (3 * nI L'.length + 1) 192 := by rw [rm_i1']; exact vp_in_nI (by omega) (by omega)
      have w2 : vp_in (3 * nI L'.length + 2) 192 := by rw [rm_i2']; exact vp_in_nI (by omega) (by omega)
      have d0 : (3 * nI L'.length + 0).toNatClampNeg = 3 * L'.length := by rw [rm_i0]; exact nI_clamp (by omega)
      have d1 : (3 * nI L'.length + 1).toNatClampNeg = 3 * L'.length + 1 := by rw [rm_i1']; exact nI_clamp (by omega)
      have d2 : (3 * nI L'.length + 2).toNatClampNeg = 3 * L'.length + 2 := by rw [rm_i2']; exact nI_clamp (by omega)
      have el : (L' ++ [(x.1, x.2.1 0, x.2.1 1, x.2.1 2)]).length = L'.length + 1 := List.length_append
      have el2 : nI (L'.length + 1) = nI (L' ++ [(x.1, x.2.1 0, x.2.1 1, x.2.1 2)]).length := by rw [el]
      refine br_t (nI_le (b := 39) (by omega) (by omega)) ⟨w, nm_r (e' := upd fr' L'.length (nI x.1)) (by rw [c]) ⟨0 + 1 + 1 + 1 + 1, br_f rm_q0 ⟨rm_v0, w0, nm_r (e' := upd ft' (3 * L'.length) (nI (x.2.1 0))) (by rw [d0, rm_c0, g0]) (nm_r rm_01 (br_f rm_q1 ⟨rm_v1, w1, nm_r (e' := upd (upd ft' (3 * L'.length) (nI (x.2.1 0))) (3 * L'.length + 1) (nI (x.2.1 1))) (by rw [d1, rm_c1, g1]) (nm_r rm_12 (br_f rm_q2 ⟨rm_v2, w2, nm_r (e' := upd (upd (upd ft' (3 * L'.length) (nI (x.2.1 0))) (3 * L'.length + 1) (nI (x.2.1 1))) (3 * L'.length + 2) (nI (x.2.1 2))) (by rw [d2, rm_c2, g2]) (nm_r rm_23 ?_)⟩))⟩))⟩⟩⟩
      have F2 : rm_Fl (upd fr' L'.length (nI x.1)) (upd (upd (upd ft' (3 * L'.length) (nI (x.2.1 0))) (3 * L'.length + 1) (nI (x.2.1 1))) (3 * L'.length + 2) (nI (x.2.1 2))) (L' ++ [(x.1, x.2.1 0, x.2.1 1, x.2.1 2)]) := by
        refine rm_Fl_app hFl' (fun j hj => pk_un (by omega)) (fun j hj => ?_) ⟨pk_us, ?_, ?_, pk_us⟩
        · rw [pk_un (by omega), pk_un (by omega), pk_un (by omega)]
        · rw [pk_un (by omega), pk_un (by omega), pk_us]
        · rw [pk_un (by omega), pk_us]
      generalize upd fr' L'.length (nI x.1) = fr2 at F2
      generalize upd (upd (upd ft' (3 * L'.length) (nI (x.2.1 0))) (3 * L'.length + 1) (nI (x.2.1 1))) (3 * L'.length + 2) (nI (x.2.1 2)) = ft2 at F2
      refine ym_act (a := Q x.1) (g := x.2.1) (A := x.2.2) (Z := Z) (m := m) hn hl hPE hE (by omega) (hYR.2 x.1 b2).2.1 z2 b4 b8 k2 (fun y1 y2 => ?_) (fun y => ?_) (fun n' i e hi y1 y2 y3 tg' ty' fd' hE' => ?_) (fun y1 y2 => ?_) (fun y1 y2 => ?_)
      · exact k4 (Q x.1 - 1) (by have := z3 y2; omega)
      · exact h0 x hq l40 y _ ⟨rfl, rfl, rfl, rfl, el2, hE, hYR, F2⟩
      · exact hR x hq l40 n' i e hi y1 y2 y3 _ ⟨rfl, rfl, rfl, rfl, el2, hE', hYR, F2⟩
      · exact hM x hq l40 y1 y2 _ ⟨rfl, rfl, rfl, rfl, el2, rm_YE_mk (rm_ff_b k2 _) hE, hYR, F2⟩
      · exact hM0 x hq l40 y1 y2 _ ⟨rfl, rfl, rfl, rfl, el2, hE, hYR, F2⟩
    · exact br_f (nI_ge (a := 39) (by omega) (by omega)) (hF x hq l40 _ ⟨rfl, rfl, rfl, rfl, rfl, hE, hYR, hFl'⟩)
