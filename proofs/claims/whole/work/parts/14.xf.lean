/-- what the best match is known to be -/
theorem rm_fr_ok {T C : Nat → Nat} {n l : Nat} {P : Nat → Nat → Nat} {N : Nat → Nat → Bool} {Z : Nat → Nat} {L : List rm_Fi} {m : Nat} {x : rm_It} (hE : rm_PE n l T C) (hl : l < 1048576)
    (h : rm_fr (rm_om T C n P N Z L) (fun r => 12 ^ rm_pc (N r) (Z r)) m = some x) :
    x.1 < m ∧ rm_va x.2.2 ∧ (∀ k, x.2.1 k < 1048576) ∧ (∀ k, k < rm_pc (N x.1) (Z x.1) → ∃ d, d < n ∧ x.2.1 k = T d) ∧ rm_al T n (x.1, x.2.1 0, x.2.1 1, x.2.1 2) = true := by
  obtain ⟨r, hr, c, hc, e⟩ := (rm_ch_fr (om := rm_om T C n P N Z L) (M := fun r => 12 ^ rm_pc (N r) (Z r)) m).1 x h
  unfold rm_om at e
  obtain ⟨s, hs, e⟩ := Option.bind_eq_some_iff.mp e
  have e2 : (r, s.2, s.1) = x := by
    by_cases z : (r, s.2 0, s.2 1, s.2 2) ∈ L
    · rw [if_pos z] at e; cases e
    · rw [if_neg z] at e; exact Option.some.inj e
  subst e2
  obtain ⟨g1, g2, g3⟩ := rm_ps_g _ s hs
  exact ⟨hr, g1, rm_gb hE hl hs, fun k hk => ⟨_, (g2 k hk).1, (g2 k hk).2⟩, rm_ps_al hs⟩
def rm_X (n l m : Nat) (T C Z Q : Nat → Nat) (P : Nat → Nat → Nat) (N : Nat → Nat → Bool) (L : List rm_Fi) (u : SX) : Prop :=
  match u with
  | (lt, ec, rc, fc, br, tg, ct, ao, cc, pc, pa, na, fr, ft, rt, rf, va, ex, bt, bf, bv) => lt = nI l ∧ ec = nI n ∧ rc = nI m ∧ fc = nI L.length ∧ rm_XE n T C tg ct ∧ rm_XR m Z Q P N ao cc pc pa na ∧ rm_Fl fr ft L
theorem rm_XE_mk {n l c : Nat} {T C : Nat → Nat} {tg ct : Nat → Int32} (h : rm_XE n T C tg ct) : rm_XE (n + 1) (rm_w T n (l + 1)) (rm_w C n c) (upd tg n (nI (l + 1))) (upd ct n (nI c)) := by
  intro i hi
  by_cases z : i = n
  · rw [z, pk_us, pk_us, rm_w_s, rm_w_s]
    exact ⟨rfl, rfl⟩
  · rw [pk_un z, pk_un z, rm_w_n z, rm_w_n z]
    exact h i (by omega)
section XF
variable {n m l : Nat} {T C Z Q g : Nat → Nat} {P : Nat → Nat → Nat} {N : Nat → Nat → Bool} {L : List rm_Fi}
variable {lt ec rc fc br : Int32} {tg ct ao cc pc pa na fr ft rt rf va ex bt bf bv : Nat → Int32}
theorem xm_act {post : SX → Prop} {a : Nat} {A : Nat → Int32} (H : rm_XH n m l T C Z Q P N L tg ct ao cc pc pa na fr ft) (ha : a < 32004) (hbt : ∀ j, j < 3 → bt j = nI (g j)) (hv : rm_ag bv A) (hV : rm_va A)
    (hex : 0 < a → a < 4 → ∃ i, i < n ∧ g (a - 1) = T i) (h0 : a = 0 → post (nI l, nI n, nI m, nI L.length, br, tg, ct, ao, cc, pc, pa, na, fr, ft, rt, rf, va, ex, bt, bf, bv))
    (hr : ∀ n' i, n = n' + 1 → i < n' + 1 → 0 < a → a < 4 → g (a - 1) = T i → ∀ tg' ct' fr' ft', rm_XE n' (rm_dx T n' i) (rm_dx C n' i) tg' ct' → rm_Fl fr' ft' (L.filter (rm_nt (T i))) → post (nI l, nI n', nI m, nI (L.filter (rm_nt (T i))).length, br, tg', ct', ao, cc, pc, pa, na, fr', ft', rt, rf, va, ex, bt, bf, bv))
    (hm : 4 ≤ a → n < 12 → post (nI (l + 1), nI (n + 1), nI m, nI L.length, br, upd tg n (nI (l + 1)), upd ct n (nI (4096 * ((a - 4) / 8000) + rm_ff A (a - 4))), ao, cc, pc, pa, na, fr, ft, rt, rf, va, ex, bt, bf, bv))
    (hm0 : 4 ≤ a → ¬ n < 12 → post (nI l, nI n, nI m, nI L.length, br, tg, ct, ao, cc, pc, pa, na, fr, ft, rt, rf, va, ex, bt, bf, bv)) :
    ∀ q : Int32, q = nI a → wpX_act post (nI l, nI n, nI m, nI L.length, br, tg, ct, ao, cc, pc, pa, na, fr, ft, rt, rf, va, ex, bt, bf, bv) q := by
  intro q eq
  subst eq
  by_cases a4 : a < 4
  · refine br_t (nI_lt (b := 4) a4 (by omega)) ?_
    by_cases a0 : a = 0
    · exact br_t (by rw [a0]; decide) (h0 a0)
    · obtain ⟨i, hi, gi⟩ := hex (by omega) a4
      clear hex
      obtain ⟨n', rfl⟩ : ∃ n', n = n' + 1 := ⟨n - 1, by omega⟩
      have e1 : nI a - 1 = nI (a - 1) := pk_sub (a := a) (b := 1) (by omega)
      have w : vp_in (nI a - 1) 3 := by rw [e1]; exact vp_in_nI (by omega) (by omega)
      refine br_f (nI_nle (by omega) (by omega)) ⟨w, ?_⟩
      refine xm_rm H hi (fun tg' ct' fr' ft' hE' hF' => ?_) _ ?_
      · exact hr n' i rfl hi (by omega) a4 gi tg' ct' fr' ft' hE' hF'
      · rw [e1, nI_clamp (by omega), hbt (a - 1) (by omega), gi]
  · have e4 : nI a - 4 = nI (a - 4) := pk_sub (a := a) (b := 4) (by omega)
    refine br_f (nI_nlt (b := 4) (by omega) (by omega)) (nm_r e4 ?_)
    refine xm_ff (A := A) (by omega) hv hV ?_
    refine ⟨by decide, ?_⟩
    refine xm_mk (y := (a - 4) / 8000) (f := rm_ff A (a - 4)) (by omega) (rm_ff_b hV _) H.1 (fun z => hm (by omega) z) (fun z => hm0 (by omega) z) _ _ ?_ rfl
    exact pk_div (d := 8000) (by omega) (by omega) (by omega)
end XF
theorem xm_fire {n m l : Nat} {T C Z Q : Nat → Nat} {P : Nat → Nat → Nat} {N : Nat → Nat → Bool} {L : List rm_Fi} {u : SX} {post : Int32 → SX → Prop}
    (hX : rm_X n l m T C Z Q P N L u) (hn : n ≤ 12) (hl : l < 1048576) (hPE : rm_PE n l T C) (hPU : rm_PU m Z Q P N) (hL : L.length ≤ 40) (hLB : rm_LB L)
    (hN : rm_fr (rm_om T C n P N Z L) (fun r => 12 ^ rm_pc (N r) (Z r)) m = none → ∀ u', rm_X n l m T C Z Q P N L u' → post (-1) u')
    (hF : ∀ x, rm_fr (rm_om T C n P N Z L) (fun r => 12 ^ rm_pc (N r) (Z r)) m = some x → ¬ L.length < 40 → ∀ u', rm_X n l m T C Z Q P N L u' → post (-2) u')
    (h0 : ∀ x, rm_fr (rm_om T C n P N Z L) (fun r => 12 ^ rm_pc (N r) (Z r)) m = some x → L.length < 40 → Q x.1 = 0 → ∀ u', rm_X n l m T C Z Q P N (L ++ [(x.1, x.2.1 0, x.2.1 1, x.2.1 2)]) u' → post (nI x.1) u')
    (hR : ∀ x, rm_fr (rm_om T C n P N Z L) (fun r => 12 ^ rm_pc (N r) (Z r)) m = some x → L.length < 40 → ∀ n' i, n = n' + 1 → i < n' + 1 → 0 < Q x.1 → Q x.1 < 4 → x.2.1 (Q x.1 - 1) = T i → ∀ u', rm_X n' l m (rm_dx T n' i) (rm_dx C n' i) Z Q P N ((L ++ [(x.1, x.2.1 0, x.2.1 1, x.2.1 2)]).filter (rm_nt (T i))) u' → post (nI x.1) u')
    (hM : ∀ x, rm_fr (rm_om T C n P N Z L) (fun r => 12 ^ rm_pc (N r) (Z r)) m = some x → L.length < 40 → 4 ≤ Q x.1 → n < 12 → ∀ u', rm_X (n + 1) (l + 1) m (rm_w T n (l + 1)) (rm_w C n (4096 * ((Q x.1 - 4) / 8000) + rm_ff x.2.2 (Q x.1 - 4))) Z Q P N (L ++ [(x.1, x.2.1 0, x.2.1 1, x.2.1 2)]) u' → post (nI x.1) u')
    (hM0 : ∀ x, rm_fr (rm_om T C n P N Z L) (fun r => 12 ^ rm_pc (N r) (Z r)) m = some x → L.length < 40 → 4 ≤ Q x.1 → ¬ n < 12 → ∀ u', rm_X n l m T C Z Q P N (L ++ [(x.1, x.2.1 0, x.2.1 1, x.2.1 2)]) u' → post (nI x.1) u') :
    wpX_fire post u := by
  obtain ⟨lt, ec, rc, fc, br, tg, ct, ao, cc, pc, pa, na, fr, ft, rt, rf, va, ex, bt, bf, bv⟩ := u
  obtain ⟨rfl, rfl, rfl, rfl, hE, hXR, hFl⟩ := hX
  have H : rm_XH n m l T C Z Q P N L tg ct ao cc pc pa na fr ft := ⟨hn, hl, hPE, hPU, hL, hLB, hE, hXR, hFl⟩
  unfold wpX_fire
  refine xm_fb H (fun rt rf va ex br bt bf bv hb => ?_)
  cases hq : rm_fr (rm_om T C n P N Z L) (fun r => 12 ^ rm_pc (N r) (Z r)) m with
  | none =>
    rw [hq] at hb
    have hb2 : br = -1 := hb
    subst hb2
    exact br_t rfl (hN hq _ ⟨rfl, rfl, rfl, rfl, hE, hXR, hFl⟩)
  | some x =>
    rw [hq] at hb
    obtain ⟨b1, b2, b3, b4, b5, b6, b7, b8⟩ := hb
    subst b1
    obtain ⟨k1, k2, k3, k4, k5⟩ := rm_fr_ok hPE hl hq
    have hm := hPU.1
    obtain ⟨z1, z2, z3⟩ := hPU.2.2 x.1 b2
    obtain ⟨p1, p3⟩ := rm_pc_1 hPU b2
    refine br_f (rm_nm1 (by omega)) ?_
    by_cases l40 : L.length < 40
    · refine br_t (nI_lt (b := 40) l40 (by omega)) ?_
      refine xm_rc (r := x.1) (g := x.2.1) l40 hFl b4 (fun fr' ft' hFl' => ?_)
      refine ⟨vp_in_nI (by omega) (by omega), ?_⟩
      have el : (L ++ [(x.1, x.2.1 0, x.2.1 1, x.2.1 2)]).length = L.length + 1 := List.length_append
      have LB' : rm_LB (L ++ [(x.1, x.2.1 0, x.2.1 1, x.2.1 2)]) := by
        intro y hy
        rw [List.mem_append] at hy
        rcases hy with hy | hy
        · exact hLB y hy
        · have e : y = (x.1, x.2.1 0, x.2.1 1, x.2.1 2) := by simpa using hy
          rw [e]
          exact ⟨by show x.1 < 8; omega, k3 0, k3 1, k3 2⟩
      refine xm_act (a := Q x.1) (g := x.2.1) (A := x.2.2) ⟨hn, hl, hPE, hPU, by rw [el]; omega, LB', hE, hXR, hFl'⟩ z2 b4 b8 k2 (fun y1 y2 => ?_) (fun y => ?_) (fun n' i e hi y1 y2 y3 tg' ct' fr2 ft2 hE' hF2 => ?_) (fun y1 y2 => ?_) (fun y1 y2 => ?_) _ ?_
      · exact k4 (Q x.1 - 1) (by have := z3 y2; omega)
      · exact h0 x hq l40 y _ ⟨rfl, rfl, rfl, rfl, hE, hXR, hFl'⟩
      · exact hR x hq l40 n' i e hi y1 y2 y3 _ ⟨rfl, rfl, rfl, rfl, hE', hXR, hF2⟩
      · exact hM x hq l40 y1 y2 _ ⟨rfl, rfl, rfl, rfl, rm_XE_mk hE, hXR, hFl'⟩
      · exact hM0 x hq l40 y1 y2 _ ⟨rfl, rfl, rfl, rfl, hE, hXR, hFl'⟩
      · rw [nI_clamp (by omega)]
        exact hXR.2 x.1 b2
    · exact br_f (nI_nlt (b := 40) (by omega) (by omega)) (hF x hq l40 _ ⟨rfl, rfl, rfl, rfl, hE, hXR, hFl⟩)
