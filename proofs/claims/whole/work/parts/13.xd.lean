theorem rm_i0 (k : Nat) : 3 * nI k + 0 = nI (3 * k) := rm_3 k 0
theorem rm_i1' (k : Nat) : 3 * nI k + 1 = nI (3 * k + 1) := rm_3 k 1
theorem rm_i2' (k : Nat) : 3 * nI k + 2 = nI (3 * k + 2) := rm_3 k 2
section XE
variable {n m l : Nat} {T C Z Q : Nat → Nat} {P : Nat → Nat → Nat} {N : Nat → Nat → Bool} {L : List rm_Fi}
variable {lt ec rc fc br : Int32} {tg ct ao cc pc pa na fr ft rt rf va ex bt bf bv : Nat → Int32}
theorem xm_po {post : Int32 → Prop} {q : Int32} (hn : n ≤ 12) (hT : ∀ i, i < n → tg i = nI (T i)) (h1 : ∀ i, i < n → nI (T i) = q → post (nI i)) (h0 : (∀ i, i < n → ¬ nI (T i) = q) → post (-1)) : wpX_positionOf post (lt, nI n, rc, fc, br, tg, ct, ao, cc, pc, pa, na, fr, ft, rt, rf, va, ex, bt, bf, bv) q := by
  have go : ∀ d i, i + d = n → (∀ j, j < i → ¬ nI (T j) = q) → wX_positionOf_2 post q lt (nI n) rc fc br tg ct ao cc pc pa na fr ft rt rf va ex bt bf bv (d + 1) (nI i) := by
    intro d
    induction d with
    | zero =>
      intro i e hj
      exact br_t (nI_le (by omega) (by omega)) (h0 (fun j hj2 => hj j (by omega)))
    | succ d ih =>
      intro i e hj
      have ci : (nI i).toNatClampNeg = i := nI_clamp (by omega)
      refine br_f (nI_ge (by omega) (by omega)) ⟨vp_in_nI (by omega) (by omega), ?_⟩
      by_cases z : nI (T i) = q
      · exact br_t (by rw [ci, hT i (by omega)]; exact z) (h1 i (by omega) z)
      · exact br_f (by rw [ci, hT i (by omega)]; exact z) (nm_r (nI_1 i) (ih (i + 1) (by omega) (fun j hj2 => by
          by_cases y : j = i
          · rw [y]; exact z
          · exact hj j (by omega))))
  have := go n 0 (by omega) (fun j hj => absurd hj (Nat.not_lt_zero j))
  exact ⟨n + 1, this⟩
theorem xm_mv {post : SX → Prop} {i k : Nat} (hi : i < 40) (hk : k ≤ i)
    (h : ∀ fr' ft', fr' k = fr i → ft' (3 * k) = ft (3 * i) → ft' (3 * k + 1) = ft (3 * i + 1) → ft' (3 * k + 2) = ft (3 * i + 2) → (∀ j, j ≠ k → fr' j = fr j) → (∀ j, j < 3 * k ∨ 3 * k + 3 ≤ j → ft' j = ft j) → post (lt, ec, rc, fc, br, tg, ct, ao, cc, pc, pa, na, fr', ft', rt, rf, va, ex, bt, bf, bv)) :
    wpX_moveFired post (lt, ec, rc, fc, br, tg, ct, ao, cc, pc, pa, na, fr, ft, rt, rf, va, ex, bt, bf, bv) (nI i) (nI k) := by
  have wi : vp_in (nI i) 40 := vp_in_nI hi (by omega)
  have wk : vp_in (nI k) 40 := vp_in_nI (by omega) (by omega)
  have ci : (nI i).toNatClampNeg = i := nI_clamp (by omega)
  have ck : (nI k).toNatClampNeg = k := nI_clamp (by omega)
  have a0 : vp_in (3 * nI i + 0) 120 := by rw [rm_i0]; exact vp_in_nI (by omega) (by omega)
  have a1 : vp_in (3 * nI i + 1) 120 := by rw [rm_i1']; exact vp_in_nI (by omega) (by omega)
  have a2 : vp_in (3 * nI i + 2) 120 := by rw [rm_i2']; exact vp_in_nI (by omega) (by omega)
  have b0 : vp_in (3 * nI k + 0) 120 := by rw [rm_i0]; exact vp_in_nI (by omega) (by omega)
  have b1 : vp_in (3 * nI k + 1) 120 := by rw [rm_i1']; exact vp_in_nI (by omega) (by omega)
  have b2 : vp_in (3 * nI k + 2) 120 := by rw [rm_i2']; exact vp_in_nI (by omega) (by omega)
  have c0 : (3 * nI i + 0).toNatClampNeg = 3 * i := by rw [rm_i0]; exact nI_clamp (by omega)
  have c1 : (3 * nI i + 1).toNatClampNeg = 3 * i + 1 := by rw [rm_i1']; exact nI_clamp (by omega)
  have c2 : (3 * nI i + 2).toNatClampNeg = 3 * i + 2 := by rw [rm_i2']; exact nI_clamp (by omega)
  have d0 : (3 * nI k + 0).toNatClampNeg = 3 * k := by rw [rm_i0]; exact nI_clamp (by omega)
  have d1 : (3 * nI k + 1).toNatClampNeg = 3 * k + 1 := by rw [rm_i1']; exact nI_clamp (by omega)
  have d2 : (3 * nI k + 2).toNatClampNeg = 3 * k + 2 := by rw [rm_i2']; exact nI_clamp (by omega)
  have u1 : upd ft (3 * k) (ft (3 * i)) (3 * i + 1) = ft (3 * i + 1) := pk_un (by omega)
  have u2 : upd (upd ft (3 * k) (ft (3 * i))) (3 * k + 1) (ft (3 * i + 1)) (3 * i + 2) = ft (3 * i + 2) := by
    rw [pk_un (by omega), pk_un (by omega)]
  refine ⟨wi, wk, nm_r (e' := upd fr k (fr i)) (by rw [ci, ck]) ⟨0 + 1 + 1 + 1 + 1, br_f rm_q0 ⟨a0, b0, nm_r (e' := upd ft (3 * k) (ft (3 * i))) (by rw [c0, d0]) (nm_r rm_01 (br_f rm_q1 ⟨a1, b1, nm_r (e' := upd (upd ft (3 * k) (ft (3 * i))) (3 * k + 1) (ft (3 * i + 1))) (by rw [c1, d1, u1]) (nm_r rm_12 (br_f rm_q2 ⟨a2, b2, nm_r (e' := upd (upd (upd ft (3 * k) (ft (3 * i))) (3 * k + 1) (ft (3 * i + 1))) (3 * k + 2) (ft (3 * i + 2))) (by rw [c2, d2, u2]) (nm_r rm_23 (br_t rm_q3 ?_))⟩))⟩))⟩⟩⟩
  refine h _ _ pk_us ?_ ?_ pk_us (fun j hj => pk_un hj) (fun j hj => ?_)
  · rw [pk_un (by omega), pk_un (by omega), pk_us]
  · rw [pk_un (by omega), pk_us]
  · rw [pk_un (by omega), pk_un (by omega), pk_un (by omega)]
theorem xm_fg {post : SX → Prop} {t : Nat} (ht : t < 1048576) (hl : L.length ≤ 40) (hLB : rm_LB L) (hF : rm_Fl fr ft L)
    (h : ∀ fr' ft', rm_Fl fr' ft' (L.filter (rm_nt t)) → post (lt, ec, rc, nI (L.filter (rm_nt t)).length, br, tg, ct, ao, cc, pc, pa, na, fr', ft', rt, rf, va, ex, bt, bf, bv)) :
    wpX_forgetFiredWith post (lt, ec, rc, nI L.length, br, tg, ct, ao, cc, pc, pa, na, fr, ft, rt, rf, va, ex, bt, bf, bv) (nI t) := by
  have go : ∀ d i fr ft, i + d = L.length → rm_Cp fr ft L (rm_nt t) i → wX_forgetFiredWith_4 post (nI t) (d + 1) (nI ((L.take i).filter (rm_nt t)).length) (nI i) lt ec rc (nI L.length) br tg ct ao cc pc pa na fr ft rt rf va ex bt bf bv := by
    intro d
    induction d with
    | zero =>
      intro i fr ft e hc
      have e2 : i = L.length := by omega
      subst e2
      have := h fr ft (rm_Cp_e hc)
      rw [List.take_length]
      exact br_t (nI_le (Nat.le_refl _) (by omega)) this
    | succ d ih =>
      intro i fr ft e hc
      obtain ⟨x, hx⟩ := rm_get (L := L) (i := i) (by omega)
      obtain ⟨e0, e1, e2, e3⟩ := hc.2 i x (Nat.le_refl i) hx
      obtain ⟨b0, b1, b2, b3⟩ := hLB x (List.mem_of_getElem? hx)
      have wa : vp_in (nI (3 * i)) 120 := vp_in_nI (by omega) (by omega)
      have wb : vp_in (nI (3 * i) + 1) 120 := by rw [nI_1]; exact vp_in_nI (by omega) (by omega)
      have q2 : nI (3 * i) + 2 = nI (3 * i + 2) := nI_add (3 * i) 2
      have wc : vp_in (nI (3 * i) + 2) 120 := by rw [q2]; exact vp_in_nI (by omega) (by omega)
      have ca : ft (nI (3 * i)).toNatClampNeg = nI x.2.1 := by rw [nI_clamp (by omega)]; exact e1
      have cb : ft (nI (3 * i) + 1).toNatClampNeg = nI x.2.2.1 := by rw [nI_1, nI_clamp (by omega)]; exact e2
      have cd : ft (nI (3 * i) + 2).toNatClampNeg = nI x.2.2.2 := by rw [q2, nI_clamp (by omega)]; exact e3
      have drop : rm_nt t x = false → wX_forgetFiredWith_54 post (wX_forgetFiredWith_4 post (nI t) (d + 1)) (nI t) (nI ((L.take i).filter (rm_nt t)).length) (nI i) lt ec rc (nI L.length) br tg ct ao cc pc pa na fr ft rt rf va ex bt bf bv := by
        intro z
        obtain ⟨c1, c2⟩ := rm_Cp_d hc hx z
        have := ih (i + 1) fr ft (by omega) c1
        rw [c2] at this
        exact br_f (by decide) (nm_r (nI_1 i) this)
      refine br_f (nI_ge (by omega) (by omega)) (nm_r (rm_30 i) ⟨wa, ?_⟩)
      by_cases k1 : x.2.1 = t
      · exact br_t (by rw [ca, k1]) (drop (by simp [rm_nt, k1]))
      · refine br_f (by rw [ca]; exact fun z => k1 ((nI_eq (by omega) (by omega)).mp z)) ⟨wb, ?_⟩
        by_cases k2 : x.2.2.1 = t
        · exact br_t (by rw [cb, k2]) (drop (by simp [rm_nt, k2]))
        · refine br_f (by rw [cb]; exact fun z => k2 ((nI_eq (by omega) (by omega)).mp z)) ⟨wc, ?_⟩
          by_cases k3 : x.2.2.2 = t
          · exact br_t (by rw [cd, k3]) (drop (by simp [rm_nt, k3]))
          · refine br_f (by rw [cd]; exact fun z => k3 ((nI_eq (by omega) (by omega)).mp z)) ?_
            have hq : rm_nt t x = true := by simp [rm_nt, k1, k2, k3]
            refine br_t rfl (xm_mv (by omega) rm_kl (fun fr' ft' h0 h1 h2 h3 h4 h5 => ?_))
            obtain ⟨c1, c2⟩ := rm_Cp_k hc hx hq rfl h0 h1 h2 h3 h4 h5
            have := ih (i + 1) fr' ft' (by omega) c1
            rw [c2] at this
            exact nm_r (nI_1 _) (nm_r (nI_1 i) this)
  have := go L.length 0 fr ft (by omega) (rm_Cp_0 hF)
  exact ⟨L.length + 1, this⟩
theorem xm_rm {post : Int32 → SX → Prop} {i : Nat} (H : rm_XH (n + 1) m l T C Z Q P N L tg ct ao cc pc pa na fr ft) (hi : i < n + 1)
    (h : ∀ tg' ct' fr' ft', rm_XE n (rm_dx T n i) (rm_dx C n i) tg' ct' → rm_Fl fr' ft' (L.filter (rm_nt (T i))) → post (nI n) (nI l, nI n, nI m, nI (L.filter (rm_nt (T i))).length, br, tg', ct', ao, cc, pc, pa, na, fr', ft', rt, rf, va, ex, bt, bf, bv)) :
    ∀ q : Int32, q = nI (T i) → wpX_remove post (nI l, nI (n + 1), nI m, nI L.length, br, tg, ct, ao, cc, pc, pa, na, fr, ft, rt, rf, va, ex, bt, bf, bv) q := by
  intro q eq
  subst eq
  obtain ⟨hn, hl, hPE, hPU, hL, hLB, hE, hR, hF⟩ := H
  have ti := hPE.2 i hi
  unfold wpX_remove
  refine xm_po hn (fun j hj => (hE j hj).1) (fun j hj z => ?_) (fun z => absurd rfl (z i hi))
  have tj := hPE.2 j hj
  have e : j = i := hPE.1 j i hj hi ((nI_eq (by omega) (by omega)).mp z)
  subst e
  have wn : vp_in (nI n) 12 := vp_in_nI (by omega) (by omega)
  have wj : vp_in (nI j) 12 := vp_in_nI (by omega) (by omega)
  have cj : (nI j).toNatClampNeg = j := nI_clamp (by omega)
  have cn : (nI n).toNatClampNeg = n := nI_clamp (by omega)
  refine br_f (rm_nm1 (by omega)) (nm_r (nI_pred n) ⟨wn, wj, nm_r (e' := upd tg j (tg n)) (by rw [cj, cn]) ⟨wn, wj, nm_r (e' := upd ct j (ct n)) (by rw [cj, cn]) ?_⟩⟩)
  refine xm_fg (by omega) hL hLB hF (fun fr' ft' hF' => ?_)
  refine h _ _ fr' ft' (fun k hk => ?_) hF'
  unfold rm_dx
  by_cases y : k = j
  · rw [y, pk_us, pk_us, if_pos rfl, if_pos rfl]
    exact hE n (by omega)
  · rw [pk_un y, pk_un y, if_neg y, if_neg y]
    exact hE k (by omega)
theorem xm_rc {post : SX → Prop} {r : Nat} {g : Nat → Nat} (hl : L.length < 40) (hF : rm_Fl fr ft L) (hb : ∀ j, j < 3 → bt j = nI (g j))
    (h : ∀ fr' ft', rm_Fl fr' ft' (L ++ [(r, g 0, g 1, g 2)]) → post (nI l, nI n, nI m, nI (L ++ [(r, g 0, g 1, g 2)]).length, nI r, tg, ct, ao, cc, pc, pa, na, fr', ft', rt, rf, va, ex, bt, bf, bv)) : wpX_recordBestAsFired post (nI l, nI n, nI m, nI L.length, nI r, tg, ct, ao, cc, pc, pa, na, fr, ft, rt, rf, va, ex, bt, bf, bv) := by
  have w : vp_in (nI L.length) 40 := vp_in_nI hl (by omega)
  have c : (nI L.length).toNatClampNeg = L.length := nI_clamp (by omega)
  have b0 : vp_in (3 * nI L.length + 0) 120 := by rw [rm_i0]; exact vp_in_nI (by omega) (by omega)
  have b1 : vp_in (3 * nI L.length + 1) 120 := by rw [rm_i1']; exact vp_in_nI (by omega) (by omega)
  have b2 : vp_in (3 * nI L.length + 2) 120 := by rw [rm_i2']; exact vp_in_nI (by omega) (by omega)
  have d0 : (3 * nI L.length + 0).toNatClampNeg = 3 * L.length := by rw [rm_i0]; exact nI_clamp (by omega)
  have d1 : (3 * nI L.length + 1).toNatClampNeg = 3 * L.length + 1 := by rw [rm_i1']; exact nI_clamp (by omega)
  have d2 : (3 * nI L.length + 2).toNatClampNeg = 3 * L.length + 2 := by rw [rm_i2']; exact nI_clamp (by omega)
  have g0 := hb 0 (by omega)
  have g1 := hb 1 (by omega)
  have g2 := hb 2 (by omega)
  have el : (L ++ [(r, g 0, g 1, g 2)]).length = L.length + 1 := List.length_append
  refine ⟨w, nm_r (e' := upd fr L.length (nI r)) (by rw [c]) ⟨0 + 1 + 1 + 1 + 1, br_f rm_q0 ⟨rm_v0, b0, nm_r (e' := upd ft (3 * L.length) (nI (g 0))) (by rw [d0, rm_c0, g0]) (nm_r rm_01 (br_f rm_q1 ⟨rm_v1, b1, nm_r (e' := upd (upd ft (3 * L.length) (nI (g 0))) (3 * L.length + 1) (nI (g 1))) (by rw [d1, rm_c1, g1]) (nm_r rm_12 (br_f rm_q2 ⟨rm_v2, b2, nm_r (e' := upd (upd (upd ft (3 * L.length) (nI (g 0))) (3 * L.length + 1) (nI (g 1))) (3 * L.length + 2) (nI (g 2))) (by rw [d2, rm_c2, g2]) (nm_r rm_23 (br_t rm_q3 (nm_r (e' := nI (L ++ [(r, g 0, g 1, g 2)]).length) (by rw [el]; exact nI_1 _) (h _ _ ?_))))⟩))⟩))⟩⟩⟩
  refine rm_Fl_app hF (fun j hj => pk_un (by omega)) (fun j hj => ?_) ⟨pk_us, ?_, ?_, pk_us⟩
  · rw [pk_un (by omega), pk_un (by omega), pk_un (by omega)]
  · rw [pk_un (by omega), pk_un (by omega), pk_us]
  · rw [pk_un (by omega), pk_us]
theorem xm_f1 {post : Int32 → Prop} {A : Nat → Int32} {e : Nat} (he : e < 20) (hv : rm_ag bv A) (hV : rm_va A) (h : post (nI (rm_fv A e))) : ∀ q : Int32, q = nI e → wpX_filledField post (lt, ec, rc, fc, br, tg, ct, ao, cc, pc, pa, na, fr, ft, rt, rf, va, ex, bt, bf, bv) q := by
  intro q eq
  subst eq
  unfold rm_fv at h
  by_cases a1 : e < 16
  · rw [if_pos a1] at h
    exact br_f (nI_ge (b := 16) a1 (by omega)) h
  · rw [if_neg a1] at h
    refine br_t (nI_le (a := 16) (by omega) (by omega)) ?_
    by_cases a2 : e = 16
    · rw [if_pos a2] at h
      exact br_t (by rw [a2]; rfl) h
    · rw [if_neg a2] at h
      obtain ⟨v, rfl⟩ : ∃ v, e = 17 + v := ⟨e - 17, by omega⟩
      rw [Nat.add_sub_cancel_left] at h
      have hv3 : v < 3 := by omega
      have e17 : nI (17 + v) - 17 = nI v := by
        have := pk_sub (a := 17 + v) (b := 17) (by omega)
        rw [Nat.add_sub_cancel_left] at this
        exact this
      have w : vp_in (nI (17 + v) - 17) 3 := by rw [e17]; exact vp_in_nI hv3 (by omega)
      have cv : bv (nI (17 + v) - 17).toNatClampNeg = A v := by rw [e17, nI_clamp (by omega)]; exact hv v hv3
      refine br_f (fun z => a2 ((nI_eq (a := 17 + v) (b := 16) (by omega) (by omega)).mp z)) ⟨w, ?_⟩
      by_cases z : A v = -1
      · rw [if_pos z] at h
        exact br_t (by rw [cv]; exact z) h
      · rw [if_neg z] at h
        refine br_f (by rw [cv]; exact z) ⟨w, ?_⟩
        rw [cv]
        rcases hV v with y | ⟨f, hf, y⟩
        · exact absurd y z
        · rw [y, nI_clamp (by omega)] at h
          rw [y]; exact h
theorem xm_10 {post : Int32 → Prop} {A : Nat → Int32} {p a w i k : Nat} (hp : p < 2 ^ 31) (hi : i < 3) (hv : rm_ag bv A) (hV : rm_va A) (h : wX_filledFields_10 post lt ec rc fc br tg ct ao cc pc pa na fr ft rt rf va ex bt bf bv k (nI (p / 20)) (nI (a + w * rm_fv A (p % 20))) (nI (w * 16)) (nI (i + 1))) : wX_filledFields_10 post lt ec rc fc br tg ct ao cc pc pa na fr ft rt rf va ex bt bf bv (k + 1) (nI p) (nI a) (nI w) (nI i) := by
  refine br_f (nI_ge (b := 3) hi (by omega)) ⟨by decide, xm_f1 (e := p % 20) (Nat.mod_lt _ (by omega)) hv hV ?_ _ (pk_rem (d := 20) hp (by omega) (by omega))⟩
  exact nm_r (e' := nI (a + w * rm_fv A (p % 20))) (by rw [pk_mul, nI_add]) (nm_r (pk_mul w 16) ⟨by decide, nm_r (pk_div (d := 20) hp (by omega) (by omega)) (nm_r (nI_1 i) h)⟩)
theorem xm_ff {post : Int32 → Prop} {A : Nat → Int32} {p : Nat} (hp : p < 32000) (hv : rm_ag bv A) (hV : rm_va A) (h : post (nI (rm_ff A p))) : wpX_filledFields post (lt, ec, rc, fc, br, tg, ct, ao, cc, pc, pa, na, fr, ft, rt, rf, va, ex, bt, bf, bv) (nI p) := by
  have e : 0 + 1 * rm_fv A (p % 20) + 1 * 16 * rm_fv A (p / 20 % 20) + 1 * 16 * 16 * rm_fv A (p / 20 / 20 % 20) = rm_ff A p := by
    have : p / 20 / 20 = p / 400 := by omega
    rw [this]
    unfold rm_ff
    omega
  refine ⟨0 + 1 + 1 + 1 + 1, ?_⟩
  refine xm_10 (a := 0) (w := 1) (i := 0) (by omega) (by omega) hv hV ?_
  refine xm_10 (i := 1) (by omega) (by omega) hv hV ?_
  refine xm_10 (i := 2) (by omega) (by omega) hv hV ?_
  rw [e]
  exact br_t (by decide) h
theorem xm_mk {post : Int32 → SX → Prop} {y f : Nat} (hy : y < 4) (hf : f < 4096) (hn : n ≤ 12)
    (h : n < 12 → post (nI (l + 1)) (nI (l + 1), nI (n + 1), nI m, nI L.length, br, upd tg n (nI (l + 1)), upd ct n (nI (4096 * y + f)), ao, cc, pc, pa, na, fr, ft, rt, rf, va, ex, bt, bf, bv)) (h0 : ¬ n < 12 → post (-3) (nI l, nI n, nI m, nI L.length, br, tg, ct, ao, cc, pc, pa, na, fr, ft, rt, rf, va, ex, bt, bf, bv)) :
    ∀ q1 q2 : Int32, q1 = nI y → q2 = nI f → wpX_make post (nI l, nI n, nI m, nI L.length, br, tg, ct, ao, cc, pc, pa, na, fr, ft, rt, rf, va, ex, bt, bf, bv) q1 q2 := by
  intro q1 q2 e1 e2
  subst e1 e2
  refine br_f (nI_pos (by omega)) (br_t (nI_lt (b := 4) hy (by omega)) (br_f (nI_pos (by omega)) (br_t (nI_lt (b := 4096) hf (by omega)) ?_)))
  by_cases z : n < 12
  · have w : vp_in (nI n) 12 := vp_in_nI z (by omega)
    have c : (nI n).toNatClampNeg = n := nI_clamp (by omega)
    have e : 4096 * nI y + nI f = nI (4096 * y + f) := by
      have q : (4096 : Int32) = nI 4096 := rfl
      rw [q, pk_mul, nI_add]
    exact br_t (nI_lt (b := 12) z (by omega)) (nm_r (nI_1 l) ⟨w, nm_r (e' := upd tg n (nI (l + 1))) (by rw [c]) ⟨w, nm_r (e' := upd ct n (nI (4096 * y + f))) (by rw [c, e]) (nm_r (nI_1 n) (h z))⟩⟩)
  · exact br_f (nI_nlt (b := 12) (by omega) (by omega)) (h0 z)
end XE
