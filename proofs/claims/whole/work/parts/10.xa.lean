section XA
variable {n m l : Nat} {T C Z Q : Nat → Nat} {P : Nat → Nat → Nat} {N : Nat → Nat → Bool} {L : List rm_Fi}
variable {lt ec rc fc br : Int32} {tg ct ao cc pc pa na fr ft rt rf va ex bt bf bv : Nat → Int32}
theorem xm_ca {post : SX → Prop} (h : ∀ va', rm_ag va' (fun _ => -1) → post (lt, ec, rc, fc, br, tg, ct, ao, cc, pc, pa, na, fr, ft, rt, rf, va', ex, bt, bf, bv)) : wpX_clearAssignment post (lt, ec, rc, fc, br, tg, ct, ao, cc, pc, pa, na, fr, ft, rt, rf, va, ex, bt, bf, bv) :=
  ⟨0 + 1 + 1 + 1 + 1, br_f rm_q0 ⟨rm_v0, nm_r (e' := upd va 0 (-1)) (by rw [rm_c0]) (nm_r rm_01 (br_f rm_q1 ⟨rm_v1, nm_r (e' := upd (upd va 0 (-1)) 1 (-1)) (by rw [rm_c1]) (nm_r rm_12 (br_f rm_q2 ⟨rm_v2, nm_r (e' := rm_u3 va (-1) (-1) (-1)) (by rw [rm_c2]; rfl) (nm_r rm_23 (br_t rm_q3 (h _ (rm_u3_ag rfl rfl rfl))))⟩))⟩))⟩⟩
theorem xm_cr {post : SX → Prop} (h : ∀ rt', rm_ag rt' (fun _ => 0) → post (lt, ec, rc, fc, br, tg, ct, ao, cc, pc, pa, na, fr, ft, rt', rf, va, ex, bt, bf, bv)) : wpX_clearRowTags post (lt, ec, rc, fc, br, tg, ct, ao, cc, pc, pa, na, fr, ft, rt, rf, va, ex, bt, bf, bv) :=
  ⟨0 + 1 + 1 + 1 + 1, br_f rm_q0 ⟨rm_v0, nm_r (e' := upd rt 0 0) (by rw [rm_c0]) (nm_r rm_01 (br_f rm_q1 ⟨rm_v1, nm_r (e' := upd (upd rt 0 0) 1 0) (by rw [rm_c1]) (nm_r rm_12 (br_f rm_q2 ⟨rm_v2, nm_r (e' := rm_u3 rt 0 0 0) (by rw [rm_c2]; rfl) (nm_r rm_23 (br_t rm_q3 (h _ (rm_u3_ag rfl rfl rfl))))⟩))⟩))⟩⟩
theorem xm_te {post : SX → Prop} (h : ∀ va', rm_ag va' ex → post (lt, ec, rc, fc, br, tg, ct, ao, cc, pc, pa, na, fr, ft, rt, rf, va', ex, bt, bf, bv)) : wpX_takeExtended post (lt, ec, rc, fc, br, tg, ct, ao, cc, pc, pa, na, fr, ft, rt, rf, va, ex, bt, bf, bv) :=
  ⟨0 + 1 + 1 + 1 + 1, br_f rm_q0 ⟨rm_v0, rm_v0, nm_r (e' := upd va 0 (ex 0)) (by rw [rm_c0]) (nm_r rm_01 (br_f rm_q1 ⟨rm_v1, rm_v1, nm_r (e' := upd (upd va 0 (ex 0)) 1 (ex 1)) (by rw [rm_c1]) (nm_r rm_12 (br_f rm_q2 ⟨rm_v2, rm_v2, nm_r (e' := rm_u3 va (ex 0) (ex 1) (ex 2)) (by rw [rm_c2]; rfl) (nm_r rm_23 (br_t rm_q3 (h _ (rm_u3_ag rfl rfl rfl))))⟩))⟩))⟩⟩
theorem xm_121 {post : Int32 → SX → Prop} {J : Int32 → Int32 → Int32 → (Nat → Int32) → (Nat → Int32) → (Nat → Int32) → (Nat → Int32) → (Nat → Int32) → (Nat → Int32) → (Nat → Int32) → (Nat → Int32) → (Nat → Int32) → (Nat → Int32) → (Nat → Int32) → (Nat → Int32) → (Nat → Int32) → (Nat → Int32) → (Nat → Int32) → (Nat → Int32) → Prop} {p c i : Nat} (hp : p < 2 ^ 31) (hc : c < 2 ^ 31) (h : J (nI (p / 20)) (nI (c / 16)) (nI (i + 1)) tg ct ao cc pc pa na fr ft rt rf va ex bt bf bv) : wX_fits_121 post J (nI p) (nI c) (nI i) lt ec rc fc br tg ct ao cc pc pa na fr ft rt rf va ex bt bf bv :=
  ⟨by decide, nm_r (pk_div (d := 20) hp (by omega) (by omega)) ⟨by decide, nm_r (pk_div (d := 16) hc (by omega) (by omega)) (nm_r (nI_1 i) h)⟩⟩
theorem xm_38 {post : Int32 → SX → Prop} {A : Nat → Int32} {p c i k : Nat} (hx : rm_ag ex A) (hp : p < 2 ^ 31) (hc : c < 2 ^ 31) (hi : i < 3)
    (h0 : ∀ ex', rm_s1 (p % 20) (c % 16) A = none → post 0 (lt, ec, rc, fc, br, tg, ct, ao, cc, pc, pa, na, fr, ft, rt, rf, va, ex', bt, bf, bv))
    (h1 : ∀ ex' B, rm_s1 (p % 20) (c % 16) A = some B → rm_ag ex' B → wX_fits_38 post lt ec rc fc br k (nI (p / 20)) (nI (c / 16)) (nI (i + 1)) tg ct ao cc pc pa na fr ft rt rf va ex' bt bf bv) :
    wX_fits_38 post lt ec rc fc br (k + 1) (nI p) (nI c) (nI i) tg ct ao cc pc pa na fr ft rt rf va ex bt bf bv := by
  have q : ¬ (3 : Int32) ≤ nI i := nI_ge (b := 3) hi (by omega)
  have hf : c % 16 < 16 := Nat.mod_lt _ (by omega)
  have he : p % 20 < 20 := Nat.mod_lt _ (by omega)
  refine br_f q ⟨by decide, nm_r (pk_rem (d := 20) hp (by omega) (by omega)) ⟨by decide, nm_r (pk_rem (d := 16) hc (by omega) (by omega)) ?_⟩⟩
  generalize p % 20 = e at *
  generalize c % 16 = f at *
  by_cases a1 : e < 16
  · refine br_f (nI_ge (b := 16) a1 (by omega)) ?_
    by_cases a2 : e = f
    · refine br_t (by rw [a2]) (br_t (nI_lt (b := 17) (by omega) (by omega)) (xm_121 hp hc (h1 ex A ?_ hx)))
      rw [rm_s1_k a1 a2]
    · refine br_f (fun z => a2 ((nI_eq (by omega) (by omega)).mp z)) (h0 ex ?_)
      rw [rm_s1_n a1 a2]
  · refine br_t (nI_le (a := 16) (by omega) (by omega)) ?_
    by_cases a2 : e = 16
    · refine br_t (by rw [a2]; decide) (xm_121 hp hc (h1 ex A ?_ hx))
      rw [a2, rm_s1_a]
    · obtain ⟨v, rfl⟩ : ∃ v, e = 17 + v := ⟨e - 17, by omega⟩
      have hv : v < 3 := by omega
      have w : vp_in (nI v) 3 := vp_in_nI hv (by omega)
      have cv : (nI v).toNatClampNeg = v := nI_clamp (by omega)
      have ev := hx v hv
      have e17 : nI (17 + v) - 17 = nI v := by
        have := pk_sub (a := 17 + v) (b := 17) (by omega)
        rw [Nat.add_sub_cancel_left] at this
        exact this
      refine br_f (nI_nlt (b := 17) (by omega) (by omega)) (nm_r e17 ⟨w, ?_⟩)
      rw [rm_s1_v] at h0 h1
      by_cases b1 : A v = -1
      · refine br_t (by rw [cv, ev]; exact b1) ⟨w, nm_r (e' := upd ex v (nI f)) (by rw [cv]) ⟨w, br_t (by rw [cv, pk_us]) (xm_121 hp hc (h1 _ (upd A v (nI f)) (if_pos b1) (rm_ag_u hx)))⟩⟩
      · refine br_f (by rw [cv, ev]; exact b1) ⟨w, ?_⟩
        by_cases b2 : A v = nI f
        · refine br_t (by rw [cv, ev]; exact b2) (xm_121 hp hc (h1 ex A ?_ hx))
          unfold rm_sv
          rw [if_neg b1, if_pos b2]
        · refine br_f (by rw [cv, ev]; exact b2) (h0 ex ?_)
          unfold rm_sv
          rw [if_neg b1, if_neg b2]
theorem xm_fits {post : Int32 → SX → Prop} {A : Nat → Int32} {p c i : Nat} (hv : rm_ag va A) (hp : p < 32000) (hc : c < 16384) (hi : i < 12) (hct : ct i = nI c)
    (h0 : ∀ ex', rm_fs A p c = none → post 0 (lt, ec, rc, fc, br, tg, ct, ao, cc, pc, pa, na, fr, ft, rt, rf, va, ex', bt, bf, bv)) (h1 : ∀ ex' B, rm_fs A p c = some B → rm_ag ex' B → post 1 (lt, ec, rc, fc, br, tg, ct, ao, cc, pc, pa, na, fr, ft, rt, rf, va, ex', bt, bf, bv)) :
    ∀ q1 q2 : Int32, q1 = nI p → q2 = nI i → wpX_fits post (lt, ec, rc, fc, br, tg, ct, ao, cc, pc, pa, na, fr, ft, rt, rf, va, ex, bt, bf, bv) q1 q2 := by
  intro q1 q2 e1 e2
  subst e1 e2
  have w : vp_in (nI i) 12 := vp_in_nI hi (by omega)
  have ci : (nI i).toNatClampNeg = i := nI_clamp (by omega)
  refine ⟨0 + 1 + 1 + 1 + 1, br_f rm_q0 ⟨rm_v0, rm_v0, nm_r (e' := upd ex 0 (va 0)) (by rw [rm_c0]) (nm_r rm_01 (br_f rm_q1 ⟨rm_v1, rm_v1, nm_r (e' := upd (upd ex 0 (va 0)) 1 (va 1)) (by rw [rm_c1]) (nm_r rm_12 (br_f rm_q2 ⟨rm_v2, rm_v2, nm_r (e' := rm_u3 ex (va 0) (va 1) (va 2)) (by rw [rm_c2]; rfl) (nm_r rm_23 (br_t rm_q3 ⟨w, nm_r (e' := nI c) (by rw [ci]; exact hct) ⟨0 + 1 + 1 + 1 + 1, ?_⟩⟩))⟩))⟩))⟩⟩
  have hx : rm_ag (rm_u3 ex (va 0) (va 1) (va 2)) A := rm_u3_ag (hv 0 (by omega)) (hv 1 (by omega)) (hv 2 (by omega))
  generalize rm_u3 ex (va 0) (va 1) (va 2) = e3 at hx
  have p2 : p / 20 / 20 = p / 400 := by omega
  have p3 : p / 400 / 20 = p / 8000 := by omega
  have c2 : c / 16 / 16 = c / 256 := by omega
  have c3 : c / 256 / 16 = c / 4096 := by omega
  have fs : p / 8000 = c / 4096 → rm_fs A p c = ((rm_s1 (p % 20) (c % 16) A).bind (rm_s1 (p / 20 % 20) (c / 16 % 16))).bind (rm_s1 (p / 400 % 20) (c / 256 % 16)) := fun z => if_pos z
  have fn : ((rm_s1 (p % 20) (c % 16) A).bind (rm_s1 (p / 20 % 20) (c / 16 % 16))).bind (rm_s1 (p / 400 % 20) (c / 256 % 16)) = none → rm_fs A p c = none := by
    intro z
    by_cases y : p / 8000 = c / 4096
    · rw [fs y]; exact z
    · exact if_neg y
  refine xm_38 (i := 0) hx (by omega) (by omega) (by omega) (fun ex' s1 => h0 ex' (fn (by rw [s1]; rfl))) (fun ex1 B1 s1 x1 => ?_)
  refine xm_38 (i := 1) x1 (by omega) (by omega) (by omega) (fun ex' s2 => h0 ex' (fn ?_)) (fun ex2 B2 s2 x2 => ?_)
  · rw [s1]
    show (rm_s1 (p / 20 % 20) (c / 16 % 16) B1).bind _ = none
    rw [s2]; rfl
  rw [p2, c2]
  refine xm_38 (i := 2) x2 (by omega) (by omega) (by omega) (fun ex' s3 => h0 ex' (fn ?_)) (fun ex3 B3 s3 x3 => ?_)
  · rw [s1]
    show (rm_s1 (p / 20 % 20) (c / 16 % 16) B1).bind _ = none
    rw [s2]; exact s3
  rw [p3, c3]
  refine br_t (by decide) ?_
  by_cases y : p / 8000 = c / 4096
  · refine br_t (by rw [y]) (h1 ex3 B3 ?_ x3)
    rw [fs y, s1]
    show (rm_s1 (p / 20 % 20) (c / 16 % 16) B1).bind _ = _
    rw [s2]; exact s3
  · exact br_f (fun z => y ((nI_eq (by omega) (by omega)).mp z)) (h0 ex3 (if_neg y))
theorem xm_cf {post : Int32 → SX → Prop} {A : Nat → Int32} {p : Nat} (hv : rm_ag va A) (hp : p < 32000) (hn : n ≤ 12) (hE : rm_XE n T C tg ct) (hC : ∀ i, i < n → C i < 16384)
    (h : ∀ ex', post (nI (rm_cn (rm_fits A p C) n)) (nI l, nI n, nI m, nI L.length, br, tg, ct, ao, cc, pc, pa, na, fr, ft, rt, rf, va, ex', bt, bf, bv)) : ∀ q : Int32, q = nI p → wpX_countFitting post (nI l, nI n, nI m, nI L.length, br, tg, ct, ao, cc, pc, pa, na, fr, ft, rt, rf, va, ex, bt, bf, bv) q := by
  intro q e1
  subst e1
  have go : ∀ d i ex', i + d = n → wX_countFitting_4 post (nI p) (d + 1) (nI (rm_cn (rm_fits A p C) i)) (nI i) (nI l) (nI n) (nI m) (nI L.length) br tg ct ao cc pc pa na fr ft rt rf va ex' bt bf bv := by
    intro d
    induction d with
    | zero =>
      intro i ex' e
      have e2 : i = n := by omega
      subst e2
      exact br_t (nI_le (Nat.le_refl _) (by omega)) (h ex')
    | succ d ih =>
      intro i ex' e
      refine br_f (nI_ge (by omega) (by omega)) (xm_fits hv hp (hC i (by omega)) (by omega) (hE i (by omega)).2 (fun ex1 s => ?_) (fun ex1 B s _ => ?_) _ _ rfl rfl)
      · have e3 : rm_cn (rm_fits A p C) (i + 1) = rm_cn (rm_fits A p C) i := by
          have z : rm_fits A p C i = false := by unfold rm_fits; rw [s]; rfl
          show _ + (if rm_fits A p C i = true then 1 else 0) = _
          rw [z]; rfl
        have := ih (i + 1) ex1 (by omega)
        rw [e3] at this
        exact br_t rfl (nm_r (nI_1 i) this)
      · have e3 : rm_cn (rm_fits A p C) (i + 1) = rm_cn (rm_fits A p C) i + 1 := by
          have z : rm_fits A p C i = true := by unfold rm_fits; rw [s]; rfl
          show _ + (if rm_fits A p C i = true then 1 else 0) = _
          rw [z]; rfl
        have := ih (i + 1) ex1 (by omega)
        rw [e3] at this
        exact br_f (by decide) (nm_r (nI_1 _) (nm_r (nI_1 i) this))
  have := go n 0 ex (by omega)
  exact ⟨n + 1, this⟩
end XA
