section XB
variable {n m l : Nat} {T C Z Q : Nat → Nat} {P : Nat → Nat → Nat} {N : Nat → Nat → Bool} {L : List rm_Fi}
variable {lt ec rc fc br : Int32} {tg ct ao cc pc pa na fr ft rt rf va ex bt bf bv : Nat → Int32}
theorem xm_im {post : Int32 → SX → Prop} {r c : Nat} (H : rm_XH n m l T C Z Q P N L tg ct ao cc pc pa na fr ft) (hr : r < m) (hc : c < 2 ^ 31)
    (h0 : ∀ rt' va' ex', rm_ps T C n (rm_D c) (P r) (N r) (Z r) = none → post 0 (nI l, nI n, nI m, nI L.length, br, tg, ct, ao, cc, pc, pa, na, fr, ft, rt', rf, va', ex', bt, bf, bv))
    (h1 : ∀ rt' va' ex' s, rm_ps T C n (rm_D c) (P r) (N r) (Z r) = some s → rm_ag va' s.1 → (∀ j, j < 3 → rt' j = nI (s.2 j)) → post 1 (nI l, nI n, nI m, nI L.length, br, tg, ct, ao, cc, pc, pa, na, fr, ft, rt', rf, va', ex', bt, bf, bv)) :
    wpX_isMatch post (nI l, nI n, nI m, nI L.length, br, tg, ct, ao, cc, pc, pa, na, fr, ft, rt, rf, va, ex, bt, bf, bv) (nI r) (nI c) := by
  obtain ⟨hn, hl, hPE, hPU, hL, hLB, hE, hR, hF⟩ := H
  have hm := hPU.1
  obtain ⟨rz, rP, rN⟩ := hPU.2.1 r (by omega)
  obtain ⟨rcc, rpc, rpa⟩ := hR.1 r (by omega)
  have w6 : vp_in (nI r) 6 := vp_in_nI (by omega) (by omega)
  have cr : (nI r).toNatClampNeg = r := nI_clamp (by omega)
  have go : ∀ d i s rt va ex, i + d = Z r → rm_ps T C n (rm_D c) (P r) (N r) i = some s → rm_ag va s.1 → (∀ j, j < 3 → rt j = nI (s.2 j)) → wX_isMatch_16 post (nI r) (d + 1) (nI (rm_pc (N r) i)) (nI (c / 12 ^ rm_pc (N r) i)) (nI i) (nI l) (nI n) (nI m) (nI L.length) br tg ct ao cc pc pa na fr ft rt rf va ex bt bf bv := by
    intro d
    induction d with
    | zero =>
      intro i s rt va ex e hs hva hrt
      have e2 : i = Z r := by omega
      subst e2
      exact ⟨w6, br_t (by rw [cr, rcc]; exact nI_le (Nat.le_refl _) (by omega)) (h1 rt va ex s hs hva hrt)⟩
    | succ d ih =>
      intro i s rt va ex e hs hva hrt
      have hi : i < Z r := by omega
      have c3 : (nI (3 * r + i)).toNatClampNeg = 3 * r + i := nI_clamp (by omega)
      have w18 : vp_in (nI (3 * r + i)) 18 := vp_in_nI (by omega) (by omega)
      obtain ⟨ipa, ina⟩ := rpa i hi
      have ipa2 : pa (nI (3 * r + i)).toNatClampNeg = nI (P r i) := by rw [c3]; exact ipa
      have ina2 : na (nI (3 * r + i)).toNatClampNeg = rm_bI (N r i) := by rw [c3]; exact ina
      have iP := rP i hi
      have st : rm_ps T C n (rm_D c) (P r) (N r) (i + 1) = rm_st T C n (rm_D c) (P r i) (N r i) (rm_pc (N r) i) s := by
        show (rm_ps T C n (rm_D c) (P r) (N r) i).bind _ = _
        rw [hs]; rfl
      have fin : rm_ps T C n (rm_D c) (P r) (N r) (i + 1) = none → rm_ps T C n (rm_D c) (P r) (N r) (Z r) = none := fun z => rm_ps_n z (Z r) (by omega)
      refine ⟨w6, br_f (by rw [cr, rcc]; exact nI_ge hi (by omega)) (nm_r (rm_3 r i) ⟨w18, ?_⟩)⟩
      by_cases ng : N r i = true
      · have pk : rm_pc (N r) (i + 1) = rm_pc (N r) i := by
          show _ + (if N r i = true then 0 else 1) = _
          rw [if_pos ng]; rfl
        have st2 : rm_ps T C n (rm_D c) (P r) (N r) (i + 1) = if rm_cn (rm_fits s.1 (P r i) C) n = 0 then some s else none := by
          rw [st]; exact if_pos ng
        refine br_f (by rw [ina2, ng]; decide) ⟨w18, xm_cf hva iP hn hE (fun j hj => (hPE.2 j hj).2.2) (fun ex1 => ?_) _ ipa2⟩
        have hcb := rm_cn_b (rm_fits s.1 (P r i) C) n
        by_cases z : rm_cn (rm_fits s.1 (P r i) C) n = 0
        · rw [if_pos z] at st2
          have := ih (i + 1) s rt va ex1 (by omega) st2 hva hrt
          rw [pk] at this
          exact br_t (by rw [z]; decide) (nm_r (nI_1 i) this)
        · rw [if_neg z] at st2
          exact br_f (nI_nle (by omega) (by omega)) (h0 rt va ex1 (fin st2))
      · have nf : N r i = false := by
          cases q : N r i
          · rfl
          · exact absurd q ng
        have pk : rm_pc (N r) (i + 1) = rm_pc (N r) i + 1 := by
          show _ + (if N r i = true then 0 else 1) = _
          rw [if_neg ng]
        have st2 : rm_ps T C n (rm_D c) (P r) (N r) (i + 1) = if rm_D c (rm_pc (N r) i) < n then (rm_fs s.1 (P r i) (C (rm_D c (rm_pc (N r) i)))).bind (fun B => some (B, fun j => if j = rm_pc (N r) i then T (rm_D c (rm_pc (N r) i)) else s.2 j)) else none := by
          rw [st]; exact if_neg ng
        have kb := rm_pc_b (N r) i
        have cb : c / 12 ^ rm_pc (N r) i < 2 ^ 31 := Nat.lt_of_le_of_lt (Nat.div_le_self _ _) hc
        have dv : c / 12 ^ rm_pc (N r) i / 12 = c / 12 ^ (rm_pc (N r) i + 1) := by
          rw [Nat.pow_succ, Nat.div_div_eq_div_mul]
        refine br_t (by rw [ina2, nf]; decide) ⟨by decide, nm_r (e' := nI (rm_D c (rm_pc (N r) i))) (pk_rem (d := 12) cb (by omega) (by omega)) ⟨by decide, nm_r (e' := nI (c / 12 ^ (rm_pc (N r) i + 1))) (by rw [← dv]; exact pk_div (d := 12) cb (by omega) (by omega)) ?_⟩⟩
        have d12 : rm_D c (rm_pc (N r) i) < 12 := Nat.mod_lt _ (by omega)
        generalize rm_D c (rm_pc (N r) i) = D at *
        by_cases hD : D < n
        · rw [if_pos hD] at st2
          have cD : (nI D).toNatClampNeg = D := nI_clamp (by omega)
          refine br_f (nI_ge hD (by omega)) ⟨w18, xm_fits hva iP (hPE.2 D hD).2.2 d12 (hE D hD).2 (fun ex1 s1 => ?_) (fun ex1 B s1 x1 => ?_) _ _ ipa2 rfl⟩
          · exact br_t rfl (h0 rt va ex1 (fin (by rw [st2, s1]; rfl)))
          · refine br_f (by decide) (xm_te (fun va2 hv2 => ?_))
            rw [s1] at st2
            have w3 : vp_in (nI (rm_pc (N r) i)) 3 := vp_in_nI (by omega) (by omega)
            have ck : (nI (rm_pc (N r) i)).toNatClampNeg = rm_pc (N r) i := nI_clamp (by omega)
            have := ih (i + 1) (B, fun j => if j = rm_pc (N r) i then T D else s.2 j) (upd rt (rm_pc (N r) i) (nI (T D))) va2 ex1 (by omega) st2 (fun j hj => (hv2 j hj).trans (x1 j hj)) (fun j hj => by
              by_cases z : j = rm_pc (N r) i
              · rw [z, pk_us]
                show nI (T D) = nI (if rm_pc (N r) i = rm_pc (N r) i then T D else s.2 _)
                rw [if_pos rfl]
              · rw [pk_un z]
                show rt j = nI (if j = rm_pc (N r) i then T D else s.2 j)
                rw [if_neg z]
                exact hrt j hj)
            rw [pk] at this
            exact ⟨vp_in_nI d12 (by omega), w3, nm_r (e' := upd rt (rm_pc (N r) i) (nI (T D))) (by rw [ck, cD, (hE D hD).1]) (nm_r (nI_1 _) (nm_r (nI_1 i) this))⟩
        · rw [if_neg hD] at st2
          exact br_t (nI_le (by omega) (by omega)) (h0 rt va ex (fin st2))
  unfold wpX_isMatch
  refine xm_ca (fun va1 hva => ?_)
  refine xm_cr (fun rt1 hrt => ?_)
  have := go (Z r) 0 (fun _ => -1, fun _ => 0) rt1 va1 ex (by omega) rfl hva (fun j hj => (hrt j hj).trans nI_0.symm)
  have e0 : c / 12 ^ rm_pc (N r) 0 = c := by
    show c / 12 ^ 0 = c
    rw [Nat.pow_zero, Nat.div_one]
  rw [e0] at this
  exact ⟨Z r + 1, this⟩
theorem xm_ro {post : Int32 → Prop} {r : Nat} (H : rm_XH n m l T C Z Q P N L tg ct ao cc pc pa na fr ft) (hr : r < m) (h : post (nI (12 ^ rm_pc (N r) (Z r)))) : wpX_rowsOf post (nI l, nI n, nI m, nI L.length, br, tg, ct, ao, cc, pc, pa, na, fr, ft, rt, rf, va, ex, bt, bf, bv) (nI r) := by
  obtain ⟨hn, hl, hPE, hPU, hL, hLB, hE, hR, hF⟩ := H
  have hm := hPU.1
  obtain ⟨p1, p3⟩ := rm_pc_1 hPU hr
  obtain ⟨rcc, rpc, rpa⟩ := hR.1 r (by omega)
  have w6 : vp_in (nI r) 6 := vp_in_nI (by omega) (by omega)
  have cr : (nI r).toNatClampNeg = r := nI_clamp (by omega)
  have go : ∀ d i, i + d = rm_pc (N r) (Z r) → wX_rowsOf_4 post (nI r) (nI l) (nI n) (nI m) (nI L.length) br tg ct ao cc pc pa na fr ft rt rf va ex bt bf bv (d + 1) (nI (12 ^ i)) (nI i) := by
    intro d
    induction d with
    | zero =>
      intro i e
      have e2 : i = rm_pc (N r) (Z r) := by omega
      rw [e2]
      exact ⟨w6, br_t (by rw [cr, rpc]; exact nI_le (Nat.le_refl _) (by omega)) h⟩
    | succ d ih =>
      intro i e
      have := ih (i + 1) (by omega)
      rw [Nat.pow_succ] at this
      exact ⟨w6, br_f (by rw [cr, rpc]; exact nI_ge (by omega) (by omega)) (nm_r (pk_mul (12 ^ i) 12) (nm_r (nI_1 i) this))⟩
  have := go (rm_pc (N r) (Z r)) 0 (by omega)
  exact ⟨rm_pc (N r) (Z r) + 1, this⟩
theorem xm_hf {post : Int32 → Prop} {r : Nat} {g : Nat → Nat} (H : rm_XH n m l T C Z Q P N L tg ct ao cc pc pa na fr ft) (hr : r < 8) (hg : ∀ j, g j < 1048576) (hrt : ∀ j, j < 3 → rt j = nI (g j))
    (h1 : (r, g 0, g 1, g 2) ∈ L → post 1) (h0 : ¬ (r, g 0, g 1, g 2) ∈ L → post 0) : wpX_rowHasFired post (nI l, nI n, nI m, nI L.length, br, tg, ct, ao, cc, pc, pa, na, fr, ft, rt, rf, va, ex, bt, bf, bv) (nI r) := by
  obtain ⟨hn, hl, hPE, hPU, hL, hLB, hE, hR, hF⟩ := H
  have g0 := hg 0
  have g1 := hg 1
  have g2 := hg 2
  have r0 := hrt 0 (by omega)
  have r1 := hrt 1 (by omega)
  have r2 := hrt 2 (by omega)
  have go : ∀ d i, i + d = L.length → (∀ j, j < i → L[j]? ≠ some (r, g 0, g 1, g 2)) → wX_rowHasFired_2 post (nI r) (nI l) (nI n) (nI m) (nI L.length) br tg ct ao cc pc pa na fr ft rt rf va ex bt bf bv (d + 1) (nI i) := by
    intro d
    induction d with
    | zero =>
      intro i e hj
      refine br_t (nI_le (by omega) (by omega)) (h0 (fun z => ?_))
      obtain ⟨j, z⟩ := List.mem_iff_getElem?.mp z
      exact hj j (by have := rm_lt_of z; omega) z
    | succ d ih =>
      intro i e hj
      obtain ⟨x, hx⟩ := rm_get (L := L) (i := i) (by omega)
      obtain ⟨e0, e1, e2, e3⟩ := hF i x hx
      obtain ⟨b0, b1, b2, b3⟩ := hLB x (List.mem_of_getElem? hx)
      have w40 : vp_in (nI i) 40 := vp_in_nI (by omega) (by omega)
      have ci : (nI i).toNatClampNeg = i := nI_clamp (by omega)
      have wa : vp_in (nI (3 * i)) 120 := vp_in_nI (by omega) (by omega)
      have wb : vp_in (nI (3 * i) + 1) 120 := by rw [nI_1]; exact vp_in_nI (by omega) (by omega)
      have wc : vp_in (nI (3 * i) + 2) 120 := by
        have q : nI (3 * i) + 2 = nI (3 * i + 2) := nI_add (3 * i) 2
        rw [q]; exact vp_in_nI (by omega) (by omega)
      have ca : (nI (3 * i)).toNatClampNeg = 3 * i := nI_clamp (by omega)
      have cb : (nI (3 * i) + 1).toNatClampNeg = 3 * i + 1 := by rw [nI_1]; exact nI_clamp (by omega)
      have cc' : (nI (3 * i) + 2).toNatClampNeg = 3 * i + 2 := by
        have q : nI (3 * i) + 2 = nI (3 * i + 2) := nI_add (3 * i) 2
        rw [q]; exact nI_clamp (by omega)
      have nx : x ≠ (r, g 0, g 1, g 2) → wX_rowHasFired_2 post (nI r) (nI l) (nI n) (nI m) (nI L.length) br tg ct ao cc pc pa na fr ft rt rf va ex bt bf bv (d + 1) (nI (i + 1)) := fun ne => ih (i + 1) (by omega) (fun j hj2 => by
        by_cases z : j = i
        · rw [z, hx]
          intro y
          exact ne (Option.some.inj y)
        · exact hj j (by omega))
      refine br_f (nI_ge (by omega) (by omega)) (nm_r (rm_30 i) ⟨w40, ?_⟩)
      by_cases k0 : x.1 = r
      · refine br_t (by rw [ci, e0, k0]) ⟨wa, ?_⟩
        by_cases k1 : x.2.1 = g 0
        · refine br_t (by rw [ca, e1, r0, k1]) ⟨wb, ?_⟩
          by_cases k2 : x.2.2.1 = g 1
          · refine br_t (by rw [cb, e2, r1, k2]) ⟨wc, ?_⟩
            by_cases k3 : x.2.2.2 = g 2
            · refine br_t (by rw [cc', e3, r2, k3]) (h1 ?_)
              have : x = (r, g 0, g 1, g 2) := by rw [← k0, ← k1, ← k2, ← k3]
              rw [← this]
              exact List.mem_of_getElem? hx
            · exact br_f (by rw [cc', e3, r2]; exact fun z => k3 ((nI_eq (by omega) (by omega)).mp z)) (nm_r (nI_1 i) (nx (fun z => k3 (by rw [z]))))
          · exact br_f (by rw [cb, e2, r1]; exact fun z => k2 ((nI_eq (by omega) (by omega)).mp z)) (nm_r (nI_1 i) (nx (fun z => k2 (by rw [z]))))
        · exact br_f (by rw [ca, e1, r0]; exact fun z => k1 ((nI_eq (by omega) (by omega)).mp z)) (nm_r (nI_1 i) (nx (fun z => k1 (by rw [z]))))
      · exact br_f (by rw [ci, e0]; exact fun z => k0 ((nI_eq (by omega) (by omega)).mp z)) (nm_r (nI_1 i) (nx (fun z => k0 (by rw [z]))))
  have := go L.length 0 (by omega) (fun j hj => absurd hj (Nat.not_lt_zero j))
  exact ⟨L.length + 1, this⟩
end XB
