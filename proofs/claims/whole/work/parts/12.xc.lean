theorem rm_k10 : ((1 : Int32) - 1).toNatClampNeg = 0 := by decide
theorem rm_k21 : ((2 : Int32) - 1).toNatClampNeg = 1 := by decide
theorem rm_w10 : vp_in ((1 : Int32) - 1) 3 := vp_in_iff.mpr (by decide)
theorem rm_w21 : vp_in ((2 : Int32) - 1) 3 := vp_in_iff.mpr (by decide)
theorem rm_d10 : (1 : Int32) + (-1) = 0 := by decide
theorem rm_d21 : (2 : Int32) + (-1) = 1 := by decide
theorem rm_z0 : (0 : Int32) ≤ 0 := by decide
theorem rm_z1 : ¬ (1 : Int32) ≤ 0 := by decide
theorem rm_z2 : ¬ (2 : Int32) ≤ 0 := by decide
section XC
variable {n m l : Nat} {T C Z Q : Nat → Nat} {P : Nat → Nat → Nat} {N : Nat → Nat → Bool} {L : List rm_Fi}
variable {lt ec rc fc br : Int32} {tg ct ao cc pc pa na fr ft rt rf va ex bt bf bv : Nat → Int32}
theorem xm_s3 {post : SX → Prop} {hi lo c : Nat} (bh : hi < 1048576) (bl : lo < 1048576) (bc : c < 1048576) (h0 : rf 0 = nI hi) (h1 : rf 1 = nI lo) (h2 : rt 2 = nI c)
    (k : ∀ rf' x y z, rf' 0 = nI x → rf' 1 = nI y → rf' 2 = nI z → ((¬ lo < c ∧ x = hi ∧ y = lo ∧ z = c) ∨ (lo < c ∧ ¬ hi < c ∧ x = hi ∧ y = c ∧ z = lo) ∨ (lo < c ∧ hi < c ∧ x = c ∧ y = hi ∧ z = lo)) → post (lt, ec, rc, fc, br, tg, ct, ao, cc, pc, pa, na, fr, ft, rt, rf', va, ex, bt, bf, bv)) :
    wX_sortRowTags_2 post lt ec rc fc br (0 + 1 + 1) 2 tg ct ao cc pc pa na fr ft rt rf va ex bt bf bv := by
  refine br_f rm_q2 ⟨rm_v2, nm_r (e' := nI c) (by rw [rm_c2]; exact h2) ⟨0 + 1 + 1 + 1, br_f rm_z2 ⟨rm_w21, ?_⟩⟩⟩
  by_cases a : lo < c
  · refine br_f (by rw [rm_k21, h1]; exact nI_ge a (by omega)) ⟨rm_w21, rm_v2, nm_r (e' := upd rf 2 (nI lo)) (by rw [rm_k21, rm_c2, h1]) (nm_r rm_d21 (br_f rm_z1 ⟨rm_w10, ?_⟩))⟩
    have h0' : upd rf 2 (nI lo) 0 = nI hi := (pk_un (by omega)).trans h0
    by_cases b : hi < c
    · refine br_f (by rw [rm_k10, h0']; exact nI_ge b (by omega)) ⟨rm_w10, rm_v1, nm_r (e' := upd (upd rf 2 (nI lo)) 1 (nI hi)) (by rw [rm_k10, rm_c1, h0']) (nm_r rm_d10 (br_t rm_z0 ⟨rm_v0, nm_r (e' := upd (upd (upd rf 2 (nI lo)) 1 (nI hi)) 0 (nI c)) (by rw [rm_c0]) (nm_r rm_23 (br_t rm_q3 (k _ c hi lo ?_ ?_ ?_ (Or.inr (Or.inr ⟨a, b, rfl, rfl, rfl⟩)))))⟩))⟩
      · rw [pk_us]
      · rw [pk_un (by omega), pk_us]
      · rw [pk_un (by omega), pk_un (by omega), pk_us]
    · refine br_t (by rw [rm_k10, h0']; exact nI_le (by omega) (by omega)) ⟨rm_v1, nm_r (e' := upd (upd rf 2 (nI lo)) 1 (nI c)) (by rw [rm_c1]) (nm_r rm_23 (br_t rm_q3 (k _ hi c lo ?_ ?_ ?_ (Or.inr (Or.inl ⟨a, b, rfl, rfl, rfl⟩)))))⟩
      · rw [pk_un (by omega)]; exact h0'
      · rw [pk_us]
      · rw [pk_un (by omega), pk_us]
  · refine br_t (by rw [rm_k21, h1]; exact nI_le (by omega) (by omega)) ⟨rm_v2, nm_r (e' := upd rf 2 (nI c)) (by rw [rm_c2]) (nm_r rm_23 (br_t rm_q3 (k _ hi lo c ?_ ?_ ?_ (Or.inl ⟨a, rfl, rfl, rfl⟩))))⟩
    · rw [pk_un (by omega)]; exact h0
    · rw [pk_un (by omega)]; exact h1
    · rw [pk_us]
theorem xm_so {post : SX → Prop} {a b c : Nat} (ba : a < 1048576) (bb : b < 1048576) (bc : c < 1048576) (h0 : rt 0 = nI a) (h1 : rt 1 = nI b) (h2 : rt 2 = nI c)
    (k : ∀ rf', rf' 0 = nI (rm_m0 a b c) → rf' 1 = nI (rm_m1 a b c) → rf' 2 = nI (rm_m2 a b c) → post (lt, ec, rc, fc, br, tg, ct, ao, cc, pc, pa, na, fr, ft, rt, rf', va, ex, bt, bf, bv)) : wpX_sortRowTags post (lt, ec, rc, fc, br, tg, ct, ao, cc, pc, pa, na, fr, ft, rt, rf, va, ex, bt, bf, bv) := by
  have fin : ∀ rf' x y z, rf' 0 = nI x → rf' 1 = nI y → rf' 2 = nI z → rm_is a b c x y z → post (lt, ec, rc, fc, br, tg, ct, ao, cc, pc, pa, na, fr, ft, rt, rf', va, ex, bt, bf, bv) := by
    intro rf' x y z e0 e1 e2 i
    obtain ⟨rfl, rfl, rfl⟩ := i
    exact k rf' e0 e1 e2
  refine ⟨0 + 1 + 1 + 1 + 1, br_f rm_q0 ⟨rm_v0, nm_r (e' := nI a) (by rw [rm_c0]; exact h0) ⟨0 + 1, br_t rm_z0 ⟨rm_v0, nm_r (e' := upd rf 0 (nI a)) (by rw [rm_c0]) (nm_r rm_01 ?_)⟩⟩⟩⟩
  refine br_f rm_q1 ⟨rm_v1, nm_r (e' := nI b) (by rw [rm_c1]; exact h1) ⟨0 + 1 + 1, br_f rm_z1 ⟨rm_w10, ?_⟩⟩⟩
  have u0 : upd rf 0 (nI a) 0 = nI a := pk_us
  by_cases ab : a < b
  · refine br_f (by rw [rm_k10, u0]; exact nI_ge ab (by omega)) ⟨rm_w10, rm_v1, nm_r (e' := upd (upd rf 0 (nI a)) 1 (nI a)) (by rw [rm_k10, rm_c1, u0]) (nm_r rm_d10 (br_t rm_z0 ⟨rm_v0, nm_r (e' := upd (upd (upd rf 0 (nI a)) 1 (nI a)) 0 (nI b)) (by rw [rm_c0]) (nm_r rm_12 ?_)⟩))⟩
    refine xm_s3 (hi := b) (lo := a) bb ba bc pk_us (by rw [pk_un (by omega), pk_us]) h2 (fun rf' x y z e0 e1 e2 i => fin rf' x y z e0 e1 e2 ?_)
    rcases i with ⟨i1, rfl, rfl, rfl⟩ | ⟨i1, i2, rfl, rfl, rfl⟩ | ⟨i1, i2, rfl, rfl, rfl⟩
    · exact rm_i3 ab i1
    · exact rm_i2 ab i1 i2
    · exact rm_i1 ab i1 i2
  · refine br_t (by rw [rm_k10, u0]; exact nI_le (by omega) (by omega)) ⟨rm_v1, nm_r (e' := upd (upd rf 0 (nI a)) 1 (nI b)) (by rw [rm_c1]) (nm_r rm_12 ?_)⟩
    refine xm_s3 (hi := a) (lo := b) ba bb bc (by rw [pk_un (by omega), pk_us]) pk_us h2 (fun rf' x y z e0 e1 e2 i => fin rf' x y z e0 e1 e2 ?_)
    rcases i with ⟨i1, rfl, rfl, rfl⟩ | ⟨i1, i2, rfl, rfl, rfl⟩ | ⟨i1, i2, rfl, rfl, rfl⟩
    · exact rm_i6 ab i1
    · exact rm_i5 ab i1 i2
    · exact rm_i4 ab i1 i2
theorem xm_12 {post : Int32 → Prop} {q : Int32} {j x y k : Nat} (hj : j < 3) (bx : x < 1048576) (hy' : y < 1048576) (hx : rf j = nI x) (hy : bf j = nI y) (he : x = y → wX_rowBeatsBest_12 post q lt ec rc fc br tg ct ao cc pc pa na fr ft rt rf va ex bt bf bv k (nI (j + 1))) (hg : y < x → post 1) (hl : x < y → post 0) : wX_rowBeatsBest_12 post q lt ec rc fc br tg ct ao cc pc pa na fr ft rt rf va ex bt bf bv (k + 1) (nI j) := by
  have w : vp_in (nI j) 3 := vp_in_nI hj (by omega)
  have cj : (nI j).toNatClampNeg = j := nI_clamp (by omega)
  refine br_f (nI_ge (b := 3) hj (by omega)) ⟨w, w, ?_⟩
  by_cases e : x = y
  · exact br_t (by rw [cj, hx, hy, e]) (nm_r (nI_1 j) (he e))
  · refine br_f (by rw [cj, hx, hy]; exact fun z => e ((nI_eq (by omega) (by omega)).mp z)) ⟨w, w, ?_⟩
    by_cases g : y < x
    · exact br_f (by rw [cj, hx, hy]; exact nI_ge g (by omega)) (hg g)
    · exact br_t (by rw [cj, hx, hy]; exact nI_le (by omega) (by omega)) (hl (by omega))
theorem xm_83 {post : Int32 → Prop} {j x y k : Nat} (hj : j < 3) (bx : x < 1048576) (hy' : y < 1048576) (hx : rt j = nI x) (hy : bt j = nI y) (he : x = y → wX_rowBeatsBest_83 post lt ec rc fc br tg ct ao cc pc pa na fr ft rt rf va ex bt bf bv k (nI (j + 1))) (hg : y < x → post 1) (hl : x < y → post 0) : wX_rowBeatsBest_83 post lt ec rc fc br tg ct ao cc pc pa na fr ft rt rf va ex bt bf bv (k + 1) (nI j) := by
  have w : vp_in (nI j) 3 := vp_in_nI hj (by omega)
  have cj : (nI j).toNatClampNeg = j := nI_clamp (by omega)
  refine br_f (nI_ge (b := 3) hj (by omega)) ⟨w, w, ?_⟩
  by_cases e : x = y
  · exact br_t (by rw [cj, hx, hy, e]) (nm_r (nI_1 j) (he e))
  · refine br_f (by rw [cj, hx, hy]; exact fun z => e ((nI_eq (by omega) (by omega)).mp z)) ⟨w, w, ?_⟩
    by_cases g : y < x
    · exact br_f (by rw [cj, hx, hy]; exact nI_ge g (by omega)) (hg g)
    · exact br_t (by rw [cj, hx, hy]; exact nI_le (by omega) (by omega)) (hl (by omega))
theorem xm_bb {post : Int32 → Prop} {r a b c r' a' b' c' : Nat} (ha : a < 1048576) (hb : b < 1048576) (hc : c < 1048576) (ha' : a' < 1048576) (hb' : b' < 1048576) (hc' : c' < 1048576) (hr : r < 7) (hr' : r' < 7)
    (f0 : rf 0 = nI (rm_m0 a b c)) (f1 : rf 1 = nI (rm_m1 a b c)) (f2 : rf 2 = nI (rm_m2 a b c)) (g0 : bf 0 = nI (rm_m0 a' b' c')) (g1 : bf 1 = nI (rm_m1 a' b' c')) (g2 : bf 2 = nI (rm_m2 a' b' c'))
    (t0 : rt 0 = nI a) (t1 : rt 1 = nI b) (t2 : rt 2 = nI c) (s0 : bt 0 = nI a') (s1 : bt 1 = nI b') (s2 : bt 2 = nI c')
    (h1 : rm_kf r' a' b' c' < rm_kf r a b c → post 1) (h0 : ¬ rm_kf r' a' b' c' < rm_kf r a b c → post 0) : wpX_rowBeatsBest post (lt, ec, rc, fc, nI r', tg, ct, ao, cc, pc, pa, na, fr, ft, rt, rf, va, ex, bt, bf, bv) (nI r) := by
  have kk := rm_bt_k (r := r) (r' := r') ha hb hc ha' hb' hc'
  obtain ⟨m0, m1, m2⟩ := rm_mb ha hb hc
  obtain ⟨n0, n1, n2⟩ := rm_mb ha' hb' hc'
  rw [← kk] at h1 h0
  unfold rm_bt at h1 h0
  generalize rm_m0 a b c = x0 at *
  generalize rm_m1 a b c = x1 at *
  generalize rm_m2 a b c = x2 at *
  generalize rm_m0 a' b' c' = y0 at *
  generalize rm_m1 a' b' c' = y1 at *
  generalize rm_m2 a' b' c' = y2 at *
  refine br_f (rm_nm1 (by omega)) ⟨0 + 1 + 1 + 1 + 1, ?_⟩
  refine xm_12 (j := 0) (by omega) m0 n0 f0 g0 (fun e0 => ?_) (fun z => h1 (by omega)) (fun z => h0 (by omega))
  refine xm_12 (j := 1) (by omega) m1 n1 f1 g1 (fun e1 => ?_) (fun z => h1 (by omega)) (fun z => h0 (by omega))
  refine xm_12 (j := 2) (by omega) m2 n2 f2 g2 (fun e2 => ?_) (fun z => h1 (by omega)) (fun z => h0 (by omega))
  refine br_t (by decide) ?_
  by_cases er : r = r'
  · refine br_t (by rw [er]) ⟨0 + 1 + 1 + 1 + 1, ?_⟩
    refine xm_83 (j := 0) (by omega) ha ha' t0 s0 (fun e3 => ?_) (fun z => h1 (by omega)) (fun z => h0 (by omega))
    refine xm_83 (j := 1) (by omega) hb hb' t1 s1 (fun e4 => ?_) (fun z => h1 (by omega)) (fun z => h0 (by omega))
    refine xm_83 (j := 2) (by omega) hc hc' t2 s2 (fun e5 => ?_) (fun z => h1 (by omega)) (fun z => h0 (by omega))
    exact br_t (by decide) (h0 (by omega))
  · refine br_f (fun z => er ((nI_eq (by omega) (by omega)).mp z)) ?_
    by_cases lr : r < r'
    · exact br_f (nI_ge lr (by omega)) (h1 (by omega))
    · exact br_t (nI_le (by omega) (by omega)) (h0 (by omega))
theorem xm_ke {post : SX → Prop} {q : Int32} (h : ∀ bt' bf' bv', rm_ag bt' rt → rm_ag bf' rf → rm_ag bv' va → post (lt, ec, rc, fc, q, tg, ct, ao, cc, pc, pa, na, fr, ft, rt, rf, va, ex, bt', bf', bv')) : wpX_keepRowAsBest post (lt, ec, rc, fc, br, tg, ct, ao, cc, pc, pa, na, fr, ft, rt, rf, va, ex, bt, bf, bv) q :=
  ⟨0 + 1 + 1 + 1 + 1, br_f rm_q0 ⟨rm_v0, rm_v0, nm_r (e' := upd bt 0 (rt 0)) (by rw [rm_c0]) ⟨rm_v0, rm_v0, nm_r (e' := upd bf 0 (rf 0)) (by rw [rm_c0]) (nm_r rm_01 (br_f rm_q1 ⟨rm_v1, rm_v1, nm_r (e' := upd (upd bt 0 (rt 0)) 1 (rt 1)) (by rw [rm_c1]) ⟨rm_v1, rm_v1, nm_r (e' := upd (upd bf 0 (rf 0)) 1 (rf 1)) (by rw [rm_c1]) (nm_r rm_12 (br_f rm_q2 ⟨rm_v2, rm_v2, nm_r (e' := rm_u3 bt (rt 0) (rt 1) (rt 2)) (by rw [rm_c2]; rfl) ⟨rm_v2, rm_v2, nm_r (e' := rm_u3 bf (rf 0) (rf 1) (rf 2)) (by rw [rm_c2]; rfl) (nm_r rm_23 (br_t rm_q3 ⟨0 + 1 + 1 + 1 + 1, br_f rm_q0 ⟨rm_v0, rm_v0, nm_r (e' := upd bv 0 (va 0)) (by rw [rm_c0]) (nm_r rm_01 (br_f rm_q1 ⟨rm_v1, rm_v1, nm_r (e' := upd (upd bv 0 (va 0)) 1 (va 1)) (by rw [rm_c1]) (nm_r rm_12 (br_f rm_q2 ⟨rm_v2, rm_v2, nm_r (e' := rm_u3 bv (va 0) (va 1) (va 2)) (by rw [rm_c2]; rfl) (nm_r rm_23 (br_t rm_q3 (h _ _ _ (rm_u3_ag rfl rfl rfl) (rm_u3_ag rfl rfl rfl) (rm_u3_ag rfl rfl rfl))))⟩))⟩))⟩⟩))⟩⟩))⟩⟩))⟩⟩⟩
end XC
/-- the component's best match so far -/
def rm_BX (m : Nat) (b : Option rm_It) (br : Int32) (bt bf bv : Nat → Int32) : Prop :=
  match b with
  | none => br = -1
  | some x => br = nI x.1 ∧ x.1 < m ∧ (∀ j, x.2.1 j < 1048576) ∧ (∀ j, j < 3 → bt j = nI (x.2.1 j)) ∧ bf 0 = nI (rm_m0 (x.2.1 0) (x.2.1 1) (x.2.1 2)) ∧ bf 1 = nI (rm_m1 (x.2.1 0) (x.2.1 1) (x.2.1 2)) ∧ bf 2 = nI (rm_m2 (x.2.1 0) (x.2.1 1) (x.2.1 2)) ∧ rm_ag bv x.2.2
theorem rm_gb {T C : Nat → Nat} {n l : Nat} {D : Nat → Nat} {P : Nat → Nat} {N : Nat → Bool} {j : Nat} {s : (Nat → Int32) × (Nat → Nat)} (hE : rm_PE n l T C) (hl : l < 1048576) (h : rm_ps T C n D P N j = some s) : ∀ k, s.2 k < 1048576 := by
  intro k
  obtain ⟨_, a, b⟩ := rm_ps_g j s h
  by_cases hk : k < rm_pc N j
  · have c := a k hk
    rw [c.2]
    have := hE.2 _ c.1
    omega
  · rw [b k hk]; omega
section XD
variable {n m l : Nat} {T C Z Q : Nat → Nat} {P : Nat → Nat → Nat} {N : Nat → Nat → Bool} {L : List rm_Fi}
variable {lt ec rc fc br : Int32} {tg ct ao cc pc pa na fr ft rt rf va ex bt bf bv : Nat → Int32}
theorem xm_23 {post : SX → Prop} {J : Int32 → Int32 → Int32 → Int32 → Int32 → Int32 → (Nat → Int32) → (Nat → Int32) → (Nat → Int32) → (Nat → Int32) → (Nat → Int32) → (Nat → Int32) → (Nat → Int32) → (Nat → Int32) → (Nat → Int32) → (Nat → Int32) → (Nat → Int32) → (Nat → Int32) → (Nat → Int32) → (Nat → Int32) → (Nat → Int32) → (Nat → Int32) → Prop} {r : Nat} {b : Option rm_It}
    (H : rm_XH n m l T C Z Q P N L tg ct ao cc pc pa na fr ft) (hr : r < m)
    (hJ : ∀ rt rf va ex br bt bf bv, rm_BX m (rm_fc (rm_om T C n P N Z L r) b (12 ^ rm_pc (N r) (Z r))) br bt bf bv → J (nI (r + 1)) (nI l) (nI n) (nI m) (nI L.length) br tg ct ao cc pc pa na fr ft rt rf va ex bt bf bv) :
    ∀ d i rt rf va ex br bt bf bv, i + d = 12 ^ rm_pc (N r) (Z r) → rm_BX m (rm_fc (rm_om T C n P N Z L r) b i) br bt bf bv → wX_findBest_23 post J (nI r) (nI (12 ^ rm_pc (N r) (Z r))) (d + 1) (nI i) (nI l) (nI n) (nI m) (nI L.length) br tg ct ao cc pc pa na fr ft rt rf va ex bt bf bv := by
  have hPE := H.2.2.1
  have hl := H.2.1
  have hPU := H.2.2.2.1
  have hm := hPU.1
  obtain ⟨p1, p3⟩ := rm_pc_1 hPU hr
  have pb : 12 ^ rm_pc (N r) (Z r) ≤ 1728 := Nat.pow_le_pow_right (n := 12) (by omega) p3
  generalize hM : 12 ^ rm_pc (N r) (Z r) = M at *
  intro d
  induction d with
  | zero =>
    intro i rt rf va ex br bt bf bv e hb
    have e2 : i = M := by omega
    subst e2
    exact br_t (nI_le (Nat.le_refl _) (by omega)) (nm_r (nI_1 r) (hJ rt rf va ex br bt bf bv hb))
  | succ d ih =>
    intro i rt rf va ex br bt bf bv e hb
    refine br_f (nI_ge (by omega) (by omega)) (xm_im H hr (by omega) (fun rt1 va1 ex1 hn => ?_) (fun rt1 va1 ex1 s hs hva hrt => ?_))
    · have om : rm_om T C n P N Z L r i = none := by unfold rm_om; rw [hn]; rfl
      have fc1 : rm_fc (rm_om T C n P N Z L r) b (i + 1) = rm_fc (rm_om T C n P N Z L r) b i := by
        show rm_ub _ (rm_om T C n P N Z L r i) = _
        rw [om]; rfl
      exact br_t rfl (nm_r (nI_1 i) (ih (i + 1) rt1 rf va1 ex1 br bt bf bv (by omega) (by rw [fc1]; exact hb)))
    · have gb := rm_gb hPE hl hs
      refine br_f (by decide) (xm_hf H (by omega) gb hrt (fun mem => ?_) (fun mem => ?_))
      · have om : rm_om T C n P N Z L r i = none := by
          unfold rm_om; rw [hs]; exact if_pos mem
        have fc1 : rm_fc (rm_om T C n P N Z L r) b (i + 1) = rm_fc (rm_om T C n P N Z L r) b i := by
          show rm_ub _ (rm_om T C n P N Z L r i) = _
          rw [om]; rfl
        exact br_f (by decide) (nm_r (nI_1 i) (ih (i + 1) rt1 rf va1 ex1 br bt bf bv (by omega) (by rw [fc1]; exact hb)))
      · have om : rm_om T C n P N Z L r i = some (r, s.2, s.1) := by
          unfold rm_om; rw [hs]; exact if_neg mem
        have fc1 : rm_fc (rm_om T C n P N Z L r) b (i + 1) = rm_ub (rm_fc (rm_om T C n P N Z L r) b i) (some (r, s.2, s.1)) := by
          show rm_ub _ (rm_om T C n P N Z L r i) = _
          rw [om]
        refine br_t rfl (xm_so (gb 0) (gb 1) (gb 2) (hrt 0 (by omega)) (hrt 1 (by omega)) (hrt 2 (by omega)) (fun rf1 f0 f1 f2 => ?_))
        have kp : rm_BX m (rm_fc (rm_om T C n P N Z L r) b (i + 1)) = rm_BX m (some (r, s.2, s.1)) → wpX_keepRowAsBest (fun u => match u with | (lt2, ec2, rc2, fc2, br2, tg2, ct2, ao2, cc2, pc2, pa2, na2, fr2, ft2, rt2, rf2, va2, ex2, bt2, bf2, bv2) => ∀ x3 : Int32, x3 = nI i + 1 → wX_findBest_23 post J (nI r) (nI M) (d + 1) x3 lt2 ec2 rc2 fc2 br2 tg2 ct2 ao2 cc2 pc2 pa2 na2 fr2 ft2 rt2 rf2 va2 ex2 bt2 bf2 bv2) (nI l, nI n, nI m, nI L.length, br, tg, ct, ao, cc, pc, pa, na, fr, ft, rt1, rf1, va1, ex1, bt, bf, bv) (nI r) := by
          intro e2
          refine xm_ke (fun bt' bf' bv' q1 q2 q3 => ?_)
          refine nm_r (nI_1 i) (ih (i + 1) rt1 rf1 va1 ex1 (nI r) bt' bf' bv' (by omega) ?_)
          rw [e2]
          exact ⟨rfl, hr, gb, fun j hj => (q1 j hj).trans (hrt j hj), (q2 0 (by omega)).trans f0, (q2 1 (by omega)).trans f1, (q2 2 (by omega)).trans f2, fun j hj => (q3 j hj).trans (hva j hj)⟩
        cases hq : rm_fc (rm_om T C n P N Z L r) b i with
        | none =>
          rw [hq] at hb fc1
          have hb2 : br = -1 := hb
          subst hb2
          exact br_t rfl (br_f (by decide) (kp (by rw [fc1]; rfl)))
        | some y =>
          rw [hq] at hb fc1
          obtain ⟨b1, b2, b3, b4, b5, b6, b7, b8⟩ := hb
          subst b1
          refine xm_bb (gb 0) (gb 1) (gb 2) (b3 0) (b3 1) (b3 2) (by omega) (by omega) f0 f1 f2 b5 b6 b7 (hrt 0 (by omega)) (hrt 1 (by omega)) (hrt 2 (by omega)) (b4 0 (by omega)) (b4 1 (by omega)) (b4 2 (by omega)) (fun kl => ?_) (fun kl => ?_)
          · exact br_f (by decide) (kp (by rw [fc1]; show rm_BX m (if rm_ky y < rm_ky (r, s.2, s.1) then _ else _) = _; rw [if_pos (show rm_ky y < rm_ky (r, s.2, s.1) from kl)]))
          · refine br_t rfl (nm_r (nI_1 i) (ih (i + 1) rt1 rf1 va1 ex1 (nI y.1) bt bf bv (by omega) ?_))
            rw [fc1]
            show rm_BX m (if rm_ky y < rm_ky (r, s.2, s.1) then _ else _) _ _ _ _
            rw [if_neg (show ¬ rm_ky y < rm_ky (r, s.2, s.1) from kl)]
            exact ⟨rfl, b2, b3, b4, b5, b6, b7, b8⟩
theorem xm_fb {post : SX → Prop} (H : rm_XH n m l T C Z Q P N L tg ct ao cc pc pa na fr ft)
    (h : ∀ rt rf va ex br bt bf bv, rm_BX m (rm_fr (rm_om T C n P N Z L) (fun r => 12 ^ rm_pc (N r) (Z r)) m) br bt bf bv → post (nI l, nI n, nI m, nI L.length, br, tg, ct, ao, cc, pc, pa, na, fr, ft, rt, rf, va, ex, bt, bf, bv)) : wpX_findBest post (nI l, nI n, nI m, nI L.length, br, tg, ct, ao, cc, pc, pa, na, fr, ft, rt, rf, va, ex, bt, bf, bv) := by
  have hm := H.2.2.2.1.1
  have go : ∀ d r rt rf va ex br bt bf bv, r + d = m → rm_BX m (rm_fr (rm_om T C n P N Z L) (fun r => 12 ^ rm_pc (N r) (Z r)) r) br bt bf bv → wX_findBest_7 post (d + 1) (nI r) (nI l) (nI n) (nI m) (nI L.length) br tg ct ao cc pc pa na fr ft rt rf va ex bt bf bv := by
    intro d
    induction d with
    | zero =>
      intro r rt rf va ex br bt bf bv e hb
      have e2 : r = m := by omega
      subst e2
      exact br_t (nI_le (Nat.le_refl _) (by omega)) (h rt rf va ex br bt bf bv hb)
    | succ d ih =>
      intro r rt rf va ex br bt bf bv e hb
      refine br_f (nI_ge (by omega) (by omega)) (xm_ro H (by omega) ?_)
      exact ⟨12 ^ rm_pc (N r) (Z r) + 1, xm_23 (b := rm_fr (rm_om T C n P N Z L) (fun r => 12 ^ rm_pc (N r) (Z r)) r) H (by omega) (fun rt1 rf1 va1 ex1 br1 bt1 bf1 bv1 hb1 => ih (r + 1) rt1 rf1 va1 ex1 br1 bt1 bf1 bv1 (by omega) hb1) (12 ^ rm_pc (N r) (Z r)) 0 rt rf va ex br bt bf bv (by omega) hb⟩
  exact ⟨m + 1, go m 0 rt rf va ex (-1) bt bf bv (by omega) rfl⟩
theorem xm_ma {post : Int32 → SX → Prop} {r : Nat} (H : rm_XH n m l T C Z Q P N L tg ct ao cc pc pa na fr ft) (hr : r < m)
    (h : ∀ rt va ex, post (nI (rm_cn (fun c => (rm_ps T C n (rm_D c) (P r) (N r) (Z r)).isSome) (12 ^ rm_pc (N r) (Z r)))) (nI l, nI n, nI m, nI L.length, br, tg, ct, ao, cc, pc, pa, na, fr, ft, rt, rf, va, ex, bt, bf, bv)) : wpX_matches post (nI l, nI n, nI m, nI L.length, br, tg, ct, ao, cc, pc, pa, na, fr, ft, rt, rf, va, ex, bt, bf, bv) (nI r) := by
  have hPU := H.2.2.2.1
  have hm := hPU.1
  obtain ⟨p1, p3⟩ := rm_pc_1 hPU hr
  have pb : 12 ^ rm_pc (N r) (Z r) ≤ 1728 := Nat.pow_le_pow_right (n := 12) (by omega) p3
  have go : ∀ d i rt va ex, i + d = 12 ^ rm_pc (N r) (Z r) → wX_matches_25 post (nI r) (nI (12 ^ rm_pc (N r) (Z r))) (d + 1) (nI (rm_cn (fun c => (rm_ps T C n (rm_D c) (P r) (N r) (Z r)).isSome) i)) (nI i) (nI l) (nI n) (nI m) (nI L.length) br tg ct ao cc pc pa na fr ft rt rf va ex bt bf bv := by
    generalize 12 ^ rm_pc (N r) (Z r) = M at *
    intro d
    induction d with
    | zero =>
      intro i rt va ex e
      have e2 : i = M := by omega
      subst e2
      exact br_t (nI_le (Nat.le_refl _) (by omega)) (h rt va ex)
    | succ d ih =>
      intro i rt va ex e
      refine br_f (nI_ge (by omega) (by omega)) (xm_im H hr (by omega) (fun rt1 va1 ex1 hn => ?_) (fun rt1 va1 ex1 s hs _ _ => ?_))
      · have e3 : rm_cn (fun c => (rm_ps T C n (rm_D c) (P r) (N r) (Z r)).isSome) (i + 1) = rm_cn (fun c => (rm_ps T C n (rm_D c) (P r) (N r) (Z r)).isSome) i := by
          show _ + (if (rm_ps T C n (rm_D i) (P r) (N r) (Z r)).isSome = true then 1 else 0) = _
          rw [hn]; rfl
        have := ih (i + 1) rt1 va1 ex1 (by omega)
        rw [e3] at this
        exact br_t rfl (nm_r (nI_1 i) this)
      · have e3 : rm_cn (fun c => (rm_ps T C n (rm_D c) (P r) (N r) (Z r)).isSome) (i + 1) = rm_cn (fun c => (rm_ps T C n (rm_D c) (P r) (N r) (Z r)).isSome) i + 1 := by
          show _ + (if (rm_ps T C n (rm_D i) (P r) (N r) (Z r)).isSome = true then 1 else 0) = _
          rw [hs]; rfl
        have := ih (i + 1) rt1 va1 ex1 (by omega)
        rw [e3] at this
        exact br_f (by decide) (nm_r (nI_1 _) (nm_r (nI_1 i) this))
  refine br_f (nI_pos (by omega)) (br_t (nI_lt hr (by omega)) (xm_ro H hr ?_))
  exact ⟨12 ^ rm_pc (N r) (Z r) + 1, go (12 ^ rm_pc (N r) (Z r)) 0 rt va ex (by omega)⟩
theorem xm_op {post : Int32 → SX → Prop} (H : rm_XH n m l T C Z Q P N L tg ct ao cc pc pa na fr ft)
    (h : ∀ rt va ex, post (nI (rm_oc (rm_om T C n P N Z L) (fun r => 12 ^ rm_pc (N r) (Z r)) m)) (nI l, nI n, nI m, nI L.length, br, tg, ct, ao, cc, pc, pa, na, fr, ft, rt, rf, va, ex, bt, bf, bv)) : wpX_open post (nI l, nI n, nI m, nI L.length, br, tg, ct, ao, cc, pc, pa, na, fr, ft, rt, rf, va, ex, bt, bf, bv) := by
  have hPU := H.2.2.2.1
  have hm := hPU.1
  have hPE := H.2.2.1
  have hl := H.2.1
  have go : ∀ d r rt va ex, r + d = m → wX_open_4 post (d + 1) (nI (rm_oc (rm_om T C n P N Z L) (fun r => 12 ^ rm_pc (N r) (Z r)) r)) (nI r) (nI l) (nI n) (nI m) (nI L.length) br tg ct ao cc pc pa na fr ft rt rf va ex bt bf bv := by
    intro d
    induction d with
    | zero =>
      intro r rt va ex e
      have e2 : r = m := by omega
      subst e2
      exact br_t (nI_le (Nat.le_refl _) (by omega)) (h rt va ex)
    | succ d ih =>
      intro r rt va ex e
      have hr : r < m := by omega
      obtain ⟨p1, p3⟩ := rm_pc_1 hPU hr
      have pb : 12 ^ rm_pc (N r) (Z r) ≤ 1728 := Nat.pow_le_pow_right (n := 12) (by omega) p3
      have J : ∀ rt va ex, wX_open_4 post (d + 1) (nI (rm_oc (rm_om T C n P N Z L) (fun r => 12 ^ rm_pc (N r) (Z r)) r + rm_cn (fun c => (rm_om T C n P N Z L r c).isSome) (12 ^ rm_pc (N r) (Z r)))) (nI (r + 1)) (nI l) (nI n) (nI m) (nI L.length) br tg ct ao cc pc pa na fr ft rt rf va ex bt bf bv := fun rt va ex => ih (r + 1) rt va ex (by omega)
      refine br_f (nI_ge hr (by omega)) (xm_ro H hr ?_)
      generalize rm_oc (rm_om T C n P N Z L) (fun r => 12 ^ rm_pc (N r) (Z r)) r = o at *
      have g2 : ∀ f i rt va ex, i + f = 12 ^ rm_pc (N r) (Z r) → wX_open_21 post (wX_open_4 post (d + 1)) (nI r) (nI (12 ^ rm_pc (N r) (Z r))) (f + 1) (nI (o + rm_cn (fun c => (rm_om T C n P N Z L r c).isSome) i)) (nI i) (nI l) (nI n) (nI m) (nI L.length) br tg ct ao cc pc pa na fr ft rt rf va ex bt bf bv := by
        generalize 12 ^ rm_pc (N r) (Z r) = M at *
        intro f
        induction f with
        | zero =>
          intro i rt va ex e
          have e2 : i = M := by omega
          subst e2
          exact br_t (nI_le (Nat.le_refl _) (by omega)) (nm_r (nI_1 r) (J rt va ex))
        | succ f ih2 =>
          intro i rt va ex e
          have no : rm_om T C n P N Z L r i = none → rm_cn (fun c => (rm_om T C n P N Z L r c).isSome) (i + 1) = rm_cn (fun c => (rm_om T C n P N Z L r c).isSome) i := by
            intro om
            show _ + (if (rm_om T C n P N Z L r i).isSome = true then 1 else 0) = _
            rw [om]; rfl
          refine br_f (nI_ge (by omega) (by omega)) (xm_im H hr (by omega) (fun rt1 va1 ex1 hn => ?_) (fun rt1 va1 ex1 s hs _ hrt => ?_))
          · have e3 := no (by unfold rm_om; rw [hn]; rfl)
            have := ih2 (i + 1) rt1 va1 ex1 (by omega)
            rw [e3] at this
            exact br_t rfl (nm_r (nI_1 i) this)
          · have gb := rm_gb hPE hl hs
            refine br_f (by decide) (xm_hf H (by omega) gb hrt (fun mem => ?_) (fun mem => ?_))
            · have e3 := no (by unfold rm_om; rw [hs]; exact if_pos mem)
              have := ih2 (i + 1) rt1 va1 ex1 (by omega)
              rw [e3] at this
              exact br_f (by decide) (nm_r (nI_1 i) this)
            · have om : rm_om T C n P N Z L r i = some (r, s.2, s.1) := by
                unfold rm_om; rw [hs]; exact if_neg mem
              have e3 : rm_cn (fun c => (rm_om T C n P N Z L r c).isSome) (i + 1) = rm_cn (fun c => (rm_om T C n P N Z L r c).isSome) i + 1 := by
                show _ + (if (rm_om T C n P N Z L r i).isSome = true then 1 else 0) = _
                rw [om]; rfl
              have := ih2 (i + 1) rt1 va1 ex1 (by omega)
              rw [e3, ← Nat.add_assoc] at this
              exact br_t rfl (nm_r (nI_1 _) (nm_r (nI_1 i) this))
      exact ⟨12 ^ rm_pc (N r) (Z r) + 1, g2 (12 ^ rm_pc (N r) (Z r)) 0 rt va ex (by omega)⟩
  exact ⟨m + 1, go m 0 rt va ex (by omega)⟩
end XD
