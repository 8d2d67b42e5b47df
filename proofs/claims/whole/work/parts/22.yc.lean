/-- the reference's best match so far -/
def rm_BY (m : Nat) (Z : Nat → Nat) (N : Nat → Nat → Bool) (b : Option rm_It) (br bl : Int32) (be bt bb : Nat → Int32) : Prop :=
  match b with
  | none => br = -1
  | some x => br = nI x.1 ∧ x.1 < m ∧ (∀ j, x.2.1 j < 1048576) ∧ (∀ j, j < 3 → bt j = nI (x.2.1 j)) ∧ be 0 = nI (rm_m0 (x.2.1 0) (x.2.1 1) (x.2.1 2)) ∧ be 1 = nI (rm_m1 (x.2.1 0) (x.2.1 1) (x.2.1 2)) ∧ be 2 = nI (rm_m2 (x.2.1 0) (x.2.1 1) (x.2.1 2)) ∧ rm_ag bb x.2.2 ∧ bl = nI (rm_pc (N x.1) (Z x.1))
theorem rm_RW_of {T C : Nat → Nat} {n : Nat} {D P : Nat → Nat} {N : Nat → Bool} {z : Nat} {s : (Nat → Int32) × (Nat → Nat)} {ro : Nat → Int32} (hz : z ≤ 3) (hs : rm_ps T C n D P N z = some s) (hro : ∀ j, j < rm_pc N z → ro j = nI (D j)) : rm_RW n (rm_pc N z) T s.2 ro := by
  obtain ⟨_, g2, g3⟩ := rm_ps_g z s hs
  refine ⟨Nat.le_trans (rm_pc_b _ _) hz, fun k _ => ⟨fun hk => ⟨D k, (g2 k hk).1, hro k hk, (g2 k hk).2⟩, fun hk => g3 k hk⟩⟩
section YC
variable {n m l : Nat} {T C Z Q g : Nat → Nat} {P : Nat → Nat → Nat} {N : Nat → Nat → Bool} {L : List rm_Fi}
variable {cn lt dr ru fi le br bl : Int32} {tg ty fd dp dn sz pa no ac fr ft ro bo sa mi be bt bb : Nat → Int32}
theorem ym_31 {post : Int32 → SY → Prop} {J : Int32 → Int32 → Int32 → Int32 → Int32 → Int32 → Int32 → Int32 → Int32 → Int32 → (Nat → Int32) → (Nat → Int32) → (Nat → Int32) → (Nat → Int32) → (Nat → Int32) → (Nat → Int32) → (Nat → Int32) → (Nat → Int32) → (Nat → Int32) → (Nat → Int32) → (Nat → Int32) → (Nat → Int32) → (Nat → Int32) → (Nat → Int32) → (Nat → Int32) → (Nat → Int32) → (Nat → Int32) → (Nat → Int32) → Prop} {r o : Nat} {b : Option rm_It}
    (H : rm_YH n m l T C Z Q P N L tg ty fd dp dn sz pa no ac fr ft) (hr : r < m)
    (hJ : ∀ le ro bo sa mi br bl be bt bb, rm_BY m Z N (rm_fc (rm_om T C n P N Z L r) b (12 ^ rm_pc (N r) (Z r))) br bl be bt bb → J (nI (o + rm_cn (fun c => (rm_om T C n P N Z L r c).isSome) (12 ^ rm_pc (N r) (Z r)))) (nI (r + 1)) (nI n) (nI l) (nI (Z m)) (nI m) (nI L.length) le br bl tg ty fd dp dn sz pa no ac fr ft ro bo sa mi be bt bb) :
    ∀ d i le ro bo sa mi br bl be bt bb, i + d = 12 ^ rm_pc (N r) (Z r) → rm_BY m Z N (rm_fc (rm_om T C n P N Z L r) b i) br bl be bt bb → wY_look_31 post J (nI r) (nI (12 ^ rm_pc (N r) (Z r))) (d + 1) (nI (o + rm_cn (fun c => (rm_om T C n P N Z L r c).isSome) i)) (nI i) (nI n) (nI l) (nI (Z m)) (nI m) (nI L.length) le br bl tg ty fd dp dn sz pa no ac fr ft ro bo sa mi be bt bb := by
  have hPE := H.2.2.1
  have hl := H.2.1
  have hPU := H.2.2.2.1
  have hn := H.1
  have hE := H.2.2.2.2.2.2.1
  have hm := hPU.1
  have hz := (hPU.2.1 r (by omega)).1
  obtain ⟨p1, p3⟩ := rm_pc_1 hPU hr
  have pb : 12 ^ rm_pc (N r) (Z r) ≤ 1728 := Nat.pow_le_pow_right (n := 12) (by omega) p3
  generalize hM : 12 ^ rm_pc (N r) (Z r) = M at *
  intro d
  induction d with
  | zero =>
    intro i le ro bo sa mi br bl be bt bb e hb
    have e2 : i = M := by omega
    subst e2
    exact br_t (nI_le (Nat.le_refl _) (by omega)) (nm_r (nI_1 r) (hJ le ro bo sa mi br bl be bt bb hb))
  | succ d ih =>
    intro i le ro bo sa mi br bl be bt bb e hb
    have nOm : rm_om T C n P N Z L r i = none → rm_cn (fun c => (rm_om T C n P N Z L r c).isSome) (i + 1) = rm_cn (fun c => (rm_om T C n P N Z L r c).isSome) i ∧ rm_fc (rm_om T C n P N Z L r) b (i + 1) = rm_fc (rm_om T C n P N Z L r) b i := by
      intro om
      constructor
      · show _ + (if (rm_om T C n P N Z L r i).isSome = true then 1 else 0) = _
        rw [om]; rfl
      · show rm_ub _ (rm_om T C n P N Z L r i) = _
        rw [om]; rfl
    refine br_f (nI_ge (by omega) (by omega)) (ym_im H hr (by omega) (fun ro1 bo1 sa1 hn => ?_) (fun ro1 bo1 sa1 s hs hbo hro => ?_))
    · obtain ⟨e3, e4⟩ := nOm (by unfold rm_om; rw [hn]; rfl)
      have := ih (i + 1) le ro1 bo1 sa1 mi br bl be bt bb (by omega) (by rw [e4]; exact hb)
      rw [e3] at this
      exact br_t rfl (nm_r (nI_1 i) this)
    · have gb := rm_gb hPE hl hs
      have W := rm_RW_of hz hs hro
      refine br_f (by decide) (ym_hf H W (by omega) gb (fun mem => ?_) (fun mem => ?_))
      · obtain ⟨e3, e4⟩ := nOm (by unfold rm_om; rw [hs]; exact if_pos mem)
        have := ih (i + 1) (nI (rm_pc (N r) (Z r))) ro1 bo1 sa1 mi br bl be bt bb (by omega) (by rw [e4]; exact hb)
        rw [e3] at this
        exact br_f (by decide) (nm_r (nI_1 i) this)
      · have om : rm_om T C n P N Z L r i = some (r, s.2, s.1) := by
          unfold rm_om; rw [hs]; exact if_neg mem
        have e3 : rm_cn (fun c => (rm_om T C n P N Z L r c).isSome) (i + 1) = rm_cn (fun c => (rm_om T C n P N Z L r c).isSome) i + 1 := by
          show _ + (if (rm_om T C n P N Z L r i).isSome = true then 1 else 0) = _
          rw [om]; rfl
        have fc1 : rm_fc (rm_om T C n P N Z L r) b (i + 1) = rm_ub (rm_fc (rm_om T C n P N Z L r) b i) (some (r, s.2, s.1)) := by
          show rm_ub _ (rm_om T C n P N Z L r i) = _
          rw [om]
        have ih2 := ih (i + 1)
        rw [e3, ← Nat.add_assoc] at ih2
        refine br_t rfl (nm_r (nI_1 _) (ym_so hn hE W gb (fun mi1 f0 f1 f2 => ?_)))
        have kp : rm_BY m Z N (rm_fc (rm_om T C n P N Z L r) b (i + 1)) = rm_BY m Z N (some (r, s.2, s.1)) → wY_look_77 post J (wY_look_31 post J (nI r) (nI M) (d + 1)) (nI (o + rm_cn (fun c => (rm_om T C n P N Z L r c).isSome) i + 1)) (nI r) (nI M) (nI i) (nI n) (nI l) (nI (Z m)) (nI m) (nI L.length) (nI (rm_pc (N r) (Z r))) br bl tg ty fd dp dn sz pa no ac fr ft ro1 bo1 sa1 mi1 be bt bb := by
          intro e2
          unfold wY_look_77
          refine ym_nt hn hE W (fun be' bt' bb' q1 q2 q3 => ?_)
          refine nm_r (nI_1 i) (ih2 (nI (rm_pc (N r) (Z r))) ro1 bo1 sa1 mi1 (nI r) (nI (rm_pc (N r) (Z r))) be' bt' bb' (by omega) ?_)
          rw [e2]
          exact ⟨rfl, hr, gb, q2, (q1 0 (by omega)).trans f0, (q1 1 (by omega)).trans f1, (q1 2 (by omega)).trans f2, fun j hj => (q3 j hj).trans (hbo j hj), rfl⟩
        cases hq : rm_fc (rm_om T C n P N Z L r) b i with
        | none =>
          rw [hq] at hb fc1
          have hb2 : br = -1 := hb
          subst hb2
          exact br_t (by decide) (kp (by rw [fc1]; rfl))
        | some y =>
          rw [hq] at hb fc1
          obtain ⟨b1, b2, b3, b4, b5, b6, b7, b8, b9⟩ := hb
          subst b1
          refine br_f (nI_pos (by omega)) (ym_bb hn hE W gb (b3 0) (b3 1) (b3 2) (by omega) (by omega) f0 f1 f2 b5 b6 b7 (b4 0 (by omega)) (b4 1 (by omega)) (b4 2 (by omega)) (fun kl => ?_) (fun kl => ?_))
          · exact br_f (by decide) (kp (by rw [fc1]; show rm_BY m Z N (if rm_ky y < rm_ky (r, s.2, s.1) then _ else _) = _; rw [if_pos (show rm_ky y < rm_ky (r, s.2, s.1) from kl)]))
          · refine br_t rfl (nm_r (nI_1 i) (ih2 (nI (rm_pc (N r) (Z r))) ro1 bo1 sa1 mi1 (nI y.1) bl be bt bb (by omega) ?_))
            rw [fc1]
            show rm_BY m Z N (if rm_ky y < rm_ky (r, s.2, s.1) then _ else _) _ _ _ _ _
            rw [if_neg (show ¬ rm_ky y < rm_ky (r, s.2, s.1) from kl)]
            exact ⟨rfl, b2, b3, b4, b5, b6, b7, b8, b9⟩
theorem ym_lo {post : Int32 → SY → Prop} (H : rm_YH n m l T C Z Q P N L tg ty fd dp dn sz pa no ac fr ft)
    (h : ∀ le ro bo sa mi br bl be bt bb, rm_BY m Z N (rm_fr (rm_om T C n P N Z L) (fun r => 12 ^ rm_pc (N r) (Z r)) m) br bl be bt bb → post (nI (rm_oc (rm_om T C n P N Z L) (fun r => 12 ^ rm_pc (N r) (Z r)) m)) (nI n, nI l, nI (Z m), nI m, nI L.length, le, br, bl, tg, ty, fd, dp, dn, sz, pa, no, ac, fr, ft, ro, bo, sa, mi, be, bt, bb)) : wpY_look post (nI n, nI l, nI (Z m), nI m, nI L.length, le, br, bl, tg, ty, fd, dp, dn, sz, pa, no, ac, fr, ft, ro, bo, sa, mi, be, bt, bb) := by
  have hm := H.2.2.2.1.1
  have go : ∀ d r le ro bo sa mi br bl be bt bb, r + d = m → rm_BY m Z N (rm_fr (rm_om T C n P N Z L) (fun r => 12 ^ rm_pc (N r) (Z r)) r) br bl be bt bb → wY_look_9 post (d + 1) (nI (rm_oc (rm_om T C n P N Z L) (fun r => 12 ^ rm_pc (N r) (Z r)) r)) (nI r) (nI n) (nI l) (nI (Z m)) (nI m) (nI L.length) le br bl tg ty fd dp dn sz pa no ac fr ft ro bo sa mi be bt bb := by
    intro d
    induction d with
    | zero =>
      intro r le ro bo sa mi br bl be bt bb e hb
      have e2 : r = m := by omega
      subst e2
      exact br_t (nI_le (Nat.le_refl _) (by omega)) (h le ro bo sa mi br bl be bt bb hb)
    | succ d ih =>
      intro r le ro bo sa mi br bl be bt bb e hb
      refine br_f (nI_ge (by omega) (by omega)) (br_f (nI_ge (b := 5) (by omega) (by omega)) (ym_ro H (by omega) ?_))
      exact ⟨12 ^ rm_pc (N r) (Z r) + 1, ym_31 (o := rm_oc (rm_om T C n P N Z L) (fun r => 12 ^ rm_pc (N r) (Z r)) r) (b := rm_fr (rm_om T C n P N Z L) (fun r => 12 ^ rm_pc (N r) (Z r)) r) H (by omega) (fun le1 ro1 bo1 sa1 mi1 br1 bl1 be1 bt1 bb1 hb1 => ih (r + 1) le1 ro1 bo1 sa1 mi1 br1 bl1 be1 bt1 bb1 (by omega) hb1) (12 ^ rm_pc (N r) (Z r)) 0 le ro bo sa mi br bl be bt bb (by omega) hb⟩
  exact ⟨m + 1, go m 0 le ro bo sa mi (-1) bl be bt bb (by omega) rfl⟩
theorem ym_ma {post : Int32 → SY → Prop} {r : Nat} (H : rm_YH n m l T C Z Q P N L tg ty fd dp dn sz pa no ac fr ft) (hr : r < m)
    (h : ∀ le ro bo sa, post (nI (rm_cn (fun c => (rm_ps T C n (rm_D c) (P r) (N r) (Z r)).isSome) (12 ^ rm_pc (N r) (Z r)))) (nI n, nI l, nI (Z m), nI m, nI L.length, le, br, bl, tg, ty, fd, dp, dn, sz, pa, no, ac, fr, ft, ro, bo, sa, mi, be, bt, bb)) : wpY_matches post (nI n, nI l, nI (Z m), nI m, nI L.length, le, br, bl, tg, ty, fd, dp, dn, sz, pa, no, ac, fr, ft, ro, bo, sa, mi, be, bt, bb) (nI r) := by
  have hPU := H.2.2.2.1
  have hm := hPU.1
  obtain ⟨p1, p3⟩ := rm_pc_1 hPU hr
  have pb : 12 ^ rm_pc (N r) (Z r) ≤ 1728 := Nat.pow_le_pow_right (n := 12) (by omega) p3
  have go : ∀ d i le ro bo sa, i + d = 12 ^ rm_pc (N r) (Z r) → wY_matches_30 post (nI r) (nI (12 ^ rm_pc (N r) (Z r))) (d + 1) (nI (rm_cn (fun c => (rm_ps T C n (rm_D c) (P r) (N r) (Z r)).isSome) i)) (nI i) (nI n) (nI l) (nI (Z m)) (nI m) (nI L.length) le br bl tg ty fd dp dn sz pa no ac fr ft ro bo sa mi be bt bb := by
    generalize 12 ^ rm_pc (N r) (Z r) = M at *
    intro d
    induction d with
    | zero =>
      intro i le ro bo sa e
      have e2 : i = M := by omega
      subst e2
      exact br_t (nI_le (Nat.le_refl _) (by omega)) (h le ro bo sa)
    | succ d ih =>
      intro i le ro bo sa e
      refine br_f (nI_ge (by omega) (by omega)) (ym_im H hr (by omega) (fun ro1 bo1 sa1 hn => ?_) (fun ro1 bo1 sa1 s hs _ _ => ?_))
      · have e3 : rm_cn (fun c => (rm_ps T C n (rm_D c) (P r) (N r) (Z r)).isSome) (i + 1) = rm_cn (fun c => (rm_ps T C n (rm_D c) (P r) (N r) (Z r)).isSome) i := by
          show _ + (if (rm_ps T C n (rm_D i) (P r) (N r) (Z r)).isSome = true then 1 else 0) = _
          rw [hn]; rfl
        have := ih (i + 1) le ro1 bo1 sa1 (by omega)
        rw [e3] at this
        exact br_t rfl (nm_r (nI_1 i) this)
      · have e3 : rm_cn (fun c => (rm_ps T C n (rm_D c) (P r) (N r) (Z r)).isSome) (i + 1) = rm_cn (fun c => (rm_ps T C n (rm_D c) (P r) (N r) (Z r)).isSome) i + 1 := by
          show _ + (if (rm_ps T C n (rm_D i) (P r) (N r) (Z r)).isSome = true then 1 else 0) = _
          rw [hs]; rfl
        have := ih (i + 1) (nI (rm_pc (N r) (Z r))) ro1 bo1 sa1 (by omega)
        rw [e3] at this
        exact br_f (by decide) (nm_r (nI_1 _) (nm_r (nI_1 i) this))
  refine br_f (nI_pos (by omega)) (br_f (nI_ge hr (by omega)) (br_t (nI_le (b := 4) (by omega) (by omega)) (ym_ro H hr ?_)))
  exact ⟨12 ^ rm_pc (N r) (Z r) + 1, go (12 ^ rm_pc (N r) (Z r)) 0 le ro bo sa (by omega)⟩
theorem ym_ft {post : Int32 → SY → Prop} {p : Nat} (hp : p < 32000) (hn : n ≤ 12) (hE : rm_YE n T C tg ty fd) (hC : ∀ i, i < n → C i < 16384)
    (h : ∀ bo sa, post (nI (rm_cn (rm_fits (fun _ => -1) p C) n)) (nI n, nI l, nI (Z m), nI m, nI L.length, le, br, bl, tg, ty, fd, dp, dn, sz, pa, no, ac, fr, ft, ro, bo, sa, mi, be, bt, bb)) : ∃ k, wY_fitting_12 post (nI p) (nI n) (nI l) (nI (Z m)) (nI m) (nI L.length) le br bl k 0 tg ty fd dp dn sz pa no ac fr ft ro bo sa mi be bt bb := by
  have go : ∀ d i bo sa, i + d = n → rm_ag bo (fun _ => -1) → wY_fitting_34 post (nI p) (d + 1) (nI (rm_cn (rm_fits (fun _ => -1) p C) i)) (nI i) (nI n) (nI l) (nI (Z m)) (nI m) (nI L.length) le br bl tg ty fd dp dn sz pa no ac fr ft ro bo sa mi be bt bb := by
    intro d
    induction d with
    | zero =>
      intro i bo sa e hb
      have e2 : i = n := by omega
      subst e2
      exact br_t (nI_le (Nat.le_refl _) (by omega)) (h bo sa)
    | succ d ih =>
      intro i bo sa e hb
      refine br_f (nI_ge (by omega) (by omega)) (br_f (nI_ge (b := 12) (by omega) (by omega)) (ym_fits (kp := 0) hb rm_va_0 hp (hC i (by omega)) (by omega) (hE i (by omega)).2.1 (hE i (by omega)).2.2 (fun bo' sa' s hb' => ?_) (fun bo' sa' B s hb' _ => ?_) _ _ rfl rfl))
      · have e3 : rm_cn (rm_fits (fun _ => -1) p C) (i + 1) = rm_cn (rm_fits (fun _ => -1) p C) i := by
          have z : rm_fits (fun _ => -1) p C i = false := by unfold rm_fits; rw [s]; rfl
          show _ + (if rm_fits (fun _ => -1) p C i = true then 1 else 0) = _
          rw [z]; rfl
        have := ih (i + 1) bo' sa' (by omega) hb'
        rw [e3] at this
        exact br_t rfl (nm_r (nI_1 i) this)
      · have e3 : rm_cn (rm_fits (fun _ => -1) p C) (i + 1) = rm_cn (rm_fits (fun _ => -1) p C) i + 1 := by
          have z : rm_fits (fun _ => -1) p C i = true := by unfold rm_fits; rw [s]; rfl
          show _ + (if rm_fits (fun _ => -1) p C i = true then 1 else 0) = _
          rw [z]; rfl
        have := ih (i + 1) bo' sa' (by omega) (hb' rfl)
        rw [e3] at this
        exact br_f (by decide) (nm_r (nI_1 _) (nm_r (nI_1 i) this))
  refine ⟨0 + 1 + 1 + 1 + 1, br_f rm_q0 ⟨rm_v0, nm_r (e' := upd bo 0 (-1)) (by rw [rm_c0]) (nm_r rm_01 (br_f rm_q1 ⟨rm_v1, nm_r (e' := upd (upd bo 0 (-1)) 1 (-1)) (by rw [rm_c1]) (nm_r rm_12 (br_f rm_q2 ⟨rm_v2, nm_r (e' := rm_u3 bo (-1) (-1) (-1)) (by rw [rm_c2]; rfl) (nm_r rm_23 (br_t rm_q3 ⟨n + 1, ?_⟩))⟩))⟩))⟩⟩
  exact go n 0 (rm_u3 bo (-1) (-1) (-1)) sa (by omega) (rm_u3_ag rfl rfl rfl)
end YC
