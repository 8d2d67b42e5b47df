theorem rm_YE_mk {n l y f : Nat} {T C : Nat → Nat} {tg ty fd : Nat → Int32} (hf : f < 4096) (h : rm_YE n T C tg ty fd) : rm_YE (n + 1) (rm_w T n (l + 1)) (rm_w C n (4096 * y + f)) (upd tg n (nI (l + 1))) (upd ty n (nI y)) (upd fd n (nI f)) := by
  intro i hi
  by_cases z : i = n
  · rw [z, pk_us, pk_us, pk_us, rm_w_s, rm_w_s]
    exact ⟨rfl, congrArg nI (by omega), congrArg nI (by omega)⟩
  · rw [pk_un z, pk_un z, pk_un z, rm_w_n z, rm_w_n z]
    exact h i (by omega)
def rm_sh (i e j : Nat) : Nat := if j < i then j else if j < e then j + 1 else j
section YD
variable {n m l : Nat} {T C Z Q g : Nat → Nat} {P : Nat → Nat → Nat} {N : Nat → Nat → Bool} {L : List rm_Fi}
variable {cn lt dr ru fi le br bl : Int32} {tg ty fd dp dn sz pa no ac fr ft ro bo sa mi be bt bb : Nat → Int32}
theorem ym_fi {post : Int32 → Prop} {q : Int32} (hn : n ≤ 12) (hT : ∀ i, i < n → tg i = nI (T i)) (h1 : ∀ i, i < n → nI (T i) = q → post (nI i)) (h0 : (∀ i, i < n → ¬ nI (T i) = q) → post (-1)) : wpY_find post (nI n, lt, dr, ru, fi, le, br, bl, tg, ty, fd, dp, dn, sz, pa, no, ac, fr, ft, ro, bo, sa, mi, be, bt, bb) q := by
  have go : ∀ d i, i + d = n → (∀ j, j < i → ¬ nI (T j) = q) → wY_find_2 post q (nI n) lt dr ru fi le br bl tg ty fd dp dn sz pa no ac fr ft ro bo sa mi be bt bb (d + 1) (nI i) := by
    intro d
    induction d with
    | zero =>
      intro i e hj
      exact br_t (nI_le (by omega) (by omega)) (h0 (fun j hj2 => hj j (by omega)))
    | succ d ih =>
      intro i e hj
      have ci : (nI i).toNatClampNeg = i := nI_clamp (by omega)
      refine br_f (nI_ge (by omega) (by omega)) (br_f (nI_ge (b := 12) (by omega) (by omega)) ⟨vp_in_nI (by omega) (by omega), ?_⟩)
      by_cases z : nI (T i) = q
      · exact br_t (by rw [ci, hT i (by omega)]; exact z) (h1 i (by omega) z)
      · exact br_f (by rw [ci, hT i (by omega)]; exact z) (nm_r (nI_1 i) (ih (i + 1) (by omega) (fun j hj2 => by
          by_cases y : j = i
          · rw [y]; exact z
          · exact hj j (by omega))))
  have := go n 0 (by omega) (fun j hj => absurd hj (Nat.not_lt_zero j))
  exact ⟨n + 1, this⟩
theorem ym_dr {post : SY → Prop} {i : Nat} (hn : n + 1 ≤ 12) (hi : i < n + 1) (hE : rm_YE (n + 1) T C tg ty fd)
    (h : ∀ tg' ty' fd', rm_YE n (rm_dy T i) (rm_dy C i) tg' ty' fd' → post (nI n, lt, dr, ru, fi, le, br, bl, tg', ty', fd', dp, dn, sz, pa, no, ac, fr, ft, ro, bo, sa, mi, be, bt, bb)) : wpY_drop post (nI (n + 1), lt, dr, ru, fi, le, br, bl, tg, ty, fd, dp, dn, sz, pa, no, ac, fr, ft, ro, bo, sa, mi, be, bt, bb) (nI i) := by
  have pr := nI_pred n
  have go : ∀ d e tg ty fd, e + d = n → i ≤ e → rm_YE (n + 1) (fun j => T (rm_sh i e j)) (fun j => C (rm_sh i e j)) tg ty fd → wY_drop_2 post (nI (n + 1)) lt dr ru fi le br bl (d + 1) (nI e) tg ty fd dp dn sz pa no ac fr ft ro bo sa mi be bt bb := by
    intro d
    induction d with
    | zero =>
      intro e tg ty fd he hie hY
      have e2 : e = n := by omega
      subst e2
      refine br_t (by rw [pr]; exact nI_le (Nat.le_refl _) (by omega)) (nm_r pr (h tg ty fd (fun j hj => ?_)))
      have := hY j (by omega)
      have q : rm_sh i e j = if j < i then j else j + 1 := by
        unfold rm_sh
        by_cases z : j < i
        · rw [if_pos z, if_pos z]
        · rw [if_neg z, if_neg z, if_pos hj]
      unfold rm_dy
      by_cases z : j < i
      · rw [if_pos z] at q
        rw [if_pos z, if_pos z]
        simp only [q] at this
        exact this
      · rw [if_neg z] at q
        rw [if_neg z, if_neg z]
        simp only [q] at this
        exact this
    | succ d ih =>
      intro e tg ty fd he hie hY
      have ce : (nI e).toNatClampNeg = e := nI_clamp (by omega)
      have ce1 : (nI e + 1).toNatClampNeg = e + 1 := by rw [nI_1]; exact nI_clamp (by omega)
      have w : vp_in (nI e) 12 := vp_in_nI (by omega) (by omega)
      have w1 : vp_in (nI e + 1) 12 := by rw [nI_1]; exact vp_in_nI (by omega) (by omega)
      have := ih (e + 1) (upd tg e (tg (e + 1))) (upd ty e (ty (e + 1))) (upd fd e (fd (e + 1))) (by omega) (by omega) (fun j hj => by
        by_cases z : j = e
        · have a := hY (e + 1) (by omega)
          have q1 : rm_sh i e (e + 1) = e + 1 := by
            unfold rm_sh
            rw [if_neg (by omega), if_neg (by omega)]
          have q2 : rm_sh i (e + 1) e = e + 1 := by
            unfold rm_sh
            rw [if_neg (by omega), if_pos (by omega)]
          simp only [q1] at a
          rw [z, pk_us, pk_us, pk_us]
          simp only [q2]
          exact a
        · have a := hY j hj
          have q1 : rm_sh i (e + 1) j = rm_sh i e j := by
            unfold rm_sh
            by_cases y : j < i
            · rw [if_pos y, if_pos y]
            · rw [if_neg y, if_neg y]
              by_cases x : j < e
              · rw [if_pos x, if_pos (by omega)]
              · rw [if_neg x, if_neg (by omega)]
          rw [pk_un z, pk_un z, pk_un z]
          simp only [q1]
          exact a)
      exact br_f (by rw [pr]; exact nI_ge (by omega) (by omega)) (br_f (nI_ge (b := 11) (by omega) (by omega)) ⟨w1, w, nm_r (e' := upd tg e (tg (e + 1))) (by rw [ce, ce1]) ⟨w1, w, nm_r (e' := upd ty e (ty (e + 1))) (by rw [ce, ce1]) ⟨w1, w, nm_r (e' := upd fd e (fd (e + 1))) (by rw [ce, ce1]) (nm_r (nI_1 e) this)⟩⟩⟩)
  refine ⟨n - i + 1, go (n - i) i tg ty fd (by omega) (Nat.le_refl _) (fun j hj => ?_)⟩
  have q : rm_sh i i j = j := by
    unfold rm_sh
    by_cases z : j < i
    · rw [if_pos z]
    · rw [if_neg z, if_neg z]
  simp only [q]
  exact hE j hj
theorem ym_ad {post : Int32 → SY → Prop} {y f : Nat} (hn : n ≤ 12)
    (h : n < 12 → post (nI (l + 1)) (nI (n + 1), nI (l + 1), dr, ru, fi, le, br, bl, upd tg n (nI (l + 1)), upd ty n (nI y), upd fd n (nI f), dp, dn, sz, pa, no, ac, fr, ft, ro, bo, sa, mi, be, bt, bb)) (h0 : ¬ n < 12 → post (-3) (nI n, nI l, dr, ru, fi, le, br, bl, tg, ty, fd, dp, dn, sz, pa, no, ac, fr, ft, ro, bo, sa, mi, be, bt, bb)) :
    ∀ q1 q2 : Int32, q1 = nI y → q2 = nI f → wpY_add post (nI n, nI l, dr, ru, fi, le, br, bl, tg, ty, fd, dp, dn, sz, pa, no, ac, fr, ft, ro, bo, sa, mi, be, bt, bb) q1 q2 := by
  intro q1 q2 e1 e2
  subst e1 e2
  by_cases z : n < 12
  · have w : vp_in (nI n) 12 := vp_in_nI z (by omega)
    have c : (nI n).toNatClampNeg = n := nI_clamp (by omega)
    exact br_t (nI_le (b := 11) (by omega) (by omega)) (nm_r (nI_1 l) ⟨w, nm_r (e' := upd tg n (nI (l + 1))) (by rw [c]) ⟨w, nm_r (e' := upd ty n (nI y)) (by rw [c]) ⟨w, nm_r (e' := upd fd n (nI f)) (by rw [c]) (nm_r (nI_1 n) (h z))⟩⟩⟩)
  · exact br_f (nI_ge (a := 11) (by omega) (by omega)) (h0 z)
theorem ym_83 {post : SY → Prop} {J : rm_YJ2} {i k : Nat} (hi : i < 64) (hk : k ≤ i)
    (h : ∀ ft', ft' (3 * k) = ft (3 * i) → ft' (3 * k + 1) = ft (3 * i + 1) → ft' (3 * k + 2) = ft (3 * i + 2) → (∀ j, j < 3 * k ∨ 3 * k + 3 ≤ j → ft' j = ft j) → J (nI (k + 1)) (nI (i + 1)) tg ty fd dp dn sz pa no ac fr ft' ro bo sa mi be bt bb) :
    ∃ f, wY_forget_83 post J (nI k) (nI i) cn lt dr ru fi le br bl f 0 tg ty fd dp dn sz pa no ac fr ft ro bo sa mi be bt bb := by
  have a0 : vp_in (3 * nI i + 0) 192 := by rw [rm_i0]; exact vp_in_nI (by omega) (by omega)
  have a1 : vp_in (3 * nI i + 1) 192 := by rw [rm_i1']; exact vp_in_nI (by omega) (by omega)
  have a2 : vp_in (3 * nI i + 2) 192 := by rw [rm_i2']; exact vp_in_nI (by omega) (by omega)
  have b0 : vp_in (3 * nI k + 0) 192 := by rw [rm_i0]; exact vp_in_nI (by omega) (by omega)
  have b1 : vp_in (3 * nI k + 1) 192 := by rw [rm_i1']; exact vp_in_nI (by omega) (by omega)
  have b2 : vp_in (3 * nI k + 2) 192 := by rw [rm_i2']; exact vp_in_nI (by omega) (by omega)
  have c0 : (3 * nI i + 0).toNatClampNeg = 3 * i := by rw [rm_i0]; exact nI_clamp (by omega)
  have c1 : (3 * nI i + 1).toNatClampNeg = 3 * i + 1 := by rw [rm_i1']; exact nI_clamp (by omega)
  have c2 : (3 * nI i + 2).toNatClampNeg = 3 * i + 2 := by rw [rm_i2']; exact nI_clamp (by omega)
  have d0 : (3 * nI k + 0).toNatClampNeg = 3 * k := by rw [rm_i0]; exact nI_clamp (by omega)
  have d1 : (3 * nI k + 1).toNatClampNeg = 3 * k + 1 := by rw [rm_i1']; exact nI_clamp (by omega)
  have d2 : (3 * nI k + 2).toNatClampNeg = 3 * k + 2 := by rw [rm_i2']; exact nI_clamp (by omega)
  have u1 : upd ft (3 * k) (ft (3 * i)) (3 * i + 1) = ft (3 * i + 1) := pk_un (by omega)
  have u2 : upd (upd ft (3 * k) (ft (3 * i))) (3 * k + 1) (ft (3 * i + 1)) (3 * i + 2) = ft (3 * i + 2) := by
    rw [pk_un (by omega), pk_un (by omega)]
  refine ⟨0 + 1 + 1 + 1 + 1, br_f rm_q0 ⟨a0, b0, nm_r (e' := upd ft (3 * k) (ft (3 * i))) (by rw [c0, d0]) (nm_r rm_01 (br_f rm_q1 ⟨a1, b1, nm_r (e' := upd (upd ft (3 * k) (ft (3 * i))) (3 * k + 1) (ft (3 * i + 1))) (by rw [c1, d1, u1]) (nm_r rm_12 (br_f rm_q2 ⟨a2, b2, nm_r (e' := upd (upd (upd ft (3 * k) (ft (3 * i))) (3 * k + 1) (ft (3 * i + 1))) (3 * k + 2) (ft (3 * i + 2))) (by rw [c2, d2, u2]) (nm_r rm_23 (br_t rm_q3 (nm_r (nI_1 k) (nm_r (nI_1 i) ?_))))⟩))⟩))⟩⟩
  refine h _ ?_ ?_ pk_us (fun j hj => ?_)
  · rw [pk_un (by omega), pk_un (by omega), pk_us]
  · rw [pk_un (by omega), pk_us]
  · rw [pk_un (by omega), pk_un (by omega), pk_un (by omega)]
theorem ym_23 {post : SY → Prop} {J : rm_YJ2} {x1 : Int32} {i j k t : Nat} {b : Bool} (hn : n ≤ 12) (hT : ∀ i, i < n → tg i = nI (T i)) (hb : ∀ i, i < n → T i < 1048576) (hi : i < 64) (hj : j < 3) (ht : ft (3 * i + j) = nI t) (bt1 : t < 1048576)
    (h : wY_forget_23 post J x1 (nI i) (nI n) lt dr ru fi le br bl tg ty fd dp dn sz pa no ac fr ft ro bo sa mi be bt bb k (rm_bI (b && rm_e1 T n t)) (nI (j + 1))) : wY_forget_23 post J x1 (nI i) (nI n) lt dr ru fi le br bl tg ty fd dp dn sz pa no ac fr ft ro bo sa mi be bt bb (k + 1) (rm_bI b) (nI j) := by
  have i3 := rm_3 i j
  have c3 : (3 * nI i + nI j).toNatClampNeg = 3 * i + j := by rw [i3]; exact nI_clamp (by omega)
  have w : vp_in (3 * nI i + nI j) 192 := by rw [i3]; exact vp_in_nI (by omega) (by omega)
  refine br_f (nI_ge (b := 3) hj (by omega)) ⟨w, nm_r (e' := nI t) (by rw [c3]; exact ht) ?_⟩
  by_cases t0 : t = 0
  · have e : (b && rm_e1 T n t) = b := by
      have : rm_e1 T n t = true := rm_e1_i.mpr (Or.inl t0)
      rw [this, Bool.and_true]
    rw [e] at h
    exact br_t (by rw [t0]; decide) (nm_r (nI_1 j) h)
  · refine br_f (nI_nle (by omega) (by omega)) (ym_fi hn hT (fun d hd z => ?_) (fun z => ?_))
    · have e : (b && rm_e1 T n t) = b := by
        have : rm_e1 T n t = true := rm_e1_i.mpr (Or.inr ⟨d, hd, (nI_eq (by have := hb d hd; omega) (by omega)).mp z⟩)
        rw [this, Bool.and_true]
      rw [e] at h
      exact br_t (nI_pos' (by omega)) (nm_r (nI_1 j) h)
    · have e : (b && rm_e1 T n t) = false := by
        have : rm_e1 T n t = false := by
          cases q : rm_e1 T n t
          · rfl
          · rcases rm_e1_i.mp q with y | ⟨d, hd, y⟩
            · exact absurd y t0
            · exact absurd (by rw [y]) (z d hd)
        rw [this, Bool.and_false]
      rw [e] at h
      exact br_f (by decide) (nm_r (nI_1 j) h)
theorem ym_fo {post : SY → Prop} (hn : n ≤ 12) (hT : ∀ i, i < n → tg i = nI (T i)) (hb : ∀ i, i < n → T i < 1048576) (hl : L.length ≤ 40) (hLB : rm_LB L) (hF : rm_Fl fr ft L)
    (h : ∀ fr' ft', rm_Fl fr' ft' (L.filter (rm_al T n)) → post (nI n, lt, dr, ru, nI (L.filter (rm_al T n)).length, le, br, bl, tg, ty, fd, dp, dn, sz, pa, no, ac, fr', ft', ro, bo, sa, mi, be, bt, bb)) :
    wpY_forget post (nI n, lt, dr, ru, nI L.length, le, br, bl, tg, ty, fd, dp, dn, sz, pa, no, ac, fr, ft, ro, bo, sa, mi, be, bt, bb) := by
  have go : ∀ d i fr ft, i + d = L.length → rm_Cp fr ft L (rm_al T n) i → wY_forget_4 post (nI n) lt dr ru (nI L.length) le br bl (d + 1) (nI ((L.take i).filter (rm_al T n)).length) (nI i) tg ty fd dp dn sz pa no ac fr ft ro bo sa mi be bt bb := by
    intro d
    induction d with
    | zero =>
      intro i fr ft e hc
      have e2 : i = L.length := by omega
      subst e2
      have := h fr ft (rm_Cp_e hc)
      rw [List.take_length]
      exact br_t (nI_le (Nat.le_refl _) (by omega)) this
    | succ d ih =>
      intro i fr ft e hc
      obtain ⟨x, hx⟩ := rm_get (L := L) (i := i) (by omega)
      obtain ⟨e0, e1, e2, e3⟩ := hc.2 i x (Nat.le_refl i) hx
      obtain ⟨b0, b1, b2, b3⟩ := hLB x (List.mem_of_getElem? hx)
      have wi : vp_in (nI i) 64 := vp_in_nI (by omega) (by omega)
      have ci : (nI i).toNatClampNeg = i := nI_clamp (by omega)
      have kl := rm_kl (L := L) (q := rm_al T n) (i := i)
      refine br_f (nI_ge (by omega) (by omega)) (br_f (nI_ge (b := 64) (by omega) (by omega)) ⟨0 + 1 + 1 + 1 + 1, ?_⟩)
      refine ym_23 (b := true) (j := 0) hn hT hb (by omega) (by omega) e1 b1 ?_
      refine ym_23 (j := 1) hn hT hb (by omega) (by omega) e2 b2 ?_
      refine ym_23 (j := 2) hn hT hb (by omega) (by omega) e3 b3 ?_
      have ea : (((true && rm_e1 T n x.2.1) && rm_e1 T n x.2.2.1) && rm_e1 T n x.2.2.2) = rm_al T n x := by
        unfold rm_al
        rw [Bool.true_and, Bool.and_assoc]
      rw [ea]
      refine br_t (by decide) ?_
      cases q : rm_al T n x with
      | true =>
        have wk : vp_in (nI ((L.take i).filter (rm_al T n)).length) 64 := vp_in_nI (by omega) (by omega)
        have ck : (nI ((L.take i).filter (rm_al T n)).length).toNatClampNeg = ((L.take i).filter (rm_al T n)).length := nI_clamp (by omega)
        refine br_f (by decide) ⟨wi, wk, nm_r (e' := upd fr ((L.take i).filter (rm_al T n)).length (fr i)) (by rw [ci, ck]) (ym_83 (by omega) kl (fun ft' h1 h2 h3 h5 => ?_))⟩
        obtain ⟨c1, c2⟩ := rm_Cp_k (fr' := upd fr ((L.take i).filter (rm_al T n)).length (fr i)) hc hx q rfl pk_us h1 h2 h3 (fun j hj => pk_un hj) h5
        have := ih (i + 1) _ ft' (by omega) c1
        rw [c2] at this
        exact this
      | false =>
        obtain ⟨c1, c2⟩ := rm_Cp_d hc hx q
        have := ih (i + 1) fr ft (by omega) c1
        rw [c2] at this
        exact br_t rfl (nm_r (nI_1 i) this)
  have := go L.length 0 fr ft (by omega) (rm_Cp_0 hF)
  exact ⟨L.length + 1, this⟩
theorem ym_md {post : Int32 → Prop} {A : Nat → Int32} {e : Nat} (he : e < 20) (hv : rm_ag bb A) (hV : rm_va A) (h : post (nI (rm_fv A e))) : wpY_made post (cn, lt, dr, ru, fi, le, br, bl, tg, ty, fd, dp, dn, sz, pa, no, ac, fr, ft, ro, bo, sa, mi, be, bt, bb) (nI e) := by
  unfold rm_fv at h
  by_cases a1 : e < 16
  · rw [if_pos a1] at h
    exact br_f (nI_ge (b := 16) a1 (by omega)) h
  · rw [if_neg a1] at h
    refine br_t (nI_le (a := 16) (by omega) (by omega)) ?_
    by_cases a2 : e = 16
    · rw [if_pos a2] at h
      exact br_t (by rw [a2]; rfl) h
    · rw [if_neg a2] at h
      obtain ⟨v, rfl⟩ : ∃ v, e = 17 + v := ⟨e - 17, by omega⟩
      rw [Nat.add_sub_cancel_left] at h
      have hv3 : v < 3 := by omega
      have e17 := ym_17 (v := v)
      have w : vp_in (nI (17 + v) - 17) 3 := by rw [e17]; exact vp_in_nI hv3 (by omega)
      have cv : bb (nI (17 + v) - 17).toNatClampNeg = A v := by rw [e17, nI_clamp (by omega)]; exact hv v hv3
      refine br_f (fun z => a2 ((nI_eq (a := 17 + v) (b := 16) (by omega) (by omega)).mp z)) ⟨w, ?_⟩
      rcases hV v with y | ⟨f, hf, y⟩
      · rw [if_pos y] at h
        exact br_f (by rw [cv, y]; decide) h
      · rw [if_neg (by rw [y]; exact rm_nm1 (by omega)), y, nI_clamp (by omega)] at h
        exact br_t (by rw [cv, y]; exact nI_pos' (by omega)) ⟨w, by rw [cv, y]; exact h⟩
end YD
