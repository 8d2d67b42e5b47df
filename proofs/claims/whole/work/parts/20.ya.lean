theorem rm_d8 {p : Nat} (hp : p < 32000) : nI p / 8000 = nI (p / 8000) := pk_div (d := 8000) (by omega) (by omega) (by omega)
section YA
variable {n m l : Nat} {T C Z Q : Nat → Nat} {P : Nat → Nat → Nat} {N : Nat → Nat → Bool} {L : List rm_Fi}
variable {cn lt dr ru fi le br bl : Int32} {tg ty fd dp dn sz pa no ac fr ft ro bo sa mi be bt bb : Nat → Int32}
theorem ym_e0 {post : Int32 → Prop} {p : Nat} (hp : p < 32000) (h : post (nI (p / 400 % 20))) : wpY_entry post (cn, lt, dr, ru, fi, le, br, bl, tg, ty, fd, dp, dn, sz, pa, no, ac, fr, ft, ro, bo, sa, mi, be, bt, bb) (nI p) 0 := by
  have e : (nI p - nI p / 8000 * 8000) / 400 = nI (p / 400 % 20) := by
    have a : nI p - nI p / 8000 * 8000 = nI (p % 8000) := pk_rem (d := 8000) (by omega) (by omega) (by omega)
    have b : nI (p % 8000) / 400 = nI (p % 8000 / 400) := pk_div (d := 400) (by omega) (by omega) (by omega)
    have c : p % 8000 / 400 = p / 400 % 20 := by omega
    rw [a, b, c]
  exact br_t rfl ⟨by decide, by decide, by rw [e]; exact h⟩
theorem ym_e1 {post : Int32 → Prop} {p : Nat} (hp : p < 32000) (h : post (nI (p / 20 % 20))) : wpY_entry post (cn, lt, dr, ru, fi, le, br, bl, tg, ty, fd, dp, dn, sz, pa, no, ac, fr, ft, ro, bo, sa, mi, be, bt, bb) (nI p) 1 := by
  have e : (nI p - nI p / 400 * 400) / 20 = nI (p / 20 % 20) := by
    have a : nI p - nI p / 400 * 400 = nI (p % 400) := pk_rem (d := 400) (by omega) (by omega) (by omega)
    have b : nI (p % 400) / 20 = nI (p % 400 / 20) := pk_div (d := 20) (by omega) (by omega) (by omega)
    have c : p % 400 / 20 = p / 20 % 20 := by omega
    rw [a, b, c]
  exact br_f (by decide) (br_t rfl ⟨by decide, by decide, by rw [e]; exact h⟩)
theorem ym_e2 {post : Int32 → Prop} {p : Nat} (hp : p < 32000) (h : post (nI (p % 20))) : wpY_entry post (cn, lt, dr, ru, fi, le, br, bl, tg, ty, fd, dp, dn, sz, pa, no, ac, fr, ft, ro, bo, sa, mi, be, bt, bb) (nI p) 2 := by
  have e : nI p - nI p / 20 * 20 = nI (p % 20) := pk_rem (d := 20) (by omega) (by omega) (by omega)
  exact br_f (by decide) (br_f (by decide) ⟨by decide, by rw [e]; exact h⟩)
theorem ym_f0 {post : Int32 → Prop} {c i : Nat} (hc : c < 16384) (hi : i < 12) (hf : fd i = nI (c % 4096)) (h : post (nI (c / 256 % 16))) : wpY_field post (cn, lt, dr, ru, fi, le, br, bl, tg, ty, fd, dp, dn, sz, pa, no, ac, fr, ft, ro, bo, sa, mi, be, bt, bb) (nI i) 0 := by
  have ci : (nI i).toNatClampNeg = i := nI_clamp (by omega)
  have e : (fd (nI i).toNatClampNeg >>> ((8 - 4 * (0 : Int32)) &&& 31)) &&& 15 = nI (c / 256 % 16) := by
    rw [ci, hf, pk_shrN (by omega) _ 8 (by decide), pk_andN (Nat.lt_of_le_of_lt (Nat.div_le_self _ _) (by omega)) 4 (by decide)]
    exact congrArg nI (by omega)
  exact ⟨vp_in_nI hi (by omega), by rw [e]; exact h⟩
theorem ym_f1 {post : Int32 → Prop} {c i : Nat} (hc : c < 16384) (hi : i < 12) (hf : fd i = nI (c % 4096)) (h : post (nI (c / 16 % 16))) : wpY_field post (cn, lt, dr, ru, fi, le, br, bl, tg, ty, fd, dp, dn, sz, pa, no, ac, fr, ft, ro, bo, sa, mi, be, bt, bb) (nI i) 1 := by
  have ci : (nI i).toNatClampNeg = i := nI_clamp (by omega)
  have e : (fd (nI i).toNatClampNeg >>> ((8 - 4 * (1 : Int32)) &&& 31)) &&& 15 = nI (c / 16 % 16) := by
    rw [ci, hf, pk_shrN (by omega) _ 4 (by decide), pk_andN (Nat.lt_of_le_of_lt (Nat.div_le_self _ _) (by omega)) 4 (by decide)]
    exact congrArg nI (by omega)
  exact ⟨vp_in_nI hi (by omega), by rw [e]; exact h⟩
theorem ym_f2 {post : Int32 → Prop} {c i : Nat} (hc : c < 16384) (hi : i < 12) (hf : fd i = nI (c % 4096)) (h : post (nI (c % 16))) : wpY_field post (cn, lt, dr, ru, fi, le, br, bl, tg, ty, fd, dp, dn, sz, pa, no, ac, fr, ft, ro, bo, sa, mi, be, bt, bb) (nI i) 2 := by
  have ci : (nI i).toNatClampNeg = i := nI_clamp (by omega)
  have e : (fd (nI i).toNatClampNeg >>> ((8 - 4 * (2 : Int32)) &&& 31)) &&& 15 = nI (c % 16) := by
    rw [ci, hf, pk_shrN (by omega) _ 0 (by decide), pk_andN (Nat.lt_of_le_of_lt (Nat.div_le_self _ _) (by omega)) 4 (by decide)]
    exact congrArg nI (by omega)
  exact ⟨vp_in_nI hi (by omega), by rw [e]; exact h⟩
/-- the flag and the array of the reference's loop over the entries -/
def rm_gd (g : Int32) (s : Option (Nat → Int32)) (bo : Nat → Int32) : Prop := (g = 1 ∧ ∃ A, s = some A ∧ rm_ag bo A ∧ rm_va A) ∨ (g = 0 ∧ s = none)
abbrev rm_YJ2 : Type := Int32 → Int32 → (Nat → Int32) → (Nat → Int32) → (Nat → Int32) → (Nat → Int32) → (Nat → Int32) → (Nat → Int32) → (Nat → Int32) → (Nat → Int32) → (Nat → Int32) → (Nat → Int32) → (Nat → Int32) → (Nat → Int32) → (Nat → Int32) → (Nat → Int32) → (Nat → Int32) → (Nat → Int32) → (Nat → Int32) → (Nat → Int32) → Prop
theorem ym_131 {post : Int32 → SY → Prop} {J : rm_YJ2} {x1 x2 x3 x4 x5 x6 x7 : Int32} {v : Nat} (h6 : x5 + 1 = x6) (hv : v < 3) (k1 : 0 ≤ bo v → J x4 x6 tg ty fd dp dn sz pa no ac fr ft ro bo sa mi be bt bb) (k2 : ¬ 0 ≤ bo v → J x4 x6 tg ty fd dp dn sz pa no ac fr ft ro (upd bo v x7) sa mi be bt bb) : wY_fits_131 post J x1 x2 x3 x4 x5 x7 (nI v) cn lt dr ru fi le br bl tg ty fd dp dn sz pa no ac fr ft ro bo sa mi be bt bb := by
  have w : vp_in (nI v) 3 := vp_in_nI hv (by omega)
  have cv : (nI v).toNatClampNeg = v := nI_clamp (by omega)
  by_cases b : 0 ≤ bo v
  · exact ⟨w, br_t (by rw [cv]; exact b) (nm_r h6 (k1 b))⟩
  · exact ⟨w, br_f (by rw [cv]; exact b) ⟨w, nm_r (e' := upd bo v x7) (by rw [cv]) (nm_r h6 (k2 b))⟩⟩
theorem ym_17 {v : Nat} : nI (17 + v) - 17 = nI v := by
  have := pk_sub (a := 17 + v) (b := 17) (by omega)
  rw [Nat.add_sub_cancel_left] at this
  exact this
theorem ym_92z {post : Int32 → SY → Prop} {J : rm_YJ2} {x1 x2 x3 x5 x6 x7 : Int32} {e : Nat} (h6 : x5 + 1 = x6) (he : e < 20) (k : ∀ bo', J 0 x6 tg ty fd dp dn sz pa no ac fr ft ro bo' sa mi be bt bb) : wY_fits_92 post J x1 x2 x3 0 x5 (nI e) x7 cn lt dr ru fi le br bl tg ty fd dp dn sz pa no ac fr ft ro bo sa mi be bt bb := by
  by_cases a : e ≤ 16
  · exact br_t (nI_le (b := 16) a (by omega)) (nm_r h6 (k bo))
  · obtain ⟨v, rfl⟩ : ∃ v, e = 17 + v := ⟨e - 17, by omega⟩
    have hv : v < 3 := by omega
    have w : vp_in (nI v) 3 := vp_in_nI hv (by omega)
    refine br_f (nI_ge (a := 16) (by omega) (by omega)) (nm_r ym_17 ⟨w, ?_⟩)
    have q : wY_fits_131 post J x1 x2 x3 0 x5 x7 (nI v) cn lt dr ru fi le br bl tg ty fd dp dn sz pa no ac fr ft ro bo sa mi be bt bb := ym_131 h6 hv (fun _ => k bo) (fun _ => k _)
    exact br_c (fun _ => q) (fun _ => ⟨w, br_c (fun _ => q) (fun _ => q)⟩)
theorem ym_92 {post : Int32 → SY → Prop} {J : rm_YJ2} {x1 x2 x3 x5 x6 g : Int32} {e f : Nat} {s : Option (Nat → Int32)} (h6 : x5 + 1 = x6) (he : e < 20) (hf : f < 16) (hg : rm_gd g s bo)
    (k : ∀ g' bo', rm_gd g' (s.bind (rm_s1 e f)) bo' → J g' x6 tg ty fd dp dn sz pa no ac fr ft ro bo' sa mi be bt bb) :
    ((16 : Int32) ≤ nI e → wY_fits_92 post J x1 x2 x3 g x5 (nI e) (nI f) cn lt dr ru fi le br bl tg ty fd dp dn sz pa no ac fr ft ro bo sa mi be bt bb) ∧ (¬ (16 : Int32) ≤ nI e → ((nI e = nI f → wY_fits_92 post J x1 x2 x3 g x5 (nI e) (nI f) cn lt dr ru fi le br bl tg ty fd dp dn sz pa no ac fr ft ro bo sa mi be bt bb) ∧ (¬ nI e = nI f → wY_fits_92 post J x1 x2 x3 0 x5 (nI e) (nI f) cn lt dr ru fi le br bl tg ty fd dp dn sz pa no ac fr ft ro bo sa mi be bt bb))) := by
  rcases hg with ⟨rfl, A, rfl, hA, hV⟩ | ⟨rfl, rfl⟩
  · have k' : ∀ g' bo', rm_gd g' (rm_s1 e f A) bo' → J g' x6 tg ty fd dp dn sz pa no ac fr ft ro bo' sa mi be bt bb := k
    by_cases a1 : e < 16
    · refine br_f (nI_ge (b := 16) a1 (by omega)) ?_
      by_cases a2 : e = f
      · refine br_t (by rw [a2]) (br_t (nI_le (b := 16) (by omega) (by omega)) (nm_r h6 (k' 1 bo (Or.inl ⟨rfl, A, ?_, hA, hV⟩))))
        rw [rm_s1_k a1 a2]
      · refine br_f (fun z => a2 ((nI_eq (by omega) (by omega)).mp z)) (ym_92z h6 he (fun bo' => k' 0 bo' (Or.inr ⟨rfl, ?_⟩)))
        rw [rm_s1_n a1 a2]
    · refine br_t (nI_le (a := 16) (by omega) (by omega)) ?_
      by_cases a2 : e = 16
      · refine br_t (by rw [a2]; decide) (nm_r h6 (k' 1 bo (Or.inl ⟨rfl, A, ?_, hA, hV⟩)))
        rw [a2, rm_s1_a]
      · obtain ⟨v, rfl⟩ : ∃ v, e = 17 + v := ⟨e - 17, by omega⟩
        have hv : v < 3 := by omega
        have w : vp_in (nI v) 3 := vp_in_nI hv (by omega)
        have cv : (nI v).toNatClampNeg = v := nI_clamp (by omega)
        have ev := hA v hv
        rw [rm_s1_v] at k'
        refine br_f (nI_ge (a := 16) (by omega) (by omega)) (nm_r ym_17 ⟨w, ?_⟩)
        rcases hV v with z | ⟨f0, h0, z⟩
        · have b0 : bo v = -1 := ev.trans z
          refine br_t (by rw [cv, b0]; decide) (ym_131 h6 hv (fun y => absurd y (by rw [b0]; decide)) (fun _ => k' 1 _ (Or.inl ⟨rfl, upd A v (nI f), if_pos z, rm_ag_u hA, rm_va_u hf hV⟩)))
        · have b0 : bo v = nI f0 := ev.trans z
          have nz : ¬ A v = -1 := by rw [z]; exact rm_nm1 (by omega)
          refine br_f (by rw [cv, b0]; exact nI_pos (by omega)) ⟨w, ?_⟩
          by_cases q : f0 = f
          · refine br_t (by rw [cv, b0, q]) (ym_131 h6 hv (fun _ => k' 1 bo (Or.inl ⟨rfl, A, ?_, hA, hV⟩)) (fun y => absurd (show (0 : Int32) ≤ bo v by rw [b0]; exact nI_pos' (by omega)) y))
            unfold rm_sv
            rw [if_neg nz, if_pos (by rw [z, q])]
          · refine br_f (by rw [cv, b0]; exact fun y => q ((nI_eq (by omega) (by omega)).mp y)) (ym_131 h6 hv (fun _ => k' 0 bo (Or.inr ⟨rfl, ?_⟩)) (fun y => absurd (show (0 : Int32) ≤ bo v by rw [b0]; exact nI_pos' (by omega)) y))
            unfold rm_sv
            rw [if_neg nz, if_neg (by rw [z]; exact fun y => q ((nI_eq (by omega) (by omega)).mp y))]
  · have z : ∀ bo', J 0 x6 tg ty fd dp dn sz pa no ac fr ft ro bo' sa mi be bt bb := fun bo' => k 0 bo' (Or.inr ⟨rfl, rfl⟩)
    have q : wY_fits_92 post J x1 x2 x3 0 x5 (nI e) (nI f) cn lt dr ru fi le br bl tg ty fd dp dn sz pa no ac fr ft ro bo sa mi be bt bb := ym_92z h6 he z
    exact br_c (fun _ => q) (fun _ => br_c (fun _ => q) (fun _ => q))
theorem ym_168 {post : Int32 → SY → Prop} {x4 : Int32} {A : Nat → Int32} (hs : rm_ag sa A) (hn : narrow .boolean (.int x4) = .int x4) (h : ∀ bo', rm_ag bo' A → post x4 (cn, lt, dr, ru, fi, le, br, bl, tg, ty, fd, dp, dn, sz, pa, no, ac, fr, ft, ro, bo', sa, mi, be, bt, bb)) : ∃ k, wY_fits_168 post x4 cn lt dr ru fi le br bl k 0 tg ty fd dp dn sz pa no ac fr ft ro bo sa mi be bt bb :=
  ⟨0 + 1 + 1 + 1 + 1, br_f rm_q0 ⟨rm_v0, rm_v0, nm_r (e' := upd bo 0 (sa 0)) (by rw [rm_c0]) (nm_r rm_01 (br_f rm_q1 ⟨rm_v1, rm_v1, nm_r (e' := upd (upd bo 0 (sa 0)) 1 (sa 1)) (by rw [rm_c1]) (nm_r rm_12 (br_f rm_q2 ⟨rm_v2, rm_v2, nm_r (e' := rm_u3 bo (sa 0) (sa 1) (sa 2)) (by rw [rm_c2]; rfl) (nm_r rm_23 (br_t rm_q3 ⟨hn, h _ (rm_u3_ag (hs 0 (by omega)) (hs 1 (by omega)) (hs 2 (by omega)))⟩))⟩))⟩))⟩⟩
theorem ym_fits {post : Int32 → SY → Prop} {A : Nat → Int32} {p c i : Nat} {kp : Int32} (hb : rm_ag bo A) (hV : rm_va A) (hp : p < 32000) (hc : c < 16384) (hi : i < 12) (hty : ty i = nI (c / 4096)) (hfd : fd i = nI (c % 4096))
    (h0 : ∀ bo' sa', rm_fs A p c = none → rm_ag bo' A → post 0 (cn, lt, dr, ru, fi, le, br, bl, tg, ty, fd, dp, dn, sz, pa, no, ac, fr, ft, ro, bo', sa', mi, be, bt, bb))
    (h1 : ∀ bo' sa' B, rm_fs A p c = some B → (kp = 0 → rm_ag bo' A) → (¬ kp = 0 → rm_ag bo' B) → post 1 (cn, lt, dr, ru, fi, le, br, bl, tg, ty, fd, dp, dn, sz, pa, no, ac, fr, ft, ro, bo', sa', mi, be, bt, bb)) :
    ∀ q1 q2 : Int32, q1 = nI p → q2 = nI i → wpY_fits post (cn, lt, dr, ru, fi, le, br, bl, tg, ty, fd, dp, dn, sz, pa, no, ac, fr, ft, ro, bo, sa, mi, be, bt, bb) q1 q2 kp := by
  intro q1 q2 e1 e2
  subst e1 e2
  have w : vp_in (nI i) 12 := vp_in_nI hi (by omega)
  have ci : (nI i).toNatClampNeg = i := nI_clamp (by omega)
  refine ⟨w, by decide, ?_⟩
  by_cases y : p / 8000 = c / 4096
  · refine br_t (by rw [ci, hty, rm_d8 hp, y]) ⟨0 + 1 + 1 + 1 + 1, br_f rm_q0 ⟨rm_v0, rm_v0, nm_r (e' := upd sa 0 (bo 0)) (by rw [rm_c0]) (nm_r rm_01 (br_f rm_q1 ⟨rm_v1, rm_v1, nm_r (e' := upd (upd sa 0 (bo 0)) 1 (bo 1)) (by rw [rm_c1]) (nm_r rm_12 (br_f rm_q2 ⟨rm_v2, rm_v2, nm_r (e' := rm_u3 sa (bo 0) (bo 1) (bo 2)) (by rw [rm_c2]; rfl) (nm_r rm_23 (br_t rm_q3 ⟨0 + 1 + 1 + 1 + 1, ?_⟩))⟩))⟩))⟩⟩
    have hs : rm_ag (rm_u3 sa (bo 0) (bo 1) (bo 2)) A := rm_u3_ag (hb 0 (by omega)) (hb 1 (by omega)) (hb 2 (by omega))
    generalize rm_u3 sa (bo 0) (bo 1) (bo 2) = s3 at hs
    have g0 : rm_gd 1 (some A) bo := Or.inl ⟨rfl, A, rfl, hb, hV⟩
    refine br_f rm_q0 (ym_e0 hp (ym_f0 hc hi hfd (ym_92 rm_01 (Nat.mod_lt _ (by omega)) (Nat.mod_lt _ (by omega)) g0 (fun x4 bo1 g1 => ?_))))
    refine br_f rm_q1 (ym_e1 hp (ym_f1 hc hi hfd (ym_92 rm_12 (Nat.mod_lt _ (by omega)) (Nat.mod_lt _ (by omega)) g1 (fun x4 bo2 g2 => ?_))))
    refine br_f rm_q2 (ym_e2 hp (ym_f2 hc hi hfd (ym_92 rm_23 (Nat.mod_lt _ (by omega)) (Nat.mod_lt _ (by omega)) g2 (fun x4 bo3 g3 => ?_))))
    refine br_t rm_q3 ?_
    rcases g3 with ⟨rfl, B, hB, aB, vB⟩ | ⟨rfl, hN⟩
    · have fB : rm_fs A p c = some B := (rm_fs_y y).trans hB
      refine br_f (by decide) ?_
      by_cases k0 : kp = 0
      · exact br_t k0 (ym_168 hs rfl (fun bo' hbo => h1 bo' s3 B fB (fun _ => hbo) (fun z => absurd k0 z)))
      · exact br_f k0 ⟨rfl, h1 bo3 s3 B fB (fun z => absurd z k0) (fun _ => aB)⟩
    · have fN : rm_fs A p c = none := (rm_fs_y y).trans hN
      exact br_t rfl (ym_168 hs rfl (fun bo' hbo => h0 bo' s3 fN hbo))
  · exact br_f (by rw [ci, hty, rm_d8 hp]; exact fun z => y ((nI_eq (by omega) (by omega)).mp z).symm) (h0 bo sa (if_neg y) hb)
theorem ym_no {post : Int32 → SY → Prop} {A : Nat → Int32} {p : Nat} (hb : rm_ag bo A) (hV : rm_va A) (hp : p < 32000) (hn : n ≤ 12) (hE : rm_YE n T C tg ty fd) (hC : ∀ i, i < n → C i < 16384)
    (h1 : ∀ bo' sa', rm_cn (rm_fits A p C) n = 0 → rm_ag bo' A → post 1 (nI n, nI l, nI (Z m), nI m, nI L.length, le, br, bl, tg, ty, fd, dp, dn, sz, pa, no, ac, fr, ft, ro, bo', sa', mi, be, bt, bb)) (h0 : ∀ bo' sa', ¬ rm_cn (rm_fits A p C) n = 0 → post 0 (nI n, nI l, nI (Z m), nI m, nI L.length, le, br, bl, tg, ty, fd, dp, dn, sz, pa, no, ac, fr, ft, ro, bo', sa', mi, be, bt, bb)) :
    ∀ q : Int32, q = nI p → wpY_none post (nI n, nI l, nI (Z m), nI m, nI L.length, le, br, bl, tg, ty, fd, dp, dn, sz, pa, no, ac, fr, ft, ro, bo, sa, mi, be, bt, bb) q := by
  intro q e1
  subst e1
  have go : ∀ d i bo sa, i + d = n → rm_ag bo A → (∀ j, j < i → rm_fits A p C j = false) → wY_none_2 post (nI p) (d + 1) (nI i) (nI n) (nI l) (nI (Z m)) (nI m) (nI L.length) le br bl tg ty fd dp dn sz pa no ac fr ft ro bo sa mi be bt bb := by
    intro d
    induction d with
    | zero =>
      intro i bo sa e hb hj
      have e2 : i = n := by omega
      subst e2
      exact br_t (nI_le (Nat.le_refl _) (by omega)) (h1 bo sa (rm_cn_0 i hj) hb)
    | succ d ih =>
      intro i bo sa e hb hj
      refine br_f (nI_ge (by omega) (by omega)) (br_f (nI_ge (b := 12) (by omega) (by omega)) (ym_fits (kp := 0) hb hV hp (hC i (by omega)) (by omega) (hE i (by omega)).2.1 (hE i (by omega)).2.2 (fun bo' sa' s hb' => ?_) (fun bo' sa' B s _ _ => ?_) _ _ rfl rfl))
      · have z : rm_fits A p C i = false := by unfold rm_fits; rw [s]; rfl
        exact br_t rfl (nm_r (nI_1 i) (ih (i + 1) bo' sa' (by omega) hb' (fun j hj2 => by
          by_cases y : j = i
          · rw [y]; exact z
          · exact hj j (by omega))))
      · have z : rm_fits A p C i = true := by unfold rm_fits; rw [s]; rfl
        exact br_f (by decide) (h0 bo' sa' (rm_cn_p z n (by omega)))
  have := go n 0 bo sa (by omega) hb (fun j hj => absurd hj (Nat.not_lt_zero j))
  exact ⟨n + 1, this⟩
theorem ym_im {post : Int32 → SY → Prop} {r c : Nat} (H : rm_YH n m l T C Z Q P N L tg ty fd dp dn sz pa no ac fr ft) (hr : r < m) (hc : c < 2 ^ 31)
    (h0 : ∀ ro' bo' sa', rm_ps T C n (rm_D c) (P r) (N r) (Z r) = none → post 0 (nI n, nI l, nI (Z m), nI m, nI L.length, le, br, bl, tg, ty, fd, dp, dn, sz, pa, no, ac, fr, ft, ro', bo', sa', mi, be, bt, bb))
    (h1 : ∀ ro' bo' sa' s, rm_ps T C n (rm_D c) (P r) (N r) (Z r) = some s → rm_ag bo' s.1 → (∀ j, j < rm_pc (N r) (Z r) → ro' j = nI (rm_D c j)) → post 1 (nI n, nI l, nI (Z m), nI m, nI L.length, nI (rm_pc (N r) (Z r)), br, bl, tg, ty, fd, dp, dn, sz, pa, no, ac, fr, ft, ro', bo', sa', mi, be, bt, bb)) :
    wpY_isMatch post (nI n, nI l, nI (Z m), nI m, nI L.length, le, br, bl, tg, ty, fd, dp, dn, sz, pa, no, ac, fr, ft, ro, bo, sa, mi, be, bt, bb) (nI r) (nI c) := by
  obtain ⟨hn, hl, hPE, hPU, hL, hLB, hE, hR, hF⟩ := H
  have hm := hPU.1
  obtain ⟨rz, rP, rN⟩ := hPU.2.1 r (by omega)
  obtain ⟨rsz, rac, rpa⟩ := hR.2 r hr
  have w5 : vp_in (nI r) 5 := vp_in_nI (by omega) (by omega)
  have cr : (nI r).toNatClampNeg = r := nI_clamp (by omega)
  have go : ∀ d i s ro bo sa, i + d = Z r → rm_ps T C n (rm_D c) (P r) (N r) i = some s → rm_ag bo s.1 → (∀ j, j < rm_pc (N r) i → ro j = nI (rm_D c j)) → wY_isMatch_31 post (nI r) (d + 1) (nI (c / 12 ^ rm_pc (N r) i)) (nI (rm_pc (N r) i)) (nI i) (nI n) (nI l) (nI (Z m)) (nI m) (nI L.length) le br bl tg ty fd dp dn sz pa no ac fr ft ro bo sa mi be bt bb := by
    intro d
    induction d with
    | zero =>
      intro i s ro bo sa e hs hbo hro
      have e2 : i = Z r := by omega
      subst e2
      exact ⟨w5, br_t (by rw [cr, rsz]; exact nI_le (Nat.le_refl _) (by omega)) (h1 ro bo sa s hs hbo hro)⟩
    | succ d ih =>
      intro i s ro bo sa e hs hbo hro
      have hi : i < Z r := by omega
      have hV := (rm_ps_g i s hs).1
      have i3 := rm_3 r i
      have c3 : (3 * nI r + nI i).toNatClampNeg = 3 * r + i := by rw [i3]; exact nI_clamp (by omega)
      have w15 : vp_in (3 * nI r + nI i) 15 := by rw [i3]; exact vp_in_nI (by omega) (by omega)
      obtain ⟨ipa, ina⟩ := rpa i hi
      have ipa2 : pa (3 * nI r + nI i).toNatClampNeg = nI (P r i) := by rw [c3]; exact ipa
      have ina2 : no (3 * nI r + nI i).toNatClampNeg = rm_bI (N r i) := by rw [c3]; exact ina
      have iP := rP i hi
      have st : rm_ps T C n (rm_D c) (P r) (N r) (i + 1) = rm_st T C n (rm_D c) (P r i) (N r i) (rm_pc (N r) i) s := by
        show (rm_ps T C n (rm_D c) (P r) (N r) i).bind _ = _
        rw [hs]; rfl
      have fin : rm_ps T C n (rm_D c) (P r) (N r) (i + 1) = none → rm_ps T C n (rm_D c) (P r) (N r) (Z r) = none := fun z => rm_ps_n z (Z r) (by omega)
      refine ⟨w5, br_f (by rw [cr, rsz]; exact nI_ge hi (by omega)) (br_f (nI_ge (b := 3) (by omega) (by omega)) ⟨w15, nm_r ipa2 ⟨w15, ?_⟩⟩)⟩
      by_cases ng : N r i = true
      · have pk : rm_pc (N r) (i + 1) = rm_pc (N r) i := by
          show _ + (if N r i = true then 0 else 1) = _
          rw [if_pos ng]; rfl
        have st2 : rm_ps T C n (rm_D c) (P r) (N r) (i + 1) = if rm_cn (rm_fits s.1 (P r i) C) n = 0 then some s else none := by
          rw [st]; exact if_pos ng
        refine br_f (by rw [ina2, ng]; decide) (ym_no hbo hV iP hn hE (fun j hj => (hPE.2 j hj).2.2) (fun bo1 sa1 z hb1 => ?_) (fun bo1 sa1 z => ?_) _ rfl)
        · rw [if_pos z] at st2
          have := ih (i + 1) s ro bo1 sa1 (by omega) st2 hb1 (by rw [pk]; exact hro)
          rw [pk] at this
          exact br_f (by decide) (nm_r (nI_1 i) this)
        · rw [if_neg z] at st2
          exact br_t rfl (h0 ro bo1 sa1 (fin st2))
      · have nf : N r i = false := by
          cases q : N r i
          · rfl
          · exact absurd q ng
        have pk : rm_pc (N r) (i + 1) = rm_pc (N r) i + 1 := by
          show _ + (if N r i = true then 0 else 1) = _
          rw [if_neg ng]
        have st2 : rm_ps T C n (rm_D c) (P r) (N r) (i + 1) = if rm_D c (rm_pc (N r) i) < n then (rm_fs s.1 (P r i) (C (rm_D c (rm_pc (N r) i)))).bind (fun B => some (B, fun j => if j = rm_pc (N r) i then T (rm_D c (rm_pc (N r) i)) else s.2 j)) else none := by
          rw [st]; exact if_neg ng
        have kb := rm_pc_b (N r) i
        have cb : c / 12 ^ rm_pc (N r) i < 2 ^ 31 := Nat.lt_of_le_of_lt (Nat.div_le_self _ _) hc
        have dv : c / 12 ^ rm_pc (N r) i / 12 = c / 12 ^ (rm_pc (N r) i + 1) := by
          rw [Nat.pow_succ, Nat.div_div_eq_div_mul]
        refine br_t (by rw [ina2, nf]; decide) ⟨by decide, nm_r (e' := nI (rm_D c (rm_pc (N r) i))) (pk_rem (d := 12) cb (by omega) (by omega)) ⟨by decide, nm_r (e' := nI (c / 12 ^ (rm_pc (N r) i + 1))) (by rw [← dv]; exact pk_div (d := 12) cb (by omega) (by omega)) ?_⟩⟩
        have d12 : rm_D c (rm_pc (N r) i) < 12 := Nat.mod_lt _ (by omega)
        by_cases hD : rm_D c (rm_pc (N r) i) < n
        · rw [if_pos hD] at st2
          refine br_f (nI_ge hD (by omega)) (ym_fits (kp := 1) hbo hV iP (hPE.2 _ hD).2.2 d12 (hE _ hD).2.1 (hE _ hD).2.2 (fun bo1 sa1 s1 _ => ?_) (fun bo1 sa1 B s1 _ x1 => ?_) _ _ rfl rfl)
          · exact br_t rfl (h0 ro bo1 sa1 (fin (by rw [st2, s1]; rfl)))
          · rw [s1] at st2
            have w3 : vp_in (nI (rm_pc (N r) i)) 3 := vp_in_nI (by omega) (by omega)
            have ck : (nI (rm_pc (N r) i)).toNatClampNeg = rm_pc (N r) i := nI_clamp (by omega)
            have := ih (i + 1) _ (upd ro (rm_pc (N r) i) (nI (rm_D c (rm_pc (N r) i)))) bo1 sa1 (by omega) st2 (x1 (by decide)) (fun j hj => by
              rw [pk] at hj
              by_cases z : j = rm_pc (N r) i
              · rw [z, pk_us]
              · rw [pk_un z]
                exact hro j (by omega))
            rw [pk] at this
            exact br_f (by decide) ⟨w3, nm_r (e' := upd ro (rm_pc (N r) i) (nI (rm_D c (rm_pc (N r) i)))) (by rw [ck]) (nm_r (nI_1 _) (nm_r (nI_1 i) this))⟩
        · rw [if_neg hD] at st2
          exact br_t (nI_le (by omega) (by omega)) (h0 ro bo sa (fin st2))
  refine ⟨0 + 1 + 1 + 1 + 1, br_f rm_q0 ⟨rm_v0, nm_r (e' := upd bo 0 (-1)) (by rw [rm_c0]) (nm_r rm_01 (br_f rm_q1 ⟨rm_v1, nm_r (e' := upd (upd bo 0 (-1)) 1 (-1)) (by rw [rm_c1]) (nm_r rm_12 (br_f rm_q2 ⟨rm_v2, nm_r (e' := rm_u3 bo (-1) (-1) (-1)) (by rw [rm_c2]; rfl) (nm_r rm_23 (br_t rm_q3 ⟨Z r + 1, ?_⟩))⟩))⟩))⟩⟩
  have := go (Z r) 0 (fun _ => -1, fun _ => 0) ro (rm_u3 bo (-1) (-1) (-1)) sa (by omega) rfl (rm_u3_ag rfl rfl rfl) (fun j hj => absurd hj (Nat.not_lt_zero j))
  have e0 : c / 12 ^ rm_pc (N r) 0 = c := by
    show c / 12 ^ 0 = c
    rw [Nat.pow_zero, Nat.div_one]
  rw [e0] at this
  exact this
end YA
