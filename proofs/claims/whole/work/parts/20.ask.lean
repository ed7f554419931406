theorem pu_cnt_ext {p : Nat → Bool} {k : Nat} : ∀ {m : Nat}, k ≤ m → (∀ r, k ≤ r → r < m → p r = false) → pu_cnt p m = pu_cnt p k
  | 0, h, _ => by
    have e : k = 0 := by omega
    rw [e]
  | m + 1, h, g => by
    rcases Nat.eq_or_lt_of_le h with e | e
    · rw [e]
    · rw [pu_cnt, pu_cnt_ext (m := m) (by omega) (fun r a b => g r a (by omega)), g m (by omega) (by omega)]
      simp
theorem al_lt : ∀ n, n < 21 → nI n - 1 < nI n := by decide +kernel
section
variable {n k : Nat} {st mv ms mc sv ch ic pa oc ss tk tn : Int32} {o d a b ld re be bo cl co ne fe ip ce ou : Nat → Int32} {kn pl me sa wa fw : Int32} {yb yw yc yo ys yt yl yp : Nat → Int32}
theorem xy_eq (ok : sp_ok o d a b n) (hX : xs_ok o d a b n k mv ms mc sv ch be bo cl co ne) (hY : yp_ok o d a b n k me sa ys) : ∃ m v, m < 256 ∧ v < 65536 ∧ ms = nI m ∧ me = nI m ∧ mc = sp_sum o d a b n m ∧ ch = nI v ∧ gc_vd (sp_K o d a b n) (fun t => m.testBit t) k (xd_g v) ∧ tp_is m (xd_g v) 8 ys ∧ sv = sa := by
  obtain ⟨_, _, _, _, _, _, m, e1, hm, e2, v, hv, e3, hB, e4⟩ := hX
  obtain ⟨m', f1, hm', c, hB', tp, f2⟩ := hY
  have em : m' = m := am_uniq hm' hm
  subst em
  have ec := gc_uniq hB' hB
  refine ⟨m', v, hm.1, hv, e1, f1, e2, e3, hB.1, fun u hu => ?_, ?_⟩
  · rw [tp u hu]
    exact tv_c (fun _ => ⟨Iff.rfl, fun _ => (ec u hu).symm⟩)
  · rw [e4, f2, sp_sv_c ok ec]
theorem xy_eq2 {m v : Nat} (hm : m < 256) (hv : v < 65536) (ok : sp_ok o d a b n) (hX : xs_ok o d a b n k mv (nI m) mc sv (nI v) be bo cl co ne) (hY : yp_ok o d a b n k me sa ys) : me = nI m ∧ mc = sp_sum o d a b n m ∧ gc_vd (sp_K o d a b n) (fun t => m.testBit t) k (xd_g v) ∧ tp_is m (xd_g v) 8 ys ∧ sv = sa := by
  obtain ⟨m', v', a1, a2, a3, a4, a5, a6, a7, a8, a9⟩ := xy_eq ok hX hY
  rw [nI_eq (by omega) (by omega)] at a3 a6
  subst a3
  subst a6
  exact ⟨a4, a5, a7, a8, a9⟩
theorem cl_X {p : Int32} (hn : n ≤ 20) (ok : sp_ok o d a b n) (hk : k ≤ 4) (hs : st = 0 ∨ (st = 1 ∧ xs_ok o d a b n k mv ms mc sv ch be bo cl co ne)) {post : Int32 → SX → Prop} (T : ∀ t, t < 8 → p = nI t → ∀ mv ms mc sv ch ld re be bo cl co ne fe, xs_ok o d a b n k mv ms mc sv ch be bo cl co ne → post (cl t) (nI n, nI k, 1, mv, ms, mc, sv, ch, ic, pa, oc, ss, tk, tn, o, d, a, b, ld, re, be, bo, cl, co, ne, fe, ip, ce, ou)) (F : ¬ (0 ≤ p ∧ p ≤ 7) → post (-1) (nI n, nI k, st, mv, ms, mc, sv, ch, ic, pa, oc, ss, tk, tn, o, d, a, b, ld, re, be, bo, cl, co, ne, fe, ip, ce, ou)) : wpX_clashes post (nI n, nI k, st, mv, ms, mc, sv, ch, ic, pa, oc, ss, tk, tn, o, d, a, b, ld, re, be, bo, cl, co, ne, fe, ip, ce, ou) p := by
  unfold wpX_clashes
  dsimp only
  refine wk_tmp (fun z => br_f (by decide) ?_) (fun z => br_t rfl (F z))
  obtain ⟨t, ht, e⟩ := wk_r7 z
  have ec : p.toNatClampNeg = t := by rw [e]; exact nI_clamp (by omega)
  rw [ec]
  exact xs_settle hn ok hk hs (fun mv ms mc sv ch ld re be bo cl co ne fe h => ⟨by rw [e]; exact vp_in_nI ht (by decide), T t ht e mv ms mc sv ch ld re be bo cl co ne fe h⟩)
theorem co_X {p : Int32} (hn : n ≤ 20) (ok : sp_ok o d a b n) (hk : k ≤ 4) (hs : st = 0 ∨ (st = 1 ∧ xs_ok o d a b n k mv ms mc sv ch be bo cl co ne)) {post : Int32 → SX → Prop} (T : ∀ t, t < 8 → p = nI t → ∀ mv ms mc sv ch ld re be bo cl co ne fe, xs_ok o d a b n k mv ms mc sv ch be bo cl co ne → post (co t) (nI n, nI k, 1, mv, ms, mc, sv, ch, ic, pa, oc, ss, tk, tn, o, d, a, b, ld, re, be, bo, cl, co, ne, fe, ip, ce, ou)) (F : ¬ (0 ≤ p ∧ p ≤ 7) → post (-1) (nI n, nI k, st, mv, ms, mc, sv, ch, ic, pa, oc, ss, tk, tn, o, d, a, b, ld, re, be, bo, cl, co, ne, fe, ip, ce, ou)) : wpX_cost post (nI n, nI k, st, mv, ms, mc, sv, ch, ic, pa, oc, ss, tk, tn, o, d, a, b, ld, re, be, bo, cl, co, ne, fe, ip, ce, ou) p := by
  unfold wpX_cost
  dsimp only
  refine wk_tmp (fun z => br_f (by decide) ?_) (fun z => br_t rfl (F z))
  obtain ⟨t, ht, e⟩ := wk_r7 z
  have ec : p.toNatClampNeg = t := by rw [e]; exact nI_clamp (by omega)
  rw [ec]
  exact xs_settle hn ok hk hs (fun mv ms mc sv ch ld re be bo cl co ne fe h => ⟨by rw [e]; exact vp_in_nI ht (by decide), T t ht e mv ms mc sv ch ld re be bo cl co ne fe h⟩)
theorem le_X (hn : n ≤ 20) (ok : sp_ok o d a b n) (hk : k ≤ 4) (hs : st = 0 ∨ (st = 1 ∧ xs_ok o d a b n k mv ms mc sv ch be bo cl co ne)) {post : Int32 → SX → Prop} (T : ∀ mv ms mc sv ch ld re be bo cl co ne fe, xs_ok o d a b n k mv ms mc sv ch be bo cl co ne → post (ne 255) (nI n, nI k, 1, mv, ms, mc, sv, ch, ic, pa, oc, ss, tk, tn, o, d, a, b, ld, re, be, bo, cl, co, ne, fe, ip, ce, ou)) : wpX_least post (nI n, nI k, st, mv, ms, mc, sv, ch, ic, pa, oc, ss, tk, tn, o, d, a, b, ld, re, be, bo, cl, co, ne, fe, ip, ce, ou) := by
  unfold wpX_least
  dsimp only
  exact xs_settle hn ok hk hs (fun mv ms mc sv ch ld re be bo cl co ne fe h => T mv ms mc sv ch ld re be bo cl co ne fe h)
theorem pl_X {p : Int32} (hn : n ≤ 20) (ok : sp_ok o d a b n) (hk : k ≤ 4) (hs : st = 0 ∨ (st = 1 ∧ xs_ok o d a b n k mv ms mc sv ch be bo cl co ne)) {post : Int32 → SX → Prop} (T : ∀ t, t < 8 → p = nI t → ∀ m v, m < 256 → v < 65536 → ∀ mv mc sv ld re be bo cl co ne fe, xs_ok o d a b n k mv (nI m) mc sv (nI v) be bo cl co ne → post (tv m (xd_g v) 8 t) (nI n, nI k, 1, mv, nI m, mc, sv, nI v, ic, pa, oc, ss, tk, tn, o, d, a, b, ld, re, be, bo, cl, co, ne, fe, ip, ce, ou)) (F : ¬ (0 ≤ p ∧ p ≤ 7) → post (-1) (nI n, nI k, st, mv, ms, mc, sv, ch, ic, pa, oc, ss, tk, tn, o, d, a, b, ld, re, be, bo, cl, co, ne, fe, ip, ce, ou)) : wpX_place post (nI n, nI k, st, mv, ms, mc, sv, ch, ic, pa, oc, ss, tk, tn, o, d, a, b, ld, re, be, bo, cl, co, ne, fe, ip, ce, ou) p := by
  unfold wpX_place
  dsimp only
  refine wk_tmp (fun z => br_f (by decide) ?_) (fun z => br_t rfl (F z))
  obtain ⟨t, ht, e⟩ := wk_r7 z
  rw [e]
  refine xs_settle hn ok hk hs (fun mv ms mc sv ch ld re be bo cl co ne fe h => ?_)
  have h2 := h
  obtain ⟨_, _, _, _, _, _, m, e1, hM, _, v, hv, e3, _, _⟩ := h2
  subst e1
  subst e3
  have G := T t ht e m v hM.1 hv mv mc sv ld re be bo cl co ne fe h
  refine wk_has (by omega) (fun g => br_f (by decide) ?_) (fun g => br_t rfl (wk_reg hv ht ?_))
  · rw [cx_bn _ (by omega)] at g
    rw [tv_m g] at G
    exact G
  · rw [cx_bn _ (by omega)] at g
    rw [tv_d (by simpa using g) ht] at G
    exact G
theorem al_Y {p q : Int32} (hn : n ≤ 20) (ok : sp_ok o d a b n) (hs : kn = 0 ∨ (kn = 1 ∧ yk_ok o d a b n yb yc yo)) {post : Int32 → SY → Prop} (T : 0 ≤ p ∧ p ≤ nI n - 1 → ∀ yb yw yc yo, yk_ok o d a b n yb yc yo → ((q = 0 → (vp_in p 21 ∧ post (yb p.toNatClampNeg) (nI n, nI k, 1, pl, me, sa, wa, fw, o, d, a, b, yb, yw, yc, yo, ys, yt, ip, ou, yl, yp))) ∧ (¬ q = 0 → wpY_behind (fun r => post r (nI n, nI k, 1, pl, me, sa, wa, fw, o, d, a, b, yb, yw, yc, yo, ys, yt, ip, ou, yl, yp)) (nI n, nI k, 1, pl, me, sa, wa, fw, o, d, a, b, yb, yw, yc, yo, ys, yt, ip, ou, yl, yp) p))) (F : ¬ (0 ≤ p ∧ p ≤ nI n - 1) → post (-1) (nI n, nI k, kn, pl, me, sa, wa, fw, o, d, a, b, yb, yw, yc, yo, ys, yt, ip, ou, yl, yp)) : wpY_alive post (nI n, nI k, kn, pl, me, sa, wa, fw, o, d, a, b, yb, yw, yc, yo, ys, yt, ip, ou, yl, yp) p q := by
  unfold wpY_alive
  dsimp only
  exact wk_in (fun z => br_f (by decide) (yk_know hn ok hs (fun yb yw yc yo h => T z yb yw yc yo h))) (fun z => br_t rfl (F z))
theorem cl_Y {p : Int32} (hn : n ≤ 20) (ok : sp_ok o d a b n) (hs : kn = 0 ∨ (kn = 1 ∧ yk_ok o d a b n yb yc yo)) {post : Int32 → SY → Prop} (T : 0 ≤ p ∧ p ≤ 7 → ∀ yb yw yc yo, yk_ok o d a b n yb yc yo → vp_in p 8 ∧ post (yc p.toNatClampNeg) (nI n, nI k, 1, pl, me, sa, wa, fw, o, d, a, b, yb, yw, yc, yo, ys, yt, ip, ou, yl, yp)) (F : ¬ (0 ≤ p ∧ p ≤ 7) → post (-1) (nI n, nI k, kn, pl, me, sa, wa, fw, o, d, a, b, yb, yw, yc, yo, ys, yt, ip, ou, yl, yp)) : wpY_clashes post (nI n, nI k, kn, pl, me, sa, wa, fw, o, d, a, b, yb, yw, yc, yo, ys, yt, ip, ou, yl, yp) p := by
  unfold wpY_clashes
  dsimp only
  exact wk_in (fun z => br_f (by decide) (yk_know hn ok hs (fun yb yw yc yo h => T z yb yw yc yo h))) (fun z => br_t rfl (F z))
theorem co_Y {p : Int32} (hn : n ≤ 20) (ok : sp_ok o d a b n) (hs : kn = 0 ∨ (kn = 1 ∧ yk_ok o d a b n yb yc yo)) {post : Int32 → SY → Prop} (T : 0 ≤ p ∧ p ≤ 7 → ∀ yb yw yc yo, yk_ok o d a b n yb yc yo → vp_in p 8 ∧ post (yo p.toNatClampNeg) (nI n, nI k, 1, pl, me, sa, wa, fw, o, d, a, b, yb, yw, yc, yo, ys, yt, ip, ou, yl, yp)) (F : ¬ (0 ≤ p ∧ p ≤ 7) → post (-1) (nI n, nI k, kn, pl, me, sa, wa, fw, o, d, a, b, yb, yw, yc, yo, ys, yt, ip, ou, yl, yp)) : wpY_cost post (nI n, nI k, kn, pl, me, sa, wa, fw, o, d, a, b, yb, yw, yc, yo, ys, yt, ip, ou, yl, yp) p := by
  unfold wpY_cost
  dsimp only
  exact wk_in (fun z => br_f (by decide) (yk_know hn ok hs (fun yb yw yc yo h => T z yb yw yc yo h))) (fun z => br_t rfl (F z))
theorem le_Y {N : Nat} (hN : N ≤ 8) (h : ∀ r, sp_F o d a b n r 0 ↔ N ≤ r) (hn : n ≤ 20) (ok : sp_ok o d a b n) (hs : kn = 0 ∨ (kn = 1 ∧ yk_ok o d a b n yb yc yo)) {post : Int32 → SY → Prop} (T : ∀ fw yb yw yc yo yt, yk_ok o d a b n yb yc yo → post (nI N) (nI n, nI k, 1, pl, me, sa, wa, fw, o, d, a, b, yb, yw, yc, yo, ys, yt, ip, ou, yl, yp)) : wpY_least post (nI n, nI k, kn, pl, me, sa, wa, fw, o, d, a, b, yb, yw, yc, yo, ys, yt, ip, ou, yl, yp) := by
  unfold wpY_least
  dsimp only
  exact yk_know hn ok hs (fun yb yw yc yo hy => yn_least hN hy.2.1 h (fun fw yt => T fw yb yw yc yo yt hy))
theorem pl_Y {p : Int32} (hn : n ≤ 20) (ok : sp_ok o d a b n) (hk : k ≤ 4) (hs : kn = 0 ∨ (kn = 1 ∧ yk_ok o d a b n yb yc yo)) (hp : pl = 0 ∨ (pl = 1 ∧ yp_ok o d a b n k me sa ys)) {post : Int32 → SY → Prop} (T : 0 ≤ p ∧ p ≤ 7 → ∀ me sa fw yb yw yc yo ys yt, yk_ok o d a b n yb yc yo → yp_ok o d a b n k me sa ys → vp_in p 8 ∧ post (ys p.toNatClampNeg) (nI n, nI k, 1, 1, me, sa, wa, fw, o, d, a, b, yb, yw, yc, yo, ys, yt, ip, ou, yl, yp)) (F : ¬ (0 ≤ p ∧ p ≤ 7) → post (-1) (nI n, nI k, kn, pl, me, sa, wa, fw, o, d, a, b, yb, yw, yc, yo, ys, yt, ip, ou, yl, yp)) : wpY_place post (nI n, nI k, kn, pl, me, sa, wa, fw, o, d, a, b, yb, yw, yc, yo, ys, yt, ip, ou, yl, yp) p := by
  unfold wpY_place
  dsimp only
  exact wk_in (fun z => br_f (by decide) (ya_alloc hn ok hk hs hp (fun me sa fw yb yw yc yo ys yt h g => T z me sa fw yb yw yc yo ys yt h g))) (fun z => br_t rfl (F z))
/-- how many registers are used -/
def bs_P (m : Nat) (c : Nat → Nat) (r : Nat) : Bool := pu_any (fun t => !m.testBit t && decide (c t = r)) 8
theorem bs_X {m v : Nat} (hv : v < 65536) {post : Int32 → Prop} (h : post (nI (pu_cnt (bs_P m (xd_g v)) 4))) : wpX_usedRegisters post (nI n, nI k, st, mv, nI m, mc, sv, nI v, ic, pa, oc, ss, tk, tn, o, d, a, b, ld, re, be, bo, cl, co, ne, fe, ip, ce, ou) := by
  refine pk_loop (fun q t (x : Int32) => wX_usedRegisters_4 post (nI n) (nI k) st mv (nI m) mc sv (nI v) ic pa oc ss tk tn o d a b ld re be bo cl co ne fe ip ce ou q x (nI t)) (fun t x => ∀ r, r < 32 → bt x r = pu_any (fun t => !m.testBit t && decide (xd_g v t = r)) t) 8 0 0 (Nat.zero_le 8) (fun r _ => b_0 r) ?_ ?_
  · intro q x Q
    refine br_t (Int32.le_refl _) ?_
    refine pk_loop (fun q r (y : Int32) => wX_usedRegisters_44 post x (nI n) (nI k) st mv (nI m) mc sv (nI v) ic pa oc ss tk tn o d a b ld re be bo cl co ne fe ip ce ou q y (nI r)) (fun r y => y = nI (pu_cnt (bs_P m (xd_g v)) r)) 4 0 0 (Nat.zero_le 4) rfl ?_ ?_
    · intro q y R
      refine br_t (Int32.le_refl _) ?_
      rw [R]
      exact h
    · intro q r y hr R ih
      refine br_f (nI_ge (b := 4) hr (by decide)) (wk_has (by omega) (fun z => br_f (by decide) (nm_r (by rw [R, nI_1]) (nm_r (nI_1 r) (ih _ ?_)))) (fun z => br_t rfl (nm_r (nI_1 r) (ih _ ?_))))
      · rw [Q r (by omega)] at z
        rw [pu_cnt, if_pos (show bs_P m (xd_g v) r = true from z)]
      · rw [Q r (by omega)] at z
        rw [pu_cnt, if_neg (show ¬ bs_P m (xd_g v) r = true from z)]
        exact R
  · intro q t x ht Q ih
    have x4 : xd_g v t < 4 := Nat.mod_lt _ (by decide)
    refine br_f (nI_ge (b := 8) ht (by decide)) (wk_has (by omega) (fun z => br_f (by decide) (nm_r (nI_1 t) (ih _ (fun r hr => ?_)))) (fun z => br_t rfl (wk_reg hv ht (nm_e (nm_r (nI_1 t) (ih _ (fun r hr => ?_)))))))
    · rw [cx_bn _ (by omega)] at z
      rw [pu_any, z, Q r hr]
      simp
    · rw [cx_bn _ (by omega)] at z
      rw [pu_any, show m.testBit t = false by simpa using z, b_or, cx_one (by omega), Q r hr]
      simp
theorem be_X {p : Int32} (hn : n ≤ 20) (ok : sp_ok o d a b n) (hk : k ≤ 4) (hs : st = 0 ∨ (st = 1 ∧ xs_ok o d a b n k mv ms mc sv ch be bo cl co ne)) {post : Int32 → SX → Prop} (T : ∀ m v, m < 256 → v < 65536 → ∀ mc sv ld re be bo cl co ne fe, xs_ok o d a b n k (nI (sp_mv o n)) (nI m) mc sv (nI v) be bo cl co ne → ((p = 0 → post mc (nI n, nI k, 1, nI (sp_mv o n), nI m, mc, sv, nI v, ic, pa, oc, ss, tk, tn, o, d, a, b, ld, re, be, bo, cl, co, ne, fe, ip, ce, ou)) ∧ (p = 1 → post (nI m) (nI n, nI k, 1, nI (sp_mv o n), nI m, mc, sv, nI v, ic, pa, oc, ss, tk, tn, o, d, a, b, ld, re, be, bo, cl, co, ne, fe, ip, ce, ou)) ∧ (p = 2 → post sv (nI n, nI k, 1, nI (sp_mv o n), nI m, mc, sv, nI v, ic, pa, oc, ss, tk, tn, o, d, a, b, ld, re, be, bo, cl, co, ne, fe, ip, ce, ou)) ∧ (p = 3 → post (nI (sp_mv o n)) (nI n, nI k, 1, nI (sp_mv o n), nI m, mc, sv, nI v, ic, pa, oc, ss, tk, tn, o, d, a, b, ld, re, be, bo, cl, co, ne, fe, ip, ce, ou)) ∧ (p = 4 → post (nI (pu_cnt (bs_P m (xd_g v)) 4)) (nI n, nI k, 1, nI (sp_mv o n), nI m, mc, sv, nI v, ic, pa, oc, ss, tk, tn, o, d, a, b, ld, re, be, bo, cl, co, ne, fe, ip, ce, ou)) ∧ (¬ (0 ≤ p ∧ p ≤ 4) → post (-1) (nI n, nI k, 1, nI (sp_mv o n), nI m, mc, sv, nI v, ic, pa, oc, ss, tk, tn, o, d, a, b, ld, re, be, bo, cl, co, ne, fe, ip, ce, ou)))) : wpX_best post (nI n, nI k, st, mv, ms, mc, sv, ch, ic, pa, oc, ss, tk, tn, o, d, a, b, ld, re, be, bo, cl, co, ne, fe, ip, ce, ou) p := by
  unfold wpX_best
  dsimp only
  refine xs_settle hn ok hk hs (fun mv ms mc sv ch ld re be bo cl co ne fe h => ?_)
  have h2 := h
  obtain ⟨_, _, _, _, _, e0, m, e1, hM, _, v, hv, e3, _, _⟩ := h2
  subst e0
  subst e1
  subst e3
  obtain ⟨T0, T1, T2, T3, T4, TF⟩ := T m v hM.1 hv mc sv ld re be bo cl co ne fe h
  refine br_c (fun z => TF (fun y => absurd y.1 (Int32.not_le.mpr z))) (fun z => br_c (fun y => TF (fun x => absurd x.2 (Int32.not_le.mpr y))) (fun y => br_c T0 (fun z0 => br_c T1 (fun z1 => br_c T2 (fun z2 => br_c T3 (fun z3 => br_c (fun z4 => bs_X hv (T4 z4)) (fun z4 => trivial)))))))
theorem bs_tv {m r t : Nat} {c : Nat → Nat} (ht : t < 8) (hc : c t ≤ 8) (hr : r ≤ 8) : (tv m c 8 t = nI r) ↔ (!m.testBit t && decide (c t = r)) = true := by
  cases w : m.testBit t
  · rw [tv_d w ht, nI_eq (by omega) (by omega)]
    simp
  · rw [tv_m w]
    simp only [Bool.not_true, Bool.false_and]
    exact ⟨fun z => absurd z.symm (tp_neg (by omega)), fun z => absurd z (by decide)⟩
theorem bs_69 {m r : Nat} {c : Nat → Nat} (hr : r ≤ 8) (c8 : ∀ t, t < 8 → c t ≤ 8) (tp : tp_is m c 8 ys) {post : Int32 → SY → Prop} {J : Int32 → Int32 → Prop} {x1 x2 : Int32} {q : Nat} (T : bs_P m c r = true → J (nI (q + 1)) (nI (r + 1))) (F : ¬ bs_P m c r = true → J (nI q) (nI (r + 1))) : ∃ z, wY_best_69 post J x1 x2 (nI q) (nI r) (nI n) (nI k) kn pl me sa wa fw o d a b yb yw yc yo ys yt ip ou yl yp z 0 0 := by
  refine pk_loop (fun z t (x : Int32) => wY_best_69 post J x1 x2 (nI q) (nI r) (nI n) (nI k) kn pl me sa wa fw o d a b yb yw yc yo ys yt ip ou yl yp z x (nI t)) (fun t x => (x = 1 ∧ pu_any (fun t => !m.testBit t && decide (c t = r)) t = true) ∨ (x = 0 ∧ ¬ pu_any (fun t => !m.testBit t && decide (c t = r)) t = true)) 8 0 0 (Nat.zero_le 8) (Or.inr ⟨rfl, by rw [pu_any]; decide⟩) ?_ ?_
  · intro z x Q
    refine br_t (Int32.le_refl _) ?_
    rcases Q with ⟨e, Q⟩ | ⟨e, Q⟩
    · exact br_f (by rw [e]; decide) (nm_r (nI_1 q) (nm_r (nI_1 r) (T Q)))
    · exact br_t e (nm_r (nI_1 r) (F Q))
  · intro z t x ht Q ih
    have e : (nI t).toNatClampNeg = t := nI_clamp (by omega)
    refine br_f (nI_ge (b := 8) ht (by decide)) ⟨vp_in_nI ht (by decide), ?_⟩
    rw [e, tp t ht]
    refine ek_if (bs_tv ht (c8 t ht) hr) (fun y => nm_r (e' := 1) ?_ (nm_r (nI_1 t) (ih 1 (Or.inl ⟨rfl, ?_⟩)))) (fun y => nm_r (e' := x) (Int32.or_zero ..) (nm_r (nI_1 t) (ih x ?_)))
    · rcases Q with ⟨e, _⟩ | ⟨e, _⟩
      · rw [e]
        decide
      · rw [e]
        decide
    · rw [pu_any, y, Bool.or_true]
    · rw [pu_any, show (!m.testBit t && decide (c t = r)) = false by simpa using y, Bool.or_false]
      exact Q
theorem bs_54 {m : Nat} {c : Nat → Nat} (hk : k ≤ 4) (hc : gc_vd (sp_K o d a b n) (fun t => m.testBit t) k c) (tp : tp_is m c 8 ys) {post : Int32 → SY → Prop} {x1 x2 : Int32} (h : ((x1 = 0 → (wpY_sum (fun r => (post r (nI n, nI k, kn, pl, nI m, sa, wa, fw, o, d, a, b, yb, yw, yc, yo, ys, yt, ip, ou, yl, yp))) (nI n, nI k, kn, pl, nI m, sa, wa, fw, o, d, a, b, yb, yw, yc, yo, ys, yt, ip, ou, yl, yp) (nI m))) ∧ (¬ x1 = 0 → (((x1 = 1 → (post (nI m) (nI n, nI k, kn, pl, nI m, sa, wa, fw, o, d, a, b, yb, yw, yc, yo, ys, yt, ip, ou, yl, yp))) ∧ (¬ x1 = 1 → (((x1 = 2 → (post sa (nI n, nI k, kn, pl, nI m, sa, wa, fw, o, d, a, b, yb, yw, yc, yo, ys, yt, ip, ou, yl, yp))) ∧ (¬ x1 = 2 → (((x1 = 3 → (post x2 (nI n, nI k, kn, pl, nI m, sa, wa, fw, o, d, a, b, yb, yw, yc, yo, ys, yt, ip, ou, yl, yp))) ∧ (¬ x1 = 3 → (post (nI (pu_cnt (bs_P m c) 4)) (nI n, nI k, kn, pl, nI m, sa, wa, fw, o, d, a, b, yb, yw, yc, yo, ys, yt, ip, ou, yl, yp)))))))))))))) : ∃ z, wY_best_54 post x1 x2 (nI n) (nI k) kn pl (nI m) sa wa fw o d a b yb yw yc yo ys yt ip ou yl yp z 0 0 := by
  have c8 : ∀ t, t < 8 → c t ≤ 8 := by
    intro t ht
    cases w : m.testBit t
    · have := ((hc t ht).2 w).1
      omega
    · rw [(hc t ht).1 w]
      omega
  have ex : pu_cnt (bs_P m c) 4 = pu_cnt (bs_P m c) k := by
    apply pu_cnt_ext hk
    intro r h1 h2
    apply Bool.eq_false_iff.mpr
    unfold bs_P
    rw [Ne, pu_any_iff]
    rintro ⟨t, ht, g⟩
    simp only [Bool.and_eq_true, decide_eq_true_eq] at g
    have := ((hc t ht).2 (by simpa using g.1)).1
    omega
  rw [ex] at h
  refine pk_loop (fun z r (x : Int32) => wY_best_54 post x1 x2 (nI n) (nI k) kn pl (nI m) sa wa fw o d a b yb yw yc yo ys yt ip ou yl yp z x (nI r)) (fun r x => x = nI (pu_cnt (bs_P m c) r)) k 0 0 (Nat.zero_le k) rfl ?_ ?_
  · intro z x Q
    refine br_t (Int32.le_refl _) ?_
    rw [Q]
    exact h
  · intro z r x hr Q ih
    refine br_f (nI_ge hr (by omega)) ?_
    rw [Q]
    refine bs_69 (by omega) c8 tp (fun y => ih _ ?_) (fun y => ih _ ?_)
    · rw [pu_cnt, if_pos y]
    · rw [pu_cnt, if_neg y]
      rfl
theorem bs_22 {post : Int32 → SY → Prop} (hn : n ≤ 20) {x1 x3 : Int32} (h : ∃ z, wY_best_54 post x1 (nI (sp_mv o n)) (nI n) (nI k) kn pl me sa wa fw o d a b yb yw yc yo ys yt ip ou yl yp z x3 0) : ∃ z, wY_best_22 post x1 x3 (nI n) (nI k) kn pl me sa wa fw o d a b yb yw yc yo ys yt ip ou yl yp z 0 0 := by
  refine pk_loop (fun z i (c : Int32) => wY_best_22 post x1 x3 (nI n) (nI k) kn pl me sa wa fw o d a b yb yw yc yo ys yt ip ou yl yp z c (nI i)) (fun i c => c = nI (pu_cnt (fun i => decide (o i = 5)) i)) n 0 0 (Nat.zero_le n) rfl ?_ ?_
  · intro z c Q
    refine br_t (Int32.le_refl _) ?_
    rw [Q]
    exact h
  · intro z i c hi Q ih
    have e : (nI i).toNatClampNeg = i := nI_clamp (by omega)
    refine br_f (nI_ge hi (by omega)) ⟨vp_in_nI (by omega) (by decide), ?_⟩
    rw [e]
    refine br_c (fun y => nm_r (by rw [Q, nI_1]) (nm_r (nI_1 i) (ih _ ?_))) (fun y => nm_r (nI_1 i) (ih _ ?_))
    · rw [pu_cnt, if_pos (decide_eq_true y)]
    · rw [pu_cnt, if_neg (by rw [decide_eq_true_eq]; exact y)]
      exact Q
theorem bs_Y {p : Int32} (hn : n ≤ 20) (ok : sp_ok o d a b n) (hk : k ≤ 4) (hs : kn = 0 ∨ (kn = 1 ∧ yk_ok o d a b n yb yc yo)) (hp : pl = 0 ∨ (pl = 1 ∧ yp_ok o d a b n k me sa ys)) {post : Int32 → SY → Prop} (T : 0 ≤ p ∧ p ≤ 4 → ∀ me sa fw yb yw yc yo ys yt, yk_ok o d a b n yb yc yo → yp_ok o d a b n k me sa ys → (∃ z, wY_best_22 post p 0 (nI n) (nI k) 1 1 me sa wa fw o d a b yb yw yc yo ys yt ip ou yl yp z 0 0)) (F : ¬ (0 ≤ p ∧ p ≤ 4) → post (-1) (nI n, nI k, kn, pl, me, sa, wa, fw, o, d, a, b, yb, yw, yc, yo, ys, yt, ip, ou, yl, yp)) : wpY_best post (nI n, nI k, kn, pl, me, sa, wa, fw, o, d, a, b, yb, yw, yc, yo, ys, yt, ip, ou, yl, yp) p := by
  unfold wpY_best
  dsimp only
  exact wk_in (fun z => br_f (by decide) (ya_alloc hn ok hk hs hp (fun me sa fw yb yw yc yo ys yt h g => T z me sa fw yb yw yc yo ys yt h g))) (fun z => br_t rfl (F z))
end
