theorem i_vc_alive {k : Nat} {u : SX} {v : SY} (I : i_Rel k u v) (hk : k + 5 ≤ 2560) (v1 : Int32) (v2 : Int32) : wpX_alive (fun r u' => wpY_alive (fun r' v' => r' = r ∧ i_Rel (k + 5) u' v') v v1 (lw_bz v2)) u v1 (lw_bz v2) := by
  obtain ⟨n, k, w, st, mv, ms, mc, sv, ch, pa, oc, ss, tk, tn, kn, pl, me, sa, fw, o, d, a, b, ld, re, be, bo, cl, co, ne, fe, ip, ce, ou, yb, yw, yc, yo, ys, yt, yl, yp, rfl, rfl, hn, hk, hw, ok, hx, hy, hp, hc⟩ := I
  have al := al_lt n (by omega)
  rcases pk_ix v1 (n := n) (by omega) with z | z | ⟨j, hj, rfl⟩
  · exact br_t z (al_Y hn ok hy (fun y => absurd y.1 (Int32.not_le.mpr z)) (fun _ => ⟨rfl, rl_mk hn hk hw ok hx hy hp hc⟩))
  · by_cases h0 : v1 < 0
    · exact br_t h0 (al_Y hn ok hy (fun y => absurd y.1 (Int32.not_le.mpr h0)) (fun _ => ⟨rfl, rl_mk hn hk hw ok hx hy hp hc⟩))
    · exact br_f h0 (br_f (Int32.not_lt.mpr z) (al_Y hn ok hy (fun y => absurd (Int32.le_trans z y.2) (Int32.not_le.mpr al)) (fun _ => ⟨rfl, rl_mk hn hk hw ok hx hy hp hc⟩)))
  · have e : (nI j).toNatClampNeg = j := nI_clamp (by omega)
    have jn : 0 ≤ nI j ∧ nI j ≤ nI n - 1 := by
      obtain ⟨m, rfl⟩ : ∃ m, n = m + 1 := ⟨n - 1, by omega⟩
      rw [nI_pred]
      exact ⟨nI_pos' (by omega), nI_le (by omega) (by omega)⟩
    have v20 : vp_in (nI j) 20 := vp_in_nI (by omega) (by decide)
    refine br_f (nI_pos (by omega)) (br_t (nI_lt hj (by omega)) (xs_settle hn ok hk.2 hx (fun mv ms mc sv ch ld re be bo cl co ne fe hX => br_c (fun z => ⟨v20, ?_⟩) (fun z => ⟨v20, ?_⟩))))
    · rw [e]
      refine al_Y hn ok hy (fun _ yb yw yc yo hY => br_t z ⟨vp_in_nI (by omega) (by decide), ?_, rl_mk hn hk hw ok (Or.inr ⟨rfl, hX⟩) (Or.inr ⟨rfl, hY⟩) hp hc⟩) (fun y => absurd jn y)
      rw [e]
      exact sp_is_u (hY.1 j hj) (hX.1 j hj)
    · rw [e]
      refine al_Y hn ok hy (fun _ yb yw yc yo hY => br_f z (yk_behind hn ok hj ⟨?_, rl_mk hn hk hw ok (Or.inr ⟨rfl, hX⟩) (Or.inr ⟨rfl, hY⟩) hp hc⟩)) (fun y => absurd jn y)
      exact b_ext (fun t ht => by rw [sp_bh_b hY.1 ht, hX.2.1 j hj t ht])
theorem i_vc_clashes {k : Nat} {u : SX} {v : SY} (I : i_Rel k u v) (hk : k + 5 ≤ 2560) (v1 : Int32) : wpX_clashes (fun r u' => wpY_clashes (fun r' v' => r' = r ∧ i_Rel (k + 5) u' v') v v1) u v1 := by
  obtain ⟨n, k, w, st, mv, ms, mc, sv, ch, pa, oc, ss, tk, tn, kn, pl, me, sa, fw, o, d, a, b, ld, re, be, bo, cl, co, ne, fe, ip, ce, ou, yb, yw, yc, yo, ys, yt, yl, yp, rfl, rfl, hn, hk, hw, ok, hx, hy, hp, hc⟩ := I
  refine cl_X hn ok hk.2 hx (fun t ht e mv ms mc sv ch ld re be bo cl co ne fe hX => ?_) (fun z => cl_Y hn ok hy (fun y => absurd y z) (fun _ => ⟨rfl, rl_mk hn hk hw ok hx hy hp hc⟩))
  subst e
  have vv : vp_in (nI t) 8 := vp_in_nI ht (by decide)
  refine cl_Y hn ok hy (fun _ yb yw yc yo hY => ⟨vv, ?_, rl_mk hn hk hw ok (Or.inr ⟨rfl, hX⟩) (Or.inr ⟨rfl, hY⟩) hp hc⟩) (fun y => absurd ⟨nI_pos' (by omega), nI_le (b := 7) (by omega) (by decide)⟩ y)
  rw [nI_clamp (by omega)]
  exact cl_u hY.2.1 hX.2.2.1 t ht
theorem i_vc_cost {k : Nat} {u : SX} {v : SY} (I : i_Rel k u v) (hk : k + 5 ≤ 2560) (v1 : Int32) : wpX_cost (fun r u' => wpY_cost (fun r' v' => r' = r ∧ i_Rel (k + 5) u' v') v v1) u v1 := by
  obtain ⟨n, k, w, st, mv, ms, mc, sv, ch, pa, oc, ss, tk, tn, kn, pl, me, sa, fw, o, d, a, b, ld, re, be, bo, cl, co, ne, fe, ip, ce, ou, yb, yw, yc, yo, ys, yt, yl, yp, rfl, rfl, hn, hk, hw, ok, hx, hy, hp, hc⟩ := I
  refine co_X hn ok hk.2 hx (fun t ht e mv ms mc sv ch ld re be bo cl co ne fe hX => ?_) (fun z => co_Y hn ok hy (fun y => absurd y z) (fun _ => ⟨rfl, rl_mk hn hk hw ok hx hy hp hc⟩))
  subst e
  have vv : vp_in (nI t) 8 := vp_in_nI ht (by decide)
  refine co_Y hn ok hy (fun _ yb yw yc yo hY => ⟨vv, ?_, rl_mk hn hk hw ok (Or.inr ⟨rfl, hX⟩) (Or.inr ⟨rfl, hY⟩) hp hc⟩) (fun y => absurd ⟨nI_pos' (by omega), nI_le (b := 7) (by omega) (by decide)⟩ y)
  rw [nI_clamp (by omega), hY.2.2 t ht, hX.2.2.2.1 t ht]
theorem i_vc_least {k : Nat} {u : SX} {v : SY} (I : i_Rel k u v) (hk : k + 5 ≤ 2560) : wpX_least (fun r u' => wpY_least (fun r' v' => r' = r ∧ i_Rel (k + 5) u' v') v) u := by
  obtain ⟨n, k, w, st, mv, ms, mc, sv, ch, pa, oc, ss, tk, tn, kn, pl, me, sa, fw, o, d, a, b, ld, re, be, bo, cl, co, ne, fe, ip, ce, ou, yb, yw, yc, yo, ys, yt, yl, yp, rfl, rfl, hn, hk, hw, ok, hx, hy, hp, hc⟩ := I
  refine le_X hn ok hk.2 hx (fun mv ms mc sv ch ld re be bo cl co ne fe hX => ?_)
  obtain ⟨N, N8, eN, hF⟩ := hX.2.2.2.2.1
  exact le_Y N8 hF hn ok hy (fun fw yb yw yc yo yt hY => ⟨eN.symm, rl_mk hn hk hw ok (Or.inr ⟨rfl, hX⟩) (Or.inr ⟨rfl, hY⟩) hp hc⟩)
theorem i_vc_place {k : Nat} {u : SX} {v : SY} (I : i_Rel k u v) (hk : k + 5 ≤ 2560) (v1 : Int32) : wpX_place (fun r u' => wpY_place (fun r' v' => r' = r ∧ i_Rel (k + 5) u' v') v v1) u v1 := by
  obtain ⟨n, k, w, st, mv, ms, mc, sv, ch, pa, oc, ss, tk, tn, kn, pl, me, sa, fw, o, d, a, b, ld, re, be, bo, cl, co, ne, fe, ip, ce, ou, yb, yw, yc, yo, ys, yt, yl, yp, rfl, rfl, hn, hk, hw, ok, hx, hy, hp, hc⟩ := I
  refine pl_X hn ok hk.2 hx (fun t ht e m v hm hv mv mc sv ld re be bo cl co ne fe hX => ?_) (fun z => pl_Y hn ok hk.2 hy hp (fun y => absurd y z) (fun _ => ⟨rfl, rl_mk hn hk hw ok hx hy hp hc⟩))
  subst e
  have vv : vp_in (nI t) 8 := vp_in_nI ht (by decide)
  refine pl_Y hn ok hk.2 hy hp (fun _ me sa fw yb yw yc yo ys yt hY hP => ⟨vv, ?_, rl_mk hn hk hw ok (Or.inr ⟨rfl, hX⟩) (Or.inr ⟨rfl, hY⟩) (Or.inr ⟨rfl, hP⟩) hc⟩) (fun y => absurd ⟨nI_pos' (by omega), nI_le (b := 7) (by omega) (by decide)⟩ y)
  rw [nI_clamp (by omega)]
  exact (xy_eq2 hm hv ok hX hP).2.2.2.1 t ht
theorem i_vc_best {k : Nat} {u : SX} {v : SY} (I : i_Rel k u v) (hk : k + 5 ≤ 2560) (v1 : Int32) : wpX_best (fun r u' => wpY_best (fun r' v' => r' = r ∧ i_Rel (k + 5) u' v') v v1) u v1 := by
  obtain ⟨n, k, w, st, mv, ms, mc, sv, ch, pa, oc, ss, tk, tn, kn, pl, me, sa, fw, o, d, a, b, ld, re, be, bo, cl, co, ne, fe, ip, ce, ou, yb, yw, yc, yo, ys, yt, yl, yp, rfl, rfl, hn, hk, hw, ok, hx, hy, hp, hc⟩ := I
  refine be_X hn ok hk.2 hx (fun m v hm hv mc sv ld re be bo cl co ne fe hX => ?_)
  have G : ∀ x, (0 ≤ v1 ∧ v1 ≤ 4) → (∀ sa ys, mc = sp_sum o d a b n m → sv = sa → gc_vd (sp_K o d a b n) (fun t => m.testBit t) k (xd_g v) → tp_is m (xd_g v) 8 ys → ((v1 = 0 → mc = x) ∧ (v1 = 1 → nI m = x) ∧ (v1 = 2 → sa = x) ∧ (v1 = 3 → nI (sp_mv o n) = x) ∧ (¬ v1 = 0 → ¬ v1 = 1 → ¬ v1 = 2 → ¬ v1 = 3 → nI (pu_cnt (bs_P m (xd_g v)) 4) = x))) → ∀ K, wpY_best (fun r' v' => r' = x ∧ i_Rel K (nI n, nI k, 1, nI (sp_mv o n), nI m, mc, sv, nI v, nI w, pa, oc, ss, tk, tn, o, d, a, b, ld, re, be, bo, cl, co, ne, fe, ip, ce, ou) v') (nI n, nI k, kn, pl, me, sa, nI w, fw, o, d, a, b, yb, yw, yc, yo, ys, yt, ip, ou, yl, yp) v1 := by
    intro x h04 H K
    refine bs_Y hn ok hk.2 hy hp (fun _ me sa fw yb yw yc yo ys yt hY hP => ?_) (fun y => absurd h04 y)
    obtain ⟨e1, e2, e3, tp, e4⟩ := xy_eq2 hm hv ok hX hP
    subst e1
    have R := fun K => rl_mk (K := K) (ld := ld) (re := re) (fe := fe) (ip := ip) (ce := ce) (ou := ou) (pa := pa) (fw := fw) (yw := yw) (yt := yt) (yl := yl) hn hk hw ok (Or.inr ⟨rfl, hX⟩) (Or.inr ⟨rfl, hY⟩) (Or.inr ⟨rfl, hP⟩) hc
    obtain ⟨H0, H1, H2, H3, H4⟩ := H sa ys e2 e4 e3 tp
    exact bs_22 hn (bs_54 hk.2 e3 tp (br_c (fun z => ya_sum hY.2.2 ⟨e2.symm.trans (H0 z), R _⟩) (fun z0 => br_c (fun z => ⟨H1 z, R _⟩) (fun z1 => br_c (fun z => ⟨H2 z, R _⟩) (fun z2 => br_c (fun z => ⟨H3 z, R _⟩) (fun z3 => ⟨H4 z0 z1 z2 z3, R _⟩))))))
  refine ⟨fun z => G mc (by rw [z]; decide) (fun sa ys a1 a2 a3 a4 => ?_) _, fun z => G (nI m) (by rw [z]; decide) (fun sa ys a1 a2 a3 a4 => ?_) _, fun z => G sv (by rw [z]; decide) (fun sa ys a1 a2 a3 a4 => ?_) _, fun z => G (nI (sp_mv o n)) (by rw [z]; decide) (fun sa ys a1 a2 a3 a4 => ?_) _, fun z => G (nI (pu_cnt (bs_P m (xd_g v)) 4)) (by rw [z]; decide) (fun sa ys a1 a2 a3 a4 => ?_) _, fun z => bs_Y hn ok hk.2 hy hp (fun y => absurd y z) (fun _ => ⟨rfl, rl_mk hn hk hw ok (Or.inr ⟨rfl, hX⟩) hy hp hc⟩)⟩
  · subst z
    exact ⟨fun _ => rfl, fun y => absurd y (by decide), fun y => absurd y (by decide), fun y => absurd y (by decide), fun y => absurd rfl y⟩
  · subst z
    exact ⟨fun y => absurd y (by decide), fun _ => rfl, fun y => absurd y (by decide), fun y => absurd y (by decide), fun _ y => absurd rfl y⟩
  · subst z
    exact ⟨fun y => absurd y (by decide), fun y => absurd y (by decide), fun _ => a2.symm, fun y => absurd y (by decide), fun _ _ y => absurd rfl y⟩
  · subst z
    exact ⟨fun y => absurd y (by decide), fun y => absurd y (by decide), fun y => absurd y (by decide), fun _ => rfl, fun _ _ _ y => absurd rfl y⟩
  · subst z
    exact ⟨fun y => absurd y (by decide), fun y => absurd y (by decide), fun y => absurd y (by decide), fun y => absurd y (by decide), fun _ _ _ _ => rfl⟩
