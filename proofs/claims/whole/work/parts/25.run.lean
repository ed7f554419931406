section
variable {n k m v : Nat} {st mv mc sv ic pa oc ss tk tn : Int32} {o d a b ld re be bo cl co ne fe ip ce ou : Nat → Int32}
/-- both runs from the same place -/
theorem rl_run {w : Nat} (hn : n ≤ 20) (ok : sp_ok o d a b n) (hk : k ≤ 4) (hv : v < 65536) (hm : m < 256) (hc : gc_vd (sp_K o d a b n) (fun t => m.testBit t) k (xd_g v)) (hw : w ≤ 8) : ∀ (x s p q r : Nat) (tk : Int32) (ce ou yl : Nat → Int32), s + x = 200 → p ≤ 20 → q ≤ s → r ≤ s → rn_ag o d a b n m (xd_g v) ce yl p →
    ∃ (rr pa' oc' ss' tk' tn' : Int32) (ce' ou' : Nat → Int32),
      (∀ post : Int32 → SX → Prop, post rr (nI n, nI k, st, mv, nI m, mc, sv, nI v, nI w, pa', oc', ss', tk', tn', o, d, a, b, ld, re, be, bo, cl, co, ne, fe, ip, ce', ou') → ∃ f, wX_run_10 post f (nI s) (nI n) (nI k) st mv (nI m) mc sv (nI v) (nI w) (nI p) (nI q) (nI s) tk (nI r) o d a b ld re be bo cl co ne fe ip ce ou) ∧
      (∀ (kn pl me sa fw : Int32) (yb yw yc yo ys yt yl2 yp : Nat → Int32), tp_is m (xd_g v) 8 ys → (∀ j, j < 8 → yl2 j = yl j) → yp 0 = nI q → yp 1 = nI s → yp 2 = tk → yp 3 = nI r → ∀ post : Int32 → SY → Prop, (∀ yl3 yq, yq 0 = oc' → yq 1 = ss' → yq 2 = tk' → yq 3 = tn' → post rr (nI n, nI k, kn, pl, me, sa, nI w, fw, o, d, a, b, yb, yw, yc, yo, ys, yt, ip, ou', yl3, yq)) → ∀ f, x + 1 ≤ f → wY_run_47 post f (nI (if p < n then p else n)) (nI n) (nI k) kn pl me sa (nI w) fw o d a b yb yw yc yo ys yt ip ou yl2 yp) := by
  have c8 : ∀ t, t < 8 → xd_g v t ≤ 8 := fun t _ => by have := Nat.mod_lt (v / 2 ^ (14 - 2 * t)) (show 0 < 4 by decide); unfold xd_g; omega
  intro x
  induction x with
  | zero =>
    intro s p q r tk ce ou yl hs hp hq hr ag
    have es : s = 200 := by omega
    subst es
    by_cases c : p < n
    · refine ⟨1, nI p, nI q, nI 200, tk, nI r, ce, ou, fun post h => ⟨1, br_t (Int32.le_refl _) (br_f (nI_ge c (by omega)) h)⟩, fun kn pl me sa fw yb yw yc yo ys yt yl2 yp tp hl e0 e1 e2 e3 post h f hf => ?_⟩
      obtain ⟨g, rfl⟩ : ∃ g, f = g + 1 := ⟨f - 1, by omega⟩
      rw [if_pos c]
      exact br_f (nI_ge c (by omega)) (br_t e1 (h yl2 yp e0 e1 e2 e3))
    · refine ⟨0, nI p, nI q, nI 200, tk, nI r, ce, ou, fun post h => ⟨1, br_t (Int32.le_refl _) (br_t (nI_le (by omega) (by omega)) h)⟩, fun kn pl me sa fw yb yw yc yo ys yt yl2 yp tp hl e0 e1 e2 e3 post h f hf => ?_⟩
      obtain ⟨g, rfl⟩ : ∃ g, f = g + 1 := ⟨f - 1, by omega⟩
      rw [if_neg c]
      exact br_t (Int32.le_refl _) (h yl2 yp e0 e1 e2 e3)
  | succ x ih =>
    intro s p q r tk ce ou yl hs hp hq hr ag
    have s2 : s < 200 := by omega
    by_cases c : p < n
    · obtain ⟨p', q', r', ce', yl', ou', b1, b2, b3, ag', X, Y⟩ := so_one (st := st) (mv := mv) (mc := mc) (sv := sv) (ld := ld) (re := re) (be := be) (bo := bo) (cl := cl) (co := co) (ne := ne) (fe := fe) (ip := ip) (ou := ou) hn ok hk hv hc c hw (q := q) (r := r) (by omega) (by omega) ag
      obtain ⟨rr, pa2, oc2, ss2, tk2, tn2, ce2, ou2, HX, HY⟩ := ih (s + 1) p' q' r' (rp_c o d a b m (xd_g v) p tk) ce' ou' yl' (by omega) b1 (by omega) (by omega) ag'
      refine ⟨rr, pa2, oc2, ss2, tk2, tn2, ce2, ou2, fun post h => ?_, fun kn pl me sa fw yb yw yc yo ys yt yl2 yp tp hl e0 e1 e2 e3 post h f hf => ?_⟩
      · obtain ⟨f, hf⟩ := HX post h
        refine ⟨f + 1, br_f (nI_ge (b := 200) s2 (by decide)) (br_f (nI_ge c (by omega)) (rp_X hn ok hv hm c (X _ _ _ _ ?_)))⟩
        rw [← nI_1 s] at hf
        exact nm_e hf
      · obtain ⟨g, rfl⟩ : ∃ g, f = g + 1 := ⟨f - 1, by omega⟩
        rw [if_pos c]
        refine br_f (nI_ge c (by omega)) (br_f (fun z => ?_) (nm_e (rp_Y hn ok c8 tp c (fun yq f0 f1 f2 f3 => Y _ _ _ _ _ _ _ _ _ _ _ _ yq hl ?_ ?_ _ (fun yl3 yr hl3 g0 g1 g2 g3 => HY _ _ _ _ _ _ _ _ _ _ _ _ yr tp hl3 g0 ?_ ?_ g3 post h g (by omega))))))
        · rw [e1] at z
          have := (nI_eq (b := 200) (by omega) (by decide)).mp z
          omega
        · rw [f0, pk_un (by decide), e0]
        · rw [f3, pk_un (by decide), e3]
        · rw [g1, f1, pk_us, e1, nI_1]
        · rw [g2, f2, pk_un (by decide), e2]
    · refine ⟨0, nI p, nI q, nI s, tk, nI r, ce, ou, fun post h => ⟨1, br_f (nI_ge (b := 200) s2 (by decide)) (br_t (nI_le (by omega) (by omega)) (br_t (nI_le (by omega) (by omega)) h))⟩, fun kn pl me sa fw yb yw yc yo ys yt yl2 yp tp hl e0 e1 e2 e3 post h f hf => ?_⟩
      obtain ⟨g, rfl⟩ : ∃ g, f = g + 1 := ⟨f - 1, by omega⟩
      rw [if_neg c]
      exact br_t (Int32.le_refl _) (h yl2 yp e0 e1 e2 e3)
end
section
variable {n k : Nat} {st mv ms mc sv ch ic pa oc ss tk tn : Int32} {o d a b ld re be bo cl co ne fe ip ce ou : Nat → Int32} {kn pl me sa wa fw : Int32} {yb yw yc yo ys yt yl yp : Nat → Int32}
theorem rr_X (hn : n ≤ 20) (ok : sp_ok o d a b n) (hk : k ≤ 4) (hs : st = 0 ∨ (st = 1 ∧ xs_ok o d a b n k mv ms mc sv ch be bo cl co ne)) {post : Int32 → SX → Prop} (T : ∀ m v, m < 256 → v < 65536 → ∀ mv mc sv ld re be bo cl co ne fe ce, xs_ok o d a b n k mv (nI m) mc sv (nI v) be bo cl co ne → (∀ j, j < 12 → ce j = 0) → ∃ f, wX_run_10 post f 0 (nI n) (nI k) 1 mv (nI m) mc sv (nI v) ic 0 0 0 0 0 o d a b ld re be bo cl co ne fe ip ce ou) : wpX_run post (nI n, nI k, st, mv, ms, mc, sv, ch, ic, pa, oc, ss, tk, tn, o, d, a, b, ld, re, be, bo, cl, co, ne, fe, ip, ce, ou) := by
  unfold wpX_run
  dsimp only
  refine xs_settle hn ok hk hs (fun mv ms mc sv ch ld re be bo cl co ne fe h => ?_)
  have h2 := h
  obtain ⟨_, _, _, _, _, _, m, e1, hM, _, v, hv, e3, _, _⟩ := h2
  subst e1
  subst e3
  refine pk_loop (fun q j (c : Nat → Int32) => wX_startRun_2 (fun u => match u with | (t1, t2, t3, t4, t5, t6, t7, t8, t9, s1, s2, s3, s4, s5, u1, u2, u3, u4, u5, u6, u7, u8, u9, w1, w2, w3, w4, w5, w6) => ∃ f : Nat, wX_run_10 post f 0 t1 t2 t3 t4 t5 t6 t7 t8 t9 s1 s2 s3 s4 s5 u1 u2 u3 u4 u5 u6 u7 u8 u9 w1 w2 w3 w4 w5 w6) (nI n) (nI k) 1 mv (nI m) mc sv (nI v) ic pa oc ss tk tn q (nI j) o d a b ld re be bo cl co ne fe ip c ou) (fun j c => ∀ w, w < j → c w = (fun _ => 0) w) 12 0 ce (Nat.zero_le 12) (fun w hw => absurd hw (Nat.not_lt_zero w)) ?_ ?_
  · intro q c Q
    exact br_t (Int32.le_refl _) (T m v hM.1 hv mv mc sv ld re be bo cl co ne fe c h Q)
  · intro q j c hj Q ih
    have e : (nI j).toNatClampNeg = j := nI_clamp (by omega)
    refine br_f (nI_ge (b := 12) hj (by decide)) ⟨vp_in_nI hj (by decide), ?_⟩
    rw [e]
    exact nm_e (nm_r (nI_1 j) (ih _ (up_lt Q rfl)))
theorem rr_Y (hn : n ≤ 20) (ok : sp_ok o d a b n) (hk : k ≤ 4) (hs : kn = 0 ∨ (kn = 1 ∧ yk_ok o d a b n yb yc yo)) (hp : pl = 0 ∨ (pl = 1 ∧ yp_ok o d a b n k me sa ys)) {post : Int32 → SY → Prop} (T : ∀ me sa fw yb yw yc yo ys yt yl yp, yk_ok o d a b n yb yc yo → yp_ok o d a b n k me sa ys → (∀ j, j < 8 → yl j = 0) → (∀ j, j < 4 → yp j = 0) → ∃ f, wY_run_47 post f 0 (nI n) (nI k) 1 1 me sa wa fw o d a b yb yw yc yo ys yt ip ou yl yp) : wpY_run post (nI n, nI k, kn, pl, me, sa, wa, fw, o, d, a, b, yb, yw, yc, yo, ys, yt, ip, ou, yl, yp) := by
  unfold wpY_run
  dsimp only
  refine ya_alloc hn ok hk hs hp (fun me sa fw yb yw yc yo ys yt hY hP => ?_)
  refine pk_loop (fun q j (c : Nat → Int32) => wY_run_6 post (nI n) (nI k) 1 1 me sa wa fw q (nI j) o d a b yb yw yc yo ys yt ip ou c yp) (fun j c => ∀ w, w < j → c w = (fun _ => 0) w) 8 0 yl (Nat.zero_le 8) (fun w hw => absurd hw (Nat.not_lt_zero w)) ?_ ?_
  · intro q c Q
    refine br_t (Int32.le_refl _) ?_
    refine pk_loop (fun q j (s : Nat → Int32) => wY_run_27 post (nI n) (nI k) 1 1 me sa wa fw q (nI j) o d a b yb yw yc yo ys yt ip ou c s) (fun j s => ∀ w, w < j → s w = (fun _ => 0) w) 4 0 yp (Nat.zero_le 4) (fun w hw => absurd hw (Nat.not_lt_zero w)) ?_ ?_
    · intro q s R
      exact br_t (Int32.le_refl _) (T _ _ _ _ _ _ _ _ _ c s hY hP Q R)
    · intro q j s hj R ih
      have e : (nI j).toNatClampNeg = j := nI_clamp (by omega)
      refine br_f (nI_ge (b := 4) hj (by decide)) ⟨vp_in_nI hj (by decide), ?_⟩
      rw [e]
      exact nm_e (nm_r (nI_1 j) (ih _ (up_lt R rfl)))
  · intro q j c hj Q ih
    have e : (nI j).toNatClampNeg = j := nI_clamp (by omega)
    refine br_f (nI_ge (b := 8) hj (by decide)) ⟨vp_in_nI hj (by decide), ?_⟩
    rw [e]
    exact nm_e (nm_r (nI_1 j) (ih _ (up_lt Q rfl)))
end
theorem i_vc_run {k : Nat} {u : SX} {v : SY} (I : i_Rel k u v) (hk : k + 5 ≤ 2560) : wpX_run (fun r u' => wpY_run (fun r' v' => r' = r ∧ i_Rel (k + 5) u' v') v) u := by
  obtain ⟨n, k, w, st, mv, ms, mc, sv, ch, pa, oc, ss, tk, tn, kn, pl, me, sa, fw, o, d, a, b, ld, re, be, bo, cl, co, ne, fe, ip, ce, ou, yb, yw, yc, yo, ys, yt, yl, yp, rfl, rfl, hn, hk, hw, ok, hx, hy, hp, hc⟩ := I
  refine rr_X hn ok hk.2 hx (fun m v hm hv mv mc sv ld re be bo cl co ne fe ce hX hz => ?_)
  have V : gc_vd (sp_K o d a b n) (fun t => m.testBit t) k (xd_g v) := by
    obtain ⟨_, _, _, _, _, _, m', e1, hM, _, v', hv', e3, hB, _⟩ := hX
    have b1 := hM.1
    rw [nI_eq (by omega) (by omega)] at e1 e3
    subst e1
    subst e3
    exact hB.1
  obtain ⟨rr, pa2, oc2, ss2, tk2, tn2, ce2, ou2, HX, HY⟩ := rl_run (st := 1) (mv := mv) (mc := mc) (sv := sv) (ld := ld) (re := re) (be := be) (bo := bo) (cl := cl) (co := co) (ne := ne) (fe := fe) (ip := ip) hn ok hk.2 hv hm V hw 200 0 0 0 0 0 ce ou (fun _ => 0) rfl (by decide) (by decide) (by decide) (fun _ t ht _ => hz _ (rn_cell_lt ht))
  refine HX _ (rr_Y hn ok hk.2 hy hp (fun me sa fw yb yw yc yo ys yt yl yp hY hP hl hs => ⟨201, ?_⟩))
  obtain ⟨_, _, _, tp, _⟩ := xy_eq2 hm hv ok hX hP
  have K := HY 1 1 me sa fw yb yw yc yo ys yt yl yp tp hl (hs 0 (by decide)) (hs 1 (by decide)) (hs 2 (by decide)) (hs 3 (by decide)) (fun r' v' => r' = rr ∧ i_Rel (k + 5) ((nI n, nI k, 1, mv, nI m, mc, sv, nI v, nI w, pa2, oc2, ss2, tk2, tn2, o, d, a, b, ld, re, be, bo, cl, co, ne, fe, ip, ce2, ou2)) v') (fun yl3 yq g0 g1 g2 g3 => ⟨rfl, rl_mk hn hk hw ok (Or.inr ⟨rfl, hX⟩) (Or.inr ⟨rfl, hY⟩) (Or.inr ⟨rfl, hP⟩) ⟨g0.symm, g1.symm, g2.symm, g3.symm⟩⟩) 201 (by decide)
  have e0 : nI (if 0 < n then 0 else n) = 0 := by
    by_cases c : 0 < n
    · rw [if_pos c]
      rfl
    · rw [if_neg c, show n = 0 by omega]
      rfl
  rw [e0] at K
  exact K
