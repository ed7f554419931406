/-- the relation: the same code, registers, inputs, outputs and counts; what is settled, known, placed is the pure picture's -/
def i_Rel (_ : Nat) (u : SX) (v : SY) : Prop :=
  ∃ (n k w : Nat) (st mv ms mc sv ch pa oc ss tk tn kn pl me sa fw : Int32) (o d a b ld re be bo cl co ne fe ip ce ou yb yw yc yo ys yt yl yp : Nat → Int32),
    u = (nI n, nI k, st, mv, ms, mc, sv, ch, nI w, pa, oc, ss, tk, tn, o, d, a, b, ld, re, be, bo, cl, co, ne, fe, ip, ce, ou) ∧ v = (nI n, nI k, kn, pl, me, sa, nI w, fw, o, d, a, b, yb, yw, yc, yo, ys, yt, ip, ou, yl, yp) ∧ n ≤ 20 ∧ (1 ≤ k ∧ k ≤ 4) ∧ w ≤ 8 ∧ sp_ok o d a b n ∧ (st = 0 ∨ (st = 1 ∧ xs_ok o d a b n k mv ms mc sv ch be bo cl co ne)) ∧ (kn = 0 ∨ (kn = 1 ∧ yk_ok o d a b n yb yc yo)) ∧ (pl = 0 ∨ (pl = 1 ∧ yp_ok o d a b n k me sa ys)) ∧ (oc = yp 0 ∧ ss = yp 1 ∧ tk = yp 2 ∧ tn = yp 3)
theorem i_up {k : Nat} {u : SX} {v : SY} (h : i_Rel k u v) : i_Rel (k + 5) u v := h
section
variable {n k w : Nat} {st mv ms mc sv ch pa oc ss tk tn kn pl me sa fw : Int32} {o d a b ld re be bo cl co ne fe ip ce ou yb yw yc yo ys yt yl yp : Nat → Int32}
theorem rl_mk {K : Nat} (hn : n ≤ 20) (hk : 1 ≤ k ∧ k ≤ 4) (hw : w ≤ 8) (ok : sp_ok o d a b n) (hx : st = 0 ∨ (st = 1 ∧ xs_ok o d a b n k mv ms mc sv ch be bo cl co ne)) (hy : kn = 0 ∨ (kn = 1 ∧ yk_ok o d a b n yb yc yo)) (hp : pl = 0 ∨ (pl = 1 ∧ yp_ok o d a b n k me sa ys)) (hc : oc = yp 0 ∧ ss = yp 1 ∧ tk = yp 2 ∧ tn = yp 3) : i_Rel K (nI n, nI k, st, mv, ms, mc, sv, ch, nI w, pa, oc, ss, tk, tn, o, d, a, b, ld, re, be, bo, cl, co, ne, fe, ip, ce, ou) (nI n, nI k, kn, pl, me, sa, nI w, fw, o, d, a, b, yb, yw, yc, yo, ys, yt, ip, ou, yl, yp) :=
  ⟨n, k, w, st, mv, ms, mc, sv, ch, pa, oc, ss, tk, tn, kn, pl, me, sa, fw, o, d, a, b, ld, re, be, bo, cl, co, ne, fe, ip, ce, ou, yb, yw, yc, yo, ys, yt, yl, yp, rfl, rfl, hn, hk, hw, ok, hx, hy, hp, hc⟩
end
theorem sp_ok_0 (o d a b : Nat → Int32) : sp_ok o d a b 0 := fun i hi => absurd hi (Nat.not_lt_zero i)
theorem i_vc0 : wpX_init (fun u => wpY_init (fun v => i_Rel 0 u v)) :=
  rl_mk (K := 0) (n := 0) (k := 2) (w := 0) (by decide) (by decide) (by decide) (sp_ok_0 _ _ _ _) (Or.inl rfl) (Or.inl rfl) (Or.inl rfl) ⟨rfl, rfl, rfl, rfl⟩
/-! put -/
def sp_ok2 (o d a b : Int32) : Prop := (sp_df o = true → 0 ≤ d ∧ d ≤ 7) ∧ (sp_ua o = true → 0 ≤ a ∧ a ≤ 7) ∧ (sp_ub o = true → 0 ≤ b ∧ b ≤ 7) ∧ (o = 6 → 0 ≤ a ∧ a ≤ 20) ∧ (o = 7 → 0 ≤ b ∧ b ≤ 20)
theorem pt_fit {post : Int32 → Prop} {o d a b : Int32} (T : sp_ok2 o d a b → post 1) (F : ¬ sp_ok2 o d a b → post 0) : wpX_operandsFit post o d a b := by
  have O63 : (sp_df o = true → 0 ≤ d ∧ d ≤ 7) → (sp_ua o = true → 0 ≤ a ∧ a ≤ 7) → (sp_ub o = true → 0 ≤ b ∧ b ≤ 7) → (o = 6 → 0 ≤ a ∧ a ≤ 20) → wX_operandsFit_63 post o b := fun h1 h2 h3 h4 =>
    br_c (fun z => wk_goal (fun g => br_f (by decide) (T ⟨h1, h2, h3, h4, fun _ => g⟩)) (fun g => br_t rfl (F (fun y => g (y.2.2.2.2 z))))) (fun z => T ⟨h1, h2, h3, h4, fun y => absurd y z⟩)
  have O48 : (sp_df o = true → 0 ≤ d ∧ d ≤ 7) → (sp_ua o = true → 0 ≤ a ∧ a ≤ 7) → (sp_ub o = true → 0 ≤ b ∧ b ≤ 7) → wX_operandsFit_48 post o a b := fun h1 h2 h3 =>
    br_c (fun z => wk_goal (fun g => br_f (by decide) (O63 h1 h2 h3 (fun _ => g))) (fun g => br_t rfl (F (fun y => g (y.2.2.2.1 z))))) (fun z => O63 h1 h2 h3 (fun y => absurd y z))
  have O32 : (sp_df o = true → 0 ≤ d ∧ d ≤ 7) → (sp_ua o = true → 0 ≤ a ∧ a ≤ 7) → wX_operandsFit_32 post o a b := fun h1 h2 =>
    wk_ub (fun z => br_f (by decide) (wk_tmp (fun g => br_f (by decide) (O48 h1 h2 (fun _ => g))) (fun g => br_t rfl (F (fun y => g (y.2.2.1 z)))))) (fun z => br_t rfl (O48 h1 h2 (fun y => absurd y z)))
  have O16 : (sp_df o = true → 0 ≤ d ∧ d ≤ 7) → wX_operandsFit_16 post o a b := fun h1 =>
    wk_ua (fun z => br_f (by decide) (wk_tmp (fun g => br_f (by decide) (O32 h1 (fun _ => g))) (fun g => br_t rfl (F (fun y => g (y.2.1 z)))))) (fun z => br_t rfl (O32 h1 (fun y => absurd y z)))
  exact wk_df (fun z => br_f (by decide) (wk_tmp (fun g => br_f (by decide) (O16 (fun _ => g))) (fun g => br_t rfl (F (fun y => g (y.1 z)))))) (fun z => br_t rfl (O16 (fun y => absurd y z)))
section
variable {n k : Nat} {kn pl me sa wa fw : Int32} {o d a b yb yw yc yo ys yt ip ou yl yp : Nat → Int32}
theorem pt_Y {post : Int32 → SY → Prop} {p q r s : Int32} (hn : n < 20) (hp : 0 ≤ p ∧ p ≤ 10) (T : sp_ok2 p q r s → wY_put_108 post p q r s (nI n) (nI k) kn pl me sa wa fw o d a b yb yw yc yo ys yt ip ou yl yp) (F : ¬ sp_ok2 p q r s → post (-1) (nI n, nI k, kn, pl, me, sa, wa, fw, o, d, a, b, yb, yw, yc, yo, ys, yt, ip, ou, yl, yp)) : wpY_put post (nI n, nI k, kn, pl, me, sa, wa, fw, o, d, a, b, yb, yw, yc, yo, ys, yt, ip, ou, yl, yp) p q r s := by
  have O89 : (sp_df p = true → 0 ≤ q ∧ q ≤ 7) → (sp_ua p = true → 0 ≤ r ∧ r ≤ 7) → (sp_ub p = true → 0 ≤ s ∧ s ≤ 7) → (p = 6 → 0 ≤ r ∧ r ≤ 20) → wY_put_89 post p q r s (nI n) (nI k) kn pl me sa wa fw o d a b yb yw yc yo ys yt ip ou yl yp := fun h1 h2 h3 h4 =>
    br_c (fun z => wk_in (fun g => br_f (by decide) (T ⟨h1, h2, h3, h4, fun _ => g⟩)) (fun g => br_t rfl (F (fun y => g (y.2.2.2.2 z))))) (fun z => T ⟨h1, h2, h3, h4, fun y => absurd y z⟩)
  have O73 : (sp_df p = true → 0 ≤ q ∧ q ≤ 7) → (sp_ua p = true → 0 ≤ r ∧ r ≤ 7) → (sp_ub p = true → 0 ≤ s ∧ s ≤ 7) → wY_put_73 post p q r s (nI n) (nI k) kn pl me sa wa fw o d a b yb yw yc yo ys yt ip ou yl yp := fun h1 h2 h3 =>
    br_c (fun z => wk_in (fun g => br_f (by decide) (O89 h1 h2 h3 (fun _ => g))) (fun g => br_t rfl (F (fun y => g (y.2.2.2.1 z))))) (fun z => O89 h1 h2 h3 (fun y => absurd y z))
  have O53 : (sp_df p = true → 0 ≤ q ∧ q ≤ 7) → (sp_ua p = true → 0 ≤ r ∧ r ≤ 7) → wY_put_53 post p q r s (nI n) (nI k) kn pl me sa wa fw o d a b yb yw yc yo ys yt ip ou yl yp := fun h1 h2 =>
    wk_ubY (fun z => br_f (by decide) (wk_in (fun g => br_f (by decide) (O73 h1 h2 (fun _ => g))) (fun g => br_t rfl (F (fun y => g (y.2.2.1 z)))))) (fun z => br_t rfl (O73 h1 h2 (fun y => absurd y z)))
  have O36 : (sp_df p = true → 0 ≤ q ∧ q ≤ 7) → wY_put_36 post p q r s (nI n) (nI k) kn pl me sa wa fw o d a b yb yw yc yo ys yt ip ou yl yp := fun h1 =>
    wk_uaY (fun z => br_f (by decide) (wk_in (fun g => br_f (by decide) (O53 h1 (fun _ => g))) (fun g => br_t rfl (F (fun y => g (y.2.1 z)))))) (fun z => br_t rfl (O53 h1 (fun y => absurd y z)))
  unfold wpY_put
  dsimp only
  exact wk_in (fun _ => br_f (by decide) (br_f (fun z => absurd ((nI_eq (b := 20) (by omega) (by decide)).mp z) (by omega)) (wk_dfY (fun z => br_f (by decide) (wk_in (fun g => br_f (by decide) (O36 (fun _ => g))) (fun g => br_t rfl (F (fun y => g (y.1 z)))))) (fun z => br_t rfl (O36 (fun y => absurd y z)))))) (fun z => absurd hp z)
end
section
variable {n k : Nat} {kn pl me sa wa fw : Int32} {o d a b yb yw yc yo ys yt ip ou yl yp : Nat → Int32}
theorem pt_Y20 {post : Int32 → SY → Prop} {p q r s : Int32} (h : post (-1) (nI 20, nI k, kn, pl, me, sa, wa, fw, o, d, a, b, yb, yw, yc, yo, ys, yt, ip, ou, yl, yp)) : wpY_put post (nI 20, nI k, kn, pl, me, sa, wa, fw, o, d, a, b, yb, yw, yc, yo, ys, yt, ip, ou, yl, yp) p q r s := by
  unfold wpY_put
  dsimp only
  exact wk_in (fun _ => br_f (by decide) (br_t rfl h)) (fun _ => br_t rfl h)
theorem pt_Yop {post : Int32 → SY → Prop} {p q r s : Int32} (hp : ¬ (0 ≤ p ∧ p ≤ 10)) (h : post (-1) (nI n, nI k, kn, pl, me, sa, wa, fw, o, d, a, b, yb, yw, yc, yo, ys, yt, ip, ou, yl, yp)) : wpY_put post (nI n, nI k, kn, pl, me, sa, wa, fw, o, d, a, b, yb, yw, yc, yo, ys, yt, ip, ou, yl, yp) p q r s := by
  unfold wpY_put
  dsimp only
  exact wk_in (fun z => absurd z hp) (fun _ => br_t rfl h)
theorem rg_Y {post : Int32 → SY → Prop} {p : Int32} (T : 1 ≤ p ∧ p ≤ 4 → post 1 (nI n, p, kn, 0, me, sa, wa, fw, o, d, a, b, yb, yw, yc, yo, ys, yt, ip, ou, yl, yp)) (F : ¬ (1 ≤ p ∧ p ≤ 4) → post 0 (nI n, nI k, kn, pl, me, sa, wa, fw, o, d, a, b, yb, yw, yc, yo, ys, yt, ip, ou, yl, yp)) : wpY_registers post (nI n, nI k, kn, pl, me, sa, wa, fw, o, d, a, b, yb, yw, yc, yo, ys, yt, ip, ou, yl, yp) p := by
  unfold wpY_registers
  dsimp only
  exact wk_in (fun z => br_f (by decide) (T z)) (fun z => br_t rfl (F z))
theorem se_Y {post : Int32 → Prop} {p : Int32} (T : 0 ≤ p ∧ p ≤ 3 → vp_in p 4 ∧ post (yp p.toNatClampNeg)) (F : ¬ (0 ≤ p ∧ p ≤ 3) → post 0) : wpY_spent post (nI n, nI k, kn, pl, me, sa, wa, fw, o, d, a, b, yb, yw, yc, yo, ys, yt, ip, ou, yl, yp) p := by
  unfold wpY_spent
  dsimp only
  exact wk_in (fun z => br_f (by decide) (T z)) (fun z => br_t rfl (F z))
end
theorem sp_ok_put {o d a b : Nat → Int32} {n : Nat} {p q r s : Int32} (ok : sp_ok o d a b n) (hp : 0 ≤ p ∧ p ≤ 10) (h : sp_ok2 p q r s) : sp_ok (upd o n p) (upd d n q) (upd a n r) (upd b n s) (n + 1) := by
  intro i hi
  by_cases z : i = n
  · subst z
    rw [pk_us, pk_us, pk_us, pk_us]
    exact ⟨nI_of2 (M := 10) (n := 10) (by decide) (Int32.not_lt.mpr hp.1) hp.2, fun y => wk_r7 (h.1 y), fun y => wk_r7 (h.2.1 y), fun y => wk_r7 (h.2.2.1 y), fun y => wk_r20 (h.2.2.2.1 y), fun y => wk_r20 (h.2.2.2.2 y)⟩
  · rw [pk_un z, pk_un z, pk_un z, pk_un z]
    exact ok i (by omega)
theorem i_vc_put {k : Nat} {u : SX} {v : SY} (I : i_Rel k u v) (hk : k + 5 ≤ 2560) (v1 : Int32) (v2 : Int32) (v3 : Int32) (v4 : Int32) : wpX_put (fun r u' => wpY_put (fun r' v' => r' = r ∧ i_Rel (k + 5) u' v') v v1 v2 v3 v4) u v1 v2 v3 v4 := by
  obtain ⟨n, k, w, st, mv, ms, mc, sv, ch, pa, oc, ss, tk, tn, kn, pl, me, sa, fw, o, d, a, b, ld, re, be, bo, cl, co, ne, fe, ip, ce, ou, yb, yw, yc, yo, ys, yt, yl, yp, rfl, rfl, hn, hk, hw, ok, hx, hy, hp, hc⟩ := I
  have R := fun K => rl_mk (K := K) (ld := ld) (re := re) (fe := fe) (ip := ip) (ce := ce) (ou := ou) (pa := pa) (fw := fw) (yw := yw) (yt := yt) (yl := yl) hn hk hw ok hx hy hp hc
  by_cases h20 : n = 20
  · subst h20
    exact br_t (Int32.le_refl _) (pt_Y20 ⟨rfl, R _⟩)
  · have n20 : n < 20 := by omega
    refine br_f (nI_ge (b := 20) n20 (by decide)) ?_
    by_cases hop : 0 ≤ v1 ∧ v1 ≤ 10
    · refine br_f (Int32.not_lt.mpr hop.1) (br_f (Int32.not_lt.mpr hop.2) (pt_fit (fun z => br_f (by decide) ?_) (fun z => br_t rfl (pt_Y n20 hop (fun y => absurd y z) (fun _ => ⟨rfl, R _⟩)))))
      have e : (nI n).toNatClampNeg = n := nI_clamp (by omega)
      have vv : vp_in (nI n) 20 := vp_in_nI n20 (by decide)
      rw [e]
      refine ⟨vv, nm_e ⟨vv, nm_e ⟨vv, nm_e ⟨vv, nm_e (nm_r (nI_1 n) (pt_Y n20 hop (fun _ => ?_) (fun y => absurd z y)))⟩⟩⟩⟩
      unfold wY_put_108
      rw [e]
      refine ⟨vv, nm_e ⟨vv, nm_e ⟨vv, nm_e ⟨vv, nm_e (nm_r (nI_1 n) ?_)⟩⟩⟩⟩
      exact ⟨rfl, rl_mk (by omega) hk hw (sp_ok_put ok hop z) (Or.inl rfl) (Or.inl rfl) (Or.inl rfl) hc⟩
    · by_cases h0 : v1 < 0
      · exact br_t h0 (pt_Yop hop ⟨rfl, R _⟩)
      · exact br_f h0 (br_t (Int32.not_le.mp (fun z => hop ⟨Int32.not_lt.mp h0, z⟩)) (pt_Yop hop ⟨rfl, R _⟩))
theorem i_vc_wipe {k : Nat} {u : SX} {v : SY} (I : i_Rel k u v) (hk : k + 5 ≤ 2560) : wpX_wipe (fun r u' => wpY_wipe (fun r' v' => r' = r ∧ i_Rel (k + 5) u' v') v) u := by
  obtain ⟨n, k, w, st, mv, ms, mc, sv, ch, pa, oc, ss, tk, tn, kn, pl, me, sa, fw, o, d, a, b, ld, re, be, bo, cl, co, ne, fe, ip, ce, ou, yb, yw, yc, yo, ys, yt, yl, yp, rfl, rfl, hn, hk, hw, ok, hx, hy, hp, hc⟩ := I
  exact ⟨rfl, rl_mk (n := 0) (by decide) hk hw (sp_ok_0 _ _ _ _) (Or.inl rfl) (Or.inl rfl) (Or.inl rfl) hc⟩
theorem i_vc_registers {k : Nat} {u : SX} {v : SY} (I : i_Rel k u v) (hk : k + 5 ≤ 2560) (v1 : Int32) : wpX_registers (fun r u' => wpY_registers (fun r' v' => r' = r ∧ i_Rel (k + 5) u' v') v v1) u v1 := by
  obtain ⟨n, k, w, st, mv, ms, mc, sv, ch, pa, oc, ss, tk, tn, kn, pl, me, sa, fw, o, d, a, b, ld, re, be, bo, cl, co, ne, fe, ip, ce, ou, yb, yw, yc, yo, ys, yt, yl, yp, rfl, rfl, hn, hk, hw, ok, hx, hy, hp, hc⟩ := I
  have R := fun K => rl_mk (K := K) (ld := ld) (re := re) (fe := fe) (ip := ip) (ce := ce) (ou := ou) (pa := pa) (fw := fw) (yw := yw) (yt := yt) (yl := yl) hn hk hw ok hx hy hp hc
  by_cases z : 1 ≤ v1 ∧ v1 ≤ 4
  · obtain ⟨q, hq, e⟩ := nI_of2 (M := 4) (n := 4) (by decide) (fun y => absurd (Int32.le_trans z.1 (Int32.le_of_lt y)) (by decide)) z.2
    subst e
    have q1 : 1 ≤ q := (nI_leI (a := 1) (by decide) (by omega)).mp z.1
    exact br_f (Int32.not_lt.mpr z.1) (br_t z.2 (rg_Y (fun _ => ⟨rfl, rl_mk hn ⟨q1, hq⟩ hw ok (Or.inl rfl) hy (Or.inl rfl) hc⟩) (fun y => absurd z y)))
  · by_cases h1 : v1 < 1
    · exact br_t h1 (rg_Y (fun y => absurd y z) (fun _ => ⟨rfl, R _⟩))
    · exact br_f h1 (br_f (fun y => z ⟨Int32.not_lt.mp h1, y⟩) (rg_Y (fun y => absurd y z) (fun _ => ⟨rfl, R _⟩)))
theorem i_vc_input {k : Nat} {u : SX} {v : SY} (I : i_Rel k u v) (hk : k + 5 ≤ 2560) (v1 : Int32) : wpX_input (fun r u' => wpY_input (fun r' v' => r' = r ∧ i_Rel (k + 5) u' v') v v1) u v1 := by
  obtain ⟨n, k, w, st, mv, ms, mc, sv, ch, pa, oc, ss, tk, tn, kn, pl, me, sa, fw, o, d, a, b, ld, re, be, bo, cl, co, ne, fe, ip, ce, ou, yb, yw, yc, yo, ys, yt, yl, yp, rfl, rfl, hn, hk, hw, ok, hx, hy, hp, hc⟩ := I
  have e : (nI w).toNatClampNeg = w := nI_clamp (by omega)
  by_cases z : w = 8
  · subst z
    exact br_f (by decide) (br_t rfl ⟨rfl, rl_mk hn hk hw ok hx hy hp hc⟩)
  · have vv : vp_in (nI w) 8 := vp_in_nI (by omega) (by decide)
    refine br_t (nI_lt (b := 8) (by omega) (by decide)) ⟨vv, ?_⟩
    rw [e]
    refine nm_e (nm_r (nI_1 w) (br_f (fun y => z ((nI_eq (b := 8) (by omega) (by decide)).mp y)) ⟨vv, ?_⟩))
    rw [e]
    exact nm_e (nm_r (nI_1 w) ⟨rfl, rl_mk hn hk (by omega) ok hx hy hp hc⟩)
theorem i_vc_rewind {k : Nat} {u : SX} {v : SY} (I : i_Rel k u v) (hk : k + 5 ≤ 2560) : wpX_rewind (fun r u' => wpY_rewind (fun r' v' => r' = r ∧ i_Rel (k + 5) u' v') v) u := by
  obtain ⟨n, k, w, st, mv, ms, mc, sv, ch, pa, oc, ss, tk, tn, kn, pl, me, sa, fw, o, d, a, b, ld, re, be, bo, cl, co, ne, fe, ip, ce, ou, yb, yw, yc, yo, ys, yt, yl, yp, rfl, rfl, hn, hk, hw, ok, hx, hy, hp, hc⟩ := I
  exact ⟨rfl, rl_mk (w := 0) hn hk (by decide) ok hx hy hp hc⟩
theorem i_vc_output {k : Nat} {u : SX} {v : SY} (I : i_Rel k u v) (hk : k + 5 ≤ 2560) (v1 : Int32) : wpX_output (fun r => wpY_output (fun r' => r' = r ∧ i_Rel (k + 5) u v) v v1) u v1 := by
  obtain ⟨n, k, w, st, mv, ms, mc, sv, ch, pa, oc, ss, tk, tn, kn, pl, me, sa, fw, o, d, a, b, ld, re, be, bo, cl, co, ne, fe, ip, ce, ou, yb, yw, yc, yo, ys, yt, yl, yp, rfl, rfl, hn, hk, hw, ok, hx, hy, hp, hc⟩ := I
  have R := fun K => rl_mk (K := K) (ld := ld) (re := re) (fe := fe) (ip := ip) (ce := ce) (ou := ou) (pa := pa) (fw := fw) (yw := yw) (yt := yt) (yl := yl) hn hk hw ok hx hy hp hc
  have e29 : ∀ x : Int32, x < 30 ↔ ¬ 29 < x := by
    intro x
    rw [Int32.lt_iff_toInt_lt, Int32.lt_iff_toInt_lt, show (30 : Int32).toInt = 30 from by decide, show (29 : Int32).toInt = 29 from by decide]
    omega
  by_cases h0 : v1 < 0
  · exact br_t h0 (br_t h0 ⟨rfl, R _⟩)
  · refine br_f h0 ?_
    by_cases hc1 : oc ≤ v1
    · refine br_t hc1 (br_f h0 (br_c (fun _ => ⟨rfl, R _⟩) (fun _ => br_f ?_ ⟨rfl, R _⟩)))
      rw [← hc.1]
      exact Int32.not_lt.mpr hc1
    · refine br_f hc1 ?_
      by_cases h30 : v1 < 30
      · have vv : vp_in v1 30 := by
          obtain ⟨j, hj, rfl⟩ := nI_of h0
          exact vp_in_nI ((nI_ltI (b := 30) hj (by decide)).mp h30) (by decide)
        refine br_t h30 ⟨vv, br_f h0 (br_f ((e29 v1).mp h30) (br_t ?_ ⟨vv, rfl, R _⟩))⟩
        rw [← hc.1]
        exact Int32.not_le.mp hc1
      · exact br_f h30 (br_f h0 (br_t (Decidable.byContradiction (fun y => h30 ((e29 v1).mpr y))) ⟨rfl, R _⟩))
theorem i_vc_spent {k : Nat} {u : SX} {v : SY} (I : i_Rel k u v) (hk : k + 5 ≤ 2560) (v1 : Int32) : wpX_spent (fun r => wpY_spent (fun r' => r' = r ∧ i_Rel (k + 5) u v) v v1) u v1 := by
  obtain ⟨n, k, w, st, mv, ms, mc, sv, ch, pa, oc, ss, tk, tn, kn, pl, me, sa, fw, o, d, a, b, ld, re, be, bo, cl, co, ne, fe, ip, ce, ou, yb, yw, yc, yo, ys, yt, yl, yp, rfl, rfl, hn, hk, hw, ok, hx, hy, hp, hc⟩ := I
  have R := fun K => rl_mk (K := K) (ld := ld) (re := re) (fe := fe) (ip := ip) (ce := ce) (ou := ou) (pa := pa) (fw := fw) (yw := yw) (yt := yt) (yl := yl) hn hk hw ok hx hy hp hc
  by_cases z : 0 ≤ v1 ∧ v1 ≤ 3
  · obtain ⟨q, hq, e⟩ := nI_of2 (M := 3) (n := 3) (by decide) (Int32.not_lt.mpr z.1) z.2
    have G : ∀ {P : Prop} x, yp q = x → P → wpY_spent (fun r' => r' = x ∧ P) (nI n, nI k, kn, pl, me, sa, nI w, fw, o, d, a, b, yb, yw, yc, yo, ys, yt, ip, ou, yl, yp) v1 := by
      intro P x ex hP
      refine se_Y (fun _ => ⟨by rw [e]; exact vp_in_nI (by omega) (by decide), ?_, hP⟩) (fun y => absurd z y)
      rw [e, nI_clamp (by omega)]
      exact ex
    have nq : ∀ j, j < 4 → q ≠ j → ¬ v1 = nI j := by
      intro j hj ne y
      rw [e, nI_eq (by omega) (by omega)] at y
      exact ne y
    refine br_f (Int32.not_lt.mpr z.1) (br_f (Int32.not_lt.mpr z.2) ?_)
    rcases (by omega : q = 0 ∨ q = 1 ∨ q = 2 ∨ q = 3) with y | y | y | y
    · subst y
      exact br_t e (G _ hc.1.symm (R _))
    · subst y
      exact br_f (nq 0 (by decide) (by decide)) (br_t e (G _ hc.2.1.symm (R _)))
    · subst y
      exact br_f (nq 0 (by decide) (by decide)) (br_f (nq 1 (by decide) (by decide)) (br_t e (G _ hc.2.2.1.symm (R _))))
    · subst y
      exact br_f (nq 0 (by decide) (by decide)) (br_f (nq 1 (by decide) (by decide)) (br_f (nq 2 (by decide) (by decide)) (br_t e (G _ hc.2.2.2.symm (R _)))))
  · by_cases h0 : v1 < 0
    · exact br_t h0 (se_Y (fun y => absurd y z) (fun _ => ⟨rfl, R _⟩))
    · exact br_f h0 (br_t (Int32.not_le.mp (fun y => z ⟨Int32.not_lt.mp h0, y⟩)) (se_Y (fun y => absurd y z) (fun _ => ⟨rfl, R _⟩)))
