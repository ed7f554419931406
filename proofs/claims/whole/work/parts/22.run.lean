theorem rn_cell_lt {m t v : Nat} (ht : t < 8) : rn_cell m (xd_g v) t < 12 := by
  unfold rn_cell
  have x4 : xd_g v t < 4 := Nat.mod_lt _ (by decide)
  by_cases z : m.testBit t = true
  · rw [if_pos z]
    omega
  · rw [if_neg z]
    omega
section
variable {n k m v : Nat} {st mv mc sv ic pa oc ss tk tn : Int32} {o d a b ld re be bo cl co ne fe ip ce ou : Nat → Int32} {kn pl me sa wa fw : Int32} {yb yw yc yo ys yt yl yp : Nat → Int32}
theorem rx_cell (hv : v < 65536) {t : Nat} (ht : t < 8) {post : Int32 → Prop} (h : post (nI (rn_cell m (xd_g v) t))) : wpX_cellOf post (nI n, nI k, st, mv, nI m, mc, sv, nI v, ic, pa, oc, ss, tk, tn, o, d, a, b, ld, re, be, bo, cl, co, ne, fe, ip, ce, ou) (nI t) := by
  unfold wpX_cellOf
  dsimp only
  unfold rn_cell at h
  refine wk_has (by omega) (fun g => br_f (by decide) ?_) (fun g => br_t rfl (wk_reg hv ht ?_))
  · rw [cx_bn _ (by omega)] at g
    rw [if_pos g] at h
    rw [show (4 : Int32) + nI t = nI (4 + t) from nI_add 4 t]
    exact h
  · rw [cx_bn _ (by omega)] at g
    rw [if_neg g] at h
    exact h
theorem rx_read (hv : v < 65536) {t : Nat} (ht : t < 8) {post : Int32 → Prop} (h : post (ce (rn_cell m (xd_g v) t))) : wpX_read post (nI n, nI k, st, mv, nI m, mc, sv, nI v, ic, pa, oc, ss, tk, tn, o, d, a, b, ld, re, be, bo, cl, co, ne, fe, ip, ce, ou) (nI t) := by
  have lt := rn_cell_lt (m := m) (v := v) ht
  unfold wpX_read
  dsimp only
  refine rx_cell hv ht ⟨vp_in_nI lt (by decide), ?_⟩
  rw [nI_clamp (by omega)]
  exact h
/-- what an instruction costs -/
def rp_c (o d a b : Nat → Int32) (m : Nat) (c : Nat → Nat) (i : Nat) (x : Int32) : Int32 := if sp_sv1 o d a (fun t => m.testBit t) c i = true then x else x + nI (1 + 2 * sp_nm o d a b (fun t => m.testBit t) i)
theorem rp_X (hn : n ≤ 20) (ok : sp_ok o d a b n) (hv : v < 65536) (hm : m < 256) {i : Nat} (hi : i < n) {post : SX → Prop} (h : wX_doInstruction_44 post (nI i) (nI n) (nI k) st mv (nI m) mc sv (nI v) ic pa oc (ss + 1) (rp_c o d a b m (xd_g v) i tk) tn o d a b ld re be bo cl co ne fe ip ce ou) : wpX_doInstruction post (nI n, nI k, st, mv, nI m, mc, sv, nI v, ic, pa, oc, ss, tk, tn, o, d, a, b, ld, re, be, bo, cl, co, ne, fe, ip, ce, ou) (nI i) := by
  unfold wpX_doInstruction
  dsimp only
  refine nm_e (xr_saved hn ok hi hv (fun z => br_f (by decide) ?_) (fun z => br_t rfl (xn_nam hn ok hi (nm_r (e' := tk + nI (1 + 2 * sp_nm o d a b (fun t => m.testBit t) i)) ?_ ?_))))
  · rw [rp_c, if_pos z] at h
    exact h
  · have e : sp_nm o d a b (fun q => bt (nI m) q) i = sp_nm o d a b (fun t => m.testBit t) i := by
      obtain ⟨_, k2, k3, k4, _⟩ := ok i hi
      have E : ∀ {p : Bool} {x : Int32}, (p = true → ∃ q, q < 8 ∧ x = nI q) → (p && bt (nI m) x.toNatClampNeg) = (p && m.testBit x.toNatClampNeg) := by
        intro p x hp
        cases p
        · rfl
        · obtain ⟨q, hq, rfl⟩ := hp rfl
          rw [nI_clamp (by omega), cx_bn _ (by omega)]
      unfold sp_nm
      rw [E k2, E k3, E k4]
    rw [e, show (2 : Int32) * nI (sp_nm o d a b (fun t => m.testBit t) i) = nI (2 * sp_nm o d a b (fun t => m.testBit t) i) from pk_mul 2 _, show (1 : Int32) + nI (2 * sp_nm o d a b (fun t => m.testBit t) i) = nI (1 + 2 * sp_nm o d a b (fun t => m.testBit t) i) from nI_add 1 _]
  · rw [rp_c, if_neg z] at h
    exact h
theorem rp_Y (hn : n ≤ 20) (ok : sp_ok o d a b n) {c : Nat → Nat} (c8 : ∀ t, t < 8 → c t ≤ 8) (tp : tp_is m c 8 ys) {i : Nat} (hi : i < n) {post : SY → Prop} (h : ∀ yq, yq 0 = yp 0 → yq 1 = yp 1 → yq 2 = rp_c o d a b m c i (yp 2) → yq 3 = yp 3 → post (nI n, nI k, kn, pl, me, sa, wa, fw, o, d, a, b, yb, yw, yc, yo, ys, yt, ip, ou, yl, yq)) : wpY_pay post (nI n, nI k, kn, pl, me, sa, wa, fw, o, d, a, b, yb, yw, yc, yo, ys, yt, ip, ou, yl, yp) (nI i) := by
  unfold wpY_pay
  dsimp only
  refine ya_saved_best hn ok hi c8 tp (fun z => br_f (by decide) (h yp rfl rfl (by rw [rp_c, if_pos z]) rfl)) (fun z => br_t rfl (nm_e ?_))
  refine pk_loop (fun q t (yq : Nat → Int32) => wY_pay_25 post (nI i) (nI n) (nI k) kn pl me sa wa fw q (nI t) o d a b yb yw yc yo ys yt ip ou yl yq) (fun t yq => yq 0 = yp 0 ∧ yq 1 = yp 1 ∧ yq 2 = yp 2 + nI (1 + 2 * pu_sum (fun t => if m.testBit t = true then sp_nm o d a b (fun x => decide (x = t)) i else 0) t) ∧ yq 3 = yp 3) 8 0 (upd yp 2 (yp 2 + 1)) (Nat.zero_le 8) ⟨pk_un (by decide), pk_un (by decide), pk_us, pk_un (by decide)⟩ ?_ ?_
  · intro q yq Q
    refine br_t (Int32.le_refl _) (h yq Q.1 Q.2.1 ?_ Q.2.2.2)
    rw [Q.2.2.1, rp_c, if_neg z, sp_nm_sum ok hi (fun t => m.testBit t)]
  · intro q t yq ht Q ih
    have e : (nI t).toNatClampNeg = t := nI_clamp (by omega)
    refine br_f (nI_ge (b := 8) ht (by decide)) ⟨vp_in_nI ht (by decide), ?_⟩
    rw [e, tp t ht]
    cases w : m.testBit t
    · have c2 := c8 t ht
      rw [tv_d w ht]
      refine br_f (tp_neg (by omega)) (nm_r (nI_1 t) (ih _ ⟨Q.1, Q.2.1, ?_, Q.2.2.2⟩))
      rw [Q.2.2.1, pu_sum, w]
      rfl
    · rw [tv_m w]
      refine br_t rfl (yk_times hn ok hi ht (nm_e (nm_r (nI_1 t) (ih _ ⟨?_, ?_, ?_, ?_⟩))))
      · rw [pk_un (by decide)]
        exact Q.1
      · rw [pk_un (by decide)]
        exact Q.2.1
      · rw [pk_us, Q.2.2.1, pu_sum, w, if_pos rfl, show (2 : Int32) * nI (sp_nm o d a b (fun x => decide (x = t)) i) = nI (2 * sp_nm o d a b (fun x => decide (x = t)) i) from pk_mul 2 _, Int32.add_assoc, nI_add]
        congr 2
        omega
      · rw [pk_un (by decide)]
        exact Q.2.2.2
theorem ry_step (hn : n ≤ 20) (ok : sp_ok o d a b n) {i : Nat} (hi : i < n) {post : Int32 → SY → Prop} (h : wY_step_70 post (nI i) (o i) (d i) (a i) (b i) (if sp_ua (o i) = true then yl (a i).toNatClampNeg else a i) (if sp_ub (o i) = true then yl (b i).toNatClampNeg else b i) (nI n) (nI k) kn pl me sa wa fw o d a b yb yw yc yo ys yt ip ou yl yp) : wpY_step post (nI n, nI k, kn, pl, me, sa, wa, fw, o, d, a, b, yb, yw, yc, yo, ys, yt, ip, ou, yl, yp) (nI i) := by
  have e : (nI i).toNatClampNeg = i := nI_clamp (by omega)
  have w : vp_in (nI i) 20 := vp_in_nI (by omega) (by decide)
  obtain ⟨_, _, k3, k4, _⟩ := ok i hi
  have G : wY_step_49 post (nI i) (o i) (d i) (a i) (b i) (if sp_ua (o i) = true then yl (a i).toNatClampNeg else a i) (nI n) (nI k) kn pl me sa wa fw o d a b yb yw yc yo ys yt ip ou yl yp := by
    refine wk_ubY (fun y => br_f (by decide) ⟨?_, ?_⟩) (fun y => br_t rfl ?_)
    · obtain ⟨q, hq, e2⟩ := k4 y
      rw [e2]
      exact vp_in_nI hq (by decide)
    · rw [if_pos y] at h
      exact h
    · rw [if_neg y] at h
      exact h
  unfold wpY_step
  dsimp only
  rw [e]
  refine ⟨w, nm_e ⟨w, nm_e ⟨w, nm_e ⟨w, nm_e (wk_uaY (fun y => br_f (by decide) ⟨?_, ?_⟩) (fun y => br_t rfl ?_))⟩⟩⟩⟩
  · obtain ⟨q, hq, e2⟩ := k3 y
    rw [e2]
    exact vp_in_nI hq (by decide)
  · rw [if_pos y] at G
    exact G
  · rw [if_neg y] at G
    exact G
end
