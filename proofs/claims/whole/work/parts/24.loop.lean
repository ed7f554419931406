section
variable {n k m v : Nat} {st mv mc sv ic pa oc ss tk tn : Int32} {o d a b ld re be bo cl co ne fe ip ce ou : Nat → Int32}
theorem so_n {i : Nat} (hi : i < n) : (if i + 1 < n then i + 1 else n) = i + 1 := by
  by_cases c : i + 1 < n
  · rw [if_pos c]
  · rw [if_neg c]
    omega
theorem so_up {f g : Nat → Int32} {t : Nat} {x : Int32} (h : ∀ j, j < 8 → f j = g j) : ∀ j, j < 8 → upd f t x j = upd g t x j := by
  intro j hj
  by_cases z : j = t
  · rw [z, pk_us, pk_us]
  · rw [pk_un z, pk_un z, h j hj]
/-- one instruction on both sides -/
def so_P (n m v : Nat) (st mv mc sv : Int32) (nk : Int32) (o d a b ld re be bo cl co ne fe ip ce ou yl : Nat → Int32) (w i q r : Nat) : Prop :=
  ∃ (p' q' r' : Nat) (ce' yl' ou' : Nat → Int32), p' ≤ 20 ∧ q' ≤ q + 1 ∧ r' ≤ r + 1 ∧ rn_ag o d a b n m (xd_g v) ce' yl' p' ∧
    (∀ (pa ss tk : Int32) (post : SX → Prop), post (nI n, nk, st, mv, nI m, mc, sv, nI v, nI w, nI p', nI q', ss, tk, nI r', o, d, a, b, ld, re, be, bo, cl, co, ne, fe, ip, ce', ou') → wX_doInstruction_44 post (nI i) (nI n) nk st mv (nI m) mc sv (nI v) (nI w) pa (nI q) ss tk (nI r) o d a b ld re be bo cl co ne fe ip ce ou) ∧
    (∀ (kn pl me sa fw : Int32) (yb yw yc yo ys yt yl2 yp : Nat → Int32), (∀ j, j < 8 → yl2 j = yl j) → yp 0 = nI q → yp 3 = nI r → ∀ post : Int32 → SY → Prop, (∀ yl3 yq, (∀ j, j < 8 → yl3 j = yl' j) → yq 0 = nI q' → yq 1 = yp 1 → yq 2 = yp 2 → yq 3 = nI r' → post (nI (if p' < n then p' else n)) (nI n, nk, kn, pl, me, sa, nI w, fw, o, d, a, b, yb, yw, yc, yo, ys, yt, ip, ou', yl3, yq)) → wpY_step post (nI n, nk, kn, pl, me, sa, nI w, fw, o, d, a, b, yb, yw, yc, yo, ys, yt, ip, ou, yl2, yp) (nI i))
theorem so_one {w i q r : Nat} {yl : Nat → Int32} (hn : n ≤ 20) (ok : sp_ok o d a b n) (hk : k ≤ 4) (hv : v < 65536) (hc : gc_vd (sp_K o d a b n) (fun t => m.testBit t) k (xd_g v)) (hi : i < n) (hw : w ≤ 8) (hq : q < 2 ^ 29) (hr : r < 2 ^ 29) (ag : rn_ag o d a b n m (xd_g v) ce yl i) : so_P n m v st mv mc sv (nI k) o d a b ld re be bo cl co ne fe ip ce ou yl w i q r := by
  have i20 : i < 20 := by omega
  obtain ⟨⟨z, hz, eo⟩, k2, k3, k4, k5, k6⟩ := ok i hi
  have RA : sp_ua (o i) = true → ∀ t, t < 8 → a i = nI t → ce (rn_cell m (xd_g v) t) = yl t := by
    intro u t ht e
    refine ag hi t ht (sp_lv_use hi ?_)
    unfold sp_U
    rw [u, decide_eq_true e]
    rfl
  have RB : sp_ub (o i) = true → ∀ t, t < 8 → b i = nI t → ce (rn_cell m (xd_g v) t) = yl t := by
    intro u t ht e
    refine ag hi t ht (sp_lv_use hi ?_)
    unfold sp_U
    rw [u, decide_eq_true e]
    simp
  have LN : ¬ o i = 6 → ¬ o i = 7 → ¬ o i = 10 → (i + 1 < n → sp_L o a b i (i + 1) = true) := by
    intro a1 a2 a3 _
    rw [sp_L_e a1 a2 a3]
    simp
  have cs : o i = 0 ∨ o i = 5 ∨ (o i = 1 ∨ o i = 2 ∨ o i = 3 ∨ o i = 4) ∨ o i = 9 ∨ o i = 6 ∨ o i = 7 ∨ o i = 8 ∨ o i = 10 := by
    have c : z = 0 ∨ z = 5 ∨ (z = 1 ∨ z = 2 ∨ z = 3 ∨ z = 4) ∨ z = 9 ∨ z = 6 ∨ z = 7 ∨ z = 8 ∨ z = 10 := by omega
    rcases c with c | c | (c | c | c | c) | c | c | c | c | c <;> subst c <;> rw [eo] <;> decide
  rcases cs with h | h | h | h | h | h | h | h
  · have D : sp_df (o i) = true := by rw [h]; decide
    have nA : ¬ sp_ua (o i) = true := by rw [h]; decide
    obtain ⟨t, ht, et⟩ := k2 D
    refine ⟨i + 1, q, r, upd ce (rn_cell m (xd_g v) t) (a i), upd yl t (a i), ou, by omega, by omega, by omega, rn_wr hc hk hi (LN (by rw [h]; decide) (by rw [h]; decide) (by rw [h]; decide)) D ht et (fun y => absurd (h.symm.trans y) (by decide)) ag, fun pa ss tk post hp => rs_def hv ht et i20 D (fun P hP => rv_0 i20 h hP) hp, fun kn pl me sa fw yb yw yc yo ys yt yl2 yp hl e0 e3 post hp => ry_step hn ok hi ?_⟩
    rw [if_neg nA]
    rw [so_n hi] at hp
    exact rt_05 ht hn hi et (Or.inl h) (hp _ yp (so_up hl) e0 rfl rfl e3)
  · have D : sp_df (o i) = true := by rw [h]; decide
    have A : sp_ua (o i) = true := by rw [h]; decide
    obtain ⟨t, ht, et⟩ := k2 D
    obtain ⟨u, hu, eu⟩ := k3 A
    have ev := RA A u hu eu
    refine ⟨i + 1, q, r, upd ce (rn_cell m (xd_g v) t) (yl u), upd yl t (yl u), ou, by omega, by omega, by omega, rn_wr hc hk hi (LN (by rw [h]; decide) (by rw [h]; decide) (by rw [h]; decide)) D ht et (fun _ x hx e2 => ?_) ag, fun pa ss tk post hp => rs_def hv ht et i20 D (fun P hP => rv_5 hv hu eu i20 h (by rw [ev]; exact hP)) hp, fun kn pl me sa fw yb yw yc yo ys yt yl2 yp hl e0 e3 post hp => ry_step hn ok hi ?_⟩
    · rw [eu, nI_eq (by omega) (by omega)] at e2
      rw [e2]
    · rw [if_pos A, eu, nI_clamp (by omega), hl u hu]
      rw [so_n hi] at hp
      exact rt_05 ht hn hi et (Or.inr h) (hp _ yp (so_up hl) e0 rfl rfl e3)
  · have D : sp_df (o i) = true := by rcases h with h | h | h | h <;> rw [h] <;> decide
    have A : sp_ua (o i) = true := by rcases h with h | h | h | h <;> rw [h] <;> decide
    have B : sp_ub (o i) = true := by rcases h with h | h | h | h <;> rw [h] <;> decide
    have n5 : ¬ o i = 5 := by rcases h with h | h | h | h <;> rw [h] <;> decide
    have n6 : ¬ o i = 6 := by rcases h with h | h | h | h <;> rw [h] <;> decide
    have n7 : ¬ o i = 7 := by rcases h with h | h | h | h <;> rw [h] <;> decide
    have n10 : ¬ o i = 10 := by rcases h with h | h | h | h <;> rw [h] <;> decide
    obtain ⟨t, ht, et⟩ := k2 D
    obtain ⟨u, hu, eu⟩ := k3 A
    obtain ⟨x, hx, ex⟩ := k4 B
    have ev := RA A u hu eu
    have ev2 := RB B x hx ex
    refine ⟨i + 1, q, r, upd ce (rn_cell m (xd_g v) t) (rv_op (o i) (yl u) (yl x)), upd yl t (rv_op (o i) (yl u) (yl x)), ou, by omega, by omega, by omega, rn_wr hc hk hi (LN n6 n7 n10) D ht et (fun y => absurd y n5) ag, fun pa ss tk post hp => rs_def hv ht et i20 D (fun P hP => rv_2 hv hu eu hx ex i20 h (by rw [ev, ev2]; exact hP)) hp, fun kn pl me sa fw yb yw yc yo ys yt yl2 yp hl e0 e3 post hp => ry_step hn ok hi ?_⟩
    rw [if_pos A, if_pos B, eu, ex, nI_clamp (by omega), nI_clamp (by omega), hl u hu, hl x hx]
    rw [so_n hi] at hp
    exact rt_op ht hn hi et h (hp _ yp (so_up hl) e0 rfl rfl e3)
  · have D : sp_df (o i) = true := by rw [h]; decide
    have nA : ¬ sp_ua (o i) = true := by rw [h]; decide
    have nB : ¬ sp_ub (o i) = true := by rw [h]; decide
    obtain ⟨t, ht, et⟩ := k2 D
    refine ⟨i + 1, q, r + 1, upd ce (rn_cell m (xd_g v) t) (if r < w then ip r else 0), upd yl t (if r < w then ip r else 0), ou, by omega, by omega, by omega, rn_wr hc hk hi (LN (by rw [h]; decide) (by rw [h]; decide) (by rw [h]; decide)) D ht et (fun y => absurd (h.symm.trans y) (by decide)) ag, fun pa ss tk post hp => rs_def hv ht et i20 D (fun P hP => rv_9 (by omega) hw i20 h hP) hp, fun kn pl me sa fw yb yw yc yo ys yt yl2 yp hl e0 e3 post hp => ry_step hn ok hi ?_⟩
    rw [if_neg nA, if_neg nB, h]
    rw [so_n hi] at hp
    exact rt_9 ht (by omega) hw e3 et (fun yq g0 g1 g2 g3 => hp _ yq (so_up hl) (g0.trans e0) g1 g2 g3)
  · have D : sp_df (o i) = false := by rw [h]; decide
    have nA : ¬ sp_ua (o i) = true := by rw [h]; decide
    have nB : ¬ sp_ub (o i) = true := by rw [h]; decide
    obtain ⟨t, ht, et⟩ := k5 h
    refine ⟨t, q, r, ce, yl, ou, ht, by omega, by omega, rn_go hi (fun _ => by rw [sp_L_6 h, decide_eq_true et]) D ag, fun pa ss tk post hp => rs_6 i20 h (by rw [et]; exact hp), fun kn pl me sa fw yb yw yc yo ys yt yl2 yp hl e0 e3 post hp => ry_step hn ok hi ?_⟩
    rw [if_neg nA, if_neg nB, h]
    exact rt_6 ht hn et (hp _ yp hl e0 rfl rfl e3)
  · have D : sp_df (o i) = false := by rw [h]; decide
    have A : sp_ua (o i) = true := by rw [h]; decide
    have nB : ¬ sp_ub (o i) = true := by rw [h]; decide
    obtain ⟨t, ht, et⟩ := k6 h
    obtain ⟨u, hu, eu⟩ := k3 A
    have ev := RA A u hu eu
    by_cases c : yl u = 0
    · refine ⟨t, q, r, ce, yl, ou, ht, by omega, by omega, rn_go hi (fun _ => by rw [sp_L_7 h, decide_eq_true et]; rfl) D ag, fun pa ss tk post hp => rs_7 hv hu eu i20 h (by rw [ev, if_pos c, et]; exact hp), fun kn pl me sa fw yb yw yc yo ys yt yl2 yp hl e0 e3 post hp => ry_step hn ok hi ?_⟩
      rw [if_pos A, if_neg nB, h, eu, nI_clamp (by omega), hl u hu]
      exact rt_7 ht hn et (fun _ => hp _ yp hl e0 rfl rfl e3) (fun y => absurd c y)
    · refine ⟨i + 1, q, r, ce, yl, ou, by omega, by omega, by omega, rn_go hi (fun _ => by rw [sp_L_7 h]; simp) D ag, fun pa ss tk post hp => rs_7 hv hu eu i20 h (by rw [ev, if_neg c]; exact hp), fun kn pl me sa fw yb yw yc yo ys yt yl2 yp hl e0 e3 post hp => ry_step hn ok hi ?_⟩
      rw [if_pos A, if_neg nB, h, eu, nI_clamp (by omega), hl u hu]
      rw [so_n hi] at hp
      exact rt_7 ht hn et (fun y => absurd y c) (fun _ => hp _ yp hl e0 rfl rfl e3)
  · have D : sp_df (o i) = false := by rw [h]; decide
    have A : sp_ua (o i) = true := by rw [h]; decide
    have nB : ¬ sp_ub (o i) = true := by rw [h]; decide
    obtain ⟨u, hu, eu⟩ := k3 A
    have ev := RA A u hu eu
    refine ⟨i + 1, q + 1, r, ce, yl, (if q < 30 then upd ou q (yl u) else ou), by omega, by omega, by omega, rn_go hi (LN (by rw [h]; decide) (by rw [h]; decide) (by rw [h]; decide)) D ag, fun pa ss tk post hp => rs_8 hv (by omega) hu eu i20 h (by rw [ev]; exact hp), fun kn pl me sa fw yb yw yc yo ys yt yl2 yp hl e0 e3 post hp => ry_step hn ok hi ?_⟩
    rw [if_pos A, if_neg nB, h, eu, nI_clamp (by omega), hl u hu]
    rw [so_n hi] at hp
    exact rt_8 (by omega) e0 (fun yq g0 g1 g2 g3 => hp _ yq hl g0 g1 g2 (g3.trans e3))
  · have nA : ¬ sp_ua (o i) = true := by rw [h]; decide
    have nB : ¬ sp_ub (o i) = true := by rw [h]; decide
    refine ⟨n, q, r, ce, yl, ou, hn, by omega, by omega, fun y => absurd y (Nat.lt_irrefl n), fun pa ss tk post hp => rs_10 i20 h hp, fun kn pl me sa fw yb yw yc yo ys yt yl2 yp hl e0 e3 post hp => ry_step hn ok hi ?_⟩
    rw [if_neg nA, if_neg nB, h]
    rw [if_neg (Nat.lt_irrefl n)] at hp
    exact rt_10 (hp _ yp hl e0 rfl rfl e3)
end
