theorem xr_sh : ∀ t, t < 8 → ((1 : Int32) <<< ((14 - (2 * nI t)) &&& 31)) - 1 = nI (2 ^ (14 - 2 * t) - 1) := by decide +kernel
theorem xr_skip {v t : Nat} (hv : v < 65536) (ht : t < 8) : (nI v ||| (((1 : Int32) <<< ((14 - (2 * nI t)) &&& 31)) - 1)) + 1 = nI (xd_skip v t) := by
  rw [xr_sh t ht, nx_or, xd_or, nI_1]
  have p := Nat.two_pow_pos (14 - 2 * t)
  have q : 0 < (v / 2 ^ (14 - 2 * t) + 1) * 2 ^ (14 - 2 * t) := Nat.mul_pos (Nat.succ_pos _) p
  unfold xd_skip
  congr 1
  omega
/-- what the count of allocations has found below v -/
def xr_inv (V : (Nat → Nat) → Prop) (S : (Nat → Nat) → Nat) (v : Nat) (sv ch : Int32) : Prop :=
  (sv = -1 ∧ ch = 0 ∧ ∀ u, u < v → ¬ V (xd_g u)) ∨ (∃ c, c < v ∧ ch = nI c ∧ sv = nI (S (xd_g c)) ∧ V (xd_g c) ∧ (∀ u, u < v → V (xd_g u) → S (xd_g u) ≤ S (xd_g c)) ∧ (∀ u, u < c → V (xd_g u) → S (xd_g u) < S (xd_g c)))
theorem xr_none {V : (Nat → Nat) → Prop} {S : (Nat → Nat) → Nat} {v w : Nat} {sv ch : Int32} (I : xr_inv V S v sv ch) (hw : v ≤ w) (h : ∀ u, v ≤ u → u < w → ¬ V (xd_g u)) : xr_inv V S w sv ch := by
  rcases I with ⟨a, b, c⟩ | ⟨c, c1, c2, c3, c4, c5, c6⟩
  · refine Or.inl ⟨a, b, fun u hu => ?_⟩
    rcases Nat.lt_or_ge u v with g | g
    · exact c u g
    · exact h u g hu
  · refine Or.inr ⟨c, by omega, c2, c3, c4, fun u hu z => ?_, c6⟩
    rcases Nat.lt_or_ge u v with g | g
    · exact c5 u g z
    · exact absurd z (h u g hu)
theorem xr_keep {V : (Nat → Nat) → Prop} {S : (Nat → Nat) → Nat} {v : Nat} {sv ch : Int32} (hS : ∀ c, S c ≤ 20) (I : xr_inv V S v sv ch) (h : nI (S (xd_g v)) ≤ sv) : xr_inv V S (v + 1) sv ch := by
  rcases I with ⟨a, b, c⟩ | ⟨c, c1, c2, c3, c4, c5, c6⟩
  · rw [a] at h
    have z := nI_pos' (n := S (xd_g v)) (by have := hS (xd_g v); omega)
    exact absurd (Int32.le_trans z h) (by decide)
  · rw [c3, nI_leI (by have := hS (xd_g v); omega) (by have := hS (xd_g c); omega)] at h
    refine Or.inr ⟨c, by omega, c2, c3, c4, fun u hu z => ?_, c6⟩
    rcases Nat.lt_or_ge u v with g | g
    · exact c5 u g z
    · have e : u = v := by omega
      rw [e]
      exact h
theorem xr_take {V : (Nat → Nat) → Prop} {S : (Nat → Nat) → Nat} {v : Nat} {sv ch : Int32} (hS : ∀ c, S c ≤ 20) (I : xr_inv V S v sv ch) (hv : V (xd_g v)) (h : ¬ nI (S (xd_g v)) ≤ sv) : xr_inv V S (v + 1) (nI (S (xd_g v))) (nI v) := by
  refine Or.inr ⟨v, by omega, rfl, rfl, hv, ?_, ?_⟩
  · intro u hu z
    rcases Nat.lt_or_ge u v with g | g
    · rcases I with ⟨a, b, c⟩ | ⟨c, c1, c2, c3, c4, c5, c6⟩
      · exact absurd z (c u g)
      · rw [c3, nI_leI (by have := hS (xd_g v); omega) (by have := hS (xd_g c); omega)] at h
        have := c5 u g z
        omega
    · have e : u = v := by omega
      rw [e]
      exact Nat.le_refl _
  · intro u g z
    rcases I with ⟨a, b, c⟩ | ⟨c, c1, c2, c3, c4, c5, c6⟩
    · exact absurd z (c u g)
    · rw [c3, nI_leI (by have := hS (xd_g v); omega) (by have := hS (xd_g c); omega)] at h
      have := c5 u g z
      omega
section
variable {n k : Nat} {st mv ms mc sv ch ic pa oc ss tk tn : Int32} {o d a b ld re be bo cl co ne fe ip ce ou : Nat → Int32}
/-- all seen: the first that saves most -/
theorem xr_end {m : Nat} {sv ch : Int32} (ok : sp_ok o d a b n) (hk : k ≤ 4) (hF : sp_F o d a b n k m) (I : xr_inv (gc_vd (sp_K o d a b n) (fun t => m.testBit t) k) (sp_sv o d a n (fun t => m.testBit t)) 65536 sv ch) : ∃ v, v < 65536 ∧ ch = nI v ∧ sp_B o d a b n k m (xd_g v) ∧ sv = nI (sp_sv o d a n (fun t => m.testBit t) (xd_g v)) := by
  have d4 : ∀ c, gc_vd (sp_K o d a b n) (fun t => m.testBit t) k c → ∀ t, t < 8 → c t < 4 := by
    intro c hc t ht
    cases w : m.testBit t
    · exact Nat.lt_of_lt_of_le ((hc t ht).2 w).1 hk
    · rw [(hc t ht).1 w]
      decide
  rcases I with ⟨_, _, I⟩ | ⟨c, c1, c2, c3, c4, c5, c6⟩
  · obtain ⟨c, hc⟩ := sp_F_vd.mp hF
    exact absurd (gc_vd_cong (xd_of_g (d4 c hc)) hc) (I (xd_of c) (xd_of_lt (d4 c hc)))
  · refine ⟨c, c1, c2, ⟨c4, fun x hx => ?_, fun x hx g => ?_⟩, c3⟩
    · rw [← sp_sv_c ok (xd_of_g (d4 x hx))]
      exact c5 _ (xd_of_lt (d4 x hx)) (gc_vd_cong (xd_of_g (d4 x hx)) hx)
    · rw [← sp_sv_c ok (xd_of_g (d4 x hx))]
      exact c6 _ (xd_lx (xd_of_lt (d4 x hx)) (lx_cong (fun _ _ => rfl) (xd_of_g (d4 x hx)) g)) (gc_vd_cong (xd_of_g (d4 x hx)) hx)
theorem xr_fits {v t m : Nat} (hk : k ≤ 4) (hv : v < 65536) (ht : t < 8) (I : cl_inv cl (sp_C o d a b n)) {post : Int32 → Prop} (T : gc_ft (sp_K o d a b n) (fun t => m.testBit t) k (xd_g v) t → post 1) (F : ¬ gc_ft (sp_K o d a b n) (fun t => m.testBit t) k (xd_g v) t → post 0) : wpX_fits post (nI n, nI k, st, mv, nI m, mc, sv, ch, ic, pa, oc, ss, tk, tn, o, d, a, b, ld, re, be, bo, cl, co, ne, fe, ip, ce, ou) (nI v) (nI t) := by
  have e : (nI t).toNatClampNeg = t := nI_clamp (by omega)
  have x4 : ∀ t, xd_g v t < 4 := fun t => Nat.mod_lt _ (by decide)
  unfold wpX_fits
  dsimp only
  refine wk_reg hv ht ?_
  refine wk_has (by omega) (fun y => br_f (by decide) ?_) (fun y => br_t rfl ?_)
  · rw [cx_bn _ (by omega)] at y
    have q := x4 t
    refine br_c (fun z => T ⟨fun _ => ?_, fun w => absurd (y.symm.trans w) (by decide)⟩) (fun z => F (fun g => z (by rw [g.1 y]; rfl)))
    have z2 : nI (xd_g v t) = nI 0 := z
    rw [nI_eq (by omega) (by decide)] at z2
    exact z2
  · rw [cx_bn _ (by omega)] at y
    have y2 : m.testBit t = false := by simpa using y
    have q := x4 t
    by_cases z : xd_g v t < k
    · refine br_t (nI_lt z (by omega)) ⟨vp_in_nI ht (by decide), ?_⟩
      rw [e]
      refine nm_e ?_
      refine pk_loop (fun q u (_ : Unit) => wX_fits_55 post (nI v) (nI t) (nI (xd_g v t)) (cl t &&& (nI m ^^^ (-1))) (nI n) (nI k) st mv (nI m) mc sv ch ic pa oc ss tk tn o d a b ld re be bo cl co ne fe ip ce ou q (nI u)) (fun u _ => ∀ w, w < u → m.testBit w = false → sp_K o d a b n t w = true → xd_g v w ≠ xd_g v t) t 0 () (Nat.zero_le t) (fun w hw => absurd hw (Nat.not_lt_zero w)) ?_ ?_
      · intro q _ J
        exact br_t (Int32.le_refl _) (T ⟨fun w => absurd w y, fun _ => ⟨z, J⟩⟩)
      · intro q u _ hu J ih
        have hb : bt (cl t &&& (nI m ^^^ (-1))) u = (sp_K o d a b n t u && !m.testBit u) := by
          rw [b_and, cx_not _ (by omega), cx_bn _ (by omega), sp_K_b I ht (by omega)]
        have S : (m.testBit u = false → sp_K o d a b n t u = true → xd_g v u ≠ xd_g v t) → ∀ w, w < u + 1 → m.testBit w = false → sp_K o d a b n t w = true → xd_g v w ≠ xd_g v t := by
          intro g w hw
          rcases Nat.lt_or_ge w u with g2 | g2
          · exact J w g2
          · have e3 : w = u := by omega
            rw [e3]
            exact g
        refine br_f (nI_ge hu (by omega)) (wk_has (by omega) (fun y => br_f (by decide) (wk_reg hv (by omega) ?_)) (fun y => br_t rfl (nm_r (nI_1 u) (ih () (S (fun g1 g2 => absurd (by rw [hb, g1, g2]; rfl) y))))))
        rw [hb, Bool.and_eq_true] at y
        have qu := x4 u
        refine br_c (fun z => F (fun g => (g.2 y2).2 u hu (by simpa using y.2) y.1 ((nI_eq (by omega) (by omega)).mp z))) (fun z => nm_r (nI_1 u) (ih () (S (fun _ _ g => z (by rw [g])))))
    · exact br_f (nI_nlt (by omega) (by omega)) (F (fun g => z (g.2 y2).1))
theorem xr_first {v m : Nat} (hk : k ≤ 4) (hv : v < 65536) (I : cl_inv cl (sp_C o d a b n)) {post : Int32 → Prop} (T : gc_vd (sp_K o d a b n) (fun t => m.testBit t) k (xd_g v) → post 8) (F : ∀ t, t < 8 → ¬ gc_ft (sp_K o d a b n) (fun t => m.testBit t) k (xd_g v) t → post (nI t)) : wpX_firstMisfit post (nI n, nI k, st, mv, nI m, mc, sv, ch, ic, pa, oc, ss, tk, tn, o, d, a, b, ld, re, be, bo, cl, co, ne, fe, ip, ce, ou) (nI v) := by
  refine pk_loop (fun q t (_ : Unit) => wX_firstMisfit_2 post (nI v) (nI n) (nI k) st mv (nI m) mc sv ch ic pa oc ss tk tn o d a b ld re be bo cl co ne fe ip ce ou q (nI t)) (fun t _ => ∀ u, u < t → gc_ft (sp_K o d a b n) (fun t => m.testBit t) k (xd_g v) u) 8 0 () (Nat.zero_le 8) (fun w hw => absurd hw (Nat.not_lt_zero w)) ?_ ?_
  · intro q _ J
    exact br_t (Int32.le_refl _) (T J)
  · intro q t _ ht J ih
    refine br_f (nI_ge (b := 8) ht (by decide)) (xr_fits hk hv ht I (fun z => br_f (by decide) (nm_r (nI_1 t) (ih () (fun u hu => ?_)))) (fun z => br_t rfl (F t ht z)))
    rcases Nat.lt_or_ge u t with g | g
    · exact J u g
    · have e : u = t := by omega
      rw [e]
      exact z
theorem xr_saved {i v m : Nat} (hn : n ≤ 20) (ok : sp_ok o d a b n) (hi : i < n) (hv : v < 65536) {post : Int32 → Prop} (T : sp_sv1 o d a (fun t => m.testBit t) (xd_g v) i = true → post 1) (F : ¬ sp_sv1 o d a (fun t => m.testBit t) (xd_g v) i = true → post 0) : wpX_isSaved post (nI n, nI k, st, mv, nI m, mc, sv, ch, ic, pa, oc, ss, tk, tn, o, d, a, b, ld, re, be, bo, cl, co, ne, fe, ip, ce, ou) (nI i) (nI v) := by
  have e : (nI i).toNatClampNeg = i := nI_clamp (by omega)
  have w : vp_in (nI i) 20 := vp_in_nI (by omega) (by decide)
  have x4 : ∀ t, xd_g v t < 4 := fun t => Nat.mod_lt _ (by decide)
  unfold wpX_isSaved
  dsimp only
  rw [e]
  unfold sp_sv1 at T F
  dsimp only at T F
  by_cases h5 : o i = 5
  · obtain ⟨_, k2, k3, _⟩ := ok i hi
    obtain ⟨p, hp, e2⟩ := k2 (by rw [h5]; decide)
    obtain ⟨q, hq, e3⟩ := k3 (by rw [h5]; decide)
    rw [e2, e3, nI_clamp (by omega), nI_clamp (by omega), decide_eq_true h5, Bool.true_and] at T F
    rw [e2, e3]
    refine ⟨w, br_t h5 ⟨w, nm_e ⟨w, nm_e ?_⟩⟩⟩
    by_cases z : nI p = nI q
    · exact br_t z (T (by rw [decide_eq_true z]; rfl))
    · rw [decide_eq_false z, Bool.false_or] at T F
      refine br_f z (wk_has (by omega) (fun y => br_f (by decide) (F ?_)) (fun y => br_t rfl (wk_has (by omega) (fun y2 => br_f (by decide) (F ?_)) (fun y2 => br_t rfl (wk_reg hv hp (wk_reg hv hq ?_))))))
      · rw [cx_bn _ (by omega)] at y
        rw [y]
        simp
      · rw [cx_bn _ (by omega)] at y2
        rw [y2]
        simp
      · rw [cx_bn _ (by omega)] at y y2
        have y' : m.testBit p = false := by simpa using y
        have y2' : m.testBit q = false := by simpa using y2
        rw [y', y2'] at T F
        have q1 := x4 p
        have q2 := x4 q
        refine br_c (fun g => T ?_) (fun g => F ?_)
        · rw [nI_eq (by omega) (by omega)] at g
          simp [g]
        · rw [nI_eq (by omega) (by omega)] at g
          simp [g]
  · exact ⟨w, br_f h5 (F (by rw [decide_eq_false h5]; simp))⟩
theorem xr_better {v m : Nat} (hn : n ≤ 20) (ok : sp_ok o d a b n) (hv : v < 65536) {post : SX → Prop} (A : nI (sp_sv o d a n (fun t => m.testBit t) (xd_g v)) ≤ sv → post (nI n, nI k, st, mv, nI m, mc, sv, ch, ic, pa, oc, ss, tk, tn, o, d, a, b, ld, re, be, bo, cl, co, ne, fe, ip, ce, ou)) (B : ¬ nI (sp_sv o d a n (fun t => m.testBit t) (xd_g v)) ≤ sv → post (nI n, nI k, st, mv, nI m, mc, nI (sp_sv o d a n (fun t => m.testBit t) (xd_g v)), nI v, ic, pa, oc, ss, tk, tn, o, d, a, b, ld, re, be, bo, cl, co, ne, fe, ip, ce, ou)) : wpX_keepIfBetter post (nI n, nI k, st, mv, nI m, mc, sv, ch, ic, pa, oc, ss, tk, tn, o, d, a, b, ld, re, be, bo, cl, co, ne, fe, ip, ce, ou) (nI v) := by
  refine pk_loop (fun q i (c : Int32) => wX_keepIfBetter_4 post (nI v) (nI n) (nI k) st mv (nI m) mc sv ch ic pa oc ss tk tn o d a b ld re be bo cl co ne fe ip ce ou q c (nI i)) (fun i c => c = nI (pu_cnt (sp_sv1 o d a (fun t => m.testBit t) (xd_g v)) i)) n 0 0 (Nat.zero_le n) rfl ?_ ?_
  · intro q c J
    refine br_t (Int32.le_refl _) ?_
    rw [J]
    exact br_c A B
  · intro q i c hi J ih
    refine br_f (nI_ge hi (by omega)) (xr_saved hn ok hi hv (fun z => br_f (by decide) (nm_r (by rw [J, nI_1]) (nm_r (nI_1 i) (ih _ ?_)))) (fun z => br_t rfl (nm_r (nI_1 i) (ih _ ?_))))
    · rw [pu_cnt, if_pos z]
    · rw [pu_cnt, if_neg z]
      exact J
theorem xr_regs {m : Nat} (hn : n ≤ 20) (ok : sp_ok o d a b n) (hk : k ≤ 4) (I : cl_inv cl (sp_C o d a b n)) (hF : sp_F o d a b n k m) {post : SX → Prop} (h : ∀ v, v < 65536 → sp_B o d a b n k m (xd_g v) → post (nI n, nI k, st, nI (sp_mv o n), nI m, mc, nI (sp_sv o d a n (fun t => m.testBit t) (xd_g v)), nI v, ic, pa, oc, ss, tk, tn, o, d, a, b, ld, re, be, bo, cl, co, ne, fe, ip, ce, ou)) : wpX_chooseRegisters post (nI n, nI k, st, nI (sp_mv o n), nI m, mc, sv, ch, ic, pa, oc, ss, tk, tn, o, d, a, b, ld, re, be, bo, cl, co, ne, fe, ip, ce, ou) := by
  have m20 : sp_mv o n ≤ 20 := Nat.le_trans (pu_cnt_le _ n) hn
  have S20 : ∀ c, sp_sv o d a n (fun t => m.testBit t) c ≤ 20 := fun c => Nat.le_trans (sp_sv_le o d a n _ c) m20
  have E : ∀ sv ch : Int32, xr_inv (gc_vd (sp_K o d a b n) (fun t => m.testBit t) k) (sp_sv o d a n (fun t => m.testBit t)) 65536 sv ch → post (nI n, nI k, st, nI (sp_mv o n), nI m, mc, sv, ch, ic, pa, oc, ss, tk, tn, o, d, a, b, ld, re, be, bo, cl, co, ne, fe, ip, ce, ou) := by
    intro sv ch J
    obtain ⟨v, hv, e1, e2, e3⟩ := xr_end ok hk hF J
    rw [e1, e3]
    exact h v hv e2
  refine pk_loop (fun q w (s : Nat × Int32 × Int32) => wX_chooseRegisters_14 post q (nI s.1) (nI w) (nI n) (nI k) st (nI (sp_mv o n)) (nI m) mc s.2.1 s.2.2 ic pa oc ss tk tn o d a b ld re be bo cl co ne fe ip ce ou) (fun w s => w ≤ s.1 ∧ s.1 ≤ 65536 ∧ xr_inv (gc_vd (sp_K o d a b n) (fun t => m.testBit t) k) (sp_sv o d a n (fun t => m.testBit t)) s.1 s.2.1 s.2.2) 65536 0 (0, -1, 0) (Nat.zero_le _) ⟨Nat.le_refl 0, by decide, Or.inl ⟨rfl, rfl, fun u hu => absurd hu (Nat.not_lt_zero u)⟩⟩ ?_ ?_
  · intro q s J
    have e : s.1 = 65536 := by omega
    refine br_t (Int32.le_refl _) (E _ _ ?_)
    rw [← e]
    exact J.2.2
  · intro q w s hw J ih
    obtain ⟨v, sv, ch⟩ := s
    obtain ⟨J1, J2, J3⟩ := J
    dsimp only at J1 J2 J3 ih ⊢
    refine br_f (nI_ge (b := 65536) hw (by decide)) ?_
    by_cases z : v = 65536
    · rw [z] at J3 ⊢
      exact br_t (Int32.le_refl _) (E _ _ J3)
    · have hv : v < 65536 := by omega
      refine br_f (nI_ge (b := 65536) hv (by decide)) ?_
      by_cases y : nI (sp_mv o n) ≤ sv
      · refine br_t y (E _ _ ?_)
        rcases J3 with ⟨e1, _, _⟩ | ⟨c, c1, c2, c3, c4, c5, c6⟩
        · rw [e1] at y
          exact absurd (Int32.le_trans (nI_pos' (by omega)) y) (by decide)
        · have q1 := S20 (xd_g c)
          rw [c3, nI_leI (by omega) (by omega)] at y
          exact Or.inr ⟨c, by omega, c2, c3, c4, fun u _ _ => Nat.le_trans (sp_sv_le o d a n _ _) y, c6⟩
      · refine br_f y (xr_first hk hv I (fun g => br_t (Int32.le_refl _) (xr_better hn ok hv (fun g2 => nm_r (nI_1 v) (nm_r (nI_1 w) (ih (v + 1, sv, ch) ⟨by dsimp only; omega, by dsimp only; omega, xr_keep S20 J3 g2⟩))) (fun g2 => nm_r (nI_1 v) (nm_r (nI_1 w) (ih (v + 1, _, _) ⟨by dsimp only; omega, by dsimp only; omega, xr_take S20 J3 g g2⟩))))) (fun t ht g => br_f (nI_ge (b := 8) ht (by decide)) (nm_e (nm_r (xr_skip hv ht) (nm_r (nI_1 w) (ih (xd_skip v t, sv, ch) ⟨?_, xd_skip_le hv ht, ?_⟩))))))
        · have := xd_skip_gt v t
          dsimp only
          omega
        · exact xr_none J3 (Nat.le_of_lt (xd_skip_gt v t)) (fun u u1 u2 gu => g (gc_ft_cong (fun x hx => (xd_same u1 u2 ht x hx).symm) (gu t ht)))
/-- X's tables, once settled -/
def xs_ok (o d a b : Nat → Int32) (n k : Nat) (mv ms mc sv ch : Int32) (be bo cl co ne : Nat → Int32) : Prop :=
  (∀ j, j < n → sp_is o d a b n (be j) j) ∧ (∀ j, j < n → ∀ t, t < 32 → bt (bo j) t = sp_bh o d a b n t j) ∧ cl_inv cl (sp_C o d a b n) ∧ (∀ t, t < 8 → co t = sp_cost o d a b n t) ∧ (∃ N, N ≤ 8 ∧ ne 255 = nI N ∧ ∀ r, sp_F o d a b n r 0 ↔ N ≤ r) ∧ mv = nI (sp_mv o n) ∧ (∃ m, ms = nI m ∧ sp_M o d a b n k m ∧ mc = sp_sum o d a b n m ∧ ∃ v, v < 65536 ∧ ch = nI v ∧ sp_B o d a b n k m (xd_g v) ∧ sv = nI (sp_sv o d a n (fun t => m.testBit t) (xd_g v)))
theorem xs_settle (hn : n ≤ 20) (ok : sp_ok o d a b n) (hk : k ≤ 4) (hs : st = 0 ∨ (st = 1 ∧ xs_ok o d a b n k mv ms mc sv ch be bo cl co ne)) {post : SX → Prop} (h : ∀ mv ms mc sv ch ld re be bo cl co ne fe, xs_ok o d a b n k mv ms mc sv ch be bo cl co ne → post (nI n, nI k, 1, mv, ms, mc, sv, ch, ic, pa, oc, ss, tk, tn, o, d, a, b, ld, re, be, bo, cl, co, ne, fe, ip, ce, ou)) : wpX_settle post (nI n, nI k, st, mv, ms, mc, sv, ch, ic, pa, oc, ss, tk, tn, o, d, a, b, ld, re, be, bo, cl, co, ne, fe, ip, ce, ou) := by
  rcases hs with hs | ⟨hs, hx⟩
  · subst hs
    refine br_t rfl ?_
    refine xl_leads hn ok (fun ld hl => ?_)
    refine xl_reaches hn hl (fun re hr => ?_)
    refine xl_alive hn ok hl (fun be bo hb hbo => ?_)
    refine xc_clashes hn ok hb hbo (fun cl hc => ?_)
    refine xn_costs hn ok hr (fun co hco => ?_)
    refine xf_needs (fun fe ne N hN hne => ?_)
    refine xf_moves hn ?_
    refine xm_mem hk hc hN hne hco (fun m hm => ?_)
    refine xr_regs hn ok hk hc hm.2.1 (fun v hv hB => ?_)
    exact h _ _ _ _ _ ld re be bo cl co ne fe ⟨hb, hbo, hc, hco, ⟨N 255, nd_le hN (by decide), hne 255 (by decide), fun r => xm_F (k := r) hc hN (s := 0) (by decide)⟩, rfl, m, rfl, hm, rfl, v, hv, rfl, hB, rfl⟩
  · subst hs
    exact br_f (by decide) (h _ _ _ _ _ _ _ _ _ _ _ _ _ hx)
end
