theorem cl_pt {c : Nat → Int32} {R R' : Nat → Nat → Bool} (I : cl_inv c R) (h : ∀ x y, x < 8 → y < 8 → x ≠ y → R x y = R' x y) : cl_inv c R' :=
  cl_cong I (fun x y hx hy z => by rw [h x y hx hy z, h y x hy hx (Ne.symm z)])
theorem cl_sk {c : Nat → Int32} {R : Nat → Nat → Bool} {t u : Nat} {S : Int32} (I : cl_inv c (fun x y => R x y || (decide (x = t) && (decide (y < u) && bt S y)))) (h : u = t ∨ ¬ bt S u = true) : cl_inv c (fun x y => R x y || (decide (x = t) && (decide (y < u + 1) && bt S y))) := by
  refine cl_pt I (fun x y hx hy z => ?_)
  by_cases e : y = u
  · subst e
    rcases h with h | h
    · subst h
      rw [decide_eq_false z]
      simp
    · have g : bt S y = false := by simpa using h
      rw [g]
      simp
  · rw [show decide (y < u + 1) = decide (y < u) from decide_eq_decide.mpr (by omega)]
theorem cl_ad {c : Nat → Int32} {R : Nat → Nat → Bool} {t u : Nat} {S : Int32} (ht : t < 8) (hu : u < 8) (h : ¬ u = t) (hb : bt S u = true) (I : cl_inv c (fun x y => R x y || (decide (x = t) && (decide (y < u) && bt S y)))) : cl_inv (cl_put c t u) (fun x y => R x y || (decide (x = t) && (decide (y < u + 1) && bt S y))) := by
  refine cl_pt (cl_add ht hu (fun z => h z.symm) I) (fun x y hx hy z => ?_)
  by_cases e : y = u
  · subst e
    rw [hb]
    simp
  · rw [show decide (y < u + 1) = decide (y < u) from decide_eq_decide.mpr (by omega), decide_eq_false e]
    simp
section
variable {n k : Nat} {st mv ms mc sv ch ic pa oc ss tk tn : Int32} {o d a b ld re be bo cl co ne fe ip ce ou : Nat → Int32}
theorem xc_add {t : Nat} (ht : t < 8) {S : Int32} {R : Nat → Nat → Bool} (I : cl_inv cl R) {post : SX → Prop} (h : ∀ c, cl_inv c (fun x y => R x y || (decide (x = t) && bt S y)) → post (nI n, nI k, st, mv, ms, mc, sv, ch, ic, pa, oc, ss, tk, tn, o, d, a, b, ld, re, be, bo, c, co, ne, fe, ip, ce, ou)) : wpX_addClashes post (nI n, nI k, st, mv, ms, mc, sv, ch, ic, pa, oc, ss, tk, tn, o, d, a, b, ld, re, be, bo, cl, co, ne, fe, ip, ce, ou) (nI t) S := by
  refine pk_loop (fun m u (c : Nat → Int32) => wX_addClashes_2 post (nI t) S (nI n) (nI k) st mv ms mc sv ch ic pa oc ss tk tn m (nI u) o d a b ld re be bo c co ne fe ip ce ou) (fun u c => cl_inv c (fun x y => R x y || (decide (x = t) && (decide (y < u) && bt S y)))) 8 0 cl (Nat.zero_le 8) (cl_pt I (fun x y _ _ _ => by simp)) ?_ ?_
  · intro m c I
    refine br_t (Int32.le_refl _) (h c (cl_pt I (fun x y _ hy _ => by rw [decide_eq_true hy]; rfl)))
  · intro m u c hu I ih
    have e : (nI t).toNatClampNeg = t := nI_clamp (by omega)
    have e2 : (nI u).toNatClampNeg = u := nI_clamp (by omega)
    have v : vp_in (nI t) 8 := vp_in_nI ht (by decide)
    have v2 : vp_in (nI u) 8 := vp_in_nI hu (by decide)
    refine br_f (nI_ge (b := 8) hu (by decide)) ?_
    by_cases z : u = t
    · exact br_t (by rw [z]) (nm_r (nI_1 u) (ih _ (cl_sk I (Or.inl z))))
    · refine br_f (fun y => z ((nI_eq (by omega) (by omega)).mp y)) ?_
      refine wk_has (by omega) (fun y => br_f (by decide) ⟨v, v, ?_⟩) (fun y => br_t rfl (nm_r (nI_1 u) (ih _ (cl_sk I (Or.inr y)))))
      rw [e, e2]
      exact nm_e ⟨v2, v2, nm_e (nm_r (nI_1 u) (ih _ (cl_ad ht hu z y I)))⟩
theorem sp_C1_n {i x y : Nat} (h : ¬ sp_df (o i) = true) : sp_C1 o d a b n i x y = false := by
  unfold sp_C1 sp_D
  rw [show sp_df (o i) = false by simpa using h]
  rfl
theorem sp_C1_y {i q x y : Nat} {S z : Int32} (h : sp_df (o i) = true) (hq : q < 8) (hx : x < 8) (e : d i = nI q) (hS : bt S y = sp_bh o d a b n y i) (hz : bt z y = (decide (o i = 5) && decide (a i = nI y))) (hy : y < 8) : (decide (x = q) && bt (S &&& (z ^^^ (-1))) y) = sp_C1 o d a b n i x y := by
  unfold sp_C1 sp_D
  rw [h, e, sp_inj (by omega) (by omega), b_and, cx_not _ (by omega), hS, hz, Bool.true_and, show decide (x = q) = decide (q = x) from decide_eq_decide.mpr ⟨Eq.symm, Eq.symm⟩, Bool.and_comm (sp_bh o d a b n y i)]
theorem xc_65 {post : SX → Prop} {J : Int32 → Int32 → Int32 → Int32 → Int32 → Int32 → Int32 → Int32 → Int32 → Int32 → Int32 → Int32 → Int32 → Int32 → Int32 → (Nat → Int32) → (Nat → Int32) → (Nat → Int32) → (Nat → Int32) → (Nat → Int32) → (Nat → Int32) → (Nat → Int32) → (Nat → Int32) → (Nat → Int32) → (Nat → Int32) → (Nat → Int32) → (Nat → Int32) → (Nat → Int32) → (Nat → Int32) → (Nat → Int32) → Prop} {i q : Nat} {z : Int32} (hi : i < 20) (hq : q < 8) (eq : d i = nI q) {R : Nat → Nat → Bool} (I : cl_inv cl R) (h : ∀ c, cl_inv c (fun x y => R x y || (decide (x = q) && bt (bo i &&& (z ^^^ (-1))) y)) → J (nI (i + 1)) (nI n) (nI k) st mv ms mc sv ch ic pa oc ss tk tn o d a b ld re be bo c co ne fe ip ce ou) : wX_findClashes_65 post J (nI i) z (nI n) (nI k) st mv ms mc sv ch ic pa oc ss tk tn o d a b ld re be bo cl co ne fe ip ce ou := by
  have e : (nI i).toNatClampNeg = i := nI_clamp (by omega)
  have v : vp_in (nI i) 20 := vp_in_nI hi (by decide)
  unfold wX_findClashes_65
  rw [e, eq]
  exact ⟨v, v, xc_add hq I (fun c hc => nm_r (nI_1 i) (h c hc))⟩
theorem xc_start {S : Int32} {R : Nat → Nat → Bool} (I : cl_inv cl R) {post : SX → Prop} (h : ∀ c, cl_inv c (fun x y => R x y || (bt S x && bt S y)) → post (nI n, nI k, st, mv, ms, mc, sv, ch, ic, pa, oc, ss, tk, tn, o, d, a, b, ld, re, be, bo, c, co, ne, fe, ip, ce, ou)) : ∃ m, wX_findClashes_112 post S m 0 (nI n) (nI k) st mv ms mc sv ch ic pa oc ss tk tn o d a b ld re be bo cl co ne fe ip ce ou := by
  refine pk_loop (fun m t (c : Nat → Int32) => wX_findClashes_112 post S m (nI t) (nI n) (nI k) st mv ms mc sv ch ic pa oc ss tk tn o d a b ld re be bo c co ne fe ip ce ou) (fun t c => cl_inv c (fun x y => R x y || (decide (x < t) && (bt S x && bt S y)))) 8 0 cl (Nat.zero_le 8) (cl_pt I (fun x y _ _ _ => by simp)) ?_ ?_
  · intro m c I
    refine br_t (Int32.le_refl _) (h c (cl_pt I (fun x y hx _ _ => by rw [decide_eq_true hx]; rfl)))
  · intro m t c ht I ih
    refine br_f (nI_ge (b := 8) ht (by decide)) (wk_has (by omega) (fun y => br_f (by decide) ?_) (fun y => br_t rfl (nm_r (nI_1 t) (ih _ ?_))))
    · refine xc_add ht I (fun c hc => nm_r (nI_1 t) (ih _ (cl_pt hc (fun x w hx hw _ => ?_))))
      by_cases e : x = t
      · subst e
        rw [y]
        simp
      · rw [show decide (x < t + 1) = decide (x < t) from decide_eq_decide.mpr (by omega), decide_eq_false e]
        simp
    · refine cl_pt I (fun x w hx hw _ => ?_)
      by_cases e : x = t
      · subst e
        rw [show bt S x = false by simpa using y]
        simp
      · rw [show decide (x < t + 1) = decide (x < t) from decide_eq_decide.mpr (by omega)]
theorem xc_clashes (hn : n ≤ 20) (ok : sp_ok o d a b n) (hb : ∀ j, j < n → sp_is o d a b n (be j) j) (hbo : ∀ j, j < n → ∀ t, t < 32 → bt (bo j) t = sp_bh o d a b n t j) {post : SX → Prop} (h : ∀ c, cl_inv c (sp_C o d a b n) → post (nI n, nI k, st, mv, ms, mc, sv, ch, ic, pa, oc, ss, tk, tn, o, d, a, b, ld, re, be, bo, c, co, ne, fe, ip, ce, ou)) : wpX_findClashes post (nI n, nI k, st, mv, ms, mc, sv, ch, ic, pa, oc, ss, tk, tn, o, d, a, b, ld, re, be, bo, cl, co, ne, fe, ip, ce, ou) := by
  refine pk_loop (fun m i (c : Nat → Int32) => wX_findClashes_2 post (nI n) (nI k) st mv ms mc sv ch ic pa oc ss tk tn m (nI i) o d a b ld re be bo c co ne fe ip ce ou) (fun i c => ∀ j, j < i → c j = (fun _ => 0) j) 8 0 cl (Nat.zero_le 8) (fun j hj => absurd hj (Nat.not_lt_zero j)) ?_ ?_
  · intro m c I
    refine br_t (Int32.le_refl _) ?_
    refine pk_loop (fun m i (c : Nat → Int32) => wX_findClashes_23 post m (nI i) (nI n) (nI k) st mv ms mc sv ch ic pa oc ss tk tn o d a b ld re be bo c co ne fe ip ce ou) (fun i c => cl_inv c (fun x y => pu_any (fun j => sp_C1 o d a b n j x y) i)) n 0 c (Nat.zero_le n) (cl_0 I) ?_ ?_
    · intro m c I
      refine br_t (Int32.le_refl _) ?_
      by_cases z : n = 0
      · refine br_t (by rw [z]; decide) (xc_start I (fun c hc => h c (cl_pt hc (fun x y _ _ _ => ?_))))
        unfold sp_C
        rw [b_0, z]
        simp
      · refine br_f (nI_nle (by omega) (by omega)) (nm_e (xc_start I (fun c hc => h c (cl_pt hc (fun x y hx hy _ => ?_)))))
        unfold sp_C
        rw [hb 0 (by omega) x (by omega), hb 0 (by omega) y (by omega), decide_eq_true (show 0 < n by omega), Bool.true_and, Bool.or_comm]
    · intro m i c hi I ih
      have e : (nI i).toNatClampNeg = i := nI_clamp (by omega)
      have v : vp_in (nI i) 20 := vp_in_nI (by omega) (by decide)
      obtain ⟨_, k2, k3, _⟩ := ok i hi
      refine br_f (nI_ge hi (by omega)) ⟨v, ?_⟩
      rw [e]
      refine wk_df (fun y => br_f (by decide) ⟨v, ?_⟩) (fun y => br_t rfl (nm_r (nI_1 i) (ih _ (cl_pt I (fun x w _ _ _ => by rw [pu_any, sp_C1_n y, Bool.or_false])))))
      obtain ⟨q, hq, eq⟩ := k2 y
      have G : ∀ z : Int32, (∀ y, y < 8 → bt z y = (decide (o i = 5) && decide (a i = nI y))) → wX_findClashes_65 post (wX_findClashes_23 post m) (nI i) z (nI n) (nI k) st mv ms mc sv ch ic pa oc ss tk tn o d a b ld re be bo c co ne fe ip ce ou := by
        intro z hz
        refine xc_65 (by omega) hq eq I (fun c hc => ih _ (cl_pt hc (fun x w hx hw _ => ?_)))
        rw [pu_any, sp_C1_y y hq hx eq (hbo i hi w (by omega)) (hz w hw) hw]
      by_cases h5 : o i = 5
      · refine br_t h5 ⟨v, G _ (fun y hy => ?_)⟩
        obtain ⟨r, hr, e2⟩ := k3 (by rw [h5]; decide)
        rw [e2, cx_one (by omega), sp_inj (by omega) (by omega), decide_eq_true h5, Bool.true_and]
      · exact br_f h5 (G _ (fun y hy => by rw [b_0, decide_eq_false h5, Bool.false_and]))
  · intro m i r hi I ih
    have e : (nI i).toNatClampNeg = i := nI_clamp (by omega)
    have v : vp_in (nI i) 8 := vp_in_nI (by omega) (by decide)
    refine br_f (nI_ge (b := 8) hi (by decide)) ⟨v, ?_⟩
    rw [e]
    exact nm_e (nm_r (nI_1 i) (ih _ (up_lt I rfl)))
theorem xn_nam (hn : n ≤ 20) (ok : sp_ok o d a b n) {i : Nat} (hi : i < n) {S : Int32} {post : Int32 → Prop} (h : post (nI (sp_nm o d a b (fun q => bt S q) i))) : wpX_namings post (nI n, nI k, st, mv, ms, mc, sv, ch, ic, pa, oc, ss, tk, tn, o, d, a, b, ld, re, be, bo, cl, co, ne, fe, ip, ce, ou) (nI i) S := by
  have e : (nI i).toNatClampNeg = i := nI_clamp (by omega)
  have v : vp_in (nI i) 20 := vp_in_nI (by omega) (by decide)
  obtain ⟨_, k2, k3, k4, _⟩ := ok i hi
  have h : post (nI (((if (sp_df (o i) && bt S (d i).toNatClampNeg) = true then 1 else 0) + (if (sp_ua (o i) && bt S (a i).toNatClampNeg) = true then 1 else 0)) + (if (sp_ub (o i) && bt S (b i).toNatClampNeg) = true then 1 else 0))) := h
  have T58 : ∀ c : Nat, post (nI (c + (if (sp_ub (o i) && bt S (b i).toNatClampNeg) = true then 1 else 0))) → wX_namings_58 post (nI i) S (nI c) (nI n) (nI k) st mv ms mc sv ch ic pa oc ss tk tn o d a b ld re be bo cl co ne fe ip ce ou := by
    intro c hp
    unfold wX_namings_58
    rw [e]
    refine ⟨v, wk_ub (fun y => br_f (by decide) ⟨v, ?_⟩) (fun y => br_t rfl ?_)⟩
    · obtain ⟨q, hq, e2⟩ := k4 y
      rw [e2, nI_clamp (by omega), y] at hp
      rw [e2]
      refine wk_has (by omega) (fun z => br_f (by decide) (nm_r (nI_1 c) ?_)) (fun z => br_t rfl ?_)
      · rw [z] at hp
        exact hp
      · rw [show bt S q = false by simpa using z] at hp
        exact hp
    · rw [show sp_ub (o i) = false by simpa using y] at hp
      exact hp
  have T30 : ∀ c : Nat, post (nI ((c + (if (sp_ua (o i) && bt S (a i).toNatClampNeg) = true then 1 else 0)) + (if (sp_ub (o i) && bt S (b i).toNatClampNeg) = true then 1 else 0))) → wX_namings_30 post (nI i) S (nI c) (nI n) (nI k) st mv ms mc sv ch ic pa oc ss tk tn o d a b ld re be bo cl co ne fe ip ce ou := by
    intro c hp
    unfold wX_namings_30
    rw [e]
    refine ⟨v, wk_ua (fun y => br_f (by decide) ⟨v, ?_⟩) (fun y => br_t rfl (T58 c ?_))⟩
    · obtain ⟨q, hq, e2⟩ := k3 y
      rw [e2, nI_clamp (by omega), y] at hp
      rw [e2]
      refine wk_has (by omega) (fun z => br_f (by decide) (nm_r (nI_1 c) (T58 (c + 1) ?_))) (fun z => br_t rfl (T58 c ?_))
      · rw [z] at hp
        exact hp
      · rw [show bt S q = false by simpa using z] at hp
        exact hp
    · rw [show sp_ua (o i) = false by simpa using y] at hp
      exact hp
  unfold wpX_namings
  dsimp only
  rw [e]
  refine ⟨v, wk_df (fun y => br_f (by decide) ⟨v, ?_⟩) (fun y => br_t rfl (T30 0 ?_))⟩
  · obtain ⟨q, hq, e2⟩ := k2 y
    rw [e2, nI_clamp (by omega), y] at h
    rw [e2]
    refine wk_has (by omega) (fun z => br_f (by decide) (nm_r (e' := nI 1) (by decide) (T30 1 ?_))) (fun z => br_t rfl (T30 0 ?_))
    · rw [z] at h
      exact h
    · rw [show bt S q = false by simpa using z] at h
      exact h
  · rw [show sp_df (o i) = false by simpa using y] at h
    exact h
theorem xn_costs (hn : n ≤ 20) (ok : sp_ok o d a b n) (hr : ∀ j, j < n → re j = sp_way o a b n j) {post : SX → Prop} (h : ∀ c, (∀ t, t < 8 → c t = sp_cost o d a b n t) → post (nI n, nI k, st, mv, ms, mc, sv, ch, ic, pa, oc, ss, tk, tn, o, d, a, b, ld, re, be, bo, cl, c, ne, fe, ip, ce, ou)) : wpX_findCosts post (nI n, nI k, st, mv, ms, mc, sv, ch, ic, pa, oc, ss, tk, tn, o, d, a, b, ld, re, be, bo, cl, co, ne, fe, ip, ce, ou) := by
  refine pk_loop (fun m t (c : Nat → Int32) => wX_findCosts_2 post (nI n) (nI k) st mv ms mc sv ch ic pa oc ss tk tn m (nI t) o d a b ld re be bo cl c ne fe ip ce ou) (fun t c => ∀ j, j < t → c j = sp_cost o d a b n j) 8 0 co (Nat.zero_le 8) (fun j hj => absurd hj (Nat.not_lt_zero j)) ?_ ?_
  · intro m c I
    exact br_t (Int32.le_refl _) (h c I)
  · intro m t c ht I ih
    have e : (nI t).toNatClampNeg = t := nI_clamp (by omega)
    have v : vp_in (nI t) 8 := vp_in_nI ht (by decide)
    refine br_f (nI_ge (b := 8) ht (by decide)) ⟨v, ?_⟩
    rw [e]
    refine nm_e ?_
    refine pk_loop (fun q i (c : Nat → Int32) => wX_findCosts_17 post (wX_findCosts_2 post (nI n) (nI k) st mv ms mc sv ch ic pa oc ss tk tn m) (nI t) (nI n) (nI k) st mv ms mc sv ch ic pa oc ss tk tn q (nI i) o d a b ld re be bo cl c ne fe ip ce ou) (fun i c => c t = sp_co o d a b n t i ∧ ∀ j, j < t → c j = sp_cost o d a b n j) n 0 (upd c t 0) (Nat.zero_le n) ⟨pk_us, fun j hj => by rw [pk_un (by omega)]; exact I j hj⟩ ?_ ?_
    · intro q c I
      refine br_t (Int32.le_refl _) (nm_r (nI_1 t) (ih c (fun j hj => ?_)))
      rcases Nat.lt_or_ge j t with g | g
      · exact I.2 j g
      · have e3 : j = t := by omega
        rw [e3]
        exact I.1
    · intro q i c hi I ih
      have e2 : (nI i).toNatClampNeg = i := nI_clamp (by omega)
      have ef : (fun q => bt ((1 : Int32) <<< (nI t &&& 31)) q) = (fun x => decide (x = t)) := by
        funext q
        rw [cx_one (by omega)]
        exact decide_eq_decide.mpr ⟨Eq.symm, Eq.symm⟩
      have G : ∀ z : Int32, z = sp_wt o a b n i → wX_findCosts_44 post (wX_findCosts_2 post (nI n) (nI k) st mv ms mc sv ch ic pa oc ss tk tn m) (wX_findCosts_17 post (wX_findCosts_2 post (nI n) (nI k) st mv ms mc sv ch ic pa oc ss tk tn m) (nI t) (nI n) (nI k) st mv ms mc sv ch ic pa oc ss tk tn q) (nI t) (nI i) z (nI n) (nI k) st mv ms mc sv ch ic pa oc ss tk tn o d a b ld re be bo cl c ne fe ip ce ou := by
        intro z ez
        refine xn_nam hn ok hi ⟨v, v, ?_⟩
        rw [e, ef]
        refine nm_e (nm_r (nI_1 i) (ih _ ⟨?_, fun j hj => by rw [pk_un (by omega)]; exact I.2 j hj⟩))
        rw [pk_us, I.1, ez, Int32.mul_comm, sp_co]
      refine br_f (nI_ge hi (by omega)) ⟨vp_in_nI (by omega) (by decide), ?_⟩
      rw [e2]
      unfold sp_wt at G
      rw [← hr i hi] at G
      exact wk_has (by omega) (fun z => br_f (by decide) (G _ (if_pos z).symm)) (fun z => br_t rfl (G _ (if_neg z).symm))
end
