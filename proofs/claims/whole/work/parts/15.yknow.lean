theorem cl_skP {c : Nat → Int32} {R : Nat → Nat → Bool} {t u : Nat} {P : Nat → Bool} (I : cl_inv c (fun x y => R x y || (decide (x = t) && (decide (y < u) && P y)))) (h : u = t ∨ ¬ P u = true) : cl_inv c (fun x y => R x y || (decide (x = t) && (decide (y < u + 1) && P y))) := by
  refine cl_pt I (fun x y hx hy z => ?_)
  by_cases e : y = u
  · subst e
    rcases h with h | h
    · subst h
      rw [decide_eq_false z]
      simp
    · have g : P y = false := by simpa using h
      rw [g]
      simp
  · rw [show decide (y < u + 1) = decide (y < u) from decide_eq_decide.mpr (by omega)]
theorem cl_adP {c : Nat → Int32} {R : Nat → Nat → Bool} {t u : Nat} {P : Nat → Bool} (ht : t < 8) (hu : u < 8) (h : ¬ u = t) (hb : P u = true) (I : cl_inv c (fun x y => R x y || (decide (x = t) && (decide (y < u) && P y)))) : cl_inv (cl_put c t u) (fun x y => R x y || (decide (x = t) && (decide (y < u + 1) && P y))) := by
  refine cl_pt (cl_add ht hu (fun z => h z.symm) I) (fun x y hx hy z => ?_)
  by_cases e : y = u
  · subst e
    rw [hb]
    simp
  · rw [show decide (y < u + 1) = decide (y < u) from decide_eq_decide.mpr (by omega), decide_eq_false e]
    simp
theorem sp_dfd_eq {o d a b : Nat → Int32} {n i t : Nat} (ok : sp_ok o d a b n) (hi : i < n) (ht : t < 8) : sp_dfd o d i = (1 : Int32) <<< (nI t &&& 31) ↔ sp_D o d t i = true := by
  constructor
  · intro h
    rw [← sp_dfd_b ok hi (by omega), h, cx_one (by omega)]
    simp
  · intro h
    apply b_ext
    intro j hj
    rw [sp_dfd_b ok hi hj, cx_one (by omega)]
    unfold sp_D at h ⊢
    rw [Bool.and_eq_true, decide_eq_true_eq] at h
    rw [h.1, h.2, sp_inj (by omega) hj]
    rfl
section
variable {n k : Nat} {kn pl me sa wa fw : Int32} {o d a b yb yw yc yo ys yt ip ou yl yp : Nat → Int32}
theorem yk_end {q : Nat} (hn : n ≤ 20) (hq : q < 2 ^ 31) {post : Int32 → Prop} (A : n ≤ q → post (nI n)) (B : q < n → post (nI q)) : wpY_end post (nI n, nI k, kn, pl, me, sa, wa, fw, o, d, a, b, yb, yw, yc, yo, ys, yt, ip, ou, yl, yp) (nI q) :=
  br_c (fun h => A ((nI_leI (by omega) hq).mp h)) (fun h => B (Nat.lt_of_not_le (fun z => h ((nI_leI (by omega) hq).mpr z))))
theorem yk_leads (hn : n ≤ 20) (ok : sp_ok o d a b n) {i j : Nat} (hi : i < n) (hj : j < n) {post : Int32 → Prop} (T : sp_L o a b i j = true → post 1) (F : ¬ sp_L o a b i j = true → post 0) : wpY_leads post (nI n, nI k, kn, pl, me, sa, wa, fw, o, d, a, b, yb, yw, yc, yo, ys, yt, ip, ou, yl, yp) (nI i) (nI j) := by
  have e : (nI i).toNatClampNeg = i := nI_clamp (by omega)
  have v : vp_in (nI i) 20 := vp_in_nI (by omega) (by decide)
  obtain ⟨_, _, _, _, k5, k6⟩ := ok i hi
  have E47 : sp_L o a b i j = true → wY_leads_47 post (nI i) (nI j) (o i) (nI n) (nI k) kn pl me sa wa fw o d a b yb yw yc yo ys yt ip ou yl yp := fun h => br_f (by decide) (T h)
  unfold wpY_leads
  dsimp only
  rw [e]
  refine ⟨v, nm_e ?_⟩
  by_cases h6 : o i = 6
  · obtain ⟨q, hq, e2⟩ := k5 h6
    rw [sp_L_6 h6, e2, sp_inj (by omega) (by omega), decide_eq_true_eq] at T F
    rw [sp_L_6 h6, e2, sp_inj (by omega) (by omega), decide_eq_true_eq] at E47
    have E27 : ¬ q = j → wY_leads_27 post (nI i) (nI j) (o i) (nI n) (nI k) kn pl me sa wa fw o d a b yb yw yc yo ys yt ip ou yl yp := fun h => br_f (by rw [h6]; decide) (br_t rfl (br_t h6 (F h)))
    rw [e2]
    refine br_t h6 ⟨v, yk_end hn (by omega) (fun h => br_f (fun z => ?_) (E27 (by omega))) (fun h => ?_)⟩
    · rw [nI_eq (by omega) (by omega)] at z
      omega
    · exact br_c (fun z => E47 ((nI_eq (by omega) (by omega)).mp z)) (fun z => E27 (fun y => z (by rw [y])))
  · refine br_f h6 ?_
    have E51 : (j = i + 1 → ¬ o i = 10 → post 1) → ((o i = 10 ∨ ¬ j = i + 1) → post 0) → wY_leads_51 post (nI i) (nI j) (o i) (nI n) (nI k) kn pl me sa wa fw o d a b yb yw yc yo ys yt ip ou yl yp := fun A B => br_t rfl (br_f h6 (br_c (fun z => B (Or.inl z)) (fun z => br_c (fun y => A (by rw [nI_1, nI_eq (by omega) (by omega)] at y; exact y) z) (fun y => B (Or.inr (fun w => y (by rw [w, nI_1])))))))
    by_cases h7 : o i = 7
    · obtain ⟨q, hq, e2⟩ := k6 h7
      rw [sp_L_7 h7, e2, sp_inj (by omega) (by omega), Bool.or_eq_true, decide_eq_true_eq, decide_eq_true_eq] at T F
      rw [sp_L_7 h7, e2, sp_inj (by omega) (by omega), Bool.or_eq_true, decide_eq_true_eq, decide_eq_true_eq] at E47
      have n10 : ¬ o i = 10 := by rw [h7]; decide
      have G : ¬ q = j → wY_leads_51 post (nI i) (nI j) (o i) (nI n) (nI k) kn pl me sa wa fw o d a b yb yw yc yo ys yt ip ou yl yp := fun h => E51 (fun z _ => T (Or.inr z)) (fun z => F (fun y => y.elim h (fun w => z.elim n10 (fun g => g w))))
      unfold wY_leads_27
      rw [e, e2]
      refine br_t h7 ⟨v, yk_end hn (by omega) (fun h => br_f (fun z => ?_) (G (by omega))) (fun h => ?_)⟩
      · rw [nI_eq (by omega) (by omega)] at z
        omega
      · exact br_c (fun z => E47 (Or.inl ((nI_eq (by omega) (by omega)).mp z))) (fun z => G (fun y => z (by rw [y])))
    · refine br_f h7 ?_
      by_cases h10 : o i = 10
      · rw [sp_L_10 h10] at F
        exact E51 (fun _ z => absurd h10 z) (fun _ => F (by decide))
      · rw [sp_L_e h6 h7 h10, decide_eq_true_eq] at T F
        exact E51 (fun z _ => T z) (fun z => F (z.elim (fun w => absurd w h10) id))
theorem yk_used {i : Nat} (hi : i < 20) {post : Int32 → Prop} (h : post (sp_used o a b i)) : wpY_used post (nI n, nI k, kn, pl, me, sa, wa, fw, o, d, a, b, yb, yw, yc, yo, ys, yt, ip, ou, yl, yp) (nI i) := by
  have e : (nI i).toNatClampNeg = i := nI_clamp (by omega)
  have v : vp_in (nI i) 20 := vp_in_nI (by omega) (by decide)
  have T : ∀ z : Int32, z = (if sp_ua (o i) = true then (1 : Int32) <<< (a i &&& 31) else 0) → wY_used_26 post (nI i) (o i) z (nI n) (nI k) kn pl me sa wa fw o d a b yb yw yc yo ys yt ip ou yl yp := by
    intro z ez
    unfold wY_used_26
    rw [e]
    unfold sp_used at h
    rw [← ez] at h
    refine wk_ubY (fun y => br_f (by decide) ⟨v, ?_⟩) (fun y => br_t rfl ?_)
    · rw [if_pos y] at h
      exact h
    · rw [if_neg y] at h
      exact h
  unfold wpY_used
  dsimp only
  rw [e]
  exact ⟨v, nm_e (wk_uaY (fun y => br_f (by decide) ⟨v, T _ (if_pos y).symm⟩) (fun y => br_t rfl (T _ (if_neg y).symm)))⟩
theorem yk_dfd {i : Nat} (hi : i < 20) {post : Int32 → Prop} (h : post (sp_dfd o d i)) : wpY_defined post (nI n, nI k, kn, pl, me, sa, wa, fw, o, d, a, b, yb, yw, yc, yo, ys, yt, ip, ou, yl, yp) (nI i) := by
  have e : (nI i).toNatClampNeg = i := nI_clamp (by omega)
  have v : vp_in (nI i) 20 := vp_in_nI (by omega) (by decide)
  unfold wpY_defined
  dsimp only
  rw [e]
  unfold sp_dfd at h
  refine ⟨v, wk_dfY (fun y => br_f (by decide) ⟨v, ?_⟩) (fun y => br_t rfl ?_)⟩
  · rw [if_pos y] at h
    exact h
  · rw [if_neg y] at h
    exact h
theorem yk_behind (hn : n ≤ 20) (ok : sp_ok o d a b n) {i : Nat} (hi : i < n) {post : Int32 → Prop} (h : post (sp_or (sp_L o a b i) yb n)) : wpY_behind post (nI n, nI k, kn, pl, me, sa, wa, fw, o, d, a, b, yb, yw, yc, yo, ys, yt, ip, ou, yl, yp) (nI i) := by
  refine pk_loop (fun m j (x : Int32) => wY_behind_4 post (nI i) (nI n) (nI k) kn pl me sa wa fw o d a b yb yw yc yo ys yt ip ou yl yp m x (nI j)) (fun j x => x = sp_or (sp_L o a b i) yb j) n 0 0 (Nat.zero_le n) rfl ?_ ?_
  · intro m x I
    exact br_t (Int32.le_refl _) (by rw [I]; exact h)
  · intro m j x hj I ih
    have e2 : (nI j).toNatClampNeg = j := nI_clamp (by omega)
    refine br_f (nI_ge hj (by omega)) (yk_leads hn ok hi hj (fun z => br_f (by decide) ⟨vp_in_nI (by omega) (by decide), ?_⟩) (fun z => br_t rfl (nm_r (nI_1 j) (ih _ (by rw [sp_or, if_neg z]; exact I)))))
    rw [e2]
    exact nm_e (nm_r (nI_1 j) (ih _ (by rw [sp_or, if_pos z, I])))
theorem yk_coll (hn : n ≤ 20) (ok : sp_ok o d a b n) (hb : ∀ j, j < n → sp_is o d a b n (yb j) j) {t u : Nat} (ht : t < 8) (hu : u < 8) {post : Int32 → Prop} (T : pu_any (fun i => sp_C1 o d a b n i t u) n = true → post 1) (F : ¬ pu_any (fun i => sp_C1 o d a b n i t u) n = true → post 0) : ∃ m, wY_collide_39 post (nI t) (nI u) (nI n) (nI k) kn pl me sa wa fw o d a b yb yw yc yo ys yt ip ou yl yp m 0 := by
  refine pk_loop (fun m i (_ : Unit) => wY_collide_39 post (nI t) (nI u) (nI n) (nI k) kn pl me sa wa fw o d a b yb yw yc yo ys yt ip ou yl yp m (nI i)) (fun i _ => ¬ pu_any (fun i => sp_C1 o d a b n i t u) i = true) n 0 () (Nat.zero_le n) (by rw [pu_any]; decide) ?_ ?_
  · intro m _ I
    exact br_t (Int32.le_refl _) (F I)
  · intro m i _ hi I ih
    have e : (nI i).toNatClampNeg = i := nI_clamp (by omega)
    have v : vp_in (nI i) 20 := vp_in_nI (by omega) (by decide)
    have N : ¬ sp_C1 o d a b n i t u = true → wY_collide_39 post (nI t) (nI u) (nI n) (nI k) kn pl me sa wa fw o d a b yb yw yc yo ys yt ip ou yl yp m (nI (i + 1)) := fun z => ih () (by rw [pu_any, Bool.or_eq_true]; exact fun y => y.elim I z)
    have G : ∀ z : Int32, (z = 0 ∧ ¬ (o i = 5 ∧ a i = nI u)) ∨ (z = 1 ∧ (o i = 5 ∧ a i = nI u)) → wY_collide_72 post (wY_collide_39 post (nI t) (nI u) (nI n) (nI k) kn pl me sa wa fw o d a b yb yw yc yo ys yt ip ou yl yp m) (nI t) (nI u) (nI i) z (nI n) (nI k) kn pl me sa wa fw o d a b yb yw yc yo ys yt ip ou yl yp := by
      intro z hz
      refine yk_dfd (by omega) ?_
      by_cases c : sp_D o d t i = true
      · refine br_t ((sp_dfd_eq ok hi ht).mpr c) ?_
        rcases hz with ⟨hz, w⟩ | ⟨hz, w⟩
        · subst hz
          refine br_t rfl (yk_behind hn ok hi ?_)
          have q : sp_C1 o d a b n i t u = bt (sp_or (sp_L o a b i) yb n) u := by
            unfold sp_C1
            rw [c, sp_bh_b hb (by omega), show (decide (o i = 5) && decide (a i = nI u)) = false from Bool.eq_false_iff.mpr (fun y => w (by rw [Bool.and_eq_true, decide_eq_true_eq, decide_eq_true_eq] at y; exact y))]
            rfl
          refine br_c (fun y => T ?_) (fun y => nm_r (nI_1 i) (N (fun r => ?_)))
          · rw [cx_has _ (by omega), ← q] at y
            rw [pu_any_iff]
            exact ⟨i, hi, y⟩
          · rw [q, ← cx_has _ (by omega)] at r
            exact y r
        · subst hz
          refine br_f (by decide) (nm_r (nI_1 i) (N ?_))
          unfold sp_C1
          rw [decide_eq_true w.1, decide_eq_true w.2]
          simp
      · refine br_f (fun y => c ((sp_dfd_eq ok hi ht).mp y)) (nm_r (nI_1 i) (N ?_))
        unfold sp_C1
        rw [show sp_D o d t i = false by simpa using c]
        simp
    refine br_f (nI_ge hi (by omega)) ⟨v, ?_⟩
    rw [e]
    exact br_c (fun h5 => ⟨v, br_c (fun y => G 1 (Or.inr ⟨rfl, h5, y⟩)) (fun y => G 0 (Or.inl ⟨rfl, fun w => y w.2⟩))⟩) (fun h5 => G 0 (Or.inl ⟨rfl, fun w => h5 w.1⟩))
theorem yk_collide (hn : n ≤ 20) (ok : sp_ok o d a b n) (hb : ∀ j, j < n → sp_is o d a b n (yb j) j) {t u : Nat} (ht : t < 8) (hu : u < 8) {post : Int32 → Prop} (T : sp_C o d a b n t u = true → post 1) (F : ¬ sp_C o d a b n t u = true → post 0) : wpY_collide post (nI n, nI k, kn, pl, me, sa, wa, fw, o, d, a, b, yb, yw, yc, yo, ys, yt, ip, ou, yl, yp) (nI t) (nI u) := by
  have G : ¬ (0 < n ∧ sp_lv o d a b n t 0 = true ∧ sp_lv o d a b n u 0 = true) → ∃ m, wY_collide_39 post (nI t) (nI u) (nI n) (nI k) kn pl me sa wa fw o d a b yb yw yc yo ys yt ip ou yl yp m 0 := by
    intro h
    refine yk_coll hn ok hb ht hu (fun z => T ?_) (fun z => F ?_)
    · unfold sp_C
      rw [z]
      simp
    · unfold sp_C
      rw [Bool.or_eq_true, Bool.and_eq_true, Bool.and_eq_true, decide_eq_true_eq]
      exact fun y => y.elim h z
  by_cases z : n = 0
  · exact br_t (by rw [z]; decide) (G (by omega))
  · refine br_f (nI_nle (by omega) (by omega)) ?_
    have H : ∀ x, x < 8 → ((((yb 0) >>> (nI x &&& 31)) &&& 1) = 1 ↔ sp_lv o d a b n x 0 = true) := by
      intro x hx
      rw [cx_has _ (by omega), hb 0 (by omega) x (by omega)]
    exact ek_if (H t ht) (fun p => ek_if (H u hu) (fun q => T (by unfold sp_C; rw [p, q, decide_eq_true (show 0 < n by omega)]; rfl)) (fun q => G (fun y => q y.2.2))) (fun p => G (fun y => p y.2.1))
theorem yk_clashes (hn : n ≤ 20) (ok : sp_ok o d a b n) (hb : ∀ j, j < n → sp_is o d a b n (yb j) j) {post : SY → Prop} (h : ∀ c, cl_inv c (sp_C o d a b n) → post (nI n, nI k, kn, pl, me, sa, wa, fw, o, d, a, b, yb, yw, c, yo, ys, yt, ip, ou, yl, yp)) : wpY_findClashes post (nI n, nI k, kn, pl, me, sa, wa, fw, o, d, a, b, yb, yw, yc, yo, ys, yt, ip, ou, yl, yp) := by
  refine pk_loop (fun m i (c : Nat → Int32) => wY_findClashes_2 post (nI n) (nI k) kn pl me sa wa fw m (nI i) o d a b yb yw c yo ys yt ip ou yl yp) (fun i c => ∀ j, j < i → c j = (fun _ => 0) j) 8 0 yc (Nat.zero_le 8) (fun j hj => absurd hj (Nat.not_lt_zero j)) ?_ ?_
  · intro m c I
    refine br_t (Int32.le_refl _) ?_
    refine pk_loop (fun m t (c : Nat → Int32) => wY_findClashes_23 post (nI n) (nI k) kn pl me sa wa fw m (nI t) o d a b yb yw c yo ys yt ip ou yl yp) (fun t c => cl_inv c (fun x y => decide (x < t) && sp_C o d a b n x y)) 8 0 c (Nat.zero_le 8) (cl_pt (cl_0 I) (fun x y _ _ _ => by simp)) ?_ ?_
    · intro m c I
      exact br_t (Int32.le_refl _) (h c (cl_pt I (fun x y hx _ _ => by rw [decide_eq_true hx]; rfl)))
    · intro m t c ht I ih
      refine br_f (nI_ge (b := 8) ht (by decide)) ?_
      refine pk_loop (fun q u (c : Nat → Int32) => wY_findClashes_31 post (wY_findClashes_23 post (nI n) (nI k) kn pl me sa wa fw m) (nI t) (nI n) (nI k) kn pl me sa wa fw q (nI u) o d a b yb yw c yo ys yt ip ou yl yp) (fun u c => cl_inv c (fun x y => (decide (x < t) && sp_C o d a b n x y) || (decide (x = t) && (decide (y < u) && sp_C o d a b n t y)))) 8 0 c (Nat.zero_le 8) (cl_pt I (fun x y _ _ _ => by simp)) ?_ ?_
      · intro q c I
        refine br_t (Int32.le_refl _) (nm_r (nI_1 t) (ih c (cl_pt I (fun x y hx hy _ => ?_))))
        by_cases e : x = t
        · subst e
          rw [decide_eq_true hy]
          simp
        · rw [show decide (x < t + 1) = decide (x < t) from decide_eq_decide.mpr (by omega), decide_eq_false e]
          simp
      · intro q u c hu I ih
        have e : (nI t).toNatClampNeg = t := nI_clamp (by omega)
        have e2 : (nI u).toNatClampNeg = u := nI_clamp (by omega)
        have v : vp_in (nI t) 8 := vp_in_nI ht (by decide)
        have v2 : vp_in (nI u) 8 := vp_in_nI hu (by decide)
        refine br_f (nI_ge (b := 8) hu (by decide)) ?_
        by_cases z : u = t
        · exact br_t (by rw [z]) (nm_r (nI_1 u) (ih _ (cl_skP I (Or.inl z))))
        · refine br_f (fun y => z ((nI_eq (by omega) (by omega)).mp y).symm) ?_
          refine yk_collide hn ok hb ht hu (fun y => br_f (by decide) ⟨v, v, ?_⟩) (fun y => br_t rfl (nm_r (nI_1 u) (ih _ (cl_skP I (Or.inr y)))))
          rw [e, e2]
          exact nm_e ⟨v2, v2, nm_e (nm_r (nI_1 u) (ih _ (cl_adP ht hu z y I)))⟩
  · intro m i r hi I ih
    have e : (nI i).toNatClampNeg = i := nI_clamp (by omega)
    have v : vp_in (nI i) 8 := vp_in_nI (by omega) (by decide)
    refine br_f (nI_ge (b := 8) hi (by decide)) ⟨v, ?_⟩
    rw [e]
    exact nm_e (nm_r (nI_1 i) (ih _ (up_lt I rfl)))
theorem yk_ways (hn : n ≤ 20) (ok : sp_ok o d a b n) {post : SY → Prop} (h : ∀ r, (∀ j, j < n → r j = sp_way o a b n j) → post (nI n, nI k, kn, pl, me, sa, wa, fw, o, d, a, b, yb, r, yc, yo, ys, yt, ip, ou, yl, yp)) : wpY_findWays post (nI n, nI k, kn, pl, me, sa, wa, fw, o, d, a, b, yb, yw, yc, yo, ys, yt, ip, ou, yl, yp) := by
  refine pk_loop (fun m i (r : Nat → Int32) => wY_findWays_2 post (nI n) (nI k) kn pl me sa wa fw m (nI i) o d a b yb r yc yo ys yt ip ou yl yp) (fun i r => ∀ j, j < i → r j = sp_lead o a b n j) n 0 yw (Nat.zero_le n) (fun j hj => absurd hj (Nat.not_lt_zero j)) ?_ ?_
  · intro m r I
    refine br_t (Int32.le_refl _) ?_
    refine pk_loop (fun m i (r : Nat → Int32) => wY_findWays_62 post (nI n) (nI k) kn pl me sa wa fw m (nI i) o d a b yb r yc yo ys yt ip ou yl yp) (fun i r => wr_eq n r (wr_out n (sp_lead o a b n) i)) n 0 r (Nat.zero_le n) I ?_ ?_
    · intro m r I
      exact br_t (Int32.le_refl _) (h r I)
    · intro m p r hp I ih
      refine br_f (nI_ge hp (by omega)) ?_
      refine pk_loop (fun q i (r : Nat → Int32) => wY_findWays_72 post (wY_findWays_62 post (nI n) (nI k) kn pl me sa wa fw m) (nI p) (nI n) (nI k) kn pl me sa wa fw q (nI i) o d a b yb r yc yo ys yt ip ou yl yp) (fun i r => wr_eq n r (wr_in p (wr_out n (sp_lead o a b n) p) i)) n 0 r (Nat.zero_le n) I ?_ ?_
      · intro q r I
        exact br_t (Int32.le_refl _) (nm_r (nI_1 p) (ih r I))
      · intro q i r hi I ih
        have e : (nI i).toNatClampNeg = i := nI_clamp (by omega)
        have e2 : (nI p).toNatClampNeg = p := nI_clamp (by omega)
        have v : vp_in (nI i) 21 := vp_in_nI (by omega) (by decide)
        refine br_f (nI_ge hi (by omega)) ⟨v, ?_⟩
        rw [e, e2]
        obtain ⟨A, B⟩ := wr_in_s hp hi I
        exact ek_if (cx_has _ (by omega)) (fun z => ⟨v, vp_in_nI (by omega) (by decide), v, nm_e (nm_r (nI_1 i) (ih _ (A z)))⟩) (fun z => nm_r (nI_1 i) (ih _ (B z)))
  · intro m i r hi I ih
    have e : (nI i).toNatClampNeg = i := nI_clamp (by omega)
    have v : vp_in (nI i) 21 := vp_in_nI (by omega) (by decide)
    refine br_f (nI_ge hi (by omega)) ⟨v, ?_⟩
    rw [e]
    refine nm_e ?_
    refine pk_loop (fun q j (r : Nat → Int32) => wY_findWays_19 post (wY_findWays_2 post (nI n) (nI k) kn pl me sa wa fw m) (nI i) (nI n) (nI k) kn pl me sa wa fw q (nI j) o d a b yb r yc yo ys yt ip ou yl yp) (fun j r => r i = sp_or (sp_L o a b i) (fun j => (1 : Int32) <<< (nI j &&& 31)) j ∧ ∀ j, j < i → r j = sp_lead o a b n j) n 0 (upd r i 0) (Nat.zero_le n) ⟨pk_us, fun j hj => by rw [pk_un (by omega)]; exact I j hj⟩ ?_ ?_
    · intro q r I
      refine br_t (Int32.le_refl _) (nm_r (nI_1 i) (ih r (fun j hj => ?_)))
      rcases Nat.lt_or_ge j i with g | g
      · exact I.2 j g
      · have e3 : j = i := by omega
        rw [e3]
        exact I.1
    · intro q j r hj I ih
      refine br_f (nI_ge hj (by omega)) (yk_leads hn ok hi hj (fun z => br_f (by decide) ⟨v, v, ?_⟩) (fun z => br_t rfl (nm_r (nI_1 j) (ih _ ⟨by rw [sp_or, if_neg z]; exact I.1, I.2⟩))))
      rw [e]
      exact nm_e (nm_r (nI_1 j) (ih _ ⟨by rw [pk_us, sp_or, if_pos z, I.1], fun x hx => by rw [pk_un (by omega)]; exact I.2 x hx⟩))
theorem yk_eq {p : Bool} {x : Int32} {t : Nat} (ht : t < 8) (h : p = true → ∃ q, q < 8 ∧ x = nI q) (y : p = true) : (x = nI t) ↔ x.toNatClampNeg = t := by
  obtain ⟨q, hq, e⟩ := h y
  rw [e, nI_clamp (by omega), nI_eq (by omega) (by omega)]
theorem yk_times (hn : n ≤ 20) (ok : sp_ok o d a b n) {i t : Nat} (hi : i < n) (ht : t < 8) {post : Int32 → Prop} (h : post (nI (sp_nm o d a b (fun x => decide (x = t)) i))) : wpY_times post (nI n, nI k, kn, pl, me, sa, wa, fw, o, d, a, b, yb, yw, yc, yo, ys, yt, ip, ou, yl, yp) (nI i) (nI t) := by
  have e : (nI i).toNatClampNeg = i := nI_clamp (by omega)
  have v : vp_in (nI i) 20 := vp_in_nI (by omega) (by decide)
  obtain ⟨_, k2, k3, k4, _⟩ := ok i hi
  have h : post (nI (((if (sp_df (o i) && decide ((d i).toNatClampNeg = t)) = true then 1 else 0) + (if (sp_ua (o i) && decide ((a i).toNatClampNeg = t)) = true then 1 else 0)) + (if (sp_ub (o i) && decide ((b i).toNatClampNeg = t)) = true then 1 else 0))) := h
  have P : ∀ {p : Bool} {x : Nat}, p = true → x = t → (if (p && decide (x = t)) = true then 1 else 0) = 1 := by
    intro p x hp hx
    rw [hp, decide_eq_true hx]
    rfl
  have Q : ∀ {p : Bool} {x : Nat}, ¬ x = t → (if (p && decide (x = t)) = true then 1 else 0) = 0 := by
    intro p x hx
    rw [decide_eq_false hx, Bool.and_false]
    rfl
  have R : ∀ {p : Bool} {x : Nat}, ¬ p = true → (if (p && decide (x = t)) = true then 1 else 0) = 0 := by
    intro p x hp
    rw [show p = false by simpa using hp]
    rfl
  have T51 : ∀ c0 c1 : Nat, post (nI ((c1 + c0) + (if (sp_ub (o i) && decide ((b i).toNatClampNeg = t)) = true then 1 else 0))) → wY_times_51 post (nI i) (nI t) (o i) (nI c0) (nI c1) (nI n) (nI k) kn pl me sa wa fw o d a b yb yw yc yo ys yt ip ou yl yp := by
    intro c0 c1 hp
    unfold wY_times_51
    rw [e, nI_add, nI_1, Int32.add_zero]
    refine wk_ubY (fun y => br_f (by decide) ⟨v, ek_if (yk_eq ht k4 y) (fun z => ?_) (fun z => ?_)⟩) (fun y => br_t rfl ?_)
    · rw [P y z] at hp
      exact hp
    · rw [Q z] at hp
      exact hp
    · rw [R y] at hp
      exact hp
  have T29 : ∀ c1 : Nat, post (nI ((c1 + (if (sp_ua (o i) && decide ((a i).toNatClampNeg = t)) = true then 1 else 0)) + (if (sp_ub (o i) && decide ((b i).toNatClampNeg = t)) = true then 1 else 0))) → wY_times_29 post (nI i) (nI t) (o i) (nI c1) (nI n) (nI k) kn pl me sa wa fw o d a b yb yw yc yo ys yt ip ou yl yp := by
    intro c1 hp
    unfold wY_times_29
    rw [e]
    refine wk_uaY (fun y => br_f (by decide) ⟨v, ek_if (yk_eq ht k3 y) (fun z => ?_) (fun z => ?_)⟩) (fun y => br_t rfl ?_)
    · rw [P y z] at hp
      exact T51 1 c1 hp
    · rw [Q z] at hp
      exact T51 0 c1 hp
    · rw [R y] at hp
      exact T51 0 c1 hp
  unfold wpY_times
  dsimp only
  rw [e]
  refine ⟨v, nm_e (wk_dfY (fun y => br_f (by decide) ⟨v, ek_if (yk_eq ht k2 y) (fun z => ?_) (fun z => ?_)⟩) (fun y => br_t rfl ?_))⟩
  · rw [P y z] at h
    exact T29 1 h
  · rw [Q z] at h
    exact T29 0 h
  · rw [R y] at h
    exact T29 0 h
end
