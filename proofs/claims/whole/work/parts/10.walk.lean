/-! numbers against constants -/
theorem li_0 {i : Nat} (h : i < 2 ^ 31) : (nI i ≤ 0) ↔ i ≤ 0 := nI_leI (b := 0) h (by decide)
theorem li_0l {i : Nat} (h : i < 2 ^ 31) : (nI i < 0) ↔ False := ⟨fun z => nI_pos h z, False.elim⟩
theorem li_4 {i : Nat} (h : i < 2 ^ 31) : ((4 : Int32) ≤ nI i) ↔ 4 ≤ i := nI_leI (a := 4) (by decide) h
theorem li_8 {i : Nat} (h : i < 2 ^ 31) : ((8 : Int32) ≤ nI i) ↔ 8 ≤ i := nI_leI (a := 8) (by decide) h
theorem li_12 {i : Nat} (h : i < 2 ^ 31) : ((12 : Int32) ≤ nI i) ↔ 12 ≤ i := nI_leI (a := 12) (by decide) h
theorem li_20 {i : Nat} (h : i < 2 ^ 31) : ((20 : Int32) ≤ nI i) ↔ 20 ≤ i := nI_leI (a := 20) (by decide) h
theorem li_30 {i : Nat} (h : i < 2 ^ 31) : ((30 : Int32) ≤ nI i) ↔ 30 ≤ i := nI_leI (a := 30) (by decide) h
theorem li_200 {i : Nat} (h : i < 2 ^ 31) : ((200 : Int32) ≤ nI i) ↔ 200 ≤ i := nI_leI (a := 200) (by decide) h
theorem li_256 {i : Nat} (h : i < 2 ^ 31) : ((256 : Int32) ≤ nI i) ↔ 256 ≤ i := nI_leI (a := 256) (by decide) h
theorem li_64k {i : Nat} (h : i < 2 ^ 31) : ((65536 : Int32) ≤ nI i) ↔ 65536 ≤ i := nI_leI (a := 65536) (by decide) h
/-! the small methods of both sides -/
theorem wk_has {post : Int32 → Prop} {x : Int32} {j : Nat} (hj : j < 32) (t : bt x j = true → post 1) (f : ¬ bt x j = true → post 0) : wpX_has post x (nI j) :=
  br_c (fun h => t ((cx_has x hj).mp h)) (fun h => f (fun z => h ((cx_has x hj).mpr z)))
theorem sp_ua_iff {o : Int32} : sp_ua o = true ↔ (1 ≤ o ∧ o ≤ 5) ∨ (o = 7 ∨ o = 8) := by
  simp only [sp_ua, Bool.or_eq_true, Bool.and_eq_true, decide_eq_true_eq]
theorem sp_ub_iff {o : Int32} : sp_ub o = true ↔ (1 ≤ o ∧ o ≤ 4) := by
  simp only [sp_ub, Bool.and_eq_true, decide_eq_true_eq]
theorem sp_df_iff {o : Int32} : sp_df o = true ↔ (o ≤ 5 ∨ o = 9) := by
  simp only [sp_df, Bool.or_eq_true, decide_eq_true_eq]
theorem wk_df {post : Int32 → Prop} {o : Int32} (t : sp_df o = true → post 1) (f : ¬ sp_df o = true → post 0) : wpX_defines post o := by
  rw [sp_df_iff] at t f
  exact br_c (fun h => t (Or.inl h)) (fun h => br_c (fun g => t (Or.inr g)) (fun g => f (fun y => y.elim h g)))
theorem wk_dfY {post : Int32 → Prop} {o : Int32} (t : sp_df o = true → post 1) (f : ¬ sp_df o = true → post 0) : wpY_defines post o := by
  rw [sp_df_iff] at t f
  exact br_c (fun h => t (Or.inl h)) (fun h => br_c (fun g => t (Or.inr g)) (fun g => f (fun y => y.elim h g)))
theorem wk_ua {post : Int32 → Prop} {o : Int32} (t : sp_ua o = true → post 1) (f : ¬ sp_ua o = true → post 0) : wpX_usesFirst post o := by
  rw [sp_ua_iff] at t f
  have T : ¬ (1 ≤ o ∧ o ≤ 5) → wX_usesFirst_10 post o := fun z => br_c (fun h => t (Or.inr (Or.inl h))) (fun h7 => br_c (fun h => t (Or.inr (Or.inr h))) (fun h8 => f (fun y => y.elim z (fun y => y.elim h7 h8))))
  exact br_c (fun h => T (fun y => absurd y.1 (Int32.not_le.mpr h))) (fun h => br_c (fun g => t (Or.inl ⟨Int32.not_lt.mp h, g⟩)) (fun g => T (fun y => g y.2)))
theorem wk_in {post : Int32 → Prop} {x l m : Int32} (t : l ≤ x ∧ x ≤ m → post 1) (f : ¬ (l ≤ x ∧ x ≤ m) → post 0) : wpY_in post x l m :=
  br_c (fun h => f (fun y => absurd y.1 (Int32.not_le.mpr h))) (fun h => br_c (fun g => f (fun y => absurd y.2 (Int32.not_le.mpr g))) (fun g => t ⟨Int32.not_lt.mp h, Int32.not_lt.mp g⟩))
theorem wk_uaY {post : Int32 → Prop} {o : Int32} (t : sp_ua o = true → post 1) (f : ¬ sp_ua o = true → post 0) : wpY_usesA post o := by
  rw [sp_ua_iff] at t f
  exact wk_in (fun h => br_f (by decide) (t (Or.inl h))) (fun z => br_t rfl (br_c (fun h => t (Or.inr (Or.inl h))) (fun h7 => br_c (fun h => t (Or.inr (Or.inr h))) (fun h8 => f (fun y => y.elim z (fun y => y.elim h7 h8))))))
theorem wk_ub {post : Int32 → Prop} {o : Int32} (t : sp_ub o = true → post 1) (f : ¬ sp_ub o = true → post 0) : wpX_usesSecond post o := by
  rw [sp_ub_iff] at t f
  exact br_c (fun h => f (fun y => absurd y.1 (Int32.not_le.mpr h))) (fun h => br_c (fun g => f (fun y => absurd y.2 (Int32.not_le.mpr g))) (fun g => t ⟨Int32.not_lt.mp h, Int32.not_lt.mp g⟩))
theorem wk_ubY {post : Int32 → Prop} {o : Int32} (t : sp_ub o = true → post 1) (f : ¬ sp_ub o = true → post 0) : wpY_usesB post o := by
  rw [sp_ub_iff] at t f
  exact wk_in (fun h => ⟨rfl, t h⟩) (fun h => ⟨rfl, f h⟩)
theorem wk_tmp {post : Int32 → Prop} {x : Int32} (t : 0 ≤ x ∧ x ≤ 7 → post 1) (f : ¬ (0 ≤ x ∧ x ≤ 7) → post 0) : wpX_isTemporary post x := by
  have e : ∀ x : Int32, (8 ≤ x) ↔ ¬ x ≤ 7 := by
    intro x
    rw [Int32.le_iff_toInt_le, Int32.le_iff_toInt_le, show (8 : Int32).toInt = 8 from by decide, show (7 : Int32).toInt = 7 from by decide]
    omega
  exact br_c (fun h => f (fun y => absurd y.1 (Int32.not_le.mpr h))) (fun h => br_c (fun g => f (fun y => (e x).mp g y.2)) (fun g => t ⟨Int32.not_lt.mp h, Decidable.byContradiction (fun z => g ((e x).mpr z))⟩))
theorem wk_goal {post : Int32 → Prop} {x : Int32} (t : 0 ≤ x ∧ x ≤ 20 → post 1) (f : ¬ (0 ≤ x ∧ x ≤ 20) → post 0) : wpX_isGoal post x :=
  br_c (fun h => f (fun y => absurd y.1 (Int32.not_le.mpr h))) (fun h => br_c (fun g => f (fun y => absurd y.2 (Int32.not_le.mpr g))) (fun g => t ⟨Int32.not_lt.mp h, Int32.not_lt.mp g⟩))
theorem wk_r7 {x : Int32} (h : 0 ≤ x ∧ x ≤ 7) : ∃ q, q < 8 ∧ x = nI q := by
  obtain ⟨q, hq, e⟩ := nI_of2 (M := 7) (n := 7) (by decide) (Int32.not_lt.mpr h.1) h.2
  exact ⟨q, by omega, e⟩
theorem wk_r20 {x : Int32} (h : 0 ≤ x ∧ x ≤ 20) : ∃ q, q ≤ 20 ∧ x = nI q := nI_of2 (M := 20) (n := 20) (by decide) (Int32.not_lt.mpr h.1) h.2
theorem wk_reg {post : Int32 → Prop} {v t : Nat} (hv : v < 65536) (ht : t < 8) (h : post (nI (xd_g v t))) : wpX_registerIn post (nI v) (nI t) := by
  unfold wpX_registerIn
  have e : ∀ t : Nat, t < 8 → (((14 - (2 * nI t)) &&& 31 : Int32).toBitVec.smod 32).toNat = 14 - 2 * t := by decide +kernel
  rw [pk_shrN (by omega) _ _ (e t ht), pk_andN (k := 2) (Nat.lt_of_le_of_lt (Nat.div_le_self _ _) (by omega)) (by decide)]
  exact h
