/-! what is asked of the derived tables -/
section
variable (o d a b : Nat → Int32) (n : Nat)
def sp_lead (i : Nat) : Int32 := sp_or (sp_L o a b i) (fun j => (1 : Int32) <<< (nI j &&& 31)) n
def sp_way : Nat → Int32 := wr_out n (sp_lead o a b n) n
def sp_wt (i : Nat) : Int32 := if bt (sp_way o a b n i) i = true then 10 else 1
def sp_co (t : Nat) : Nat → Int32
  | 0 => 0
  | i + 1 => sp_co t i + nI (sp_nm o d a b (fun x => decide (x = t)) i) * sp_wt o a b n i
def sp_cost (t : Nat) : Int32 := sp_co o d a b n t n
def sp_sm (s : Nat) : Nat → Int32
  | 0 => 0
  | t + 1 => if s.testBit t = true then sp_sm s t + sp_cost o d a b n t else sp_sm s t
def sp_sum (s : Nat) : Int32 := sp_sm o d a b n s 8
def sp_F (k s : Nat) : Prop := gc_col (sp_K o d a b n) (fun t => !s.testBit t) k
def sp_M (k m : Nat) : Prop := am_is (sp_F o d a b n k) (fun s => (sp_sum o d a b n s).toInt) m
def sp_B (k m : Nat) (c : Nat → Nat) : Prop := gc_best (gc_vd (sp_K o d a b n) (fun t => m.testBit t) k) (sp_sv o d a n (fun t => m.testBit t)) c
end
section
variable {o d a b : Nat → Int32} {n : Nat}
theorem sp_lead_b {i j : Nat} (hn : n ≤ 20) : bt (sp_lead o a b n i) j = (decide (j < n) && sp_L o a b i j) := by
  unfold sp_lead
  rw [sp_or_b]
  apply Bool.eq_iff_iff.mpr
  rw [pu_any_iff, Bool.and_eq_true, decide_eq_true_eq]
  constructor
  · rintro ⟨q, hq, h⟩
    simp only [Bool.and_eq_true] at h
    rw [cx_one (by omega), decide_eq_true_eq] at h
    obtain ⟨h1, rfl⟩ := h
    exact ⟨hq, h1⟩
  · rintro ⟨h1, h2⟩
    refine ⟨j, h1, ?_⟩
    simp only [Bool.and_eq_true]
    rw [cx_one (by omega), decide_eq_true_eq]
    exact ⟨h2, rfl⟩
theorem sp_F_vd {k s : Nat} : sp_F o d a b n k s ↔ ∃ c, gc_vd (sp_K o d a b n) (fun t => s.testBit t) k c :=
  (gc_vd_col (M := fun t => s.testBit t) (fun t u _ _ => sp_K_s o d a b n t u) (fun t _ => sp_K_i o d a b n t)).symm
theorem sp_F_255 {k : Nat} : sp_F o d a b n k 255 := by
  refine ⟨fun _ => 0, fun t ht g => ?_⟩
  have e : ∀ t, t < 8 → (!(255 : Nat).testBit t) = false := by decide
  exact absurd ((e t ht).symm.trans g) (by decide)
/-! the two machines: cells by place, cells by temporary -/
def rn_cell (m : Nat) (c : Nat → Nat) (t : Nat) : Nat := if m.testBit t = true then 4 + t else c t
def rn_ag (o d a b : Nat → Int32) (n m : Nat) (c : Nat → Nat) (xc yc : Nat → Int32) (p : Nat) : Prop := p < n → ∀ t, t < 8 → sp_lv o d a b n t p = true → xc (rn_cell m c t) = yc t
theorem sp_lv_use {i t : Nat} (hi : i < n) (h : sp_U o a b t i = true) : sp_lv o d a b n t i = true := by
  unfold sp_lv
  rw [← lf_fix i hi]
  unfold lf_F
  rw [h]
  rfl
theorem sp_bh_of {i j t : Nat} (hj : j < n) (hL : sp_L o a b i j = true) (h : sp_lv o d a b n t j = true) : sp_bh o d a b n t i = true := by
  unfold sp_bh
  rw [pu_any_iff]
  exact ⟨j, hj, by rw [hL, h]; rfl⟩
theorem sp_lv_step {i j t : Nat} (hi : i < n) (hj : j < n) (hL : sp_L o a b i j = true) (h : sp_lv o d a b n t j = true) (hD : sp_D o d t i = false) : sp_lv o d a b n t i = true := by
  have q := sp_bh_of hj hL h
  unfold sp_bh at q
  unfold sp_lv at q ⊢
  rw [← lf_fix i hi]
  unfold lf_F
  rw [q, hD]
  simp
theorem rn_go {m : Nat} {c : Nat → Nat} {xc yc : Nat → Int32} {i j : Nat} (hi : i < n) (hL : j < n → sp_L o a b i j = true) (hD : sp_df (o i) = false) (h : rn_ag o d a b n m c xc yc i) : rn_ag o d a b n m c xc yc j := by
  intro hj t ht g
  refine h hi t ht (sp_lv_step hi hj (hL hj) g ?_)
  unfold sp_D
  rw [hD]
  rfl
theorem rn_wr {k m : Nat} {c : Nat → Nat} {xc yc : Nat → Int32} {i j q : Nat} {x : Int32} (hc : gc_vd (sp_K o d a b n) (fun t => m.testBit t) k c) (hk : k ≤ 4) (hi : i < n) (hL : j < n → sp_L o a b i j = true) (hD : sp_df (o i) = true) (hq : q < 8) (ed : d i = nI q)
    (hm : o i = 5 → ∀ r, r < 8 → a i = nI r → x = yc r) (h : rn_ag o d a b n m c xc yc i) : rn_ag o d a b n m c (upd xc (rn_cell m c q) x) (upd yc q x) j := by
  intro hj t ht g
  by_cases e : t = q
  · subst e
    rw [pk_us, pk_us]
  · have hDt : sp_D o d t i = false := by
      unfold sp_D
      rw [ed, hD, decide_eq_false (by rw [nI_eq (by omega) (by omega)]; omega)]
      rfl
    have lt := sp_lv_step hi hj (hL hj) g hDt
    have A := h hi t ht lt
    rw [pk_un e]
    by_cases z : rn_cell m c t = rn_cell m c q
    · rw [z, pk_us]
      have rt : m.testBit t = true ∨ (m.testBit t = false ∧ c t < 4) := by
        cases w : m.testBit t
        · exact Or.inr ⟨rfl, Nat.lt_of_lt_of_le ((hc t ht).2 w).1 hk⟩
        · exact Or.inl rfl
      have rq : m.testBit q = true ∨ (m.testBit q = false ∧ c q < 4) := by
        cases w : m.testBit q
        · exact Or.inr ⟨rfl, Nat.lt_of_lt_of_le ((hc q hq).2 w).1 hk⟩
        · exact Or.inl rfl
      have both : m.testBit t = false ∧ m.testBit q = false ∧ c t = c q := by
        unfold rn_cell at z
        rcases rt with w | ⟨w, w2⟩
        · rw [if_pos w] at z
          rcases rq with y | ⟨y, y2⟩
          · rw [if_pos y] at z
            omega
          · rw [if_neg (by rw [y]; decide)] at z
            omega
        · rw [if_neg (by rw [w]; decide)] at z
          rcases rq with y | ⟨y, y2⟩
          · rw [if_pos y] at z
            omega
          · rw [if_neg (by rw [y]; decide)] at z
            exact ⟨w, y, z⟩
      obtain ⟨mt, mq, ec⟩ := both
      have nK : sp_K o d a b n q t = false := by
        cases w : sp_K o d a b n q t
        · rfl
        · rcases Nat.lt_trichotomy q t with y | y | y
          · exact absurd ec.symm (((hc t ht).2 mt).2 q y mq (by rw [sp_K_s]; exact w))
          · exact absurd y.symm e
          · exact absurd ec (((hc q hq).2 mq).2 t y mt w)
      have bh := sp_bh_of hj (hL hj) g
      have nC : sp_C1 o d a b n i q t = false := by
        cases w : sp_C1 o d a b n i q t
        · rfl
        · have y : sp_C o d a b n q t = true := by
            unfold sp_C
            rw [Bool.or_eq_true, pu_any_iff]
            exact Or.inr ⟨i, hi, w⟩
          unfold sp_K at nK
          rw [y, decide_eq_false (fun z => e z.symm)] at nK
          exact absurd nK (by simp)
      unfold sp_C1 at nC
      have hDq : sp_D o d q i = true := by
        unfold sp_D
        rw [hD, ed]
        simp
      rw [hDq, bh] at nC
      by_cases o5 : o i = 5
      · by_cases ar : a i = nI t
        · exact hm o5 t ht ar
        · rw [decide_eq_false ar] at nC
          simp at nC
      · rw [decide_eq_false o5] at nC
        simp at nC
    · rw [pk_un z]
      exact A
end
