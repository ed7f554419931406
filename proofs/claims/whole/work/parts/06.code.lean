/-! the code, its sets and its ways, as both sides see them -/
def sp_df (o : Int32) : Bool := decide (o ≤ 5) || decide (o = 9)
def sp_ua (o : Int32) : Bool := (decide (1 ≤ o) && decide (o ≤ 5)) || (decide (o = 7) || decide (o = 8))
def sp_ub (o : Int32) : Bool := decide (1 ≤ o) && decide (o ≤ 4)
section
variable (o d a b : Nat → Int32) (n : Nat)
/-- an instruction that put lets in -/
def sp_ok1 (o d a b : Int32) : Prop :=
  (∃ q, q ≤ 10 ∧ o = nI q) ∧ (sp_df o = true → ∃ q, q < 8 ∧ d = nI q) ∧ (sp_ua o = true → ∃ q, q < 8 ∧ a = nI q) ∧ (sp_ub o = true → ∃ q, q < 8 ∧ b = nI q) ∧ (o = 6 → ∃ q, q ≤ 20 ∧ a = nI q) ∧ (o = 7 → ∃ q, q ≤ 20 ∧ b = nI q)
def sp_ok : Prop := ∀ i, i < n → sp_ok1 (o i) (d i) (a i) (b i)
def sp_U (t i : Nat) : Bool := (sp_ua (o i) && decide (a i = nI t)) || (sp_ub (o i) && decide (b i = nI t))
def sp_D (t i : Nat) : Bool := sp_df (o i) && decide (d i = nI t)
def sp_L (i j : Nat) : Bool := ((decide (o i = 6) && decide (a i = nI j)) || (decide (o i = 7) && decide (b i = nI j))) || ((!decide (o i = 6) && !decide (o i = 10)) && decide (j = i + 1))
def sp_used (i : Nat) : Int32 := (if sp_ua (o i) = true then (1 : Int32) <<< (a i &&& 31) else 0) ||| (if sp_ub (o i) = true then (1 : Int32) <<< (b i &&& 31) else 0)
def sp_dfd (i : Nat) : Int32 := if sp_df (o i) = true then (1 : Int32) <<< (d i &&& 31) else 0
/-- alive before i, behind i -/
def sp_lv (t i : Nat) : Bool := lf_it (sp_U o a b t) (sp_D o d t) (sp_L o a b) n n i
def sp_bh (t i : Nat) : Bool := pu_any (fun j => sp_L o a b i j && sp_lv o d a b n t j) n
end
def sp_or (c : Nat → Bool) (f : Nat → Int32) : Nat → Int32
  | 0 => 0
  | n + 1 => if c n = true then sp_or c f n ||| f n else sp_or c f n
theorem sp_or_b (c : Nat → Bool) (f : Nat → Int32) (t : Nat) : ∀ n, bt (sp_or c f n) t = pu_any (fun j => c j && bt (f j) t) n
  | 0 => b_0 t
  | n + 1 => by
    rw [sp_or, pu_any, ← sp_or_b c f t n]
    cases h : c n
    · simp
    · simp [b_or]
theorem sp_or_c {c c' : Nat → Bool} {f f' : Nat → Int32} : ∀ {n : Nat}, (∀ j, j < n → c j = c' j) → (∀ j, j < n → f j = f' j) → sp_or c f n = sp_or c' f' n
  | 0, _, _ => rfl
  | n + 1, h, g => by
    rw [sp_or, sp_or, sp_or_c (fun j hj => h j (by omega)) (fun j hj => g j (by omega)), h n (by omega), g n (by omega)]
theorem sp_inj {x t : Nat} (hx : x < 32) (ht : t < 32) : decide (nI x = nI t) = decide (x = t) := decide_eq_decide.mpr (nI_eq (by omega) (by omega))
theorem sp_one {p : Bool} {x : Int32} {t : Nat} (ht : t < 32) (h : p = true → ∃ q, q < 8 ∧ x = nI q) : bt (if p = true then (1 : Int32) <<< (x &&& 31) else 0) t = (p && decide (x = nI t)) := by
  cases p
  · exact b_0 t
  · obtain ⟨q, hq, rfl⟩ := h rfl
    rw [if_pos rfl, cx_one (by omega), sp_inj (by omega) ht]
    rfl
section
variable {o d a b : Nat → Int32} {n : Nat}
theorem sp_used_b {i t : Nat} (h : sp_ok o d a b n) (hi : i < n) (ht : t < 32) : bt (sp_used o a b i) t = sp_U o a b t i := by
  obtain ⟨_, _, h3, h4, _⟩ := h i hi
  unfold sp_used sp_U
  rw [b_or, sp_one ht h3, sp_one ht h4]
theorem sp_dfd_b {i t : Nat} (h : sp_ok o d a b n) (hi : i < n) (ht : t < 32) : bt (sp_dfd o d i) t = sp_D o d t i := by
  obtain ⟨_, h2, _⟩ := h i hi
  unfold sp_dfd sp_D
  rw [sp_one ht h2]
/-- one mending of before[i] -/
def sp_new (o d a b : Nat → Int32) (n : Nat) (B : Nat → Int32) (i : Nat) : Int32 := sp_used o a b i ||| (sp_or (sp_L o a b i) B n &&& (sp_dfd o d i ^^^ (-1)))
theorem sp_new_b {i t : Nat} (h : sp_ok o d a b n) (hi : i < n) (ht : t < 32) (B : Nat → Int32) : bt (sp_new o d a b n B i) t = lf_F (sp_U o a b t) (sp_D o d t) (sp_L o a b) n (fun j => bt (B j) t) i := by
  unfold sp_new lf_F
  rw [b_or, b_and, cx_not _ ht, sp_used_b h hi ht, sp_dfd_b h hi ht, sp_or_b]
/-- within: at least the p-th round, at most what is alive -/
def sp_lo (o d a b : Nat → Int32) (n p : Nat) (x : Int32) (i : Nat) : Prop := ∀ t, t < 32 → lf_it (sp_U o a b t) (sp_D o d t) (sp_L o a b) n p i = true → bt x t = true
def sp_hi (o d a b : Nat → Int32) (n : Nat) (x : Int32) (i : Nat) : Prop := ∀ t, t < 32 → bt x t = true → sp_lv o d a b n t i = true
/-- what is alive before i as a set -/
def sp_is (o d a b : Nat → Int32) (n : Nat) (x : Int32) (i : Nat) : Prop := ∀ t, t < 32 → bt x t = sp_lv o d a b n t i
theorem sp_new_lo {i p : Nat} {B : Nat → Int32} (h : sp_ok o d a b n) (hi : i < n) (g : ∀ j, j < n → sp_lo o d a b n p (B j) j) : sp_lo o d a b n (p + 1) (sp_new o d a b n B i) i := by
  intro t ht e
  rw [sp_new_b h hi ht]
  exact lf_mono (fun j hj => g j hj t ht) i e
theorem sp_new_hi {i : Nat} {B : Nat → Int32} (h : sp_ok o d a b n) (hi : i < n) (g : ∀ j, j < n → sp_hi o d a b n (B j) j) : sp_hi o d a b n (sp_new o d a b n B i) i := by
  intro t ht e
  rw [sp_new_b h hi ht] at e
  have q := lf_mono (S' := fun j => sp_lv o d a b n t j) (fun j hj => g j hj t ht) i e
  unfold sp_lv at q ⊢
  rw [← lf_fix i hi]
  exact q
theorem sp_lo_up {i p : Nat} {x : Int32} (h : sp_lo o d a b n (p + 1) x i) : sp_lo o d a b n p x i := fun t ht e => h t ht (lf_up p i e)
theorem sp_lo_0 {i : Nat} {x : Int32} : sp_lo o d a b n 0 x i := fun t _ e => absurd e (by simp [lf_it])
theorem sp_hi_0 {i : Nat} : sp_hi o d a b n 0 i := fun t _ e => absurd e (by rw [b_0]; decide)
theorem sp_is_of {i : Nat} {x : Int32} (h : sp_lo o d a b n n x i) (g : sp_hi o d a b n x i) : sp_is o d a b n x i := fun t ht => Bool.eq_iff_iff.mpr ⟨g t ht, h t ht⟩
theorem sp_is_lo {i : Nat} {x : Int32} (h : sp_is o d a b n x i) : sp_lo o d a b n n x i := fun t ht e => by rw [h t ht]; exact e
theorem sp_is_hi {i : Nat} {x : Int32} (h : sp_is o d a b n x i) : sp_hi o d a b n x i := fun t ht e => by rw [← h t ht]; exact e
theorem sp_is_u {i : Nat} {x y : Int32} (h : sp_is o d a b n x i) (g : sp_is o d a b n y i) : x = y := b_ext (fun t ht => (h t ht).trans (g t ht).symm)
/-- a sweep that changes nothing: all is alive that must be -/
theorem sp_fix {B : Nat → Int32} (h : sp_ok o d a b n) (g : ∀ j, j < n → sp_hi o d a b n (B j) j) (f : ∀ j, j < n → sp_new o d a b n B j = B j) : ∀ j, j < n → sp_is o d a b n (B j) j := by
  intro j hj t ht
  unfold sp_lv
  exact lf_eq (S := fun j => bt (B j) t) (fun i hi => by rw [← sp_new_b h hi ht, f i hi]) (fun i hi => g i hi t ht) j hj
theorem sp_bh_b {i t : Nat} {B : Nat → Int32} (g : ∀ j, j < n → sp_is o d a b n (B j) j) (ht : t < 32) : bt (sp_or (sp_L o a b i) B n) t = sp_bh o d a b n t i := by
  rw [sp_or_b]
  unfold sp_bh
  exact pu_any_eq (fun j hj => by rw [g j hj t ht])
end
