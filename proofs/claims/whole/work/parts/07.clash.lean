/-! clashes: ordered pairs put in so far, and the sets that they make -/
def cl_inv (c : Nat → Int32) (R : Nat → Nat → Bool) : Prop := ∀ x, x < 8 → ∀ y, y < 32 → bt (c x) y = (decide (y < 8) && (!decide (x = y) && (R x y || R y x)))
def cl_put (c : Nat → Int32) (t u : Nat) : Nat → Int32 :=
  upd (upd c t (c t ||| (1 : Int32) <<< (nI u &&& 31))) u (upd c t (c t ||| (1 : Int32) <<< (nI u &&& 31)) u ||| (1 : Int32) <<< (nI t &&& 31))
theorem cl_put_t (c : Nat → Int32) {t u : Nat} (h : t ≠ u) : cl_put c t u t = (c t ||| (1 : Int32) <<< (nI u &&& 31)) := by
  unfold cl_put
  rw [pk_un h, pk_us]
theorem cl_put_u (c : Nat → Int32) {t u : Nat} (h : t ≠ u) : cl_put c t u u = (c u ||| (1 : Int32) <<< (nI t &&& 31)) := by
  unfold cl_put
  rw [pk_us, pk_un (Ne.symm h)]
theorem cl_put_n (c : Nat → Int32) {t u x : Nat} (h1 : x ≠ t) (h2 : x ≠ u) : cl_put c t u x = c x := by
  unfold cl_put
  rw [pk_un h2, pk_un h1]
theorem cl_add {c : Nat → Int32} {R : Nat → Nat → Bool} {t u : Nat} (ht : t < 8) (hu : u < 8) (h : t ≠ u) (I : cl_inv c R) : cl_inv (cl_put c t u) (fun x y => R x y || (decide (x = t) && decide (y = u))) := by
  intro x hx y hy
  have q := I x hx y hy
  by_cases h1 : x = t
  · subst h1
    rw [cl_put_t c h, b_or, q, cx_one (by omega)]
    by_cases h2 : u = y
    · subst h2
      simp [hu, h]
    · have h3 : ¬ y = u := fun e => h2 e.symm
      simp [h2, h3, h]
  · by_cases h2 : x = u
    · subst h2
      rw [cl_put_u c h, b_or, q, cx_one (by omega)]
      by_cases h3 : t = y
      · subst h3
        simp [ht, h1]
      · have h4 : ¬ y = t := fun e => h3 e.symm
        simp [h3, h4, h1]
    · rw [cl_put_n c h1 h2, q]
      simp [h1, h2]
theorem cl_cong {c : Nat → Int32} {R R' : Nat → Nat → Bool} (I : cl_inv c R) (h : ∀ x y, x < 8 → y < 8 → x ≠ y → (R x y || R y x) = (R' x y || R' y x)) : cl_inv c R' := by
  intro x hx y hy
  rw [I x hx y hy]
  by_cases g : y < 8
  · by_cases e : x = y
    · simp [e]
    · rw [h x y hx g e]
  · simp [g]
theorem cl_0 {c : Nat → Int32} (h : ∀ x, x < 8 → c x = 0) : cl_inv c (fun _ _ => false) := by
  intro x hx y hy
  rw [h x hx, b_0]
  simp
theorem cl_u {c c' : Nat → Int32} {R : Nat → Nat → Bool} (I : cl_inv c R) (J : cl_inv c' R) : ∀ x, x < 8 → c x = c' x := fun x hx => b_ext (fun y hy => (I x hx y hy).trans (J x hx y hy).symm)
section
variable (o d a b : Nat → Int32) (n : Nat)
/-- instruction i makes t clash with u -/
def sp_C1 (i t u : Nat) : Bool := sp_D o d t i && (!(decide (o i = 5) && decide (a i = nI u)) && sp_bh o d a b n u i)
def sp_C (t u : Nat) : Bool := (decide (0 < n) && (sp_lv o d a b n t 0 && sp_lv o d a b n u 0)) || pu_any (fun i => sp_C1 o d a b n i t u) n
def sp_K (t u : Nat) : Bool := !decide (t = u) && (sp_C o d a b n t u || sp_C o d a b n u t)
end
theorem sp_K_s (o d a b : Nat → Int32) (n t u : Nat) : sp_K o d a b n t u = sp_K o d a b n u t := by
  unfold sp_K
  rw [Bool.or_comm, show decide (t = u) = decide (u = t) from decide_eq_decide.mpr ⟨Eq.symm, Eq.symm⟩]
theorem sp_K_i (o d a b : Nat → Int32) (n t : Nat) : sp_K o d a b n t t = false := by
  unfold sp_K
  simp
theorem sp_K_b {o d a b : Nat → Int32} {n : Nat} {c : Nat → Int32} (I : cl_inv c (sp_C o d a b n)) {t u : Nat} (ht : t < 8) (hu : u < 8) : bt (c t) u = sp_K o d a b n t u := by
  rw [I t ht u (by omega), decide_eq_true hu]
  unfold sp_K
  simp
/-! how often an instruction names a temporary of a set -/
def pu_sum (f : Nat → Nat) : Nat → Nat
  | 0 => 0
  | n + 1 => pu_sum f n + f n
theorem pu_sum_c {f g : Nat → Nat} : ∀ {n : Nat}, (∀ i, i < n → f i = g i) → pu_sum f n = pu_sum g n
  | 0, _ => rfl
  | n + 1, h => by rw [pu_sum, pu_sum, pu_sum_c (fun i hi => h i (by omega)), h n (by omega)]
theorem pu_sum_a (f g : Nat → Nat) : ∀ n : Nat, pu_sum (fun i => f i + g i) n = pu_sum f n + pu_sum g n
  | 0 => rfl
  | n + 1 => by
    rw [pu_sum, pu_sum, pu_sum, pu_sum_a f g n]
    omega
theorem pu_sum_1 (M : Nat → Bool) (p : Bool) (q : Nat) : ∀ n : Nat, pu_sum (fun t => if M t = true then (if (p && decide (q = t)) = true then 1 else 0) else 0) n = if (p && (decide (q < n) && M q)) = true then 1 else 0
  | 0 => by simp [pu_sum]
  | n + 1 => by
    rw [pu_sum, pu_sum_1 M p q n]
    cases p
    · simp
    · by_cases h : q = n
      · subst h
        simp
      · have g : decide (q < n + 1) = decide (q < n) := decide_eq_decide.mpr (by omega)
        rw [g]
        simp [h]
section
variable (o d a b : Nat → Int32)
def sp_nm (P : Nat → Bool) (i : Nat) : Nat :=
  ((if (sp_df (o i) && P (d i).toNatClampNeg) = true then 1 else 0) + (if (sp_ua (o i) && P (a i).toNatClampNeg) = true then 1 else 0)) + (if (sp_ub (o i) && P (b i).toNatClampNeg) = true then 1 else 0)
end
theorem sp_if8 {p : Bool} {x : Int32} {M : Nat → Bool} (h : p = true → ∃ q, q < 8 ∧ x = nI q) : (p && (decide (x.toNatClampNeg < 8) && M x.toNatClampNeg)) = (p && M x.toNatClampNeg) := by
  cases p
  · rfl
  · obtain ⟨q, hq, rfl⟩ := h rfl
    rw [nI_clamp (by omega), decide_eq_true hq]
    rfl
theorem sp_nm_sum {o d a b : Nat → Int32} {n i : Nat} (h : sp_ok o d a b n) (hi : i < n) (M : Nat → Bool) : pu_sum (fun t => if M t = true then sp_nm o d a b (fun x => decide (x = t)) i else 0) 8 = sp_nm o d a b M i := by
  obtain ⟨_, h2, h3, h4, _⟩ := h i hi
  have e : ∀ t, (if M t = true then sp_nm o d a b (fun x => decide (x = t)) i else 0) = ((if M t = true then (if (sp_df (o i) && decide ((d i).toNatClampNeg = t)) = true then 1 else 0) else 0) + (if M t = true then (if (sp_ua (o i) && decide ((a i).toNatClampNeg = t)) = true then 1 else 0) else 0)) + (if M t = true then (if (sp_ub (o i) && decide ((b i).toNatClampNeg = t)) = true then 1 else 0) else 0) := by
    intro t
    unfold sp_nm
    by_cases m : M t = true
    · rw [if_pos m, if_pos m, if_pos m, if_pos m]
    · rw [if_neg m, if_neg m, if_neg m, if_neg m]
  rw [pu_sum_c (fun t _ => e t), pu_sum_a, pu_sum_a, pu_sum_1, pu_sum_1, pu_sum_1, sp_if8 h2, sp_if8 h3, sp_if8 h4]
  rfl
/-! a move that vanishes; how many -/
section
variable (o d a : Nat → Int32) (n : Nat)
def sp_sv1 (M : Nat → Bool) (c : Nat → Nat) (i : Nat) : Bool :=
  decide (o i = 5) && (decide (d i = a i) || ((!M (d i).toNatClampNeg && !M (a i).toNatClampNeg) && decide (c (d i).toNatClampNeg = c (a i).toNatClampNeg)))
def sp_sv (M : Nat → Bool) (c : Nat → Nat) : Nat := pu_cnt (sp_sv1 o d a M c) n
def sp_mv : Nat := pu_cnt (fun i => decide (o i = 5)) n
end
theorem sp_sv_le (o d a : Nat → Int32) (n : Nat) (M : Nat → Bool) (c : Nat → Nat) : sp_sv o d a n M c ≤ sp_mv o n := by
  apply pu_cnt_mono
  intro i _ h
  unfold sp_sv1 at h
  rw [Bool.and_eq_true] at h
  exact h.1
theorem sp_sv_c {o d a b : Nat → Int32} {n : Nat} (h : sp_ok o d a b n) {M : Nat → Bool} {c c' : Nat → Nat} (g : ∀ t, t < 8 → c' t = c t) : sp_sv o d a n M c' = sp_sv o d a n M c := by
  apply pu_cnt_eq
  intro i hi
  unfold sp_sv1
  by_cases e : o i = 5
  · obtain ⟨_, h2, h3, _⟩ := h i hi
    obtain ⟨q, hq, e2⟩ := h2 (by rw [e]; decide)
    obtain ⟨r, hr, e3⟩ := h3 (by rw [e]; decide)
    rw [e2, e3, nI_clamp (by omega), nI_clamp (by omega), g q hq, g r hr]
  · simp [e]
/-! ways: Warshall's sweep -/
def wr_in (m : Nat) (f : Nat → Int32) : Nat → Nat → Int32
  | 0 => f
  | i + 1 => if bt (wr_in m f i i) m = true then upd (wr_in m f i) i (wr_in m f i i ||| wr_in m f i m) else wr_in m f i
def wr_out (n : Nat) (f : Nat → Int32) : Nat → Nat → Int32
  | 0 => f
  | m + 1 => wr_in m (wr_out n f m) n
def wr_eq (n : Nat) (f g : Nat → Int32) : Prop := ∀ i, i < n → f i = g i
theorem wr_upd {n i : Nat} {f g : Nat → Int32} {x y : Int32} (h : wr_eq n f g) (e : x = y) : wr_eq n (upd f i x) (upd g i y) := by
  intro j hj
  by_cases z : j = i
  · subst z
    rw [pk_us, pk_us, e]
  · rw [pk_un z, pk_un z, h j hj]
theorem wr_in_c {n m : Nat} (hm : m < n) {f g : Nat → Int32} (h : wr_eq n f g) : ∀ i, i ≤ n → wr_eq n (wr_in m f i) (wr_in m g i)
  | 0, _ => h
  | i + 1, hi => by
    have q := wr_in_c hm h i (by omega)
    rw [wr_in, wr_in, q i (by omega), q m hm]
    by_cases z : bt (wr_in m g i i) m = true
    · rw [if_pos z, if_pos z]
      exact wr_upd q rfl
    · rw [if_neg z, if_neg z]
      exact q
theorem wr_out_c {n : Nat} {f g : Nat → Int32} (h : wr_eq n f g) : ∀ m, m ≤ n → wr_eq n (wr_out n f m) (wr_out n g m)
  | 0, _ => h
  | m + 1, hm => wr_in_c (by omega) (wr_out_c h m (by omega)) n (Nat.le_refl n)
