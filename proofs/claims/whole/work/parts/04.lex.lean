/-! the order of allocations: d ahead of c within the first t places -/
def lx_hd (c d : Nat → Nat) (t : Nat) : Prop := ∃ s, s < t ∧ (∀ u, u < s → d u = c u) ∧ d s < c s
def lx_eq (c d : Nat → Nat) (t : Nat) : Prop := ∀ u, u < t → d u = c u
theorem lx_h0 {c d : Nat → Nat} : ¬ lx_hd c d 0 := fun ⟨_, h, _⟩ => absurd h (Nat.not_lt_zero _)
theorem lx_hs {c d : Nat → Nat} {t : Nat} : lx_hd c d (t + 1) ↔ lx_hd c d t ∨ (lx_eq c d t ∧ d t < c t) := by
  constructor
  · rintro ⟨s, hs, a, b⟩
    rcases Nat.lt_or_ge s t with g | g
    · exact Or.inl ⟨s, g, a, b⟩
    · have e : s = t := by omega
      subst e
      exact Or.inr ⟨a, b⟩
  · rintro (⟨s, hs, a, b⟩ | ⟨a, b⟩)
    · exact ⟨s, by omega, a, b⟩
    · exact ⟨t, by omega, a, b⟩
theorem lx_es {c d : Nat → Nat} {t : Nat} : lx_eq c d (t + 1) ↔ lx_eq c d t ∧ d t = c t := by
  constructor
  · exact fun h => ⟨fun u hu => h u (by omega), h t (by omega)⟩
  · rintro ⟨a, b⟩ u hu
    rcases Nat.lt_or_ge u t with g | g
    · exact a u g
    · have e : u = t := by omega
      rw [e]
      exact b
theorem lx_tri (c d : Nat → Nat) : ∀ t, lx_hd c d t ∨ lx_hd d c t ∨ lx_eq c d t
  | 0 => Or.inr (Or.inr (fun u hu => absurd hu (Nat.not_lt_zero u)))
  | t + 1 => by
    rcases lx_tri c d t with h | h | h
    · exact Or.inl (lx_hs.mpr (Or.inl h))
    · exact Or.inr (Or.inl (lx_hs.mpr (Or.inl h)))
    · rcases Nat.lt_trichotomy (d t) (c t) with g | g | g
      · exact Or.inl (lx_hs.mpr (Or.inr ⟨h, g⟩))
      · exact Or.inr (Or.inr (lx_es.mpr ⟨h, g⟩))
      · exact Or.inr (Or.inl (lx_hs.mpr (Or.inr ⟨fun u hu => (h u hu).symm, g⟩)))
theorem lx_cong {c c' d d' : Nat → Nat} {t : Nat} (h : ∀ u, u < t → c' u = c u) (g : ∀ u, u < t → d' u = d u) (a : lx_hd c d t) : lx_hd c' d' t := by
  obtain ⟨s, hs, p, q⟩ := a
  exact ⟨s, hs, fun u hu => by rw [h u (by omega), g u (by omega)]; exact p u hu, by rw [h s hs, g s hs]; exact q⟩
/-- the first of those that save the most -/
def gc_best (V : (Nat → Nat) → Prop) (sv : (Nat → Nat) → Nat) (c : Nat → Nat) : Prop :=
  V c ∧ (∀ d, V d → sv d ≤ sv c) ∧ (∀ d, V d → lx_hd c d 8 → sv d < sv c)
theorem gc_uniq {V : (Nat → Nat) → Prop} {sv : (Nat → Nat) → Nat} {c d : Nat → Nat} (a : gc_best V sv c) (b : gc_best V sv d) : ∀ t, t < 8 → d t = c t := by
  rcases lx_tri c d 8 with h | h | h
  · have p := a.2.2 d b.1 h
    have q := b.2.1 c a.1
    omega
  · have p := b.2.2 c a.1 h
    have q := a.2.1 d b.1
    omega
  · exact h
/-! numbers of sixteen bits as allocations -/
def xd_g (v t : Nat) : Nat := v / 2 ^ (14 - 2 * t) % 4
theorem xd_step (v : Nat) {t : Nat} (ht : t < 8) : v / 2 ^ (16 - 2 * t) = v / 2 ^ (16 - 2 * (t + 1)) / 4 := by
  have e : 16 - 2 * t = (16 - 2 * (t + 1)) + 2 := by omega
  rw [e, Nat.pow_add, Nat.div_div_eq_div_mul]
theorem xd_dig (v : Nat) {t : Nat} (ht : t < 8) : xd_g v t = v / 2 ^ (16 - 2 * (t + 1)) % 4 := by
  have e : 14 - 2 * t = 16 - 2 * (t + 1) := by omega
  unfold xd_g
  rw [e]
theorem xd_lex (v w : Nat) (hv : v < 65536) (hw : w < 65536) : ∀ t, t ≤ 8 → (v / 2 ^ (16 - 2 * t) < w / 2 ^ (16 - 2 * t) → lx_hd (xd_g w) (xd_g v) t) ∧ (v / 2 ^ (16 - 2 * t) = w / 2 ^ (16 - 2 * t) → lx_eq (xd_g w) (xd_g v) t)
  | 0, _ => by
    have a : v / 2 ^ (16 - 2 * 0) = 0 := Nat.div_eq_of_lt hv
    have b : w / 2 ^ (16 - 2 * 0) = 0 := Nat.div_eq_of_lt hw
    rw [a, b]
    exact ⟨fun h => absurd h (Nat.lt_irrefl 0), fun _ u hu => absurd hu (Nat.not_lt_zero u)⟩
  | t + 1, ht => by
    obtain ⟨p, q⟩ := xd_lex v w hv hw t (by omega)
    rw [xd_step v (by omega), xd_step w (by omega)] at p q
    rw [lx_hs, lx_es, xd_dig v (by omega), xd_dig w (by omega)]
    generalize v / 2 ^ (16 - 2 * (t + 1)) = a at p q ⊢
    generalize w / 2 ^ (16 - 2 * (t + 1)) = b at p q ⊢
    constructor
    · intro h
      rcases Nat.lt_or_ge (a / 4) (b / 4) with g | g
      · exact Or.inl (p g)
      · exact Or.inr ⟨q (by omega), by omega⟩
    · intro h
      exact ⟨q (by omega), by omega⟩
theorem xd_lt {v w : Nat} (h : v < w) (hw : w < 65536) : lx_hd (xd_g w) (xd_g v) 8 := by
  have a := (xd_lex v w (by omega) hw 8 (by omega)).1
  simp only [Nat.reduceMul, Nat.reduceSub, Nat.pow_zero, Nat.div_one] at a
  exact a h
theorem xd_lx {v w : Nat} (hv : v < 65536) (h : lx_hd (xd_g w) (xd_g v) 8) : v < w := by
  rcases Nat.lt_trichotomy v w with g | g | g
  · exact g
  · subst g
    obtain ⟨s, _, _, b⟩ := h
    omega
  · obtain ⟨s, hs, a, b⟩ := h
    obtain ⟨s', hs', a', b'⟩ := xd_lt g hv
    rcases Nat.lt_trichotomy s s' with z | z | z
    · have := a' s z
      omega
    · subst z
      omega
    · have := a s' z
      omega
def xd_of (c : Nat → Nat) : Nat := ((((((c 0 * 4 + c 1) * 4 + c 2) * 4 + c 3) * 4 + c 4) * 4 + c 5) * 4 + c 6) * 4 + c 7
theorem xd_of_lt {c : Nat → Nat} (h : ∀ t, t < 8 → c t < 4) : xd_of c < 65536 := by
  have h0 := h 0 (by decide)
  have h1 := h 1 (by decide)
  have h2 := h 2 (by decide)
  have h3 := h 3 (by decide)
  have h4 := h 4 (by decide)
  have h5 := h 5 (by decide)
  have h6 := h 6 (by decide)
  have h7 := h 7 (by decide)
  unfold xd_of
  omega
theorem xd_of_g {c : Nat → Nat} (h : ∀ t, t < 8 → c t < 4) (t : Nat) (ht : t < 8) : xd_g (xd_of c) t = c t := by
  have h0 := h 0 (by decide)
  have h1 := h 1 (by decide)
  have h2 := h 2 (by decide)
  have h3 := h 3 (by decide)
  have h4 := h 4 (by decide)
  have h5 := h 5 (by decide)
  have h6 := h 6 (by decide)
  have h7 := h 7 (by decide)
  unfold xd_g xd_of
  match t, ht with
  | 0, _ => simp only [Nat.reduceMul, Nat.reduceSub, Nat.reducePow]; omega
  | 1, _ => simp only [Nat.reduceMul, Nat.reduceSub, Nat.reducePow]; omega
  | 2, _ => simp only [Nat.reduceMul, Nat.reduceSub, Nat.reducePow]; omega
  | 3, _ => simp only [Nat.reduceMul, Nat.reduceSub, Nat.reducePow]; omega
  | 4, _ => simp only [Nat.reduceMul, Nat.reduceSub, Nat.reducePow]; omega
  | 5, _ => simp only [Nat.reduceMul, Nat.reduceSub, Nat.reducePow]; omega
  | 6, _ => simp only [Nat.reduceMul, Nat.reduceSub, Nat.reducePow]; omega
  | 7, _ => simp only [Nat.reduceMul, Nat.reduceSub, Nat.reducePow]; omega
/-- the number that follows those with the same places up to m -/
def xd_skip (v m : Nat) : Nat := (v / 2 ^ (14 - 2 * m) + 1) * 2 ^ (14 - 2 * m)
theorem xd_skip_gt (v m : Nat) : v < xd_skip v m := by
  unfold xd_skip
  have a := Nat.two_pow_pos (14 - 2 * m)
  have b := Nat.div_add_mod v (2 ^ (14 - 2 * m))
  have c := Nat.mod_lt v a
  rw [Nat.add_mul, Nat.mul_comm (v / _)]
  omega
theorem xd_same {v w m : Nat} (h : v ≤ w) (h2 : w < xd_skip v m) (hm : m < 8) : ∀ u, u ≤ m → xd_g w u = xd_g v u := by
  have p := Nat.two_pow_pos (14 - 2 * m)
  have e : w / 2 ^ (14 - 2 * m) = v / 2 ^ (14 - 2 * m) := by
    apply Nat.le_antisymm
    · have := (Nat.div_lt_iff_lt_mul p).mpr h2
      omega
    · exact Nat.div_le_div_right h
  intro u hu
  unfold xd_g
  have s : 14 - 2 * u = (14 - 2 * m) + (2 * m - 2 * u) := by omega
  rw [s, Nat.pow_add, ← Nat.div_div_eq_div_mul, ← Nat.div_div_eq_div_mul, e]
theorem xd_skip_le {v m : Nat} (hv : v < 65536) (hm : m < 8) : xd_skip v m ≤ 65536 := by
  unfold xd_skip
  have e : 65536 = 2 ^ (2 + 2 * m) * 2 ^ (14 - 2 * m) := by
    rw [← Nat.pow_add, show 2 + 2 * m + (14 - 2 * m) = 16 by omega]
  have a : v / 2 ^ (14 - 2 * m) < 2 ^ (2 + 2 * m) := by
    apply (Nat.div_lt_iff_lt_mul (Nat.two_pow_pos _)).mpr
    rw [← e]
    exact hv
  rw [e]
  exact Nat.mul_le_mul_right _ a
theorem xd_or (v j : Nat) : v ||| (2 ^ j - 1) = (v / 2 ^ j + 1) * 2 ^ j - 1 := by
  have p := Nat.two_pow_pos j
  have e : (v / 2 ^ j + 1) * 2 ^ j - 1 = 2 ^ j * (v / 2 ^ j) + (2 ^ j - 1) := by
    rw [Nat.add_mul, Nat.mul_comm (v / _)]
    omega
  rw [e]
  apply Nat.eq_of_testBit_eq
  intro i
  rw [Nat.testBit_or, Nat.testBit_two_pow_sub_one, Nat.testBit_two_pow_mul_add _ (by omega), Nat.testBit_two_pow_sub_one]
  by_cases h : i < j
  · simp [h]
  · simp only [h, decide_false, Bool.or_false, if_false]
    rw [Nat.testBit_div_two_pow]
    congr 1
    omega
