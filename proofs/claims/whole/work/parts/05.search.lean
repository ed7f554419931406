/-! the search by turning back: what is behind it, place by place -/
section
variable (K : Nat → Nat → Bool) (M : Nat → Bool) (k : Nat) (D : (Nat → Nat) → Prop)
def yn_P (c : Nat → Nat) (t x : Nat) : Prop := ∀ d, gc_vd K M k d → lx_hd c d t ∨ (lx_eq c d t ∧ d t < x) → D d
def yn_B (c : Nat → Nat) (t : Nat) : Prop := ∀ d, gc_vd K M k d → lx_hd c d t ∨ lx_eq c d t → D d
end
def yn_set (c : Nat → Nat) (t y : Nat) : Nat → Nat := fun u => if u = t then y else c u
theorem yn_s (c : Nat → Nat) (t y : Nat) : yn_set c t y t = y := if_pos rfl
theorem yn_n (c : Nat → Nat) {t u : Nat} (y : Nat) (h : u ≠ t) : yn_set c t y u = c u := if_neg h
section
variable {K : Nat → Nat → Bool} {M : Nat → Bool} {k : Nat} {D : (Nat → Nat) → Prop} {c : Nat → Nat} {t : Nat}
theorem yn_miss {x : Nat} (ht : t < 8) (h : yn_P K M k D c t x) (hm : ¬ gc_ft K M k (yn_set c t x) t) : yn_P K M k D c t (x + 1) := by
  intro d vd hd
  rcases hd with a | ⟨a, b⟩
  · exact h d vd (Or.inl a)
  · rcases Nat.lt_or_ge (d t) x with g | g
    · exact h d vd (Or.inr ⟨a, g⟩)
    · exfalso
      apply hm
      refine gc_ft_cong (c := d) ?_ (vd t ht)
      intro u hu
      by_cases e : u = t
      · rw [e, yn_s]
        omega
      · rw [yn_n c x e]
        exact (a u (by omega)).symm
theorem yn_find {y : Nat} (h : yn_P K M k D c t y) : yn_P K M k D (yn_set c t y) (t + 1) 0 := by
  intro d vd hd
  rcases hd with a | ⟨_, b⟩
  · rcases lx_hs.mp a with p | ⟨p, q⟩
    · exact h d vd (Or.inl (lx_cong (fun u hu => (yn_n c y (by omega)).symm) (fun _ _ => rfl) p))
    · rw [yn_s] at q
      exact h d vd (Or.inr ⟨fun u hu => by rw [p u hu, yn_n c y (by omega)], q⟩)
  · exact absurd b (Nat.not_lt_zero _)
theorem yn_back (ht : t < 8) (hM : M t = false) (h : yn_P K M k D c t k) : yn_B K M k D c t := by
  intro d vd hd
  rcases hd with a | a
  · exact h d vd (Or.inl a)
  · exact h d vd (Or.inr ⟨a, ((vd t ht).2 hM).1⟩)
theorem yn_memB (ht : t < 8) (hM : M t = true) (hc : c t = 0) (h : yn_B K M k D c (t + 1)) : yn_B K M k D c t := by
  intro d vd hd
  rcases hd with a | a
  · exact h d vd (Or.inl (lx_hs.mpr (Or.inl a)))
  · exact h d vd (Or.inr (lx_es.mpr ⟨a, ((vd t ht).1 hM).trans hc.symm⟩))
theorem yn_next (h : yn_B K M k D c (t + 1)) : yn_P K M k D c t (c t + 1) := by
  intro d vd hd
  rcases hd with a | ⟨a, b⟩
  · exact h d vd (Or.inl (lx_hs.mpr (Or.inl a)))
  · rcases Nat.lt_or_ge (d t) (c t) with g | g
    · exact h d vd (Or.inl (lx_hs.mpr (Or.inr ⟨a, g⟩)))
    · exact h d vd (Or.inr (lx_es.mpr ⟨a, by omega⟩))
theorem yn_vset {y : Nat} (h : ∀ u, u < t → gc_ft K M k c u) (g : gc_ft K M k (yn_set c t y) t) : ∀ u, u < t + 1 → gc_ft K M k (yn_set c t y) u := by
  intro u hu
  by_cases e : u = t
  · rw [e]
    exact g
  · exact gc_ft_cong (fun w hw => yn_n c y (by omega)) (h u (by omega))
end
/-! the measure of the search -/
def yn_w (e : Nat → Nat) : Nat → Nat
  | 0 => 0
  | t + 1 => yn_w e t + e t * 10 ^ (8 - t)
theorem yn_w_cong {e f : Nat → Nat} : ∀ {t : Nat}, (∀ u, u < t → e u = f u) → yn_w e t = yn_w f t
  | 0, _ => rfl
  | t + 1, h => by
    rw [yn_w, yn_w, yn_w_cong (fun u hu => h u (by omega)), h t (by omega)]
theorem yn_pow {t : Nat} (ht : t < 8) : 10 ^ (8 - t) = 10 * 10 ^ (8 - (t + 1)) := by
  have e : 8 - t = (8 - (t + 1)) + 1 := by omega
  rw [e, Nat.pow_succ, Nat.mul_comm]
/-- forward from t: b falls to a at t, and the next place begins with at most 9 -/
theorem yn_fw {A a b q : Nat} {t : Nat} (ht : t < 8) (hab : a < b) (hq : q ≤ 9) : (A + a * 10 ^ (8 - t)) + q * 10 ^ (8 - (t + 1)) < A + b * 10 ^ (8 - t) := by
  rw [yn_pow ht]
  have p : 0 < 10 ^ (8 - (t + 1)) := Nat.pow_pos (by decide)
  generalize 10 ^ (8 - (t + 1)) = z at p
  have h1 : (a + 1) * (10 * z) ≤ b * (10 * z) := Nat.mul_le_mul_right _ hab
  have h2 : q * z ≤ 9 * z := Nat.mul_le_mul_right _ hq
  rw [Nat.add_mul] at h1
  omega
theorem yn_bw {A b : Nat} {t : Nat} (hb : 0 < b) : A < A + b * 10 ^ (8 - t) := by
  have p : 0 < b * 10 ^ (8 - t) := Nat.mul_pos hb (Nat.pow_pos (by decide))
  omega
/-! of equal sums the least set -/
def am_is (F : Nat → Prop) (f : Nat → Int) (m : Nat) : Prop := m < 256 ∧ F m ∧ (∀ s, s < 256 → F s → f m ≤ f s) ∧ (∀ s, s < m → F s → f m < f s)
theorem am_uniq {F : Nat → Prop} {f : Nat → Int} {a b : Nat} (x : am_is F f a) (y : am_is F f b) : a = b := by
  rcases Nat.lt_trichotomy a b with g | g | g
  · have p := y.2.2.2 a g x.2.1
    have q := x.2.2.1 b y.1 y.2.1
    omega
  · exact g
  · have p := x.2.2.2 b g y.2.1
    have q := y.2.2.1 a x.1 x.2.1
    omega
