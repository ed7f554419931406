/-! the least set by going down, and by going up -/
def am_dn (F : Nat → Prop) (f : Nat → Int) (s m : Nat) : Prop := s ≤ m ∧ m < 256 ∧ F m ∧ (∀ q, s ≤ q → q < 256 → F q → f m ≤ f q) ∧ (∀ q, s ≤ q → q < m → F q → f m < f q)
theorem am_dn0 {F : Nat → Prop} {f : Nat → Int} (h : F 255) : am_dn F f 255 255 := by
  refine ⟨Nat.le_refl _, by decide, h, fun q a b _ => ?_, fun q a b _ => by omega⟩
  have e : q = 255 := by omega
  rw [e]
  exact Int.le_refl _
theorem am_dn_y {F : Nat → Prop} {f : Nat → Int} {s m : Nat} (h : am_dn F f (s + 1) m) (a : F s) (b : f s ≤ f m) : am_dn F f s s := by
  obtain ⟨h1, h2, h3, h4, h5⟩ := h
  refine ⟨Nat.le_refl _, by omega, a, fun q p r g => ?_, fun q p r _ => by omega⟩
  rcases Nat.eq_or_lt_of_le p with e | e
  · rw [← e]
    exact Int.le_refl _
  · exact Int.le_trans b (h4 q e r g)
theorem am_dn_n {F : Nat → Prop} {f : Nat → Int} {s m : Nat} (h : am_dn F f (s + 1) m) (a : F s → f m < f s) : am_dn F f s m := by
  obtain ⟨h1, h2, h3, h4, h5⟩ := h
  refine ⟨by omega, h2, h3, fun q p r g => ?_, fun q p r g => ?_⟩
  · rcases Nat.eq_or_lt_of_le p with e | e
    · subst e
      have := a g
      omega
    · exact h4 q e r g
  · rcases Nat.eq_or_lt_of_le p with e | e
    · subst e
      exact a g
    · exact h5 q e r g
theorem am_dn_is {F : Nat → Prop} {f : Nat → Int} {m : Nat} (h : am_dn F f 0 m) : am_is F f m :=
  ⟨h.2.1, h.2.2.1, fun q a b => h.2.2.2.1 q (Nat.zero_le q) a b, fun q a b => h.2.2.2.2 q (Nat.zero_le q) a b⟩
def am_up (F : Nat → Prop) (f : Nat → Int) (s m : Nat) : Prop := m < s ∧ F m ∧ (∀ q, q < s → F q → f m ≤ f q) ∧ (∀ q, q < m → F q → f m < f q)
theorem am_up_1 {F : Nat → Prop} {f : Nat → Int} {s : Nat} (h : ∀ q, q < s → ¬ F q) (a : F s) : am_up F f (s + 1) s := by
  refine ⟨by omega, a, fun q p g => ?_, fun q p g => absurd g (h q p)⟩
  rcases Nat.lt_or_ge q s with e | e
  · exact absurd g (h q e)
  · have e2 : q = s := by omega
    rw [e2]
    exact Int.le_refl _
theorem am_up_y {F : Nat → Prop} {f : Nat → Int} {s m : Nat} (h : am_up F f s m) (a : F s) (b : f s < f m) : am_up F f (s + 1) s := by
  obtain ⟨h1, h2, h3, h4⟩ := h
  refine ⟨by omega, a, fun q p g => ?_, fun q p g => ?_⟩
  · rcases Nat.lt_or_ge q s with e | e
    · have := h3 q e g
      omega
    · have e2 : q = s := by omega
      rw [e2]
      exact Int.le_refl _
  · have := h3 q p g
    omega
theorem am_up_n {F : Nat → Prop} {f : Nat → Int} {s m : Nat} (h : am_up F f s m) (a : F s → f m ≤ f s) : am_up F f (s + 1) m := by
  obtain ⟨h1, h2, h3, h4⟩ := h
  refine ⟨by omega, h2, fun q p g => ?_, h4⟩
  rcases Nat.lt_or_ge q s with e | e
  · exact h3 q e g
  · have e2 : q = s := by omega
    subst e2
    exact a g
theorem am_up_is {F : Nat → Prop} {f : Nat → Int} {m : Nat} (h : am_up F f 256 m) : am_is F f m := ⟨h.1, h.2.1, h.2.2.1, h.2.2.2⟩
/-! the table of needs -/
section
variable (fr : Nat → Prop)
def nd_in (N : Nat → Nat) (s w y : Nat) : Prop := y ≤ 8 ∧ (∀ q, 1 ≤ q → q < w → q ≤ s → gc_sub q s → fr q → y ≤ N (s ^^^ q) + 1) ∧ (y = 8 ∨ ∃ q, 1 ≤ q ∧ q ≤ s ∧ gc_sub q s ∧ fr q ∧ y = N (s ^^^ q) + 1)
def nd_ok (N : Nat → Nat) (s : Nat) : Prop := N 0 = 0 ∧ ∀ q, 1 ≤ q → q < s → nd_in fr N q (q + 1) (N q)
end
section
variable {fr : Nat → Prop}
theorem nd_in0 {N : Nat → Nat} {s : Nat} : nd_in fr N s 1 8 := ⟨Nat.le_refl _, fun q a b => by omega, Or.inl rfl⟩
theorem nd_in_y {N : Nat → Nat} {s w y : Nat} (h : nd_in fr N s w y) (h1 : 1 ≤ w) (hw : w ≤ s) (a : gc_sub w s) (b : fr w) (g : N (s ^^^ w) + 1 < y) : nd_in fr N s (w + 1) (N (s ^^^ w) + 1) := by
  obtain ⟨p, q, r⟩ := h
  refine ⟨by omega, fun x x1 x2 x3 x4 x5 => ?_, Or.inr ⟨w, h1, hw, a, b, rfl⟩⟩
  rcases Nat.lt_or_ge x w with e | e
  · have := q x x1 e x3 x4 x5
    omega
  · have e2 : x = w := by omega
    rw [e2]
    exact Nat.le_refl _
theorem nd_in_n {N : Nat → Nat} {s w y : Nat} (h : nd_in fr N s w y) (g : gc_sub w s → fr w → y ≤ N (s ^^^ w) + 1) : nd_in fr N s (w + 1) y := by
  obtain ⟨p, q, r⟩ := h
  refine ⟨p, fun x x1 x2 x3 x4 x5 => ?_, r⟩
  rcases Nat.lt_or_ge x w with e | e
  · exact q x x1 e x3 x4 x5
  · have e2 : x = w := by omega
    subst e2
    exact g x4 x5
theorem nd_cong {N N' : Nat → Nat} {s w y : Nat} (hs : s < 256) (e : ∀ q, q < s → N' q = N q) (h : nd_in fr N s w y) : nd_in fr N' s w y := by
  obtain ⟨p, q, r⟩ := h
  have z : ∀ x, 1 ≤ x → x ≤ s → gc_sub x s → N' (s ^^^ x) = N (s ^^^ x) := fun x x1 x2 x3 => e _ (gc_xor_less (by omega) hs x3 x1)
  refine ⟨p, fun x x1 x2 x3 x4 x5 => ?_, ?_⟩
  · rw [z x x1 x3 x4]
    exact q x x1 x2 x3 x4 x5
  · rcases r with r | ⟨x, x1, x2, x3, x4, x5⟩
    · exact Or.inl r
    · exact Or.inr ⟨x, x1, x2, x3, x4, by rw [z x x1 x2 x3]; exact x5⟩
theorem nd_step {N : Nat → Nat} {s y : Nat} (hs : s < 256) (h1 : 1 ≤ s) (h : nd_ok fr N s) (g : nd_in fr N s (s + 1) y) : nd_ok fr (fun x => if x = s then y else N x) (s + 1) := by
  refine ⟨by show (if 0 = s then y else N 0) = 0; rw [if_neg (by omega)]; exact h.1, fun q q1 q2 => ?_⟩
  show nd_in fr _ q (q + 1) (if q = s then y else N q)
  by_cases e : q = s
  · subst e
    rw [if_pos rfl]
    exact nd_cong hs (fun x hx => if_neg (by omega)) g
  · rw [if_neg e]
    exact nd_cong (by omega) (fun x hx => if_neg (by omega)) (h.2 q q1 (by omega))
theorem nd_col {K : Nat → Nat → Bool} {N : Nat → Nat} (hi : ∀ t, t < 8 → K t t = false) (hfr : ∀ s, s < 256 → (fr s ↔ ∀ t, t < 8 → ∀ u, u < 8 → s.testBit t = true → s.testBit u = true → K t u = false)) (h : nd_ok fr N 256) {s k : Nat} (hs : s < 256) : gc_col K (fun t => s.testBit t) k ↔ N s ≤ k := by
  constructor
  · exact gc_need1 (fr := fr) (fun s hs => (hfr s hs).mpr) h.1 (fun s w a b c e f => (h.2 s (by omega) a).2.1 w b (by omega) c e f) k s hs
  · exact gc_need2 (fr := fr) hi (fun s hs => (hfr s hs).mp) (fun s a b => (h.2 s a b).2.2) s hs k
end
