/-! colourings: what fits, what is valid, what can be coloured -/
section
variable (K : Nat → Nat → Bool)
def gc_ft (M : Nat → Bool) (k : Nat) (c : Nat → Nat) (t : Nat) : Prop :=
  (M t = true → c t = 0) ∧ (M t = false → c t < k ∧ ∀ u, u < t → M u = false → K t u = true → c u ≠ c t)
def gc_vd (M : Nat → Bool) (k : Nat) (c : Nat → Nat) : Prop := ∀ t, t < 8 → gc_ft K M k c t
def gc_col (S : Nat → Bool) (k : Nat) : Prop :=
  ∃ c : Nat → Nat, ∀ t, t < 8 → S t = true → c t < k ∧ ∀ u, u < 8 → S u = true → K t u = true → c u ≠ c t
end
theorem gc_ft_cong {K : Nat → Nat → Bool} {M : Nat → Bool} {k t : Nat} {c d : Nat → Nat} (h : ∀ u, u ≤ t → d u = c u) (f : gc_ft K M k c t) : gc_ft K M k d t := by
  refine ⟨fun m => by rw [h t (Nat.le_refl t)]; exact f.1 m, fun m => ?_⟩
  obtain ⟨a, b⟩ := f.2 m
  refine ⟨by rw [h t (Nat.le_refl t)]; exact a, fun u hu mu ku => ?_⟩
  rw [h t (Nat.le_refl t), h u (by omega)]
  exact b u hu mu ku
theorem gc_vd_cong {K : Nat → Nat → Bool} {M : Nat → Bool} {k : Nat} {c d : Nat → Nat} (h : ∀ u, u < 8 → d u = c u) (f : gc_vd K M k c) : gc_vd K M k d :=
  fun t ht => gc_ft_cong (fun u hu => h u (by omega)) (f t ht)
theorem gc_vd_col {K : Nat → Nat → Bool} (hs : ∀ t u, t < 8 → u < 8 → K t u = K u t) (hi : ∀ t, t < 8 → K t t = false) {M : Nat → Bool} {k : Nat} : (∃ c, gc_vd K M k c) ↔ gc_col K (fun t => !M t) k := by
  constructor
  · rintro ⟨c, h⟩
    refine ⟨c, fun t ht mt => ?_⟩
    have mt' : M t = false := by simpa using mt
    obtain ⟨a, b⟩ := (h t ht).2 mt'
    refine ⟨a, fun u hu mu ku => ?_⟩
    have mu' : M u = false := by simpa using mu
    rcases Nat.lt_trichotomy u t with g | g | g
    · exact b u g mu' ku
    · subst g
      rw [hi u hu] at ku
      exact absurd ku (by decide)
    · have z := ((h u hu).2 mu').2 t g mt' (by rw [hs u t hu ht]; exact ku)
      exact fun e => z e.symm
  · rintro ⟨c, h⟩
    refine ⟨fun t => if M t = true then 0 else c t, fun t ht => ⟨fun m => if_pos m, fun m => ?_⟩⟩
    have e : ∀ u, M u = false → (if M u = true then 0 else c u) = c u := fun u z => if_neg (by rw [z]; decide)
    have q := h t ht (by simp [m])
    show (if M t = true then 0 else c t) < k ∧ _
    rw [e t m]
    refine ⟨q.1, fun u hu mu ku => ?_⟩
    show (if M u = true then 0 else c u) ≠ (if M t = true then 0 else c t)
    rw [e u mu, e t m]
    exact q.2 u (by omega) (by simp [mu]) ku
/-! a set out of a predicate -/
def gc_mk (p : Nat → Bool) : Nat → Nat
  | 0 => 0
  | m + 1 => gc_mk p m ||| (if p m = true then 2 ^ m else 0)
theorem gc_mk_tb (p : Nat → Bool) : ∀ m i, (gc_mk p m).testBit i = (decide (i < m) && p i)
  | 0, i => by simp [gc_mk]
  | m + 1, i => by
    rw [gc_mk, Nat.testBit_or, gc_mk_tb p m i]
    have e : (if p m = true then 2 ^ m else 0 : Nat).testBit i = (decide (m = i) && p m) := by
      cases p m
      · simp
      · simp [Nat.testBit_two_pow]
    rw [e]
    by_cases h : m = i
    · subst h
      simp
    · have g : decide (i < m + 1) = decide (i < m) := decide_eq_decide.mpr (by omega)
      rw [g, decide_eq_false h]
      simp
theorem gc_mk_lt (p : Nat → Bool) : ∀ m, gc_mk p m < 2 ^ m
  | 0 => by simp [gc_mk]
  | m + 1 => by
    rw [gc_mk]
    apply Nat.or_lt_two_pow
    · exact Nat.lt_trans (gc_mk_lt p m) (Nat.pow_lt_pow_right (by decide) (by omega))
    · split
      · exact Nat.pow_lt_pow_right (by decide) (by omega)
      · exact Nat.two_pow_pos _
/-- w is a part of s -/
def gc_sub (w s : Nat) : Prop := ∀ t, t < 8 → w.testBit t = true → s.testBit t = true
theorem gc_sub_le {w s : Nat} (hw : w < 256) (hs : s < 256) (h : gc_sub w s) : w ≤ s := by
  have e : w = w &&& s := by
    apply cx_ext hw (Nat.lt_of_le_of_lt Nat.and_le_right hs)
    intro t ht
    rw [Nat.testBit_and]
    cases a : w.testBit t
    · rfl
    · rw [h t ht a]
      rfl
  rw [e]
  exact Nat.and_le_right
theorem gc_xor_lt {w s : Nat} (hw : w < 256) (hs : s < 256) : s ^^^ w < 256 := Nat.xor_lt_two_pow (n := 8) hs hw
theorem gc_xor_tb {w s t : Nat} (h : gc_sub w s) (ht : t < 8) : (s ^^^ w).testBit t = (s.testBit t && !w.testBit t) := by
  rw [Nat.testBit_xor]
  cases a : w.testBit t
  · simp
  · rw [h t ht a]
    rfl
theorem gc_xor_less {w s : Nat} (hw : w < 256) (hs : s < 256) (h : gc_sub w s) (h1 : 1 ≤ w) : s ^^^ w < s := by
  have a : s ^^^ w ≤ s := gc_sub_le (gc_xor_lt hw hs) hs (fun t ht g => by
    rw [gc_xor_tb h ht, Bool.and_eq_true] at g
    exact g.1)
  rcases Nat.lt_or_ge (s ^^^ w) s with g | g
  · exact g
  · have e : s ^^^ w = s := by omega
    have z : w = 0 := by
      apply cx_ext hw (by decide)
      intro t ht
      have q := congrArg (fun x => Nat.testBit x t) e
      simp only [gc_xor_tb h ht] at q
      cases b : w.testBit t
      · simp
      · rw [h t ht b, b] at q
        simp at q
    omega
section
variable {K : Nat → Nat → Bool} {N : Nat → Nat} {fr : Nat → Prop}
theorem gc_need1 (hfr : ∀ s, s < 256 → (∀ t, t < 8 → ∀ u, u < 8 → s.testBit t = true → s.testBit u = true → K t u = false) → fr s)
    (h0 : N 0 = 0)
    (ha : ∀ s w, s < 256 → 1 ≤ w → w ≤ s → gc_sub w s → fr w → N s ≤ N (s ^^^ w) + 1) :
    ∀ k s, s < 256 → gc_col K (fun t => s.testBit t) k → N s ≤ k := by
  intro k
  induction k with
  | zero =>
    intro s hs hc
    obtain ⟨c, hc⟩ := hc
    have e : s = 0 := by
      apply cx_ext hs (by decide)
      intro t ht
      cases a : s.testBit t
      · simp
      · exact absurd (hc t ht a).1 (Nat.not_lt_zero _)
    rw [e, h0]
    exact Nat.le_refl 0
  | succ k ih =>
    intro s hs hc
    obtain ⟨c, hc⟩ := hc
    have tb : ∀ t, t < 8 → (gc_mk (fun t => s.testBit t && decide (c t = k)) 8).testBit t = (s.testBit t && decide (c t = k)) := by
      intro t ht
      rw [gc_mk_tb, decide_eq_true ht]
      rfl
    have hw : gc_mk (fun t => s.testBit t && decide (c t = k)) 8 < 256 := gc_mk_lt _ 8
    generalize gc_mk (fun t => s.testBit t && decide (c t = k)) 8 = w at tb hw
    have sub : gc_sub w s := fun t ht g => by
      rw [tb t ht, Bool.and_eq_true] at g
      exact g.1
    have col : gc_col K (fun t => (s ^^^ w).testBit t) k := by
      refine ⟨c, fun t ht g => ?_⟩
      have g2 : (s.testBit t && !w.testBit t) = true := by rw [← gc_xor_tb sub ht]; exact g
      rw [tb t ht] at g2
      have st : s.testBit t = true := by
        cases a : s.testBit t
        · rw [a] at g2
          simp at g2
        · rfl
      have ct : c t ≠ k := by
        intro e
        rw [st, e] at g2
        simp at g2
      obtain ⟨p, q⟩ := hc t ht st
      refine ⟨by omega, fun u hu gu ku => ?_⟩
      have gu2 : (s.testBit u && !w.testBit u) = true := by rw [← gc_xor_tb sub hu]; exact gu
      rw [Bool.and_eq_true] at gu2
      exact q u hu gu2.1 ku
    rcases Nat.eq_zero_or_pos w with z | z
    · subst z
      have := ih (s ^^^ 0) (by rw [Nat.xor_zero]; exact hs) col
      rw [Nat.xor_zero] at this
      omega
    · have a := ha s w hs z (gc_sub_le hw hs sub) sub (hfr w hw (fun t ht u hu gt gu => by
        rw [tb t ht, Bool.and_eq_true, decide_eq_true_eq] at gt
        rw [tb u hu, Bool.and_eq_true, decide_eq_true_eq] at gu
        cases e : K t u
        · rfl
        · exact absurd (gu.2.trans gt.2.symm) ((hc t ht gt.1).2 u hu gu.1 e)))
      have b := ih (s ^^^ w) (gc_xor_lt hw hs) col
      omega
theorem gc_need2 (hi : ∀ t, t < 8 → K t t = false) (hfr : ∀ s, s < 256 → fr s → (∀ t, t < 8 → ∀ u, u < 8 → s.testBit t = true → s.testBit u = true → K t u = false))
    (hb : ∀ s, 1 ≤ s → s < 256 → N s = 8 ∨ ∃ w, 1 ≤ w ∧ w ≤ s ∧ gc_sub w s ∧ fr w ∧ N s = N (s ^^^ w) + 1) :
    ∀ s, s < 256 → ∀ k, N s ≤ k → gc_col K (fun t => s.testBit t) k := by
  intro s
  induction s using Nat.strongRecOn with
  | _ s ih =>
  intro hs k hk
  rcases Nat.eq_zero_or_pos s with z | z
  · subst z
    exact ⟨fun _ => 0, fun t _ g => absurd g (by simp)⟩
  · rcases hb s z hs with e | ⟨w, w1, ws, sub, fw, e⟩
    · refine ⟨fun t => t, fun t ht _ => ⟨(by show t < k; omega), fun u hu _ ku => ?_⟩⟩
      intro (ee : u = t)
      subst ee
      rw [hi u hu] at ku
      exact absurd ku (by decide)
    · have hw : w < 256 := by omega
      obtain ⟨c, hc⟩ := ih (s ^^^ w) (gc_xor_less hw hs sub w1) (gc_xor_lt hw hs) (N (s ^^^ w)) (Nat.le_refl _)
      have F := hfr w hw fw
      have mem : ∀ t, t < 8 → s.testBit t = true → w.testBit t = false → (s ^^^ w).testBit t = true := by
        intro t ht a b
        rw [gc_xor_tb sub ht, a, b]
        rfl
      refine ⟨fun t => if w.testBit t = true then N (s ^^^ w) else c t, fun t ht g => ?_⟩
      show (if w.testBit t = true then N (s ^^^ w) else c t) < k ∧ ∀ u, u < 8 → s.testBit u = true → K t u = true → (if w.testBit u = true then N (s ^^^ w) else c u) ≠ (if w.testBit t = true then N (s ^^^ w) else c t)
      by_cases a : w.testBit t = true
      · rw [if_pos a]
        refine ⟨by omega, fun u hu gu ku => ?_⟩
        by_cases b : w.testBit u = true
        · rw [F t ht u hu a b] at ku
          exact absurd ku (by decide)
        · rw [if_neg b]
          have := (hc u hu (mem u hu gu (by simpa using b))).1
          omega
      · rw [if_neg a]
        obtain ⟨p, q⟩ := hc t ht (mem t ht g (by simpa using a))
        refine ⟨by omega, fun u hu gu ku => ?_⟩
        by_cases b : w.testBit u = true
        · rw [if_pos b]
          omega
        · rw [if_neg b]
          exact q u hu (mem u hu gu (by simpa using b)) ku
end
