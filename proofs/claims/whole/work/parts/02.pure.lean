/-! bits of sets -/
theorem cx_bn (n : Nat) {i : Nat} (hi : i < 32) : bt (nI n) i = n.testBit i := by
  show (BitVec.ofNat 32 n).getLsbD i = _
  rw [BitVec.getLsbD_ofNat]
  simp [hi]
theorem cx_b1 : ∀ i, i < 32 → bt 1 i = decide (i = 0) := by decide +kernel
theorem cx_and1 (x : Int32) : (x &&& 1) = 1 ↔ bt x 0 = true := by
  constructor
  · intro h
    have e := b_and x 1 0
    rw [h, cx_b1 0 (by decide)] at e
    simpa using e.symm
  · intro h
    apply b_ext
    intro i hi
    rw [b_and, cx_b1 i hi]
    by_cases z : i = 0
    · subst z
      simp [h]
    · simp [z]
theorem cx_has (x : Int32) {j : Nat} (hj : j < 32) : ((x >>> (nI j &&& 31)) &&& 1) = 1 ↔ bt x j = true := by
  rw [cx_and1, b_sshr j hj x (by decide)]
  simp [hj]
theorem cx_one {t : Nat} (ht : t < 32) (j : Nat) : bt ((1 : Int32) <<< (nI t &&& 31)) j = decide (t = j) := by
  unfold bt
  rw [nf_sh t ht, BitVec.getLsbD_twoPow]
  simp [ht]
theorem cx_not (x : Int32) {j : Nat} (hj : j < 32) : bt (x ^^^ (-1)) j = !bt x j := by
  rw [b_xor, b_m1 j hj]
  simp
theorem cx_tb {s i : Nat} (hs : s < 256) (hi : 8 ≤ i) : s.testBit i = false :=
  Nat.testBit_lt_two_pow (Nat.lt_of_lt_of_le hs (Nat.pow_le_pow_right (by decide) hi : 2 ^ 8 ≤ 2 ^ i))
theorem cx_ext {a b : Nat} (ha : a < 256) (hb : b < 256) (h : ∀ t, t < 8 → a.testBit t = b.testBit t) : a = b := by
  apply Nat.eq_of_testBit_eq
  intro i
  rcases Nat.lt_or_ge i 8 with g | g
  · exact h i g
  · rw [cx_tb ha g, cx_tb hb g]
theorem cx_zero (x : Int32) : x = 0 ↔ ∀ i, i < 32 → bt x i = false := by
  constructor
  · intro h i _
    rw [h]
    exact b_0 i
  · intro h
    exact b_ext (fun i hi => by rw [h i hi, b_0])
theorem cx_sub {w s : Nat} (hw : w < 256) : (nI w &&& (nI s ^^^ (-1))) = 0 ↔ ∀ t, t < 8 → w.testBit t = true → s.testBit t = true := by
  rw [cx_zero]
  constructor
  · intro h t ht g
    have e := h t (by omega)
    rw [b_and, cx_not _ (by omega), cx_bn _ (by omega), cx_bn _ (by omega), g] at e
    simpa using e
  · intro h i hi
    rw [b_and, cx_not _ hi, cx_bn _ hi, cx_bn _ hi]
    rcases Nat.lt_or_ge i 8 with g | g
    · cases e : w.testBit i
      · rfl
      · rw [h i g e]
        rfl
    · rw [cx_tb hw g]
      rfl
/-! any, count -/
def pu_any (p : Nat → Bool) : Nat → Bool
  | 0 => false
  | n + 1 => pu_any p n || p n
theorem pu_any_iff {p : Nat → Bool} : ∀ {n : Nat}, pu_any p n = true ↔ ∃ j, j < n ∧ p j = true
  | 0 => by simp [pu_any]
  | n + 1 => by
    rw [pu_any, Bool.or_eq_true, pu_any_iff]
    constructor
    · rintro (⟨j, hj, h⟩ | h)
      · exact ⟨j, by omega, h⟩
      · exact ⟨n, by omega, h⟩
    · rintro ⟨j, hj, h⟩
      rcases Nat.lt_or_ge j n with g | g
      · exact Or.inl ⟨j, g, h⟩
      · have e : j = n := by omega
        subst e
        exact Or.inr h
def pu_cnt (p : Nat → Bool) : Nat → Nat
  | 0 => 0
  | n + 1 => pu_cnt p n + (if p n = true then 1 else 0)
theorem pu_cnt_le (p : Nat → Bool) : ∀ n, pu_cnt p n ≤ n
  | 0 => Nat.le_refl _
  | n + 1 => by
    have a := pu_cnt_le p n
    show pu_cnt p n + (if p n = true then 1 else 0) ≤ n + 1
    by_cases h : p n = true
    · rw [if_pos h]
      omega
    · rw [if_neg h]
      omega
theorem pu_cnt_mono {p q : Nat → Bool} : ∀ {n : Nat}, (∀ i, i < n → p i = true → q i = true) → pu_cnt p n ≤ pu_cnt q n
  | 0, _ => Nat.le_refl _
  | n + 1, h => by
    have a := pu_cnt_mono (n := n) (fun i hi => h i (by omega))
    have b := h n (by omega)
    show pu_cnt p n + (if p n = true then 1 else 0) ≤ pu_cnt q n + (if q n = true then 1 else 0)
    by_cases hp : p n = true
    · rw [if_pos hp, if_pos (b hp)]
      omega
    · rw [if_neg hp]
      exact Nat.le_trans a (Nat.le_add_right _ _)
theorem pu_cnt_lt {p q : Nat → Bool} : ∀ {n : Nat}, (∀ i, i < n → p i = true → q i = true) → (∃ i, i < n ∧ p i = false ∧ q i = true) → pu_cnt p n < pu_cnt q n
  | 0, _, ⟨i, hi, _⟩ => absurd hi (Nat.not_lt_zero i)
  | n + 1, h, ⟨i, hi, hp, hq⟩ => by
    have a : pu_cnt p n ≤ pu_cnt q n := pu_cnt_mono (fun i hi => h i (by omega))
    show pu_cnt p n + (if p n = true then 1 else 0) < pu_cnt q n + (if q n = true then 1 else 0)
    rcases Nat.lt_or_ge i n with g | g
    · have c : pu_cnt p n < pu_cnt q n := pu_cnt_lt (fun i hi => h i (by omega)) ⟨i, g, hp, hq⟩
      by_cases hb : p n = true
      · rw [if_pos hb, if_pos (h n (by omega) hb)]
        omega
      · rw [if_neg hb]
        exact Nat.lt_of_lt_of_le c (Nat.le_add_right _ _)
    · have e : i = n := by omega
      subst e
      rw [if_neg (by rw [hp]; decide), if_pos hq]
      omega
theorem pu_cnt_eq {p q : Nat → Bool} {n : Nat} (h : ∀ i, i < n → p i = q i) : pu_cnt p n = pu_cnt q n :=
  Nat.le_antisymm (pu_cnt_mono (fun i hi g => by rw [← h i hi]; exact g)) (pu_cnt_mono (fun i hi g => by rw [h i hi]; exact g))
theorem pu_any_eq {p q : Nat → Bool} {n : Nat} (h : ∀ i, i < n → p i = q i) : pu_any p n = pu_any q n := by
  apply Bool.eq_iff_iff.mpr
  rw [pu_any_iff, pu_any_iff]
  exact ⟨fun ⟨j, hj, g⟩ => ⟨j, hj, by rw [← h j hj]; exact g⟩, fun ⟨j, hj, g⟩ => ⟨j, hj, by rw [h j hj]; exact g⟩⟩
/-! liveness of one temporary: the iterates, stable after n rounds -/
section
variable (U D : Nat → Bool) (L : Nat → Nat → Bool) (n : Nat)
def lf_F (S : Nat → Bool) (i : Nat) : Bool := U i || (pu_any (fun j => L i j && S j) n && !D i)
def lf_it : Nat → Nat → Bool
  | 0 => fun _ => false
  | k + 1 => lf_F U D L n (lf_it k)
end
section
variable {U D : Nat → Bool} {L : Nat → Nat → Bool} {n : Nat}
theorem lf_mono {S S' : Nat → Bool} (h : ∀ j, j < n → S j = true → S' j = true) (i : Nat) (hF : lf_F U D L n S i = true) : lf_F U D L n S' i = true := by
  unfold lf_F at hF ⊢
  rw [Bool.or_eq_true, Bool.and_eq_true, pu_any_iff] at hF ⊢
  rcases hF with a | ⟨⟨j, hj, b⟩, c⟩
  · exact Or.inl a
  · simp only [Bool.and_eq_true] at b
    exact Or.inr ⟨⟨j, hj, by simp only [Bool.and_eq_true]; exact ⟨b.1, h j hj b.2⟩⟩, c⟩
theorem lf_up : ∀ k i, lf_it U D L n k i = true → lf_it U D L n (k + 1) i = true
  | 0, i, h => by simp [lf_it] at h
  | k + 1, i, h => lf_mono (S := lf_it U D L n k) (fun j _ => lf_up k j) i h
theorem lf_mon2 {k m : Nat} (h : k ≤ m) (i : Nat) (g : lf_it U D L n k i = true) : lf_it U D L n m i = true := by
  induction h with
  | refl => exact g
  | step _ ih => exact lf_up _ _ ih
theorem lf_cong {S S' : Nat → Bool} (h : ∀ j, j < n → S j = S' j) (i : Nat) : lf_F U D L n S i = lf_F U D L n S' i := by
  apply Bool.eq_iff_iff.mpr
  exact ⟨lf_mono (fun j hj g => by rw [← h j hj]; exact g) i, lf_mono (fun j hj g => by rw [h j hj]; exact g) i⟩
theorem lf_gr (k : Nat) : (∀ i, i < n → lf_it U D L n (k + 1) i = lf_it U D L n k i) ∨ pu_cnt (lf_it U D L n k) n < pu_cnt (lf_it U D L n (k + 1)) n := by
  by_cases h : ∃ i, i < n ∧ lf_it U D L n k i = false ∧ lf_it U D L n (k + 1) i = true
  · exact Or.inr (pu_cnt_lt (fun i _ => lf_up k i) h)
  · left
    intro i hi
    cases a : lf_it U D L n k i
    · cases b : lf_it U D L n (k + 1) i
      · rfl
      · exact absurd ⟨i, hi, a, b⟩ h
    · exact lf_up k i a
theorem lf_all (k : Nat) : (∀ i, i < n → lf_it U D L n (k + 1) i = lf_it U D L n k i) ∨ k + 1 ≤ pu_cnt (lf_it U D L n (k + 1)) n := by
  induction k with
  | zero =>
    rcases lf_gr (U := U) (D := D) (L := L) (n := n) 0 with h | h
    · exact Or.inl h
    · exact Or.inr (by omega)
  | succ k ih =>
    rcases ih with h | h
    · exact Or.inl (fun i hi => lf_cong h i)
    · rcases lf_gr (U := U) (D := D) (L := L) (n := n) (k + 1) with g | g
      · exact Or.inl g
      · exact Or.inr (by omega)
theorem lf_fix (i : Nat) (hi : i < n) : lf_F U D L n (lf_it U D L n n) i = lf_it U D L n n i := by
  rcases lf_all (U := U) (D := D) (L := L) (n := n) n with h | h
  · exact h i hi
  · have := pu_cnt_le (lf_it U D L n (n + 1)) n
    omega
theorem lf_least {S : Nat → Bool} (h : ∀ i, i < n → lf_F U D L n S i = true → S i = true) : ∀ k i, i < n → lf_it U D L n k i = true → S i = true
  | 0, i, _, g => by simp [lf_it] at g
  | k + 1, i, hi, g => h i hi (lf_mono (fun j hj => lf_least h k j hj) i g)
theorem lf_eq {S : Nat → Bool} (hf : ∀ i, i < n → lf_F U D L n S i = S i) (hl : ∀ i, i < n → S i = true → lf_it U D L n n i = true) (i : Nat) (hi : i < n) : S i = lf_it U D L n n i := by
  apply Bool.eq_iff_iff.mpr
  exact ⟨hl i hi, lf_least (fun i hi g => by rw [← hf i hi]; exact g) n i hi⟩
end
