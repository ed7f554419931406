section
theorem pk_us {f : Nat → Int32} {k : Nat} {x : Int32} : upd f k x k = x := if_pos rfl
theorem pk_un {f : Nat → Int32} {k j : Nat} {x : Int32} (h : j ≠ k) : upd f k x j = f j := if_neg h
theorem pk_sub {a b : Nat} (h : b ≤ a) : nI a - nI b = nI (a - b) := by
  obtain ⟨c, rfl⟩ : ∃ c, a = c + b := ⟨a - b, by omega⟩
  rw [← nI_add, Int32.add_sub_cancel, Nat.add_sub_cancel]
theorem pk_m1 (n : Nat) : nI (n + 1) + (-1) = nI n := by
  rw [← nI_1, Int32.add_assoc, show (1 : Int32) + (-1) = 0 from rfl, Int32.add_zero]
theorem pk_mul (a b : Nat) : nI a * nI b = nI (a * b) := (Int32.ofNat_mul a b).symm
theorem pk_div {a d : Nat} (ha : a < 2 ^ 31) (h0 : 0 < d) (hd : d < 2 ^ 31) : nI a / nI d = nI (a / d) := by
  apply Int32.toInt_inj.mp
  rw [lg_idiv_nonneg (by rw [nI_toInt ha]; omega) (by rw [nI_toInt hd]; omega), nI_toInt ha, nI_toInt hd, nI_toInt (Nat.lt_of_le_of_lt (Nat.div_le_self a d) ha)]
  first | rfl | exact (Int.natCast_ediv _ _).symm
theorem pk_rem {a d : Nat} (ha : a < 2 ^ 31) (h0 : 0 < d) (hd : d < 2 ^ 31) : nI a - nI a / nI d * nI d = nI (a % d) := by
  rw [pk_div ha h0 hd, pk_mul, pk_sub (Nat.div_mul_le_self a d)]
  exact congrArg nI (by have := Nat.div_add_mod' a d; omega)
theorem pk_sub_toInt {a b : Nat} (ha : a < 2 ^ 30) (hb : b < 2 ^ 30) : (nI a - nI b).toInt = (a : Int) - b := by
  rw [Int32.toInt_sub, nI_toInt (by omega), nI_toInt (by omega)]
  exact Int.bmod_eq_of_le (by omega) (by omega)
theorem pk_sneg {a b : Nat} (hb : b < 2 ^ 30) (h : a < b) : nI a - nI b < 0 := by
  rw [Int32.lt_iff_toInt_lt, pk_sub_toInt (by omega) hb, show (0 : Int32).toInt = 0 from by decide]
  omega
theorem pk_ix (x : Int32) {n : Nat} (hn : n < 2 ^ 31) : x < 0 ∨ nI n ≤ x ∨ ∃ j : Nat, j < n ∧ x = nI j := by
  by_cases h : x < 0
  · exact Or.inl h
  · obtain ⟨j, hj, rfl⟩ := nI_of h
    by_cases h2 : j < n
    · exact Or.inr (Or.inr ⟨j, h2, rfl⟩)
    · exact Or.inr (Or.inl (nI_le (by omega) hj))
theorem pk_le {x y : Int32} {A B : Prop} (a b : Nat) (f : a ≤ b → A) (g : b < a → B) (hx : x = nI a := by rfl) (hy : y = nI b := by rfl) (ha : a < 2 ^ 31 := by omega) (hb : b < 2 ^ 31 := by omega) : (x ≤ y → A) ∧ (¬ x ≤ y → B) := by
  subst hx hy
  rw [nI_leI ha hb]
  exact ⟨f, fun z => g (by omega)⟩
theorem pk_lt {x y : Int32} {A B : Prop} (a b : Nat) (f : a < b → A) (g : b ≤ a → B) (hx : x = nI a := by rfl) (hy : y = nI b := by rfl) (ha : a < 2 ^ 31 := by omega) (hb : b < 2 ^ 31 := by omega) : (x < y → A) ∧ (¬ x < y → B) := by
  subst hx hy
  rw [nI_ltI ha hb]
  exact ⟨f, fun z => g (by omega)⟩
theorem pk_eq {x y : Int32} {A B : Prop} (a b : Nat) (f : a = b → A) (g : a ≠ b → B) (hx : x = nI a := by rfl) (hy : y = nI b := by rfl) (ha : a < 2 ^ 31 := by omega) (hb : b < 2 ^ 31 := by omega) : (x = y → A) ∧ (¬ x = y → B) := by
  subst hx hy
  rw [nI_eq ha hb]
  exact ⟨f, g⟩
theorem pk_in {x : Int32} (n N : Nat) (h : n < N) (hx : x = nI n := by rfl) (hN : N < 2 ^ 31 := by omega) : vp_in x N := by
  subst hx
  exact vp_in_nI h hN
theorem pk_cl {x : Int32} (n : Nat) (hx : x = nI n := by rfl) (h : n < 2 ^ 31 := by omega) : x.toNatClampNeg = n := by
  subst hx
  exact nI_clamp h
theorem pk_tn {n : Nat} (h : n < 2 ^ 32) : (nI n).toBitVec.toNat = n := Nat.mod_eq_of_lt h
theorem pk_and (x : Int32) {m : Int32} (k : Nat) (hm : m.toBitVec.toNat = 2 ^ k - 1) : x &&& m = nI (x.toBitVec.toNat % 2 ^ k) := by
  apply Int32.toBitVec_inj.mp
  apply BitVec.eq_of_toNat_eq
  rw [Int32.toBitVec_and, BitVec.toNat_and, hm, Nat.and_two_pow_sub_one_eq_mod]
  show _ = (BitVec.ofNat 32 _).toNat
  rw [BitVec.toNat_ofNat]
  exact (Nat.mod_eq_of_lt (Nat.lt_of_le_of_lt (Nat.mod_le _ _) x.toBitVec.isLt)).symm
theorem pk_andN {n : Nat} (h : n < 2 ^ 32) {m : Int32} (k : Nat) (hm : m.toBitVec.toNat = 2 ^ k - 1) : nI n &&& m = nI (n % 2 ^ k) := by
  rw [pk_and _ k hm, pk_tn h]
theorem pk_andE (x : Int32) {m : Int32} (k : Nat) (hm : m.toBitVec.toNat = 2 ^ k - 1) : ∃ j : Nat, j < 2 ^ k ∧ x &&& m = nI j := ⟨_, Nat.mod_lt _ (Nat.two_pow_pos k), pk_and x k hm⟩
theorem pk_andIn (x : Int32) {m : Int32} (k : Nat) (hm : m.toBitVec.toNat = 2 ^ k - 1) (hk : k ≤ 30) : vp_in (x &&& m) (2 ^ k) := by
  obtain ⟨j, hj, e⟩ := pk_andE x k hm
  rw [e]
  exact vp_in_nI hj (Nat.lt_of_le_of_lt (Nat.pow_le_pow_right (by decide) hk) (by decide))
theorem pk_shl (a s : Int32) (k : Nat) (hs : (s.toBitVec.smod 32).toNat = k) : (a <<< s).toBitVec.toNat = a.toBitVec.toNat * 2 ^ k % 2 ^ 32 := by
  show (a.toBitVec <<< (s.toBitVec.smod 32).toNat).toNat = _
  rw [hs, BitVec.toNat_shiftLeft, Nat.shiftLeft_eq]
theorem pk_shlN {n : Nat} (s : Int32) (k : Nat) (hs : (s.toBitVec.smod 32).toNat = k) (h : n * 2 ^ k < 2 ^ 32) : nI n <<< s = nI (n * 2 ^ k) := by
  apply Int32.toBitVec_inj.mp
  apply BitVec.eq_of_toNat_eq
  have hn : n < 2 ^ 32 := Nat.lt_of_le_of_lt (Nat.le_mul_of_pos_right n (Nat.two_pow_pos k)) h
  rw [pk_shl _ _ k hs, pk_tn hn, pk_tn h, Nat.mod_eq_of_lt h]
theorem pk_shr (a s : Int32) (k : Nat) (hs : (s.toBitVec.smod 32).toNat = k) : (a >>> s).toInt = a.toInt >>> k := by
  show (a.toBitVec.sshiftRight (s.toBitVec.smod 32).toNat).toInt = _
  rw [hs, BitVec.toInt_sshiftRight]
  rfl
theorem pk_shrN {n : Nat} (h : n < 2 ^ 31) (s : Int32) (k : Nat) (hs : (s.toBitVec.smod 32).toNat = k) : nI n >>> s = nI (n / 2 ^ k) := by
  apply Int32.toInt_inj.mp
  have h2 : n / 2 ^ k ≤ n := Nat.div_le_self _ _
  rw [pk_shr _ _ k hs, nI_toInt h, nI_toInt (by omega), Int.shiftRight_eq_div_pow]
  rfl
theorem pk_loop {σ : Type} (W : Nat → Nat → σ → Prop) (I : Nat → σ → Prop) (e i0 : Nat) (s : σ) (hi : i0 ≤ e) (h0 : I i0 s) (hx : ∀ n s, I e s → W (n + 1) e s)
    (hs : ∀ n i s, i < e → I i s → (∀ s', I (i + 1) s' → W n (i + 1) s') → W (n + 1) i s) : ∃ n, W n i0 s :=
  ⟨e + 1, loop_i W I e hx hs (e + 1) i0 s hi (by omega) h0⟩
theorem pk_loopD {σ : Type} (W : Nat → Nat → σ → Prop) (I : Nat → σ → Prop) (hx : ∀ n s, I 0 s → W (n + 1) 0 s)
    (hs : ∀ n i s, I (i + 1) s → (∀ s', I i s' → W n i s') → W (n + 1) (i + 1) s) : ∀ (e : Nat) (s : σ), I e s → W (e + 1) e s := by
  intro e
  induction e with
  | zero => exact fun s h => hx 0 s h
  | succ e ih => exact fun s h => hs (e + 1) e s h (fun s' h' => ih s' h')
theorem lp1 {A1 : Type} (W : Nat → A1 → Prop) (I : A1 → Prop) (μ : A1 → Nat) (hs : ∀ (n : Nat) (a1 : A1), I a1 → (∀ (b1 : A1), I b1 → μ b1 < μ a1 → W n b1) → W (n + 1) a1) (a1 : A1) (h : I a1) : ∃ n, W n a1 :=
  loop_m (σ := A1) (fun n s => W n s) (fun s => I s) (fun s => μ s) (fun n s hI hk => hs n s hI (fun b1 h9 hm => hk b1 h9 hm)) a1 h
theorem lp2 {A1 A2 : Type} (W : Nat → A1 → A2 → Prop) (I : A1 → A2 → Prop) (μ : A1 → A2 → Nat) (hs : ∀ (n : Nat) (a1 : A1) (a2 : A2), I a1 a2 → (∀ (b1 : A1) (b2 : A2), I b1 b2 → μ b1 b2 < μ a1 a2 → W n b1 b2) → W (n + 1) a1 a2) (a1 : A1) (a2 : A2) (h : I a1 a2) : ∃ n, W n a1 a2 :=
  loop_m (σ := A1 × A2) (fun n s => W n s.1 s.2) (fun s => I s.1 s.2) (fun s => μ s.1 s.2) (fun n s hI hk => hs n s.1 s.2 hI (fun b1 b2 h9 hm => hk (b1, b2) h9 hm)) (a1, a2) h
theorem lp3 {A1 A2 A3 : Type} (W : Nat → A1 → A2 → A3 → Prop) (I : A1 → A2 → A3 → Prop) (μ : A1 → A2 → A3 → Nat) (hs : ∀ (n : Nat) (a1 : A1) (a2 : A2) (a3 : A3), I a1 a2 a3 → (∀ (b1 : A1) (b2 : A2) (b3 : A3), I b1 b2 b3 → μ b1 b2 b3 < μ a1 a2 a3 → W n b1 b2 b3) → W (n + 1) a1 a2 a3) (a1 : A1) (a2 : A2) (a3 : A3) (h : I a1 a2 a3) : ∃ n, W n a1 a2 a3 :=
  loop_m (σ := A1 × A2 × A3) (fun n s => W n s.1 s.2.1 s.2.2) (fun s => I s.1 s.2.1 s.2.2) (fun s => μ s.1 s.2.1 s.2.2) (fun n s hI hk => hs n s.1 s.2.1 s.2.2 hI (fun b1 b2 b3 h9 hm => hk (b1, b2, b3) h9 hm)) (a1, a2, a3) h
theorem lp4 {A1 A2 A3 A4 : Type} (W : Nat → A1 → A2 → A3 → A4 → Prop) (I : A1 → A2 → A3 → A4 → Prop) (μ : A1 → A2 → A3 → A4 → Nat) (hs : ∀ (n : Nat) (a1 : A1) (a2 : A2) (a3 : A3) (a4 : A4), I a1 a2 a3 a4 → (∀ (b1 : A1) (b2 : A2) (b3 : A3) (b4 : A4), I b1 b2 b3 b4 → μ b1 b2 b3 b4 < μ a1 a2 a3 a4 → W n b1 b2 b3 b4) → W (n + 1) a1 a2 a3 a4) (a1 : A1) (a2 : A2) (a3 : A3) (a4 : A4) (h : I a1 a2 a3 a4) : ∃ n, W n a1 a2 a3 a4 :=
  loop_m (σ := A1 × A2 × A3 × A4) (fun n s => W n s.1 s.2.1 s.2.2.1 s.2.2.2) (fun s => I s.1 s.2.1 s.2.2.1 s.2.2.2) (fun s => μ s.1 s.2.1 s.2.2.1 s.2.2.2) (fun n s hI hk => hs n s.1 s.2.1 s.2.2.1 s.2.2.2 hI (fun b1 b2 b3 b4 h9 hm => hk (b1, b2, b3, b4) h9 hm)) (a1, a2, a3, a4) h
theorem lp5 {A1 A2 A3 A4 A5 : Type} (W : Nat → A1 → A2 → A3 → A4 → A5 → Prop) (I : A1 → A2 → A3 → A4 → A5 → Prop) (μ : A1 → A2 → A3 → A4 → A5 → Nat) (hs : ∀ (n : Nat) (a1 : A1) (a2 : A2) (a3 : A3) (a4 : A4) (a5 : A5), I a1 a2 a3 a4 a5 → (∀ (b1 : A1) (b2 : A2) (b3 : A3) (b4 : A4) (b5 : A5), I b1 b2 b3 b4 b5 → μ b1 b2 b3 b4 b5 < μ a1 a2 a3 a4 a5 → W n b1 b2 b3 b4 b5) → W (n + 1) a1 a2 a3 a4 a5) (a1 : A1) (a2 : A2) (a3 : A3) (a4 : A4) (a5 : A5) (h : I a1 a2 a3 a4 a5) : ∃ n, W n a1 a2 a3 a4 a5 :=
  loop_m (σ := A1 × A2 × A3 × A4 × A5) (fun n s => W n s.1 s.2.1 s.2.2.1 s.2.2.2.1 s.2.2.2.2) (fun s => I s.1 s.2.1 s.2.2.1 s.2.2.2.1 s.2.2.2.2) (fun s => μ s.1 s.2.1 s.2.2.1 s.2.2.2.1 s.2.2.2.2) (fun n s hI hk => hs n s.1 s.2.1 s.2.2.1 s.2.2.2.1 s.2.2.2.2 hI (fun b1 b2 b3 b4 b5 h9 hm => hk (b1, b2, b3, b4, b5) h9 hm)) (a1, a2, a3, a4, a5) h
theorem lp6 {A1 A2 A3 A4 A5 A6 : Type} (W : Nat → A1 → A2 → A3 → A4 → A5 → A6 → Prop) (I : A1 → A2 → A3 → A4 → A5 → A6 → Prop) (μ : A1 → A2 → A3 → A4 → A5 → A6 → Nat) (hs : ∀ (n : Nat) (a1 : A1) (a2 : A2) (a3 : A3) (a4 : A4) (a5 : A5) (a6 : A6), I a1 a2 a3 a4 a5 a6 → (∀ (b1 : A1) (b2 : A2) (b3 : A3) (b4 : A4) (b5 : A5) (b6 : A6), I b1 b2 b3 b4 b5 b6 → μ b1 b2 b3 b4 b5 b6 < μ a1 a2 a3 a4 a5 a6 → W n b1 b2 b3 b4 b5 b6) → W (n + 1) a1 a2 a3 a4 a5 a6) (a1 : A1) (a2 : A2) (a3 : A3) (a4 : A4) (a5 : A5) (a6 : A6) (h : I a1 a2 a3 a4 a5 a6) : ∃ n, W n a1 a2 a3 a4 a5 a6 :=
  loop_m (σ := A1 × A2 × A3 × A4 × A5 × A6) (fun n s => W n s.1 s.2.1 s.2.2.1 s.2.2.2.1 s.2.2.2.2.1 s.2.2.2.2.2) (fun s => I s.1 s.2.1 s.2.2.1 s.2.2.2.1 s.2.2.2.2.1 s.2.2.2.2.2) (fun s => μ s.1 s.2.1 s.2.2.1 s.2.2.2.1 s.2.2.2.2.1 s.2.2.2.2.2) (fun n s hI hk => hs n s.1 s.2.1 s.2.2.1 s.2.2.2.1 s.2.2.2.2.1 s.2.2.2.2.2 hI (fun b1 b2 b3 b4 b5 b6 h9 hm => hk (b1, b2, b3, b4, b5, b6) h9 hm)) (a1, a2, a3, a4, a5, a6) h
theorem lp7 {A1 A2 A3 A4 A5 A6 A7 : Type} (W : Nat → A1 → A2 → A3 → A4 → A5 → A6 → A7 → Prop) (I : A1 → A2 → A3 → A4 → A5 → A6 → A7 → Prop) (μ : A1 → A2 → A3 → A4 → A5 → A6 → A7 → Nat) (hs : ∀ (n : Nat) (a1 : A1) (a2 : A2) (a3 : A3) (a4 : A4) (a5 : A5) (a6 : A6) (a7 : A7), I a1 a2 a3 a4 a5 a6 a7 → (∀ (b1 : A1) (b2 : A2) (b3 : A3) (b4 : A4) (b5 : A5) (b6 : A6) (b7 : A7), I b1 b2 b3 b4 b5 b6 b7 → μ b1 b2 b3 b4 b5 b6 b7 < μ a1 a2 a3 a4 a5 a6 a7 → W n b1 b2 b3 b4 b5 b6 b7) → W (n + 1) a1 a2 a3 a4 a5 a6 a7) (a1 : A1) (a2 : A2) (a3 : A3) (a4 : A4) (a5 : A5) (a6 : A6) (a7 : A7) (h : I a1 a2 a3 a4 a5 a6 a7) : ∃ n, W n a1 a2 a3 a4 a5 a6 a7 :=
  loop_m (σ := A1 × A2 × A3 × A4 × A5 × A6 × A7) (fun n s => W n s.1 s.2.1 s.2.2.1 s.2.2.2.1 s.2.2.2.2.1 s.2.2.2.2.2.1 s.2.2.2.2.2.2) (fun s => I s.1 s.2.1 s.2.2.1 s.2.2.2.1 s.2.2.2.2.1 s.2.2.2.2.2.1 s.2.2.2.2.2.2) (fun s => μ s.1 s.2.1 s.2.2.1 s.2.2.2.1 s.2.2.2.2.1 s.2.2.2.2.2.1 s.2.2.2.2.2.2) (fun n s hI hk => hs n s.1 s.2.1 s.2.2.1 s.2.2.2.1 s.2.2.2.2.1 s.2.2.2.2.2.1 s.2.2.2.2.2.2 hI (fun b1 b2 b3 b4 b5 b6 b7 h9 hm => hk (b1, b2, b3, b4, b5, b6, b7) h9 hm)) (a1, a2, a3, a4, a5, a6, a7) h
theorem lp8 {A1 A2 A3 A4 A5 A6 A7 A8 : Type} (W : Nat → A1 → A2 → A3 → A4 → A5 → A6 → A7 → A8 → Prop) (I : A1 → A2 → A3 → A4 → A5 → A6 → A7 → A8 → Prop) (μ : A1 → A2 → A3 → A4 → A5 → A6 → A7 → A8 → Nat) (hs : ∀ (n : Nat) (a1 : A1) (a2 : A2) (a3 : A3) (a4 : A4) (a5 : A5) (a6 : A6) (a7 : A7) (a8 : A8), I a1 a2 a3 a4 a5 a6 a7 a8 → (∀ (b1 : A1) (b2 : A2) (b3 : A3) (b4 : A4) (b5 : A5) (b6 : A6) (b7 : A7) (b8 : A8), I b1 b2 b3 b4 b5 b6 b7 b8 → μ b1 b2 b3 b4 b5 b6 b7 b8 < μ a1 a2 a3 a4 a5 a6 a7 a8 → W n b1 b2 b3 b4 b5 b6 b7 b8) → W (n + 1) a1 a2 a3 a4 a5 a6 a7 a8) (a1 : A1) (a2 : A2) (a3 : A3) (a4 : A4) (a5 : A5) (a6 : A6) (a7 : A7) (a8 : A8) (h : I a1 a2 a3 a4 a5 a6 a7 a8) : ∃ n, W n a1 a2 a3 a4 a5 a6 a7 a8 :=
  loop_m (σ := A1 × A2 × A3 × A4 × A5 × A6 × A7 × A8) (fun n s => W n s.1 s.2.1 s.2.2.1 s.2.2.2.1 s.2.2.2.2.1 s.2.2.2.2.2.1 s.2.2.2.2.2.2.1 s.2.2.2.2.2.2.2) (fun s => I s.1 s.2.1 s.2.2.1 s.2.2.2.1 s.2.2.2.2.1 s.2.2.2.2.2.1 s.2.2.2.2.2.2.1 s.2.2.2.2.2.2.2) (fun s => μ s.1 s.2.1 s.2.2.1 s.2.2.2.1 s.2.2.2.2.1 s.2.2.2.2.2.1 s.2.2.2.2.2.2.1 s.2.2.2.2.2.2.2) (fun n s hI hk => hs n s.1 s.2.1 s.2.2.1 s.2.2.2.1 s.2.2.2.2.1 s.2.2.2.2.2.1 s.2.2.2.2.2.2.1 s.2.2.2.2.2.2.2 hI (fun b1 b2 b3 b4 b5 b6 b7 b8 h9 hm => hk (b1, b2, b3, b4, b5, b6, b7, b8) h9 hm)) (a1, a2, a3, a4, a5, a6, a7, a8) h
theorem lp9 {A1 A2 A3 A4 A5 A6 A7 A8 A9 : Type} (W : Nat → A1 → A2 → A3 → A4 → A5 → A6 → A7 → A8 → A9 → Prop) (I : A1 → A2 → A3 → A4 → A5 → A6 → A7 → A8 → A9 → Prop) (μ : A1 → A2 → A3 → A4 → A5 → A6 → A7 → A8 → A9 → Nat) (hs : ∀ (n : Nat) (a1 : A1) (a2 : A2) (a3 : A3) (a4 : A4) (a5 : A5) (a6 : A6) (a7 : A7) (a8 : A8) (a9 : A9), I a1 a2 a3 a4 a5 a6 a7 a8 a9 → (∀ (b1 : A1) (b2 : A2) (b3 : A3) (b4 : A4) (b5 : A5) (b6 : A6) (b7 : A7) (b8 : A8) (b9 : A9), I b1 b2 b3 b4 b5 b6 b7 b8 b9 → μ b1 b2 b3 b4 b5 b6 b7 b8 b9 < μ a1 a2 a3 a4 a5 a6 a7 a8 a9 → W n b1 b2 b3 b4 b5 b6 b7 b8 b9) → W (n + 1) a1 a2 a3 a4 a5 a6 a7 a8 a9) (a1 : A1) (a2 : A2) (a3 : A3) (a4 : A4) (a5 : A5) (a6 : A6) (a7 : A7) (a8 : A8) (a9 : A9) (h : I a1 a2 a3 a4 a5 a6 a7 a8 a9) : ∃ n, W n a1 a2 a3 a4 a5 a6 a7 a8 a9 :=
  loop_m (σ := A1 × A2 × A3 × A4 × A5 × A6 × A7 × A8 × A9) (fun n s => W n s.1 s.2.1 s.2.2.1 s.2.2.2.1 s.2.2.2.2.1 s.2.2.2.2.2.1 s.2.2.2.2.2.2.1 s.2.2.2.2.2.2.2.1 s.2.2.2.2.2.2.2.2) (fun s => I s.1 s.2.1 s.2.2.1 s.2.2.2.1 s.2.2.2.2.1 s.2.2.2.2.2.1 s.2.2.2.2.2.2.1 s.2.2.2.2.2.2.2.1 s.2.2.2.2.2.2.2.2) (fun s => μ s.1 s.2.1 s.2.2.1 s.2.2.2.1 s.2.2.2.2.1 s.2.2.2.2.2.1 s.2.2.2.2.2.2.1 s.2.2.2.2.2.2.2.1 s.2.2.2.2.2.2.2.2) (fun n s hI hk => hs n s.1 s.2.1 s.2.2.1 s.2.2.2.1 s.2.2.2.2.1 s.2.2.2.2.2.1 s.2.2.2.2.2.2.1 s.2.2.2.2.2.2.2.1 s.2.2.2.2.2.2.2.2 hI (fun b1 b2 b3 b4 b5 b6 b7 b8 b9 h9 hm => hk (b1, b2, b3, b4, b5, b6, b7, b8, b9) h9 hm)) (a1, a2, a3, a4, a5, a6, a7, a8, a9) h
theorem lp10 {A1 A2 A3 A4 A5 A6 A7 A8 A9 A10 : Type} (W : Nat → A1 → A2 → A3 → A4 → A5 → A6 → A7 → A8 → A9 → A10 → Prop) (I : A1 → A2 → A3 → A4 → A5 → A6 → A7 → A8 → A9 → A10 → Prop) (μ : A1 → A2 → A3 → A4 → A5 → A6 → A7 → A8 → A9 → A10 → Nat) (hs : ∀ (n : Nat) (a1 : A1) (a2 : A2) (a3 : A3) (a4 : A4) (a5 : A5) (a6 : A6) (a7 : A7) (a8 : A8) (a9 : A9) (a10 : A10), I a1 a2 a3 a4 a5 a6 a7 a8 a9 a10 → (∀ (b1 : A1) (b2 : A2) (b3 : A3) (b4 : A4) (b5 : A5) (b6 : A6) (b7 : A7) (b8 : A8) (b9 : A9) (b10 : A10), I b1 b2 b3 b4 b5 b6 b7 b8 b9 b10 → μ b1 b2 b3 b4 b5 b6 b7 b8 b9 b10 < μ a1 a2 a3 a4 a5 a6 a7 a8 a9 a10 → W n b1 b2 b3 b4 b5 b6 b7 b8 b9 b10) → W (n + 1) a1 a2 a3 a4 a5 a6 a7 a8 a9 a10) (a1 : A1) (a2 : A2) (a3 : A3) (a4 : A4) (a5 : A5) (a6 : A6) (a7 : A7) (a8 : A8) (a9 : A9) (a10 : A10) (h : I a1 a2 a3 a4 a5 a6 a7 a8 a9 a10) : ∃ n, W n a1 a2 a3 a4 a5 a6 a7 a8 a9 a10 :=
  loop_m (σ := A1 × A2 × A3 × A4 × A5 × A6 × A7 × A8 × A9 × A10) (fun n s => W n s.1 s.2.1 s.2.2.1 s.2.2.2.1 s.2.2.2.2.1 s.2.2.2.2.2.1 s.2.2.2.2.2.2.1 s.2.2.2.2.2.2.2.1 s.2.2.2.2.2.2.2.2.1 s.2.2.2.2.2.2.2.2.2) (fun s => I s.1 s.2.1 s.2.2.1 s.2.2.2.1 s.2.2.2.2.1 s.2.2.2.2.2.1 s.2.2.2.2.2.2.1 s.2.2.2.2.2.2.2.1 s.2.2.2.2.2.2.2.2.1 s.2.2.2.2.2.2.2.2.2) (fun s => μ s.1 s.2.1 s.2.2.1 s.2.2.2.1 s.2.2.2.2.1 s.2.2.2.2.2.1 s.2.2.2.2.2.2.1 s.2.2.2.2.2.2.2.1 s.2.2.2.2.2.2.2.2.1 s.2.2.2.2.2.2.2.2.2) (fun n s hI hk => hs n s.1 s.2.1 s.2.2.1 s.2.2.2.1 s.2.2.2.2.1 s.2.2.2.2.2.1 s.2.2.2.2.2.2.1 s.2.2.2.2.2.2.2.1 s.2.2.2.2.2.2.2.2.1 s.2.2.2.2.2.2.2.2.2 hI (fun b1 b2 b3 b4 b5 b6 b7 b8 b9 b10 h9 hm => hk (b1, b2, b3, b4, b5, b6, b7, b8, b9, b10) h9 hm)) (a1, a2, a3, a4, a5, a6, a7, a8, a9, a10) h
theorem lp11 {A1 A2 A3 A4 A5 A6 A7 A8 A9 A10 A11 : Type} (W : Nat → A1 → A2 → A3 → A4 → A5 → A6 → A7 → A8 → A9 → A10 → A11 → Prop) (I : A1 → A2 → A3 → A4 → A5 → A6 → A7 → A8 → A9 → A10 → A11 → Prop) (μ : A1 → A2 → A3 → A4 → A5 → A6 → A7 → A8 → A9 → A10 → A11 → Nat) (hs : ∀ (n : Nat) (a1 : A1) (a2 : A2) (a3 : A3) (a4 : A4) (a5 : A5) (a6 : A6) (a7 : A7) (a8 : A8) (a9 : A9) (a10 : A10) (a11 : A11), I a1 a2 a3 a4 a5 a6 a7 a8 a9 a10 a11 → (∀ (b1 : A1) (b2 : A2) (b3 : A3) (b4 : A4) (b5 : A5) (b6 : A6) (b7 : A7) (b8 : A8) (b9 : A9) (b10 : A10) (b11 : A11), I b1 b2 b3 b4 b5 b6 b7 b8 b9 b10 b11 → μ b1 b2 b3 b4 b5 b6 b7 b8 b9 b10 b11 < μ a1 a2 a3 a4 a5 a6 a7 a8 a9 a10 a11 → W n b1 b2 b3 b4 b5 b6 b7 b8 b9 b10 b11) → W (n + 1) a1 a2 a3 a4 a5 a6 a7 a8 a9 a10 a11) (a1 : A1) (a2 : A2) (a3 : A3) (a4 : A4) (a5 : A5) (a6 : A6) (a7 : A7) (a8 : A8) (a9 : A9) (a10 : A10) (a11 : A11) (h : I a1 a2 a3 a4 a5 a6 a7 a8 a9 a10 a11) : ∃ n, W n a1 a2 a3 a4 a5 a6 a7 a8 a9 a10 a11 :=
  loop_m (σ := A1 × A2 × A3 × A4 × A5 × A6 × A7 × A8 × A9 × A10 × A11) (fun n s => W n s.1 s.2.1 s.2.2.1 s.2.2.2.1 s.2.2.2.2.1 s.2.2.2.2.2.1 s.2.2.2.2.2.2.1 s.2.2.2.2.2.2.2.1 s.2.2.2.2.2.2.2.2.1 s.2.2.2.2.2.2.2.2.2.1 s.2.2.2.2.2.2.2.2.2.2) (fun s => I s.1 s.2.1 s.2.2.1 s.2.2.2.1 s.2.2.2.2.1 s.2.2.2.2.2.1 s.2.2.2.2.2.2.1 s.2.2.2.2.2.2.2.1 s.2.2.2.2.2.2.2.2.1 s.2.2.2.2.2.2.2.2.2.1 s.2.2.2.2.2.2.2.2.2.2) (fun s => μ s.1 s.2.1 s.2.2.1 s.2.2.2.1 s.2.2.2.2.1 s.2.2.2.2.2.1 s.2.2.2.2.2.2.1 s.2.2.2.2.2.2.2.1 s.2.2.2.2.2.2.2.2.1 s.2.2.2.2.2.2.2.2.2.1 s.2.2.2.2.2.2.2.2.2.2) (fun n s hI hk => hs n s.1 s.2.1 s.2.2.1 s.2.2.2.1 s.2.2.2.2.1 s.2.2.2.2.2.1 s.2.2.2.2.2.2.1 s.2.2.2.2.2.2.2.1 s.2.2.2.2.2.2.2.2.1 s.2.2.2.2.2.2.2.2.2.1 s.2.2.2.2.2.2.2.2.2.2 hI (fun b1 b2 b3 b4 b5 b6 b7 b8 b9 b10 b11 h9 hm => hk (b1, b2, b3, b4, b5, b6, b7, b8, b9, b10, b11) h9 hm)) (a1, a2, a3, a4, a5, a6, a7, a8, a9, a10, a11) h
theorem lp12 {A1 A2 A3 A4 A5 A6 A7 A8 A9 A10 A11 A12 : Type} (W : Nat → A1 → A2 → A3 → A4 → A5 → A6 → A7 → A8 → A9 → A10 → A11 → A12 → Prop) (I : A1 → A2 → A3 → A4 → A5 → A6 → A7 → A8 → A9 → A10 → A11 → A12 → Prop) (μ : A1 → A2 → A3 → A4 → A5 → A6 → A7 → A8 → A9 → A10 → A11 → A12 → Nat) (hs : ∀ (n : Nat) (a1 : A1) (a2 : A2) (a3 : A3) (a4 : A4) (a5 : A5) (a6 : A6) (a7 : A7) (a8 : A8) (a9 : A9) (a10 : A10) (a11 : A11) (a12 : A12), I a1 a2 a3 a4 a5 a6 a7 a8 a9 a10 a11 a12 → (∀ (b1 : A1) (b2 : A2) (b3 : A3) (b4 : A4) (b5 : A5) (b6 : A6) (b7 : A7) (b8 : A8) (b9 : A9) (b10 : A10) (b11 : A11) (b12 : A12), I b1 b2 b3 b4 b5 b6 b7 b8 b9 b10 b11 b12 → μ b1 b2 b3 b4 b5 b6 b7 b8 b9 b10 b11 b12 < μ a1 a2 a3 a4 a5 a6 a7 a8 a9 a10 a11 a12 → W n b1 b2 b3 b4 b5 b6 b7 b8 b9 b10 b11 b12) → W (n + 1) a1 a2 a3 a4 a5 a6 a7 a8 a9 a10 a11 a12) (a1 : A1) (a2 : A2) (a3 : A3) (a4 : A4) (a5 : A5) (a6 : A6) (a7 : A7) (a8 : A8) (a9 : A9) (a10 : A10) (a11 : A11) (a12 : A12) (h : I a1 a2 a3 a4 a5 a6 a7 a8 a9 a10 a11 a12) : ∃ n, W n a1 a2 a3 a4 a5 a6 a7 a8 a9 a10 a11 a12 :=
  loop_m (σ := A1 × A2 × A3 × A4 × A5 × A6 × A7 × A8 × A9 × A10 × A11 × A12) (fun n s => W n s.1 s.2.1 s.2.2.1 s.2.2.2.1 s.2.2.2.2.1 s.2.2.2.2.2.1 s.2.2.2.2.2.2.1 s.2.2.2.2.2.2.2.1 s.2.2.2.2.2.2.2.2.1 s.2.2.2.2.2.2.2.2.2.1 s.2.2.2.2.2.2.2.2.2.2.1 s.2.2.2.2.2.2.2.2.2.2.2) (fun s => I s.1 s.2.1 s.2.2.1 s.2.2.2.1 s.2.2.2.2.1 s.2.2.2.2.2.1 s.2.2.2.2.2.2.1 s.2.2.2.2.2.2.2.1 s.2.2.2.2.2.2.2.2.1 s.2.2.2.2.2.2.2.2.2.1 s.2.2.2.2.2.2.2.2.2.2.1 s.2.2.2.2.2.2.2.2.2.2.2) (fun s => μ s.1 s.2.1 s.2.2.1 s.2.2.2.1 s.2.2.2.2.1 s.2.2.2.2.2.1 s.2.2.2.2.2.2.1 s.2.2.2.2.2.2.2.1 s.2.2.2.2.2.2.2.2.1 s.2.2.2.2.2.2.2.2.2.1 s.2.2.2.2.2.2.2.2.2.2.1 s.2.2.2.2.2.2.2.2.2.2.2) (fun n s hI hk => hs n s.1 s.2.1 s.2.2.1 s.2.2.2.1 s.2.2.2.2.1 s.2.2.2.2.2.1 s.2.2.2.2.2.2.1 s.2.2.2.2.2.2.2.1 s.2.2.2.2.2.2.2.2.1 s.2.2.2.2.2.2.2.2.2.1 s.2.2.2.2.2.2.2.2.2.2.1 s.2.2.2.2.2.2.2.2.2.2.2 hI (fun b1 b2 b3 b4 b5 b6 b7 b8 b9 b10 b11 b12 h9 hm => hk (b1, b2, b3, b4, b5, b6, b7, b8, b9, b10, b11, b12) h9 hm)) (a1, a2, a3, a4, a5, a6, a7, a8, a9, a10, a11, a12) h
theorem lp13 {A1 A2 A3 A4 A5 A6 A7 A8 A9 A10 A11 A12 A13 : Type} (W : Nat → A1 → A2 → A3 → A4 → A5 → A6 → A7 → A8 → A9 → A10 → A11 → A12 → A13 → Prop) (I : A1 → A2 → A3 → A4 → A5 → A6 → A7 → A8 → A9 → A10 → A11 → A12 → A13 → Prop) (μ : A1 → A2 → A3 → A4 → A5 → A6 → A7 → A8 → A9 → A10 → A11 → A12 → A13 → Nat) (hs : ∀ (n : Nat) (a1 : A1) (a2 : A2) (a3 : A3) (a4 : A4) (a5 : A5) (a6 : A6) (a7 : A7) (a8 : A8) (a9 : A9) (a10 : A10) (a11 : A11) (a12 : A12) (a13 : A13), I a1 a2 a3 a4 a5 a6 a7 a8 a9 a10 a11 a12 a13 → (∀ (b1 : A1) (b2 : A2) (b3 : A3) (b4 : A4) (b5 : A5) (b6 : A6) (b7 : A7) (b8 : A8) (b9 : A9) (b10 : A10) (b11 : A11) (b12 : A12) (b13 : A13), I b1 b2 b3 b4 b5 b6 b7 b8 b9 b10 b11 b12 b13 → μ b1 b2 b3 b4 b5 b6 b7 b8 b9 b10 b11 b12 b13 < μ a1 a2 a3 a4 a5 a6 a7 a8 a9 a10 a11 a12 a13 → W n b1 b2 b3 b4 b5 b6 b7 b8 b9 b10 b11 b12 b13) → W (n + 1) a1 a2 a3 a4 a5 a6 a7 a8 a9 a10 a11 a12 a13) (a1 : A1) (a2 : A2) (a3 : A3) (a4 : A4) (a5 : A5) (a6 : A6) (a7 : A7) (a8 : A8) (a9 : A9) (a10 : A10) (a11 : A11) (a12 : A12) (a13 : A13) (h : I a1 a2 a3 a4 a5 a6 a7 a8 a9 a10 a11 a12 a13) : ∃ n, W n a1 a2 a3 a4 a5 a6 a7 a8 a9 a10 a11 a12 a13 :=
  loop_m (σ := A1 × A2 × A3 × A4 × A5 × A6 × A7 × A8 × A9 × A10 × A11 × A12 × A13) (fun n s => W n s.1 s.2.1 s.2.2.1 s.2.2.2.1 s.2.2.2.2.1 s.2.2.2.2.2.1 s.2.2.2.2.2.2.1 s.2.2.2.2.2.2.2.1 s.2.2.2.2.2.2.2.2.1 s.2.2.2.2.2.2.2.2.2.1 s.2.2.2.2.2.2.2.2.2.2.1 s.2.2.2.2.2.2.2.2.2.2.2.1 s.2.2.2.2.2.2.2.2.2.2.2.2) (fun s => I s.1 s.2.1 s.2.2.1 s.2.2.2.1 s.2.2.2.2.1 s.2.2.2.2.2.1 s.2.2.2.2.2.2.1 s.2.2.2.2.2.2.2.1 s.2.2.2.2.2.2.2.2.1 s.2.2.2.2.2.2.2.2.2.1 s.2.2.2.2.2.2.2.2.2.2.1 s.2.2.2.2.2.2.2.2.2.2.2.1 s.2.2.2.2.2.2.2.2.2.2.2.2) (fun s => μ s.1 s.2.1 s.2.2.1 s.2.2.2.1 s.2.2.2.2.1 s.2.2.2.2.2.1 s.2.2.2.2.2.2.1 s.2.2.2.2.2.2.2.1 s.2.2.2.2.2.2.2.2.1 s.2.2.2.2.2.2.2.2.2.1 s.2.2.2.2.2.2.2.2.2.2.1 s.2.2.2.2.2.2.2.2.2.2.2.1 s.2.2.2.2.2.2.2.2.2.2.2.2) (fun n s hI hk => hs n s.1 s.2.1 s.2.2.1 s.2.2.2.1 s.2.2.2.2.1 s.2.2.2.2.2.1 s.2.2.2.2.2.2.1 s.2.2.2.2.2.2.2.1 s.2.2.2.2.2.2.2.2.1 s.2.2.2.2.2.2.2.2.2.1 s.2.2.2.2.2.2.2.2.2.2.1 s.2.2.2.2.2.2.2.2.2.2.2.1 s.2.2.2.2.2.2.2.2.2.2.2.2 hI (fun b1 b2 b3 b4 b5 b6 b7 b8 b9 b10 b11 b12 b13 h9 hm => hk (b1, b2, b3, b4, b5, b6, b7, b8, b9, b10, b11, b12, b13) h9 hm)) (a1, a2, a3, a4, a5, a6, a7, a8, a9, a10, a11, a12, a13) h
theorem lp14 {A1 A2 A3 A4 A5 A6 A7 A8 A9 A10 A11 A12 A13 A14 : Type} (W : Nat → A1 → A2 → A3 → A4 → A5 → A6 → A7 → A8 → A9 → A10 → A11 → A12 → A13 → A14 → Prop) (I : A1 → A2 → A3 → A4 → A5 → A6 → A7 → A8 → A9 → A10 → A11 → A12 → A13 → A14 → Prop) (μ : A1 → A2 → A3 → A4 → A5 → A6 → A7 → A8 → A9 → A10 → A11 → A12 → A13 → A14 → Nat) (hs : ∀ (n : Nat) (a1 : A1) (a2 : A2) (a3 : A3) (a4 : A4) (a5 : A5) (a6 : A6) (a7 : A7) (a8 : A8) (a9 : A9) (a10 : A10) (a11 : A11) (a12 : A12) (a13 : A13) (a14 : A14), I a1 a2 a3 a4 a5 a6 a7 a8 a9 a10 a11 a12 a13 a14 → (∀ (b1 : A1) (b2 : A2) (b3 : A3) (b4 : A4) (b5 : A5) (b6 : A6) (b7 : A7) (b8 : A8) (b9 : A9) (b10 : A10) (b11 : A11) (b12 : A12) (b13 : A13) (b14 : A14), I b1 b2 b3 b4 b5 b6 b7 b8 b9 b10 b11 b12 b13 b14 → μ b1 b2 b3 b4 b5 b6 b7 b8 b9 b10 b11 b12 b13 b14 < μ a1 a2 a3 a4 a5 a6 a7 a8 a9 a10 a11 a12 a13 a14 → W n b1 b2 b3 b4 b5 b6 b7 b8 b9 b10 b11 b12 b13 b14) → W (n + 1) a1 a2 a3 a4 a5 a6 a7 a8 a9 a10 a11 a12 a13 a14) (a1 : A1) (a2 : A2) (a3 : A3) (a4 : A4) (a5 : A5) (a6 : A6) (a7 : A7) (a8 : A8) (a9 : A9) (a10 : A10) (a11 : A11) (a12 : A12) (a13 : A13) (a14 : A14) (h : I a1 a2 a3 a4 a5 a6 a7 a8 a9 a10 a11 a12 a13 a14) : ∃ n, W n a1 a2 a3 a4 a5 a6 a7 a8 a9 a10 a11 a12 a13 a14 :=
  loop_m (σ := A1 × A2 × A3 × A4 × A5 × A6 × A7 × A8 × A9 × A10 × A11 × A12 × A13 × A14) (fun n s => W n s.1 s.2.1 s.2.2.1 s.2.2.2.1 s.2.2.2.2.1 s.2.2.2.2.2.1 s.2.2.2.2.2.2.1 s.2.2.2.2.2.2.2.1 s.2.2.2.2.2.2.2.2.1 s.2.2.2.2.2.2.2.2.2.1 s.2.2.2.2.2.2.2.2.2.2.1 s.2.2.2.2.2.2.2.2.2.2.2.1 s.2.2.2.2.2.2.2.2.2.2.2.2.1 s.2.2.2.2.2.2.2.2.2.2.2.2.2) (fun s => I s.1 s.2.1 s.2.2.1 s.2.2.2.1 s.2.2.2.2.1 s.2.2.2.2.2.1 s.2.2.2.2.2.2.1 s.2.2.2.2.2.2.2.1 s.2.2.2.2.2.2.2.2.1 s.2.2.2.2.2.2.2.2.2.1 s.2.2.2.2.2.2.2.2.2.2.1 s.2.2.2.2.2.2.2.2.2.2.2.1 s.2.2.2.2.2.2.2.2.2.2.2.2.1 s.2.2.2.2.2.2.2.2.2.2.2.2.2) (fun s => μ s.1 s.2.1 s.2.2.1 s.2.2.2.1 s.2.2.2.2.1 s.2.2.2.2.2.1 s.2.2.2.2.2.2.1 s.2.2.2.2.2.2.2.1 s.2.2.2.2.2.2.2.2.1 s.2.2.2.2.2.2.2.2.2.1 s.2.2.2.2.2.2.2.2.2.2.1 s.2.2.2.2.2.2.2.2.2.2.2.1 s.2.2.2.2.2.2.2.2.2.2.2.2.1 s.2.2.2.2.2.2.2.2.2.2.2.2.2) (fun n s hI hk => hs n s.1 s.2.1 s.2.2.1 s.2.2.2.1 s.2.2.2.2.1 s.2.2.2.2.2.1 s.2.2.2.2.2.2.1 s.2.2.2.2.2.2.2.1 s.2.2.2.2.2.2.2.2.1 s.2.2.2.2.2.2.2.2.2.1 s.2.2.2.2.2.2.2.2.2.2.1 s.2.2.2.2.2.2.2.2.2.2.2.1 s.2.2.2.2.2.2.2.2.2.2.2.2.1 s.2.2.2.2.2.2.2.2.2.2.2.2.2 hI (fun b1 b2 b3 b4 b5 b6 b7 b8 b9 b10 b11 b12 b13 b14 h9 hm => hk (b1, b2, b3, b4, b5, b6, b7, b8, b9, b10, b11, b12, b13, b14) h9 hm)) (a1, a2, a3, a4, a5, a6, a7, a8, a9, a10, a11, a12, a13, a14) h
theorem lp15 {A1 A2 A3 A4 A5 A6 A7 A8 A9 A10 A11 A12 A13 A14 A15 : Type} (W : Nat → A1 → A2 → A3 → A4 → A5 → A6 → A7 → A8 → A9 → A10 → A11 → A12 → A13 → A14 → A15 → Prop) (I : A1 → A2 → A3 → A4 → A5 → A6 → A7 → A8 → A9 → A10 → A11 → A12 → A13 → A14 → A15 → Prop) (μ : A1 → A2 → A3 → A4 → A5 → A6 → A7 → A8 → A9 → A10 → A11 → A12 → A13 → A14 → A15 → Nat) (hs : ∀ (n : Nat) (a1 : A1) (a2 : A2) (a3 : A3) (a4 : A4) (a5 : A5) (a6 : A6) (a7 : A7) (a8 : A8) (a9 : A9) (a10 : A10) (a11 : A11) (a12 : A12) (a13 : A13) (a14 : A14) (a15 : A15), I a1 a2 a3 a4 a5 a6 a7 a8 a9 a10 a11 a12 a13 a14 a15 → (∀ (b1 : A1) (b2 : A2) (b3 : A3) (b4 : A4) (b5 : A5) (b6 : A6) (b7 : A7) (b8 : A8) (b9 : A9) (b10 : A10) (b11 : A11) (b12 : A12) (b13 : A13) (b14 : A14) (b15 : A15), I b1 b2 b3 b4 b5 b6 b7 b8 b9 b10 b11 b12 b13 b14 b15 → μ b1 b2 b3 b4 b5 b6 b7 b8 b9 b10 b11 b12 b13 b14 b15 < μ a1 a2 a3 a4 a5 a6 a7 a8 a9 a10 a11 a12 a13 a14 a15 → W n b1 b2 b3 b4 b5 b6 b7 b8 b9 b10 b11 b12 b13 b14 b15) → W (n + 1) a1 a2 a3 a4 a5 a6 a7 a8 a9 a10 a11 a12 a13 a14 a15) (a1 : A1) (a2 : A2) (a3 : A3) (a4 : A4) (a5 : A5) (a6 : A6) (a7 : A7) (a8 : A8) (a9 : A9) (a10 : A10) (a11 : A11) (a12 : A12) (a13 : A13) (a14 : A14) (a15 : A15) (h : I a1 a2 a3 a4 a5 a6 a7 a8 a9 a10 a11 a12 a13 a14 a15) : ∃ n, W n a1 a2 a3 a4 a5 a6 a7 a8 a9 a10 a11 a12 a13 a14 a15 :=
  loop_m (σ := A1 × A2 × A3 × A4 × A5 × A6 × A7 × A8 × A9 × A10 × A11 × A12 × A13 × A14 × A15) (fun n s => W n s.1 s.2.1 s.2.2.1 s.2.2.2.1 s.2.2.2.2.1 s.2.2.2.2.2.1 s.2.2.2.2.2.2.1 s.2.2.2.2.2.2.2.1 s.2.2.2.2.2.2.2.2.1 s.2.2.2.2.2.2.2.2.2.1 s.2.2.2.2.2.2.2.2.2.2.1 s.2.2.2.2.2.2.2.2.2.2.2.1 s.2.2.2.2.2.2.2.2.2.2.2.2.1 s.2.2.2.2.2.2.2.2.2.2.2.2.2.1 s.2.2.2.2.2.2.2.2.2.2.2.2.2.2) (fun s => I s.1 s.2.1 s.2.2.1 s.2.2.2.1 s.2.2.2.2.1 s.2.2.2.2.2.1 s.2.2.2.2.2.2.1 s.2.2.2.2.2.2.2.1 s.2.2.2.2.2.2.2.2.1 s.2.2.2.2.2.2.2.2.2.1 s.2.2.2.2.2.2.2.2.2.2.1 s.2.2.2.2.2.2.2.2.2.2.2.1 s.2.2.2.2.2.2.2.2.2.2.2.2.1 s.2.2.2.2.2.2.2.2.2.2.2.2.2.1 s.2.2.2.2.2.2.2.2.2.2.2.2.2.2) (fun s => μ s.1 s.2.1 s.2.2.1 s.2.2.2.1 s.2.2.2.2.1 s.2.2.2.2.2.1 s.2.2.2.2.2.2.1 s.2.2.2.2.2.2.2.1 s.2.2.2.2.2.2.2.2.1 s.2.2.2.2.2.2.2.2.2.1 s.2.2.2.2.2.2.2.2.2.2.1 s.2.2.2.2.2.2.2.2.2.2.2.1 s.2.2.2.2.2.2.2.2.2.2.2.2.1 s.2.2.2.2.2.2.2.2.2.2.2.2.2.1 s.2.2.2.2.2.2.2.2.2.2.2.2.2.2) (fun n s hI hk => hs n s.1 s.2.1 s.2.2.1 s.2.2.2.1 s.2.2.2.2.1 s.2.2.2.2.2.1 s.2.2.2.2.2.2.1 s.2.2.2.2.2.2.2.1 s.2.2.2.2.2.2.2.2.1 s.2.2.2.2.2.2.2.2.2.1 s.2.2.2.2.2.2.2.2.2.2.1 s.2.2.2.2.2.2.2.2.2.2.2.1 s.2.2.2.2.2.2.2.2.2.2.2.2.1 s.2.2.2.2.2.2.2.2.2.2.2.2.2.1 s.2.2.2.2.2.2.2.2.2.2.2.2.2.2 hI (fun b1 b2 b3 b4 b5 b6 b7 b8 b9 b10 b11 b12 b13 b14 b15 h9 hm => hk (b1, b2, b3, b4, b5, b6, b7, b8, b9, b10, b11, b12, b13, b14, b15) h9 hm)) (a1, a2, a3, a4, a5, a6, a7, a8, a9, a10, a11, a12, a13, a14, a15) h
theorem lp16 {A1 A2 A3 A4 A5 A6 A7 A8 A9 A10 A11 A12 A13 A14 A15 A16 : Type} (W : Nat → A1 → A2 → A3 → A4 → A5 → A6 → A7 → A8 → A9 → A10 → A11 → A12 → A13 → A14 → A15 → A16 → Prop) (I : A1 → A2 → A3 → A4 → A5 → A6 → A7 → A8 → A9 → A10 → A11 → A12 → A13 → A14 → A15 → A16 → Prop) (μ : A1 → A2 → A3 → A4 → A5 → A6 → A7 → A8 → A9 → A10 → A11 → A12 → A13 → A14 → A15 → A16 → Nat) (hs : ∀ (n : Nat) (a1 : A1) (a2 : A2) (a3 : A3) (a4 : A4) (a5 : A5) (a6 : A6) (a7 : A7) (a8 : A8) (a9 : A9) (a10 : A10) (a11 : A11) (a12 : A12) (a13 : A13) (a14 : A14) (a15 : A15) (a16 : A16), I a1 a2 a3 a4 a5 a6 a7 a8 a9 a10 a11 a12 a13 a14 a15 a16 → (∀ (b1 : A1) (b2 : A2) (b3 : A3) (b4 : A4) (b5 : A5) (b6 : A6) (b7 : A7) (b8 : A8) (b9 : A9) (b10 : A10) (b11 : A11) (b12 : A12) (b13 : A13) (b14 : A14) (b15 : A15) (b16 : A16), I b1 b2 b3 b4 b5 b6 b7 b8 b9 b10 b11 b12 b13 b14 b15 b16 → μ b1 b2 b3 b4 b5 b6 b7 b8 b9 b10 b11 b12 b13 b14 b15 b16 < μ a1 a2 a3 a4 a5 a6 a7 a8 a9 a10 a11 a12 a13 a14 a15 a16 → W n b1 b2 b3 b4 b5 b6 b7 b8 b9 b10 b11 b12 b13 b14 b15 b16) → W (n + 1) a1 a2 a3 a4 a5 a6 a7 a8 a9 a10 a11 a12 a13 a14 a15 a16) (a1 : A1) (a2 : A2) (a3 : A3) (a4 : A4) (a5 : A5) (a6 : A6) (a7 : A7) (a8 : A8) (a9 : A9) (a10 : A10) (a11 : A11) (a12 : A12) (a13 : A13) (a14 : A14) (a15 : A15) (a16 : A16) (h : I a1 a2 a3 a4 a5 a6 a7 a8 a9 a10 a11 a12 a13 a14 a15 a16) : ∃ n, W n a1 a2 a3 a4 a5 a6 a7 a8 a9 a10 a11 a12 a13 a14 a15 a16 :=
  loop_m (σ := A1 × A2 × A3 × A4 × A5 × A6 × A7 × A8 × A9 × A10 × A11 × A12 × A13 × A14 × A15 × A16) (fun n s => W n s.1 s.2.1 s.2.2.1 s.2.2.2.1 s.2.2.2.2.1 s.2.2.2.2.2.1 s.2.2.2.2.2.2.1 s.2.2.2.2.2.2.2.1 s.2.2.2.2.2.2.2.2.1 s.2.2.2.2.2.2.2.2.2.1 s.2.2.2.2.2.2.2.2.2.2.1 s.2.2.2.2.2.2.2.2.2.2.2.1 s.2.2.2.2.2.2.2.2.2.2.2.2.1 s.2.2.2.2.2.2.2.2.2.2.2.2.2.1 s.2.2.2.2.2.2.2.2.2.2.2.2.2.2.1 s.2.2.2.2.2.2.2.2.2.2.2.2.2.2.2) (fun s => I s.1 s.2.1 s.2.2.1 s.2.2.2.1 s.2.2.2.2.1 s.2.2.2.2.2.1 s.2.2.2.2.2.2.1 s.2.2.2.2.2.2.2.1 s.2.2.2.2.2.2.2.2.1 s.2.2.2.2.2.2.2.2.2.1 s.2.2.2.2.2.2.2.2.2.2.1 s.2.2.2.2.2.2.2.2.2.2.2.1 s.2.2.2.2.2.2.2.2.2.2.2.2.1 s.2.2.2.2.2.2.2.2.2.2.2.2.2.1 s.2.2.2.2.2.2.2.2.2.2.2.2.2.2.1 s.2.2.2.2.2.2.2.2.2.2.2.2.2.2.2) (fun s => μ s.1 s.2.1 s.2.2.1 s.2.2.2.1 s.2.2.2.2.1 s.2.2.2.2.2.1 s.2.2.2.2.2.2.1 s.2.2.2.2.2.2.2.1 s.2.2.2.2.2.2.2.2.1 s.2.2.2.2.2.2.2.2.2.1 s.2.2.2.2.2.2.2.2.2.2.1 s.2.2.2.2.2.2.2.2.2.2.2.1 s.2.2.2.2.2.2.2.2.2.2.2.2.1 s.2.2.2.2.2.2.2.2.2.2.2.2.2.1 s.2.2.2.2.2.2.2.2.2.2.2.2.2.2.1 s.2.2.2.2.2.2.2.2.2.2.2.2.2.2.2) (fun n s hI hk => hs n s.1 s.2.1 s.2.2.1 s.2.2.2.1 s.2.2.2.2.1 s.2.2.2.2.2.1 s.2.2.2.2.2.2.1 s.2.2.2.2.2.2.2.1 s.2.2.2.2.2.2.2.2.1 s.2.2.2.2.2.2.2.2.2.1 s.2.2.2.2.2.2.2.2.2.2.1 s.2.2.2.2.2.2.2.2.2.2.2.1 s.2.2.2.2.2.2.2.2.2.2.2.2.1 s.2.2.2.2.2.2.2.2.2.2.2.2.2.1 s.2.2.2.2.2.2.2.2.2.2.2.2.2.2.1 s.2.2.2.2.2.2.2.2.2.2.2.2.2.2.2 hI (fun b1 b2 b3 b4 b5 b6 b7 b8 b9 b10 b11 b12 b13 b14 b15 b16 h9 hm => hk (b1, b2, b3, b4, b5, b6, b7, b8, b9, b10, b11, b12, b13, b14, b15, b16) h9 hm)) (a1, a2, a3, a4, a5, a6, a7, a8, a9, a10, a11, a12, a13, a14, a15, a16) h
theorem pk_least (P : Nat → Prop) (h : ∃ k, P k) : ∃ k, P k ∧ ∀ j, j < k → ¬ P j := by
  obtain ⟨k, hk⟩ := h
  induction k using Nat.strongRecOn with
  | ind k ih =>
    by_cases e : ∃ j, j < k ∧ P j
    · obtain ⟨j, hj, pj⟩ := e
      exact ih j hj pj
    · exact ⟨k, hk, fun j hj pj => e ⟨j, hj, pj⟩⟩
theorem ek_if {c d A B : Prop} (e : c ↔ d) (f : d → A) (g : ¬ d → B) : (c → A) ∧ (¬ c → B) :=
  ⟨fun z => f (e.mp z), fun z => g (fun y => z (e.mpr y))⟩
theorem ek_v {α : Sort _} {P : α → Prop} {a b : α} (e : a = b) (h : P b) : P a := e ▸ h
theorem sb_shr0 (x : Int32) : x >>> ((0 : Int32) &&& 31) = x := by
  rw [show ((0 : Int32) &&& 31) = 0 by decide]
  simp
theorem sb_shl0 (x : Int32) : x <<< ((0 : Int32) &&& 31) = x := by
  rw [show ((0 : Int32) &&& 31) = 0 by decide]
  simp
theorem sb_cl0 : (0 : Int32).toNatClampNeg = 0 := by decide
theorem sb_m1 {p : Nat} (h : 0 < p) : nI p + (-1) = nI (p - 1) := by
  obtain ⟨q, rfl⟩ : ∃ q, p = q + 1 := ⟨p - 1, by omega⟩
  exact pk_m1 q
/-! ===== Int32 by its bits: bt x i ===== -/
def bt (x : Int32) (i : Nat) : Bool := x.toBitVec.getLsbD i
theorem b_ext {x y : Int32} (h : ∀ i, i < 32 → bt x i = bt y i) : x = y := Int32.toBitVec_inj.mp (BitVec.eq_of_getLsbD_eq (fun i hi => h i hi))
theorem b_or (x y : Int32) (i : Nat) : bt (x ||| y) i = (bt x i || bt y i) := by unfold bt; rw [Int32.toBitVec_or, BitVec.getLsbD_or]
theorem b_and (x y : Int32) (i : Nat) : bt (x &&& y) i = (bt x i && bt y i) := by unfold bt; rw [Int32.toBitVec_and, BitVec.getLsbD_and]
theorem b_xor (x y : Int32) (i : Nat) : bt (x ^^^ y) i = (bt x i ^^ bt y i) := by unfold bt; rw [Int32.toBitVec_xor, BitVec.getLsbD_xor]
theorem b_big {x : Int32} {i : Nat} (h : 32 ≤ i) : bt x i = false := BitVec.getLsbD_of_ge _ _ h
theorem b_255 (i : Nat) : bt 255 i = decide (i < 8) := by
  rcases Nat.lt_or_ge i 32 with h | h
  · exact (by decide +kernel : ∀ i, i < 32 → bt 255 i = decide (i < 8)) i h
  · rw [b_big h, decide_eq_false (by omega)]
theorem b_65535 (i : Nat) : bt 65535 i = decide (i < 16) := by
  rcases Nat.lt_or_ge i 32 with h | h
  · exact (by decide +kernel : ∀ i, i < 32 → bt 65535 i = decide (i < 16)) i h
  · rw [b_big h, decide_eq_false (by omega)]
theorem b_m1 : ∀ i, i < 32 → bt (-1) i = true := by decide +kernel
theorem b_0 (i : Nat) : bt 0 i = false := BitVec.getLsbD_zero
theorem s_l : ∀ n, n < 32 → ((nI n &&& 31).toBitVec.smod 32).toNat = n := by decide +kernel
theorem s_u : ∀ n, n < 32 → (((nI n).toUInt32 &&& Int32.toUInt32 31).toBitVec % 32).toNat = n := by decide +kernel
theorem b_shl (n : Nat) (hn : n < 32) (x : Int32) {i : Nat} (hi : i < 32) : bt (x <<< (nI n &&& 31)) i = (decide (n ≤ i) && bt x (i - n)) := by
  unfold bt
  rw [Int32.toBitVec_shiftLeft]
  show (x.toBitVec <<< ((nI n &&& 31).toBitVec.smod 32).toNat).getLsbD i = _
  rw [s_l n hn, BitVec.getLsbD_shiftLeft]
  rcases Nat.lt_or_ge i n with h | h
  · simp [h, Nat.not_le.mpr h]
  · simp [hi, h, Nat.not_lt.mpr h]
theorem b_ushr (n : Nat) (hn : n < 32) (x : Int32) (i : Nat) : bt ((x.toUInt32 >>> ((nI n).toUInt32 &&& Int32.toUInt32 31)).toInt32) i = bt x (n + i) := by
  show (x.toUInt32 >>> ((nI n).toUInt32 &&& Int32.toUInt32 31)).toBitVec.getLsbD i = x.toUInt32.toBitVec.getLsbD (n + i)
  rw [UInt32.toBitVec_shiftRight]
  show (x.toUInt32.toBitVec >>> (((nI n).toUInt32 &&& Int32.toUInt32 31).toBitVec % 32).toNat).getLsbD i = _
  rw [s_u n hn, BitVec.getLsbD_ushiftRight]
theorem b_sshr (n : Nat) (hn : n < 32) (x : Int32) {i : Nat} (hi : i < 32) : bt (x >>> (nI n &&& 31)) i = if n + i < 32 then bt x (n + i) else bt x 31 := by
  unfold bt
  rw [Int32.toBitVec_shiftRight]
  show (x.toBitVec.sshiftRight ((nI n &&& 31).toBitVec.smod 32).toNat).getLsbD i = _
  rw [s_l n hn, BitVec.getLsbD_sshiftRight, BitVec.msb_eq_getLsbD_last]
  simp [hi]
theorem b_shl8 (x : Int32) {i : Nat} (hi : i < 32) : bt (x <<< ((8 : Int32) &&& 31)) i = (decide (8 ≤ i) && bt x (i - 8)) := b_shl 8 (by omega) x hi
theorem b_shl16 (x : Int32) {i : Nat} (hi : i < 32) : bt (x <<< ((16 : Int32) &&& 31)) i = (decide (16 ≤ i) && bt x (i - 16)) := b_shl 16 (by omega) x hi
theorem b_shl24 (x : Int32) {i : Nat} (hi : i < 32) : bt (x <<< ((24 : Int32) &&& 31)) i = (decide (24 ≤ i) && bt x (i - 24)) := b_shl 24 (by omega) x hi
theorem b_sshr8 (x : Int32) {i : Nat} (hi : i < 32) : bt (x >>> ((8 : Int32) &&& 31)) i = if 8 + i < 32 then bt x (8 + i) else bt x 31 := b_sshr 8 (by omega) x hi
/-! ===== nI under and, xor, >>>, one bit, 65535 ===== -/
theorem nx_and (a b : Nat) : nI a &&& nI b = nI (a &&& b) := by
  apply Int32.toBitVec_inj.1
  show BitVec.ofNat 32 a &&& BitVec.ofNat 32 b = BitVec.ofNat 32 (a &&& b)
  apply BitVec.eq_of_getLsbD_eq
  intro i hi
  simp [hi]
theorem nx_xor (a b : Nat) : nI a ^^^ nI b = nI (a ^^^ b) := by
  apply Int32.toBitVec_inj.1
  show BitVec.ofNat 32 a ^^^ BitVec.ofNat 32 b = BitVec.ofNat 32 (a ^^^ b)
  apply BitVec.eq_of_getLsbD_eq
  intro i hi
  simp [hi]
theorem nx_cnt : ∀ j : Fin 32, (UInt32.ofNat j.val &&& Int32.toUInt32 31).toNat % 32 = j.val := by decide +kernel
theorem nx_ush {k j : Nat} (hk : k < 65536) (hj : j < 32) : ((nI k).toUInt32 >>> ((nI j).toUInt32 &&& Int32.toUInt32 31)).toInt32 = nI (k >>> j) := by
  have hs : k >>> j ≤ k := by
    rw [Nat.shiftRight_eq_div_pow]
    exact Nat.div_le_self _ _
  have e2 : UInt32.ofNat k >>> (UInt32.ofNat j &&& Int32.toUInt32 31) = UInt32.ofNat (k >>> j) := by
    apply UInt32.toNat_inj.1
    have h1 : (UInt32.ofNat k).toNat = k := Nat.mod_eq_of_lt (by omega)
    have h2 : (UInt32.ofNat (k >>> j)).toNat = k >>> j := Nat.mod_eq_of_lt (by omega)
    rw [UInt32.toNat_shiftRight, nx_cnt ⟨j, hj⟩, h1, h2]
  show (UInt32.ofNat k >>> (UInt32.ofNat j &&& Int32.toUInt32 31)).toInt32 = _
  rw [e2]
  rfl
theorem nx_bit {k j : Nat} (hk : k < 65536) (hj : j < 16) : (((nI k).toUInt32 >>> ((nI j).toUInt32 &&& Int32.toUInt32 31)).toInt32 &&& 1) = 0 ↔ k.testBit j = false := by
  rw [nx_ush hk (by omega)]
  show nI (k >>> j) &&& nI 1 = 0 ↔ _
  rw [nx_and, Nat.and_one_is_mod, ← nI_0, nI_eq (by omega) (by omega), Nat.testBit_eq_decide_div_mod_eq, Nat.shiftRight_eq_div_pow, decide_eq_false_iff_not]
  generalize k / 2 ^ j = z
  omega
theorem nx_mod (k : Nat) : nI k &&& 65535 = nI (k % 65536) := by
  show nI k &&& nI 65535 = _
  rw [nx_and, show (65535 : Nat) = 2 ^ 16 - 1 from rfl, Nat.and_two_pow_sub_one_eq_mod]
theorem nx_m16 {k : Nat} (h : k < 65536) : nI k &&& 65535 = nI k := by rw [nx_mod, Nat.mod_eq_of_lt h]
theorem nx_mask (x : Int32) : ∃ k, k < 65536 ∧ x &&& 65535 = nI k := by
  have e : x = nI x.toBitVec.toNat := by
    apply Int32.toBitVec_inj.1
    show x.toBitVec = BitVec.ofNat 32 x.toBitVec.toNat
    simp
  refine ⟨x.toBitVec.toNat % 65536, Nat.mod_lt _ (by omega), ?_⟩
  rw [← nx_mod, ← e]
theorem nf_sh : ∀ l, l < 32 → ((1 : Int32) <<< (nI l &&& 31)).toBitVec = BitVec.twoPow 32 l := by decide +kernel
theorem nf_sl : ∀ l, l < 32 → (((nI l).toUInt32 &&& Int32.toUInt32 31).toBitVec % 32).toNat = l := by decide +kernel
theorem nf_tp : ∀ l, l < 32 → BitVec.twoPow 32 l ≠ 0#32 := by decide +kernel
end
section
/-! bits of sets -/
theorem cx_bn (n : Nat) {i : Nat} (hi : i < 32) : bt (nI n) i = n.testBit i := by
  show (BitVec.ofNat 32 n).getLsbD i = _
  rw [BitVec.getLsbD_ofNat]
  simp [hi]
theorem cx_b1 : ∀ i, i < 32 → bt 1 i = decide (i = 0) := by decide +kernel
theorem cx_and1 (x : Int32) : (x &&& 1) = 1 ↔ bt x 0 = true := by
  constructor
  · intro h
    have e := b_and x 1 0
    rw [h, cx_b1 0 (by decide)] at e
    simpa using e.symm
  · intro h
    apply b_ext
    intro i hi
    rw [b_and, cx_b1 i hi]
    by_cases z : i = 0
    · subst z
      simp [h]
    · simp [z]
theorem cx_has (x : Int32) {j : Nat} (hj : j < 32) : ((x >>> (nI j &&& 31)) &&& 1) = 1 ↔ bt x j = true := by
  rw [cx_and1, b_sshr j hj x (by decide)]
  simp [hj]
theorem cx_one {t : Nat} (ht : t < 32) (j : Nat) : bt ((1 : Int32) <<< (nI t &&& 31)) j = decide (t = j) := by
  unfold bt
  rw [nf_sh t ht, BitVec.getLsbD_twoPow]
  simp [ht]
theorem cx_not (x : Int32) {j : Nat} (hj : j < 32) : bt (x ^^^ (-1)) j = !bt x j := by
  rw [b_xor, b_m1 j hj]
  simp
theorem cx_tb {s i : Nat} (hs : s < 256) (hi : 8 ≤ i) : s.testBit i = false :=
  Nat.testBit_lt_two_pow (Nat.lt_of_lt_of_le hs (Nat.pow_le_pow_right (by decide) hi : 2 ^ 8 ≤ 2 ^ i))
theorem cx_ext {a b : Nat} (ha : a < 256) (hb : b < 256) (h : ∀ t, t < 8 → a.testBit t = b.testBit t) : a = b := by
  apply Nat.eq_of_testBit_eq
  intro i
  rcases Nat.lt_or_ge i 8 with g | g
  · exact h i g
  · rw [cx_tb ha g, cx_tb hb g]
theorem cx_zero (x : Int32) : x = 0 ↔ ∀ i, i < 32 → bt x i = false := by
  constructor
  · intro h i _
    rw [h]
    exact b_0 i
  · intro h
    exact b_ext (fun i hi => by rw [h i hi, b_0])
theorem cx_sub {w s : Nat} (hw : w < 256) : (nI w &&& (nI s ^^^ (-1))) = 0 ↔ ∀ t, t < 8 → w.testBit t = true → s.testBit t = true := by
  rw [cx_zero]
  constructor
  · intro h t ht g
    have e := h t (by omega)
    rw [b_and, cx_not _ (by omega), cx_bn _ (by omega), cx_bn _ (by omega), g] at e
    simpa using e
  · intro h i hi
    rw [b_and, cx_not _ hi, cx_bn _ hi, cx_bn _ hi]
    rcases Nat.lt_or_ge i 8 with g | g
    · cases e : w.testBit i
      · rfl
      · rw [h i g e]
        rfl
    · rw [cx_tb hw g]
      rfl
/-! any, count -/
def pu_any (p : Nat → Bool) : Nat → Bool
  | 0 => false
  | n + 1 => pu_any p n || p n
theorem pu_any_iff {p : Nat → Bool} : ∀ {n : Nat}, pu_any p n = true ↔ ∃ j, j < n ∧ p j = true
  | 0 => by simp [pu_any]
  | n + 1 => by
    rw [pu_any, Bool.or_eq_true, pu_any_iff]
    constructor
    · rintro (⟨j, hj, h⟩ | h)
      · exact ⟨j, by omega, h⟩
      · exact ⟨n, by omega, h⟩
    · rintro ⟨j, hj, h⟩
      rcases Nat.lt_or_ge j n with g | g
      · exact Or.inl ⟨j, g, h⟩
      · have e : j = n := by omega
        subst e
        exact Or.inr h
def pu_cnt (p : Nat → Bool) : Nat → Nat
  | 0 => 0
  | n + 1 => pu_cnt p n + (if p n = true then 1 else 0)
theorem pu_cnt_le (p : Nat → Bool) : ∀ n, pu_cnt p n ≤ n
  | 0 => Nat.le_refl _
  | n + 1 => by
    have a := pu_cnt_le p n
    show pu_cnt p n + (if p n = true then 1 else 0) ≤ n + 1
    by_cases h : p n = true
    · rw [if_pos h]
      omega
    · rw [if_neg h]
      omega
theorem pu_cnt_mono {p q : Nat → Bool} : ∀ {n : Nat}, (∀ i, i < n → p i = true → q i = true) → pu_cnt p n ≤ pu_cnt q n
  | 0, _ => Nat.le_refl _
  | n + 1, h => by
    have a := pu_cnt_mono (n := n) (fun i hi => h i (by omega))
    have b := h n (by omega)
    show pu_cnt p n + (if p n = true then 1 else 0) ≤ pu_cnt q n + (if q n = true then 1 else 0)
    by_cases hp : p n = true
    · rw [if_pos hp, if_pos (b hp)]
      omega
    · rw [if_neg hp]
      exact Nat.le_trans a (Nat.le_add_right _ _)
theorem pu_cnt_lt {p q : Nat → Bool} : ∀ {n : Nat}, (∀ i, i < n → p i = true → q i = true) → (∃ i, i < n ∧ p i = false ∧ q i = true) → pu_cnt p n < pu_cnt q n
  | 0, _, ⟨i, hi, _⟩ => absurd hi (Nat.not_lt_zero i)
  | n + 1, h, ⟨i, hi, hp, hq⟩ => by
    have a : pu_cnt p n ≤ pu_cnt q n := pu_cnt_mono (fun i hi => h i (by omega))
    show pu_cnt p n + (if p n = true then 1 else 0) < pu_cnt q n + (if q n = true then 1 else 0)
    rcases Nat.lt_or_ge i n with g | g
    · have c : pu_cnt p n < pu_cnt q n := pu_cnt_lt (fun i hi => h i (by omega)) ⟨i, g, hp, hq⟩
      by_cases hb : p n = true
      · rw [if_pos hb, if_pos (h n (by omega) hb)]
        omega
      · rw [if_neg hb]
        exact Nat.lt_of_lt_of_le c (Nat.le_add_right _ _)
    · have e : i = n := by omega
      subst e
      rw [if_neg (by rw [hp]; decide), if_pos hq]
      omega
theorem pu_cnt_eq {p q : Nat → Bool} {n : Nat} (h : ∀ i, i < n → p i = q i) : pu_cnt p n = pu_cnt q n :=
  Nat.le_antisymm (pu_cnt_mono (fun i hi g => by rw [← h i hi]; exact g)) (pu_cnt_mono (fun i hi g => by rw [h i hi]; exact g))
theorem pu_any_eq {p q : Nat → Bool} {n : Nat} (h : ∀ i, i < n → p i = q i) : pu_any p n = pu_any q n := by
  apply Bool.eq_iff_iff.mpr
  rw [pu_any_iff, pu_any_iff]
  exact ⟨fun ⟨j, hj, g⟩ => ⟨j, hj, by rw [← h j hj]; exact g⟩, fun ⟨j, hj, g⟩ => ⟨j, hj, by rw [h j hj]; exact g⟩⟩
/-! liveness of one temporary: the iterates, stable after n rounds -/
section
variable (U D : Nat → Bool) (L : Nat → Nat → Bool) (n : Nat)
def lf_F (S : Nat → Bool) (i : Nat) : Bool := U i || (pu_any (fun j => L i j && S j) n && !D i)
def lf_it : Nat → Nat → Bool
  | 0 => fun _ => false
  | k + 1 => lf_F U D L n (lf_it k)
end
section
variable {U D : Nat → Bool} {L : Nat → Nat → Bool} {n : Nat}
theorem lf_mono {S S' : Nat → Bool} (h : ∀ j, j < n → S j = true → S' j = true) (i : Nat) (hF : lf_F U D L n S i = true) : lf_F U D L n S' i = true := by
  unfold lf_F at hF ⊢
  rw [Bool.or_eq_true, Bool.and_eq_true, pu_any_iff] at hF ⊢
  rcases hF with a | ⟨⟨j, hj, b⟩, c⟩
  · exact Or.inl a
  · simp only [Bool.and_eq_true] at b
    exact Or.inr ⟨⟨j, hj, by simp only [Bool.and_eq_true]; exact ⟨b.1, h j hj b.2⟩⟩, c⟩
theorem lf_up : ∀ k i, lf_it U D L n k i = true → lf_it U D L n (k + 1) i = true
  | 0, i, h => by simp [lf_it] at h
  | k + 1, i, h => lf_mono (S := lf_it U D L n k) (fun j _ => lf_up k j) i h
theorem lf_mon2 {k m : Nat} (h : k ≤ m) (i : Nat) (g : lf_it U D L n k i = true) : lf_it U D L n m i = true := by
  induction h with
  | refl => exact g
  | step _ ih => exact lf_up _ _ ih
theorem lf_cong {S S' : Nat → Bool} (h : ∀ j, j < n → S j = S' j) (i : Nat) : lf_F U D L n S i = lf_F U D L n S' i := by
  apply Bool.eq_iff_iff.mpr
  exact ⟨lf_mono (fun j hj g => by rw [← h j hj]; exact g) i, lf_mono (fun j hj g => by rw [h j hj]; exact g) i⟩
theorem lf_gr (k : Nat) : (∀ i, i < n → lf_it U D L n (k + 1) i = lf_it U D L n k i) ∨ pu_cnt (lf_it U D L n k) n < pu_cnt (lf_it U D L n (k + 1)) n := by
  by_cases h : ∃ i, i < n ∧ lf_it U D L n k i = false ∧ lf_it U D L n (k + 1) i = true
  · exact Or.inr (pu_cnt_lt (fun i _ => lf_up k i) h)
  · left
    intro i hi
    cases a : lf_it U D L n k i
    · cases b : lf_it U D L n (k + 1) i
      · rfl
      · exact absurd ⟨i, hi, a, b⟩ h
    · exact lf_up k i a
theorem lf_all (k : Nat) : (∀ i, i < n → lf_it U D L n (k + 1) i = lf_it U D L n k i) ∨ k + 1 ≤ pu_cnt (lf_it U D L n (k + 1)) n := by
  induction k with
  | zero =>
    rcases lf_gr (U := U) (D := D) (L := L) (n := n) 0 with h | h
    · exact Or.inl h
    · exact Or.inr (by omega)
  | succ k ih =>
    rcases ih with h | h
    · exact Or.inl (fun i hi => lf_cong h i)
    · rcases lf_gr (U := U) (D := D) (L := L) (n := n) (k + 1) with g | g
      · exact Or.inl g
      · exact Or.inr (by omega)
theorem lf_fix (i : Nat) (hi : i < n) : lf_F U D L n (lf_it U D L n n) i = lf_it U D L n n i := by
  rcases lf_all (U := U) (D := D) (L := L) (n := n) n with h | h
  · exact h i hi
  · have := pu_cnt_le (lf_it U D L n (n + 1)) n
    omega
theorem lf_least {S : Nat → Bool} (h : ∀ i, i < n → lf_F U D L n S i = true → S i = true) : ∀ k i, i < n → lf_it U D L n k i = true → S i = true
  | 0, i, _, g => by simp [lf_it] at g
  | k + 1, i, hi, g => h i hi (lf_mono (fun j hj => lf_least h k j hj) i g)
theorem lf_eq {S : Nat → Bool} (hf : ∀ i, i < n → lf_F U D L n S i = S i) (hl : ∀ i, i < n → S i = true → lf_it U D L n n i = true) (i : Nat) (hi : i < n) : S i = lf_it U D L n n i := by
  apply Bool.eq_iff_iff.mpr
  exact ⟨hl i hi, lf_least (fun i hi g => by rw [← hf i hi]; exact g) n i hi⟩
end
end
section
/-! colourings: what fits, what is valid, what can be coloured -/
section
variable (K : Nat → Nat → Bool)
def gc_ft (M : Nat → Bool) (k : Nat) (c : Nat → Nat) (t : Nat) : Prop :=
  (M t = true → c t = 0) ∧ (M t = false → c t < k ∧ ∀ u, u < t → M u = false → K t u = true → c u ≠ c t)
def gc_vd (M : Nat → Bool) (k : Nat) (c : Nat → Nat) : Prop := ∀ t, t < 8 → gc_ft K M k c t
def gc_col (S : Nat → Bool) (k : Nat) : Prop :=
  ∃ c : Nat → Nat, ∀ t, t < 8 → S t = true → c t < k ∧ ∀ u, u < 8 → S u = true → K t u = true → c u ≠ c t
end
theorem gc_ft_cong {K : Nat → Nat → Bool} {M : Nat → Bool} {k t : Nat} {c d : Nat → Nat} (h : ∀ u, u ≤ t → d u = c u) (f : gc_ft K M k c t) : gc_ft K M k d t := by
  refine ⟨fun m => by rw [h t (Nat.le_refl t)]; exact f.1 m, fun m => ?_⟩
  obtain ⟨a, b⟩ := f.2 m
  refine ⟨by rw [h t (Nat.le_refl t)]; exact a, fun u hu mu ku => ?_⟩
  rw [h t (Nat.le_refl t), h u (by omega)]
  exact b u hu mu ku
theorem gc_vd_cong {K : Nat → Nat → Bool} {M : Nat → Bool} {k : Nat} {c d : Nat → Nat} (h : ∀ u, u < 8 → d u = c u) (f : gc_vd K M k c) : gc_vd K M k d :=
  fun t ht => gc_ft_cong (fun u hu => h u (by omega)) (f t ht)
theorem gc_vd_col {K : Nat → Nat → Bool} (hs : ∀ t u, t < 8 → u < 8 → K t u = K u t) (hi : ∀ t, t < 8 → K t t = false) {M : Nat → Bool} {k : Nat} : (∃ c, gc_vd K M k c) ↔ gc_col K (fun t => !M t) k := by
  constructor
  · rintro ⟨c, h⟩
    refine ⟨c, fun t ht mt => ?_⟩
    have mt' : M t = false := by simpa using mt
    obtain ⟨a, b⟩ := (h t ht).2 mt'
    refine ⟨a, fun u hu mu ku => ?_⟩
    have mu' : M u = false := by simpa using mu
    rcases Nat.lt_trichotomy u t with g | g | g
    · exact b u g mu' ku
    · subst g
      rw [hi u hu] at ku
      exact absurd ku (by decide)
    · have z := ((h u hu).2 mu').2 t g mt' (by rw [hs u t hu ht]; exact ku)
      exact fun e => z e.symm
  · rintro ⟨c, h⟩
    refine ⟨fun t => if M t = true then 0 else c t, fun t ht => ⟨fun m => if_pos m, fun m => ?_⟩⟩
    have e : ∀ u, M u = false → (if M u = true then 0 else c u) = c u := fun u z => if_neg (by rw [z]; decide)
    have q := h t ht (by simp [m])
    show (if M t = true then 0 else c t) < k ∧ _
    rw [e t m]
    refine ⟨q.1, fun u hu mu ku => ?_⟩
    show (if M u = true then 0 else c u) ≠ (if M t = true then 0 else c t)
    rw [e u mu, e t m]
    exact q.2 u (by omega) (by simp [mu]) ku
/-! a set out of a predicate -/
def gc_mk (p : Nat → Bool) : Nat → Nat
  | 0 => 0
  | m + 1 => gc_mk p m ||| (if p m = true then 2 ^ m else 0)
theorem gc_mk_tb (p : Nat → Bool) : ∀ m i, (gc_mk p m).testBit i = (decide (i < m) && p i)
  | 0, i => by simp [gc_mk]
  | m + 1, i => by
    rw [gc_mk, Nat.testBit_or, gc_mk_tb p m i]
    have e : (if p m = true then 2 ^ m else 0 : Nat).testBit i = (decide (m = i) && p m) := by
      cases p m
      · simp
      · simp [Nat.testBit_two_pow]
    rw [e]
    by_cases h : m = i
    · subst h
      simp
    · have g : decide (i < m + 1) = decide (i < m) := decide_eq_decide.mpr (by omega)
      rw [g, decide_eq_false h]
      simp
theorem gc_mk_lt (p : Nat → Bool) : ∀ m, gc_mk p m < 2 ^ m
  | 0 => by simp [gc_mk]
  | m + 1 => by
    rw [gc_mk]
    apply Nat.or_lt_two_pow
    · exact Nat.lt_trans (gc_mk_lt p m) (Nat.pow_lt_pow_right (by decide) (by omega))
    · split
      · exact Nat.pow_lt_pow_right (by decide) (by omega)
      · exact Nat.two_pow_pos _
/-- w is a part of s -/
def gc_sub (w s : Nat) : Prop := ∀ t, t < 8 → w.testBit t = true → s.testBit t = true
theorem gc_sub_le {w s : Nat} (hw : w < 256) (hs : s < 256) (h : gc_sub w s) : w ≤ s := by
  have e : w = w &&& s := by
    apply cx_ext hw (Nat.lt_of_le_of_lt Nat.and_le_right hs)
    intro t ht
    rw [Nat.testBit_and]
    cases a : w.testBit t
    · rfl
    · rw [h t ht a]
      rfl
  rw [e]
  exact Nat.and_le_right
theorem gc_xor_lt {w s : Nat} (hw : w < 256) (hs : s < 256) : s ^^^ w < 256 := Nat.xor_lt_two_pow (n := 8) hs hw
theorem gc_xor_tb {w s t : Nat} (h : gc_sub w s) (ht : t < 8) : (s ^^^ w).testBit t = (s.testBit t && !w.testBit t) := by
  rw [Nat.testBit_xor]
  cases a : w.testBit t
  · simp
  · rw [h t ht a]
    rfl
theorem gc_xor_less {w s : Nat} (hw : w < 256) (hs : s < 256) (h : gc_sub w s) (h1 : 1 ≤ w) : s ^^^ w < s := by
  have a : s ^^^ w ≤ s := gc_sub_le (gc_xor_lt hw hs) hs (fun t ht g => by
    rw [gc_xor_tb h ht, Bool.and_eq_true] at g
    exact g.1)
  rcases Nat.lt_or_ge (s ^^^ w) s with g | g
  · exact g
  · have e : s ^^^ w = s := by omega
    have z : w = 0 := by
      apply cx_ext hw (by decide)
      intro t ht
      have q := congrArg (fun x => Nat.testBit x t) e
      simp only [gc_xor_tb h ht] at q
      cases b : w.testBit t
      · simp
      · rw [h t ht b, b] at q
        simp at q
    omega
section
variable {K : Nat → Nat → Bool} {N : Nat → Nat} {fr : Nat → Prop}
theorem gc_need1 (hfr : ∀ s, s < 256 → (∀ t, t < 8 → ∀ u, u < 8 → s.testBit t = true → s.testBit u = true → K t u = false) → fr s)
    (h0 : N 0 = 0)
    (ha : ∀ s w, s < 256 → 1 ≤ w → w ≤ s → gc_sub w s → fr w → N s ≤ N (s ^^^ w) + 1) :
    ∀ k s, s < 256 → gc_col K (fun t => s.testBit t) k → N s ≤ k := by
  intro k
  induction k with
  | zero =>
    intro s hs hc
    obtain ⟨c, hc⟩ := hc
    have e : s = 0 := by
      apply cx_ext hs (by decide)
      intro t ht
      cases a : s.testBit t
      · simp
      · exact absurd (hc t ht a).1 (Nat.not_lt_zero _)
    rw [e, h0]
    exact Nat.le_refl 0
  | succ k ih =>
    intro s hs hc
    obtain ⟨c, hc⟩ := hc
    have tb : ∀ t, t < 8 → (gc_mk (fun t => s.testBit t && decide (c t = k)) 8).testBit t = (s.testBit t && decide (c t = k)) := by
      intro t ht
      rw [gc_mk_tb, decide_eq_true ht]
      rfl
    have hw : gc_mk (fun t => s.testBit t && decide (c t = k)) 8 < 256 := gc_mk_lt _ 8
    generalize gc_mk (fun t => s.testBit t && decide (c t = k)) 8 = w at tb hw
    have sub : gc_sub w s := fun t ht g => by
      rw [tb t ht, Bool.and_eq_true] at g
      exact g.1
    have col : gc_col K (fun t => (s ^^^ w).testBit t) k := by
      refine ⟨c, fun t ht g => ?_⟩
      have g2 : (s.testBit t && !w.testBit t) = true := by rw [← gc_xor_tb sub ht]; exact g
      rw [tb t ht] at g2
      have st : s.testBit t = true := by
        cases a : s.testBit t
        · rw [a] at g2
          simp at g2
        · rfl
      have ct : c t ≠ k := by
        intro e
        rw [st, e] at g2
        simp at g2
      obtain ⟨p, q⟩ := hc t ht st
      refine ⟨by omega, fun u hu gu ku => ?_⟩
      have gu2 : (s.testBit u && !w.testBit u) = true := by rw [← gc_xor_tb sub hu]; exact gu
      rw [Bool.and_eq_true] at gu2
      exact q u hu gu2.1 ku
    rcases Nat.eq_zero_or_pos w with z | z
    · subst z
      have := ih (s ^^^ 0) (by rw [Nat.xor_zero]; exact hs) col
      rw [Nat.xor_zero] at this
      omega
    · have a := ha s w hs z (gc_sub_le hw hs sub) sub (hfr w hw (fun t ht u hu gt gu => by
        rw [tb t ht, Bool.and_eq_true, decide_eq_true_eq] at gt
        rw [tb u hu, Bool.and_eq_true, decide_eq_true_eq] at gu
        cases e : K t u
        · rfl
        · exact absurd (gu.2.trans gt.2.symm) ((hc t ht gt.1).2 u hu gu.1 e)))
      have b := ih (s ^^^ w) (gc_xor_lt hw hs) col
      omega
theorem gc_need2 (hi : ∀ t, t < 8 → K t t = false) (hfr : ∀ s, s < 256 → fr s → (∀ t, t < 8 → ∀ u, u < 8 → s.testBit t = true → s.testBit u = true → K t u = false))
    (hb : ∀ s, 1 ≤ s → s < 256 → N s = 8 ∨ ∃ w, 1 ≤ w ∧ w ≤ s ∧ gc_sub w s ∧ fr w ∧ N s = N (s ^^^ w) + 1) :
    ∀ s, s < 256 → ∀ k, N s ≤ k → gc_col K (fun t => s.testBit t) k := by
  intro s
  induction s using Nat.strongRecOn with
  | _ s ih =>
  intro hs k hk
  rcases Nat.eq_zero_or_pos s with z | z
  · subst z
    exact ⟨fun _ => 0, fun t _ g => absurd g (by simp)⟩
  · rcases hb s z hs with e | ⟨w, w1, ws, sub, fw, e⟩
    · refine ⟨fun t => t, fun t ht _ => ⟨(by show t < k; omega), fun u hu _ ku => ?_⟩⟩
      intro (ee : u = t)
      subst ee
      rw [hi u hu] at ku
      exact absurd ku (by decide)
    · have hw : w < 256 := by omega
      obtain ⟨c, hc⟩ := ih (s ^^^ w) (gc_xor_less hw hs sub w1) (gc_xor_lt hw hs) (N (s ^^^ w)) (Nat.le_refl _)
      have F := hfr w hw fw
      have mem : ∀ t, t < 8 → s.testBit t = true → w.testBit t = false → (s ^^^ w).testBit t = true := by
        intro t ht a b
        rw [gc_xor_tb sub ht, a, b]
        rfl
      refine ⟨fun t => if w.testBit t = true then N (s ^^^ w) else c t, fun t ht g => ?_⟩
      show (if w.testBit t = true then N (s ^^^ w) else c t) < k ∧ ∀ u, u < 8 → s.testBit u = true → K t u = true → (if w.testBit u = true then N (s ^^^ w) else c u) ≠ (if w.testBit t = true then N (s ^^^ w) else c t)
      by_cases a : w.testBit t = true
      · rw [if_pos a]
        refine ⟨by omega, fun u hu gu ku => ?_⟩
        by_cases b : w.testBit u = true
        · rw [F t ht u hu a b] at ku
          exact absurd ku (by decide)
        · rw [if_neg b]
          have := (hc u hu (mem u hu gu (by simpa using b))).1
          omega
      · rw [if_neg a]
        obtain ⟨p, q⟩ := hc t ht (mem t ht g (by simpa using a))
        refine ⟨by omega, fun u hu gu ku => ?_⟩
        by_cases b : w.testBit u = true
        · rw [if_pos b]
          omega
        · rw [if_neg b]
          exact q u hu (mem u hu gu (by simpa using b)) ku
end
end
section
/-! the order of allocations: d ahead of c within the first t places -/
def lx_hd (c d : Nat → Nat) (t : Nat) : Prop := ∃ s, s < t ∧ (∀ u, u < s → d u = c u) ∧ d s < c s
def lx_eq (c d : Nat → Nat) (t : Nat) : Prop := ∀ u, u < t → d u = c u
theorem lx_h0 {c d : Nat → Nat} : ¬ lx_hd c d 0 := fun ⟨_, h, _⟩ => absurd h (Nat.not_lt_zero _)
theorem lx_hs {c d : Nat → Nat} {t : Nat} : lx_hd c d (t + 1) ↔ lx_hd c d t ∨ (lx_eq c d t ∧ d t < c t) := by
  constructor
  · rintro ⟨s, hs, a, b⟩
    rcases Nat.lt_or_ge s t with g | g
    · exact Or.inl ⟨s, g, a, b⟩
    · have e : s = t := by omega
      subst e
      exact Or.inr ⟨a, b⟩
  · rintro (⟨s, hs, a, b⟩ | ⟨a, b⟩)
    · exact ⟨s, by omega, a, b⟩
    · exact ⟨t, by omega, a, b⟩
theorem lx_es {c d : Nat → Nat} {t : Nat} : lx_eq c d (t + 1) ↔ lx_eq c d t ∧ d t = c t := by
  constructor
  · exact fun h => ⟨fun u hu => h u (by omega), h t (by omega)⟩
  · rintro ⟨a, b⟩ u hu
    rcases Nat.lt_or_ge u t with g | g
    · exact a u g
    · have e : u = t := by omega
      rw [e]
      exact b
theorem lx_tri (c d : Nat → Nat) : ∀ t, lx_hd c d t ∨ lx_hd d c t ∨ lx_eq c d t
  | 0 => Or.inr (Or.inr (fun u hu => absurd hu (Nat.not_lt_zero u)))
  | t + 1 => by
    rcases lx_tri c d t with h | h | h
    · exact Or.inl (lx_hs.mpr (Or.inl h))
    · exact Or.inr (Or.inl (lx_hs.mpr (Or.inl h)))
    · rcases Nat.lt_trichotomy (d t) (c t) with g | g | g
      · exact Or.inl (lx_hs.mpr (Or.inr ⟨h, g⟩))
      · exact Or.inr (Or.inr (lx_es.mpr ⟨h, g⟩))
      · exact Or.inr (Or.inl (lx_hs.mpr (Or.inr ⟨fun u hu => (h u hu).symm, g⟩)))
theorem lx_cong {c c' d d' : Nat → Nat} {t : Nat} (h : ∀ u, u < t → c' u = c u) (g : ∀ u, u < t → d' u = d u) (a : lx_hd c d t) : lx_hd c' d' t := by
  obtain ⟨s, hs, p, q⟩ := a
  exact ⟨s, hs, fun u hu => by rw [h u (by omega), g u (by omega)]; exact p u hu, by rw [h s hs, g s hs]; exact q⟩
/-- the first of those that save the most -/
def gc_best (V : (Nat → Nat) → Prop) (sv : (Nat → Nat) → Nat) (c : Nat → Nat) : Prop :=
  V c ∧ (∀ d, V d → sv d ≤ sv c) ∧ (∀ d, V d → lx_hd c d 8 → sv d < sv c)
theorem gc_uniq {V : (Nat → Nat) → Prop} {sv : (Nat → Nat) → Nat} {c d : Nat → Nat} (a : gc_best V sv c) (b : gc_best V sv d) : ∀ t, t < 8 → d t = c t := by
  rcases lx_tri c d 8 with h | h | h
  · have p := a.2.2 d b.1 h
    have q := b.2.1 c a.1
    omega
  · have p := b.2.2 c a.1 h
    have q := a.2.1 d b.1
    omega
  · exact h
/-! numbers of sixteen bits as allocations -/
def xd_g (v t : Nat) : Nat := v / 2 ^ (14 - 2 * t) % 4
theorem xd_step (v : Nat) {t : Nat} (ht : t < 8) : v / 2 ^ (16 - 2 * t) = v / 2 ^ (16 - 2 * (t + 1)) / 4 := by
  have e : 16 - 2 * t = (16 - 2 * (t + 1)) + 2 := by omega
  rw [e, Nat.pow_add, Nat.div_div_eq_div_mul]
theorem xd_dig (v : Nat) {t : Nat} (ht : t < 8) : xd_g v t = v / 2 ^ (16 - 2 * (t + 1)) % 4 := by
  have e : 14 - 2 * t = 16 - 2 * (t + 1) := by omega
  unfold xd_g
  rw [e]
theorem xd_lex (v w : Nat) (hv : v < 65536) (hw : w < 65536) : ∀ t, t ≤ 8 → (v / 2 ^ (16 - 2 * t) < w / 2 ^ (16 - 2 * t) → lx_hd (xd_g w) (xd_g v) t) ∧ (v / 2 ^ (16 - 2 * t) = w / 2 ^ (16 - 2 * t) → lx_eq (xd_g w) (xd_g v) t)
  | 0, _ => by
    have a : v / 2 ^ (16 - 2 * 0) = 0 := Nat.div_eq_of_lt hv
    have b : w / 2 ^ (16 - 2 * 0) = 0 := Nat.div_eq_of_lt hw
    rw [a, b]
    exact ⟨fun h => absurd h (Nat.lt_irrefl 0), fun _ u hu => absurd hu (Nat.not_lt_zero u)⟩
  | t + 1, ht => by
    obtain ⟨p, q⟩ := xd_lex v w hv hw t (by omega)
    rw [xd_step v (by omega), xd_step w (by omega)] at p q
    rw [lx_hs, lx_es, xd_dig v (by omega), xd_dig w (by omega)]
    generalize v / 2 ^ (16 - 2 * (t + 1)) = a at p q ⊢
    generalize w / 2 ^ (16 - 2 * (t + 1)) = b at p q ⊢
    constructor
    · intro h
      rcases Nat.lt_or_ge (a / 4) (b / 4) with g | g
      · exact Or.inl (p g)
      · exact Or.inr ⟨q (by omega), by omega⟩
    · intro h
      exact ⟨q (by omega), by omega⟩
theorem xd_lt {v w : Nat} (h : v < w) (hw : w < 65536) : lx_hd (xd_g w) (xd_g v) 8 := by
  have a := (xd_lex v w (by omega) hw 8 (by omega)).1
  simp only [Nat.reduceMul, Nat.reduceSub, Nat.pow_zero, Nat.div_one] at a
  exact a h
theorem xd_lx {v w : Nat} (hv : v < 65536) (h : lx_hd (xd_g w) (xd_g v) 8) : v < w := by
  rcases Nat.lt_trichotomy v w with g | g | g
  · exact g
  · subst g
    obtain ⟨s, _, _, b⟩ := h
    omega
  · obtain ⟨s, hs, a, b⟩ := h
    obtain ⟨s', hs', a', b'⟩ := xd_lt g hv
    rcases Nat.lt_trichotomy s s' with z | z | z
    · have := a' s z
      omega
    · subst z
      omega
    · have := a s' z
      omega
def xd_of (c : Nat → Nat) : Nat := ((((((c 0 * 4 + c 1) * 4 + c 2) * 4 + c 3) * 4 + c 4) * 4 + c 5) * 4 + c 6) * 4 + c 7
theorem xd_of_lt {c : Nat → Nat} (h : ∀ t, t < 8 → c t < 4) : xd_of c < 65536 := by
  have h0 := h 0 (by decide)
  have h1 := h 1 (by decide)
  have h2 := h 2 (by decide)
  have h3 := h 3 (by decide)
  have h4 := h 4 (by decide)
  have h5 := h 5 (by decide)
  have h6 := h 6 (by decide)
  have h7 := h 7 (by decide)
  unfold xd_of
  omega
theorem xd_of_g {c : Nat → Nat} (h : ∀ t, t < 8 → c t < 4) (t : Nat) (ht : t < 8) : xd_g (xd_of c) t = c t := by
  have h0 := h 0 (by decide)
  have h1 := h 1 (by decide)
  have h2 := h 2 (by decide)
  have h3 := h 3 (by decide)
  have h4 := h 4 (by decide)
  have h5 := h 5 (by decide)
  have h6 := h 6 (by decide)
  have h7 := h 7 (by decide)
  unfold xd_g xd_of
  match t, ht with
  | 0, _ => simp only [Nat.reduceMul, Nat.reduceSub, Nat.reducePow]; omega
  | 1, _ => simp only [Nat.reduceMul, Nat.reduceSub, Nat.reducePow]; omega
  | 2, _ => simp only [Nat.reduceMul, Nat.reduceSub, Nat.reducePow]; omega
  | 3, _ => simp only [Nat.reduceMul, Nat.reduceSub, Nat.reducePow]; omega
  | 4, _ => simp only [Nat.reduceMul, Nat.reduceSub, Nat.reducePow]; omega
  | 5, _ => simp only [Nat.reduceMul, Nat.reduceSub, Nat.reducePow]; omega
  | 6, _ => simp only [Nat.reduceMul, Nat.reduceSub, Nat.reducePow]; omega
  | 7, _ => simp only [Nat.reduceMul, Nat.reduceSub, Nat.reducePow]; omega
/-- the number that follows those with the same places up to m -/
def xd_skip (v m : Nat) : Nat := (v / 2 ^ (14 - 2 * m) + 1) * 2 ^ (14 - 2 * m)
theorem xd_skip_gt (v m : Nat) : v < xd_skip v m := by
  unfold xd_skip
  have a := Nat.two_pow_pos (14 - 2 * m)
  have b := Nat.div_add_mod v (2 ^ (14 - 2 * m))
  have c := Nat.mod_lt v a
  rw [Nat.add_mul, Nat.mul_comm (v / _)]
  omega
theorem xd_same {v w m : Nat} (h : v ≤ w) (h2 : w < xd_skip v m) (hm : m < 8) : ∀ u, u ≤ m → xd_g w u = xd_g v u := by
  have p := Nat.two_pow_pos (14 - 2 * m)
  have e : w / 2 ^ (14 - 2 * m) = v / 2 ^ (14 - 2 * m) := by
    apply Nat.le_antisymm
    · have := (Nat.div_lt_iff_lt_mul p).mpr h2
      omega
    · exact Nat.div_le_div_right h
  intro u hu
  unfold xd_g
  have s : 14 - 2 * u = (14 - 2 * m) + (2 * m - 2 * u) := by omega
  rw [s, Nat.pow_add, ← Nat.div_div_eq_div_mul, ← Nat.div_div_eq_div_mul, e]
theorem xd_skip_le {v m : Nat} (hv : v < 65536) (hm : m < 8) : xd_skip v m ≤ 65536 := by
  unfold xd_skip
  have e : 65536 = 2 ^ (2 + 2 * m) * 2 ^ (14 - 2 * m) := by
    rw [← Nat.pow_add, show 2 + 2 * m + (14 - 2 * m) = 16 by omega]
  have a : v / 2 ^ (14 - 2 * m) < 2 ^ (2 + 2 * m) := by
    apply (Nat.div_lt_iff_lt_mul (Nat.two_pow_pos _)).mpr
    rw [← e]
    exact hv
  rw [e]
  exact Nat.mul_le_mul_right _ a
theorem xd_or (v j : Nat) : v ||| (2 ^ j - 1) = (v / 2 ^ j + 1) * 2 ^ j - 1 := by
  have p := Nat.two_pow_pos j
  have e : (v / 2 ^ j + 1) * 2 ^ j - 1 = 2 ^ j * (v / 2 ^ j) + (2 ^ j - 1) := by
    rw [Nat.add_mul, Nat.mul_comm (v / _)]
    omega
  rw [e]
  apply Nat.eq_of_testBit_eq
  intro i
  rw [Nat.testBit_or, Nat.testBit_two_pow_sub_one, Nat.testBit_two_pow_mul_add _ (by omega), Nat.testBit_two_pow_sub_one]
  by_cases h : i < j
  · simp [h]
  · simp only [h, decide_false, Bool.or_false, if_false]
    rw [Nat.testBit_div_two_pow]
    congr 1
    omega
end
section
/-! the search by turning back: what is behind it, place by place -/
section
variable (K : Nat → Nat → Bool) (M : Nat → Bool) (k : Nat) (D : (Nat → Nat) → Prop)
def yn_P (c : Nat → Nat) (t x : Nat) : Prop := ∀ d, gc_vd K M k d → lx_hd c d t ∨ (lx_eq c d t ∧ d t < x) → D d
def yn_B (c : Nat → Nat) (t : Nat) : Prop := ∀ d, gc_vd K M k d → lx_hd c d t ∨ lx_eq c d t → D d
end
def yn_set (c : Nat → Nat) (t y : Nat) : Nat → Nat := fun u => if u = t then y else c u
theorem yn_s (c : Nat → Nat) (t y : Nat) : yn_set c t y t = y := if_pos rfl
theorem yn_n (c : Nat → Nat) {t u : Nat} (y : Nat) (h : u ≠ t) : yn_set c t y u = c u := if_neg h
section
variable {K : Nat → Nat → Bool} {M : Nat → Bool} {k : Nat} {D : (Nat → Nat) → Prop} {c : Nat → Nat} {t : Nat}
theorem yn_miss {x : Nat} (ht : t < 8) (h : yn_P K M k D c t x) (hm : ¬ gc_ft K M k (yn_set c t x) t) : yn_P K M k D c t (x + 1) := by
  intro d vd hd
  rcases hd with a | ⟨a, b⟩
  · exact h d vd (Or.inl a)
  · rcases Nat.lt_or_ge (d t) x with g | g
    · exact h d vd (Or.inr ⟨a, g⟩)
    · exfalso
      apply hm
      refine gc_ft_cong (c := d) ?_ (vd t ht)
      intro u hu
      by_cases e : u = t
      · rw [e, yn_s]
        omega
      · rw [yn_n c x e]
        exact (a u (by omega)).symm
theorem yn_find {y : Nat} (h : yn_P K M k D c t y) : yn_P K M k D (yn_set c t y) (t + 1) 0 := by
  intro d vd hd
  rcases hd with a | ⟨_, b⟩
  · rcases lx_hs.mp a with p | ⟨p, q⟩
    · exact h d vd (Or.inl (lx_cong (fun u hu => (yn_n c y (by omega)).symm) (fun _ _ => rfl) p))
    · rw [yn_s] at q
      exact h d vd (Or.inr ⟨fun u hu => by rw [p u hu, yn_n c y (by omega)], q⟩)
  · exact absurd b (Nat.not_lt_zero _)
theorem yn_back (ht : t < 8) (hM : M t = false) (h : yn_P K M k D c t k) : yn_B K M k D c t := by
  intro d vd hd
  rcases hd with a | a
  · exact h d vd (Or.inl a)
  · exact h d vd (Or.inr ⟨a, ((vd t ht).2 hM).1⟩)
theorem yn_memB (ht : t < 8) (hM : M t = true) (hc : c t = 0) (h : yn_B K M k D c (t + 1)) : yn_B K M k D c t := by
  intro d vd hd
  rcases hd with a | a
  · exact h d vd (Or.inl (lx_hs.mpr (Or.inl a)))
  · exact h d vd (Or.inr (lx_es.mpr ⟨a, ((vd t ht).1 hM).trans hc.symm⟩))
theorem yn_next (h : yn_B K M k D c (t + 1)) : yn_P K M k D c t (c t + 1) := by
  intro d vd hd
  rcases hd with a | ⟨a, b⟩
  · exact h d vd (Or.inl (lx_hs.mpr (Or.inl a)))
  · rcases Nat.lt_or_ge (d t) (c t) with g | g
    · exact h d vd (Or.inl (lx_hs.mpr (Or.inr ⟨a, g⟩)))
    · exact h d vd (Or.inr (lx_es.mpr ⟨a, by omega⟩))
theorem yn_vset {y : Nat} (h : ∀ u, u < t → gc_ft K M k c u) (g : gc_ft K M k (yn_set c t y) t) : ∀ u, u < t + 1 → gc_ft K M k (yn_set c t y) u := by
  intro u hu
  by_cases e : u = t
  · rw [e]
    exact g
  · exact gc_ft_cong (fun w hw => yn_n c y (by omega)) (h u (by omega))
end
/-! the measure of the search -/
def yn_w (e : Nat → Nat) : Nat → Nat
  | 0 => 0
  | t + 1 => yn_w e t + e t * 10 ^ (8 - t)
theorem yn_w_cong {e f : Nat → Nat} : ∀ {t : Nat}, (∀ u, u < t → e u = f u) → yn_w e t = yn_w f t
  | 0, _ => rfl
  | t + 1, h => by
    rw [yn_w, yn_w, yn_w_cong (fun u hu => h u (by omega)), h t (by omega)]
theorem yn_pow {t : Nat} (ht : t < 8) : 10 ^ (8 - t) = 10 * 10 ^ (8 - (t + 1)) := by
  have e : 8 - t = (8 - (t + 1)) + 1 := by omega
  rw [e, Nat.pow_succ, Nat.mul_comm]
/-- forward from t: b falls to a at t, and the next place begins with at most 9 -/
theorem yn_fw {A a b q : Nat} {t : Nat} (ht : t < 8) (hab : a < b) (hq : q ≤ 9) : (A + a * 10 ^ (8 - t)) + q * 10 ^ (8 - (t + 1)) < A + b * 10 ^ (8 - t) := by
  rw [yn_pow ht]
  have p : 0 < 10 ^ (8 - (t + 1)) := Nat.pow_pos (by decide)
  generalize 10 ^ (8 - (t + 1)) = z at p
  have h1 : (a + 1) * (10 * z) ≤ b * (10 * z) := Nat.mul_le_mul_right _ hab
  have h2 : q * z ≤ 9 * z := Nat.mul_le_mul_right _ hq
  rw [Nat.add_mul] at h1
  omega
theorem yn_bw {A b : Nat} {t : Nat} (hb : 0 < b) : A < A + b * 10 ^ (8 - t) := by
  have p : 0 < b * 10 ^ (8 - t) := Nat.mul_pos hb (Nat.pow_pos (by decide))
  omega
/-! of equal sums the least set -/
def am_is (F : Nat → Prop) (f : Nat → Int) (m : Nat) : Prop := m < 256 ∧ F m ∧ (∀ s, s < 256 → F s → f m ≤ f s) ∧ (∀ s, s < m → F s → f m < f s)
theorem am_uniq {F : Nat → Prop} {f : Nat → Int} {a b : Nat} (x : am_is F f a) (y : am_is F f b) : a = b := by
  rcases Nat.lt_trichotomy a b with g | g | g
  · have p := y.2.2.2 a g x.2.1
    have q := x.2.2.1 b y.1 y.2.1
    omega
  · exact g
  · have p := x.2.2.2 b g y.2.1
    have q := y.2.2.1 a x.1 x.2.1
    omega
end
section
/-! the code, its sets and its ways, as both sides see them -/
def sp_df (o : Int32) : Bool := decide (o ≤ 5) || decide (o = 9)
def sp_ua (o : Int32) : Bool := (decide (1 ≤ o) && decide (o ≤ 5)) || (decide (o = 7) || decide (o = 8))
def sp_ub (o : Int32) : Bool := decide (1 ≤ o) && decide (o ≤ 4)
section
variable (o d a b : Nat → Int32) (n : Nat)
/-- an instruction that put lets in -/
def sp_ok1 (o d a b : Int32) : Prop :=
  (∃ q, q ≤ 10 ∧ o = nI q) ∧ (sp_df o = true → ∃ q, q < 8 ∧ d = nI q) ∧ (sp_ua o = true → ∃ q, q < 8 ∧ a = nI q) ∧ (sp_ub o = true → ∃ q, q < 8 ∧ b = nI q) ∧ (o = 6 → ∃ q, q ≤ 20 ∧ a = nI q) ∧ (o = 7 → ∃ q, q ≤ 20 ∧ b = nI q)
def sp_ok : Prop := ∀ i, i < n → sp_ok1 (o i) (d i) (a i) (b i)
def sp_U (t i : Nat) : Bool := (sp_ua (o i) && decide (a i = nI t)) || (sp_ub (o i) && decide (b i = nI t))
def sp_D (t i : Nat) : Bool := sp_df (o i) && decide (d i = nI t)
def sp_L (i j : Nat) : Bool := ((decide (o i = 6) && decide (a i = nI j)) || (decide (o i = 7) && decide (b i = nI j))) || ((!decide (o i = 6) && !decide (o i = 10)) && decide (j = i + 1))
def sp_used (i : Nat) : Int32 := (if sp_ua (o i) = true then (1 : Int32) <<< (a i &&& 31) else 0) ||| (if sp_ub (o i) = true then (1 : Int32) <<< (b i &&& 31) else 0)
def sp_dfd (i : Nat) : Int32 := if sp_df (o i) = true then (1 : Int32) <<< (d i &&& 31) else 0
/-- alive before i, behind i -/
def sp_lv (t i : Nat) : Bool := lf_it (sp_U o a b t) (sp_D o d t) (sp_L o a b) n n i
def sp_bh (t i : Nat) : Bool := pu_any (fun j => sp_L o a b i j && sp_lv o d a b n t j) n
end
def sp_or (c : Nat → Bool) (f : Nat → Int32) : Nat → Int32
  | 0 => 0
  | n + 1 => if c n = true then sp_or c f n ||| f n else sp_or c f n
theorem sp_or_b (c : Nat → Bool) (f : Nat → Int32) (t : Nat) : ∀ n, bt (sp_or c f n) t = pu_any (fun j => c j && bt (f j) t) n
  | 0 => b_0 t
  | n + 1 => by
    rw [sp_or, pu_any, ← sp_or_b c f t n]
    cases h : c n
    · simp
    · simp [b_or]
theorem sp_or_c {c c' : Nat → Bool} {f f' : Nat → Int32} : ∀ {n : Nat}, (∀ j, j < n → c j = c' j) → (∀ j, j < n → f j = f' j) → sp_or c f n = sp_or c' f' n
  | 0, _, _ => rfl
  | n + 1, h, g => by
    rw [sp_or, sp_or, sp_or_c (fun j hj => h j (by omega)) (fun j hj => g j (by omega)), h n (by omega), g n (by omega)]
theorem sp_inj {x t : Nat} (hx : x < 32) (ht : t < 32) : decide (nI x = nI t) = decide (x = t) := decide_eq_decide.mpr (nI_eq (by omega) (by omega))
theorem sp_one {p : Bool} {x : Int32} {t : Nat} (ht : t < 32) (h : p = true → ∃ q, q < 8 ∧ x = nI q) : bt (if p = true then (1 : Int32) <<< (x &&& 31) else 0) t = (p && decide (x = nI t)) := by
  cases p
  · exact b_0 t
  · obtain ⟨q, hq, rfl⟩ := h rfl
    rw [if_pos rfl, cx_one (by omega), sp_inj (by omega) ht]
    rfl
section
variable {o d a b : Nat → Int32} {n : Nat}
theorem sp_used_b {i t : Nat} (h : sp_ok o d a b n) (hi : i < n) (ht : t < 32) : bt (sp_used o a b i) t = sp_U o a b t i := by
  obtain ⟨_, _, h3, h4, _⟩ := h i hi
  unfold sp_used sp_U
  rw [b_or, sp_one ht h3, sp_one ht h4]
theorem sp_dfd_b {i t : Nat} (h : sp_ok o d a b n) (hi : i < n) (ht : t < 32) : bt (sp_dfd o d i) t = sp_D o d t i := by
  obtain ⟨_, h2, _⟩ := h i hi
  unfold sp_dfd sp_D
  rw [sp_one ht h2]
/-- one mending of before[i] -/
def sp_new (o d a b : Nat → Int32) (n : Nat) (B : Nat → Int32) (i : Nat) : Int32 := sp_used o a b i ||| (sp_or (sp_L o a b i) B n &&& (sp_dfd o d i ^^^ (-1)))
theorem sp_new_b {i t : Nat} (h : sp_ok o d a b n) (hi : i < n) (ht : t < 32) (B : Nat → Int32) : bt (sp_new o d a b n B i) t = lf_F (sp_U o a b t) (sp_D o d t) (sp_L o a b) n (fun j => bt (B j) t) i := by
  unfold sp_new lf_F
  rw [b_or, b_and, cx_not _ ht, sp_used_b h hi ht, sp_dfd_b h hi ht, sp_or_b]
/-- within: at least the p-th round, at most what is alive -/
def sp_lo (o d a b : Nat → Int32) (n p : Nat) (x : Int32) (i : Nat) : Prop := ∀ t, t < 32 → lf_it (sp_U o a b t) (sp_D o d t) (sp_L o a b) n p i = true → bt x t = true
def sp_hi (o d a b : Nat → Int32) (n : Nat) (x : Int32) (i : Nat) : Prop := ∀ t, t < 32 → bt x t = true → sp_lv o d a b n t i = true
/-- what is alive before i as a set -/
def sp_is (o d a b : Nat → Int32) (n : Nat) (x : Int32) (i : Nat) : Prop := ∀ t, t < 32 → bt x t = sp_lv o d a b n t i
theorem sp_new_lo {i p : Nat} {B : Nat → Int32} (h : sp_ok o d a b n) (hi : i < n) (g : ∀ j, j < n → sp_lo o d a b n p (B j) j) : sp_lo o d a b n (p + 1) (sp_new o d a b n B i) i := by
  intro t ht e
  rw [sp_new_b h hi ht]
  exact lf_mono (fun j hj => g j hj t ht) i e
theorem sp_new_hi {i : Nat} {B : Nat → Int32} (h : sp_ok o d a b n) (hi : i < n) (g : ∀ j, j < n → sp_hi o d a b n (B j) j) : sp_hi o d a b n (sp_new o d a b n B i) i := by
  intro t ht e
  rw [sp_new_b h hi ht] at e
  have q := lf_mono (S' := fun j => sp_lv o d a b n t j) (fun j hj => g j hj t ht) i e
  unfold sp_lv at q ⊢
  rw [← lf_fix i hi]
  exact q
theorem sp_lo_up {i p : Nat} {x : Int32} (h : sp_lo o d a b n (p + 1) x i) : sp_lo o d a b n p x i := fun t ht e => h t ht (lf_up p i e)
theorem sp_lo_0 {i : Nat} {x : Int32} : sp_lo o d a b n 0 x i := fun t _ e => absurd e (by simp [lf_it])
theorem sp_hi_0 {i : Nat} : sp_hi o d a b n 0 i := fun t _ e => absurd e (by rw [b_0]; decide)
theorem sp_is_of {i : Nat} {x : Int32} (h : sp_lo o d a b n n x i) (g : sp_hi o d a b n x i) : sp_is o d a b n x i := fun t ht => Bool.eq_iff_iff.mpr ⟨g t ht, h t ht⟩
theorem sp_is_lo {i : Nat} {x : Int32} (h : sp_is o d a b n x i) : sp_lo o d a b n n x i := fun t ht e => by rw [h t ht]; exact e
theorem sp_is_hi {i : Nat} {x : Int32} (h : sp_is o d a b n x i) : sp_hi o d a b n x i := fun t ht e => by rw [← h t ht]; exact e
theorem sp_is_u {i : Nat} {x y : Int32} (h : sp_is o d a b n x i) (g : sp_is o d a b n y i) : x = y := b_ext (fun t ht => (h t ht).trans (g t ht).symm)
/-- a sweep that changes nothing: all is alive that must be -/
theorem sp_fix {B : Nat → Int32} (h : sp_ok o d a b n) (g : ∀ j, j < n → sp_hi o d a b n (B j) j) (f : ∀ j, j < n → sp_new o d a b n B j = B j) : ∀ j, j < n → sp_is o d a b n (B j) j := by
  intro j hj t ht
  unfold sp_lv
  exact lf_eq (S := fun j => bt (B j) t) (fun i hi => by rw [← sp_new_b h hi ht, f i hi]) (fun i hi => g i hi t ht) j hj
theorem sp_bh_b {i t : Nat} {B : Nat → Int32} (g : ∀ j, j < n → sp_is o d a b n (B j) j) (ht : t < 32) : bt (sp_or (sp_L o a b i) B n) t = sp_bh o d a b n t i := by
  rw [sp_or_b]
  unfold sp_bh
  exact pu_any_eq (fun j hj => by rw [g j hj t ht])
end
end
section
/-! clashes: ordered pairs put in so far, and the sets that they make -/
def cl_inv (c : Nat → Int32) (R : Nat → Nat → Bool) : Prop := ∀ x, x < 8 → ∀ y, y < 32 → bt (c x) y = (decide (y < 8) && (!decide (x = y) && (R x y || R y x)))
def cl_put (c : Nat → Int32) (t u : Nat) : Nat → Int32 :=
  upd (upd c t (c t ||| (1 : Int32) <<< (nI u &&& 31))) u (upd c t (c t ||| (1 : Int32) <<< (nI u &&& 31)) u ||| (1 : Int32) <<< (nI t &&& 31))
theorem cl_put_t (c : Nat → Int32) {t u : Nat} (h : t ≠ u) : cl_put c t u t = (c t ||| (1 : Int32) <<< (nI u &&& 31)) := by
  unfold cl_put
  rw [pk_un h, pk_us]
theorem cl_put_u (c : Nat → Int32) {t u : Nat} (h : t ≠ u) : cl_put c t u u = (c u ||| (1 : Int32) <<< (nI t &&& 31)) := by
  unfold cl_put
  rw [pk_us, pk_un (Ne.symm h)]
theorem cl_put_n (c : Nat → Int32) {t u x : Nat} (h1 : x ≠ t) (h2 : x ≠ u) : cl_put c t u x = c x := by
  unfold cl_put
  rw [pk_un h2, pk_un h1]
theorem cl_add {c : Nat → Int32} {R : Nat → Nat → Bool} {t u : Nat} (ht : t < 8) (hu : u < 8) (h : t ≠ u) (I : cl_inv c R) : cl_inv (cl_put c t u) (fun x y => R x y || (decide (x = t) && decide (y = u))) := by
  intro x hx y hy
  have q := I x hx y hy
  by_cases h1 : x = t
  · subst h1
    rw [cl_put_t c h, b_or, q, cx_one (by omega)]
    by_cases h2 : u = y
    · subst h2
      simp [hu, h]
    · have h3 : ¬ y = u := fun e => h2 e.symm
      simp [h2, h3, h]
  · by_cases h2 : x = u
    · subst h2
      rw [cl_put_u c h, b_or, q, cx_one (by omega)]
      by_cases h3 : t = y
      · subst h3
        simp [ht, h1]
      · have h4 : ¬ y = t := fun e => h3 e.symm
        simp [h3, h4, h1]
    · rw [cl_put_n c h1 h2, q]
      simp [h1, h2]
theorem cl_cong {c : Nat → Int32} {R R' : Nat → Nat → Bool} (I : cl_inv c R) (h : ∀ x y, x < 8 → y < 8 → x ≠ y → (R x y || R y x) = (R' x y || R' y x)) : cl_inv c R' := by
  intro x hx y hy
  rw [I x hx y hy]
  by_cases g : y < 8
  · by_cases e : x = y
    · simp [e]
    · rw [h x y hx g e]
  · simp [g]
theorem cl_0 {c : Nat → Int32} (h : ∀ x, x < 8 → c x = 0) : cl_inv c (fun _ _ => false) := by
  intro x hx y hy
  rw [h x hx, b_0]
  simp
theorem cl_u {c c' : Nat → Int32} {R : Nat → Nat → Bool} (I : cl_inv c R) (J : cl_inv c' R) : ∀ x, x < 8 → c x = c' x := fun x hx => b_ext (fun y hy => (I x hx y hy).trans (J x hx y hy).symm)
section
variable (o d a b : Nat → Int32) (n : Nat)
/-- instruction i makes t clash with u -/
def sp_C1 (i t u : Nat) : Bool := sp_D o d t i && (!(decide (o i = 5) && decide (a i = nI u)) && sp_bh o d a b n u i)
def sp_C (t u : Nat) : Bool := (decide (0 < n) && (sp_lv o d a b n t 0 && sp_lv o d a b n u 0)) || pu_any (fun i => sp_C1 o d a b n i t u) n
def sp_K (t u : Nat) : Bool := !decide (t = u) && (sp_C o d a b n t u || sp_C o d a b n u t)
end
theorem sp_K_s (o d a b : Nat → Int32) (n t u : Nat) : sp_K o d a b n t u = sp_K o d a b n u t := by
  unfold sp_K
  rw [Bool.or_comm, show decide (t = u) = decide (u = t) from decide_eq_decide.mpr ⟨Eq.symm, Eq.symm⟩]
theorem sp_K_i (o d a b : Nat → Int32) (n t : Nat) : sp_K o d a b n t t = false := by
  unfold sp_K
  simp
theorem sp_K_b {o d a b : Nat → Int32} {n : Nat} {c : Nat → Int32} (I : cl_inv c (sp_C o d a b n)) {t u : Nat} (ht : t < 8) (hu : u < 8) : bt (c t) u = sp_K o d a b n t u := by
  rw [I t ht u (by omega), decide_eq_true hu]
  unfold sp_K
  simp
/-! how often an instruction names a temporary of a set -/
def pu_sum (f : Nat → Nat) : Nat → Nat
  | 0 => 0
  | n + 1 => pu_sum f n + f n
theorem pu_sum_c {f g : Nat → Nat} : ∀ {n : Nat}, (∀ i, i < n → f i = g i) → pu_sum f n = pu_sum g n
  | 0, _ => rfl
  | n + 1, h => by rw [pu_sum, pu_sum, pu_sum_c (fun i hi => h i (by omega)), h n (by omega)]
theorem pu_sum_a (f g : Nat → Nat) : ∀ n : Nat, pu_sum (fun i => f i + g i) n = pu_sum f n + pu_sum g n
  | 0 => rfl
  | n + 1 => by
    rw [pu_sum, pu_sum, pu_sum, pu_sum_a f g n]
    omega
theorem pu_sum_1 (M : Nat → Bool) (p : Bool) (q : Nat) : ∀ n : Nat, pu_sum (fun t => if M t = true then (if (p && decide (q = t)) = true then 1 else 0) else 0) n = if (p && (decide (q < n) && M q)) = true then 1 else 0
  | 0 => by simp [pu_sum]
  | n + 1 => by
    rw [pu_sum, pu_sum_1 M p q n]
    cases p
    · simp
    · by_cases h : q = n
      · subst h
        simp
      · have g : decide (q < n + 1) = decide (q < n) := decide_eq_decide.mpr (by omega)
        rw [g]
        simp [h]
section
variable (o d a b : Nat → Int32)
def sp_nm (P : Nat → Bool) (i : Nat) : Nat :=
  ((if (sp_df (o i) && P (d i).toNatClampNeg) = true then 1 else 0) + (if (sp_ua (o i) && P (a i).toNatClampNeg) = true then 1 else 0)) + (if (sp_ub (o i) && P (b i).toNatClampNeg) = true then 1 else 0)
end
theorem sp_if8 {p : Bool} {x : Int32} {M : Nat → Bool} (h : p = true → ∃ q, q < 8 ∧ x = nI q) : (p && (decide (x.toNatClampNeg < 8) && M x.toNatClampNeg)) = (p && M x.toNatClampNeg) := by
  cases p
  · rfl
  · obtain ⟨q, hq, rfl⟩ := h rfl
    rw [nI_clamp (by omega), decide_eq_true hq]
    rfl
theorem sp_nm_sum {o d a b : Nat → Int32} {n i : Nat} (h : sp_ok o d a b n) (hi : i < n) (M : Nat → Bool) : pu_sum (fun t => if M t = true then sp_nm o d a b (fun x => decide (x = t)) i else 0) 8 = sp_nm o d a b M i := by
  obtain ⟨_, h2, h3, h4, _⟩ := h i hi
  have e : ∀ t, (if M t = true then sp_nm o d a b (fun x => decide (x = t)) i else 0) = ((if M t = true then (if (sp_df (o i) && decide ((d i).toNatClampNeg = t)) = true then 1 else 0) else 0) + (if M t = true then (if (sp_ua (o i) && decide ((a i).toNatClampNeg = t)) = true then 1 else 0) else 0)) + (if M t = true then (if (sp_ub (o i) && decide ((b i).toNatClampNeg = t)) = true then 1 else 0) else 0) := by
    intro t
    unfold sp_nm
    by_cases m : M t = true
    · rw [if_pos m, if_pos m, if_pos m, if_pos m]
    · rw [if_neg m, if_neg m, if_neg m, if_neg m]
  rw [pu_sum_c (fun t _ => e t), pu_sum_a, pu_sum_a, pu_sum_1, pu_sum_1, pu_sum_1, sp_if8 h2, sp_if8 h3, sp_if8 h4]
  rfl
/-! a move that vanishes; how many -/
section
variable (o d a : Nat → Int32) (n : Nat)
def sp_sv1 (M : Nat → Bool) (c : Nat → Nat) (i : Nat) : Bool :=
  decide (o i = 5) && (decide (d i = a i) || ((!M (d i).toNatClampNeg && !M (a i).toNatClampNeg) && decide (c (d i).toNatClampNeg = c (a i).toNatClampNeg)))
def sp_sv (M : Nat → Bool) (c : Nat → Nat) : Nat := pu_cnt (sp_sv1 o d a M c) n
def sp_mv : Nat := pu_cnt (fun i => decide (o i = 5)) n
end
theorem sp_sv_le (o d a : Nat → Int32) (n : Nat) (M : Nat → Bool) (c : Nat → Nat) : sp_sv o d a n M c ≤ sp_mv o n := by
  apply pu_cnt_mono
  intro i _ h
  unfold sp_sv1 at h
  rw [Bool.and_eq_true] at h
  exact h.1
theorem sp_sv_c {o d a b : Nat → Int32} {n : Nat} (h : sp_ok o d a b n) {M : Nat → Bool} {c c' : Nat → Nat} (g : ∀ t, t < 8 → c' t = c t) : sp_sv o d a n M c' = sp_sv o d a n M c := by
  apply pu_cnt_eq
  intro i hi
  unfold sp_sv1
  by_cases e : o i = 5
  · obtain ⟨_, h2, h3, _⟩ := h i hi
    obtain ⟨q, hq, e2⟩ := h2 (by rw [e]; decide)
    obtain ⟨r, hr, e3⟩ := h3 (by rw [e]; decide)
    rw [e2, e3, nI_clamp (by omega), nI_clamp (by omega), g q hq, g r hr]
  · simp [e]
/-! ways: Warshall's sweep -/
def wr_in (m : Nat) (f : Nat → Int32) : Nat → Nat → Int32
  | 0 => f
  | i + 1 => if bt (wr_in m f i i) m = true then upd (wr_in m f i) i (wr_in m f i i ||| wr_in m f i m) else wr_in m f i
def wr_out (n : Nat) (f : Nat → Int32) : Nat → Nat → Int32
  | 0 => f
  | m + 1 => wr_in m (wr_out n f m) n
def wr_eq (n : Nat) (f g : Nat → Int32) : Prop := ∀ i, i < n → f i = g i
theorem wr_upd {n i : Nat} {f g : Nat → Int32} {x y : Int32} (h : wr_eq n f g) (e : x = y) : wr_eq n (upd f i x) (upd g i y) := by
  intro j hj
  by_cases z : j = i
  · subst z
    rw [pk_us, pk_us, e]
  · rw [pk_un z, pk_un z, h j hj]
theorem wr_in_c {n m : Nat} (hm : m < n) {f g : Nat → Int32} (h : wr_eq n f g) : ∀ i, i ≤ n → wr_eq n (wr_in m f i) (wr_in m g i)
  | 0, _ => h
  | i + 1, hi => by
    have q := wr_in_c hm h i (by omega)
    rw [wr_in, wr_in, q i (by omega), q m hm]
    by_cases z : bt (wr_in m g i i) m = true
    · rw [if_pos z, if_pos z]
      exact wr_upd q rfl
    · rw [if_neg z, if_neg z]
      exact q
theorem wr_out_c {n : Nat} {f g : Nat → Int32} (h : wr_eq n f g) : ∀ m, m ≤ n → wr_eq n (wr_out n f m) (wr_out n g m)
  | 0, _ => h
  | m + 1, hm => wr_in_c (by omega) (wr_out_c h m (by omega)) n (Nat.le_refl n)
end
section
/-! what is asked of the derived tables -/
section
variable (o d a b : Nat → Int32) (n : Nat)
def sp_lead (i : Nat) : Int32 := sp_or (sp_L o a b i) (fun j => (1 : Int32) <<< (nI j &&& 31)) n
def sp_way : Nat → Int32 := wr_out n (sp_lead o a b n) n
def sp_wt (i : Nat) : Int32 := if bt (sp_way o a b n i) i = true then 10 else 1
def sp_co (t : Nat) : Nat → Int32
  | 0 => 0
  | i + 1 => sp_co t i + nI (sp_nm o d a b (fun x => decide (x = t)) i) * sp_wt o a b n i
def sp_cost (t : Nat) : Int32 := sp_co o d a b n t n
def sp_sm (s : Nat) : Nat → Int32
  | 0 => 0
  | t + 1 => if s.testBit t = true then sp_sm s t + sp_cost o d a b n t else sp_sm s t
def sp_sum (s : Nat) : Int32 := sp_sm o d a b n s 8
def sp_F (k s : Nat) : Prop := gc_col (sp_K o d a b n) (fun t => !s.testBit t) k
def sp_M (k m : Nat) : Prop := am_is (sp_F o d a b n k) (fun s => (sp_sum o d a b n s).toInt) m
def sp_B (k m : Nat) (c : Nat → Nat) : Prop := gc_best (gc_vd (sp_K o d a b n) (fun t => m.testBit t) k) (sp_sv o d a n (fun t => m.testBit t)) c
end
section
variable {o d a b : Nat → Int32} {n : Nat}
theorem sp_lead_b {i j : Nat} (hn : n ≤ 20) : bt (sp_lead o a b n i) j = (decide (j < n) && sp_L o a b i j) := by
  unfold sp_lead
  rw [sp_or_b]
  apply Bool.eq_iff_iff.mpr
  rw [pu_any_iff, Bool.and_eq_true, decide_eq_true_eq]
  constructor
  · rintro ⟨q, hq, h⟩
    simp only [Bool.and_eq_true] at h
    rw [cx_one (by omega), decide_eq_true_eq] at h
    obtain ⟨h1, rfl⟩ := h
    exact ⟨hq, h1⟩
  · rintro ⟨h1, h2⟩
    refine ⟨j, h1, ?_⟩
    simp only [Bool.and_eq_true]
    rw [cx_one (by omega), decide_eq_true_eq]
    exact ⟨h2, rfl⟩
theorem sp_F_vd {k s : Nat} : sp_F o d a b n k s ↔ ∃ c, gc_vd (sp_K o d a b n) (fun t => s.testBit t) k c :=
  (gc_vd_col (M := fun t => s.testBit t) (fun t u _ _ => sp_K_s o d a b n t u) (fun t _ => sp_K_i o d a b n t)).symm
theorem sp_F_255 {k : Nat} : sp_F o d a b n k 255 := by
  refine ⟨fun _ => 0, fun t ht g => ?_⟩
  have e : ∀ t, t < 8 → (!(255 : Nat).testBit t) = false := by decide
  exact absurd ((e t ht).symm.trans g) (by decide)
/-! the two machines: cells by place, cells by temporary -/
def rn_cell (m : Nat) (c : Nat → Nat) (t : Nat) : Nat := if m.testBit t = true then 4 + t else c t
def rn_ag (o d a b : Nat → Int32) (n m : Nat) (c : Nat → Nat) (xc yc : Nat → Int32) (p : Nat) : Prop := p < n → ∀ t, t < 8 → sp_lv o d a b n t p = true → xc (rn_cell m c t) = yc t
theorem sp_lv_use {i t : Nat} (hi : i < n) (h : sp_U o a b t i = true) : sp_lv o d a b n t i = true := by
  unfold sp_lv
  rw [← lf_fix i hi]
  unfold lf_F
  rw [h]
  rfl
theorem sp_bh_of {i j t : Nat} (hj : j < n) (hL : sp_L o a b i j = true) (h : sp_lv o d a b n t j = true) : sp_bh o d a b n t i = true := by
  unfold sp_bh
  rw [pu_any_iff]
  exact ⟨j, hj, by rw [hL, h]; rfl⟩
theorem sp_lv_step {i j t : Nat} (hi : i < n) (hj : j < n) (hL : sp_L o a b i j = true) (h : sp_lv o d a b n t j = true) (hD : sp_D o d t i = false) : sp_lv o d a b n t i = true := by
  have q := sp_bh_of hj hL h
  unfold sp_bh at q
  unfold sp_lv at q ⊢
  rw [← lf_fix i hi]
  unfold lf_F
  rw [q, hD]
  simp
theorem rn_go {m : Nat} {c : Nat → Nat} {xc yc : Nat → Int32} {i j : Nat} (hi : i < n) (hL : j < n → sp_L o a b i j = true) (hD : sp_df (o i) = false) (h : rn_ag o d a b n m c xc yc i) : rn_ag o d a b n m c xc yc j := by
  intro hj t ht g
  refine h hi t ht (sp_lv_step hi hj (hL hj) g ?_)
  unfold sp_D
  rw [hD]
  rfl
theorem rn_wr {k m : Nat} {c : Nat → Nat} {xc yc : Nat → Int32} {i j q : Nat} {x : Int32} (hc : gc_vd (sp_K o d a b n) (fun t => m.testBit t) k c) (hk : k ≤ 4) (hi : i < n) (hL : j < n → sp_L o a b i j = true) (hD : sp_df (o i) = true) (hq : q < 8) (ed : d i = nI q)
    (hm : o i = 5 → ∀ r, r < 8 → a i = nI r → x = yc r) (h : rn_ag o d a b n m c xc yc i) : rn_ag o d a b n m c (upd xc (rn_cell m c q) x) (upd yc q x) j := by
  intro hj t ht g
  by_cases e : t = q
  · subst e
    rw [pk_us, pk_us]
  · have hDt : sp_D o d t i = false := by
      unfold sp_D
      rw [ed, hD, decide_eq_false (by rw [nI_eq (by omega) (by omega)]; omega)]
      rfl
    have lt := sp_lv_step hi hj (hL hj) g hDt
    have A := h hi t ht lt
    rw [pk_un e]
    by_cases z : rn_cell m c t = rn_cell m c q
    · rw [z, pk_us]
      have rt : m.testBit t = true ∨ (m.testBit t = false ∧ c t < 4) := by
        cases w : m.testBit t
        · exact Or.inr ⟨rfl, Nat.lt_of_lt_of_le ((hc t ht).2 w).1 hk⟩
        · exact Or.inl rfl
      have rq : m.testBit q = true ∨ (m.testBit q = false ∧ c q < 4) := by
        cases w : m.testBit q
        · exact Or.inr ⟨rfl, Nat.lt_of_lt_of_le ((hc q hq).2 w).1 hk⟩
        · exact Or.inl rfl
      have both : m.testBit t = false ∧ m.testBit q = false ∧ c t = c q := by
        unfold rn_cell at z
        rcases rt with w | ⟨w, w2⟩
        · rw [if_pos w] at z
          rcases rq with y | ⟨y, y2⟩
          · rw [if_pos y] at z
            omega
          · rw [if_neg (by rw [y]; decide)] at z
            omega
        · rw [if_neg (by rw [w]; decide)] at z
          rcases rq with y | ⟨y, y2⟩
          · rw [if_pos y] at z
            omega
          · rw [if_neg (by rw [y]; decide)] at z
            exact ⟨w, y, z⟩
      obtain ⟨mt, mq, ec⟩ := both
      have nK : sp_K o d a b n q t = false := by
        cases w : sp_K o d a b n q t
        · rfl
        · rcases Nat.lt_trichotomy q t with y | y | y
          · exact absurd ec.symm (((hc t ht).2 mt).2 q y mq (by rw [sp_K_s]; exact w))
          · exact absurd y.symm e
          · exact absurd ec (((hc q hq).2 mq).2 t y mt w)
      have bh := sp_bh_of hj (hL hj) g
      have nC : sp_C1 o d a b n i q t = false := by
        cases w : sp_C1 o d a b n i q t
        · rfl
        · have y : sp_C o d a b n q t = true := by
            unfold sp_C
            rw [Bool.or_eq_true, pu_any_iff]
            exact Or.inr ⟨i, hi, w⟩
          unfold sp_K at nK
          rw [y, decide_eq_false (fun z => e z.symm)] at nK
          exact absurd nK (by simp)
      unfold sp_C1 at nC
      have hDq : sp_D o d q i = true := by
        unfold sp_D
        rw [hD, ed]
        simp
      rw [hDq, bh] at nC
      by_cases o5 : o i = 5
      · by_cases ar : a i = nI t
        · exact hm o5 t ht ar
        · rw [decide_eq_false ar] at nC
          simp at nC
      · rw [decide_eq_false o5] at nC
        simp at nC
    · rw [pk_un z]
      exact A
end
end
section
/-! the least set by going down, and by going up -/
def am_dn (F : Nat → Prop) (f : Nat → Int) (s m : Nat) : Prop := s ≤ m ∧ m < 256 ∧ F m ∧ (∀ q, s ≤ q → q < 256 → F q → f m ≤ f q) ∧ (∀ q, s ≤ q → q < m → F q → f m < f q)
theorem am_dn0 {F : Nat → Prop} {f : Nat → Int} (h : F 255) : am_dn F f 255 255 := by
  refine ⟨Nat.le_refl _, by decide, h, fun q a b _ => ?_, fun q a b _ => by omega⟩
  have e : q = 255 := by omega
  rw [e]
  exact Int.le_refl _
theorem am_dn_y {F : Nat → Prop} {f : Nat → Int} {s m : Nat} (h : am_dn F f (s + 1) m) (a : F s) (b : f s ≤ f m) : am_dn F f s s := by
  obtain ⟨h1, h2, h3, h4, h5⟩ := h
  refine ⟨Nat.le_refl _, by omega, a, fun q p r g => ?_, fun q p r _ => by omega⟩
  rcases Nat.eq_or_lt_of_le p with e | e
  · rw [← e]
    exact Int.le_refl _
  · exact Int.le_trans b (h4 q e r g)
theorem am_dn_n {F : Nat → Prop} {f : Nat → Int} {s m : Nat} (h : am_dn F f (s + 1) m) (a : F s → f m < f s) : am_dn F f s m := by
  obtain ⟨h1, h2, h3, h4, h5⟩ := h
  refine ⟨by omega, h2, h3, fun q p r g => ?_, fun q p r g => ?_⟩
  · rcases Nat.eq_or_lt_of_le p with e | e
    · subst e
      have := a g
      omega
    · exact h4 q e r g
  · rcases Nat.eq_or_lt_of_le p with e | e
    · subst e
      exact a g
    · exact h5 q e r g
theorem am_dn_is {F : Nat → Prop} {f : Nat → Int} {m : Nat} (h : am_dn F f 0 m) : am_is F f m :=
  ⟨h.2.1, h.2.2.1, fun q a b => h.2.2.2.1 q (Nat.zero_le q) a b, fun q a b => h.2.2.2.2 q (Nat.zero_le q) a b⟩
def am_up (F : Nat → Prop) (f : Nat → Int) (s m : Nat) : Prop := m < s ∧ F m ∧ (∀ q, q < s → F q → f m ≤ f q) ∧ (∀ q, q < m → F q → f m < f q)
theorem am_up_1 {F : Nat → Prop} {f : Nat → Int} {s : Nat} (h : ∀ q, q < s → ¬ F q) (a : F s) : am_up F f (s + 1) s := by
  refine ⟨by omega, a, fun q p g => ?_, fun q p g => absurd g (h q p)⟩
  rcases Nat.lt_or_ge q s with e | e
  · exact absurd g (h q e)
  · have e2 : q = s := by omega
    rw [e2]
    exact Int.le_refl _
theorem am_up_y {F : Nat → Prop} {f : Nat → Int} {s m : Nat} (h : am_up F f s m) (a : F s) (b : f s < f m) : am_up F f (s + 1) s := by
  obtain ⟨h1, h2, h3, h4⟩ := h
  refine ⟨by omega, a, fun q p g => ?_, fun q p g => ?_⟩
  · rcases Nat.lt_or_ge q s with e | e
    · have := h3 q e g
      omega
    · have e2 : q = s := by omega
      rw [e2]
      exact Int.le_refl _
  · have := h3 q p g
    omega
theorem am_up_n {F : Nat → Prop} {f : Nat → Int} {s m : Nat} (h : am_up F f s m) (a : F s → f m ≤ f s) : am_up F f (s + 1) m := by
  obtain ⟨h1, h2, h3, h4⟩ := h
  refine ⟨by omega, h2, fun q p g => ?_, h4⟩
  rcases Nat.lt_or_ge q s with e | e
  · exact h3 q e g
  · have e2 : q = s := by omega
    subst e2
    exact a g
theorem am_up_is {F : Nat → Prop} {f : Nat → Int} {m : Nat} (h : am_up F f 256 m) : am_is F f m := ⟨h.1, h.2.1, h.2.2.1, h.2.2.2⟩
/-! the table of needs -/
section
variable (fr : Nat → Prop)
def nd_in (N : Nat → Nat) (s w y : Nat) : Prop := y ≤ 8 ∧ (∀ q, 1 ≤ q → q < w → q ≤ s → gc_sub q s → fr q → y ≤ N (s ^^^ q) + 1) ∧ (y = 8 ∨ ∃ q, 1 ≤ q ∧ q ≤ s ∧ gc_sub q s ∧ fr q ∧ y = N (s ^^^ q) + 1)
def nd_ok (N : Nat → Nat) (s : Nat) : Prop := N 0 = 0 ∧ ∀ q, 1 ≤ q → q < s → nd_in fr N q (q + 1) (N q)
end
section
variable {fr : Nat → Prop}
theorem nd_in0 {N : Nat → Nat} {s : Nat} : nd_in fr N s 1 8 := ⟨Nat.le_refl _, fun q a b => by omega, Or.inl rfl⟩
theorem nd_in_y {N : Nat → Nat} {s w y : Nat} (h : nd_in fr N s w y) (h1 : 1 ≤ w) (hw : w ≤ s) (a : gc_sub w s) (b : fr w) (g : N (s ^^^ w) + 1 < y) : nd_in fr N s (w + 1) (N (s ^^^ w) + 1) := by
  obtain ⟨p, q, r⟩ := h
  refine ⟨by omega, fun x x1 x2 x3 x4 x5 => ?_, Or.inr ⟨w, h1, hw, a, b, rfl⟩⟩
  rcases Nat.lt_or_ge x w with e | e
  · have := q x x1 e x3 x4 x5
    omega
  · have e2 : x = w := by omega
    rw [e2]
    exact Nat.le_refl _
theorem nd_in_n {N : Nat → Nat} {s w y : Nat} (h : nd_in fr N s w y) (g : gc_sub w s → fr w → y ≤ N (s ^^^ w) + 1) : nd_in fr N s (w + 1) y := by
  obtain ⟨p, q, r⟩ := h
  refine ⟨p, fun x x1 x2 x3 x4 x5 => ?_, r⟩
  rcases Nat.lt_or_ge x w with e | e
  · exact q x x1 e x3 x4 x5
  · have e2 : x = w := by omega
    subst e2
    exact g x4 x5
theorem nd_cong {N N' : Nat → Nat} {s w y : Nat} (hs : s < 256) (e : ∀ q, q < s → N' q = N q) (h : nd_in fr N s w y) : nd_in fr N' s w y := by
  obtain ⟨p, q, r⟩ := h
  have z : ∀ x, 1 ≤ x → x ≤ s → gc_sub x s → N' (s ^^^ x) = N (s ^^^ x) := fun x x1 x2 x3 => e _ (gc_xor_less (by omega) hs x3 x1)
  refine ⟨p, fun x x1 x2 x3 x4 x5 => ?_, ?_⟩
  · rw [z x x1 x3 x4]
    exact q x x1 x2 x3 x4 x5
  · rcases r with r | ⟨x, x1, x2, x3, x4, x5⟩
    · exact Or.inl r
    · exact Or.inr ⟨x, x1, x2, x3, x4, by rw [z x x1 x2 x3]; exact x5⟩
theorem nd_step {N : Nat → Nat} {s y : Nat} (hs : s < 256) (h1 : 1 ≤ s) (h : nd_ok fr N s) (g : nd_in fr N s (s + 1) y) : nd_ok fr (fun x => if x = s then y else N x) (s + 1) := by
  refine ⟨by show (if 0 = s then y else N 0) = 0; rw [if_neg (by omega)]; exact h.1, fun q q1 q2 => ?_⟩
  show nd_in fr _ q (q + 1) (if q = s then y else N q)
  by_cases e : q = s
  · subst e
    rw [if_pos rfl]
    exact nd_cong hs (fun x hx => if_neg (by omega)) g
  · rw [if_neg e]
    exact nd_cong (by omega) (fun x hx => if_neg (by omega)) (h.2 q q1 (by omega))
theorem nd_col {K : Nat → Nat → Bool} {N : Nat → Nat} (hi : ∀ t, t < 8 → K t t = false) (hfr : ∀ s, s < 256 → (fr s ↔ ∀ t, t < 8 → ∀ u, u < 8 → s.testBit t = true → s.testBit u = true → K t u = false)) (h : nd_ok fr N 256) {s k : Nat} (hs : s < 256) : gc_col K (fun t => s.testBit t) k ↔ N s ≤ k := by
  constructor
  · exact gc_need1 (fr := fr) (fun s hs => (hfr s hs).mpr) h.1 (fun s w a b c e f => (h.2 s (by omega) a).2.1 w b (by omega) c e f) k s hs
  · exact gc_need2 (fr := fr) hi (fun s hs => (hfr s hs).mp) (fun s a b => (h.2 s a b).2.2) s hs k
end
end
section
/-! numbers against constants -/
theorem li_0 {i : Nat} (h : i < 2 ^ 31) : (nI i ≤ 0) ↔ i ≤ 0 := nI_leI (b := 0) h (by decide)
theorem li_0l {i : Nat} (h : i < 2 ^ 31) : (nI i < 0) ↔ False := ⟨fun z => nI_pos h z, False.elim⟩
theorem li_4 {i : Nat} (h : i < 2 ^ 31) : ((4 : Int32) ≤ nI i) ↔ 4 ≤ i := nI_leI (a := 4) (by decide) h
theorem li_8 {i : Nat} (h : i < 2 ^ 31) : ((8 : Int32) ≤ nI i) ↔ 8 ≤ i := nI_leI (a := 8) (by decide) h
theorem li_12 {i : Nat} (h : i < 2 ^ 31) : ((12 : Int32) ≤ nI i) ↔ 12 ≤ i := nI_leI (a := 12) (by decide) h
theorem li_20 {i : Nat} (h : i < 2 ^ 31) : ((20 : Int32) ≤ nI i) ↔ 20 ≤ i := nI_leI (a := 20) (by decide) h
theorem li_30 {i : Nat} (h : i < 2 ^ 31) : ((30 : Int32) ≤ nI i) ↔ 30 ≤ i := nI_leI (a := 30) (by decide) h
theorem li_200 {i : Nat} (h : i < 2 ^ 31) : ((200 : Int32) ≤ nI i) ↔ 200 ≤ i := nI_leI (a := 200) (by decide) h
theorem li_256 {i : Nat} (h : i < 2 ^ 31) : ((256 : Int32) ≤ nI i) ↔ 256 ≤ i := nI_leI (a := 256) (by decide) h
theorem li_64k {i : Nat} (h : i < 2 ^ 31) : ((65536 : Int32) ≤ nI i) ↔ 65536 ≤ i := nI_leI (a := 65536) (by decide) h
/-! the small methods of both sides -/
theorem wk_has {post : Int32 → Prop} {x : Int32} {j : Nat} (hj : j < 32) (t : bt x j = true → post 1) (f : ¬ bt x j = true → post 0) : wpX_has post x (nI j) :=
  br_c (fun h => t ((cx_has x hj).mp h)) (fun h => f (fun z => h ((cx_has x hj).mpr z)))
theorem sp_ua_iff {o : Int32} : sp_ua o = true ↔ (1 ≤ o ∧ o ≤ 5) ∨ (o = 7 ∨ o = 8) := by
  simp only [sp_ua, Bool.or_eq_true, Bool.and_eq_true, decide_eq_true_eq]
theorem sp_ub_iff {o : Int32} : sp_ub o = true ↔ (1 ≤ o ∧ o ≤ 4) := by
  simp only [sp_ub, Bool.and_eq_true, decide_eq_true_eq]
theorem sp_df_iff {o : Int32} : sp_df o = true ↔ (o ≤ 5 ∨ o = 9) := by
  simp only [sp_df, Bool.or_eq_true, decide_eq_true_eq]
theorem wk_df {post : Int32 → Prop} {o : Int32} (t : sp_df o = true → post 1) (f : ¬ sp_df o = true → post 0) : wpX_defines post o := by
  rw [sp_df_iff] at t f
  exact br_c (fun h => t (Or.inl h)) (fun h => br_c (fun g => t (Or.inr g)) (fun g => f (fun y => y.elim h g)))
theorem wk_dfY {post : Int32 → Prop} {o : Int32} (t : sp_df o = true → post 1) (f : ¬ sp_df o = true → post 0) : wpY_defines post o := by
  rw [sp_df_iff] at t f
  exact br_c (fun h => t (Or.inl h)) (fun h => br_c (fun g => t (Or.inr g)) (fun g => f (fun y => y.elim h g)))
theorem wk_ua {post : Int32 → Prop} {o : Int32} (t : sp_ua o = true → post 1) (f : ¬ sp_ua o = true → post 0) : wpX_usesFirst post o := by
  rw [sp_ua_iff] at t f
  have T : ¬ (1 ≤ o ∧ o ≤ 5) → wX_usesFirst_10 post o := fun z => br_c (fun h => t (Or.inr (Or.inl h))) (fun h7 => br_c (fun h => t (Or.inr (Or.inr h))) (fun h8 => f (fun y => y.elim z (fun y => y.elim h7 h8))))
  exact br_c (fun h => T (fun y => absurd y.1 (Int32.not_le.mpr h))) (fun h => br_c (fun g => t (Or.inl ⟨Int32.not_lt.mp h, g⟩)) (fun g => T (fun y => g y.2)))
theorem wk_in {post : Int32 → Prop} {x l m : Int32} (t : l ≤ x ∧ x ≤ m → post 1) (f : ¬ (l ≤ x ∧ x ≤ m) → post 0) : wpY_in post x l m :=
  br_c (fun h => f (fun y => absurd y.1 (Int32.not_le.mpr h))) (fun h => br_c (fun g => f (fun y => absurd y.2 (Int32.not_le.mpr g))) (fun g => t ⟨Int32.not_lt.mp h, Int32.not_lt.mp g⟩))
theorem wk_uaY {post : Int32 → Prop} {o : Int32} (t : sp_ua o = true → post 1) (f : ¬ sp_ua o = true → post 0) : wpY_usesA post o := by
  rw [sp_ua_iff] at t f
  exact wk_in (fun h => br_f (by decide) (t (Or.inl h))) (fun z => br_t rfl (br_c (fun h => t (Or.inr (Or.inl h))) (fun h7 => br_c (fun h => t (Or.inr (Or.inr h))) (fun h8 => f (fun y => y.elim z (fun y => y.elim h7 h8))))))
theorem wk_ub {post : Int32 → Prop} {o : Int32} (t : sp_ub o = true → post 1) (f : ¬ sp_ub o = true → post 0) : wpX_usesSecond post o := by
  rw [sp_ub_iff] at t f
  exact br_c (fun h => f (fun y => absurd y.1 (Int32.not_le.mpr h))) (fun h => br_c (fun g => f (fun y => absurd y.2 (Int32.not_le.mpr g))) (fun g => t ⟨Int32.not_lt.mp h, Int32.not_lt.mp g⟩))
theorem wk_ubY {post : Int32 → Prop} {o : Int32} (t : sp_ub o = true → post 1) (f : ¬ sp_ub o = true → post 0) : wpY_usesB post o := by
  rw [sp_ub_iff] at t f
  exact wk_in (fun h => ⟨rfl, t h⟩) (fun h => ⟨rfl, f h⟩)
theorem wk_tmp {post : Int32 → Prop} {x : Int32} (t : 0 ≤ x ∧ x ≤ 7 → post 1) (f : ¬ (0 ≤ x ∧ x ≤ 7) → post 0) : wpX_isTemporary post x := by
  have e : ∀ x : Int32, (8 ≤ x) ↔ ¬ x ≤ 7 := by
    intro x
    rw [Int32.le_iff_toInt_le, Int32.le_iff_toInt_le, show (8 : Int32).toInt = 8 from by decide, show (7 : Int32).toInt = 7 from by decide]
    omega
  exact br_c (fun h => f (fun y => absurd y.1 (Int32.not_le.mpr h))) (fun h => br_c (fun g => f (fun y => (e x).mp g y.2)) (fun g => t ⟨Int32.not_lt.mp h, Decidable.byContradiction (fun z => g ((e x).mpr z))⟩))
theorem wk_goal {post : Int32 → Prop} {x : Int32} (t : 0 ≤ x ∧ x ≤ 20 → post 1) (f : ¬ (0 ≤ x ∧ x ≤ 20) → post 0) : wpX_isGoal post x :=
  br_c (fun h => f (fun y => absurd y.1 (Int32.not_le.mpr h))) (fun h => br_c (fun g => f (fun y => absurd y.2 (Int32.not_le.mpr g))) (fun g => t ⟨Int32.not_lt.mp h, Int32.not_lt.mp g⟩))
theorem wk_r7 {x : Int32} (h : 0 ≤ x ∧ x ≤ 7) : ∃ q, q < 8 ∧ x = nI q := by
  obtain ⟨q, hq, e⟩ := nI_of2 (M := 7) (n := 7) (by decide) (Int32.not_lt.mpr h.1) h.2
  exact ⟨q, by omega, e⟩
theorem wk_r20 {x : Int32} (h : 0 ≤ x ∧ x ≤ 20) : ∃ q, q ≤ 20 ∧ x = nI q := nI_of2 (M := 20) (n := 20) (by decide) (Int32.not_lt.mpr h.1) h.2
theorem wk_reg {post : Int32 → Prop} {v t : Nat} (hv : v < 65536) (ht : t < 8) (h : post (nI (xd_g v t))) : wpX_registerIn post (nI v) (nI t) := by
  unfold wpX_registerIn
  have e : ∀ t : Nat, t < 8 → (((14 - (2 * nI t)) &&& 31 : Int32).toBitVec.smod 32).toNat = 14 - 2 * t := by decide +kernel
  rw [pk_shrN (by omega) _ _ (e t ht), pk_andN (k := 2) (Nat.lt_of_le_of_lt (Nat.div_le_self _ _) (by omega)) (by decide)]
  exact h
end
section
theorem xl_mask : ∀ n, n < 21 → ∀ j, j < 32 → bt (((1 : Int32) <<< (nI n &&& 31)) - 1) j = decide (j < n) := by decide +kernel
theorem up_lt {l f : Nat → Int32} {i : Nat} {v : Int32} (I : ∀ j, j < i → l j = f j) (e : v = f i) : ∀ j, j < i + 1 → upd l i v j = f j := by
  intro j hj
  by_cases z : j = i
  · rw [z, pk_us, e]
  · rw [pk_un z]
    exact I j (by omega)
section
variable {o a b : Nat → Int32} {i j : Nat}
theorem sp_L_6 (h : o i = 6) : sp_L o a b i j = decide (a i = nI j) := by
  unfold sp_L
  rw [h, show decide ((6 : Int32) = 6) = true from by decide, show decide ((6 : Int32) = 7) = false from by decide]
  simp
theorem sp_L_7 (h : o i = 7) : sp_L o a b i j = (decide (b i = nI j) || decide (j = i + 1)) := by
  unfold sp_L
  rw [h, show decide ((7 : Int32) = 6) = false from by decide, show decide ((7 : Int32) = 7) = true from by decide, show decide ((7 : Int32) = 10) = false from by decide]
  simp
theorem sp_L_10 (h : o i = 10) : sp_L o a b i j = false := by
  unfold sp_L
  rw [h, show decide ((10 : Int32) = 6) = false from by decide, show decide ((10 : Int32) = 7) = false from by decide, show decide ((10 : Int32) = 10) = true from by decide]
  simp
theorem sp_L_e (h6 : ¬ o i = 6) (h7 : ¬ o i = 7) (h10 : ¬ o i = 10) : sp_L o a b i j = decide (j = i + 1) := by
  unfold sp_L
  rw [decide_eq_false h6, decide_eq_false h7, decide_eq_false h10]
  simp
end
theorem xl_and {o a b : Nat → Int32} {n i : Nat} (hn : n ≤ 20) {x : Int32} (h : ∀ j, j < n → bt x j = sp_L o a b i j) : (x &&& (((1 : Int32) <<< (nI n &&& 31)) - 1)) = sp_lead o a b n i := by
  apply b_ext
  intro j hj
  rw [b_and, sp_lead_b hn, xl_mask n (by omega) j hj]
  by_cases z : j < n
  · rw [h j z, decide_eq_true z]
    simp
  · rw [decide_eq_false z]
    simp
section
variable {n k : Nat} {st mv ms mc sv ch ic pa oc ss tk tn : Int32} {o d a b ld re be bo cl co ne fe ip ce ou : Nat → Int32}
theorem xl_86 {post : SX → Prop} {J : Int32 → (Nat → Int32) → (Nat → Int32) → (Nat → Int32) → (Nat → Int32) → (Nat → Int32) → (Nat → Int32) → (Nat → Int32) → (Nat → Int32) → (Nat → Int32) → (Nat → Int32) → (Nat → Int32) → (Nat → Int32) → (Nat → Int32) → (Nat → Int32) → (Nat → Int32) → Prop} {x1 x3 : Int32} {i : Nat} (hi : i < 20) (h : J (nI (i + 1)) o d a b (upd ld i (x3 &&& x1)) re be bo cl co ne fe ip ce ou) : wX_findLeads_86 post J x1 (nI i) x3 (nI n) (nI k) st mv ms mc sv ch ic pa oc ss tk tn o d a b ld re be bo cl co ne fe ip ce ou :=
  ⟨vp_in_nI hi (by decide), nm_r (by rw [nI_clamp (by omega)]) (nm_r (nI_1 i) h)⟩
theorem xl_leads (hn : n ≤ 20) (ok : sp_ok o d a b n) {post : SX → Prop} (h : ∀ l, (∀ j, j < n → l j = sp_lead o a b n j) → post (nI n, nI k, st, mv, ms, mc, sv, ch, ic, pa, oc, ss, tk, tn, o, d, a, b, l, re, be, bo, cl, co, ne, fe, ip, ce, ou)) : wpX_findLeads post (nI n, nI k, st, mv, ms, mc, sv, ch, ic, pa, oc, ss, tk, tn, o, d, a, b, ld, re, be, bo, cl, co, ne, fe, ip, ce, ou) := by
  refine nm_e ?_
  refine pk_loop (fun m i (l : Nat → Int32) => wX_findLeads_11 post (((1 : Int32) <<< (nI n &&& 31)) - 1) (nI n) (nI k) st mv ms mc sv ch ic pa oc ss tk tn m (nI i) o d a b l re be bo cl co ne fe ip ce ou) (fun i l => ∀ j, j < i → l j = sp_lead o a b n j) n 0 ld (Nat.zero_le n) (fun j hj => absurd hj (Nat.not_lt_zero j)) ?_ ?_
  · intro m l I
    exact br_t (Int32.le_refl _) (h l I)
  · intro m i l hi I ih
    have e : (nI i).toNatClampNeg = i := nI_clamp (by omega)
    have v : vp_in (nI i) 20 := vp_in_nI (by omega) (by decide)
    have i1 : ((1 : Int32) <<< ((nI i + 1) &&& 31)) = (1 : Int32) <<< (nI (i + 1) &&& 31) := by rw [nI_1]
    obtain ⟨_, _, _, _, k5, k6⟩ := ok i hi
    refine br_f (nI_ge hi (by omega)) (nm_r i1 ⟨v, ?_⟩)
    rw [e]
    by_cases h6 : o i = 6
    · refine br_t h6 ⟨v, nm_e (xl_86 (by omega) (ih _ (up_lt I (xl_and hn (fun j hj => ?_)))))⟩
      obtain ⟨q, hq, e2⟩ := k5 h6
      rw [sp_L_6 h6, e2, cx_one (by omega), sp_inj (by omega) (by omega)]
    · refine br_f h6 ⟨v, ?_⟩
      by_cases h7 : o i = 7
      · refine br_t h7 ⟨v, nm_e (xl_86 (by omega) (ih _ (up_lt I (xl_and hn (fun j hj => ?_)))))⟩
        obtain ⟨q, hq, e2⟩ := k6 h7
        rw [sp_L_7 h7, b_or, e2, cx_one (by omega), cx_one (by omega), sp_inj (by omega) (by omega), Bool.or_comm, show decide (i + 1 = j) = decide (j = i + 1) from decide_eq_decide.mpr ⟨Eq.symm, Eq.symm⟩]
      · refine br_f h7 ⟨v, ?_⟩
        by_cases h10 : o i = 10
        · refine br_t h10 (xl_86 (by omega) (ih _ (up_lt I (xl_and hn (fun j hj => ?_)))))
          rw [sp_L_10 h10, b_0]
        · refine br_f h10 (xl_86 (by omega) (ih _ (up_lt I (xl_and hn (fun j hj => ?_)))))
          rw [sp_L_e h6 h7 h10, cx_one (by omega)]
          exact decide_eq_decide.mpr ⟨Eq.symm, Eq.symm⟩
theorem wr_in_s {n m i : Nat} {r g : Nat → Int32} (hm : m < n) (hi : i < n) (I : wr_eq n r (wr_in m g i)) : (bt (r i) m = true → wr_eq n (upd r i (r i ||| r m)) (wr_in m g (i + 1))) ∧ (¬ bt (r i) m = true → wr_eq n r (wr_in m g (i + 1))) := by
  rw [wr_in, ← I i hi, ← I m hm]
  constructor
  · intro z
    rw [if_pos z]
    exact wr_upd I rfl
  · intro z
    rw [if_neg z]
    exact I
theorem xl_reaches (hn : n ≤ 20) (hl : ∀ j, j < n → ld j = sp_lead o a b n j) {post : SX → Prop} (h : ∀ r, (∀ j, j < n → r j = sp_way o a b n j) → post (nI n, nI k, st, mv, ms, mc, sv, ch, ic, pa, oc, ss, tk, tn, o, d, a, b, ld, r, be, bo, cl, co, ne, fe, ip, ce, ou)) : wpX_findReaches post (nI n, nI k, st, mv, ms, mc, sv, ch, ic, pa, oc, ss, tk, tn, o, d, a, b, ld, re, be, bo, cl, co, ne, fe, ip, ce, ou) := by
  refine pk_loop (fun m i (r : Nat → Int32) => wX_findReaches_2 post (nI n) (nI k) st mv ms mc sv ch ic pa oc ss tk tn m (nI i) o d a b ld r be bo cl co ne fe ip ce ou) (fun i r => ∀ j, j < i → r j = ld j) n 0 re (Nat.zero_le n) (fun j hj => absurd hj (Nat.not_lt_zero j)) ?_ ?_
  · intro m r I
    refine br_t (Int32.le_refl _) ?_
    refine pk_loop (fun m i (r : Nat → Int32) => wX_findReaches_30 post (nI n) (nI k) st mv ms mc sv ch ic pa oc ss tk tn m (nI i) o d a b ld r be bo cl co ne fe ip ce ou) (fun i r => wr_eq n r (wr_out n (sp_lead o a b n) i)) n 0 r (Nat.zero_le n) (fun j hj => (I j hj).trans (hl j hj)) ?_ ?_
    · intro m r I
      exact br_t (Int32.le_refl _) (h r I)
    · intro m p r hp I ih
      refine br_f (nI_ge hp (by omega)) ?_
      refine pk_loop (fun q i (r : Nat → Int32) => wX_findReaches_40 post (wX_findReaches_30 post (nI n) (nI k) st mv ms mc sv ch ic pa oc ss tk tn m) (nI p) (nI n) (nI k) st mv ms mc sv ch ic pa oc ss tk tn q (nI i) o d a b ld r be bo cl co ne fe ip ce ou) (fun i r => wr_eq n r (wr_in p (wr_out n (sp_lead o a b n) p) i)) n 0 r (Nat.zero_le n) I ?_ ?_
      · intro q r I
        exact br_t (Int32.le_refl _) (nm_r (nI_1 p) (ih r I))
      · intro q i r hi I ih
        have e : (nI i).toNatClampNeg = i := nI_clamp (by omega)
        have e2 : (nI p).toNatClampNeg = p := nI_clamp (by omega)
        have v : vp_in (nI i) 20 := vp_in_nI (by omega) (by decide)
        refine br_f (nI_ge hi (by omega)) ⟨v, ?_⟩
        rw [e]
        obtain ⟨A, B⟩ := wr_in_s hp hi I
        refine wk_has (by omega) (fun z => br_f (by decide) ⟨v, vp_in_nI (by omega) (by decide), v, ?_⟩) (fun z => br_t rfl (nm_r (nI_1 i) (ih _ (B z))))
        rw [e2]
        exact nm_e (nm_r (nI_1 i) (ih _ (A z)))
  · intro m i r hi I ih
    have e : (nI i).toNatClampNeg = i := nI_clamp (by omega)
    have v : vp_in (nI i) 20 := vp_in_nI (by omega) (by decide)
    refine br_f (nI_ge hi (by omega)) ⟨v, v, ?_⟩
    rw [e]
    exact nm_e (nm_r (nI_1 i) (ih _ (up_lt I rfl)))
theorem xl_after (hn : n ≤ 20) {i : Nat} (hi : i < n) {post : Int32 → Prop} (h : post (sp_or (fun j => bt (ld i) j) be n)) : wpX_aliveAfter post (nI n, nI k, st, mv, ms, mc, sv, ch, ic, pa, oc, ss, tk, tn, o, d, a, b, ld, re, be, bo, cl, co, ne, fe, ip, ce, ou) (nI i) := by
  have e : (nI i).toNatClampNeg = i := nI_clamp (by omega)
  refine pk_loop (fun m j (x : Int32) => wX_aliveAfter_4 post (nI i) (nI n) (nI k) st mv ms mc sv ch ic pa oc ss tk tn o d a b ld re be bo cl co ne fe ip ce ou m x (nI j)) (fun j x => x = sp_or (fun j => bt (ld i) j) be j) n 0 0 (Nat.zero_le n) rfl ?_ ?_
  · intro m x I
    exact br_t (Int32.le_refl _) (by rw [I]; exact h)
  · intro m j x hj I ih
    have e2 : (nI j).toNatClampNeg = j := nI_clamp (by omega)
    refine br_f (nI_ge hj (by omega)) ⟨vp_in_nI (by omega) (by decide), ?_⟩
    rw [e]
    refine wk_has (by omega) (fun z => br_f (by decide) ⟨vp_in_nI (by omega) (by decide), ?_⟩) (fun z => br_t rfl (nm_r (nI_1 j) (ih _ (by rw [sp_or, if_neg z]; exact I))))
    rw [e2]
    exact nm_e (nm_r (nI_1 j) (ih _ (by rw [sp_or, if_pos z, I])))
theorem xl_used {i : Nat} (hi : i < 20) {post : Int32 → Prop} (h : post (sp_used o a b i)) : wpX_usedBy post (nI n, nI k, st, mv, ms, mc, sv, ch, ic, pa, oc, ss, tk, tn, o, d, a, b, ld, re, be, bo, cl, co, ne, fe, ip, ce, ou) (nI i) := by
  have e : (nI i).toNatClampNeg = i := nI_clamp (by omega)
  have v : vp_in (nI i) 20 := vp_in_nI (by omega) (by decide)
  have T : ∀ z : Int32, z = (if sp_ua (o i) = true then (1 : Int32) <<< (a i &&& 31) else 0) → wX_usedBy_24 post (nI i) z (nI n) (nI k) st mv ms mc sv ch ic pa oc ss tk tn o d a b ld re be bo cl co ne fe ip ce ou := by
    intro z ez
    unfold wX_usedBy_24
    rw [e]
    unfold sp_used at h
    rw [← ez] at h
    refine ⟨v, wk_ub (fun y => br_f (by decide) ⟨v, ?_⟩) (fun y => br_t rfl ?_)⟩
    · rw [if_pos y] at h
      exact h
    · rw [if_neg y, Int32.or_zero] at h
      exact h
  unfold wpX_usedBy
  dsimp only
  rw [e]
  exact ⟨v, wk_ua (fun y => br_f (by decide) ⟨v, T _ (if_pos y).symm⟩) (fun y => br_t rfl (T _ (if_neg y).symm))⟩
theorem xl_dfd {i : Nat} (hi : i < 20) {post : Int32 → Prop} (h : post (sp_dfd o d i)) : wpX_definedBy post (nI n, nI k, st, mv, ms, mc, sv, ch, ic, pa, oc, ss, tk, tn, o, d, a, b, ld, re, be, bo, cl, co, ne, fe, ip, ce, ou) (nI i) := by
  have e : (nI i).toNatClampNeg = i := nI_clamp (by omega)
  have v : vp_in (nI i) 20 := vp_in_nI (by omega) (by decide)
  unfold wpX_definedBy
  dsimp only
  rw [e]
  unfold sp_dfd at h
  refine ⟨v, wk_df (fun y => br_f (by decide) ⟨v, ?_⟩) (fun y => br_t rfl ?_)⟩
  · rw [if_pos y] at h
    exact h
  · rw [if_neg y] at h
    exact h
theorem xl_m1 (i : Nat) : nI i + (-1) = nI i - 1 := (Int32.sub_eq_add_neg _ _).symm
theorem xl_alive (hn : n ≤ 20) (ok : sp_ok o d a b n) (hl : ∀ j, j < n → ld j = sp_lead o a b n j) {post : SX → Prop} (h : ∀ B Bo, (∀ j, j < n → sp_is o d a b n (B j) j) → (∀ j, j < n → ∀ t, t < 32 → bt (Bo j) t = sp_bh o d a b n t j) → post (nI n, nI k, st, mv, ms, mc, sv, ch, ic, pa, oc, ss, tk, tn, o, d, a, b, ld, re, B, Bo, cl, co, ne, fe, ip, ce, ou)) : wpX_findAlive post (nI n, nI k, st, mv, ms, mc, sv, ch, ic, pa, oc, ss, tk, tn, o, d, a, b, ld, re, be, bo, cl, co, ne, fe, ip, ce, ou) := by
  refine pk_loop (fun m i (r : Nat → Int32) => wX_findAlive_2 post (nI n) (nI k) st mv ms mc sv ch ic pa oc ss tk tn m (nI i) o d a b ld re r bo cl co ne fe ip ce ou) (fun i r => ∀ j, j < i → r j = (fun _ => 0) j) n 0 be (Nat.zero_le n) (fun j hj => absurd hj (Nat.not_lt_zero j)) ?_ ?_
  · intro m r I
    refine br_t (Int32.le_refl _) ?_
    refine pk_loop (fun m p (s : (Nat → Int32) × (Nat → Int32)) => wX_findAlive_25 post (nI n) (nI k) st mv ms mc sv ch ic pa oc ss tk tn m (nI p) o d a b ld re s.1 s.2 cl co ne fe ip ce ou) (fun p s => (∀ j, j < n → sp_hi o d a b n (s.1 j) j) ∧ (∀ j, j < n → sp_lo o d a b n p (s.1 j) j) ∧ (n < p → ∀ j, j < n → ∀ t, t < 32 → bt (s.2 j) t = sp_bh o d a b n t j)) (n + 1) 0 (r, bo) (Nat.zero_le _) ⟨fun j hj => by show sp_hi o d a b n (r j) j; rw [I j hj]; exact sp_hi_0, fun j hj => sp_lo_0, fun z => absurd z (Nat.not_lt_zero n)⟩ ?_ ?_
    · intro m s I
      exact br_t (nI_lt (by omega) (by omega)) (h s.1 s.2 (fun j hj => sp_is_of (sp_lo_up (I.2.1 j hj)) (I.1 j hj)) (I.2.2 (by omega)))
    · intro m p s hp I ih
      refine br_f (nI_nlt (by omega) (by omega)) (nm_e ?_)
      have K := pk_loopD (fun q i (s : (Nat → Int32) × (Nat → Int32)) => wX_findAlive_40 post (wX_findAlive_25 post (nI n) (nI k) st mv ms mc sv ch ic pa oc ss tk tn m) (nI p) (nI n) (nI k) st mv ms mc sv ch ic pa oc ss tk tn q (nI i - 1) o d a b ld re s.1 s.2 cl co ne fe ip ce ou) (fun i s => i ≤ n ∧ (∀ j, j < n → sp_hi o d a b n (s.1 j) j) ∧ (∀ j, j < n → sp_lo o d a b n p (s.1 j) j) ∧ (∀ j, i ≤ j → j < n → sp_lo o d a b n (p + 1) (s.1 j) j) ∧ (n ≤ p → ∀ j, i ≤ j → j < n → ∀ t, t < 32 → bt (s.2 j) t = sp_bh o d a b n t j)) ?_ ?_ n s ⟨Nat.le_refl n, I.1, I.2.1, fun j p q => by omega, fun _ j p q => by omega⟩
      · exact ⟨n + 1, K⟩
      · intro q s I
        exact br_t (by decide) (nm_r (nI_1 p) (ih s ⟨I.2.1, fun j hj => I.2.2.2.1 j (Nat.zero_le j) hj, fun z j hj => I.2.2.2.2 (by omega) j (Nat.zero_le j) hj⟩))
      · intro q i s I ih
        obtain ⟨hi, I1, I2, I3, I4⟩ := I
        have e : (nI i).toNatClampNeg = i := nI_clamp (by omega)
        have v : vp_in (nI i) 20 := vp_in_nI (by omega) (by decide)
        have eL : sp_or (fun j => bt (ld i) j) s.1 n = sp_or (sp_L o a b i) s.1 n := sp_or_c (fun j hj => by rw [hl i (by omega), sp_lead_b hn, decide_eq_true hj]; rfl) (fun _ _ => rfl)
        rw [nI_pred]
        refine br_f (nI_pos (by omega)) (xl_after hn (by omega) ⟨v, ?_⟩)
        rw [e, eL]
        refine nm_e (xl_used (by omega) ⟨v, xl_dfd (by omega) ⟨v, ?_⟩⟩)
        rw [pk_us]
        refine nm_e (nm_r (xl_m1 i) (ih (upd s.1 i (sp_new o d a b n s.1 i), upd s.2 i (sp_or (sp_L o a b i) s.1 n)) ⟨by omega, ?_, ?_, ?_, ?_⟩))
        · intro j hj
          show sp_hi o d a b n (upd s.1 i (sp_new o d a b n s.1 i) j) j
          by_cases z : j = i
          · rw [z, pk_us]
            exact sp_new_hi ok (by omega) I1
          · rw [pk_un z]
            exact I1 j hj
        · intro j hj
          show sp_lo o d a b n p (upd s.1 i (sp_new o d a b n s.1 i) j) j
          by_cases z : j = i
          · rw [z, pk_us]
            exact sp_lo_up (sp_new_lo ok (by omega) I2)
          · rw [pk_un z]
            exact I2 j hj
        · intro j hj hj2
          show sp_lo o d a b n (p + 1) (upd s.1 i (sp_new o d a b n s.1 i) j) j
          by_cases z : j = i
          · rw [z, pk_us]
            exact sp_new_lo ok (by omega) I2
          · rw [pk_un z]
            exact I3 j (by omega) hj2
        · intro hp2 j hj hj2 t ht
          show bt (upd s.2 i (sp_or (sp_L o a b i) s.1 n) j) t = _
          by_cases z : j = i
          · rw [z, pk_us]
            exact sp_bh_b (fun j hj => sp_is_of (fun t ht e => I2 j hj t ht (lf_mon2 hp2 j e)) (I1 j hj)) ht
          · rw [pk_un z]
            exact I4 hp2 j (by omega) hj2 t ht
  · intro m i r hi I ih
    have e : (nI i).toNatClampNeg = i := nI_clamp (by omega)
    have v : vp_in (nI i) 20 := vp_in_nI (by omega) (by decide)
    refine br_f (nI_ge hi (by omega)) ⟨v, ?_⟩
    rw [e]
    exact nm_e (nm_r (nI_1 i) (ih _ (up_lt I rfl)))
end
end
section
theorem cl_pt {c : Nat → Int32} {R R' : Nat → Nat → Bool} (I : cl_inv c R) (h : ∀ x y, x < 8 → y < 8 → x ≠ y → R x y = R' x y) : cl_inv c R' :=
  cl_cong I (fun x y hx hy z => by rw [h x y hx hy z, h y x hy hx (Ne.symm z)])
theorem cl_sk {c : Nat → Int32} {R : Nat → Nat → Bool} {t u : Nat} {S : Int32} (I : cl_inv c (fun x y => R x y || (decide (x = t) && (decide (y < u) && bt S y)))) (h : u = t ∨ ¬ bt S u = true) : cl_inv c (fun x y => R x y || (decide (x = t) && (decide (y < u + 1) && bt S y))) := by
  refine cl_pt I (fun x y hx hy z => ?_)
  by_cases e : y = u
  · subst e
    rcases h with h | h
    · subst h
      rw [decide_eq_false z]
      simp
    · have g : bt S y = false := by simpa using h
      rw [g]
      simp
  · rw [show decide (y < u + 1) = decide (y < u) from decide_eq_decide.mpr (by omega)]
theorem cl_ad {c : Nat → Int32} {R : Nat → Nat → Bool} {t u : Nat} {S : Int32} (ht : t < 8) (hu : u < 8) (h : ¬ u = t) (hb : bt S u = true) (I : cl_inv c (fun x y => R x y || (decide (x = t) && (decide (y < u) && bt S y)))) : cl_inv (cl_put c t u) (fun x y => R x y || (decide (x = t) && (decide (y < u + 1) && bt S y))) := by
  refine cl_pt (cl_add ht hu (fun z => h z.symm) I) (fun x y hx hy z => ?_)
  by_cases e : y = u
  · subst e
    rw [hb]
    simp
  · rw [show decide (y < u + 1) = decide (y < u) from decide_eq_decide.mpr (by omega), decide_eq_false e]
    simp
section
variable {n k : Nat} {st mv ms mc sv ch ic pa oc ss tk tn : Int32} {o d a b ld re be bo cl co ne fe ip ce ou : Nat → Int32}
theorem xc_add {t : Nat} (ht : t < 8) {S : Int32} {R : Nat → Nat → Bool} (I : cl_inv cl R) {post : SX → Prop} (h : ∀ c, cl_inv c (fun x y => R x y || (decide (x = t) && bt S y)) → post (nI n, nI k, st, mv, ms, mc, sv, ch, ic, pa, oc, ss, tk, tn, o, d, a, b, ld, re, be, bo, c, co, ne, fe, ip, ce, ou)) : wpX_addClashes post (nI n, nI k, st, mv, ms, mc, sv, ch, ic, pa, oc, ss, tk, tn, o, d, a, b, ld, re, be, bo, cl, co, ne, fe, ip, ce, ou) (nI t) S := by
  refine pk_loop (fun m u (c : Nat → Int32) => wX_addClashes_2 post (nI t) S (nI n) (nI k) st mv ms mc sv ch ic pa oc ss tk tn m (nI u) o d a b ld re be bo c co ne fe ip ce ou) (fun u c => cl_inv c (fun x y => R x y || (decide (x = t) && (decide (y < u) && bt S y)))) 8 0 cl (Nat.zero_le 8) (cl_pt I (fun x y _ _ _ => by simp)) ?_ ?_
  · intro m c I
    refine br_t (Int32.le_refl _) (h c (cl_pt I (fun x y _ hy _ => by rw [decide_eq_true hy]; rfl)))
  · intro m u c hu I ih
    have e : (nI t).toNatClampNeg = t := nI_clamp (by omega)
    have e2 : (nI u).toNatClampNeg = u := nI_clamp (by omega)
    have v : vp_in (nI t) 8 := vp_in_nI ht (by decide)
    have v2 : vp_in (nI u) 8 := vp_in_nI hu (by decide)
    refine br_f (nI_ge (b := 8) hu (by decide)) ?_
    by_cases z : u = t
    · exact br_t (by rw [z]) (nm_r (nI_1 u) (ih _ (cl_sk I (Or.inl z))))
    · refine br_f (fun y => z ((nI_eq (by omega) (by omega)).mp y)) ?_
      refine wk_has (by omega) (fun y => br_f (by decide) ⟨v, v, ?_⟩) (fun y => br_t rfl (nm_r (nI_1 u) (ih _ (cl_sk I (Or.inr y)))))
      rw [e, e2]
      exact nm_e ⟨v2, v2, nm_e (nm_r (nI_1 u) (ih _ (cl_ad ht hu z y I)))⟩
theorem sp_C1_n {i x y : Nat} (h : ¬ sp_df (o i) = true) : sp_C1 o d a b n i x y = false := by
  unfold sp_C1 sp_D
  rw [show sp_df (o i) = false by simpa using h]
  rfl
theorem sp_C1_y {i q x y : Nat} {S z : Int32} (h : sp_df (o i) = true) (hq : q < 8) (hx : x < 8) (e : d i = nI q) (hS : bt S y = sp_bh o d a b n y i) (hz : bt z y = (decide (o i = 5) && decide (a i = nI y))) (hy : y < 8) : (decide (x = q) && bt (S &&& (z ^^^ (-1))) y) = sp_C1 o d a b n i x y := by
  unfold sp_C1 sp_D
  rw [h, e, sp_inj (by omega) (by omega), b_and, cx_not _ (by omega), hS, hz, Bool.true_and, show decide (x = q) = decide (q = x) from decide_eq_decide.mpr ⟨Eq.symm, Eq.symm⟩, Bool.and_comm (sp_bh o d a b n y i)]
theorem xc_65 {post : SX → Prop} {J : Int32 → Int32 → Int32 → Int32 → Int32 → Int32 → Int32 → Int32 → Int32 → Int32 → Int32 → Int32 → Int32 → Int32 → Int32 → (Nat → Int32) → (Nat → Int32) → (Nat → Int32) → (Nat → Int32) → (Nat → Int32) → (Nat → Int32) → (Nat → Int32) → (Nat → Int32) → (Nat → Int32) → (Nat → Int32) → (Nat → Int32) → (Nat → Int32) → (Nat → Int32) → (Nat → Int32) → (Nat → Int32) → Prop} {i q : Nat} {z : Int32} (hi : i < 20) (hq : q < 8) (eq : d i = nI q) {R : Nat → Nat → Bool} (I : cl_inv cl R) (h : ∀ c, cl_inv c (fun x y => R x y || (decide (x = q) && bt (bo i &&& (z ^^^ (-1))) y)) → J (nI (i + 1)) (nI n) (nI k) st mv ms mc sv ch ic pa oc ss tk tn o d a b ld re be bo c co ne fe ip ce ou) : wX_findClashes_65 post J (nI i) z (nI n) (nI k) st mv ms mc sv ch ic pa oc ss tk tn o d a b ld re be bo cl co ne fe ip ce ou := by
  have e : (nI i).toNatClampNeg = i := nI_clamp (by omega)
  have v : vp_in (nI i) 20 := vp_in_nI hi (by decide)
  unfold wX_findClashes_65
  rw [e, eq]
  exact ⟨v, v, xc_add hq I (fun c hc => nm_r (nI_1 i) (h c hc))⟩
theorem xc_start {S : Int32} {R : Nat → Nat → Bool} (I : cl_inv cl R) {post : SX → Prop} (h : ∀ c, cl_inv c (fun x y => R x y || (bt S x && bt S y)) → post (nI n, nI k, st, mv, ms, mc, sv, ch, ic, pa, oc, ss, tk, tn, o, d, a, b, ld, re, be, bo, c, co, ne, fe, ip, ce, ou)) : ∃ m, wX_findClashes_112 post S m 0 (nI n) (nI k) st mv ms mc sv ch ic pa oc ss tk tn o d a b ld re be bo cl co ne fe ip ce ou := by
  refine pk_loop (fun m t (c : Nat → Int32) => wX_findClashes_112 post S m (nI t) (nI n) (nI k) st mv ms mc sv ch ic pa oc ss tk tn o d a b ld re be bo c co ne fe ip ce ou) (fun t c => cl_inv c (fun x y => R x y || (decide (x < t) && (bt S x && bt S y)))) 8 0 cl (Nat.zero_le 8) (cl_pt I (fun x y _ _ _ => by simp)) ?_ ?_
  · intro m c I
    refine br_t (Int32.le_refl _) (h c (cl_pt I (fun x y hx _ _ => by rw [decide_eq_true hx]; rfl)))
  · intro m t c ht I ih
    refine br_f (nI_ge (b := 8) ht (by decide)) (wk_has (by omega) (fun y => br_f (by decide) ?_) (fun y => br_t rfl (nm_r (nI_1 t) (ih _ ?_))))
    · refine xc_add ht I (fun c hc => nm_r (nI_1 t) (ih _ (cl_pt hc (fun x w hx hw _ => ?_))))
      by_cases e : x = t
      · subst e
        rw [y]
        simp
      · rw [show decide (x < t + 1) = decide (x < t) from decide_eq_decide.mpr (by omega), decide_eq_false e]
        simp
    · refine cl_pt I (fun x w hx hw _ => ?_)
      by_cases e : x = t
      · subst e
        rw [show bt S x = false by simpa using y]
        simp
      · rw [show decide (x < t + 1) = decide (x < t) from decide_eq_decide.mpr (by omega)]
theorem xc_clashes (hn : n ≤ 20) (ok : sp_ok o d a b n) (hb : ∀ j, j < n → sp_is o d a b n (be j) j) (hbo : ∀ j, j < n → ∀ t, t < 32 → bt (bo j) t = sp_bh o d a b n t j) {post : SX → Prop} (h : ∀ c, cl_inv c (sp_C o d a b n) → post (nI n, nI k, st, mv, ms, mc, sv, ch, ic, pa, oc, ss, tk, tn, o, d, a, b, ld, re, be, bo, c, co, ne, fe, ip, ce, ou)) : wpX_findClashes post (nI n, nI k, st, mv, ms, mc, sv, ch, ic, pa, oc, ss, tk, tn, o, d, a, b, ld, re, be, bo, cl, co, ne, fe, ip, ce, ou) := by
  refine pk_loop (fun m i (c : Nat → Int32) => wX_findClashes_2 post (nI n) (nI k) st mv ms mc sv ch ic pa oc ss tk tn m (nI i) o d a b ld re be bo c co ne fe ip ce ou) (fun i c => ∀ j, j < i → c j = (fun _ => 0) j) 8 0 cl (Nat.zero_le 8) (fun j hj => absurd hj (Nat.not_lt_zero j)) ?_ ?_
  · intro m c I
    refine br_t (Int32.le_refl _) ?_
    refine pk_loop (fun m i (c : Nat → Int32) => wX_findClashes_23 post m (nI i) (nI n) (nI k) st mv ms mc sv ch ic pa oc ss tk tn o d a b ld re be bo c co ne fe ip ce ou) (fun i c => cl_inv c (fun x y => pu_any (fun j => sp_C1 o d a b n j x y) i)) n 0 c (Nat.zero_le n) (cl_0 I) ?_ ?_
    · intro m c I
      refine br_t (Int32.le_refl _) ?_
      by_cases z : n = 0
      · refine br_t (by rw [z]; decide) (xc_start I (fun c hc => h c (cl_pt hc (fun x y _ _ _ => ?_))))
        unfold sp_C
        rw [b_0, z]
        simp
      · refine br_f (nI_nle (by omega) (by omega)) (nm_e (xc_start I (fun c hc => h c (cl_pt hc (fun x y hx hy _ => ?_)))))
        unfold sp_C
        rw [hb 0 (by omega) x (by omega), hb 0 (by omega) y (by omega), decide_eq_true (show 0 < n by omega), Bool.true_and, Bool.or_comm]
    · intro m i c hi I ih
      have e : (nI i).toNatClampNeg = i := nI_clamp (by omega)
      have v : vp_in (nI i) 20 := vp_in_nI (by omega) (by decide)
      obtain ⟨_, k2, k3, _⟩ := ok i hi
      refine br_f (nI_ge hi (by omega)) ⟨v, ?_⟩
      rw [e]
      refine wk_df (fun y => br_f (by decide) ⟨v, ?_⟩) (fun y => br_t rfl (nm_r (nI_1 i) (ih _ (cl_pt I (fun x w _ _ _ => by rw [pu_any, sp_C1_n y, Bool.or_false])))))
      obtain ⟨q, hq, eq⟩ := k2 y
      have G : ∀ z : Int32, (∀ y, y < 8 → bt z y = (decide (o i = 5) && decide (a i = nI y))) → wX_findClashes_65 post (wX_findClashes_23 post m) (nI i) z (nI n) (nI k) st mv ms mc sv ch ic pa oc ss tk tn o d a b ld re be bo c co ne fe ip ce ou := by
        intro z hz
        refine xc_65 (by omega) hq eq I (fun c hc => ih _ (cl_pt hc (fun x w hx hw _ => ?_)))
        rw [pu_any, sp_C1_y y hq hx eq (hbo i hi w (by omega)) (hz w hw) hw]
      by_cases h5 : o i = 5
      · refine br_t h5 ⟨v, G _ (fun y hy => ?_)⟩
        obtain ⟨r, hr, e2⟩ := k3 (by rw [h5]; decide)
        rw [e2, cx_one (by omega), sp_inj (by omega) (by omega), decide_eq_true h5, Bool.true_and]
      · exact br_f h5 (G _ (fun y hy => by rw [b_0, decide_eq_false h5, Bool.false_and]))
  · intro m i r hi I ih
    have e : (nI i).toNatClampNeg = i := nI_clamp (by omega)
    have v : vp_in (nI i) 8 := vp_in_nI (by omega) (by decide)
    refine br_f (nI_ge (b := 8) hi (by decide)) ⟨v, ?_⟩
    rw [e]
    exact nm_e (nm_r (nI_1 i) (ih _ (up_lt I rfl)))
theorem xn_nam (hn : n ≤ 20) (ok : sp_ok o d a b n) {i : Nat} (hi : i < n) {S : Int32} {post : Int32 → Prop} (h : post (nI (sp_nm o d a b (fun q => bt S q) i))) : wpX_namings post (nI n, nI k, st, mv, ms, mc, sv, ch, ic, pa, oc, ss, tk, tn, o, d, a, b, ld, re, be, bo, cl, co, ne, fe, ip, ce, ou) (nI i) S := by
  have e : (nI i).toNatClampNeg = i := nI_clamp (by omega)
  have v : vp_in (nI i) 20 := vp_in_nI (by omega) (by decide)
  obtain ⟨_, k2, k3, k4, _⟩ := ok i hi
  have h : post (nI (((if (sp_df (o i) && bt S (d i).toNatClampNeg) = true then 1 else 0) + (if (sp_ua (o i) && bt S (a i).toNatClampNeg) = true then 1 else 0)) + (if (sp_ub (o i) && bt S (b i).toNatClampNeg) = true then 1 else 0))) := h
  have T58 : ∀ c : Nat, post (nI (c + (if (sp_ub (o i) && bt S (b i).toNatClampNeg) = true then 1 else 0))) → wX_namings_58 post (nI i) S (nI c) (nI n) (nI k) st mv ms mc sv ch ic pa oc ss tk tn o d a b ld re be bo cl co ne fe ip ce ou := by
    intro c hp
    unfold wX_namings_58
    rw [e]
    refine ⟨v, wk_ub (fun y => br_f (by decide) ⟨v, ?_⟩) (fun y => br_t rfl ?_)⟩
    · obtain ⟨q, hq, e2⟩ := k4 y
      rw [e2, nI_clamp (by omega), y] at hp
      rw [e2]
      refine wk_has (by omega) (fun z => br_f (by decide) (nm_r (nI_1 c) ?_)) (fun z => br_t rfl ?_)
      · rw [z] at hp
        exact hp
      · rw [show bt S q = false by simpa using z] at hp
        exact hp
    · rw [show sp_ub (o i) = false by simpa using y] at hp
      exact hp
  have T30 : ∀ c : Nat, post (nI ((c + (if (sp_ua (o i) && bt S (a i).toNatClampNeg) = true then 1 else 0)) + (if (sp_ub (o i) && bt S (b i).toNatClampNeg) = true then 1 else 0))) → wX_namings_30 post (nI i) S (nI c) (nI n) (nI k) st mv ms mc sv ch ic pa oc ss tk tn o d a b ld re be bo cl co ne fe ip ce ou := by
    intro c hp
    unfold wX_namings_30
    rw [e]
    refine ⟨v, wk_ua (fun y => br_f (by decide) ⟨v, ?_⟩) (fun y => br_t rfl (T58 c ?_))⟩
    · obtain ⟨q, hq, e2⟩ := k3 y
      rw [e2, nI_clamp (by omega), y] at hp
      rw [e2]
      refine wk_has (by omega) (fun z => br_f (by decide) (nm_r (nI_1 c) (T58 (c + 1) ?_))) (fun z => br_t rfl (T58 c ?_))
      · rw [z] at hp
        exact hp
      · rw [show bt S q = false by simpa using z] at hp
        exact hp
    · rw [show sp_ua (o i) = false by simpa using y] at hp
      exact hp
  unfold wpX_namings
  dsimp only
  rw [e]
  refine ⟨v, wk_df (fun y => br_f (by decide) ⟨v, ?_⟩) (fun y => br_t rfl (T30 0 ?_))⟩
  · obtain ⟨q, hq, e2⟩ := k2 y
    rw [e2, nI_clamp (by omega), y] at h
    rw [e2]
    refine wk_has (by omega) (fun z => br_f (by decide) (nm_r (e' := nI 1) (by decide) (T30 1 ?_))) (fun z => br_t rfl (T30 0 ?_))
    · rw [z] at h
      exact h
    · rw [show bt S q = false by simpa using z] at h
      exact h
  · rw [show sp_df (o i) = false by simpa using y] at h
    exact h
theorem xn_costs (hn : n ≤ 20) (ok : sp_ok o d a b n) (hr : ∀ j, j < n → re j = sp_way o a b n j) {post : SX → Prop} (h : ∀ c, (∀ t, t < 8 → c t = sp_cost o d a b n t) → post (nI n, nI k, st, mv, ms, mc, sv, ch, ic, pa, oc, ss, tk, tn, o, d, a, b, ld, re, be, bo, cl, c, ne, fe, ip, ce, ou)) : wpX_findCosts post (nI n, nI k, st, mv, ms, mc, sv, ch, ic, pa, oc, ss, tk, tn, o, d, a, b, ld, re, be, bo, cl, co, ne, fe, ip, ce, ou) := by
  refine pk_loop (fun m t (c : Nat → Int32) => wX_findCosts_2 post (nI n) (nI k) st mv ms mc sv ch ic pa oc ss tk tn m (nI t) o d a b ld re be bo cl c ne fe ip ce ou) (fun t c => ∀ j, j < t → c j = sp_cost o d a b n j) 8 0 co (Nat.zero_le 8) (fun j hj => absurd hj (Nat.not_lt_zero j)) ?_ ?_
  · intro m c I
    exact br_t (Int32.le_refl _) (h c I)
  · intro m t c ht I ih
    have e : (nI t).toNatClampNeg = t := nI_clamp (by omega)
    have v : vp_in (nI t) 8 := vp_in_nI ht (by decide)
    refine br_f (nI_ge (b := 8) ht (by decide)) ⟨v, ?_⟩
    rw [e]
    refine nm_e ?_
    refine pk_loop (fun q i (c : Nat → Int32) => wX_findCosts_17 post (wX_findCosts_2 post (nI n) (nI k) st mv ms mc sv ch ic pa oc ss tk tn m) (nI t) (nI n) (nI k) st mv ms mc sv ch ic pa oc ss tk tn q (nI i) o d a b ld re be bo cl c ne fe ip ce ou) (fun i c => c t = sp_co o d a b n t i ∧ ∀ j, j < t → c j = sp_cost o d a b n j) n 0 (upd c t 0) (Nat.zero_le n) ⟨pk_us, fun j hj => by rw [pk_un (by omega)]; exact I j hj⟩ ?_ ?_
    · intro q c I
      refine br_t (Int32.le_refl _) (nm_r (nI_1 t) (ih c (fun j hj => ?_)))
      rcases Nat.lt_or_ge j t with g | g
      · exact I.2 j g
      · have e3 : j = t := by omega
        rw [e3]
        exact I.1
    · intro q i c hi I ih
      have e2 : (nI i).toNatClampNeg = i := nI_clamp (by omega)
      have ef : (fun q => bt ((1 : Int32) <<< (nI t &&& 31)) q) = (fun x => decide (x = t)) := by
        funext q
        rw [cx_one (by omega)]
        exact decide_eq_decide.mpr ⟨Eq.symm, Eq.symm⟩
      have G : ∀ z : Int32, z = sp_wt o a b n i → wX_findCosts_44 post (wX_findCosts_2 post (nI n) (nI k) st mv ms mc sv ch ic pa oc ss tk tn m) (wX_findCosts_17 post (wX_findCosts_2 post (nI n) (nI k) st mv ms mc sv ch ic pa oc ss tk tn m) (nI t) (nI n) (nI k) st mv ms mc sv ch ic pa oc ss tk tn q) (nI t) (nI i) z (nI n) (nI k) st mv ms mc sv ch ic pa oc ss tk tn o d a b ld re be bo cl c ne fe ip ce ou := by
        intro z ez
        refine xn_nam hn ok hi ⟨v, v, ?_⟩
        rw [e, ef]
        refine nm_e (nm_r (nI_1 i) (ih _ ⟨?_, fun j hj => by rw [pk_un (by omega)]; exact I.2 j hj⟩))
        rw [pk_us, I.1, ez, Int32.mul_comm, sp_co]
      refine br_f (nI_ge hi (by omega)) ⟨vp_in_nI (by omega) (by decide), ?_⟩
      rw [e2]
      unfold sp_wt at G
      rw [← hr i hi] at G
      exact wk_has (by omega) (fun z => br_f (by decide) (G _ (if_pos z).symm)) (fun z => br_t rfl (G _ (if_neg z).symm))
end
end
section
theorem gc_col_c {K : Nat → Nat → Bool} {S S' : Nat → Bool} {k : Nat} (h : ∀ t, t < 8 → S t = S' t) (c : gc_col K S k) : gc_col K S' k := by
  obtain ⟨c, hc⟩ := c
  refine ⟨c, fun t ht g => ?_⟩
  obtain ⟨p, q⟩ := hc t ht (by rw [h t ht]; exact g)
  exact ⟨p, fun u hu gu ku => q u hu (by rw [h u hu]; exact gu) ku⟩
theorem nx_or (a b : Nat) : nI a ||| nI b = nI (a ||| b) := by
  apply Int32.toBitVec_inj.1
  show BitVec.ofNat 32 a ||| BitVec.ofNat 32 b = BitVec.ofNat 32 (a ||| b)
  apply BitVec.eq_of_getLsbD_eq
  intro i hi
  simp [hi]
def nd_fr (cl : Nat → Int32) (s : Nat) : Prop := ∀ t, t < 8 → s.testBit t = true → (cl t &&& nI s) = 0
theorem nd_fr_iff {o d a b cl : Nat → Int32} {n : Nat} (I : cl_inv cl (sp_C o d a b n)) {s : Nat} (hs : s < 256) : nd_fr cl s ↔ ∀ t, t < 8 → ∀ u, u < 8 → s.testBit t = true → s.testBit u = true → sp_K o d a b n t u = false := by
  constructor
  · intro h t ht u hu a b
    have e := (cx_zero _).mp (h t ht a) u (by omega)
    rw [b_and, cx_bn _ (by omega), b, sp_K_b I ht hu, Bool.and_true] at e
    exact e
  · intro h t ht a
    apply (cx_zero _).mpr
    intro i hi
    rw [b_and, cx_bn _ hi]
    rcases Nat.lt_or_ge i 8 with g | g
    · cases e : s.testBit i
      · simp
      · rw [sp_K_b I ht g, h t ht i g a e]
        rfl
    · rw [cx_tb hs g, Bool.and_false]
theorem nd_le {fr : Nat → Prop} {N : Nat → Nat} {s q : Nat} (h : nd_ok fr N s) (hq : q < s) : N q ≤ 8 := by
  rcases Nat.eq_zero_or_pos q with e | e
  · rw [e, h.1]
    omega
  · exact (h.2 q e hq).1
section
variable {n k : Nat} {st mv ms mc sv ch ic pa oc ss tk tn : Int32} {o d a b ld re be bo cl co ne fe ip ce ou : Nat → Int32}
theorem xf_free {s : Nat} {post : Int32 → Prop} (t : nd_fr cl s → post 1) (f : ¬ nd_fr cl s → post 0) : wpX_isFreeOfClashes post (nI n, nI k, st, mv, ms, mc, sv, ch, ic, pa, oc, ss, tk, tn, o, d, a, b, ld, re, be, bo, cl, co, ne, fe, ip, ce, ou) (nI s) := by
  refine pk_loop (fun m j (_ : Unit) => wX_isFreeOfClashes_2 post (nI s) (nI n) (nI k) st mv ms mc sv ch ic pa oc ss tk tn o d a b ld re be bo cl co ne fe ip ce ou m (nI j)) (fun j _ => ∀ q, q < j → s.testBit q = true → (cl q &&& nI s) = 0) 8 0 () (Nat.zero_le 8) (fun q hq => absurd hq (Nat.not_lt_zero q)) ?_ ?_
  · intro m _ I
    exact br_t (Int32.le_refl _) (t I)
  · intro m j _ hj I ih
    have e : (nI j).toNatClampNeg = j := nI_clamp (by omega)
    have lt : (s.testBit j = true → (cl j &&& nI s) = 0) → ∀ q, q < j + 1 → s.testBit q = true → (cl q &&& nI s) = 0 := by
      intro z q hq
      rcases Nat.lt_or_ge q j with g | g
      · exact I q g
      · have e3 : q = j := by omega
        rw [e3]
        exact z
    refine br_f (nI_ge (b := 8) hj (by decide)) (wk_has (by omega) (fun y => br_f (by decide) ⟨vp_in_nI hj (by decide), ?_⟩) (fun y => br_t rfl (nm_r (nI_1 j) (ih () (lt (fun z => absurd (by rw [cx_bn _ (by omega)]; exact z) y))))))
    rw [e]
    exact br_c (fun z => nm_r (nI_1 j) (ih () (lt (fun _ => z)))) (fun z => f (fun g => z (g j hj (by rw [← cx_bn s (by omega)]; exact y))))
theorem xf_in {N : Nat → Nat} {s : Nat} (h1 : 1 ≤ s) (hs : s < 256) (ok : nd_ok (nd_fr cl) N s) (hfe : ∀ j, j < 256 → (fe j = 0 ↔ ¬ nd_fr cl j)) (hne : ∀ j, j < s → ne j = nI (N j)) {post : SX → Prop} {J : Int32 → (Nat → Int32) → (Nat → Int32) → (Nat → Int32) → (Nat → Int32) → (Nat → Int32) → (Nat → Int32) → (Nat → Int32) → (Nat → Int32) → (Nat → Int32) → (Nat → Int32) → (Nat → Int32) → (Nat → Int32) → (Nat → Int32) → (Nat → Int32) → (Nat → Int32) → Prop} (h : ∀ (e : Nat → Int32) N', nd_ok (nd_fr cl) N' (s + 1) → (∀ j, j < s + 1 → e j = nI (N' j)) → J (nI (s + 1)) o d a b ld re be bo cl co e fe ip ce ou) : ∃ m, wX_findNeeds_52 post J (nI s) (nI n) (nI k) st mv ms mc sv ch ic pa oc ss tk tn m 1 o d a b ld re be bo cl co (upd ne s 8) fe ip ce ou := by
  refine pk_loop (fun m w (e : Nat → Int32) => wX_findNeeds_52 post J (nI s) (nI n) (nI k) st mv ms mc sv ch ic pa oc ss tk tn m (nI w) o d a b ld re be bo cl co e fe ip ce ou) (fun w e => ∃ y, 1 ≤ w ∧ nd_in (nd_fr cl) N s w y ∧ e s = nI y ∧ ∀ j, j < s → e j = nI (N j)) (s + 1) 1 (upd ne s 8) (by omega) ⟨8, Nat.le_refl 1, nd_in0, pk_us, fun j hj => by rw [pk_un (by omega)]; exact hne j hj⟩ ?_ ?_
  · intro m e I
    obtain ⟨y, _, I1, I2, I3⟩ := I
    refine br_t (nI_lt (by omega) (by omega)) (nm_r (nI_1 s) (h e _ (nd_step hs h1 ok I1) (fun j hj => ?_)))
    show e j = nI (if j = s then y else N j)
    by_cases z : j = s
    · rw [if_pos z, z]
      exact I2
    · rw [if_neg z]
      exact I3 j (by omega)
  · intro m w e hw I ih
    obtain ⟨y, w1, I1, I2, I3⟩ := I
    have ew : (nI w).toNatClampNeg = w := nI_clamp (by omega)
    have es : (nI s).toNatClampNeg = s := nI_clamp (by omega)
    refine br_f (nI_nlt (by omega) (by omega)) ?_
    by_cases z : gc_sub w s
    · have zl := gc_xor_less (by omega) hs z w1
      have ex : (nI (s ^^^ w)).toNatClampNeg = s ^^^ w := nI_clamp (by omega)
      have N8 := nd_le ok zl
      have y8 := I1.1
      refine br_t ((cx_sub (by omega)).mpr z) ⟨vp_in_nI (by omega) (by decide), ?_⟩
      rw [ew]
      refine br_c (fun g => nm_r (nI_1 w) (ih e ⟨y, by omega, nd_in_n I1 (fun _ g2 => absurd g2 ((hfe w (by omega)).mp g)), I2, I3⟩)) (fun g => ?_)
      rw [nx_xor, ex, es, I2, I3 _ zl, nI_1]
      have vx : vp_in (nI (s ^^^ w)) 256 := vp_in_nI (by omega) (by decide)
      have vs : vp_in (nI s) 256 := vp_in_nI (by omega) (by decide)
      have fw : nd_fr cl w := Classical.byContradiction (fun q => g ((hfe w (by omega)).mpr q))
      refine ⟨vx, vs, ?_⟩
      by_cases c : y ≤ N (s ^^^ w) + 1
      · exact br_t (nI_le c (by omega)) (nm_r (nI_1 w) (ih e ⟨y, by omega, nd_in_n I1 (fun _ _ => c), I2, I3⟩))
      · refine br_f (fun q => c ((nI_leI (by omega) (by omega)).mp q)) ⟨vx, vs, nm_e (nm_r (nI_1 w) (ih _ ⟨N (s ^^^ w) + 1, by omega, nd_in_y I1 w1 (by omega) z fw (by omega), pk_us, fun j hj => by rw [pk_un (by omega)]; exact I3 j hj⟩))⟩
    · exact br_f (fun q => z ((cx_sub (by omega)).mp q)) (nm_r (nI_1 w) (ih e ⟨y, by omega, nd_in_n I1 (fun q => absurd q z), I2, I3⟩))
theorem xf_needs {post : SX → Prop} (h : ∀ (f e : Nat → Int32) N, nd_ok (nd_fr cl) N 256 → (∀ j, j < 256 → e j = nI (N j)) → post (nI n, nI k, st, mv, ms, mc, sv, ch, ic, pa, oc, ss, tk, tn, o, d, a, b, ld, re, be, bo, cl, co, e, f, ip, ce, ou)) : wpX_findNeeds post (nI n, nI k, st, mv, ms, mc, sv, ch, ic, pa, oc, ss, tk, tn, o, d, a, b, ld, re, be, bo, cl, co, ne, fe, ip, ce, ou) := by
  refine pk_loop (fun m s (f : Nat → Int32) => wX_findNeeds_2 post (nI n) (nI k) st mv ms mc sv ch ic pa oc ss tk tn m (nI s) o d a b ld re be bo cl co ne f ip ce ou) (fun s f => ∀ j, j < s → (f j = 0 ↔ ¬ nd_fr cl j)) 256 0 fe (Nat.zero_le _) (fun j hj => absurd hj (Nat.not_lt_zero j)) ?_ ?_
  · intro m f I
    have nd_e0 : ∀ j, j < 1 → upd ne 0 0 j = nI 0 := by
      intro j hj
      have z : j = 0 := by omega
      rw [z, pk_us]
      rfl
    refine br_t (Int32.le_refl _) (nm_e ?_)
    refine pk_loop (fun m s (e : Nat → Int32) => wX_findNeeds_35 post (nI n) (nI k) st mv ms mc sv ch ic pa oc ss tk tn m (nI s) o d a b ld re be bo cl co e f ip ce ou) (fun s e => 1 ≤ s ∧ ∃ N, nd_ok (nd_fr cl) N s ∧ ∀ j, j < s → e j = nI (N j)) 256 1 (upd ne 0 0) (by decide) ⟨Nat.le_refl 1, fun _ => 0, ⟨rfl, fun q p r => by omega⟩, nd_e0⟩ ?_ ?_
    · intro m e J
      obtain ⟨_, N, J1, J2⟩ := J
      exact br_t (Int32.le_refl _) (h f e N J1 J2)
    · intro m s e hs J ih
      obtain ⟨s1, N, J1, J2⟩ := J
      have es : (nI s).toNatClampNeg = s := nI_clamp (by omega)
      refine br_f (nI_ge (b := 256) hs (by decide)) ⟨vp_in_nI hs (by decide), ?_⟩
      rw [es]
      exact nm_e (xf_in s1 hs J1 I J2 (fun e N' a b => ih e ⟨by omega, N', a, b⟩))
  · intro m s f hs I ih
    have es : (nI s).toNatClampNeg = s := nI_clamp (by omega)
    have v : vp_in (nI s) 256 := vp_in_nI hs (by decide)
    have S : ∀ x : Int32, (x = 0 ↔ ¬ nd_fr cl s) → ∀ j, j < s + 1 → (upd f s x j = 0 ↔ ¬ nd_fr cl j) := by
      intro x hx j hj
      by_cases z : j = s
      · rw [z, pk_us]
        exact hx
      · rw [pk_un z]
        exact I j (by omega)
    refine br_f (nI_ge (b := 256) hs (by decide)) (xf_free (fun z => ⟨v, ?_⟩) (fun z => ⟨v, ?_⟩))
    · rw [es]
      exact nm_r (e' := upd f s 1) rfl (nm_r (nI_1 s) (ih _ (S 1 ⟨fun q => absurd q (by decide), fun q => absurd z q⟩)))
    · rw [es]
      exact nm_r (e' := upd f s 0) rfl (nm_r (nI_1 s) (ih _ (S 0 ⟨fun _ => z, fun _ => rfl⟩)))
theorem xf_moves (hn : n ≤ 20) {post : SX → Prop} (h : post (nI n, nI k, st, nI (sp_mv o n), ms, mc, sv, ch, ic, pa, oc, ss, tk, tn, o, d, a, b, ld, re, be, bo, cl, co, ne, fe, ip, ce, ou)) : wpX_countMoves post (nI n, nI k, st, mv, ms, mc, sv, ch, ic, pa, oc, ss, tk, tn, o, d, a, b, ld, re, be, bo, cl, co, ne, fe, ip, ce, ou) := by
  refine pk_loop (fun m i (c : Int32) => wX_countMoves_7 post (nI n) (nI k) st ms mc sv ch ic pa oc ss tk tn o d a b ld re be bo cl co ne fe ip ce ou m (nI i) c) (fun i c => c = nI (pu_cnt (fun i => decide (o i = 5)) i)) n 0 0 (Nat.zero_le n) rfl ?_ ?_
  · intro m c I
    refine br_t (Int32.le_refl _) ?_
    rw [I]
    exact h
  · intro m i c hi I ih
    have e : (nI i).toNatClampNeg = i := nI_clamp (by omega)
    refine br_f (nI_ge hi (by omega)) ⟨vp_in_nI (by omega) (by decide), ?_⟩
    rw [e]
    refine br_c (fun z => nm_r (by rw [I, nI_1]) (nm_r (nI_1 i) (ih _ ?_))) (fun z => nm_r (nI_1 i) (ih _ ?_))
    · rw [pu_cnt, if_pos (decide_eq_true z)]
    · rw [pu_cnt, if_neg (by rw [decide_eq_true_eq]; exact z)]
      exact I
theorem xf_cost {s : Nat} (hc : ∀ t, t < 8 → co t = sp_cost o d a b n t) {post : Int32 → Prop} (h : post (sp_sum o d a b n s)) : wpX_costOf post (nI n, nI k, st, mv, ms, mc, sv, ch, ic, pa, oc, ss, tk, tn, o, d, a, b, ld, re, be, bo, cl, co, ne, fe, ip, ce, ou) (nI s) := by
  refine pk_loop (fun m t (x : Int32) => wX_costOf_4 post (nI s) (nI n) (nI k) st mv ms mc sv ch ic pa oc ss tk tn o d a b ld re be bo cl co ne fe ip ce ou m x (nI t)) (fun t x => x = sp_sm o d a b n s t) 8 0 0 (Nat.zero_le 8) rfl ?_ ?_
  · intro m x I
    refine br_t (Int32.le_refl _) ?_
    rw [I]
    exact h
  · intro m t x ht I ih
    have e : (nI t).toNatClampNeg = t := nI_clamp (by omega)
    refine br_f (nI_ge (b := 8) ht (by decide)) (wk_has (by omega) (fun y => br_f (by decide) ⟨vp_in_nI ht (by decide), ?_⟩) (fun y => br_t rfl (nm_r (nI_1 t) (ih _ ?_))))
    · rw [e]
      rw [cx_bn _ (by omega)] at y
      refine nm_e (nm_r (nI_1 t) (ih _ ?_))
      rw [sp_sm, if_pos y, I, hc t ht]
    · rw [cx_bn _ (by omega)] at y
      rw [sp_sm, if_neg y]
      exact I
theorem xm_F {N : Nat → Nat} (I : cl_inv cl (sp_C o d a b n)) (ok : nd_ok (nd_fr cl) N 256) {s : Nat} (hs : s < 256) : sp_F o d a b n k s ↔ N (255 ^^^ s) ≤ k := by
  have e := nd_col (K := sp_K o d a b n) (fr := nd_fr cl) (fun t _ => sp_K_i o d a b n t) (fun s hs => nd_fr_iff I hs) ok (s := 255 ^^^ s) (k := k) (gc_xor_lt hs (by decide))
  rw [← e]
  have tb : ∀ t, t < 8 → (!s.testBit t) = (255 ^^^ s).testBit t := by
    intro t ht
    rw [Nat.testBit_xor, (by decide : ∀ t, t < 8 → (255 : Nat).testBit t = true) t ht]
    simp
  exact ⟨gc_col_c tb, gc_col_c (fun t ht => (tb t ht).symm)⟩
theorem xm_mem {N : Nat → Nat} (hk : k ≤ 4) (I : cl_inv cl (sp_C o d a b n)) (ok : nd_ok (nd_fr cl) N 256) (hne : ∀ j, j < 256 → ne j = nI (N j)) (hc : ∀ t, t < 8 → co t = sp_cost o d a b n t) {post : SX → Prop} (h : ∀ m, sp_M o d a b n k m → post (nI n, nI k, st, mv, nI m, sp_sum o d a b n m, sv, ch, ic, pa, oc, ss, tk, tn, o, d, a, b, ld, re, be, bo, cl, co, ne, fe, ip, ce, ou)) : wpX_chooseMemory post (nI n, nI k, st, mv, ms, mc, sv, ch, ic, pa, oc, ss, tk, tn, o, d, a, b, ld, re, be, bo, cl, co, ne, fe, ip, ce, ou) := by
  refine xf_cost (s := 255) hc ?_
  have K := pk_loopD (fun q i (p : Nat) => wX_chooseMemory_22 post (nI n) (nI k) st mv sv ch ic pa oc ss tk tn o d a b ld re be bo cl co ne fe ip ce ou q (nI i - 1) (nI p) (sp_sum o d a b n p)) (fun i p => i ≤ 255 ∧ am_dn (sp_F o d a b n k) (fun s => (sp_sum o d a b n s).toInt) i p) ?_ ?_ 255 255 ⟨Nat.le_refl _, am_dn0 sp_F_255⟩
  · exact ⟨256, K⟩
  · intro q p J
    exact br_t (by decide) (h p (am_dn_is J.2))
  · intro q i p J ih
    obtain ⟨hi, J⟩ := J
    have ex : (255 : Int32) ^^^ nI i = nI (255 ^^^ i) := nx_xor 255 i
    have lx : 255 ^^^ i < 256 := gc_xor_lt (by omega) (by decide)
    have ec : (nI (255 ^^^ i)).toNatClampNeg = 255 ^^^ i := nI_clamp (by omega)
    have N8 := nd_le ok lx
    rw [nI_pred]
    refine br_f (nI_pos (by omega)) (xf_cost hc ?_)
    rw [ex, ec, hne _ lx]
    refine ⟨vp_in_nI lx (by decide), ?_⟩
    by_cases z : k < N (255 ^^^ i)
    · exact br_t (nI_lt z (by omega)) (nm_r (xl_m1 i) (ih p ⟨by omega, am_dn_n J (fun g => absurd ((xm_F I ok (by omega)).mp g) (by omega))⟩))
    · refine br_f (nI_nlt (by omega) (by omega)) ?_
      have g : sp_F o d a b n k i := (xm_F I ok (by omega)).mpr (by omega)
      by_cases y : sp_sum o d a b n p < sp_sum o d a b n i
      · exact br_t y (nm_r (xl_m1 i) (ih p ⟨by omega, am_dn_n J (fun _ => Int32.lt_iff_toInt_lt.mp y)⟩))
      · exact br_f y (nm_r (xl_m1 i) (ih i ⟨by omega, am_dn_y J g (Int32.le_iff_toInt_le.mp (Int32.not_lt.mp y))⟩))
end
end
section
theorem xr_sh : ∀ t, t < 8 → ((1 : Int32) <<< ((14 - (2 * nI t)) &&& 31)) - 1 = nI (2 ^ (14 - 2 * t) - 1) := by decide +kernel
theorem xr_skip {v t : Nat} (hv : v < 65536) (ht : t < 8) : (nI v ||| (((1 : Int32) <<< ((14 - (2 * nI t)) &&& 31)) - 1)) + 1 = nI (xd_skip v t) := by
  rw [xr_sh t ht, nx_or, xd_or, nI_1]
  have p := Nat.two_pow_pos (14 - 2 * t)
  have q : 0 < (v / 2 ^ (14 - 2 * t) + 1) * 2 ^ (14 - 2 * t) := Nat.mul_pos (Nat.succ_pos _) p
  unfold xd_skip
  congr 1
  omega
/-- what the count of allocations has found below v -/
def xr_inv (V : (Nat → Nat) → Prop) (S : (Nat → Nat) → Nat) (v : Nat) (sv ch : Int32) : Prop :=
  (sv = -1 ∧ ch = 0 ∧ ∀ u, u < v → ¬ V (xd_g u)) ∨ (∃ c, c < v ∧ ch = nI c ∧ sv = nI (S (xd_g c)) ∧ V (xd_g c) ∧ (∀ u, u < v → V (xd_g u) → S (xd_g u) ≤ S (xd_g c)) ∧ (∀ u, u < c → V (xd_g u) → S (xd_g u) < S (xd_g c)))
theorem xr_none {V : (Nat → Nat) → Prop} {S : (Nat → Nat) → Nat} {v w : Nat} {sv ch : Int32} (I : xr_inv V S v sv ch) (hw : v ≤ w) (h : ∀ u, v ≤ u → u < w → ¬ V (xd_g u)) : xr_inv V S w sv ch := by
  rcases I with ⟨a, b, c⟩ | ⟨c, c1, c2, c3, c4, c5, c6⟩
  · refine Or.inl ⟨a, b, fun u hu => ?_⟩
    rcases Nat.lt_or_ge u v with g | g
    · exact c u g
    · exact h u g hu
  · refine Or.inr ⟨c, by omega, c2, c3, c4, fun u hu z => ?_, c6⟩
    rcases Nat.lt_or_ge u v with g | g
    · exact c5 u g z
    · exact absurd z (h u g hu)
theorem xr_keep {V : (Nat → Nat) → Prop} {S : (Nat → Nat) → Nat} {v : Nat} {sv ch : Int32} (hS : ∀ c, S c ≤ 20) (I : xr_inv V S v sv ch) (h : nI (S (xd_g v)) ≤ sv) : xr_inv V S (v + 1) sv ch := by
  rcases I with ⟨a, b, c⟩ | ⟨c, c1, c2, c3, c4, c5, c6⟩
  · rw [a] at h
    have z := nI_pos' (n := S (xd_g v)) (by have := hS (xd_g v); omega)
    exact absurd (Int32.le_trans z h) (by decide)
  · rw [c3, nI_leI (by have := hS (xd_g v); omega) (by have := hS (xd_g c); omega)] at h
    refine Or.inr ⟨c, by omega, c2, c3, c4, fun u hu z => ?_, c6⟩
    rcases Nat.lt_or_ge u v with g | g
    · exact c5 u g z
    · have e : u = v := by omega
      rw [e]
      exact h
theorem xr_take {V : (Nat → Nat) → Prop} {S : (Nat → Nat) → Nat} {v : Nat} {sv ch : Int32} (hS : ∀ c, S c ≤ 20) (I : xr_inv V S v sv ch) (hv : V (xd_g v)) (h : ¬ nI (S (xd_g v)) ≤ sv) : xr_inv V S (v + 1) (nI (S (xd_g v))) (nI v) := by
  refine Or.inr ⟨v, by omega, rfl, rfl, hv, ?_, ?_⟩
  · intro u hu z
    rcases Nat.lt_or_ge u v with g | g
    · rcases I with ⟨a, b, c⟩ | ⟨c, c1, c2, c3, c4, c5, c6⟩
      · exact absurd z (c u g)
      · rw [c3, nI_leI (by have := hS (xd_g v); omega) (by have := hS (xd_g c); omega)] at h
        have := c5 u g z
        omega
    · have e : u = v := by omega
      rw [e]
      exact Nat.le_refl _
  · intro u g z
    rcases I with ⟨a, b, c⟩ | ⟨c, c1, c2, c3, c4, c5, c6⟩
    · exact absurd z (c u g)
    · rw [c3, nI_leI (by have := hS (xd_g v); omega) (by have := hS (xd_g c); omega)] at h
      have := c5 u g z
      omega
section
variable {n k : Nat} {st mv ms mc sv ch ic pa oc ss tk tn : Int32} {o d a b ld re be bo cl co ne fe ip ce ou : Nat → Int32}
/-- all seen: the first that saves most -/
theorem xr_end {m : Nat} {sv ch : Int32} (ok : sp_ok o d a b n) (hk : k ≤ 4) (hF : sp_F o d a b n k m) (I : xr_inv (gc_vd (sp_K o d a b n) (fun t => m.testBit t) k) (sp_sv o d a n (fun t => m.testBit t)) 65536 sv ch) : ∃ v, v < 65536 ∧ ch = nI v ∧ sp_B o d a b n k m (xd_g v) ∧ sv = nI (sp_sv o d a n (fun t => m.testBit t) (xd_g v)) := by
  have d4 : ∀ c, gc_vd (sp_K o d a b n) (fun t => m.testBit t) k c → ∀ t, t < 8 → c t < 4 := by
    intro c hc t ht
    cases w : m.testBit t
    · exact Nat.lt_of_lt_of_le ((hc t ht).2 w).1 hk
    · rw [(hc t ht).1 w]
      decide
  rcases I with ⟨_, _, I⟩ | ⟨c, c1, c2, c3, c4, c5, c6⟩
  · obtain ⟨c, hc⟩ := sp_F_vd.mp hF
    exact absurd (gc_vd_cong (xd_of_g (d4 c hc)) hc) (I (xd_of c) (xd_of_lt (d4 c hc)))
  · refine ⟨c, c1, c2, ⟨c4, fun x hx => ?_, fun x hx g => ?_⟩, c3⟩
    · rw [← sp_sv_c ok (xd_of_g (d4 x hx))]
      exact c5 _ (xd_of_lt (d4 x hx)) (gc_vd_cong (xd_of_g (d4 x hx)) hx)
    · rw [← sp_sv_c ok (xd_of_g (d4 x hx))]
      exact c6 _ (xd_lx (xd_of_lt (d4 x hx)) (lx_cong (fun _ _ => rfl) (xd_of_g (d4 x hx)) g)) (gc_vd_cong (xd_of_g (d4 x hx)) hx)
theorem xr_fits {v t m : Nat} (hk : k ≤ 4) (hv : v < 65536) (ht : t < 8) (I : cl_inv cl (sp_C o d a b n)) {post : Int32 → Prop} (T : gc_ft (sp_K o d a b n) (fun t => m.testBit t) k (xd_g v) t → post 1) (F : ¬ gc_ft (sp_K o d a b n) (fun t => m.testBit t) k (xd_g v) t → post 0) : wpX_fits post (nI n, nI k, st, mv, nI m, mc, sv, ch, ic, pa, oc, ss, tk, tn, o, d, a, b, ld, re, be, bo, cl, co, ne, fe, ip, ce, ou) (nI v) (nI t) := by
  have e : (nI t).toNatClampNeg = t := nI_clamp (by omega)
  have x4 : ∀ t, xd_g v t < 4 := fun t => Nat.mod_lt _ (by decide)
  unfold wpX_fits
  dsimp only
  refine wk_reg hv ht ?_
  refine wk_has (by omega) (fun y => br_f (by decide) ?_) (fun y => br_t rfl ?_)
  · rw [cx_bn _ (by omega)] at y
    have q := x4 t
    refine br_c (fun z => T ⟨fun _ => ?_, fun w => absurd (y.symm.trans w) (by decide)⟩) (fun z => F (fun g => z (by rw [g.1 y]; rfl)))
    have z2 : nI (xd_g v t) = nI 0 := z
    rw [nI_eq (by omega) (by decide)] at z2
    exact z2
  · rw [cx_bn _ (by omega)] at y
    have y2 : m.testBit t = false := by simpa using y
    have q := x4 t
    by_cases z : xd_g v t < k
    · refine br_t (nI_lt z (by omega)) ⟨vp_in_nI ht (by decide), ?_⟩
      rw [e]
      refine nm_e ?_
      refine pk_loop (fun q u (_ : Unit) => wX_fits_55 post (nI v) (nI t) (nI (xd_g v t)) (cl t &&& (nI m ^^^ (-1))) (nI n) (nI k) st mv (nI m) mc sv ch ic pa oc ss tk tn o d a b ld re be bo cl co ne fe ip ce ou q (nI u)) (fun u _ => ∀ w, w < u → m.testBit w = false → sp_K o d a b n t w = true → xd_g v w ≠ xd_g v t) t 0 () (Nat.zero_le t) (fun w hw => absurd hw (Nat.not_lt_zero w)) ?_ ?_
      · intro q _ J
        exact br_t (Int32.le_refl _) (T ⟨fun w => absurd w y, fun _ => ⟨z, J⟩⟩)
      · intro q u _ hu J ih
        have hb : bt (cl t &&& (nI m ^^^ (-1))) u = (sp_K o d a b n t u && !m.testBit u) := by
          rw [b_and, cx_not _ (by omega), cx_bn _ (by omega), sp_K_b I ht (by omega)]
        have S : (m.testBit u = false → sp_K o d a b n t u = true → xd_g v u ≠ xd_g v t) → ∀ w, w < u + 1 → m.testBit w = false → sp_K o d a b n t w = true → xd_g v w ≠ xd_g v t := by
          intro g w hw
          rcases Nat.lt_or_ge w u with g2 | g2
          · exact J w g2
          · have e3 : w = u := by omega
            rw [e3]
            exact g
        refine br_f (nI_ge hu (by omega)) (wk_has (by omega) (fun y => br_f (by decide) (wk_reg hv (by omega) ?_)) (fun y => br_t rfl (nm_r (nI_1 u) (ih () (S (fun g1 g2 => absurd (by rw [hb, g1, g2]; rfl) y))))))
        rw [hb, Bool.and_eq_true] at y
        have qu := x4 u
        refine br_c (fun z => F (fun g => (g.2 y2).2 u hu (by simpa using y.2) y.1 ((nI_eq (by omega) (by omega)).mp z))) (fun z => nm_r (nI_1 u) (ih () (S (fun _ _ g => z (by rw [g])))))
    · exact br_f (nI_nlt (by omega) (by omega)) (F (fun g => z (g.2 y2).1))
theorem xr_first {v m : Nat} (hk : k ≤ 4) (hv : v < 65536) (I : cl_inv cl (sp_C o d a b n)) {post : Int32 → Prop} (T : gc_vd (sp_K o d a b n) (fun t => m.testBit t) k (xd_g v) → post 8) (F : ∀ t, t < 8 → ¬ gc_ft (sp_K o d a b n) (fun t => m.testBit t) k (xd_g v) t → post (nI t)) : wpX_firstMisfit post (nI n, nI k, st, mv, nI m, mc, sv, ch, ic, pa, oc, ss, tk, tn, o, d, a, b, ld, re, be, bo, cl, co, ne, fe, ip, ce, ou) (nI v) := by
  refine pk_loop (fun q t (_ : Unit) => wX_firstMisfit_2 post (nI v) (nI n) (nI k) st mv (nI m) mc sv ch ic pa oc ss tk tn o d a b ld re be bo cl co ne fe ip ce ou q (nI t)) (fun t _ => ∀ u, u < t → gc_ft (sp_K o d a b n) (fun t => m.testBit t) k (xd_g v) u) 8 0 () (Nat.zero_le 8) (fun w hw => absurd hw (Nat.not_lt_zero w)) ?_ ?_
  · intro q _ J
    exact br_t (Int32.le_refl _) (T J)
  · intro q t _ ht J ih
    refine br_f (nI_ge (b := 8) ht (by decide)) (xr_fits hk hv ht I (fun z => br_f (by decide) (nm_r (nI_1 t) (ih () (fun u hu => ?_)))) (fun z => br_t rfl (F t ht z)))
    rcases Nat.lt_or_ge u t with g | g
    · exact J u g
    · have e : u = t := by omega
      rw [e]
      exact z
theorem xr_saved {i v m : Nat} (hn : n ≤ 20) (ok : sp_ok o d a b n) (hi : i < n) (hv : v < 65536) {post : Int32 → Prop} (T : sp_sv1 o d a (fun t => m.testBit t) (xd_g v) i = true → post 1) (F : ¬ sp_sv1 o d a (fun t => m.testBit t) (xd_g v) i = true → post 0) : wpX_isSaved post (nI n, nI k, st, mv, nI m, mc, sv, ch, ic, pa, oc, ss, tk, tn, o, d, a, b, ld, re, be, bo, cl, co, ne, fe, ip, ce, ou) (nI i) (nI v) := by
  have e : (nI i).toNatClampNeg = i := nI_clamp (by omega)
  have w : vp_in (nI i) 20 := vp_in_nI (by omega) (by decide)
  have x4 : ∀ t, xd_g v t < 4 := fun t => Nat.mod_lt _ (by decide)
  unfold wpX_isSaved
  dsimp only
  rw [e]
  unfold sp_sv1 at T F
  dsimp only at T F
  by_cases h5 : o i = 5
  · obtain ⟨_, k2, k3, _⟩ := ok i hi
    obtain ⟨p, hp, e2⟩ := k2 (by rw [h5]; decide)
    obtain ⟨q, hq, e3⟩ := k3 (by rw [h5]; decide)
    rw [e2, e3, nI_clamp (by omega), nI_clamp (by omega), decide_eq_true h5, Bool.true_and] at T F
    rw [e2, e3]
    refine ⟨w, br_t h5 ⟨w, nm_e ⟨w, nm_e ?_⟩⟩⟩
    by_cases z : nI p = nI q
    · exact br_t z (T (by rw [decide_eq_true z]; rfl))
    · rw [decide_eq_false z, Bool.false_or] at T F
      refine br_f z (wk_has (by omega) (fun y => br_f (by decide) (F ?_)) (fun y => br_t rfl (wk_has (by omega) (fun y2 => br_f (by decide) (F ?_)) (fun y2 => br_t rfl (wk_reg hv hp (wk_reg hv hq ?_))))))
      · rw [cx_bn _ (by omega)] at y
        rw [y]
        simp
      · rw [cx_bn _ (by omega)] at y2
        rw [y2]
        simp
      · rw [cx_bn _ (by omega)] at y y2
        have y' : m.testBit p = false := by simpa using y
        have y2' : m.testBit q = false := by simpa using y2
        rw [y', y2'] at T F
        have q1 := x4 p
        have q2 := x4 q
        refine br_c (fun g => T ?_) (fun g => F ?_)
        · rw [nI_eq (by omega) (by omega)] at g
          simp [g]
        · rw [nI_eq (by omega) (by omega)] at g
          simp [g]
  · exact ⟨w, br_f h5 (F (by rw [decide_eq_false h5]; simp))⟩
theorem xr_better {v m : Nat} (hn : n ≤ 20) (ok : sp_ok o d a b n) (hv : v < 65536) {post : SX → Prop} (A : nI (sp_sv o d a n (fun t => m.testBit t) (xd_g v)) ≤ sv → post (nI n, nI k, st, mv, nI m, mc, sv, ch, ic, pa, oc, ss, tk, tn, o, d, a, b, ld, re, be, bo, cl, co, ne, fe, ip, ce, ou)) (B : ¬ nI (sp_sv o d a n (fun t => m.testBit t) (xd_g v)) ≤ sv → post (nI n, nI k, st, mv, nI m, mc, nI (sp_sv o d a n (fun t => m.testBit t) (xd_g v)), nI v, ic, pa, oc, ss, tk, tn, o, d, a, b, ld, re, be, bo, cl, co, ne, fe, ip, ce, ou)) : wpX_keepIfBetter post (nI n, nI k, st, mv, nI m, mc, sv, ch, ic, pa, oc, ss, tk, tn, o, d, a, b, ld, re, be, bo, cl, co, ne, fe, ip, ce, ou) (nI v) := by
  refine pk_loop (fun q i (c : Int32) => wX_keepIfBetter_4 post (nI v) (nI n) (nI k) st mv (nI m) mc sv ch ic pa oc ss tk tn o d a b ld re be bo cl co ne fe ip ce ou q c (nI i)) (fun i c => c = nI (pu_cnt (sp_sv1 o d a (fun t => m.testBit t) (xd_g v)) i)) n 0 0 (Nat.zero_le n) rfl ?_ ?_
  · intro q c J
    refine br_t (Int32.le_refl _) ?_
    rw [J]
    exact br_c A B
  · intro q i c hi J ih
    refine br_f (nI_ge hi (by omega)) (xr_saved hn ok hi hv (fun z => br_f (by decide) (nm_r (by rw [J, nI_1]) (nm_r (nI_1 i) (ih _ ?_)))) (fun z => br_t rfl (nm_r (nI_1 i) (ih _ ?_))))
    · rw [pu_cnt, if_pos z]
    · rw [pu_cnt, if_neg z]
      exact J
theorem xr_regs {m : Nat} (hn : n ≤ 20) (ok : sp_ok o d a b n) (hk : k ≤ 4) (I : cl_inv cl (sp_C o d a b n)) (hF : sp_F o d a b n k m) {post : SX → Prop} (h : ∀ v, v < 65536 → sp_B o d a b n k m (xd_g v) → post (nI n, nI k, st, nI (sp_mv o n), nI m, mc, nI (sp_sv o d a n (fun t => m.testBit t) (xd_g v)), nI v, ic, pa, oc, ss, tk, tn, o, d, a, b, ld, re, be, bo, cl, co, ne, fe, ip, ce, ou)) : wpX_chooseRegisters post (nI n, nI k, st, nI (sp_mv o n), nI m, mc, sv, ch, ic, pa, oc, ss, tk, tn, o, d, a, b, ld, re, be, bo, cl, co, ne, fe, ip, ce, ou) := by
  have m20 : sp_mv o n ≤ 20 := Nat.le_trans (pu_cnt_le _ n) hn
  have S20 : ∀ c, sp_sv o d a n (fun t => m.testBit t) c ≤ 20 := fun c => Nat.le_trans (sp_sv_le o d a n _ c) m20
  have E : ∀ sv ch : Int32, xr_inv (gc_vd (sp_K o d a b n) (fun t => m.testBit t) k) (sp_sv o d a n (fun t => m.testBit t)) 65536 sv ch → post (nI n, nI k, st, nI (sp_mv o n), nI m, mc, sv, ch, ic, pa, oc, ss, tk, tn, o, d, a, b, ld, re, be, bo, cl, co, ne, fe, ip, ce, ou) := by
    intro sv ch J
    obtain ⟨v, hv, e1, e2, e3⟩ := xr_end ok hk hF J
    rw [e1, e3]
    exact h v hv e2
  refine pk_loop (fun q w (s : Nat × Int32 × Int32) => wX_chooseRegisters_14 post q (nI s.1) (nI w) (nI n) (nI k) st (nI (sp_mv o n)) (nI m) mc s.2.1 s.2.2 ic pa oc ss tk tn o d a b ld re be bo cl co ne fe ip ce ou) (fun w s => w ≤ s.1 ∧ s.1 ≤ 65536 ∧ xr_inv (gc_vd (sp_K o d a b n) (fun t => m.testBit t) k) (sp_sv o d a n (fun t => m.testBit t)) s.1 s.2.1 s.2.2) 65536 0 (0, -1, 0) (Nat.zero_le _) ⟨Nat.le_refl 0, by decide, Or.inl ⟨rfl, rfl, fun u hu => absurd hu (Nat.not_lt_zero u)⟩⟩ ?_ ?_
  · intro q s J
    have e : s.1 = 65536 := by omega
    refine br_t (Int32.le_refl _) (E _ _ ?_)
    rw [← e]
    exact J.2.2
  · intro q w s hw J ih
    obtain ⟨v, sv, ch⟩ := s
    obtain ⟨J1, J2, J3⟩ := J
    dsimp only at J1 J2 J3 ih ⊢
    refine br_f (nI_ge (b := 65536) hw (by decide)) ?_
    by_cases z : v = 65536
    · rw [z] at J3 ⊢
      exact br_t (Int32.le_refl _) (E _ _ J3)
    · have hv : v < 65536 := by omega
      refine br_f (nI_ge (b := 65536) hv (by decide)) ?_
      by_cases y : nI (sp_mv o n) ≤ sv
      · refine br_t y (E _ _ ?_)
        rcases J3 with ⟨e1, _, _⟩ | ⟨c, c1, c2, c3, c4, c5, c6⟩
        · rw [e1] at y
          exact absurd (Int32.le_trans (nI_pos' (by omega)) y) (by decide)
        · have q1 := S20 (xd_g c)
          rw [c3, nI_leI (by omega) (by omega)] at y
          exact Or.inr ⟨c, by omega, c2, c3, c4, fun u _ _ => Nat.le_trans (sp_sv_le o d a n _ _) y, c6⟩
      · refine br_f y (xr_first hk hv I (fun g => br_t (Int32.le_refl _) (xr_better hn ok hv (fun g2 => nm_r (nI_1 v) (nm_r (nI_1 w) (ih (v + 1, sv, ch) ⟨by dsimp only; omega, by dsimp only; omega, xr_keep S20 J3 g2⟩))) (fun g2 => nm_r (nI_1 v) (nm_r (nI_1 w) (ih (v + 1, _, _) ⟨by dsimp only; omega, by dsimp only; omega, xr_take S20 J3 g g2⟩))))) (fun t ht g => br_f (nI_ge (b := 8) ht (by decide)) (nm_e (nm_r (xr_skip hv ht) (nm_r (nI_1 w) (ih (xd_skip v t, sv, ch) ⟨?_, xd_skip_le hv ht, ?_⟩))))))
        · have := xd_skip_gt v t
          dsimp only
          omega
        · exact xr_none J3 (Nat.le_of_lt (xd_skip_gt v t)) (fun u u1 u2 gu => g (gc_ft_cong (fun x hx => (xd_same u1 u2 ht x hx).symm) (gu t ht)))
/-- X's tables, once settled -/
def xs_ok (o d a b : Nat → Int32) (n k : Nat) (mv ms mc sv ch : Int32) (be bo cl co ne : Nat → Int32) : Prop :=
  (∀ j, j < n → sp_is o d a b n (be j) j) ∧ (∀ j, j < n → ∀ t, t < 32 → bt (bo j) t = sp_bh o d a b n t j) ∧ cl_inv cl (sp_C o d a b n) ∧ (∀ t, t < 8 → co t = sp_cost o d a b n t) ∧ (∃ N, N ≤ 8 ∧ ne 255 = nI N ∧ ∀ r, sp_F o d a b n r 0 ↔ N ≤ r) ∧ mv = nI (sp_mv o n) ∧ (∃ m, ms = nI m ∧ sp_M o d a b n k m ∧ mc = sp_sum o d a b n m ∧ ∃ v, v < 65536 ∧ ch = nI v ∧ sp_B o d a b n k m (xd_g v) ∧ sv = nI (sp_sv o d a n (fun t => m.testBit t) (xd_g v)))
theorem xs_settle (hn : n ≤ 20) (ok : sp_ok o d a b n) (hk : k ≤ 4) (hs : st = 0 ∨ (st = 1 ∧ xs_ok o d a b n k mv ms mc sv ch be bo cl co ne)) {post : SX → Prop} (h : ∀ mv ms mc sv ch ld re be bo cl co ne fe, xs_ok o d a b n k mv ms mc sv ch be bo cl co ne → post (nI n, nI k, 1, mv, ms, mc, sv, ch, ic, pa, oc, ss, tk, tn, o, d, a, b, ld, re, be, bo, cl, co, ne, fe, ip, ce, ou)) : wpX_settle post (nI n, nI k, st, mv, ms, mc, sv, ch, ic, pa, oc, ss, tk, tn, o, d, a, b, ld, re, be, bo, cl, co, ne, fe, ip, ce, ou) := by
  rcases hs with hs | ⟨hs, hx⟩
  · subst hs
    refine br_t rfl ?_
    refine xl_leads hn ok (fun ld hl => ?_)
    refine xl_reaches hn hl (fun re hr => ?_)
    refine xl_alive hn ok hl (fun be bo hb hbo => ?_)
    refine xc_clashes hn ok hb hbo (fun cl hc => ?_)
    refine xn_costs hn ok hr (fun co hco => ?_)
    refine xf_needs (fun fe ne N hN hne => ?_)
    refine xf_moves hn ?_
    refine xm_mem hk hc hN hne hco (fun m hm => ?_)
    refine xr_regs hn ok hk hc hm.2.1 (fun v hv hB => ?_)
    exact h _ _ _ _ _ ld re be bo cl co ne fe ⟨hb, hbo, hc, hco, ⟨N 255, nd_le hN (by decide), hne 255 (by decide), fun r => xm_F (k := r) hc hN (s := 0) (by decide)⟩, rfl, m, rfl, hm, rfl, v, hv, rfl, hB, rfl⟩
  · subst hs
    exact br_f (by decide) (h _ _ _ _ _ _ _ _ _ _ _ _ _ hx)
end
end
section
theorem cl_skP {c : Nat → Int32} {R : Nat → Nat → Bool} {t u : Nat} {P : Nat → Bool} (I : cl_inv c (fun x y => R x y || (decide (x = t) && (decide (y < u) && P y)))) (h : u = t ∨ ¬ P u = true) : cl_inv c (fun x y => R x y || (decide (x = t) && (decide (y < u + 1) && P y))) := by
  refine cl_pt I (fun x y hx hy z => ?_)
  by_cases e : y = u
  · subst e
    rcases h with h | h
    · subst h
      rw [decide_eq_false z]
      simp
    · have g : P y = false := by simpa using h
      rw [g]
      simp
  · rw [show decide (y < u + 1) = decide (y < u) from decide_eq_decide.mpr (by omega)]
theorem cl_adP {c : Nat → Int32} {R : Nat → Nat → Bool} {t u : Nat} {P : Nat → Bool} (ht : t < 8) (hu : u < 8) (h : ¬ u = t) (hb : P u = true) (I : cl_inv c (fun x y => R x y || (decide (x = t) && (decide (y < u) && P y)))) : cl_inv (cl_put c t u) (fun x y => R x y || (decide (x = t) && (decide (y < u + 1) && P y))) := by
  refine cl_pt (cl_add ht hu (fun z => h z.symm) I) (fun x y hx hy z => ?_)
  by_cases e : y = u
  · subst e
    rw [hb]
    simp
  · rw [show decide (y < u + 1) = decide (y < u) from decide_eq_decide.mpr (by omega), decide_eq_false e]
    simp
theorem sp_dfd_eq {o d a b : Nat → Int32} {n i t : Nat} (ok : sp_ok o d a b n) (hi : i < n) (ht : t < 8) : sp_dfd o d i = (1 : Int32) <<< (nI t &&& 31) ↔ sp_D o d t i = true := by
  constructor
  · intro h
    rw [← sp_dfd_b ok hi (by omega), h, cx_one (by omega)]
    simp
  · intro h
    apply b_ext
    intro j hj
    rw [sp_dfd_b ok hi hj, cx_one (by omega)]
    unfold sp_D at h ⊢
    rw [Bool.and_eq_true, decide_eq_true_eq] at h
    rw [h.1, h.2, sp_inj (by omega) hj]
    rfl
section
variable {n k : Nat} {kn pl me sa wa fw : Int32} {o d a b yb yw yc yo ys yt ip ou yl yp : Nat → Int32}
theorem yk_end {q : Nat} (hn : n ≤ 20) (hq : q < 2 ^ 31) {post : Int32 → Prop} (A : n ≤ q → post (nI n)) (B : q < n → post (nI q)) : wpY_end post (nI n, nI k, kn, pl, me, sa, wa, fw, o, d, a, b, yb, yw, yc, yo, ys, yt, ip, ou, yl, yp) (nI q) :=
  br_c (fun h => A ((nI_leI (by omega) hq).mp h)) (fun h => B (Nat.lt_of_not_le (fun z => h ((nI_leI (by omega) hq).mpr z))))
theorem yk_leads (hn : n ≤ 20) (ok : sp_ok o d a b n) {i j : Nat} (hi : i < n) (hj : j < n) {post : Int32 → Prop} (T : sp_L o a b i j = true → post 1) (F : ¬ sp_L o a b i j = true → post 0) : wpY_leads post (nI n, nI k, kn, pl, me, sa, wa, fw, o, d, a, b, yb, yw, yc, yo, ys, yt, ip, ou, yl, yp) (nI i) (nI j) := by
  have e : (nI i).toNatClampNeg = i := nI_clamp (by omega)
  have v : vp_in (nI i) 20 := vp_in_nI (by omega) (by decide)
  obtain ⟨_, _, _, _, k5, k6⟩ := ok i hi
  have E47 : sp_L o a b i j = true → wY_leads_47 post (nI i) (nI j) (o i) (nI n) (nI k) kn pl me sa wa fw o d a b yb yw yc yo ys yt ip ou yl yp := fun h => br_f (by decide) (T h)
  unfold wpY_leads
  dsimp only
  rw [e]
  refine ⟨v, nm_e ?_⟩
  by_cases h6 : o i = 6
  · obtain ⟨q, hq, e2⟩ := k5 h6
    rw [sp_L_6 h6, e2, sp_inj (by omega) (by omega), decide_eq_true_eq] at T F
    rw [sp_L_6 h6, e2, sp_inj (by omega) (by omega), decide_eq_true_eq] at E47
    have E27 : ¬ q = j → wY_leads_27 post (nI i) (nI j) (o i) (nI n) (nI k) kn pl me sa wa fw o d a b yb yw yc yo ys yt ip ou yl yp := fun h => br_f (by rw [h6]; decide) (br_t rfl (br_t h6 (F h)))
    rw [e2]
    refine br_t h6 ⟨v, yk_end hn (by omega) (fun h => br_f (fun z => ?_) (E27 (by omega))) (fun h => ?_)⟩
    · rw [nI_eq (by omega) (by omega)] at z
      omega
    · exact br_c (fun z => E47 ((nI_eq (by omega) (by omega)).mp z)) (fun z => E27 (fun y => z (by rw [y])))
  · refine br_f h6 ?_
    have E51 : (j = i + 1 → ¬ o i = 10 → post 1) → ((o i = 10 ∨ ¬ j = i + 1) → post 0) → wY_leads_51 post (nI i) (nI j) (o i) (nI n) (nI k) kn pl me sa wa fw o d a b yb yw yc yo ys yt ip ou yl yp := fun A B => br_t rfl (br_f h6 (br_c (fun z => B (Or.inl z)) (fun z => br_c (fun y => A (by rw [nI_1, nI_eq (by omega) (by omega)] at y; exact y) z) (fun y => B (Or.inr (fun w => y (by rw [w, nI_1])))))))
    by_cases h7 : o i = 7
    · obtain ⟨q, hq, e2⟩ := k6 h7
      rw [sp_L_7 h7, e2, sp_inj (by omega) (by omega), Bool.or_eq_true, decide_eq_true_eq, decide_eq_true_eq] at T F
      rw [sp_L_7 h7, e2, sp_inj (by omega) (by omega), Bool.or_eq_true, decide_eq_true_eq, decide_eq_true_eq] at E47
      have n10 : ¬ o i = 10 := by rw [h7]; decide
      have G : ¬ q = j → wY_leads_51 post (nI i) (nI j) (o i) (nI n) (nI k) kn pl me sa wa fw o d a b yb yw yc yo ys yt ip ou yl yp := fun h => E51 (fun z _ => T (Or.inr z)) (fun z => F (fun y => y.elim h (fun w => z.elim n10 (fun g => g w))))
      unfold wY_leads_27
      rw [e, e2]
      refine br_t h7 ⟨v, yk_end hn (by omega) (fun h => br_f (fun z => ?_) (G (by omega))) (fun h => ?_)⟩
      · rw [nI_eq (by omega) (by omega)] at z
        omega
      · exact br_c (fun z => E47 (Or.inl ((nI_eq (by omega) (by omega)).mp z))) (fun z => G (fun y => z (by rw [y])))
    · refine br_f h7 ?_
      by_cases h10 : o i = 10
      · rw [sp_L_10 h10] at F
        exact E51 (fun _ z => absurd h10 z) (fun _ => F (by decide))
      · rw [sp_L_e h6 h7 h10, decide_eq_true_eq] at T F
        exact E51 (fun z _ => T z) (fun z => F (z.elim (fun w => absurd w h10) id))
theorem yk_used {i : Nat} (hi : i < 20) {post : Int32 → Prop} (h : post (sp_used o a b i)) : wpY_used post (nI n, nI k, kn, pl, me, sa, wa, fw, o, d, a, b, yb, yw, yc, yo, ys, yt, ip, ou, yl, yp) (nI i) := by
  have e : (nI i).toNatClampNeg = i := nI_clamp (by omega)
  have v : vp_in (nI i) 20 := vp_in_nI (by omega) (by decide)
  have T : ∀ z : Int32, z = (if sp_ua (o i) = true then (1 : Int32) <<< (a i &&& 31) else 0) → wY_used_26 post (nI i) (o i) z (nI n) (nI k) kn pl me sa wa fw o d a b yb yw yc yo ys yt ip ou yl yp := by
    intro z ez
    unfold wY_used_26
    rw [e]
    unfold sp_used at h
    rw [← ez] at h
    refine wk_ubY (fun y => br_f (by decide) ⟨v, ?_⟩) (fun y => br_t rfl ?_)
    · rw [if_pos y] at h
      exact h
    · rw [if_neg y] at h
      exact h
  unfold wpY_used
  dsimp only
  rw [e]
  exact ⟨v, nm_e (wk_uaY (fun y => br_f (by decide) ⟨v, T _ (if_pos y).symm⟩) (fun y => br_t rfl (T _ (if_neg y).symm)))⟩
theorem yk_dfd {i : Nat} (hi : i < 20) {post : Int32 → Prop} (h : post (sp_dfd o d i)) : wpY_defined post (nI n, nI k, kn, pl, me, sa, wa, fw, o, d, a, b, yb, yw, yc, yo, ys, yt, ip, ou, yl, yp) (nI i) := by
  have e : (nI i).toNatClampNeg = i := nI_clamp (by omega)
  have v : vp_in (nI i) 20 := vp_in_nI (by omega) (by decide)
  unfold wpY_defined
  dsimp only
  rw [e]
  unfold sp_dfd at h
  refine ⟨v, wk_dfY (fun y => br_f (by decide) ⟨v, ?_⟩) (fun y => br_t rfl ?_)⟩
  · rw [if_pos y] at h
    exact h
  · rw [if_neg y] at h
    exact h
theorem yk_behind (hn : n ≤ 20) (ok : sp_ok o d a b n) {i : Nat} (hi : i < n) {post : Int32 → Prop} (h : post (sp_or (sp_L o a b i) yb n)) : wpY_behind post (nI n, nI k, kn, pl, me, sa, wa, fw, o, d, a, b, yb, yw, yc, yo, ys, yt, ip, ou, yl, yp) (nI i) := by
  refine pk_loop (fun m j (x : Int32) => wY_behind_4 post (nI i) (nI n) (nI k) kn pl me sa wa fw o d a b yb yw yc yo ys yt ip ou yl yp m x (nI j)) (fun j x => x = sp_or (sp_L o a b i) yb j) n 0 0 (Nat.zero_le n) rfl ?_ ?_
  · intro m x I
    exact br_t (Int32.le_refl _) (by rw [I]; exact h)
  · intro m j x hj I ih
    have e2 : (nI j).toNatClampNeg = j := nI_clamp (by omega)
    refine br_f (nI_ge hj (by omega)) (yk_leads hn ok hi hj (fun z => br_f (by decide) ⟨vp_in_nI (by omega) (by decide), ?_⟩) (fun z => br_t rfl (nm_r (nI_1 j) (ih _ (by rw [sp_or, if_neg z]; exact I)))))
    rw [e2]
    exact nm_e (nm_r (nI_1 j) (ih _ (by rw [sp_or, if_pos z, I])))
theorem yk_coll (hn : n ≤ 20) (ok : sp_ok o d a b n) (hb : ∀ j, j < n → sp_is o d a b n (yb j) j) {t u : Nat} (ht : t < 8) (hu : u < 8) {post : Int32 → Prop} (T : pu_any (fun i => sp_C1 o d a b n i t u) n = true → post 1) (F : ¬ pu_any (fun i => sp_C1 o d a b n i t u) n = true → post 0) : ∃ m, wY_collide_39 post (nI t) (nI u) (nI n) (nI k) kn pl me sa wa fw o d a b yb yw yc yo ys yt ip ou yl yp m 0 := by
  refine pk_loop (fun m i (_ : Unit) => wY_collide_39 post (nI t) (nI u) (nI n) (nI k) kn pl me sa wa fw o d a b yb yw yc yo ys yt ip ou yl yp m (nI i)) (fun i _ => ¬ pu_any (fun i => sp_C1 o d a b n i t u) i = true) n 0 () (Nat.zero_le n) (by rw [pu_any]; decide) ?_ ?_
  · intro m _ I
    exact br_t (Int32.le_refl _) (F I)
  · intro m i _ hi I ih
    have e : (nI i).toNatClampNeg = i := nI_clamp (by omega)
    have v : vp_in (nI i) 20 := vp_in_nI (by omega) (by decide)
    have N : ¬ sp_C1 o d a b n i t u = true → wY_collide_39 post (nI t) (nI u) (nI n) (nI k) kn pl me sa wa fw o d a b yb yw yc yo ys yt ip ou yl yp m (nI (i + 1)) := fun z => ih () (by rw [pu_any, Bool.or_eq_true]; exact fun y => y.elim I z)
    have G : ∀ z : Int32, (z = 0 ∧ ¬ (o i = 5 ∧ a i = nI u)) ∨ (z = 1 ∧ (o i = 5 ∧ a i = nI u)) → wY_collide_72 post (wY_collide_39 post (nI t) (nI u) (nI n) (nI k) kn pl me sa wa fw o d a b yb yw yc yo ys yt ip ou yl yp m) (nI t) (nI u) (nI i) z (nI n) (nI k) kn pl me sa wa fw o d a b yb yw yc yo ys yt ip ou yl yp := by
      intro z hz
      refine yk_dfd (by omega) ?_
      by_cases c : sp_D o d t i = true
      · refine br_t ((sp_dfd_eq ok hi ht).mpr c) ?_
        rcases hz with ⟨hz, w⟩ | ⟨hz, w⟩
        · subst hz
          refine br_t rfl (yk_behind hn ok hi ?_)
          have q : sp_C1 o d a b n i t u = bt (sp_or (sp_L o a b i) yb n) u := by
            unfold sp_C1
            rw [c, sp_bh_b hb (by omega), show (decide (o i = 5) && decide (a i = nI u)) = false from Bool.eq_false_iff.mpr (fun y => w (by rw [Bool.and_eq_true, decide_eq_true_eq, decide_eq_true_eq] at y; exact y))]
            rfl
          refine br_c (fun y => T ?_) (fun y => nm_r (nI_1 i) (N (fun r => ?_)))
          · rw [cx_has _ (by omega), ← q] at y
            rw [pu_any_iff]
            exact ⟨i, hi, y⟩
          · rw [q, ← cx_has _ (by omega)] at r
            exact y r
        · subst hz
          refine br_f (by decide) (nm_r (nI_1 i) (N ?_))
          unfold sp_C1
          rw [decide_eq_true w.1, decide_eq_true w.2]
          simp
      · refine br_f (fun y => c ((sp_dfd_eq ok hi ht).mp y)) (nm_r (nI_1 i) (N ?_))
        unfold sp_C1
        rw [show sp_D o d t i = false by simpa using c]
        simp
    refine br_f (nI_ge hi (by omega)) ⟨v, ?_⟩
    rw [e]
    exact br_c (fun h5 => ⟨v, br_c (fun y => G 1 (Or.inr ⟨rfl, h5, y⟩)) (fun y => G 0 (Or.inl ⟨rfl, fun w => y w.2⟩))⟩) (fun h5 => G 0 (Or.inl ⟨rfl, fun w => h5 w.1⟩))
theorem yk_collide (hn : n ≤ 20) (ok : sp_ok o d a b n) (hb : ∀ j, j < n → sp_is o d a b n (yb j) j) {t u : Nat} (ht : t < 8) (hu : u < 8) {post : Int32 → Prop} (T : sp_C o d a b n t u = true → post 1) (F : ¬ sp_C o d a b n t u = true → post 0) : wpY_collide post (nI n, nI k, kn, pl, me, sa, wa, fw, o, d, a, b, yb, yw, yc, yo, ys, yt, ip, ou, yl, yp) (nI t) (nI u) := by
  have G : ¬ (0 < n ∧ sp_lv o d a b n t 0 = true ∧ sp_lv o d a b n u 0 = true) → ∃ m, wY_collide_39 post (nI t) (nI u) (nI n) (nI k) kn pl me sa wa fw o d a b yb yw yc yo ys yt ip ou yl yp m 0 := by
    intro h
    refine yk_coll hn ok hb ht hu (fun z => T ?_) (fun z => F ?_)
    · unfold sp_C
      rw [z]
      simp
    · unfold sp_C
      rw [Bool.or_eq_true, Bool.and_eq_true, Bool.and_eq_true, decide_eq_true_eq]
      exact fun y => y.elim h z
  by_cases z : n = 0
  · exact br_t (by rw [z]; decide) (G (by omega))
  · refine br_f (nI_nle (by omega) (by omega)) ?_
    have H : ∀ x, x < 8 → ((((yb 0) >>> (nI x &&& 31)) &&& 1) = 1 ↔ sp_lv o d a b n x 0 = true) := by
      intro x hx
      rw [cx_has _ (by omega), hb 0 (by omega) x (by omega)]
    exact ek_if (H t ht) (fun p => ek_if (H u hu) (fun q => T (by unfold sp_C; rw [p, q, decide_eq_true (show 0 < n by omega)]; rfl)) (fun q => G (fun y => q y.2.2))) (fun p => G (fun y => p y.2.1))
theorem yk_clashes (hn : n ≤ 20) (ok : sp_ok o d a b n) (hb : ∀ j, j < n → sp_is o d a b n (yb j) j) {post : SY → Prop} (h : ∀ c, cl_inv c (sp_C o d a b n) → post (nI n, nI k, kn, pl, me, sa, wa, fw, o, d, a, b, yb, yw, c, yo, ys, yt, ip, ou, yl, yp)) : wpY_findClashes post (nI n, nI k, kn, pl, me, sa, wa, fw, o, d, a, b, yb, yw, yc, yo, ys, yt, ip, ou, yl, yp) := by
  refine pk_loop (fun m i (c : Nat → Int32) => wY_findClashes_2 post (nI n) (nI k) kn pl me sa wa fw m (nI i) o d a b yb yw c yo ys yt ip ou yl yp) (fun i c => ∀ j, j < i → c j = (fun _ => 0) j) 8 0 yc (Nat.zero_le 8) (fun j hj => absurd hj (Nat.not_lt_zero j)) ?_ ?_
  · intro m c I
    refine br_t (Int32.le_refl _) ?_
    refine pk_loop (fun m t (c : Nat → Int32) => wY_findClashes_23 post (nI n) (nI k) kn pl me sa wa fw m (nI t) o d a b yb yw c yo ys yt ip ou yl yp) (fun t c => cl_inv c (fun x y => decide (x < t) && sp_C o d a b n x y)) 8 0 c (Nat.zero_le 8) (cl_pt (cl_0 I) (fun x y _ _ _ => by simp)) ?_ ?_
    · intro m c I
      exact br_t (Int32.le_refl _) (h c (cl_pt I (fun x y hx _ _ => by rw [decide_eq_true hx]; rfl)))
    · intro m t c ht I ih
      refine br_f (nI_ge (b := 8) ht (by decide)) ?_
      refine pk_loop (fun q u (c : Nat → Int32) => wY_findClashes_31 post (wY_findClashes_23 post (nI n) (nI k) kn pl me sa wa fw m) (nI t) (nI n) (nI k) kn pl me sa wa fw q (nI u) o d a b yb yw c yo ys yt ip ou yl yp) (fun u c => cl_inv c (fun x y => (decide (x < t) && sp_C o d a b n x y) || (decide (x = t) && (decide (y < u) && sp_C o d a b n t y)))) 8 0 c (Nat.zero_le 8) (cl_pt I (fun x y _ _ _ => by simp)) ?_ ?_
      · intro q c I
        refine br_t (Int32.le_refl _) (nm_r (nI_1 t) (ih c (cl_pt I (fun x y hx hy _ => ?_))))
        by_cases e : x = t
        · subst e
          rw [decide_eq_true hy]
          simp
        · rw [show decide (x < t + 1) = decide (x < t) from decide_eq_decide.mpr (by omega), decide_eq_false e]
          simp
      · intro q u c hu I ih
        have e : (nI t).toNatClampNeg = t := nI_clamp (by omega)
        have e2 : (nI u).toNatClampNeg = u := nI_clamp (by omega)
        have v : vp_in (nI t) 8 := vp_in_nI ht (by decide)
        have v2 : vp_in (nI u) 8 := vp_in_nI hu (by decide)
        refine br_f (nI_ge (b := 8) hu (by decide)) ?_
        by_cases z : u = t
        · exact br_t (by rw [z]) (nm_r (nI_1 u) (ih _ (cl_skP I (Or.inl z))))
        · refine br_f (fun y => z ((nI_eq (by omega) (by omega)).mp y).symm) ?_
          refine yk_collide hn ok hb ht hu (fun y => br_f (by decide) ⟨v, v, ?_⟩) (fun y => br_t rfl (nm_r (nI_1 u) (ih _ (cl_skP I (Or.inr y)))))
          rw [e, e2]
          exact nm_e ⟨v2, v2, nm_e (nm_r (nI_1 u) (ih _ (cl_adP ht hu z y I)))⟩
  · intro m i r hi I ih
    have e : (nI i).toNatClampNeg = i := nI_clamp (by omega)
    have v : vp_in (nI i) 8 := vp_in_nI (by omega) (by decide)
    refine br_f (nI_ge (b := 8) hi (by decide)) ⟨v, ?_⟩
    rw [e]
    exact nm_e (nm_r (nI_1 i) (ih _ (up_lt I rfl)))
theorem yk_ways (hn : n ≤ 20) (ok : sp_ok o d a b n) {post : SY → Prop} (h : ∀ r, (∀ j, j < n → r j = sp_way o a b n j) → post (nI n, nI k, kn, pl, me, sa, wa, fw, o, d, a, b, yb, r, yc, yo, ys, yt, ip, ou, yl, yp)) : wpY_findWays post (nI n, nI k, kn, pl, me, sa, wa, fw, o, d, a, b, yb, yw, yc, yo, ys, yt, ip, ou, yl, yp) := by
  refine pk_loop (fun m i (r : Nat → Int32) => wY_findWays_2 post (nI n) (nI k) kn pl me sa wa fw m (nI i) o d a b yb r yc yo ys yt ip ou yl yp) (fun i r => ∀ j, j < i → r j = sp_lead o a b n j) n 0 yw (Nat.zero_le n) (fun j hj => absurd hj (Nat.not_lt_zero j)) ?_ ?_
  · intro m r I
    refine br_t (Int32.le_refl _) ?_
    refine pk_loop (fun m i (r : Nat → Int32) => wY_findWays_62 post (nI n) (nI k) kn pl me sa wa fw m (nI i) o d a b yb r yc yo ys yt ip ou yl yp) (fun i r => wr_eq n r (wr_out n (sp_lead o a b n) i)) n 0 r (Nat.zero_le n) I ?_ ?_
    · intro m r I
      exact br_t (Int32.le_refl _) (h r I)
    · intro m p r hp I ih
      refine br_f (nI_ge hp (by omega)) ?_
      refine pk_loop (fun q i (r : Nat → Int32) => wY_findWays_72 post (wY_findWays_62 post (nI n) (nI k) kn pl me sa wa fw m) (nI p) (nI n) (nI k) kn pl me sa wa fw q (nI i) o d a b yb r yc yo ys yt ip ou yl yp) (fun i r => wr_eq n r (wr_in p (wr_out n (sp_lead o a b n) p) i)) n 0 r (Nat.zero_le n) I ?_ ?_
      · intro q r I
        exact br_t (Int32.le_refl _) (nm_r (nI_1 p) (ih r I))
      · intro q i r hi I ih
        have e : (nI i).toNatClampNeg = i := nI_clamp (by omega)
        have e2 : (nI p).toNatClampNeg = p := nI_clamp (by omega)
        have v : vp_in (nI i) 21 := vp_in_nI (by omega) (by decide)
        refine br_f (nI_ge hi (by omega)) ⟨v, ?_⟩
        rw [e, e2]
        obtain ⟨A, B⟩ := wr_in_s hp hi I
        exact ek_if (cx_has _ (by omega)) (fun z => ⟨v, vp_in_nI (by omega) (by decide), v, nm_e (nm_r (nI_1 i) (ih _ (A z)))⟩) (fun z => nm_r (nI_1 i) (ih _ (B z)))
  · intro m i r hi I ih
    have e : (nI i).toNatClampNeg = i := nI_clamp (by omega)
    have v : vp_in (nI i) 21 := vp_in_nI (by omega) (by decide)
    refine br_f (nI_ge hi (by omega)) ⟨v, ?_⟩
    rw [e]
    refine nm_e ?_
    refine pk_loop (fun q j (r : Nat → Int32) => wY_findWays_19 post (wY_findWays_2 post (nI n) (nI k) kn pl me sa wa fw m) (nI i) (nI n) (nI k) kn pl me sa wa fw q (nI j) o d a b yb r yc yo ys yt ip ou yl yp) (fun j r => r i = sp_or (sp_L o a b i) (fun j => (1 : Int32) <<< (nI j &&& 31)) j ∧ ∀ j, j < i → r j = sp_lead o a b n j) n 0 (upd r i 0) (Nat.zero_le n) ⟨pk_us, fun j hj => by rw [pk_un (by omega)]; exact I j hj⟩ ?_ ?_
    · intro q r I
      refine br_t (Int32.le_refl _) (nm_r (nI_1 i) (ih r (fun j hj => ?_)))
      rcases Nat.lt_or_ge j i with g | g
      · exact I.2 j g
      · have e3 : j = i := by omega
        rw [e3]
        exact I.1
    · intro q j r hj I ih
      refine br_f (nI_ge hj (by omega)) (yk_leads hn ok hi hj (fun z => br_f (by decide) ⟨v, v, ?_⟩) (fun z => br_t rfl (nm_r (nI_1 j) (ih _ ⟨by rw [sp_or, if_neg z]; exact I.1, I.2⟩))))
      rw [e]
      exact nm_e (nm_r (nI_1 j) (ih _ ⟨by rw [pk_us, sp_or, if_pos z, I.1], fun x hx => by rw [pk_un (by omega)]; exact I.2 x hx⟩))
theorem yk_eq {p : Bool} {x : Int32} {t : Nat} (ht : t < 8) (h : p = true → ∃ q, q < 8 ∧ x = nI q) (y : p = true) : (x = nI t) ↔ x.toNatClampNeg = t := by
  obtain ⟨q, hq, e⟩ := h y
  rw [e, nI_clamp (by omega), nI_eq (by omega) (by omega)]
theorem yk_times (hn : n ≤ 20) (ok : sp_ok o d a b n) {i t : Nat} (hi : i < n) (ht : t < 8) {post : Int32 → Prop} (h : post (nI (sp_nm o d a b (fun x => decide (x = t)) i))) : wpY_times post (nI n, nI k, kn, pl, me, sa, wa, fw, o, d, a, b, yb, yw, yc, yo, ys, yt, ip, ou, yl, yp) (nI i) (nI t) := by
  have e : (nI i).toNatClampNeg = i := nI_clamp (by omega)
  have v : vp_in (nI i) 20 := vp_in_nI (by omega) (by decide)
  obtain ⟨_, k2, k3, k4, _⟩ := ok i hi
  have h : post (nI (((if (sp_df (o i) && decide ((d i).toNatClampNeg = t)) = true then 1 else 0) + (if (sp_ua (o i) && decide ((a i).toNatClampNeg = t)) = true then 1 else 0)) + (if (sp_ub (o i) && decide ((b i).toNatClampNeg = t)) = true then 1 else 0))) := h
  have P : ∀ {p : Bool} {x : Nat}, p = true → x = t → (if (p && decide (x = t)) = true then 1 else 0) = 1 := by
    intro p x hp hx
    rw [hp, decide_eq_true hx]
    rfl
  have Q : ∀ {p : Bool} {x : Nat}, ¬ x = t → (if (p && decide (x = t)) = true then 1 else 0) = 0 := by
    intro p x hx
    rw [decide_eq_false hx, Bool.and_false]
    rfl
  have R : ∀ {p : Bool} {x : Nat}, ¬ p = true → (if (p && decide (x = t)) = true then 1 else 0) = 0 := by
    intro p x hp
    rw [show p = false by simpa using hp]
    rfl
  have T51 : ∀ c0 c1 : Nat, post (nI ((c1 + c0) + (if (sp_ub (o i) && decide ((b i).toNatClampNeg = t)) = true then 1 else 0))) → wY_times_51 post (nI i) (nI t) (o i) (nI c0) (nI c1) (nI n) (nI k) kn pl me sa wa fw o d a b yb yw yc yo ys yt ip ou yl yp := by
    intro c0 c1 hp
    unfold wY_times_51
    rw [e, nI_add, nI_1, Int32.add_zero]
    refine wk_ubY (fun y => br_f (by decide) ⟨v, ek_if (yk_eq ht k4 y) (fun z => ?_) (fun z => ?_)⟩) (fun y => br_t rfl ?_)
    · rw [P y z] at hp
      exact hp
    · rw [Q z] at hp
      exact hp
    · rw [R y] at hp
      exact hp
  have T29 : ∀ c1 : Nat, post (nI ((c1 + (if (sp_ua (o i) && decide ((a i).toNatClampNeg = t)) = true then 1 else 0)) + (if (sp_ub (o i) && decide ((b i).toNatClampNeg = t)) = true then 1 else 0))) → wY_times_29 post (nI i) (nI t) (o i) (nI c1) (nI n) (nI k) kn pl me sa wa fw o d a b yb yw yc yo ys yt ip ou yl yp := by
    intro c1 hp
    unfold wY_times_29
    rw [e]
    refine wk_uaY (fun y => br_f (by decide) ⟨v, ek_if (yk_eq ht k3 y) (fun z => ?_) (fun z => ?_)⟩) (fun y => br_t rfl ?_)
    · rw [P y z] at hp
      exact T51 1 c1 hp
    · rw [Q z] at hp
      exact T51 0 c1 hp
    · rw [R y] at hp
      exact T51 0 c1 hp
  unfold wpY_times
  dsimp only
  rw [e]
  refine ⟨v, nm_e (wk_dfY (fun y => br_f (by decide) ⟨v, ek_if (yk_eq ht k2 y) (fun z => ?_) (fun z => ?_)⟩) (fun y => br_t rfl ?_))⟩
  · rw [P y z] at h
    exact T29 1 h
  · rw [Q z] at h
    exact T29 0 h
  · rw [R y] at h
    exact T29 0 h
end
end
section
theorem pu_sum_le {f g : Nat → Nat} : ∀ {n : Nat}, (∀ i, i < n → f i ≤ g i) → pu_sum f n ≤ pu_sum g n
  | 0, _ => Nat.le_refl _
  | n + 1, h => by
    have a := pu_sum_le (n := n) (fun i hi => h i (by omega))
    have b := h n (by omega)
    rw [pu_sum, pu_sum]
    omega
theorem pu_sum_lt {f g : Nat → Nat} : ∀ {n : Nat}, (∀ i, i < n → f i ≤ g i) → (∃ i, i < n ∧ f i < g i) → pu_sum f n < pu_sum g n
  | 0, _, ⟨i, hi, _⟩ => absurd hi (Nat.not_lt_zero i)
  | n + 1, h, ⟨i, hi, hl⟩ => by
    have a : pu_sum f n ≤ pu_sum g n := pu_sum_le (fun i hi => h i (by omega))
    have b := h n (by omega)
    rw [pu_sum, pu_sum]
    rcases Nat.lt_or_ge i n with z | z
    · have c : pu_sum f n < pu_sum g n := pu_sum_lt (fun i hi => h i (by omega)) ⟨i, z, hl⟩
      omega
    · have e : i = n := by omega
      subst e
      omega
section
variable {o d a b : Nat → Int32} {n : Nat}
/-- how much is wanting -/
def ym_mu (o d a b : Nat → Int32) (n : Nat) (B : Nat → Int32) : Nat := pu_sum (fun i => pu_cnt (fun t => sp_lv o d a b n t i && !bt (B i) t) 32) n
def ym_inc (o d a b : Nat → Int32) (n : Nat) (B : Nat → Int32) : Prop := ∀ j, j < n → ∀ t, t < 32 → bt (B j) t = true → bt (sp_new o d a b n B j) t = true
theorem ym_le {B C : Nat → Int32} (h : ∀ j, j < n → ∀ t, t < 32 → bt (B j) t = true → bt (C j) t = true) (j : Nat) (hj : j < n) : pu_cnt (fun t => sp_lv o d a b n t j && !bt (C j) t) 32 ≤ pu_cnt (fun t => sp_lv o d a b n t j && !bt (B j) t) 32 := by
  apply pu_cnt_mono
  intro t ht g
  rw [Bool.and_eq_true] at g ⊢
  refine ⟨g.1, ?_⟩
  cases e : bt (B j) t
  · rfl
  · rw [h j hj t ht e] at g
    exact absurd g.2 (by decide)
theorem ym_up {B : Nat → Int32} {i : Nat} (hi : i < n) (I : ym_inc o d a b n B) : ∀ j, j < n → ∀ t, t < 32 → bt (B j) t = true → bt (upd B i (sp_new o d a b n B i) j) t = true := by
  intro j hj t ht g
  by_cases z : j = i
  · rw [z, pk_us]
    rw [z] at g
    exact I i hi t ht g
  · rw [pk_un z]
    exact g
theorem ym_inc_s {B : Nat → Int32} {i : Nat} (ok : sp_ok o d a b n) (hi : i < n) (I : ym_inc o d a b n B) : ym_inc o d a b n (upd B i (sp_new o d a b n B i)) := by
  intro j hj t ht g
  have M : bt (sp_new o d a b n B j) t = true → bt (sp_new o d a b n (upd B i (sp_new o d a b n B i)) j) t = true := by
    rw [sp_new_b ok hj ht, sp_new_b ok hj ht]
    exact lf_mono (fun x hx => ym_up hi I x hx t ht) j
  by_cases z : j = i
  · subst z
    rw [pk_us] at g
    exact M g
  · rw [pk_un z] at g
    exact M (I j hj t ht g)
theorem ym_hi_s {B : Nat → Int32} {i : Nat} (ok : sp_ok o d a b n) (hi : i < n) (I : ∀ j, j < n → sp_hi o d a b n (B j) j) : ∀ j, j < n → sp_hi o d a b n (upd B i (sp_new o d a b n B i) j) j := by
  intro j hj
  by_cases z : j = i
  · rw [z, pk_us]
    exact sp_new_hi ok hi I
  · rw [pk_un z]
    exact I j hj
theorem ym_mu_le {B : Nat → Int32} {i : Nat} (hi : i < n) (I : ym_inc o d a b n B) : ym_mu o d a b n (upd B i (sp_new o d a b n B i)) ≤ ym_mu o d a b n B :=
  pu_sum_le (fun j hj => ym_le (ym_up hi I) j hj)
theorem ym_mu_lt {B : Nat → Int32} {i : Nat} (ok : sp_ok o d a b n) (hi : i < n) (I : ym_inc o d a b n B) (H : ∀ j, j < n → sp_hi o d a b n (B j) j) (ne : ¬ sp_new o d a b n B i = B i) : ym_mu o d a b n (upd B i (sp_new o d a b n B i)) < ym_mu o d a b n B := by
  refine pu_sum_lt (fun j hj => ym_le (ym_up hi I) j hj) ⟨i, hi, ?_⟩
  have hx : ∃ t, t < 32 ∧ ¬ bt (sp_new o d a b n B i) t = bt (B i) t := by
    refine Classical.byContradiction (fun z => ne (b_ext (fun t ht => ?_)))
    exact Classical.byContradiction (fun w => z ⟨t, ht, w⟩)
  obtain ⟨t, ht, z⟩ := hx
  refine pu_cnt_lt (fun t ht g => ?_) ⟨t, ht, ?_, ?_⟩
  · rw [Bool.and_eq_true] at g ⊢
    refine ⟨g.1, ?_⟩
    cases e : bt (B i) t
    · rfl
    · rw [ym_up hi I i hi t ht e] at g
      exact absurd g.2 (by decide)
  · rw [pk_us]
    cases e : bt (sp_new o d a b n B i) t
    · cases e2 : bt (B i) t
      · rw [e, e2] at z
        exact absurd rfl z
      · rw [I i hi t ht e2] at e
        exact absurd e (by decide)
    · simp
  · cases e2 : bt (B i) t
    · cases e : bt (sp_new o d a b n B i) t
      · rw [e, e2] at z
        exact absurd rfl z
      · rw [sp_new_hi ok hi H t ht e]
        rfl
    · rw [e2, I i hi t ht e2] at z
      exact absurd rfl z
end
section
variable {n k : Nat} {kn pl me sa wa fw : Int32} {o d a b yb yw yc yo ys yt ip ou yl yp : Nat → Int32}
/-- Y's tables, once known -/
def yk_ok (o d a b : Nat → Int32) (n : Nat) (yb yc yo : Nat → Int32) : Prop :=
  (∀ j, j < n → sp_is o d a b n (yb j) j) ∧ cl_inv yc (sp_C o d a b n) ∧ (∀ t, t < 8 → yo t = sp_cost o d a b n t)
theorem yk_costs (hn : n ≤ 20) (ok : sp_ok o d a b n) (hr : ∀ j, j < n → yw j = sp_way o a b n j) {post : SY → Prop} (h : ∀ c, (∀ t, t < 8 → c t = sp_cost o d a b n t) → post (nI n, nI k, kn, pl, me, sa, wa, fw, o, d, a, b, yb, yw, yc, c, ys, yt, ip, ou, yl, yp)) : ∃ m, wY_know_118 post (nI n) (nI k) kn pl me sa wa fw m 0 o d a b yb yw yc yo ys yt ip ou yl yp := by
  refine pk_loop (fun m t (c : Nat → Int32) => wY_know_118 post (nI n) (nI k) kn pl me sa wa fw m (nI t) o d a b yb yw yc c ys yt ip ou yl yp) (fun t c => ∀ j, j < t → c j = sp_cost o d a b n j) 8 0 yo (Nat.zero_le 8) (fun j hj => absurd hj (Nat.not_lt_zero j)) ?_ ?_
  · intro m c I
    exact br_t (Int32.le_refl _) (h c I)
  · intro m t c ht I ih
    have e : (nI t).toNatClampNeg = t := nI_clamp (by omega)
    have v : vp_in (nI t) 8 := vp_in_nI ht (by decide)
    refine br_f (nI_ge (b := 8) ht (by decide)) ⟨v, ?_⟩
    rw [e]
    refine nm_e ?_
    refine pk_loop (fun q i (c : Nat → Int32) => wY_know_133 post (wY_know_118 post (nI n) (nI k) kn pl me sa wa fw m) (nI t) (nI n) (nI k) kn pl me sa wa fw q (nI i) o d a b yb yw yc c ys yt ip ou yl yp) (fun i c => c t = sp_co o d a b n t i ∧ ∀ j, j < t → c j = sp_cost o d a b n j) n 0 (upd c t 0) (Nat.zero_le n) ⟨pk_us, fun j hj => by rw [pk_un (by omega)]; exact I j hj⟩ ?_ ?_
    · intro q c I
      refine br_t (Int32.le_refl _) (nm_r (nI_1 t) (ih c (fun j hj => ?_)))
      rcases Nat.lt_or_ge j t with g | g
      · exact I.2 j g
      · have e3 : j = t := by omega
        rw [e3]
        exact I.1
    · intro q i c hi I ih
      have e2 : (nI i).toNatClampNeg = i := nI_clamp (by omega)
      refine br_f (nI_ge hi (by omega)) ⟨v, yk_times hn ok hi ht ⟨vp_in_nI (by omega) (by decide), ?_⟩⟩
      rw [e, e2, hr i hi]
      refine ek_if (cx_has _ (by omega)) (fun z => ⟨v, nm_e (nm_r (nI_1 i) (ih _ ⟨?_, fun j hj => by rw [pk_un (by omega)]; exact I.2 j hj⟩))⟩) (fun z => ⟨v, nm_e (nm_r (nI_1 i) (ih _ ⟨?_, fun j hj => by rw [pk_un (by omega)]; exact I.2 j hj⟩))⟩)
      · rw [pk_us, I.1, sp_co, sp_wt, if_pos z]
      · rw [pk_us, I.1, sp_co, sp_wt, if_neg z]
theorem yk_sweep (hn : n ≤ 20) (ok : sp_ok o d a b n) (H : ∀ j, j < n → sp_hi o d a b n (yb j) j) (N : ym_inc o d a b n yb) {post : SY → Prop} {J : Int32 → (Nat → Int32) → (Nat → Int32) → (Nat → Int32) → (Nat → Int32) → (Nat → Int32) → (Nat → Int32) → (Nat → Int32) → (Nat → Int32) → (Nat → Int32) → (Nat → Int32) → (Nat → Int32) → (Nat → Int32) → (Nat → Int32) → (Nat → Int32) → Prop} (h : ∀ x B, (∀ j, j < n → sp_hi o d a b n (B j) j) → ym_inc o d a b n B → (x = 0 ∧ (∀ j, j < n → sp_new o d a b n B j = B j) ∧ ym_mu o d a b n B ≤ ym_mu o d a b n yb ∨ x = 1 ∧ ym_mu o d a b n B < ym_mu o d a b n yb) → J x o d a b B yw yc yo ys yt ip ou yl yp) : ∃ m, wY_know_46 post J (nI n) (nI k) kn pl me sa wa fw m 0 0 o d a b yb yw yc yo ys yt ip ou yl yp := by
  refine pk_loop (fun m i (s : Int32 × (Nat → Int32)) => wY_know_46 post J (nI n) (nI k) kn pl me sa wa fw m s.1 (nI i) o d a b s.2 yw yc yo ys yt ip ou yl yp) (fun i s => (∀ j, j < n → sp_hi o d a b n (s.2 j) j) ∧ ym_inc o d a b n s.2 ∧ (s.1 = 0 ∧ (∀ j, j < i → sp_new o d a b n s.2 j = s.2 j) ∧ ym_mu o d a b n s.2 ≤ ym_mu o d a b n yb ∨ s.1 = 1 ∧ ym_mu o d a b n s.2 < ym_mu o d a b n yb)) n 0 (0, yb) (Nat.zero_le n) ⟨H, N, Or.inl ⟨rfl, fun j hj => absurd hj (Nat.not_lt_zero j), Nat.le_refl _⟩⟩ ?_ ?_
  · intro m s I
    exact br_t (Int32.le_refl _) (h s.1 s.2 I.1 I.2.1 I.2.2)
  · intro m i s hi I ih
    obtain ⟨x, B⟩ := s
    obtain ⟨I1, I2, I3⟩ := I
    dsimp only at I1 I2 I3 ih ⊢
    have e : (nI i).toNatClampNeg = i := nI_clamp (by omega)
    have v : vp_in (nI i) 21 := vp_in_nI (by omega) (by decide)
    have G : ∀ z y : Int32, (x ||| z) = y → ((∀ j, j < n → sp_hi o d a b n (upd B i (sp_new o d a b n B i) j) j) ∧ ym_inc o d a b n (upd B i (sp_new o d a b n B i)) ∧ (y = 0 ∧ (∀ j, j < i + 1 → sp_new o d a b n (upd B i (sp_new o d a b n B i)) j = upd B i (sp_new o d a b n B i) j) ∧ ym_mu o d a b n (upd B i (sp_new o d a b n B i)) ≤ ym_mu o d a b n yb ∨ y = 1 ∧ ym_mu o d a b n (upd B i (sp_new o d a b n B i)) < ym_mu o d a b n yb)) → wY_know_90 post J (wY_know_46 post J (nI n) (nI k) kn pl me sa wa fw m) (nI i) (sp_new o d a b n B i) z x (nI n) (nI k) kn pl me sa wa fw o d a b B yw yc yo ys yt ip ou yl yp := by
      intro z y ey K
      unfold wY_know_90
      rw [e]
      exact nm_r ey ⟨v, nm_e (nm_r (nI_1 i) (ih (y, _) K))⟩
    refine br_f (nI_ge hi (by omega)) (yk_used (by omega) (yk_behind hn ok hi (yk_dfd (by omega) (nm_r (e' := sp_new o d a b n B i) rfl ⟨v, ?_⟩))))
    rw [e]
    refine br_c (fun z => ?_) (fun z => ?_)
    · have eB : upd B i (sp_new o d a b n B i) = B := by
        funext j
        by_cases w : j = i
        · rw [w, pk_us, z]
        · rw [pk_un w]
      refine G 0 x (Int32.or_zero ..) ⟨by rw [eB]; exact I1, by rw [eB]; exact I2, ?_⟩
      rw [eB]
      rcases I3 with ⟨a1, a2, a3⟩ | a1
      · refine Or.inl ⟨a1, fun j hj => ?_, a3⟩
        rcases Nat.lt_or_ge j i with g | g
        · exact a2 j g
        · have e3 : j = i := by omega
          rw [e3]
          exact z
      · exact Or.inr a1
    · have L := ym_mu_lt ok hi I2 I1 z
      refine G 1 1 ?_ ⟨ym_hi_s ok hi I1, ym_inc_s ok hi I2, Or.inr ⟨rfl, ?_⟩⟩
      · rcases I3 with ⟨a1, _⟩ | ⟨a1, _⟩
        · rw [a1]
          decide
        · rw [a1]
          decide
      · rcases I3 with ⟨_, _, a3⟩ | ⟨_, a3⟩
        · exact Nat.lt_of_lt_of_le L a3
        · exact Nat.lt_trans L a3
theorem yk_fix (hn : n ≤ 20) (ok : sp_ok o d a b n) (H : ∀ j, j < n → sp_hi o d a b n (yb j) j) (N : ym_inc o d a b n yb) {post : SY → Prop} (h : ∀ yb yw yc yo, yk_ok o d a b n yb yc yo → post (nI n, nI k, kn, pl, me, sa, wa, fw, o, d, a, b, yb, yw, yc, yo, ys, yt, ip, ou, yl, yp)) : ∃ m, wY_know_38 post (nI n) (nI k) kn pl me sa wa fw m 1 o d a b yb yw yc yo ys yt ip ou yl yp := by
  refine loop_m (fun m (s : Int32 × (Nat → Int32)) => wY_know_38 post (nI n) (nI k) kn pl me sa wa fw m s.1 o d a b s.2 yw yc yo ys yt ip ou yl yp) (fun s => (∀ j, j < n → sp_hi o d a b n (s.2 j) j) ∧ ym_inc o d a b n s.2 ∧ (s.1 = 0 ∧ (∀ j, j < n → sp_new o d a b n s.2 j = s.2 j) ∨ s.1 = 1)) (fun s => 2 * ym_mu o d a b n s.2 + (if s.1 = 0 then 0 else 1)) ?_ (1, yb) ⟨H, N, Or.inr rfl⟩
  intro m s I ih
  obtain ⟨x, B⟩ := s
  obtain ⟨I1, I2, I3⟩ := I
  dsimp only at I1 I2 I3 ih ⊢
  rcases I3 with ⟨a1, a2⟩ | a1
  · have hb := sp_fix ok I1 a2
    exact br_t a1 (yk_clashes hn ok hb (fun c hc => yk_ways hn ok (fun r hr => yk_costs hn ok hr (fun y hy => h B r c y ⟨hb, hc, hy⟩))))
  · refine br_f (by rw [a1]; decide) (yk_sweep hn ok I1 I2 (fun y C p q r => ih (y, C) ⟨p, q, ?_⟩ ?_))
    · rcases r with ⟨r1, r2, _⟩ | ⟨r1, _⟩
      · exact Or.inl ⟨r1, r2⟩
      · exact Or.inr r1
    · dsimp only
      rw [a1, if_neg (show ¬ (1 : Int32) = 0 by decide)]
      rcases r with ⟨r1, _, r3⟩ | ⟨r1, r2⟩
      · rw [r1, if_pos rfl]
        omega
      · rw [r1, if_neg (show ¬ (1 : Int32) = 0 by decide)]
        omega
theorem yk_know (hn : n ≤ 20) (ok : sp_ok o d a b n) (hs : kn = 0 ∨ (kn = 1 ∧ yk_ok o d a b n yb yc yo)) {post : SY → Prop} (h : ∀ yb yw yc yo, yk_ok o d a b n yb yc yo → post (nI n, nI k, 1, pl, me, sa, wa, fw, o, d, a, b, yb, yw, yc, yo, ys, yt, ip, ou, yl, yp)) : wpY_know post (nI n, nI k, kn, pl, me, sa, wa, fw, o, d, a, b, yb, yw, yc, yo, ys, yt, ip, ou, yl, yp) := by
  rcases hs with hs | ⟨hs, hx⟩
  · subst hs
    refine br_t rfl ?_
    refine pk_loop (fun m i (r : Nat → Int32) => wY_know_15 post (nI n) (nI k) 1 pl me sa wa fw m (nI i) o d a b r yw yc yo ys yt ip ou yl yp) (fun i r => ∀ j, j < i → r j = (fun _ => 0) j) (n + 1) 0 yb (Nat.zero_le _) (fun j hj => absurd hj (Nat.not_lt_zero j)) ?_ ?_
    · intro m r I
      refine br_t (nI_lt (by omega) (by omega)) (yk_fix hn ok (fun j hj => by rw [I j (by omega)]; exact sp_hi_0) (fun j hj t ht g => ?_) h)
      rw [I j (by omega), b_0] at g
      exact absurd g (by decide)
    · intro m i r hi I ih
      have e : (nI i).toNatClampNeg = i := nI_clamp (by omega)
      have v : vp_in (nI i) 21 := vp_in_nI (by omega) (by decide)
      refine br_f (nI_nlt (by omega) (by omega)) ⟨v, ?_⟩
      rw [e]
      exact nm_e (nm_r (nI_1 i) (ih _ (up_lt I rfl)))
  · subst hs
    exact br_f (by decide) (h _ _ _ _ hx)
end
end
section
theorem up_up (f : Nat → Int32) (i : Nat) (x y : Int32) : upd (upd f i x) i y = upd f i y := by
  funext j
  by_cases z : j = i
  · rw [z, pk_us, pk_us]
  · rw [pk_un z, pk_un z, pk_un z]
/-- trial: the first m places are c's, the others are not begun -/
def tv (s : Nat) (c : Nat → Nat) (m u : Nat) : Int32 := if s.testBit u = true then -2 else if u < m then nI (c u) else -1
theorem tv_m {s m u : Nat} {c : Nat → Nat} (w : s.testBit u = true) : tv s c m u = -2 := if_pos w
theorem tv_d {s m u : Nat} {c : Nat → Nat} (w : s.testBit u = false) (h : u < m) : tv s c m u = nI (c u) := (if_neg (by rw [w]; decide)).trans (if_pos h)
theorem tv_e {s m u : Nat} {c : Nat → Nat} (w : s.testBit u = false) (h : ¬ u < m) : tv s c m u = -1 := (if_neg (by rw [w]; decide)).trans (if_neg h)
theorem tv_c {s m m' u : Nat} {c c' : Nat → Nat} (h : s.testBit u = false → ((u < m ↔ u < m') ∧ (u < m → c u = c' u))) : tv s c m u = tv s c' m' u := by
  cases w : s.testBit u
  · obtain ⟨p, q⟩ := h w
    by_cases g : u < m
    · rw [tv_d w g, tv_d w (p.mp g), q g]
    · rw [tv_e w g, tv_e w (fun y => g (p.mpr y))]
  · rw [tv_m w, tv_m w]
def tp_is (s : Nat) (c : Nat → Nat) (m : Nat) (tr : Nat → Int32) : Prop := ∀ u, u < 8 → tr u = tv s c m u
theorem tp_neg {q : Nat} (h : q < 2 ^ 31) : ¬ nI q = -2 := by
  intro z
  have e := nI_pos' h
  rw [z] at e
  exact absurd e (by decide)
section
variable {n k : Nat} {kn pl me sa wa fw : Int32} {o d a b yb yw yc yo ys yt ip ou yl yp : Nat → Int32}
theorem yn_fits {s t y : Nat} {c : Nat → Nat} (ht : t < 8) (I : cl_inv yc (sp_C o d a b n)) (hc : ∀ u, u < t → c u ≤ 8) (hy : y ≤ 8) (e1 : ∀ u, u < t → yt u = tv s c t u) (e2 : yt t = nI y) {post : Int32 → Prop} (T : (∀ u, u < t → s.testBit u = false → sp_K o d a b n t u = true → c u ≠ y) → post 1) (F : ¬ (∀ u, u < t → s.testBit u = false → sp_K o d a b n t u = true → c u ≠ y) → post 0) : wpY_fits post (nI n, nI k, kn, pl, me, sa, wa, fw, o, d, a, b, yb, yw, yc, yo, ys, yt, ip, ou, yl, yp) (nI t) := by
  have et : (nI t).toNatClampNeg = t := nI_clamp (by omega)
  have v : vp_in (nI t) 8 := vp_in_nI ht (by decide)
  refine pk_loop (fun m u (_ : Unit) => wY_fits_2 post (nI t) (nI n) (nI k) kn pl me sa wa fw o d a b yb yw yc yo ys yt ip ou yl yp m (nI u)) (fun u _ => ∀ w, w < u → s.testBit w = false → sp_K o d a b n t w = true → c w ≠ y) t 0 () (Nat.zero_le t) (fun w hw => absurd hw (Nat.not_lt_zero w)) ?_ ?_
  · intro m _ J
    exact br_t (Int32.le_refl _) (T J)
  · intro m u _ hu J ih
    have eu : (nI u).toNatClampNeg = u := nI_clamp (by omega)
    have S : (s.testBit u = false → sp_K o d a b n t u = true → c u ≠ y) → ∀ w, w < u + 1 → s.testBit w = false → sp_K o d a b n t w = true → c w ≠ y := by
      intro g w hw
      rcases Nat.lt_or_ge w u with g2 | g2
      · exact J w g2
      · have e3 : w = u := by omega
        rw [e3]
        exact g
    have cu := hc u hu
    refine br_f (nI_ge hu (by omega)) ⟨vp_in_nI (by omega) (by decide), v, ?_⟩
    rw [et, eu, e1 u hu, e2]
    cases w : s.testBit u
    · rw [tv_d w hu]
      refine br_c (fun z => ⟨v, ek_if (cx_has _ (by omega)) (fun q => F (fun g => ?_)) (fun q => nm_r (nI_1 u) (ih () (S (fun _ g => absurd (by rw [sp_K_b I ht (by omega)]; exact g) q))))⟩) (fun z => nm_r (nI_1 u) (ih () (S (fun _ _ g => z (by rw [g])))))
      rw [sp_K_b I ht (by omega)] at q
      exact g u hu w q ((nI_eq (by omega) (by omega)).mp z)
    · rw [tv_m w]
      exact br_f (fun z => tp_neg (by omega) z.symm) (nm_r (nI_1 u) (ih () (S (fun g => absurd (w.symm.trans g) (by decide)))))
theorem yn_try {s r t y : Nat} {c : Nat → Nat} {D : (Nat → Nat) → Prop} (hr : r ≤ 8) (ht : t < 8) (hM : s.testBit t = false) (I : cl_inv yc (sp_C o d a b n)) (hc : ∀ u, u < t → gc_ft (sp_K o d a b n) (fun t => s.testBit t) r c u) (hy : y ≤ r)
    (e1 : ∀ u, u < 8 → u ≠ t → yt u = tv s c t u)
    (hP : yn_P (sp_K o d a b n) (fun t => s.testBit t) r D c t y)
    {post : Int32 → SY → Prop} {J : Int32 → Int32 → (Nat → Int32) → (Nat → Int32) → (Nat → Int32) → (Nat → Int32) → (Nat → Int32) → (Nat → Int32) → (Nat → Int32) → (Nat → Int32) → (Nat → Int32) → (Nat → Int32) → (Nat → Int32) → (Nat → Int32) → (Nat → Int32) → (Nat → Int32) → Prop}
    (JB : ∀ tr, yn_B (sp_K o d a b n) (fun t => s.testBit t) r D c t → tp_is s c t tr → J (nI t - 1) 0 o d a b yb yw yc yo ys tr ip ou yl yp)
    (JF : ∀ tr x, y ≤ x → x < r → yn_P (sp_K o d a b n) (fun t => s.testBit t) r D (yn_set c t x) (t + 1) 0 → (∀ u, u < t + 1 → gc_ft (sp_K o d a b n) (fun t => s.testBit t) r (yn_set c t x) u) → tp_is s (yn_set c t x) (t + 1) tr → J (nI (t + 1)) 1 o d a b yb yw yc yo ys tr ip ou yl yp) : ∃ m, wY_next_105 post J (nI r) (nI t) (nI n) (nI k) kn pl me sa wa fw m o d a b yb yw yc yo ys (upd yt t (nI y)) ip ou yl yp := by
  have et : (nI t).toNatClampNeg = t := nI_clamp (by omega)
  have v : vp_in (nI t) 8 := vp_in_nI ht (by decide)
  have c8 : ∀ u, u < t → c u ≤ 8 := by
    intro u hu
    cases w : s.testBit u
    · have := ((hc u hu).2 w).1
      omega
    · rw [(hc u hu).1 w]
      omega
  refine pk_loop (fun m y (_ : Unit) => wY_next_105 post J (nI r) (nI t) (nI n) (nI k) kn pl me sa wa fw m o d a b yb yw yc yo ys (upd yt t (nI y)) ip ou yl yp) (fun x _ => y ≤ x ∧ yn_P (sp_K o d a b n) (fun t => s.testBit t) r D c t x) r y () hy ⟨Nat.le_refl y, hP⟩ ?_ ?_
  · intro m _ Q
    refine ⟨v, ?_⟩
    rw [et, pk_us]
    refine br_t (Int32.le_refl _) ⟨v, ?_⟩
    rw [et, pk_us]
    refine br_t (Int32.le_refl _) ⟨rfl, rfl, br_t rfl ⟨v, ?_⟩⟩
    rw [et, up_up]
    refine nm_e (br_t rfl (nm_r (xl_m1 t) (JB _ (yn_back ht hM Q.2) (fun u hu => ?_))))
    by_cases z : u = t
    · rw [z, pk_us, tv_e hM (by omega)]
    · rw [pk_un z]
      exact e1 u hu z
  · intro m x _ hx Q ih
    refine ⟨v, ?_⟩
    rw [et, pk_us]
    refine br_f (nI_ge hx (by omega)) (yn_fits (s := s) (y := x) ht I c8 (by omega) (fun u hu => ?_) pk_us (fun z => br_f (by decide) ⟨v, ?_⟩) (fun z => br_t rfl ⟨v, v, ?_⟩))
    · rw [pk_un (by omega), e1 u (by omega) (by omega)]
    · rw [et, pk_us]
      refine br_f (nI_ge hx (by omega)) ⟨rfl, rfl, br_f (by decide) (br_f (by decide) (nm_r (nI_1 t) (JF _ x Q.1 hx (yn_find Q.2) (yn_vset hc ⟨fun w => absurd (hM.symm.trans w) (by decide), fun _ => ?_⟩) (fun u hu => ?_))))⟩
      · rw [yn_s]
        exact ⟨hx, fun u hu mu ku => by rw [yn_n c x (by omega)]; exact z u hu mu ku⟩
      · by_cases q : u = t
        · rw [q, pk_us, tv_d hM (by omega), yn_s]
        · rw [pk_un q, e1 u hu q]
          exact tv_c (fun _ => ⟨by omega, fun _ => (yn_n c x q).symm⟩)
    · rw [up_up]
      refine nm_r (by rw [nI_1]) (ih () ⟨by omega, yn_miss ht Q.2 (fun g => z (fun u hu mu ku => ?_))⟩)
      have g2 := (g.2 hM).2 u hu mu ku
      rw [yn_s, yn_n c x (by omega)] at g2
      exact g2
/-- where the search stands: p, forward or not, the places, trial -/
def ys_I (K : Nat → Nat → Bool) (s r : Nat) (D : (Nat → Nat) → Prop) (fst : Bool) (c0 : Nat → Nat) (q : Nat × Bool × (Nat → Nat) × (Nat → Int32)) : Prop :=
  q.1 ≤ 8 ∧ tp_is s q.2.2.1 q.1 q.2.2.2 ∧ (∀ u, u < q.1 → gc_ft K (fun t => s.testBit t) r q.2.2.1 u) ∧ (q.2.1 = true → yn_P K (fun t => s.testBit t) r D q.2.2.1 q.1 0 ∧ (fst = true ∨ lx_hd q.2.2.1 c0 q.1)) ∧ (q.2.1 = false → yn_B K (fun t => s.testBit t) r D q.2.2.1 q.1 ∧ (fst = true ∨ (lx_hd q.2.2.1 c0 q.1 ∨ lx_eq q.2.2.1 c0 q.1)))
def ys_e (s : Nat) (c : Nat → Nat) (u : Nat) : Nat := if s.testBit u = true then 8 else 8 - c u
def ys_mu (s : Nat) (q : Nat × Bool × (Nat → Nat) × (Nat → Int32)) : Nat := yn_w (ys_e s q.2.2.1) q.1 + (if q.2.1 = true then 9 * 10 ^ (8 - q.1) else 0)
theorem ys_w (s : Nat) (c : Nat → Nat) (t y : Nat) : yn_w (ys_e s (yn_set c t y)) t = yn_w (ys_e s c) t := by
  apply yn_w_cong
  intro u hu
  unfold ys_e
  rw [yn_n c y (by omega)]
theorem ys_f1 (s : Nat) (c : Nat → Nat) (tr : Nat → Int32) (p : Nat) : ys_mu s (p, true, c, tr) = yn_w (ys_e s c) p + 9 * 10 ^ (8 - p) := rfl
theorem ys_f0 (s : Nat) (c : Nat → Nat) (tr : Nat → Int32) (p : Nat) : ys_mu s (p, false, c, tr) = yn_w (ys_e s c) p := rfl
theorem ys_fI {K : Nat → Nat → Bool} {s r p : Nat} {D : (Nat → Nat) → Prop} {fst : Bool} {c0 c : Nat → Nat} {tr : Nat → Int32} (h1 : p ≤ 8) (h2 : tp_is s c p tr) (h3 : ∀ u, u < p → gc_ft K (fun t => s.testBit t) r c u) (h4 : yn_P K (fun t => s.testBit t) r D c p 0) (h5 : fst = true ∨ lx_hd c c0 p) : ys_I K s r D fst c0 (p, true, c, tr) :=
  ⟨h1, h2, h3, fun _ => ⟨h4, h5⟩, fun z => Bool.noConfusion z⟩
theorem ys_bI {K : Nat → Nat → Bool} {s r p : Nat} {D : (Nat → Nat) → Prop} {fst : Bool} {c0 c : Nat → Nat} {tr : Nat → Int32} (h1 : p ≤ 8) (h2 : tp_is s c p tr) (h3 : ∀ u, u < p → gc_ft K (fun t => s.testBit t) r c u) (h4 : yn_B K (fun t => s.testBit t) r D c p) (h5 : fst = true ∨ (lx_hd c c0 p ∨ lx_eq c c0 p)) : ys_I K s r D fst c0 (p, false, c, tr) :=
  ⟨h1, h2, h3, fun z => Bool.noConfusion z, fun _ => ⟨h4, h5⟩⟩
theorem yn_loop {s r : Nat} {D : (Nat → Nat) → Prop} {fst : Bool} {c0 : Nat → Nat} (hr : r ≤ 8) (I : cl_inv yc (sp_C o d a b n)) {post : Int32 → SY → Prop}
    (h1 : ∀ c tr, gc_vd (sp_K o d a b n) (fun t => s.testBit t) r c → yn_P (sp_K o d a b n) (fun t => s.testBit t) r D c 8 0 → (fst = true ∨ lx_hd c c0 8) → tp_is s c 8 tr → post 1 (nI n, nI k, kn, pl, me, sa, wa, 1, o, d, a, b, yb, yw, yc, yo, ys, tr, ip, ou, yl, yp))
    (h0 : ∀ tr, (∀ x, gc_vd (sp_K o d a b n) (fun t => s.testBit t) r x → D x) → post 0 (nI n, nI k, kn, pl, me, sa, wa, 0, o, d, a, b, yb, yw, yc, yo, ys, tr, ip, ou, yl, yp))
    (q : Nat × Bool × (Nat → Nat) × (Nat → Int32)) (hq : ys_I (sp_K o d a b n) s r D fst c0 q) : ∃ m, wY_next_50 post (nI r) (nI n) (nI k) kn pl me sa wa m (if q.2.1 = true then nI q.1 else nI q.1 - 1) (if q.2.1 = true then 1 else 0) o d a b yb yw yc yo ys q.2.2.2 ip ou yl yp := by
  refine loop_m (fun m (q : Nat × Bool × (Nat → Nat) × (Nat → Int32)) => wY_next_50 post (nI r) (nI n) (nI k) kn pl me sa wa m (if q.2.1 = true then nI q.1 else nI q.1 - 1) (if q.2.1 = true then 1 else 0) o d a b yb yw yc yo ys q.2.2.2 ip ou yl yp) (ys_I (sp_K o d a b n) s r D fst c0) (ys_mu s) ?_ q hq
  intro m q Q ih
  obtain ⟨p, fd, c, tr⟩ := q
  obtain ⟨Q1, Q2, Q3, Q4, Q5⟩ := Q
  dsimp only at Q1 Q2 Q3 Q4 Q5 ⊢
  cases fd
  · obtain ⟨QB, QE⟩ := Q5 rfl
    rw [if_neg (by decide), if_neg (by decide)]
    rcases Nat.eq_zero_or_pos p with z | z
    · subst z
      exact br_t (by decide) (br_f (by decide) (h0 tr (fun x hx => QB x hx (Or.inr (fun u hu => absurd hu (Nat.not_lt_zero u))))))
    · obtain ⟨t, rfl⟩ : ∃ t, p = t + 1 := ⟨p - 1, by omega⟩
      have et : (nI t).toNatClampNeg = t := nI_clamp (by omega)
      have v : vp_in (nI t) 8 := vp_in_nI (by omega) (by decide)
      rw [nI_pred]
      refine br_f (nI_pos (by omega)) (br_f (nI_ge (b := 8) (by omega) (by decide)) ⟨v, ?_⟩)
      rw [et, Q2 t (by omega)]
      cases w : s.testBit t
      · have lt := ((Q3 t (by omega)).2 w).1
        rw [tv_d w (by omega)]
        refine br_f (tp_neg (by omega)) ⟨v, v, ?_⟩
        rw [nI_1]
        refine nm_e (yn_try (s := s) (c := c) (D := D) hr (by omega) w I (fun u hu => Q3 u (by omega)) (by omega) (fun u hu ne => ?_) (yn_next QB) (fun tr' B tp => ?_) (fun tr' x hx hx2 P' V' tp => ?_))
        · rw [Q2 u hu]
          exact tv_c (fun _ => ⟨by omega, fun _ => rfl⟩)
        · refine ih (t, false, c, tr') (ys_bI (by omega) tp (fun u hu => Q3 u (by omega)) B ?_) ?_
          · rcases QE with g | g | g
            · exact Or.inl g
            · rcases lx_hs.mp g with g2 | g2
              · exact Or.inr (Or.inl g2)
              · exact Or.inr (Or.inr g2.1)
            · exact Or.inr (Or.inr (lx_es.mp g).1)
          · rw [ys_f0, ys_f0, yn_w]
            refine yn_bw ?_
            unfold ys_e
            rw [w, if_neg (by decide)]
            omega
        · refine ih (t + 1, true, yn_set c t x, tr') (ys_fI (by omega) tp V' P' ?_) ?_
          · rcases QE with g | g | g
            · exact Or.inl g
            · refine Or.inr (lx_hs.mpr ?_)
              rcases lx_hs.mp g with g2 | g2
              · exact Or.inl (lx_cong (fun u hu => yn_n c x (by omega)) (fun _ _ => rfl) g2)
              · exact Or.inr ⟨fun u hu => by rw [yn_n c x (by omega)]; exact g2.1 u hu, by rw [yn_s]; omega⟩
            · have g2 := lx_es.mp g
              exact Or.inr (lx_hs.mpr (Or.inr ⟨fun u hu => by rw [yn_n c x (by omega)]; exact g2.1 u hu, by rw [yn_s, g2.2]; omega⟩))
          · rw [ys_f0, ys_f1, yn_w, yn_w, ys_w]
            refine yn_fw (by omega) ?_ (Nat.le_refl 9)
            unfold ys_e
            rw [w, if_neg (by decide), if_neg (by decide), yn_s]
            omega
      · rw [tv_m w]
        refine br_t rfl (br_t rfl (nm_r (xl_m1 t) (ih (t, false, c, tr) (ys_bI (by omega) (fun u hu => ?_) (fun u hu => Q3 u (by omega)) (yn_memB (by omega) w ((Q3 t (by omega)).1 w) QB) ?_) ?_)))
        · rw [Q2 u hu]
          refine tv_c (fun w2 => ?_)
          have ne : u ≠ t := by
            intro e3
            rw [e3, w] at w2
            exact absurd w2 (by decide)
          exact ⟨by omega, fun _ => rfl⟩
        · rcases QE with g | g | g
          · exact Or.inl g
          · rcases lx_hs.mp g with g2 | g2
            · exact Or.inr (Or.inl g2)
            · exact Or.inr (Or.inr g2.1)
          · exact Or.inr (Or.inr (lx_es.mp g).1)
        · rw [ys_f0, ys_f0, yn_w]
          refine yn_bw ?_
          unfold ys_e
          rw [w, if_pos rfl]
          decide
  · obtain ⟨QP, QE⟩ := Q4 rfl
    rw [if_pos rfl, if_pos rfl]
    rcases Nat.eq_or_lt_of_le Q1 with z | z
    · subst z
      exact br_f (by decide) (br_t (by decide) (br_t rfl (h1 c tr Q3 QP QE Q2)))
    · have et : (nI p).toNatClampNeg = p := nI_clamp (by omega)
      have v : vp_in (nI p) 8 := vp_in_nI z (by decide)
      refine br_f (nI_pos (by omega)) (br_f (nI_ge (b := 8) z (by decide)) ⟨v, ?_⟩)
      rw [et, Q2 p z]
      have QF : ∀ x, fst = true ∨ lx_hd (yn_set c p x) c0 (p + 1) := by
        intro x
        rcases QE with g | g
        · exact Or.inl g
        · exact Or.inr (lx_hs.mpr (Or.inl (lx_cong (fun u hu => yn_n c x (by omega)) (fun _ _ => rfl) g)))
      cases w : s.testBit p
      · rw [tv_e w (by omega)]
        refine br_f (by decide) ⟨v, v, nm_r (e' := upd tr p (nI 0)) rfl ?_⟩
        refine yn_try (s := s) (c := c) (D := D) hr z w I Q3 (Nat.zero_le r) (fun u hu ne => Q2 u hu) QP (fun tr' B tp => ?_) (fun tr' x hx hx2 P' V' tp => ?_)
        · refine ih (p, false, c, tr') (ys_bI Q1 tp Q3 B ?_) ?_
          · rcases QE with g | g
            · exact Or.inl g
            · exact Or.inr (Or.inl g)
          · rw [ys_f0, ys_f1]
            exact yn_bw (by decide)
        · refine ih (p + 1, true, yn_set c p x, tr') (ys_fI (by omega) tp V' P' (QF x)) ?_
          rw [ys_f1, ys_f1, yn_w, ys_w]
          refine yn_fw z ?_ (Nat.le_refl 9)
          unfold ys_e
          rw [w, if_neg (by decide)]
          omega
      · rw [tv_m w]
        refine br_t rfl (br_f (by decide) (nm_r (nI_1 p) (ih (p + 1, true, yn_set c p 0, tr) (ys_fI (by omega) (fun u hu => ?_) (yn_vset Q3 ⟨fun _ => yn_s c p 0, fun g => absurd (w.symm.trans g) (by decide)⟩) (yn_find QP) (QF 0)) ?_)))
        · rw [Q2 u hu]
          refine tv_c (fun w2 => ?_)
          have ne : u ≠ p := by
            intro e3
            rw [e3, w] at w2
            exact absurd w2 (by decide)
          exact ⟨by omega, fun _ => (yn_n c 0 ne).symm⟩
        · rw [ys_f1, ys_f1, yn_w, ys_w]
          refine yn_fw z ?_ (Nat.le_refl 9)
          unfold ys_e
          rw [w, if_pos rfl]
          decide
end
end
section
section
variable {n k : Nat} {kn pl me sa wa fw : Int32} {o d a b yb yw yc yo ys yt ip ou yl yp : Nat → Int32}
theorem yn_first {s r : Nat} {D : (Nat → Nat) → Prop} (hr : r ≤ 8) (I : cl_inv yc (sp_C o d a b n)) {post : Int32 → SY → Prop}
    (h1 : ∀ c tr, gc_vd (sp_K o d a b n) (fun t => s.testBit t) r c → yn_P (sp_K o d a b n) (fun t => s.testBit t) r D c 8 0 → tp_is s c 8 tr → post 1 (nI n, nI k, kn, pl, me, sa, wa, 1, o, d, a, b, yb, yw, yc, yo, ys, tr, ip, ou, yl, yp))
    (h0 : ∀ tr, (∀ x, gc_vd (sp_K o d a b n) (fun t => s.testBit t) r x → D x) → post 0 (nI n, nI k, kn, pl, me, sa, wa, 0, o, d, a, b, yb, yw, yc, yo, ys, tr, ip, ou, yl, yp)) : wpY_next post (nI n, nI k, kn, pl, me, sa, wa, 1, o, d, a, b, yb, yw, yc, yo, ys, yt, ip, ou, yl, yp) (nI s) (nI r) 1 := by
  refine br_f (by decide) ?_
  refine pk_loop (fun m u (tr : Nat → Int32) => wY_next_11 post (nI s) (nI r) (nI n) (nI k) kn pl me sa wa 1 m (nI u) o d a b yb yw yc yo ys tr ip ou yl yp) (fun u tr => ∀ w, w < u → tr w = tv s (fun _ => 0) 0 w) 8 0 yt (Nat.zero_le 8) (fun w hw => absurd hw (Nat.not_lt_zero w)) ?_ ?_
  · intro m tr J
    refine br_t (Int32.le_refl _) ?_
    exact yn_loop (fst := true) (c0 := fun _ => 0) hr I (fun c tr a b _ e => h1 c tr a b e) h0 (0, true, (fun _ => 0), tr) (ys_fI (Nat.zero_le 8) J (fun u hu => absurd hu (Nat.not_lt_zero u)) (fun x _ hx => absurd hx (fun y => y.elim lx_h0 (fun z => absurd z.2 (Nat.not_lt_zero _)))) (Or.inl rfl))
  · intro m u tr hu J ih
    have e : (nI u).toNatClampNeg = u := nI_clamp (by omega)
    have v : vp_in (nI u) 8 := vp_in_nI hu (by decide)
    refine br_f (nI_ge (b := 8) hu (by decide)) ?_
    rw [e]
    refine ek_if (cx_has _ (by omega)) (fun z => ⟨v, nm_e (nm_r (nI_1 u) (ih _ (up_lt J ?_)))⟩) (fun z => ⟨v, nm_e (nm_r (nI_1 u) (ih _ (up_lt J ?_)))⟩)
    · rw [cx_bn _ (by omega)] at z
      exact (tv_m z).symm
    · rw [cx_bn _ (by omega)] at z
      exact (tv_e (by simpa using z) (Nat.not_lt_zero u)).symm
theorem yn_more {s r : Nat} {c0 : Nat → Nat} (hr : r ≤ 8) (I : cl_inv yc (sp_C o d a b n)) (V : gc_vd (sp_K o d a b n) (fun t => s.testBit t) r c0) (tp : tp_is s c0 8 yt) {x : Int32} {post : Int32 → SY → Prop}
    (h1 : ∀ c tr, gc_vd (sp_K o d a b n) (fun t => s.testBit t) r c → (∀ x, gc_vd (sp_K o d a b n) (fun t => s.testBit t) r x → lx_hd c x 8 → (lx_hd c0 x 8 ∨ lx_eq c0 x 8)) → lx_hd c c0 8 → tp_is s c 8 tr → post 1 (nI n, nI k, kn, pl, me, sa, wa, 1, o, d, a, b, yb, yw, yc, yo, ys, tr, ip, ou, yl, yp))
    (h0 : ∀ tr, (∀ x, gc_vd (sp_K o d a b n) (fun t => s.testBit t) r x → (lx_hd c0 x 8 ∨ lx_eq c0 x 8)) → post 0 (nI n, nI k, kn, pl, me, sa, wa, 0, o, d, a, b, yb, yw, yc, yo, ys, tr, ip, ou, yl, yp)) : wpY_next post (nI n, nI k, kn, pl, me, sa, wa, 0, o, d, a, b, yb, yw, yc, yo, ys, yt, ip, ou, yl, yp) x (nI r) 0 := by
  refine br_t rfl ?_
  have e7 : nI 8 - 1 = 7 := by decide
  have K : ∃ q, wY_next_50 post (nI r) (nI n) (nI k) kn pl me sa wa q (nI 8 - 1) 0 o d a b yb yw yc yo ys yt ip ou yl yp := yn_loop (fst := false) (c0 := c0) (D := fun x => lx_hd c0 x 8 ∨ lx_eq c0 x 8) hr I (fun c tr a b e f => h1 c tr a (fun x hx g => b x hx (Or.inl g)) (e.resolve_left (by decide)) f) h0 (8, false, c0, yt) (ys_bI (Nat.le_refl 8) tp V (fun x _ hx => hx) (Or.inr (Or.inr (fun _ _ => rfl))))
  rw [e7] at K
  exact K
theorem yn_poss {s r : Nat} (hr : r ≤ 8) (I : cl_inv yc (sp_C o d a b n)) {post : Int32 → SY → Prop} (h1 : ∀ fw yt, sp_F o d a b n r s → post 1 (nI n, nI k, kn, pl, me, sa, wa, fw, o, d, a, b, yb, yw, yc, yo, ys, yt, ip, ou, yl, yp)) (h0 : ∀ fw yt, ¬ sp_F o d a b n r s → post 0 (nI n, nI k, kn, pl, me, sa, wa, fw, o, d, a, b, yb, yw, yc, yo, ys, yt, ip, ou, yl, yp)) : wpY_possible post (nI n, nI k, kn, pl, me, sa, wa, fw, o, d, a, b, yb, yw, yc, yo, ys, yt, ip, ou, yl, yp) (nI s) (nI r) := by
  unfold wpY_possible
  dsimp only
  exact yn_first (D := fun _ => False) hr I (fun c tr V _ _ => ⟨rfl, h1 _ _ (sp_F_vd.mpr ⟨c, V⟩)⟩) (fun tr N => ⟨rfl, h0 _ _ (fun z => by obtain ⟨c, V⟩ := sp_F_vd.mp z; exact N c V)⟩)
theorem yn_least {N : Nat} (hN : N ≤ 8) (I : cl_inv yc (sp_C o d a b n)) (h : ∀ r, sp_F o d a b n r 0 ↔ N ≤ r) {post : Int32 → SY → Prop} (hp : ∀ fw yt, post (nI N) (nI n, nI k, kn, pl, me, sa, wa, fw, o, d, a, b, yb, yw, yc, yo, ys, yt, ip, ou, yl, yp)) : ∃ m, wY_least_6 post m 1 (nI n) (nI k) kn pl me sa wa fw o d a b yb yw yc yo ys yt ip ou yl yp := by
  have N1 : 1 ≤ N := by
    rcases Nat.eq_zero_or_pos N with z | z
    · obtain ⟨c, hc⟩ := (h 0).mpr (by omega)
      exact absurd (hc 0 (by decide) (by decide)).1 (Nat.not_lt_zero _)
    · exact z
  refine pk_loop (fun m r (q : Int32 × (Nat → Int32)) => wY_least_6 post m (nI r) (nI n) (nI k) kn pl me sa wa q.1 o d a b yb yw yc yo ys q.2 ip ou yl yp) (fun _ _ => True) N 1 (fw, yt) N1 trivial ?_ ?_
  · intro m q _
    rw [wY_least_6]
    exact yn_poss (s := 0) hN I (fun fw yt _ => br_f (by decide) (hp fw yt)) (fun fw yt z => absurd ((h N).mpr (Nat.le_refl N)) z)
  · intro m r q hr _ ih
    rw [wY_least_6]
    exact yn_poss (s := 0) (by omega) I (fun fw yt z => absurd ((h r).mp z) (by omega)) (fun fw yt _ => br_t rfl (nm_r (nI_1 r) (ih (fw, yt) trivial)))
theorem ya_sum {s : Nat} (hc : ∀ t, t < 8 → yo t = sp_cost o d a b n t) {post : Int32 → Prop} (h : post (sp_sum o d a b n s)) : wpY_sum post (nI n, nI k, kn, pl, me, sa, wa, fw, o, d, a, b, yb, yw, yc, yo, ys, yt, ip, ou, yl, yp) (nI s) := by
  refine pk_loop (fun m t (x : Int32) => wY_sum_4 post (nI s) (nI n) (nI k) kn pl me sa wa fw o d a b yb yw yc yo ys yt ip ou yl yp m x (nI t)) (fun t x => x = sp_sm o d a b n s t) 8 0 0 (Nat.zero_le 8) rfl ?_ ?_
  · intro m x J
    refine br_t (Int32.le_refl _) ?_
    rw [J]
    exact h
  · intro m t x ht J ih
    have e : (nI t).toNatClampNeg = t := nI_clamp (by omega)
    refine br_f (nI_ge (b := 8) ht (by decide)) (ek_if (cx_has _ (by omega)) (fun y => ⟨vp_in_nI ht (by decide), ?_⟩) (fun y => nm_r (nI_1 t) (ih _ ?_)))
    · rw [e]
      rw [cx_bn _ (by omega)] at y
      refine nm_e (nm_r (nI_1 t) (ih _ ?_))
      rw [sp_sm, if_pos y, J, hc t ht]
    · rw [cx_bn _ (by omega)] at y
      rw [sp_sm, if_neg y]
      exact J
theorem ya_same {s p q : Nat} {c : Nat → Nat} {tr : Nat → Int32} (hp : p < 8) (hq : q < 8) (c8 : ∀ t, t < 8 → c t ≤ 8) (tp : tp_is s c 8 tr) : (tr p = tr q ∧ ¬ tr p = -2) ↔ ((!s.testBit p && !s.testBit q) && decide (c p = c q)) = true := by
  have a1 := c8 p hp
  have a2 := c8 q hq
  rw [tp p hp, tp q hq]
  cases w1 : s.testBit p
  · cases w2 : s.testBit q
    · rw [tv_d w1 hp, tv_d w2 hq, nI_eq (by omega) (by omega)]
      simp only [Bool.not_false, Bool.true_and, decide_eq_true_eq]
      exact ⟨fun z => z.1, fun z => ⟨z, tp_neg (by omega)⟩⟩
    · rw [tv_d w1 hp, tv_m w2]
      simp only [Bool.not_true, Bool.and_false, Bool.false_and]
      exact ⟨fun z => absurd z.1 z.2, fun z => absurd z (by decide)⟩
  · rw [tv_m w1]
    simp only [Bool.not_true, Bool.false_and]
    exact ⟨fun z => absurd trivial z.2, fun z => absurd z (by decide)⟩
theorem ya_saved_trial {i m : Nat} {c : Nat → Nat} (hn : n ≤ 20) (ok : sp_ok o d a b n) (hi : i < n) (c8 : ∀ t, t < 8 → c t ≤ 8) (tp : tp_is m c 8 yt) {post : Int32 → Prop} (T : sp_sv1 o d a (fun t => m.testBit t) c i = true → post 1) (F : ¬ sp_sv1 o d a (fun t => m.testBit t) c i = true → post 0) : wpY_isSaved__trial post (nI n, nI k, kn, pl, me, sa, wa, fw, o, d, a, b, yb, yw, yc, yo, ys, yt, ip, ou, yl, yp) (nI i) := by
  have e : (nI i).toNatClampNeg = i := nI_clamp (by omega)
  have w : vp_in (nI i) 20 := vp_in_nI (by omega) (by decide)
  unfold wpY_isSaved__trial
  dsimp only
  rw [e]
  unfold sp_sv1 at T F
  dsimp only at T F
  by_cases h5 : o i = 5
  · obtain ⟨_, k2, k3, _⟩ := ok i hi
    obtain ⟨p, hp, e2⟩ := k2 (by rw [h5]; decide)
    obtain ⟨q, hq, e3⟩ := k3 (by rw [h5]; decide)
    have v1 : vp_in (nI p) 8 := vp_in_nI hp (by decide)
    have v2 : vp_in (nI q) 8 := vp_in_nI hq (by decide)
    rw [e2, e3, nI_clamp (by omega), nI_clamp (by omega), decide_eq_true h5, Bool.true_and, Bool.or_eq_true, decide_eq_true_eq, ← ya_same hp hq c8 tp] at T F
    rw [e2, e3, nI_clamp (by omega), nI_clamp (by omega)]
    refine ⟨w, br_t h5 ⟨w, w, br_c (fun z => T (Or.inl z)) (fun z => ⟨w, v1, w, v2, br_c (fun y => ⟨w, v1, br_c (fun x => F (fun g => g.elim z (fun g => g.2 x))) (fun x => T (Or.inr ⟨y, x⟩))⟩) (fun y => F (fun g => g.elim z (fun g => y g.1)))⟩)⟩⟩
  · exact ⟨w, br_f h5 (F (by rw [decide_eq_false h5]; simp))⟩
theorem ya_saved_best {i m : Nat} {c : Nat → Nat} (hn : n ≤ 20) (ok : sp_ok o d a b n) (hi : i < n) (c8 : ∀ t, t < 8 → c t ≤ 8) (tp : tp_is m c 8 ys) {post : Int32 → Prop} (T : sp_sv1 o d a (fun t => m.testBit t) c i = true → post 1) (F : ¬ sp_sv1 o d a (fun t => m.testBit t) c i = true → post 0) : wpY_isSaved__best post (nI n, nI k, kn, pl, me, sa, wa, fw, o, d, a, b, yb, yw, yc, yo, ys, yt, ip, ou, yl, yp) (nI i) := by
  have e : (nI i).toNatClampNeg = i := nI_clamp (by omega)
  have w : vp_in (nI i) 20 := vp_in_nI (by omega) (by decide)
  unfold wpY_isSaved__best
  dsimp only
  rw [e]
  unfold sp_sv1 at T F
  dsimp only at T F
  by_cases h5 : o i = 5
  · obtain ⟨_, k2, k3, _⟩ := ok i hi
    obtain ⟨p, hp, e2⟩ := k2 (by rw [h5]; decide)
    obtain ⟨q, hq, e3⟩ := k3 (by rw [h5]; decide)
    have v1 : vp_in (nI p) 8 := vp_in_nI hp (by decide)
    have v2 : vp_in (nI q) 8 := vp_in_nI hq (by decide)
    rw [e2, e3, nI_clamp (by omega), nI_clamp (by omega), decide_eq_true h5, Bool.true_and, Bool.or_eq_true, decide_eq_true_eq, ← ya_same hp hq c8 tp] at T F
    rw [e2, e3, nI_clamp (by omega), nI_clamp (by omega)]
    refine ⟨w, br_t h5 ⟨w, w, br_c (fun z => T (Or.inl z)) (fun z => ⟨w, v1, w, v2, br_c (fun y => ⟨w, v1, br_c (fun x => F (fun g => g.elim z (fun g => g.2 x))) (fun x => T (Or.inr ⟨y, x⟩))⟩) (fun y => F (fun g => g.elim z (fun g => y g.1)))⟩)⟩⟩
  · exact ⟨w, br_f h5 (F (by rw [decide_eq_false h5]; simp))⟩
theorem ya_copy {m : Nat} {c : Nat → Nat} (tp : tp_is m c 8 yt) {post : SY → Prop} {J : Int32 → Int32 → Int32 → Int32 → Int32 → Int32 → Int32 → Int32 → Int32 → (Nat → Int32) → (Nat → Int32) → (Nat → Int32) → (Nat → Int32) → (Nat → Int32) → (Nat → Int32) → (Nat → Int32) → (Nat → Int32) → (Nat → Int32) → (Nat → Int32) → (Nat → Int32) → (Nat → Int32) → (Nat → Int32) → (Nat → Int32) → Prop} (h : ∀ bs, tp_is m c 8 bs → wY_allocate_186 post J (nI n) (nI k) kn pl me sa wa fw o d a b yb yw yc yo bs yt ip ou yl yp) : ∃ q, wY_allocate_159 post J (nI n) (nI k) kn pl me sa wa fw q 0 o d a b yb yw yc yo ys yt ip ou yl yp := by
  refine pk_loop (fun q t (bs : Nat → Int32) => wY_allocate_159 post J (nI n) (nI k) kn pl me sa wa fw q (nI t) o d a b yb yw yc yo bs yt ip ou yl yp) (fun t bs => ∀ w, w < t → bs w = tv m c 8 w) 8 0 ys (Nat.zero_le 8) (fun w hw => absurd hw (Nat.not_lt_zero w)) ?_ ?_
  · intro q bs Q
    exact br_t (Int32.le_refl _) (h bs Q)
  · intro q t bs ht Q ih
    have e : (nI t).toNatClampNeg = t := nI_clamp (by omega)
    have v : vp_in (nI t) 8 := vp_in_nI ht (by decide)
    refine br_f (nI_ge (b := 8) ht (by decide)) ⟨v, v, ?_⟩
    rw [e]
    exact nm_e (nm_r (nI_1 t) (ih _ (up_lt Q (tp t ht))))
theorem ya_count {m : Nat} {c : Nat → Nat} (hn : n ≤ 20) (ok : sp_ok o d a b n) (c8 : ∀ t, t < 8 → c t ≤ 8) (tp : tp_is m c 8 yt) {post : SY → Prop} {J : Int32 → Int32 → Int32 → Int32 → Int32 → Int32 → Int32 → Int32 → Int32 → (Nat → Int32) → (Nat → Int32) → (Nat → Int32) → (Nat → Int32) → (Nat → Int32) → (Nat → Int32) → (Nat → Int32) → (Nat → Int32) → (Nat → Int32) → (Nat → Int32) → (Nat → Int32) → (Nat → Int32) → (Nat → Int32) → (Nat → Int32) → Prop} (A : nI (sp_sv o d a n (fun t => m.testBit t) c) ≤ sa → wY_allocate_186 post J (nI n) (nI k) kn pl me sa wa fw o d a b yb yw yc yo ys yt ip ou yl yp) (B : ¬ nI (sp_sv o d a n (fun t => m.testBit t) c) ≤ sa → ∀ bs, tp_is m c 8 bs → wY_allocate_186 post J (nI n) (nI k) kn pl me (nI (sp_sv o d a n (fun t => m.testBit t) c)) wa fw o d a b yb yw yc yo bs yt ip ou yl yp) : ∃ q, wY_allocate_112 post J (nI n) (nI k) kn pl me sa wa fw o d a b yb yw yc yo ys yt ip ou yl yp q 0 0 := by
  refine pk_loop (fun q i (x : Int32) => wY_allocate_112 post J (nI n) (nI k) kn pl me sa wa fw o d a b yb yw yc yo ys yt ip ou yl yp q x (nI i)) (fun i x => x = nI (pu_cnt (sp_sv1 o d a (fun t => m.testBit t) c) i)) n 0 0 (Nat.zero_le n) rfl ?_ ?_
  · intro q x Q
    refine br_t (Int32.le_refl _) ?_
    rw [Q]
    exact br_c A (fun z => ya_copy tp (B z))
  · intro q i x hi Q ih
    refine br_f (nI_ge hi (by omega)) (ya_saved_trial hn ok hi c8 tp (fun z => br_f (by decide) (nm_r (by rw [Q, nI_1]) (nm_r (nI_1 i) (ih _ ?_)))) (fun z => br_t rfl (nm_r (nI_1 i) (ih _ ?_))))
    · rw [pu_cnt, if_pos z]
    · rw [pu_cnt, if_neg z]
      exact Q
/-- what lies ahead of c, or all of it, has been seen -/
def ya_seen (V : (Nat → Nat) → Prop) (S : (Nat → Nat) → Nat) (m : Nat) (E : (Nat → Nat) → Prop) (sa : Int32) (bs : Nat → Int32) : Prop :=
  (sa = -1 ∧ ∀ x, V x → ¬ E x) ∨ (∃ c, V c ∧ sa = nI (S c) ∧ tp_is m c 8 bs ∧ (∀ x, V x → E x → S x ≤ S c) ∧ (∀ x, V x → lx_hd c x 8 → S x < S c))
theorem ya_keep {V : (Nat → Nat) → Prop} {S : (Nat → Nat) → Nat} {m : Nat} {E E' : (Nat → Nat) → Prop} {sa : Int32} {bs : Nat → Int32} {c : Nat → Nat} (hS : ∀ c, S c ≤ 20) (hc : ∀ x, V x → E' x → E x ∨ S x = S c) (I : ya_seen V S m E sa bs) (h : nI (S c) ≤ sa) : ya_seen V S m E' sa bs := by
  rcases I with ⟨a, b⟩ | ⟨x, x1, x2, x3, x4, x5⟩
  · rw [a] at h
    have z := nI_pos' (n := S c) (by have := hS c; omega)
    exact absurd (Int32.le_trans z h) (by decide)
  · rw [x2, nI_leI (by have := hS c; omega) (by have := hS x; omega)] at h
    refine Or.inr ⟨x, x1, x2, x3, fun y hy e => ?_, x5⟩
    rcases hc y hy e with g | g
    · exact x4 y hy g
    · rw [g]
      exact h
theorem ya_take {V : (Nat → Nat) → Prop} {S : (Nat → Nat) → Nat} {m : Nat} {E' : (Nat → Nat) → Prop} {sa : Int32} {bs bs' : Nat → Int32} {c : Nat → Nat} (hS : ∀ c, S c ≤ 20) (hV : V c) (hc : ∀ x, V x → E' x → lx_hd c x 8 ∨ S x = S c) (tp : tp_is m c 8 bs') (I : ya_seen V S m (fun x => lx_hd c x 8) sa bs) (h : ¬ nI (S c) ≤ sa) : ya_seen V S m E' (nI (S c)) bs' := by
  have K : ∀ y, V y → lx_hd c y 8 → S y < S c := by
    intro y hy e
    rcases I with ⟨a, b⟩ | ⟨x, x1, x2, x3, x4, x5⟩
    · exact absurd e (b y hy)
    · rw [x2, nI_leI (by have := hS c; omega) (by have := hS x; omega)] at h
      have := x4 y hy e
      omega
  refine Or.inr ⟨c, hV, rfl, tp, fun y hy e => ?_, K⟩
  rcases hc y hy e with g | g
  · exact Nat.le_of_lt (K y hy g)
  · rw [g]
    exact Nat.le_refl _
theorem ya_end {m : Nat} (hF : sp_F o d a b n k m) {sa : Int32} {bs : Nat → Int32} {E : (Nat → Nat) → Prop} (hE : ∀ x, gc_vd (sp_K o d a b n) (fun t => m.testBit t) k x → E x) (I : ya_seen (gc_vd (sp_K o d a b n) (fun t => m.testBit t) k) (sp_sv o d a n (fun t => m.testBit t)) m E sa bs) : ∃ c, sp_B o d a b n k m c ∧ tp_is m c 8 bs ∧ sa = nI (sp_sv o d a n (fun t => m.testBit t) c) := by
  rcases I with ⟨_, b⟩ | ⟨x, x1, x2, x3, x4, x5⟩
  · obtain ⟨c, V⟩ := sp_F_vd.mp hF
    exact absurd (hE c V) (b c V)
  · exact ⟨x, ⟨x1, fun y hy => x4 y hy (hE y hy), x5⟩, x3, x2⟩
/-- Y's choice, once placed -/
def yp_ok (o d a b : Nat → Int32) (n k : Nat) (me sa : Int32) (ys : Nat → Int32) : Prop :=
  ∃ m, me = nI m ∧ sp_M o d a b n k m ∧ ∃ c, sp_B o d a b n k m c ∧ tp_is m c 8 ys ∧ sa = nI (sp_sv o d a n (fun t => m.testBit t) c)
theorem ya_103 {m : Nat} (hn : n ≤ 20) (ok : sp_ok o d a b n) (hk : k ≤ 4) (I : cl_inv yc (sp_C o d a b n)) (hM : sp_M o d a b n k m) {post : SY → Prop} (h : ∀ sa fw ys yt, yp_ok o d a b n k (nI m) sa ys → post (nI n, nI k, kn, pl, nI m, sa, wa, fw, o, d, a, b, yb, yw, yc, yo, ys, yt, ip, ou, yl, yp)) {c : Nat → Nat} (V : gc_vd (sp_K o d a b n) (fun t => m.testBit t) k c) (tp : tp_is m c 8 yt) (S : ya_seen (gc_vd (sp_K o d a b n) (fun t => m.testBit t) k) (sp_sv o d a n (fun t => m.testBit t)) m (fun x => lx_hd c x 8) sa ys) : ∃ q, wY_allocate_103 post q 1 (nI n) (nI k) kn pl (nI m) sa wa fw o d a b yb yw yc yo ys yt ip ou yl yp := by
  have m20 : sp_mv o n ≤ 20 := Nat.le_trans (pu_cnt_le _ n) hn
  have S20 : ∀ c, sp_sv o d a n (fun t => m.testBit t) c ≤ 20 := fun c => Nat.le_trans (sp_sv_le o d a n _ c) m20
  have d4 : ∀ c, gc_vd (sp_K o d a b n) (fun t => m.testBit t) k c → ∀ t, t < 8 → c t < 4 := by
    intro c hc t ht
    cases w : m.testBit t
    · exact Nat.lt_of_lt_of_le ((hc t ht).2 w).1 hk
    · rw [(hc t ht).1 w]
      decide
  have up : ∀ c c', gc_vd (sp_K o d a b n) (fun t => m.testBit t) k c → gc_vd (sp_K o d a b n) (fun t => m.testBit t) k c' → lx_hd c' c 8 → 65537 - xd_of c' < 65537 - xd_of c := by
    intro c c' hc hc' l
    have := xd_lx (xd_of_lt (d4 c hc)) (lx_cong (xd_of_g (d4 c' hc')) (xd_of_g (d4 c hc)) l)
    have := xd_of_lt (d4 c' hc')
    omega
  refine loop_m (fun q (s : Bool × (Nat → Nat) × Int32 × Int32 × (Nat → Int32) × (Nat → Int32)) => wY_allocate_103 post q (if s.1 = true then 1 else 0) (nI n) (nI k) kn pl (nI m) s.2.2.1 wa s.2.2.2.1 o d a b yb yw yc yo s.2.2.2.2.1 s.2.2.2.2.2 ip ou yl yp) (fun s => (s.1 = true → gc_vd (sp_K o d a b n) (fun t => m.testBit t) k s.2.1 ∧ tp_is m s.2.1 8 s.2.2.2.2.2 ∧ ya_seen (gc_vd (sp_K o d a b n) (fun t => m.testBit t) k) (sp_sv o d a n (fun t => m.testBit t)) m (fun x => lx_hd s.2.1 x 8) s.2.2.1 s.2.2.2.2.1) ∧ (s.1 = false → yp_ok o d a b n k (nI m) s.2.2.1 s.2.2.2.2.1)) (fun s => if s.1 = true then 65537 - xd_of s.2.1 else 0) ?_ (true, c, sa, fw, ys, yt) ⟨fun _ => ⟨V, tp, S⟩, fun z => Bool.noConfusion z⟩
  intro q s Q ih
  obtain ⟨fl, c, sa, fw, ys, yt⟩ := s
  obtain ⟨Q1, Q2⟩ := Q
  dsimp only at Q1 Q2 ih ⊢
  cases fl
  · exact br_t rfl (h _ _ _ _ (Q2 rfl))
  · obtain ⟨V, tp, S⟩ := Q1 rfl
    have cx := xd_of_lt (d4 c V)
    rw [if_pos rfl]
    have G : ∀ sa' ys', (∀ E' : (Nat → Nat) → Prop, (∀ x, gc_vd (sp_K o d a b n) (fun t => m.testBit t) k x → E' x → lx_hd c x 8 ∨ sp_sv o d a n (fun t => m.testBit t) x = sp_sv o d a n (fun t => m.testBit t) c) → ya_seen (gc_vd (sp_K o d a b n) (fun t => m.testBit t) k) (sp_sv o d a n (fun t => m.testBit t)) m E' sa' ys') → wY_allocate_186 post (wY_allocate_103 post q) (nI n) (nI k) kn pl (nI m) sa' wa fw o d a b yb yw yc yo ys' yt ip ou yl yp := by
      intro sa' ys' H
      have eqS : ∀ x, lx_eq c x 8 → sp_sv o d a n (fun t => m.testBit t) x = sp_sv o d a n (fun t => m.testBit t) c := fun x e => sp_sv_c ok e
      unfold wY_allocate_186
      refine yn_more (s := m) (r := k) (c0 := c) (by omega) I V tp (fun c' tr V' B L tp' => ?_) (fun tr A => ?_)
      · refine ih (true, c', sa', 1, ys', tr) ⟨fun _ => ⟨V', tp', H _ (fun x hx g => ?_)⟩, fun z => Bool.noConfusion z⟩ ?_
        · rcases B x hx g with w | w
          · exact Or.inl w
          · exact Or.inr (eqS x w)
        · exact up c c' V V' L
      · refine ih (false, c, sa', 0, ys', tr) ⟨fun z => Bool.noConfusion z, fun _ => ?_⟩ ?_
        · obtain ⟨b, b1, b2, b3⟩ := ya_end hM.2.1 A (H _ (fun x hx g => g.elim Or.inl (fun w => Or.inr (eqS x w))))
          exact ⟨m, rfl, hM, b, b1, b2, b3⟩
        · show 0 < 65537 - xd_of c
          omega
    refine br_f (by decide) (ya_count hn ok (fun t ht => by have := d4 c V t ht; omega) tp (fun z => ?_) (fun z bs tpb => ?_))
    · exact G sa ys (fun E' hE => ya_keep S20 hE S z)
    · exact G _ bs (fun E' hE => ya_take S20 V hE tpb S z)
theorem ya_alloc (hn : n ≤ 20) (ok : sp_ok o d a b n) (hk : k ≤ 4) (hs : kn = 0 ∨ (kn = 1 ∧ yk_ok o d a b n yb yc yo)) (hp : pl = 0 ∨ (pl = 1 ∧ yp_ok o d a b n k me sa ys)) {post : SY → Prop} (h : ∀ me sa fw yb yw yc yo ys yt, yk_ok o d a b n yb yc yo → yp_ok o d a b n k me sa ys → post (nI n, nI k, 1, 1, me, sa, wa, fw, o, d, a, b, yb, yw, yc, yo, ys, yt, ip, ou, yl, yp)) : wpY_allocate post (nI n, nI k, kn, pl, me, sa, wa, fw, o, d, a, b, yb, yw, yc, yo, ys, yt, ip, ou, yl, yp) := by
  unfold wpY_allocate
  dsimp only
  refine yk_know hn ok hs (fun yb yw yc yo hy => ?_)
  rcases hp with hp | ⟨hp, hx⟩
  · subst hp
    refine br_t rfl ?_
    refine pk_loop (fun q s (z : Int32 × Int32 × Int32 × (Nat → Int32)) => wY_allocate_26 post q z.1 (nI s) (nI n) (nI k) 1 1 z.2.1 sa wa z.2.2.1 o d a b yb yw yc yo ys z.2.2.2 ip ou yl yp) (fun s z => (z.2.1 = -1 ∧ ∀ q, q < s → ¬ sp_F o d a b n k q) ∨ (∃ m, z.2.1 = nI m ∧ z.1 = sp_sum o d a b n m ∧ am_up (sp_F o d a b n k) (fun s => (sp_sum o d a b n s).toInt) s m)) 256 0 (0, -1, fw, yt) (Nat.zero_le _) (Or.inl ⟨rfl, fun q hq => absurd hq (Nat.not_lt_zero q)⟩) ?_ ?_
    · intro q z Q
      obtain ⟨x, me, fw, yt⟩ := z
      dsimp only at Q ⊢
      refine br_t (Int32.le_refl _) ?_
      rcases Q with ⟨_, Q⟩ | ⟨m, e1, e2, Q⟩
      · exact absurd sp_F_255 (Q 255 (by decide))
      · subst e1
        have hM : sp_M o d a b n k m := am_up_is Q
        refine yn_first (s := m) (r := k) (D := fun _ => False) (by omega) hy.2.1 (fun c tr V P tp => ?_) (fun tr N => ?_)
        · exact ya_103 hn ok hk hy.2.1 hM (fun sa fw ys yt g => h _ _ _ _ _ _ _ _ _ hy g) V tp (Or.inl ⟨rfl, fun x hx g => P x hx (Or.inl g)⟩)
        · obtain ⟨c, V⟩ := sp_F_vd.mp hM.2.1
          exact absurd (N c V) id
    · intro q s z hs Q ih
      obtain ⟨x, me, fw, yt⟩ := z
      dsimp only at Q ih ⊢
      have E51 : (∀ fw yt, sp_F o d a b n k s → wY_allocate_26 post q (sp_sum o d a b n s) (nI (s + 1)) (nI n) (nI k) 1 1 (nI s) sa wa fw o d a b yb yw yc yo ys yt ip ou yl yp) → (∀ fw yt, ¬ sp_F o d a b n k s → wY_allocate_26 post q x (nI (s + 1)) (nI n) (nI k) 1 1 me sa wa fw o d a b yb yw yc yo ys yt ip ou yl yp) → wY_allocate_51 post (wY_allocate_26 post q) x (nI s) (sp_sum o d a b n s) (nI n) (nI k) 1 1 me sa wa fw o d a b yb yw yc yo ys yt ip ou yl yp := by
        intro A B
        unfold wY_allocate_51
        exact yn_poss (by omega) hy.2.1 (fun fw yt z => br_f (by decide) (nm_r (nI_1 s) (A fw yt z))) (fun fw yt z => br_t rfl (nm_r (nI_1 s) (B fw yt z)))
      refine br_f (nI_ge (b := 256) hs (by decide)) (ya_sum hy.2.2 ?_)
      rcases Q with ⟨e1, Q⟩ | ⟨m, e1, e2, Q⟩
      · subst e1
        refine br_t (by decide) (E51 (fun fw yt z => ih (_, _, fw, yt) (Or.inr ⟨s, rfl, rfl, am_up_1 Q z⟩)) (fun fw yt z => ih (_, _, fw, yt) (Or.inl ⟨rfl, fun q hq => ?_⟩)))
        rcases Nat.lt_or_ge q s with g | g
        · exact Q q g
        · have e3 : q = s := by omega
          rw [e3]
          exact z
      · subst e1
        subst e2
        have hm := Q.1
        refine br_f (nI_pos (by omega)) (br_c (fun z => nm_r (nI_1 s) (ih (_, _, fw, yt) (Or.inr ⟨m, rfl, rfl, am_up_n Q (fun _ => Int32.le_iff_toInt_le.mp z)⟩))) (fun z => E51 (fun fw yt g => ih (_, _, fw, yt) (Or.inr ⟨s, rfl, rfl, am_up_y Q g (Int32.lt_iff_toInt_lt.mp (Int32.not_le.mp z))⟩)) (fun fw yt g => ih (_, _, fw, yt) (Or.inr ⟨m, rfl, rfl, am_up_n Q (fun y => absurd y g)⟩))))
  · subst hp
    exact br_f (show ¬ (1 : Int32) = 0 by decide) (h _ _ _ _ _ _ _ _ _ hy hx)
end
end
section
/-- the relation: the same code, registers, inputs, outputs and counts; what is settled, known, placed is the pure picture's -/
def i_Rel (_ : Nat) (u : SX) (v : SY) : Prop :=
  ∃ (n k w : Nat) (st mv ms mc sv ch pa oc ss tk tn kn pl me sa fw : Int32) (o d a b ld re be bo cl co ne fe ip ce ou yb yw yc yo ys yt yl yp : Nat → Int32),
    u = (nI n, nI k, st, mv, ms, mc, sv, ch, nI w, pa, oc, ss, tk, tn, o, d, a, b, ld, re, be, bo, cl, co, ne, fe, ip, ce, ou) ∧ v = (nI n, nI k, kn, pl, me, sa, nI w, fw, o, d, a, b, yb, yw, yc, yo, ys, yt, ip, ou, yl, yp) ∧ n ≤ 20 ∧ (1 ≤ k ∧ k ≤ 4) ∧ w ≤ 8 ∧ sp_ok o d a b n ∧ (st = 0 ∨ (st = 1 ∧ xs_ok o d a b n k mv ms mc sv ch be bo cl co ne)) ∧ (kn = 0 ∨ (kn = 1 ∧ yk_ok o d a b n yb yc yo)) ∧ (pl = 0 ∨ (pl = 1 ∧ yp_ok o d a b n k me sa ys)) ∧ (oc = yp 0 ∧ ss = yp 1 ∧ tk = yp 2 ∧ tn = yp 3)
theorem i_up {k : Nat} {u : SX} {v : SY} (h : i_Rel k u v) : i_Rel (k + 5) u v := h
section
variable {n k w : Nat} {st mv ms mc sv ch pa oc ss tk tn kn pl me sa fw : Int32} {o d a b ld re be bo cl co ne fe ip ce ou yb yw yc yo ys yt yl yp : Nat → Int32}
theorem rl_mk {K : Nat} (hn : n ≤ 20) (hk : 1 ≤ k ∧ k ≤ 4) (hw : w ≤ 8) (ok : sp_ok o d a b n) (hx : st = 0 ∨ (st = 1 ∧ xs_ok o d a b n k mv ms mc sv ch be bo cl co ne)) (hy : kn = 0 ∨ (kn = 1 ∧ yk_ok o d a b n yb yc yo)) (hp : pl = 0 ∨ (pl = 1 ∧ yp_ok o d a b n k me sa ys)) (hc : oc = yp 0 ∧ ss = yp 1 ∧ tk = yp 2 ∧ tn = yp 3) : i_Rel K (nI n, nI k, st, mv, ms, mc, sv, ch, nI w, pa, oc, ss, tk, tn, o, d, a, b, ld, re, be, bo, cl, co, ne, fe, ip, ce, ou) (nI n, nI k, kn, pl, me, sa, nI w, fw, o, d, a, b, yb, yw, yc, yo, ys, yt, ip, ou, yl, yp) :=
  ⟨n, k, w, st, mv, ms, mc, sv, ch, pa, oc, ss, tk, tn, kn, pl, me, sa, fw, o, d, a, b, ld, re, be, bo, cl, co, ne, fe, ip, ce, ou, yb, yw, yc, yo, ys, yt, yl, yp, rfl, rfl, hn, hk, hw, ok, hx, hy, hp, hc⟩
end
theorem sp_ok_0 (o d a b : Nat → Int32) : sp_ok o d a b 0 := fun i hi => absurd hi (Nat.not_lt_zero i)
theorem i_vc0 : wpX_init (fun u => wpY_init (fun v => i_Rel 0 u v)) :=
  rl_mk (K := 0) (n := 0) (k := 2) (w := 0) (by decide) (by decide) (by decide) (sp_ok_0 _ _ _ _) (Or.inl rfl) (Or.inl rfl) (Or.inl rfl) ⟨rfl, rfl, rfl, rfl⟩
/-! put -/
def sp_ok2 (o d a b : Int32) : Prop := (sp_df o = true → 0 ≤ d ∧ d ≤ 7) ∧ (sp_ua o = true → 0 ≤ a ∧ a ≤ 7) ∧ (sp_ub o = true → 0 ≤ b ∧ b ≤ 7) ∧ (o = 6 → 0 ≤ a ∧ a ≤ 20) ∧ (o = 7 → 0 ≤ b ∧ b ≤ 20)
theorem pt_fit {post : Int32 → Prop} {o d a b : Int32} (T : sp_ok2 o d a b → post 1) (F : ¬ sp_ok2 o d a b → post 0) : wpX_operandsFit post o d a b := by
  have O63 : (sp_df o = true → 0 ≤ d ∧ d ≤ 7) → (sp_ua o = true → 0 ≤ a ∧ a ≤ 7) → (sp_ub o = true → 0 ≤ b ∧ b ≤ 7) → (o = 6 → 0 ≤ a ∧ a ≤ 20) → wX_operandsFit_63 post o b := fun h1 h2 h3 h4 =>
    br_c (fun z => wk_goal (fun g => br_f (by decide) (T ⟨h1, h2, h3, h4, fun _ => g⟩)) (fun g => br_t rfl (F (fun y => g (y.2.2.2.2 z))))) (fun z => T ⟨h1, h2, h3, h4, fun y => absurd y z⟩)
  have O48 : (sp_df o = true → 0 ≤ d ∧ d ≤ 7) → (sp_ua o = true → 0 ≤ a ∧ a ≤ 7) → (sp_ub o = true → 0 ≤ b ∧ b ≤ 7) → wX_operandsFit_48 post o a b := fun h1 h2 h3 =>
    br_c (fun z => wk_goal (fun g => br_f (by decide) (O63 h1 h2 h3 (fun _ => g))) (fun g => br_t rfl (F (fun y => g (y.2.2.2.1 z))))) (fun z => O63 h1 h2 h3 (fun y => absurd y z))
  have O32 : (sp_df o = true → 0 ≤ d ∧ d ≤ 7) → (sp_ua o = true → 0 ≤ a ∧ a ≤ 7) → wX_operandsFit_32 post o a b := fun h1 h2 =>
    wk_ub (fun z => br_f (by decide) (wk_tmp (fun g => br_f (by decide) (O48 h1 h2 (fun _ => g))) (fun g => br_t rfl (F (fun y => g (y.2.2.1 z)))))) (fun z => br_t rfl (O48 h1 h2 (fun y => absurd y z)))
  have O16 : (sp_df o = true → 0 ≤ d ∧ d ≤ 7) → wX_operandsFit_16 post o a b := fun h1 =>
    wk_ua (fun z => br_f (by decide) (wk_tmp (fun g => br_f (by decide) (O32 h1 (fun _ => g))) (fun g => br_t rfl (F (fun y => g (y.2.1 z)))))) (fun z => br_t rfl (O32 h1 (fun y => absurd y z)))
  exact wk_df (fun z => br_f (by decide) (wk_tmp (fun g => br_f (by decide) (O16 (fun _ => g))) (fun g => br_t rfl (F (fun y => g (y.1 z)))))) (fun z => br_t rfl (O16 (fun y => absurd y z)))
section
variable {n k : Nat} {kn pl me sa wa fw : Int32} {o d a b yb yw yc yo ys yt ip ou yl yp : Nat → Int32}
theorem pt_Y {post : Int32 → SY → Prop} {p q r s : Int32} (hn : n < 20) (hp : 0 ≤ p ∧ p ≤ 10) (T : sp_ok2 p q r s → wY_put_108 post p q r s (nI n) (nI k) kn pl me sa wa fw o d a b yb yw yc yo ys yt ip ou yl yp) (F : ¬ sp_ok2 p q r s → post (-1) (nI n, nI k, kn, pl, me, sa, wa, fw, o, d, a, b, yb, yw, yc, yo, ys, yt, ip, ou, yl, yp)) : wpY_put post (nI n, nI k, kn, pl, me, sa, wa, fw, o, d, a, b, yb, yw, yc, yo, ys, yt, ip, ou, yl, yp) p q r s := by
  have O89 : (sp_df p = true → 0 ≤ q ∧ q ≤ 7) → (sp_ua p = true → 0 ≤ r ∧ r ≤ 7) → (sp_ub p = true → 0 ≤ s ∧ s ≤ 7) → (p = 6 → 0 ≤ r ∧ r ≤ 20) → wY_put_89 post p q r s (nI n) (nI k) kn pl me sa wa fw o d a b yb yw yc yo ys yt ip ou yl yp := fun h1 h2 h3 h4 =>
    br_c (fun z => wk_in (fun g => br_f (by decide) (T ⟨h1, h2, h3, h4, fun _ => g⟩)) (fun g => br_t rfl (F (fun y => g (y.2.2.2.2 z))))) (fun z => T ⟨h1, h2, h3, h4, fun y => absurd y z⟩)
  have O73 : (sp_df p = true → 0 ≤ q ∧ q ≤ 7) → (sp_ua p = true → 0 ≤ r ∧ r ≤ 7) → (sp_ub p = true → 0 ≤ s ∧ s ≤ 7) → wY_put_73 post p q r s (nI n) (nI k) kn pl me sa wa fw o d a b yb yw yc yo ys yt ip ou yl yp := fun h1 h2 h3 =>
    br_c (fun z => wk_in (fun g => br_f (by decide) (O89 h1 h2 h3 (fun _ => g))) (fun g => br_t rfl (F (fun y => g (y.2.2.2.1 z))))) (fun z => O89 h1 h2 h3 (fun y => absurd y z))
  have O53 : (sp_df p = true → 0 ≤ q ∧ q ≤ 7) → (sp_ua p = true → 0 ≤ r ∧ r ≤ 7) → wY_put_53 post p q r s (nI n) (nI k) kn pl me sa wa fw o d a b yb yw yc yo ys yt ip ou yl yp := fun h1 h2 =>
    wk_ubY (fun z => br_f (by decide) (wk_in (fun g => br_f (by decide) (O73 h1 h2 (fun _ => g))) (fun g => br_t rfl (F (fun y => g (y.2.2.1 z)))))) (fun z => br_t rfl (O73 h1 h2 (fun y => absurd y z)))
  have O36 : (sp_df p = true → 0 ≤ q ∧ q ≤ 7) → wY_put_36 post p q r s (nI n) (nI k) kn pl me sa wa fw o d a b yb yw yc yo ys yt ip ou yl yp := fun h1 =>
    wk_uaY (fun z => br_f (by decide) (wk_in (fun g => br_f (by decide) (O53 h1 (fun _ => g))) (fun g => br_t rfl (F (fun y => g (y.2.1 z)))))) (fun z => br_t rfl (O53 h1 (fun y => absurd y z)))
  unfold wpY_put
  dsimp only
  exact wk_in (fun _ => br_f (by decide) (br_f (fun z => absurd ((nI_eq (b := 20) (by omega) (by decide)).mp z) (by omega)) (wk_dfY (fun z => br_f (by decide) (wk_in (fun g => br_f (by decide) (O36 (fun _ => g))) (fun g => br_t rfl (F (fun y => g (y.1 z)))))) (fun z => br_t rfl (O36 (fun y => absurd y z)))))) (fun z => absurd hp z)
end
section
variable {n k : Nat} {kn pl me sa wa fw : Int32} {o d a b yb yw yc yo ys yt ip ou yl yp : Nat → Int32}
theorem pt_Y20 {post : Int32 → SY → Prop} {p q r s : Int32} (h : post (-1) (nI 20, nI k, kn, pl, me, sa, wa, fw, o, d, a, b, yb, yw, yc, yo, ys, yt, ip, ou, yl, yp)) : wpY_put post (nI 20, nI k, kn, pl, me, sa, wa, fw, o, d, a, b, yb, yw, yc, yo, ys, yt, ip, ou, yl, yp) p q r s := by
  unfold wpY_put
  dsimp only
  exact wk_in (fun _ => br_f (by decide) (br_t rfl h)) (fun _ => br_t rfl h)
theorem pt_Yop {post : Int32 → SY → Prop} {p q r s : Int32} (hp : ¬ (0 ≤ p ∧ p ≤ 10)) (h : post (-1) (nI n, nI k, kn, pl, me, sa, wa, fw, o, d, a, b, yb, yw, yc, yo, ys, yt, ip, ou, yl, yp)) : wpY_put post (nI n, nI k, kn, pl, me, sa, wa, fw, o, d, a, b, yb, yw, yc, yo, ys, yt, ip, ou, yl, yp) p q r s := by
  unfold wpY_put
  dsimp only
  exact wk_in (fun z => absurd z hp) (fun _ => br_t rfl h)
theorem rg_Y {post : Int32 → SY → Prop} {p : Int32} (T : 1 ≤ p ∧ p ≤ 4 → post 1 (nI n, p, kn, 0, me, sa, wa, fw, o, d, a, b, yb, yw, yc, yo, ys, yt, ip, ou, yl, yp)) (F : ¬ (1 ≤ p ∧ p ≤ 4) → post 0 (nI n, nI k, kn, pl, me, sa, wa, fw, o, d, a, b, yb, yw, yc, yo, ys, yt, ip, ou, yl, yp)) : wpY_registers post (nI n, nI k, kn, pl, me, sa, wa, fw, o, d, a, b, yb, yw, yc, yo, ys, yt, ip, ou, yl, yp) p := by
  unfold wpY_registers
  dsimp only
  exact wk_in (fun z => br_f (by decide) (T z)) (fun z => br_t rfl (F z))
theorem se_Y {post : Int32 → Prop} {p : Int32} (T : 0 ≤ p ∧ p ≤ 3 → vp_in p 4 ∧ post (yp p.toNatClampNeg)) (F : ¬ (0 ≤ p ∧ p ≤ 3) → post 0) : wpY_spent post (nI n, nI k, kn, pl, me, sa, wa, fw, o, d, a, b, yb, yw, yc, yo, ys, yt, ip, ou, yl, yp) p := by
  unfold wpY_spent
  dsimp only
  exact wk_in (fun z => br_f (by decide) (T z)) (fun z => br_t rfl (F z))
end
theorem sp_ok_put {o d a b : Nat → Int32} {n : Nat} {p q r s : Int32} (ok : sp_ok o d a b n) (hp : 0 ≤ p ∧ p ≤ 10) (h : sp_ok2 p q r s) : sp_ok (upd o n p) (upd d n q) (upd a n r) (upd b n s) (n + 1) := by
  intro i hi
  by_cases z : i = n
  · subst z
    rw [pk_us, pk_us, pk_us, pk_us]
    exact ⟨nI_of2 (M := 10) (n := 10) (by decide) (Int32.not_lt.mpr hp.1) hp.2, fun y => wk_r7 (h.1 y), fun y => wk_r7 (h.2.1 y), fun y => wk_r7 (h.2.2.1 y), fun y => wk_r20 (h.2.2.2.1 y), fun y => wk_r20 (h.2.2.2.2 y)⟩
  · rw [pk_un z, pk_un z, pk_un z, pk_un z]
    exact ok i (by omega)
theorem i_vc_put {k : Nat} {u : SX} {v : SY} (I : i_Rel k u v) (hk : k + 5 ≤ 2560) (v1 : Int32) (v2 : Int32) (v3 : Int32) (v4 : Int32) : wpX_put (fun r u' => wpY_put (fun r' v' => r' = r ∧ i_Rel (k + 5) u' v') v v1 v2 v3 v4) u v1 v2 v3 v4 := by
  obtain ⟨n, k, w, st, mv, ms, mc, sv, ch, pa, oc, ss, tk, tn, kn, pl, me, sa, fw, o, d, a, b, ld, re, be, bo, cl, co, ne, fe, ip, ce, ou, yb, yw, yc, yo, ys, yt, yl, yp, rfl, rfl, hn, hk, hw, ok, hx, hy, hp, hc⟩ := I
  have R := fun K => rl_mk (K := K) (ld := ld) (re := re) (fe := fe) (ip := ip) (ce := ce) (ou := ou) (pa := pa) (fw := fw) (yw := yw) (yt := yt) (yl := yl) hn hk hw ok hx hy hp hc
  by_cases h20 : n = 20
  · subst h20
    exact br_t (Int32.le_refl _) (pt_Y20 ⟨rfl, R _⟩)
  · have n20 : n < 20 := by omega
    refine br_f (nI_ge (b := 20) n20 (by decide)) ?_
    by_cases hop : 0 ≤ v1 ∧ v1 ≤ 10
    · refine br_f (Int32.not_lt.mpr hop.1) (br_f (Int32.not_lt.mpr hop.2) (pt_fit (fun z => br_f (by decide) ?_) (fun z => br_t rfl (pt_Y n20 hop (fun y => absurd y z) (fun _ => ⟨rfl, R _⟩)))))
      have e : (nI n).toNatClampNeg = n := nI_clamp (by omega)
      have vv : vp_in (nI n) 20 := vp_in_nI n20 (by decide)
      rw [e]
      refine ⟨vv, nm_e ⟨vv, nm_e ⟨vv, nm_e ⟨vv, nm_e (nm_r (nI_1 n) (pt_Y n20 hop (fun _ => ?_) (fun y => absurd z y)))⟩⟩⟩⟩
      unfold wY_put_108
      rw [e]
      refine ⟨vv, nm_e ⟨vv, nm_e ⟨vv, nm_e ⟨vv, nm_e (nm_r (nI_1 n) ?_)⟩⟩⟩⟩
      exact ⟨rfl, rl_mk (by omega) hk hw (sp_ok_put ok hop z) (Or.inl rfl) (Or.inl rfl) (Or.inl rfl) hc⟩
    · by_cases h0 : v1 < 0
      · exact br_t h0 (pt_Yop hop ⟨rfl, R _⟩)
      · exact br_f h0 (br_t (Int32.not_le.mp (fun z => hop ⟨Int32.not_lt.mp h0, z⟩)) (pt_Yop hop ⟨rfl, R _⟩))
theorem i_vc_wipe {k : Nat} {u : SX} {v : SY} (I : i_Rel k u v) (hk : k + 5 ≤ 2560) : wpX_wipe (fun r u' => wpY_wipe (fun r' v' => r' = r ∧ i_Rel (k + 5) u' v') v) u := by
  obtain ⟨n, k, w, st, mv, ms, mc, sv, ch, pa, oc, ss, tk, tn, kn, pl, me, sa, fw, o, d, a, b, ld, re, be, bo, cl, co, ne, fe, ip, ce, ou, yb, yw, yc, yo, ys, yt, yl, yp, rfl, rfl, hn, hk, hw, ok, hx, hy, hp, hc⟩ := I
  exact ⟨rfl, rl_mk (n := 0) (by decide) hk hw (sp_ok_0 _ _ _ _) (Or.inl rfl) (Or.inl rfl) (Or.inl rfl) hc⟩
theorem i_vc_registers {k : Nat} {u : SX} {v : SY} (I : i_Rel k u v) (hk : k + 5 ≤ 2560) (v1 : Int32) : wpX_registers (fun r u' => wpY_registers (fun r' v' => r' = r ∧ i_Rel (k + 5) u' v') v v1) u v1 := by
  obtain ⟨n, k, w, st, mv, ms, mc, sv, ch, pa, oc, ss, tk, tn, kn, pl, me, sa, fw, o, d, a, b, ld, re, be, bo, cl, co, ne, fe, ip, ce, ou, yb, yw, yc, yo, ys, yt, yl, yp, rfl, rfl, hn, hk, hw, ok, hx, hy, hp, hc⟩ := I
  have R := fun K => rl_mk (K := K) (ld := ld) (re := re) (fe := fe) (ip := ip) (ce := ce) (ou := ou) (pa := pa) (fw := fw) (yw := yw) (yt := yt) (yl := yl) hn hk hw ok hx hy hp hc
  by_cases z : 1 ≤ v1 ∧ v1 ≤ 4
  · obtain ⟨q, hq, e⟩ := nI_of2 (M := 4) (n := 4) (by decide) (fun y => absurd (Int32.le_trans z.1 (Int32.le_of_lt y)) (by decide)) z.2
    subst e
    have q1 : 1 ≤ q := (nI_leI (a := 1) (by decide) (by omega)).mp z.1
    exact br_f (Int32.not_lt.mpr z.1) (br_t z.2 (rg_Y (fun _ => ⟨rfl, rl_mk hn ⟨q1, hq⟩ hw ok (Or.inl rfl) hy (Or.inl rfl) hc⟩) (fun y => absurd z y)))
  · by_cases h1 : v1 < 1
    · exact br_t h1 (rg_Y (fun y => absurd y z) (fun _ => ⟨rfl, R _⟩))
    · exact br_f h1 (br_f (fun y => z ⟨Int32.not_lt.mp h1, y⟩) (rg_Y (fun y => absurd y z) (fun _ => ⟨rfl, R _⟩)))
theorem i_vc_input {k : Nat} {u : SX} {v : SY} (I : i_Rel k u v) (hk : k + 5 ≤ 2560) (v1 : Int32) : wpX_input (fun r u' => wpY_input (fun r' v' => r' = r ∧ i_Rel (k + 5) u' v') v v1) u v1 := by
  obtain ⟨n, k, w, st, mv, ms, mc, sv, ch, pa, oc, ss, tk, tn, kn, pl, me, sa, fw, o, d, a, b, ld, re, be, bo, cl, co, ne, fe, ip, ce, ou, yb, yw, yc, yo, ys, yt, yl, yp, rfl, rfl, hn, hk, hw, ok, hx, hy, hp, hc⟩ := I
  have e : (nI w).toNatClampNeg = w := nI_clamp (by omega)
  by_cases z : w = 8
  · subst z
    exact br_f (by decide) (br_t rfl ⟨rfl, rl_mk hn hk hw ok hx hy hp hc⟩)
  · have vv : vp_in (nI w) 8 := vp_in_nI (by omega) (by decide)
    refine br_t (nI_lt (b := 8) (by omega) (by decide)) ⟨vv, ?_⟩
    rw [e]
    refine nm_e (nm_r (nI_1 w) (br_f (fun y => z ((nI_eq (b := 8) (by omega) (by decide)).mp y)) ⟨vv, ?_⟩))
    rw [e]
    exact nm_e (nm_r (nI_1 w) ⟨rfl, rl_mk hn hk (by omega) ok hx hy hp hc⟩)
theorem i_vc_rewind {k : Nat} {u : SX} {v : SY} (I : i_Rel k u v) (hk : k + 5 ≤ 2560) : wpX_rewind (fun r u' => wpY_rewind (fun r' v' => r' = r ∧ i_Rel (k + 5) u' v') v) u := by
  obtain ⟨n, k, w, st, mv, ms, mc, sv, ch, pa, oc, ss, tk, tn, kn, pl, me, sa, fw, o, d, a, b, ld, re, be, bo, cl, co, ne, fe, ip, ce, ou, yb, yw, yc, yo, ys, yt, yl, yp, rfl, rfl, hn, hk, hw, ok, hx, hy, hp, hc⟩ := I
  exact ⟨rfl, rl_mk (w := 0) hn hk (by decide) ok hx hy hp hc⟩
theorem i_vc_output {k : Nat} {u : SX} {v : SY} (I : i_Rel k u v) (hk : k + 5 ≤ 2560) (v1 : Int32) : wpX_output (fun r => wpY_output (fun r' => r' = r ∧ i_Rel (k + 5) u v) v v1) u v1 := by
  obtain ⟨n, k, w, st, mv, ms, mc, sv, ch, pa, oc, ss, tk, tn, kn, pl, me, sa, fw, o, d, a, b, ld, re, be, bo, cl, co, ne, fe, ip, ce, ou, yb, yw, yc, yo, ys, yt, yl, yp, rfl, rfl, hn, hk, hw, ok, hx, hy, hp, hc⟩ := I
  have R := fun K => rl_mk (K := K) (ld := ld) (re := re) (fe := fe) (ip := ip) (ce := ce) (ou := ou) (pa := pa) (fw := fw) (yw := yw) (yt := yt) (yl := yl) hn hk hw ok hx hy hp hc
  have e29 : ∀ x : Int32, x < 30 ↔ ¬ 29 < x := by
    intro x
    rw [Int32.lt_iff_toInt_lt, Int32.lt_iff_toInt_lt, show (30 : Int32).toInt = 30 from by decide, show (29 : Int32).toInt = 29 from by decide]
    omega
  by_cases h0 : v1 < 0
  · exact br_t h0 (br_t h0 ⟨rfl, R _⟩)
  · refine br_f h0 ?_
    by_cases hc1 : oc ≤ v1
    · refine br_t hc1 (br_f h0 (br_c (fun _ => ⟨rfl, R _⟩) (fun _ => br_f ?_ ⟨rfl, R _⟩)))
      rw [← hc.1]
      exact Int32.not_lt.mpr hc1
    · refine br_f hc1 ?_
      by_cases h30 : v1 < 30
      · have vv : vp_in v1 30 := by
          obtain ⟨j, hj, rfl⟩ := nI_of h0
          exact vp_in_nI ((nI_ltI (b := 30) hj (by decide)).mp h30) (by decide)
        refine br_t h30 ⟨vv, br_f h0 (br_f ((e29 v1).mp h30) (br_t ?_ ⟨vv, rfl, R _⟩))⟩
        rw [← hc.1]
        exact Int32.not_le.mp hc1
      · exact br_f h30 (br_f h0 (br_t (Decidable.byContradiction (fun y => h30 ((e29 v1).mpr y))) ⟨rfl, R _⟩))
theorem i_vc_spent {k : Nat} {u : SX} {v : SY} (I : i_Rel k u v) (hk : k + 5 ≤ 2560) (v1 : Int32) : wpX_spent (fun r => wpY_spent (fun r' => r' = r ∧ i_Rel (k + 5) u v) v v1) u v1 := by
  obtain ⟨n, k, w, st, mv, ms, mc, sv, ch, pa, oc, ss, tk, tn, kn, pl, me, sa, fw, o, d, a, b, ld, re, be, bo, cl, co, ne, fe, ip, ce, ou, yb, yw, yc, yo, ys, yt, yl, yp, rfl, rfl, hn, hk, hw, ok, hx, hy, hp, hc⟩ := I
  have R := fun K => rl_mk (K := K) (ld := ld) (re := re) (fe := fe) (ip := ip) (ce := ce) (ou := ou) (pa := pa) (fw := fw) (yw := yw) (yt := yt) (yl := yl) hn hk hw ok hx hy hp hc
  by_cases z : 0 ≤ v1 ∧ v1 ≤ 3
  · obtain ⟨q, hq, e⟩ := nI_of2 (M := 3) (n := 3) (by decide) (Int32.not_lt.mpr z.1) z.2
    have G : ∀ {P : Prop} x, yp q = x → P → wpY_spent (fun r' => r' = x ∧ P) (nI n, nI k, kn, pl, me, sa, nI w, fw, o, d, a, b, yb, yw, yc, yo, ys, yt, ip, ou, yl, yp) v1 := by
      intro P x ex hP
      refine se_Y (fun _ => ⟨by rw [e]; exact vp_in_nI (by omega) (by decide), ?_, hP⟩) (fun y => absurd z y)
      rw [e, nI_clamp (by omega)]
      exact ex
    have nq : ∀ j, j < 4 → q ≠ j → ¬ v1 = nI j := by
      intro j hj ne y
      rw [e, nI_eq (by omega) (by omega)] at y
      exact ne y
    refine br_f (Int32.not_lt.mpr z.1) (br_f (Int32.not_lt.mpr z.2) ?_)
    rcases (by omega : q = 0 ∨ q = 1 ∨ q = 2 ∨ q = 3) with y | y | y | y
    · subst y
      exact br_t e (G _ hc.1.symm (R _))
    · subst y
      exact br_f (nq 0 (by decide) (by decide)) (br_t e (G _ hc.2.1.symm (R _)))
    · subst y
      exact br_f (nq 0 (by decide) (by decide)) (br_f (nq 1 (by decide) (by decide)) (br_t e (G _ hc.2.2.1.symm (R _))))
    · subst y
      exact br_f (nq 0 (by decide) (by decide)) (br_f (nq 1 (by decide) (by decide)) (br_f (nq 2 (by decide) (by decide)) (br_t e (G _ hc.2.2.2.symm (R _)))))
  · by_cases h0 : v1 < 0
    · exact br_t h0 (se_Y (fun y => absurd y z) (fun _ => ⟨rfl, R _⟩))
    · exact br_f h0 (br_t (Int32.not_le.mp (fun y => z ⟨Int32.not_lt.mp h0, y⟩)) (se_Y (fun y => absurd y z) (fun _ => ⟨rfl, R _⟩)))
end
section
theorem pu_cnt_ext {p : Nat → Bool} {k : Nat} : ∀ {m : Nat}, k ≤ m → (∀ r, k ≤ r → r < m → p r = false) → pu_cnt p m = pu_cnt p k
  | 0, h, _ => by
    have e : k = 0 := by omega
    rw [e]
  | m + 1, h, g => by
    rcases Nat.eq_or_lt_of_le h with e | e
    · rw [e]
    · rw [pu_cnt, pu_cnt_ext (m := m) (by omega) (fun r a b => g r a (by omega)), g m (by omega) (by omega)]
      simp
theorem al_lt : ∀ n, n < 21 → nI n - 1 < nI n := by decide +kernel
section
variable {n k : Nat} {st mv ms mc sv ch ic pa oc ss tk tn : Int32} {o d a b ld re be bo cl co ne fe ip ce ou : Nat → Int32} {kn pl me sa wa fw : Int32} {yb yw yc yo ys yt yl yp : Nat → Int32}
theorem xy_eq (ok : sp_ok o d a b n) (hX : xs_ok o d a b n k mv ms mc sv ch be bo cl co ne) (hY : yp_ok o d a b n k me sa ys) : ∃ m v, m < 256 ∧ v < 65536 ∧ ms = nI m ∧ me = nI m ∧ mc = sp_sum o d a b n m ∧ ch = nI v ∧ gc_vd (sp_K o d a b n) (fun t => m.testBit t) k (xd_g v) ∧ tp_is m (xd_g v) 8 ys ∧ sv = sa := by
  obtain ⟨_, _, _, _, _, _, m, e1, hm, e2, v, hv, e3, hB, e4⟩ := hX
  obtain ⟨m', f1, hm', c, hB', tp, f2⟩ := hY
  have em : m' = m := am_uniq hm' hm
  subst em
  have ec := gc_uniq hB' hB
  refine ⟨m', v, hm.1, hv, e1, f1, e2, e3, hB.1, fun u hu => ?_, ?_⟩
  · rw [tp u hu]
    exact tv_c (fun _ => ⟨Iff.rfl, fun _ => (ec u hu).symm⟩)
  · rw [e4, f2, sp_sv_c ok ec]
theorem xy_eq2 {m v : Nat} (hm : m < 256) (hv : v < 65536) (ok : sp_ok o d a b n) (hX : xs_ok o d a b n k mv (nI m) mc sv (nI v) be bo cl co ne) (hY : yp_ok o d a b n k me sa ys) : me = nI m ∧ mc = sp_sum o d a b n m ∧ gc_vd (sp_K o d a b n) (fun t => m.testBit t) k (xd_g v) ∧ tp_is m (xd_g v) 8 ys ∧ sv = sa := by
  obtain ⟨m', v', a1, a2, a3, a4, a5, a6, a7, a8, a9⟩ := xy_eq ok hX hY
  rw [nI_eq (by omega) (by omega)] at a3 a6
  subst a3
  subst a6
  exact ⟨a4, a5, a7, a8, a9⟩
theorem cl_X {p : Int32} (hn : n ≤ 20) (ok : sp_ok o d a b n) (hk : k ≤ 4) (hs : st = 0 ∨ (st = 1 ∧ xs_ok o d a b n k mv ms mc sv ch be bo cl co ne)) {post : Int32 → SX → Prop} (T : ∀ t, t < 8 → p = nI t → ∀ mv ms mc sv ch ld re be bo cl co ne fe, xs_ok o d a b n k mv ms mc sv ch be bo cl co ne → post (cl t) (nI n, nI k, 1, mv, ms, mc, sv, ch, ic, pa, oc, ss, tk, tn, o, d, a, b, ld, re, be, bo, cl, co, ne, fe, ip, ce, ou)) (F : ¬ (0 ≤ p ∧ p ≤ 7) → post (-1) (nI n, nI k, st, mv, ms, mc, sv, ch, ic, pa, oc, ss, tk, tn, o, d, a, b, ld, re, be, bo, cl, co, ne, fe, ip, ce, ou)) : wpX_clashes post (nI n, nI k, st, mv, ms, mc, sv, ch, ic, pa, oc, ss, tk, tn, o, d, a, b, ld, re, be, bo, cl, co, ne, fe, ip, ce, ou) p := by
  unfold wpX_clashes
  dsimp only
  refine wk_tmp (fun z => br_f (by decide) ?_) (fun z => br_t rfl (F z))
  obtain ⟨t, ht, e⟩ := wk_r7 z
  have ec : p.toNatClampNeg = t := by rw [e]; exact nI_clamp (by omega)
  rw [ec]
  exact xs_settle hn ok hk hs (fun mv ms mc sv ch ld re be bo cl co ne fe h => ⟨by rw [e]; exact vp_in_nI ht (by decide), T t ht e mv ms mc sv ch ld re be bo cl co ne fe h⟩)
theorem co_X {p : Int32} (hn : n ≤ 20) (ok : sp_ok o d a b n) (hk : k ≤ 4) (hs : st = 0 ∨ (st = 1 ∧ xs_ok o d a b n k mv ms mc sv ch be bo cl co ne)) {post : Int32 → SX → Prop} (T : ∀ t, t < 8 → p = nI t → ∀ mv ms mc sv ch ld re be bo cl co ne fe, xs_ok o d a b n k mv ms mc sv ch be bo cl co ne → post (co t) (nI n, nI k, 1, mv, ms, mc, sv, ch, ic, pa, oc, ss, tk, tn, o, d, a, b, ld, re, be, bo, cl, co, ne, fe, ip, ce, ou)) (F : ¬ (0 ≤ p ∧ p ≤ 7) → post (-1) (nI n, nI k, st, mv, ms, mc, sv, ch, ic, pa, oc, ss, tk, tn, o, d, a, b, ld, re, be, bo, cl, co, ne, fe, ip, ce, ou)) : wpX_cost post (nI n, nI k, st, mv, ms, mc, sv, ch, ic, pa, oc, ss, tk, tn, o, d, a, b, ld, re, be, bo, cl, co, ne, fe, ip, ce, ou) p := by
  unfold wpX_cost
  dsimp only
  refine wk_tmp (fun z => br_f (by decide) ?_) (fun z => br_t rfl (F z))
  obtain ⟨t, ht, e⟩ := wk_r7 z
  have ec : p.toNatClampNeg = t := by rw [e]; exact nI_clamp (by omega)
  rw [ec]
  exact xs_settle hn ok hk hs (fun mv ms mc sv ch ld re be bo cl co ne fe h => ⟨by rw [e]; exact vp_in_nI ht (by decide), T t ht e mv ms mc sv ch ld re be bo cl co ne fe h⟩)
theorem le_X (hn : n ≤ 20) (ok : sp_ok o d a b n) (hk : k ≤ 4) (hs : st = 0 ∨ (st = 1 ∧ xs_ok o d a b n k mv ms mc sv ch be bo cl co ne)) {post : Int32 → SX → Prop} (T : ∀ mv ms mc sv ch ld re be bo cl co ne fe, xs_ok o d a b n k mv ms mc sv ch be bo cl co ne → post (ne 255) (nI n, nI k, 1, mv, ms, mc, sv, ch, ic, pa, oc, ss, tk, tn, o, d, a, b, ld, re, be, bo, cl, co, ne, fe, ip, ce, ou)) : wpX_least post (nI n, nI k, st, mv, ms, mc, sv, ch, ic, pa, oc, ss, tk, tn, o, d, a, b, ld, re, be, bo, cl, co, ne, fe, ip, ce, ou) := by
  unfold wpX_least
  dsimp only
  exact xs_settle hn ok hk hs (fun mv ms mc sv ch ld re be bo cl co ne fe h => T mv ms mc sv ch ld re be bo cl co ne fe h)
theorem pl_X {p : Int32} (hn : n ≤ 20) (ok : sp_ok o d a b n) (hk : k ≤ 4) (hs : st = 0 ∨ (st = 1 ∧ xs_ok o d a b n k mv ms mc sv ch be bo cl co ne)) {post : Int32 → SX → Prop} (T : ∀ t, t < 8 → p = nI t → ∀ m v, m < 256 → v < 65536 → ∀ mv mc sv ld re be bo cl co ne fe, xs_ok o d a b n k mv (nI m) mc sv (nI v) be bo cl co ne → post (tv m (xd_g v) 8 t) (nI n, nI k, 1, mv, nI m, mc, sv, nI v, ic, pa, oc, ss, tk, tn, o, d, a, b, ld, re, be, bo, cl, co, ne, fe, ip, ce, ou)) (F : ¬ (0 ≤ p ∧ p ≤ 7) → post (-1) (nI n, nI k, st, mv, ms, mc, sv, ch, ic, pa, oc, ss, tk, tn, o, d, a, b, ld, re, be, bo, cl, co, ne, fe, ip, ce, ou)) : wpX_place post (nI n, nI k, st, mv, ms, mc, sv, ch, ic, pa, oc, ss, tk, tn, o, d, a, b, ld, re, be, bo, cl, co, ne, fe, ip, ce, ou) p := by
  unfold wpX_place
  dsimp only
  refine wk_tmp (fun z => br_f (by decide) ?_) (fun z => br_t rfl (F z))
  obtain ⟨t, ht, e⟩ := wk_r7 z
  rw [e]
  refine xs_settle hn ok hk hs (fun mv ms mc sv ch ld re be bo cl co ne fe h => ?_)
  have h2 := h
  obtain ⟨_, _, _, _, _, _, m, e1, hM, _, v, hv, e3, _, _⟩ := h2
  subst e1
  subst e3
  have G := T t ht e m v hM.1 hv mv mc sv ld re be bo cl co ne fe h
  refine wk_has (by omega) (fun g => br_f (by decide) ?_) (fun g => br_t rfl (wk_reg hv ht ?_))
  · rw [cx_bn _ (by omega)] at g
    rw [tv_m g] at G
    exact G
  · rw [cx_bn _ (by omega)] at g
    rw [tv_d (by simpa using g) ht] at G
    exact G
theorem al_Y {p q : Int32} (hn : n ≤ 20) (ok : sp_ok o d a b n) (hs : kn = 0 ∨ (kn = 1 ∧ yk_ok o d a b n yb yc yo)) {post : Int32 → SY → Prop} (T : 0 ≤ p ∧ p ≤ nI n - 1 → ∀ yb yw yc yo, yk_ok o d a b n yb yc yo → ((q = 0 → (vp_in p 21 ∧ post (yb p.toNatClampNeg) (nI n, nI k, 1, pl, me, sa, wa, fw, o, d, a, b, yb, yw, yc, yo, ys, yt, ip, ou, yl, yp))) ∧ (¬ q = 0 → wpY_behind (fun r => post r (nI n, nI k, 1, pl, me, sa, wa, fw, o, d, a, b, yb, yw, yc, yo, ys, yt, ip, ou, yl, yp)) (nI n, nI k, 1, pl, me, sa, wa, fw, o, d, a, b, yb, yw, yc, yo, ys, yt, ip, ou, yl, yp) p))) (F : ¬ (0 ≤ p ∧ p ≤ nI n - 1) → post (-1) (nI n, nI k, kn, pl, me, sa, wa, fw, o, d, a, b, yb, yw, yc, yo, ys, yt, ip, ou, yl, yp)) : wpY_alive post (nI n, nI k, kn, pl, me, sa, wa, fw, o, d, a, b, yb, yw, yc, yo, ys, yt, ip, ou, yl, yp) p q := by
  unfold wpY_alive
  dsimp only
  exact wk_in (fun z => br_f (by decide) (yk_know hn ok hs (fun yb yw yc yo h => T z yb yw yc yo h))) (fun z => br_t rfl (F z))
theorem cl_Y {p : Int32} (hn : n ≤ 20) (ok : sp_ok o d a b n) (hs : kn = 0 ∨ (kn = 1 ∧ yk_ok o d a b n yb yc yo)) {post : Int32 → SY → Prop} (T : 0 ≤ p ∧ p ≤ 7 → ∀ yb yw yc yo, yk_ok o d a b n yb yc yo → vp_in p 8 ∧ post (yc p.toNatClampNeg) (nI n, nI k, 1, pl, me, sa, wa, fw, o, d, a, b, yb, yw, yc, yo, ys, yt, ip, ou, yl, yp)) (F : ¬ (0 ≤ p ∧ p ≤ 7) → post (-1) (nI n, nI k, kn, pl, me, sa, wa, fw, o, d, a, b, yb, yw, yc, yo, ys, yt, ip, ou, yl, yp)) : wpY_clashes post (nI n, nI k, kn, pl, me, sa, wa, fw, o, d, a, b, yb, yw, yc, yo, ys, yt, ip, ou, yl, yp) p := by
  unfold wpY_clashes
  dsimp only
  exact wk_in (fun z => br_f (by decide) (yk_know hn ok hs (fun yb yw yc yo h => T z yb yw yc yo h))) (fun z => br_t rfl (F z))
theorem co_Y {p : Int32} (hn : n ≤ 20) (ok : sp_ok o d a b n) (hs : kn = 0 ∨ (kn = 1 ∧ yk_ok o d a b n yb yc yo)) {post : Int32 → SY → Prop} (T : 0 ≤ p ∧ p ≤ 7 → ∀ yb yw yc yo, yk_ok o d a b n yb yc yo → vp_in p 8 ∧ post (yo p.toNatClampNeg) (nI n, nI k, 1, pl, me, sa, wa, fw, o, d, a, b, yb, yw, yc, yo, ys, yt, ip, ou, yl, yp)) (F : ¬ (0 ≤ p ∧ p ≤ 7) → post (-1) (nI n, nI k, kn, pl, me, sa, wa, fw, o, d, a, b, yb, yw, yc, yo, ys, yt, ip, ou, yl, yp)) : wpY_cost post (nI n, nI k, kn, pl, me, sa, wa, fw, o, d, a, b, yb, yw, yc, yo, ys, yt, ip, ou, yl, yp) p := by
  unfold wpY_cost
  dsimp only
  exact wk_in (fun z => br_f (by decide) (yk_know hn ok hs (fun yb yw yc yo h => T z yb yw yc yo h))) (fun z => br_t rfl (F z))
theorem le_Y {N : Nat} (hN : N ≤ 8) (h : ∀ r, sp_F o d a b n r 0 ↔ N ≤ r) (hn : n ≤ 20) (ok : sp_ok o d a b n) (hs : kn = 0 ∨ (kn = 1 ∧ yk_ok o d a b n yb yc yo)) {post : Int32 → SY → Prop} (T : ∀ fw yb yw yc yo yt, yk_ok o d a b n yb yc yo → post (nI N) (nI n, nI k, 1, pl, me, sa, wa, fw, o, d, a, b, yb, yw, yc, yo, ys, yt, ip, ou, yl, yp)) : wpY_least post (nI n, nI k, kn, pl, me, sa, wa, fw, o, d, a, b, yb, yw, yc, yo, ys, yt, ip, ou, yl, yp) := by
  unfold wpY_least
  dsimp only
  exact yk_know hn ok hs (fun yb yw yc yo hy => yn_least hN hy.2.1 h (fun fw yt => T fw yb yw yc yo yt hy))
theorem pl_Y {p : Int32} (hn : n ≤ 20) (ok : sp_ok o d a b n) (hk : k ≤ 4) (hs : kn = 0 ∨ (kn = 1 ∧ yk_ok o d a b n yb yc yo)) (hp : pl = 0 ∨ (pl = 1 ∧ yp_ok o d a b n k me sa ys)) {post : Int32 → SY → Prop} (T : 0 ≤ p ∧ p ≤ 7 → ∀ me sa fw yb yw yc yo ys yt, yk_ok o d a b n yb yc yo → yp_ok o d a b n k me sa ys → vp_in p 8 ∧ post (ys p.toNatClampNeg) (nI n, nI k, 1, 1, me, sa, wa, fw, o, d, a, b, yb, yw, yc, yo, ys, yt, ip, ou, yl, yp)) (F : ¬ (0 ≤ p ∧ p ≤ 7) → post (-1) (nI n, nI k, kn, pl, me, sa, wa, fw, o, d, a, b, yb, yw, yc, yo, ys, yt, ip, ou, yl, yp)) : wpY_place post (nI n, nI k, kn, pl, me, sa, wa, fw, o, d, a, b, yb, yw, yc, yo, ys, yt, ip, ou, yl, yp) p := by
  unfold wpY_place
  dsimp only
  exact wk_in (fun z => br_f (by decide) (ya_alloc hn ok hk hs hp (fun me sa fw yb yw yc yo ys yt h g => T z me sa fw yb yw yc yo ys yt h g))) (fun z => br_t rfl (F z))
/-- how many registers are used -/
def bs_P (m : Nat) (c : Nat → Nat) (r : Nat) : Bool := pu_any (fun t => !m.testBit t && decide (c t = r)) 8
theorem bs_X {m v : Nat} (hv : v < 65536) {post : Int32 → Prop} (h : post (nI (pu_cnt (bs_P m (xd_g v)) 4))) : wpX_usedRegisters post (nI n, nI k, st, mv, nI m, mc, sv, nI v, ic, pa, oc, ss, tk, tn, o, d, a, b, ld, re, be, bo, cl, co, ne, fe, ip, ce, ou) := by
  refine pk_loop (fun q t (x : Int32) => wX_usedRegisters_4 post (nI n) (nI k) st mv (nI m) mc sv (nI v) ic pa oc ss tk tn o d a b ld re be bo cl co ne fe ip ce ou q x (nI t)) (fun t x => ∀ r, r < 32 → bt x r = pu_any (fun t => !m.testBit t && decide (xd_g v t = r)) t) 8 0 0 (Nat.zero_le 8) (fun r _ => b_0 r) ?_ ?_
  · intro q x Q
    refine br_t (Int32.le_refl _) ?_
    refine pk_loop (fun q r (y : Int32) => wX_usedRegisters_44 post x (nI n) (nI k) st mv (nI m) mc sv (nI v) ic pa oc ss tk tn o d a b ld re be bo cl co ne fe ip ce ou q y (nI r)) (fun r y => y = nI (pu_cnt (bs_P m (xd_g v)) r)) 4 0 0 (Nat.zero_le 4) rfl ?_ ?_
    · intro q y R
      refine br_t (Int32.le_refl _) ?_
      rw [R]
      exact h
    · intro q r y hr R ih
      refine br_f (nI_ge (b := 4) hr (by decide)) (wk_has (by omega) (fun z => br_f (by decide) (nm_r (by rw [R, nI_1]) (nm_r (nI_1 r) (ih _ ?_)))) (fun z => br_t rfl (nm_r (nI_1 r) (ih _ ?_))))
      · rw [Q r (by omega)] at z
        rw [pu_cnt, if_pos (show bs_P m (xd_g v) r = true from z)]
      · rw [Q r (by omega)] at z
        rw [pu_cnt, if_neg (show ¬ bs_P m (xd_g v) r = true from z)]
        exact R
  · intro q t x ht Q ih
    have x4 : xd_g v t < 4 := Nat.mod_lt _ (by decide)
    refine br_f (nI_ge (b := 8) ht (by decide)) (wk_has (by omega) (fun z => br_f (by decide) (nm_r (nI_1 t) (ih _ (fun r hr => ?_)))) (fun z => br_t rfl (wk_reg hv ht (nm_e (nm_r (nI_1 t) (ih _ (fun r hr => ?_)))))))
    · rw [cx_bn _ (by omega)] at z
      rw [pu_any, z, Q r hr]
      simp
    · rw [cx_bn _ (by omega)] at z
      rw [pu_any, show m.testBit t = false by simpa using z, b_or, cx_one (by omega), Q r hr]
      simp
theorem be_X {p : Int32} (hn : n ≤ 20) (ok : sp_ok o d a b n) (hk : k ≤ 4) (hs : st = 0 ∨ (st = 1 ∧ xs_ok o d a b n k mv ms mc sv ch be bo cl co ne)) {post : Int32 → SX → Prop} (T : ∀ m v, m < 256 → v < 65536 → ∀ mc sv ld re be bo cl co ne fe, xs_ok o d a b n k (nI (sp_mv o n)) (nI m) mc sv (nI v) be bo cl co ne → ((p = 0 → post mc (nI n, nI k, 1, nI (sp_mv o n), nI m, mc, sv, nI v, ic, pa, oc, ss, tk, tn, o, d, a, b, ld, re, be, bo, cl, co, ne, fe, ip, ce, ou)) ∧ (p = 1 → post (nI m) (nI n, nI k, 1, nI (sp_mv o n), nI m, mc, sv, nI v, ic, pa, oc, ss, tk, tn, o, d, a, b, ld, re, be, bo, cl, co, ne, fe, ip, ce, ou)) ∧ (p = 2 → post sv (nI n, nI k, 1, nI (sp_mv o n), nI m, mc, sv, nI v, ic, pa, oc, ss, tk, tn, o, d, a, b, ld, re, be, bo, cl, co, ne, fe, ip, ce, ou)) ∧ (p = 3 → post (nI (sp_mv o n)) (nI n, nI k, 1, nI (sp_mv o n), nI m, mc, sv, nI v, ic, pa, oc, ss, tk, tn, o, d, a, b, ld, re, be, bo, cl, co, ne, fe, ip, ce, ou)) ∧ (p = 4 → post (nI (pu_cnt (bs_P m (xd_g v)) 4)) (nI n, nI k, 1, nI (sp_mv o n), nI m, mc, sv, nI v, ic, pa, oc, ss, tk, tn, o, d, a, b, ld, re, be, bo, cl, co, ne, fe, ip, ce, ou)) ∧ (¬ (0 ≤ p ∧ p ≤ 4) → post (-1) (nI n, nI k, 1, nI (sp_mv o n), nI m, mc, sv, nI v, ic, pa, oc, ss, tk, tn, o, d, a, b, ld, re, be, bo, cl, co, ne, fe, ip, ce, ou)))) : wpX_best post (nI n, nI k, st, mv, ms, mc, sv, ch, ic, pa, oc, ss, tk, tn, o, d, a, b, ld, re, be, bo, cl, co, ne, fe, ip, ce, ou) p := by
  unfold wpX_best
  dsimp only
  refine xs_settle hn ok hk hs (fun mv ms mc sv ch ld re be bo cl co ne fe h => ?_)
  have h2 := h
  obtain ⟨_, _, _, _, _, e0, m, e1, hM, _, v, hv, e3, _, _⟩ := h2
  subst e0
  subst e1
  subst e3
  obtain ⟨T0, T1, T2, T3, T4, TF⟩ := T m v hM.1 hv mc sv ld re be bo cl co ne fe h
  refine br_c (fun z => TF (fun y => absurd y.1 (Int32.not_le.mpr z))) (fun z => br_c (fun y => TF (fun x => absurd x.2 (Int32.not_le.mpr y))) (fun y => br_c T0 (fun z0 => br_c T1 (fun z1 => br_c T2 (fun z2 => br_c T3 (fun z3 => br_c (fun z4 => bs_X hv (T4 z4)) (fun z4 => trivial)))))))
theorem bs_tv {m r t : Nat} {c : Nat → Nat} (ht : t < 8) (hc : c t ≤ 8) (hr : r ≤ 8) : (tv m c 8 t = nI r) ↔ (!m.testBit t && decide (c t = r)) = true := by
  cases w : m.testBit t
  · rw [tv_d w ht, nI_eq (by omega) (by omega)]
    simp
  · rw [tv_m w]
    simp only [Bool.not_true, Bool.false_and]
    exact ⟨fun z => absurd z.symm (tp_neg (by omega)), fun z => absurd z (by decide)⟩
theorem bs_69 {m r : Nat} {c : Nat → Nat} (hr : r ≤ 8) (c8 : ∀ t, t < 8 → c t ≤ 8) (tp : tp_is m c 8 ys) {post : Int32 → SY → Prop} {J : Int32 → Int32 → Prop} {x1 x2 : Int32} {q : Nat} (T : bs_P m c r = true → J (nI (q + 1)) (nI (r + 1))) (F : ¬ bs_P m c r = true → J (nI q) (nI (r + 1))) : ∃ z, wY_best_69 post J x1 x2 (nI q) (nI r) (nI n) (nI k) kn pl me sa wa fw o d a b yb yw yc yo ys yt ip ou yl yp z 0 0 := by
  refine pk_loop (fun z t (x : Int32) => wY_best_69 post J x1 x2 (nI q) (nI r) (nI n) (nI k) kn pl me sa wa fw o d a b yb yw yc yo ys yt ip ou yl yp z x (nI t)) (fun t x => (x = 1 ∧ pu_any (fun t => !m.testBit t && decide (c t = r)) t = true) ∨ (x = 0 ∧ ¬ pu_any (fun t => !m.testBit t && decide (c t = r)) t = true)) 8 0 0 (Nat.zero_le 8) (Or.inr ⟨rfl, by rw [pu_any]; decide⟩) ?_ ?_
  · intro z x Q
    refine br_t (Int32.le_refl _) ?_
    rcases Q with ⟨e, Q⟩ | ⟨e, Q⟩
    · exact br_f (by rw [e]; decide) (nm_r (nI_1 q) (nm_r (nI_1 r) (T Q)))
    · exact br_t e (nm_r (nI_1 r) (F Q))
  · intro z t x ht Q ih
    have e : (nI t).toNatClampNeg = t := nI_clamp (by omega)
    refine br_f (nI_ge (b := 8) ht (by decide)) ⟨vp_in_nI ht (by decide), ?_⟩
    rw [e, tp t ht]
    refine ek_if (bs_tv ht (c8 t ht) hr) (fun y => nm_r (e' := 1) ?_ (nm_r (nI_1 t) (ih 1 (Or.inl ⟨rfl, ?_⟩)))) (fun y => nm_r (e' := x) (Int32.or_zero ..) (nm_r (nI_1 t) (ih x ?_)))
    · rcases Q with ⟨e, _⟩ | ⟨e, _⟩
      · rw [e]
        decide
      · rw [e]
        decide
    · rw [pu_any, y, Bool.or_true]
    · rw [pu_any, show (!m.testBit t && decide (c t = r)) = false by simpa using y, Bool.or_false]
      exact Q
theorem bs_54 {m : Nat} {c : Nat → Nat} (hk : k ≤ 4) (hc : gc_vd (sp_K o d a b n) (fun t => m.testBit t) k c) (tp : tp_is m c 8 ys) {post : Int32 → SY → Prop} {x1 x2 : Int32} (h : ((x1 = 0 → (wpY_sum (fun r => (post r (nI n, nI k, kn, pl, nI m, sa, wa, fw, o, d, a, b, yb, yw, yc, yo, ys, yt, ip, ou, yl, yp))) (nI n, nI k, kn, pl, nI m, sa, wa, fw, o, d, a, b, yb, yw, yc, yo, ys, yt, ip, ou, yl, yp) (nI m))) ∧ (¬ x1 = 0 → (((x1 = 1 → (post (nI m) (nI n, nI k, kn, pl, nI m, sa, wa, fw, o, d, a, b, yb, yw, yc, yo, ys, yt, ip, ou, yl, yp))) ∧ (¬ x1 = 1 → (((x1 = 2 → (post sa (nI n, nI k, kn, pl, nI m, sa, wa, fw, o, d, a, b, yb, yw, yc, yo, ys, yt, ip, ou, yl, yp))) ∧ (¬ x1 = 2 → (((x1 = 3 → (post x2 (nI n, nI k, kn, pl, nI m, sa, wa, fw, o, d, a, b, yb, yw, yc, yo, ys, yt, ip, ou, yl, yp))) ∧ (¬ x1 = 3 → (post (nI (pu_cnt (bs_P m c) 4)) (nI n, nI k, kn, pl, nI m, sa, wa, fw, o, d, a, b, yb, yw, yc, yo, ys, yt, ip, ou, yl, yp)))))))))))))) : ∃ z, wY_best_54 post x1 x2 (nI n) (nI k) kn pl (nI m) sa wa fw o d a b yb yw yc yo ys yt ip ou yl yp z 0 0 := by
  have c8 : ∀ t, t < 8 → c t ≤ 8 := by
    intro t ht
    cases w : m.testBit t
    · have := ((hc t ht).2 w).1
      omega
    · rw [(hc t ht).1 w]
      omega
  have ex : pu_cnt (bs_P m c) 4 = pu_cnt (bs_P m c) k := by
    apply pu_cnt_ext hk
    intro r h1 h2
    apply Bool.eq_false_iff.mpr
    unfold bs_P
    rw [Ne, pu_any_iff]
    rintro ⟨t, ht, g⟩
    simp only [Bool.and_eq_true, decide_eq_true_eq] at g
    have := ((hc t ht).2 (by simpa using g.1)).1
    omega
  rw [ex] at h
  refine pk_loop (fun z r (x : Int32) => wY_best_54 post x1 x2 (nI n) (nI k) kn pl (nI m) sa wa fw o d a b yb yw yc yo ys yt ip ou yl yp z x (nI r)) (fun r x => x = nI (pu_cnt (bs_P m c) r)) k 0 0 (Nat.zero_le k) rfl ?_ ?_
  · intro z x Q
    refine br_t (Int32.le_refl _) ?_
    rw [Q]
    exact h
  · intro z r x hr Q ih
    refine br_f (nI_ge hr (by omega)) ?_
    rw [Q]
    refine bs_69 (by omega) c8 tp (fun y => ih _ ?_) (fun y => ih _ ?_)
    · rw [pu_cnt, if_pos y]
    · rw [pu_cnt, if_neg y]
      rfl
theorem bs_22 {post : Int32 → SY → Prop} (hn : n ≤ 20) {x1 x3 : Int32} (h : ∃ z, wY_best_54 post x1 (nI (sp_mv o n)) (nI n) (nI k) kn pl me sa wa fw o d a b yb yw yc yo ys yt ip ou yl yp z x3 0) : ∃ z, wY_best_22 post x1 x3 (nI n) (nI k) kn pl me sa wa fw o d a b yb yw yc yo ys yt ip ou yl yp z 0 0 := by
  refine pk_loop (fun z i (c : Int32) => wY_best_22 post x1 x3 (nI n) (nI k) kn pl me sa wa fw o d a b yb yw yc yo ys yt ip ou yl yp z c (nI i)) (fun i c => c = nI (pu_cnt (fun i => decide (o i = 5)) i)) n 0 0 (Nat.zero_le n) rfl ?_ ?_
  · intro z c Q
    refine br_t (Int32.le_refl _) ?_
    rw [Q]
    exact h
  · intro z i c hi Q ih
    have e : (nI i).toNatClampNeg = i := nI_clamp (by omega)
    refine br_f (nI_ge hi (by omega)) ⟨vp_in_nI (by omega) (by decide), ?_⟩
    rw [e]
    refine br_c (fun y => nm_r (by rw [Q, nI_1]) (nm_r (nI_1 i) (ih _ ?_))) (fun y => nm_r (nI_1 i) (ih _ ?_))
    · rw [pu_cnt, if_pos (decide_eq_true y)]
    · rw [pu_cnt, if_neg (by rw [decide_eq_true_eq]; exact y)]
      exact Q
theorem bs_Y {p : Int32} (hn : n ≤ 20) (ok : sp_ok o d a b n) (hk : k ≤ 4) (hs : kn = 0 ∨ (kn = 1 ∧ yk_ok o d a b n yb yc yo)) (hp : pl = 0 ∨ (pl = 1 ∧ yp_ok o d a b n k me sa ys)) {post : Int32 → SY → Prop} (T : 0 ≤ p ∧ p ≤ 4 → ∀ me sa fw yb yw yc yo ys yt, yk_ok o d a b n yb yc yo → yp_ok o d a b n k me sa ys → (∃ z, wY_best_22 post p 0 (nI n) (nI k) 1 1 me sa wa fw o d a b yb yw yc yo ys yt ip ou yl yp z 0 0)) (F : ¬ (0 ≤ p ∧ p ≤ 4) → post (-1) (nI n, nI k, kn, pl, me, sa, wa, fw, o, d, a, b, yb, yw, yc, yo, ys, yt, ip, ou, yl, yp)) : wpY_best post (nI n, nI k, kn, pl, me, sa, wa, fw, o, d, a, b, yb, yw, yc, yo, ys, yt, ip, ou, yl, yp) p := by
  unfold wpY_best
  dsimp only
  exact wk_in (fun z => br_f (by decide) (ya_alloc hn ok hk hs hp (fun me sa fw yb yw yc yo ys yt h g => T z me sa fw yb yw yc yo ys yt h g))) (fun z => br_t rfl (F z))
end
end
section
theorem i_vc_alive {k : Nat} {u : SX} {v : SY} (I : i_Rel k u v) (hk : k + 5 ≤ 2560) (v1 : Int32) (v2 : Int32) : wpX_alive (fun r u' => wpY_alive (fun r' v' => r' = r ∧ i_Rel (k + 5) u' v') v v1 (lw_bz v2)) u v1 (lw_bz v2) := by
  obtain ⟨n, k, w, st, mv, ms, mc, sv, ch, pa, oc, ss, tk, tn, kn, pl, me, sa, fw, o, d, a, b, ld, re, be, bo, cl, co, ne, fe, ip, ce, ou, yb, yw, yc, yo, ys, yt, yl, yp, rfl, rfl, hn, hk, hw, ok, hx, hy, hp, hc⟩ := I
  have al := al_lt n (by omega)
  rcases pk_ix v1 (n := n) (by omega) with z | z | ⟨j, hj, rfl⟩
  · exact br_t z (al_Y hn ok hy (fun y => absurd y.1 (Int32.not_le.mpr z)) (fun _ => ⟨rfl, rl_mk hn hk hw ok hx hy hp hc⟩))
  · by_cases h0 : v1 < 0
    · exact br_t h0 (al_Y hn ok hy (fun y => absurd y.1 (Int32.not_le.mpr h0)) (fun _ => ⟨rfl, rl_mk hn hk hw ok hx hy hp hc⟩))
    · exact br_f h0 (br_f (Int32.not_lt.mpr z) (al_Y hn ok hy (fun y => absurd (Int32.le_trans z y.2) (Int32.not_le.mpr al)) (fun _ => ⟨rfl, rl_mk hn hk hw ok hx hy hp hc⟩)))
  · have e : (nI j).toNatClampNeg = j := nI_clamp (by omega)
    have jn : 0 ≤ nI j ∧ nI j ≤ nI n - 1 := by
      obtain ⟨m, rfl⟩ : ∃ m, n = m + 1 := ⟨n - 1, by omega⟩
      rw [nI_pred]
      exact ⟨nI_pos' (by omega), nI_le (by omega) (by omega)⟩
    have v20 : vp_in (nI j) 20 := vp_in_nI (by omega) (by decide)
    refine br_f (nI_pos (by omega)) (br_t (nI_lt hj (by omega)) (xs_settle hn ok hk.2 hx (fun mv ms mc sv ch ld re be bo cl co ne fe hX => br_c (fun z => ⟨v20, ?_⟩) (fun z => ⟨v20, ?_⟩))))
    · rw [e]
      refine al_Y hn ok hy (fun _ yb yw yc yo hY => br_t z ⟨vp_in_nI (by omega) (by decide), ?_, rl_mk hn hk hw ok (Or.inr ⟨rfl, hX⟩) (Or.inr ⟨rfl, hY⟩) hp hc⟩) (fun y => absurd jn y)
      rw [e]
      exact sp_is_u (hY.1 j hj) (hX.1 j hj)
    · rw [e]
      refine al_Y hn ok hy (fun _ yb yw yc yo hY => br_f z (yk_behind hn ok hj ⟨?_, rl_mk hn hk hw ok (Or.inr ⟨rfl, hX⟩) (Or.inr ⟨rfl, hY⟩) hp hc⟩)) (fun y => absurd jn y)
      exact b_ext (fun t ht => by rw [sp_bh_b hY.1 ht, hX.2.1 j hj t ht])
theorem i_vc_clashes {k : Nat} {u : SX} {v : SY} (I : i_Rel k u v) (hk : k + 5 ≤ 2560) (v1 : Int32) : wpX_clashes (fun r u' => wpY_clashes (fun r' v' => r' = r ∧ i_Rel (k + 5) u' v') v v1) u v1 := by
  obtain ⟨n, k, w, st, mv, ms, mc, sv, ch, pa, oc, ss, tk, tn, kn, pl, me, sa, fw, o, d, a, b, ld, re, be, bo, cl, co, ne, fe, ip, ce, ou, yb, yw, yc, yo, ys, yt, yl, yp, rfl, rfl, hn, hk, hw, ok, hx, hy, hp, hc⟩ := I
  refine cl_X hn ok hk.2 hx (fun t ht e mv ms mc sv ch ld re be bo cl co ne fe hX => ?_) (fun z => cl_Y hn ok hy (fun y => absurd y z) (fun _ => ⟨rfl, rl_mk hn hk hw ok hx hy hp hc⟩))
  subst e
  have vv : vp_in (nI t) 8 := vp_in_nI ht (by decide)
  refine cl_Y hn ok hy (fun _ yb yw yc yo hY => ⟨vv, ?_, rl_mk hn hk hw ok (Or.inr ⟨rfl, hX⟩) (Or.inr ⟨rfl, hY⟩) hp hc⟩) (fun y => absurd ⟨nI_pos' (by omega), nI_le (b := 7) (by omega) (by decide)⟩ y)
  rw [nI_clamp (by omega)]
  exact cl_u hY.2.1 hX.2.2.1 t ht
theorem i_vc_cost {k : Nat} {u : SX} {v : SY} (I : i_Rel k u v) (hk : k + 5 ≤ 2560) (v1 : Int32) : wpX_cost (fun r u' => wpY_cost (fun r' v' => r' = r ∧ i_Rel (k + 5) u' v') v v1) u v1 := by
  obtain ⟨n, k, w, st, mv, ms, mc, sv, ch, pa, oc, ss, tk, tn, kn, pl, me, sa, fw, o, d, a, b, ld, re, be, bo, cl, co, ne, fe, ip, ce, ou, yb, yw, yc, yo, ys, yt, yl, yp, rfl, rfl, hn, hk, hw, ok, hx, hy, hp, hc⟩ := I
  refine co_X hn ok hk.2 hx (fun t ht e mv ms mc sv ch ld re be bo cl co ne fe hX => ?_) (fun z => co_Y hn ok hy (fun y => absurd y z) (fun _ => ⟨rfl, rl_mk hn hk hw ok hx hy hp hc⟩))
  subst e
  have vv : vp_in (nI t) 8 := vp_in_nI ht (by decide)
  refine co_Y hn ok hy (fun _ yb yw yc yo hY => ⟨vv, ?_, rl_mk hn hk hw ok (Or.inr ⟨rfl, hX⟩) (Or.inr ⟨rfl, hY⟩) hp hc⟩) (fun y => absurd ⟨nI_pos' (by omega), nI_le (b := 7) (by omega) (by decide)⟩ y)
  rw [nI_clamp (by omega), hY.2.2 t ht, hX.2.2.2.1 t ht]
theorem i_vc_least {k : Nat} {u : SX} {v : SY} (I : i_Rel k u v) (hk : k + 5 ≤ 2560) : wpX_least (fun r u' => wpY_least (fun r' v' => r' = r ∧ i_Rel (k + 5) u' v') v) u := by
  obtain ⟨n, k, w, st, mv, ms, mc, sv, ch, pa, oc, ss, tk, tn, kn, pl, me, sa, fw, o, d, a, b, ld, re, be, bo, cl, co, ne, fe, ip, ce, ou, yb, yw, yc, yo, ys, yt, yl, yp, rfl, rfl, hn, hk, hw, ok, hx, hy, hp, hc⟩ := I
  refine le_X hn ok hk.2 hx (fun mv ms mc sv ch ld re be bo cl co ne fe hX => ?_)
  obtain ⟨N, N8, eN, hF⟩ := hX.2.2.2.2.1
  exact le_Y N8 hF hn ok hy (fun fw yb yw yc yo yt hY => ⟨eN.symm, rl_mk hn hk hw ok (Or.inr ⟨rfl, hX⟩) (Or.inr ⟨rfl, hY⟩) hp hc⟩)
theorem i_vc_place {k : Nat} {u : SX} {v : SY} (I : i_Rel k u v) (hk : k + 5 ≤ 2560) (v1 : Int32) : wpX_place (fun r u' => wpY_place (fun r' v' => r' = r ∧ i_Rel (k + 5) u' v') v v1) u v1 := by
  obtain ⟨n, k, w, st, mv, ms, mc, sv, ch, pa, oc, ss, tk, tn, kn, pl, me, sa, fw, o, d, a, b, ld, re, be, bo, cl, co, ne, fe, ip, ce, ou, yb, yw, yc, yo, ys, yt, yl, yp, rfl, rfl, hn, hk, hw, ok, hx, hy, hp, hc⟩ := I
  refine pl_X hn ok hk.2 hx (fun t ht e m v hm hv mv mc sv ld re be bo cl co ne fe hX => ?_) (fun z => pl_Y hn ok hk.2 hy hp (fun y => absurd y z) (fun _ => ⟨rfl, rl_mk hn hk hw ok hx hy hp hc⟩))
  subst e
  have vv : vp_in (nI t) 8 := vp_in_nI ht (by decide)
  refine pl_Y hn ok hk.2 hy hp (fun _ me sa fw yb yw yc yo ys yt hY hP => ⟨vv, ?_, rl_mk hn hk hw ok (Or.inr ⟨rfl, hX⟩) (Or.inr ⟨rfl, hY⟩) (Or.inr ⟨rfl, hP⟩) hc⟩) (fun y => absurd ⟨nI_pos' (by omega), nI_le (b := 7) (by omega) (by decide)⟩ y)
  rw [nI_clamp (by omega)]
  exact (xy_eq2 hm hv ok hX hP).2.2.2.1 t ht
theorem i_vc_best {k : Nat} {u : SX} {v : SY} (I : i_Rel k u v) (hk : k + 5 ≤ 2560) (v1 : Int32) : wpX_best (fun r u' => wpY_best (fun r' v' => r' = r ∧ i_Rel (k + 5) u' v') v v1) u v1 := by
  obtain ⟨n, k, w, st, mv, ms, mc, sv, ch, pa, oc, ss, tk, tn, kn, pl, me, sa, fw, o, d, a, b, ld, re, be, bo, cl, co, ne, fe, ip, ce, ou, yb, yw, yc, yo, ys, yt, yl, yp, rfl, rfl, hn, hk, hw, ok, hx, hy, hp, hc⟩ := I
  refine be_X hn ok hk.2 hx (fun m v hm hv mc sv ld re be bo cl co ne fe hX => ?_)
  have G : ∀ x, (0 ≤ v1 ∧ v1 ≤ 4) → (∀ sa ys, mc = sp_sum o d a b n m → sv = sa → gc_vd (sp_K o d a b n) (fun t => m.testBit t) k (xd_g v) → tp_is m (xd_g v) 8 ys → ((v1 = 0 → mc = x) ∧ (v1 = 1 → nI m = x) ∧ (v1 = 2 → sa = x) ∧ (v1 = 3 → nI (sp_mv o n) = x) ∧ (¬ v1 = 0 → ¬ v1 = 1 → ¬ v1 = 2 → ¬ v1 = 3 → nI (pu_cnt (bs_P m (xd_g v)) 4) = x))) → ∀ K, wpY_best (fun r' v' => r' = x ∧ i_Rel K (nI n, nI k, 1, nI (sp_mv o n), nI m, mc, sv, nI v, nI w, pa, oc, ss, tk, tn, o, d, a, b, ld, re, be, bo, cl, co, ne, fe, ip, ce, ou) v') (nI n, nI k, kn, pl, me, sa, nI w, fw, o, d, a, b, yb, yw, yc, yo, ys, yt, ip, ou, yl, yp) v1 := by
    intro x h04 H K
    refine bs_Y hn ok hk.2 hy hp (fun _ me sa fw yb yw yc yo ys yt hY hP => ?_) (fun y => absurd h04 y)
    obtain ⟨e1, e2, e3, tp, e4⟩ := xy_eq2 hm hv ok hX hP
    subst e1
    have R := fun K => rl_mk (K := K) (ld := ld) (re := re) (fe := fe) (ip := ip) (ce := ce) (ou := ou) (pa := pa) (fw := fw) (yw := yw) (yt := yt) (yl := yl) hn hk hw ok (Or.inr ⟨rfl, hX⟩) (Or.inr ⟨rfl, hY⟩) (Or.inr ⟨rfl, hP⟩) hc
    obtain ⟨H0, H1, H2, H3, H4⟩ := H sa ys e2 e4 e3 tp
    exact bs_22 hn (bs_54 hk.2 e3 tp (br_c (fun z => ya_sum hY.2.2 ⟨e2.symm.trans (H0 z), R _⟩) (fun z0 => br_c (fun z => ⟨H1 z, R _⟩) (fun z1 => br_c (fun z => ⟨H2 z, R _⟩) (fun z2 => br_c (fun z => ⟨H3 z, R _⟩) (fun z3 => ⟨H4 z0 z1 z2 z3, R _⟩))))))
  refine ⟨fun z => G mc (by rw [z]; decide) (fun sa ys a1 a2 a3 a4 => ?_) _, fun z => G (nI m) (by rw [z]; decide) (fun sa ys a1 a2 a3 a4 => ?_) _, fun z => G sv (by rw [z]; decide) (fun sa ys a1 a2 a3 a4 => ?_) _, fun z => G (nI (sp_mv o n)) (by rw [z]; decide) (fun sa ys a1 a2 a3 a4 => ?_) _, fun z => G (nI (pu_cnt (bs_P m (xd_g v)) 4)) (by rw [z]; decide) (fun sa ys a1 a2 a3 a4 => ?_) _, fun z => bs_Y hn ok hk.2 hy hp (fun y => absurd y z) (fun _ => ⟨rfl, rl_mk hn hk hw ok (Or.inr ⟨rfl, hX⟩) hy hp hc⟩)⟩
  · subst z
    exact ⟨fun _ => rfl, fun y => absurd y (by decide), fun y => absurd y (by decide), fun y => absurd y (by decide), fun y => absurd rfl y⟩
  · subst z
    exact ⟨fun y => absurd y (by decide), fun _ => rfl, fun y => absurd y (by decide), fun y => absurd y (by decide), fun _ y => absurd rfl y⟩
  · subst z
    exact ⟨fun y => absurd y (by decide), fun y => absurd y (by decide), fun _ => a2.symm, fun y => absurd y (by decide), fun _ _ y => absurd rfl y⟩
  · subst z
    exact ⟨fun y => absurd y (by decide), fun y => absurd y (by decide), fun y => absurd y (by decide), fun _ => rfl, fun _ _ _ y => absurd rfl y⟩
  · subst z
    exact ⟨fun y => absurd y (by decide), fun y => absurd y (by decide), fun y => absurd y (by decide), fun y => absurd y (by decide), fun _ _ _ _ => rfl⟩
end
section
theorem rn_cell_lt {m t v : Nat} (ht : t < 8) : rn_cell m (xd_g v) t < 12 := by
  unfold rn_cell
  have x4 : xd_g v t < 4 := Nat.mod_lt _ (by decide)
  by_cases z : m.testBit t = true
  · rw [if_pos z]
    omega
  · rw [if_neg z]
    omega
section
variable {n k m v : Nat} {st mv mc sv ic pa oc ss tk tn : Int32} {o d a b ld re be bo cl co ne fe ip ce ou : Nat → Int32} {kn pl me sa wa fw : Int32} {yb yw yc yo ys yt yl yp : Nat → Int32}
theorem rx_cell (hv : v < 65536) {t : Nat} (ht : t < 8) {post : Int32 → Prop} (h : post (nI (rn_cell m (xd_g v) t))) : wpX_cellOf post (nI n, nI k, st, mv, nI m, mc, sv, nI v, ic, pa, oc, ss, tk, tn, o, d, a, b, ld, re, be, bo, cl, co, ne, fe, ip, ce, ou) (nI t) := by
  unfold wpX_cellOf
  dsimp only
  unfold rn_cell at h
  refine wk_has (by omega) (fun g => br_f (by decide) ?_) (fun g => br_t rfl (wk_reg hv ht ?_))
  · rw [cx_bn _ (by omega)] at g
    rw [if_pos g] at h
    rw [show (4 : Int32) + nI t = nI (4 + t) from nI_add 4 t]
    exact h
  · rw [cx_bn _ (by omega)] at g
    rw [if_neg g] at h
    exact h
theorem rx_read (hv : v < 65536) {t : Nat} (ht : t < 8) {post : Int32 → Prop} (h : post (ce (rn_cell m (xd_g v) t))) : wpX_read post (nI n, nI k, st, mv, nI m, mc, sv, nI v, ic, pa, oc, ss, tk, tn, o, d, a, b, ld, re, be, bo, cl, co, ne, fe, ip, ce, ou) (nI t) := by
  have lt := rn_cell_lt (m := m) (v := v) ht
  unfold wpX_read
  dsimp only
  refine rx_cell hv ht ⟨vp_in_nI lt (by decide), ?_⟩
  rw [nI_clamp (by omega)]
  exact h
/-- what an instruction costs -/
def rp_c (o d a b : Nat → Int32) (m : Nat) (c : Nat → Nat) (i : Nat) (x : Int32) : Int32 := if sp_sv1 o d a (fun t => m.testBit t) c i = true then x else x + nI (1 + 2 * sp_nm o d a b (fun t => m.testBit t) i)
theorem rp_X (hn : n ≤ 20) (ok : sp_ok o d a b n) (hv : v < 65536) (hm : m < 256) {i : Nat} (hi : i < n) {post : SX → Prop} (h : wX_doInstruction_44 post (nI i) (nI n) (nI k) st mv (nI m) mc sv (nI v) ic pa oc (ss + 1) (rp_c o d a b m (xd_g v) i tk) tn o d a b ld re be bo cl co ne fe ip ce ou) : wpX_doInstruction post (nI n, nI k, st, mv, nI m, mc, sv, nI v, ic, pa, oc, ss, tk, tn, o, d, a, b, ld, re, be, bo, cl, co, ne, fe, ip, ce, ou) (nI i) := by
  unfold wpX_doInstruction
  dsimp only
  refine nm_e (xr_saved hn ok hi hv (fun z => br_f (by decide) ?_) (fun z => br_t rfl (xn_nam hn ok hi (nm_r (e' := tk + nI (1 + 2 * sp_nm o d a b (fun t => m.testBit t) i)) ?_ ?_))))
  · rw [rp_c, if_pos z] at h
    exact h
  · have e : sp_nm o d a b (fun q => bt (nI m) q) i = sp_nm o d a b (fun t => m.testBit t) i := by
      obtain ⟨_, k2, k3, k4, _⟩ := ok i hi
      have E : ∀ {p : Bool} {x : Int32}, (p = true → ∃ q, q < 8 ∧ x = nI q) → (p && bt (nI m) x.toNatClampNeg) = (p && m.testBit x.toNatClampNeg) := by
        intro p x hp
        cases p
        · rfl
        · obtain ⟨q, hq, rfl⟩ := hp rfl
          rw [nI_clamp (by omega), cx_bn _ (by omega)]
      unfold sp_nm
      rw [E k2, E k3, E k4]
    rw [e, show (2 : Int32) * nI (sp_nm o d a b (fun t => m.testBit t) i) = nI (2 * sp_nm o d a b (fun t => m.testBit t) i) from pk_mul 2 _, show (1 : Int32) + nI (2 * sp_nm o d a b (fun t => m.testBit t) i) = nI (1 + 2 * sp_nm o d a b (fun t => m.testBit t) i) from nI_add 1 _]
  · rw [rp_c, if_neg z] at h
    exact h
theorem rp_Y (hn : n ≤ 20) (ok : sp_ok o d a b n) {c : Nat → Nat} (c8 : ∀ t, t < 8 → c t ≤ 8) (tp : tp_is m c 8 ys) {i : Nat} (hi : i < n) {post : SY → Prop} (h : ∀ yq, yq 0 = yp 0 → yq 1 = yp 1 → yq 2 = rp_c o d a b m c i (yp 2) → yq 3 = yp 3 → post (nI n, nI k, kn, pl, me, sa, wa, fw, o, d, a, b, yb, yw, yc, yo, ys, yt, ip, ou, yl, yq)) : wpY_pay post (nI n, nI k, kn, pl, me, sa, wa, fw, o, d, a, b, yb, yw, yc, yo, ys, yt, ip, ou, yl, yp) (nI i) := by
  unfold wpY_pay
  dsimp only
  refine ya_saved_best hn ok hi c8 tp (fun z => br_f (by decide) (h yp rfl rfl (by rw [rp_c, if_pos z]) rfl)) (fun z => br_t rfl (nm_e ?_))
  refine pk_loop (fun q t (yq : Nat → Int32) => wY_pay_25 post (nI i) (nI n) (nI k) kn pl me sa wa fw q (nI t) o d a b yb yw yc yo ys yt ip ou yl yq) (fun t yq => yq 0 = yp 0 ∧ yq 1 = yp 1 ∧ yq 2 = yp 2 + nI (1 + 2 * pu_sum (fun t => if m.testBit t = true then sp_nm o d a b (fun x => decide (x = t)) i else 0) t) ∧ yq 3 = yp 3) 8 0 (upd yp 2 (yp 2 + 1)) (Nat.zero_le 8) ⟨pk_un (by decide), pk_un (by decide), pk_us, pk_un (by decide)⟩ ?_ ?_
  · intro q yq Q
    refine br_t (Int32.le_refl _) (h yq Q.1 Q.2.1 ?_ Q.2.2.2)
    rw [Q.2.2.1, rp_c, if_neg z, sp_nm_sum ok hi (fun t => m.testBit t)]
  · intro q t yq ht Q ih
    have e : (nI t).toNatClampNeg = t := nI_clamp (by omega)
    refine br_f (nI_ge (b := 8) ht (by decide)) ⟨vp_in_nI ht (by decide), ?_⟩
    rw [e, tp t ht]
    cases w : m.testBit t
    · have c2 := c8 t ht
      rw [tv_d w ht]
      refine br_f (tp_neg (by omega)) (nm_r (nI_1 t) (ih _ ⟨Q.1, Q.2.1, ?_, Q.2.2.2⟩))
      rw [Q.2.2.1, pu_sum, w]
      rfl
    · rw [tv_m w]
      refine br_t rfl (yk_times hn ok hi ht (nm_e (nm_r (nI_1 t) (ih _ ⟨?_, ?_, ?_, ?_⟩))))
      · rw [pk_un (by decide)]
        exact Q.1
      · rw [pk_un (by decide)]
        exact Q.2.1
      · rw [pk_us, Q.2.2.1, pu_sum, w, if_pos rfl, show (2 : Int32) * nI (sp_nm o d a b (fun x => decide (x = t)) i) = nI (2 * sp_nm o d a b (fun x => decide (x = t)) i) from pk_mul 2 _, Int32.add_assoc, nI_add]
        congr 2
        omega
      · rw [pk_un (by decide)]
        exact Q.2.2.2
theorem ry_step (hn : n ≤ 20) (ok : sp_ok o d a b n) {i : Nat} (hi : i < n) {post : Int32 → SY → Prop} (h : wY_step_70 post (nI i) (o i) (d i) (a i) (b i) (if sp_ua (o i) = true then yl (a i).toNatClampNeg else a i) (if sp_ub (o i) = true then yl (b i).toNatClampNeg else b i) (nI n) (nI k) kn pl me sa wa fw o d a b yb yw yc yo ys yt ip ou yl yp) : wpY_step post (nI n, nI k, kn, pl, me, sa, wa, fw, o, d, a, b, yb, yw, yc, yo, ys, yt, ip, ou, yl, yp) (nI i) := by
  have e : (nI i).toNatClampNeg = i := nI_clamp (by omega)
  have w : vp_in (nI i) 20 := vp_in_nI (by omega) (by decide)
  obtain ⟨_, _, k3, k4, _⟩ := ok i hi
  have G : wY_step_49 post (nI i) (o i) (d i) (a i) (b i) (if sp_ua (o i) = true then yl (a i).toNatClampNeg else a i) (nI n) (nI k) kn pl me sa wa fw o d a b yb yw yc yo ys yt ip ou yl yp := by
    refine wk_ubY (fun y => br_f (by decide) ⟨?_, ?_⟩) (fun y => br_t rfl ?_)
    · obtain ⟨q, hq, e2⟩ := k4 y
      rw [e2]
      exact vp_in_nI hq (by decide)
    · rw [if_pos y] at h
      exact h
    · rw [if_neg y] at h
      exact h
  unfold wpY_step
  dsimp only
  rw [e]
  refine ⟨w, nm_e ⟨w, nm_e ⟨w, nm_e ⟨w, nm_e (wk_uaY (fun y => br_f (by decide) ⟨?_, ?_⟩) (fun y => br_t rfl ?_))⟩⟩⟩⟩
  · obtain ⟨q, hq, e2⟩ := k3 y
    rw [e2]
    exact vp_in_nI hq (by decide)
  · rw [if_pos y] at G
    exact G
  · rw [if_neg y] at G
    exact G
end
end
section
section
variable {n k m v : Nat} {st mv mc sv ic pa oc ss tk tn : Int32} {o d a b ld re be bo cl co ne fe ip ce ou : Nat → Int32} {kn pl me sa wa fw : Int32} {yb yw yc yo ys yt yl yp : Nat → Int32}
/-! values: what X's valueOf gives -/
theorem rv_0 {i : Nat} (hi : i < 20) (h : o i = 0) {post : Int32 → SX → Prop} (hp : post (a i) (nI n, nI k, st, mv, nI m, mc, sv, nI v, ic, pa, oc, ss, tk, tn, o, d, a, b, ld, re, be, bo, cl, co, ne, fe, ip, ce, ou)) : wpX_valueOf post (nI n, nI k, st, mv, nI m, mc, sv, nI v, ic, pa, oc, ss, tk, tn, o, d, a, b, ld, re, be, bo, cl, co, ne, fe, ip, ce, ou) (nI i) := by
  have e : (nI i).toNatClampNeg = i := nI_clamp (by omega)
  have w : vp_in (nI i) 20 := vp_in_nI (by omega) (by decide)
  unfold wpX_valueOf
  dsimp only
  rw [e]
  exact ⟨w, br_t h ⟨w, hp⟩⟩
theorem rv_9 {i : Nat} {q z : Nat} (hq : q < 2 ^ 30) (hz : z ≤ 8) (hi : i < 20) (h : o i = 9) {post : Int32 → SX → Prop} (hp : post (if q < z then ip q else 0) (nI n, nI k, st, mv, nI m, mc, sv, nI v, nI z, pa, oc, ss, tk, nI (q + 1), o, d, a, b, ld, re, be, bo, cl, co, ne, fe, ip, ce, ou)) : wpX_valueOf post (nI n, nI k, st, mv, nI m, mc, sv, nI v, nI z, pa, oc, ss, tk, nI q, o, d, a, b, ld, re, be, bo, cl, co, ne, fe, ip, ce, ou) (nI i) := by
  have e : (nI i).toNatClampNeg = i := nI_clamp (by omega)
  have w : vp_in (nI i) 20 := vp_in_nI (by omega) (by decide)
  unfold wpX_valueOf
  dsimp only
  rw [e]
  refine ⟨w, br_f (by rw [h]; decide) ⟨w, br_t h ?_⟩⟩
  by_cases c : q < z
  · rw [if_pos c] at hp
    refine br_f (nI_ge c (by omega)) ⟨vp_in_nI (by omega) (by decide), ?_⟩
    rw [nI_clamp (by omega)]
    exact nm_r (nI_1 q) hp
  · rw [if_neg c] at hp
    exact br_t (nI_le (by omega) (by omega)) (nm_r (nI_1 q) hp)
theorem rv_5 (hv : v < 65536) {i t : Nat} (ht : t < 8) (et : a i = nI t) (hi : i < 20) (h : o i = 5) {post : Int32 → SX → Prop} (hp : post (ce (rn_cell m (xd_g v) t)) (nI n, nI k, st, mv, nI m, mc, sv, nI v, ic, pa, oc, ss, tk, tn, o, d, a, b, ld, re, be, bo, cl, co, ne, fe, ip, ce, ou)) : wpX_valueOf post (nI n, nI k, st, mv, nI m, mc, sv, nI v, ic, pa, oc, ss, tk, tn, o, d, a, b, ld, re, be, bo, cl, co, ne, fe, ip, ce, ou) (nI i) := by
  have e : (nI i).toNatClampNeg = i := nI_clamp (by omega)
  have w : vp_in (nI i) 20 := vp_in_nI (by omega) (by decide)
  unfold wpX_valueOf
  dsimp only
  rw [e, et]
  exact ⟨w, br_f (by rw [h]; decide) ⟨w, br_f (by rw [h]; decide) ⟨w, rx_read hv ht ⟨w, br_t h hp⟩⟩⟩⟩
/-- the value of an operation on two -/
def rv_op (q : Int32) (x y : Int32) : Int32 := if q = 1 then x + y else if q = 2 then x - y else if q = 3 then x * y else if y ≤ x then 0 else 1
theorem rv_2 (hv : v < 65536) {i t u : Nat} (ht : t < 8) (et : a i = nI t) (hu : u < 8) (eu : b i = nI u) (hi : i < 20) (h : o i = 1 ∨ o i = 2 ∨ o i = 3 ∨ o i = 4) {post : Int32 → SX → Prop} (hp : post (rv_op (o i) (ce (rn_cell m (xd_g v) t)) (ce (rn_cell m (xd_g v) u))) (nI n, nI k, st, mv, nI m, mc, sv, nI v, ic, pa, oc, ss, tk, tn, o, d, a, b, ld, re, be, bo, cl, co, ne, fe, ip, ce, ou)) : wpX_valueOf post (nI n, nI k, st, mv, nI m, mc, sv, nI v, ic, pa, oc, ss, tk, tn, o, d, a, b, ld, re, be, bo, cl, co, ne, fe, ip, ce, ou) (nI i) := by
  have e : (nI i).toNatClampNeg = i := nI_clamp (by omega)
  have w : vp_in (nI i) 20 := vp_in_nI (by omega) (by decide)
  have n0 : ¬ o i = 0 := by rcases h with h | h | h | h <;> rw [h] <;> decide
  have n9 : ¬ o i = 9 := by rcases h with h | h | h | h <;> rw [h] <;> decide
  have n5 : ¬ o i = 5 := by rcases h with h | h | h | h <;> rw [h] <;> decide
  unfold wpX_valueOf
  dsimp only
  rw [e, et, eu]
  refine ⟨w, br_f n0 ⟨w, br_f n9 ⟨w, rx_read hv ht ⟨w, br_f n5 ⟨w, rx_read hv hu ⟨w, nm_e ?_⟩⟩⟩⟩⟩⟩
  rcases h with h | h | h | h
  · rw [h] at hp ⊢
    exact br_f (by decide) (br_f (by decide) (br_t rfl hp))
  · rw [h] at hp ⊢
    exact br_f (by decide) (br_f (by decide) (br_f (by decide) (br_t rfl hp)))
  · rw [h] at hp ⊢
    exact br_f (by decide) (br_f (by decide) (br_f (by decide) (br_f (by decide) (br_t rfl hp))))
  · rw [h] at hp ⊢
    rw [rv_op, if_neg (by decide), if_neg (by decide), if_neg (by decide)] at hp
    refine br_f (by decide) (br_t (by decide) (br_c (fun z => ?_) (fun z => ?_)))
    · rw [if_pos z] at hp
      exact hp
    · rw [if_neg z] at hp
      exact hp
/-! X's step -/
theorem rs_def (hv : v < 65536) {i t : Nat} (ht : t < 8) (et : d i = nI t) (hi : i < 20) (h : sp_df (o i) = true) {x tn' : Int32} {post : SX → Prop} (V : ∀ P : Int32 → SX → Prop, P x (nI n, nI k, st, mv, nI m, mc, sv, nI v, ic, nI (i + 1), oc, ss, tk, tn', o, d, a, b, ld, re, be, bo, cl, co, ne, fe, ip, ce, ou) → wpX_valueOf P (nI n, nI k, st, mv, nI m, mc, sv, nI v, ic, nI (i + 1), oc, ss, tk, tn, o, d, a, b, ld, re, be, bo, cl, co, ne, fe, ip, ce, ou) (nI i)) (hp : post (nI n, nI k, st, mv, nI m, mc, sv, nI v, ic, nI (i + 1), oc, ss, tk, tn', o, d, a, b, ld, re, be, bo, cl, co, ne, fe, ip, upd ce (rn_cell m (xd_g v) t) x, ou)) : wX_doInstruction_44 post (nI i) (nI n) (nI k) st mv (nI m) mc sv (nI v) ic pa oc ss tk tn o d a b ld re be bo cl co ne fe ip ce ou := by
  have e : (nI i).toNatClampNeg = i := nI_clamp (by omega)
  have w : vp_in (nI i) 20 := vp_in_nI (by omega) (by decide)
  have lt := rn_cell_lt (m := m) (v := v) ht
  unfold wX_doInstruction_44
  rw [e, et]
  refine nm_r (nI_1 i) ⟨w, wk_df (fun y => br_f (by decide) ⟨w, rx_cell hv ht (V _ ⟨vp_in_nI lt (by decide), ?_⟩)⟩) (fun y => absurd h y)⟩
  rw [nI_clamp (by omega)]
  exact nm_e hp
theorem rs_6 {i : Nat} (hi : i < 20) (h : o i = 6) {post : SX → Prop} (hp : post (nI n, nI k, st, mv, nI m, mc, sv, nI v, ic, a i, oc, ss, tk, tn, o, d, a, b, ld, re, be, bo, cl, co, ne, fe, ip, ce, ou)) : wX_doInstruction_44 post (nI i) (nI n) (nI k) st mv (nI m) mc sv (nI v) ic pa oc ss tk tn o d a b ld re be bo cl co ne fe ip ce ou := by
  have e : (nI i).toNatClampNeg = i := nI_clamp (by omega)
  have w : vp_in (nI i) 20 := vp_in_nI (by omega) (by decide)
  unfold wX_doInstruction_44
  rw [e]
  exact nm_r (nI_1 i) ⟨w, wk_df (fun y => absurd y (by rw [h]; decide)) (fun y => br_t rfl ⟨w, br_t h ⟨w, nm_e hp⟩⟩)⟩
theorem rs_7 (hv : v < 65536) {i t : Nat} (ht : t < 8) (et : a i = nI t) (hi : i < 20) (h : o i = 7) {post : SX → Prop} (hp : post (nI n, nI k, st, mv, nI m, mc, sv, nI v, ic, (if ce (rn_cell m (xd_g v) t) = 0 then b i else nI (i + 1)), oc, ss, tk, tn, o, d, a, b, ld, re, be, bo, cl, co, ne, fe, ip, ce, ou)) : wX_doInstruction_44 post (nI i) (nI n) (nI k) st mv (nI m) mc sv (nI v) ic pa oc ss tk tn o d a b ld re be bo cl co ne fe ip ce ou := by
  have e : (nI i).toNatClampNeg = i := nI_clamp (by omega)
  have w : vp_in (nI i) 20 := vp_in_nI (by omega) (by decide)
  unfold wX_doInstruction_44
  rw [e, et]
  refine nm_r (nI_1 i) ⟨w, wk_df (fun y => absurd y (by rw [h]; decide)) (fun y => br_t rfl ⟨w, br_f (by rw [h]; decide) ⟨w, br_t h ⟨w, rx_read hv ht (br_c (fun z => ⟨w, nm_e ?_⟩) (fun z => ?_))⟩⟩⟩)⟩
  · rw [if_pos z] at hp
    exact hp
  · rw [if_neg z] at hp
    exact hp
theorem rs_8 (hv : v < 65536) {i t q : Nat} (hq : q < 2 ^ 30) (ht : t < 8) (et : a i = nI t) (hi : i < 20) (h : o i = 8) {post : SX → Prop} (hp : post (nI n, nI k, st, mv, nI m, mc, sv, nI v, ic, nI (i + 1), nI (q + 1), ss, tk, tn, o, d, a, b, ld, re, be, bo, cl, co, ne, fe, ip, ce, (if q < 30 then upd ou q (ce (rn_cell m (xd_g v) t)) else ou))) : wX_doInstruction_44 post (nI i) (nI n) (nI k) st mv (nI m) mc sv (nI v) ic pa (nI q) ss tk tn o d a b ld re be bo cl co ne fe ip ce ou := by
  have e : (nI i).toNatClampNeg = i := nI_clamp (by omega)
  have w : vp_in (nI i) 20 := vp_in_nI (by omega) (by decide)
  unfold wX_doInstruction_44
  rw [e, et]
  refine nm_r (nI_1 i) ⟨w, wk_df (fun y => absurd y (by rw [h]; decide)) (fun y => br_t rfl ⟨w, br_f (by rw [h]; decide) ⟨w, br_f (by rw [h]; decide) ⟨w, br_t h ⟨w, rx_read hv ht ?_⟩⟩⟩⟩)⟩
  by_cases c : q < 30
  · rw [if_pos c] at hp
    refine br_f (nI_ge (b := 30) c (by decide)) ⟨vp_in_nI c (by decide), ?_⟩
    rw [nI_clamp (by omega)]
    exact nm_e (nm_r (nI_1 q) hp)
  · rw [if_neg c] at hp
    exact br_t (nI_le (a := 30) (by omega) (by omega)) (nm_r (nI_1 q) hp)
theorem rs_10 {i : Nat} (hi : i < 20) (h : o i = 10) {post : SX → Prop} (hp : post (nI n, nI k, st, mv, nI m, mc, sv, nI v, ic, nI n, oc, ss, tk, tn, o, d, a, b, ld, re, be, bo, cl, co, ne, fe, ip, ce, ou)) : wX_doInstruction_44 post (nI i) (nI n) (nI k) st mv (nI m) mc sv (nI v) ic pa oc ss tk tn o d a b ld re be bo cl co ne fe ip ce ou := by
  have e : (nI i).toNatClampNeg = i := nI_clamp (by omega)
  have w : vp_in (nI i) 20 := vp_in_nI (by omega) (by decide)
  unfold wX_doInstruction_44
  rw [e]
  exact nm_r (nI_1 i) ⟨w, wk_df (fun y => absurd y (by rw [h]; decide)) (fun y => br_t rfl ⟨w, br_f (by rw [h]; decide) ⟨w, br_f (by rw [h]; decide) ⟨w, br_f (by rw [h]; decide) hp⟩⟩⟩)⟩
/-! Y's step -/
theorem rt_05 {i t : Nat} (ht : t < 8) (hn : n ≤ 20) (hi : i < n) {q d' a' b' x z : Int32} (et : d' = nI t) (h : q = 0 ∨ q = 5) {post : Int32 → SY → Prop} (hp : post (nI (i + 1)) (nI n, nI k, kn, pl, me, sa, wa, fw, o, d, a, b, yb, yw, yc, yo, ys, yt, ip, ou, upd yl t x, yp)) : wY_step_70 post (nI i) q d' a' b' x z (nI n) (nI k) kn pl me sa wa fw o d a b yb yw yc yo ys yt ip ou yl yp := by
  have w : vp_in (nI t) 8 := vp_in_nI ht (by decide)
  subst et
  have G : wY_step_128 post (nI i) (nI t) x (nI n) (nI k) kn pl me sa wa fw o d a b yb yw yc yo ys yt ip ou yl yp := by
    unfold wY_step_128
    rw [nI_clamp (by omega), nI_1]
    exact ⟨w, nm_e hp⟩
  rcases h with h | h
  · subst h
    exact br_f (by decide) (br_f (by decide) (br_t rfl G))
  · subst h
    exact br_f (by decide) (br_f (by decide) (br_f (by decide) (br_f (by decide) (br_f (by decide) (br_f (by decide) (br_f (by decide) (br_t rfl G)))))))
theorem rt_op {i t : Nat} (ht : t < 8) (hn : n ≤ 20) (hi : i < n) {q d' a' b' x z : Int32} (et : d' = nI t) (h : q = 1 ∨ q = 2 ∨ q = 3 ∨ q = 4) {post : Int32 → SY → Prop} (hp : post (nI (i + 1)) (nI n, nI k, kn, pl, me, sa, wa, fw, o, d, a, b, yb, yw, yc, yo, ys, yt, ip, ou, upd yl t (rv_op q x z), yp)) : wY_step_70 post (nI i) q d' a' b' x z (nI n) (nI k) kn pl me sa wa fw o d a b yb yw yc yo ys yt ip ou yl yp := by
  have w : vp_in (nI t) 8 := vp_in_nI ht (by decide)
  subst et
  unfold wY_step_70
  rw [nI_clamp (by omega), nI_1]
  rcases h with h | h | h | h
  · subst h
    exact br_f (by decide) (br_f (by decide) (br_f (by decide) (br_t rfl ⟨w, nm_e hp⟩)))
  · subst h
    exact br_f (by decide) (br_f (by decide) (br_f (by decide) (br_f (by decide) (br_t rfl ⟨w, nm_e hp⟩))))
  · subst h
    exact br_f (by decide) (br_f (by decide) (br_f (by decide) (br_f (by decide) (br_f (by decide) (br_t rfl ⟨w, nm_e hp⟩)))))
  · subst h
    rw [rv_op, if_neg (by decide), if_neg (by decide), if_neg (by decide)] at hp
    refine br_f (by decide) (br_f (by decide) (br_f (by decide) (br_f (by decide) (br_f (by decide) (br_f (by decide) (br_t rfl (br_c (fun y => ⟨w, nm_e ?_⟩) (fun y => ⟨w, nm_e ?_⟩))))))))
    · rw [if_pos y] at hp
      exact hp
    · rw [if_neg y] at hp
      exact hp
theorem rt_6 {i t : Nat} (ht : t ≤ 20) (hn : n ≤ 20) {d' a' b' x z : Int32} (et : a' = nI t) {post : Int32 → SY → Prop} (hp : post (nI (if t < n then t else n)) (nI n, nI k, kn, pl, me, sa, wa, fw, o, d, a, b, yb, yw, yc, yo, ys, yt, ip, ou, yl, yp)) : wY_step_70 post (nI i) 6 d' a' b' x z (nI n) (nI k) kn pl me sa wa fw o d a b yb yw yc yo ys yt ip ou yl yp := by
  subst et
  refine br_f (by decide) (br_f (by decide) (br_f (by decide) (br_f (by decide) (br_f (by decide) (br_f (by decide) (br_f (by decide) (br_f (by decide) (br_t rfl (yk_end hn (by omega) (fun y => ?_) (fun y => ?_))))))))))
  · rw [if_neg (by omega)] at hp
    exact hp
  · rw [if_pos y] at hp
    exact hp
theorem rt_7 {i t : Nat} (ht : t ≤ 20) (hn : n ≤ 20) {d' a' b' x z : Int32} (et : b' = nI t) {post : Int32 → SY → Prop} (A : x = 0 → post (nI (if t < n then t else n)) (nI n, nI k, kn, pl, me, sa, wa, fw, o, d, a, b, yb, yw, yc, yo, ys, yt, ip, ou, yl, yp)) (B : ¬ x = 0 → post (nI (i + 1)) (nI n, nI k, kn, pl, me, sa, wa, fw, o, d, a, b, yb, yw, yc, yo, ys, yt, ip, ou, yl, yp)) : wY_step_70 post (nI i) 7 d' a' b' x z (nI n) (nI k) kn pl me sa wa fw o d a b yb yw yc yo ys yt ip ou yl yp := by
  subst et
  rw [← nI_1] at B
  refine br_f (by decide) (br_f (by decide) (br_f (by decide) (br_f (by decide) (br_f (by decide) (br_f (by decide) (br_f (by decide) (br_f (by decide) (br_f (by decide) (br_t rfl (br_c (fun c => yk_end hn (by omega) (fun y => ?_) (fun y => ?_)) B))))))))))
  · have hp := A c
    rw [if_neg (by omega)] at hp
    exact hp
  · have hp := A c
    rw [if_pos y] at hp
    exact hp
theorem rt_8 {i q : Nat} (hq : q < 2 ^ 30) (e0 : yp 0 = nI q) {d' a' b' x z : Int32} {post : Int32 → SY → Prop} (hp : ∀ yq, yq 0 = nI (q + 1) → yq 1 = yp 1 → yq 2 = yp 2 → yq 3 = yp 3 → post (nI (i + 1)) (nI n, nI k, kn, pl, me, sa, wa, fw, o, d, a, b, yb, yw, yc, yo, ys, yt, ip, (if q < 30 then upd ou q x else ou), yl, yq)) : wY_step_70 post (nI i) 8 d' a' b' x z (nI n) (nI k) kn pl me sa wa fw o d a b yb yw yc yo ys yt ip ou yl yp := by
  have G : ∀ ov, ov = (if q < 30 then upd ou q x else ou) → wY_step_256 post (nI i) (nI n) (nI k) kn pl me sa wa fw o d a b yb yw yc yo ys yt ip ov yl yp := by
    intro ov eo
    subst eo
    unfold wY_step_256
    rw [nI_1, e0]
    exact nm_e (hp _ (by rw [pk_us, nI_1]) (pk_un (by decide)) (pk_un (by decide)) (pk_un (by decide)))
  refine br_f (by decide) (br_f (by decide) (br_f (by decide) (br_f (by decide) (br_f (by decide) (br_f (by decide) (br_f (by decide) (br_f (by decide) (br_f (by decide) (br_f (by decide) (br_t rfl ?_))))))))))
  rw [e0]
  by_cases c : q < 30
  · refine br_f (nI_ge (b := 30) c (by decide)) ⟨vp_in_nI c (by decide), ?_⟩
    rw [nI_clamp (by omega)]
    exact nm_e (G _ (if_pos c).symm)
  · exact br_t (nI_le (a := 30) (by omega) (by omega)) (G _ (if_neg c).symm)
theorem rt_9 {i t q w : Nat} (ht : t < 8) (hq : q < 2 ^ 30) (hw : w ≤ 8) (e3 : yp 3 = nI q) {d' a' b' x z : Int32} (et : d' = nI t) {post : Int32 → SY → Prop} (hp : ∀ yq, yq 0 = yp 0 → yq 1 = yp 1 → yq 2 = yp 2 → yq 3 = nI (q + 1) → post (nI (i + 1)) (nI n, nI k, kn, pl, me, sa, nI w, fw, o, d, a, b, yb, yw, yc, yo, ys, yt, ip, ou, upd yl t (if q < w then ip q else 0), yq)) : wY_step_70 post (nI i) 9 d' a' b' x z (nI n) (nI k) kn pl me sa (nI w) fw o d a b yb yw yc yo ys yt ip ou yl yp := by
  have vt : vp_in (nI t) 8 := vp_in_nI ht (by decide)
  subst et
  have G : ∀ y, y = (if q < w then ip q else 0) → wY_step_303 post (nI i) y (nI t) (nI n) (nI k) kn pl me sa (nI w) fw o d a b yb yw yc yo ys yt ip ou yl yp := by
    intro y ey
    subst ey
    unfold wY_step_303
    rw [nI_1, e3, nI_clamp (by omega)]
    exact ⟨vt, nm_e (nm_e (hp _ (pk_un (by decide)) (pk_un (by decide)) (pk_un (by decide)) (by rw [pk_us, nI_1])))⟩
  refine br_f (by decide) (br_f (by decide) (br_f (by decide) (br_f (by decide) (br_f (by decide) (br_f (by decide) (br_f (by decide) (br_f (by decide) (br_f (by decide) (br_f (by decide) (br_f (by decide) (br_t rfl ?_)))))))))))
  rw [e3]
  by_cases c : q < w
  · refine br_f (nI_ge c (by omega)) ⟨vp_in_nI (by omega) (by decide), ?_⟩
    rw [nI_clamp (by omega)]
    exact G _ (if_pos c).symm
  · exact br_t (nI_le (by omega) (by omega)) (G _ (if_neg c).symm)
theorem rt_10 {i : Nat} {d' a' b' x z : Int32} {post : Int32 → SY → Prop} (hp : post (nI n) (nI n, nI k, kn, pl, me, sa, wa, fw, o, d, a, b, yb, yw, yc, yo, ys, yt, ip, ou, yl, yp)) : wY_step_70 post (nI i) 10 d' a' b' x z (nI n) (nI k) kn pl me sa wa fw o d a b yb yw yc yo ys yt ip ou yl yp :=
  br_f (by decide) (br_t (by decide) hp)
end
end
section
section
variable {n k m v : Nat} {st mv mc sv ic pa oc ss tk tn : Int32} {o d a b ld re be bo cl co ne fe ip ce ou : Nat → Int32}
theorem so_n {i : Nat} (hi : i < n) : (if i + 1 < n then i + 1 else n) = i + 1 := by
  by_cases c : i + 1 < n
  · rw [if_pos c]
  · rw [if_neg c]
    omega
theorem so_up {f g : Nat → Int32} {t : Nat} {x : Int32} (h : ∀ j, j < 8 → f j = g j) : ∀ j, j < 8 → upd f t x j = upd g t x j := by
  intro j hj
  by_cases z : j = t
  · rw [z, pk_us, pk_us]
  · rw [pk_un z, pk_un z, h j hj]
/-- one instruction on both sides -/
def so_P (n m v : Nat) (st mv mc sv : Int32) (nk : Int32) (o d a b ld re be bo cl co ne fe ip ce ou yl : Nat → Int32) (w i q r : Nat) : Prop :=
  ∃ (p' q' r' : Nat) (ce' yl' ou' : Nat → Int32), p' ≤ 20 ∧ q' ≤ q + 1 ∧ r' ≤ r + 1 ∧ rn_ag o d a b n m (xd_g v) ce' yl' p' ∧
    (∀ (pa ss tk : Int32) (post : SX → Prop), post (nI n, nk, st, mv, nI m, mc, sv, nI v, nI w, nI p', nI q', ss, tk, nI r', o, d, a, b, ld, re, be, bo, cl, co, ne, fe, ip, ce', ou') → wX_doInstruction_44 post (nI i) (nI n) nk st mv (nI m) mc sv (nI v) (nI w) pa (nI q) ss tk (nI r) o d a b ld re be bo cl co ne fe ip ce ou) ∧
    (∀ (kn pl me sa fw : Int32) (yb yw yc yo ys yt yl2 yp : Nat → Int32), (∀ j, j < 8 → yl2 j = yl j) → yp 0 = nI q → yp 3 = nI r → ∀ post : Int32 → SY → Prop, (∀ yl3 yq, (∀ j, j < 8 → yl3 j = yl' j) → yq 0 = nI q' → yq 1 = yp 1 → yq 2 = yp 2 → yq 3 = nI r' → post (nI (if p' < n then p' else n)) (nI n, nk, kn, pl, me, sa, nI w, fw, o, d, a, b, yb, yw, yc, yo, ys, yt, ip, ou', yl3, yq)) → wpY_step post (nI n, nk, kn, pl, me, sa, nI w, fw, o, d, a, b, yb, yw, yc, yo, ys, yt, ip, ou, yl2, yp) (nI i))
theorem so_one {w i q r : Nat} {yl : Nat → Int32} (hn : n ≤ 20) (ok : sp_ok o d a b n) (hk : k ≤ 4) (hv : v < 65536) (hc : gc_vd (sp_K o d a b n) (fun t => m.testBit t) k (xd_g v)) (hi : i < n) (hw : w ≤ 8) (hq : q < 2 ^ 29) (hr : r < 2 ^ 29) (ag : rn_ag o d a b n m (xd_g v) ce yl i) : so_P n m v st mv mc sv (nI k) o d a b ld re be bo cl co ne fe ip ce ou yl w i q r := by
  have i20 : i < 20 := by omega
  obtain ⟨⟨z, hz, eo⟩, k2, k3, k4, k5, k6⟩ := ok i hi
  have RA : sp_ua (o i) = true → ∀ t, t < 8 → a i = nI t → ce (rn_cell m (xd_g v) t) = yl t := by
    intro u t ht e
    refine ag hi t ht (sp_lv_use hi ?_)
    unfold sp_U
    rw [u, decide_eq_true e]
    rfl
  have RB : sp_ub (o i) = true → ∀ t, t < 8 → b i = nI t → ce (rn_cell m (xd_g v) t) = yl t := by
    intro u t ht e
    refine ag hi t ht (sp_lv_use hi ?_)
    unfold sp_U
    rw [u, decide_eq_true e]
    simp
  have LN : ¬ o i = 6 → ¬ o i = 7 → ¬ o i = 10 → (i + 1 < n → sp_L o a b i (i + 1) = true) := by
    intro a1 a2 a3 _
    rw [sp_L_e a1 a2 a3]
    simp
  have cs : o i = 0 ∨ o i = 5 ∨ (o i = 1 ∨ o i = 2 ∨ o i = 3 ∨ o i = 4) ∨ o i = 9 ∨ o i = 6 ∨ o i = 7 ∨ o i = 8 ∨ o i = 10 := by
    have c : z = 0 ∨ z = 5 ∨ (z = 1 ∨ z = 2 ∨ z = 3 ∨ z = 4) ∨ z = 9 ∨ z = 6 ∨ z = 7 ∨ z = 8 ∨ z = 10 := by omega
    rcases c with c | c | (c | c | c | c) | c | c | c | c | c <;> subst c <;> rw [eo] <;> decide
  rcases cs with h | h | h | h | h | h | h | h
  · have D : sp_df (o i) = true := by rw [h]; decide
    have nA : ¬ sp_ua (o i) = true := by rw [h]; decide
    obtain ⟨t, ht, et⟩ := k2 D
    refine ⟨i + 1, q, r, upd ce (rn_cell m (xd_g v) t) (a i), upd yl t (a i), ou, by omega, by omega, by omega, rn_wr hc hk hi (LN (by rw [h]; decide) (by rw [h]; decide) (by rw [h]; decide)) D ht et (fun y => absurd (h.symm.trans y) (by decide)) ag, fun pa ss tk post hp => rs_def hv ht et i20 D (fun P hP => rv_0 i20 h hP) hp, fun kn pl me sa fw yb yw yc yo ys yt yl2 yp hl e0 e3 post hp => ry_step hn ok hi ?_⟩
    rw [if_neg nA]
    rw [so_n hi] at hp
    exact rt_05 ht hn hi et (Or.inl h) (hp _ yp (so_up hl) e0 rfl rfl e3)
  · have D : sp_df (o i) = true := by rw [h]; decide
    have A : sp_ua (o i) = true := by rw [h]; decide
    obtain ⟨t, ht, et⟩ := k2 D
    obtain ⟨u, hu, eu⟩ := k3 A
    have ev := RA A u hu eu
    refine ⟨i + 1, q, r, upd ce (rn_cell m (xd_g v) t) (yl u), upd yl t (yl u), ou, by omega, by omega, by omega, rn_wr hc hk hi (LN (by rw [h]; decide) (by rw [h]; decide) (by rw [h]; decide)) D ht et (fun _ x hx e2 => ?_) ag, fun pa ss tk post hp => rs_def hv ht et i20 D (fun P hP => rv_5 hv hu eu i20 h (by rw [ev]; exact hP)) hp, fun kn pl me sa fw yb yw yc yo ys yt yl2 yp hl e0 e3 post hp => ry_step hn ok hi ?_⟩
    · rw [eu, nI_eq (by omega) (by omega)] at e2
      rw [e2]
    · rw [if_pos A, eu, nI_clamp (by omega), hl u hu]
      rw [so_n hi] at hp
      exact rt_05 ht hn hi et (Or.inr h) (hp _ yp (so_up hl) e0 rfl rfl e3)
  · have D : sp_df (o i) = true := by rcases h with h | h | h | h <;> rw [h] <;> decide
    have A : sp_ua (o i) = true := by rcases h with h | h | h | h <;> rw [h] <;> decide
    have B : sp_ub (o i) = true := by rcases h with h | h | h | h <;> rw [h] <;> decide
    have n5 : ¬ o i = 5 := by rcases h with h | h | h | h <;> rw [h] <;> decide
    have n6 : ¬ o i = 6 := by rcases h with h | h | h | h <;> rw [h] <;> decide
    have n7 : ¬ o i = 7 := by rcases h with h | h | h | h <;> rw [h] <;> decide
    have n10 : ¬ o i = 10 := by rcases h with h | h | h | h <;> rw [h] <;> decide
    obtain ⟨t, ht, et⟩ := k2 D
    obtain ⟨u, hu, eu⟩ := k3 A
    obtain ⟨x, hx, ex⟩ := k4 B
    have ev := RA A u hu eu
    have ev2 := RB B x hx ex
    refine ⟨i + 1, q, r, upd ce (rn_cell m (xd_g v) t) (rv_op (o i) (yl u) (yl x)), upd yl t (rv_op (o i) (yl u) (yl x)), ou, by omega, by omega, by omega, rn_wr hc hk hi (LN n6 n7 n10) D ht et (fun y => absurd y n5) ag, fun pa ss tk post hp => rs_def hv ht et i20 D (fun P hP => rv_2 hv hu eu hx ex i20 h (by rw [ev, ev2]; exact hP)) hp, fun kn pl me sa fw yb yw yc yo ys yt yl2 yp hl e0 e3 post hp => ry_step hn ok hi ?_⟩
    rw [if_pos A, if_pos B, eu, ex, nI_clamp (by omega), nI_clamp (by omega), hl u hu, hl x hx]
    rw [so_n hi] at hp
    exact rt_op ht hn hi et h (hp _ yp (so_up hl) e0 rfl rfl e3)
  · have D : sp_df (o i) = true := by rw [h]; decide
    have nA : ¬ sp_ua (o i) = true := by rw [h]; decide
    have nB : ¬ sp_ub (o i) = true := by rw [h]; decide
    obtain ⟨t, ht, et⟩ := k2 D
    refine ⟨i + 1, q, r + 1, upd ce (rn_cell m (xd_g v) t) (if r < w then ip r else 0), upd yl t (if r < w then ip r else 0), ou, by omega, by omega, by omega, rn_wr hc hk hi (LN (by rw [h]; decide) (by rw [h]; decide) (by rw [h]; decide)) D ht et (fun y => absurd (h.symm.trans y) (by decide)) ag, fun pa ss tk post hp => rs_def hv ht et i20 D (fun P hP => rv_9 (by omega) hw i20 h hP) hp, fun kn pl me sa fw yb yw yc yo ys yt yl2 yp hl e0 e3 post hp => ry_step hn ok hi ?_⟩
    rw [if_neg nA, if_neg nB, h]
    rw [so_n hi] at hp
    exact rt_9 ht (by omega) hw e3 et (fun yq g0 g1 g2 g3 => hp _ yq (so_up hl) (g0.trans e0) g1 g2 g3)
  · have D : sp_df (o i) = false := by rw [h]; decide
    have nA : ¬ sp_ua (o i) = true := by rw [h]; decide
    have nB : ¬ sp_ub (o i) = true := by rw [h]; decide
    obtain ⟨t, ht, et⟩ := k5 h
    refine ⟨t, q, r, ce, yl, ou, ht, by omega, by omega, rn_go hi (fun _ => by rw [sp_L_6 h, decide_eq_true et]) D ag, fun pa ss tk post hp => rs_6 i20 h (by rw [et]; exact hp), fun kn pl me sa fw yb yw yc yo ys yt yl2 yp hl e0 e3 post hp => ry_step hn ok hi ?_⟩
    rw [if_neg nA, if_neg nB, h]
    exact rt_6 ht hn et (hp _ yp hl e0 rfl rfl e3)
  · have D : sp_df (o i) = false := by rw [h]; decide
    have A : sp_ua (o i) = true := by rw [h]; decide
    have nB : ¬ sp_ub (o i) = true := by rw [h]; decide
    obtain ⟨t, ht, et⟩ := k6 h
    obtain ⟨u, hu, eu⟩ := k3 A
    have ev := RA A u hu eu
    by_cases c : yl u = 0
    · refine ⟨t, q, r, ce, yl, ou, ht, by omega, by omega, rn_go hi (fun _ => by rw [sp_L_7 h, decide_eq_true et]; rfl) D ag, fun pa ss tk post hp => rs_7 hv hu eu i20 h (by rw [ev, if_pos c, et]; exact hp), fun kn pl me sa fw yb yw yc yo ys yt yl2 yp hl e0 e3 post hp => ry_step hn ok hi ?_⟩
      rw [if_pos A, if_neg nB, h, eu, nI_clamp (by omega), hl u hu]
      exact rt_7 ht hn et (fun _ => hp _ yp hl e0 rfl rfl e3) (fun y => absurd c y)
    · refine ⟨i + 1, q, r, ce, yl, ou, by omega, by omega, by omega, rn_go hi (fun _ => by rw [sp_L_7 h]; simp) D ag, fun pa ss tk post hp => rs_7 hv hu eu i20 h (by rw [ev, if_neg c]; exact hp), fun kn pl me sa fw yb yw yc yo ys yt yl2 yp hl e0 e3 post hp => ry_step hn ok hi ?_⟩
      rw [if_pos A, if_neg nB, h, eu, nI_clamp (by omega), hl u hu]
      rw [so_n hi] at hp
      exact rt_7 ht hn et (fun y => absurd y c) (fun _ => hp _ yp hl e0 rfl rfl e3)
  · have D : sp_df (o i) = false := by rw [h]; decide
    have A : sp_ua (o i) = true := by rw [h]; decide
    have nB : ¬ sp_ub (o i) = true := by rw [h]; decide
    obtain ⟨u, hu, eu⟩ := k3 A
    have ev := RA A u hu eu
    refine ⟨i + 1, q + 1, r, ce, yl, (if q < 30 then upd ou q (yl u) else ou), by omega, by omega, by omega, rn_go hi (LN (by rw [h]; decide) (by rw [h]; decide) (by rw [h]; decide)) D ag, fun pa ss tk post hp => rs_8 hv (by omega) hu eu i20 h (by rw [ev]; exact hp), fun kn pl me sa fw yb yw yc yo ys yt yl2 yp hl e0 e3 post hp => ry_step hn ok hi ?_⟩
    rw [if_pos A, if_neg nB, h, eu, nI_clamp (by omega), hl u hu]
    rw [so_n hi] at hp
    exact rt_8 (by omega) e0 (fun yq g0 g1 g2 g3 => hp _ yq hl g0 g1 g2 (g3.trans e3))
  · have nA : ¬ sp_ua (o i) = true := by rw [h]; decide
    have nB : ¬ sp_ub (o i) = true := by rw [h]; decide
    refine ⟨n, q, r, ce, yl, ou, hn, by omega, by omega, fun y => absurd y (Nat.lt_irrefl n), fun pa ss tk post hp => rs_10 i20 h hp, fun kn pl me sa fw yb yw yc yo ys yt yl2 yp hl e0 e3 post hp => ry_step hn ok hi ?_⟩
    rw [if_neg nA, if_neg nB, h]
    rw [if_neg (Nat.lt_irrefl n)] at hp
    exact rt_10 (hp _ yp hl e0 rfl rfl e3)
end
end
section
section
variable {n k m v : Nat} {st mv mc sv ic pa oc ss tk tn : Int32} {o d a b ld re be bo cl co ne fe ip ce ou : Nat → Int32}
/-- both runs from the same place -/
theorem rl_run {w : Nat} (hn : n ≤ 20) (ok : sp_ok o d a b n) (hk : k ≤ 4) (hv : v < 65536) (hm : m < 256) (hc : gc_vd (sp_K o d a b n) (fun t => m.testBit t) k (xd_g v)) (hw : w ≤ 8) : ∀ (x s p q r : Nat) (tk : Int32) (ce ou yl : Nat → Int32), s + x = 200 → p ≤ 20 → q ≤ s → r ≤ s → rn_ag o d a b n m (xd_g v) ce yl p →
    ∃ (rr pa' oc' ss' tk' tn' : Int32) (ce' ou' : Nat → Int32),
      (∀ post : Int32 → SX → Prop, post rr (nI n, nI k, st, mv, nI m, mc, sv, nI v, nI w, pa', oc', ss', tk', tn', o, d, a, b, ld, re, be, bo, cl, co, ne, fe, ip, ce', ou') → ∃ f, wX_run_10 post f (nI s) (nI n) (nI k) st mv (nI m) mc sv (nI v) (nI w) (nI p) (nI q) (nI s) tk (nI r) o d a b ld re be bo cl co ne fe ip ce ou) ∧
      (∀ (kn pl me sa fw : Int32) (yb yw yc yo ys yt yl2 yp : Nat → Int32), tp_is m (xd_g v) 8 ys → (∀ j, j < 8 → yl2 j = yl j) → yp 0 = nI q → yp 1 = nI s → yp 2 = tk → yp 3 = nI r → ∀ post : Int32 → SY → Prop, (∀ yl3 yq, yq 0 = oc' → yq 1 = ss' → yq 2 = tk' → yq 3 = tn' → post rr (nI n, nI k, kn, pl, me, sa, nI w, fw, o, d, a, b, yb, yw, yc, yo, ys, yt, ip, ou', yl3, yq)) → ∀ f, x + 1 ≤ f → wY_run_47 post f (nI (if p < n then p else n)) (nI n) (nI k) kn pl me sa (nI w) fw o d a b yb yw yc yo ys yt ip ou yl2 yp) := by
  have c8 : ∀ t, t < 8 → xd_g v t ≤ 8 := fun t _ => by have := Nat.mod_lt (v / 2 ^ (14 - 2 * t)) (show 0 < 4 by decide); unfold xd_g; omega
  intro x
  induction x with
  | zero =>
    intro s p q r tk ce ou yl hs hp hq hr ag
    have es : s = 200 := by omega
    subst es
    by_cases c : p < n
    · refine ⟨1, nI p, nI q, nI 200, tk, nI r, ce, ou, fun post h => ⟨1, br_t (Int32.le_refl _) (br_f (nI_ge c (by omega)) h)⟩, fun kn pl me sa fw yb yw yc yo ys yt yl2 yp tp hl e0 e1 e2 e3 post h f hf => ?_⟩
      obtain ⟨g, rfl⟩ : ∃ g, f = g + 1 := ⟨f - 1, by omega⟩
      rw [if_pos c]
      exact br_f (nI_ge c (by omega)) (br_t e1 (h yl2 yp e0 e1 e2 e3))
    · refine ⟨0, nI p, nI q, nI 200, tk, nI r, ce, ou, fun post h => ⟨1, br_t (Int32.le_refl _) (br_t (nI_le (by omega) (by omega)) h)⟩, fun kn pl me sa fw yb yw yc yo ys yt yl2 yp tp hl e0 e1 e2 e3 post h f hf => ?_⟩
      obtain ⟨g, rfl⟩ : ∃ g, f = g + 1 := ⟨f - 1, by omega⟩
      rw [if_neg c]
      exact br_t (Int32.le_refl _) (h yl2 yp e0 e1 e2 e3)
  | succ x ih =>
    intro s p q r tk ce ou yl hs hp hq hr ag
    have s2 : s < 200 := by omega
    by_cases c : p < n
    · obtain ⟨p', q', r', ce', yl', ou', b1, b2, b3, ag', X, Y⟩ := so_one (st := st) (mv := mv) (mc := mc) (sv := sv) (ld := ld) (re := re) (be := be) (bo := bo) (cl := cl) (co := co) (ne := ne) (fe := fe) (ip := ip) (ou := ou) hn ok hk hv hc c hw (q := q) (r := r) (by omega) (by omega) ag
      obtain ⟨rr, pa2, oc2, ss2, tk2, tn2, ce2, ou2, HX, HY⟩ := ih (s + 1) p' q' r' (rp_c o d a b m (xd_g v) p tk) ce' ou' yl' (by omega) b1 (by omega) (by omega) ag'
      refine ⟨rr, pa2, oc2, ss2, tk2, tn2, ce2, ou2, fun post h => ?_, fun kn pl me sa fw yb yw yc yo ys yt yl2 yp tp hl e0 e1 e2 e3 post h f hf => ?_⟩
      · obtain ⟨f, hf⟩ := HX post h
        refine ⟨f + 1, br_f (nI_ge (b := 200) s2 (by decide)) (br_f (nI_ge c (by omega)) (rp_X hn ok hv hm c (X _ _ _ _ ?_)))⟩
        rw [← nI_1 s] at hf
        exact nm_e hf
      · obtain ⟨g, rfl⟩ : ∃ g, f = g + 1 := ⟨f - 1, by omega⟩
        rw [if_pos c]
        refine br_f (nI_ge c (by omega)) (br_f (fun z => ?_) (nm_e (rp_Y hn ok c8 tp c (fun yq f0 f1 f2 f3 => Y _ _ _ _ _ _ _ _ _ _ _ _ yq hl ?_ ?_ _ (fun yl3 yr hl3 g0 g1 g2 g3 => HY _ _ _ _ _ _ _ _ _ _ _ _ yr tp hl3 g0 ?_ ?_ g3 post h g (by omega))))))
        · rw [e1] at z
          have := (nI_eq (b := 200) (by omega) (by decide)).mp z
          omega
        · rw [f0, pk_un (by decide), e0]
        · rw [f3, pk_un (by decide), e3]
        · rw [g1, f1, pk_us, e1, nI_1]
        · rw [g2, f2, pk_un (by decide), e2]
    · refine ⟨0, nI p, nI q, nI s, tk, nI r, ce, ou, fun post h => ⟨1, br_f (nI_ge (b := 200) s2 (by decide)) (br_t (nI_le (by omega) (by omega)) (br_t (nI_le (by omega) (by omega)) h))⟩, fun kn pl me sa fw yb yw yc yo ys yt yl2 yp tp hl e0 e1 e2 e3 post h f hf => ?_⟩
      obtain ⟨g, rfl⟩ : ∃ g, f = g + 1 := ⟨f - 1, by omega⟩
      rw [if_neg c]
      exact br_t (Int32.le_refl _) (h yl2 yp e0 e1 e2 e3)
end
section
variable {n k : Nat} {st mv ms mc sv ch ic pa oc ss tk tn : Int32} {o d a b ld re be bo cl co ne fe ip ce ou : Nat → Int32} {kn pl me sa wa fw : Int32} {yb yw yc yo ys yt yl yp : Nat → Int32}
theorem rr_X (hn : n ≤ 20) (ok : sp_ok o d a b n) (hk : k ≤ 4) (hs : st = 0 ∨ (st = 1 ∧ xs_ok o d a b n k mv ms mc sv ch be bo cl co ne)) {post : Int32 → SX → Prop} (T : ∀ m v, m < 256 → v < 65536 → ∀ mv mc sv ld re be bo cl co ne fe ce, xs_ok o d a b n k mv (nI m) mc sv (nI v) be bo cl co ne → (∀ j, j < 12 → ce j = 0) → ∃ f, wX_run_10 post f 0 (nI n) (nI k) 1 mv (nI m) mc sv (nI v) ic 0 0 0 0 0 o d a b ld re be bo cl co ne fe ip ce ou) : wpX_run post (nI n, nI k, st, mv, ms, mc, sv, ch, ic, pa, oc, ss, tk, tn, o, d, a, b, ld, re, be, bo, cl, co, ne, fe, ip, ce, ou) := by
  unfold wpX_run
  dsimp only
  refine xs_settle hn ok hk hs (fun mv ms mc sv ch ld re be bo cl co ne fe h => ?_)
  have h2 := h
  obtain ⟨_, _, _, _, _, _, m, e1, hM, _, v, hv, e3, _, _⟩ := h2
  subst e1
  subst e3
  refine pk_loop (fun q j (c : Nat → Int32) => wX_startRun_2 (fun u => match u with | (t1, t2, t3, t4, t5, t6, t7, t8, t9, s1, s2, s3, s4, s5, u1, u2, u3, u4, u5, u6, u7, u8, u9, w1, w2, w3, w4, w5, w6) => ∃ f : Nat, wX_run_10 post f 0 t1 t2 t3 t4 t5 t6 t7 t8 t9 s1 s2 s3 s4 s5 u1 u2 u3 u4 u5 u6 u7 u8 u9 w1 w2 w3 w4 w5 w6) (nI n) (nI k) 1 mv (nI m) mc sv (nI v) ic pa oc ss tk tn q (nI j) o d a b ld re be bo cl co ne fe ip c ou) (fun j c => ∀ w, w < j → c w = (fun _ => 0) w) 12 0 ce (Nat.zero_le 12) (fun w hw => absurd hw (Nat.not_lt_zero w)) ?_ ?_
  · intro q c Q
    exact br_t (Int32.le_refl _) (T m v hM.1 hv mv mc sv ld re be bo cl co ne fe c h Q)
  · intro q j c hj Q ih
    have e : (nI j).toNatClampNeg = j := nI_clamp (by omega)
    refine br_f (nI_ge (b := 12) hj (by decide)) ⟨vp_in_nI hj (by decide), ?_⟩
    rw [e]
    exact nm_e (nm_r (nI_1 j) (ih _ (up_lt Q rfl)))
theorem rr_Y (hn : n ≤ 20) (ok : sp_ok o d a b n) (hk : k ≤ 4) (hs : kn = 0 ∨ (kn = 1 ∧ yk_ok o d a b n yb yc yo)) (hp : pl = 0 ∨ (pl = 1 ∧ yp_ok o d a b n k me sa ys)) {post : Int32 → SY → Prop} (T : ∀ me sa fw yb yw yc yo ys yt yl yp, yk_ok o d a b n yb yc yo → yp_ok o d a b n k me sa ys → (∀ j, j < 8 → yl j = 0) → (∀ j, j < 4 → yp j = 0) → ∃ f, wY_run_47 post f 0 (nI n) (nI k) 1 1 me sa wa fw o d a b yb yw yc yo ys yt ip ou yl yp) : wpY_run post (nI n, nI k, kn, pl, me, sa, wa, fw, o, d, a, b, yb, yw, yc, yo, ys, yt, ip, ou, yl, yp) := by
  unfold wpY_run
  dsimp only
  refine ya_alloc hn ok hk hs hp (fun me sa fw yb yw yc yo ys yt hY hP => ?_)
  refine pk_loop (fun q j (c : Nat → Int32) => wY_run_6 post (nI n) (nI k) 1 1 me sa wa fw q (nI j) o d a b yb yw yc yo ys yt ip ou c yp) (fun j c => ∀ w, w < j → c w = (fun _ => 0) w) 8 0 yl (Nat.zero_le 8) (fun w hw => absurd hw (Nat.not_lt_zero w)) ?_ ?_
  · intro q c Q
    refine br_t (Int32.le_refl _) ?_
    refine pk_loop (fun q j (s : Nat → Int32) => wY_run_27 post (nI n) (nI k) 1 1 me sa wa fw q (nI j) o d a b yb yw yc yo ys yt ip ou c s) (fun j s => ∀ w, w < j → s w = (fun _ => 0) w) 4 0 yp (Nat.zero_le 4) (fun w hw => absurd hw (Nat.not_lt_zero w)) ?_ ?_
    · intro q s R
      exact br_t (Int32.le_refl _) (T _ _ _ _ _ _ _ _ _ c s hY hP Q R)
    · intro q j s hj R ih
      have e : (nI j).toNatClampNeg = j := nI_clamp (by omega)
      refine br_f (nI_ge (b := 4) hj (by decide)) ⟨vp_in_nI hj (by decide), ?_⟩
      rw [e]
      exact nm_e (nm_r (nI_1 j) (ih _ (up_lt R rfl)))
  · intro q j c hj Q ih
    have e : (nI j).toNatClampNeg = j := nI_clamp (by omega)
    refine br_f (nI_ge (b := 8) hj (by decide)) ⟨vp_in_nI hj (by decide), ?_⟩
    rw [e]
    exact nm_e (nm_r (nI_1 j) (ih _ (up_lt Q rfl)))
end
theorem i_vc_run {k : Nat} {u : SX} {v : SY} (I : i_Rel k u v) (hk : k + 5 ≤ 2560) : wpX_run (fun r u' => wpY_run (fun r' v' => r' = r ∧ i_Rel (k + 5) u' v') v) u := by
  obtain ⟨n, k, w, st, mv, ms, mc, sv, ch, pa, oc, ss, tk, tn, kn, pl, me, sa, fw, o, d, a, b, ld, re, be, bo, cl, co, ne, fe, ip, ce, ou, yb, yw, yc, yo, ys, yt, yl, yp, rfl, rfl, hn, hk, hw, ok, hx, hy, hp, hc⟩ := I
  refine rr_X hn ok hk.2 hx (fun m v hm hv mv mc sv ld re be bo cl co ne fe ce hX hz => ?_)
  have V : gc_vd (sp_K o d a b n) (fun t => m.testBit t) k (xd_g v) := by
    obtain ⟨_, _, _, _, _, _, m', e1, hM, _, v', hv', e3, hB, _⟩ := hX
    have b1 := hM.1
    rw [nI_eq (by omega) (by omega)] at e1 e3
    subst e1
    subst e3
    exact hB.1
  obtain ⟨rr, pa2, oc2, ss2, tk2, tn2, ce2, ou2, HX, HY⟩ := rl_run (st := 1) (mv := mv) (mc := mc) (sv := sv) (ld := ld) (re := re) (be := be) (bo := bo) (cl := cl) (co := co) (ne := ne) (fe := fe) (ip := ip) hn ok hk.2 hv hm V hw 200 0 0 0 0 0 ce ou (fun _ => 0) rfl (by decide) (by decide) (by decide) (fun _ t ht _ => hz _ (rn_cell_lt ht))
  refine HX _ (rr_Y hn ok hk.2 hy hp (fun me sa fw yb yw yc yo ys yt yl yp hY hP hl hs => ⟨201, ?_⟩))
  obtain ⟨_, _, _, tp, _⟩ := xy_eq2 hm hv ok hX hP
  have K := HY 1 1 me sa fw yb yw yc yo ys yt yl yp tp hl (hs 0 (by decide)) (hs 1 (by decide)) (hs 2 (by decide)) (hs 3 (by decide)) (fun r' v' => r' = rr ∧ i_Rel (k + 5) ((nI n, nI k, 1, mv, nI m, mc, sv, nI v, nI w, pa2, oc2, ss2, tk2, tn2, o, d, a, b, ld, re, be, bo, cl, co, ne, fe, ip, ce2, ou2)) v') (fun yl3 yq g0 g1 g2 g3 => ⟨rfl, rl_mk hn hk hw ok (Or.inr ⟨rfl, hX⟩) (Or.inr ⟨rfl, hY⟩) (Or.inr ⟨rfl, hP⟩) ⟨g0.symm, g1.symm, g2.symm, g3.symm⟩⟩) 201 (by decide)
  have e0 : nI (if 0 < n then 0 else n) = 0 := by
    by_cases c : 0 < n
    · rw [if_pos c]
      rfl
    · rw [if_neg c, show n = 0 by omega]
      rfl
  rw [e0] at K
  exact K
end
