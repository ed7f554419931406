section
variable {n k : Nat} {kn pl me sa wa fw : Int32} {o d a b yb yw yc yo ys yt ip ou yl yp : Nat → Int32}
theorem yn_first {s r : Nat} {D : (Nat → Nat) → Prop} (hr : r ≤ 8) (I : cl_inv yc (sp_C o d a b n)) {post : Int32 → SY → Prop}
    (h1 : ∀ c tr, gc_vd (sp_K o d a b n) (fun t => s.testBit t) r c → yn_P (sp_K o d a b n) (fun t => s.testBit t) r D c 8 0 → tp_is s c 8 tr → post 1 (nI n, nI k, kn, pl, me, sa, wa, 1, o, d, a, b, yb, yw, yc, yo, ys, tr, ip, ou, yl, yp))
    (h0 : ∀ tr, (∀ x, gc_vd (sp_K o d a b n) (fun t => s.testBit t) r x → D x) → post 0 (nI n, nI k, kn, pl, me, sa, wa, 0, o, d, a, b, yb, yw, yc, yo, ys, tr, ip, ou, yl, yp)) : wpY_next post (nI n, nI k, kn, pl, me, sa, wa, 1, o, d, a, b, yb, yw, yc, yo, ys, yt, ip, ou, yl, yp) (nI s) (nI r) 1 := by
  refine br_f (by decide) ?_
  refine pk_loop (fun m u (tr : Nat → Int32) => wY_next_11 post (nI s) (nI r) (nI n) (nI k) kn pl me sa wa 1 m (nI u) o d a b yb yw yc yo ys tr ip ou yl yp) (fun u tr => ∀ w, w < u → tr w = tv s (fun _ => 0) 0 w) 8 0 yt (Nat.zero_le 8) (fun w hw => absurd hw (Nat.not_lt_zero w)) ?_ ?_
  · intro m tr J
    refine br_t (Int32.le_refl _) ?_
    exact yn_loop (fst := true) (c0 := fun _ => 0) hr I (fun c tr a b _ e => h1 c tr a b e) h0 (0, true, (fun _ => 0), tr) (ys_fI (Nat.zero_le 8) J (fun u hu => absurd hu (Nat.not_lt_zero u)) (fun x _ hx => absurd hx (fun y => y.elim lx_h0 (fun z => absurd z.2 (Nat.not_lt_zero _)))) (Or.inl rfl))
  · intro m u tr hu J ih
    have e : (nI u).toNatClampNeg = u := nI_clamp (by omega)
    have v : vp_in (nI u) 8 := vp_in_nI hu (by decide)
    refine br_f (nI_ge (b := 8) hu (by decide)) ?_
    rw [e]
    refine ek_if (cx_has _ (by omega)) (fun z => ⟨v, nm_e (nm_r (nI_1 u) (ih _ (up_lt J ?_)))⟩) (fun z => ⟨v, nm_e (nm_r (nI_1 u) (ih _ (up_lt J ?_)))⟩)
    · rw [cx_bn _ (by omega)] at z
      exact (tv_m z).symm
    · rw [cx_bn _ (by omega)] at z
      exact (tv_e (by simpa using z) (Nat.not_lt_zero u)).symm
theorem yn_more {s r : Nat} {c0 : Nat → Nat} (hr : r ≤ 8) (I : cl_inv yc (sp_C o d a b n)) (V : gc_vd (sp_K o d a b n) (fun t => s.testBit t) r c0) (tp : tp_is s c0 8 yt) {x : Int32} {post : Int32 → SY → Prop}
    (h1 : ∀ c tr, gc_vd (sp_K o d a b n) (fun t => s.testBit t) r c → (∀ x, gc_vd (sp_K o d a b n) (fun t => s.testBit t) r x → lx_hd c x 8 → (lx_hd c0 x 8 ∨ lx_eq c0 x 8)) → lx_hd c c0 8 → tp_is s c 8 tr → post 1 (nI n, nI k, kn, pl, me, sa, wa, 1, o, d, a, b, yb, yw, yc, yo, ys, tr, ip, ou, yl, yp))
    (h0 : ∀ tr, (∀ x, gc_vd (sp_K o d a b n) (fun t => s.testBit t) r x → (lx_hd c0 x 8 ∨ lx_eq c0 x 8)) → post 0 (nI n, nI k, kn, pl, me, sa, wa, 0, o, d, a, b, yb, yw, yc, yo, ys, tr, ip, ou, yl, yp)) : wpY_next post (nI n, nI k, kn, pl, me, sa, wa, 0, o, d, a, b, yb, yw, yc, yo, ys, yt, ip, ou, yl, yp) x (nI r) 0 := by
  refine br_t rfl ?_
  have e7 : nI 8 - 1 = 7 := by decide
  have K : ∃ q, wY_next_50 post (nI r) (nI n) (nI k) kn pl me sa wa q (nI 8 - 1) 0 o d a b yb yw yc yo ys yt ip ou yl yp := yn_loop (fst := false) (c0 := c0) (D := fun x => lx_hd c0 x 8 ∨ lx_eq c0 x 8) hr I (fun c tr a b e f => h1 c tr a (fun x hx g => b x hx (Or.inl g)) (e.resolve_left (by decide)) f) h0 (8, false, c0, yt) (ys_bI (Nat.le_refl 8) tp V (fun x _ hx => hx) (Or.inr (Or.inr (fun _ _ => rfl))))
  rw [e7] at K
  exact K
theorem yn_poss {s r : Nat} (hr : r ≤ 8) (I : cl_inv yc (sp_C o d a b n)) {post : Int32 → SY → Prop} (h1 : ∀ fw yt, sp_F o d a b n r s → post 1 (nI n, nI k, kn, pl, me, sa, wa, fw, o, d, a, b, yb, yw, yc, yo, ys, yt, ip, ou, yl, yp)) (h0 : ∀ fw yt, ¬ sp_F o d a b n r s → post 0 (nI n, nI k, kn, pl, me, sa, wa, fw, o, d, a, b, yb, yw, yc, yo, ys, yt, ip, ou, yl, yp)) : wpY_possible post (nI n, nI k, kn, pl, me, sa, wa, fw, o, d, a, b, yb, yw, yc, yo, ys, yt, ip, ou, yl, yp) (nI s) (nI r) := by
  unfold wpY_possible
  dsimp only
  exact yn_first (D := fun _ => False) hr I (fun c tr V _ _ => ⟨rfl, h1 _ _ (sp_F_vd.mpr ⟨c, V⟩)⟩) (fun tr N => ⟨rfl, h0 _ _ (fun z => by obtain ⟨c, V⟩ := sp_F_vd.mp z; exact N c V)⟩)
theorem yn_least {N : Nat} (hN : N ≤ 8) (I : cl_inv yc (sp_C o d a b n)) (h : ∀ r, sp_F o d a b n r 0 ↔ N ≤ r) {post : Int32 → SY → Prop} (hp : ∀ fw yt, post (nI N) (nI n, nI k, kn, pl, me, sa, wa, fw, o, d, a, b, yb, yw, yc, yo, ys, yt, ip, ou, yl, yp)) : ∃ m, wY_least_6 post m 1 (nI n) (nI k) kn pl me sa wa fw o d a b yb yw yc yo ys yt ip ou yl yp := by
  have N1 : 1 ≤ N := by
    rcases Nat.eq_zero_or_pos N with z | z
    · obtain ⟨c, hc⟩ := (h 0).mpr (by omega)
      exact absurd (hc 0 (by decide) (by decide)).1 (Nat.not_lt_zero _)
    · exact z
  refine pk_loop (fun m r (q : Int32 × (Nat → Int32)) => wY_least_6 post m (nI r) (nI n) (nI k) kn pl me sa wa q.1 o d a b yb yw yc yo ys q.2 ip ou yl yp) (fun _ _ => True) N 1 (fw, yt) N1 trivial ?_ ?_
  · intro m q _
    rw [wY_least_6]
    exact yn_poss (s := 0) hN I (fun fw yt _ => br_f (by decide) (hp fw yt)) (fun fw yt z => absurd ((h N).mpr (Nat.le_refl N)) z)
  · intro m r q hr _ ih
    rw [wY_least_6]
    exact yn_poss (s := 0) (by omega) I (fun fw yt z => absurd ((h r).mp z) (by omega)) (fun fw yt _ => br_t rfl (nm_r (nI_1 r) (ih (fw, yt) trivial)))
theorem ya_sum {s : Nat} (hc : ∀ t, t < 8 → yo t = sp_cost o d a b n t) {post : Int32 → Prop} (h : post (sp_sum o d a b n s)) : wpY_sum post (nI n, nI k, kn, pl, me, sa, wa, fw, o, d, a, b, yb, yw, yc, yo, ys, yt, ip, ou, yl, yp) (nI s) := by
  refine pk_loop (fun m t (x : Int32) => wY_sum_4 post (nI s) (nI n) (nI k) kn pl me sa wa fw o d a b yb yw yc yo ys yt ip ou yl yp m x (nI t)) (fun t x => x = sp_sm o d a b n s t) 8 0 0 (Nat.zero_le 8) rfl ?_ ?_
  · intro m x J
    refine br_t (Int32.le_refl _) ?_
    rw [J]
    exact h
  · intro m t x ht J ih
    have e : (nI t).toNatClampNeg = t := nI_clamp (by omega)
    refine br_f (nI_ge (b := 8) ht (by decide)) (ek_if (cx_has _ (by omega)) (fun y => ⟨vp_in_nI ht (by decide), ?_⟩) (fun y => nm_r (nI_1 t) (ih _ ?_)))
    · rw [e]
      rw [cx_bn _ (by omega)] at y
      refine nm_e (nm_r (nI_1 t) (ih _ ?_))
      rw [sp_sm, if_pos y, J, hc t ht]
    · rw [cx_bn _ (by omega)] at y
      rw [sp_sm, if_neg y]
      exact J
theorem ya_same {s p q : Nat} {c : Nat → Nat} {tr : Nat → Int32} (hp : p < 8) (hq : q < 8) (c8 : ∀ t, t < 8 → c t ≤ 8) (tp : tp_is s c 8 tr) : (tr p = tr q ∧ ¬ tr p = -2) ↔ ((!s.testBit p && !s.testBit q) && decide (c p = c q)) = true := by
  have a1 := c8 p hp
  have a2 := c8 q hq
  rw [tp p hp, tp q hq]
  cases w1 : s.testBit p
  · cases w2 : s.testBit q
    · rw [tv_d w1 hp, tv_d w2 hq, nI_eq (by omega) (by omega)]
      simp only [Bool.not_false, Bool.true_and, decide_eq_true_eq]
      exact ⟨fun z => z.1, fun z => ⟨z, tp_neg (by omega)⟩⟩
    · rw [tv_d w1 hp, tv_m w2]
      simp only [Bool.not_true, Bool.and_false, Bool.false_and]
      exact ⟨fun z => absurd z.1 z.2, fun z => absurd z (by decide)⟩
  · rw [tv_m w1]
    simp only [Bool.not_true, Bool.false_and]
    exact ⟨fun z => absurd trivial z.2, fun z => absurd z (by decide)⟩
theorem ya_saved_trial {i m : Nat} {c : Nat → Nat} (hn : n ≤ 20) (ok : sp_ok o d a b n) (hi : i < n) (c8 : ∀ t, t < 8 → c t ≤ 8) (tp : tp_is m c 8 yt) {post : Int32 → Prop} (T : sp_sv1 o d a (fun t => m.testBit t) c i = true → post 1) (F : ¬ sp_sv1 o d a (fun t => m.testBit t) c i = true → post 0) : wpY_isSaved__trial post (nI n, nI k, kn, pl, me, sa, wa, fw, o, d, a, b, yb, yw, yc, yo, ys, yt, ip, ou, yl, yp) (nI i) := by
  have e : (nI i).toNatClampNeg = i := nI_clamp (by omega)
  have w : vp_in (nI i) 20 := vp_in_nI (by omega) (by decide)
  unfold wpY_isSaved__trial
  dsimp only
  rw [e]
  unfold sp_sv1 at T F
  dsimp only at T F
  by_cases h5 : o i = 5
  · obtain ⟨_, k2, k3, _⟩ := ok i hi
    obtain ⟨p, hp, e2⟩ := k2 (by rw [h5]; decide)
    obtain ⟨q, hq, e3⟩ := k3 (by rw [h5]; decide)
    have v1 : vp_in (nI p) 8 := vp_in_nI hp (by decide)
    have v2 : vp_in (nI q) 8 := vp_in_nI hq (by decide)
    rw [e2, e3, nI_clamp (by omega), nI_clamp (by omega), decide_eq_true h5, Bool.true_and, Bool.or_eq_true, decide_eq_true_eq, ← ya_same hp hq c8 tp] at T F
    rw [e2, e3, nI_clamp (by omega), nI_clamp (by omega)]
    refine ⟨w, br_t h5 ⟨w, w, br_c (fun z => T (Or.inl z)) (fun z => ⟨w, v1, w, v2, br_c (fun y => ⟨w, v1, br_c (fun x => F (fun g => g.elim z (fun g => g.2 x))) (fun x => T (Or.inr ⟨y, x⟩))⟩) (fun y => F (fun g => g.elim z (fun g => y g.1)))⟩)⟩⟩
  · exact ⟨w, br_f h5 (F (by rw [decide_eq_false h5]; simp))⟩
theorem ya_saved_best {i m : Nat} {c : Nat → Nat} (hn : n ≤ 20) (ok : sp_ok o d a b n) (hi : i < n) (c8 : ∀ t, t < 8 → c t ≤ 8) (tp : tp_is m c 8 ys) {post : Int32 → Prop} (T : sp_sv1 o d a (fun t => m.testBit t) c i = true → post 1) (F : ¬ sp_sv1 o d a (fun t => m.testBit t) c i = true → post 0) : wpY_isSaved__best post (nI n, nI k, kn, pl, me, sa, wa, fw, o, d, a, b, yb, yw, yc, yo, ys, yt, ip, ou, yl, yp) (nI i) := by
  have e : (nI i).toNatClampNeg = i := nI_clamp (by omega)
  have w : vp_in (nI i) 20 := vp_in_nI (by omega) (by decide)
  unfold wpY_isSaved__best
  dsimp only
  rw [e]
  unfold sp_sv1 at T F
  dsimp only at T F
  by_cases h5 : o i = 5
  · obtain ⟨_, k2, k3, _⟩ := ok i hi
    obtain ⟨p, hp, e2⟩ := k2 (by rw [h5]; decide)
    obtain ⟨q, hq, e3⟩ := k3 (by rw [h5]; decide)
    have v1 : vp_in (nI p) 8 := vp_in_nI hp (by decide)
    have v2 : vp_in (nI q) 8 := vp_in_nI hq (by decide)
    rw [e2, e3, nI_clamp (by omega), nI_clamp (by omega), decide_eq_true h5, Bool.true_and, Bool.or_eq_true, decide_eq_true_eq, ← ya_same hp hq c8 tp] at T F
    rw [e2, e3, nI_clamp (by omega), nI_clamp (by omega)]
    refine ⟨w, br_t h5 ⟨w, w, br_c (fun z => T (Or.inl z)) (fun z => ⟨w, v1, w, v2, br_c (fun y => ⟨w, v1, br_c (fun x => F (fun g => g.elim z (fun g => g.2 x))) (fun x => T (Or.inr ⟨y, x⟩))⟩) (fun y => F (fun g => g.elim z (fun g => y g.1)))⟩)⟩⟩
  · exact ⟨w, br_f h5 (F (by rw [decide_eq_false h5]; simp))⟩
theorem ya_copy {m : Nat} {c : Nat → Nat} (tp : tp_is m c 8 yt) {post : SY → Prop} {J : Int32 → Int32 → Int32 → Int32 → Int32 → Int32 → Int32 → Int32 → Int32 → (Nat → Int32) → (Nat → Int32) → (Nat → Int32) → (Nat → Int32) → (Nat → Int32) → (Nat → Int32) → (Nat → Int32) → (Nat → Int32) → (Nat → Int32) → (Nat → Int32) → (Nat → Int32) → (Nat → Int32) → (Nat → Int32) → (Nat → Int32) → Prop} (h : ∀ bs, tp_is m c 8 bs → wY_allocate_186 post J (nI n) (nI k) kn pl me sa wa fw o d a b yb yw yc yo bs yt ip ou yl yp) : ∃ q, wY_allocate_159 post J (nI n) (nI k) kn pl me sa wa fw q 0 o d a b yb yw yc yo ys yt ip ou yl yp := by
  refine pk_loop (fun q t (bs : Nat → Int32) => wY_allocate_159 post J (nI n) (nI k) kn pl me sa wa fw q (nI t) o d a b yb yw yc yo bs yt ip ou yl yp) (fun t bs => ∀ w, w < t → bs w = tv m c 8 w) 8 0 ys (Nat.zero_le 8) (fun w hw => absurd hw (Nat.not_lt_zero w)) ?_ ?_
  · intro q bs Q
    exact br_t (Int32.le_refl _) (h bs Q)
  · intro q t bs ht Q ih
    have e : (nI t).toNatClampNeg = t := nI_clamp (by omega)
    have v : vp_in (nI t) 8 := vp_in_nI ht (by decide)
    refine br_f (nI_ge (b := 8) ht (by decide)) ⟨v, v, ?_⟩
    rw [e]
    exact nm_e (nm_r (nI_1 t) (ih _ (up_lt Q (tp t ht))))
theorem ya_count {m : Nat} {c : Nat → Nat} (hn : n ≤ 20) (ok : sp_ok o d a b n) (c8 : ∀ t, t < 8 → c t ≤ 8) (tp : tp_is m c 8 yt) {post : SY → Prop} {J : Int32 → Int32 → Int32 → Int32 → Int32 → Int32 → Int32 → Int32 → Int32 → (Nat → Int32) → (Nat → Int32) → (Nat → Int32) → (Nat → Int32) → (Nat → Int32) → (Nat → Int32) → (Nat → Int32) → (Nat → Int32) → (Nat → Int32) → (Nat → Int32) → (Nat → Int32) → (Nat → Int32) → (Nat → Int32) → (Nat → Int32) → Prop} (A : nI (sp_sv o d a n (fun t => m.testBit t) c) ≤ sa → wY_allocate_186 post J (nI n) (nI k) kn pl me sa wa fw o d a b yb yw yc yo ys yt ip ou yl yp) (B : ¬ nI (sp_sv o d a n (fun t => m.testBit t) c) ≤ sa → ∀ bs, tp_is m c 8 bs → wY_allocate_186 post J (nI n) (nI k) kn pl me (nI (sp_sv o d a n (fun t => m.testBit t) c)) wa fw o d a b yb yw yc yo bs yt ip ou yl yp) : ∃ q, wY_allocate_112 post J (nI n) (nI k) kn pl me sa wa fw o d a b yb yw yc yo ys yt ip ou yl yp q 0 0 := by
  refine pk_loop (fun q i (x : Int32) => wY_allocate_112 post J (nI n) (nI k) kn pl me sa wa fw o d a b yb yw yc yo ys yt ip ou yl yp q x (nI i)) (fun i x => x = nI (pu_cnt (sp_sv1 o d a (fun t => m.testBit t) c) i)) n 0 0 (Nat.zero_le n) rfl ?_ ?_
  · intro q x Q
    refine br_t (Int32.le_refl _) ?_
    rw [Q]
    exact br_c A (fun z => ya_copy tp (B z))
  · intro q i x hi Q ih
    refine br_f (nI_ge hi (by omega)) (ya_saved_trial hn ok hi c8 tp (fun z => br_f (by decide) (nm_r (by rw [Q, nI_1]) (nm_r (nI_1 i) (ih _ ?_)))) (fun z => br_t rfl (nm_r (nI_1 i) (ih _ ?_))))
    · rw [pu_cnt, if_pos z]
    · rw [pu_cnt, if_neg z]
      exact Q
/-- what lies ahead of c, or all of it, has been seen -/
def ya_seen (V : (Nat → Nat) → Prop) (S : (Nat → Nat) → Nat) (m : Nat) (E : (Nat → Nat) → Prop) (sa : Int32) (bs : Nat → Int32) : Prop :=
  (sa = -1 ∧ ∀ x, V x → ¬ E x) ∨ (∃ c, V c ∧ sa = nI (S c) ∧ tp_is m c 8 bs ∧ (∀ x, V x → E x → S x ≤ S c) ∧ (∀ x, V x → lx_hd c x 8 → S x < S c))
theorem ya_keep {V : (Nat → Nat) → Prop} {S : (Nat → Nat) → Nat} {m : Nat} {E E' : (Nat → Nat) → Prop} {sa : Int32} {bs : Nat → Int32} {c : Nat → Nat} (hS : ∀ c, S c ≤ 20) (hc : ∀ x, V x → E' x → E x ∨ S x = S c) (I : ya_seen V S m E sa bs) (h : nI (S c) ≤ sa) : ya_seen V S m E' sa bs := by
  rcases I with ⟨a, b⟩ | ⟨x, x1, x2, x3, x4, x5⟩
  · rw [a] at h
    have z := nI_pos' (n := S c) (by have := hS c; omega)
    exact absurd (Int32.le_trans z h) (by decide)
  · rw [x2, nI_leI (by have := hS c; omega) (by have := hS x; omega)] at h
    refine Or.inr ⟨x, x1, x2, x3, fun y hy e => ?_, x5⟩
    rcases hc y hy e with g | g
    · exact x4 y hy g
    · rw [g]
      exact h
theorem ya_take {V : (Nat → Nat) → Prop} {S : (Nat → Nat) → Nat} {m : Nat} {E' : (Nat → Nat) → Prop} {sa : Int32} {bs bs' : Nat → Int32} {c : Nat → Nat} (hS : ∀ c, S c ≤ 20) (hV : V c) (hc : ∀ x, V x → E' x → lx_hd c x 8 ∨ S x = S c) (tp : tp_is m c 8 bs') (I : ya_seen V S m (fun x => lx_hd c x 8) sa bs) (h : ¬ nI (S c) ≤ sa) : ya_seen V S m E' (nI (S c)) bs' := by
  have K : ∀ y, V y → lx_hd c y 8 → S y < S c := by
    intro y hy e
    rcases I with ⟨a, b⟩ | ⟨x, x1, x2, x3, x4, x5⟩
    · exact absurd e (b y hy)
    · rw [x2, nI_leI (by have := hS c; omega) (by have := hS x; omega)] at h
      have := x4 y hy e
      omega
  refine Or.inr ⟨c, hV, rfl, tp, fun y hy e => ?_, K⟩
  rcases hc y hy e with g | g
  · exact Nat.le_of_lt (K y hy g)
  · rw [g]
    exact Nat.le_refl _
theorem ya_end {m : Nat} (hF : sp_F o d a b n k m) {sa : Int32} {bs : Nat → Int32} {E : (Nat → Nat) → Prop} (hE : ∀ x, gc_vd (sp_K o d a b n) (fun t => m.testBit t) k x → E x) (I : ya_seen (gc_vd (sp_K o d a b n) (fun t => m.testBit t) k) (sp_sv o d a n (fun t => m.testBit t)) m E sa bs) : ∃ c, sp_B o d a b n k m c ∧ tp_is m c 8 bs ∧ sa = nI (sp_sv o d a n (fun t => m.testBit t) c) := by
  rcases I with ⟨_, b⟩ | ⟨x, x1, x2, x3, x4, x5⟩
  · obtain ⟨c, V⟩ := sp_F_vd.mp hF
    exact absurd (hE c V) (b c V)
  · exact ⟨x, ⟨x1, fun y hy => x4 y hy (hE y hy), x5⟩, x3, x2⟩
/-- Y's choice, once placed -/
def yp_ok (o d a b : Nat → Int32) (n k : Nat) (me sa : Int32) (ys : Nat → Int32) : Prop :=
  ∃ m, me = nI m ∧ sp_M o d a b n k m ∧ ∃ c, sp_B o d a b n k m c ∧ tp_is m c 8 ys ∧ sa = nI (sp_sv o d a n (fun t => m.testBit t) c)
theorem ya_103 {m : Nat} (hn : n ≤ 20) (ok : sp_ok o d a b n) (hk : k ≤ 4) (I : cl_inv yc (sp_C o d a b n)) (hM : sp_M o d a b n k m) {post : SY → Prop} (h : ∀ sa fw ys yt, yp_ok o d a b n k (nI m) sa ys → post (nI n, nI k, kn, pl, nI m, sa, wa, fw, o, d, a, b, yb, yw, yc, yo, ys, yt, ip, ou, yl, yp)) {c : Nat → Nat} (V : gc_vd (sp_K o d a b n) (fun t => m.testBit t) k c) (tp : tp_is m c 8 yt) (S : ya_seen (gc_vd (sp_K o d a b n) (fun t => m.testBit t) k) (sp_sv o d a n (fun t => m.testBit t)) m (fun x => lx_hd c x 8) sa ys) : ∃ q, wY_allocate_103 post q 1 (nI n) (nI k) kn pl (nI m) sa wa fw o d a b yb yw yc yo ys yt ip ou yl yp := by
  have m20 : sp_mv o n ≤ 20 := Nat.le_trans (pu_cnt_le _ n) hn
  have S20 : ∀ c, sp_sv o d a n (fun t => m.testBit t) c ≤ 20 := fun c => Nat.le_trans (sp_sv_le o d a n _ c) m20
  have d4 : ∀ c, gc_vd (sp_K o d a b n) (fun t => m.testBit t) k c → ∀ t, t < 8 → c t < 4 := by
    intro c hc t ht
    cases w : m.testBit t
    · exact Nat.lt_of_lt_of_le ((hc t ht).2 w).1 hk
    · rw [(hc t ht).1 w]
      decide
  have up : ∀ c c', gc_vd (sp_K o d a b n) (fun t => m.testBit t) k c → gc_vd (sp_K o d a b n) (fun t => m.testBit t) k c' → lx_hd c' c 8 → 65537 - xd_of c' < 65537 - xd_of c := by
    intro c c' hc hc' l
    have := xd_lx (xd_of_lt (d4 c hc)) (lx_cong (xd_of_g (d4 c' hc')) (xd_of_g (d4 c hc)) l)
    have := xd_of_lt (d4 c' hc')
    omega
  refine loop_m (fun q (s : Bool × (Nat → Nat) × Int32 × Int32 × (Nat → Int32) × (Nat → Int32)) => wY_allocate_103 post q (if s.1 = true then 1 else 0) (nI n) (nI k) kn pl (nI m) s.2.2.1 wa s.2.2.2.1 o d a b yb yw yc yo s.2.2.2.2.1 s.2.2.2.2.2 ip ou yl yp) (fun s => (s.1 = true → gc_vd (sp_K o d a b n) (fun t => m.testBit t) k s.2.1 ∧ tp_is m s.2.1 8 s.2.2.2.2.2 ∧ ya_seen (gc_vd (sp_K o d a b n) (fun t => m.testBit t) k) (sp_sv o d a n (fun t => m.testBit t)) m (fun x => lx_hd s.2.1 x 8) s.2.2.1 s.2.2.2.2.1) ∧ (s.1 = false → yp_ok o d a b n k (nI m) s.2.2.1 s.2.2.2.2.1)) (fun s => if s.1 = true then 65537 - xd_of s.2.1 else 0) ?_ (true, c, sa, fw, ys, yt) ⟨fun _ => ⟨V, tp, S⟩, fun z => Bool.noConfusion z⟩
  intro q s Q ih
  obtain ⟨fl, c, sa, fw, ys, yt⟩ := s
  obtain ⟨Q1, Q2⟩ := Q
  dsimp only at Q1 Q2 ih ⊢
  cases fl
  · exact br_t rfl (h _ _ _ _ (Q2 rfl))
  · obtain ⟨V, tp, S⟩ := Q1 rfl
    have cx := xd_of_lt (d4 c V)
    rw [if_pos rfl]
    have G : ∀ sa' ys', (∀ E' : (Nat → Nat) → Prop, (∀ x, gc_vd (sp_K o d a b n) (fun t => m.testBit t) k x → E' x → lx_hd c x 8 ∨ sp_sv o d a n (fun t => m.testBit t) x = sp_sv o d a n (fun t => m.testBit t) c) → ya_seen (gc_vd (sp_K o d a b n) (fun t => m.testBit t) k) (sp_sv o d a n (fun t => m.testBit t)) m E' sa' ys') → wY_allocate_186 post (wY_allocate_103 post q) (nI n) (nI k) kn pl (nI m) sa' wa fw o d a b yb yw yc yo ys' yt ip ou yl yp := by
      intro sa' ys' H
      have eqS : ∀ x, lx_eq c x 8 → sp_sv o d a n (fun t => m.testBit t) x = sp_sv o d a n (fun t => m.testBit t) c := fun x e => sp_sv_c ok e
      unfold wY_allocate_186
      refine yn_more (s := m) (r := k) (c0 := c) (by omega) I V tp (fun c' tr V' B L tp' => ?_) (fun tr A => ?_)
      · refine ih (true, c', sa', 1, ys', tr) ⟨fun _ => ⟨V', tp', H _ (fun x hx g => ?_)⟩, fun z => Bool.noConfusion z⟩ ?_
        · rcases B x hx g with w | w
          · exact Or.inl w
          · exact Or.inr (eqS x w)
        · exact up c c' V V' L
      · refine ih (false, c, sa', 0, ys', tr) ⟨fun z => Bool.noConfusion z, fun _ => ?_⟩ ?_
        · obtain ⟨b, b1, b2, b3⟩ := ya_end hM.2.1 A (H _ (fun x hx g => g.elim Or.inl (fun w => Or.inr (eqS x w))))
          exact ⟨m, rfl, hM, b, b1, b2, b3⟩
        · show 0 < 65537 - xd_of c
          omega
    refine br_f (by decide) (ya_count hn ok (fun t ht => by have := d4 c V t ht; omega) tp (fun z => ?_) (fun z bs tpb => ?_))
    · exact G sa ys (fun E' hE => ya_keep S20 hE S z)
    · exact G _ bs (fun E' hE => ya_take S20 V hE tpb S z)
theorem ya_alloc (hn : n ≤ 20) (ok : sp_ok o d a b n) (hk : k ≤ 4) (hs : kn = 0 ∨ (kn = 1 ∧ yk_ok o d a b n yb yc yo)) (hp : pl = 0 ∨ (pl = 1 ∧ yp_ok o d a b n k me sa ys)) {post : SY → Prop} (h : ∀ me sa fw yb yw yc yo ys yt, yk_ok o d a b n yb yc yo → yp_ok o d a b n k me sa ys → post (nI n, nI k, 1, 1, me, sa, wa, fw, o, d, a, b, yb, yw, yc, yo, ys, yt, ip, ou, yl, yp)) : wpY_allocate post (nI n, nI k, kn, pl, me, sa, wa, fw, o, d, a, b, yb, yw, yc, yo, ys, yt, ip, ou, yl, yp) := by
  unfold wpY_allocate
  dsimp only
  refine yk_know hn ok hs (fun yb yw yc yo hy => ?_)
  rcases hp with hp | ⟨hp, hx⟩
  · subst hp
    refine br_t rfl ?_
    refine pk_loop (fun q s (z : Int32 × Int32 × Int32 × (Nat → Int32)) => wY_allocate_26 post q z.1 (nI s) (nI n) (nI k) 1 1 z.2.1 sa wa z.2.2.1 o d a b yb yw yc yo ys z.2.2.2 ip ou yl yp) (fun s z => (z.2.1 = -1 ∧ ∀ q, q < s → ¬ sp_F o d a b n k q) ∨ (∃ m, z.2.1 = nI m ∧ z.1 = sp_sum o d a b n m ∧ am_up (sp_F o d a b n k) (fun s => (sp_sum o d a b n s).toInt) s m)) 256 0 (0, -1, fw, yt) (Nat.zero_le _) (Or.inl ⟨rfl, fun q hq => absurd hq (Nat.not_lt_zero q)⟩) ?_ ?_
    · intro q z Q
      obtain ⟨x, me, fw, yt⟩ := z
      dsimp only at Q ⊢
      refine br_t (Int32.le_refl _) ?_
      rcases Q with ⟨_, Q⟩ | ⟨m, e1, e2, Q⟩
      · exact absurd sp_F_255 (Q 255 (by decide))
      · subst e1
        have hM : sp_M o d a b n k m := am_up_is Q
        refine yn_first (s := m) (r := k) (D := fun _ => False) (by omega) hy.2.1 (fun c tr V P tp => ?_) (fun tr N => ?_)
        · exact ya_103 hn ok hk hy.2.1 hM (fun sa fw ys yt g => h _ _ _ _ _ _ _ _ _ hy g) V tp (Or.inl ⟨rfl, fun x hx g => P x hx (Or.inl g)⟩)
        · obtain ⟨c, V⟩ := sp_F_vd.mp hM.2.1
          exact absurd (N c V) id
    · intro q s z hs Q ih
      obtain ⟨x, me, fw, yt⟩ := z
      dsimp only at Q ih ⊢
      have E51 : (∀ fw yt, sp_F o d a b n k s → wY_allocate_26 post q (sp_sum o d a b n s) (nI (s + 1)) (nI n) (nI k) 1 1 (nI s) sa wa fw o d a b yb yw yc yo ys yt ip ou yl yp) → (∀ fw yt, ¬ sp_F o d a b n k s → wY_allocate_26 post q x (nI (s + 1)) (nI n) (nI k) 1 1 me sa wa fw o d a b yb yw yc yo ys yt ip ou yl yp) → wY_allocate_51 post (wY_allocate_26 post q) x (nI s) (sp_sum o d a b n s) (nI n) (nI k) 1 1 me sa wa fw o d a b yb yw yc yo ys yt ip ou yl yp := by
        intro A B
        unfold wY_allocate_51
        exact yn_poss (by omega) hy.2.1 (fun fw yt z => br_f (by decide) (nm_r (nI_1 s) (A fw yt z))) (fun fw yt z => br_t rfl (nm_r (nI_1 s) (B fw yt z)))
      refine br_f (nI_ge (b := 256) hs (by decide)) (ya_sum hy.2.2 ?_)
      rcases Q with ⟨e1, Q⟩ | ⟨m, e1, e2, Q⟩
      · subst e1
        refine br_t (by decide) (E51 (fun fw yt z => ih (_, _, fw, yt) (Or.inr ⟨s, rfl, rfl, am_up_1 Q z⟩)) (fun fw yt z => ih (_, _, fw, yt) (Or.inl ⟨rfl, fun q hq => ?_⟩)))
        rcases Nat.lt_or_ge q s with g | g
        · exact Q q g
        · have e3 : q = s := by omega
          rw [e3]
          exact z
      · subst e1
        subst e2
        have hm := Q.1
        refine br_f (nI_pos (by omega)) (br_c (fun z => nm_r (nI_1 s) (ih (_, _, fw, yt) (Or.inr ⟨m, rfl, rfl, am_up_n Q (fun _ => Int32.le_iff_toInt_le.mp z)⟩))) (fun z => E51 (fun fw yt g => ih (_, _, fw, yt) (Or.inr ⟨s, rfl, rfl, am_up_y Q g (Int32.lt_iff_toInt_lt.mp (Int32.not_le.mp z))⟩)) (fun fw yt g => ih (_, _, fw, yt) (Or.inr ⟨m, rfl, rfl, am_up_n Q (fun y => absurd y g)⟩))))
  · subst hp
    exact br_f (show ¬ (1 : Int32) = 0 by decide) (h _ _ _ _ _ _ _ _ _ hy hx)
end
