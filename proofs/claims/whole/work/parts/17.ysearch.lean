theorem up_up (f : Nat → Int32) (i : Nat) (x y : Int32) : upd (upd f i x) i y = upd f i y := by
  funext j
  by_cases z : j = i
  · rw [z, pk_us, pk_us]
  · rw [pk_un z, pk_un z, pk_un z]
/-- trial: the first m places are c's, the others are not begun -/
def tv (s : Nat) (c : Nat → Nat) (m u : Nat) : Int32 := if s.testBit u = true then -2 else if u < m then nI (c u) else -1
theorem tv_m {s m u : Nat} {c : Nat → Nat} (w : s.testBit u = true) : tv s c m u = -2 := if_pos w
theorem tv_d {s m u : Nat} {c : Nat → Nat} (w : s.testBit u = false) (h : u < m) : tv s c m u = nI (c u) := (if_neg (by rw [w]; decide)).trans (if_pos h)
theorem tv_e {s m u : Nat} {c : Nat → Nat} (w : s.testBit u = false) (h : ¬ u < m) : tv s c m u = -1 := (if_neg (by rw [w]; decide)).trans (if_neg h)
theorem tv_c {s m m' u : Nat} {c c' : Nat → Nat} (h : s.testBit u = false → ((u < m ↔ u < m') ∧ (u < m → c u = c' u))) : tv s c m u = tv s c' m' u := by
  cases w : s.testBit u
  · obtain ⟨p, q⟩ := h w
    by_cases g : u < m
    · rw [tv_d w g, tv_d w (p.mp g), q g]
    · rw [tv_e w g, tv_e w (fun y => g (p.mpr y))]
  · rw [tv_m w, tv_m w]
def tp_is (s : Nat) (c : Nat → Nat) (m : Nat) (tr : Nat → Int32) : Prop := ∀ u, u < 8 → tr u = tv s c m u
theorem tp_neg {q : Nat} (h : q < 2 ^ 31) : ¬ nI q = -2 := by
  intro z
  have e := nI_pos' h
  rw [z] at e
  exact absurd e (by decide)
section
variable {n k : Nat} {kn pl me sa wa fw : Int32} {o d a b yb yw yc yo ys yt ip ou yl yp : Nat → Int32}
theorem yn_fits {s t y : Nat} {c : Nat → Nat} (ht : t < 8) (I : cl_inv yc (sp_C o d a b n)) (hc : ∀ u, u < t → c u ≤ 8) (hy : y ≤ 8) (e1 : ∀ u, u < t → yt u = tv s c t u) (e2 : yt t = nI y) {post : Int32 → Prop} (T : (∀ u, u < t → s.testBit u = false → sp_K o d a b n t u = true → c u ≠ y) → post 1) (F : ¬ (∀ u, u < t → s.testBit u = false → sp_K o d a b n t u = true → c u ≠ y) → post 0) : wpY_fits post (nI n, nI k, kn, pl, me, sa, wa, fw, o, d, a, b, yb, yw, yc, yo, ys, yt, ip, ou, yl, yp) (nI t) := by
  have et : (nI t).toNatClampNeg = t := nI_clamp (by omega)
  have v : vp_in (nI t) 8 := vp_in_nI ht (by decide)
  refine pk_loop (fun m u (_ : Unit) => wY_fits_2 post (nI t) (nI n) (nI k) kn pl me sa wa fw o d a b yb yw yc yo ys yt ip ou yl yp m (nI u)) (fun u _ => ∀ w, w < u → s.testBit w = false → sp_K o d a b n t w = true → c w ≠ y) t 0 () (Nat.zero_le t) (fun w hw => absurd hw (Nat.not_lt_zero w)) ?_ ?_
  · intro m _ J
    exact br_t (Int32.le_refl _) (T J)
  · intro m u _ hu J ih
    have eu : (nI u).toNatClampNeg = u := nI_clamp (by omega)
    have S : (s.testBit u = false → sp_K o d a b n t u = true → c u ≠ y) → ∀ w, w < u + 1 → s.testBit w = false → sp_K o d a b n t w = true → c w ≠ y := by
      intro g w hw
      rcases Nat.lt_or_ge w u with g2 | g2
      · exact J w g2
      · have e3 : w = u := by omega
        rw [e3]
        exact g
    have cu := hc u hu
    refine br_f (nI_ge hu (by omega)) ⟨vp_in_nI (by omega) (by decide), v, ?_⟩
    rw [et, eu, e1 u hu, e2]
    cases w : s.testBit u
    · rw [tv_d w hu]
      refine br_c (fun z => ⟨v, ek_if (cx_has _ (by omega)) (fun q => F (fun g => ?_)) (fun q => nm_r (nI_1 u) (ih () (S (fun _ g => absurd (by rw [sp_K_b I ht (by omega)]; exact g) q))))⟩) (fun z => nm_r (nI_1 u) (ih () (S (fun _ _ g => z (by rw [g])))))
      rw [sp_K_b I ht (by omega)] at q
      exact g u hu w q ((nI_eq (by omega) (by omega)).mp z)
    · rw [tv_m w]
      exact br_f (fun z => tp_neg (by omega) z.symm) (nm_r (nI_1 u) (ih () (S (fun g => absurd (w.symm.trans g) (by decide)))))
theorem yn_try {s r t y : Nat} {c : Nat → Nat} {D : (Nat → Nat) → Prop} (hr : r ≤ 8) (ht : t < 8) (hM : s.testBit t = false) (I : cl_inv yc (sp_C o d a b n)) (hc : ∀ u, u < t → gc_ft (sp_K o d a b n) (fun t => s.testBit t) r c u) (hy : y ≤ r)
    (e1 : ∀ u, u < 8 → u ≠ t → yt u = tv s c t u)
    (hP : yn_P (sp_K o d a b n) (fun t => s.testBit t) r D c t y)
    {post : Int32 → SY → Prop} {J : Int32 → Int32 → (Nat → Int32) → (Nat → Int32) → (Nat → Int32) → (Nat → Int32) → (Nat → Int32) → (Nat → Int32) → (Nat → Int32) → (Nat → Int32) → (Nat → Int32) → (Nat → Int32) → (Nat → Int32) → (Nat → Int32) → (Nat → Int32) → (Nat → Int32) → Prop}
    (JB : ∀ tr, yn_B (sp_K o d a b n) (fun t => s.testBit t) r D c t → tp_is s c t tr → J (nI t - 1) 0 o d a b yb yw yc yo ys tr ip ou yl yp)
    (JF : ∀ tr x, y ≤ x → x < r → yn_P (sp_K o d a b n) (fun t => s.testBit t) r D (yn_set c t x) (t + 1) 0 → (∀ u, u < t + 1 → gc_ft (sp_K o d a b n) (fun t => s.testBit t) r (yn_set c t x) u) → tp_is s (yn_set c t x) (t + 1) tr → J (nI (t + 1)) 1 o d a b yb yw yc yo ys tr ip ou yl yp) : ∃ m, wY_next_105 post J (nI r) (nI t) (nI n) (nI k) kn pl me sa wa fw m o d a b yb yw yc yo ys (upd yt t (nI y)) ip ou yl yp := by
  have et : (nI t).toNatClampNeg = t := nI_clamp (by omega)
  have v : vp_in (nI t) 8 := vp_in_nI ht (by decide)
  have c8 : ∀ u, u < t → c u ≤ 8 := by
    intro u hu
    cases w : s.testBit u
    · have := ((hc u hu).2 w).1
      omega
    · rw [(hc u hu).1 w]
      omega
  refine pk_loop (fun m y (_ : Unit) => wY_next_105 post J (nI r) (nI t) (nI n) (nI k) kn pl me sa wa fw m o d a b yb yw yc yo ys (upd yt t (nI y)) ip ou yl yp) (fun x _ => y ≤ x ∧ yn_P (sp_K o d a b n) (fun t => s.testBit t) r D c t x) r y () hy ⟨Nat.le_refl y, hP⟩ ?_ ?_
  · intro m _ Q
    refine ⟨v, ?_⟩
    rw [et, pk_us]
    refine br_t (Int32.le_refl _) ⟨v, ?_⟩
    rw [et, pk_us]
    refine br_t (Int32.le_refl _) ⟨rfl, rfl, br_t rfl ⟨v, ?_⟩⟩
    rw [et, up_up]
    refine nm_e (br_t rfl (nm_r (xl_m1 t) (JB _ (yn_back ht hM Q.2) (fun u hu => ?_))))
    by_cases z : u = t
    · rw [z, pk_us, tv_e hM (by omega)]
    · rw [pk_un z]
      exact e1 u hu z
  · intro m x _ hx Q ih
    refine ⟨v, ?_⟩
    rw [et, pk_us]
    refine br_f (nI_ge hx (by omega)) (yn_fits (s := s) (y := x) ht I c8 (by omega) (fun u hu => ?_) pk_us (fun z => br_f (by decide) ⟨v, ?_⟩) (fun z => br_t rfl ⟨v, v, ?_⟩))
    · rw [pk_un (by omega), e1 u (by omega) (by omega)]
    · rw [et, pk_us]
      refine br_f (nI_ge hx (by omega)) ⟨rfl, rfl, br_f (by decide) (br_f (by decide) (nm_r (nI_1 t) (JF _ x Q.1 hx (yn_find Q.2) (yn_vset hc ⟨fun w => absurd (hM.symm.trans w) (by decide), fun _ => ?_⟩) (fun u hu => ?_))))⟩
      · rw [yn_s]
        exact ⟨hx, fun u hu mu ku => by rw [yn_n c x (by omega)]; exact z u hu mu ku⟩
      · by_cases q : u = t
        · rw [q, pk_us, tv_d hM (by omega), yn_s]
        · rw [pk_un q, e1 u hu q]
          exact tv_c (fun _ => ⟨by omega, fun _ => (yn_n c x q).symm⟩)
    · rw [up_up]
      refine nm_r (by rw [nI_1]) (ih () ⟨by omega, yn_miss ht Q.2 (fun g => z (fun u hu mu ku => ?_))⟩)
      have g2 := (g.2 hM).2 u hu mu ku
      rw [yn_s, yn_n c x (by omega)] at g2
      exact g2
/-- where the search stands: p, forward or not, the places, trial -/
def ys_I (K : Nat → Nat → Bool) (s r : Nat) (D : (Nat → Nat) → Prop) (fst : Bool) (c0 : Nat → Nat) (q : Nat × Bool × (Nat → Nat) × (Nat → Int32)) : Prop :=
  q.1 ≤ 8 ∧ tp_is s q.2.2.1 q.1 q.2.2.2 ∧ (∀ u, u < q.1 → gc_ft K (fun t => s.testBit t) r q.2.2.1 u) ∧ (q.2.1 = true → yn_P K (fun t => s.testBit t) r D q.2.2.1 q.1 0 ∧ (fst = true ∨ lx_hd q.2.2.1 c0 q.1)) ∧ (q.2.1 = false → yn_B K (fun t => s.testBit t) r D q.2.2.1 q.1 ∧ (fst = true ∨ (lx_hd q.2.2.1 c0 q.1 ∨ lx_eq q.2.2.1 c0 q.1)))
def ys_e (s : Nat) (c : Nat → Nat) (u : Nat) : Nat := if s.testBit u = true then 8 else 8 - c u
def ys_mu (s : Nat) (q : Nat × Bool × (Nat → Nat) × (Nat → Int32)) : Nat := yn_w (ys_e s q.2.2.1) q.1 + (if q.2.1 = true then 9 * 10 ^ (8 - q.1) else 0)
theorem ys_w (s : Nat) (c : Nat → Nat) (t y : Nat) : yn_w (ys_e s (yn_set c t y)) t = yn_w (ys_e s c) t := by
  apply yn_w_cong
  intro u hu
  unfold ys_e
  rw [yn_n c y (by omega)]
theorem ys_f1 (s : Nat) (c : Nat → Nat) (tr : Nat → Int32) (p : Nat) : ys_mu s (p, true, c, tr) = yn_w (ys_e s c) p + 9 * 10 ^ (8 - p) := rfl
theorem ys_f0 (s : Nat) (c : Nat → Nat) (tr : Nat → Int32) (p : Nat) : ys_mu s (p, false, c, tr) = yn_w (ys_e s c) p := rfl
theorem ys_fI {K : Nat → Nat → Bool} {s r p : Nat} {D : (Nat → Nat) → Prop} {fst : Bool} {c0 c : Nat → Nat} {tr : Nat → Int32} (h1 : p ≤ 8) (h2 : tp_is s c p tr) (h3 : ∀ u, u < p → gc_ft K (fun t => s.testBit t) r c u) (h4 : yn_P K (fun t => s.testBit t) r D c p 0) (h5 : fst = true ∨ lx_hd c c0 p) : ys_I K s r D fst c0 (p, true, c, tr) :=
  ⟨h1, h2, h3, fun _ => ⟨h4, h5⟩, fun z => Bool.noConfusion z⟩
theorem ys_bI {K : Nat → Nat → Bool} {s r p : Nat} {D : (Nat → Nat) → Prop} {fst : Bool} {c0 c : Nat → Nat} {tr : Nat → Int32} (h1 : p ≤ 8) (h2 : tp_is s c p tr) (h3 : ∀ u, u < p → gc_ft K (fun t => s.testBit t) r c u) (h4 : yn_B K (fun t => s.testBit t) r D c p) (h5 : fst = true ∨ (lx_hd c c0 p ∨ lx_eq c c0 p)) : ys_I K s r D fst c0 (p, false, c, tr) :=
  ⟨h1, h2, h3, fun z => Bool.noConfusion z, fun _ => ⟨h4, h5⟩⟩
theorem yn_loop {s r : Nat} {D : (Nat → Nat) → Prop} {fst : Bool} {c0 : Nat → Nat} (hr : r ≤ 8) (I : cl_inv yc (sp_C o d a b n)) {post : Int32 → SY → Prop}
    (h1 : ∀ c tr, gc_vd (sp_K o d a b n) (fun t => s.testBit t) r c → yn_P (sp_K o d a b n) (fun t => s.testBit t) r D c 8 0 → (fst = true ∨ lx_hd c c0 8) → tp_is s c 8 tr → post 1 (nI n, nI k, kn, pl, me, sa, wa, 1, o, d, a, b, yb, yw, yc, yo, ys, tr, ip, ou, yl, yp))
    (h0 : ∀ tr, (∀ x, gc_vd (sp_K o d a b n) (fun t => s.testBit t) r x → D x) → post 0 (nI n, nI k, kn, pl, me, sa, wa, 0, o, d, a, b, yb, yw, yc, yo, ys, tr, ip, ou, yl, yp))
    (q : Nat × Bool × (Nat → Nat) × (Nat → Int32)) (hq : ys_I (sp_K o d a b n) s r D fst c0 q) : ∃ m, wY_next_50 post (nI r) (nI n) (nI k) kn pl me sa wa m (if q.2.1 = true then nI q.1 else nI q.1 - 1) (if q.2.1 = true then 1 else 0) o d a b yb yw yc yo ys q.2.2.2 ip ou yl yp := by
  refine loop_m (fun m (q : Nat × Bool × (Nat → Nat) × (Nat → Int32)) => wY_next_50 post (nI r) (nI n) (nI k) kn pl me sa wa m (if q.2.1 = true then nI q.1 else nI q.1 - 1) (if q.2.1 = true then 1 else 0) o d a b yb yw yc yo ys q.2.2.2 ip ou yl yp) (ys_I (sp_K o d a b n) s r D fst c0) (ys_mu s) ?_ q hq
  intro m q Q ih
  obtain ⟨p, fd, c, tr⟩ := q
  obtain ⟨Q1, Q2, Q3, Q4, Q5⟩ := Q
  dsimp only at Q1 Q2 Q3 Q4 Q5 ⊢
  cases fd
  · obtain ⟨QB, QE⟩ := Q5 rfl
    rw [if_neg (by decide), if_neg (by decide)]
    rcases Nat.eq_zero_or_pos p with z | z
    · subst z
      exact br_t (by decide) (br_f (by decide) (h0 tr (fun x hx => QB x hx (Or.inr (fun u hu => absurd hu (Nat.not_lt_zero u))))))
    · obtain ⟨t, rfl⟩ : ∃ t, p = t + 1 := ⟨p - 1, by omega⟩
      have et : (nI t).toNatClampNeg = t := nI_clamp (by omega)
      have v : vp_in (nI t) 8 := vp_in_nI (by omega) (by decide)
      rw [nI_pred]
      refine br_f (nI_pos (by omega)) (br_f (nI_ge (b := 8) (by omega) (by decide)) ⟨v, ?_⟩)
      rw [et, Q2 t (by omega)]
      cases w : s.testBit t
      · have lt := ((Q3 t (by omega)).2 w).1
        rw [tv_d w (by omega)]
        refine br_f (tp_neg (by omega)) ⟨v, v, ?_⟩
        rw [nI_1]
        refine nm_e (yn_try (s := s) (c := c) (D := D) hr (by omega) w I (fun u hu => Q3 u (by omega)) (by omega) (fun u hu ne => ?_) (yn_next QB) (fun tr' B tp => ?_) (fun tr' x hx hx2 P' V' tp => ?_))
        · rw [Q2 u hu]
          exact tv_c (fun _ => ⟨by omega, fun _ => rfl⟩)
        · refine ih (t, false, c, tr') (ys_bI (by omega) tp (fun u hu => Q3 u (by omega)) B ?_) ?_
          · rcases QE with g | g | g
            · exact Or.inl g
            · rcases lx_hs.mp g with g2 | g2
              · exact Or.inr (Or.inl g2)
              · exact Or.inr (Or.inr g2.1)
            · exact Or.inr (Or.inr (lx_es.mp g).1)
          · rw [ys_f0, ys_f0, yn_w]
            refine yn_bw ?_
            unfold ys_e
            rw [w, if_neg (by decide)]
            omega
        · refine ih (t + 1, true, yn_set c t x, tr') (ys_fI (by omega) tp V' P' ?_) ?_
          · rcases QE with g | g | g
            · exact Or.inl g
            · refine Or.inr (lx_hs.mpr ?_)
              rcases lx_hs.mp g with g2 | g2
              · exact Or.inl (lx_cong (fun u hu => yn_n c x (by omega)) (fun _ _ => rfl) g2)
              · exact Or.inr ⟨fun u hu => by rw [yn_n c x (by omega)]; exact g2.1 u hu, by rw [yn_s]; omega⟩
            · have g2 := lx_es.mp g
              exact Or.inr (lx_hs.mpr (Or.inr ⟨fun u hu => by rw [yn_n c x (by omega)]; exact g2.1 u hu, by rw [yn_s, g2.2]; omega⟩))
          · rw [ys_f0, ys_f1, yn_w, yn_w, ys_w]
            refine yn_fw (by omega) ?_ (Nat.le_refl 9)
            unfold ys_e
            rw [w, if_neg (by decide), if_neg (by decide), yn_s]
            omega
      · rw [tv_m w]
        refine br_t rfl (br_t rfl (nm_r (xl_m1 t) (ih (t, false, c, tr) (ys_bI (by omega) (fun u hu => ?_) (fun u hu => Q3 u (by omega)) (yn_memB (by omega) w ((Q3 t (by omega)).1 w) QB) ?_) ?_)))
        · rw [Q2 u hu]
          refine tv_c (fun w2 => ?_)
          have ne : u ≠ t := by
            intro e3
            rw [e3, w] at w2
            exact absurd w2 (by decide)
          exact ⟨by omega, fun _ => rfl⟩
        · rcases QE with g | g | g
          · exact Or.inl g
          · rcases lx_hs.mp g with g2 | g2
            · exact Or.inr (Or.inl g2)
            · exact Or.inr (Or.inr g2.1)
          · exact Or.inr (Or.inr (lx_es.mp g).1)
        · rw [ys_f0, ys_f0, yn_w]
          refine yn_bw ?_
          unfold ys_e
          rw [w, if_pos rfl]
          decide
  · obtain ⟨QP, QE⟩ := Q4 rfl
    rw [if_pos rfl, if_pos rfl]
    rcases Nat.eq_or_lt_of_le Q1 with z | z
    · subst z
      exact br_f (by decide) (br_t (by decide) (br_t rfl (h1 c tr Q3 QP QE Q2)))
    · have et : (nI p).toNatClampNeg = p := nI_clamp (by omega)
      have v : vp_in (nI p) 8 := vp_in_nI z (by decide)
      refine br_f (nI_pos (by omega)) (br_f (nI_ge (b := 8) z (by decide)) ⟨v, ?_⟩)
      rw [et, Q2 p z]
      have QF : ∀ x, fst = true ∨ lx_hd (yn_set c p x) c0 (p + 1) := by
        intro x
        rcases QE with g | g
        · exact Or.inl g
        · exact Or.inr (lx_hs.mpr (Or.inl (lx_cong (fun u hu => yn_n c x (by omega)) (fun _ _ => rfl) g)))
      cases w : s.testBit p
      · rw [tv_e w (by omega)]
        refine br_f (by decide) ⟨v, v, nm_r (e' := upd tr p (nI 0)) rfl ?_⟩
        refine yn_try (s := s) (c := c) (D := D) hr z w I Q3 (Nat.zero_le r) (fun u hu ne => Q2 u hu) QP (fun tr' B tp => ?_) (fun tr' x hx hx2 P' V' tp => ?_)
        · refine ih (p, false, c, tr') (ys_bI Q1 tp Q3 B ?_) ?_
          · rcases QE with g | g
            · exact Or.inl g
            · exact Or.inr (Or.inl g)
          · rw [ys_f0, ys_f1]
            exact yn_bw (by decide)
        · refine ih (p + 1, true, yn_set c p x, tr') (ys_fI (by omega) tp V' P' (QF x)) ?_
          rw [ys_f1, ys_f1, yn_w, ys_w]
          refine yn_fw z ?_ (Nat.le_refl 9)
          unfold ys_e
          rw [w, if_neg (by decide)]
          omega
      · rw [tv_m w]
        refine br_t rfl (br_f (by decide) (nm_r (nI_1 p) (ih (p + 1, true, yn_set c p 0, tr) (ys_fI (by omega) (fun u hu => ?_) (yn_vset Q3 ⟨fun _ => yn_s c p 0, fun g => absurd (w.symm.trans g) (by decide)⟩) (yn_find QP) (QF 0)) ?_)))
        · rw [Q2 u hu]
          refine tv_c (fun w2 => ?_)
          have ne : u ≠ p := by
            intro e3
            rw [e3, w] at w2
            exact absurd w2 (by decide)
          exact ⟨by omega, fun _ => (yn_n c 0 ne).symm⟩
        · rw [ys_f1, ys_f1, yn_w, ys_w]
          refine yn_fw z ?_ (Nat.le_refl 9)
          unfold ys_e
          rw [w, if_pos rfl]
          decide
end
