theorem pu_sum_le {f g : Nat → Nat} : ∀ {n : Nat}, (∀ i, i < n → f i ≤ g i) → pu_sum f n ≤ pu_sum g n
  | 0, _ => Nat.le_refl _
  | n + 1, h => by
    have a := pu_sum_le (n := n) (fun i hi => h i (by omega))
    have b := h n (by omega)
    rw [pu_sum, pu_sum]
    omega
theorem pu_sum_lt {f g : Nat → Nat} : ∀ {n : Nat}, (∀ i, i < n → f i ≤ g i) → (∃ i, i < n ∧ f i < g i) → pu_sum f n < pu_sum g n
  | 0, _, ⟨i, hi, _⟩ => absurd hi (Nat.not_lt_zero i)
  | n + 1, h, ⟨i, hi, hl⟩ => by
    have a : pu_sum f n ≤ pu_sum g n := pu_sum_le (fun i hi => h i (by omega))
    have b := h n (by omega)
    rw [pu_sum, pu_sum]
    rcases Nat.lt_or_ge i n with z | z
    · have c : pu_sum f n < pu_sum g n := pu_sum_lt (fun i hi => h i (by omega)) ⟨i, z, hl⟩
      omega
    · have e : i = n := by omega
      subst e
      omega
section
variable {o d a b : Nat → Int32} {n : Nat}
/-- how much is wanting -/
def ym_mu (o d a b : Nat → Int32) (n : Nat) (B : Nat → Int32) : Nat := pu_sum (fun i => pu_cnt (fun t => sp_lv o d a b n t i && !bt (B i) t) 32) n
def ym_inc (o d a b : Nat → Int32) (n : Nat) (B : Nat → Int32) : Prop := ∀ j, j < n → ∀ t, t < 32 → bt (B j) t = true → bt (sp_new o d a b n B j) t = true
theorem ym_le {B C : Nat → Int32} (h : ∀ j, j < n → ∀ t, t < 32 → bt (B j) t = true → bt (C j) t = true) (j : Nat) (hj : j < n) : pu_cnt (fun t => sp_lv o d a b n t j && !bt (C j) t) 32 ≤ pu_cnt (fun t => sp_lv o d a b n t j && !bt (B j) t) 32 := by
  apply pu_cnt_mono
  intro t ht g
  rw [Bool.and_eq_true] at g ⊢
  refine ⟨g.1, ?_⟩
  cases e : bt (B j) t
  · rfl
  · rw [h j hj t ht e] at g
    exact absurd g.2 (by decide)
theorem ym_up {B : Nat → Int32} {i : Nat} (hi : i < n) (I : ym_inc o d a b n B) : ∀ j, j < n → ∀ t, t < 32 → bt (B j) t = true → bt (upd B i (sp_new o d a b n B i) j) t = true := by
  intro j hj t ht g
  by_cases z : j = i
  · rw [z, pk_us]
    rw [z] at g
    exact I i hi t ht g
  · rw [pk_un z]
    exact g
theorem ym_inc_s {B : Nat → Int32} {i : Nat} (ok : sp_ok o d a b n) (hi : i < n) (I : ym_inc o d a b n B) : ym_inc o d a b n (upd B i (sp_new o d a b n B i)) := by
  intro j hj t ht g
  have M : bt (sp_new o d a b n B j) t = true → bt (sp_new o d a b n (upd B i (sp_new o d a b n B i)) j) t = true := by
    rw [sp_new_b ok hj ht, sp_new_b ok hj ht]
    exact lf_mono (fun x hx => ym_up hi I x hx t ht) j
  by_cases z : j = i
  · subst z
    rw [pk_us] at g
    exact M g
  · rw [pk_un z] at g
    exact M (I j hj t ht g)
theorem ym_hi_s {B : Nat → Int32} {i : Nat} (ok : sp_ok o d a b n) (hi : i < n) (I : ∀ j, j < n → sp_hi o d a b n (B j) j) : ∀ j, j < n → sp_hi o d a b n (upd B i (sp_new o d a b n B i) j) j := by
  intro j hj
  by_cases z : j = i
  · rw [z, pk_us]
    exact sp_new_hi ok hi I
  · rw [pk_un z]
    exact I j hj
theorem ym_mu_le {B : Nat → Int32} {i : Nat} (hi : i < n) (I : ym_inc o d a b n B) : ym_mu o d a b n (upd B i (sp_new o d a b n B i)) ≤ ym_mu o d a b n B :=
  pu_sum_le (fun j hj => ym_le (ym_up hi I) j hj)
theorem ym_mu_lt {B : Nat → Int32} {i : Nat} (ok : sp_ok o d a b n) (hi : i < n) (I : ym_inc o d a b n B) (H : ∀ j, j < n → sp_hi o d a b n (B j) j) (ne : ¬ sp_new o d a b n B i = B i) : ym_mu o d a b n (upd B i (sp_new o d a b n B i)) < ym_mu o d a b n B := by
  refine pu_sum_lt (fun j hj => ym_le (ym_up hi I) j hj) ⟨i, hi, ?_⟩
  have hx : ∃ t, t < 32 ∧ ¬ bt (sp_new o d a b n B i) t = bt (B i) t := by
    refine Classical.byContradiction (fun z => ne (b_ext (fun t ht => ?_)))
    exact Classical.byContradiction (fun w => z ⟨t, ht, w⟩)
  obtain ⟨t, ht, z⟩ := hx
  refine pu_cnt_lt (fun t ht g => ?_) ⟨t, ht, ?_, ?_⟩
  · rw [Bool.and_eq_true] at g ⊢
    refine ⟨g.1, ?_⟩
    cases e : bt (B i) t
    · rfl
    · rw [ym_up hi I i hi t ht e] at g
      exact absurd g.2 (by decide)
  · rw [pk_us]
    cases e : bt (sp_new o d a b n B i) t
    · cases e2 : bt (B i) t
      · rw [e, e2] at z
        exact absurd rfl z
      · rw [I i hi t ht e2] at e
        exact absurd e (by decide)
    · simp
  · cases e2 : bt (B i) t
    · cases e : bt (sp_new o d a b n B i) t
      · rw [e, e2] at z
        exact absurd rfl z
      · rw [sp_new_hi ok hi H t ht e]
        rfl
    · rw [e2, I i hi t ht e2] at z
      exact absurd rfl z
end
section
variable {n k : Nat} {kn pl me sa wa fw : Int32} {o d a b yb yw yc yo ys yt ip ou yl yp : Nat → Int32}
/-- Y's tables, once known -/
def yk_ok (o d a b : Nat → Int32) (n : Nat) (yb yc yo : Nat → Int32) : Prop :=
  (∀ j, j < n → sp_is o d a b n (yb j) j) ∧ cl_inv yc (sp_C o d a b n) ∧ (∀ t, t < 8 → yo t = sp_cost o d a b n t)
theorem yk_costs (hn : n ≤ 20) (ok : sp_ok o d a b n) (hr : ∀ j, j < n → yw j = sp_way o a b n j) {post : SY → Prop} (h : ∀ c, (∀ t, t < 8 → c t = sp_cost o d a b n t) → post (nI n, nI k, kn, pl, me, sa, wa, fw, o, d, a, b, yb, yw, yc, c, ys, yt, ip, ou, yl, yp)) : ∃ m, wY_know_118 post (nI n) (nI k) kn pl me sa wa fw m 0 o d a b yb yw yc yo ys yt ip ou yl yp := by
  refine pk_loop (fun m t (c : Nat → Int32) => wY_know_118 post (nI n) (nI k) kn pl me sa wa fw m (nI t) o d a b yb yw yc c ys yt ip ou yl yp) (fun t c => ∀ j, j < t → c j = sp_cost o d a b n j) 8 0 yo (Nat.zero_le 8) (fun j hj => absurd hj (Nat.not_lt_zero j)) ?_ ?_
  · intro m c I
    exact br_t (Int32.le_refl _) (h c I)
  · intro m t c ht I ih
    have e : (nI t).toNatClampNeg = t := nI_clamp (by omega)
    have v : vp_in (nI t) 8 := vp_in_nI ht (by decide)
    refine br_f (nI_ge (b := 8) ht (by decide)) ⟨v, ?_⟩
    rw [e]
    refine nm_e ?_
    refine pk_loop (fun q i (c : Nat → Int32) => wY_know_133 post (wY_know_118 post (nI n) (nI k) kn pl me sa wa fw m) (nI t) (nI n) (nI k) kn pl me sa wa fw q (nI i) o d a b yb yw yc c ys yt ip ou yl yp) (fun i c => c t = sp_co o d a b n t i ∧ ∀ j, j < t → c j = sp_cost o d a b n j) n 0 (upd c t 0) (Nat.zero_le n) ⟨pk_us, fun j hj => by rw [pk_un (by omega)]; exact I j hj⟩ ?_ ?_
    · intro q c I
      refine br_t (Int32.le_refl _) (nm_r (nI_1 t) (ih c (fun j hj => ?_)))
      rcases Nat.lt_or_ge j t with g | g
      · exact I.2 j g
      · have e3 : j = t := by omega
        rw [e3]
        exact I.1
    · intro q i c hi I ih
      have e2 : (nI i).toNatClampNeg = i := nI_clamp (by omega)
      refine br_f (nI_ge hi (by omega)) ⟨v, yk_times hn ok hi ht ⟨vp_in_nI (by omega) (by decide), ?_⟩⟩
      rw [e, e2, hr i hi]
      refine ek_if (cx_has _ (by omega)) (fun z => ⟨v, nm_e (nm_r (nI_1 i) (ih _ ⟨?_, fun j hj => by rw [pk_un (by omega)]; exact I.2 j hj⟩))⟩) (fun z => ⟨v, nm_e (nm_r (nI_1 i) (ih _ ⟨?_, fun j hj => by rw [pk_un (by omega)]; exact I.2 j hj⟩))⟩)
      · rw [pk_us, I.1, sp_co, sp_wt, if_pos z]
      · rw [pk_us, I.1, sp_co, sp_wt, if_neg z]
theorem yk_sweep (hn : n ≤ 20) (ok : sp_ok o d a b n) (H : ∀ j, j < n → sp_hi o d a b n (yb j) j) (N : ym_inc o d a b n yb) {post : SY → Prop} {J : Int32 → (Nat → Int32) → (Nat → Int32) → (Nat → Int32) → (Nat → Int32) → (Nat → Int32) → (Nat → Int32) → (Nat → Int32) → (Nat → Int32) → (Nat → Int32) → (Nat → Int32) → (Nat → Int32) → (Nat → Int32) → (Nat → Int32) → (Nat → Int32) → Prop} (h : ∀ x B, (∀ j, j < n → sp_hi o d a b n (B j) j) → ym_inc o d a b n B → (x = 0 ∧ (∀ j, j < n → sp_new o d a b n B j = B j) ∧ ym_mu o d a b n B ≤ ym_mu o d a b n yb ∨ x = 1 ∧ ym_mu o d a b n B < ym_mu o d a b n yb) → J x o d a b B yw yc yo ys yt ip ou yl yp) : ∃ m, wY_know_46 post J (nI n) (nI k) kn pl me sa wa fw m 0 0 o d a b yb yw yc yo ys yt ip ou yl yp := by
  refine pk_loop (fun m i (s : Int32 × (Nat → Int32)) => wY_know_46 post J (nI n) (nI k) kn pl me sa wa fw m s.1 (nI i) o d a b s.2 yw yc yo ys yt ip ou yl yp) (fun i s => (∀ j, j < n → sp_hi o d a b n (s.2 j) j) ∧ ym_inc o d a b n s.2 ∧ (s.1 = 0 ∧ (∀ j, j < i → sp_new o d a b n s.2 j = s.2 j) ∧ ym_mu o d a b n s.2 ≤ ym_mu o d a b n yb ∨ s.1 = 1 ∧ ym_mu o d a b n s.2 < ym_mu o d a b n yb)) n 0 (0, yb) (Nat.zero_le n) ⟨H, N, Or.inl ⟨rfl, fun j hj => absurd hj (Nat.not_lt_zero j), Nat.le_refl _⟩⟩ ?_ ?_
  · intro m s I
    exact br_t (Int32.le_refl _) (h s.1 s.2 I.1 I.2.1 I.2.2)
  · intro m i s hi I ih
    obtain ⟨x, B⟩ := s
    obtain ⟨I1, I2, I3⟩ := I
    dsimp only at I1 I2 I3 ih ⊢
    have e : (nI i).toNatClampNeg = i := nI_clamp (by omega)
    have v : vp_in (nI i) 21 := vp_in_nI (by omega) (by decide)
    have G : ∀ z y : Int32, (x ||| z) = y → ((∀ j, j < n → sp_hi o d a b n (upd B i (sp_new o d a b n B i) j) j) ∧ ym_inc o d a b n (upd B i (sp_new o d a b n B i)) ∧ (y = 0 ∧ (∀ j, j < i + 1 → sp_new o d a b n (upd B i (sp_new o d a b n B i)) j = upd B i (sp_new o d a b n B i) j) ∧ ym_mu o d a b n (upd B i (sp_new o d a b n B i)) ≤ ym_mu o d a b n yb ∨ y = 1 ∧ ym_mu o d a b n (upd B i (sp_new o d a b n B i)) < ym_mu o d a b n yb)) → wY_know_90 post J (wY_know_46 post J (nI n) (nI k) kn pl me sa wa fw m) (nI i) (sp_new o d a b n B i) z x (nI n) (nI k) kn pl me sa wa fw o d a b B yw yc yo ys yt ip ou yl yp := by
      intro z y ey K
      unfold wY_know_90
      rw [e]
      exact nm_r ey ⟨v, nm_e (nm_r (nI_1 i) (ih (y, _) K))⟩
    refine br_f (nI_ge hi (by omega)) (yk_used (by omega) (yk_behind hn ok hi (yk_dfd (by omega) (nm_r (e' := sp_new o d a b n B i) rfl ⟨v, ?_⟩))))
    rw [e]
    refine br_c (fun z => ?_) (fun z => ?_)
    · have eB : upd B i (sp_new o d a b n B i) = B := by
        funext j
        by_cases w : j = i
        · rw [w, pk_us, z]
        · rw [pk_un w]
      refine G 0 x (Int32.or_zero ..) ⟨by rw [eB]; exact I1, by rw [eB]; exact I2, ?_⟩
      rw [eB]
      rcases I3 with ⟨a1, a2, a3⟩ | a1
      · refine Or.inl ⟨a1, fun j hj => ?_, a3⟩
        rcases Nat.lt_or_ge j i with g | g
        · exact a2 j g
        · have e3 : j = i := by omega
          rw [e3]
          exact z
      · exact Or.inr a1
    · have L := ym_mu_lt ok hi I2 I1 z
      refine G 1 1 ?_ ⟨ym_hi_s ok hi I1, ym_inc_s ok hi I2, Or.inr ⟨rfl, ?_⟩⟩
      · rcases I3 with ⟨a1, _⟩ | ⟨a1, _⟩
        · rw [a1]
          decide
        · rw [a1]
          decide
      · rcases I3 with ⟨_, _, a3⟩ | ⟨_, a3⟩
        · exact Nat.lt_of_lt_of_le L a3
        · exact Nat.lt_trans L a3
theorem yk_fix (hn : n ≤ 20) (ok : sp_ok o d a b n) (H : ∀ j, j < n → sp_hi o d a b n (yb j) j) (N : ym_inc o d a b n yb) {post : SY → Prop} (h : ∀ yb yw yc yo, yk_ok o d a b n yb yc yo → post (nI n, nI k, kn, pl, me, sa, wa, fw, o, d, a, b, yb, yw, yc, yo, ys, yt, ip, ou, yl, yp)) : ∃ m, wY_know_38 post (nI n) (nI k) kn pl me sa wa fw m 1 o d a b yb yw yc yo ys yt ip ou yl yp := by
  refine loop_m (fun m (s : Int32 × (Nat → Int32)) => wY_know_38 post (nI n) (nI k) kn pl me sa wa fw m s.1 o d a b s.2 yw yc yo ys yt ip ou yl yp) (fun s => (∀ j, j < n → sp_hi o d a b n (s.2 j) j) ∧ ym_inc o d a b n s.2 ∧ (s.1 = 0 ∧ (∀ j, j < n → sp_new o d a b n s.2 j = s.2 j) ∨ s.1 = 1)) (fun s => 2 * ym_mu o d a b n s.2 + (if s.1 = 0 then 0 else 1)) ?_ (1, yb) ⟨H, N, Or.inr rfl⟩
  intro m s I ih
  obtain ⟨x, B⟩ := s
  obtain ⟨I1, I2, I3⟩ := I
  dsimp only at I1 I2 I3 ih ⊢
  rcases I3 with ⟨a1, a2⟩ | a1
  · have hb := sp_fix ok I1 a2
    exact br_t a1 (yk_clashes hn ok hb (fun c hc => yk_ways hn ok (fun r hr => yk_costs hn ok hr (fun y hy => h B r c y ⟨hb, hc, hy⟩))))
  · refine br_f (by rw [a1]; decide) (yk_sweep hn ok I1 I2 (fun y C p q r => ih (y, C) ⟨p, q, ?_⟩ ?_))
    · rcases r with ⟨r1, r2, _⟩ | ⟨r1, _⟩
      · exact Or.inl ⟨r1, r2⟩
      · exact Or.inr r1
    · dsimp only
      rw [a1, if_neg (show ¬ (1 : Int32) = 0 by decide)]
      rcases r with ⟨r1, _, r3⟩ | ⟨r1, r2⟩
      · rw [r1, if_pos rfl]
        omega
      · rw [r1, if_neg (show ¬ (1 : Int32) = 0 by decide)]
        omega
theorem yk_know (hn : n ≤ 20) (ok : sp_ok o d a b n) (hs : kn = 0 ∨ (kn = 1 ∧ yk_ok o d a b n yb yc yo)) {post : SY → Prop} (h : ∀ yb yw yc yo, yk_ok o d a b n yb yc yo → post (nI n, nI k, 1, pl, me, sa, wa, fw, o, d, a, b, yb, yw, yc, yo, ys, yt, ip, ou, yl, yp)) : wpY_know post (nI n, nI k, kn, pl, me, sa, wa, fw, o, d, a, b, yb, yw, yc, yo, ys, yt, ip, ou, yl, yp) := by
  rcases hs with hs | ⟨hs, hx⟩
  · subst hs
    refine br_t rfl ?_
    refine pk_loop (fun m i (r : Nat → Int32) => wY_know_15 post (nI n) (nI k) 1 pl me sa wa fw m (nI i) o d a b r yw yc yo ys yt ip ou yl yp) (fun i r => ∀ j, j < i → r j = (fun _ => 0) j) (n + 1) 0 yb (Nat.zero_le _) (fun j hj => absurd hj (Nat.not_lt_zero j)) ?_ ?_
    · intro m r I
      refine br_t (nI_lt (by omega) (by omega)) (yk_fix hn ok (fun j hj => by rw [I j (by omega)]; exact sp_hi_0) (fun j hj t ht g => ?_) h)
      rw [I j (by omega), b_0] at g
      exact absurd g (by decide)
    · intro m i r hi I ih
      have e : (nI i).toNatClampNeg = i := nI_clamp (by omega)
      have v : vp_in (nI i) 21 := vp_in_nI (by omega) (by decide)
      refine br_f (nI_nlt (by omega) (by omega)) ⟨v, ?_⟩
      rw [e]
      exact nm_e (nm_r (nI_1 i) (ih _ (up_lt I rfl)))
  · subst hs
    exact br_f (by decide) (h _ _ _ _ hx)
end
