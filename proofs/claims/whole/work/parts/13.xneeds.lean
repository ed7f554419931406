theorem gc_col_c {K : Nat → Nat → Bool} {S S' : Nat → Bool} {k : Nat} (h : ∀ t, t < 8 → S t = S' t) (c : gc_col K S k) : gc_col K S' k := by
  obtain ⟨c, hc⟩ := c
  refine ⟨c, fun t ht g => ?_⟩
  obtain ⟨p, q⟩ := hc t ht (by rw [h t ht]; exact g)
  exact ⟨p, fun u hu gu ku => q u hu (by rw [h u hu]; exact gu) ku⟩
theorem nx_or (a b : Nat) : nI a ||| nI b = nI (a ||| b) := by
  apply Int32.toBitVec_inj.1
  show BitVec.ofNat 32 a ||| BitVec.ofNat 32 b = BitVec.ofNat 32 (a ||| b)
  apply BitVec.eq_of_getLsbD_eq
  intro i hi
  simp [hi]
def nd_fr (cl : Nat → Int32) (s : Nat) : Prop := ∀ t, t < 8 → s.testBit t = true → (cl t &&& nI s) = 0
theorem nd_fr_iff {o d a b cl : Nat → Int32} {n : Nat} (I : cl_inv cl (sp_C o d a b n)) {s : Nat} (hs : s < 256) : nd_fr cl s ↔ ∀ t, t < 8 → ∀ u, u < 8 → s.testBit t = true → s.testBit u = true → sp_K o d a b n t u = false := by
  constructor
  · intro h t ht u hu a b
    have e := (cx_zero _).mp (h t ht a) u (by omega)
    rw [b_and, cx_bn _ (by omega), b, sp_K_b I ht hu, Bool.and_true] at e
    exact e
  · intro h t ht a
    apply (cx_zero _).mpr
    intro i hi
    rw [b_and, cx_bn _ hi]
    rcases Nat.lt_or_ge i 8 with g | g
    · cases e : s.testBit i
      · simp
      · rw [sp_K_b I ht g, h t ht i g a e]
        rfl
    · rw [cx_tb hs g, Bool.and_false]
theorem nd_le {fr : Nat → Prop} {N : Nat → Nat} {s q : Nat} (h : nd_ok fr N s) (hq : q < s) : N q ≤ 8 := by
  rcases Nat.eq_zero_or_pos q with e | e
  · rw [e, h.1]
    omega
  · exact (h.2 q e hq).1
section
variable {n k : Nat} {st mv ms mc sv ch ic pa oc ss tk tn : Int32} {o d a b ld re be bo cl co ne fe ip ce ou : Nat → Int32}
theorem xf_free {s : Nat} {post : Int32 → Prop} (t : nd_fr cl s → post 1) (f : ¬ nd_fr cl s → post 0) : wpX_isFreeOfClashes post (nI n, nI k, st, mv, ms, mc, sv, ch, ic, pa, oc, ss, tk, tn, o, d, a, b, ld, re, be, bo, cl, co, ne, fe, ip, ce, ou) (nI s) := by
  refine pk_loop (fun m j (_ : Unit) => wX_isFreeOfClashes_2 post (nI s) (nI n) (nI k) st mv ms mc sv ch ic pa oc ss tk tn o d a b ld re be bo cl co ne fe ip ce ou m (nI j)) (fun j _ => ∀ q, q < j → s.testBit q = true → (cl q &&& nI s) = 0) 8 0 () (Nat.zero_le 8) (fun q hq => absurd hq (Nat.not_lt_zero q)) ?_ ?_
  · intro m _ I
    exact br_t (Int32.le_refl _) (t I)
  · intro m j _ hj I ih
    have e : (nI j).toNatClampNeg = j := nI_clamp (by omega)
    have lt : (s.testBit j = true → (cl j &&& nI s) = 0) → ∀ q, q < j + 1 → s.testBit q = true → (cl q &&& nI s) = 0 := by
      intro z q hq
      rcases Nat.lt_or_ge q j with g | g
      · exact I q g
      · have e3 : q = j := by omega
        rw [e3]
        exact z
    refine br_f (nI_ge (b := 8) hj (by decide)) (wk_has (by omega) (fun y => br_f (by decide) ⟨vp_in_nI hj (by decide), ?_⟩) (fun y => br_t rfl (nm_r (nI_1 j) (ih () (lt (fun z => absurd (by rw [cx_bn _ (by omega)]; exact z) y))))))
    rw [e]
    exact br_c (fun z => nm_r (nI_1 j) (ih () (lt (fun _ => z)))) (fun z => f (fun g => z (g j hj (by rw [← cx_bn s (by omega)]; exact y))))
theorem xf_in {N : Nat → Nat} {s : Nat} (h1 : 1 ≤ s) (hs : s < 256) (ok : nd_ok (nd_fr cl) N s) (hfe : ∀ j, j < 256 → (fe j = 0 ↔ ¬ nd_fr cl j)) (hne : ∀ j, j < s → ne j = nI (N j)) {post : SX → Prop} {J : Int32 → (Nat → Int32) → (Nat → Int32) → (Nat → Int32) → (Nat → Int32) → (Nat → Int32) → (Nat → Int32) → (Nat → Int32) → (Nat → Int32) → (Nat → Int32) → (Nat → Int32) → (Nat → Int32) → (Nat → Int32) → (Nat → Int32) → (Nat → Int32) → (Nat → Int32) → Prop} (h : ∀ (e : Nat → Int32) N', nd_ok (nd_fr cl) N' (s + 1) → (∀ j, j < s + 1 → e j = nI (N' j)) → J (nI (s + 1)) o d a b ld re be bo cl co e fe ip ce ou) : ∃ m, wX_findNeeds_52 post J (nI s) (nI n) (nI k) st mv ms mc sv ch ic pa oc ss tk tn m 1 o d a b ld re be bo cl co (upd ne s 8) fe ip ce ou := by
  refine pk_loop (fun m w (e : Nat → Int32) => wX_findNeeds_52 post J (nI s) (nI n) (nI k) st mv ms mc sv ch ic pa oc ss tk tn m (nI w) o d a b ld re be bo cl co e fe ip ce ou) (fun w e => ∃ y, 1 ≤ w ∧ nd_in (nd_fr cl) N s w y ∧ e s = nI y ∧ ∀ j, j < s → e j = nI (N j)) (s + 1) 1 (upd ne s 8) (by omega) ⟨8, Nat.le_refl 1, nd_in0, pk_us, fun j hj => by rw [pk_un (by omega)]; exact hne j hj⟩ ?_ ?_
  · intro m e I
    obtain ⟨y, _, I1, I2, I3⟩ := I
    refine br_t (nI_lt (by omega) (by omega)) (nm_r (nI_1 s) (h e _ (nd_step hs h1 ok I1) (fun j hj => ?_)))
    show e j = nI (if j = s then y else N j)
    by_cases z : j = s
    · rw [if_pos z, z]
      exact I2
    · rw [if_neg z]
      exact I3 j (by omega)
  · intro m w e hw I ih
    obtain ⟨y, w1, I1, I2, I3⟩ := I
    have ew : (nI w).toNatClampNeg = w := nI_clamp (by omega)
    have es : (nI s).toNatClampNeg = s := nI_clamp (by omega)
    refine br_f (nI_nlt (by omega) (by omega)) ?_
    by_cases z : gc_sub w s
    · have zl := gc_xor_less (by omega) hs z w1
      have ex : (nI (s ^^^ w)).toNatClampNeg = s ^^^ w := nI_clamp (by omega)
      have N8 := nd_le ok zl
      have y8 := I1.1
      refine br_t ((cx_sub (by omega)).mpr z) ⟨vp_in_nI (by omega) (by decide), ?_⟩
      rw [ew]
      refine br_c (fun g => nm_r (nI_1 w) (ih e ⟨y, by omega, nd_in_n I1 (fun _ g2 => absurd g2 ((hfe w (by omega)).mp g)), I2, I3⟩)) (fun g => ?_)
      rw [nx_xor, ex, es, I2, I3 _ zl, nI_1]
      have vx : vp_in (nI (s ^^^ w)) 256 := vp_in_nI (by omega) (by decide)
      have vs : vp_in (nI s) 256 := vp_in_nI (by omega) (by decide)
      have fw : nd_fr cl w := Classical.byContradiction (fun q => g ((hfe w (by omega)).mpr q))
      refine ⟨vx, vs, ?_⟩
      by_cases c : y ≤ N (s ^^^ w) + 1
      · exact br_t (nI_le c (by omega)) (nm_r (nI_1 w) (ih e ⟨y, by omega, nd_in_n I1 (fun _ _ => c), I2, I3⟩))
      · refine br_f (fun q => c ((nI_leI (by omega) (by omega)).mp q)) ⟨vx, vs, nm_e (nm_r (nI_1 w) (ih _ ⟨N (s ^^^ w) + 1, by omega, nd_in_y I1 w1 (by omega) z fw (by omega), pk_us, fun j hj => by rw [pk_un (by omega)]; exact I3 j hj⟩))⟩
    · exact br_f (fun q => z ((cx_sub (by omega)).mp q)) (nm_r (nI_1 w) (ih e ⟨y, by omega, nd_in_n I1 (fun q => absurd q z), I2, I3⟩))
theorem xf_needs {post : SX → Prop} (h : ∀ (f e : Nat → Int32) N, nd_ok (nd_fr cl) N 256 → (∀ j, j < 256 → e j = nI (N j)) → post (nI n, nI k, st, mv, ms, mc, sv, ch, ic, pa, oc, ss, tk, tn, o, d, a, b, ld, re, be, bo, cl, co, e, f, ip, ce, ou)) : wpX_findNeeds post (nI n, nI k, st, mv, ms, mc, sv, ch, ic, pa, oc, ss, tk, tn, o, d, a, b, ld, re, be, bo, cl, co, ne, fe, ip, ce, ou) := by
  refine pk_loop (fun m s (f : Nat → Int32) => wX_findNeeds_2 post (nI n) (nI k) st mv ms mc sv ch ic pa oc ss tk tn m (nI s) o d a b ld re be bo cl co ne f ip ce ou) (fun s f => ∀ j, j < s → (f j = 0 ↔ ¬ nd_fr cl j)) 256 0 fe (Nat.zero_le _) (fun j hj => absurd hj (Nat.not_lt_zero j)) ?_ ?_
  · intro m f I
    have nd_e0 : ∀ j, j < 1 → upd ne 0 0 j = nI 0 := by
      intro j hj
      have z : j = 0 := by omega
      rw [z, pk_us]
      rfl
    refine br_t (Int32.le_refl _) (nm_e ?_)
    refine pk_loop (fun m s (e : Nat → Int32) => wX_findNeeds_35 post (nI n) (nI k) st mv ms mc sv ch ic pa oc ss tk tn m (nI s) o d a b ld re be bo cl co e f ip ce ou) (fun s e => 1 ≤ s ∧ ∃ N, nd_ok (nd_fr cl) N s ∧ ∀ j, j < s → e j = nI (N j)) 256 1 (upd ne 0 0) (by decide) ⟨Nat.le_refl 1, fun _ => 0, ⟨rfl, fun q p r => by omega⟩, nd_e0⟩ ?_ ?_
    · intro m e J
      obtain ⟨_, N, J1, J2⟩ := J
      exact br_t (Int32.le_refl _) (h f e N J1 J2)
    · intro m s e hs J ih
      obtain ⟨s1, N, J1, J2⟩ := J
      have es : (nI s).toNatClampNeg = s := nI_clamp (by omega)
      refine br_f (nI_ge (b := 256) hs (by decide)) ⟨vp_in_nI hs (by decide), ?_⟩
      rw [es]
      exact nm_e (xf_in s1 hs J1 I J2 (fun e N' a b => ih e ⟨by omega, N', a, b⟩))
  · intro m s f hs I ih
    have es : (nI s).toNatClampNeg = s := nI_clamp (by omega)
    have v : vp_in (nI s) 256 := vp_in_nI hs (by decide)
    have S : ∀ x : Int32, (x = 0 ↔ ¬ nd_fr cl s) → ∀ j, j < s + 1 → (upd f s x j = 0 ↔ ¬ nd_fr cl j) := by
      intro x hx j hj
      by_cases z : j = s
      · rw [z, pk_us]
        exact hx
      · rw [pk_un z]
        exact I j (by omega)
    refine br_f (nI_ge (b := 256) hs (by decide)) (xf_free (fun z => ⟨v, ?_⟩) (fun z => ⟨v, ?_⟩))
    · rw [es]
      exact nm_r (e' := upd f s 1) rfl (nm_r (nI_1 s) (ih _ (S 1 ⟨fun q => absurd q (by decide), fun q => absurd z q⟩)))
    · rw [es]
      exact nm_r (e' := upd f s 0) rfl (nm_r (nI_1 s) (ih _ (S 0 ⟨fun _ => z, fun _ => rfl⟩)))
theorem xf_moves (hn : n ≤ 20) {post : SX → Prop} (h : post (nI n, nI k, st, nI (sp_mv o n), ms, mc, sv, ch, ic, pa, oc, ss, tk, tn, o, d, a, b, ld, re, be, bo, cl, co, ne, fe, ip, ce, ou)) : wpX_countMoves post (nI n, nI k, st, mv, ms, mc, sv, ch, ic, pa, oc, ss, tk, tn, o, d, a, b, ld, re, be, bo, cl, co, ne, fe, ip, ce, ou) := by
  refine pk_loop (fun m i (c : Int32) => wX_countMoves_7 post (nI n) (nI k) st ms mc sv ch ic pa oc ss tk tn o d a b ld re be bo cl co ne fe ip ce ou m (nI i) c) (fun i c => c = nI (pu_cnt (fun i => decide (o i = 5)) i)) n 0 0 (Nat.zero_le n) rfl ?_ ?_
  · intro m c I
    refine br_t (Int32.le_refl _) ?_
    rw [I]
    exact h
  · intro m i c hi I ih
    have e : (nI i).toNatClampNeg = i := nI_clamp (by omega)
    refine br_f (nI_ge hi (by omega)) ⟨vp_in_nI (by omega) (by decide), ?_⟩
    rw [e]
    refine br_c (fun z => nm_r (by rw [I, nI_1]) (nm_r (nI_1 i) (ih _ ?_))) (fun z => nm_r (nI_1 i) (ih _ ?_))
    · rw [pu_cnt, if_pos (decide_eq_true z)]
    · rw [pu_cnt, if_neg (by rw [decide_eq_true_eq]; exact z)]
      exact I
theorem xf_cost {s : Nat} (hc : ∀ t, t < 8 → co t = sp_cost o d a b n t) {post : Int32 → Prop} (h : post (sp_sum o d a b n s)) : wpX_costOf post (nI n, nI k, st, mv, ms, mc, sv, ch, ic, pa, oc, ss, tk, tn, o, d, a, b, ld, re, be, bo, cl, co, ne, fe, ip, ce, ou) (nI s) := by
  refine pk_loop (fun m t (x : Int32) => wX_costOf_4 post (nI s) (nI n) (nI k) st mv ms mc sv ch ic pa oc ss tk tn o d a b ld re be bo cl co ne fe ip ce ou m x (nI t)) (fun t x => x = sp_sm o d a b n s t) 8 0 0 (Nat.zero_le 8) rfl ?_ ?_
  · intro m x I
    refine br_t (Int32.le_refl _) ?_
    rw [I]
    exact h
  · intro m t x ht I ih
    have e : (nI t).toNatClampNeg = t := nI_clamp (by omega)
    refine br_f (nI_ge (b := 8) ht (by decide)) (wk_has (by omega) (fun y => br_f (by decide) ⟨vp_in_nI ht (by decide), ?_⟩) (fun y => br_t rfl (nm_r (nI_1 t) (ih _ ?_))))
    · rw [e]
      rw [cx_bn _ (by omega)] at y
      refine nm_e (nm_r (nI_1 t) (ih _ ?_))
      rw [sp_sm, if_pos y, I, hc t ht]
    · rw [cx_bn _ (by omega)] at y
      rw [sp_sm, if_neg y]
      exact I
theorem xm_F {N : Nat → Nat} (I : cl_inv cl (sp_C o d a b n)) (ok : nd_ok (nd_fr cl) N 256) {s : Nat} (hs : s < 256) : sp_F o d a b n k s ↔ N (255 ^^^ s) ≤ k := by
  have e := nd_col (K := sp_K o d a b n) (fr := nd_fr cl) (fun t _ => sp_K_i o d a b n t) (fun s hs => nd_fr_iff I hs) ok (s := 255 ^^^ s) (k := k) (gc_xor_lt hs (by decide))
  rw [← e]
  have tb : ∀ t, t < 8 → (!s.testBit t) = (255 ^^^ s).testBit t := by
    intro t ht
    rw [Nat.testBit_xor, (by decide : ∀ t, t < 8 → (255 : Nat).testBit t = true) t ht]
    simp
  exact ⟨gc_col_c tb, gc_col_c (fun t ht => (tb t ht).symm)⟩
theorem xm_mem {N : Nat → Nat} (hk : k ≤ 4) (I : cl_inv cl (sp_C o d a b n)) (ok : nd_ok (nd_fr cl) N 256) (hne : ∀ j, j < 256 → ne j = nI (N j)) (hc : ∀ t, t < 8 → co t = sp_cost o d a b n t) {post : SX → Prop} (h : ∀ m, sp_M o d a b n k m → post (nI n, nI k, st, mv, nI m, sp_sum o d a b n m, sv, ch, ic, pa, oc, ss, tk, tn, o, d, a, b, ld, re, be, bo, cl, co, ne, fe, ip, ce, ou)) : wpX_chooseMemory post (nI n, nI k, st, mv, ms, mc, sv, ch, ic, pa, oc, ss, tk, tn, o, d, a, b, ld, re, be, bo, cl, co, ne, fe, ip, ce, ou) := by
  refine xf_cost (s := 255) hc ?_
  have K := pk_loopD (fun q i (p : Nat) => wX_chooseMemory_22 post (nI n) (nI k) st mv sv ch ic pa oc ss tk tn o d a b ld re be bo cl co ne fe ip ce ou q (nI i - 1) (nI p) (sp_sum o d a b n p)) (fun i p => i ≤ 255 ∧ am_dn (sp_F o d a b n k) (fun s => (sp_sum o d a b n s).toInt) i p) ?_ ?_ 255 255 ⟨Nat.le_refl _, am_dn0 sp_F_255⟩
  · exact ⟨256, K⟩
  · intro q p J
    exact br_t (by decide) (h p (am_dn_is J.2))
  · intro q i p J ih
    obtain ⟨hi, J⟩ := J
    have ex : (255 : Int32) ^^^ nI i = nI (255 ^^^ i) := nx_xor 255 i
    have lx : 255 ^^^ i < 256 := gc_xor_lt (by omega) (by decide)
    have ec : (nI (255 ^^^ i)).toNatClampNeg = 255 ^^^ i := nI_clamp (by omega)
    have N8 := nd_le ok lx
    rw [nI_pred]
    refine br_f (nI_pos (by omega)) (xf_cost hc ?_)
    rw [ex, ec, hne _ lx]
    refine ⟨vp_in_nI lx (by decide), ?_⟩
    by_cases z : k < N (255 ^^^ i)
    · exact br_t (nI_lt z (by omega)) (nm_r (xl_m1 i) (ih p ⟨by omega, am_dn_n J (fun g => absurd ((xm_F I ok (by omega)).mp g) (by omega))⟩))
    · refine br_f (nI_nlt (by omega) (by omega)) ?_
      have g : sp_F o d a b n k i := (xm_F I ok (by omega)).mpr (by omega)
      by_cases y : sp_sum o d a b n p < sp_sum o d a b n i
      · exact br_t y (nm_r (xl_m1 i) (ih p ⟨by omega, am_dn_n J (fun _ => Int32.lt_iff_toInt_lt.mp y)⟩))
      · exact br_f y (nm_r (xl_m1 i) (ih i ⟨by omega, am_dn_y J g (Int32.le_iff_toInt_le.mp (Int32.not_lt.mp y))⟩))
end
