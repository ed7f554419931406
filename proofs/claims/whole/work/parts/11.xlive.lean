theorem xl_mask : ∀ n, n < 21 → ∀ j, j < 32 → bt (((1 : Int32) <<< (nI n &&& 31)) - 1) j = decide (j < n) := by decide +kernel
theorem up_lt {l f : Nat → Int32} {i : Nat} {v : Int32} (I : ∀ j, j < i → l j = f j) (e : v = f i) : ∀ j, j < i + 1 → upd l i v j = f j := by
  intro j hj
  by_cases z : j = i
  · rw [z, pk_us, e]
  · rw [pk_un z]
    exact I j (by omega)
section
variable {o a b : Nat → Int32} {i j : Nat}
theorem sp_L_6 (h : o i = 6) : sp_L o a b i j = decide (a i = nI j) := by
  unfold sp_L
  rw [h, show decide ((6 : Int32) = 6) = true from by decide, show decide ((6 : Int32) = 7) = false from by decide]
  simp
theorem sp_L_7 (h : o i = 7) : sp_L o a b i j = (decide (b i = nI j) || decide (j = i + 1)) := by
  unfold sp_L
  rw [h, show decide ((7 : Int32) = 6) = false from by decide, show decide ((7 : Int32) = 7) = true from by decide, show decide ((7 : Int32) = 10) = false from by decide]
  simp
theorem sp_L_10 (h : o i = 10) : sp_L o a b i j = false := by
  unfold sp_L
  rw [h, show decide ((10 : Int32) = 6) = false from by decide, show decide ((10 : Int32) = 7) = false from by decide, show decide ((10 : Int32) = 10) = true from by decide]
  simp
theorem sp_L_e (h6 : ¬ o i = 6) (h7 : ¬ o i = 7) (h10 : ¬ o i = 10) : sp_L o a b i j = decide (j = i + 1) := by
  unfold sp_L
  rw [decide_eq_false h6, decide_eq_false h7, decide_eq_false h10]
  simp
end
theorem xl_and {o a b : Nat → Int32} {n i : Nat} (hn : n ≤ 20) {x : Int32} (h : ∀ j, j < n → bt x j = sp_L o a b i j) : (x &&& (((1 : Int32) <<< (nI n &&& 31)) - 1)) = sp_lead o a b n i := by
  apply b_ext
  intro j hj
  rw [b_and, sp_lead_b hn, xl_mask n (by omega) j hj]
  by_cases z : j < n
  · rw [h j z, decide_eq_true z]
    simp
  · rw [decide_eq_false z]
    simp
section
variable {n k : Nat} {st mv ms mc sv ch ic pa oc ss tk tn : Int32} {o d a b ld re be bo cl co ne fe ip ce ou : Nat → Int32}
theorem xl_86 {post : SX → Prop} {J : Int32 → (Nat → Int32) → (Nat → Int32) → (Nat → Int32) → (Nat → Int32) → (Nat → Int32) → (Nat → Int32) → (Nat → Int32) → (Nat → Int32) → (Nat → Int32) → (Nat → Int32) → (Nat → Int32) → (Nat → Int32) → (Nat → Int32) → (Nat → Int32) → (Nat → Int32) → Prop} {x1 x3 : Int32} {i : Nat} (hi : i < 20) (h : J (nI (i + 1)) o d a b (upd ld i (x3 &&& x1)) re be bo cl co ne fe ip ce ou) : wX_findLeads_86 post J x1 (nI i) x3 (nI n) (nI k) st mv ms mc sv ch ic pa oc ss tk tn o d a b ld re be bo cl co ne fe ip ce ou :=
  ⟨vp_in_nI hi (by decide), nm_r (by rw [nI_clamp (by omega)]) (nm_r (nI_1 i) h)⟩
theorem xl_leads (hn : n ≤ 20) (ok : sp_ok o d a b n) {post : SX → Prop} (h : ∀ l, (∀ j, j < n → l j = sp_lead o a b n j) → post (nI n, nI k, st, mv, ms, mc, sv, ch, ic, pa, oc, ss, tk, tn, o, d, a, b, l, re, be, bo, cl, co, ne, fe, ip, ce, ou)) : wpX_findLeads post (nI n, nI k, st, mv, ms, mc, sv, ch, ic, pa, oc, ss, tk, tn, o, d, a, b, ld, re, be, bo, cl, co, ne, fe, ip, ce, ou) := by
  refine nm_e ?_
  refine pk_loop (fun m i (l : Nat → Int32) => wX_findLeads_11 post (((1 : Int32) <<< (nI n &&& 31)) - 1) (nI n) (nI k) st mv ms mc sv ch ic pa oc ss tk tn m (nI i) o d a b l re be bo cl co ne fe ip ce ou) (fun i l => ∀ j, j < i → l j = sp_lead o a b n j) n 0 ld (Nat.zero_le n) (fun j hj => absurd hj (Nat.not_lt_zero j)) ?_ ?_
  · intro m l I
    exact br_t (Int32.le_refl _) (h l I)
  · intro m i l hi I ih
    have e : (nI i).toNatClampNeg = i := nI_clamp (by omega)
    have v : vp_in (nI i) 20 := vp_in_nI (by omega) (by decide)
    have i1 : ((1 : Int32) <<< ((nI i + 1) &&& 31)) = (1 : Int32) <<< (nI (i + 1) &&& 31) := by rw [nI_1]
    obtain ⟨_, _, _, _, k5, k6⟩ := ok i hi
    refine br_f (nI_ge hi (by omega)) (nm_r i1 ⟨v, ?_⟩)
    rw [e]
    by_cases h6 : o i = 6
    · refine br_t h6 ⟨v, nm_e (xl_86 (by omega) (ih _ (up_lt I (xl_and hn (fun j hj => ?_)))))⟩
      obtain ⟨q, hq, e2⟩ := k5 h6
      rw [sp_L_6 h6, e2, cx_one (by omega), sp_inj (by omega) (by omega)]
    · refine br_f h6 ⟨v, ?_⟩
      by_cases h7 : o i = 7
      · refine br_t h7 ⟨v, nm_e (xl_86 (by omega) (ih _ (up_lt I (xl_and hn (fun j hj => ?_)))))⟩
        obtain ⟨q, hq, e2⟩ := k6 h7
        rw [sp_L_7 h7, b_or, e2, cx_one (by omega), cx_one (by omega), sp_inj (by omega) (by omega), Bool.or_comm, show decide (i + 1 = j) = decide (j = i + 1) from decide_eq_decide.mpr ⟨Eq.symm, Eq.symm⟩]
      · refine br_f h7 ⟨v, ?_⟩
        by_cases h10 : o i = 10
        · refine br_t h10 (xl_86 (by omega) (ih _ (up_lt I (xl_and hn (fun j hj => ?_)))))
          rw [sp_L_10 h10, b_0]
        · refine br_f h10 (xl_86 (by omega) (ih _ (up_lt I (xl_and hn (fun j hj => ?_)))))
          rw [sp_L_e h6 h7 h10, cx_one (by omega)]
          exact decide_eq_decide.mpr ⟨Eq.symm, Eq.symm⟩
theorem wr_in_s {n m i : Nat} {r g : Nat → Int32} (hm : m < n) (hi : i < n) (I : wr_eq n r (wr_in m g i)) : (bt (r i) m = true → wr_eq n (upd r i (r i ||| r m)) (wr_in m g (i + 1))) ∧ (¬ bt (r i) m = true → wr_eq n r (wr_in m g (i + 1))) := by
  rw [wr_in, ← I i hi, ← I m hm]
  constructor
  · intro z
    rw [if_pos z]
    exact wr_upd I rfl
  · intro z
    rw [if_neg z]
    exact I
theorem xl_reaches (hn : n ≤ 20) (hl : ∀ j, j < n → ld j = sp_lead o a b n j) {post : SX → Prop} (h : ∀ r, (∀ j, j < n → r j = sp_way o a b n j) → post (nI n, nI k, st, mv, ms, mc, sv, ch, ic, pa, oc, ss, tk, tn, o, d, a, b, ld, r, be, bo, cl, co, ne, fe, ip, ce, ou)) : wpX_findReaches post (nI n, nI k, st, mv, ms, mc, sv, ch, ic, pa, oc, ss, tk, tn, o, d, a, b, ld, re, be, bo, cl, co, ne, fe, ip, ce, ou) := by
  refine pk_loop (fun m i (r : Nat → Int32) => wX_findReaches_2 post (nI n) (nI k) st mv ms mc sv ch ic pa oc ss tk tn m (nI i) o d a b ld r be bo cl co ne fe ip ce ou) (fun i r => ∀ j, j < i → r j = ld j) n 0 re (Nat.zero_le n) (fun j hj => absurd hj (Nat.not_lt_zero j)) ?_ ?_
  · intro m r I
    refine br_t (Int32.le_refl _) ?_
    refine pk_loop (fun m i (r : Nat → Int32) => wX_findReaches_30 post (nI n) (nI k) st mv ms mc sv ch ic pa oc ss tk tn m (nI i) o d a b ld r be bo cl co ne fe ip ce ou) (fun i r => wr_eq n r (wr_out n (sp_lead o a b n) i)) n 0 r (Nat.zero_le n) (fun j hj => (I j hj).trans (hl j hj)) ?_ ?_
    · intro m r I
      exact br_t (Int32.le_refl _) (h r I)
    · intro m p r hp I ih
      refine br_f (nI_ge hp (by omega)) ?_
      refine pk_loop (fun q i (r : Nat → Int32) => wX_findReaches_40 post (wX_findReaches_30 post (nI n) (nI k) st mv ms mc sv ch ic pa oc ss tk tn m) (nI p) (nI n) (nI k) st mv ms mc sv ch ic pa oc ss tk tn q (nI i) o d a b ld r be bo cl co ne fe ip ce ou) (fun i r => wr_eq n r (wr_in p (wr_out n (sp_lead o a b n) p) i)) n 0 r (Nat.zero_le n) I ?_ ?_
      · intro q r I
        exact br_t (Int32.le_refl _) (nm_r (nI_1 p) (ih r I))
      · intro q i r hi I ih
        have e : (nI i).toNatClampNeg = i := nI_clamp (by omega)
        have e2 : (nI p).toNatClampNeg = p := nI_clamp (by omega)
        have v : vp_in (nI i) 20 := vp_in_nI (by omega) (by decide)
        refine br_f (nI_ge hi (by omega)) ⟨v, ?_⟩
        rw [e]
        obtain ⟨A, B⟩ := wr_in_s hp hi I
        refine wk_has (by omega) (fun z => br_f (by decide) ⟨v, vp_in_nI (by omega) (by decide), v, ?_⟩) (fun z => br_t rfl (nm_r (nI_1 i) (ih _ (B z))))
        rw [e2]
        exact nm_e (nm_r (nI_1 i) (ih _ (A z)))
  · intro m i r hi I ih
    have e : (nI i).toNatClampNeg = i := nI_clamp (by omega)
    have v : vp_in (nI i) 20 := vp_in_nI (by omega) (by decide)
    refine br_f (nI_ge hi (by omega)) ⟨v, v, ?_⟩
    rw [e]
    exact nm_e (nm_r (nI_1 i) (ih _ (up_lt I rfl)))
theorem xl_after (hn : n ≤ 20) {i : Nat} (hi : i < n) {post : Int32 → Prop} (h : post (sp_or (fun j => bt (ld i) j) be n)) : wpX_aliveAfter post (nI n, nI k, st, mv, ms, mc, sv, ch, ic, pa, oc, ss, tk, tn, o, d, a, b, ld, re, be, bo, cl, co, ne, fe, ip, ce, ou) (nI i) := by
  have e : (nI i).toNatClampNeg = i := nI_clamp (by omega)
  refine pk_loop (fun m j (x : Int32) => wX_aliveAfter_4 post (nI i) (nI n) (nI k) st mv ms mc sv ch ic pa oc ss tk tn o d a b ld re be bo cl co ne fe ip ce ou m x (nI j)) (fun j x => x = sp_or (fun j => bt (ld i) j) be j) n 0 0 (Nat.zero_le n) rfl ?_ ?_
  · intro m x I
    exact br_t (Int32.le_refl _) (by rw [I]; exact h)
  · intro m j x hj I ih
    have e2 : (nI j).toNatClampNeg = j := nI_clamp (by omega)
    refine br_f (nI_ge hj (by omega)) ⟨vp_in_nI (by omega) (by decide), ?_⟩
    rw [e]
    refine wk_has (by omega) (fun z => br_f (by decide) ⟨vp_in_nI (by omega) (by decide), ?_⟩) (fun z => br_t rfl (nm_r (nI_1 j) (ih _ (by rw [sp_or, if_neg z]; exact I))))
    rw [e2]
    exact nm_e (nm_r (nI_1 j) (ih _ (by rw [sp_or, if_pos z, I])))
theorem xl_used {i : Nat} (hi : i < 20) {post : Int32 → Prop} (h : post (sp_used o a b i)) : wpX_usedBy post (nI n, nI k, st, mv, ms, mc, sv, ch, ic, pa, oc, ss, tk, tn, o, d, a, b, ld, re, be, bo, cl, co, ne, fe, ip, ce, ou) (nI i) := by
  have e : (nI i).toNatClampNeg = i := nI_clamp (by omega)
  have v : vp_in (nI i) 20 := vp_in_nI (by omega) (by decide)
  have T : ∀ z : Int32, z = (if sp_ua (o i) = true then (1 : Int32) <<< (a i &&& 31) else 0) → wX_usedBy_24 post (nI i) z (nI n) (nI k) st mv ms mc sv ch ic pa oc ss tk tn o d a b ld re be bo cl co ne fe ip ce ou := by
    intro z ez
    unfold wX_usedBy_24
    rw [e]
    unfold sp_used at h
    rw [← ez] at h
    refine ⟨v, wk_ub (fun y => br_f (by decide) ⟨v, ?_⟩) (fun y => br_t rfl ?_)⟩
    · rw [if_pos y] at h
      exact h
    · rw [if_neg y, Int32.or_zero] at h
      exact h
  unfold wpX_usedBy
  dsimp only
  rw [e]
  exact ⟨v, wk_ua (fun y => br_f (by decide) ⟨v, T _ (if_pos y).symm⟩) (fun y => br_t rfl (T _ (if_neg y).symm))⟩
theorem xl_dfd {i : Nat} (hi : i < 20) {post : Int32 → Prop} (h : post (sp_dfd o d i)) : wpX_definedBy post (nI n, nI k, st, mv, ms, mc, sv, ch, ic, pa, oc, ss, tk, tn, o, d, a, b, ld, re, be, bo, cl, co, ne, fe, ip, ce, ou) (nI i) := by
  have e : (nI i).toNatClampNeg = i := nI_clamp (by omega)
  have v : vp_in (nI i) 20 := vp_in_nI (by omega) (by decide)
  unfold wpX_definedBy
  dsimp only
  rw [e]
  unfold sp_dfd at h
  refine ⟨v, wk_df (fun y => br_f (by decide) ⟨v, ?_⟩) (fun y => br_t rfl ?_)⟩
  · rw [if_pos y] at h
    exact h
  · rw [if_neg y] at h
    exact h
theorem xl_m1 (i : Nat) : nI i + (-1) = nI i - 1 := (Int32.sub_eq_add_neg _ _).symm
theorem xl_alive (hn : n ≤ 20) (ok : sp_ok o d a b n) (hl : ∀ j, j < n → ld j = sp_lead o a b n j) {post : SX → Prop} (h : ∀ B Bo, (∀ j, j < n → sp_is o d a b n (B j) j) → (∀ j, j < n → ∀ t, t < 32 → bt (Bo j) t = sp_bh o d a b n t j) → post (nI n, nI k, st, mv, ms, mc, sv, ch, ic, pa, oc, ss, tk, tn, o, d, a, b, ld, re, B, Bo, cl, co, ne, fe, ip, ce, ou)) : wpX_findAlive post (nI n, nI k, st, mv, ms, mc, sv, ch, ic, pa, oc, ss, tk, tn, o, d, a, b, ld, re, be, bo, cl, co, ne, fe, ip, ce, ou) := by
  refine pk_loop (fun m i (r : Nat → Int32) => wX_findAlive_2 post (nI n) (nI k) st mv ms mc sv ch ic pa oc ss tk tn m (nI i) o d a b ld re r bo cl co ne fe ip ce ou) (fun i r => ∀ j, j < i → r j = (fun _ => 0) j) n 0 be (Nat.zero_le n) (fun j hj => absurd hj (Nat.not_lt_zero j)) ?_ ?_
  · intro m r I
    refine br_t (Int32.le_refl _) ?_
    refine pk_loop (fun m p (s : (Nat → Int32) × (Nat → Int32)) => wX_findAlive_25 post (nI n) (nI k) st mv ms mc sv ch ic pa oc ss tk tn m (nI p) o d a b ld re s.1 s.2 cl co ne fe ip ce ou) (fun p s => (∀ j, j < n → sp_hi o d a b n (s.1 j) j) ∧ (∀ j, j < n → sp_lo o d a b n p (s.1 j) j) ∧ (n < p → ∀ j, j < n → ∀ t, t < 32 → bt (s.2 j) t = sp_bh o d a b n t j)) (n + 1) 0 (r, bo) (Nat.zero_le _) ⟨fun j hj => by show sp_hi o d a b n (r j) j; rw [I j hj]; exact sp_hi_0, fun j hj => sp_lo_0, fun z => absurd z (Nat.not_lt_zero n)⟩ ?_ ?_
    · intro m s I
      exact br_t (nI_lt (by omega) (by omega)) (h s.1 s.2 (fun j hj => sp_is_of (sp_lo_up (I.2.1 j hj)) (I.1 j hj)) (I.2.2 (by omega)))
    · intro m p s hp I ih
      refine br_f (nI_nlt (by omega) (by omega)) (nm_e ?_)
      have K := pk_loopD (fun q i (s : (Nat → Int32) × (Nat → Int32)) => wX_findAlive_40 post (wX_findAlive_25 post (nI n) (nI k) st mv ms mc sv ch ic pa oc ss tk tn m) (nI p) (nI n) (nI k) st mv ms mc sv ch ic pa oc ss tk tn q (nI i - 1) o d a b ld re s.1 s.2 cl co ne fe ip ce ou) (fun i s => i ≤ n ∧ (∀ j, j < n → sp_hi o d a b n (s.1 j) j) ∧ (∀ j, j < n → sp_lo o d a b n p (s.1 j) j) ∧ (∀ j, i ≤ j → j < n → sp_lo o d a b n (p + 1) (s.1 j) j) ∧ (n ≤ p → ∀ j, i ≤ j → j < n → ∀ t, t < 32 → bt (s.2 j) t = sp_bh o d a b n t j)) ?_ ?_ n s ⟨Nat.le_refl n, I.1, I.2.1, fun j p q => by omega, fun _ j p q => by omega⟩
      · exact ⟨n + 1, K⟩
      · intro q s I
        exact br_t (by decide) (nm_r (nI_1 p) (ih s ⟨I.2.1, fun j hj => I.2.2.2.1 j (Nat.zero_le j) hj, fun z j hj => I.2.2.2.2 (by omega) j (Nat.zero_le j) hj⟩))
      · intro q i s I ih
        obtain ⟨hi, I1, I2, I3, I4⟩ := I
        have e : (nI i).toNatClampNeg = i := nI_clamp (by omega)
        have v : vp_in (nI i) 20 := vp_in_nI (by omega) (by decide)
        have eL : sp_or (fun j => bt (ld i) j) s.1 n = sp_or (sp_L o a b i) s.1 n := sp_or_c (fun j hj => by rw [hl i (by omega), sp_lead_b hn, decide_eq_true hj]; rfl) (fun _ _ => rfl)
        rw [nI_pred]
        refine br_f (nI_pos (by omega)) (xl_after hn (by omega) ⟨v, ?_⟩)
        rw [e, eL]
        refine nm_e (xl_used (by omega) ⟨v, xl_dfd (by omega) ⟨v, ?_⟩⟩)
        rw [pk_us]
        refine nm_e (nm_r (xl_m1 i) (ih (upd s.1 i (sp_new o d a b n s.1 i), upd s.2 i (sp_or (sp_L o a b i) s.1 n)) ⟨by omega, ?_, ?_, ?_, ?_⟩))
        · intro j hj
          show sp_hi o d a b n (upd s.1 i (sp_new o d a b n s.1 i) j) j
          by_cases z : j = i
          · rw [z, pk_us]
            exact sp_new_hi ok (by omega) I1
          · rw [pk_un z]
            exact I1 j hj
        · intro j hj
          show sp_lo o d a b n p (upd s.1 i (sp_new o d a b n s.1 i) j) j
          by_cases z : j = i
          · rw [z, pk_us]
            exact sp_lo_up (sp_new_lo ok (by omega) I2)
          · rw [pk_un z]
            exact I2 j hj
        · intro j hj hj2
          show sp_lo o d a b n (p + 1) (upd s.1 i (sp_new o d a b n s.1 i) j) j
          by_cases z : j = i
          · rw [z, pk_us]
            exact sp_new_lo ok (by omega) I2
          · rw [pk_un z]
            exact I3 j (by omega) hj2
        · intro hp2 j hj hj2 t ht
          show bt (upd s.2 i (sp_or (sp_L o a b i) s.1 n) j) t = _
          by_cases z : j = i
          · rw [z, pk_us]
            exact sp_bh_b (fun j hj => sp_is_of (fun t ht e => I2 j hj t ht (lf_mon2 hp2 j e)) (I1 j hj)) ht
          · rw [pk_un z]
            exact I4 hp2 j (by omega) hj2 t ht
  · intro m i r hi I ih
    have e : (nI i).toNatClampNeg = i := nI_clamp (by omega)
    have v : vp_in (nI i) 20 := vp_in_nI (by omega) (by decide)
    refine br_f (nI_ge hi (by omega)) ⟨v, ?_⟩
    rw [e]
    exact nm_e (nm_r (nI_1 i) (ih _ (up_lt I rfl)))
end
