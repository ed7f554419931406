section
variable {n k m v : Nat} {st mv mc sv ic pa oc ss tk tn : Int32} {o d a b ld re be bo cl co ne fe ip ce ou : Nat → Int32} {kn pl me sa wa fw : Int32} {yb yw yc yo ys yt yl yp : Nat → Int32}
/-! values: what X's valueOf gives -/
theorem rv_0 {i : Nat} (hi : i < 20) (h : o i = 0) {post : Int32 → SX → Prop} (hp : post (a i) (nI n, nI k, st, mv, nI m, mc, sv, nI v, ic, pa, oc, ss, tk, tn, o, d, a, b, ld, re, be, bo, cl, co, ne, fe, ip, ce, ou)) : wpX_valueOf post (nI n, nI k, st, mv, nI m, mc, sv, nI v, ic, pa, oc, ss, tk, tn, o, d, a, b, ld, re, be, bo, cl, co, ne, fe, ip, ce, ou) (nI i) := by
  have e : (nI i).toNatClampNeg = i := nI_clamp (by omega)
  have w : vp_in (nI i) 20 := vp_in_nI (by omega) (by decide)
  unfold wpX_valueOf
  dsimp only
  rw [e]
  exact ⟨w, br_t h ⟨w, hp⟩⟩
theorem rv_9 {i : Nat} {q z : Nat} (hq : q < 2 ^ 30) (hz : z ≤ 8) (hi : i < 20) (h : o i = 9) {post : Int32 → SX → Prop} (hp : post (if q < z then ip q else 0) (nI n, nI k, st, mv, nI m, mc, sv, nI v, nI z, pa, oc, ss, tk, nI (q + 1), o, d, a, b, ld, re, be, bo, cl, co, ne, fe, ip, ce, ou)) : wpX_valueOf post (nI n, nI k, st, mv, nI m, mc, sv, nI v, nI z, pa, oc, ss, tk, nI q, o, d, a, b, ld, re, be, bo, cl, co, ne, fe, ip, ce, ou) (nI i) := by
  have e : (nI i).toNatClampNeg = i := nI_clamp (by omega)
  have w : vp_in (nI i) 20 := vp_in_nI (by omega) (by decide)
  unfold wpX_valueOf
  dsimp only
  rw [e]
  refine ⟨w, br_f (by rw [h]; decide) ⟨w, br_t h ?_⟩⟩
  by_cases c : q < z
  · rw [if_pos c] at hp
    refine br_f (nI_ge c (by omega)) ⟨vp_in_nI (by omega) (by decide), ?_⟩
    rw [nI_clamp (by omega)]
    exact nm_r (nI_1 q) hp
  · rw [if_neg c] at hp
    exact br_t (nI_le (by omega) (by omega)) (nm_r (nI_1 q) hp)
theorem rv_5 (hv : v < 65536) {i t : Nat} (ht : t < 8) (et : a i = nI t) (hi : i < 20) (h : o i = 5) {post : Int32 → SX → Prop} (hp : post (ce (rn_cell m (xd_g v) t)) (nI n, nI k, st, mv, nI m, mc, sv, nI v, ic, pa, oc, ss, tk, tn, o, d, a, b, ld, re, be, bo, cl, co, ne, fe, ip, ce, ou)) : wpX_valueOf post (nI n, nI k, st, mv, nI m, mc, sv, nI v, ic, pa, oc, ss, tk, tn, o, d, a, b, ld, re, be, bo, cl, co, ne, fe, ip, ce, ou) (nI i) := by
  have e : (nI i).toNatClampNeg = i := nI_clamp (by omega)
  have w : vp_in (nI i) 20 := vp_in_nI (by omega) (by decide)
  unfold wpX_valueOf
  dsimp only
  rw [e, et]
  exact ⟨w, br_f (by rw [h]; decide) ⟨w, br_f (by rw [h]; decide) ⟨w, rx_read hv ht ⟨w, br_t h hp⟩⟩⟩⟩
/-- the value of an operation on two -/
def rv_op (q : Int32) (x y : Int32) : Int32 := if q = 1 then x + y else if q = 2 then x - y else if q = 3 then x * y else if y ≤ x then 0 else 1
theorem rv_2 (hv : v < 65536) {i t u : Nat} (ht : t < 8) (et : a i = nI t) (hu : u < 8) (eu : b i = nI u) (hi : i < 20) (h : o i = 1 ∨ o i = 2 ∨ o i = 3 ∨ o i = 4) {post : Int32 → SX → Prop} (hp : post (rv_op (o i) (ce (rn_cell m (xd_g v) t)) (ce (rn_cell m (xd_g v) u))) (nI n, nI k, st, mv, nI m, mc, sv, nI v, ic, pa, oc, ss, tk, tn, o, d, a, b, ld, re, be, bo, cl, co, ne, fe, ip, ce, ou)) : wpX_valueOf post (nI n, nI k, st, mv, nI m, mc, sv, nI v, ic, pa, oc, ss, tk, tn, o, d, a, b, ld, re, be, bo, cl, co, ne, fe, ip, ce, ou) (nI i) := by
  have e : (nI i).toNatClampNeg = i := nI_clamp (by omega)
  have w : vp_in (nI i) 20 := vp_in_nI (by omega) (by decide)
  have n0 : ¬ o i = 0 := by rcases h with h | h | h | h <;> rw [h] <;> decide
  have n9 : ¬ o i = 9 := by rcases h with h | h | h | h <;> rw [h] <;> decide
  have n5 : ¬ o i = 5 := by rcases h with h | h | h | h <;> rw [h] <;> decide
  unfold wpX_valueOf
  dsimp only
  rw [e, et, eu]
  refine ⟨w, br_f n0 ⟨w, br_f n9 ⟨w, rx_read hv ht ⟨w, br_f n5 ⟨w, rx_read hv hu ⟨w, nm_e ?_⟩⟩⟩⟩⟩⟩
  rcases h with h | h | h | h
  · rw [h] at hp ⊢
    exact br_f (by decide) (br_f (by decide) (br_t rfl hp))
  · rw [h] at hp ⊢
    exact br_f (by decide) (br_f (by decide) (br_f (by decide) (br_t rfl hp)))
  · rw [h] at hp ⊢
    exact br_f (by decide) (br_f (by decide) (br_f (by decide) (br_f (by decide) (br_t rfl hp))))
  · rw [h] at hp ⊢
    rw [rv_op, if_neg (by decide), if_neg (by decide), if_neg (by decide)] at hp
    refine br_f (by decide) (br_t (by decide) (br_c (fun z => ?_) (fun z => ?_)))
    · rw [if_pos z] at hp
      exact hp
    · rw [if_neg z] at hp
      exact hp
/-! X's step -/
theorem rs_def (hv : v < 65536) {i t : Nat} (ht : t < 8) (et : d i = nI t) (hi : i < 20) (h : sp_df (o i) = true) {x tn' : Int32} {post : SX → Prop} (V : ∀ P : Int32 → SX → Prop, P x (nI n, nI k, st, mv, nI m, mc, sv, nI v, ic, nI (i + 1), oc, ss, tk, tn', o, d, a, b, ld, re, be, bo, cl, co, ne, fe, ip, ce, ou) → wpX_valueOf P (nI n, nI k, st, mv, nI m, mc, sv, nI v, ic, nI (i + 1), oc, ss, tk, tn, o, d, a, b, ld, re, be, bo, cl, co, ne, fe, ip, ce, ou) (nI i)) (hp : post (nI n, nI k, st, mv, nI m, mc, sv, nI v, ic, nI (i + 1), oc, ss, tk, tn', o, d, a, b, ld, re, be, bo, cl, co, ne, fe, ip, upd ce (rn_cell m (xd_g v) t) x, ou)) : wX_doInstruction_44 post (nI i) (nI n) (nI k) st mv (nI m) mc sv (nI v) ic pa oc ss tk tn o d a b ld re be bo cl co ne fe ip ce ou := by
  have e : (nI i).toNatClampNeg = i := nI_clamp (by omega)
  have w : vp_in (nI i) 20 := vp_in_nI (by omega) (by decide)
  have lt := rn_cell_lt (m := m) (v := v) ht
  unfold wX_doInstruction_44
  rw [e, et]
  refine nm_r (nI_1 i) ⟨w, wk_df (fun y => br_f (by decide) ⟨w, rx_cell hv ht (V _ ⟨vp_in_nI lt (by decide), ?_⟩)⟩) (fun y => absurd h y)⟩
  rw [nI_clamp (by omega)]
  exact nm_e hp
theorem rs_6 {i : Nat} (hi : i < 20) (h : o i = 6) {post : SX → Prop} (hp : post (nI n, nI k, st, mv, nI m, mc, sv, nI v, ic, a i, oc, ss, tk, tn, o, d, a, b, ld, re, be, bo, cl, co, ne, fe, ip, ce, ou)) : wX_doInstruction_44 post (nI i) (nI n) (nI k) st mv (nI m) mc sv (nI v) ic pa oc ss tk tn o d a b ld re be bo cl co ne fe ip ce ou := by
  have e : (nI i).toNatClampNeg = i := nI_clamp (by omega)
  have w : vp_in (nI i) 20 := vp_in_nI (by omega) (by decide)
  unfold wX_doInstruction_44
  rw [e]
  exact nm_r (nI_1 i) ⟨w, wk_df (fun y => absurd y (by rw [h]; decide)) (fun y => br_t rfl ⟨w, br_t h ⟨w, nm_e hp⟩⟩)⟩
theorem rs_7 (hv : v < 65536) {i t : Nat} (ht : t < 8) (et : a i = nI t) (hi : i < 20) (h : o i = 7) {post : SX → Prop} (hp : post (nI n, nI k, st, mv, nI m, mc, sv, nI v, ic, (if ce (rn_cell m (xd_g v) t) = 0 then b i else nI (i + 1)), oc, ss, tk, tn, o, d, a, b, ld, re, be, bo, cl, co, ne, fe, ip, ce, ou)) : wX_doInstruction_44 post (nI i) (nI n) (nI k) st mv (nI m) mc sv (nI v) ic pa oc ss tk tn o d a b ld re be bo cl co ne fe ip ce ou := by
  have e : (nI i).toNatClampNeg = i := nI_clamp (by omega)
  have w : vp_in (nI i) 20 := vp_in_nI (by omega) (by decide)
  unfold wX_doInstruction_44
  rw [e, et]
  refine nm_r (nI_1 i) ⟨w, wk_df (fun y => absurd y (by rw [h]; decide)) (fun y => br_t rfl ⟨w, br_f (by rw [h]; decide) ⟨w, br_t h ⟨w, rx_read hv ht (br_c (fun z => ⟨w, nm_e ?_⟩) (fun z => ?_))⟩⟩⟩)⟩
  · rw [if_pos z] at hp
    exact hp
  · rw [if_neg z] at hp
    exact hp
theorem rs_8 (hv : v < 65536) {i t q : Nat} (hq : q < 2 ^ 30) (ht : t < 8) (et : a i = nI t) (hi : i < 20) (h : o i = 8) {post : SX → Prop} (hp : post (nI n, nI k, st, mv, nI m, mc, sv, nI v, ic, nI (i + 1), nI (q + 1), ss, tk, tn, o, d, a, b, ld, re, be, bo, cl, co, ne, fe, ip, ce, (if q < 30 then upd ou q (ce (rn_cell m (xd_g v) t)) else ou))) : wX_doInstruction_44 post (nI i) (nI n) (nI k) st mv (nI m) mc sv (nI v) ic pa (nI q) ss tk tn o d a b ld re be bo cl co ne fe ip ce ou := by
  have e : (nI i).toNatClampNeg = i := nI_clamp (by omega)
  have w : vp_in (nI i) 20 := vp_in_nI (by omega) (by decide)
  unfold wX_doInstruction_44
  rw [e, et]
  refine nm_r (nI_1 i) ⟨w, wk_df (fun y => absurd y (by rw [h]; decide)) (fun y => br_t rfl ⟨w, br_f (by rw [h]; decide) ⟨w, br_f (by rw [h]; decide) ⟨w, br_t h ⟨w, rx_read hv ht ?_⟩⟩⟩⟩)⟩
  by_cases c : q < 30
  · rw [if_pos c] at hp
    refine br_f (nI_ge (b := 30) c (by decide)) ⟨vp_in_nI c (by decide), ?_⟩
    rw [nI_clamp (by omega)]
    exact nm_e (nm_r (nI_1 q) hp)
  · rw [if_neg c] at hp
    exact br_t (nI_le (a := 30) (by omega) (by omega)) (nm_r (nI_1 q) hp)
theorem rs_10 {i : Nat} (hi : i < 20) (h : o i = 10) {post : SX → Prop} (hp : post (nI n, nI k, st, mv, nI m, mc, sv, nI v, ic, nI n, oc, ss, tk, tn, o, d, a, b, ld, re, be, bo, cl, co, ne, fe, ip, ce, ou)) : wX_doInstruction_44 post (nI i) (nI n) (nI k) st mv (nI m) mc sv (nI v) ic pa oc ss tk tn o d a b ld re be bo cl co ne fe ip ce ou := by
  have e : (nI i).toNatClampNeg = i := nI_clamp (by omega)
  have w : vp_in (nI i) 20 := vp_in_nI (by omega) (by decide)
  unfold wX_doInstruction_44
  rw [e]
  exact nm_r (nI_1 i) ⟨w, wk_df (fun y => absurd y (by rw [h]; decide)) (fun y => br_t rfl ⟨w, br_f (by rw [h]; decide) ⟨w, br_f (by rw [h]; decide) ⟨w, br_f (by rw [h]; decide) hp⟩⟩⟩)⟩
/-! Y's step -/
theorem rt_05 {i t : Nat} (ht : t < 8) (hn : n ≤ 20) (hi : i < n) {q d' a' b' x z : Int32} (et : d' = nI t) (h : q = 0 ∨ q = 5) {post : Int32 → SY → Prop} (hp : post (nI (i + 1)) (nI n, nI k, kn, pl, me, sa, wa, fw, o, d, a, b, yb, yw, yc, yo, ys, yt, ip, ou, upd yl t x, yp)) : wY_step_70 post (nI i) q d' a' b' x z (nI n) (nI k) kn pl me sa wa fw o d a b yb yw yc yo ys yt ip ou yl yp := by
  have w : vp_in (nI t) 8 := vp_in_nI ht (by decide)
  subst et
  have G : wY_step_128 post (nI i) (nI t) x (nI n) (nI k) kn pl me sa wa fw o d a b yb yw yc yo ys yt ip ou yl yp := by
    unfold wY_step_128
    rw [nI_clamp (by omega), nI_1]
    exact ⟨w, nm_e hp⟩
  rcases h with h | h
  · subst h
    exact br_f (by decide) (br_f (by decide) (br_t rfl G))
  · subst h
    exact br_f (by decide) (br_f (by decide) (br_f (by decide) (br_f (by decide) (br_f (by decide) (br_f (by decide) (br_f (by decide) (br_t rfl G)))))))
theorem rt_op {i t : Nat} (ht : t < 8) (hn : n ≤ 20) (hi : i < n) {q d' a' b' x z : Int32} (et : d' = nI t) (h : q = 1 ∨ q = 2 ∨ q = 3 ∨ q = 4) {post : Int32 → SY → Prop} (hp : post (nI (i + 1)) (nI n, nI k, kn, pl, me, sa, wa, fw, o, d, a, b, yb, yw, yc, yo, ys, yt, ip, ou, upd yl t (rv_op q x z), yp)) : wY_step_70 post (nI i) q d' a' b' x z (nI n) (nI k) kn pl me sa wa fw o d a b yb yw yc yo ys yt ip ou yl yp := by
  have w : vp_in (nI t) 8 := vp_in_nI ht (by decide)
  subst et
  unfold wY_step_70
  rw [nI_clamp (by omega), nI_1]
  rcases h with h | h | h | h
  · subst h
    exact br_f (by decide) (br_f (by decide) (br_f (by decide) (br_t rfl ⟨w, nm_e hp⟩)))
  · subst h
    exact br_f (by decide) (br_f (by decide) (br_f (by decide) (br_f (by decide) (br_t rfl ⟨w, nm_e hp⟩))))
  · subst h
    exact br_f (by decide) (br_f (by decide) (br_f (by decide) (br_f (by decide) (br_f (by decide) (br_t rfl ⟨w, nm_e hp⟩)))))
  · subst h
    rw [rv_op, if_neg (by decide), if_neg (by decide), if_neg (by decide)] at hp
    refine br_f (by decide) (br_f (by decide) (br_f (by decide) (br_f (by decide) (br_f (by decide) (br_f (by decide) (br_t rfl (br_c (fun y => ⟨w, nm_e ?_⟩) (fun y => ⟨w, nm_e ?_⟩))))))))
    · rw [if_pos y] at hp
      exact hp
    · rw [if_neg y] at hp
      exact hp
theorem rt_6 {i t : Nat} (ht : t ≤ 20) (hn : n ≤ 20) {d' a' b' x z : Int32} (et : a' = nI t) {post : Int32 → SY → Prop} (hp : post (nI (if t < n then t else n)) (nI n, nI k, kn, pl, me, sa, wa, fw, o, d, a, b, yb, yw, yc, yo, ys, yt, ip, ou, yl, yp)) : wY_step_70 post (nI i) 6 d' a' b' x z (nI n) (nI k) kn pl me sa wa fw o d a b yb yw yc yo ys yt ip ou yl yp := by
  subst et
  refine br_f (by decide) (br_f (by decide) (br_f (by decide) (br_f (by decide) (br_f (by decide) (br_f (by decide) (br_f (by decide) (br_f (by decide) (br_t rfl (yk_end hn (by omega) (fun y => ?_) (fun y => ?_))))))))))
  · rw [if_neg (by omega)] at hp
    exact hp
  · rw [if_pos y] at hp
    exact hp
theorem rt_7 {i t : Nat} (ht : t ≤ 20) (hn : n ≤ 20) {d' a' b' x z : Int32} (et : b' = nI t) {post : Int32 → SY → Prop} (A : x = 0 → post (nI (if t < n then t else n)) (nI n, nI k, kn, pl, me, sa, wa, fw, o, d, a, b, yb, yw, yc, yo, ys, yt, ip, ou, yl, yp)) (B : ¬ x = 0 → post (nI (i + 1)) (nI n, nI k, kn, pl, me, sa, wa, fw, o, d, a, b, yb, yw, yc, yo, ys, yt, ip, ou, yl, yp)) : wY_step_70 post (nI i) 7 d' a' b' x z (nI n) (nI k) kn pl me sa wa fw o d a b yb yw yc yo ys yt ip ou yl yp := by
  subst et
  rw [← nI_1] at B
  refine br_f (by decide) (br_f (by decide) (br_f (by decide) (br_f (by decide) (br_f (by decide) (br_f (by decide) (br_f (by decide) (br_f (by decide) (br_f (by decide) (br_t rfl (br_c (fun c => yk_end hn (by omega) (fun y => ?_) (fun y => ?_)) B))))))))))
  · have hp := A c
    rw [if_neg (by omega)] at hp
    exact hp
  · have hp := A c
    rw [if_pos y] at hp
    exact hp
theorem rt_8 {i q : Nat} (hq : q < 2 ^ 30) (e0 : yp 0 = nI q) {d' a' b' x z : Int32} {post : Int32 → SY → Prop} (hp : ∀ yq, yq 0 = nI (q + 1) → yq 1 = yp 1 → yq 2 = yp 2 → yq 3 = yp 3 → post (nI (i + 1)) (nI n, nI k, kn, pl, me, sa, wa, fw, o, d, a, b, yb, yw, yc, yo, ys, yt, ip, (if q < 30 then upd ou q x else ou), yl, yq)) : wY_step_70 post (nI i) 8 d' a' b' x z (nI n) (nI k) kn pl me sa wa fw o d a b yb yw yc yo ys yt ip ou yl yp := by
  have G : ∀ ov, ov = (if q < 30 then upd ou q x else ou) → wY_step_256 post (nI i) (nI n) (nI k) kn pl me sa wa fw o d a b yb yw yc yo ys yt ip ov yl yp := by
    intro ov eo
    subst eo
    unfold wY_step_256
    rw [nI_1, e0]
    exact nm_e (hp _ (by rw [pk_us, nI_1]) (pk_un (by decide)) (pk_un (by decide)) (pk_un (by decide)))
  refine br_f (by decide) (br_f (by decide) (br_f (by decide) (br_f (by decide) (br_f (by decide) (br_f (by decide) (br_f (by decide) (br_f (by decide) (br_f (by decide) (br_f (by decide) (br_t rfl ?_))))))))))
  rw [e0]
  by_cases c : q < 30
  · refine br_f (nI_ge (b := 30) c (by decide)) ⟨vp_in_nI c (by decide), ?_⟩
    rw [nI_clamp (by omega)]
    exact nm_e (G _ (if_pos c).symm)
  · exact br_t (nI_le (a := 30) (by omega) (by omega)) (G _ (if_neg c).symm)
theorem rt_9 {i t q w : Nat} (ht : t < 8) (hq : q < 2 ^ 30) (hw : w ≤ 8) (e3 : yp 3 = nI q) {d' a' b' x z : Int32} (et : d' = nI t) {post : Int32 → SY → Prop} (hp : ∀ yq, yq 0 = yp 0 → yq 1 = yp 1 → yq 2 = yp 2 → yq 3 = nI (q + 1) → post (nI (i + 1)) (nI n, nI k, kn, pl, me, sa, nI w, fw, o, d, a, b, yb, yw, yc, yo, ys, yt, ip, ou, upd yl t (if q < w then ip q else 0), yq)) : wY_step_70 post (nI i) 9 d' a' b' x z (nI n) (nI k) kn pl me sa (nI w) fw o d a b yb yw yc yo ys yt ip ou yl yp := by
  have vt : vp_in (nI t) 8 := vp_in_nI ht (by decide)
  subst et
  have G : ∀ y, y = (if q < w then ip q else 0) → wY_step_303 post (nI i) y (nI t) (nI n) (nI k) kn pl me sa (nI w) fw o d a b yb yw yc yo ys yt ip ou yl yp := by
    intro y ey
    subst ey
    unfold wY_step_303
    rw [nI_1, e3, nI_clamp (by omega)]
    exact ⟨vt, nm_e (nm_e (hp _ (pk_un (by decide)) (pk_un (by decide)) (pk_un (by decide)) (by rw [pk_us, nI_1])))⟩
  refine br_f (by decide) (br_f (by decide) (br_f (by decide) (br_f (by decide) (br_f (by decide) (br_f (by decide) (br_f (by decide) (br_f (by decide) (br_f (by decide) (br_f (by decide) (br_f (by decide) (br_t rfl ?_)))))))))))
  rw [e3]
  by_cases c : q < w
  · refine br_f (nI_ge c (by omega)) ⟨vp_in_nI (by omega) (by decide), ?_⟩
    rw [nI_clamp (by omega)]
    exact G _ (if_pos c).symm
  · exact br_t (nI_le (by omega) (by omega)) (G _ (if_neg c).symm)
theorem rt_10 {i : Nat} {d' a' b' x z : Int32} {post : Int32 → SY → Prop} (hp : post (nI n) (nI n, nI k, kn, pl, me, sa, wa, fw, o, d, a, b, yb, yw, yc, yo, ys, yt, ip, ou, yl, yp)) : wY_step_70 post (nI i) 10 d' a' b' x z (nI n) (nI k) kn pl me sa wa fw o d a b yb yw yc yo ys yt ip ou yl yp :=
  br_f (by decide) (br_t (by decide) hp)
end
