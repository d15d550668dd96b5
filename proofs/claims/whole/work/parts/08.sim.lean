/-! the two loops -/
section SM
variable {W : Nat} {LL : Nat → Nat} {PP DD : Nat → Nat → Nat}
variable {nh wc wd cv sd pr st cc lo ov yh : Int32} {ho xn wa go pa co ca wl sk ce tx cw cp cl li lc yn le op nn pt oq ya : Nat → Int32}
def fc_XL (post : Int32 → SX → Prop) (n : Nat) (r j : Int32) (u : SX) : Prop := match u with
  | (nh, wc, wd, cv, sd, pr, st, cc, lo, ho, xn, wa, go, pa, co, ca, wl, sk, ce, tx, cw, cp, cl, li, lc) => wX_run_44 post n r j nh wc wd cv sd pr st cc lo ho xn wa go pa co ca wl sk ce tx cw cp cl li lc
def fc_YL (post : Int32 → SY → Prop) (n : Nat) (j : Int32) (v : SY) : Prop := match v with
  | (nh, wd, sd, cc, lo, st, pr, ov, yh, ho, yn, le, op, nn, pt, ce, sk, oq, cw, ya, cl, li, lc, tx) => wY_run_50 post n j nh wd sd cc lo st pr ov yh ho yn le op nn pt ce sk oq cw ya cl li lc tx
theorem fn_m1 {f : Nat} (h : f < 2 ^ 31) : ¬ nI f = -1 := by
  intro e
  have z := nI_pos (n := f) h
  rw [e] at z
  exact z (by decide)
theorem xl_s {post : Int32 → SX → Prop} {n j : Nat} {r : Int32} {u u' : SX} (hj : j < 1000000) (H : ∀ p : Int32 → SX → Prop, p r u' → wpX_takeTurn p u) (h : fc_XL post n r (nI (j + 1)) u') : fc_XL post (n + 1) (-1) (nI j) u := by
  obtain ⟨o0, o1, o2, o3, o4, o5, o6, o7, o8, o9, o10, o11, o12, o13, o14, o15, o16, o17, o18, o19, o20, o21, o22, o23, o24⟩ := u
  obtain ⟨q0, q1, q2, q3, q4, q5, q6, q7, q8, q9, q10, q11, q12, q13, q14, q15, q16, q17, q18, q19, q20, q21, q22, q23, q24⟩ := u'
  unfold fc_XL at h ⊢
  dsimp only at h ⊢
  rw [wX_run_44]
  refine br_f (nI_ge (b := 1000000) hj (by decide)) (br_t rfl (H _ ?_))
  exact nm_r (nI_1 j) h
theorem xl_e0 {post : Int32 → SX → Prop} {n j : Nat} (hj : j < 1000000) (h : post 0 (nh, wc, wd, cv, sd, pr, st, cc, lo, ho, xn, wa, go, pa, co, ca, wl, sk, ce, tx, cw, cp, cl, li, lc)) : fc_XL post (n + 1) 0 (nI j) (nh, wc, wd, cv, sd, pr, st, cc, lo, ho, xn, wa, go, pa, co, ca, wl, sk, ce, tx, cw, cp, cl, li, lc) := by
  unfold fc_XL
  dsimp only
  rw [wX_run_44]
  exact br_f (nI_ge (b := 1000000) hj (by decide)) (br_f (by decide) (br_t rfl h))
theorem xl_e1 {post : Int32 → SX → Prop} {n j f : Nat} (hj : j < 1000000) (hf : 1 ≤ f ∧ f ≤ 5) (h : post (nI f) (nh, wc, wd, cv, 0, pr, st, cc, lo, ho, xn, wa, go, pa, co, ca, wl, sk, ce, tx, cw, cp, cl, li, lc)) : fc_XL post (n + 1) (nI f) (nI j) (nh, wc, wd, cv, sd, pr, st, cc, lo, ho, xn, wa, go, pa, co, ca, wl, sk, ce, tx, cw, cp, cl, li, lc) := by
  unfold fc_XL
  dsimp only
  rw [wX_run_44]
  exact br_f (nI_ge (b := 1000000) hj (by decide)) (br_f (fn_m1 (by omega)) (br_f (fn_ne (m := 0) (by omega)) h))
theorem yl_s {post : Int32 → SY → Prop} {n j k : Nat} {v' : SY} (hj : j < 9000) (hk : k < 8) (H : ∀ q : SY → Prop, q v' → wpY_step q (nh, wd, sd, nI (k + 1), lo, st, pr, 0, yh, ho, yn, le, op, nn, pt, ce, sk, oq, cw, ya, cl, li, lc, tx)) (h : fc_YL post n (nI (j + 1)) v') : fc_YL post (n + 1) (nI j) (nh, wd, sd, nI (k + 1), lo, st, pr, 0, yh, ho, yn, le, op, nn, pt, ce, sk, oq, cw, ya, cl, li, lc, tx) := by
  obtain ⟨o0, o1, o2, o3, o4, o5, o6, o7, o8, o9, o10, o11, o12, o13, o14, o15, o16, o17, o18, o19, o20, o21, o22, o23⟩ := v'
  unfold fc_YL at h ⊢
  dsimp only at h ⊢
  rw [wY_run_50]
  refine br_f (nI_ge (b := 9000) hj (by decide)) (br_t rfl (br_f (fn_ne (m := 0) (by omega)) (H _ ?_)))
  exact nm_r (nI_1 j) h
theorem yl_0 {post : Int32 → SY → Prop} {n j : Nat} (hj : j < 9000) (h : fc_YL post n (nI (j + 1)) (nh, wd, sd, 0, lo, st, pr, 1, 0, ho, yn, le, op, nn, pt, ce, sk, oq, cw, ya, cl, li, lc, tx)) : fc_YL post (n + 1) (nI j) (nh, wd, sd, 0, lo, st, pr, 0, yh, ho, yn, le, op, nn, pt, ce, sk, oq, cw, ya, cl, li, lc, tx) := by
  unfold fc_YL at h ⊢
  dsimp only at h ⊢
  rw [wY_run_50]
  refine br_f (nI_ge (b := 9000) hj (by decide)) (br_t rfl (br_t rfl ?_))
  exact nm_r (nI_1 j) h
theorem yl_e0 {post : Int32 → SY → Prop} {n j : Nat} (hj : j < 9000) (h : post 0 (nh, wd, sd, cc, lo, st, pr, 1, 0, ho, yn, le, op, nn, pt, ce, sk, oq, cw, ya, cl, li, lc, tx)) : fc_YL post (n + 1) (nI j) (nh, wd, sd, cc, lo, st, pr, 1, 0, ho, yn, le, op, nn, pt, ce, sk, oq, cw, ya, cl, li, lc, tx) := by
  unfold fc_YL
  dsimp only
  rw [wY_run_50]
  exact br_f (nI_ge (b := 9000) hj (by decide)) (br_f fn_10 (br_t rfl h))
theorem yl_e1 {post : Int32 → SY → Prop} {n j f : Nat} (hj : j < 9000) (hf : 1 ≤ f ∧ f ≤ 5) (h : post (nI f) (nh, wd, 0, cc, lo, st, pr, 1, nI f, ho, yn, le, op, nn, pt, ce, sk, oq, cw, ya, cl, li, lc, tx)) : fc_YL post (n + 1) (nI j) (nh, wd, sd, cc, lo, st, pr, 1, nI f, ho, yn, le, op, nn, pt, ce, sk, oq, cw, ya, cl, li, lc, tx) := by
  unfold fc_YL
  dsimp only
  rw [wY_run_50]
  exact br_f (nI_ge (b := 9000) hj (by decide)) (br_f fn_10 (br_f (fn_ne (m := 0) (by omega)) h))
/-- what a run leaves -/
def fc_Out (nh wc wd cv : Int32) (ho xn wa go pa co ca wl yn le op nn pt oq : Nat → Int32) (r : Int32) (u : SX) (v : SY) : Prop :=
  ∃ (s d p : Nat) (cc lo ov yh : Int32) (sk ce tx cw cp cl li lc ya : Nat → Int32), s ≤ 300 ∧ d ≤ 12 ∧ p ≤ 7 * s ∧ fc_Sh sk ∧ fc_Sh ce ∧ fc_Sh li ∧ fc_Sh lc ∧
    u = (nh, wc, wd, cv, nI d, nI p, nI s, cc, lo, ho, xn, wa, go, pa, co, ca, wl, sk, ce, tx, cw, cp, cl, li, lc) ∧ v = (nh, wd, nI d, cc, lo, nI s, nI p, ov, yh, ho, yn, le, op, nn, pt, ce, sk, oq, cw, ya, cl, li, lc, tx)
theorem fc_sim (hW : W ≤ 10) (hWs : fc_Words W LL PP DD le op nn pt wl co ca) : ∀ (m : Nat) (u : SX) (v : SY), fc_Rn W LL PP DD nh wc wd cv yh ho xn wa go pa co ca wl yn le op nn pt oq m u v →
    ∀ jx jy nx ny : Nat, jx + m + 4 ≤ 1000000 → jy + m + 4 ≤ 9000 → m + 4 ≤ nx → m + 4 ≤ ny →
    ∃ (r : Int32) (u' : SX) (v' : SY), fc_Out nh wc wd cv ho xn wa go pa co ca wl yn le op nn pt oq r u' v' ∧
      (∀ post : Int32 → SX → Prop, post r u' → fc_XL post nx (-1) (nI jx) u) ∧ (∀ post : Int32 → SY → Prop, post r v' → fc_YL post ny (nI jy) v) := by
  intro m
  induction m using Nat.strongRecOn with
  | ind m ih =>
    intro u v h jx jy nx ny h1 h2 h3 h4
    have T := fc_turn hW hWs h
    obtain ⟨k, s, d, p, l, gw, ga, gb, sk, ce, tx, cw, cp, cl, li, lc, ya, eu, ev, hk, _⟩ := h
    subst ev
    obtain ⟨nx, rfl⟩ : ∃ i, nx = i + 1 := ⟨nx - 1, by omega⟩
    obtain ⟨ny, rfl⟩ : ∃ i, ny = i + 1 := ⟨ny - 1, by omega⟩
    rcases T with ⟨v', n, hn, hR, hY⟩ | ⟨r, u', v', hX, hY, ⟨er, n, hn, hR⟩ | hFn⟩
    · obtain ⟨r, u', w', hO, oX, oY⟩ := ih n hn u v' hR jx (jy + 1) (nx + 1) ny (by omega) (by omega) (by omega) (by omega)
      exact ⟨r, u', w', hO, oX, fun post hp => yl_s (by omega) hk hY (oY post hp)⟩
    · subst er
      obtain ⟨r, x', w', hO, oX, oY⟩ := ih n hn u' v' hR (jx + 1) (jy + 1) nx ny (by omega) (by omega) (by omega) (by omega)
      exact ⟨r, x', w', hO, fun post hp => xl_s (by omega) hX (oX post hp), fun post hp => yl_s (by omega) hk hY (oY post hp)⟩
    · obtain ⟨nx, rfl⟩ : ∃ i, nx = i + 1 := ⟨nx - 1, by omega⟩
      obtain ⟨ny, rfl⟩ : ∃ i, ny = i + 1 + 1 := ⟨ny - 2, by omega⟩
      obtain ⟨s, d, p, cc, lo, sk, ce, tx, cw, cp, cl, li, lc, ya, b1, b2, b3, b4, b5, b6, b7, rfl, hE⟩ := hFn
      rcases hE with ⟨rfl, rfl, rfl⟩ | ⟨f, f1, f5, rfl, rfl⟩
      · refine ⟨0, _, _, ⟨s, d, p, 0, lo, 1, 0, sk, ce, tx, cw, cp, cl, li, lc, ya, b1, b2, b3, b4, b5, b6, b7, rfl, rfl⟩, fun post hp => xl_s (by omega) hX (xl_e0 (by omega) hp), fun post hp => yl_s (by omega) hk hY (yl_0 (by omega) (yl_e0 (by omega) hp))⟩
      · refine ⟨nI f, _, _, ⟨s, 0, p, cc, lo, 1, nI f, sk, ce, tx, cw, cp, cl, li, lc, ya, b1, by omega, b3, b4, b5, b6, b7, rfl, rfl⟩, fun post hp => xl_s (by omega) hX (xl_e1 (by omega) ⟨f1, f5⟩ hp), fun post hp => yl_s (by omega) hk hY (yl_e1 (by omega) ⟨f1, f5⟩ hp)⟩
end SM
