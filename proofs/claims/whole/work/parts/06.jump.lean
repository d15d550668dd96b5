/-! the ops 22 to 33 -/
section JP
variable {nh wc wd cv sd pr st cc lo ov yh : Int32} {ho xn wa go pa co ca wl sk ce tx cw cp cl li lc yn le op nn pt oq ya : Nat → Int32}
def fc_Go (c : Nat) (ar n p : Int32) (u : SX) (v : SY) (r : Int32) (u' : SX) (v' : SY) : Prop :=
  (∀ post : Int32 → SX → Prop, post r u' → wpX_execute post u (nI c) ar) ∧ (∀ q : SY → Prop, q v' → wpY_go q v (nI c) n p)
theorem xj_lo {post : Int32 → SX → Prop} {c : Nat} {ar : Int32} (h1 : 22 ≤ c) (h2 : c < 30) (h : wpX_executeJump (fun u => post (-1) u) (nh, wc, wd, cv, sd, pr, st, cc, lo, ho, xn, wa, go, pa, co, ca, wl, sk, ce, tx, cw, cp, cl, li, lc) (nI c) ar) : wpX_execute post (nh, wc, wd, cv, sd, pr, st, cc, lo, ho, xn, wa, go, pa, co, ca, wl, sk, ce, tx, cw, cp, cl, li, lc) (nI c) ar := by
  refine br_t (nI_lt (b := 30) h2 (by decide)) (br_f (nI_nlt (b := 22) h1 (by omega)) ?_)
  exact h
theorem xj_hi {post : Int32 → SX → Prop} {c : Nat} {ar : Int32} (h1 : 30 ≤ c) (h2 : c < 34) (h : wpX_executeLoop post (nh, wc, wd, cv, sd, pr, st, cc, lo, ho, xn, wa, go, pa, co, ca, wl, sk, ce, tx, cw, cp, cl, li, lc) (nI c) ar) : wpX_execute post (nh, wc, wd, cv, sd, pr, st, cc, lo, ho, xn, wa, go, pa, co, ca, wl, sk, ce, tx, cw, cp, cl, li, lc) (nI c) ar := by
  refine br_f (nI_nlt (b := 30) h1 (by omega)) ?_
  exact h
theorem fg_22 {k : Nat} {ar p : Int32} (hk : k + 1 < 8) : fc_Go 22 ar ar p (nh, wc, wd, cv, sd, pr, st, nI (k + 1), lo, ho, xn, wa, go, pa, co, ca, wl, sk, ce, tx, cw, cp, cl, li, lc) (nh, wd, sd, nI (k + 1), lo, st, pr, ov, yh, ho, yn, le, op, nn, pt, ce, sk, oq, cw, ya, cl, li, lc, tx) (-1)
    (nh, wc, wd, cv, sd, pr, st, nI (k + 2), lo, ho, xn, wa, go, pa, co, ca, wl, sk, ce, tx, upd cw (k + 1) ar, upd cp (k + 1) 0, upd cl (k + 1) lo, li, lc) (nh, wd, sd, nI (k + 2), lo, st, pr, ov, yh, ho, yn, le, op, nn, pt, ce, sk, oq, upd cw (k + 1) ar, upd ya (k + 1) 0, upd cl (k + 1) lo, li, lc, tx) := by
  constructor
  · intro post h
    refine xj_lo (c := 22) (by omega) (by omega) ?_
    refine br_f (by decide) (br_f (by decide) (br_t rfl ?_))
    exact xp_begin (k := k + 1) hk h
  · intro q h
    refine nm_e (br_t rfl ?_)
    exact yp_begin (k := k + 1) hk h
theorem xg_52 {post : SX → Prop} {k d : Nat} {ar : Int32} (hk : k < 8) (hd : d < 12) (h : (sk d = 0 → post (nh, wc, wd, cv, nI d, pr, st, nI (k + 1), lo, ho, xn, wa, go, pa, co, ca, wl, sk, ce, tx, cw, upd cp k ar, cl, li, lc)) ∧ (¬ sk d = 0 → post (nh, wc, wd, cv, nI d, pr, st, nI (k + 1), lo, ho, xn, wa, go, pa, co, ca, wl, sk, ce, tx, cw, cp, cl, li, lc))) : wX_executeJump_52 post ar nh wc wd cv (nI (d + 1)) pr st (nI (k + 1)) lo ho xn wa go pa co ca wl sk ce tx cw cp cl li lc := by
  unfold wX_executeJump_52
  refine xp_take (d := d) hd ?_
  exact br_c (fun z => xp_goOn (k := k) hk (h.1 z)) h.2
theorem yg_40 {q : SY → Prop} {k d : Nat} {p : Int32} (hk : k < 8) (hd : d < 12) (h : (sk d = 0 → q (nh, wd, nI d, nI (k + 1), lo, st, pr, ov, yh, ho, yn, le, op, nn, pt, ce, sk, oq, cw, upd ya k (p + 1), cl, li, lc, tx)) ∧ (¬ sk d = 0 → q (nh, wd, nI d, nI (k + 1), lo, st, pr, ov, yh, ho, yn, le, op, nn, pt, ce, sk, oq, cw, ya, cl, li, lc, tx))) : wY_go_40 q p (nI k) nh wd (nI (d + 1)) (nI (k + 1)) lo st pr ov yh ho yn le op nn pt ce sk oq cw ya cl li lc tx := by
  have e : (nI k).toNatClampNeg = k := nI_clamp (by omega)
  unfold wY_go_40
  refine yp_take (d := d) hd ?_
  exact br_c (fun z => ⟨vp_in_nI hk (by omega), nm_r (e' := upd ya k (p + 1)) (by rw [e]) (h.1 z)⟩) h.2
theorem xg_if {post : Int32 → SX → Prop} {c k d : Nat} {ar : Int32} (hc : c = 23 ∨ c = 27 ∨ c = 28) (hk : k < 8) (hd : d < 12) (h : (sk d = 0 → post (-1) (nh, wc, wd, cv, nI d, pr, st, nI (k + 1), lo, ho, xn, wa, go, pa, co, ca, wl, sk, ce, tx, cw, upd cp k ar, cl, li, lc)) ∧ (¬ sk d = 0 → post (-1) (nh, wc, wd, cv, nI d, pr, st, nI (k + 1), lo, ho, xn, wa, go, pa, co, ca, wl, sk, ce, tx, cw, cp, cl, li, lc))) :
    wpX_execute post (nh, wc, wd, cv, nI (d + 1), pr, st, nI (k + 1), lo, ho, xn, wa, go, pa, co, ca, wl, sk, ce, tx, cw, cp, cl, li, lc) (nI c) ar := by
  have K := xg_52 (post := fun u => post (-1) u) (ar := ar) hk hd h
  refine xj_lo (by omega) (by omega) ?_
  rcases hc with rfl | rfl | rfl
  · exact br_f (by decide) (br_f (by decide) (br_f (by decide) (br_t rfl K)))
  · exact br_f (by decide) (br_f (by decide) (br_f (by decide) (br_f (by decide) (br_f (by decide) (br_f (by decide) (br_f (by decide) (br_t rfl K)))))))
  · exact br_f (by decide) (br_f (by decide) (br_f (by decide) (br_f (by decide) (br_f (by decide) (br_f (by decide) (br_f (by decide) (br_f (by decide) (br_t rfl K))))))))
theorem yg_if {q : SY → Prop} {c k d : Nat} {n p : Int32} (hc : c = 23 ∨ c = 27 ∨ c = 28) (hk : k < 8) (hd : d < 12) (h : (sk d = 0 → q (nh, wd, nI d, nI (k + 1), lo, st, pr, ov, yh, ho, yn, le, op, nn, pt, ce, sk, oq, cw, upd ya k (p + 1), cl, li, lc, tx)) ∧ (¬ sk d = 0 → q (nh, wd, nI d, nI (k + 1), lo, st, pr, ov, yh, ho, yn, le, op, nn, pt, ce, sk, oq, cw, ya, cl, li, lc, tx))) :
    wpY_go q (nh, wd, nI (d + 1), nI (k + 1), lo, st, pr, ov, yh, ho, yn, le, op, nn, pt, ce, sk, oq, cw, ya, cl, li, lc, tx) (nI c) n p := by
  have K := yg_40 hk hd h
  refine nm_r (nI_pred k) ?_
  rcases hc with rfl | rfl | rfl
  · exact br_f (by decide) (br_t rfl K)
  · exact br_f (by decide) (br_f (by decide) (br_t rfl K))
  · exact br_f (by decide) (br_f (by decide) (br_f (by decide) (br_t rfl K)))
theorem fg_if0 {c k d : Nat} {ar n p : Int32} (hc : c = 23 ∨ c = 27 ∨ c = 28) (hk : k < 8) (hd : d < 12) (z : sk d = 0) :
    fc_Go c ar n p (nh, wc, wd, cv, nI (d + 1), pr, st, nI (k + 1), lo, ho, xn, wa, go, pa, co, ca, wl, sk, ce, tx, cw, cp, cl, li, lc) (nh, wd, nI (d + 1), nI (k + 1), lo, st, pr, ov, yh, ho, yn, le, op, nn, pt, ce, sk, oq, cw, ya, cl, li, lc, tx) (-1) (nh, wc, wd, cv, nI d, pr, st, nI (k + 1), lo, ho, xn, wa, go, pa, co, ca, wl, sk, ce, tx, cw, upd cp k ar, cl, li, lc) (nh, wd, nI d, nI (k + 1), lo, st, pr, ov, yh, ho, yn, le, op, nn, pt, ce, sk, oq, cw, upd ya k (p + 1), cl, li, lc, tx) :=
  ⟨fun _ h => xg_if hc hk hd (br_t z h), fun _ h => yg_if hc hk hd (br_t z h)⟩
theorem fg_if1 {c k d : Nat} {ar n p : Int32} (hc : c = 23 ∨ c = 27 ∨ c = 28) (hk : k < 8) (hd : d < 12) (z : ¬ sk d = 0) :
    fc_Go c ar n p (nh, wc, wd, cv, nI (d + 1), pr, st, nI (k + 1), lo, ho, xn, wa, go, pa, co, ca, wl, sk, ce, tx, cw, cp, cl, li, lc) (nh, wd, nI (d + 1), nI (k + 1), lo, st, pr, ov, yh, ho, yn, le, op, nn, pt, ce, sk, oq, cw, ya, cl, li, lc, tx) (-1) (nh, wc, wd, cv, nI d, pr, st, nI (k + 1), lo, ho, xn, wa, go, pa, co, ca, wl, sk, ce, tx, cw, cp, cl, li, lc) (nh, wd, nI d, nI (k + 1), lo, st, pr, ov, yh, ho, yn, le, op, nn, pt, ce, sk, oq, cw, ya, cl, li, lc, tx) :=
  ⟨fun _ h => xg_if hc hk hd (br_f z h), fun _ h => yg_if hc hk hd (br_f z h)⟩
theorem fg_jump {c k : Nat} {ar n p : Int32} (hc : c = 24 ∨ c = 29) (hk : k < 8) :
    fc_Go c ar n p (nh, wc, wd, cv, sd, pr, st, nI (k + 1), lo, ho, xn, wa, go, pa, co, ca, wl, sk, ce, tx, cw, cp, cl, li, lc) (nh, wd, sd, nI (k + 1), lo, st, pr, ov, yh, ho, yn, le, op, nn, pt, ce, sk, oq, cw, ya, cl, li, lc, tx) (-1) (nh, wc, wd, cv, sd, pr, st, nI (k + 1), lo, ho, xn, wa, go, pa, co, ca, wl, sk, ce, tx, cw, upd cp k ar, cl, li, lc) (nh, wd, sd, nI (k + 1), lo, st, pr, ov, yh, ho, yn, le, op, nn, pt, ce, sk, oq, cw, upd ya k (p + 1), cl, li, lc, tx) := by
  have e : (nI k).toNatClampNeg = k := nI_clamp (by omega)
  constructor
  · intro post h
    have K : wX_executeJump_69 (fun u => post (-1) u) ar nh wc wd cv sd pr st (nI (k + 1)) lo ho xn wa go pa co ca wl sk ce tx cw cp cl li lc := by
      unfold wX_executeJump_69
      exact xp_goOn (k := k) hk h
    refine xj_lo (by omega) (by omega) ?_
    rcases hc with rfl | rfl
    · exact br_f (by decide) (br_f (by decide) (br_f (by decide) (br_f (by decide) (br_t rfl K))))
    · exact br_f (by decide) (br_t (by decide) K)
  · intro q h
    have K : wY_go_72 q p (nI k) nh wd sd (nI (k + 1)) lo st pr ov yh ho yn le op nn pt ce sk oq cw ya cl li lc tx := ⟨vp_in_nI hk (by omega), nm_r (e' := upd ya k (p + 1)) (by rw [e]) h⟩
    refine nm_r (nI_pred k) ?_
    rcases hc with rfl | rfl
    · exact br_f (by decide) (br_f (by decide) (br_f (by decide) (br_f (by decide) (br_t rfl K))))
    · exact br_f (by decide) (br_f (by decide) (br_f (by decide) (br_f (by decide) (br_f (by decide) (br_t rfl K)))))
theorem fg_30 {d l : Nat} {ar n p : Int32} (hd : d + 2 ≤ 12) (hl : l < 6) (hs : fc_Sh sk) :
    fc_Go 30 ar n p (nh, wc, wd, cv, nI (d + 2), pr, st, cc, nI l, ho, xn, wa, go, pa, co, ca, wl, sk, ce, tx, cw, cp, cl, li, lc) (nh, wd, nI (d + 2), cc, nI l, st, pr, ov, yh, ho, yn, le, op, nn, pt, ce, sk, oq, cw, ya, cl, li, lc, tx) (-1)
      (nh, wc, wd, cv, nI d, pr, st, cc, nI (l + 1), ho, xn, wa, go, pa, co, ca, wl, sk, ce, tx, cw, cp, cl, upd li l (sk d), upd lc l (sk (d + 1))) (nh, wd, nI d, cc, nI (l + 1), st, pr, ov, yh, ho, yn, le, op, nn, pt, ce, sk, oq, cw, ya, cl, upd li l (sk d), upd lc l (sk (d + 1)), tx) := by
  have e : (nI l).toNatClampNeg = l := nI_clamp (by omega)
  have w : vp_in (nI l) 6 := vp_in_nI hl (by omega)
  constructor
  · intro post h
    refine xj_hi (c := 30) (by omega) (by omega) ?_
    refine br_f (by decide) (br_f (by decide) (br_t rfl ?_))
    refine xp_take (d := d + 1) (by omega) ?_
    refine ⟨w, nm_r (e' := upd lc l (sk (d + 1))) (by rw [e, fn_vi (hs _)]) ?_⟩
    refine xp_take (d := d) (by omega) ?_
    exact ⟨w, nm_r (e' := upd li l (sk d)) (by rw [e, fn_vi (hs _)]) (nm_r (nI_1 l) h)⟩
  · intro q h
    refine nm_e (br_f (by decide) (br_f (by decide) (br_f (by decide) (br_f (by decide) (br_f (by decide) (br_f (by decide) (br_t rfl ?_)))))))
    refine yp_take (d := d + 1) (by omega) ?_
    refine yp_take (d := d) (by omega) ?_
    exact ⟨w, nm_r (e' := upd li l (sk d)) (by rw [e]) ⟨w, nm_r (e' := upd lc l (sk (d + 1))) (by rw [e]) (nm_r (nI_1 l) h)⟩⟩
theorem xg_31 {post : Int32 → SX → Prop} {k l : Nat} {ar : Int32} (hk : k < 8) (hl : l < 6)
    (h : (lw_i16 (lc l + 1) = li l → post (-1) (nh, wc, wd, cv, sd, pr, st, nI (k + 1), nI l, ho, xn, wa, go, pa, co, ca, wl, sk, ce, tx, cw, cp, cl, li, upd lc l (lw_i16 (lc l + 1)))) ∧ (¬ lw_i16 (lc l + 1) = li l → post (-1) (nh, wc, wd, cv, sd, pr, st, nI (k + 1), nI (l + 1), ho, xn, wa, go, pa, co, ca, wl, sk, ce, tx, cw, upd cp k ar, cl, li, upd lc l (lw_i16 (lc l + 1))))) :
    wpX_execute post (nh, wc, wd, cv, sd, pr, st, nI (k + 1), nI (l + 1), ho, xn, wa, go, pa, co, ca, wl, sk, ce, tx, cw, cp, cl, li, lc) (nI 31) ar := by
  have e : (nI (l + 1) - 1).toNatClampNeg = l := by rw [nI_pred]; exact nI_clamp (by omega)
  have w : vp_in (nI (l + 1) - 1) 6 := by rw [nI_pred]; exact vp_in_nI hl (by omega)
  refine xj_hi (c := 31) (by omega) (by omega) ?_
  refine br_f (by decide) (br_f (by decide) (br_f (by decide) (br_t rfl ?_)))
  refine ⟨w, w, nm_r (e' := upd lc l (lw_i16 (lc l + 1))) (by rw [e, pk_vs]; rfl) ⟨w, w, ?_⟩⟩
  rw [e, pk_us]
  exact br_c (fun z => nm_r (nI_pred l) (h.1 z)) (fun z => xp_goOn (k := k) hk (h.2 z))
theorem yg_31 {q : SY → Prop} {k l : Nat} {n p : Int32} (hk : k < 8) (hl : l < 6)
    (h : (lw_i16 (lc l + 1) = li l → q (nh, wd, sd, nI (k + 1), nI l, st, pr, ov, yh, ho, yn, le, op, nn, pt, ce, sk, oq, cw, ya, cl, li, upd lc l (lw_i16 (lc l + 1)), tx)) ∧ (¬ lw_i16 (lc l + 1) = li l → q (nh, wd, sd, nI (k + 1), nI (l + 1), st, pr, ov, yh, ho, yn, le, op, nn, pt, ce, sk, oq, cw, upd ya k (p + 1), cl, li, upd lc l (lw_i16 (lc l + 1)), tx))) :
    wpY_go q (nh, wd, sd, nI (k + 1), nI (l + 1), st, pr, ov, yh, ho, yn, le, op, nn, pt, ce, sk, oq, cw, ya, cl, li, lc, tx) (nI 31) n p := by
  have ek : (nI k).toNatClampNeg = k := nI_clamp (by omega)
  have e : (nI (l + 1) - 1).toNatClampNeg = l := by rw [nI_pred]; exact nI_clamp (by omega)
  have w : vp_in (nI (l + 1) - 1) 6 := by rw [nI_pred]; exact vp_in_nI hl (by omega)
  refine nm_r (nI_pred k) (br_f (by decide) (br_f (by decide) (br_f (by decide) (br_f (by decide) (br_f (by decide) (br_f (by decide) (br_f (by decide) (br_t rfl ?_))))))))
  refine ⟨w, w, nm_r (e' := upd lc l (lw_i16 (lc l + 1))) (by rw [e]; rfl) ⟨w, w, ?_⟩⟩
  rw [e, pk_us]
  exact br_c (fun z => nm_r (nI_pred l) (h.1 z)) (fun z => ⟨vp_in_nI hk (by omega), nm_r (e' := upd ya k (p + 1)) (by rw [ek]) (h.2 z)⟩)
theorem fg_31e {k l : Nat} {ar n p : Int32} (hk : k < 8) (hl : l < 6) (z : lw_i16 (lc l + 1) = li l) :
    fc_Go 31 ar n p (nh, wc, wd, cv, sd, pr, st, nI (k + 1), nI (l + 1), ho, xn, wa, go, pa, co, ca, wl, sk, ce, tx, cw, cp, cl, li, lc) (nh, wd, sd, nI (k + 1), nI (l + 1), st, pr, ov, yh, ho, yn, le, op, nn, pt, ce, sk, oq, cw, ya, cl, li, lc, tx) (-1) (nh, wc, wd, cv, sd, pr, st, nI (k + 1), nI l, ho, xn, wa, go, pa, co, ca, wl, sk, ce, tx, cw, cp, cl, li, upd lc l (lw_i16 (lc l + 1))) (nh, wd, sd, nI (k + 1), nI l, st, pr, ov, yh, ho, yn, le, op, nn, pt, ce, sk, oq, cw, ya, cl, li, upd lc l (lw_i16 (lc l + 1)), tx) :=
  ⟨fun _ h => xg_31 hk hl (br_t z h), fun _ h => yg_31 hk hl (br_t z h)⟩
theorem fg_31n {k l : Nat} {ar n p : Int32} (hk : k < 8) (hl : l < 6) (z : ¬ lw_i16 (lc l + 1) = li l) :
    fc_Go 31 ar n p (nh, wc, wd, cv, sd, pr, st, nI (k + 1), nI (l + 1), ho, xn, wa, go, pa, co, ca, wl, sk, ce, tx, cw, cp, cl, li, lc) (nh, wd, sd, nI (k + 1), nI (l + 1), st, pr, ov, yh, ho, yn, le, op, nn, pt, ce, sk, oq, cw, ya, cl, li, lc, tx) (-1) (nh, wc, wd, cv, sd, pr, st, nI (k + 1), nI (l + 1), ho, xn, wa, go, pa, co, ca, wl, sk, ce, tx, cw, upd cp k ar, cl, li, upd lc l (lw_i16 (lc l + 1))) (nh, wd, sd, nI (k + 1), nI (l + 1), st, pr, ov, yh, ho, yn, le, op, nn, pt, ce, sk, oq, cw, upd ya k (p + 1), cl, li, upd lc l (lw_i16 (lc l + 1)), tx) :=
  ⟨fun _ h => xg_31 hk hl (br_f z h), fun _ h => yg_31 hk hl (br_f z h)⟩
theorem fg_32 {d l : Nat} {ar n p : Int32} (hd : d < 12) (hl : l < 6) :
    fc_Go 32 ar n p (nh, wc, wd, cv, nI d, pr, st, cc, nI (l + 1), ho, xn, wa, go, pa, co, ca, wl, sk, ce, tx, cw, cp, cl, li, lc) (nh, wd, nI d, cc, nI (l + 1), st, pr, ov, yh, ho, yn, le, op, nn, pt, ce, sk, oq, cw, ya, cl, li, lc, tx) (-1) (nh, wc, wd, cv, nI (d + 1), pr, st, cc, nI (l + 1), ho, xn, wa, go, pa, co, ca, wl, upd sk d (lw_i16 (lc l)), ce, tx, cw, cp, cl, li, lc) (nh, wd, nI (d + 1), cc, nI (l + 1), st, pr, ov, yh, ho, yn, le, op, nn, pt, ce, upd sk d (lw_i16 (lc l)), oq, cw, ya, cl, li, lc, tx) := by
  have e : (nI (l + 1) - 1).toNatClampNeg = l := by rw [nI_pred]; exact nI_clamp (by omega)
  have w : vp_in (nI (l + 1) - 1) 6 := by rw [nI_pred]; exact vp_in_nI hl (by omega)
  constructor
  · intro post h
    refine xj_hi (c := 32) (by omega) (by omega) ?_
    refine br_f (by decide) (br_f (by decide) (br_f (by decide) (br_f (by decide) (br_t rfl ⟨w, ?_⟩))))
    rw [e]
    exact xp_put (d := d) hd h
  · intro q h
    refine nm_e (br_f (by decide) (br_f (by decide) (br_f (by decide) (br_f (by decide) (br_f (by decide) (br_f (by decide) (br_f (by decide) (br_f (by decide) (br_t rfl ⟨w, ?_⟩)))))))))
    rw [e]
    exact yp_give (d := d) hd h
theorem fg_33 {k : Nat} {ar n p : Int32} (hk : k < 8) :
    fc_Go 33 ar n p (nh, wc, wd, cv, sd, pr, st, nI (k + 1), lo, ho, xn, wa, go, pa, co, ca, wl, sk, ce, tx, cw, cp, cl, li, lc) (nh, wd, sd, nI (k + 1), lo, st, pr, ov, yh, ho, yn, le, op, nn, pt, ce, sk, oq, cw, ya, cl, li, lc, tx) (if k = 0 then 0 else (-1)) (nh, wc, wd, cv, sd, pr, st, nI k, cl k, ho, xn, wa, go, pa, co, ca, wl, sk, ce, tx, cw, cp, cl, li, lc) (nh, wd, sd, nI k, cl k, st, pr, ov, yh, ho, yn, le, op, nn, pt, ce, sk, oq, cw, ya, cl, li, lc, tx) := by
  constructor
  · intro post h
    refine xj_hi (c := 33) (by omega) (by omega) ?_
    refine br_f (by decide) (br_t (by decide) ?_)
    exact xp_end (k := k) hk h
  · intro q h
    refine nm_e (br_f (by decide) (br_f (by decide) (br_f (by decide) (br_f (by decide) (br_f (by decide) (br_f (by decide) (br_f (by decide) (br_f (by decide) (br_f (by decide) (br_t rfl ?_))))))))))
    exact yp_leave (k := k) hk h
end JP
/-! a turn of X, a step of Y: the ways through them -/
section TN
variable {nh wc wd cv sd pr st cc lo ov yh : Int32} {ho xn wa go pa co ca wl sk ce tx cw cp cl li lc yn le op nn pt oq ya : Nat → Int32}
theorem fn_ix (w a : Nat) : (24 : Int32) * nI w + nI a = nI (24 * w + a) := by
  rw [show (24 : Int32) * nI w = nI (24 * w) from pk_mul 24 w, nI_add]
theorem fn_iy (w a : Nat) : nI w * 24 + nI a = nI (24 * w + a) := by
  rw [show nI w * 24 = nI (w * 24) from pk_mul w 24, nI_add, Nat.mul_comm]
theorem fn_same {f : Nat → Int32} {k : Nat} {x : Int32} (h : f k = x) : upd f k x = f := by
  funext j
  by_cases e : j = k
  · subst e; rw [pk_us, h]
  · rw [pk_un e]
theorem xt_end {post : Int32 → SX → Prop} {k w a L : Nat} (hk : k < 8) (hw : w < 10) (e1 : cw k = nI w) (e2 : cp k = nI a) (e3 : wl w = nI L) (hL : L ≤ a) (ha : a < 100)
    (h : post (if k = 0 then 0 else (-1)) (nh, wc, wd, cv, sd, pr, st, nI k, cl k, ho, xn, wa, go, pa, co, ca, wl, sk, ce, tx, cw, cp, cl, li, lc)) : wpX_takeTurn post (nh, wc, wd, cv, sd, pr, st, nI (k + 1), lo, ho, xn, wa, go, pa, co, ca, wl, sk, ce, tx, cw, cp, cl, li, lc) := by
  have e : (nI (k + 1) - 1).toNatClampNeg = k := by rw [nI_pred]; exact nI_clamp (by omega)
  have v : vp_in (nI (k + 1) - 1) 8 := by rw [nI_pred]; exact vp_in_nI hk (by omega)
  have ew : wl (nI w).toNatClampNeg = nI L := by rw [nI_clamp (by omega)]; exact e3
  refine ⟨v, nm_r (e' := nI w) (by rw [e]; exact e1) ⟨v, nm_r (e' := nI a) (by rw [e]; exact e2) ⟨vp_in_nI hw (by omega), ?_⟩⟩⟩
  rw [ew]
  refine br_f (nI_nlt hL (by omega)) ?_
  exact xp_end hk h
theorem xt_none {post : Int32 → SX → Prop} {k w a L c : Nat} (hk : k < 8) (hw : w < 10) (e1 : cw k = nI w) (e2 : cp k = nI a) (e3 : wl w = nI L) (hL : a < L) (hL2 : L ≤ 24) (ec : co (24 * w + a) = nI c) (hc : c = 25 ∨ c = 26)
    (h : post (-1) (nh, wc, wd, cv, sd, pr, st, nI (k + 1), lo, ho, xn, wa, go, pa, co, ca, wl, sk, ce, tx, cw, upd cp k (nI (a + 1)), cl, li, lc)) : wpX_takeTurn post (nh, wc, wd, cv, sd, pr, st, nI (k + 1), lo, ho, xn, wa, go, pa, co, ca, wl, sk, ce, tx, cw, cp, cl, li, lc) := by
  have e : (nI (k + 1) - 1).toNatClampNeg = k := by rw [nI_pred]; exact nI_clamp (by omega)
  have v : vp_in (nI (k + 1) - 1) 8 := by rw [nI_pred]; exact vp_in_nI hk (by omega)
  have ew : wl (nI w).toNatClampNeg = nI L := by rw [nI_clamp (by omega)]; exact e3
  refine ⟨v, nm_r (e' := nI w) (by rw [e]; exact e1) ⟨v, nm_r (e' := nI a) (by rw [e]; exact e2) ⟨vp_in_nI hw (by omega), ?_⟩⟩⟩
  rw [ew]
  refine br_t (nI_lt hL (by omega)) (nm_r (fn_iy w a) ⟨vp_in_nI (by omega) (by omega), nm_r (e' := nI c) (by rw [nI_clamp (by omega)]; exact ec) ?_⟩)
  rw [nI_1]
  refine xp_goOn hk ?_
  rcases hc with rfl | rfl
  · exact br_t rfl (br_f fn_10 h)
  · exact br_f (by decide) (br_t rfl (br_f fn_10 h))
theorem xt_fault {post : Int32 → SX → Prop} {k w a L c r : Nat} (hk : k < 8) (hw : w < 10) (e1 : cw k = nI w) (e2 : cp k = nI a) (e3 : wl w = nI L) (hL : a < L) (hL2 : L ≤ 24) (ec : co (24 * w + a) = nI c) (hc : c < 34 ∧ c ≠ 25 ∧ c ≠ 26) (hr : 1 ≤ r ∧ r ≤ 5)
    (hF : ∀ p : Int32 → Prop, p (nI r) → wpX_findFault p (nh, wc, wd, cv, sd, pr, st, nI (k + 1), lo, ho, xn, wa, go, pa, co, ca, wl, sk, ce, tx, cw, upd cp k (nI (a + 1)), cl, li, lc) (nI c))
    (h : post (nI r) (nh, wc, wd, cv, sd, pr, st, nI (k + 1), lo, ho, xn, wa, go, pa, co, ca, wl, sk, ce, tx, cw, upd cp k (nI (a + 1)), cl, li, lc)) : wpX_takeTurn post (nh, wc, wd, cv, sd, pr, st, nI (k + 1), lo, ho, xn, wa, go, pa, co, ca, wl, sk, ce, tx, cw, cp, cl, li, lc) := by
  have e : (nI (k + 1) - 1).toNatClampNeg = k := by rw [nI_pred]; exact nI_clamp (by omega)
  have v : vp_in (nI (k + 1) - 1) 8 := by rw [nI_pred]; exact vp_in_nI hk (by omega)
  have ew : wl (nI w).toNatClampNeg = nI L := by rw [nI_clamp (by omega)]; exact e3
  refine ⟨v, nm_r (e' := nI w) (by rw [e]; exact e1) ⟨v, nm_r (e' := nI a) (by rw [e]; exact e2) ⟨vp_in_nI hw (by omega), ?_⟩⟩⟩
  rw [ew]
  refine br_t (nI_lt hL (by omega)) (nm_r (fn_iy w a) ⟨vp_in_nI (by omega) (by omega), nm_r (e' := nI c) (by rw [nI_clamp (by omega)]; exact ec) ?_⟩)
  rw [nI_1]
  refine xp_goOn hk ?_
  refine br_f (fn_ne (m := 25) hc.2.1) (br_f (fn_ne (m := 26) hc.2.2) (br_t rfl ?_))
  refine hF _ ?_
  exact br_f (fn_ne (m := 0) (by omega)) h
theorem xt_exec {post : Int32 → SX → Prop} {k w a L c s : Nat} {r : Int32} {u' : SX} (hk : k < 8) (hw : w < 10) (e1 : cw k = nI w) (e2 : cp k = nI a) (e3 : wl w = nI L) (hL : a < L) (hL2 : L ≤ 24) (ec : co (24 * w + a) = nI c) (hc : c < 34 ∧ c ≠ 25 ∧ c ≠ 26)
    (hF : ∀ p : Int32 → Prop, p 0 → wpX_findFault p (nh, wc, wd, cv, sd, pr, nI s, nI (k + 1), lo, ho, xn, wa, go, pa, co, ca, wl, sk, ce, tx, cw, upd cp k (nI (a + 1)), cl, li, lc) (nI c))
    (hE : ∀ p : Int32 → SX → Prop, p r u' → wpX_execute p (nh, wc, wd, cv, sd, pr, nI (s + 1), nI (k + 1), lo, ho, xn, wa, go, pa, co, ca, wl, sk, ce, tx, cw, upd cp k (nI (a + 1)), cl, li, lc) (nI c) (ca (24 * w + a)))
    (h : post r u') : wpX_takeTurn post (nh, wc, wd, cv, sd, pr, nI s, nI (k + 1), lo, ho, xn, wa, go, pa, co, ca, wl, sk, ce, tx, cw, cp, cl, li, lc) := by
  have e : (nI (k + 1) - 1).toNatClampNeg = k := by rw [nI_pred]; exact nI_clamp (by omega)
  have v : vp_in (nI (k + 1) - 1) 8 := by rw [nI_pred]; exact vp_in_nI hk (by omega)
  have ew : wl (nI w).toNatClampNeg = nI L := by rw [nI_clamp (by omega)]; exact e3
  refine ⟨v, nm_r (e' := nI w) (by rw [e]; exact e1) ⟨v, nm_r (e' := nI a) (by rw [e]; exact e2) ⟨vp_in_nI hw (by omega), ?_⟩⟩⟩
  rw [ew]
  refine br_t (nI_lt hL (by omega)) (nm_r (fn_iy w a) ⟨vp_in_nI (by omega) (by omega), nm_r (e' := nI c) (by rw [nI_clamp (by omega)]; exact ec) ?_⟩)
  rw [nI_1]
  refine xp_goOn hk ?_
  refine br_f (fn_ne (m := 25) hc.2.1) (br_f (fn_ne (m := 26) hc.2.2) (br_t rfl ?_))
  refine hF _ ?_
  refine br_t rfl (nm_r (nI_1 s) ⟨vp_in_nI (by omega) (by omega), ?_⟩)
  rw [nI_clamp (by omega)]
  refine hE _ ?_
  obtain ⟨o0, o1, o2, o3, o4, o5, o6, o7, o8, o9, o10, o11, o12, o13, o14, o15, o16, o17, o18, o19, o20, o21, o22, o23, o24⟩ := u'
  exact h
theorem ys_end {q : SY → Prop} {k w a : Nat} (hk : k < 8) (hw : w < 10) (e1 : cw k = nI w) (e2 : ya k = nI a) (e3 : le w = nI a) (h : q (nh, wd, sd, nI k, cl k, st, pr, ov, yh, ho, yn, le, op, nn, pt, ce, sk, oq, cw, ya, cl, li, lc, tx)) : wpY_step q (nh, wd, sd, nI (k + 1), lo, st, pr, ov, yh, ho, yn, le, op, nn, pt, ce, sk, oq, cw, ya, cl, li, lc, tx) := by
  have e : (nI k).toNatClampNeg = k := nI_clamp (by omega)
  have ew : (nI w).toNatClampNeg = w := nI_clamp (by omega)
  have v : vp_in (nI k) 8 := vp_in_nI hk (by omega)
  refine nm_r (nI_pred k) ⟨v, v, ?_⟩
  rw [e, e1, ew, e2, e3]
  refine ⟨vp_in_nI hw (by omega), br_t rfl ?_⟩
  exact yp_leave hk h
theorem ys_t0 {q : SY → Prop} {k w a L c : Nat} (hk : k < 8) (hw : w < 10) (e1 : cw k = nI w) (e2 : ya k = nI a) (e3 : le w = nI L) (hL : a < L) (hL2 : L ≤ 24) (ec : op (24 * w + a) = nI c) (hc : c = 25 ∨ c = 26)
    (h : q (nh, wd, sd, nI (k + 1), lo, st, pr, ov, yh, ho, yn, le, op, nn, pt, ce, sk, oq, cw, upd ya k (nI (a + 1)), cl, li, lc, tx)) : wpY_step q (nh, wd, sd, nI (k + 1), lo, st, pr, ov, yh, ho, yn, le, op, nn, pt, ce, sk, oq, cw, ya, cl, li, lc, tx) := by
  have e : (nI k).toNatClampNeg = k := nI_clamp (by omega)
  have ew : (nI w).toNatClampNeg = w := nI_clamp (by omega)
  have v : vp_in (nI k) 8 := vp_in_nI hk (by omega)
  have vi : vp_in (nI (24 * w + a)) 240 := vp_in_nI (by omega) (by omega)
  have K : wY_step_97 q (nI (24 * w + a)) (nI c) nh wd sd (nI (k + 1)) lo st pr ov yh ho yn le op nn pt ce sk oq cw (upd ya k (nI (a + 1))) cl li lc tx := by
    refine br_t (nI_lt (a := 21) (by omega) (by omega)) ⟨vi, vi, nm_e ?_⟩
    rcases hc with rfl | rfl
    · exact br_f (by decide) (br_f (by decide) (br_f (by decide) (br_f (by decide) (br_f (by decide) (br_f (by decide) (br_f (by decide) (br_f (by decide) (br_f (by decide) (br_f (by decide) h)))))))))
    · exact br_f (by decide) (br_f (by decide) (br_f (by decide) (br_f (by decide) (br_f (by decide) (br_f (by decide) (br_f (by decide) (br_f (by decide) (br_f (by decide) (br_f (by decide) h)))))))))
  refine nm_r (nI_pred k) ⟨v, v, ?_⟩
  rw [e, e1, ew, e2, e3]
  refine ⟨vp_in_nI hw (by omega), br_f (fn_ne (by omega)) ⟨v, v, nm_r (fn_ix w a) ⟨vi, nm_r (e' := nI c) (by rw [nI_clamp (by omega)]; exact ec) ?_⟩⟩⟩
  have M : ∀ P : Int32 → SY → Prop, P 1 (nh, wd, sd, nI (k + 1), lo, st, pr, ov, yh, ho, yn, le, op, nn, pt, ce, sk, oq, cw, ya, cl, li, lc, tx) → wpY_can P (nh, wd, sd, nI (k + 1), lo, st, pr, ov, yh, ho, yn, le, op, nn, pt, ce, sk, oq, cw, ya, cl, li, lc, tx) (nI c) := by
    intro P hP
    rcases hc with rfl | rfl
    · exact br_t rfl hP
    · exact br_f (by decide) (br_t rfl hP)
  refine M _ ?_
  refine br_f fn_10 ⟨v, v, nm_r (e' := upd ya k (nI (a + 1))) (by rw [e2, nI_1]) ?_⟩
  rcases hc with rfl | rfl
  · exact br_t rfl K
  · exact br_f (by decide) (br_t rfl K)
theorem ys_fault {q : SY → Prop} {k w a L c : Nat} {v' : SY} (hk : k < 8) (hw : w < 10) (e1 : cw k = nI w) (e2 : ya k = nI a) (e3 : le w = nI L) (hL : a < L) (hL2 : L ≤ 24) (ec : op (24 * w + a) = nI c)
    (hC : ∀ P : Int32 → SY → Prop, P 0 v' → wpY_can P (nh, wd, sd, nI (k + 1), lo, st, pr, ov, yh, ho, yn, le, op, nn, pt, ce, sk, oq, cw, ya, cl, li, lc, tx) (nI c)) (h : q v') : wpY_step q (nh, wd, sd, nI (k + 1), lo, st, pr, ov, yh, ho, yn, le, op, nn, pt, ce, sk, oq, cw, ya, cl, li, lc, tx) := by
  have e : (nI k).toNatClampNeg = k := nI_clamp (by omega)
  have ew : (nI w).toNatClampNeg = w := nI_clamp (by omega)
  have v : vp_in (nI k) 8 := vp_in_nI hk (by omega)
  have vi : vp_in (nI (24 * w + a)) 240 := vp_in_nI (by omega) (by omega)
  refine nm_r (nI_pred k) ⟨v, v, ?_⟩
  rw [e, e1, ew, e2, e3]
  refine ⟨vp_in_nI hw (by omega), br_f (fn_ne (by omega)) ⟨v, v, nm_r (fn_ix w a) ⟨vi, nm_r (e' := nI c) (by rw [nI_clamp (by omega)]; exact ec) ?_⟩⟩⟩
  refine hC _ ?_
  obtain ⟨o0, o1, o2, o3, o4, o5, o6, o7, o8, o9, o10, o11, o12, o13, o14, o15, o16, o17, o18, o19, o20, o21, o22, o23⟩ := v'
  exact br_t rfl h
theorem ys_t1 {q : SY → Prop} {k w a L c s : Nat} (hk : k < 8) (hw : w < 10) (e1 : cw k = nI w) (e2 : ya k = nI a) (e3 : le w = nI L) (hL : a < L) (hL2 : L ≤ 24) (ec : op (24 * w + a) = nI c) (hc : c < 34 ∧ c ≠ 25 ∧ c ≠ 26)
    (hC : ∀ P : Int32 → SY → Prop, P 1 (nh, wd, sd, nI (k + 1), lo, nI s, pr, ov, yh, ho, yn, le, op, nn, pt, ce, sk, oq, cw, ya, cl, li, lc, tx) → wpY_can P (nh, wd, sd, nI (k + 1), lo, nI s, pr, ov, yh, ho, yn, le, op, nn, pt, ce, sk, oq, cw, ya, cl, li, lc, tx) (nI c))
    (h : wY_step_97 q (nI (24 * w + a)) (nI c) nh wd sd (nI (k + 1)) lo (nI (s + 1)) pr ov yh ho yn le op nn pt ce sk oq cw (upd ya k (nI (a + 1))) cl li lc tx) : wpY_step q (nh, wd, sd, nI (k + 1), lo, nI s, pr, ov, yh, ho, yn, le, op, nn, pt, ce, sk, oq, cw, ya, cl, li, lc, tx) := by
  have e : (nI k).toNatClampNeg = k := nI_clamp (by omega)
  have ew : (nI w).toNatClampNeg = w := nI_clamp (by omega)
  have v : vp_in (nI k) 8 := vp_in_nI hk (by omega)
  have vi : vp_in (nI (24 * w + a)) 240 := vp_in_nI (by omega) (by omega)
  refine nm_r (nI_pred k) ⟨v, v, ?_⟩
  rw [e, e1, ew, e2, e3]
  refine ⟨vp_in_nI hw (by omega), br_f (fn_ne (by omega)) ⟨v, v, nm_r (fn_ix w a) ⟨vi, nm_r (e' := nI c) (by rw [nI_clamp (by omega)]; exact ec) ?_⟩⟩⟩
  refine hC _ ?_
  refine br_f fn_10 ⟨v, v, nm_r (e' := upd ya k (nI (a + 1))) (by rw [e2, nI_1]) ?_⟩
  exact br_f (fn_ne (m := 25) hc.2.1) (br_f (fn_ne (m := 26) hc.2.2) (nm_r (nI_1 s) h))
theorem ys_work {q : SY → Prop} {i c : Nat} {v' : SY} (hi : i < 240) (hc : c ≤ 21) (H : ∀ P : SY → Prop, P v' → wpY_work P (nh, wd, sd, cc, lo, st, pr, ov, yh, ho, yn, le, op, nn, pt, ce, sk, oq, cw, ya, cl, li, lc, tx) (nI c) (nn i)) (h : q v') : wY_step_97 q (nI i) (nI c) nh wd sd cc lo st pr ov yh ho yn le op nn pt ce sk oq cw ya cl li lc tx := by
  refine br_f (nI_nlt (a := 21) hc (by omega)) ⟨vp_in_nI hi (by omega), ?_⟩
  rw [nI_clamp (by omega)]
  refine H _ ?_
  obtain ⟨o0, o1, o2, o3, o4, o5, o6, o7, o8, o9, o10, o11, o12, o13, o14, o15, o16, o17, o18, o19, o20, o21, o22, o23⟩ := v'
  exact h
theorem ys_go {q : SY → Prop} {i c : Nat} {v' : SY} (hi : i < 240) (hc : 22 ≤ c ∧ c < 34) (H : ∀ P : SY → Prop, P v' → wpY_go P (nh, wd, sd, cc, lo, st, pr, ov, yh, ho, yn, le, op, nn, pt, ce, sk, oq, cw, ya, cl, li, lc, tx) (nI c) (nn i) (pt i)) (h : q v') : wY_step_97 q (nI i) (nI c) nh wd sd cc lo st pr ov yh ho yn le op nn pt ce sk oq cw ya cl li lc tx := by
  refine br_t (nI_lt (a := 21) (by omega) (by omega)) ⟨vp_in_nI hi (by omega), vp_in_nI hi (by omega), ?_⟩
  rw [nI_clamp (by omega)]
  refine H _ ?_
  obtain ⟨o0, o1, o2, o3, o4, o5, o6, o7, o8, o9, o10, o11, o12, o13, o14, o15, o16, o17, o18, o19, o20, o21, o22, o23⟩ := v'
  exact h
end TN
