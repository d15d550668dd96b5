/-! numbers -/
theorem fn_ne {c m : Nat} (h : c ≠ m) (hc : c < 2 ^ 31 := by omega) (hm : m < 2 ^ 31 := by omega) : ¬ nI c = nI m := fun e => h ((nI_eq hc hm).mp e)
theorem fn_s2 (n : Nat) : nI (n + 2) - 2 = nI n := by
  have h := pk_sub (a := n + 2) (b := 2) (by omega)
  rw [Nat.add_sub_cancel] at h
  exact h
theorem fn_s3 (n : Nat) : nI (n + 3) - 3 = nI n := by
  have h := pk_sub (a := n + 3) (b := 3) (by omega)
  rw [Nat.add_sub_cancel] at h
  exact h
theorem fn_ii (x : Int32) : lw_i16 (lw_i16 x) = lw_i16 x := (vp_nar_short (lw_i16 x)).symm.trans (pk_vs x)
theorem fn_vs {x : Int32} (h : lw_i16 x = x) : vp_nar .short x = x := (vp_nar_short x).trans h
theorem fn_vi {x : Int32} (h : lw_i16 x = x) : vp_nar .short x.toInt16.toInt32 = x := (pk_vs x).trans h
theorem fn_sm : ∀ n, n < 64 → lw_i16 (nI n) = nI n := by decide +kernel
theorem fn_b0 : ∀ n, n < 64 → (nI n).toInt8.toInt32 = nI n := by decide +kernel
theorem fn_b {n : Nat} (h : n < 64) : vp_nar .byte (nI n).toInt8.toInt32 = nI n := (pk_vb _).trans (fn_b0 n h)
theorem fn_num {x : Int32} (h1 : ¬ x < (-32768)) (h2 : ¬ 32767 < x) : lw_i16 x = x := by
  rw [Int32.lt_iff_toInt_lt] at h1 h2
  have a : ((-32768) : Int32).toInt = -32768 := by decide
  have b : (32767 : Int32).toInt = 32767 := by decide
  rw [a] at h1
  rw [b] at h2
  exact lg_i2s_small (by omega) (by omega)
theorem fn_rng {x : Int32} (h : lw_i16 x = x) : -32768 ≤ x.toInt ∧ x.toInt < 32768 := by
  have := lw_i16_r x
  rw [h] at this
  exact this
theorem fn_uu {f : Nat → Int32} {k : Nat} {x y : Int32} : upd (upd f k x) k y = upd f k y := by
  funext j
  by_cases e : j = k
  · subst e; rw [pk_us, pk_us]
  · rw [pk_un e, pk_un e, pk_un e]
theorem fn_10 : ¬ (1 : Int32) = 0 := by decide
theorem fn_nb0 : narrow .boolean (.int 0) = .int 0 := by decide
theorem fn_nb1 : narrow .boolean (.int 1) = .int 1 := by decide
/-- a short each -/
def fc_Sh (a : Nat → Int32) : Prop := ∀ j, lw_i16 (a j) = a j
theorem fc_Sh_0 : fc_Sh (fun _ => 0) := fun _ => by
  show lw_i16 0 = 0
  decide +kernel
theorem fc_Sh_u {a : Nat → Int32} {k : Nat} {x : Int32} (h : fc_Sh a) (hx : lw_i16 x = x) : fc_Sh (upd a k x) := by
  intro j
  by_cases e : j = k
  · subst e; rw [pk_us]; exact hx
  · rw [pk_un e]; exact h j
section ST
variable {nh wc wd cv sd pr st cc lo ov yh : Int32} {ho xn wa go pa co ca wl sk ce tx cw cp cl li lc yn le op nn pt oq ya : Nat → Int32}
/-! the stack: both sides -/
theorem xp_put {post : SX → Prop} {d : Nat} {x : Int32} (hd : d < 12) (h : post (nh, wc, wd, cv, nI (d + 1), pr, st, cc, lo, ho, xn, wa, go, pa, co, ca, wl, upd sk d (lw_i16 x), ce, tx, cw, cp, cl, li, lc)) : wpX_putNumber post (nh, wc, wd, cv, nI d, pr, st, cc, lo, ho, xn, wa, go, pa, co, ca, wl, sk, ce, tx, cw, cp, cl, li, lc) x := by
  have e : (nI d).toNatClampNeg = d := nI_clamp (by omega)
  exact ⟨vp_in_nI hd (by omega), nm_r (e' := upd sk d (lw_i16 x)) (by rw [e, pk_vs]; rfl) (nm_r (nI_1 d) h)⟩
theorem yp_give {post : SY → Prop} {d : Nat} {x : Int32} (hd : d < 12) (h : post (nh, wd, nI (d + 1), cc, lo, st, pr, ov, yh, ho, yn, le, op, nn, pt, ce, upd sk d (lw_i16 x), oq, cw, ya, cl, li, lc, tx)) : wpY_give post (nh, wd, nI d, cc, lo, st, pr, ov, yh, ho, yn, le, op, nn, pt, ce, sk, oq, cw, ya, cl, li, lc, tx) x := by
  have e : (nI d).toNatClampNeg = d := nI_clamp (by omega)
  exact ⟨vp_in_nI hd (by omega), nm_r (e' := upd sk d (lw_i16 x)) (by rw [e]; rfl) (nm_r (nI_1 d) h)⟩
theorem xp_take {post : Int32 → SX → Prop} {d : Nat} (hd : d < 12) (h : post (sk d) (nh, wc, wd, cv, nI d, pr, st, cc, lo, ho, xn, wa, go, pa, co, ca, wl, sk, ce, tx, cw, cp, cl, li, lc)) : wpX_takeNumber post (nh, wc, wd, cv, nI (d + 1), pr, st, cc, lo, ho, xn, wa, go, pa, co, ca, wl, sk, ce, tx, cw, cp, cl, li, lc) := by
  have e : (nI d).toNatClampNeg = d := nI_clamp (by omega)
  refine nm_r (nI_pred d) ⟨vp_in_nI hd (by omega), ?_⟩
  rw [e]
  exact h
theorem yp_take {post : Int32 → SY → Prop} {d : Nat} (hd : d < 12) (h : post (sk d) (nh, wd, nI d, cc, lo, st, pr, ov, yh, ho, yn, le, op, nn, pt, ce, sk, oq, cw, ya, cl, li, lc, tx)) : wpY_take post (nh, wd, nI (d + 1), cc, lo, st, pr, ov, yh, ho, yn, le, op, nn, pt, ce, sk, oq, cw, ya, cl, li, lc, tx) := by
  have e : (nI d).toNatClampNeg = d := nI_clamp (by omega)
  refine nm_r (nI_pred d) ⟨vp_in_nI hd (by omega), ?_⟩
  rw [e]
  exact h
/-! the text -/
def fc_tx (t : Nat → Int32) (p : Nat) (c : Int32) : Nat → Int32 := if p < 60 then upd t p c else t
theorem xp_char {post : SX → Prop} {p n : Nat} (hp : p < 2 ^ 30) (hn : n < 64) (h : post (nh, wc, wd, cv, sd, nI (p + 1), st, cc, lo, ho, xn, wa, go, pa, co, ca, wl, sk, ce, fc_tx tx p (nI n), cw, cp, cl, li, lc)) : wpX_addCharacter post (nh, wc, wd, cv, sd, nI p, st, cc, lo, ho, xn, wa, go, pa, co, ca, wl, sk, ce, tx, cw, cp, cl, li, lc) (nI n) := by
  by_cases z : p < 60
  · have e : (nI p).toNatClampNeg = p := nI_clamp (by omega)
    refine br_f (nI_ge (b := 60) z (by decide)) ⟨vp_in_nI z (by omega), nm_r (e' := fc_tx tx p (nI n)) ?_ (nm_r (nI_1 p) h)⟩
    rw [e, fn_b hn, fc_tx, if_pos z]
  · have e : fc_tx tx p (nI n) = tx := if_neg z
    rw [e] at h
    exact br_t (nI_le (a := 60) (by omega) (by omega)) (nm_r (nI_1 p) h)
theorem yp_char {post : SY → Prop} {p : Nat} {c : Int32} (hp : p < 2 ^ 30) (h : post (nh, wd, sd, cc, lo, st, nI (p + 1), ov, yh, ho, yn, le, op, nn, pt, ce, sk, oq, cw, ya, cl, li, lc, fc_tx tx p c)) : wpY_put post (nh, wd, sd, cc, lo, st, nI p, ov, yh, ho, yn, le, op, nn, pt, ce, sk, oq, cw, ya, cl, li, lc, tx) c := by
  by_cases z : p < 60
  · have e : (nI p).toNatClampNeg = p := nI_clamp (by omega)
    refine br_f (nI_ge (b := 60) z (by decide)) ⟨vp_in_nI z (by omega), nm_r (e' := fc_tx tx p c) ?_ (nm_r (nI_1 p) h)⟩
    rw [e, fc_tx, if_pos z]
  · have e : fc_tx tx p c = tx := if_neg z
    rw [e] at h
    exact br_t (nI_le (a := 60) (by omega) (by omega)) (nm_r (nI_1 p) h)
/-! frames -/
theorem xp_goOn {post : SX → Prop} {k : Nat} {x : Int32} (hk : k < 8) (h : post (nh, wc, wd, cv, sd, pr, st, nI (k + 1), lo, ho, xn, wa, go, pa, co, ca, wl, sk, ce, tx, cw, upd cp k x, cl, li, lc)) : wpX_goOn post (nh, wc, wd, cv, sd, pr, st, nI (k + 1), lo, ho, xn, wa, go, pa, co, ca, wl, sk, ce, tx, cw, cp, cl, li, lc) x := by
  have e : (nI (k + 1) - 1).toNatClampNeg = k := by rw [nI_pred]; exact nI_clamp (by omega)
  have w : vp_in (nI (k + 1) - 1) 8 := by rw [nI_pred]; exact vp_in_nI hk (by omega)
  exact ⟨w, nm_r (e' := upd cp k x) (by rw [e]) h⟩
theorem xp_begin {post : SX → Prop} {k : Nat} {x : Int32} (hk : k < 8) (h : post (nh, wc, wd, cv, sd, pr, st, nI (k + 1), lo, ho, xn, wa, go, pa, co, ca, wl, sk, ce, tx, upd cw k x, upd cp k 0, upd cl k lo, li, lc)) : wpX_beginCall post (nh, wc, wd, cv, sd, pr, st, nI k, lo, ho, xn, wa, go, pa, co, ca, wl, sk, ce, tx, cw, cp, cl, li, lc) x := by
  have e : (nI k).toNatClampNeg = k := nI_clamp (by omega)
  have w : vp_in (nI k) 8 := vp_in_nI hk (by omega)
  exact ⟨w, nm_r (e' := upd cw k x) (by rw [e]) ⟨w, nm_r (e' := upd cp k 0) (by rw [e]) ⟨w, nm_r (e' := upd cl k lo) (by rw [e]) (nm_r (nI_1 k) h)⟩⟩⟩
theorem yp_begin {post : SY → Prop} {k : Nat} {x : Int32} (hk : k < 8) (h : post (nh, wd, sd, nI (k + 1), lo, st, pr, ov, yh, ho, yn, le, op, nn, pt, ce, sk, oq, upd cw k x, upd ya k 0, upd cl k lo, li, lc, tx)) : wpY_begin post (nh, wd, sd, nI k, lo, st, pr, ov, yh, ho, yn, le, op, nn, pt, ce, sk, oq, cw, ya, cl, li, lc, tx) x := by
  have e : (nI k).toNatClampNeg = k := nI_clamp (by omega)
  have w : vp_in (nI k) 8 := vp_in_nI hk (by omega)
  exact ⟨w, nm_r (e' := upd cw k x) (by rw [e]) ⟨w, nm_r (e' := upd ya k 0) (by rw [e]) ⟨w, nm_r (e' := upd cl k lo) (by rw [e]) (nm_r (nI_1 k) h)⟩⟩⟩
theorem xp_end {post : Int32 → SX → Prop} {k : Nat} (hk : k < 8) (h : post (if k = 0 then 0 else (-1)) (nh, wc, wd, cv, sd, pr, st, nI k, cl k, ho, xn, wa, go, pa, co, ca, wl, sk, ce, tx, cw, cp, cl, li, lc)) : wpX_endCall post (nh, wc, wd, cv, sd, pr, st, nI (k + 1), lo, ho, xn, wa, go, pa, co, ca, wl, sk, ce, tx, cw, cp, cl, li, lc) := by
  have e : (nI k).toNatClampNeg = k := nI_clamp (by omega)
  have w : vp_in (nI k) 8 := vp_in_nI hk (by omega)
  refine nm_r (nI_pred k) ⟨w, nm_r (e' := cl k) (by rw [e]) ?_⟩
  by_cases z : k = 0
  · rw [if_pos z] at h
    exact br_t (by rw [z]; rfl) h
  · rw [if_neg z] at h
    exact br_f (fn_ne (m := 0) z) h
theorem yp_leave {post : SY → Prop} {k : Nat} (hk : k < 8) (h : post (nh, wd, sd, nI k, cl k, st, pr, ov, yh, ho, yn, le, op, nn, pt, ce, sk, oq, cw, ya, cl, li, lc, tx)) : wpY_leave post (nh, wd, sd, nI (k + 1), lo, st, pr, ov, yh, ho, yn, le, op, nn, pt, ce, sk, oq, cw, ya, cl, li, lc, tx) := by
  have e : (nI k).toNatClampNeg = k := nI_clamp (by omega)
  have w : vp_in (nI k) 8 := vp_in_nI hk (by omega)
  exact nm_r (nI_pred k) ⟨w, nm_r (e' := cl k) (by rw [e]) h⟩
end ST
