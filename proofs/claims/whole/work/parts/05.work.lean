/-! the ops 0 to 21: both sides do the same to stack, cells and text -/
section WK
variable {nh wc wd cv sd pr st cc lo ov yh : Int32} {ho xn wa go pa co ca wl sk ce tx cw cp cl li lc yn le op nn pt oq ya : Nat → Int32}
theorem fn_bit (u z : Nat) : ∃ b : Nat, b = 1 ∧ u ≤ z ∨ b = 0 ∧ z < u := by
  by_cases h : u ≤ z
  · exact ⟨1, Or.inl ⟨rfl, h⟩⟩
  · exact ⟨0, Or.inr ⟨rfl, by omega⟩⟩
/-- a value that both sides join -/
def fc_Jn (c : Nat) (v : SY) (a b r : Int32) : Prop := (∀ p : Int32 → Prop, p r → wpX_join p (nI c) a b) ∧ (∀ p : Int32 → Prop, p r → wpY_joined p v (nI c) a b)
theorem fj_6 {a b : Int32} : fc_Jn 6 (nh, wd, sd, cc, lo, st, pr, ov, yh, ho, yn, le, op, nn, pt, ce, sk, oq, cw, ya, cl, li, lc, tx) a b (a + b) := ⟨fun p h => br_f (by decide) (br_f (by decide) (br_t rfl (h))), fun p h => br_t rfl (h)⟩
theorem fj_7 {a b : Int32} : fc_Jn 7 (nh, wd, sd, cc, lo, st, pr, ov, yh, ho, yn, le, op, nn, pt, ce, sk, oq, cw, ya, cl, li, lc, tx) a b (a - b) := ⟨fun p h => br_f (by decide) (br_f (by decide) (br_f (by decide) (br_t rfl (h)))), fun p h => br_f (by decide) (br_t rfl (h))⟩
theorem fj_8 {a b : Int32} : fc_Jn 8 (nh, wd, sd, cc, lo, st, pr, ov, yh, ho, yn, le, op, nn, pt, ce, sk, oq, cw, ya, cl, li, lc, tx) a b (a * b) := ⟨fun p h => br_f (by decide) (br_f (by decide) (br_f (by decide) (br_f (by decide) (br_t rfl (h))))), fun p h => br_f (by decide) (br_f (by decide) (br_t rfl (h)))⟩
theorem fj_14 {a b : Int32} : fc_Jn 14 (nh, wd, sd, cc, lo, st, pr, ov, yh, ho, yn, le, op, nn, pt, ce, sk, oq, cw, ya, cl, li, lc, tx) a b (a &&& b) := ⟨fun p h => br_f (by decide) (br_f (by decide) (br_f (by decide) (br_f (by decide) (br_f (by decide) (br_f (by decide) (br_f (by decide) (br_f (by decide) (br_f (by decide) (br_f (by decide) (br_t rfl (h))))))))))), fun p h => br_f (by decide) (br_f (by decide) (br_f (by decide) (br_f (by decide) (br_f (by decide) (br_f (by decide) (br_f (by decide) (br_t rfl (h))))))))⟩
theorem fj_15 {a b : Int32} : fc_Jn 15 (nh, wd, sd, cc, lo, st, pr, ov, yh, ho, yn, le, op, nn, pt, ce, sk, oq, cw, ya, cl, li, lc, tx) a b (a ||| b) := ⟨fun p h => br_f (by decide) (br_f (by decide) (br_f (by decide) (br_f (by decide) (br_f (by decide) (br_f (by decide) (br_f (by decide) (br_f (by decide) (br_f (by decide) (br_f (by decide) (br_f (by decide) (br_t rfl (h)))))))))))), fun p h => br_f (by decide) (br_f (by decide) (br_f (by decide) (br_f (by decide) (br_f (by decide) (br_f (by decide) (br_f (by decide) (br_f (by decide) (br_t rfl (h)))))))))⟩
theorem fj_16 {a b : Int32} : fc_Jn 16 (nh, wd, sd, cc, lo, st, pr, ov, yh, ho, yn, le, op, nn, pt, ce, sk, oq, cw, ya, cl, li, lc, tx) a b (a ^^^ b) := ⟨fun p h => br_f (by decide) (br_t (by decide) (h)), fun p h => br_f (by decide) (br_f (by decide) (br_f (by decide) (br_f (by decide) (br_f (by decide) (br_f (by decide) (br_f (by decide) (br_f (by decide) (br_f (by decide) (h)))))))))⟩
theorem fj_9 {a b : Int32} (hb : ¬ b = 0) : fc_Jn 9 (nh, wd, sd, cc, lo, st, pr, ov, yh, ho, yn, le, op, nn, pt, ce, sk, oq, cw, ya, cl, li, lc, tx) a b (a / b) := ⟨fun p h => br_f (by decide) (br_f (by decide) (br_f (by decide) (br_f (by decide) (br_f (by decide) (br_t rfl (br_f hb ⟨hb, h⟩)))))), fun p h => br_f (by decide) (br_f (by decide) (br_f (by decide) (br_t rfl (br_f hb ⟨hb, h⟩))))⟩
theorem fj_10 {a b : Int32} (hb : ¬ b = 0) : fc_Jn 10 (nh, wd, sd, cc, lo, st, pr, ov, yh, ho, yn, le, op, nn, pt, ce, sk, oq, cw, ya, cl, li, lc, tx) a b (a - a / b * b) := ⟨fun p h => br_f (by decide) (br_f (by decide) (br_f (by decide) (br_f (by decide) (br_f (by decide) (br_f (by decide) (br_t rfl (br_f hb ⟨hb, h⟩))))))), fun p h => br_f (by decide) (br_f (by decide) (br_f (by decide) (br_f (by decide) (br_t rfl (br_f hb ⟨hb, h⟩)))))⟩
theorem fj_11 {a b : Int32} : ∃ r, fc_Jn 11 (nh, wd, sd, cc, lo, st, pr, ov, yh, ho, yn, le, op, nn, pt, ce, sk, oq, cw, ya, cl, li, lc, tx) a b r := by
  by_cases z : b ≤ a
  · exact ⟨0, fun p h => br_f (by decide) (br_f (by decide) (br_f (by decide) (br_f (by decide) (br_f (by decide) (br_f (by decide) (br_f (by decide) (br_t rfl (br_t z h)))))))), fun p h => br_f (by decide) (br_f (by decide) (br_f (by decide) (br_f (by decide) (br_f (by decide) (br_t rfl (br_t z (br_t rfl h)))))))⟩
  · exact ⟨-1, fun p h => br_f (by decide) (br_f (by decide) (br_f (by decide) (br_f (by decide) (br_f (by decide) (br_f (by decide) (br_f (by decide) (br_t rfl (br_f z h)))))))), fun p h => br_f (by decide) (br_f (by decide) (br_f (by decide) (br_f (by decide) (br_f (by decide) (br_t rfl (br_f z (br_f fn_10 h)))))))⟩
theorem fj_12 {a b : Int32} : ∃ r, fc_Jn 12 (nh, wd, sd, cc, lo, st, pr, ov, yh, ho, yn, le, op, nn, pt, ce, sk, oq, cw, ya, cl, li, lc, tx) a b r := by
  by_cases z : a = b
  · exact ⟨-1, fun p h => br_f (by decide) (br_f (by decide) (br_f (by decide) (br_f (by decide) (br_f (by decide) (br_f (by decide) (br_f (by decide) (br_f (by decide) (br_t rfl (br_t z h))))))))), fun p h => br_f (by decide) (br_f (by decide) (br_f (by decide) (br_f (by decide) (br_f (by decide) (br_f (by decide) (br_t rfl (br_t z (br_f fn_10 h))))))))⟩
  · exact ⟨0, fun p h => br_f (by decide) (br_f (by decide) (br_f (by decide) (br_f (by decide) (br_f (by decide) (br_f (by decide) (br_f (by decide) (br_f (by decide) (br_t rfl (br_f z h))))))))), fun p h => br_f (by decide) (br_f (by decide) (br_f (by decide) (br_f (by decide) (br_f (by decide) (br_f (by decide) (br_t rfl (br_f z (br_t rfl h))))))))⟩
theorem fj_all {c : Nat} {a b : Int32} (hj : fc_B c) (hb : c = 9 ∨ c = 10 → ¬ b = 0) : ∃ r, fc_Jn c (nh, wd, sd, cc, lo, st, pr, ov, yh, ho, yn, le, op, nn, pt, ce, sk, oq, cw, ya, cl, li, lc, tx) a b r := by
  unfold fc_B at hj
  have h : c = 6 ∨ c = 7 ∨ c = 8 ∨ c = 9 ∨ c = 10 ∨ c = 11 ∨ c = 12 ∨ c = 14 ∨ c = 15 ∨ c = 16 := by omega
  rcases h with rfl | rfl | rfl | rfl | rfl | rfl | rfl | rfl | rfl | rfl
  · exact ⟨_, fj_6⟩
  · exact ⟨_, fj_7⟩
  · exact ⟨_, fj_8⟩
  · exact ⟨_, fj_9 (hb (Or.inl rfl))⟩
  · exact ⟨_, fj_10 (hb (Or.inr rfl))⟩
  · exact fj_11
  · exact fj_12
  · exact ⟨_, fj_14⟩
  · exact ⟨_, fj_15⟩
  · exact ⟨_, fj_16⟩
/-- a value that both sides make of one -/
def fc_Al (c : Nat) (u : SX) (v : SY) (a r : Int32) : Prop := (∀ p : Int32 → Prop, p r → wpX_alter p u (nI c) a) ∧ (∀ p : Int32 → Prop, p r → wpY_single p v (nI c) a)
theorem fl_all {c : Nat} {a : Int32} (hj : fc_A c) : ∃ r, fc_Al c (nh, wc, wd, cv, sd, pr, st, cc, lo, ho, xn, wa, go, pa, co, ca, wl, sk, ce, tx, cw, cp, cl, li, lc) (nh, wd, sd, cc, lo, st, pr, ov, yh, ho, yn, le, op, nn, pt, ce, sk, oq, cw, ya, cl, li, lc, tx) a r := by
  unfold fc_A at hj
  have h : c = 13 ∨ c = 17 ∨ c = 18 ∨ c = 19 := by omega
  rcases h with rfl | rfl | rfl | rfl
  · by_cases z : a = 0
    · exact ⟨-1, fun p h => br_t rfl (br_t z h), fun p h => br_t rfl (br_t z (br_f fn_10 h))⟩
    · exact ⟨0, fun p h => br_t rfl (br_f z h), fun p h => br_t rfl (br_f z (br_t rfl h))⟩
  · exact ⟨_, fun p h => br_f (by decide) (br_t rfl h), fun p h => br_f (by decide) (br_t rfl h)⟩
  · exact ⟨_, fun p h => br_f (by decide) (br_f (by decide) (br_t rfl h)), fun p h => br_f (by decide) (br_f (by decide) (br_t rfl h))⟩
  · have w : vp_in (a &&& 15) 16 := pk_andIn a 4 (by decide) (by decide)
    exact ⟨_, fun p h => br_f (by decide) (br_f (by decide) (br_f (by decide) ⟨w, h⟩)), fun p h => br_f (by decide) (br_f (by decide) (br_f (by decide) ⟨w, h⟩))⟩
/-- an op of both sides, from u, v to u', v' -/
def fc_Do (c : Nat) (x : Int32) (u : SX) (v : SY) (u' : SX) (v' : SY) : Prop :=
  (∀ p : Int32 → SX → Prop, p (-1) u' → wpX_execute p u (nI c) (lw_i16 x)) ∧ (∀ q : SY → Prop, q v' → wpY_work q v (nI c) x)
theorem fw_join {c d : Nat} {x r : Int32} (hc : c < 22) (hj : fc_B c) (hd : d + 2 ≤ 12) (hX : ∀ p : Int32 → Prop, p r → wpX_join p (nI c) (sk d) (sk (d + 1))) (hY : ∀ p : Int32 → Prop, p r → wpY_joined p (nh, wd, nI d, cc, lo, st, pr, ov, yh, ho, yn, le, op, nn, pt, ce, sk, oq, cw, ya, cl, li, lc, tx) (nI c) (sk d) (sk (d + 1))) :
    fc_Do c x (nh, wc, wd, cv, nI (d + 2), pr, st, cc, lo, ho, xn, wa, go, pa, co, ca, wl, sk, ce, tx, cw, cp, cl, li, lc) (nh, wd, nI (d + 2), cc, lo, st, pr, ov, yh, ho, yn, le, op, nn, pt, ce, sk, oq, cw, ya, cl, li, lc, tx) (nh, wc, wd, cv, nI (d + 1), pr, st, cc, lo, ho, xn, wa, go, pa, co, ca, wl, upd sk d (lw_i16 r), ce, tx, cw, cp, cl, li, lc) (nh, wd, nI (d + 1), cc, lo, st, pr, ov, yh, ho, yn, le, op, nn, pt, ce, upd sk d (lw_i16 r), oq, cw, ya, cl, li, lc, tx) := by
  have h5 : 5 < c := by unfold fc_B at hj; omega
  constructor
  · intro p hp
    refine br_t (nI_lt (b := 30) (by omega) (by decide)) (br_t (nI_lt (b := 22) hc (by decide)) (br_t (nI_lt (a := 5) h5 (by omega)) ?_))
    refine xq_jt (by omega) hj (br_f fn_10 ?_)
    refine xp_take (d := d + 1) (by omega) ?_
    refine xp_take (d := d) (by omega) ?_
    refine hX _ ?_
    exact xp_put (d := d) (by omega) hp
  · intro q hq
    have K : wY_work_43 q (nI c) nh wd (nI (d + 2)) cc lo st pr ov yh ho yn le op nn pt ce sk oq cw ya cl li lc tx := by
      unfold wY_work_43
      refine yp_take (d := d + 1) (by omega) ?_
      refine yp_take (d := d) (by omega) ?_
      refine hY _ ?_
      exact yp_give (d := d) (by omega) hq
    refine br_f (fn_ne (m := 0) (by omega)) (br_t (nI_lt (a := 5) h5 (by omega)) (pk_le c 12 (fun _ => K) (fun z => ?_)))
    refine yq_in 14 16 (by omega) (by omega) (by omega) (fun _ => br_f fn_10 K) (fun y => absurd hj (by unfold fc_B; omega))
theorem fw_alter {c d : Nat} {x r : Int32} (hc : c < 22) (hj : fc_A c) (hd : d + 1 ≤ 12) (hX : ∀ p : Int32 → Prop, p r → wpX_alter p (nh, wc, wd, cv, nI d, pr, st, cc, lo, ho, xn, wa, go, pa, co, ca, wl, sk, ce, tx, cw, cp, cl, li, lc) (nI c) (sk d)) (hY : ∀ p : Int32 → Prop, p r → wpY_single p (nh, wd, nI d, cc, lo, st, pr, ov, yh, ho, yn, le, op, nn, pt, ce, sk, oq, cw, ya, cl, li, lc, tx) (nI c) (sk d)) :
    fc_Do c x (nh, wc, wd, cv, nI (d + 1), pr, st, cc, lo, ho, xn, wa, go, pa, co, ca, wl, sk, ce, tx, cw, cp, cl, li, lc) (nh, wd, nI (d + 1), cc, lo, st, pr, ov, yh, ho, yn, le, op, nn, pt, ce, sk, oq, cw, ya, cl, li, lc, tx) (nh, wc, wd, cv, nI (d + 1), pr, st, cc, lo, ho, xn, wa, go, pa, co, ca, wl, upd sk d (lw_i16 r), ce, tx, cw, cp, cl, li, lc) (nh, wd, nI (d + 1), cc, lo, st, pr, ov, yh, ho, yn, le, op, nn, pt, ce, upd sk d (lw_i16 r), oq, cw, ya, cl, li, lc, tx) := by
  have h5 : 12 < c := by unfold fc_A at hj; omega
  have hb : ¬ fc_B c := by unfold fc_B; unfold fc_A at hj; omega
  constructor
  · intro p hp
    refine br_t (nI_lt (b := 30) (by omega) (by decide)) (br_t (nI_lt (b := 22) hc (by decide)) (br_t (nI_lt (a := 5) (by omega) (by omega)) ?_))
    refine xq_jf (by omega) hb (br_t rfl ?_)
    refine xq_at (by omega) hj (br_f fn_10 ?_)
    refine xp_take (d := d) (by omega) ?_
    refine hX _ ?_
    exact xp_put (d := d) (by omega) hp
  · intro q hq
    have K : wY_work_91 q (nI c) nh wd (nI (d + 1)) cc lo st pr ov yh ho yn le op nn pt ce sk oq cw ya cl li lc tx := by
      unfold wY_work_91
      refine yp_take (d := d) (by omega) ?_
      refine hY _ ?_
      exact yp_give (d := d) (by omega) hq
    refine br_f (fn_ne (m := 0) (by omega)) (br_t (nI_lt (a := 5) (by omega) (by omega)) (br_f (nI_ge (b := c) h5 (by omega)) ?_))
    refine yq_in 14 16 (by omega) (by omega) (by omega) (fun y => absurd hb (by unfold fc_B; omega)) (fun y => br_t rfl (pk_eq c 13 (fun _ => K) (fun z => ?_)))
    refine yq_in 17 19 (by omega) (by omega) (by omega) (fun _ => br_f fn_10 K) (fun y => absurd hj (by unfold fc_A; omega))
theorem fw_store {d : Nat} {x : Int32} (hd : d + 2 ≤ 12) (hs : fc_Sh sk) :
    ∃ j : Nat, fc_Do 20 x (nh, wc, wd, cv, nI (d + 2), pr, st, cc, lo, ho, xn, wa, go, pa, co, ca, wl, sk, ce, tx, cw, cp, cl, li, lc) (nh, wd, nI (d + 2), cc, lo, st, pr, ov, yh, ho, yn, le, op, nn, pt, ce, sk, oq, cw, ya, cl, li, lc, tx) (nh, wc, wd, cv, nI d, pr, st, cc, lo, ho, xn, wa, go, pa, co, ca, wl, sk, upd ce j (sk d), tx, cw, cp, cl, li, lc) (nh, wd, nI d, cc, lo, st, pr, ov, yh, ho, yn, le, op, nn, pt, upd ce j (sk d), sk, oq, cw, ya, cl, li, lc, tx) := by
  obtain ⟨j, hj, e⟩ := pk_andE (sk (d + 1)) (m := 15) 4 (by decide)
  have w : vp_in (sk (d + 1) &&& 15) 16 := pk_andIn _ 4 (by decide) (by decide)
  have k : (sk (d + 1) &&& 15).toNatClampNeg = j := by rw [e]; exact nI_clamp (by omega)
  refine ⟨j, ?_, ?_⟩
  · intro p hp
    refine br_t (by decide) (br_t (by decide) (br_t (by decide) ?_))
    refine xq_jf (c := 20) (by omega) (by unfold fc_B; omega) (br_t rfl ?_)
    refine xq_af (c := 20) (by omega) (by unfold fc_A; omega) (br_t rfl (br_t rfl ?_))
    refine xp_take (d := d + 1) (by omega) ?_
    refine xp_take (d := d) (by omega) ?_
    exact ⟨w, nm_r (e' := upd ce j (sk d)) (by rw [k, fn_vi (hs d)]) hp⟩
  · intro q hq
    refine br_f (by decide) (br_t (by decide) (br_f (by decide) ?_))
    refine yq_in (c := 20) 14 16 (by omega) (by omega) (by omega) (fun y => absurd y (by omega)) (fun y => br_t rfl (br_f (by decide) ?_))
    refine yq_in (c := 20) 17 19 (by omega) (by omega) (by omega) (fun y => absurd y (by omega)) (fun y => br_t rfl (br_t rfl ?_))
    refine yp_take (d := d + 1) (by omega) ?_
    refine yp_take (d := d) (by omega) ?_
    exact ⟨w, nm_r (e' := upd ce j (sk d)) (by rw [k]) hq⟩
/-! print -/
/-- a digit: u is its power of ten, z the number -/
def fc_dg (u z : Nat) (t : Nat → Int32) (p : Nat) : (Nat → Int32) × Nat := if u ≤ z ∨ u = 1 then (fc_tx t p (nI (48 + z / u % 10)), p + 1) else (t, p)
theorem fc_dg_t {u z p : Nat} {t : Nat → Int32} (h : u ≤ z ∨ u = 1) : fc_dg u z t p = (fc_tx t p (nI (48 + z / u % 10)), p + 1) := if_pos h
theorem fc_dg_f {u z p : Nat} {t : Nat → Int32} (h : ¬ (u ≤ z ∨ u = 1)) : fc_dg u z t p = (t, p) := if_neg h
theorem fc_dg_p {u z p : Nat} {t : Nat → Int32} : (fc_dg u z t p).2 ≤ p + 1 := by
  by_cases h : u ≤ z ∨ u = 1
  · rw [fc_dg_t h]; exact Nat.le_refl _
  · rw [fc_dg_f h]; exact Nat.le_succ _
/-- one turn of X's loop -/
theorem xd_1 {post : SX → Prop} {n u z p : Nat} (hu : 0 < u) (hu2 : u < 2 ^ 20) (hz : z < 2 ^ 20) (hp : p < 2 ^ 29)
    (h : wX_print_25 post (nI z) n (nI (u / 10)) nh wc wd cv sd (nI (fc_dg u z tx p).2) st cc lo ho xn wa go pa co ca wl sk ce ((fc_dg u z tx p).1) cw cp cl li lc) : wX_print_25 post (nI z) (n + 1) (nI u) nh wc wd cv sd (nI p) st cc lo ho xn wa go pa co ca wl sk ce tx cw cp cl li lc := by
  rw [wX_print_25]
  have e10 : nI u / 10 = nI (u / 10) := pk_div (d := 10) (by omega) (by omega) (by omega)
  have n10 : ¬ (10 : Int32) = 0 := by decide
  have hm : z / u % 10 < 10 := Nat.mod_lt _ (by omega)
  have hq : z / u < 2 ^ 31 := Nat.lt_of_le_of_lt (Nat.div_le_self z u) (by omega)
  have K : (u ≤ z ∨ u = 1) → wX_print_39 post (wX_print_25 post (nI z) n) (nI z) (nI u) nh wc wd cv sd (nI p) st cc lo ho xn wa go pa co ca wl sk ce tx cw cp cl li lc := by
    intro c
    rw [fc_dg_t c] at h
    have ed : 48 + (nI z / nI u - nI z / nI u / 10 * 10) = nI (48 + z / u % 10) := by
      rw [pk_div (by omega) hu (by omega)]
      have := pk_rem (a := z / u) (d := 10) hq (by omega) (by omega)
      exact (congrArg (fun y => nI 48 + y) this).trans (nI_add 48 _)
    refine ⟨nI_ne0 hu (by omega), n10, ?_⟩
    rw [ed]
    exact xp_char (by omega) (by omega) ⟨n10, nm_r e10 h⟩
  refine br_f (nI_nle hu (by omega)) (pk_le u z (fun c => K (Or.inl c)) (fun c => pk_eq u 1 (fun y => K (Or.inr y)) (fun y => ⟨n10, nm_r e10 ?_⟩)))
  rw [fc_dg_f (by omega)] at h
  exact h
theorem xd_0 {post : SX → Prop} {n p : Nat} {z : Int32} (hp : p < 2 ^ 29) (h : post (nh, wc, wd, cv, sd, nI (p + 1), st, cc, lo, ho, xn, wa, go, pa, co, ca, wl, sk, ce, fc_tx tx p (nI 32), cw, cp, cl, li, lc)) : wX_print_25 post z (n + 1) (nI 0) nh wc wd cv sd (nI p) st cc lo ho xn wa go pa co ca wl sk ce tx cw cp cl li lc := by
  rw [wX_print_25]
  exact br_t (by decide) (xp_char (n := 32) (by omega) (by omega) h)
/-- one turn of Y's: f tells whether a digit has been put, which is whether 10 u ≤ z -/
theorem yd_1 {post : SY → Prop} {n u z p k f g : Nat} (hk : k < 5) (hu : 0 < u) (hu2 : u < 2 ^ 20) (hz : z < 2 ^ 20) (hf : f = 1 ∧ 10 * u ≤ z ∨ f = 0 ∧ z < 10 * u) (hg : g = 1 ∧ (u ≤ z ∨ u = 1) ∨ g = 0 ∧ z < u ∧ u ≠ 1) (h4 : k = 4 ∧ u = 1 ∨ k ≠ 4 ∧ u ≠ 1) (hp : p < 2 ^ 29)
    (h : wY_print_31 post (nI z) n (nI (u / 10)) (nI g) (nI (k + 1)) nh wd sd cc lo st (nI (fc_dg u z tx p).2) ov yh ho yn le op nn pt ce sk oq cw ya cl li lc ((fc_dg u z tx p).1)) :
    wY_print_31 post (nI z) (n + 1) (nI u) (nI f) (nI k) nh wd sd cc lo st (nI p) ov yh ho yn le op nn pt ce sk oq cw ya cl li lc tx := by
  rw [wY_print_31]
  have e10 : nI u / 10 = nI (u / 10) := pk_div (d := 10) (by omega) (by omega) (by omega)
  have n10 : ¬ (10 : Int32) = 0 := by decide
  have hm : z / u % 10 < 10 := Nat.mod_lt _ (by omega)
  have hq : z / u < 2 ^ 31 := Nat.lt_of_le_of_lt (Nat.div_le_self z u) (by omega)
  have ed : nI z / nI u - nI z / nI u / 10 * 10 = nI (z / u % 10) := by
    rw [pk_div (by omega) hu (by omega)]
    exact pk_rem (a := z / u) (d := 10) hq (by omega) (by omega)
  have S1 : (u ≤ z ∨ u = 1) → wY_print_68 post (wY_print_31 post (nI z) n) (nI z) (nI u) 1 (nI k) (nI (z / u % 10)) nh wd sd cc lo st (nI p) ov yh ho yn le op nn pt ce sk oq cw ya cl li lc tx := by
    intro c
    have g1 : g = 1 := by omega
    rw [fc_dg_t c, g1] at h
    refine br_f fn_10 ?_
    rw [show (48 : Int32) + nI (z / u % 10) = nI (48 + z / u % 10) from nI_add 48 _]
    exact yp_char (by omega) ⟨n10, nm_r e10 (nm_r (nI_1 k) h)⟩
  have S0 : ¬ (u ≤ z ∨ u = 1) → wY_print_68 post (wY_print_31 post (nI z) n) (nI z) (nI u) (nI f) (nI k) (nI (z / u % 10)) nh wd sd cc lo st (nI p) ov yh ho yn le op nn pt ce sk oq cw ya cl li lc tx := by
    intro c
    have g0 : g = 0 := by omega
    have f0 : f = 0 := by omega
    rw [fc_dg_f c, g0] at h
    rw [f0]
    exact br_t rfl ⟨n10, nm_r e10 (nm_r (nI_1 k) h)⟩
  refine br_f (nI_ge (b := 5) hk (by decide)) (br_t (nI_le (a := 1) hu (by omega)) ?_)
  refine ⟨nI_ne0 hu (by omega), n10, nm_r ed ?_⟩
  have hd0 : u ≤ z → z < 10 * u → 0 < z / u % 10 := fun a b => by
    have h1 : 1 ≤ z / u := (Nat.le_div_iff_mul_le hu).mpr (by omega)
    have h2 : z / u < 10 := (Nat.div_lt_iff_lt_mul hu).mpr (by omega)
    rw [Nat.mod_eq_of_lt h2]
    omega
  have hd1 : z < u → z / u % 10 = 0 := fun a => by rw [Nat.div_eq_of_lt a]
  generalize z / u % 10 = dg at *
  refine pk_lt 0 dg (fun y => S1 ?_) (fun y => pk_eq k 4 (fun w => S1 (by omega)) (fun w => ?_))
  · by_cases a : u ≤ z
    · exact Or.inl a
    · have := hd1 (by omega)
      omega
  · by_cases a : 10 * u ≤ z
    · have := S1 (Or.inl (by omega))
      have f1 : f = 1 := by omega
      rw [f1]
      exact this
    · refine S0 (fun c => ?_)
      rcases c with c | c
      · have := hd0 c (by omega)
        omega
      · omega
theorem yd_0 {post : SY → Prop} {n p : Nat} {z a b : Int32} (hp : p < 2 ^ 29) (h : post (nh, wd, sd, cc, lo, st, nI (p + 1), ov, yh, ho, yn, le, op, nn, pt, ce, sk, oq, cw, ya, cl, li, lc, fc_tx tx p (nI 32))) : wY_print_31 post z (n + 1) a b (nI 5) nh wd sd cc lo st (nI p) ov yh ho yn le op nn pt ce sk oq cw ya cl li lc tx := by
  rw [wY_print_31]
  exact br_t (by decide) (yp_char (c := nI 32) (by omega) h)
/-- the number's digits and the blank -/
theorem fd_all {z p : Nat} (hz : z ≤ 32768) (hp : p < 2 ^ 20) : ∃ (t' : Nat → Int32) (p' : Nat), p' ≤ p + 6 ∧
    (∀ post : SX → Prop, post (nh, wc, wd, cv, sd, nI p', st, cc, lo, ho, xn, wa, go, pa, co, ca, wl, sk, ce, t', cw, cp, cl, li, lc) → ∃ n, wX_print_25 post (nI z) n 10000 nh wc wd cv sd (nI p) st cc lo ho xn wa go pa co ca wl sk ce tx cw cp cl li lc) ∧
    (∀ post : SY → Prop, post (nh, wd, sd, cc, lo, st, nI p', ov, yh, ho, yn, le, op, nn, pt, ce, sk, oq, cw, ya, cl, li, lc, t') → ∃ n, wY_print_31 post (nI z) n 10000 0 0 nh wd sd cc lo st (nI p) ov yh ho yn le op nn pt ce sk oq cw ya cl li lc tx) := by
  have a1 := fc_dg_p (u := 10000) (z := z) (p := p) (t := tx)
  generalize e1 : fc_dg 10000 z tx p = s1 at a1
  have a2 := fc_dg_p (u := 1000) (z := z) (p := s1.2) (t := s1.1)
  generalize e2 : fc_dg 1000 z s1.1 s1.2 = s2 at a2
  have a3 := fc_dg_p (u := 100) (z := z) (p := s2.2) (t := s2.1)
  generalize e3 : fc_dg 100 z s2.1 s2.2 = s3 at a3
  have a4 := fc_dg_p (u := 10) (z := z) (p := s3.2) (t := s3.1)
  generalize e4 : fc_dg 10 z s3.1 s3.2 = s4 at a4
  have a5 := fc_dg_p (u := 1) (z := z) (p := s4.2) (t := s4.1)
  generalize e5 : fc_dg 1 z s4.1 s4.2 = s5 at a5
  refine ⟨fc_tx s5.1 s5.2 (nI 32), s5.2 + 1, by omega, fun post h => ⟨6, ?_⟩, fun post h => ⟨6, ?_⟩⟩
  · refine xd_1 (u := 10000) (by omega) (by omega) (by omega) (by omega) ?_
    rw [e1]
    refine xd_1 (u := 1000) (by omega) (by omega) (by omega) (by omega) ?_
    rw [e2]
    refine xd_1 (u := 100) (by omega) (by omega) (by omega) (by omega) ?_
    rw [e3]
    refine xd_1 (u := 10) (by omega) (by omega) (by omega) (by omega) ?_
    rw [e4]
    refine xd_1 (u := 1) (by omega) (by omega) (by omega) (by omega) ?_
    rw [e5]
    exact xd_0 (by omega) h
  · obtain ⟨b1, g1⟩ : ∃ b : Nat, b = 1 ∧ 10000 ≤ z ∨ b = 0 ∧ z < 10000 := fn_bit 10000 z
    obtain ⟨b2, g2⟩ : ∃ b : Nat, b = 1 ∧ 1000 ≤ z ∨ b = 0 ∧ z < 1000 := fn_bit 1000 z
    obtain ⟨b3, g3⟩ : ∃ b : Nat, b = 1 ∧ 100 ≤ z ∨ b = 0 ∧ z < 100 := fn_bit 100 z
    obtain ⟨b4, g4⟩ : ∃ b : Nat, b = 1 ∧ 10 ≤ z ∨ b = 0 ∧ z < 10 := fn_bit 10 z
    refine yd_1 (u := 10000) (k := 0) (f := 0) (g := b1) (by omega) (by omega) (by omega) (by omega) (by omega) (by omega) (by omega) (by omega) ?_
    rw [e1]
    refine yd_1 (u := 1000) (k := 1) (f := b1) (g := b2) (by omega) (by omega) (by omega) (by omega) (by omega) (by omega) (by omega) (by omega) ?_
    rw [e2]
    refine yd_1 (u := 100) (k := 2) (f := b2) (g := b3) (by omega) (by omega) (by omega) (by omega) (by omega) (by omega) (by omega) (by omega) ?_
    rw [e3]
    refine yd_1 (u := 10) (k := 3) (f := b3) (g := b4) (by omega) (by omega) (by omega) (by omega) (by omega) (by omega) (by omega) (by omega) ?_
    rw [e4]
    refine yd_1 (u := 1) (k := 4) (f := b4) (g := 1) (by omega) (by omega) (by omega) (by omega) (by omega) (by omega) (by omega) (by omega) ?_
    rw [e5]
    exact yd_0 (by omega) h
/-- the sign ahead of them -/
theorem fn_abs {a : Int32} (h : lw_i16 a = a) (hn : ¬ 0 ≤ a) : ∃ z : Nat, z ≤ 32768 ∧ -a = nI z := by
  obtain ⟨r1, r2⟩ := fn_rng h
  rw [Int32.le_iff_toInt_le, show (0 : Int32).toInt = 0 from by decide] at hn
  refine ⟨(-a.toInt).toNat, by omega, ?_⟩
  apply Int32.toInt_inj.mp
  rw [nI_toInt (by omega), Int32.toInt_neg, Int.bmod_eq_of_le (by omega) (by omega)]
  omega
theorem fn_pos {a : Int32} (h : lw_i16 a = a) (hn : 0 ≤ a) : ∃ z : Nat, z ≤ 32768 ∧ a = nI z := by
  obtain ⟨r1, r2⟩ := fn_rng h
  rw [Int32.le_iff_toInt_le, show (0 : Int32).toInt = 0 from by decide] at hn
  refine ⟨a.toInt.toNat, by omega, ?_⟩
  apply Int32.toInt_inj.mp
  rw [nI_toInt (by omega)]
  omega
theorem fp_all {a : Int32} {p : Nat} (ha : lw_i16 a = a) (hp : p < 2 ^ 19) : ∃ (t' : Nat → Int32) (p' : Nat), p' ≤ p + 7 ∧
    (∀ post : SX → Prop, post (nh, wc, wd, cv, sd, nI p', st, cc, lo, ho, xn, wa, go, pa, co, ca, wl, sk, ce, t', cw, cp, cl, li, lc) → wpX_print post (nh, wc, wd, cv, sd, nI p, st, cc, lo, ho, xn, wa, go, pa, co, ca, wl, sk, ce, tx, cw, cp, cl, li, lc) a) ∧ (∀ post : SY → Prop, post (nh, wd, sd, cc, lo, st, nI p', ov, yh, ho, yn, le, op, nn, pt, ce, sk, oq, cw, ya, cl, li, lc, t') → wpY_print post (nh, wd, sd, cc, lo, st, nI p, ov, yh, ho, yn, le, op, nn, pt, ce, sk, oq, cw, ya, cl, li, lc, tx) a) := by
  by_cases hn : 0 ≤ a
  · obtain ⟨z, hz, rfl⟩ := fn_pos ha hn
    have F : ∃ (t' : Nat → Int32) (p' : Nat), p' ≤ p + 6 ∧
      (∀ post : SX → Prop, post (nh, wc, wd, cv, sd, nI p', st, cc, lo, ho, xn, wa, go, pa, co, ca, wl, sk, ce, t', cw, cp, cl, li, lc) → ∃ n, wX_print_25 post (nI z) n 10000 nh wc wd cv sd (nI p) st cc lo ho xn wa go pa co ca wl sk ce tx cw cp cl li lc) ∧
      (∀ post : SY → Prop, post (nh, wd, sd, cc, lo, st, nI p', ov, yh, ho, yn, le, op, nn, pt, ce, sk, oq, cw, ya, cl, li, lc, t') → ∃ n, wY_print_31 post (nI z) n 10000 0 0 nh wd sd cc lo st (nI p) ov yh ho yn le op nn pt ce sk oq cw ya cl li lc tx) := fd_all hz (by omega)
    obtain ⟨t', p', h1, h2, h3⟩ := F
    exact ⟨t', p', by omega, fun post h => br_t hn (br_t hn (h2 post h)), fun post h => br_t hn (br_t hn (h3 post h))⟩
  · obtain ⟨z, hz, e⟩ := fn_abs ha hn
    have F : ∃ (t' : Nat → Int32) (p' : Nat), p' ≤ p + 1 + 6 ∧
      (∀ post : SX → Prop, post (nh, wc, wd, cv, sd, nI p', st, cc, lo, ho, xn, wa, go, pa, co, ca, wl, sk, ce, t', cw, cp, cl, li, lc) → ∃ n, wX_print_25 post (nI z) n 10000 nh wc wd cv sd (nI (p + 1)) st cc lo ho xn wa go pa co ca wl sk ce (fc_tx tx p (nI 45)) cw cp cl li lc) ∧
      (∀ post : SY → Prop, post (nh, wd, sd, cc, lo, st, nI p', ov, yh, ho, yn, le, op, nn, pt, ce, sk, oq, cw, ya, cl, li, lc, t') → ∃ n, wY_print_31 post (nI z) n 10000 0 0 nh wd sd cc lo st (nI (p + 1)) ov yh ho yn le op nn pt ce sk oq cw ya cl li lc (fc_tx tx p (nI 45))) := fd_all hz (by omega)
    obtain ⟨t', p', h1, h2, h3⟩ := F
    refine ⟨t', p', by omega, fun post h => br_f hn ?_, fun post h => br_f hn ?_⟩
    · refine xp_char (n := 45) (by omega) (by omega) ?_
      exact br_f hn (nm_r e (h2 post h))
    · refine yp_char (c := nI 45) (by omega) ?_
      exact br_f hn (nm_r e (h3 post h))
theorem fw_print {d p : Nat} {x : Int32} (hd : d + 1 ≤ 12) (hs : fc_Sh sk) (hp : p < 2 ^ 19) : ∃ (t' : Nat → Int32) (p' : Nat), p' ≤ p + 7 ∧
    fc_Do 21 x (nh, wc, wd, cv, nI (d + 1), nI p, st, cc, lo, ho, xn, wa, go, pa, co, ca, wl, sk, ce, tx, cw, cp, cl, li, lc) (nh, wd, nI (d + 1), cc, lo, st, nI p, ov, yh, ho, yn, le, op, nn, pt, ce, sk, oq, cw, ya, cl, li, lc, tx) (nh, wc, wd, cv, nI d, nI p', st, cc, lo, ho, xn, wa, go, pa, co, ca, wl, sk, ce, t', cw, cp, cl, li, lc) (nh, wd, nI d, cc, lo, st, nI p', ov, yh, ho, yn, le, op, nn, pt, ce, sk, oq, cw, ya, cl, li, lc, t') := by
  have F : ∃ (t' : Nat → Int32) (p' : Nat), p' ≤ p + 7 ∧
    (∀ post : SX → Prop, post (nh, wc, wd, cv, nI d, nI p', st, cc, lo, ho, xn, wa, go, pa, co, ca, wl, sk, ce, t', cw, cp, cl, li, lc) → wpX_print post (nh, wc, wd, cv, nI d, nI p, st, cc, lo, ho, xn, wa, go, pa, co, ca, wl, sk, ce, tx, cw, cp, cl, li, lc) (sk d)) ∧ (∀ post : SY → Prop, post (nh, wd, nI d, cc, lo, st, nI p', ov, yh, ho, yn, le, op, nn, pt, ce, sk, oq, cw, ya, cl, li, lc, t') → wpY_print post (nh, wd, nI d, cc, lo, st, nI p, ov, yh, ho, yn, le, op, nn, pt, ce, sk, oq, cw, ya, cl, li, lc, tx) (sk d)) := fp_all (hs d) hp
  obtain ⟨t', p', h1, h2, h3⟩ := F
  refine ⟨t', p', h1, ?_, ?_⟩
  · intro p hp
    refine br_t (by decide) (br_t (by decide) (br_t (by decide) ?_))
    refine xq_jf (c := 21) (by omega) (by unfold fc_B; omega) (br_t rfl ?_)
    refine xq_af (c := 21) (by omega) (by unfold fc_A; omega) (br_t rfl (br_f (by decide) ?_))
    refine xp_take (d := d) (by omega) ?_
    exact h2 _ hp
  · intro q hq
    refine br_f (by decide) (br_t (by decide) (br_f (by decide) ?_))
    refine yq_in (c := 21) 14 16 (by omega) (by omega) (by omega) (fun y => absurd y (by omega)) (fun y => br_t rfl (br_f (by decide) ?_))
    refine yq_in (c := 21) 17 19 (by omega) (by omega) (by omega) (fun y => absurd y (by omega)) (fun y => br_t rfl (br_f (by decide) ?_))
    refine yp_take (d := d) (by omega) ?_
    exact h3 _ hq
/-! the ops 0 to 5 -/
theorem xa_5 {p : Int32 → SX → Prop} {c : Nat} {x : Int32} (hc : c ≤ 5) (h : wpX_arrange (fun u => p (-1) u) (nh, wc, wd, cv, sd, pr, st, cc, lo, ho, xn, wa, go, pa, co, ca, wl, sk, ce, tx, cw, cp, cl, li, lc) (nI c) x) : wpX_execute p (nh, wc, wd, cv, sd, pr, st, cc, lo, ho, xn, wa, go, pa, co, ca, wl, sk, ce, tx, cw, cp, cl, li, lc) (nI c) x := by
  refine br_t (nI_lt (b := 30) (by omega) (by decide)) (br_t (nI_lt (b := 22) (by omega) (by decide)) (br_f (nI_nlt (a := 5) hc (by omega)) ?_))
  exact h
theorem fw_0 {d : Nat} {x : Int32} (hd : d < 12) : fc_Do 0 x (nh, wc, wd, cv, nI d, pr, st, cc, lo, ho, xn, wa, go, pa, co, ca, wl, sk, ce, tx, cw, cp, cl, li, lc) (nh, wd, nI d, cc, lo, st, pr, ov, yh, ho, yn, le, op, nn, pt, ce, sk, oq, cw, ya, cl, li, lc, tx) (nh, wc, wd, cv, nI (d + 1), pr, st, cc, lo, ho, xn, wa, go, pa, co, ca, wl, upd sk d (lw_i16 x), ce, tx, cw, cp, cl, li, lc) (nh, wd, nI (d + 1), cc, lo, st, pr, ov, yh, ho, yn, le, op, nn, pt, ce, upd sk d (lw_i16 x), oq, cw, ya, cl, li, lc, tx) := by
  constructor
  · intro p hp
    refine xa_5 (c := 0) (by omega) ?_
    refine br_f (by decide) (br_f (by decide) (br_t rfl ?_))
    refine xp_put (d := d) hd ?_
    rw [fn_ii]
    exact hp
  · intro q hq
    exact br_t rfl (yp_give (d := d) hd hq)
theorem fw_1 {d : Nat} {x : Int32} (hd : d + 1 < 12) : fc_Do 1 x (nh, wc, wd, cv, nI (d + 1), pr, st, cc, lo, ho, xn, wa, go, pa, co, ca, wl, sk, ce, tx, cw, cp, cl, li, lc) (nh, wd, nI (d + 1), cc, lo, st, pr, ov, yh, ho, yn, le, op, nn, pt, ce, sk, oq, cw, ya, cl, li, lc, tx) (nh, wc, wd, cv, nI (d + 2), pr, st, cc, lo, ho, xn, wa, go, pa, co, ca, wl, upd sk (d + 1) (lw_i16 (sk d)), ce, tx, cw, cp, cl, li, lc) (nh, wd, nI (d + 2), cc, lo, st, pr, ov, yh, ho, yn, le, op, nn, pt, ce, upd sk (d + 1) (lw_i16 (sk d)), oq, cw, ya, cl, li, lc, tx) := by
  have e : (nI (d + 1) - 1).toNatClampNeg = d := by rw [nI_pred]; exact nI_clamp (by omega)
  have w : vp_in (nI (d + 1) - 1) 12 := by rw [nI_pred]; exact vp_in_nI (by omega) (by omega)
  constructor
  · intro p hp
    refine xa_5 (c := 1) (by omega) ?_
    refine br_f (by decide) (br_f (by decide) (br_f (by decide) (br_t rfl ⟨w, ?_⟩)))
    rw [e]
    exact xp_put (d := d + 1) hd hp
  · intro q hq
    refine br_f (by decide) (br_f (by decide) (br_t rfl (br_t rfl ⟨w, nm_r (e' := sk d) (by rw [e]) ?_⟩)))
    exact yp_give (d := d + 1) hd hq
theorem fw_2 {d : Nat} {x : Int32} (hd : d < 12) : fc_Do 2 x (nh, wc, wd, cv, nI (d + 1), pr, st, cc, lo, ho, xn, wa, go, pa, co, ca, wl, sk, ce, tx, cw, cp, cl, li, lc) (nh, wd, nI (d + 1), cc, lo, st, pr, ov, yh, ho, yn, le, op, nn, pt, ce, sk, oq, cw, ya, cl, li, lc, tx) (nh, wc, wd, cv, nI d, pr, st, cc, lo, ho, xn, wa, go, pa, co, ca, wl, sk, ce, tx, cw, cp, cl, li, lc) (nh, wd, nI d, cc, lo, st, pr, ov, yh, ho, yn, le, op, nn, pt, ce, sk, oq, cw, ya, cl, li, lc, tx) := by
  constructor
  · intro p hp
    refine xa_5 (c := 2) (by omega) ?_
    exact br_f (by decide) (br_f (by decide) (br_f (by decide) (br_f (by decide) (br_t rfl (nm_r (nI_pred d) hp)))))
  · intro q hq
    exact br_f (by decide) (br_f (by decide) (br_f (by decide) (br_f (by decide) (br_t rfl (nm_r (nI_pred d) hq)))))
theorem fw_4 {d : Nat} {x : Int32} (hd : d + 2 < 12) : fc_Do 4 x (nh, wc, wd, cv, nI (d + 2), pr, st, cc, lo, ho, xn, wa, go, pa, co, ca, wl, sk, ce, tx, cw, cp, cl, li, lc) (nh, wd, nI (d + 2), cc, lo, st, pr, ov, yh, ho, yn, le, op, nn, pt, ce, sk, oq, cw, ya, cl, li, lc, tx) (nh, wc, wd, cv, nI (d + 3), pr, st, cc, lo, ho, xn, wa, go, pa, co, ca, wl, upd sk (d + 2) (lw_i16 (sk d)), ce, tx, cw, cp, cl, li, lc) (nh, wd, nI (d + 3), cc, lo, st, pr, ov, yh, ho, yn, le, op, nn, pt, ce, upd sk (d + 2) (lw_i16 (sk d)), oq, cw, ya, cl, li, lc, tx) := by
  have e : (nI (d + 2) - 2).toNatClampNeg = d := by rw [fn_s2]; exact nI_clamp (by omega)
  have w : vp_in (nI (d + 2) - 2) 12 := by rw [fn_s2]; exact vp_in_nI (by omega) (by omega)
  constructor
  · intro p hp
    refine xa_5 (c := 4) (by omega) ?_
    refine br_f (by decide) (br_f (by decide) (br_f (by decide) (br_f (by decide) (br_f (by decide) (br_f (by decide) (br_t rfl ⟨w, ?_⟩))))))
    rw [e]
    exact xp_put (d := d + 2) hd hp
  · intro q hq
    refine br_f (by decide) (br_f (by decide) (br_f (by decide) (br_t rfl (br_f (by decide) ⟨w, nm_r (e' := sk d) (by rw [e]) ?_⟩))))
    exact yp_give (d := d + 2) hd hq
/-- SWAP, ROT: m = 1, 2 -/
def fc_sh (d : Nat) : Nat → Nat → (Nat → Int32) → (Nat → Int32)
  | 0, _, s => s
  | m + 1, i, s => fc_sh d m (i + 1) (upd s i (s (i + 1)))
theorem fc_sh_S {d : Nat} : ∀ (m i : Nat) (s : Nat → Int32), fc_Sh s → fc_Sh (fc_sh d m i s) := by
  intro m
  induction m with
  | zero => exact fun _ _ h => h
  | succ m ih => exact fun i s h => ih (i + 1) _ (fc_Sh_u h (h (i + 1)))
theorem xb_up {post : SX → Prop} {d : Nat} {v : Int32} (hd : d < 12) (hv : lw_i16 v = v) : ∀ (m i n : Nat) (s : Nat → Int32), i + m = d → m < n → fc_Sh s →
    post (nh, wc, wd, cv, nI (d + 1), pr, st, cc, lo, ho, xn, wa, go, pa, co, ca, wl, upd (fc_sh d m i s) d v, ce, tx, cw, cp, cl, li, lc) → wX_bringUp_21 post (nI d) v nh wc wd cv (nI (d + 1)) pr st cc lo n (nI i) ho xn wa go pa co ca wl s ce tx cw cp cl li lc := by
  intro m
  induction m with
  | zero =>
    intro i n s hi hn hs h
    obtain ⟨n, rfl⟩ : ∃ k, n = k + 1 := ⟨n - 1, by omega⟩
    rw [wX_bringUp_21]
    have e : (nI d).toNatClampNeg = d := nI_clamp (by omega)
    exact br_t (nI_le (by omega) (by omega)) ⟨vp_in_nI hd (by omega), nm_r (e' := upd s d v) (by rw [e, fn_vs hv]) h⟩
  | succ m ih =>
    intro i n s hi hn hs h
    obtain ⟨n, rfl⟩ : ∃ k, n = k + 1 := ⟨n - 1, by omega⟩
    rw [wX_bringUp_21]
    have e : (nI i).toNatClampNeg = i := nI_clamp (by omega)
    have e1 : (nI i + 1).toNatClampNeg = i + 1 := by rw [nI_1]; exact nI_clamp (by omega)
    have w1 : vp_in (nI i + 1) 12 := by rw [nI_1]; exact vp_in_nI (by omega) (by omega)
    refine br_f (nI_ge (by omega) (by omega)) ⟨w1, vp_in_nI (by omega) (by omega), nm_r (e' := upd s i (s (i + 1))) (by rw [e, e1, fn_vs (hs (i + 1))]) (nm_r (nI_1 i) ?_)⟩
    exact ih (i + 1) n _ (by omega) (by omega) (fc_Sh_u hs (hs (i + 1))) h
theorem yb_up {post : SY → Prop} {d : Nat} {v : Int32} (hd : d < 12) : ∀ (m i n : Nat) (s : Nat → Int32), i + m = d → m < n →
    post (nh, wd, nI (d + 1), cc, lo, st, pr, ov, yh, ho, yn, le, op, nn, pt, ce, upd (fc_sh d m i s) d v, oq, cw, ya, cl, li, lc, tx) → wY_shuffle_83 post v nh wd (nI (d + 1)) cc lo st pr ov yh n (nI i) ho yn le op nn pt ce s oq cw ya cl li lc tx := by
  intro m
  have ed : (nI (d + 1) - 1).toNatClampNeg = d := by rw [nI_pred]; exact nI_clamp (by omega)
  have wd' : vp_in (nI (d + 1) - 1) 12 := by rw [nI_pred]; exact vp_in_nI hd (by omega)
  induction m with
  | zero =>
    intro i n s hi hn h
    obtain ⟨n, rfl⟩ : ∃ k, n = k + 1 := ⟨n - 1, by omega⟩
    rw [wY_shuffle_83]
    have c : nI (d + 1) - 1 ≤ nI i := by rw [nI_pred]; exact nI_le (by omega) (by omega)
    exact br_t c ⟨wd', nm_r (e' := upd s d v) (by rw [ed]) h⟩
  | succ m ih =>
    intro i n s hi hn h
    obtain ⟨n, rfl⟩ : ∃ k, n = k + 1 := ⟨n - 1, by omega⟩
    rw [wY_shuffle_83]
    have e : (nI i).toNatClampNeg = i := nI_clamp (by omega)
    have e1 : (nI i + 1).toNatClampNeg = i + 1 := by rw [nI_1]; exact nI_clamp (by omega)
    have w1 : vp_in (nI i + 1) 12 := by rw [nI_1]; exact vp_in_nI (by omega) (by omega)
    have c : ¬ nI (d + 1) - 1 ≤ nI i := by rw [nI_pred]; exact nI_ge (by omega) (by omega)
    refine br_f c ⟨w1, vp_in_nI (by omega) (by omega), nm_r (e' := upd s i (s (i + 1))) (by rw [e, e1]) (nm_r (nI_1 i) ?_)⟩
    exact ih (i + 1) n _ (by omega) (by omega) h
theorem xb_bring {post : SX → Prop} {i m : Nat} (hd : i + m < 12) (hs : fc_Sh sk) (h : post (nh, wc, wd, cv, nI (i + m + 1), pr, st, cc, lo, ho, xn, wa, go, pa, co, ca, wl, upd (fc_sh (i + m) m i sk) (i + m) (sk i), ce, tx, cw, cp, cl, li, lc)) : wpX_bringUp post (nh, wc, wd, cv, nI (i + m + 1), pr, st, cc, lo, ho, xn, wa, go, pa, co, ca, wl, sk, ce, tx, cw, cp, cl, li, lc) (nI m) := by
  have e0 : nI (i + m) - nI m = nI i := by
    have := pk_sub (a := i + m) (b := m) (by omega)
    rw [Nat.add_sub_cancel] at this
    exact this
  have e : (nI i).toNatClampNeg = i := nI_clamp (by omega)
  refine nm_r (nI_pred (i + m)) ?_
  rw [e0, e]
  exact ⟨vp_in_nI (by omega) (by omega), nm_e (nm_e ⟨m + 1, xb_up hd (hs i) m i (m + 1) sk rfl (by omega) hs h⟩)⟩
theorem yb_shuf {post : SY → Prop} {i m : Nat} (hd : i + m < 12) (h : post (nh, wd, nI (i + m + 1), cc, lo, st, pr, ov, yh, ho, yn, le, op, nn, pt, ce, upd (fc_sh (i + m) m i sk) (i + m) (sk i), oq, cw, ya, cl, li, lc, tx)) : wY_shuffle_71 post (nI (m + 1)) (nI (i + m + 1)) nh wd (nI (i + m + 1)) cc lo st pr ov yh ho yn le op nn pt ce sk oq cw ya cl li lc tx := by
  have e0 : nI (i + m + 1) - nI (m + 1) = nI i := by
    have := pk_sub (a := i + (m + 1)) (b := m + 1) (by omega)
    rw [Nat.add_sub_cancel] at this
    exact this
  have e : (nI i).toNatClampNeg = i := nI_clamp (by omega)
  refine nm_r e0 ⟨vp_in_nI (by omega) (by omega), nm_r (e' := sk i) (by rw [e]) ⟨m + 1, ?_⟩⟩
  exact yb_up hd m i (m + 1) sk rfl (by omega) h
theorem fw_3 {d : Nat} {x : Int32} (hd : d + 1 < 12) (hs : fc_Sh sk) : fc_Do 3 x (nh, wc, wd, cv, nI (d + 2), pr, st, cc, lo, ho, xn, wa, go, pa, co, ca, wl, sk, ce, tx, cw, cp, cl, li, lc) (nh, wd, nI (d + 2), cc, lo, st, pr, ov, yh, ho, yn, le, op, nn, pt, ce, sk, oq, cw, ya, cl, li, lc, tx) (nh, wc, wd, cv, nI (d + 2), pr, st, cc, lo, ho, xn, wa, go, pa, co, ca, wl, upd (fc_sh (d + 1) 1 d sk) (d + 1) (sk d), ce, tx, cw, cp, cl, li, lc) (nh, wd, nI (d + 2), cc, lo, st, pr, ov, yh, ho, yn, le, op, nn, pt, ce, upd (fc_sh (d + 1) 1 d sk) (d + 1) (sk d), oq, cw, ya, cl, li, lc, tx) := by
  constructor
  · intro p hp
    refine xa_5 (c := 3) (by omega) ?_
    refine br_f (by decide) (br_f (by decide) (br_f (by decide) (br_f (by decide) (br_f (by decide) (br_t rfl ?_)))))
    exact xb_bring (i := d) (m := 1) hd hs hp
  · intro q hq
    refine br_f (by decide) (br_f (by decide) (br_f (by decide) (br_f (by decide) (br_f (by decide) (br_t rfl ?_)))))
    exact yb_shuf (i := d) (m := 1) hd hq
theorem fw_5 {d : Nat} {x : Int32} (hd : d + 2 < 12) (hs : fc_Sh sk) : fc_Do 5 x (nh, wc, wd, cv, nI (d + 3), pr, st, cc, lo, ho, xn, wa, go, pa, co, ca, wl, sk, ce, tx, cw, cp, cl, li, lc) (nh, wd, nI (d + 3), cc, lo, st, pr, ov, yh, ho, yn, le, op, nn, pt, ce, sk, oq, cw, ya, cl, li, lc, tx) (nh, wc, wd, cv, nI (d + 3), pr, st, cc, lo, ho, xn, wa, go, pa, co, ca, wl, upd (fc_sh (d + 2) 2 d sk) (d + 2) (sk d), ce, tx, cw, cp, cl, li, lc) (nh, wd, nI (d + 3), cc, lo, st, pr, ov, yh, ho, yn, le, op, nn, pt, ce, upd (fc_sh (d + 2) 2 d sk) (d + 2) (sk d), oq, cw, ya, cl, li, lc, tx) := by
  constructor
  · intro p hp
    refine xa_5 (c := 5) (by omega) ?_
    refine br_f (by decide) (br_t (by decide) ?_)
    exact xb_bring (i := d) (m := 2) hd hs hp
  · intro q hq
    refine br_f (by decide) (br_f (by decide) (br_f (by decide) (br_f (by decide) (br_f (by decide) (br_f (by decide) ?_)))))
    exact yb_shuf (i := d) (m := 2) hd hq
/-- all of them -/
theorem fw_all {c d p : Nat} {x : Int32} (hc : c < 22) (hd : d ≤ 12) (hn : fc_need c ≤ d) (hG : fc_G c → d < 12) (hz : c = 9 ∨ c = 10 → ¬ sk (d - 1) = 0) (hs : fc_Sh sk) (he : fc_Sh ce) (hp : p < 2 ^ 19) :
    ∃ (d' p' : Nat) (sk' ce' tx' : Nat → Int32), d' ≤ 12 ∧ p' ≤ p + 7 ∧ fc_Sh sk' ∧ fc_Sh ce' ∧
      fc_Do c x (nh, wc, wd, cv, nI d, nI p, st, cc, lo, ho, xn, wa, go, pa, co, ca, wl, sk, ce, tx, cw, cp, cl, li, lc) (nh, wd, nI d, cc, lo, st, nI p, ov, yh, ho, yn, le, op, nn, pt, ce, sk, oq, cw, ya, cl, li, lc, tx) (nh, wc, wd, cv, nI d', nI p', st, cc, lo, ho, xn, wa, go, pa, co, ca, wl, sk', ce', tx', cw, cp, cl, li, lc) (nh, wd, nI d', cc, lo, st, nI p', ov, yh, ho, yn, le, op, nn, pt, ce', sk', oq, cw, ya, cl, li, lc, tx') := by
  by_cases hB : fc_B c
  · have n2 : fc_need c = 2 := fc_e2 (by unfold fc_B at hB; unfold fc_N2; omega)
    obtain ⟨e, rfl⟩ : ∃ e, d = e + 2 := ⟨d - 2, by omega⟩
    have F : ∃ r, fc_Jn c (nh, wd, nI e, cc, lo, st, nI p, ov, yh, ho, yn, le, op, nn, pt, ce, sk, oq, cw, ya, cl, li, lc, tx) (sk e) (sk (e + 1)) r := fj_all hB hz
    obtain ⟨r, h1, h2⟩ := F
    exact ⟨e + 1, p, upd sk e (lw_i16 r), ce, tx, by omega, by omega, fc_Sh_u hs (fn_ii r), he, fw_join hc hB hd h1 h2⟩
  by_cases hA : fc_A c
  · have n1 : fc_need c = 1 := fc_e1 (by unfold fc_A at hA; unfold fc_N1; omega)
    obtain ⟨e, rfl⟩ : ∃ e, d = e + 1 := ⟨d - 1, by omega⟩
    have F : ∃ r, fc_Al c (nh, wc, wd, cv, nI e, nI p, st, cc, lo, ho, xn, wa, go, pa, co, ca, wl, sk, ce, tx, cw, cp, cl, li, lc) (nh, wd, nI e, cc, lo, st, nI p, ov, yh, ho, yn, le, op, nn, pt, ce, sk, oq, cw, ya, cl, li, lc, tx) (sk e) r := fl_all hA
    obtain ⟨r, h1, h2⟩ := F
    exact ⟨e + 1, p, upd sk e (lw_i16 r), ce, tx, hd, by omega, fc_Sh_u hs (fn_ii r), he, fw_alter hc hA hd h1 h2⟩
  have hr : c = 0 ∨ c = 1 ∨ c = 2 ∨ c = 3 ∨ c = 4 ∨ c = 5 ∨ c = 20 ∨ c = 21 := by unfold fc_B at hB; unfold fc_A at hA; omega
  rcases hr with rfl | rfl | rfl | rfl | rfl | rfl | rfl | rfl
  · have g := hG (Or.inl rfl)
    exact ⟨d + 1, p, upd sk d (lw_i16 x), ce, tx, by omega, by omega, fc_Sh_u hs (fn_ii x), he, fw_0 g⟩
  · have g := hG (Or.inr (Or.inl rfl))
    have n1 : fc_need 1 = 1 := fc_e1 (by unfold fc_N1; omega)
    obtain ⟨e, rfl⟩ : ∃ e, d = e + 1 := ⟨d - 1, by omega⟩
    exact ⟨e + 2, p, upd sk (e + 1) (lw_i16 (sk e)), ce, tx, by omega, by omega, fc_Sh_u hs (fn_ii _), he, fw_1 g⟩
  · have n1 : fc_need 2 = 1 := fc_e1 (by unfold fc_N1; omega)
    obtain ⟨e, rfl⟩ : ∃ e, d = e + 1 := ⟨d - 1, by omega⟩
    exact ⟨e, p, sk, ce, tx, by omega, by omega, hs, he, fw_2 (by omega)⟩
  · have n1 : fc_need 3 = 2 := fc_e2 (by unfold fc_N2; omega)
    obtain ⟨e, rfl⟩ : ∃ e, d = e + 2 := ⟨d - 2, by omega⟩
    exact ⟨e + 2, p, upd (fc_sh (e + 1) 1 e sk) (e + 1) (sk e), ce, tx, hd, by omega, fc_Sh_u (fc_sh_S 1 e sk hs) (hs e), he, fw_3 (by omega) hs⟩
  · have g := hG (Or.inr (Or.inr (Or.inl rfl)))
    have n1 : fc_need 4 = 2 := fc_e2 (by unfold fc_N2; omega)
    obtain ⟨e, rfl⟩ : ∃ e, d = e + 2 := ⟨d - 2, by omega⟩
    exact ⟨e + 3, p, upd sk (e + 2) (lw_i16 (sk e)), ce, tx, by omega, by omega, fc_Sh_u hs (fn_ii _), he, fw_4 g⟩
  · have n1 : fc_need 5 = 3 := fc_e3 rfl
    obtain ⟨e, rfl⟩ : ∃ e, d = e + 3 := ⟨d - 3, by omega⟩
    exact ⟨e + 3, p, upd (fc_sh (e + 2) 2 e sk) (e + 2) (sk e), ce, tx, hd, by omega, fc_Sh_u (fc_sh_S 2 e sk hs) (hs e), he, fw_5 (by omega) hs⟩
  · have n1 : fc_need 20 = 2 := fc_e2 (by unfold fc_N2; omega)
    obtain ⟨e, rfl⟩ : ∃ e, d = e + 2 := ⟨d - 2, by omega⟩
    have F : ∃ j : Nat, fc_Do 20 x (nh, wc, wd, cv, nI (e + 2), nI p, st, cc, lo, ho, xn, wa, go, pa, co, ca, wl, sk, ce, tx, cw, cp, cl, li, lc) (nh, wd, nI (e + 2), cc, lo, st, nI p, ov, yh, ho, yn, le, op, nn, pt, ce, sk, oq, cw, ya, cl, li, lc, tx) (nh, wc, wd, cv, nI e, nI p, st, cc, lo, ho, xn, wa, go, pa, co, ca, wl, sk, upd ce j (sk e), tx, cw, cp, cl, li, lc) (nh, wd, nI e, cc, lo, st, nI p, ov, yh, ho, yn, le, op, nn, pt, upd ce j (sk e), sk, oq, cw, ya, cl, li, lc, tx) := fw_store hd hs
    obtain ⟨j, h⟩ := F
    exact ⟨e, p, sk, upd ce j (sk e), tx, by omega, by omega, hs, fc_Sh_u he (hs e), h⟩
  · have n1 : fc_need 21 = 1 := fc_e1 (by unfold fc_N1; omega)
    obtain ⟨e, rfl⟩ : ∃ e, d = e + 1 := ⟨d - 1, by omega⟩
    have F : ∃ (t' : Nat → Int32) (p' : Nat), p' ≤ p + 7 ∧
      fc_Do 21 x (nh, wc, wd, cv, nI (e + 1), nI p, st, cc, lo, ho, xn, wa, go, pa, co, ca, wl, sk, ce, tx, cw, cp, cl, li, lc) (nh, wd, nI (e + 1), cc, lo, st, nI p, ov, yh, ho, yn, le, op, nn, pt, ce, sk, oq, cw, ya, cl, li, lc, tx) (nh, wc, wd, cv, nI e, nI p', st, cc, lo, ho, xn, wa, go, pa, co, ca, wl, sk, ce, t', cw, cp, cl, li, lc) (nh, wd, nI e, cc, lo, st, nI p', ov, yh, ho, yn, le, op, nn, pt, ce, sk, oq, cw, ya, cl, li, lc, t') := fw_print hd hs hp
    obtain ⟨t', p', h1, h⟩ := F
    exact ⟨e, p', sk, ce, t', by omega, h1, hs, he, h⟩

end WK
