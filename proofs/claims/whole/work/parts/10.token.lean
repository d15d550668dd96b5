/-! token, push, setCell, level -/
section TK
variable {nh wc wd cv sd pr st cc lo ov yh : Int32} {ho xn wa go pa co ca wl sk ce tx cw cp cl li lc yn le op nn pt oq ya : Nat → Int32}
theorem xn_0 {p : Int32 → Prop} {x : Int32} (h : x < (-32768) ∨ 32767 < x) (a : p 0) : wpX_isNumber p x := by
  by_cases z : x < (-32768)
  · exact br_t z a
  · exact br_f z (br_t (h.resolve_left z) a)
theorem xn_1 {p : Int32 → Prop} {x : Int32} (h1 : ¬ x < (-32768)) (h2 : ¬ 32767 < x) (a : p 1) : wpX_isNumber p x := br_f h1 (br_f h2 a)
theorem yn_0 {p : Int32 → Prop} {x : Int32} (h : x < (-32768) ∨ 32767 < x) (a : p 0) : wpY_isNumber p (nh, wd, sd, cc, lo, st, pr, ov, yh, ho, yn, le, op, nn, pt, ce, sk, oq, cw, ya, cl, li, lc, tx) x := by
  by_cases z : x < (-32768)
  · exact br_t z ⟨fn_nb0, a⟩
  · exact br_f z (br_t (h.resolve_left z) ⟨fn_nb0, a⟩)
theorem yn_1 {p : Int32 → Prop} {x : Int32} (h1 : ¬ x < (-32768)) (h2 : ¬ 32767 < x) (a : p 1) : wpY_isNumber p (nh, wd, sd, cc, lo, st, pr, ov, yh, ho, yn, le, op, nn, pt, ce, sk, oq, cw, ya, cl, li, lc, tx) x := br_f h1 (br_f h2 ⟨fn_nb1, a⟩)
theorem fn_upm {f : Nat → Int32} {h : Nat} {x : Int32} : upd (fun j => lw_i16 (f j)) h x.toInt16.toInt32 = fun j => lw_i16 (upd f h x j) := by
  funext j
  show (if j = h then x.toInt16.toInt32 else lw_i16 (f j)) = lw_i16 (if j = h then x else f j)
  split <;> rfl
theorem xk_58 {post : Int32 → SX → Prop} {h a : Nat} {x : Int32} {c : Nat → Nat} (hh : h < 24) (ha : a < 34) (H : post (nI (h + 1)) (nI (h + 1), wc, wd, cv, sd, pr, st, cc, lo, (fun j => nI (fc_set c h a j)), (fun j => lw_i16 (upd yn h x j)), wa, go, pa, co, ca, wl, sk, ce, tx, cw, cp, cl, li, lc)) :
    wX_token_58 post (nI a) x (nI h) wc wd cv sd pr st cc lo (fun j => nI (c j)) (fun j => lw_i16 (yn j)) wa go pa co ca wl sk ce tx cw cp cl li lc := by
  have e : (nI h).toNatClampNeg = h := nI_clamp (by omega)
  have w : vp_in (nI h) 24 := vp_in_nI hh (by omega)
  exact ⟨w, nm_r (e' := fun j => nI (fc_set c h a j)) (by rw [e, fn_b (by omega)]; exact fc_set_u c h a) ⟨w, nm_r (e' := fun j => lw_i16 (upd yn h x j)) (by rw [e, pk_vs]; exact fn_upm) (nm_r (nI_1 h) H)⟩⟩
theorem yk_55 {post : Int32 → SY → Prop} {h a : Nat} {x : Int32} {c : Nat → Nat} (hh : h < 24) (H : post (nI (h + 1)) (nI (h + 1), wd, sd, cc, lo, st, pr, ov, yh, (fun j => nI (fc_set c h a j)), upd yn h x, le, op, nn, pt, ce, sk, oq, cw, ya, cl, li, lc, tx)) :
    wY_token_55 post (nI a) x (nI h) wd sd cc lo st pr ov yh (fun j => nI (c j)) yn le op nn pt ce sk oq cw ya cl li lc tx := by
  have e : (nI h).toNatClampNeg = h := nI_clamp (by omega)
  have w : vp_in (nI h) 24 := vp_in_nI hh (by omega)
  exact ⟨w, nm_r (e' := fun j => nI (fc_set c h a j)) (by rw [e]; exact fc_set_u c h a) ⟨w, nm_r (e' := upd yn h x) (by rw [e]) (nm_r (nI_1 h) H)⟩⟩
/-- the walks to the store, and to a refusal -/
theorem xk_go {post : Int32 → SX → Prop} {h a : Nat} {x : Int32} {c : Nat → Nat} (hh : h < 24) (ha : a < 34) (h0 : a = 0 → ¬ x < (-32768) ∧ ¬ 32767 < x) (h22 : a = 22 → ∃ m : Nat, m < 10 ∧ x = nI m)
    (H : post (nI (h + 1)) (nI (h + 1), wc, wd, cv, sd, pr, st, cc, lo, (fun j => nI (fc_set c h a j)), (fun j => lw_i16 (upd yn h x j)), wa, go, pa, co, ca, wl, sk, ce, tx, cw, cp, cl, li, lc)) : wpX_token post (nI h, wc, wd, cv, sd, pr, st, cc, lo, (fun j => nI (c j)), (fun j => lw_i16 (yn j)), wa, go, pa, co, ca, wl, sk, ce, tx, cw, cp, cl, li, lc) (nI a) x := by
  have K := xk_58 (post := post) (yn := yn) (x := x) (c := c) hh ha H
  have K2 : wX_token_39 post (nI a) x (nI h) wc wd cv sd pr st cc lo (fun j => nI (c j)) (fun j => lw_i16 (yn j)) wa go pa co ca wl sk ce tx cw cp cl li lc := by
    refine pk_eq a 22 (fun z => ?_) (fun _ => K)
    obtain ⟨m, hm, rfl⟩ := h22 z
    exact br_f (nI_pos (by omega)) (br_t (nI_lt (b := 10) hm (by decide)) K)
  refine br_t (nI_lt (b := 24) hh (by decide)) (br_f (nI_pos (by omega)) (br_t (nI_le (b := 33) (by omega) (by decide)) (pk_eq a 0 (fun z => ?_) (fun _ => K2))))
  exact xn_1 (h0 z).1 (h0 z).2 (br_f fn_10 K2)
theorem yk_go {post : Int32 → SY → Prop} {h a : Nat} {x : Int32} {c : Nat → Nat} (hh : h < 24) (ha : a < 34) (h0 : a = 0 → ¬ x < (-32768) ∧ ¬ 32767 < x) (h22 : a = 22 → ∃ m : Nat, m < 10 ∧ x = nI m)
    (H : post (nI (h + 1)) (nI (h + 1), wd, sd, cc, lo, st, pr, ov, yh, (fun j => nI (fc_set c h a j)), upd yn h x, le, op, nn, pt, ce, sk, oq, cw, ya, cl, li, lc, tx)) : wpY_token post (nI h, wd, sd, cc, lo, st, pr, ov, yh, (fun j => nI (c j)), yn, le, op, nn, pt, ce, sk, oq, cw, ya, cl, li, lc, tx) (nI a) x := by
  have K := yk_55 (post := post) (yn := yn) (x := x) (c := c) hh H
  have K2 : wY_token_35 post (nI a) x (nI h) wd sd cc lo st pr ov yh (fun j => nI (c j)) yn le op nn pt ce sk oq cw ya cl li lc tx := by
    refine pk_eq a 22 (fun z => ?_) (fun _ => K)
    obtain ⟨m, hm, rfl⟩ := h22 z
    exact yq_in 0 9 (by omega) (by omega) (by omega) (fun _ => br_f fn_10 K) (fun y => absurd y (by omega))
  refine br_f (fn_ne (m := 24) (by omega)) ?_
  refine yq_in 0 33 (by omega) (by omega) (by omega) (fun _ => br_f fn_10 (pk_eq a 0 (fun z => ?_) (fun _ => K2))) (fun y => absurd y (by omega))
  exact yn_1 (h0 z).1 (h0 z).2 (br_f fn_10 K2)
/-- refused: FULL at 24, else BAD -/
theorem xk_no {post : Int32 → SX → Prop} {h : Nat} {y x : Int32} (hh : h < 24) (hr : y < 0 ∨ nI 34 ≤ y ∨ (y = 0 ∧ (x < (-32768) ∨ 32767 < x)) ∨ (y = 22 ∧ (x < 0 ∨ nI 10 ≤ x))) (H : post (-100000) (nI h, wc, wd, cv, sd, pr, st, cc, lo, ho, xn, wa, go, pa, co, ca, wl, sk, ce, tx, cw, cp, cl, li, lc)) : wpX_token post (nI h, wc, wd, cv, sd, pr, st, cc, lo, ho, xn, wa, go, pa, co, ca, wl, sk, ce, tx, cw, cp, cl, li, lc) y x := by
  refine br_t (nI_lt (b := 24) hh (by decide)) ?_
  rcases hr with z | z | ⟨rfl, z⟩ | ⟨rfl, z⟩
  · exact br_t z H
  · have z0 : ¬ y < 0 := fun w => Int32.not_lt.mpr z (Int32.lt_of_lt_of_le w (nI_pos' (by omega)))
    have z1 : ¬ y ≤ 33 := fun w => Int32.not_lt.mpr (Int32.le_trans z w) (by decide)
    exact br_f z0 (br_f z1 H)
  · refine br_f (by decide) (br_t (by decide) (br_t rfl ?_))
    exact xn_0 z (br_t rfl H)
  · refine br_f (by decide) (br_t (by decide) (br_f (by decide) (br_t rfl ?_)))
    by_cases w : x < 0
    · exact br_t w H
    · exact br_f w (br_f (Int32.not_lt.mpr (z.resolve_left w)) H)
theorem yk_no {post : Int32 → SY → Prop} {h : Nat} {y x : Int32} (hh : h < 24) (hr : y < 0 ∨ nI 34 ≤ y ∨ (y = 0 ∧ (x < (-32768) ∨ 32767 < x)) ∨ (y = 22 ∧ (x < 0 ∨ nI 10 ≤ x))) (H : post (-100000) (nI h, wd, sd, cc, lo, st, pr, ov, yh, ho, yn, le, op, nn, pt, ce, sk, oq, cw, ya, cl, li, lc, tx)) : wpY_token post (nI h, wd, sd, cc, lo, st, pr, ov, yh, ho, yn, le, op, nn, pt, ce, sk, oq, cw, ya, cl, li, lc, tx) y x := by
  refine br_f (fn_ne (m := 24) (by omega)) ?_
  rcases hr with z | z | ⟨rfl, z⟩ | ⟨rfl, z⟩
  · exact br_t z (br_t rfl H)
  · refine fr_in0 33 (by omega) (fun _ => br_t rfl H) (fun _ => br_t rfl H) (fun j hj e => absurd (nI_lt (b := 34) (a := j) (by omega) (by omega)) (by rw [← e]; exact Int32.not_lt.mpr z))
  · refine br_f (by decide) (br_f (by decide) (br_f fn_10 (br_t rfl ?_)))
    exact yn_0 z (br_t rfl H)
  · refine br_f (by decide) (br_f (by decide) (br_f fn_10 (br_f (by decide) (br_t rfl ?_))))
    exact fr_in0 9 (by omega) (fun _ => br_t rfl H) (fun _ => br_t rfl H) (fun j hj e => by
      rcases z with z | z
      · exact absurd z (by rw [e]; exact nI_pos (by omega))
      · exact absurd (nI_lt (b := 10) (a := j) (by omega) (by omega)) (by rw [← e]; exact Int32.not_lt.mpr z))
end TK
theorem i_vc_token {k : Nat} {u : SX} {v : SY} (I : i_Rel k u v) (hk : k + 3 ≤ 1536) (v1 : Int32) (v2 : Int32) : wpX_token (fun r u' => wpY_token (fun r' v' => r' = r ∧ i_Rel (k + 3) u' v') v v1 v2) u v1 v2 := by
  have I0 := I
  obtain ⟨h, W, d, s, p, e, c, LL, PP, DD, wc, cc, lo, ov, yh, yn, wa, go, pa, co, ca, wl, sk, ce, tx, cw, cp, cl, li, lc, le, op, nn, pt, oq, ya, rfl, rfl, h1, h2, h3, h4, h5, h6, h7, h8, h9, h10, h11, h12⟩ := I
  by_cases hh : h < 24
  · have NO : (v1 < 0 ∨ nI 34 ≤ v1 ∨ (v1 = 0 ∧ (v2 < (-32768) ∨ 32767 < v2)) ∨ (v1 = 22 ∧ (v2 < 0 ∨ nI 10 ≤ v2))) → wpX_token (fun r u' => wpY_token (fun r' v' => r' = r ∧ i_Rel (k + 3) u' v') (nI h, nI W, nI d, cc, lo, nI s, nI p, ov, yh, (fun j => nI (c j)), yn, le, op, nn, pt, ce, sk, oq, cw, ya, cl, li, lc, tx) v1 v2) (nI h, wc, nI W, nI e, nI d, nI p, nI s, cc, lo, (fun j => nI (c j)), (fun j => lw_i16 (yn j)), wa, go, pa, co, ca, wl, sk, ce, tx, cw, cp, cl, li, lc) v1 v2 :=
      fun hr => xk_no hh hr (yk_no hh hr ⟨rfl, I0⟩)
    rcases pk_ix v1 (n := 34) (by omega) with z | z | ⟨a, ha, rfl⟩
    · exact NO (Or.inl z)
    · exact NO (Or.inr (Or.inl z))
    · by_cases r0 : a = 0 ∧ (v2 < (-32768) ∨ 32767 < v2)
      · exact NO (Or.inr (Or.inr (Or.inl ⟨by rw [r0.1]; rfl, r0.2⟩)))
      by_cases r2 : a = 22 ∧ (v2 < 0 ∨ nI 10 ≤ v2)
      · exact NO (Or.inr (Or.inr (Or.inr ⟨by rw [r2.1]; rfl, r2.2⟩)))
      have g0 : a = 0 → ¬ v2 < (-32768) ∧ ¬ 32767 < v2 := fun z => ⟨fun y => r0 ⟨z, Or.inl y⟩, fun y => r0 ⟨z, Or.inr y⟩⟩
      have g2 : a = 22 → ∃ m : Nat, m < 10 ∧ v2 = nI m := fun z => by
        rcases pk_ix v2 (n := 10) (by omega) with y | y | y
        · exact absurd ⟨z, Or.inl y⟩ r2
        · exact absurd ⟨z, Or.inr y⟩ r2
        · exact y
      refine xk_go hh ha g0 g2 (yk_go hh ha g0 g2 ⟨rfl, ?_⟩)
      refine ⟨h + 1, W, d, s, p, e, fc_set c h a, LL, PP, DD, wc, cc, lo, ov, yh, upd yn h v2, wa, go, pa, co, ca, wl, sk, ce, tx, cw, cp, cl, li, lc, le, op, nn, pt, oq, ya, rfl, rfl, by omega, h2, h3, h4, h5, fun t => ?_, fun t ht => ?_, h8, h9, h10, h11, h12⟩
      · by_cases y : t = h
        · subst y; rw [fc_set_s]; exact ha
        · rw [fc_set_n y]; exact h6 t
      · by_cases y : t = h
        · subst y; rw [fc_set_s] at ht; rw [pk_us]; exact g2 ht
        · rw [fc_set_n y] at ht; rw [pk_un y]; exact h7 t ht
  · have z : h = 24 := by omega
    exact br_f (nI_nlt (b := 24) (by omega) (by omega)) (br_t (by rw [z]; rfl) ⟨rfl, I0⟩)
theorem i_vc_push {k : Nat} {u : SX} {v : SY} (I : i_Rel k u v) (hk : k + 3 ≤ 1536) (v1 : Int32) : wpX_push (fun r u' => wpY_push (fun r' v' => r' = r ∧ i_Rel (k + 3) u' v') v v1) u v1 := by
  have I0 := I
  obtain ⟨h, W, d, s, p, e, c, LL, PP, DD, wc, cc, lo, ov, yh, yn, wa, go, pa, co, ca, wl, sk, ce, tx, cw, cp, cl, li, lc, le, op, nn, pt, oq, ya, rfl, rfl, h1, h2, h3, h4, h5, h6, h7, h8, h9, h10, h11, h12⟩ := I
  unfold wpX_push wpY_push
  dsimp only
  by_cases z : v1 < (-32768) ∨ 32767 < v1
  · exact xn_0 z (br_t rfl (yn_0 z (br_t rfl ⟨rfl, I0⟩)))
  · have z1 : ¬ v1 < (-32768) := fun y => z (Or.inl y)
    have z2 : ¬ 32767 < v1 := fun y => z (Or.inr y)
    refine xn_1 z1 z2 (br_f fn_10 ?_)
    by_cases hd : d < 12
    · refine br_t (nI_lt (b := 12) hd (by decide)) ?_
      refine xp_put hd ?_
      have en := fn_num z1 z2
      have ed : (nI d).toNatClampNeg = d := nI_clamp (by omega)
      refine yn_1 z1 z2 (br_f fn_10 (br_f (fn_ne (m := 12) (by omega)) ⟨vp_in_nI hd (by omega), nm_r (e' := upd sk d (lw_i16 v1)) (by rw [ed, en]) (nm_r (nI_1 d) ⟨rfl, ?_⟩)⟩))
      exact ⟨h, W, d + 1, s, p, e, c, LL, PP, DD, wc, cc, lo, ov, yh, yn, wa, go, pa, co, ca, wl, upd sk d (lw_i16 v1), ce, tx, cw, cp, cl, li, lc, le, op, nn, pt, oq, ya, rfl, rfl, h1, h2, by omega, h4, h5, h6, h7, fc_Sh_u h8 (fn_ii v1), h9, h10, h11, h12⟩
    · have y : d = 12 := by omega
      refine br_f (nI_nlt (b := 12) (by omega) (by omega)) ?_
      exact yn_1 z1 z2 (br_f fn_10 (br_t (by rw [y]; rfl) ⟨rfl, I0⟩))
theorem i_vc_setCell {k : Nat} {u : SX} {v : SY} (I : i_Rel k u v) (hk : k + 3 ≤ 1536) (v1 : Int32) (v2 : Int32) : wpX_setCell (fun r u' => wpY_setCell (fun r' v' => r' = r ∧ i_Rel (k + 3) u' v') v v1 v2) u v1 v2 := by
  have I0 := I
  obtain ⟨h, W, d, s, p, e, c, LL, PP, DD, wc, cc, lo, ov, yh, yn, wa, go, pa, co, ca, wl, sk, ce, tx, cw, cp, cl, li, lc, le, op, nn, pt, oq, ya, rfl, rfl, h1, h2, h3, h4, h5, h6, h7, h8, h9, h10, h11, h12⟩ := I
  unfold wpX_setCell wpY_setCell
  dsimp only
  rcases pk_ix v1 (n := 16) (by omega) with z | z | ⟨j, hj, rfl⟩
  · refine br_t z ?_
    exact fr_in0 15 (by omega) (fun _ => br_t rfl ⟨rfl, I0⟩) (fun _ => br_t rfl ⟨rfl, I0⟩) (fun j hj e => absurd z (by rw [e]; exact nI_pos (by omega)))
  · have z0 : ¬ v1 < 0 := fun y => Int32.not_lt.mpr z (Int32.lt_of_lt_of_le y (nI_pos' (by omega)))
    refine br_f z0 (br_t z ?_)
    exact fr_in0 15 (by omega) (fun _ => br_t rfl ⟨rfl, I0⟩) (fun _ => br_t rfl ⟨rfl, I0⟩) (fun j hj e => absurd (nI_lt (b := 16) (a := j) (by omega) (by omega)) (by rw [← e]; exact Int32.not_lt.mpr z))
  · have w : vp_in (nI j) 16 := vp_in_nI hj (by omega)
    have ej : (nI j).toNatClampNeg = j := nI_clamp (by omega)
    refine br_f (nI_pos (by omega)) (br_f (nI_ge (b := 16) hj (by decide)) ?_)
    by_cases z : v2 < (-32768) ∨ 32767 < v2
    · refine xn_0 z (br_t rfl ?_)
      exact fr_in0 15 (by omega) (fun y => absurd y (nI_pos (by omega))) (fun y => absurd y (nI_ge (b := 16) hj (by omega))) (fun _ _ _ => br_f fn_10 (yn_0 z (br_t rfl ⟨rfl, I0⟩)))
    · have z1 : ¬ v2 < (-32768) := fun y => z (Or.inl y)
      have z2 : ¬ 32767 < v2 := fun y => z (Or.inr y)
      have en := fn_num z1 z2
      refine xn_1 z1 z2 (br_f fn_10 ⟨w, nm_r (e' := upd ce j v2) (by rw [ej, fn_vi en]) ?_⟩)
      refine fr_in0 15 (by omega) (fun y => absurd y (nI_pos (by omega))) (fun y => absurd y (nI_ge (b := 16) hj (by omega))) (fun _ _ _ => br_f fn_10 (yn_1 z1 z2 (br_f fn_10 ⟨w, nm_r (e' := upd ce j v2) (by rw [ej]) ⟨rfl, ?_⟩⟩)))
      exact ⟨h, W, d, s, p, e, c, LL, PP, DD, wc, cc, lo, ov, yh, yn, wa, go, pa, co, ca, wl, sk, upd ce j v2, tx, cw, cp, cl, li, lc, le, op, nn, pt, oq, ya, rfl, rfl, h1, h2, h3, h4, h5, h6, h7, h8, fc_Sh_u h9 en, h10, h11, h12⟩
theorem i_vc_level {k : Nat} {u : SX} {v : SY} (I : i_Rel k u v) (hk : k + 3 ≤ 1536) (v1 : Int32) : wpX_level (fun r u' => wpY_level (fun r' => r' = r ∧ i_Rel (k + 3) u' v) v v1) u v1 := by
  have I0 := I
  obtain ⟨h, W, d, s, p, e, c, LL, PP, DD, wc, cc, lo, ov, yh, yn, wa, go, pa, co, ca, wl, sk, ce, tx, cw, cp, cl, li, lc, le, op, nn, pt, oq, ya, rfl, rfl, h1, h2, h3, h4, h5, h6, h7, h8, h9, h10, h11, h12⟩ := I
  unfold wpX_level wpY_level
  dsimp only
  rcases pk_ix v1 (n := 2) (by omega) with z | z | ⟨j, hj, rfl⟩
  · refine br_t z ?_
    exact fr_in0 1 (by omega) (fun _ => ⟨fn_nb0, rfl, I0⟩) (fun _ => ⟨fn_nb0, rfl, I0⟩) (fun j hj e => absurd z (by rw [e]; exact nI_pos (by omega)))
  · have z0 : ¬ v1 < 0 := fun y => Int32.not_lt.mpr z (Int32.lt_of_lt_of_le y (nI_pos' (by omega)))
    have z1 : ¬ v1 ≤ 1 := fun w => Int32.not_lt.mpr (Int32.le_trans z w) (by decide)
    refine br_f z0 (br_f z1 ?_)
    exact fr_in0 1 (by omega) (fun _ => ⟨fn_nb0, rfl, I0⟩) (fun _ => ⟨fn_nb0, rfl, I0⟩) (fun j hj e => absurd (nI_lt (b := 2) (a := j) (by omega) (by omega)) (by rw [← e]; exact Int32.not_lt.mpr z))
  · refine br_f (nI_pos (by omega)) (br_t (nI_le (b := 1) (by omega) (by decide)) ?_)
    refine fr_in0 1 (by omega) (fun y => absurd y (nI_pos (by omega))) (fun y => absurd y (nI_ge (b := 2) hj (by omega))) (fun _ _ _ => ⟨fn_nb1, rfl, ?_⟩)
    exact ⟨h, W, d, s, p, j, c, LL, PP, DD, wc, cc, lo, ov, yh, yn, wa, go, pa, co, ca, wl, sk, ce, tx, cw, cp, cl, li, lc, le, op, nn, pt, oq, ya, rfl, rfl, h1, h2, h3, h4, by omega, h6, h7, h8, h9, h10, h11, h12⟩
