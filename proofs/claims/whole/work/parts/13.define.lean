/-! define: places, instructions; then the owed statement -/
section DW
variable {nh wc wd cv sd pr st cc lo ov yh : Int32} {ho xn wa go pa co ca wl sk ce tx cw cp cl li lc yn le op nn pt oq ya : Nat → Int32}
variable {c : Nat → Nat} {W h e : Nat}
theorem xv_t {p : Int32 → Prop} {a : Nat} (ha : a < 34) (he : e ≤ 1) (h : ¬ (e = 1 ∧ (a = 25 ∨ a = 26))) (H : p 1) : wpX_leavesInstruction p (nh, wc, wd, nI e, sd, pr, st, cc, lo, ho, xn, wa, go, pa, co, ca, wl, sk, ce, tx, cw, cp, cl, li, lc) (nI a) := by
  refine pk_eq e 0 (fun _ => H) (fun z => ?_)
  exact br_f (fn_ne (m := 25) (by omega)) (br_f (fn_ne (m := 26) (by omega)) (br_t rfl H))
theorem xv_f {p : Int32 → Prop} {a : Nat} (h : e = 1 ∧ (a = 25 ∨ a = 26)) (H : p 0) : wpX_leavesInstruction p (nh, wc, wd, nI e, sd, pr, st, cc, lo, ho, xn, wa, go, pa, co, ca, wl, sk, ce, tx, cw, cp, cl, li, lc) (nI a) := by
  obtain ⟨rfl, h⟩ := h
  refine br_f (by decide) ?_
  rcases h with rfl | rfl
  · exact br_t rfl (br_f fn_10 H)
  · exact br_f (by decide) (br_t rfl (br_f fn_10 H))
theorem xw_t {p : Int32 → Prop} {a : Nat} (h : fc_J a) (H : p 1) : wpX_goesOnElsewhere p (nI a) := by
  unfold fc_J at h
  rcases h with rfl | rfl | rfl | rfl | rfl | rfl
  · exact br_f (by decide) (br_f (by decide) (br_t rfl H))
  · exact br_f (by decide) (br_f (by decide) (br_f (by decide) (br_t rfl H)))
  · exact br_f (by decide) (br_f (by decide) (br_f (by decide) (br_f (by decide) (br_f (by decide) (br_f (by decide) (br_t rfl H))))))
  · exact br_f (by decide) (br_f (by decide) (br_f (by decide) (br_f (by decide) (br_f (by decide) (br_f (by decide) (br_f (by decide) (br_t rfl H)))))))
  · exact br_f (by decide) (br_f (by decide) (br_f (by decide) (br_f (by decide) (br_f (by decide) (br_f (by decide) (br_f (by decide) (br_f (by decide) (br_t rfl H))))))))
  · exact br_f (by decide) (br_f (by decide) (br_f (by decide) (br_f (by decide) (br_f (by decide) (br_f (by decide) (br_f (by decide) (br_f (by decide) (br_f (by decide) (br_f (by decide) (br_t rfl H))))))))))
theorem xw_f {p : Int32 → Prop} {a : Nat} (ha : a < 34) (h : ¬ fc_J a) (H : p 0) : wpX_goesOnElsewhere p (nI a) := by
  unfold fc_J at h
  refine pk_lt a 23 (fun _ => H) (fun z => pk_lt 31 a (fun _ => H) (fun y => ?_))
  have hr : a = 25 ∨ a = 26 ∨ a = 30 := by omega
  rcases hr with rfl | rfl | rfl
  · exact (br_f (by decide) (br_f (by decide) (br_t rfl H)))
  · exact (br_f (by decide) (br_f (by decide) (br_f (by decide) (br_t rfl H))))
  · exact (br_f (by decide) (br_f (by decide) (br_f (by decide) (br_f (by decide) (br_f (by decide) (br_f (by decide) (br_f (by decide) (br_t rfl H))))))))
theorem xp_place {post : SX → Prop} (hh : h ≤ 24) (hW : W < 10) (he : e ≤ 1) (h34 : ∀ t, c t < 34) (K : ∀ pa' : Nat → Int32, (∀ t, t ≤ h → pa' t = nI (fc_pl e c t)) → post (nI h, wc, nI W, nI e, sd, pr, st, cc, lo, (fun j => nI (c j)), (fun j => lw_i16 (yn j)), wa, go, pa', co, ca, upd wl W (nI (fc_pl e c h)), sk, ce, tx, cw, cp, cl, li, lc)) :
    ∀ (m i n : Nat) (pa : Nat → Int32), i + m = h → m < n → (∀ t, t < i → pa t = nI (fc_pl e c t)) → wX_placeInstructions_4 post (nI h) wc (nI W) (nI e) sd pr st cc lo n (nI (fc_pl e c i)) (nI i) (fun j => nI (c j)) (fun j => lw_i16 (yn j)) wa go pa co ca wl sk ce tx cw cp cl li lc := by
  intro m
  induction m with
  | zero =>
    intro i n pa hm hn hp
    obtain ⟨n, rfl⟩ : ∃ k, n = k + 1 := ⟨n - 1, by omega⟩
    obtain rfl : i = h := by omega
    rw [wX_placeInstructions_4]
    have ei : (nI i).toNatClampNeg = i := nI_clamp (by omega)
    have eW : (nI W).toNatClampNeg = W := nI_clamp (by omega)
    refine br_t (nI_le (Nat.le_refl _) (by omega)) ⟨vp_in_nI (by omega) (by omega), nm_r (e' := upd pa i (nI (fc_pl e c i))) (by rw [ei]) ⟨vp_in_nI hW (by omega), nm_r (e' := upd wl W (nI (fc_pl e c i))) (by rw [eW]) (K _ (fun t ht => ?_))⟩⟩
    by_cases z : t = i
    · subst z; exact pk_us
    · rw [pk_un z]; exact hp t (by omega)
  | succ m ih =>
    intro i n pa hm hn hp
    obtain ⟨n, rfl⟩ : ∃ k, n = k + 1 := ⟨n - 1, by omega⟩
    rw [wX_placeInstructions_4]
    have ei : (nI i).toNatClampNeg = i := nI_clamp (by omega)
    have hp' : ∀ t, t < i + 1 → upd pa i (nI (fc_pl e c i)) t = nI (fc_pl e c t) := fun t ht => by
      by_cases z : t = i
      · subst z; exact pk_us
      · rw [pk_un z]; exact hp t (by omega)
    refine br_f (nI_ge (by omega) (by omega)) ⟨vp_in_nI (by omega) (by omega), nm_r (e' := upd pa i (nI (fc_pl e c i))) (by rw [ei]) ⟨vp_in_nI (by omega) (by omega), ?_⟩⟩
    rw [ei]
    by_cases z : e = 1 ∧ (c i = 25 ∨ c i = 26)
    · have R := ih (i + 1) n _ (by omega) (by omega) hp'
      rw [fc_pl_d z] at R
      exact xv_f z (br_t rfl (nm_r (nI_1 i) R))
    · have R := ih (i + 1) n _ (by omega) (by omega) hp'
      rw [fc_pl_k z] at R
      exact xv_t (h34 i) he z (br_f fn_10 (nm_r (nI_1 _) (nm_r (nI_1 i) R)))
/-- what the instructions say so far -/
def fc_Wr (c : Nat → Nat) (W h e : Nat) (yn go co0 ca0 : Nat → Int32) (i : Nat) (co ca : Nat → Int32) : Prop :=
  (∀ x, x < 24 * W → co x = co0 x ∧ ca x = ca0 x) ∧ ∀ t, t < i → ¬ (e = 1 ∧ (c t = 25 ∨ c t = 26)) →
    co (24 * W + fc_pl e c t) = nI (c t) ∧ (fc_J (c t) → ∀ p, p < h → go t = nI (p + 1) → ca (24 * W + fc_pl e c t) = nI (fc_pl e c (p + 1))) ∧ (¬ fc_J (c t) → ca (24 * W + fc_pl e c t) = lw_i16 (yn t))
theorem fc_Wr_s {co0 ca0 : Nat → Int32} {i : Nat} {x : Int32} (hw : fc_Wr c W h e yn go co0 ca0 i co ca) (hk : ¬ (e = 1 ∧ (c i = 25 ∨ c i = 26))) (h1 : fc_J (c i) → ∀ p, p < h → go i = nI (p + 1) → x = nI (fc_pl e c (p + 1))) (h2 : ¬ fc_J (c i) → x = lw_i16 (yn i)) :
    fc_Wr c W h e yn go co0 ca0 (i + 1) (upd co (24 * W + fc_pl e c i) (nI (c i))) (upd ca (24 * W + fc_pl e c i) x) := by
  refine ⟨fun y hy => ?_, fun t ht hkt => ?_⟩
  · rw [pk_un (by omega), pk_un (by omega)]; exact hw.1 y hy
  · by_cases z : t = i
    · subst z
      rw [pk_us, pk_us]
      exact ⟨rfl, h1, h2⟩
    · have := fc_pl_lt (lv := e) (c := c) hkt (show t < i by omega)
      rw [pk_un (by omega), pk_un (by omega)]
      exact hw.2 t (by omega) hkt
theorem fc_Wr_d {co0 ca0 : Nat → Int32} {i : Nat} (hw : fc_Wr c W h e yn go co0 ca0 i co ca) (hk : e = 1 ∧ (c i = 25 ∨ c i = 26)) : fc_Wr c W h e yn go co0 ca0 (i + 1) co ca := by
  refine ⟨hw.1, fun t ht hkt => ?_⟩
  by_cases z : t = i
  · subst z; exact absurd hk hkt
  · exact hw.2 t (by omega) hkt
theorem xp_write {post : SX → Prop} {co0 ca0 : Nat → Int32} (hh : h ≤ 24) (hW : W < 10) (he : e ≤ 1) (h34 : ∀ t, c t < 34) (hpa : ∀ t, t ≤ h → pa t = nI (fc_pl e c t)) (hgo : ∀ t, t < h → fc_J (c t) → ∃ p : Nat, p < h ∧ go t = nI (p + 1))
    (K : ∀ co' ca' : Nat → Int32, fc_Wr c W h e yn go co0 ca0 h co' ca' → post (nI h, wc, nI W, nI e, sd, pr, st, cc, lo, (fun j => nI (c j)), (fun j => lw_i16 (yn j)), wa, go, pa, co', ca', wl, sk, ce, tx, cw, cp, cl, li, lc)) :
    ∀ (m i n : Nat) (co ca : Nat → Int32), i + m = h → m < n → fc_Wr c W h e yn go co0 ca0 i co ca → wX_writeInstructions_10 post (nI (24 * W)) (nI h) wc (nI W) (nI e) sd pr st cc lo n (nI i) (fun j => nI (c j)) (fun j => lw_i16 (yn j)) wa go pa co ca wl sk ce tx cw cp cl li lc := by
  intro m
  induction m with
  | zero =>
    intro i n co ca hm hn hw
    obtain ⟨n, rfl⟩ : ∃ k, n = k + 1 := ⟨n - 1, by omega⟩
    obtain rfl : i = h := by omega
    rw [wX_writeInstructions_10]
    exact br_t (nI_le (Nat.le_refl _) (by omega)) (K co ca hw)
  | succ m ih =>
    intro i n co ca hm hn hw
    obtain ⟨n, rfl⟩ : ∃ k, n = k + 1 := ⟨n - 1, by omega⟩
    rw [wX_writeInstructions_10]
    have ei : (nI i).toNatClampNeg = i := nI_clamp (by omega)
    have wi : vp_in (nI i) 24 := vp_in_nI (by omega) (by omega)
    have hc := h34 i
    refine br_f (nI_ge (by omega) (by omega)) ⟨wi, nm_r (e' := nI (c i)) (by rw [ei]) ?_⟩
    by_cases z : e = 1 ∧ (c i = 25 ∨ c i = 26)
    · exact xv_f z (br_t rfl (nm_r (nI_1 i) (ih (i + 1) n co ca (by omega) (by omega) (fc_Wr_d hw z))))
    · have hpi := fc_pl_le (lv := e) (c := c) i
      have e4 : nI (24 * W) + pa (nI i).toNatClampNeg = nI (24 * W + fc_pl e c i) := by rw [ei, hpa i (by omega)]; exact nI_add _ _
      have c4 : (nI (24 * W + fc_pl e c i)).toNatClampNeg = 24 * W + fc_pl e c i := nI_clamp (by omega)
      have w4 : vp_in (nI (24 * W + fc_pl e c i)) 240 := vp_in_nI (by omega) (by omega)
      refine xv_t hc he z (br_f fn_10 ⟨vp_in_nI (by omega) (by omega), nm_r e4 ⟨w4, nm_r (e' := upd co (24 * W + fc_pl e c i) (nI (c i))) (by rw [c4, fn_b (by omega)]) ?_⟩⟩)
      by_cases j : fc_J (c i)
      · obtain ⟨q, q1, q2⟩ := hgo i (by omega) j
        have hq := fc_pl_le (lv := e) (c := c) (q + 1)
        have eg : go (nI i).toNatClampNeg = nI (q + 1) := by rw [ei]; exact q2
        have wg : vp_in (go (nI i).toNatClampNeg) 25 := by rw [eg]; exact vp_in_nI (by omega) (by omega)
        refine xw_t j (br_f fn_10 ⟨wi, wg, w4, nm_r (e' := upd ca (24 * W + fc_pl e c i) (nI (fc_pl e c (q + 1)))) ?_ (nm_r (nI_1 i) (ih (i + 1) n _ _ (by omega) (by omega) (fc_Wr_s hw z (fun _ p hp hg => ?_) (fun y => absurd j y))))⟩)
        · rw [c4, eg, show (nI (q + 1)).toNatClampNeg = q + 1 from nI_clamp (by omega), hpa (q + 1) (by omega), fn_vi (fn_sm _ (by omega))]
        · have : q + 1 = p + 1 := (nI_eq (by omega) (by omega)).mp (q2.symm.trans hg)
          rw [this]
      · refine xw_f hc j (br_t rfl ⟨wi, w4, nm_r (e' := upd ca (24 * W + fc_pl e c i) (lw_i16 (yn i))) ?_ (nm_r (nI_1 i) (ih (i + 1) n _ _ (by omega) (by omega) (fc_Wr_s hw z (fun y => absurd y j) (fun _ => rfl))))⟩)
        rw [c4, ei, fn_vs (fn_ii _)]
/-- Y's copy -/
theorem yp_copy {post : Int32 → SY → Prop} {op0 nn0 : Nat → Int32} (hh : h ≤ 24) (hW : W < 10) (K : ∀ op' nn' : Nat → Int32, (∀ x, x < 24 * W → op' x = op0 x ∧ nn' x = nn0 x) → (∀ t, t < h → op' (24 * W + t) = nI (c t) ∧ nn' (24 * W + t) = yn t) → post (nI (W + 1) - 1) (0, nI (W + 1), sd, cc, lo, st, pr, ov, yh, (fun j => nI (c j)), yn, upd le W (nI h), op', nn', pt, ce, sk, oq, cw, ya, cl, li, lc, tx)) :
    ∀ (m i n : Nat) (op nn : Nat → Int32), i + m = h → m < n → (∀ x, x < 24 * W → op x = op0 x ∧ nn x = nn0 x) → (∀ t, t < i → op (24 * W + t) = nI (c t) ∧ nn (24 * W + t) = yn t) → wY_define_24 post (nI h) (nI W) sd cc lo st pr ov yh n (nI i) (fun j => nI (c j)) yn le op nn pt ce sk oq cw ya cl li lc tx := by
  intro m
  have eW : (nI W).toNatClampNeg = W := nI_clamp (by omega)
  induction m with
  | zero =>
    intro i n op nn hm hn h1 h2
    obtain ⟨n, rfl⟩ : ∃ k, n = k + 1 := ⟨n - 1, by omega⟩
    obtain rfl : i = h := by omega
    rw [wY_define_24]
    exact br_t (nI_le (Nat.le_refl _) (by omega)) ⟨vp_in_nI hW (by omega), nm_r (e' := upd le W (nI i)) (by rw [eW]) (nm_r (nI_1 W) (K op nn h1 h2))⟩
  | succ m ih =>
    intro i n op nn hm hn h1 h2
    obtain ⟨n, rfl⟩ : ∃ k, n = k + 1 := ⟨n - 1, by omega⟩
    rw [wY_define_24]
    have ei : (nI i).toNatClampNeg = i := nI_clamp (by omega)
    have ex := fn_ix W i
    have cx : (nI (24 * W + i)).toNatClampNeg = 24 * W + i := nI_clamp (by omega)
    dsimp only
    rw [ex, cx, ei]
    refine br_f (nI_ge (by omega) (by omega)) ⟨vp_in_nI (by omega) (by omega), vp_in_nI (by omega) (by omega), nm_e ⟨vp_in_nI (by omega) (by omega), vp_in_nI (by omega) (by omega), nm_e (nm_r (nI_1 i) (ih (i + 1) n _ _ (by omega) (by omega) (fun x hx => ?_) (fun t ht => ?_)))⟩⟩
    · rw [pk_un (by omega), pk_un (by omega)]; exact h1 x hx
    · by_cases z : t = i
      · subst z; rw [pk_us, pk_us]; exact ⟨rfl, rfl⟩
      · rw [pk_un (by omega), pk_un (by omega)]; exact h2 t (by omega)
end DW
theorem i_vc_define {k : Nat} {u : SX} {v : SY} (I : i_Rel k u v) (hk : k + 3 ≤ 1536) : wpX_define (fun r u' => wpY_define (fun r' v' => r' = r ∧ i_Rel (k + 3) u' v') v) u := by
  have I0 := I
  obtain ⟨h, W, d, s, p, e, c, LL, PP, DD, wc, cc, lo, ov, yh, yn, wa, go, pa, co, ca, wl, sk, ce, tx, cw, cp, cl, li, lc, le, op, nn, pt, oq, ya, rfl, rfl, h1, h2, h3, h4, h5, h6, h7, h8, h9, h10, h11, h12⟩ := I
  by_cases hW : W < 10
  · have L : ∃ (r : Nat) (x : Int32) (wa' go' oq' pt' : Nat → Int32), r ≤ 1 ∧ (r = 1 → fc_Lk c W yn pt h [] wa' go' oq' pt') ∧ (∀ j, j < 24 * W → pt' j = pt j) ∧
      (∀ (post : Int32 → SX → Prop) (n : Nat), h < n → post (nI r) (nI h, x, nI W, nI e, nI d, nI p, nI s, cc, lo, (fun j => nI (c j)), (fun j => lw_i16 (yn j)), wa', go', pa, co, ca, wl, sk, ce, tx, cw, cp, cl, li, lc) → wX_linkParts_7 post n (nI 0) (nI h) (nI 0) (nI W) (nI e) (nI d) (nI p) (nI s) cc lo (fun j => nI (c j)) (fun j => lw_i16 (yn j)) wa go pa co ca wl sk ce tx cw cp cl li lc) ∧
      (∀ (post : Int32 → SY → Prop) (n : Nat), h < n → post (nI r) (nI h, nI W, nI d, cc, lo, nI s, nI p, ov, yh, (fun j => nI (c j)), yn, le, op, nn, pt', ce, sk, oq', cw, ya, cl, li, lc, tx) → wY_fit_12 post (nI (24 * W)) n (nI 0) (nI 0) (nI h) (nI W) (nI d) cc lo (nI s) (nI p) ov yh (fun j => nI (c j)) yn le op nn pt ce sk oq cw ya cl li lc tx) :=
      fk_loop hW h1 h6 h7 h 0 [] wa go oq pt (by omega) fc_Lk_0
    obtain ⟨r, x, wa', go', oq', pt', r1, r2, r3, r4, r5⟩ := L
    refine br_t (nI_lt (b := 10) hW (by decide)) ⟨h + 1, r4 _ (h + 1) (by omega) ?_⟩
    have hY : ∀ P : Int32 → SY → Prop, P (nI r) (nI h, nI W, nI d, cc, lo, nI s, nI p, ov, yh, (fun j => nI (c j)), yn, le, op, nn, pt', ce, sk, oq', cw, ya, cl, li, lc, tx) → wpY_fit P (nI h, nI W, nI d, cc, lo, nI s, nI p, ov, yh, (fun j => nI (c j)), yn, le, op, nn, pt, ce, sk, oq, cw, ya, cl, li, lc, tx) := fun P hP => nm_r (pk_mul 24 W) ⟨h + 1, r5 _ (h + 1) (by omega) hP⟩
    by_cases z : r = 1
    · subst z
      have hL := r2 rfl
      have hgo : ∀ t, t < h → fc_J (c t) → ∃ q : Nat, q < h ∧ go' t = nI (q + 1) := fun t ht hJ => by
        rcases hL.2.2.2.2.2.1 t ht hJ with ⟨b, m⟩ | ⟨q, q1, q2, q3, q4⟩
        · exact absurd m List.not_mem_nil
        · exact ⟨q, q1, q3⟩
      refine br_f fn_10 ⟨h + 1, xp_place h1 hW h5 h6 (fun pa' hpa => ?_) h 0 (h + 1) pa (by omega) (by omega) (fun t ht => absurd ht (Nat.not_lt_zero t))⟩
      refine nm_r (e' := nI (24 * W)) (by rw [Nat.mul_comm]; exact pk_mul W 24) ⟨h + 1, xp_write (co0 := co) (ca0 := ca) h1 hW h5 h6 hpa hgo (fun co' ca' hwr => ?_) h 0 (h + 1) co ca (by omega) (by omega) ⟨fun y _ => ⟨rfl, rfl⟩, fun t ht => absurd ht (Nat.not_lt_zero t)⟩⟩
      refine nm_r (nI_1 W) ?_
      refine br_f (fn_ne (m := 10) (by omega)) (hY _ (br_f fn_10 ⟨h + 1, ?_⟩))
      refine yp_copy (op0 := op) (nn0 := nn) h1 hW (fun op' nn' g1 g2 => ⟨rfl, ?_⟩) h 0 (h + 1) op nn (by omega) (by omega) (fun y _ => ⟨rfl, rfl⟩) (fun t ht => absurd ht (Nat.not_lt_zero t))
      have N : fc_Word W h (fc_pl e c) (fc_dn c) (upd le W (nI h)) op' nn' pt' (upd wl W (nI (fc_pl e c h))) co' ca' :=
        fc_new h6 h1 hW hL h7 (fun t ht => (g2 t ht).1) (fun t ht => (g2 t ht).2) (fun t ht hkt => hwr.2 t ht hkt) pk_us pk_us
      have O : fc_Words W LL PP DD (upd le W (nI h)) op' nn' pt' (upd wl W (nI (fc_pl e c h))) co' ca' :=
        fc_Words_c (Nat.le_refl W) (fun j hj => pk_un (by omega)) (fun j hj => pk_un (by omega)) (fun j hj => (g1 j hj).1) (fun j hj => (g1 j hj).2) r3 (fun j hj => (hwr.1 j hj).1) (fun j hj => (hwr.1 j hj).2) h12
      exact ⟨0, W + 1, d, s, p, e, c, _, _, _, x, cc, lo, ov, yh, yn, wa', go', pa', co', ca', _, sk, ce, tx, cw, cp, cl, li, lc, _, op', nn', pt', oq', ya, rfl, rfl, by omega, by omega, h3, h4, h5, h6, h7, h8, h9, h10, h11, fc_Words_s O N⟩
    · have z0 : r = 0 := by omega
      subst z0
      refine br_t rfl (br_f (fn_ne (m := 10) (by omega)) (hY _ (br_t rfl ⟨rfl, ?_⟩)))
      exact ⟨h, W, d, s, p, e, c, LL, PP, DD, x, cc, lo, ov, yh, yn, wa', go', pa, co, ca, wl, sk, ce, tx, cw, cp, cl, li, lc, le, op, nn, pt', oq', ya, rfl, rfl, h1, h2, h3, h4, h5, h6, h7, h8, h9, h10, h11,
        fc_Words_c (Nat.le_refl W) (fun _ _ => rfl) (fun _ _ => rfl) (fun _ _ => rfl) (fun _ _ => rfl) r3 (fun _ _ => rfl) (fun _ _ => rfl) h12⟩
  · have z : W = 10 := by omega
    exact br_f (nI_nlt (b := 10) (by omega) (by omega)) (br_t (by rw [z]; rfl) ⟨rfl, I0⟩)
