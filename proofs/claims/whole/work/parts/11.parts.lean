/-! define: the parts, in lockstep -/
section DF
variable {nh wc wd cv sd pr st cc lo ov yh : Int32} {ho xn wa go pa co ca wl sk ce tx cw cp cl li lc yn le op nn pt oq ya : Nat → Int32}
variable {c : Nat → Nat} {W h i j b : Nat} {S T : List (Nat × Nat)} {ptz : Nat → Int32}
def fc_ends (a b : Nat) : Prop := (a = 24 ∧ b = 23) ∨ (a = 25 ∧ (b = 23 ∨ b = 24)) ∨ ((a = 27 ∨ a = 28) ∧ b = 26) ∨ (a = 29 ∧ b = 28) ∨ (a = 31 ∧ b = 30)
def fc_cl (a : Nat) : Prop := a = 24 ∨ a = 25 ∨ a = 27 ∨ a = 28 ∨ a = 29 ∨ a = 31
theorem ye_1 {p : Int32 → Prop} {a b : Nat} (h : fc_ends a b) (H : p 1) : wpY_ends p (nh, wd, sd, cc, lo, st, pr, ov, yh, ho, yn, le, op, nn, pt, ce, sk, oq, cw, ya, cl, li, lc, tx) (nI a) (nI b) := by
  unfold fc_ends at h
  rcases h with ⟨rfl, rfl⟩ | ⟨rfl, rfl | rfl⟩ | ⟨rfl | rfl, rfl⟩ | ⟨rfl, rfl⟩ | ⟨rfl, rfl⟩
  · exact br_t rfl (br_t rfl H)
  · exact br_f (by decide) (br_t rfl (br_t rfl H))
  · exact br_f (by decide) (br_t rfl (br_f (by decide) (br_t rfl H)))
  · exact br_f (by decide) (br_f (by decide) (br_t rfl (br_t rfl H)))
  · exact br_f (by decide) (br_f (by decide) (br_f (by decide) (br_t rfl (br_t rfl H))))
  · exact br_f (by decide) (br_f (by decide) (br_f (by decide) (br_f (by decide) (br_t rfl (br_t rfl H)))))
  · exact br_f (by decide) (br_f (by decide) (br_f (by decide) (br_f (by decide) (br_f (by decide) (br_t rfl H)))))
theorem ye_0 {p : Int32 → Prop} {a b : Nat} (ha : fc_cl a) (hb : b < 34) (h : ¬ fc_ends a b) (H : p 0) : wpY_ends p (nh, wd, sd, cc, lo, st, pr, ov, yh, ho, yn, le, op, nn, pt, ce, sk, oq, cw, ya, cl, li, lc, tx) (nI a) (nI b) := by
  unfold fc_ends at h
  unfold fc_cl at ha
  rcases ha with rfl | rfl | rfl | rfl | rfl | rfl
  · exact br_t rfl (br_f (fn_ne (m := 23) (by omega)) H)
  · exact br_f (by decide) (br_t rfl (br_f (fn_ne (m := 23) (by omega)) (br_f (fn_ne (m := 24) (by omega)) H)))
  · exact br_f (by decide) (br_f (by decide) (br_t rfl (br_f (fn_ne (m := 26) (by omega)) H)))
  · exact br_f (by decide) (br_f (by decide) (br_f (by decide) (br_t rfl (br_f (fn_ne (m := 26) (by omega)) H))))
  · exact br_f (by decide) (br_f (by decide) (br_f (by decide) (br_f (by decide) (br_t rfl (br_f (fn_ne (m := 28) (by omega)) H)))))
  · exact br_f (by decide) (br_f (by decide) (br_f (by decide) (br_f (by decide) (br_f (by decide) (br_f (fn_ne (m := 30) (by omega)) H)))))
/-- X's look at a token that ends something: z is the op of the latest one begun, or -1 -/
theorem xf_e1 {p : Int32 → Prop} {a b : Nat} (h : fc_ends a b) (hi : i < 24) (hc : c i = a) (H : p 1) : wX_fits_27 p (nI i) (nI b) nh wc wd cv sd pr st cc lo (fun j => nI (c j)) xn wa go pa co ca wl sk ce tx cw cp cl li lc := by
  unfold fc_ends at h
  have e : (nI i).toNatClampNeg = i := nI_clamp (by omega)
  refine ⟨vp_in_nI hi (by omega), nm_r (e' := nI a) (by rw [e]; exact congrArg nI hc) ?_⟩
  rcases h with ⟨rfl, rfl⟩ | ⟨rfl, rfl | rfl⟩ | ⟨rfl | rfl, rfl⟩ | ⟨rfl, rfl⟩ | ⟨rfl, rfl⟩
  · exact br_f (by decide) (br_f (by decide) (br_f (by decide) (br_f (by decide) (br_t rfl (br_t rfl H)))))
  · exact br_f (by decide) (br_f (by decide) (br_f (by decide) (br_f (by decide) (br_f (by decide) (br_t rfl (br_t rfl H))))))
  · exact br_f (by decide) (br_f (by decide) (br_f (by decide) (br_f (by decide) (br_f (by decide) (br_t rfl (br_f (by decide) (br_t rfl H)))))))
  · exact br_f (by decide) (br_f (by decide) (br_f (by decide) (br_f (by decide) (br_f (by decide) (br_f (by decide) (br_f (by decide) (br_t rfl (br_t rfl H))))))))
  · exact br_f (by decide) (br_f (by decide) (br_f (by decide) (br_f (by decide) (br_f (by decide) (br_f (by decide) (br_f (by decide) (br_f (by decide) (br_t rfl (br_t rfl H)))))))))
  · exact br_f (by decide) (br_f (by decide) (br_f (by decide) (br_f (by decide) (br_f (by decide) (br_f (by decide) (br_f (by decide) (br_f (by decide) (br_f (by decide) (br_t rfl (br_t rfl H))))))))))
  · exact br_f (by decide) (br_f (by decide) (br_f (by decide) (br_f (by decide) (br_f (by decide) (br_f (by decide) (br_f (by decide) (br_f (by decide) (br_f (by decide) (br_f (by decide) (br_f (by decide) (br_t rfl (br_t rfl H))))))))))))
theorem xf_e0 {p : Int32 → Prop} {a : Nat} {z : Int32} (ha : fc_cl a) (hz : (a = 24 → ¬ z = 23) ∧ (a = 25 → ¬ z = 23 ∧ ¬ z = 24) ∧ (a = 27 ∨ a = 28 → ¬ z = 26) ∧ (a = 29 → ¬ z = 28) ∧ (a = 31 → ¬ z = 30)) (hi : i < 24) (hc : c i = a) (H : p 0) : wX_fits_27 p (nI i) z nh wc wd cv sd pr st cc lo (fun j => nI (c j)) xn wa go pa co ca wl sk ce tx cw cp cl li lc := by
  unfold fc_cl at ha
  obtain ⟨z1, z2, z3, z4, z5⟩ := hz
  have e : (nI i).toNatClampNeg = i := nI_clamp (by omega)
  refine ⟨vp_in_nI hi (by omega), nm_r (e' := nI a) (by rw [e]; exact congrArg nI hc) ?_⟩
  rcases ha with rfl | rfl | rfl | rfl | rfl | rfl
  · exact br_f (by decide) (br_f (by decide) (br_f (by decide) (br_f (by decide) (br_t rfl (br_f (z1 rfl) H)))))
  · exact br_f (by decide) (br_f (by decide) (br_f (by decide) (br_f (by decide) (br_f (by decide) (br_t rfl (br_f (z2 rfl).1 (br_f (z2 rfl).2 H)))))))
  · exact br_f (by decide) (br_f (by decide) (br_f (by decide) (br_f (by decide) (br_f (by decide) (br_f (by decide) (br_f (by decide) (br_t rfl (br_f (z3 (Or.inl rfl)) H))))))))
  · exact br_f (by decide) (br_f (by decide) (br_f (by decide) (br_f (by decide) (br_f (by decide) (br_f (by decide) (br_f (by decide) (br_f (by decide) (br_t rfl (br_f (z3 (Or.inr rfl)) H)))))))))
  · exact br_f (by decide) (br_f (by decide) (br_f (by decide) (br_f (by decide) (br_f (by decide) (br_f (by decide) (br_f (by decide) (br_f (by decide) (br_f (by decide) (br_t rfl (br_f (z4 rfl) H))))))))))
  · exact br_f (by decide) (br_f (by decide) (br_f (by decide) (br_f (by decide) (br_f (by decide) (br_f (by decide) (br_f (by decide) (br_f (by decide) (br_f (by decide) (br_f (by decide) (br_f (by decide) (br_t rfl (br_f (z5 rfl) H))))))))))))
theorem xf_pl {p : Int32 → Prop} {z : Int32} (hi : i < 24) (h34 : c i < 34) (hc : c i < 22 ∨ c i = 33 ∨ c i = 23 ∨ c i = 26 ∨ c i = 30) (H : p 1) : wX_fits_27 p (nI i) z nh wc wd cv sd pr st cc lo (fun j => nI (c j)) xn wa go pa co ca wl sk ce tx cw cp cl li lc := by
  have e : (nI i).toNatClampNeg = i := nI_clamp (by omega)
  refine ⟨vp_in_nI hi (by omega), nm_r (e' := nI (c i)) (by rw [e]) ?_⟩
  rcases hc with a | a | a | a | a
  · exact br_t (nI_lt (b := 22) a (by decide)) H
  · rw [a]; exact br_f (by decide) (br_t (by decide) H)
  · rw [a]; exact br_f (by decide) (br_f (by decide) (br_f (by decide) (br_t rfl (H))))
  · rw [a]; exact br_f (by decide) (br_f (by decide) (br_f (by decide) (br_f (by decide) (br_f (by decide) (br_f (by decide) (br_t rfl (H)))))))
  · rw [a]; exact br_f (by decide) (br_f (by decide) (br_f (by decide) (br_f (by decide) (br_f (by decide) (br_f (by decide) (br_f (by decide) (br_f (by decide) (br_f (by decide) (br_f (by decide) (br_t rfl (H)))))))))))
theorem xf_22 {p : Int32 → Prop} {z : Int32} (hi : i < 24) (hc : c i = 22) (H : (nI W < lw_i16 (yn i) → p 0) ∧ (¬ nI W < lw_i16 (yn i) → p 1)) : wX_fits_27 p (nI i) z nh wc (nI W) cv sd pr st cc lo (fun j => nI (c j)) (fun j => lw_i16 (yn j)) wa go pa co ca wl sk ce tx cw cp cl li lc := by
  have e : (nI i).toNatClampNeg = i := nI_clamp (by omega)
  refine ⟨vp_in_nI hi (by omega), nm_r (e' := nI 22) (by rw [e]; exact congrArg nI hc) ?_⟩
  refine br_f (by decide) (br_f (by decide) (br_t rfl (⟨vp_in_nI hi (by omega), ?_⟩)))
  rw [e]
  exact H
theorem xf_32 {p : Int32 → Prop} {z : Int32} (hi : i < 24) (hc : c i = 32) (H : wpX_isInsideLoop (fun r => narrow .boolean (.int r) = .int r ∧ p r) (nh, wc, wd, cv, sd, pr, st, cc, lo, (fun j => nI (c j)), xn, wa, go, pa, co, ca, wl, sk, ce, tx, cw, cp, cl, li, lc)) : wX_fits_27 p (nI i) z nh wc wd cv sd pr st cc lo (fun j => nI (c j)) xn wa go pa co ca wl sk ce tx cw cp cl li lc := by
  have e : (nI i).toNatClampNeg = i := nI_clamp (by omega)
  refine ⟨vp_in_nI hi (by omega), nm_r (e' := nI 32) (by rw [e]; exact congrArg nI hc) ?_⟩
  exact br_f (by decide) (br_f (by decide) (br_f (by decide) (br_f (by decide) (br_f (by decide) (br_f (by decide) (br_f (by decide) (br_f (by decide) (br_f (by decide) (br_f (by decide) (br_f (by decide) (br_f (by decide) (br_t rfl (H)))))))))))))
/-- X's fits, by what has been begun -/
theorem xf_nil {p : Int32 → Prop} (H : wX_fits_27 p (nI i) (-1) nh (nI 0) wd cv sd pr st cc lo (fun j => nI (c j)) xn wa go pa co ca wl sk ce tx cw cp cl li lc) : wpX_fits p (nh, nI 0, wd, cv, sd, pr, st, cc, lo, (fun j => nI (c j)), xn, wa, go, pa, co, ca, wl, sk, ce, tx, cw, cp, cl, li, lc) (nI i) := br_t (by decide) H
theorem xf_cons {p : Int32 → Prop} {n : Nat} (hn : n < 24) (hj : j < 24) (e : wa n = nI j) (H : wX_fits_27 p (nI i) (nI (c j)) nh (nI (n + 1)) wd cv sd pr st cc lo (fun j => nI (c j)) xn wa go pa co ca wl sk ce tx cw cp cl li lc) : wpX_fits p (nh, nI (n + 1), wd, cv, sd, pr, st, cc, lo, (fun j => nI (c j)), xn, wa, go, pa, co, ca, wl, sk, ce, tx, cw, cp, cl, li, lc) (nI i) := by
  have e1 : (nI (n + 1) - 1).toNatClampNeg = n := by rw [nI_pred]; exact nI_clamp (by omega)
  have w1 : vp_in (nI (n + 1) - 1) 24 := by rw [nI_pred]; exact vp_in_nI hn (by omega)
  refine br_f (nI_nle (by omega) (by omega)) ⟨w1, ?_⟩
  rw [e1, e]
  refine ⟨vp_in_nI hj (by omega), ?_⟩
  rw [nI_clamp (by omega)]
  exact H
/-- the scans for a loop -/
theorem xi_0 {p : Int32 → Prop} {n : Nat} (hn : n ≤ 24) (H : ∀ k, k < n → ∃ j, j < 24 ∧ wa k = nI j ∧ c j ≠ 30 ∧ c j < 34) (hp : p 0) : ∀ (m k f : Nat), k + m = n → m < f → wX_isInsideLoop_2 p nh (nI n) wd cv sd pr st cc lo (fun j => nI (c j)) xn wa go pa co ca wl sk ce tx cw cp cl li lc f (nI k) := by
  intro m
  induction m with
  | zero =>
    intro k f hk hf
    obtain ⟨f, rfl⟩ : ∃ g, f = g + 1 := ⟨f - 1, by omega⟩
    rw [wX_isInsideLoop_2]
    exact br_t (nI_le (by omega) (by omega)) hp
  | succ m ih =>
    intro k f hk hf
    obtain ⟨f, rfl⟩ : ∃ g, f = g + 1 := ⟨f - 1, by omega⟩
    obtain ⟨j, j1, j2, j3, j4⟩ := H k (by omega)
    rw [wX_isInsideLoop_2]
    refine br_f (nI_ge (by omega) (by omega)) ⟨vp_in_nI (by omega) (by omega), ?_⟩
    rw [show (nI k).toNatClampNeg = k from nI_clamp (by omega), j2, show (nI j).toNatClampNeg = j from nI_clamp (by omega)]
    exact ⟨vp_in_nI j1 (by omega), br_f (fn_ne (m := 30) j3) (nm_r (nI_1 k) (ih (k + 1) f (by omega) (by omega)))⟩
theorem xi_1 {p : Int32 → Prop} {n k0 j0 : Nat} (hn : n ≤ 24) (H : ∀ k, k < n → ∃ j, j < 24 ∧ wa k = nI j ∧ c j < 34) (h0 : k0 < n) (e0 : wa k0 = nI j0) (hj0 : j0 < 24) (c0 : c j0 = 30) (hp : p 1) :
    ∀ (m k f : Nat), k + m = k0 → m < f → wX_isInsideLoop_2 p nh (nI n) wd cv sd pr st cc lo (fun j => nI (c j)) xn wa go pa co ca wl sk ce tx cw cp cl li lc f (nI k) := by
  intro m
  induction m with
  | zero =>
    intro k f hk hf
    obtain ⟨f, rfl⟩ : ∃ g, f = g + 1 := ⟨f - 1, by omega⟩
    obtain rfl : k = k0 := by omega
    rw [wX_isInsideLoop_2]
    refine br_f (nI_ge (by omega) (by omega)) ⟨vp_in_nI (by omega) (by omega), ?_⟩
    rw [show (nI k).toNatClampNeg = k from nI_clamp (by omega), e0, show (nI j0).toNatClampNeg = j0 from nI_clamp (by omega)]
    exact ⟨vp_in_nI hj0 (by omega), br_t (congrArg nI c0) hp⟩
  | succ m ih =>
    intro k f hk hf
    obtain ⟨f, rfl⟩ : ∃ g, f = g + 1 := ⟨f - 1, by omega⟩
    obtain ⟨j, j1, j2, j4⟩ := H k (by omega)
    rw [wX_isInsideLoop_2]
    refine br_f (nI_ge (by omega) (by omega)) ⟨vp_in_nI (by omega) (by omega), ?_⟩
    rw [show (nI k).toNatClampNeg = k from nI_clamp (by omega), j2, show (nI j).toNatClampNeg = j from nI_clamp (by omega)]
    exact ⟨vp_in_nI j1 (by omega), br_c (fun _ => hp) (fun _ => nm_r (nI_1 k) (ih (k + 1) f (by omega) (by omega)))⟩
section YF
variable {post : Int32 → SY → Prop} {J : Int32 → Int32 → Int32 → Int32 → Int32 → Int32 → Int32 → Int32 → Int32 → Int32 → Int32 → (Nat → Int32) → (Nat → Int32) → (Nat → Int32) → (Nat → Int32) → (Nat → Int32) → (Nat → Int32) → (Nat → Int32) → (Nat → Int32) → (Nat → Int32) → (Nat → Int32) → (Nat → Int32) → (Nat → Int32) → (Nat → Int32) → (Nat → Int32) → (Nat → Int32) → Prop}
/-- what Y's scan asks at its end -/
def fc_E (post : Int32 → SY → Prop) (R : Prop) (v : SY) (a : Nat) (f : Int32) : Prop := (nI a = 32 → (f = 0 → post 0 v) ∧ (¬ f = 0 → R)) ∧ (¬ nI a = 32 → R)
theorem yi_0 {n a : Nat} {x2 x3 : Int32} (hn : n ≤ 24) (H : ∀ k, k < n → ∃ j, j < 24 ∧ oq k = nI j ∧ c j ≠ 30 ∧ c j < 34) (hE : fc_E post (wY_fit_78 post J (nI n) x2 x3 (nI a) nh wd sd cc lo st pr ov yh (fun j => nI (c j)) yn le op nn pt ce sk oq cw ya cl li lc tx) (nh, wd, sd, cc, lo, st, pr, ov, yh, (fun j => nI (c j)), yn, le, op, nn, pt, ce, sk, oq, cw, ya, cl, li, lc, tx) a 0) :
    ∀ (m k f : Nat), k + m = n → m < f → wY_fit_34 post J (nI n) x2 x3 (nI a) nh wd sd cc lo st pr ov yh (fun j => nI (c j)) yn le op nn pt ce sk oq cw ya cl li lc tx f 0 (nI k) := by
  intro m
  induction m with
  | zero =>
    intro k f hk hf
    obtain ⟨f, rfl⟩ : ∃ g, f = g + 1 := ⟨f - 1, by omega⟩
    rw [wY_fit_34]
    exact br_t (nI_le (by omega) (by omega)) hE
  | succ m ih =>
    intro k f hk hf
    obtain ⟨f, rfl⟩ : ∃ g, f = g + 1 := ⟨f - 1, by omega⟩
    obtain ⟨j, j1, j2, j3, j4⟩ := H k (by omega)
    rw [wY_fit_34]
    refine br_f (nI_ge (by omega) (by omega)) ⟨vp_in_nI (by omega) (by omega), ?_⟩
    rw [show (nI k).toNatClampNeg = k from nI_clamp (by omega), j2, show (nI j).toNatClampNeg = j from nI_clamp (by omega)]
    exact ⟨vp_in_nI j1 (by omega), br_f (fn_ne (m := 30) j3) (nm_r (nI_1 k) (ih (k + 1) f (by omega) (by omega)))⟩
theorem yi_1 {n a k0 j0 : Nat} {x2 x3 : Int32} (hn : n ≤ 24) (H : ∀ k, k < n → ∃ j, j < 24 ∧ oq k = nI j ∧ c j < 34) (h0 : k0 < n) (e0 : oq k0 = nI j0) (hj0 : j0 < 24) (c0 : c j0 = 30) (hE : fc_E post (wY_fit_78 post J (nI n) x2 x3 (nI a) nh wd sd cc lo st pr ov yh (fun j => nI (c j)) yn le op nn pt ce sk oq cw ya cl li lc tx) (nh, wd, sd, cc, lo, st, pr, ov, yh, (fun j => nI (c j)), yn, le, op, nn, pt, ce, sk, oq, cw, ya, cl, li, lc, tx) a 1) :
    ∀ (m k f : Nat) (z : Int32), k + m = n → m < f → (z = 1 ∨ (z = 0 ∧ k ≤ k0)) → wY_fit_34 post J (nI n) x2 x3 (nI a) nh wd sd cc lo st pr ov yh (fun j => nI (c j)) yn le op nn pt ce sk oq cw ya cl li lc tx f z (nI k) := by
  intro m
  induction m with
  | zero =>
    intro k f z hk hf hz
    obtain ⟨f, rfl⟩ : ∃ g, f = g + 1 := ⟨f - 1, by omega⟩
    have z1 : z = 1 := by
      rcases hz with y | ⟨_, y⟩
      · exact y
      · omega
    subst z1
    rw [wY_fit_34]
    exact br_t (nI_le (by omega) (by omega)) hE
  | succ m ih =>
    intro k f z hk hf hz
    obtain ⟨f, rfl⟩ : ∃ g, f = g + 1 := ⟨f - 1, by omega⟩
    obtain ⟨j, j1, j2, j4⟩ := H k (by omega)
    rw [wY_fit_34]
    refine br_f (nI_ge (by omega) (by omega)) ⟨vp_in_nI (by omega) (by omega), ?_⟩
    rw [show (nI k).toNatClampNeg = k from nI_clamp (by omega), j2, show (nI j).toNatClampNeg = j from nI_clamp (by omega)]
    refine ⟨vp_in_nI j1 (by omega), br_c (fun _ => nm_r (nI_1 k) (ih (k + 1) f 1 (by omega) (by omega) (Or.inl rfl))) (fun y => nm_r (nI_1 k) (ih (k + 1) f z (by omega) (by omega) ?_))⟩
    rcases hz with w | ⟨w, w2⟩
    · exact Or.inl w
    · refine Or.inr ⟨w, ?_⟩
      by_cases e : k = k0
      · subst e
        have ej : j = j0 := (nI_eq (by omega) (by omega)).mp (j2.symm.trans e0)
        subst ej
        exact absurd (congrArg nI c0) y
      · omega
/-- the ways behind the scan -/
theorem y_252 {n : Nat} {x2 : Int32} (hn : n < 24) (H : J (nI (n + 1)) (nI (i + 1)) nh wd sd cc lo st pr ov yh ho yn le op nn pt ce sk (upd oq n (nI i)) cw ya cl li lc tx) : wY_fit_252 post J (nI n) x2 (nI i) nh wd sd cc lo st pr ov yh ho yn le op nn pt ce sk oq cw ya cl li lc tx := by
  have e : (nI n).toNatClampNeg = n := nI_clamp (by omega)
  exact ⟨vp_in_nI hn (by omega), nm_r (e' := upd oq n (nI i)) (by rw [e]) (nm_r (nI_1 n) (nm_r (nI_1 i) H))⟩
theorem y_207j {a : Nat} {x1 x2 : Int32} (ha : a < 34) (h : a ≠ 23 ∧ a ≠ 24 ∧ a ≠ 26 ∧ a ≠ 30 ∧ a ≠ 28) (H : J x1 (nI (i + 1)) nh wd sd cc lo st pr ov yh ho yn le op nn pt ce sk oq cw ya cl li lc tx) : wY_fit_207 post J x1 x2 (nI i) (nI a) nh wd sd cc lo st pr ov yh ho yn le op nn pt ce sk oq cw ya cl li lc tx :=
  br_f (fn_ne (m := 23) h.1) (br_f (fn_ne (m := 24) h.2.1) (br_f (fn_ne (m := 26) h.2.2.1) (br_f (fn_ne (m := 30) h.2.2.2.1) (br_f (fn_ne (m := 28) h.2.2.2.2) (nm_r (nI_1 i) H)))))
theorem y_207p {a n : Nat} {x2 : Int32} (h : a = 23 ∨ a = 24 ∨ a = 26 ∨ a = 30) (hn : n < 24) (H : J (nI (n + 1)) (nI (i + 1)) nh wd sd cc lo st pr ov yh ho yn le op nn pt ce sk (upd oq n (nI i)) cw ya cl li lc tx) : wY_fit_207 post J (nI n) x2 (nI i) (nI a) nh wd sd cc lo st pr ov yh ho yn le op nn pt ce sk oq cw ya cl li lc tx := by
  have K : wY_fit_242 post J (nI n) x2 (nI i) (nI a) nh wd sd cc lo st pr ov yh ho yn le op nn pt ce sk oq cw ya cl li lc tx := br_f (fn_ne (m := 28) (by omega)) (y_252 hn H)
  rcases h with rfl | rfl | rfl | rfl
  · exact br_t rfl K
  · exact br_f (by decide) (br_t rfl K)
  · exact br_f (by decide) (br_f (by decide) (br_t rfl K))
  · exact br_f (by decide) (br_f (by decide) (br_f (by decide) (br_t rfl K)))
theorem y_207w {n : Nat} {x2 : Int32} (hn : n + 1 < 24) (H : J (nI (n + 2)) (nI (i + 1)) nh wd sd cc lo st pr ov yh ho yn le op nn pt ce sk (upd oq (n + 1) (nI i)) cw ya cl li lc tx) : wY_fit_207 post J (nI n) x2 (nI i) (nI 28) nh wd sd cc lo st pr ov yh ho yn le op nn pt ce sk oq cw ya cl li lc tx := by
  refine br_f (by decide) (br_f (by decide) (br_f (by decide) (br_f (by decide) (br_t rfl ?_))))
  exact br_t rfl (nm_r (nI_1 n) (y_252 hn H))
theorem y_join1 {q : SY → Prop} (ha : c i = 24 ∨ c i = 25 ∨ c i = 29) (hi : i < 24) (hj : j < 24) (hW : W < 10) (H : q (nh, wd, sd, cc, lo, st, pr, ov, yh, (fun j => nI (c j)), yn, le, op, nn, upd pt (24 * W + j) (nI i), ce, sk, oq, cw, ya, cl, li, lc, tx)) : wpY_join q (nh, wd, sd, cc, lo, st, pr, ov, yh, (fun j => nI (c j)), yn, le, op, nn, pt, ce, sk, oq, cw, ya, cl, li, lc, tx) (nI (24 * W)) (nI j) (nI i) := by
  have e : (nI i).toNatClampNeg = i := nI_clamp (by omega)
  have K : wY_join_29 q (nI (24 * W)) (nI j) (nI i) nh wd sd cc lo st pr ov yh (fun j => nI (c j)) yn le op nn pt ce sk oq cw ya cl li lc tx := by
    have e1 : nI (24 * W) + nI j = nI (24 * W + j) := nI_add _ _
    have e2 : (nI (24 * W + j)).toNatClampNeg = 24 * W + j := nI_clamp (by omega)
    unfold wY_join_29
    rw [e1, e2]
    exact ⟨vp_in_nI (by omega) (by omega), nm_e H⟩
  refine ⟨vp_in_nI hi (by omega), nm_r (e' := nI (c i)) (by rw [e]) ?_⟩
  rcases ha with a | a | a <;> rw [a]
  · exact br_t rfl K
  · exact br_f (by decide) (br_t rfl K)
  · exact br_f (by decide) (br_f (by decide) (br_t rfl K))
theorem y_join2 {q : SY → Prop} (ha : c i = 27 ∨ c i = 28 ∨ c i = 31) (hi : i < 24) (hW : W < 10) (H : q (nh, wd, sd, cc, lo, st, pr, ov, yh, (fun j => nI (c j)), yn, le, op, nn, upd pt (24 * W + i) (nI j), ce, sk, oq, cw, ya, cl, li, lc, tx)) : wpY_join q (nh, wd, sd, cc, lo, st, pr, ov, yh, (fun j => nI (c j)), yn, le, op, nn, pt, ce, sk, oq, cw, ya, cl, li, lc, tx) (nI (24 * W)) (nI j) (nI i) := by
  have e : (nI i).toNatClampNeg = i := nI_clamp (by omega)
  have e1 : nI (24 * W) + nI i = nI (24 * W + i) := nI_add _ _
  have e2 : (nI (24 * W + i)).toNatClampNeg = 24 * W + i := nI_clamp (by omega)
  refine ⟨vp_in_nI hi (by omega), nm_r (e' := nI (c i)) (by rw [e]) (br_f (fn_ne (m := 24) (by omega)) (br_f (fn_ne (m := 25) (by omega)) (br_f (fn_ne (m := 29) (by omega)) ?_)))⟩
  rw [e1, e2]
  exact ⟨vp_in_nI (by omega) (by omega), nm_e H⟩
theorem y_134n {a : Nat} {x2 x3 : Int32} (H : post 0 (nh, wd, sd, cc, lo, st, pr, ov, yh, ho, yn, le, op, nn, pt, ce, sk, oq, cw, ya, cl, li, lc, tx)) : wY_fit_134 post J (nI 0) x2 x3 (nI a) nh wd sd cc lo st pr ov yh ho yn le op nn pt ce sk oq cw ya cl li lc tx := br_t rfl H
theorem y_134b {n a : Nat} {x2 x3 : Int32} (hn : n < 24) (e : oq n = nI j) (hj : j < 24) (ha : fc_cl a) (hb : c j < 34) (h : ¬ fc_ends a (c j)) (H : post 0 (nh, wd, sd, cc, lo, st, pr, ov, yh, (fun j => nI (c j)), yn, le, op, nn, pt, ce, sk, oq, cw, ya, cl, li, lc, tx)) : wY_fit_134 post J (nI (n + 1)) x2 x3 (nI a) nh wd sd cc lo st pr ov yh (fun j => nI (c j)) yn le op nn pt ce sk oq cw ya cl li lc tx := by
  have e1 : (nI n).toNatClampNeg = n := nI_clamp (by omega)
  have ej : (nI j).toNatClampNeg = j := nI_clamp (by omega)
  unfold wY_fit_134
  rw [nI_pred, e1, e, ej]
  exact br_f (fn_ne (m := 0) (by omega)) ⟨vp_in_nI hn (by omega), vp_in_nI hj (by omega), ye_0 ha hb h (br_t rfl H)⟩
/-- the latest one begun ends here: K is what follows -/
theorem y_134 {n a : Nat} (hn : n < 24) (e : oq n = nI j) (hj : j < 24) (h : fc_ends a (c j)) (hJ : ∀ P : SY → Prop, P (nh, wd, sd, cc, lo, st, pr, ov, yh, (fun j => nI (c j)), yn, le, op, nn, ptz, ce, sk, oq, cw, ya, cl, li, lc, tx) → wpY_join P (nh, wd, sd, cc, lo, st, pr, ov, yh, (fun j => nI (c j)), yn, le, op, nn, pt, ce, sk, oq, cw, ya, cl, li, lc, tx) (nI (24 * W)) (nI j) (nI i))
    (H : (a = 29 → ∃ m : Nat, n = m + 1 ∧ i < 24 ∧ W < 10 ∧ wY_fit_207 post J (nI m) (nI (24 * W)) (nI i) (nI a) nh wd sd cc lo st pr ov yh (fun j => nI (c j)) yn le op nn (upd ptz (24 * W + i) (oq m)) ce sk oq cw ya cl li lc tx) ∧ (a ≠ 29 → wY_fit_207 post J (nI n) (nI (24 * W)) (nI i) (nI a) nh wd sd cc lo st pr ov yh (fun j => nI (c j)) yn le op nn ptz ce sk oq cw ya cl li lc tx)) (ha : a < 34) :
    wY_fit_134 post J (nI (n + 1)) (nI (24 * W)) (nI i) (nI a) nh wd sd cc lo st pr ov yh (fun j => nI (c j)) yn le op nn pt ce sk oq cw ya cl li lc tx := by
  have e1 : (nI n).toNatClampNeg = n := nI_clamp (by omega)
  have ej : (nI j).toNatClampNeg = j := nI_clamp (by omega)
  unfold wY_fit_134
  rw [nI_pred, e1, e, ej, pk_m1]
  refine br_f (fn_ne (m := 0) (by omega)) ⟨vp_in_nI hn (by omega), vp_in_nI hj (by omega), ye_1 h (br_f fn_10 ⟨vp_in_nI hn (by omega), nm_e (nm_e (hJ _ ?_))⟩)⟩
  by_cases z : a = 29
  · obtain ⟨m, rfl, hi, hW, K⟩ := H.1 z
    have e2 : nI (24 * W) + nI i = nI (24 * W + i) := nI_add _ _
    have e3 : (nI (24 * W + i)).toNatClampNeg = 24 * W + i := nI_clamp (by omega)
    have e4 : (nI m).toNatClampNeg = m := nI_clamp (by omega)
    refine br_t (by rw [z]; rfl) (nm_r (pk_m1 m) ⟨vp_in_nI (by omega) (by omega), ?_⟩)
    rw [e2, e3, e4]
    exact ⟨vp_in_nI (by omega) (by omega), nm_e K⟩
  · exact br_f (fn_ne (m := 29) z) (H.2 z)
theorem y_100c {a : Nat} {x1 x2 x3 : Int32} (h : fc_cl a) (K : wY_fit_134 post J x1 x2 x3 (nI a) nh wd sd cc lo st pr ov yh ho yn le op nn pt ce sk oq cw ya cl li lc tx) : wY_fit_100 post J x1 x2 x3 (nI a) nh wd sd cc lo st pr ov yh ho yn le op nn pt ce sk oq cw ya cl li lc tx := by
  unfold fc_cl at h
  refine pk_eq a 24 (fun _ => K) (fun _ => pk_eq a 25 (fun _ => K) (fun _ => ?_))
  exact yq_in 27 29 (by omega) (by omega) (by omega) (fun _ => br_f fn_10 K) (fun z => br_t rfl (pk_eq a 31 (fun _ => K) (fun y => absurd h (by omega))))
theorem y_100n {a : Nat} {x1 x2 x3 : Int32} (ha : a < 34) (h : ¬ fc_cl a) (K : wY_fit_207 post J x1 x2 x3 (nI a) nh wd sd cc lo st pr ov yh ho yn le op nn pt ce sk oq cw ya cl li lc tx) : wY_fit_100 post J x1 x2 x3 (nI a) nh wd sd cc lo st pr ov yh ho yn le op nn pt ce sk oq cw ya cl li lc tx := by
  unfold fc_cl at h
  refine pk_eq a 24 (fun y => absurd h (by omega)) (fun _ => pk_eq a 25 (fun y => absurd h (by omega)) (fun _ => ?_))
  exact yq_in 27 29 (by omega) (by omega) (by omega) (fun y => absurd h (by omega)) (fun z => br_t rfl (pk_eq a 31 (fun y => absurd h (by omega)) (fun _ => K)))
theorem y_78 {a : Nat} {x1 x2 : Int32} (ha : a < 34) (h : a ≠ 22) (K : wY_fit_100 post J x1 x2 (nI i) (nI a) nh wd sd cc lo st pr ov yh ho yn le op nn pt ce sk oq cw ya cl li lc tx) : wY_fit_78 post J x1 x2 (nI i) (nI a) nh wd sd cc lo st pr ov yh ho yn le op nn pt ce sk oq cw ya cl li lc tx := br_f (fn_ne (m := 22) h) K
theorem y_78c {x1 x2 : Int32} (hi : i < 24) (K : (yn i ≤ wd → wY_fit_100 post J x1 x2 (nI i) (nI 22) nh wd sd cc lo st pr ov yh ho yn le op nn pt ce sk oq cw ya cl li lc tx) ∧ (¬ yn i ≤ wd → post 0 (nh, wd, sd, cc, lo, st, pr, ov, yh, ho, yn, le, op, nn, pt, ce, sk, oq, cw, ya, cl, li, lc, tx))) : wY_fit_78 post J x1 x2 (nI i) (nI 22) nh wd sd cc lo st pr ov yh ho yn le op nn pt ce sk oq cw ya cl li lc tx := by
  refine br_t rfl ⟨vp_in_nI hi (by omega), ?_⟩
  rw [show (nI i).toNatClampNeg = i from nI_clamp (by omega)]
  exact K
end YF

/-! X's link -/
theorem xk_pl {post : SX → Prop} (hi : i < 24) (h34 : c i < 34) (h : c i < 23 ∨ 31 < c i) (H : post (nh, wc, wd, cv, sd, pr, st, cc, lo, (fun j => nI (c j)), xn, wa, go, pa, co, ca, wl, sk, ce, tx, cw, cp, cl, li, lc)) : wpX_link post (nh, wc, wd, cv, sd, pr, st, cc, lo, (fun j => nI (c j)), xn, wa, go, pa, co, ca, wl, sk, ce, tx, cw, cp, cl, li, lc) (nI i) := by
  have e : (nI i).toNatClampNeg = i := nI_clamp (by omega)
  refine ⟨vp_in_nI hi (by omega), nm_r (e' := nI (c i)) (by rw [e]) ?_⟩
  rcases h with a | a
  · exact br_t (nI_lt (b := 23) a (by decide)) H
  · exact br_f (nI_nlt (b := 23) (by omega) (by omega)) (br_t (nI_lt (a := 31) a (by omega)) H)
theorem xk_push {post : SX → Prop} {n : Nat} (hi : i < 24) (hn : n < 24) (h : c i = 23 ∨ c i = 26 ∨ c i = 30) (H : post (nh, nI (n + 1), wd, cv, sd, pr, st, cc, lo, (fun j => nI (c j)), xn, upd wa n (nI i), go, pa, co, ca, wl, sk, ce, tx, cw, cp, cl, li, lc)) : wpX_link post (nh, nI n, wd, cv, sd, pr, st, cc, lo, (fun j => nI (c j)), xn, wa, go, pa, co, ca, wl, sk, ce, tx, cw, cp, cl, li, lc) (nI i) := by
  have e : (nI i).toNatClampNeg = i := nI_clamp (by omega)
  have en : (nI n).toNatClampNeg = n := nI_clamp (by omega)
  have K : wX_link_56 post (nI i) nh (nI n) wd cv sd pr st cc lo (fun j => nI (c j)) xn wa go pa co ca wl sk ce tx cw cp cl li lc := ⟨vp_in_nI hn (by omega), nm_r (e' := upd wa n (nI i)) (by rw [en]) (nm_r (nI_1 n) H)⟩
  refine ⟨vp_in_nI hi (by omega), nm_r (e' := nI (c i)) (by rw [e]) ?_⟩
  rcases h with a | a | a <;> rw [a]
  · exact br_f (by decide) (br_f (by decide) (br_t rfl (K)))
  · exact br_f (by decide) (br_f (by decide) (br_f (by decide) (br_f (by decide) (br_f (by decide) (br_t rfl (K))))))
  · exact br_f (by decide) (br_f (by decide) (br_f (by decide) (br_f (by decide) (br_f (by decide) (br_f (by decide) (br_f (by decide) (br_f (by decide) (br_f (by decide) (br_t rfl (K))))))))))
theorem xk_else {post : SX → Prop} {n : Nat} (hi : i < 24) (hn : n < 24) (hj : j < 24) (et : wa n = nI j) (h : c i = 24) (H : post (nh, nI (n + 1), wd, cv, sd, pr, st, cc, lo, (fun j => nI (c j)), xn, upd wa n (nI i), upd go j (nI (i + 1)), pa, co, ca, wl, sk, ce, tx, cw, cp, cl, li, lc)) : wpX_link post (nh, nI (n + 1), wd, cv, sd, pr, st, cc, lo, (fun j => nI (c j)), xn, wa, go, pa, co, ca, wl, sk, ce, tx, cw, cp, cl, li, lc) (nI i) := by
  have e : (nI i).toNatClampNeg = i := nI_clamp (by omega)
  have ej : (nI j).toNatClampNeg = j := nI_clamp (by omega)
  have en : (nI n).toNatClampNeg = n := nI_clamp (by omega)
  have wi : vp_in (nI i) 24 := vp_in_nI hi (by omega)
  have wj : vp_in (nI j) 24 := vp_in_nI hj (by omega)
  have wn : vp_in (nI n) 24 := vp_in_nI hn (by omega)
  refine ⟨wi, nm_r (e' := nI (c i)) (by rw [e]) ?_⟩
  rw [h]
  refine br_f (by decide) (br_f (by decide) (br_f (by decide) (br_t rfl (?_))))
  rw [nI_pred, en, et, ej, nI_1]
  exact ⟨wn, wj, nm_e ⟨wn, nm_e H⟩⟩
theorem xk_then {post : SX → Prop} {n : Nat} (hi : i < 24) (hn : n < 24) (hj : j < 24) (et : wa n = nI j) (h : c i = 25) (H : post (nh, nI n, wd, cv, sd, pr, st, cc, lo, (fun j => nI (c j)), xn, wa, upd go j (nI (i + 1)), pa, co, ca, wl, sk, ce, tx, cw, cp, cl, li, lc)) : wpX_link post (nh, nI (n + 1), wd, cv, sd, pr, st, cc, lo, (fun j => nI (c j)), xn, wa, go, pa, co, ca, wl, sk, ce, tx, cw, cp, cl, li, lc) (nI i) := by
  have e : (nI i).toNatClampNeg = i := nI_clamp (by omega)
  have ej : (nI j).toNatClampNeg = j := nI_clamp (by omega)
  have en : (nI n).toNatClampNeg = n := nI_clamp (by omega)
  have wi : vp_in (nI i) 24 := vp_in_nI hi (by omega)
  have wj : vp_in (nI j) 24 := vp_in_nI hj (by omega)
  have wn : vp_in (nI n) 24 := vp_in_nI hn (by omega)
  refine ⟨wi, nm_r (e' := nI (c i)) (by rw [e]) ?_⟩
  rw [h]
  refine br_f (by decide) (br_f (by decide) (br_f (by decide) (br_f (by decide) (br_t rfl (?_)))))
  refine nm_r (nI_pred n) ⟨wn, ?_⟩
  rw [en, et, ej, nI_1]
  exact ⟨wj, nm_e H⟩
theorem xk_until {post : SX → Prop} {n : Nat} (hi : i < 24) (hn : n < 24) (hj : j < 24) (et : wa n = nI j) (h : c i = 27 ∨ c i = 31) (H : post (nh, nI n, wd, cv, sd, pr, st, cc, lo, (fun j => nI (c j)), xn, wa, upd go i (nI (j + 1)), pa, co, ca, wl, sk, ce, tx, cw, cp, cl, li, lc)) : wpX_link post (nh, nI (n + 1), wd, cv, sd, pr, st, cc, lo, (fun j => nI (c j)), xn, wa, go, pa, co, ca, wl, sk, ce, tx, cw, cp, cl, li, lc) (nI i) := by
  have e : (nI i).toNatClampNeg = i := nI_clamp (by omega)
  have ej : (nI j).toNatClampNeg = j := nI_clamp (by omega)
  have en : (nI n).toNatClampNeg = n := nI_clamp (by omega)
  have wi : vp_in (nI i) 24 := vp_in_nI hi (by omega)
  have wj : vp_in (nI j) 24 := vp_in_nI hj (by omega)
  have wn : vp_in (nI n) 24 := vp_in_nI hn (by omega)
  refine ⟨wi, nm_r (e' := nI (c i)) (by rw [e]) ?_⟩
  have K : wX_link_227 post (nI i) nh (nI (n + 1)) wd cv sd pr st cc lo (fun j => nI (c j)) xn wa go pa co ca wl sk ce tx cw cp cl li lc := by
    refine nm_r (nI_pred n) ⟨wn, ?_⟩
    rw [en, et, e, nI_1]
    exact ⟨wi, nm_e H⟩
  rcases h with z | z <;> rw [z]
  · exact br_f (by decide) (br_f (by decide) (br_f (by decide) (br_f (by decide) (br_f (by decide) (br_f (by decide) (br_t rfl (K)))))))
  · exact br_f (by decide) (br_f (by decide) (br_f (by decide) (br_f (by decide) (br_f (by decide) (br_f (by decide) (br_f (by decide) (br_f (by decide) (br_f (by decide) (br_f (by decide) (br_t rfl (K)))))))))))
theorem xk_while {post : SX → Prop} {n : Nat} (hi : i < 24) (hn : n < 24) (hj : j < 24) (et : wa n = nI j) (h : c i = 28) (H : post (nh, nI (n + 1), wd, cv, sd, pr, st, cc, lo, (fun j => nI (c j)), xn, upd wa n (nI i), upd go i (nI (j + 1)), pa, co, ca, wl, sk, ce, tx, cw, cp, cl, li, lc)) : wpX_link post (nh, nI (n + 1), wd, cv, sd, pr, st, cc, lo, (fun j => nI (c j)), xn, wa, go, pa, co, ca, wl, sk, ce, tx, cw, cp, cl, li, lc) (nI i) := by
  have e : (nI i).toNatClampNeg = i := nI_clamp (by omega)
  have ej : (nI j).toNatClampNeg = j := nI_clamp (by omega)
  have en : (nI n).toNatClampNeg = n := nI_clamp (by omega)
  have wi : vp_in (nI i) 24 := vp_in_nI hi (by omega)
  have wj : vp_in (nI j) 24 := vp_in_nI hj (by omega)
  have wn : vp_in (nI n) 24 := vp_in_nI hn (by omega)
  refine ⟨wi, nm_r (e' := nI (c i)) (by rw [e]) ?_⟩
  rw [h]
  refine br_f (by decide) (br_f (by decide) (br_f (by decide) (br_f (by decide) (br_f (by decide) (br_f (by decide) (br_f (by decide) (br_t rfl (?_))))))))
  rw [nI_pred, en, et, e, nI_1]
  exact ⟨wn, wi, nm_e ⟨wn, nm_e H⟩⟩
theorem xk_repeat {post : SX → Prop} {n : Nat} (hi : i < 24) (hn : n < 24) (hj : j < 24) (et : wa n = nI j) (eg : go j = nI (b + 1)) (h : c i = 29) (H : post (nh, nI n, wd, cv, sd, pr, st, cc, lo, (fun j => nI (c j)), xn, wa, upd (upd go i (nI (b + 1))) j (nI (i + 1)), pa, co, ca, wl, sk, ce, tx, cw, cp, cl, li, lc)) : wpX_link post (nh, nI (n + 1), wd, cv, sd, pr, st, cc, lo, (fun j => nI (c j)), xn, wa, go, pa, co, ca, wl, sk, ce, tx, cw, cp, cl, li, lc) (nI i) := by
  have e : (nI i).toNatClampNeg = i := nI_clamp (by omega)
  have ej : (nI j).toNatClampNeg = j := nI_clamp (by omega)
  have en : (nI n).toNatClampNeg = n := nI_clamp (by omega)
  have wi : vp_in (nI i) 24 := vp_in_nI hi (by omega)
  have wj : vp_in (nI j) 24 := vp_in_nI hj (by omega)
  have wn : vp_in (nI n) 24 := vp_in_nI hn (by omega)
  refine ⟨wi, nm_r (e' := nI (c i)) (by rw [e]) ?_⟩
  rw [h]
  refine br_f (by decide) (br_f (by decide) (br_f (by decide) (br_f (by decide) (br_f (by decide) (br_f (by decide) (br_f (by decide) (br_f (by decide) (br_t rfl (?_)))))))))
  refine nm_r (nI_pred n) ⟨wn, ?_⟩
  rw [en, et, ej, e, eg, nI_1]
  exact ⟨wj, wi, nm_e ⟨wn, wj, nm_e H⟩⟩
end DF
