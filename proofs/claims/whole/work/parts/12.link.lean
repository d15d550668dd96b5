/-! define: a token in lockstep, then the loop -/
abbrev fc_TJ : Type := Int32 → Int32 → Int32 → Int32 → Int32 → Int32 → Int32 → Int32 → Int32 → Int32 → Int32 → (Nat → Int32) → (Nat → Int32) → (Nat → Int32) → (Nat → Int32) → (Nat → Int32) → (Nat → Int32) → (Nat → Int32) → (Nat → Int32) → (Nat → Int32) → (Nat → Int32) → (Nat → Int32) → (Nat → Int32) → (Nat → Int32) → (Nat → Int32) → (Nat → Int32) → Prop
section DL
variable {nh wc wd cv sd pr st cc lo ov yh : Int32} {ho xn wa go pa co ca wl sk ce tx cw cp cl li lc yn le op nn pt oq ya : Nat → Int32}
variable {c : Nat → Nat} {W h h1 i : Nat} {S : List (Nat × Nat)} {pt0 : Nat → Int32}
/-- Y's scan, whatever comes behind it -/
theorem fk_scan {post : Int32 → SY → Prop} {J : fc_TJ} (hL : fc_Lk c W yn pt0 i S wa go oq pt) (hi : i < 24) (h34 : ∀ t, c t < 34)
    (E : ∀ f : Int32, (f = 0 ∧ fc_dc c S = 0) ∨ (f = 1 ∧ 0 < fc_dc c S) → fc_E post (wY_fit_78 post J (nI (fc_hs c S)) (nI (24 * W)) (nI i) (nI (c i)) (nI h) (nI W) sd cc lo st pr ov yh (fun j => nI (c j)) yn le op nn pt ce sk oq cw ya cl li lc tx) (nI h, nI W, sd, cc, lo, st, pr, ov, yh, (fun j => nI (c j)), yn, le, op, nn, pt, ce, sk, oq, cw, ya, cl, li, lc, tx) (c i) f) : ∃ n, wY_fit_34 post J (nI (fc_hs c S)) (nI (24 * W)) (nI i) (nI (c i)) (nI h) (nI W) sd cc lo st pr ov yh (fun j => nI (c j)) yn le op nn pt ce sk oq cw ya cl li lc tx n 0 0 := by
  obtain ⟨a1, a2, a3, a4, a5, a6, a7, a8⟩ := hL
  by_cases z : fc_dc c S = 0
  · refine ⟨fc_hs c S + 1, yi_0 (by omega) (fun k hk => ?_) (E 0 (Or.inl ⟨rfl, z⟩)) (fc_hs c S) 0 (fc_hs c S + 1) (by omega) (by omega)⟩
    obtain ⟨j, j1, j2, j3⟩ := fc_dcy S i a2 a3 k hk
    exact ⟨j, by omega, j2, fun y => absurd (j3 y) (by omega), h34 j⟩
  · have z' : 0 < fc_dc c S := by omega
    obtain ⟨k0, j0, b1, b2, b3, b4⟩ := fc_dcy0 S i a2 a3 z'
    refine ⟨fc_hs c S + 1, yi_1 (by omega) (fun k hk => ?_) b1 b2 (by omega) b4 (E 1 (Or.inr ⟨rfl, z'⟩)) (fc_hs c S) 0 (fc_hs c S + 1) 0 (by omega) (by omega) (Or.inr ⟨rfl, by omega⟩)⟩
    obtain ⟨j, j1, j2, j3⟩ := fc_dcy S i a2 a3 k hk
    exact ⟨j, by omega, j2, h34 j⟩
/-- X's fits, where what has been begun doesn't matter -/
theorem fk_fits {p : Int32 → Prop} (hL : fc_Lk c W yn pt0 i S wa go oq pt) (hi : i < 24) (H : ∀ z : Int32, wX_fits_27 p (nI i) z (nI h) (nI S.length) (nI W) cv sd pr st cc lo (fun j => nI (c j)) (fun j => lw_i16 (yn j)) wa go pa co ca wl sk ce tx cw cp cl li lc) : wpX_fits p (nI h, nI S.length, nI W, cv, sd, pr, st, cc, lo, (fun j => nI (c j)), (fun j => lw_i16 (yn j)), wa, go, pa, co, ca, wl, sk, ce, tx, cw, cp, cl, li, lc) (nI i) := by
  cases S with
  | nil => exact xf_nil (H (-1))
  | cons e T =>
    obtain ⟨j, b⟩ := e
    obtain ⟨t1, t2, t3, t4, t5, t6⟩ := fc_lk_top hL
    exact xf_cons (n := T.length) (by omega) (by omega) t4 (H _)
def fk_Bad (c : Nat → Nat) (W h i : Nat) (S : List (Nat × Nat)) (cv sd pr st cc lo ov yh : Int32) (wa go pa co ca wl sk ce tx cw cp cl li lc yn le op nn pt oq ya : Nat → Int32) : Prop :=
  (∀ p : Int32 → Prop, p 0 → wpX_fits p (nI h, nI S.length, nI W, cv, sd, pr, st, cc, lo, (fun j => nI (c j)), (fun j => lw_i16 (yn j)), wa, go, pa, co, ca, wl, sk, ce, tx, cw, cp, cl, li, lc) (nI i)) ∧ (∀ (post : Int32 → SY → Prop) (J : fc_TJ), post 0 (nI h, nI W, sd, cc, lo, st, pr, ov, yh, (fun j => nI (c j)), yn, le, op, nn, pt, ce, sk, oq, cw, ya, cl, li, lc, tx) → ∃ n, wY_fit_34 post J (nI (fc_hs c S)) (nI (24 * W)) (nI i) (nI (c i)) (nI h) (nI W) sd cc lo st pr ov yh (fun j => nI (c j)) yn le op nn pt ce sk oq cw ya cl li lc tx n 0 0)
def fk_Good (c : Nat → Nat) (W h i : Nat) (S : List (Nat × Nat)) (pt0 : Nat → Int32) (cv sd pr st cc lo ov yh : Int32) (wa go pa co ca wl sk ce tx cw cp cl li lc yn le op nn pt oq ya : Nat → Int32) : Prop :=
  ∃ (S' : List (Nat × Nat)) (wa' go' oq' pt' : Nat → Int32), fc_Lk c W yn pt0 (i + 1) S' wa' go' oq' pt' ∧ (∀ p : Int32 → Prop, p 1 → wpX_fits p (nI h, nI S.length, nI W, cv, sd, pr, st, cc, lo, (fun j => nI (c j)), (fun j => lw_i16 (yn j)), wa, go, pa, co, ca, wl, sk, ce, tx, cw, cp, cl, li, lc) (nI i)) ∧
    (∀ p : SX → Prop, p (nI h, nI S'.length, nI W, cv, sd, pr, st, cc, lo, (fun j => nI (c j)), (fun j => lw_i16 (yn j)), wa', go', pa, co, ca, wl, sk, ce, tx, cw, cp, cl, li, lc) → wpX_link p (nI h, nI S.length, nI W, cv, sd, pr, st, cc, lo, (fun j => nI (c j)), (fun j => lw_i16 (yn j)), wa, go, pa, co, ca, wl, sk, ce, tx, cw, cp, cl, li, lc) (nI i)) ∧ (∀ (post : Int32 → SY → Prop) (J : fc_TJ), J (nI (fc_hs c S')) (nI (i + 1)) (nI h) (nI W) sd cc lo st pr ov yh (fun j => nI (c j)) yn le op nn pt' ce sk oq' cw ya cl li lc tx → ∃ n, wY_fit_34 post J (nI (fc_hs c S)) (nI (24 * W)) (nI i) (nI (c i)) (nI h) (nI W) sd cc lo st pr ov yh (fun j => nI (c j)) yn le op nn pt ce sk oq cw ya cl li lc tx n 0 0)
theorem fk_plain (hL : fc_Lk c W yn pt0 i S wa go oq pt) (hi : i < 24) (h34 : ∀ t, c t < 34) (h : c i < 22 ∨ c i = 33) : fk_Good c W h1 i S pt0 cv sd pr st cc lo ov yh wa go pa co ca wl sk ce tx cw cp cl li lc yn le op nn pt oq ya := by
  have hc := h34 i
  refine ⟨S, wa, go, oq, pt, fc_lk_plain hL (by omega) (by omega) (by omega), fun p hp => ?_, fun p hp => ?_, fun post J hJ => ?_⟩
  · exact fk_fits hL hi (fun z => xf_pl hi hc (by omega) hp)
  · exact xk_pl hi hc (by omega) hp
  · exact fk_scan hL hi h34 (fun f _ => br_f (fn_ne (m := 32) (by omega)) (y_78 hc (by omega) (y_100n hc (by unfold fc_cl; omega) (y_207j hc (by omega) hJ))))
theorem fk_call (hL : fc_Lk c W yn pt0 i S wa go oq pt) (hi : i < 24) (hW : W < 10) (h34 : ∀ t, c t < 34) (h22 : ∀ t, c t = 22 → ∃ m : Nat, m < 10 ∧ yn t = nI m) (h : c i = 22) : fk_Bad c W h1 i S cv sd pr st cc lo ov yh wa go pa co ca wl sk ce tx cw cp cl li lc yn le op nn pt oq ya ∨ fk_Good c W h1 i S pt0 cv sd pr st cc lo ov yh wa go pa co ca wl sk ce tx cw cp cl li lc yn le op nn pt oq ya := by
  have hc := h34 i
  obtain ⟨m, m1, m2⟩ := h22 i h
  have em : lw_i16 (yn i) = nI m := by rw [m2]; exact fn_sm m (by omega)
  by_cases z : m ≤ W
  · refine Or.inr ⟨S, wa, go, oq, pt, fc_lk_plain hL (by omega) (fun _ => by rw [m2]; exact nI_le z (by omega)) (by omega), fun p hp => ?_, fun p hp => ?_, fun post J hJ => ?_⟩
    · refine fk_fits hL hi (fun y => xf_22 hi h ?_)
      rw [em]
      exact br_f (nI_nlt z (by omega)) hp
    · exact xk_pl hi hc (by omega) hp
    · refine fk_scan hL hi h34 (fun f _ => br_f (fn_ne (m := 32) (by omega)) ?_)
      rw [h]
      refine y_78c hi (br_t (by rw [m2]; exact nI_le z (by omega)) ?_)
      exact y_100n (by omega) (by unfold fc_cl; omega) (y_207j (by omega) (by omega) hJ)
  · refine Or.inl ⟨fun p hp => ?_, fun post J hp => ?_⟩
    · refine fk_fits hL hi (fun y => xf_22 hi h ?_)
      rw [em]
      exact br_t (nI_lt (by omega) (by omega)) hp
    · refine fk_scan hL hi h34 (fun f _ => br_f (fn_ne (m := 32) (by omega)) ?_)
      rw [h]
      exact y_78c hi (br_f (by rw [m2]; exact nI_ge (by omega) (by omega)) hp)
theorem fk_I (hL : fc_Lk c W yn pt0 i S wa go oq pt) (hi : i < 24) (h34 : ∀ t, c t < 34) (h : c i = 32) : fk_Bad c W h1 i S cv sd pr st cc lo ov yh wa go pa co ca wl sk ce tx cw cp cl li lc yn le op nn pt oq ya ∨ fk_Good c W h1 i S pt0 cv sd pr st cc lo ov yh wa go pa co ca wl sk ce tx cw cp cl li lc yn le op nn pt oq ya := by
  have hc := h34 i
  obtain ⟨a1, a2, a3, a4, a5, a6, a7, a8⟩ := id hL
  have hlen := fc_hs_le (c := c) (g := go) S
  by_cases z : fc_dc c S = 0
  · refine Or.inl ⟨fun p hp => ?_, fun post J hp => ?_⟩
    · refine fk_fits hL hi (fun y => xf_32 hi h ⟨S.length + 1, ?_⟩)
      refine xi_0 (by omega) (fun k hk => ?_) ⟨fn_nb0, hp⟩ S.length 0 (S.length + 1) (by omega) (by omega)
      obtain ⟨j, j1, j2, j3⟩ := fc_dcx S i a1 a3 k hk
      exact ⟨j, by omega, j2, fun y => absurd (j3 y) (by omega), h34 j⟩
    · refine fk_scan hL hi h34 (fun f hf => ?_)
      have f0 : f = 0 := by
        rcases hf with y | y
        · exact y.1
        · exact absurd y.2 (by omega)
      exact br_t (congrArg nI h) (br_t f0 hp)
  · have z' : 0 < fc_dc c S := by omega
    refine Or.inr ⟨S, wa, go, oq, pt, fc_lk_plain hL (by omega) (by omega) (fun _ => by omega), fun p hp => ?_, fun p hp => ?_, fun post J hJ => ?_⟩
    · obtain ⟨k0, j0, b1, b2, b3, b4⟩ := fc_dcx0 S i a1 a3 z'
      refine fk_fits hL hi (fun y => xf_32 hi h ⟨S.length + 1, ?_⟩)
      refine xi_1 (by omega) (fun k hk => ?_) b1 b2 (by omega) b4 ⟨fn_nb1, hp⟩ k0 0 (S.length + 1) (by omega) (by omega)
      obtain ⟨j, j1, j2, j3⟩ := fc_dcx S i a1 a3 k hk
      exact ⟨j, by omega, j2, h34 j⟩
    · exact xk_pl hi hc (by omega) hp
    · refine fk_scan hL hi h34 (fun f hf => ?_)
      have f1 : ¬ f = 0 := by
        rcases hf with y | y
        · exact absurd y.2 z
        · rw [y.1]; exact fn_10
      exact br_t (congrArg nI h) (br_f f1 (y_78 hc (by omega) (y_100n hc (by unfold fc_cl; omega) (y_207j hc (by omega) hJ))))
theorem fk_push (hL : fc_Lk c W yn pt0 i S wa go oq pt) (hi : i < 24) (h34 : ∀ t, c t < 34) (h : c i = 23 ∨ c i = 26 ∨ c i = 30) : fk_Good c W h1 i S pt0 cv sd pr st cc lo ov yh wa go pa co ca wl sk ce tx cw cp cl li lc yn le op nn pt oq ya := by
  have hc := h34 i
  have a4 := hL.2.2.2.1
  have hlen := fc_hs_le (c := c) (g := go) S
  have eh : fc_hs c ((i, 0) :: S) = fc_hs c S + 1 := by
    show fc_hs c S + (if c i = 28 then 2 else 1) = _
    rw [if_neg (by omega)]
  refine ⟨(i, 0) :: S, _, go, _, pt, fc_lk_push hL h, fun p hp => ?_, fun p hp => ?_, fun post J hJ => ?_⟩
  · exact fk_fits hL hi (fun z => xf_pl hi hc (by omega) hp)
  · exact xk_push hi (by omega) h hp
  · rw [eh] at hJ
    exact fk_scan hL hi h34 (fun f _ => br_f (fn_ne (m := 32) (by omega)) (y_78 hc (by omega) (y_100n hc (by unfold fc_cl; omega) (y_207p (by omega) (by omega) hJ))))
theorem fk_close (hL : fc_Lk c W yn pt0 i S wa go oq pt) (hi : i < 24) (hW : W < 10) (h34 : ∀ t, c t < 34) (h : fc_cl (c i)) : fk_Bad c W h1 i S cv sd pr st cc lo ov yh wa go pa co ca wl sk ce tx cw cp cl li lc yn le op nn pt oq ya ∨ fk_Good c W h1 i S pt0 cv sd pr st cc lo ov yh wa go pa co ca wl sk ce tx cw cp cl li lc yn le op nn pt oq ya := by
  have hc := h34 i
  have h32 : c i ≠ 32 ∧ c i ≠ 22 := by unfold fc_cl at h; omega
  have SC : ∀ (post : Int32 → SY → Prop) (J : fc_TJ), wY_fit_134 post J (nI (fc_hs c S)) (nI (24 * W)) (nI i) (nI (c i)) (nI h1) (nI W) sd cc lo st pr ov yh (fun j => nI (c j)) yn le op nn pt ce sk oq cw ya cl li lc tx → ∃ n, wY_fit_34 post J (nI (fc_hs c S)) (nI (24 * W)) (nI i) (nI (c i)) (nI h1) (nI W) sd cc lo st pr ov yh (fun j => nI (c j)) yn le op nn pt ce sk oq cw ya cl li lc tx n 0 0 :=
    fun post J K => fk_scan hL hi h34 (fun f _ => br_f (fn_ne (m := 32) h32.1) (y_78 hc h32.2 (y_100c h K)))
  cases S with
  | nil =>
    refine Or.inl ⟨fun p hp => xf_nil (xf_e0 h ⟨fun _ => by decide, fun _ => ⟨by decide, by decide⟩, fun _ => by decide, fun _ => by decide, fun _ => by decide⟩ hi rfl hp), fun post J hp => SC post J (y_134n hp)⟩
  | cons e T =>
    obtain ⟨j, b⟩ := e
    obtain ⟨t1, t2, t3, t4, t5, t6⟩ := fc_lk_top hL
    have hcj := h34 j
    have eh : fc_hs c ((j, b) :: T) = fc_hs c T + (if c j = 28 then 2 else 1) := rfl
    have XF : ∀ p : Int32 → Prop, fc_ends (c i) (c j) → p 1 → wpX_fits p (nI h1, nI (T.length + 1), nI W, cv, sd, pr, st, cc, lo, (fun j => nI (c j)), (fun j => lw_i16 (yn j)), wa, go, pa, co, ca, wl, sk, ce, tx, cw, cp, cl, li, lc) (nI i) := fun p hE hp => xf_cons (n := T.length) (by omega) (by omega) t4 (xf_e1 hE hi rfl hp)
    by_cases hE : fc_ends (c i) (c j)
    · have hE' := hE
      unfold fc_ends at hE'
      by_cases c8 : c j = 28
      · -- REPEAT
        have ci : c i = 29 := by omega
        obtain ⟨q1, q2, q3, q4, q5, q6⟩ := t6 c8
        rw [if_pos c8] at eh
        refine Or.inr ⟨T, wa, _, oq, _, fc_lk_repeat hL ci c8, fun p hp => XF p hE hp, fun p hp => xk_repeat hi (by omega) (by omega) t4 q6 ci hp, fun post J hJ => SC post J ?_⟩
        rw [eh]
        refine y_134 (n := fc_hs c T + 1) (by omega) q2 (by omega) hE (fun P hP => y_join1 (by omega) hi (by omega) hW hP) ⟨fun _ => ⟨fc_hs c T, rfl, hi, hW, ?_⟩, fun z => absurd ci z⟩ hc
        rw [q1]
        exact y_207j hc (by omega) hJ
      · rw [if_neg c8] at eh
        have e0 := t5 c8
        have ne : c i ≠ 29 := by omega
        have Y1 : ∀ (post : Int32 → SY → Prop) (J : fc_TJ) (ptz : Nat → Int32), (∀ P : SY → Prop, P (nI h1, nI W, sd, cc, lo, st, pr, ov, yh, (fun j => nI (c j)), yn, le, op, nn, ptz, ce, sk, oq, cw, ya, cl, li, lc, tx) → wpY_join P (nI h1, nI W, sd, cc, lo, st, pr, ov, yh, (fun j => nI (c j)), yn, le, op, nn, pt, ce, sk, oq, cw, ya, cl, li, lc, tx) (nI (24 * W)) (nI j) (nI i)) → wY_fit_207 post J (nI (fc_hs c T)) (nI (24 * W)) (nI i) (nI (c i)) (nI h1) (nI W) sd cc lo st pr ov yh (fun j => nI (c j)) yn le op nn ptz ce sk oq cw ya cl li lc tx → ∃ n, wY_fit_34 post J (nI (fc_hs c ((j, b) :: T))) (nI (24 * W)) (nI i) (nI (c i)) (nI h1) (nI W) sd cc lo st pr ov yh (fun j => nI (c j)) yn le op nn pt ce sk oq cw ya cl li lc tx n 0 0 := by
          intro post J ptz H1 H2
          refine SC post J ?_
          rw [eh]
          exact y_134 (n := fc_hs c T) (by omega) e0 (by omega) hE H1 ⟨fun z => absurd z ne, fun _ => H2⟩ hc
        by_cases c24 : c i = 24
        · have eh' : fc_hs c ((i, 0) :: T) = fc_hs c T + 1 := by
            show fc_hs c T + (if c i = 28 then 2 else 1) = _
            rw [if_neg (by omega)]
          refine Or.inr ⟨(i, 0) :: T, _, _, _, _, fc_lk_else hL c24 (by omega), fun p hp => XF p hE hp, fun p hp => xk_else hi (by omega) (by omega) t4 c24 hp, fun post J hJ => Y1 post J _ (fun P hP => y_join1 (by omega) hi (by omega) hW hP) ?_⟩
          rw [eh'] at hJ
          exact y_207p (by omega) (by omega) hJ
        by_cases c25 : c i = 25
        · refine Or.inr ⟨T, wa, _, oq, _, fc_lk_then hL c25 (by omega), fun p hp => XF p hE hp, fun p hp => xk_then hi (by omega) (by omega) t4 c25 hp, fun post J hJ => Y1 post J _ (fun P hP => y_join1 (by omega) hi (by omega) hW hP) ?_⟩
          exact y_207j hc (by omega) hJ
        by_cases c28 : c i = 28
        · have eh' : fc_hs c ((i, j) :: T) = fc_hs c T + 2 := by
            show fc_hs c T + (if c i = 28 then 2 else 1) = _
            rw [if_pos c28]
          refine Or.inr ⟨(i, j) :: T, _, _, _, _, fc_lk_while hL c28 (by omega), fun p hp => XF p hE hp, fun p hp => xk_while hi (by omega) (by omega) t4 c28 hp, fun post J hJ => Y1 post J _ (fun P hP => y_join2 (by omega) hi hW hP) ?_⟩
          rw [eh'] at hJ
          rw [c28]
          exact y_207w (by omega) hJ
        · refine Or.inr ⟨T, wa, _, oq, _, fc_lk_until hL (by omega), fun p hp => XF p hE hp, fun p hp => xk_until hi (by omega) (by omega) t4 (by omega) hp, fun post J hJ => Y1 post J _ (fun P hP => y_join2 (by omega) hi hW hP) ?_⟩
          exact y_207j hc (by omega) hJ
    · have hE' := hE
      unfold fc_ends at hE'
      refine Or.inl ⟨fun p hp => ?_, fun post J hp => SC post J ?_⟩
      · exact xf_cons (n := T.length) (by omega) (by omega) t4 (xf_e0 h ⟨fun z => fn_ne (m := 23) (by omega), fun z => ⟨fn_ne (m := 23) (by omega), fn_ne (m := 24) (by omega)⟩, fun z => fn_ne (m := 26) (by omega), fun z => fn_ne (m := 28) (by omega), fun z => fn_ne (m := 30) (by omega)⟩ hi rfl hp)
      · by_cases c8 : c j = 28
        · obtain ⟨q1, q2, q3, q4, q5, q6⟩ := t6 c8
          rw [eh, if_pos c8]
          exact y_134b (n := fc_hs c T + 1) (by omega) q2 (by omega) h hcj hE hp
        · rw [eh, if_neg c8]
          exact y_134b (n := fc_hs c T) (by omega) (t5 c8) (by omega) h hcj hE hp
theorem fk_step (hL : fc_Lk c W yn pt0 i S wa go oq pt) (hi : i < 24) (hW : W < 10) (h34 : ∀ t, c t < 34) (h22 : ∀ t, c t = 22 → ∃ m : Nat, m < 10 ∧ yn t = nI m) : fk_Bad c W h1 i S cv sd pr st cc lo ov yh wa go pa co ca wl sk ce tx cw cp cl li lc yn le op nn pt oq ya ∨ fk_Good c W h1 i S pt0 cv sd pr st cc lo ov yh wa go pa co ca wl sk ce tx cw cp cl li lc yn le op nn pt oq ya := by
  have hc := h34 i
  by_cases a : fc_cl (c i)
  · exact fk_close hL hi hW h34 a
  unfold fc_cl at a
  by_cases b : c i = 23 ∨ c i = 26 ∨ c i = 30
  · exact Or.inr (fk_push hL hi h34 b)
  by_cases d : c i = 22
  · exact fk_call hL hi hW h34 h22 d
  by_cases e : c i = 32
  · exact fk_I hL hi h34 e
  exact Or.inr (fk_plain hL hi h34 (by omega))
/-- the loops: one answer, one state each -/
theorem fk_loop (hW : W < 10) (hh : h ≤ 24) (h34 : ∀ t, c t < 34) (h22 : ∀ t, c t = 22 → ∃ m : Nat, m < 10 ∧ yn t = nI m) : ∀ (m i : Nat) (S : List (Nat × Nat)) (wa go oq pt : Nat → Int32), i + m = h → fc_Lk c W yn pt0 i S wa go oq pt →
    ∃ (r : Nat) (x : Int32) (wa' go' oq' pt' : Nat → Int32), r ≤ 1 ∧ (r = 1 → fc_Lk c W yn pt0 h [] wa' go' oq' pt') ∧ (∀ j, j < 24 * W → pt' j = pt0 j) ∧
      (∀ (post : Int32 → SX → Prop) (n : Nat), m < n → post (nI r) (nI h, x, nI W, cv, sd, pr, st, cc, lo, (fun j => nI (c j)), (fun j => lw_i16 (yn j)), wa', go', pa, co, ca, wl, sk, ce, tx, cw, cp, cl, li, lc) → wX_linkParts_7 post n (nI i) (nI h) (nI S.length) (nI W) cv sd pr st cc lo (fun j => nI (c j)) (fun j => lw_i16 (yn j)) wa go pa co ca wl sk ce tx cw cp cl li lc) ∧
      (∀ (post : Int32 → SY → Prop) (n : Nat), m < n → post (nI r) (nI h, nI W, sd, cc, lo, st, pr, ov, yh, (fun j => nI (c j)), yn, le, op, nn, pt', ce, sk, oq', cw, ya, cl, li, lc, tx) → wY_fit_12 post (nI (24 * W)) n (nI (fc_hs c S)) (nI i) (nI h) (nI W) sd cc lo st pr ov yh (fun j => nI (c j)) yn le op nn pt ce sk oq cw ya cl li lc tx) := by
  intro m
  induction m with
  | zero =>
    intro i S wa go oq pt hm hL
    have hl := fc_hs_le (c := c) (g := go) S
    have hs := hL.2.2.2.1
    obtain rfl : i = h := by omega
    by_cases z : S = []
    · subst z
      refine ⟨1, nI 0, wa, go, oq, pt, by omega, fun _ => hL, hL.2.2.2.2.2.2.2, fun post n hn hp => ?_, fun post n hn hp => ?_⟩
      · obtain ⟨n, rfl⟩ : ∃ k, n = k + 1 := ⟨n - 1, by omega⟩
        rw [wX_linkParts_7]
        exact br_t (nI_le (Nat.le_refl _) (by omega)) (br_t rfl hp)
      · obtain ⟨n, rfl⟩ : ∃ k, n = k + 1 := ⟨n - 1, by omega⟩
        rw [wY_fit_12]
        exact br_t (nI_le (Nat.le_refl _) (by omega)) (br_t rfl hp)
    · have l0 : S.length ≠ 0 := fun y => z (List.length_eq_zero_iff.mp y)
      refine ⟨0, nI S.length, wa, go, oq, pt, by omega, fun y => absurd y (by omega), hL.2.2.2.2.2.2.2, fun post n hn hp => ?_, fun post n hn hp => ?_⟩
      · obtain ⟨n, rfl⟩ : ∃ k, n = k + 1 := ⟨n - 1, by omega⟩
        rw [wX_linkParts_7]
        exact br_t (nI_le (Nat.le_refl _) (by omega)) (br_f (fn_ne (m := 0) l0) hp)
      · obtain ⟨n, rfl⟩ : ∃ k, n = k + 1 := ⟨n - 1, by omega⟩
        rw [wY_fit_12]
        exact br_t (nI_le (Nat.le_refl _) (by omega)) (br_f (fn_ne (m := 0) (by omega)) hp)
  | succ m ih =>
    intro i S wa go oq pt hm hL
    have hi : i < 24 := by omega
    have ei : (nI i).toNatClampNeg = i := nI_clamp (by omega)
    have G : fk_Bad c W h i S cv sd pr st cc lo ov yh wa go pa co ca wl sk ce tx cw cp cl li lc yn le op nn pt oq ya ∨ fk_Good c W h i S pt0 cv sd pr st cc lo ov yh wa go pa co ca wl sk ce tx cw cp cl li lc yn le op nn pt oq ya := fk_step hL hi hW h34 h22
    rcases G with ⟨gX, gY⟩ | ⟨S', wa', go', oq', pt', hL', gX, gK, gY⟩
    · refine ⟨0, nI S.length, wa, go, oq, pt, by omega, fun y => absurd y (by omega), hL.2.2.2.2.2.2.2, fun post n hn hp => ?_, fun post n hn hp => ?_⟩
      · obtain ⟨n, rfl⟩ : ∃ k, n = k + 1 := ⟨n - 1, by omega⟩
        rw [wX_linkParts_7]
        exact br_f (nI_ge (by omega) (by omega)) (gX _ (br_t rfl hp))
      · obtain ⟨n, rfl⟩ : ∃ k, n = k + 1 := ⟨n - 1, by omega⟩
        rw [wY_fit_12]
        exact br_f (nI_ge (by omega) (by omega)) ⟨vp_in_nI hi (by omega), nm_r (e' := nI (c i)) (by rw [ei]) (gY _ _ hp)⟩
    · obtain ⟨r, x, wa2, go2, oq2, pt2, r1, r2, r3, r4, r5⟩ := ih (i + 1) S' wa' go' oq' pt' (by omega) hL'
      refine ⟨r, x, wa2, go2, oq2, pt2, r1, r2, r3, fun post n hn hp => ?_, fun post n hn hp => ?_⟩
      · obtain ⟨n, rfl⟩ : ∃ k, n = k + 1 := ⟨n - 1, by omega⟩
        rw [wX_linkParts_7]
        refine br_f (nI_ge (by omega) (by omega)) (gX _ (br_f fn_10 (gK _ ?_)))
        exact nm_r (nI_1 i) (r4 post n (by omega) hp)
      · obtain ⟨n, rfl⟩ : ∃ k, n = k + 1 := ⟨n - 1, by omega⟩
        rw [wY_fit_12]
        exact br_f (nI_ge (by omega) (by omega)) ⟨vp_in_nI hi (by omega), nm_r (e' := nI (c i)) (by rw [ei]) (gY _ _ (r5 post n (by omega) hp))⟩
end DL
