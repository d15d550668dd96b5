/-! the relation, and the methods that need no more -/
def i_Rel (_ : Nat) (u : SX) (v : SY) : Prop :=
  ∃ (h W d s p e : Nat) (c : Nat → Nat) (LL : Nat → Nat) (PP DD : Nat → Nat → Nat) (wc cc lo ov yh : Int32) (yn wa go pa co ca wl sk ce tx cw cp cl li lc le op nn pt oq ya : Nat → Int32),
    u = (nI h, wc, nI W, nI e, nI d, nI p, nI s, cc, lo, (fun j => nI (c j)), (fun j => lw_i16 (yn j)), wa, go, pa, co, ca, wl, sk, ce, tx, cw, cp, cl, li, lc) ∧ v = (nI h, nI W, nI d, cc, lo, nI s, nI p, ov, yh, (fun j => nI (c j)), yn, le, op, nn, pt, ce, sk, oq, cw, ya, cl, li, lc, tx) ∧
    h ≤ 24 ∧ W ≤ 10 ∧ d ≤ 12 ∧ p ≤ 2100 ∧ e ≤ 1 ∧ (∀ t, c t < 34) ∧ (∀ t, c t = 22 → ∃ m : Nat, m < 10 ∧ yn t = nI m) ∧ fc_Sh sk ∧ fc_Sh ce ∧ fc_Sh li ∧ fc_Sh lc ∧
    fc_Words W LL PP DD le op nn pt wl co ca
theorem i_up {k : Nat} {u : SX} {v : SY} (h : i_Rel k u v) : i_Rel (k + 3) u v := h
theorem fn_z0 : (fun _ : Nat => (0 : Int32)) = (fun j : Nat => lw_i16 ((fun _ : Nat => (0 : Int32)) j)) := funext fun _ => by
  show (0 : Int32) = lw_i16 0
  decide +kernel
theorem i_vc0 : wpX_init (fun u => wpY_init (fun v => i_Rel 0 u v)) :=
  ⟨0, 0, 0, 0, 0, 1, fun _ => 0, fun _ => 0, fun _ _ => 0, fun _ _ => 0, 0, 0, 0, 0, 0, fun _ => 0, fun _ => 0, fun _ => 0, fun _ => 0, fun _ => 0, fun _ => 0, fun _ => 0, fun _ => 0, fun _ => 0, fun _ => 0, fun _ => 0, fun _ => 0, fun _ => 0, fun _ => 0, fun _ => 0, fun _ => 0, fun _ => 0, fun _ => 0, fun _ => 0, fun _ => 0, fun _ => 0,
    congrArg (fun g : Nat → Int32 => ((0, 0, 0, 1, 0, 0, 0, 0, 0, (fun _ => 0), g, (fun _ => 0), (fun _ => 0), (fun _ => 0), (fun _ => 0), (fun _ => 0), (fun _ => 0), (fun _ => 0), (fun _ => 0), (fun _ => 0), (fun _ => 0), (fun _ => 0), (fun _ => 0), (fun _ => 0), (fun _ => 0)) : SX)) fn_z0, rfl, by omega, by omega, by omega, by omega, by omega, fun _ => (by decide : (0 : Nat) < 34), fun t z => absurd z (by decide : ¬ (0 : Nat) = 22), fc_Sh_0, fc_Sh_0, fc_Sh_0, fc_Sh_0, fun w hw => absurd hw (Nat.not_lt_zero w)⟩
theorem i_vc_cancel {k : Nat} {u : SX} {v : SY} (I : i_Rel k u v) (hk : k + 3 ≤ 1536) : wpX_cancel (fun r u' => wpY_cancel (fun r' v' => r' = r ∧ i_Rel (k + 3) u' v') v) u := by
  obtain ⟨h, W, d, s, p, e, c, LL, PP, DD, wc, cc, lo, ov, yh, yn, wa, go, pa, co, ca, wl, sk, ce, tx, cw, cp, cl, li, lc, le, op, nn, pt, oq, ya, rfl, rfl, h1, h2, h3, h4, h5, h6, h7, h8, h9, h10, h11, h12⟩ := I
  exact ⟨rfl, 0, W, d, s, p, e, c, LL, PP, DD, wc, cc, lo, ov, yh, yn, wa, go, pa, co, ca, wl, sk, ce, tx, cw, cp, cl, li, lc, le, op, nn, pt, oq, ya, rfl, rfl, by omega, h2, h3, h4, h5, h6, h7, h8, h9, h10, h11, h12⟩
theorem i_vc_forget {k : Nat} {u : SX} {v : SY} (I : i_Rel k u v) (hk : k + 3 ≤ 1536) : wpX_forget (fun r u' => wpY_forget (fun r' v' => r' = r ∧ i_Rel (k + 3) u' v') v) u := by
  have I0 := I
  obtain ⟨h, W, d, s, p, e, c, LL, PP, DD, wc, cc, lo, ov, yh, yn, wa, go, pa, co, ca, wl, sk, ce, tx, cw, cp, cl, li, lc, le, op, nn, pt, oq, ya, rfl, rfl, h1, h2, h3, h4, h5, h6, h7, h8, h9, h10, h11, h12⟩ := I
  by_cases z : W = 0
  · have z' : nI W = 0 := by rw [z]; rfl
    exact br_t z' (br_t z' ⟨rfl, I0⟩)
  · have z' : ¬ nI W = 0 := fn_ne (m := 0) z
    obtain ⟨V, rfl⟩ : ∃ V, W = V + 1 := ⟨W - 1, by omega⟩
    refine br_f z' (nm_r (nI_pred V) (br_f z' (nm_r (nI_pred V) ⟨rfl, ?_⟩)))
    exact ⟨h, V, d, s, p, e, c, LL, PP, DD, wc, cc, lo, ov, yh, yn, wa, go, pa, co, ca, wl, sk, ce, tx, cw, cp, cl, li, lc, le, op, nn, pt, oq, ya, rfl, rfl, h1, by omega, h3, h4, h5, h6, h7, h8, h9, h10, h11, fun w hw => h12 w (by omega)⟩
theorem i_vc_steps {k : Nat} {u : SX} {v : SY} (I : i_Rel k u v) (hk : k + 3 ≤ 1536) : wpX_steps (fun r => wpY_steps (fun r' => r' = r ∧ i_Rel (k + 3) u v) v) u := by
  have I0 := I
  obtain ⟨h, W, d, s, p, e, c, LL, PP, DD, wc, cc, lo, ov, yh, yn, wa, go, pa, co, ca, wl, sk, ce, tx, cw, cp, cl, li, lc, le, op, nn, pt, oq, ya, rfl, rfl, hx⟩ := I
  exact ⟨rfl, I0⟩
theorem i_vc_depth {k : Nat} {u : SX} {v : SY} (I : i_Rel k u v) (hk : k + 3 ≤ 1536) : wpX_depth (fun r => wpY_depth (fun r' => r' = r ∧ i_Rel (k + 3) u v) v) u := by
  have I0 := I
  obtain ⟨h, W, d, s, p, e, c, LL, PP, DD, wc, cc, lo, ov, yh, yn, wa, go, pa, co, ca, wl, sk, ce, tx, cw, cp, cl, li, lc, le, op, nn, pt, oq, ya, rfl, rfl, hx⟩ := I
  exact ⟨rfl, I0⟩
theorem i_vc_printed {k : Nat} {u : SX} {v : SY} (I : i_Rel k u v) (hk : k + 3 ≤ 1536) : wpX_printed (fun r => wpY_printed (fun r' => r' = r ∧ i_Rel (k + 3) u v) v) u := by
  have I0 := I
  obtain ⟨h, W, d, s, p, e, c, LL, PP, DD, wc, cc, lo, ov, yh, yn, wa, go, pa, co, ca, wl, sk, ce, tx, cw, cp, cl, li, lc, le, op, nn, pt, oq, ya, rfl, rfl, hx⟩ := I
  exact ⟨rfl, I0⟩
section RL
variable {nh wc wd cv sd pr st cc lo ov yh : Int32} {ho xn wa go pa co ca wl sk ce tx cw cp cl li lc yn le op nn pt oq ya : Nat → Int32}
/-- in(x, 0, b - 1), and x < 0, b ≤ x: the three cases -/
theorem fr_in {p : Int32 → Prop} {x : Int32} {b : Nat} (hb : b < 2 ^ 30) (f : x < 0 → p 0) (g : nI b ≤ x → p 0) (i : ∀ j, j < b → x = nI j → p 1) : wpY_in p (nh, wd, sd, cc, lo, st, pr, ov, yh, ho, yn, le, op, nn, pt, ce, sk, oq, cw, ya, cl, li, lc, tx) x 0 (nI b - 1) := by
  refine br_c f (fun h0 => ?_)
  obtain ⟨j, hj, rfl⟩ := nI_of h0
  by_cases z : j < b
  · obtain ⟨a, rfl⟩ : ∃ a, b = a + 1 := ⟨b - 1, by omega⟩
    rw [nI_pred]
    exact br_f (nI_nlt (by omega) (by omega)) (i j z rfl)
  · refine br_t ?_ (g (nI_le (by omega) hj))
    cases b with
    | zero =>
      rw [Int32.lt_iff_toInt_lt, nI_toInt hj, show (nI 0 - 1).toInt = -1 from by decide]
      omega
    | succ a =>
      rw [nI_pred]
      exact nI_lt (by omega) hj
theorem i_vc_pick {k : Nat} {u : SX} {v : SY} (I : i_Rel k u v) (hk : k + 3 ≤ 1536) (v1 : Int32) : wpX_pick (fun r => wpY_pick (fun r' => r' = r ∧ i_Rel (k + 3) u v) v v1) u v1 := by
  have I0 := I
  obtain ⟨h, W, d, s, p, e, c, LL, PP, DD, wc, cc, lo, ov, yh, yn, wa, go, pa, co, ca, wl, sk, ce, tx, cw, cp, cl, li, lc, le, op, nn, pt, oq, ya, rfl, rfl, h1, h2, h3, hx⟩ := I
  unfold wpX_pick wpY_pick
  dsimp only
  rcases pk_ix v1 (n := d) (by omega) with z | z | ⟨j, hj, rfl⟩
  · refine br_t z ?_
    exact fr_in (by omega) (fun _ => br_t rfl ⟨rfl, I0⟩) (fun _ => br_t rfl ⟨rfl, I0⟩) (fun j hj e => absurd z (by rw [e]; exact nI_pos (by omega)))
  · have z0 : ¬ v1 < 0 := fun y => Int32.not_lt.mpr z (Int32.lt_of_lt_of_le y (nI_pos' (by omega)))
    refine br_f z0 (br_f (Int32.not_lt.mpr z) ?_)
    exact fr_in (by omega) (fun _ => br_t rfl ⟨rfl, I0⟩) (fun _ => br_t rfl ⟨rfl, I0⟩) (fun j hj e => absurd (nI_lt hj (by omega)) (by rw [← e]; exact Int32.not_lt.mpr z))
  · obtain ⟨a, rfl⟩ : ∃ a, d = a + 1 := ⟨d - 1, by omega⟩
    have e1 : nI (a + 1) - 1 - nI j = nI (a - j) := by rw [nI_pred, pk_sub (by omega)]
    have w : vp_in (nI (a + 1) - 1 - nI j) 12 := by rw [e1]; exact vp_in_nI (by omega) (by omega)
    refine br_f (nI_pos (by omega)) (br_t (nI_lt hj (by omega)) ⟨w, ?_⟩)
    exact fr_in (by omega) (fun y => absurd y (nI_pos (by omega))) (fun y => absurd y (nI_ge hj (by omega))) (fun _ _ _ => br_f fn_10 ⟨w, rfl, I0⟩)
theorem fr_in0 {p : Int32 → Prop} {x : Int32} (b : Nat) (hb : b < 2 ^ 29) (f : x < 0 → p 0) (g : nI (b + 1) ≤ x → p 0) (i : ∀ j, j ≤ b → x = nI j → p 1) : wpY_in p (nh, wd, sd, cc, lo, st, pr, ov, yh, ho, yn, le, op, nn, pt, ce, sk, oq, cw, ya, cl, li, lc, tx) x 0 (nI b) := by
  have H : wpY_in p (nh, wd, sd, cc, lo, st, pr, ov, yh, ho, yn, le, op, nn, pt, ce, sk, oq, cw, ya, cl, li, lc, tx) x 0 (nI (b + 1) - 1) := fr_in (by omega) f g (fun j hj e => i j (by omega) e)
  rw [nI_pred] at H
  exact H
theorem i_vc_cell {k : Nat} {u : SX} {v : SY} (I : i_Rel k u v) (hk : k + 3 ≤ 1536) (v1 : Int32) : wpX_cell (fun r => wpY_cell (fun r' => r' = r ∧ i_Rel (k + 3) u v) v v1) u v1 := by
  have I0 := I
  obtain ⟨h, W, d, s, p, e, c, LL, PP, DD, wc, cc, lo, ov, yh, yn, wa, go, pa, co, ca, wl, sk, ce, tx, cw, cp, cl, li, lc, le, op, nn, pt, oq, ya, rfl, rfl, h1, h2, h3, hx⟩ := I
  unfold wpX_cell wpY_cell
  dsimp only
  rcases pk_ix v1 (n := 16) (by omega) with z | z | ⟨j, hj, rfl⟩
  · refine br_t z ?_
    exact fr_in0 15 (by omega) (fun _ => br_t rfl ⟨rfl, I0⟩) (fun _ => br_t rfl ⟨rfl, I0⟩) (fun j hj e => absurd z (by rw [e]; exact nI_pos (by omega)))
  · have z0 : ¬ v1 < 0 := fun y => Int32.not_lt.mpr z (Int32.lt_of_lt_of_le y (nI_pos' (by omega)))
    refine br_f z0 (br_f (Int32.not_lt.mpr z) ?_)
    exact fr_in0 15 (by omega) (fun _ => br_t rfl ⟨rfl, I0⟩) (fun _ => br_t rfl ⟨rfl, I0⟩) (fun j hj e => absurd (nI_lt (b := 16) (a := j) (by omega) (by omega)) (by rw [← e]; exact Int32.not_lt.mpr z))
  · have w : vp_in (nI j) 16 := vp_in_nI hj (by omega)
    refine br_f (nI_pos (by omega)) (br_t (nI_lt (b := 16) hj (by omega)) ⟨w, ?_⟩)
    exact fr_in0 15 (by omega) (fun y => absurd y (nI_pos (by omega))) (fun y => absurd y (nI_ge (b := 16) hj (by omega))) (fun _ _ _ => br_f fn_10 ⟨w, rfl, I0⟩)
theorem i_vc_text {k : Nat} {u : SX} {v : SY} (I : i_Rel k u v) (hk : k + 3 ≤ 1536) (v1 : Int32) : wpX_text (fun r => wpY_text (fun r' => r' = r ∧ i_Rel (k + 3) u v) v v1) u v1 := by
  have I0 := I
  obtain ⟨h, W, d, s, p, e, c, LL, PP, DD, wc, cc, lo, ov, yh, yn, wa, go, pa, co, ca, wl, sk, ce, tx, cw, cp, cl, li, lc, le, op, nn, pt, oq, ya, rfl, rfl, h1, h2, h3, h4, hx⟩ := I
  unfold wpX_text wpY_text
  dsimp only
  rcases pk_ix v1 (n := 60) (by omega) with z | z | ⟨j, hj, rfl⟩
  · refine br_t z ?_
    exact fr_in0 59 (by omega) (fun _ => br_t rfl ⟨rfl, I0⟩) (fun _ => br_t rfl ⟨rfl, I0⟩) (fun j hj e => absurd z (by rw [e]; exact nI_pos (by omega)))
  · have z0 : ¬ v1 < 0 := fun y => Int32.not_lt.mpr z (Int32.lt_of_lt_of_le y (nI_pos' (by omega)))
    have Y : ∀ r : Int32, r = 0 → wpY_text (fun r' => r' = r ∧ i_Rel (k + 3) (nI h, wc, nI W, nI e, nI d, nI p, nI s, cc, lo, (fun j => nI (c j)), (fun j => lw_i16 (yn j)), wa, go, pa, co, ca, wl, sk, ce, tx, cw, cp, cl, li, lc) (nI h, nI W, nI d, cc, lo, nI s, nI p, ov, yh, (fun j => nI (c j)), yn, le, op, nn, pt, ce, sk, oq, cw, ya, cl, li, lc, tx)) (nI h, nI W, nI d, cc, lo, nI s, nI p, ov, yh, (fun j => nI (c j)), yn, le, op, nn, pt, ce, sk, oq, cw, ya, cl, li, lc, tx) v1 := by
      intro r hr
      subst hr
      unfold wpY_text
      dsimp only
      exact fr_in0 59 (by omega) (fun _ => br_t rfl ⟨rfl, I0⟩) (fun _ => br_t rfl ⟨rfl, I0⟩) (fun j hj e => absurd (nI_lt (b := 60) (a := j) (by omega) (by omega)) (by rw [← e]; exact Int32.not_lt.mpr z))
    refine br_f z0 (br_c (fun _ => Y 0 rfl) (fun _ => br_f (Int32.not_lt.mpr z) (Y 0 rfl)))
  · have w : vp_in (nI j) 60 := vp_in_nI hj (by omega)
    refine br_f (nI_pos (by omega)) (br_c (fun y => ?_) (fun y => br_t (nI_lt (b := 60) hj (by omega)) ⟨w, ?_⟩))
    · exact fr_in0 59 (by omega) (fun y => absurd y (nI_pos (by omega))) (fun y => absurd y (nI_ge (b := 60) hj (by omega))) (fun _ _ _ => br_f fn_10 (br_t y ⟨rfl, I0⟩))
    · exact fr_in0 59 (by omega) (fun y => absurd y (nI_pos (by omega))) (fun y => absurd y (nI_ge (b := 60) hj (by omega))) (fun _ _ _ => br_f fn_10 (br_f y ⟨w, rfl, I0⟩))
end RL
