/-! frames, the measure, a turn in lockstep, the whole run -/
def fc_Fr (W k : Nat) (LL : Nat → Nat) (PP DD : Nat → Nat → Nat) (gw ga gb : Nat → Nat) (cw cp ya cl : Nat → Int32) : Prop :=
  ∀ f, f < k → gw f < W ∧ ga f ≤ LL (gw f) ∧ cw f = nI (gw f) ∧ cp f = nI (PP (gw f) (ga f)) ∧ ya f = nI (ga f) ∧ cl f = nI (gb f) ∧ gb (f + 1) = gb f + DD (gw f) (ga f)
section RN
variable {W k : Nat} {LL : Nat → Nat} {PP DD : Nat → Nat → Nat} {gw ga gb : Nat → Nat}
variable {nh wc wd cv sd pr st cc lo ov yh : Int32} {ho xn wa go pa co ca wl sk ce tx cw cp cl li lc yn le op nn pt oq ya : Nat → Int32}
theorem fr_top (h : fc_Fr W (k + 1) LL PP DD gw ga gb cw cp ya cl) {a : Nat} (ha : a ≤ LL (gw k)) {x y : Int32} (hx : x = nI (PP (gw k) a)) (hy : y = nI a) :
    fc_Fr W (k + 1) LL PP DD gw (fc_set ga k a) (fc_set gb (k + 1) (gb k + DD (gw k) a)) cw (upd cp k x) (upd ya k y) cl := by
  intro f hf
  obtain ⟨h1, h2, h3, h4, h5, h6, h7⟩ := h f hf
  by_cases e : f = k
  · subst e
    rw [fc_set_s, fc_set_s, fc_set_n (by omega), pk_us, pk_us]
    exact ⟨h1, ha, h3, hx, hy, h6, rfl⟩
  · rw [fc_set_n e, fc_set_n (show f + 1 ≠ k + 1 by omega), fc_set_n (show f ≠ k + 1 by omega), pk_un e, pk_un e]
    exact ⟨h1, h2, h3, h4, h5, h6, h7⟩
theorem fr_begin (h : fc_Fr W k LL PP DD gw ga gb cw cp ya cl) {w : Nat} (hw : w < W) (hP : PP w 0 = 0) (hD : DD w 0 = 0) {x : Int32} (hx : x = nI (gb k)) :
    fc_Fr W (k + 1) LL PP DD (fc_set gw k w) (fc_set ga k 0) (fc_set gb (k + 1) (gb k)) (upd cw k (nI w)) (upd cp k 0) (upd ya k 0) (upd cl k x) := by
  intro f hf
  by_cases e : f = k
  · subst e
    rw [fc_set_s, fc_set_s, fc_set_s, fc_set_n (by omega), pk_us, pk_us, pk_us, pk_us, hP, hD]
    exact ⟨hw, Nat.zero_le _, rfl, nI_0.symm, nI_0.symm, hx, rfl⟩
  · obtain ⟨h1, h2, h3, h4, h5, h6, h7⟩ := h f (by omega)
    rw [fc_set_n e, fc_set_n e, fc_set_n (show f + 1 ≠ k + 1 by omega), fc_set_n (show f ≠ k + 1 by omega), pk_un e, pk_un e, pk_un e, pk_un e]
    exact ⟨h1, h2, h3, h4, h5, h6, h7⟩
theorem fr_pop (h : fc_Fr W (k + 1) LL PP DD gw ga gb cw cp ya cl) : fc_Fr W k LL PP DD gw ga gb cw cp ya cl := fun f hf => h f (by omega)
theorem fm_top {a : Nat} : fc_sm (fun f => LL (gw f) - fc_set ga k a f + 1) (k + 1) = fc_sm (fun f => LL (gw f) - ga f + 1) k + (LL (gw k) - a + 1) := by
  rw [fc_sm_s, fc_set_s, fc_sm_c (g := fun f => LL (gw f) - fc_set ga k a f + 1) (h := fun f => LL (gw f) - ga f + 1) k (fun f hf => by show LL (gw f) - fc_set ga k a f + 1 = _; rw [fc_set_n (by omega)])]
theorem fm_begin {w : Nat} : fc_sm (fun f => LL (fc_set gw k w f) - fc_set ga k 0 f + 1) (k + 1) = fc_sm (fun f => LL (gw f) - ga f + 1) k + (LL w + 1) := by
  rw [fc_sm_s, fc_set_s, fc_set_s, fc_sm_c (g := fun f => LL (fc_set gw k w f) - fc_set ga k 0 f + 1) (h := fun f => LL (gw f) - ga f + 1) k (fun f hf => by show LL (fc_set gw k w f) - fc_set ga k 0 f + 1 = _; rw [fc_set_n (by omega), fc_set_n (by omega)])]
  rfl
/-- a run that goes on -/
def fc_Rn (W : Nat) (LL : Nat → Nat) (PP DD : Nat → Nat → Nat) (nh wc wd cv yh : Int32) (ho xn wa go pa co ca wl yn le op nn pt oq : Nat → Int32) (m : Nat) (u : SX) (v : SY) : Prop :=
  ∃ (k s d p l : Nat) (gw ga gb : Nat → Nat) (sk ce tx cw cp cl li lc ya : Nat → Int32),
    u = (nh, wc, wd, cv, nI d, nI p, nI s, nI (k + 1), nI l, ho, xn, wa, go, pa, co, ca, wl, sk, ce, tx, cw, cp, cl, li, lc) ∧ v = (nh, wd, nI d, nI (k + 1), nI l, nI s, nI p, 0, yh, ho, yn, le, op, nn, pt, ce, sk, oq, cw, ya, cl, li, lc, tx) ∧
    k < 8 ∧ s ≤ 300 ∧ d ≤ 12 ∧ p ≤ 7 * s ∧ l = gb (k + 1) ∧ l ≤ 6 ∧ fc_Sh sk ∧ fc_Sh ce ∧ fc_Sh li ∧ fc_Sh lc ∧
    fc_Fr W (k + 1) LL PP DD gw ga gb cw cp ya cl ∧ 25 * (300 - s) + fc_sm (fun f => LL (gw f) - ga f + 1) (k + 1) ≤ m
/-- a run that is over: r is X's answer -/
def fc_Fn (nh wc wd cv yh : Int32) (ho xn wa go pa co ca wl yn le op nn pt oq : Nat → Int32) (r : Int32) (u : SX) (v : SY) : Prop :=
  ∃ (s d p : Nat) (cc lo : Int32) (sk ce tx cw cp cl li lc ya : Nat → Int32), s ≤ 300 ∧ d ≤ 12 ∧ p ≤ 7 * s ∧ fc_Sh sk ∧ fc_Sh ce ∧ fc_Sh li ∧ fc_Sh lc ∧
    u = (nh, wc, wd, cv, nI d, nI p, nI s, cc, lo, ho, xn, wa, go, pa, co, ca, wl, sk, ce, tx, cw, cp, cl, li, lc) ∧
    ((r = 0 ∧ cc = 0 ∧ v = (nh, wd, nI d, cc, lo, nI s, nI p, 0, yh, ho, yn, le, op, nn, pt, ce, sk, oq, cw, ya, cl, li, lc, tx)) ∨ (∃ f : Nat, 1 ≤ f ∧ f ≤ 5 ∧ r = nI f ∧ v = (nh, wd, nI d, cc, lo, nI s, nI p, 1, nI f, ho, yn, le, op, nn, pt, ce, sk, oq, cw, ya, cl, li, lc, tx)))
theorem rn_top {s d p l a m : Nat} {x y : Int32} (hF : fc_Fr W (k + 1) LL PP DD gw ga gb cw cp ya cl) (hk : k < 8) (ha : a ≤ LL (gw k)) (hx : x = nI (PP (gw k) a)) (hy : y = nI a)
    (hl : l = gb k + DD (gw k) a) (hl6 : l ≤ 6) (hs : s ≤ 300) (hd : d ≤ 12) (hp : p ≤ 7 * s) (h1 : fc_Sh sk) (h2 : fc_Sh ce) (h3 : fc_Sh li) (h4 : fc_Sh lc)
    (hm : 25 * (300 - s) + (fc_sm (fun f => LL (gw f) - ga f + 1) k + (LL (gw k) - a + 1)) ≤ m) :
    fc_Rn W LL PP DD nh wc wd cv yh ho xn wa go pa co ca wl yn le op nn pt oq m (nh, wc, wd, cv, nI d, nI p, nI s, nI (k + 1), nI l, ho, xn, wa, go, pa, co, ca, wl, sk, ce, tx, cw, upd cp k x, cl, li, lc) (nh, wd, nI d, nI (k + 1), nI l, nI s, nI p, 0, yh, ho, yn, le, op, nn, pt, ce, sk, oq, cw, upd ya k y, cl, li, lc, tx) :=
  ⟨k, s, d, p, l, gw, fc_set ga k a, fc_set gb (k + 1) (gb k + DD (gw k) a), sk, ce, tx, cw, upd cp k x, cl, li, lc, upd ya k y, rfl, rfl, hk, hs, hd, hp, hl.trans fc_set_s.symm, hl6, h1, h2, h3, h4, fr_top hF ha hx hy, by rw [fm_top]; exact hm⟩
/-- a turn -/
def fc_Tn (W : Nat) (LL : Nat → Nat) (PP DD : Nat → Nat → Nat) (nh wc wd cv yh : Int32) (ho xn wa go pa co ca wl yn le op nn pt oq : Nat → Int32) (m : Nat) (u : SX) (v : SY) : Prop :=
  (∃ (v' : SY) (n : Nat), n < m ∧ fc_Rn W LL PP DD nh wc wd cv yh ho xn wa go pa co ca wl yn le op nn pt oq n u v' ∧ (∀ q : SY → Prop, q v' → wpY_step q v)) ∨
  (∃ (r : Int32) (u' : SX) (v' : SY), (∀ p : Int32 → SX → Prop, p r u' → wpX_takeTurn p u) ∧ (∀ q : SY → Prop, q v' → wpY_step q v) ∧
    ((r = -1 ∧ ∃ n : Nat, n < m ∧ fc_Rn W LL PP DD nh wc wd cv yh ho xn wa go pa co ca wl yn le op nn pt oq n u' v') ∨ fc_Fn nh wc wd cv yh ho xn wa go pa co ca wl yn le op nn pt oq r u' v'))
theorem tn_go {m n : Nat} {u u' : SX} {v v' : SY} (h1 : ∀ p : Int32 → SX → Prop, p (-1) u' → wpX_takeTurn p u) (h2 : ∀ q : SY → Prop, q v' → wpY_step q v) (hn : n < m) (h3 : fc_Rn W LL PP DD nh wc wd cv yh ho xn wa go pa co ca wl yn le op nn pt oq n u' v') :
    fc_Tn W LL PP DD nh wc wd cv yh ho xn wa go pa co ca wl yn le op nn pt oq m u v := Or.inr ⟨-1, u', v', h1, h2, Or.inl ⟨rfl, n, hn, h3⟩⟩
/-- a call is over -/
theorem tn_pop {m s d p : Nat} {u : SX} {v : SY} (hF : fc_Fr W (k + 1) LL PP DD gw ga gb cw cp ya cl) (hk : k < 8) (hs : s ≤ 300) (hd : d ≤ 12) (hp : p ≤ 7 * s) (hl : gb (k + 1) ≤ 6) (a1 : fc_Sh sk) (a2 : fc_Sh ce) (a3 : fc_Sh li) (a4 : fc_Sh lc)
    (h1 : ∀ q : Int32 → SX → Prop, q (if k = 0 then 0 else (-1)) (nh, wc, wd, cv, nI d, nI p, nI s, nI k, cl k, ho, xn, wa, go, pa, co, ca, wl, sk, ce, tx, cw, cp, cl, li, lc) → wpX_takeTurn q u) (h2 : ∀ q : SY → Prop, q (nh, wd, nI d, nI k, cl k, nI s, nI p, 0, yh, ho, yn, le, op, nn, pt, ce, sk, oq, cw, ya, cl, li, lc, tx) → wpY_step q v)
    (hm : 25 * (300 - s) + fc_sm (fun f => LL (gw f) - ga f + 1) k < m) : fc_Tn W LL PP DD nh wc wd cv yh ho xn wa go pa co ca wl yn le op nn pt oq m u v := by
  obtain ⟨_, _, _, _, _, ec, eg⟩ := hF k (by omega)
  by_cases z : k = 0
  · rw [if_pos z] at h1
    exact Or.inr ⟨0, _, _, h1, h2, Or.inr ⟨s, d, p, nI k, cl k, sk, ce, tx, cw, cp, cl, li, lc, ya, hs, hd, hp, a1, a2, a3, a4, rfl, Or.inl ⟨rfl, by rw [z]; rfl, rfl⟩⟩⟩
  · rw [if_neg z] at h1
    obtain ⟨j, rfl⟩ : ∃ j, k = j + 1 := ⟨k - 1, by omega⟩
    refine tn_go h1 h2 hm ?_
    rw [ec]
    exact ⟨j, s, d, p, gb (j + 1), gw, ga, gb, sk, ce, tx, cw, cp, cl, li, lc, ya, rfl, rfl, by omega, hs, hd, hp, rfl, by omega, a1, a2, a3, a4, fr_pop hF, Nat.le_refl _⟩
theorem fc_turn {m : Nat} {u : SX} {v : SY} (hW : W ≤ 10) (hWs : fc_Words W LL PP DD le op nn pt wl co ca) (h : fc_Rn W LL PP DD nh wc wd cv yh ho xn wa go pa co ca wl yn le op nn pt oq m u v) :
    fc_Tn W LL PP DD nh wc wd cv yh ho xn wa go pa co ca wl yn le op nn pt oq m u v := by
  obtain ⟨k, s, d, p, l, gw, ga, gb, sk, ce, tx, cw, cp, cl, li, lc, ya, rfl, rfl, hk, hs, hd, hp, hl, hl6, a1, a2, a3, a4, hF, hm⟩ := h
  obtain ⟨w1, w2, e1, e2, e3, e4, e5⟩ := hF k (by omega)
  obtain ⟨l24, P0, D0, PL, el, ew, Pm, hT⟩ := hWs (gw k) w1
  rw [fc_sm_s] at hm
  have hw10 : gw k < 10 := by omega
  by_cases z : ga k = LL (gw k)
  · refine tn_pop (tx := tx) hF hk hs hd hp (by omega) a1 a2 a3 a4 (fun q hq => ?_) (fun q hq => ?_) (by omega)
    · exact xt_end hk hw10 e1 e2 ew (by rw [z]; exact Nat.le_refl _) (by have := Pm (ga k) w2; omega) hq
    · exact ys_end hk hw10 e1 e3 (by rw [z]; exact el) hq
  have hlt : ga k < LL (gw k) := by omega
  obtain ⟨c, t, c34, eo, hPi, hkp, hJ, h22, h30, h31, h32, hDn⟩ := hT (ga k) hlt
  rcases hkp with ⟨c56, hPs⟩ | ⟨hPs, hPlt, hco, hcaJ, hcaN⟩
  · -- Y passes a token that X has left out
    have hD := hDn (by omega) (by omega)
    refine Or.inl ⟨_, m - 1, by omega, ?_, fun q hq => ys_t0 hk hw10 e1 e3 el hlt l24 eo c56 hq⟩
    have R : fc_Rn W LL PP DD nh wc wd cv yh ho xn wa go pa co ca wl yn le op nn pt oq (m - 1) (nh, wc, wd, cv, nI d, nI p, nI s, nI (k + 1), nI l, ho, xn, wa, go, pa, co, ca, wl, sk, ce, tx, cw, upd cp k (nI (PP (gw k) (ga k))), cl, li, lc) (nh, wd, nI d, nI (k + 1), nI l, nI s, nI p, 0, yh, ho, yn, le, op, nn, pt, ce, sk, oq, cw, upd ya k (nI (ga k + 1)), cl, li, lc, tx) :=
      rn_top hF hk (a := ga k + 1) (by omega) (by rw [hPs]) rfl (by omega) hl6 hs hd hp a1 a2 a3 a4 (by omega)
    rw [fn_same e2] at R
    exact R
  by_cases c56 : c = 25 ∨ c = 26
  · have hD := hDn (by omega) (by omega)
    exact tn_go (n := m - 1) (fun q hq => xt_none hk hw10 e1 e2 ew hPlt (by omega) hco c56 hq) (fun q hq => ys_t0 hk hw10 e1 e3 el hlt l24 eo c56 hq) (by omega)
      (rn_top hF hk (a := ga k + 1) (by omega) (by rw [hPs]) rfl (by omega) hl6 hs hd hp a1 a2 a3 a4 (by omega))
  have hn : c ≠ 25 ∧ c ≠ 26 := by omega
  have F : (∃ r : Nat, 1 ≤ r ∧ r ≤ 5 ∧ (∀ q : Int32 → Prop, q (nI r) → wpX_findFault q (nh, wc, wd, cv, nI d, nI p, nI s, nI (k + 1), nI l, ho, xn, wa, go, pa, co, ca, wl, sk, ce, tx, cw, upd cp k (nI (PP (gw k) (ga k) + 1)), cl, li, lc) (nI c)) ∧
      (∀ q : Int32 → SY → Prop, q 0 (nh, wd, nI d, nI (k + 1), nI l, nI s, nI p, 1, nI r, ho, yn, le, op, nn, pt, ce, sk, oq, cw, ya, cl, li, lc, tx) → wpY_can q (nh, wd, nI d, nI (k + 1), nI l, nI s, nI p, 0, yh, ho, yn, le, op, nn, pt, ce, sk, oq, cw, ya, cl, li, lc, tx) (nI c))) ∨
    (s < 300 ∧ fc_need c ≤ d ∧ (c = 9 ∨ c = 10 → ¬ sk (d - 1) = 0) ∧ (fc_G c → d < 12) ∧ (c = 22 → k + 1 < 8) ∧ (c = 30 → l < 6) ∧
      (∀ q : Int32 → Prop, q 0 → wpX_findFault q (nh, wc, wd, cv, nI d, nI p, nI s, nI (k + 1), nI l, ho, xn, wa, go, pa, co, ca, wl, sk, ce, tx, cw, upd cp k (nI (PP (gw k) (ga k) + 1)), cl, li, lc) (nI c)) ∧
      (∀ q : Int32 → SY → Prop, q 1 (nh, wd, nI d, nI (k + 1), nI l, nI s, nI p, 0, yh, ho, yn, le, op, nn, pt, ce, sk, oq, cw, ya, cl, li, lc, tx) → wpY_can q (nh, wd, nI d, nI (k + 1), nI l, nI s, nI p, 0, yh, ho, yn, le, op, nn, pt, ce, sk, oq, cw, ya, cl, li, lc, tx) (nI c))) :=
    fc_fault c34 hn hd hs (by omega) hl6
  rcases F with ⟨r, r1, r5, fX, fY⟩ | ⟨s3, nd, nz, hG, hk8, hl5, fX, fY⟩
  · refine Or.inr ⟨nI r, _, _, fun q hq => xt_fault hk hw10 e1 e2 ew hPlt (by omega) hco ⟨c34, hn⟩ ⟨r1, r5⟩ fX hq, fun q hq => ys_fault hk hw10 e1 e3 el hlt l24 eo fY hq, Or.inr ?_⟩
    exact ⟨s, d, p, nI (k + 1), nI l, sk, ce, tx, cw, _, cl, li, lc, ya, hs, hd, hp, a1, a2, a3, a4, rfl, Or.inr ⟨r, r1, r5, rfl, rfl⟩⟩
  have hi : 24 * gw k + ga k < 240 := by omega
  by_cases c22 : c < 22
  · -- stack, cells, text
    have hJn : ¬ fc_J c := by unfold fc_J; omega
    have hD := hDn (by omega) (by omega)
    have K : ∃ (d' p' : Nat) (sk' ce' tx' : Nat → Int32), d' ≤ 12 ∧ p' ≤ p + 7 ∧ fc_Sh sk' ∧ fc_Sh ce' ∧
      fc_Do c (nn (24 * gw k + ga k)) (nh, wc, wd, cv, nI d, nI p, nI (s + 1), nI (k + 1), nI l, ho, xn, wa, go, pa, co, ca, wl, sk, ce, tx, cw, upd cp k (nI (PP (gw k) (ga k) + 1)), cl, li, lc) (nh, wd, nI d, nI (k + 1), nI l, nI (s + 1), nI p, 0, yh, ho, yn, le, op, nn, pt, ce, sk, oq, cw, upd ya k (nI (ga k + 1)), cl, li, lc, tx)
        (nh, wc, wd, cv, nI d', nI p', nI (s + 1), nI (k + 1), nI l, ho, xn, wa, go, pa, co, ca, wl, sk', ce', tx', cw, upd cp k (nI (PP (gw k) (ga k) + 1)), cl, li, lc) (nh, wd, nI d', nI (k + 1), nI l, nI (s + 1), nI p', 0, yh, ho, yn, le, op, nn, pt, ce', sk', oq, cw, upd ya k (nI (ga k + 1)), cl, li, lc, tx') :=
      fw_all c22 hd nd hG nz a1 a2 (by omega)
    obtain ⟨d', p', sk', ce', tx', b1, b2, b3, b4, kX, kY⟩ := K
    refine tn_go (n := m - 1) (fun q hq => xt_exec hk hw10 e1 e2 ew hPlt (by omega) hco ⟨c34, hn⟩ fX (fun P hP => ?_) hq) (fun q hq => ys_t1 hk hw10 e1 e3 el hlt l24 eo ⟨c34, hn⟩ fY (ys_work hi (by omega) kY hq)) (by omega)
      (rn_top hF hk (a := ga k + 1) (by omega) (by rw [hPs]) rfl (by omega) hl6 (by omega) b1 (by omega) b3 b4 a3 a4 (by omega))
    rw [hcaN hJn]
    exact kX P hP
  -- the others: from fc_Go to a turn
  have G : ∀ {r : Int32} {u' : SX} {v' : SY}, fc_Go c (ca (24 * gw k + PP (gw k) (ga k))) (nn (24 * gw k + ga k)) (pt (24 * gw k + ga k)) (nh, wc, wd, cv, nI d, nI p, nI (s + 1), nI (k + 1), nI l, ho, xn, wa, go, pa, co, ca, wl, sk, ce, tx, cw, upd cp k (nI (PP (gw k) (ga k) + 1)), cl, li, lc) (nh, wd, nI d, nI (k + 1), nI l, nI (s + 1), nI p, 0, yh, ho, yn, le, op, nn, pt, ce, sk, oq, cw, upd ya k (nI (ga k + 1)), cl, li, lc, tx) r u' v' →
      (∀ q : Int32 → SX → Prop, q r u' → wpX_takeTurn q (nh, wc, wd, cv, nI d, nI p, nI s, nI (k + 1), nI l, ho, xn, wa, go, pa, co, ca, wl, sk, ce, tx, cw, cp, cl, li, lc)) ∧ (∀ q : SY → Prop, q v' → wpY_step q (nh, wd, nI d, nI (k + 1), nI l, nI s, nI p, 0, yh, ho, yn, le, op, nn, pt, ce, sk, oq, cw, ya, cl, li, lc, tx)) := by
    intro r u' v' g
    exact ⟨fun q hq => xt_exec hk hw10 e1 e2 ew hPlt (by omega) hco ⟨c34, hn⟩ fX (fun P hP => g.1 P hP) hq, fun q hq => ys_t1 hk hw10 e1 e3 el hlt l24 eo ⟨c34, hn⟩ fY (ys_go hi (by omega) g.2 hq)⟩
  by_cases c2 : c = 22
  · subst c2
    have hJn : ¬ fc_J 22 := by unfold fc_J; omega
    have hD := hDn (by omega) (by omega)
    obtain ⟨n, hn1, hn2⟩ := h22 rfl
    have ear : ca (24 * gw k + PP (gw k) (ga k)) = nI n := by rw [hcaN hJn, hn2]; exact fn_sm n (by omega)
    obtain ⟨_, Q0, E0, _, _, _, _, _⟩ := hWs n (by omega)
    rw [ear, hn2] at G
    obtain ⟨gX, gY⟩ := G (fg_22 (k := k) (hk8 rfl))
    refine tn_go (n := m - 1) gX gY (by omega) ?_
    have F1 := fr_top hF (a := ga k + 1) (by omega) (x := nI (PP (gw k) (ga k) + 1)) (y := nI (ga k + 1)) (by rw [hPs]) rfl
    have eg : fc_set gb (k + 1) (gb k + DD (gw k) (ga k + 1)) (k + 1) = l := by rw [fc_set_s]; omega
    have F2 := fr_begin F1 (w := n) (by omega) Q0 E0 (x := nI l) (by rw [eg])
    have F3 : fc_sm (fun f => LL (fc_set gw (k + 1) n f) - fc_set (fc_set ga k (ga k + 1)) (k + 1) 0 f + 1) (k + 1 + 1) = fc_sm (fun f => LL (gw f) - ga f + 1) k + (LL (gw k) - (ga k + 1) + 1) + (LL n + 1) := by rw [fm_begin, fm_top]
    obtain ⟨n24, _⟩ := hWs n (by omega)
    exact ⟨k + 1, s + 1, d, p, l, _, _, _, sk, ce, tx, _, _, _, li, lc, _, rfl, rfl, hk8 rfl, by omega, hd, by omega, by rw [fc_set_s]; exact eg.symm, hl6, a1, a2, a3, a4, F2, by rw [F3]; omega⟩
  by_cases cI : c = 23 ∨ c = 27 ∨ c = 28
  · have hJ1 : fc_J c := by unfold fc_J; omega
    obtain ⟨j1, j2, j3⟩ := hJ hJ1
    have hD := hDn (by omega) (by omega)
    have n1 : fc_need c = 1 := fc_e1 (by unfold fc_N1; omega)
    obtain ⟨e, rfl⟩ : ∃ e, d = e + 1 := ⟨d - 1, by omega⟩
    rw [hcaJ hJ1, j1] at G
    by_cases z0 : sk e = 0
    · obtain ⟨gX, gY⟩ := G (fg_if0 (k := k) (d := e) cI hk (by omega) z0)
      refine tn_go (n := m - 1) gX gY (by omega) ?_
      rw [fn_uu, fn_uu, nI_1]
      exact rn_top hF hk (a := t + 1) (by omega) rfl rfl (by omega) hl6 (by omega) (by omega) (by omega) a1 a2 a3 a4 (by omega)
    · obtain ⟨gX, gY⟩ := G (fg_if1 (k := k) (d := e) cI hk (by omega) z0)
      refine tn_go (n := m - 1) gX gY (by omega) ?_
      exact rn_top hF hk (a := ga k + 1) (by omega) (by rw [hPs]) rfl (by omega) hl6 (by omega) (by omega) (by omega) a1 a2 a3 a4 (by omega)
  by_cases cE : c = 24 ∨ c = 29
  · have hJ1 : fc_J c := by unfold fc_J; omega
    obtain ⟨j1, j2, j3⟩ := hJ hJ1
    rw [hcaJ hJ1, j1] at G
    obtain ⟨gX, gY⟩ := G (fg_jump (k := k) cE hk)
    refine tn_go (n := m - 1) gX gY (by omega) ?_
    rw [fn_uu, fn_uu, nI_1]
    exact rn_top hF hk (a := t + 1) (by omega) rfl rfl (by omega) hl6 (by omega) hd (by omega) a1 a2 a3 a4 (by omega)
  have cr : c = 30 ∨ c = 31 ∨ c = 32 ∨ c = 33 := by omega
  rcases cr with rfl | rfl | rfl | rfl
  · -- DO
    have hD := h30 rfl
    have n2 : fc_need 30 = 2 := fc_e2 (by unfold fc_N2; omega)
    obtain ⟨e, rfl⟩ : ∃ e, d = e + 2 := ⟨d - 2, by omega⟩
    obtain ⟨gX, gY⟩ := G (fg_30 (d := e) (l := l) (by omega) (hl5 rfl) a1)
    refine tn_go (n := m - 1) gX gY (by omega) ?_
    exact rn_top hF hk (a := ga k + 1) (by omega) (by rw [hPs]) rfl (by omega) (by have := hl5 rfl; omega) (by omega) (by omega) (by omega) a1 a2 (fc_Sh_u a3 (a1 _)) (fc_Sh_u a4 (a1 _)) (by omega)
  · -- LOOP
    have hD := h31 rfl
    have hJ1 : fc_J 31 := by unfold fc_J; omega
    obtain ⟨j1, j2, j3⟩ := hJ hJ1
    rw [hcaJ hJ1, j1] at G
    obtain ⟨y, ey⟩ : ∃ y, l = y + 1 := ⟨l - 1, by omega⟩
    subst ey
    by_cases z0 : lw_i16 (lc y + 1) = li y
    · obtain ⟨gX, gY⟩ := G (fg_31e (k := k) (l := y) hk (by omega) z0)
      refine tn_go (n := m - 1) gX gY (by omega) ?_
      exact rn_top hF hk (a := ga k + 1) (by omega) (by rw [hPs]) rfl (by omega) (by omega) (by omega) hd (by omega) a1 a2 a3 (fc_Sh_u a4 (fn_ii _)) (by omega)
    · obtain ⟨gX, gY⟩ := G (fg_31n (k := k) (l := y) hk (by omega) z0)
      refine tn_go (n := m - 1) gX gY (by omega) ?_
      rw [fn_uu, fn_uu, nI_1]
      exact rn_top hF hk (a := t + 1) (by omega) rfl rfl (by omega) hl6 (by omega) hd (by omega) a1 a2 a3 (fc_Sh_u a4 (fn_ii _)) (by omega)
  · -- I
    have hD := hDn (by omega) (by omega)
    have h1 := h32 rfl
    obtain ⟨y, ey⟩ : ∃ y, l = y + 1 := ⟨l - 1, by omega⟩
    subst ey
    have g := hG (by unfold fc_G; omega)
    obtain ⟨gX, gY⟩ := G (fg_32 (d := d) (l := y) g (by omega))
    refine tn_go (n := m - 1) gX gY (by omega) ?_
    exact rn_top hF hk (a := ga k + 1) (by omega) (by rw [hPs]) rfl (by omega) hl6 (by omega) (by omega) (by omega) (fc_Sh_u a1 (fn_ii _)) a2 a3 a4 (by omega)
  · -- EXIT
    obtain ⟨gX, gY⟩ := G (fg_33 (k := k) hk)
    have F1 : fc_Fr W (k + 1) LL PP DD gw ga gb cw cp ya cl := hF
    refine tn_pop (tx := tx) (cp := upd cp k (nI (PP (gw k) (ga k) + 1))) (ya := upd ya k (nI (ga k + 1))) (ga := fc_set ga k (ga k + 1)) (gb := fc_set gb (k + 1) (gb k + DD (gw k) (ga k + 1))) (fr_top hF (a := ga k + 1) (by omega) (by rw [hPs]) rfl) hk (by omega) hd (by omega) ?_ a1 a2 a3 a4 gX gY ?_
    · have hD := hDn (by omega) (by omega)
      rw [fc_set_s]
      omega
    · have E : fc_sm (fun f => LL (gw f) - fc_set ga k (ga k + 1) f + 1) k = fc_sm (fun f => LL (gw f) - ga f + 1) k := fc_sm_c k (fun f hf => by show LL (gw f) - fc_set ga k (ga k + 1) f + 1 = _; rw [fc_set_n (by omega)])
      rw [E]
      omega
end RN
