/-! which numbers an op needs, whether it grows the stack; the faults, in lockstep -/
def fc_G (c : Nat) : Prop := c = 0 ∨ c = 1 ∨ c = 4 ∨ c = 32
def fc_B (c : Nat) : Prop := (6 ≤ c ∧ c ≤ 12) ∨ (14 ≤ c ∧ c ≤ 16)
def fc_A (c : Nat) : Prop := c = 13 ∨ (17 ≤ c ∧ c ≤ 19)
def fc_N2 (c : Nat) : Prop := c = 3 ∨ c = 4 ∨ (6 ≤ c ∧ c ≤ 12) ∨ (14 ≤ c ∧ c ≤ 16) ∨ c = 20 ∨ c = 30
def fc_N1 (c : Nat) : Prop := c = 1 ∨ c = 2 ∨ c = 13 ∨ (17 ≤ c ∧ c ≤ 19) ∨ c = 21 ∨ c = 23 ∨ c = 27 ∨ c = 28
def fc_need (c : Nat) : Nat := if c = 5 then 3 else if c = 3 ∨ c = 4 ∨ (6 ≤ c ∧ c ≤ 12) ∨ (14 ≤ c ∧ c ≤ 16) ∨ c = 20 ∨ c = 30 then 2 else
  if c = 1 ∨ c = 2 ∨ c = 13 ∨ (17 ≤ c ∧ c ≤ 19) ∨ c = 21 ∨ c = 23 ∨ c = 27 ∨ c = 28 then 1 else 0
theorem fc_e3 {c : Nat} (z : c = 5) : fc_need c = 3 := if_pos z
theorem fc_e2 {c : Nat} (z : fc_N2 c) : fc_need c = 2 := by
  unfold fc_N2 at z
  unfold fc_need
  rw [if_neg (by omega), if_pos z]
theorem fc_e1 {c : Nat} (z : fc_N1 c) : fc_need c = 1 := by
  unfold fc_N1 at z
  unfold fc_need
  rw [if_neg (by omega), if_neg (by omega), if_pos z]
theorem fc_e0 {c : Nat} (z : c ≠ 5 ∧ ¬ fc_N2 c ∧ ¬ fc_N1 c) : fc_need c = 0 := by
  unfold fc_N2 fc_N1 at z
  unfold fc_need
  rw [if_neg z.1, if_neg z.2.1, if_neg z.2.2]
theorem fc_n3 {p : Int32 → Prop} {c : Nat} (h : p (nI (fc_need c))) (z : c = 5) : p 3 := by rw [fc_e3 z] at h; exact h
theorem fc_n2 {p : Int32 → Prop} {c : Nat} (h : p (nI (fc_need c))) (z : fc_N2 c) : p 2 := by rw [fc_e2 z] at h; exact h
theorem fc_n1 {p : Int32 → Prop} {c : Nat} (h : p (nI (fc_need c))) (z : fc_N1 c) : p 1 := by rw [fc_e1 z] at h; exact h
theorem fc_n0 {p : Int32 → Prop} {c : Nat} (h : p (nI (fc_need c))) (z : c ≠ 5 ∧ ¬ fc_N2 c ∧ ¬ fc_N1 c) : p 0 := by rw [fc_e0 z] at h; exact h
theorem xq_jt {p : Int32 → Prop} {c : Nat} (hc : c < 34) (hj : fc_B c) (h : p 1) : wpX_joinsTwo p (nI c) := by
  unfold fc_B at hj
  have K : (14 ≤ c ∧ c ≤ 16) → wX_joinsTwo_12 p (nI c) := fun z => pk_lt c 14 (fun y => absurd y (by omega)) (fun _ => pk_lt 16 c (fun y => absurd y (by omega)) (fun _ => h))
  exact pk_lt c 6 (fun z => K (by omega)) (fun z => pk_le c 12 (fun _ => h) (fun y => K (by omega)))
theorem xq_jf {p : Int32 → Prop} {c : Nat} (hc : c < 34) (hj : ¬ fc_B c) (h : p 0) : wpX_joinsTwo p (nI c) := by
  unfold fc_B at hj
  have K : wX_joinsTwo_12 p (nI c) := pk_lt c 14 (fun _ => h) (fun y => pk_lt 16 c (fun _ => h) (fun w => absurd hj (by omega)))
  exact pk_lt c 6 (fun z => K) (fun z => pk_le c 12 (fun w => absurd hj (by omega)) (fun y => K))
theorem xq_at {p : Int32 → Prop} {c : Nat} (hc : c < 34) (hj : fc_A c) (h : p 1) : wpX_altersOne p (nI c) := by
  unfold fc_A at hj
  exact pk_eq c 13 (fun _ => h) (fun z => pk_lt c 17 (fun y => absurd y (by omega)) (fun _ => pk_lt 19 c (fun y => absurd y (by omega)) (fun _ => h)))
theorem xq_af {p : Int32 → Prop} {c : Nat} (hc : c < 34) (hj : ¬ fc_A c) (h : p 0) : wpX_altersOne p (nI c) := by
  unfold fc_A at hj
  exact pk_eq c 13 (fun w => absurd hj (by omega)) (fun z => pk_lt c 17 (fun _ => h) (fun y => pk_lt 19 c (fun _ => h) (fun w => absurd hj (by omega))))
theorem xq_gt {p : Int32 → Prop} {c : Nat} (hc : c < 34) (hj : fc_G c) (h : p 1) : wpX_growsStack p (nI c) := by
  unfold fc_G at hj
  exact pk_eq c 0 (fun _ => h) (fun _ => pk_eq c 1 (fun _ => h) (fun _ => pk_eq c 4 (fun _ => h) (fun _ => pk_eq c 32 (fun _ => h) (fun _ => absurd hj (by omega)))))
theorem xq_gf {p : Int32 → Prop} {c : Nat} (hc : c < 34) (hj : ¬ fc_G c) (h : p 0) : wpX_growsStack p (nI c) := by
  unfold fc_G at hj
  exact pk_eq c 0 (fun w => absurd hj (by omega)) (fun _ => pk_eq c 1 (fun w => absurd hj (by omega)) (fun _ => pk_eq c 4 (fun w => absurd hj (by omega)) (fun _ => pk_eq c 32 (fun w => absurd hj (by omega)) (fun _ => h))))
theorem xq_142 {p : Int32 → Prop} {c : Nat} (hc : c < 34) (hs : c ≠ 1 ∧ c ≠ 2 ∧ c ≠ 3 ∧ c ≠ 4 ∧ c ≠ 5 ∧ c ≠ 20 ∧ c ≠ 21 ∧ c ≠ 23 ∧ c ≠ 27 ∧ c ≠ 28 ∧ c ≠ 30) (h : p (nI (fc_need c))) : wX_numbersTaken_142 p (nI c) := by
  unfold wX_numbersTaken_142
  by_cases b : fc_B c
  · exact xq_jt hc b (br_f fn_10 (fc_n2 h (by unfold fc_B at b; unfold fc_N2; omega)))
  · by_cases a : fc_A c
    · exact xq_jf hc b (br_t rfl (xq_at hc a (br_f fn_10 (fc_n1 h (by unfold fc_A at a; unfold fc_N1; omega)))))
    · exact xq_jf hc b (br_t rfl (xq_af hc a (br_t rfl (fc_n0 h (by unfold fc_A at a; unfold fc_B at b; unfold fc_N1 fc_N2; omega)))))
theorem xq_need {p : Int32 → Prop} {c : Nat} (hc : c < 34) (h : p (nI (fc_need c))) : wpX_numbersTaken p (nI c) := by
  have K := xq_142 (p := p) hc
  have h1 : fc_N1 c → p 1 := fc_n1 h
  have h2 : fc_N2 c → p 2 := fc_n2 h
  have h3 : c = 5 → p 3 := fc_n3 h
  unfold fc_N1 at h1
  unfold fc_N2 at h2
  exact pk_lt c 1 (fun z => K (by omega) h) (fun z => pk_lt 30 c (fun z => K (by omega) h) (fun z => pk_eq c 1 (fun z => h1 (by omega)) (fun z1 => pk_eq c 2 (fun z => h1 (by omega)) (fun z2 => pk_eq c 3 (fun z => h2 (by omega)) (fun z3 => pk_eq c 4 (fun z => h2 (by omega)) (fun z4 => pk_eq c 5 (fun z => h3 z) (fun z5 => pk_eq c 6 (fun z => K (by omega) h) (fun z6 => pk_eq c 7 (fun z => K (by omega) h) (fun z7 => pk_eq c 8 (fun z => K (by omega) h) (fun z8 => pk_eq c 9 (fun z => K (by omega) h) (fun z9 => pk_eq c 10 (fun z => K (by omega) h) (fun z10 => pk_eq c 11 (fun z => K (by omega) h) (fun z11 => pk_eq c 12 (fun z => K (by omega) h) (fun z12 => pk_eq c 13 (fun z => K (by omega) h) (fun z13 => pk_eq c 14 (fun z => K (by omega) h) (fun z14 => pk_eq c 15 (fun z => K (by omega) h) (fun z15 => pk_eq c 16 (fun z => K (by omega) h) (fun z16 => pk_eq c 17 (fun z => K (by omega) h) (fun z17 => pk_eq c 18 (fun z => K (by omega) h) (fun z18 => pk_eq c 19 (fun z => K (by omega) h) (fun z19 => pk_eq c 20 (fun z => h2 (by omega)) (fun z20 => pk_eq c 21 (fun z => h1 (by omega)) (fun z21 => pk_eq c 22 (fun z => K (by omega) h) (fun z22 => pk_eq c 23 (fun z => h1 (by omega)) (fun z23 => pk_eq c 24 (fun z => K (by omega) h) (fun z24 => pk_eq c 25 (fun z => K (by omega) h) (fun z25 => pk_eq c 26 (fun z => K (by omega) h) (fun z26 => pk_eq c 27 (fun z => h1 (by omega)) (fun z27 => pk_eq c 28 (fun z => h1 (by omega)) (fun z28 => pk_eq c 29 (fun z => K (by omega) h) (fun z29 => pk_eq c 30 (fun z => h2 (by omega)) (fun z30 => trivial))))))))))))))))))))))))))))))))
section FL
variable {nh wc wd cv sd pr st cc lo ov yh : Int32} {ho xn wa go pa co ca wl sk ce tx cw cp cl li lc yn le op nn pt oq ya : Nat → Int32}
theorem yq_in {p : Int32 → Prop} {c : Nat} (a b : Nat) (hc : c < 2 ^ 31) (ha : a < 2 ^ 31) (hb : b < 2 ^ 31) (f : a ≤ c ∧ c ≤ b → p 1) (g : c < a ∨ b < c → p 0) : wpY_in p (nh, wd, sd, cc, lo, st, pr, ov, yh, ho, yn, le, op, nn, pt, ce, sk, oq, cw, ya, cl, li, lc, tx) (nI c) (nI a) (nI b) :=
  pk_lt c a (fun z => g (Or.inl z)) (fun z => pk_lt b c (fun y => g (Or.inr y)) (fun y => f ⟨z, y⟩))
theorem yq_need {p : Int32 → Prop} {c : Nat} (hc : c < 34) (h : p (nI (fc_need c))) : wpY_needs p (nh, wd, sd, cc, lo, st, pr, ov, yh, ho, yn, le, op, nn, pt, ce, sk, oq, cw, ya, cl, li, lc, tx) (nI c) := by
  have h1 : fc_N1 c → p 1 := fc_n1 h
  have h2 : fc_N2 c → p 2 := fc_n2 h
  have h3 : c = 5 → p 3 := fc_n3 h
  have h0 : (c ≠ 5 ∧ ¬ fc_N2 c ∧ ¬ fc_N1 c) → p 0 := fc_n0 h
  unfold fc_N1 at h1 h0
  unfold fc_N2 at h2 h0
  unfold wpY_needs
  refine pk_eq c 5 h3 (fun z5 => pk_eq c 3 (fun z => h2 (by omega)) (fun z3 => pk_eq c 4 (fun z => h2 (by omega)) (fun z4 => ?_)))
  refine yq_in 6 12 (by omega) (by omega) (by omega) (fun z => br_f fn_10 (h2 (by omega))) (fun z6 => br_t rfl ?_)
  refine yq_in 14 16 (by omega) (by omega) (by omega) (fun z => br_f fn_10 (h2 (by omega))) (fun z14 => br_t rfl ?_)
  refine pk_eq c 20 (fun z => h2 (by omega)) (fun z20 => pk_eq c 30 (fun z => h2 (by omega)) (fun z30 => pk_eq c 1 (fun z => h1 (by omega)) (fun z1 => pk_eq c 2 (fun z => h1 (by omega)) (fun z2 => pk_eq c 13 (fun z => h1 (by omega)) (fun z13 => ?_)))))
  refine yq_in 17 19 (by omega) (by omega) (by omega) (fun z => br_f fn_10 (h1 (by omega))) (fun z17 => br_t rfl ?_)
  exact pk_eq c 21 (fun z => h1 (by omega)) (fun z21 => pk_eq c 23 (fun z => h1 (by omega)) (fun z23 => pk_eq c 27 (fun z => h1 (by omega)) (fun z27 => pk_eq c 28 (fun z => h1 (by omega)) (fun z28 => h0 (by omega)))))
theorem yq_gt {p : Int32 → Prop} {c : Nat} (hc : c < 34) (hj : fc_G c) (h : p 1) : wpY_grows p (nh, wd, sd, cc, lo, st, pr, ov, yh, ho, yn, le, op, nn, pt, ce, sk, oq, cw, ya, cl, li, lc, tx) (nI c) := by
  unfold fc_G at hj
  exact pk_eq c 0 (fun _ => h) (fun _ => pk_eq c 1 (fun _ => h) (fun _ => pk_eq c 4 (fun _ => h) (fun _ => pk_eq c 32 (fun _ => h) (fun _ => absurd hj (by omega)))))
theorem yq_gf {p : Int32 → Prop} {c : Nat} (hc : c < 34) (hj : ¬ fc_G c) (h : p 0) : wpY_grows p (nh, wd, sd, cc, lo, st, pr, ov, yh, ho, yn, le, op, nn, pt, ce, sk, oq, cw, ya, cl, li, lc, tx) (nI c) := by
  unfold fc_G at hj
  exact pk_eq c 0 (fun w => absurd hj (by omega)) (fun _ => pk_eq c 1 (fun w => absurd hj (by omega)) (fun _ => pk_eq c 4 (fun w => absurd hj (by omega)) (fun _ => pk_eq c 32 (fun w => absurd hj (by omega)) (fun _ => h))))
/-! X's faults -/
section FX
variable {p : Int32 → Prop} {c d s k l : Nat}
theorem xf_88 (hc : c < 34) (hl : l ≤ 6) (f : (c = 30 → l < 6) → p 0) (g : c = 30 → l = 6 → p 5) : wX_findFault_88 p (nI c) nh wc wd cv (nI d) pr (nI s) (nI k) (nI l) ho xn wa go pa co ca wl sk ce tx cw cp cl li lc :=
  pk_eq c 30 (fun z => pk_lt l 6 (fun y => f (fun _ => y)) (fun y => g z (by omega))) (fun z => f (fun y => absurd y z))
theorem xf_71 (hc : c < 34) (hk : k ≤ 8) (hl : l ≤ 6) (f : (c = 22 → k < 8) → (c = 30 → l < 6) → p 0) (g : (c = 22 ∧ k = 8) ∨ (c = 30 ∧ l = 6) → p 5) : wX_findFault_71 p (nI c) nh wc wd cv (nI d) pr (nI s) (nI k) (nI l) ho xn wa go pa co ca wl sk ce tx cw cp cl li lc :=
  pk_eq c 22 (fun z => pk_lt k 8 (fun y => xf_88 hc hl (fun w => f (fun _ => y) w) (fun a b => g (Or.inr ⟨a, b⟩))) (fun y => g (Or.inl ⟨z, by omega⟩)))
    (fun z => xf_88 hc hl (fun w => f (fun y => absurd y z) w) (fun a b => g (Or.inr ⟨a, b⟩)))
theorem xf_53 (hc : c < 34) (hd : d ≤ 12) (hk : k ≤ 8) (hl : l ≤ 6) (f : (fc_G c → d < 12) → (c = 22 → k < 8) → (c = 30 → l < 6) → p 0) (g : (c = 22 ∧ k = 8) ∨ (c = 30 ∧ l = 6) → p 5) (i : fc_G c → d = 12 → p 4) :
    wX_findFault_53 p (nI c) nh wc wd cv (nI d) pr (nI s) (nI k) (nI l) ho xn wa go pa co ca wl sk ce tx cw cp cl li lc := by
  unfold wX_findFault_53
  by_cases G : fc_G c
  · exact xq_gt hc G (br_f fn_10 (pk_lt d 12 (fun y => xf_71 hc hk hl (f (fun _ => y)) g) (fun y => i G (by omega))))
  · exact xq_gf hc G (br_t rfl (xf_71 hc hk hl (f (fun y => absurd y G)) g))
theorem xf_37 (hc : c < 34) (h2 : 1 ≤ d) (hd : d ≤ 12) (hk : k ≤ 8) (hl : l ≤ 6) (f : ¬ sk (d - 1) = 0 → wX_findFault_53 p (nI c) nh wc wd cv (nI d) pr (nI s) (nI k) (nI l) ho xn wa go pa co ca wl sk ce tx cw cp cl li lc) (g : sk (d - 1) = 0 → p 3) :
    wX_findFault_37 p (nI c) nh wc wd cv (nI d) pr (nI s) (nI k) (nI l) ho xn wa go pa co ca wl sk ce tx cw cp cl li lc := by
  obtain ⟨e, rfl⟩ : ∃ e, d = e + 1 := ⟨d - 1, by omega⟩
  have w : vp_in (nI (e + 1) - 1) 12 := by rw [nI_pred]; exact vp_in_nI (by omega) (by omega)
  have q : (nI (e + 1) - 1).toNatClampNeg = e := by rw [nI_pred]; exact nI_clamp (by omega)
  refine ⟨w, ?_⟩
  rw [q]
  exact br_c g f
theorem xf_F (hc : c < 34) (hd : d ≤ 12) (hs : s ≤ 300) (hk : k ≤ 8) (hl : l ≤ 6)
    (f : s < 300 → fc_need c ≤ d → (c = 9 ∨ c = 10 → ¬ sk (d - 1) = 0) → (fc_G c → d < 12) → (c = 22 → k < 8) → (c = 30 → l < 6) → p 0)
    (g1 : s = 300 → p 1) (g2 : s < 300 → d < fc_need c → p 2) (g3 : s < 300 → fc_need c ≤ d → (c = 9 ∨ c = 10) → sk (d - 1) = 0 → p 3)
    (g4 : s < 300 → fc_need c ≤ d → (c = 9 ∨ c = 10 → ¬ sk (d - 1) = 0) → fc_G c → d = 12 → p 4)
    (g5 : s < 300 → fc_need c ≤ d → (c = 9 ∨ c = 10 → ¬ sk (d - 1) = 0) → (fc_G c → d < 12) → (c = 22 ∧ k = 8) ∨ (c = 30 ∧ l = 6) → p 5) :
    wpX_findFault p (nh, wc, wd, cv, nI d, pr, nI s, nI k, nI l, ho, xn, wa, go, pa, co, ca, wl, sk, ce, tx, cw, cp, cl, li, lc) (nI c) := by
  have hN : fc_need c ≤ 3 := by unfold fc_need; split <;> (try split) <;> (try split) <;> omega
  refine pk_lt s 300 (fun h1 => xq_need hc (pk_le (fc_need c) d (fun h2 => ?_) (fun h2 => g2 h1 h2))) (fun h1 => g1 (by omega))
  have K : ∀ z : (c = 9 ∨ c = 10 → ¬ sk (d - 1) = 0), wX_findFault_53 p (nI c) nh wc wd cv (nI d) pr (nI s) (nI k) (nI l) ho xn wa go pa co ca wl sk ce tx cw cp cl li lc := by
    intro z
    by_cases G : fc_G c ∧ d = 12
    · exact xf_53 hc hd hk hl (fun a _ _ => absurd (a G.1) (by omega)) (fun y => absurd G.1 (by unfold fc_G; omega)) (fun a b => g4 h1 h2 z a b)
    · have G' : fc_G c → d < 12 := fun y => by
        have : ¬ d = 12 := fun w => G ⟨y, w⟩
        omega
      exact xf_53 hc hd hk hl (fun a b w => f h1 h2 z a b w) (fun y => g5 h1 h2 z G' y) (fun a b => absurd ⟨a, b⟩ G)
  have D : (c = 9 ∨ c = 10) → 1 ≤ d := fun z => by
    have := fc_e2 (c := c) (by unfold fc_N2; omega)
    omega
  refine pk_eq c 9 (fun z => xf_37 hc (D (Or.inl z)) hd hk hl (fun y => K (fun _ => y)) (fun y => g3 h1 h2 (Or.inl z) y)) (fun z => ?_)
  exact pk_eq c 10 (fun w => xf_37 hc (D (Or.inr w)) hd hk hl (fun y => K (fun _ => y)) (fun y => g3 h1 h2 (Or.inr w) y)) (fun w => K (fun y => absurd y (by omega)))
end FX
/-! Y's faults -/
section FY
variable {q : Int32 → SY → Prop} {c d s k l : Nat}
theorem yf_E {r : Nat} (h : q 0 (nh, wd, sd, cc, lo, st, pr, 1, nI r, ho, yn, le, op, nn, pt, ce, sk, oq, cw, ya, cl, li, lc, tx)) : wY_can_146 q nh wd sd cc lo st pr 1 (nI r) ho yn le op nn pt ce sk oq cw ya cl li lc tx := br_f fn_10 h
theorem yf_0 (h : q 1 (nh, wd, sd, cc, lo, st, pr, 0, yh, ho, yn, le, op, nn, pt, ce, sk, oq, cw, ya, cl, li, lc, tx)) : wY_can_146 q nh wd sd cc lo st pr 0 yh ho yn le op nn pt ce sk oq cw ya cl li lc tx := br_t rfl h
theorem yf_111 (hc : c < 34) (hk : k ≤ 8) (hl : l ≤ 6) (f : (c = 22 → k < 8) → (c = 30 → l < 6) → q 1 (nh, wd, nI d, nI k, nI l, nI s, pr, 0, yh, ho, yn, le, op, nn, pt, ce, sk, oq, cw, ya, cl, li, lc, tx)) (g : (c = 22 ∧ k = 8) ∨ (c = 30 ∧ l = 6) → q 0 (nh, wd, nI d, nI k, nI l, nI s, pr, 1, nI 5, ho, yn, le, op, nn, pt, ce, sk, oq, cw, ya, cl, li, lc, tx)) :
    wY_can_111 q (nI c) nh wd (nI d) (nI k) (nI l) (nI s) pr 0 yh ho yn le op nn pt ce sk oq cw ya cl li lc tx := by
  have K : (c = 22 → k < 8) → wY_can_126 q (nI c) nh wd (nI d) (nI k) (nI l) (nI s) pr 0 yh ho yn le op nn pt ce sk oq cw ya cl li lc tx := fun w =>
    pk_eq c 30 (fun z => pk_eq l 6 (fun y => yf_E (g (Or.inr ⟨z, y⟩))) (fun y => yf_0 (f w (fun _ => by omega)))) (fun z => yf_0 (f w (fun y => absurd y z)))
  exact pk_eq c 22 (fun z => pk_eq k 8 (fun y => yf_E (g (Or.inl ⟨z, y⟩))) (fun y => K (fun _ => by omega))) (fun z => K (fun y => absurd y z))
theorem yf_86 (hc : c < 34) (hd : d ≤ 12) (hk : k ≤ 8) (hl : l ≤ 6) (f : (fc_G c → d < 12) → (c = 22 → k < 8) → (c = 30 → l < 6) → q 1 (nh, wd, nI d, nI k, nI l, nI s, pr, 0, yh, ho, yn, le, op, nn, pt, ce, sk, oq, cw, ya, cl, li, lc, tx)) (g : (fc_G c → d < 12) → (c = 22 ∧ k = 8) ∨ (c = 30 ∧ l = 6) → q 0 (nh, wd, nI d, nI k, nI l, nI s, pr, 1, nI 5, ho, yn, le, op, nn, pt, ce, sk, oq, cw, ya, cl, li, lc, tx))
    (i : fc_G c → d = 12 → q 0 (nh, wd, nI d, nI k, nI l, nI s, pr, 1, nI 4, ho, yn, le, op, nn, pt, ce, sk, oq, cw, ya, cl, li, lc, tx)) : wY_can_86 q (nI c) nh wd (nI d) (nI k) (nI l) (nI s) pr 0 yh ho yn le op nn pt ce sk oq cw ya cl li lc tx := by
  unfold wY_can_86
  by_cases G : fc_G c
  · exact yq_gt hc G (br_f fn_10 (pk_eq d 12 (fun y => yf_E (i G y)) (fun y => yf_111 hc hk hl (f (fun _ => by omega)) (g (fun _ => by omega)))))
  · exact yq_gf hc G (br_t rfl (yf_111 hc hk hl (f (fun y => absurd y G)) (g (fun y => absurd y G))))
theorem yf_64 (h2 : 1 ≤ d) (hd : d ≤ 12) (f : ¬ sk (d - 1) = 0 → wY_can_86 q (nI c) nh wd (nI d) (nI k) (nI l) (nI s) pr 0 yh ho yn le op nn pt ce sk oq cw ya cl li lc tx) (g : sk (d - 1) = 0 → q 0 (nh, wd, nI d, nI k, nI l, nI s, pr, 1, nI 3, ho, yn, le, op, nn, pt, ce, sk, oq, cw, ya, cl, li, lc, tx)) :
    wY_can_64 q (nI c) nh wd (nI d) (nI k) (nI l) (nI s) pr 0 yh ho yn le op nn pt ce sk oq cw ya cl li lc tx := by
  obtain ⟨e, rfl⟩ : ∃ e, d = e + 1 := ⟨d - 1, by omega⟩
  have w : vp_in (nI (e + 1) - 1) 12 := by rw [nI_pred]; exact vp_in_nI (by omega) (by omega)
  have r : (nI (e + 1) - 1).toNatClampNeg = e := by rw [nI_pred]; exact nI_clamp (by omega)
  refine ⟨w, ?_⟩
  rw [r]
  exact br_c (fun z => yf_E (g z)) f
theorem yf_F (hc : c < 34) (hn : c ≠ 25 ∧ c ≠ 26) (hd : d ≤ 12) (hs : s ≤ 300) (hk : k ≤ 8) (hl : l ≤ 6)
    (f : s < 300 → fc_need c ≤ d → (c = 9 ∨ c = 10 → ¬ sk (d - 1) = 0) → (fc_G c → d < 12) → (c = 22 → k < 8) → (c = 30 → l < 6) → q 1 (nh, wd, nI d, nI k, nI l, nI s, pr, 0, yh, ho, yn, le, op, nn, pt, ce, sk, oq, cw, ya, cl, li, lc, tx))
    (g1 : s = 300 → q 0 (nh, wd, nI d, nI k, nI l, nI s, pr, 1, nI 1, ho, yn, le, op, nn, pt, ce, sk, oq, cw, ya, cl, li, lc, tx)) (g2 : s < 300 → d < fc_need c → q 0 (nh, wd, nI d, nI k, nI l, nI s, pr, 1, nI 2, ho, yn, le, op, nn, pt, ce, sk, oq, cw, ya, cl, li, lc, tx))
    (g3 : s < 300 → fc_need c ≤ d → (c = 9 ∨ c = 10) → sk (d - 1) = 0 → q 0 (nh, wd, nI d, nI k, nI l, nI s, pr, 1, nI 3, ho, yn, le, op, nn, pt, ce, sk, oq, cw, ya, cl, li, lc, tx))
    (g4 : s < 300 → fc_need c ≤ d → (c = 9 ∨ c = 10 → ¬ sk (d - 1) = 0) → fc_G c → d = 12 → q 0 (nh, wd, nI d, nI k, nI l, nI s, pr, 1, nI 4, ho, yn, le, op, nn, pt, ce, sk, oq, cw, ya, cl, li, lc, tx))
    (g5 : s < 300 → fc_need c ≤ d → (c = 9 ∨ c = 10 → ¬ sk (d - 1) = 0) → (fc_G c → d < 12) → (c = 22 ∧ k = 8) ∨ (c = 30 ∧ l = 6) → q 0 (nh, wd, nI d, nI k, nI l, nI s, pr, 1, nI 5, ho, yn, le, op, nn, pt, ce, sk, oq, cw, ya, cl, li, lc, tx)) :
    wpY_can q (nh, wd, nI d, nI k, nI l, nI s, pr, 0, yh, ho, yn, le, op, nn, pt, ce, sk, oq, cw, ya, cl, li, lc, tx) (nI c) := by
  have hN : fc_need c ≤ 3 := by unfold fc_need; split <;> (try split) <;> (try split) <;> omega
  refine br_f (fn_ne (m := 25) hn.1) (br_f (fn_ne (m := 26) hn.2) (pk_eq s 300 (fun h1 => yf_E (g1 h1)) (fun h1' => ?_)))
  have h1 : s < 300 := by omega
  refine yq_need hc (pk_le (fc_need c) d (fun h2 => ?_) (fun h2 => yf_E (g2 h1 h2)))
  have K : ∀ z : (c = 9 ∨ c = 10 → ¬ sk (d - 1) = 0), wY_can_86 q (nI c) nh wd (nI d) (nI k) (nI l) (nI s) pr 0 yh ho yn le op nn pt ce sk oq cw ya cl li lc tx :=
    fun z => yf_86 hc hd hk hl (f h1 h2 z) (g5 h1 h2 z) (g4 h1 h2 z)
  have D : (c = 9 ∨ c = 10) → 1 ≤ d := fun z => by
    have := fc_e2 (c := c) (by unfold fc_N2; omega)
    omega
  refine pk_eq c 9 (fun z => yf_64 (D (Or.inl z)) hd (fun y => K (fun _ => y)) (fun y => g3 h1 h2 (Or.inl z) y)) (fun z => ?_)
  exact pk_eq c 10 (fun w => yf_64 (D (Or.inr w)) hd (fun y => K (fun _ => y)) (fun y => g3 h1 h2 (Or.inr w) y)) (fun w => K (fun y => absurd y (by omega)))
end FY
/-- both at once: the fault, or all that an op may count on -/
theorem fc_fault {c d s k l : Nat} (hc : c < 34) (hn : c ≠ 25 ∧ c ≠ 26) (hd : d ≤ 12) (hs : s ≤ 300) (hk : k ≤ 8) (hl : l ≤ 6) :
    (∃ r : Nat, 1 ≤ r ∧ r ≤ 5 ∧ (∀ p : Int32 → Prop, p (nI r) → wpX_findFault p (nh, wc, wd, cv, nI d, pr, nI s, nI k, nI l, ho, xn, wa, go, pa, co, ca, wl, sk, ce, tx, cw, cp, cl, li, lc) (nI c)) ∧
      (∀ q : Int32 → SY → Prop, q 0 (nh, wd, nI d, nI k, nI l, nI s, pr, 1, nI r, ho, yn, le, op, nn, pt, ce, sk, oq, cw, ya, cl, li, lc, tx) → wpY_can q (nh, wd, nI d, nI k, nI l, nI s, pr, 0, yh, ho, yn, le, op, nn, pt, ce, sk, oq, cw, ya, cl, li, lc, tx) (nI c))) ∨
    (s < 300 ∧ fc_need c ≤ d ∧ (c = 9 ∨ c = 10 → ¬ sk (d - 1) = 0) ∧ (fc_G c → d < 12) ∧ (c = 22 → k < 8) ∧ (c = 30 → l < 6) ∧
      (∀ p : Int32 → Prop, p 0 → wpX_findFault p (nh, wc, wd, cv, nI d, pr, nI s, nI k, nI l, ho, xn, wa, go, pa, co, ca, wl, sk, ce, tx, cw, cp, cl, li, lc) (nI c)) ∧
      (∀ q : Int32 → SY → Prop, q 1 (nh, wd, nI d, nI k, nI l, nI s, pr, 0, yh, ho, yn, le, op, nn, pt, ce, sk, oq, cw, ya, cl, li, lc, tx) → wpY_can q (nh, wd, nI d, nI k, nI l, nI s, pr, 0, yh, ho, yn, le, op, nn, pt, ce, sk, oq, cw, ya, cl, li, lc, tx) (nI c))) := by
  by_cases a1 : s = 300
  · exact Or.inl ⟨1, by omega, by omega, fun p h => xf_F hc hd hs hk hl (fun z => absurd z (by omega)) (fun _ => h) (fun z => absurd z (by omega)) (fun z => absurd z (by omega)) (fun z => absurd z (by omega)) (fun z => absurd z (by omega)),
      fun q h => yf_F hc hn hd hs hk hl (fun z => absurd z (by omega)) (fun _ => h) (fun z => absurd z (by omega)) (fun z => absurd z (by omega)) (fun z => absurd z (by omega)) (fun z => absurd z (by omega))⟩
  by_cases a2 : d < fc_need c
  · exact Or.inl ⟨2, by omega, by omega, fun p h => xf_F hc hd hs hk hl (fun _ z => absurd z (by omega)) (fun z => absurd z a1) (fun _ _ => h) (fun _ z => absurd z (by omega)) (fun _ z => absurd z (by omega)) (fun _ z => absurd z (by omega)),
      fun q h => yf_F hc hn hd hs hk hl (fun _ z => absurd z (by omega)) (fun z => absurd z a1) (fun _ _ => h) (fun _ z => absurd z (by omega)) (fun _ z => absurd z (by omega)) (fun _ z => absurd z (by omega))⟩
  by_cases a3 : (c = 9 ∨ c = 10) ∧ sk (d - 1) = 0
  · exact Or.inl ⟨3, by omega, by omega, fun p h => xf_F hc hd hs hk hl (fun _ _ z => absurd a3.2 (z a3.1)) (fun z => absurd z a1) (fun _ z => absurd z a2) (fun _ _ _ _ => h) (fun _ _ z => absurd a3.2 (z a3.1)) (fun _ _ z => absurd a3.2 (z a3.1)),
      fun q h => yf_F hc hn hd hs hk hl (fun _ _ z => absurd a3.2 (z a3.1)) (fun z => absurd z a1) (fun _ z => absurd z a2) (fun _ _ _ _ => h) (fun _ _ z => absurd a3.2 (z a3.1)) (fun _ _ z => absurd a3.2 (z a3.1))⟩
  by_cases a4 : fc_G c ∧ d = 12
  · exact Or.inl ⟨4, by omega, by omega, fun p h => xf_F hc hd hs hk hl (fun _ _ _ z => absurd (z a4.1) (by omega)) (fun z => absurd z a1) (fun _ z => absurd z a2) (fun _ _ z y => absurd ⟨z, y⟩ a3) (fun _ _ _ _ _ => h) (fun _ _ _ z => absurd (z a4.1) (by omega)),
      fun q h => yf_F hc hn hd hs hk hl (fun _ _ _ z => absurd (z a4.1) (by omega)) (fun z => absurd z a1) (fun _ z => absurd z a2) (fun _ _ z y => absurd ⟨z, y⟩ a3) (fun _ _ _ _ _ => h) (fun _ _ _ z => absurd (z a4.1) (by omega))⟩
  by_cases a5 : (c = 22 ∧ k = 8) ∨ (c = 30 ∧ l = 6)
  · have B : ∀ {P : Prop}, (c = 22 → k < 8) → (c = 30 → l < 6) → P := fun x y => by
      rcases a5 with z | z
      · exact absurd (x z.1) (by omega)
      · exact absurd (y z.1) (by omega)
    exact Or.inl ⟨5, by omega, by omega, fun p h => xf_F hc hd hs hk hl (fun _ _ _ _ x y => B x y) (fun z => absurd z a1) (fun _ z => absurd z a2) (fun _ _ z y => absurd ⟨z, y⟩ a3) (fun _ _ _ x y => absurd ⟨x, y⟩ a4) (fun _ _ _ _ _ => h),
      fun q h => yf_F hc hn hd hs hk hl (fun _ _ _ _ x y => B x y) (fun z => absurd z a1) (fun _ z => absurd z a2) (fun _ _ z y => absurd ⟨z, y⟩ a3) (fun _ _ _ x y => absurd ⟨x, y⟩ a4) (fun _ _ _ _ _ => h)⟩
  have q1 : fc_G c → d < 12 := fun z => by
    have : ¬ d = 12 := fun y => a4 ⟨z, y⟩
    omega
  have q2 : c = 22 → k < 8 := fun z => by
    have : ¬ k = 8 := fun y => a5 (Or.inl ⟨z, y⟩)
    omega
  have q3 : c = 30 → l < 6 := fun z => by
    have : ¬ l = 6 := fun y => a5 (Or.inr ⟨z, y⟩)
    omega
  exact Or.inr ⟨by omega, by omega, fun z y => a3 ⟨z, y⟩, q1, q2, q3,
    fun p h => xf_F hc hd hs hk hl (fun _ _ _ _ _ _ => h) (fun z => absurd z a1) (fun _ z => absurd z a2) (fun _ _ z y => absurd ⟨z, y⟩ a3) (fun _ _ _ x y => absurd ⟨x, y⟩ a4) (fun _ _ _ _ z => absurd z a5),
    fun q h => yf_F hc hn hd hs hk hl (fun _ _ _ _ _ _ => h) (fun z => absurd z a1) (fun _ z => absurd z a2) (fun _ _ z y => absurd ⟨z, y⟩ a3) (fun _ _ _ x y => absurd ⟨x, y⟩ a4) (fun _ _ _ _ z => absurd z a5)⟩
end FL
